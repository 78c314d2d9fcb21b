section MK
variable {N : Nat} {ads : Nat → Nat} {g : Nat → ClassId} {c0 : Nat → va_E} {s : Nat → Int32} {A : Nat → Nat → Int32} {L : Nat → Nat → Int64} {M : Mem} {tp : List Int32} {ft : Int32} {B : Nat → BS} {Km : List (List Int32 × Int32)} {r : Nat}
def okE (e : List Int32 × Int32) : Prop := okT e.1 ∧ rf false e.1 = -1
theorem getD_ext {a b : List Int64} (hl : a.length = b.length) (h : ∀ k, k < b.length → a.getD k 0 = b.getD k 0) : a = b := by
  apply List.ext_getElem? 
  intro i
  by_cases hi : i < b.length
  · rw [getD_some (d := (0 : Int64)) hi, getD_some (d := (0 : Int64)) (by omega : i < a.length), h i hi]
  · rw [List.getElem?_eq_none (by omega), List.getElem?_eq_none (by omega)]
theorem m_found {tp' : List Int32} (h : MR N ads g c0 s A L M) (hN : 208 ≤ N) (hI : MI s A L tp' ft B Km r) (hE : ∀ e ∈ Km, okE e) (ht : okT tp) (hrf : rf false tp = -1) (h5 : s 5 = nI (pT tp).length) (hL : ∀ k, k < (pT tp).length → L 192 k = (pT tp).getD k 0) {P : Int32 → Prop} (hP1 : ∀ k (hk : k < Km.length), (Km[k]).1 = tp → P (nI k)) (hP0 : (∀ e ∈ Km, e.1 ≠ tp) → P (-1)) : wp_Mod_found g M (ads 190) P := by
  obtain ⟨-, -, -, -, ⟨b5, b6, b7⟩, -, -⟩ := hI
  have h6 := pT_len tp
  refine ⟨fun x => ∃ k, x = nI k ∧ k ≤ Km.length ∧ ∀ i (hi : i < Km.length), i < k → (Km[i]).1 ≠ tp, fun x => Km.length - x.toNatClampNeg, ⟨0, rfl, Nat.zero_le _, fun i _ hi => absurd hi (Nat.not_lt_zero _)⟩, ?_⟩
  rintro _ ⟨k, rfl, hk, hall⟩
  refine ⟨nI Km.length, by rw [← b5]; exact mr_s h hN rfl, fun z => hP0 (fun e he => ?_), fun z => ?_⟩
  · have e1 : k = Km.length := Nat.le_antisymm hk (Nat.not_lt.mp fun a => absurd z (nI_ge a (by omega)))
    obtain ⟨i, hi⟩ := List.getElem?_of_mem he
    obtain ⟨hil, hie⟩ := List.getElem?_eq_some_iff.mp hi
    rw [← hie]
    exact hall i hil (by omega)
  · have hlt : k < Km.length := Nat.not_le.mp fun a => z (nI_le a (by omega))
    obtain ⟨d1, d2, d3, d4, d5, d6⟩ := b7 k _ (List.getElem?_eq_getElem hlt)
    have hek := hE _ (List.getElem_mem hlt)
    have h6k := pT_len (Km[k]).1
    have inner : ∀ b0 : Bool, (b0 = true ↔ (pT (Km[k]).1).length = (pT tp).length) → wp_Mod_found_b28 g P (fun y1 => (∃ k', y1 = nI k' ∧ k' ≤ Km.length ∧ ∀ i (hi : i < Km.length), i < k' → (Km[i]).1 ≠ tp) ∧ Km.length - y1.toNatClampNeg < Km.length - (nI k).toNatClampNeg) M (ads 190) (nI k) (bI b0) := by
      intro b0 hb0
      have exit : ∀ b : Bool, (b = true ↔ pT (Km[k]).1 = pT tp) → wp_Mod_found_b76 g P (fun y1 => (∃ k', y1 = nI k' ∧ k' ≤ Km.length ∧ ∀ i (hi : i < Km.length), i < k' → (Km[i]).1 ≠ tp) ∧ Km.length - y1.toNatClampNeg < Km.length - (nI k).toNatClampNeg) M (ads 190) (nI k) (bI b) := by
        intro b hb
        refine ⟨fun a => ⟨⟨k + 1, nI_1 k, hlt, fun i hi hik => ?_⟩, mu_dec hlt (by omega)⟩, fun a => hP1 k hlt ?_⟩
        · by_cases hik2 : i = k
          · subst hik2
            intro e
            rw [bI_0] at a
            rw [a] at hb
            exact absurd (hb.mpr (by rw [e])) (by decide)
          · exact hall i hi (by omega)
        · exact topic_inj hek.1.1 hek.2 ht.1 hrf (hb.mp (bI_t a))
      refine ⟨fun x2 x3 => ∃ (i : Nat) (b : Bool), x3 = nI i ∧ i ≤ (pT tp).length ∧ x2 = bI b ∧ (b = true → (pT (Km[k]).1).length = (pT tp).length ∧ ∀ i', i' < i → (pT (Km[k]).1).getD i' 0 = (pT tp).getD i' 0) ∧ (b = false → pT (Km[k]).1 ≠ pT tp), fun _ x => (pT tp).length - x.toNatClampNeg, ⟨0, b0, rfl, Nat.zero_le _, rfl, fun a => ⟨hb0.mp a, fun i' hi' => absurd hi' (Nat.not_lt_zero _)⟩, fun a e => ?_⟩, ?_⟩
      · rw [a] at hb0
        exact absurd (hb0.mpr (by rw [e])) (by decide)
      rintro _ _ ⟨i, b, rfl, hi, rfl, hbt, hbf⟩
      refine ⟨nI (pT tp).length, by rw [← h5]; exact mr_s h hN rfl, fun a => exit b ?_, fun a => ⟨fun a2 => exit b ?_, fun a2 => ?_⟩⟩
      · have e : i = (pT tp).length := Nat.le_antisymm hi (Nat.not_lt.mp fun w => absurd a (nI_ge w (by omega)))
        subst e
        refine ⟨fun w => getD_ext (hbt w).1 (hbt w).2, fun w => ?_⟩
        cases hbb : b
        · exact absurd w (hbf hbb)
        · rfl
      · have := bI_0.mp a2
        refine ⟨fun w => ?_, fun w => absurd w (hbf this)⟩
        rw [this] at w; cases w
      · have hil : i < (pT tp).length := Nat.not_le.mp fun w => a (nI_le w (by omega))
        have hb := hbt (bI_t a2)
        refine ⟨_, mr_r h hN rfl, _, by rw [ix6]; exact mr_gL h hN (p := 201) (n := 120) (by decide) (by omega), _, mr_r h hN rfl, _, mr_gL h hN (p := 192) (n := 6) (by decide) (by omega), ?_⟩
        rw [d3 i (by omega), hL i hil]
        refine ⟨fun w => ⟨⟨i + 1, true, nI_1 i, hil, rfl, fun _ => ⟨hb.1, fun i' hi' => ?_⟩, fun q => by cases q⟩, mu_dec hil (by omega)⟩, fun w => ⟨⟨i + 1, false, nI_1 i, hil, rfl, fun q => (by cases q), fun _ e => w ?_⟩, mu_dec hil (by omega)⟩⟩
        · by_cases hii : i' = i
          · subst hii; exact (cmp0 _ _).mp w
          · exact hb.2 i' (by omega)
        · rw [e]; exact (cmp0 _ _).mpr rfl
    refine ⟨_, mr_r h hN rfl, _, mr_gI h hN (p := 202) (n := 20) (by decide) (by omega), nI (pT tp).length, by rw [← h5]; exact mr_s h hN rfl, ?_⟩
    rw [d2]
    refine ⟨fun a => inner true ⟨fun _ => (nI_eq (by omega) (by omega)).mp a, fun _ => rfl⟩, fun a => inner false ⟨fun w => (by cases w), fun w => absurd (by rw [w]) a⟩⟩
theorem m_keep (h : MR N ads g c0 s A L M) (hN : 208 ≤ N) (hI : MI s A L tp ft B Km r) (ht : okT tp) (hE : ∀ e ∈ Km, okE e) {v : Int32} {P : Int32 → Mem → Prop}
    (hPs : ∀ k (hk : k < Km.length), rf false tp = -1 → (Km[k]).1 = tp → ∀ s' A' L' M', MR N ads g c0 s' A' L' M' → s' 0 = 0 → MI s' A' L' [] (rf false tp) B (Km.set k (tp, v)) r → P (nI Km.length) M')
    (hPn : rf false tp = -1 → (∀ e ∈ Km, e.1 ≠ tp) → Km.length < 20 → ∀ s' A' L' M', MR N ads g c0 s' A' L' M' → s' 0 = 0 → MI s' A' L' [] (rf false tp) B (Km ++ [(tp, v)]) r → P (nI (Km.length + 1)) M')
    (hT1 : ¬ rf false tp = -1 → ∀ s' A' L' M', MR N ads g c0 s' A' L' M' → s' 0 = 1 → MI s' A' L' [] (rf false tp) B Km r → P 0 M')
    (hT2 : rf false tp = -1 → (∀ e ∈ Km, e.1 ≠ tp) → Km.length = 20 → ∀ s' A' L' M', MR N ads g c0 s' A' L' M' → s' 0 = 2 → MI s' A' L' [] (rf false tp) B Km r → P 0 M') : wp_Mod_keep g M (ads 190) v P := by
  refine ⟨mr_O h hN, m_reads (wild := false) h hN hI.1 ht.1 hI.2.1 (fun s1 A1 L1 M1 h1 hp => ⟨fun z => m_raise h1 hN (hI.read hp) (hT1 (of_decide_eq_false (bI_0.mp z))), fun z => ⟨mr_O h1 hN, ?_⟩⟩)⟩
  have hI1 := hI.read hp
  have hrf : rf false tp = -1 := of_decide_eq_true (bI_t z)
  have hok := topic_ok ht.1 hrf
  obtain ⟨p1, p2, p3, p4, p5, p6⟩ := hp
  obtain ⟨q1, q2, q3, q4⟩ := p6 hrf
  have h6 : (pT tp).length ≤ 6 := pT_len tp
  have h41 := rf_41 ht.1 hrf
  have q3' : ∀ k, k < (pT tp).length → L1 192 k = (pT tp).getD k 0 := fun k hk => by
    rw [q3 k hk]
    exact enc_id (hok _ (List.mem_of_getElem? (getD_some hk)))
  have hl20 := hI.2.2.2.2.1.2.1
  obtain ⟨M2, e2, h2⟩ := mr_w h1 hN (k := 0) 0 rfl (by omega)
  have hI2 := hI1.thr 0
  refine m_found h1 hN hI1 hE ht hrf q1 q3' (fun k hk hkt => ⟨fun a => ?_, fun _ => ⟨M2, e2, fun a => ?_, fun _ => ?_⟩⟩) (fun hno => ⟨fun _ => ⟨nI Km.length, by rw [← hI1.2.2.2.2.1.1]; exact mr_s h1 hN rfl, fun a => ?_, fun a => ⟨M2, e2, fun _ => ?_, fun a => absurd rfl a⟩⟩, fun a => absurd rfl a⟩)
  · exact absurd a (nI_m1 (by omega))
  · exact absurd a (nI_m1 (by omega))
  · obtain ⟨M3, e3, h3⟩ := mr_wI h2 hN (p := 200) (n := 20) (j := k) (by decide) (by omega) v
    obtain ⟨b1, b2, b3, b4, ⟨b5, b6, b7⟩, b8, b9⟩ := hI2
    refine ⟨_, mr_r h2 hN rfl, M3, e3, nI Km.length, by rw [← b5]; exact mr_s h3 hN rfl, hPs k hk hrf hkt _ _ _ M3 h3 up_self ⟨b1, fun i hi => absurd hi (Nat.not_lt_zero _), b3, fun i hi => (b4 i hi).same (fun p hp => up_ne (by omega)) rfl, ⟨by rw [List.length_set]; exact b5, by rw [List.length_set]; exact b6, fun i e hi => ?_⟩, b8, by rw [up_ne (by omega)]; exact b9⟩⟩
    rcases set_get hi with ⟨w1, w2⟩ | ⟨w1, w2⟩
    · subst w1
      obtain ⟨d1, d2, d3, d4, d5, d6⟩ := b7 i _ (List.getElem?_eq_getElem hk)
      rw [hkt] at d2 d3 d4 d5 d6
      rw [w2]
      exact ⟨by rw [up_self, pk_us], by rw [up_ne (by omega)]; exact d2, d3, by rw [up_ne (by omega)]; exact d4, d5, by rw [up_ne (by omega)]; exact d6⟩
    · obtain ⟨d1, d2, d3, d4, d5, d6⟩ := b7 i e w2
      exact ⟨by rw [up_self, pk_un w1]; exact d1, by rw [up_ne (by omega)]; exact d2, d3, by rw [up_ne (by omega)]; exact d4, d5, by rw [up_ne (by omega)]; exact d6⟩
  · exact m_raise h1 hN hI1 (hT2 hrf hno ((nI_eq (b := 20) (by omega) (by omega)).mp a))
  · have hlt : Km.length < 20 := by
      rcases Nat.lt_or_ge Km.length 20 with w | w
      · exact w
      · exact absurd (by rw [show Km.length = 20 by omega]; rfl) a
    have hP := hPn hrf hno hlt
    obtain ⟨b1, b2, b3, b4, ⟨b5, b6, b7⟩, b8, b9⟩ := hI2
    obtain ⟨M3, e3, h3⟩ := mr_w h2 hN (k := 14) (nI Km.length + 1) rfl (by omega)
    obtain ⟨M4, e4, h4⟩ := mr_wI h3 hN (p := 202) (n := 20) (j := Km.length) (by decide) hlt (s1 5)
    obtain ⟨M5, e5, h5⟩ := mr_wI h4 hN (p := 204) (n := 20) (j := Km.length) (by decide) hlt (s1 6)
    refine ⟨nI Km.length, by rw [← b5]; exact mr_s h2 hN rfl, nI Km.length, by rw [← b5]; exact mr_s h2 hN rfl, M3, e3, _, mr_r h3 hN rfl, s1 5, mr_s h3 hN rfl, M4, e4, _, mr_r h4 hN rfl, s1 6, mr_s h4 hN rfl, M5, e5, ?_⟩
    generalize hA5 : va_up (va_up A1 202 (upd (A1 202) Km.length (s1 5))) 204 (upd (va_up A1 202 (upd (A1 202) Km.length (s1 5)) 204) Km.length (s1 6)) = A5 at h5
    have a202 : A5 202 = upd (A1 202) Km.length (s1 5) := by rw [← hA5, up_ne (by omega), up_self]
    have a204 : A5 204 = upd (A1 204) Km.length (s1 6) := by rw [← hA5, up_self, up_ne (by omega)]
    have aoth : ∀ p, p ≠ 202 → p ≠ 204 → A5 p = A1 p := fun p a b => by rw [← hA5, up_ne b, up_ne a]
    clear hA5 e3 e4 e5 h3 h4
    generalize hs5 : va_up (va_up s1 0 0) 14 (nI Km.length + 1) = s5 at h5
    have t0 : s5 0 = 0 := by rw [← hs5, up_ne (by omega), up_self]
    have t5 : s5 5 = nI (pT tp).length := by rw [← hs5, up_ne (by omega), up_ne (by omega)]; exact q1
    have t6 : s5 6 = nI tp.length := by rw [← hs5, up_ne (by omega), up_ne (by omega)]; exact q2
    have t14 : s5 14 = nI (Km.length + 1) := by rw [← hs5, up_self, nI_1]
    have toth : ∀ k, k ≠ 0 → k ≠ 14 → s5 k = s1 k := fun k a b => by rw [← hs5, up_ne b, up_ne a]
    clear hs5
    refine ⟨fun x4 M' => ∃ (k : Nat) (L' : Nat → Nat → Int64), x4 = nI k ∧ k ≤ (pT tp).length ∧ MR N ads g c0 s5 A5 L' M' ∧ (∀ p, p ≠ 201 → L' p = L1 p) ∧ (∀ i, i < k → L' 201 (6 * Km.length + i) = (pT tp).getD i 0) ∧ ∀ i, ¬ (6 * Km.length ≤ i ∧ i < 6 * Km.length + 6) → L' 201 i = L1 201 i, fun x _ => (pT tp).length - x.toNatClampNeg, ⟨0, L1, rfl, Nat.zero_le _, h5, fun _ _ => rfl, fun i hi => absurd hi (Nat.not_lt_zero _), fun _ _ => rfl⟩, ?_⟩
    rintro _ M7 ⟨k, L7, rfl, hk, h7, l1, l2, l3⟩
    refine ⟨nI (pT tp).length, by rw [← t5]; exact mr_s h7 hN rfl, fun y => ?_, fun y => ?_⟩
    · have e : k = (pT tp).length := Nat.le_antisymm hk (Nat.not_lt.mp fun a => absurd y (nI_ge a (by omega)))
      subst e
      refine ⟨fun x4 M' => ∃ (k : Nat) (A' : Nat → Nat → Int32), x4 = nI k ∧ k ≤ tp.length ∧ MR N ads g c0 s5 A' L7 M' ∧ (∀ p, p ≠ 203 → A' p = A5 p) ∧ (∀ i, i < k → A' 203 (41 * Km.length + i) = tp.getD i 0) ∧ ∀ i, ¬ (41 * Km.length ≤ i ∧ i < 41 * Km.length + 41) → A' 203 i = A1 203 i, fun x _ => tp.length - x.toNatClampNeg, ⟨0, A5, rfl, Nat.zero_le _, h7, fun _ _ => rfl, fun i hi => absurd hi (Nat.not_lt_zero _), fun i _ => by rw [aoth 203 (by omega) (by omega)]⟩, ?_⟩
      rintro _ M8 ⟨k, A8, rfl, hk8, h8, m1, m2, m3⟩
      refine ⟨nI tp.length, by rw [← t6]; exact mr_s h8 hN rfl, fun a => ?_, fun a => ?_⟩
      · have e : k = tp.length := Nat.le_antisymm hk8 (Nat.not_lt.mp fun b => absurd a (nI_ge b (by omega)))
        subst e
        obtain ⟨M9, e9, h9⟩ := mr_wI h8 hN (p := 200) (n := 20) (j := Km.length) (by decide) hlt v
        have m4 : ∀ p, p ≠ 200 → p ≠ 202 → p ≠ 203 → p ≠ 204 → va_up A8 200 (upd (A8 200) Km.length v) p = A1 p := fun p a b d e => by rw [up_ne a, m1 p d, aoth p b e]
        refine ⟨_, mr_r h8 hN rfl, M9, e9, nI (Km.length + 1), by rw [← t14]; exact mr_s h9 hN rfl, hP _ _ _ M9 h9 t0 ⟨by rw [toth 2 (by omega) (by omega)]; exact p2, fun i hi => absurd hi (Nat.not_lt_zero _), by rw [toth 3 (by omega) (by omega)]; exact p3, fun i hi => (b4 i hi).same (fun p hp => m4 p (by omega) (by omega) (by omega) (by omega)) (l1 196 (by omega)), ⟨by rw [List.length_append, List.length_singleton]; exact t14, by rw [List.length_append, List.length_singleton]; exact hlt, fun i e hi => ?_⟩, by rw [toth 21 (by omega) (by omega)]; exact b8, by rw [m4 205 (by omega) (by omega) (by omega) (by omega)]; exact b9⟩⟩
        rcases app_get hi with w | ⟨w1, w2⟩
        · have hil := (List.getElem?_eq_some_iff.mp w).1
          obtain ⟨d1, d2, d3, d4, d5, d6⟩ := b7 i e w
          refine ⟨by rw [up_self, pk_un (by omega), m1 200 (by omega), aoth 200 (by omega) (by omega)]; exact d1, by rw [up_ne (by omega), m1 202 (by omega), a202, pk_un (by omega)]; exact d2, fun k hk => ?_, by rw [up_ne (by omega), m1 204 (by omega), a204, pk_un (by omega)]; exact d4, d5, fun k hk => ?_⟩
          · have := pT_len e.1
            rw [l3 _ (by omega)]; exact d3 k hk
          · rw [up_ne (by omega), m3 _ (by omega)]; exact d6 k hk
        · rw [w1, w2]
          exact ⟨by rw [up_self, pk_us], by rw [up_ne (by omega), m1 202 (by omega), a202, pk_us]; exact q1, l2, by rw [up_ne (by omega), m1 204 (by omega), a204, pk_us]; exact q2, h41, by rw [up_ne (by omega)]; exact m2⟩
      · have hkl : k < tp.length := Nat.not_le.mp fun b => a (nI_le b (by omega))
        obtain ⟨M9, e9, h9⟩ := mr_wI h8 hN (p := 203) (n := 820) (j := 41 * Km.length + k) (by decide) (by omega) (A8 193 k)
        refine ⟨_, mr_r h8 hN rfl, _, mr_r h8 hN rfl, _, mr_gI h8 hN (p := 193) (n := 60) (by decide) (by omega), M9, by rw [ix41]; exact e9, ⟨k + 1, _, nI_1 k, hkl, h9, fun p hp => by rw [up_ne hp]; exact m1 p hp, fun i hi => ?_, fun i hi => ?_⟩, mu_dec hkl (by omega)⟩
        · rw [up_self]
          by_cases hik : i = k
          · subst hik; rw [pk_us, m1 193 (by omega), aoth 193 (by omega) (by omega)]; exact q4 i hkl
          · rw [pk_un (by omega)]; exact m2 i (by omega)
        · rw [up_self, pk_un (by omega)]; exact m3 i hi
    · have hkl : k < (pT tp).length := Nat.not_le.mp fun a => y (nI_le a (by omega))
      obtain ⟨M8, e8, h8⟩ := mr_wL h7 hN (p := 201) (n := 120) (j := 6 * Km.length + k) (by decide) (by omega) (L7 192 k)
      refine ⟨_, mr_r h7 hN rfl, _, mr_r h7 hN rfl, _, mr_gL h7 hN (p := 192) (n := 6) (by decide) (by omega), M8, by rw [ix6]; exact e8, ⟨k + 1, _, nI_1 k, hkl, h8, fun p hp => by rw [up_ne hp]; exact l1 p hp, fun i hi => ?_, fun i hi => ?_⟩, mu_dec hkl (by omega)⟩
      · rw [up_self]
        by_cases hik : i = k
        · subst hik; rw [pk_uLs, l1 192 (by omega)]; exact q3' i hkl
        · rw [pk_uLn (by omega)]; exact l2 i (by omega)
      · rw [up_self, pk_uLn (by omega)]; exact l3 i hi
end MK
