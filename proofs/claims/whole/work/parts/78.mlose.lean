section ML
variable {N : Nat} {ads : Nat → Nat} {g : Nat → ClassId} {c0 : Nat → va_E} {s : Nat → Int32} {A : Nat → Nat → Int32} {L : Nat → Nat → Int64} {M : Mem} {tp : List Int32} {ft : Int32} {B : Nat → BS} {Km : List (List Int32 × Int32)} {r : Nat}
/-- the last in the place of the k-th -/
def cutK (Km : List (List Int32 × Int32)) (k : Nat) : List (List Int32 × Int32) := (Km.take (Km.length - 1)).set k (Km.getD (Km.length - 1) ([], 0))
theorem cutK_get {k i : Nat} {e : List Int32 × Int32} (h : (cutK Km k)[i]? = some e) : i < Km.length - 1 ∧ ((i = k ∧ Km[Km.length - 1]? = some e) ∨ (i ≠ k ∧ Km[i]? = some e)) := by
  unfold cutK at h
  have hl := (List.getElem?_eq_some_iff.mp h).1
  rw [List.length_set, List.length_take] at hl
  refine ⟨by omega, ?_⟩
  rcases set_get h with ⟨a, b⟩ | ⟨a, b⟩
  · exact Or.inl ⟨a, by rw [b]; exact getD_some (by omega)⟩
  · rw [List.getElem?_take_of_lt (by omega)] at b
    exact Or.inr ⟨a, b⟩
theorem m_lose (h : MR N ads g c0 s A L M) (hN : 208 ≤ N) (hI : MI s A L tp ft B Km r) (ht : okT tp) (hE : ∀ e ∈ Km, okE e) {P : Int32 → Mem → Prop}
    (hPs : ∀ k (hk : k < Km.length), rf false tp = -1 → (Km[k]).1 = tp → ∀ s' A' L' M', MR N ads g c0 s' A' L' M' → s' 0 = 0 → MI s' A' L' [] (rf false tp) B (cutK Km k) r → P 1 M')
    (hPn : rf false tp = -1 → (∀ e ∈ Km, e.1 ≠ tp) → ∀ s' A' L' M', MR N ads g c0 s' A' L' M' → s' 0 = 0 → MI s' A' L' [] (rf false tp) B Km r → P 0 M')
    (hT1 : ¬ rf false tp = -1 → ∀ s' A' L' M', MR N ads g c0 s' A' L' M' → s' 0 = 1 → MI s' A' L' [] (rf false tp) B Km r → P 0 M') : wp_Mod_lose g M (ads 190) P := by
  refine ⟨mr_O h hN, m_reads (wild := false) h hN hI.1 ht.1 hI.2.1 (fun s1 A1 L1 M1 h1 hp => ⟨fun z => m_raise (P := fun _ M26 => isB (0 : Int32) ∧ P 0 M26) h1 hN (hI.read hp) (fun s' A' L' M' a b d => ⟨isB_0, hT1 (of_decide_eq_false (bI_0.mp z)) s' A' L' M' a b d⟩), fun z => ?_⟩)⟩
  have hI1 := hI.read hp
  have hrf : rf false tp = -1 := of_decide_eq_true (bI_t z)
  have hok := topic_ok ht.1 hrf
  obtain ⟨p1, p2, p3, p4, p5, p6⟩ := hp
  obtain ⟨q1, q2, q3, q4⟩ := p6 hrf
  have h6 : (pT tp).length ≤ 6 := pT_len tp
  have q3' : ∀ k, k < (pT tp).length → L1 192 k = (pT tp).getD k 0 := fun k hk => by
    rw [q3 k hk]
    exact enc_id (hok _ (List.mem_of_getElem? (getD_some hk)))
  have hl20 := hI.2.2.2.2.1.2.1
  obtain ⟨M2, e2, h2⟩ := mr_w h1 hN (k := 0) 0 rfl (by omega)
  have hI2 := hI1.thr 0
  refine ⟨M2, e2, mr_O h2 hN, m_found h2 hN hI2 hE ht hrf (by rw [up_ne (by omega)]; exact q1) q3' (fun k hk hkt => ⟨fun a => absurd a (nI_m1 (by omega)), fun _ => ?_⟩) (fun hno => ⟨fun _ => ⟨isB_0, hPn hrf hno _ _ _ M2 h2 up_self hI2⟩, fun a => absurd rfl a⟩)⟩
  have hP := hPs k hk hrf hkt
  obtain ⟨n, hn⟩ : ∃ n, Km.length = n + 1 := ⟨Km.length - 1, by omega⟩
  obtain ⟨b1, b2, b3, b4, ⟨b5, b6, b7⟩, b8, b9⟩ := hI2
  have t14 : va_up s1 0 0 14 = nI (n + 1) := by rw [b5, hn]
  obtain ⟨M3, e3, h3⟩ := mr_w h2 hN (k := 14) (nI n) rfl (by omega)
  obtain ⟨M4, e4, h4⟩ := mr_wI h3 hN (p := 200) (n := 20) (j := k) (by decide) (by omega) (A1 200 n)
  obtain ⟨M5, e5, h5⟩ := mr_wI h4 hN (p := 202) (n := 20) (j := k) (by decide) (by omega) (A1 202 n)
  obtain ⟨M6, e6, h6'⟩ := mr_wI h5 hN (p := 204) (n := 20) (j := k) (by decide) (by omega) (A1 204 n)
  refine ⟨nI (n + 1), by rw [← t14]; exact mr_s h2 hN rfl, M3, by rw [nI_pred]; exact e3, _, mr_r h3 hN rfl, _, mr_r h3 hN rfl, nI n, mr_s h3 hN rfl, A1 200 n, mr_gI h3 hN (p := 200) (n := 20) (by decide) (by omega), M4, e4, _, mr_r h4 hN rfl, _, mr_r h4 hN rfl, nI n, mr_s h4 hN rfl, A1 202 n, ?_, M5, e5, _, mr_r h5 hN rfl, _, mr_r h5 hN rfl, nI n, mr_s h5 hN rfl, A1 204 n, ?_, M6, e6, ?_⟩
  · exact mr_gI h4 hN (p := 202) (n := 20) (by decide) (by omega)
  · exact mr_gI h5 hN (p := 204) (n := 20) (by decide) (by omega)
  generalize hA6 : va_up (va_up (va_up A1 200 (upd (A1 200) k (A1 200 n))) 202 (upd (va_up A1 200 (upd (A1 200) k (A1 200 n)) 202) k (A1 202 n))) 204 (upd (va_up (va_up A1 200 (upd (A1 200) k (A1 200 n))) 202 (upd (va_up A1 200 (upd (A1 200) k (A1 200 n)) 202) k (A1 202 n)) 204) k (A1 204 n)) = A6 at h6'
  have a200 : A6 200 = upd (A1 200) k (A1 200 n) := by rw [← hA6, up_ne (by omega), up_ne (by omega), up_self]
  have a202 : A6 202 = upd (A1 202) k (A1 202 n) := by rw [← hA6, up_ne (by omega), up_self, up_ne (by omega)]
  have a204 : A6 204 = upd (A1 204) k (A1 204 n) := by rw [← hA6, up_self, up_ne (by omega), up_ne (by omega)]
  have aoth : ∀ p, p ≠ 200 → p ≠ 202 → p ≠ 204 → A6 p = A1 p := fun p a b d => by rw [← hA6, up_ne d, up_ne b, up_ne a]
  clear hA6 e3 e4 e5 e6 h3 h4 h5
  generalize hs6 : va_up (va_up s1 0 0) 14 (nI n) = s6 at h6'
  have t0 : s6 0 = 0 := by rw [← hs6, up_ne (by omega), up_self]
  have t14 : s6 14 = nI n := by rw [← hs6, up_self]
  have toth : ∀ k, k ≠ 0 → k ≠ 14 → s6 k = s1 k := fun k a b => by rw [← hs6, up_ne b, up_ne a]
  clear hs6
  refine ⟨fun x4 M' => ∃ (j : Nat) (L' : Nat → Nat → Int64), x4 = nI j ∧ j ≤ 6 ∧ MR N ads g c0 s6 A6 L' M' ∧ (∀ p, p ≠ 201 → L' p = L1 p) ∧ (∀ i, i < j → L' 201 (6 * k + i) = L1 201 (6 * n + i)) ∧ ∀ i, ¬ (6 * k ≤ i ∧ i < 6 * k + j) → L' 201 i = L1 201 i, fun x _ => 6 - x.toNatClampNeg, ⟨0, L1, rfl, Nat.zero_le _, h6', fun _ _ => rfl, fun i hi => absurd hi (Nat.not_lt_zero _), fun _ _ => rfl⟩, ?_⟩
  rintro _ M7 ⟨j, L7, rfl, hj, h7, l1, l2, l3⟩
  refine ⟨fun y => ?_, fun y => ?_⟩
  · have e : j = 6 := Nat.le_antisymm hj (Nat.not_lt.mp fun a => absurd y (nI_ge (b := 6) a (by omega)))
    subst e
    refine ⟨fun x4 M' => ∃ (j : Nat) (A' : Nat → Nat → Int32), x4 = nI j ∧ j ≤ 41 ∧ MR N ads g c0 s6 A' L7 M' ∧ (∀ p, p ≠ 203 → A' p = A6 p) ∧ (∀ i, i < j → A' 203 (41 * k + i) = A1 203 (41 * n + i)) ∧ ∀ i, ¬ (41 * k ≤ i ∧ i < 41 * k + j) → A' 203 i = A1 203 i, fun x _ => 41 - x.toNatClampNeg, ⟨0, A6, rfl, Nat.zero_le _, h7, fun _ _ => rfl, fun i hi => absurd hi (Nat.not_lt_zero _), fun i _ => by rw [aoth 203 (by omega) (by omega) (by omega)]⟩, ?_⟩
    rintro _ M8 ⟨j, A8, rfl, hj8, h8, m1, m2, m3⟩
    refine ⟨fun a => ⟨isB_1, ?_⟩, fun a => ?_⟩
    · have e : j = 41 := Nat.le_antisymm hj8 (Nat.not_lt.mp fun b => absurd a (nI_ge (b := 41) b (by omega)))
      subst e
      have m4 : ∀ p, p ≠ 200 → p ≠ 202 → p ≠ 203 → p ≠ 204 → A8 p = A1 p := fun p a b d e => by rw [m1 p d, aoth p a b e]
      refine hP _ A8 L7 M8 h8 t0 ⟨by rw [toth 2 (by omega) (by omega)]; exact p2, fun i hi => absurd hi (Nat.not_lt_zero _), by rw [toth 3 (by omega) (by omega)]; exact p3, fun i hi => (b4 i hi).same (fun p hp => m4 p (by omega) (by omega) (by omega) (by omega)) (l1 196 (by omega)), ⟨?_, ?_, fun i e hi => ?_⟩, by rw [toth 21 (by omega) (by omega)]; exact b8, by rw [m4 205 (by omega) (by omega) (by omega) (by omega)]; exact b9⟩
      · unfold cutK
        rw [List.length_set, List.length_take, t14, show min (Km.length - 1) Km.length = n by omega]
      · unfold cutK
        rw [List.length_set, List.length_take]; omega
      · obtain ⟨hil, hc⟩ := cutK_get hi
        rcases hc with ⟨w1, w2⟩ | ⟨w1, w2⟩
        · subst w1
          rw [show Km.length - 1 = n by omega] at w2
          obtain ⟨d1, d2, d3, d4, d5, d6⟩ := b7 n e w2
          have := pT_len e.1
          exact ⟨by rw [m1 200 (by omega), a200, pk_us]; exact d1, by rw [m1 202 (by omega), a202, pk_us]; exact d2, fun q hq => by rw [l2 q (by omega)]; exact d3 q hq, by rw [m1 204 (by omega), a204, pk_us]; exact d4, d5, fun q hq => by rw [m2 q (by omega)]; exact d6 q hq⟩
        · obtain ⟨d1, d2, d3, d4, d5, d6⟩ := b7 i e w2
          have := pT_len e.1
          exact ⟨by rw [m1 200 (by omega), a200, pk_un w1]; exact d1, by rw [m1 202 (by omega), a202, pk_un w1]; exact d2, fun q hq => by rw [l3 _ (by omega)]; exact d3 q hq, by rw [m1 204 (by omega), a204, pk_un w1]; exact d4, d5, fun q hq => by rw [m3 _ (by omega)]; exact d6 q hq⟩
    · have hjl : j < 41 := Nat.not_le.mp fun b => a (nI_le (a := 41) b (by omega))
      obtain ⟨M9, e9, h9⟩ := mr_wI h8 hN (p := 203) (n := 820) (j := 41 * k + j) (by decide) (by omega) (A8 203 (41 * n + j))
      refine ⟨_, mr_r h8 hN rfl, _, mr_r h8 hN rfl, nI n, by rw [← t14]; exact mr_s h8 hN rfl, _, by rw [ix41]; exact mr_gI h8 hN (p := 203) (n := 820) (by decide) (by omega), M9, by rw [ix41]; exact e9, ⟨j + 1, _, nI_1 j, hjl, h9, fun p hp => by rw [up_ne hp]; exact m1 p hp, fun i hi => ?_, fun i hi => ?_⟩, mu_dec hjl (by omega)⟩
      · rw [up_self]
        by_cases hij : i = j
        · subst hij; rw [pk_us]; exact m3 _ (by omega)
        · rw [pk_un (by omega)]; exact m2 i (by omega)
      · rw [up_self, pk_un (by omega)]; exact m3 i (by omega)
  · have hjl : j < 6 := Nat.not_le.mp fun a => y (nI_le (a := 6) a (by omega))
    obtain ⟨M8, e8, h8⟩ := mr_wL h7 hN (p := 201) (n := 120) (j := 6 * k + j) (by decide) (by omega) (L7 201 (6 * n + j))
    refine ⟨_, mr_r h7 hN rfl, _, mr_r h7 hN rfl, nI n, by rw [← t14]; exact mr_s h7 hN rfl, _, by rw [ix6]; exact mr_gL h7 hN (p := 201) (n := 120) (by decide) (by omega), M8, by rw [ix6]; exact e8, ⟨j + 1, _, nI_1 j, hjl, h8, fun p hp => by rw [up_ne hp]; exact l1 p hp, fun i hi => ?_, fun i hi => ?_⟩, mu_dec hjl (by omega)⟩
    · rw [up_self]
      by_cases hij : i = j
      · subst hij; rw [pk_uLs]; exact l3 _ (by omega)
      · rw [pk_uLn (by omega)]; exact l2 i (by omega)
    · rw [up_self, pk_uLn (by omega)]; exact l3 i (by omega)
theorem m_isAhead (h : MR N ads g c0 s A L M) (hN : 208 ≤ N) (hI : MI s A L tp ft B Km r) {k j : Nat} (hk : k < Km.length) (hj : j < Km.length) {P : Int32 → Prop} (hP : P (bI (ltL (Km[k]).1 (Km[j]).1))) : wp_Mod_isAhead g M (ads 190) (nI k) (nI j) P := by
  obtain ⟨-, -, -, -, ⟨b5, b6, b7⟩, -, -⟩ := hI
  obtain ⟨-, -, -, k4, k5, k6⟩ := b7 k _ (List.getElem?_eq_getElem hk)
  obtain ⟨-, -, -, j4, j5, j6⟩ := b7 j _ (List.getElem?_eq_getElem hj)
  generalize (Km[k]).1 = a at *
  generalize (Km[j]).1 = b at *
  have r18 : ∀ x, x < a.length → aI M (g 2) (ads 203) ((41 : Int32) * nI k + nI x) = some (a.getD x 0) := fun x hx => by rw [ix41, ← k6 x hx]; exact mr_gI h hN (p := 203) (n := 820) (by decide) (by omega)
  have r18' : ∀ x, x < b.length → aI M (g 2) (ads 203) ((41 : Int32) * nI j + nI x) = some (b.getD x 0) := fun x hx => by rw [ix41, ← j6 x hx]; exact mr_gI h hN (p := 203) (n := 820) (by decide) (by omega)
  have r19 : aI M (g 2) (ads 204) (nI k) = some (nI a.length) := by rw [← k4]; exact mr_gI h hN (p := 204) (n := 20) (by decide) (by omega)
  have r19' : aI M (g 2) (ads 204) (nI j) = some (nI b.length) := by rw [← j4]; exact mr_gI h hN (p := 204) (n := 20) (by decide) (by omega)
  have dA : ∀ {l : List Int32} {x : Nat}, x < l.length → l.drop x = l.getD x 0 :: l.drop (x + 1) := fun {l x} hx => by
    rw [List.drop_eq_getElem_cons hx, List.getD_eq_getElem?_getD, List.getElem?_eq_getElem hx]; rfl
  have lens : (∀ x, ltL (a.drop x) (b.drop x) = ltL a b → (x = a.length ∧ x ≤ b.length ∨ x = b.length ∧ x ≤ a.length) → wp_Mod_isAhead_b73 g P M (ads 190) (nI k) (nI j)) := fun x hx hc => by
    refine ⟨_, mr_r h hN rfl, _, r19, _, mr_r h hN rfl, _, r19', fun z => ⟨isB_0, ?_⟩, fun z => ⟨isB_1, ?_⟩⟩
    · have hle : b.length ≤ a.length := (nI_leI (by omega) (by omega)).mp z
      have : ltL a b = false := by
        rw [← hx, List.drop_of_length_le (by omega : b.length ≤ x)]
        cases a.drop x <;> rfl
      rw [this] at hP; exact hP
    · have hlt : a.length < b.length := Nat.not_le.mp fun w => z (nI_le w (by omega))
      have : ltL a b = true := by
        rw [← hx, List.drop_of_length_le (by omega : a.length ≤ x), dA (by omega : x < b.length)]; rfl
      rw [this] at hP; exact hP
  have fin : ∀ x, x ≤ a.length → x ≤ b.length → ltL (a.drop x) (b.drop x) = ltL a b → (x = a.length ∨ x = b.length ∨ a.getD x 0 ≠ b.getD x 0) → wp_Mod_isAhead_b53 g P M (ads 190) (nI k) (nI j) (nI x) := fun x hxa hxb hx hc => by
    refine ⟨_, mr_r h hN rfl, _, r19, fun z => lens x hx (Or.inl ⟨(nI_eq (by omega) (by omega)).mp z, hxb⟩), fun z => ⟨_, mr_r h hN rfl, _, r19', fun z2 => lens x hx (Or.inr ⟨(nI_eq (by omega) (by omega)).mp z2, hxa⟩), fun z2 => ?_⟩⟩
    have h1 : x ≠ a.length := fun e => z (by rw [e])
    have h2 : x ≠ b.length := fun e => z2 (by rw [e])
    have hne := (hc.resolve_left h1).resolve_left h2
    rw [dA (by omega : x < a.length), dA (by omega : x < b.length), ltL, if_neg hne] at hx
    refine ⟨_, mr_r h hN rfl, _, r18 x (by omega), _, mr_r h hN rfl, _, r18' x (by omega), fun y => ⟨isB_0, ?_⟩, fun y => ⟨isB_1, ?_⟩⟩
    · rw [← hx, decide_eq_false (Int32.not_lt.mpr y)] at hP; exact hP
    · rw [← hx, decide_eq_true (Int32.not_le.mp y)] at hP; exact hP
  refine ⟨fun x => ∃ i, x = nI i ∧ i ≤ a.length ∧ i ≤ b.length ∧ ltL (a.drop i) (b.drop i) = ltL a b, fun x => a.length - x.toNatClampNeg, ⟨0, rfl, Nat.zero_le _, Nat.zero_le _, rfl⟩, ?_⟩
  rintro _ ⟨i, rfl, hia, hib, hi⟩
  refine ⟨_, mr_r h hN rfl, _, r19, fun z => fin i hia hib hi (Or.inl (Nat.le_antisymm hia ((nI_leI (by omega) (by omega)).mp z))), fun z => ⟨_, mr_r h hN rfl, _, r19', fun z2 => fin i hia hib hi (Or.inr (Or.inl (Nat.le_antisymm hib ((nI_leI (by omega) (by omega)).mp z2)))), fun z2 => ?_⟩⟩
  have h1 : i < a.length := Nat.not_le.mp fun w => z (nI_le w (by omega))
  have h2 : i < b.length := Nat.not_le.mp fun w => z2 (nI_le w (by omega))
  refine ⟨_, mr_r h hN rfl, _, r18 i h1, _, mr_r h hN rfl, _, r18' i h2, fun y => ⟨⟨i + 1, nI_1 i, h1, h2, ?_⟩, mu_dec h1 (by omega)⟩, fun y => fin i hia hib hi (Or.inr (Or.inr y))⟩
  rw [dA h1, dA h2, ltL, if_pos y] at hi
  exact hi
def ahd (Km : List (List Int32 × Int32)) (ps : List Int64) (e : List Int32 × Int32) : Nat := (Km.filter (fun x => fitK ps x && ltL x.1 e.1)).length
theorem m_kept (h : MR N ads g c0 s A L M) (hN : 208 ≤ N) (hI : MI s A L tp ft B Km r) (hW : ∀ e ∈ Km, ∀ w ∈ pT e.1, okW w) {x y : Int32} {P : Int32 → Mem → Prop}
    (hP1 : ∀ k e, k < 24 → x = nI k → (B k).1 ≠ -1 → e ∈ Km → fitK (pP (B k).2.2) e = true → y = nI (ahd Km (pP (B k).2.2) e) → ∀ s' A' L' M', MR N ads g c0 s' A' L' M' → s' 0 = 0 → MI s' A' L' tp ft B Km r → P e.2 M')
    (hP0 : ((∀ k, k < 24 → x = nI k → (B k).1 = -1) ∨ ∃ k, k < 24 ∧ x = nI k ∧ (B k).1 ≠ -1 ∧ ∀ e ∈ Km, fitK (pP (B k).2.2) e = true → y ≠ nI (ahd Km (pP (B k).2.2) e)) → ∀ s' A' L' M', MR N ads g c0 s' A' L' M' → s' 0 = 1 → MI s' A' L' tp ft B Km r → P 0 M') : wp_Mod_kept g M (ads 190) x y P := by
  obtain ⟨M1, e1, h1⟩ := mr_w h hN (k := 0) 1 rfl (by omega)
  have hI1 := hI.thr 1
  obtain ⟨b5, b6, b7⟩ := hI1.2.2.2.2.1
  refine ⟨M1, e1, fun x3 => ∃ t, x3 = nI t ∧ t ≤ Km.length ∧ ∀ k, k < 24 → x = nI k → (B k).1 ≠ -1 → ∀ i (hi : i < Km.length), i < t → fitK (pP (B k).2.2) Km[i] = true → y ≠ nI (ahd Km (pP (B k).2.2) Km[i]), fun x => Km.length - x.toNatClampNeg, ⟨0, rfl, Nat.zero_le _, fun k _ _ _ i _ hi => absurd hi (Nat.not_lt_zero _)⟩, ?_⟩
  rintro _ ⟨t, rfl, ht, hall⟩
  refine ⟨nI Km.length, by rw [← b5]; exact mr_s h1 hN rfl, fun z => ?_, fun z => ⟨mr_O h1 hN, ?_⟩⟩
  · have e : t = Km.length := Nat.le_antisymm ht (Nat.not_lt.mp fun a => absurd z (nI_ge a (by omega)))
    refine hP0 ?_ _ _ _ M1 h1 up_self hI1
    by_cases hc : ∃ k, k < 24 ∧ x = nI k ∧ (B k).1 ≠ -1
    · obtain ⟨k, a1, a2, a3⟩ := hc
      refine Or.inr ⟨k, a1, a2, a3, fun e he hf => ?_⟩
      obtain ⟨i, hi⟩ := List.getElem?_of_mem he
      obtain ⟨hil, hie⟩ := List.getElem?_eq_some_iff.mp hi
      rw [← hie] at hf ⊢
      exact hall k a1 a2 a3 i hil (by omega) hf
    · exact Or.inl (fun k a1 a2 => Decidable.not_not.mp fun a3 => hc ⟨k, a1, a2, a3⟩)
  have hlt : t < Km.length := Nat.not_le.mp fun a => z (nI_le a (by omega))
  refine m_isBound h1 hN hI1.q (fun k hk e hb => ⟨fun w => absurd w (by decide), fun _ => ⟨mr_O h1 hN, ?_⟩⟩) (fun hn => ⟨fun _ => hP0 (Or.inl hn) _ _ _ M1 h1 up_self hI1, fun w => absurd rfl w⟩)
  subst e
  have next : (fitK (pP (B k).2.2) Km[t] = true → y ≠ nI (ahd Km (pP (B k).2.2) Km[t])) → (∃ t', nI t + 1 = nI t' ∧ t' ≤ Km.length ∧ ∀ k', k' < 24 → nI k = nI k' → (B k').1 ≠ -1 → ∀ i (hi : i < Km.length), i < t' → fitK (pP (B k').2.2) Km[i] = true → y ≠ nI (ahd Km (pP (B k').2.2) Km[i])) ∧ Km.length - (nI t + 1).toNatClampNeg < Km.length - (nI t).toNatClampNeg := fun hn =>
    ⟨⟨t + 1, nI_1 t, hlt, fun k' hk' e hb' i hi hit => by
      have : k = k' := (nI_eq (by omega) (by omega)).mp e
      subst this
      by_cases hit2 : i = t
      · subst hit2; exact hn
      · exact hall k hk rfl hb i hi (by omega)⟩, mu_dec hlt (by omega)⟩
  refine m_fitsKept h1 hN hI1 hW hk hlt ⟨fun w => next (fun a => ?_), fun w => ?_⟩
  · rw [bI_0.mp w] at a; cases a
  have hfit := bI_t w
  refine ⟨fun x4 x5 => ∃ j, x5 = nI j ∧ j ≤ Km.length ∧ x4 = nI ((Km.take j).filter (fun x => fitK (pP (B k).2.2) x && ltL x.1 (Km[t]).1)).length, fun _ x => Km.length - x.toNatClampNeg, ⟨0, rfl, Nat.zero_le _, rfl⟩, ?_⟩
  rintro _ _ ⟨j, rfl, hj, rfl⟩
  refine ⟨nI Km.length, by rw [← b5]; exact mr_s h1 hN rfl, fun a => ?_, fun a => ?_⟩
  · have e : j = Km.length := Nat.le_antisymm hj (Nat.not_lt.mp fun v => absurd a (nI_ge v (by omega)))
    subst e
    rw [List.take_length]
    refine ⟨fun v => ?_, fun v => next (fun _ u => v u.symm)⟩
    obtain ⟨M2, e2, h2⟩ := mr_w h1 hN (k := 0) 0 rfl (by omega)
    refine ⟨M2, e2, _, mr_r h2 hN rfl, _, mr_gI h2 hN (p := 200) (n := 20) (by decide) (by omega), ?_⟩
    rw [(b7 t _ (List.getElem?_eq_getElem hlt)).1]
    exact hP1 k _ hk rfl hb (List.getElem_mem hlt) hfit v.symm _ _ _ M2 h2 up_self (hI1.thr 0)
  · have hjl : j < Km.length := Nat.not_le.mp fun v => a (nI_le v (by omega))
    have no : (fitK (pP (B k).2.2) Km[j] && ltL (Km[j]).1 (Km[t]).1) = false → (∃ j', nI j + 1 = nI j' ∧ j' ≤ Km.length ∧ nI ((Km.take j).filter (fun x => fitK (pP (B k).2.2) x && ltL x.1 (Km[t]).1)).length = nI ((Km.take j').filter (fun x => fitK (pP (B k).2.2) x && ltL x.1 (Km[t]).1)).length) ∧ Km.length - (nI j + 1).toNatClampNeg < Km.length - (nI j).toNatClampNeg := fun hf =>
      ⟨⟨j + 1, nI_1 j, hjl, by rw [filt_s hjl, hf]; simp⟩, mu_dec hjl (by omega)⟩
    refine ⟨fun v => no ?_, fun v => ⟨mr_O h1 hN, m_fitsKept h1 hN hI1 hW hk hjl ⟨fun u => no ?_, fun u => ⟨mr_O h1 hN, m_isAhead h1 hN hI1 hjl hlt ⟨fun q => no ?_, fun q => ⟨⟨j + 1, nI_1 j, hjl, ?_⟩, mu_dec hjl (by omega)⟩⟩⟩⟩⟩⟩
    · have : j = t := (nI_eq (by omega) (by omega)).mp v
      subst this
      rw [ltL_irrefl, Bool.and_false]
    · rw [bI_0.mp u]; rfl
    · rw [bI_0.mp q, Bool.and_false]
    · rw [filt_s hjl, bI_t u, bI_t q]
      simp [nI_1]
end ML
