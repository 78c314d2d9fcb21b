section MB
variable {N : Nat} {ads : Nat → Nat} {g : Nat → ClassId} {c0 : Nat → va_E} {s : Nat → Int32} {A : Nat → Nat → Int32} {L : Nat → Nat → Int64} {M : Mem} {tp : List Int32} {ft : Int32} {B : Nat → BS} {Km : List (List Int32 × Int32)} {r : Nat}
theorem m_raise (h : MR N ads g c0 s A L M) (hN : 208 ≤ N) (hI : MI s A L tp ft B Km r) {x : Int32} {P : Int32 → Mem → Prop} (hP : ∀ s' A' L' M', MR N ads g c0 s' A' L' M' → s' 0 = x → MI s' A' L' tp ft B Km r → P 0 M') : isO M 6 (ads 190) ∧ wp_Mod_raise g M (ads 190) x P := by
  obtain ⟨M1, e1, h1⟩ := mr_w h hN (k := 0) x rfl (by omega)
  exact ⟨mr_O h hN, M1, e1, hP _ _ _ M1 h1 up_self (hI.thr x)⟩
theorem m_bind (h : MR N ads g c0 s A L M) (hN : 208 ≤ N) (hI : MI s A L tp ft B Km r) (ht : tp.length ≤ 60) {x : Int32} {P : Int32 → Mem → Prop}
    (hP1 : ∀ i, rf true tp = -1 → isQ x → lfP B i → ∀ s' A' L' M', MR N ads g c0 s' A' L' M' → s' 0 = 0 → MI s' A' L' [] (rf true tp) (va_up B i (x, 0, tp)) Km r → P (nI i) M')
    (hT1 : (¬ rf true tp = -1 ∨ ¬ isQ x) → ∀ s' A' L' M', MR N ads g c0 s' A' L' M' → s' 0 = 1 → MI s' A' L' [] (rf true tp) B Km r → P 0 M')
    (hT2 : rf true tp = -1 → isQ x → (∀ i, i < 24 → (B i).1 ≠ -1) → ∀ s' A' L' M', MR N ads g c0 s' A' L' M' → s' 0 = 2 → MI s' A' L' [] (rf true tp) B Km r → P 0 M') : wp_Mod_bind g M (ads 190) x P := by
  refine ⟨mr_O h hN, m_reads (wild := true) h hN hI.1 ht hI.2.1 (fun s1 A1 L1 M1 h1 hp => ?_)⟩
  have hI1 := hI.read hp
  have t1 : (¬ rf true tp = -1 ∨ ¬ isQ x) → wp_Mod_bind_b20 g P M1 (ads 190) := fun hc => m_raise h1 hN hI1 (hT1 hc)
  refine ⟨fun z => t1 (Or.inl (of_decide_eq_false (bI_0.mp z))), fun z => ⟨fun z2 => t1 (Or.inr ?_), fun z2 => ⟨fun z3 => ?_, fun z3 => t1 (Or.inr ?_)⟩⟩⟩
  · rintro ⟨k, hk, rfl⟩; exact nI_pos (by omega) z2
  rotate_left
  · rintro ⟨k, hk, rfl⟩; exact z3 (nI_lt (b := 16) hk (by omega))
  have hrf : rf true tp = -1 := of_decide_eq_true (bI_t z)
  have hq : isQ x := by
    obtain ⟨k, hk, rfl⟩ := nI_of z2
    exact ⟨k, (nI_ltI (b := 16) (by omega) (by omega)).mp z3, rfl⟩
  obtain ⟨p1, p2, p3, p4, p5, p6⟩ := hp
  obtain ⟨q1, q2, q3, q4⟩ := p6 hrf
  have h41 := rf_41 ht hrf
  have h6 : (rp true tp).length ≤ 6 := pP_len tp
  refine ⟨fun x3 => ∃ j, x3 = nI j ∧ j ≤ 24 ∧ ∀ k, k < j → (B k).1 ≠ -1, fun x => 24 - x.toNatClampNeg, ⟨0, rfl, Nat.zero_le _, fun k hk => absurd hk (Nat.not_lt_zero _)⟩, ?_⟩
  rintro _ ⟨j, rfl, hj, hall⟩
  refine ⟨fun w => ?_, fun w => ?_⟩
  · have e : j = 24 := Nat.le_antisymm hj (Nat.not_lt.mp fun y => absurd w (nI_ge (b := 24) y (by omega)))
    subst e
    exact ⟨fun _ => m_raise h1 hN hI1 (hT2 hrf hq hall), fun y => absurd rfl y⟩
  · have hlt : j < 24 := Nat.not_le.mp fun y => w (nI_le (a := 24) y (by omega))
    refine ⟨_, mr_r h1 hN rfl, _, mr_gI h1 hN (p := 194) (n := 24) (by decide) hlt, ?_⟩
    rw [hI1.q j hlt]
    refine ⟨fun w2 => ?_, fun w2 => ⟨⟨j + 1, nI_1 j, hlt, fun k hk => ?_⟩, mu_dec hlt (by omega)⟩⟩
    rotate_left
    · by_cases hkj : k = j
      · subst hkj; exact w2
      · exact hall k (by omega)
    refine ⟨fun y => ?_, fun _ => ?_⟩
    · have := (nI_eq (b := 24) (by omega) (by omega)).mp y; omega
    have hP := hP1 j hrf hq ⟨hlt, w2, hall⟩
    obtain ⟨M2, e2, h2⟩ := mr_w h1 hN (k := 0) 0 rfl (by omega)
    obtain ⟨M3, e3, h3⟩ := mr_wI h2 hN (p := 194) (n := 24) (j := j) (by decide) hlt x
    obtain ⟨M4, e4, h4⟩ := mr_wI h3 hN (p := 195) (n := 24) (j := j) (by decide) hlt 0
    obtain ⟨M5, e5, h5⟩ := mr_wI h4 hN (p := 197) (n := 24) (j := j) (by decide) hlt (s1 5)
    obtain ⟨M6, e6, h6'⟩ := mr_wI h5 hN (p := 199) (n := 24) (j := j) (by decide) hlt (s1 6)
    refine ⟨M2, e2, _, mr_r h2 hN rfl, M3, e3, _, mr_r h3 hN rfl, M4, e4, _, mr_r h4 hN rfl, s1 5, mr_s h4 hN rfl, M5, e5, _, mr_r h5 hN rfl, s1 6, mr_s h5 hN rfl, M6, e6, ?_⟩
    generalize hA6 : va_up (va_up (va_up (va_up A1 194 (upd (A1 194) j x)) 195 (upd (va_up A1 194 (upd (A1 194) j x) 195) j 0)) 197 (upd (va_up (va_up A1 194 (upd (A1 194) j x)) 195 (upd (va_up A1 194 (upd (A1 194) j x) 195) j 0) 197) j (s1 5))) 199 (upd (va_up (va_up (va_up A1 194 (upd (A1 194) j x)) 195 (upd (va_up A1 194 (upd (A1 194) j x) 195) j 0)) 197 (upd (va_up (va_up A1 194 (upd (A1 194) j x)) 195 (upd (va_up A1 194 (upd (A1 194) j x) 195) j 0) 197) j (s1 5)) 199) j (s1 6)) = A6 at h6'
    have a194 : A6 194 = upd (A1 194) j x := by rw [← hA6, up_ne (by omega), up_ne (by omega), up_ne (by omega), up_self]
    have a195 : A6 195 = upd (A1 195) j 0 := by rw [← hA6, up_ne (by omega), up_ne (by omega), up_self, up_ne (by omega)]
    have a197 : A6 197 = upd (A1 197) j (s1 5) := by rw [← hA6, up_ne (by omega), up_self, up_ne (by omega), up_ne (by omega)]
    have a199 : A6 199 = upd (A1 199) j (s1 6) := by rw [← hA6, up_self, up_ne (by omega), up_ne (by omega), up_ne (by omega)]
    have aoth : ∀ p, p ≠ 194 → p ≠ 195 → p ≠ 197 → p ≠ 199 → A6 p = A1 p := fun p a b d f => by rw [← hA6, up_ne f, up_ne d, up_ne b, up_ne a]
    clear hA6 e2 e3 e4 e5 e6 h2 h3 h4 h5
    have s5 : va_up s1 0 0 5 = nI (rp true tp).length := by rw [up_ne (by omega)]; exact q1
    have s6 : va_up s1 0 0 6 = nI tp.length := by rw [up_ne (by omega)]; exact q2
    -- the parts
    refine ⟨fun x4 M' => ∃ (k : Nat) (L' : Nat → Nat → Int64), x4 = nI k ∧ k ≤ (rp true tp).length ∧ MR N ads g c0 (va_up s1 0 0) A6 L' M' ∧ (∀ p, p ≠ 196 → L' p = L1 p) ∧ (∀ i, i < k → L' 196 (6 * j + i) = L1 192 i) ∧ ∀ i, ¬ (6 * j ≤ i ∧ i < 6 * j + 6) → L' 196 i = L1 196 i, fun x _ => (rp true tp).length - x.toNatClampNeg, ⟨0, L1, rfl, Nat.zero_le _, h6', fun _ _ => rfl, fun i hi => absurd hi (Nat.not_lt_zero _), fun _ _ => rfl⟩, ?_⟩
    rintro _ M7 ⟨k, L7, rfl, hk, h7, l1, l2, l3⟩
    refine ⟨nI (rp true tp).length, by rw [← s5]; exact mr_s h7 hN rfl, fun y => ?_, fun y => ?_⟩
    · have e : k = (rp true tp).length := Nat.le_antisymm hk (Nat.not_lt.mp fun a => absurd y (nI_ge a (by omega)))
      subst e
      refine ⟨fun x4 M' => ∃ (k : Nat) (A' : Nat → Nat → Int32), x4 = nI k ∧ k ≤ tp.length ∧ MR N ads g c0 (va_up s1 0 0) A' L7 M' ∧ (∀ p, p ≠ 198 → A' p = A6 p) ∧ (∀ i, i < k → A' 198 (41 * j + i) = tp.getD i 0) ∧ ∀ i, ¬ (41 * j ≤ i ∧ i < 41 * j + 41) → A' 198 i = A1 198 i, fun x _ => tp.length - x.toNatClampNeg, ⟨0, A6, rfl, Nat.zero_le _, h7, fun _ _ => rfl, fun i hi => absurd hi (Nat.not_lt_zero _), fun i _ => by rw [aoth 198 (by omega) (by omega) (by omega) (by omega)]⟩, ?_⟩
      rintro _ M8 ⟨k, A8, rfl, hk8, h8, m1, m2, m3⟩
      refine ⟨nI tp.length, by rw [← s6]; exact mr_s h8 hN rfl, fun a => ?_, fun a => ?_⟩
      · have e : k = tp.length := Nat.le_antisymm hk8 (Nat.not_lt.mp fun b => absurd a (nI_ge b (by omega)))
        subst e
        refine hP _ A8 L7 M8 h8 up_self ?_
        obtain ⟨b1, b2, b3, b4, ⟨b5, b6, b7⟩, b8, b9⟩ := hI1
        have m4 : ∀ p, p ≠ 194 → p ≠ 195 → p ≠ 197 → p ≠ 198 → p ≠ 199 → A8 p = A1 p := fun p a b d e f => by rw [m1 p e, aoth p a b d f]
        refine ⟨b1, fun i hi => absurd hi (Nat.not_lt_zero _), b3, fun i hi => ?_, ⟨b5, b6, fun i e hi => (b7 i e hi).same (fun p hp => m4 p (by omega) (by omega) (by omega) (by omega) (by omega)) (l1 201 (by omega))⟩, b8, by rw [m4 205 (by omega) (by omega) (by omega) (by omega) (by omega)]; exact b9⟩
        obtain ⟨d1, d2, ⟨d3, d4, d5, d6⟩, d7, d8, d9⟩ := b4 i hi
        by_cases hij : i = j
        · subst hij
          rw [up_self]
          refine ⟨by rw [m1 194 (by omega), a194, pk_us], by rw [m1 195 (by omega), a195, pk_us], ⟨h6, pP_pos tp, by rw [m1 197 (by omega), a197, pk_us]; exact q1, fun k hk => ?_⟩, by rw [m1 199 (by omega), a199, pk_us]; exact q2, h41, m2⟩
          rw [l2 k hk]; exact q3 k hk
        · rw [up_ne hij]
          refine ⟨by rw [m1 194 (by omega), a194, pk_un hij]; exact d1, by rw [m1 195 (by omega), a195, pk_un hij]; exact d2, ⟨d3, d4, by rw [m1 197 (by omega), a197, pk_un hij]; exact d5, fun k hk => ?_⟩, by rw [m1 199 (by omega), a199, pk_un hij]; exact d7, d8, fun k hk => ?_⟩
          · rw [l3 _ (by omega)]; exact d6 k hk
          · rw [m3 _ (by omega)]; exact d9 k hk
      · have hkl : k < tp.length := Nat.not_le.mp fun b => a (nI_le b (by omega))
        obtain ⟨M9, e9, h9⟩ := mr_wI h8 hN (p := 198) (n := 984) (j := 41 * j + k) (by decide) (by omega) (A8 193 k)
        refine ⟨_, mr_r h8 hN rfl, _, mr_r h8 hN rfl, _, mr_gI h8 hN (p := 193) (n := 60) (by decide) (by omega), M9, by rw [ix41]; exact e9, ⟨k + 1, _, nI_1 k, hkl, h9, fun p hp => by rw [up_ne hp]; exact m1 p hp, fun i hi => ?_, fun i hi => ?_⟩, mu_dec hkl (by omega)⟩
        · rw [up_self]
          by_cases hik : i = k
          · subst hik; rw [pk_us, m1 193 (by omega), aoth 193 (by omega) (by omega) (by omega) (by omega)]; exact q4 i hkl
          · rw [pk_un (by omega)]; exact m2 i (by omega)
        · rw [up_self, pk_un (by omega)]; exact m3 i hi
    · have hkl : k < (rp true tp).length := Nat.not_le.mp fun a => y (nI_le a (by omega))
      obtain ⟨M8, e8, h8⟩ := mr_wL h7 hN (p := 196) (n := 144) (j := 6 * j + k) (by decide) (by omega) (L7 192 k)
      refine ⟨_, mr_r h7 hN rfl, _, mr_r h7 hN rfl, _, mr_gL h7 hN (p := 192) (n := 6) (by decide) (by omega), M8, by rw [ix6]; exact e8, ⟨k + 1, _, nI_1 k, hkl, h8, fun p hp => by rw [up_ne hp]; exact l1 p hp, fun i hi => ?_, fun i hi => ?_⟩, mu_dec hkl (by omega)⟩
      · rw [up_self]
        by_cases hik : i = k
        · subst hik; rw [pk_uLs, l1 192 (by omega)]
        · rw [pk_uLn (by omega)]; exact l2 i (by omega)
      · rw [up_self, pk_uLn (by omega)]; exact l3 i hi
theorem m_route (h : MR N ads g c0 s A L M) (hN : 208 ≤ N) (hI : MI s A L tp ft B Km r) (ht : tp.length ≤ 60) {P : Int32 → Mem → Prop}
    (hP1 : rf false tp = -1 → ∀ s' A' L' M', MR N ads g c0 s' A' L' M' → s' 0 = 0 → MI s' A' L' [] (rf false tp) (rtB B (pT tp) 24) Km r → P (rtQ B (pT tp) 24) M')
    (hT1 : ¬ rf false tp = -1 → ∀ s' A' L' M', MR N ads g c0 s' A' L' M' → s' 0 = 1 → MI s' A' L' [] (rf false tp) B Km r → P 0 M') : wp_Mod_route g M (ads 190) P := by
  refine ⟨mr_O h hN, m_reads (wild := false) h hN hI.1 ht hI.2.1 (fun s1 A1 L1 M1 h1 hp => ⟨fun z => m_raise h1 hN (hI.read hp) (hT1 (of_decide_eq_false (bI_0.mp z))), fun z => ?_⟩)⟩
  have hI1 := hI.read hp
  have hrf : rf false tp = -1 := of_decide_eq_true (bI_t z)
  have hok := topic_ok ht hrf
  obtain ⟨p1, p2, p3, p4, p5, p6⟩ := hp
  obtain ⟨q1, q2, q3, q4⟩ := p6 hrf
  have h6 : (pT tp).length ≤ 6 := pT_len tp
  have q3' : ∀ k, k < (pT tp).length → L1 192 (0 + k) = (pT tp).getD k 0 := fun k hk => by
    rw [Nat.zero_add, q3 k hk]
    exact enc_id (hok _ (List.mem_of_getElem? (getD_some hk)))
  obtain ⟨M2, e2, h2⟩ := mr_w h1 hN (k := 0) 0 rfl (by omega)
  have hI2 := hI1.thr 0
  refine ⟨M2, e2, fun x1 x2 M' => ∃ (j : Nat) (A' : Nat → Nat → Int32), x2 = nI j ∧ j ≤ 24 ∧ x1 = rtQ B (pT tp) j ∧ MR N ads g c0 (va_up s1 0 0) A' L1 M' ∧ MI (va_up s1 0 0) A' L1 [] (rf false tp) (rtB B (pT tp) j) Km r, fun _ x _ => 24 - x.toNatClampNeg, ⟨0, A1, rfl, Nat.zero_le _, rfl, h2, by rw [rtB_0]; exact hI2⟩, ?_⟩
  rintro _ _ M3 ⟨j, A3, rfl, hj, rfl, h3, hI3⟩
  refine ⟨fun y => ?_, fun y => ?_⟩
  · have e : j = 24 := Nat.le_antisymm hj (Nat.not_lt.mp fun a => absurd y (nI_ge (b := 24) a (by omega)))
    subst e
    exact hP1 hrf _ A3 L1 M3 h3 up_self hI3
  · have hlt : j < 24 := Nat.not_le.mp fun a => y (nI_le (a := 24) a (by omega))
    have hsame := rtB_same (B := B) (ts := pT tp) (Nat.le_refl j)
    have cont : rtF B (pT tp) j = false → (∃ (j' : Nat) (A' : Nat → Nat → Int32), nI j + 1 = nI j' ∧ j' ≤ 24 ∧ rtQ B (pT tp) j = rtQ B (pT tp) j' ∧ MR N ads g c0 (va_up s1 0 0) A' L1 M3 ∧ MI (va_up s1 0 0) A' L1 [] (rf false tp) (rtB B (pT tp) j') Km r) ∧ 24 - (nI j + 1).toNatClampNeg < 24 - (nI j).toNatClampNeg := fun hf =>
      ⟨⟨j + 1, A3, nI_1 j, hlt, by rw [rtQ, hf]; rfl, h3, by rw [rtB_no hf]; exact hI3⟩, mu_dec hlt (by omega)⟩
    have hb := hI3.2.2.2.1 j hlt
    refine ⟨_, mr_r h3 hN rfl, _, mr_gI h3 hN (p := 194) (n := 24) (by decide) hlt, ?_⟩
    rw [hI3.q j hlt, hsame]
    rw [hsame] at hb
    refine ⟨fun w => cont ?_, fun w => ⟨_, mr_r h3 hN rfl, nI (pT tp).length, ?_, mr_O h3 hN, ?_⟩⟩
    · unfold rtF; rw [decide_eq_false (fun a => a w)]; rfl
    · rw [show nI (pT tp).length = va_up s1 0 0 5 by rw [up_ne (by omega)]; exact q1.symm]; exact mr_s h3 hN rfl
    · refine m_fits (f := 0) h3 hN hlt hb.2.2.1 hok (p := 192) (n := 6) (by decide) (by omega) (by omega) q3' ⟨fun v => cont ?_, fun v => ?_⟩
      · unfold rtF; rw [bI_0.mp v, Bool.and_false]
      · have hf : rtF B (pT tp) j = true := by unfold rtF; rw [decide_eq_true w, bI_t v]; rfl
        obtain ⟨M4, e4, h4⟩ := mr_wI h3 hN (p := 195) (n := 24) (j := j) (by decide) hlt (A3 195 j + 1)
        refine ⟨_, mr_r h3 hN rfl, _, mr_gI h3 hN (p := 195) (n := 24) (by decide) hlt, M4, e4, _, mr_r h4 hN rfl, _, mr_gI h4 hN (p := 194) (n := 24) (by decide) hlt, ⟨j + 1, _, nI_1 j, hlt, ?_, h4, ?_⟩, mu_dec hlt (by omega)⟩
        · rw [up_ne (by omega), hb.1, rtQ, hf]; rfl
        · rw [rtB_yes hf]
          obtain ⟨b1, b2, b3, b4, ⟨b5, b6, b7⟩, b8, b9⟩ := hI3
          refine ⟨b1, fun i hi => absurd hi (Nat.not_lt_zero _), b3, fun i hi => ?_, ⟨b5, b6, fun i e hi => (b7 i e hi).same (fun p hp => up_ne (by omega)) rfl⟩, b8, by rw [up_ne (by omega)]; exact b9⟩
          obtain ⟨d1, d2, ⟨d3, d4, d5, d6⟩, d7, d8, d9⟩ := b4 i hi
          by_cases hij : i = j
          · subst hij
            rw [hsame] at d1 d2 d3 d4 d5 d6 d7 d8 d9
            rw [up_self]
            exact ⟨by rw [up_ne (by omega)]; exact d1, by rw [up_self, pk_us, d2], ⟨d3, d4, by rw [up_ne (by omega)]; exact d5, d6⟩, by rw [up_ne (by omega)]; exact d7, d8, by rw [up_ne (by omega)]; exact d9⟩
          · rw [up_ne hij]
            exact ⟨by rw [up_ne (by omega)]; exact d1, by rw [up_self, pk_un hij]; exact d2, ⟨d3, d4, by rw [up_ne (by omega)]; exact d5, d6⟩, by rw [up_ne (by omega)]; exact d7, d8, by rw [up_ne (by omega)]; exact d9⟩
theorem m_fitsKept (h : MR N ads g c0 s A L M) (hN : 208 ≤ N) (hI : MI s A L tp ft B Km r) (hW : ∀ e ∈ Km, ∀ w ∈ pT e.1, okW w) {i j : Nat} (hi : i < 24) (hj : j < Km.length) {P : Int32 → Prop} (hP : P (bI (fitK (pP (B i).2.2) Km[j]))) : wp_Mod_fitsKept g M (ads 190) (nI i) (nI j) P := by
  obtain ⟨-, -, -, b4, ⟨b5, b6, b7⟩, -, -⟩ := hI
  obtain ⟨d1, d2, d3, d4, d5, d6⟩ := b7 j _ (List.getElem?_eq_getElem hj)
  have h6 := pT_len (Km[j]).1
  refine ⟨_, mr_r h hN rfl, _, mr_r h hN rfl, _, mr_gI h hN (p := 202) (n := 20) (by decide) (by omega), mr_O h hN, ?_⟩
  rw [d2, mu6]
  exact m_fits h hN hi (b4 i hi).2.2.1 (hW _ (List.getElem_mem hj)) (p := 201) (n := 120) (by decide) (by omega) (by omega) d3 ⟨bI_B _, hP⟩
theorem m_about (h : MR N ads g c0 s A L M) (hN : 208 ≤ N) (hI : MI s A L tp ft B Km r) (hW : ∀ e ∈ Km, ∀ w ∈ pT e.1, okW w) {x y : Int32} {P : Int32 → Mem → Prop} (hP1 : ∀ k, k < 24 → x = nI k → (B k).1 ≠ -1 → ∀ s' A' L' M', MR N ads g c0 s' A' L' M' → MI s' A' L' tp ft B Km r → P (abv (B k) Km y) M') (hP0 : (∀ k, k < 24 → x = nI k → (B k).1 = -1) → ∀ s' A' L' M', MR N ads g c0 s' A' L' M' → MI s' A' L' tp ft B Km r → P (-1) M') : wp_Mod_about g M (ads 190) x y P := by
  obtain ⟨M1, e1, h1⟩ := mr_w h hN (k := 0) 0 rfl (by omega)
  have hI1 := hI.thr 0
  refine ⟨M1, e1, mr_O h1 hN, m_isBound h1 hN hI.q (fun k hk e hb => ⟨fun z => absurd z (by decide), fun _ => ?_⟩) (fun hn => ⟨fun _ => hP0 hn _ _ _ M1 h1 hI1, fun z => absurd rfl z⟩)⟩
  subst e
  have hP := hP1 k hk rfl hb _ _ _ M1 h1 hI1
  unfold abv at hP
  obtain ⟨d1, d2, d3, d7, d8, d9⟩ := hI.2.2.2.1 k hk
  obtain ⟨b5, b6, b7⟩ := hI1.2.2.2.2.1
  refine ⟨fun z => ⟨_, mr_r h1 hN rfl, _, mr_gI h1 hN (p := 194) (n := 24) (by decide) hk, ?_⟩, fun z => ⟨fun z1 => ⟨_, mr_r h1 hN rfl, _, mr_gI h1 hN (p := 195) (n := 24) (by decide) hk, ?_⟩, fun z1 => ⟨fun z2 => ?_, fun z2 => ⟨fun z3 => ⟨_, mr_r h1 hN rfl, _, mr_gI h1 hN (p := 199) (n := 24) (by decide) hk, ?_⟩, fun z3 => ?_⟩⟩⟩⟩
  · rw [if_pos z] at hP; rw [d1]; exact hP
  · rw [if_neg z, if_pos z1] at hP; rw [d2]; exact hP
  · rw [if_neg z, if_neg z1, if_pos z2] at hP
    refine ⟨fun x3 x4 => ∃ j, x4 = nI j ∧ j ≤ Km.length ∧ x3 = nI ((Km.take j).filter (fitK (pP (B k).2.2))).length, fun _ x => Km.length - x.toNatClampNeg, ⟨0, rfl, Nat.zero_le _, rfl⟩, ?_⟩
    rintro _ _ ⟨j, rfl, hj, rfl⟩
    refine ⟨nI Km.length, by rw [← b5]; exact mr_s h1 hN rfl, fun q => ?_, fun q => ⟨mr_O h1 hN, ?_⟩⟩
    · have e : j = Km.length := Nat.le_antisymm hj (Nat.not_lt.mp fun a => absurd q (nI_ge a (by omega)))
      subst e
      rw [List.take_length]
      exact hP
    · have hlt : j < Km.length := Nat.not_le.mp fun a => q (nI_le a (by omega))
      refine m_fitsKept h1 hN hI1 hW hk hlt ⟨fun a => ⟨⟨j + 1, nI_1 j, hlt, ?_⟩, mu_dec hlt (by omega)⟩, fun a => ⟨⟨j + 1, nI_1 j, hlt, ?_⟩, mu_dec hlt (by omega)⟩⟩
      · rw [filt_s hlt, bI_0.mp a]; simp
      · rw [filt_s hlt, bI_t a]
        simp [nI_1]
  · rw [if_neg z, if_neg z1, if_neg z2, if_pos z3] at hP; rw [d7]; exact hP
  · rw [if_neg z, if_neg z1, if_neg z2, if_neg z3] at hP; exact hP
end MB
