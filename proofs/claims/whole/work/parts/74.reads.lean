/-! the reference reads its tape -/
def RdPost (wild : Bool) (tp : List Int32) (s : Nat → Int32) (A : Nat → Nat → Int32) (L : Nat → Nat → Int64) (s' : Nat → Int32) (A' : Nat → Nat → Int32) (L' : Nat → Nat → Int64) : Prop :=
  (∀ k, k ≠ 2 → k ≠ 3 → k ≠ 5 → k ≠ 6 → s' k = s k) ∧ s' 2 = 0 ∧ s' 3 = rf wild tp ∧ (∀ p, p ≠ 193 → A' p = A p) ∧ (∀ p, p ≠ 192 → L' p = L p) ∧
  (rf wild tp = -1 → s' 5 = nI (rp wild tp).length ∧ s' 6 = nI tp.length ∧ (∀ k, k < (rp wild tp).length → L' 192 k = enc ((rp wild tp).getD k 0)) ∧ ∀ j, j < tp.length → A' 193 j = tp.getD j 0)
section READS
variable {N : Nat} {ads : Nat → Nat} {g : Nat → ClassId} {c0 : Nat → va_E} {s : Nat → Int32} {A : Nat → Nat → Int32} {L : Nat → Nat → Int64} {M : Mem} {tp : List Int32}
theorem m_isSign {x : Int32} {P : Int32 → Prop} (hP : P (bI (isS x))) : wp_Mod_isSign g M x P := by
  unfold isS at hP
  have h12 : ¬ (97 ≤ x ∧ x ≤ 122) → wp_Mod_isSign_b12 g P M x := by
    intro hn
    refine ⟨fun h => ⟨isB_0, ?_⟩, fun h => ⟨fun h2 => ⟨isB_0, ?_⟩, fun h2 => ⟨isB_1, ?_⟩⟩⟩
    · rw [decide_eq_false (fun z => z.elim hn (fun z => Int32.not_le.mpr h z.1))] at hP; exact hP
    · rw [decide_eq_false (fun z => z.elim hn (fun z => Int32.not_le.mpr h2 z.2))] at hP; exact hP
    · rw [decide_eq_true (Or.inr ⟨Int32.not_lt.mp h, Int32.not_lt.mp h2⟩)] at hP; exact hP
  refine ⟨fun h => h12 (fun z => Int32.not_le.mpr h z.1), fun h => ⟨fun h2 => ⟨isB_1, ?_⟩, fun h2 => h12 (fun z => h2 z.2)⟩⟩
  rw [decide_eq_true (Or.inl ⟨Int32.not_lt.mp h, h2⟩)] at hP; exact hP
theorem m_reads (h : MR N ads g c0 s A L M) (hN : 208 ≤ N) (ht : s 2 = nI tp.length) (h60 : tp.length ≤ 60) (hA : ∀ j, j < tp.length → A 191 j = tp.getD j 0) {wild : Bool} {P : Int32 → Mem → Prop} (hP : ∀ s' A' L' M', MR N ads g c0 s' A' L' M' → RdPost wild tp s A L s' A' L' → P (bI (decide (rf wild tp = -1))) M') : wp_Mod_reads g M (ads 190) (bI wild) P := by
  obtain ⟨M1, e1, h1⟩ := mr_w h hN (k := 2) 0 rfl (by omega)
  obtain ⟨M2, e2, h2⟩ := mr_w h1 hN (k := 5) 0 rfl (by omega)
  obtain ⟨M3, e3, h3⟩ := mr_w h2 hN (k := 3) (-1) rfl (by omega)
  refine ⟨_, mr_s h hN rfl, M1, e1, M2, e2, M3, e3, ?_⟩
  rw [ht]
  refine ⟨fun x3 x4 M' => ∃ (s1 : Nat → Int32) (L1 : Nat → Nat → Int64) (qs : List Int64), MR N ads g c0 s1 A L1 M' ∧ (∀ k, k ≠ 2 → k ≠ 3 → k ≠ 5 → s1 k = s k) ∧ s1 2 = 0 ∧ s1 3 = -1 ∧ s1 5 = nI qs.length ∧ (∀ p, p ≠ 192 → L1 p = L p) ∧ (∀ k, k < qs.length → L1 192 k = enc (qs.getD k 0)) ∧ ((x4 = 1 ∧ ∃ k, x3 = nI k ∧ k ≤ tp.length ∧ qs.length ≤ 5 ∧ rd wild (tp.drop k) k qs 0 0 = rd wild tp 0 [] 0 0) ∨ (x4 = 0 ∧ rd wild tp 0 [] 0 0 = (-1, qs))), fun x3 x4 _ => if x4 = 0 then 0 else tp.length + 2 - x3.toNatClampNeg, ⟨_, L, [], h3, fun k a b d => ?_, ?_, ?_, ?_, fun _ _ => rfl, fun k hk => absurd hk (Nat.not_lt_zero _), Or.inl ⟨rfl, 0, rfl, Nat.zero_le _, by simp, rfl⟩⟩, ?_⟩
  · rw [up_ne b, up_ne d, up_ne a]
  · rw [up_ne (by omega), up_ne (by omega), up_self]
  · rw [up_self]
  · rw [up_ne (by omega), up_self]; rfl
  rintro x3 x4 M4 ⟨s1, L1, qs, h4, hs, hs2, hs3, hs5, hL, hL2, hor⟩
  refine ⟨fun z => ?_, fun z => ?_⟩
  · rcases hor with ⟨y, _⟩ | ⟨_, hrd⟩
    · rw [y] at z; exact absurd z (by decide)
    have hrf : rf wild tp = -1 := by unfold rf; rw [hrd]
    have hrp : rp wild tp = qs := by unfold rp; rw [hrd]
    obtain ⟨M5, e5, h5⟩ := mr_w h4 hN (k := 6) (nI tp.length) rfl (by omega)
    refine ⟨M5, e5, fun x5 M' => ∃ (j : Nat) (A' : Nat → Nat → Int32), x5 = nI j ∧ j ≤ tp.length ∧ MR N ads g c0 (va_up s1 6 (nI tp.length)) A' L1 M' ∧ (∀ p, p ≠ 193 → A' p = A p) ∧ ∀ i, i < j → A' 193 i = tp.getD i 0, fun x _ => tp.length - x.toNatClampNeg, ⟨0, A, rfl, Nat.zero_le _, h5, fun _ _ => rfl, fun i hi => absurd hi (Nat.not_lt_zero _)⟩, ?_⟩
    rintro _ M6 ⟨j, A', rfl, hj, h6, hA1, hA2⟩
    refine ⟨fun y => ⟨isB_1, ?_⟩, fun y => ?_⟩
    · have e : j = tp.length := Nat.le_antisymm hj (Nat.not_lt.mp fun w => absurd y (nI_ge w (by omega)))
      subst e
      have := hP _ A' L1 M6 h6 ⟨fun k a b d f => by rw [up_ne f]; exact hs k a b d, by rw [up_ne (by omega)]; exact hs2, by rw [up_ne (by omega), hs3, hrf], hA1, hL, fun _ => ⟨by rw [up_ne (by omega), hs5, hrp], up_self, by rw [hrp]; exact hL2, hA2⟩⟩
      rw [decide_eq_true hrf] at this
      exact this
    · have hlt : j < tp.length := Nat.not_le.mp fun w => y (nI_le w (by omega))
      obtain ⟨M7, e7, h7⟩ := mr_wI h6 hN (p := 193) (n := 60) (j := j) (by decide) (by omega) (A' 191 j)
      refine ⟨_, mr_r h6 hN rfl, _, mr_r h6 hN rfl, _, mr_gI h6 hN (p := 191) (n := 60) (by decide) (by omega), M7, e7, ⟨j + 1, _, nI_1 j, hlt, h7, fun p hp => by rw [up_ne hp]; exact hA1 p hp, fun i hi => ?_⟩, mu_dec hlt (by omega)⟩
      rw [up_self]
      by_cases hij : i = j
      · subst hij; rw [pk_us, hA1 191 (by omega)]; exact hA i hlt
      · rw [pk_un hij]; exact hA2 i (by omega)
  · obtain ⟨rfl, k0, rfl, hk0, hq5, hrd⟩ := hor.resolve_right (fun y => z y.1)
    -- a fault at k
    have fault : ∀ (k : Nat), k ≤ tp.length → rd wild tp 0 [] 0 0 = (nI k, qs) → wp_Mod_reads_b177 g P M4 (ads 190) (nI k) := by
      intro k hk hr
      have hrf : rf wild tp = nI k := by unfold rf; rw [hr]
      have hne : ¬ rf wild tp = -1 := by rw [hrf]; exact nI_m1 (by omega)
      obtain ⟨M5, e5, h5⟩ := mr_w h4 hN (k := 3) (nI k) rfl (by omega)
      have := hP _ A L1 M5 h5 ⟨fun k a b d f => by rw [up_ne b]; exact hs k a b d, by rw [up_ne (by omega)]; exact hs2, by rw [up_self, hrf], fun _ _ => rfl, hL, fun y => absurd y hne⟩
      rw [decide_eq_false hne] at this
      exact ⟨M5, e5, isB_0, this⟩
    have part : ∀ (k n : Nat) (wc wm : Int64), k0 ≤ k → k ≤ tp.length → rd wild (tp.drop k) k qs wc n = rd wild tp 0 [] 0 0 → wm = enc wc → (wm = 0 ↔ n = 0) → (k = tp.length ∨ isS (tp.getD k 0) = false ∨ n = 6) → (n = 0 → k < tp.length → ¬ (wild = true ∧ isW (tp.getD k 0) = true)) → wp_Mod_reads_b143 g P (fun y3 y4 N' => (∃ (s1 : Nat → Int32) (L1 : Nat → Nat → Int64) (qs : List Int64), MR N ads g c0 s1 A L1 N' ∧ (∀ k, k ≠ 2 → k ≠ 3 → k ≠ 5 → s1 k = s k) ∧ s1 2 = 0 ∧ s1 3 = -1 ∧ s1 5 = nI qs.length ∧ (∀ p, p ≠ 192 → L1 p = L p) ∧ (∀ k, k < qs.length → L1 192 k = enc (qs.getD k 0)) ∧ ((y4 = 1 ∧ ∃ k, y3 = nI k ∧ k ≤ tp.length ∧ qs.length ≤ 5 ∧ rd wild (tp.drop k) k qs 0 0 = rd wild tp 0 [] 0 0) ∨ (y4 = 0 ∧ rd wild tp 0 [] 0 0 = (-1, qs)))) ∧ (if y4 = 0 then 0 else tp.length + 2 - y3.toNatClampNeg) < (if (1 : Int32) = 0 then 0 else tp.length + 2 - (nI k0).toNatClampNeg)) M4 (ads 190) (bI wild) (nI tp.length) (nI k) wm := by
      intro k n wc wm hk0k hk hr hwm hw0 hstop hwild
      have mu0 : (if (1 : Int32) = 0 then 0 else tp.length + 2 - (nI k0).toNatClampNeg) = tp.length + 2 - k0 := by rw [if_neg (by decide), nI_clamp (by omega)]
      -- the part goes in
      have put : ∀ (y : Int32), (y = 1 → k < tp.length ∧ qs.length + 1 ≤ 5 ∧ rd wild (tp.drop (k + 1)) (k + 1) (qs ++ [wc]) 0 0 = rd wild tp 0 [] 0 0) → (y = 0 → rd wild tp 0 [] 0 0 = (-1, qs ++ [wc])) → (y = 1 ∧ ¬ nI tp.length ≤ nI k ∨ y = 0 ∧ nI tp.length ≤ nI k) → wp_Mod_reads_b184 g P (fun y3 y4 N' => (∃ (s1 : Nat → Int32) (L1 : Nat → Nat → Int64) (qs : List Int64), MR N ads g c0 s1 A L1 N' ∧ (∀ k, k ≠ 2 → k ≠ 3 → k ≠ 5 → s1 k = s k) ∧ s1 2 = 0 ∧ s1 3 = -1 ∧ s1 5 = nI qs.length ∧ (∀ p, p ≠ 192 → L1 p = L p) ∧ (∀ k, k < qs.length → L1 192 k = enc (qs.getD k 0)) ∧ ((y4 = 1 ∧ ∃ k, y3 = nI k ∧ k ≤ tp.length ∧ qs.length ≤ 5 ∧ rd wild (tp.drop k) k qs 0 0 = rd wild tp 0 [] 0 0) ∨ (y4 = 0 ∧ rd wild tp 0 [] 0 0 = (-1, qs)))) ∧ (if y4 = 0 then 0 else tp.length + 2 - y3.toNatClampNeg) < (if (1 : Int32) = 0 then 0 else tp.length + 2 - (nI k0).toNatClampNeg)) M4 (ads 190) (bI wild) (nI tp.length) (nI k) wm := by
        intro y hy1 hy0 hyc
        obtain ⟨M5, e5, h5⟩ := mr_wL h4 hN (p := 192) (n := 6) (j := qs.length) (by decide) (by omega) wm
        obtain ⟨M6, e6, h6⟩ := mr_w h5 hN (k := 5) (nI qs.length + 1) rfl (by omega)
        have e7 : s1 5 = nI qs.length := hs5
        have hLn : ∀ k, k < (qs ++ [wc]).length → va_up L1 192 (vp_updL (L1 192) qs.length wm) 192 k = enc ((qs ++ [wc]).getD k 0) := fun i hi => by
          rw [List.length_append, List.length_singleton] at hi
          rw [up_self]
          by_cases hiq : i = qs.length
          · subst hiq; rw [pk_uLs, getD_app_eq, hwm]
          · rw [pk_uLn hiq, getD_app_lt (by omega)]; exact hL2 i (by omega)
        have fr : (∀ k, k ≠ 2 → k ≠ 3 → k ≠ 5 → va_up s1 5 (nI qs.length + 1) k = s k) ∧ va_up s1 5 (nI qs.length + 1) 2 = 0 ∧ va_up s1 5 (nI qs.length + 1) 3 = -1 ∧ va_up s1 5 (nI qs.length + 1) 5 = nI (qs ++ [wc]).length ∧ (∀ p, p ≠ 192 → va_up L1 192 (vp_updL (L1 192) qs.length wm) p = L p) := ⟨fun k a b d => by rw [up_ne d]; exact hs k a b d, by rw [up_ne (by omega)]; exact hs2, by rw [up_ne (by omega)]; exact hs3, by rw [up_self, List.length_append, List.length_singleton, nI_1], fun p hp => by rw [up_ne hp]; exact hL p hp⟩
        refine ⟨_, mr_r h4 hN rfl, nI qs.length, by rw [← hs5]; exact mr_s h4 hN rfl, M5, e5, nI qs.length, by rw [← hs5]; exact mr_s h5 hN rfl, M6, e6, fun w => ?_, fun w => ?_⟩
        · rcases hyc with ⟨_, y2⟩ | ⟨rfl, _⟩
          · exact absurd w y2
          · refine ⟨⟨_, _, qs ++ [wc], h6, fr.1, fr.2.1, fr.2.2.1, fr.2.2.2.1, fr.2.2.2.2, hLn, Or.inr ⟨rfl, hy0 rfl⟩⟩, ?_⟩
            rw [mu0, if_pos rfl]; omega
        · rcases hyc with ⟨rfl, _⟩ | ⟨_, y2⟩
          · obtain ⟨a1, a2, a3⟩ := hy1 rfl
            refine ⟨⟨_, _, qs ++ [wc], h6, fr.1, fr.2.1, fr.2.2.1, fr.2.2.2.1, fr.2.2.2.2, hLn, Or.inl ⟨rfl, k + 1, nI_1 k, a1, by rw [List.length_append, List.length_singleton]; exact a2, a3⟩⟩, ?_⟩
            rw [mu0, if_neg (by decide), nI_1, nI_clamp (by omega)]; omega
          · exact absurd y2 w
      refine ⟨fun y => fault k hk ?_, fun y => ⟨fun w => ?_, fun w => ?_⟩⟩
      · rw [cmp0, hw0] at y
        subst y
        rw [← hr]
        by_cases hkl : k < tp.length
        · rw [List.drop_eq_getElem_cons hkl, rd]
          have hx : tp.getD k 0 = tp[k] := by rw [List.getD_eq_getElem?_getD, List.getElem?_eq_getElem hkl]; rfl
          rw [← hx]
          have hs0 : isS (tp.getD k 0) = false := by
            rcases hstop with a | a | a
            · omega
            · exact a
            · omega
          have : cst (tp.getD k 0) 0 qs.length wild = false := by
            unfold cst
            by_cases h46 : tp.getD k 0 = 46
            · rw [if_pos h46]; simp
            · rw [if_neg h46]
              by_cases hw : isW (tp.getD k 0) = true
              · rw [if_pos hw]
                cases hwd : wild
                · rfl
                · exact absurd ⟨hwd, hw⟩ (hwild rfl hkl)
              · rw [if_neg hw, hs0]; rfl
          rw [this]; rfl
        · rw [List.drop_of_length_le (by omega), rd, if_pos rfl]
      · have hn : ¬ n = 0 := fun a => y (by rw [cmp0]; exact hw0.mpr a)
        have e : k = tp.length := Nat.le_antisymm hk (Nat.not_lt.mp fun a => absurd w (nI_ge a (by omega)))
        refine put 0 (fun a => absurd a (by decide)) (fun _ => ?_) (Or.inr ⟨rfl, w⟩)
        rw [← hr, List.drop_of_length_le (by omega), rd, if_neg hn]
      · have hn : ¬ n = 0 := fun a => y (by rw [cmp0]; exact hw0.mpr a)
        have hkl : k < tp.length := Nat.not_le.mp fun a => w (nI_le a (by omega))
        have hx : tp.getD k 0 = tp[k] := by rw [List.getD_eq_getElem?_getD, List.getElem?_eq_getElem hkl]; rfl
        rw [List.drop_eq_getElem_cons hkl, ← hx, rd] at hr
        refine ⟨_, mr_r h4 hN rfl, _, mr_gI h4 hN (p := 191) (n := 60) (by decide) (by omega), ?_⟩
        rw [hA k hkl]
        refine ⟨fun h46 => ⟨nI qs.length, by rw [← hs5]; exact mr_s h4 hN rfl, ?_⟩, fun h46 => fault k hk ?_⟩
        · rw [nI_1]
          refine ⟨fun a => fault k hk ?_, fun a => put 1 (fun _ => ⟨hkl, ?_, ?_⟩) (fun b => absurd b (by decide)) (Or.inl ⟨rfl, w⟩)⟩
          · have hq : qs.length + 1 = 6 := (nI_eq (b := 6) (by omega) (by omega)).mp a
            have : cst (tp.getD k 0) n qs.length wild = false := by
              unfold cst; rw [if_pos h46]; exact decide_eq_false (by omega)
            rw [this] at hr; exact hr.symm
          · have hq : ¬ qs.length + 1 = 6 := fun b => a (by rw [b]; rfl)
            omega
          · have hq : ¬ qs.length + 1 = 6 := fun b => a (by rw [b]; rfl)
            have : cst (tp.getD k 0) n qs.length wild = true := by
              unfold cst; rw [if_pos h46]; exact decide_eq_true ⟨by omega, by omega⟩
            rw [this, if_pos rfl, if_pos h46] at hr; exact hr
        · have : cst (tp.getD k 0) n qs.length wild = false := by
            unfold cst
            rw [if_neg h46]
            by_cases hw : isW (tp.getD k 0) = true
            · rw [if_pos hw, decide_eq_false hn, Bool.and_false]
            · rw [if_neg hw]
              rcases hstop with a | a | a
              · omega
              · rw [a]; rfl
              · subst a; rw [decide_eq_false (by omega), Bool.and_false]
          rw [this] at hr; exact hr.symm
    -- a word
    have word : (∀ hk : k0 < tp.length, ¬ (wild = true ∧ isW (tp.getD k0 0) = true)) → wp_Mod_reads_b95 g P (fun y3 y4 N' => (∃ (s1 : Nat → Int32) (L1 : Nat → Nat → Int64) (qs : List Int64), MR N ads g c0 s1 A L1 N' ∧ (∀ k, k ≠ 2 → k ≠ 3 → k ≠ 5 → s1 k = s k) ∧ s1 2 = 0 ∧ s1 3 = -1 ∧ s1 5 = nI qs.length ∧ (∀ p, p ≠ 192 → L1 p = L p) ∧ (∀ k, k < qs.length → L1 192 k = enc (qs.getD k 0)) ∧ ((y4 = 1 ∧ ∃ k, y3 = nI k ∧ k ≤ tp.length ∧ qs.length ≤ 5 ∧ rd wild (tp.drop k) k qs 0 0 = rd wild tp 0 [] 0 0) ∨ (y4 = 0 ∧ rd wild tp 0 [] 0 0 = (-1, qs)))) ∧ (if y4 = 0 then 0 else tp.length + 2 - y3.toNatClampNeg) < (if (1 : Int32) = 0 then 0 else tp.length + 2 - (nI k0).toNatClampNeg)) M4 (ads 190) (bI wild) (nI tp.length) (nI k0) 0 0 := by
      intro hnw
      refine ⟨fun x3 x5 x7 => ∃ (k n v : Nat), x3 = nI k ∧ k0 ≤ k ∧ k ≤ tp.length ∧ x7 = nI n ∧ n ≤ 6 ∧ x5 = lN v ∧ v < 256 ^ n ∧ (n = 0 → k = k0) ∧ (0 < n → 48 ≤ v) ∧ rd wild (tp.drop k) k qs (lN v) n = rd wild tp 0 [] 0 0, fun x _ _ => tp.length - x.toNatClampNeg, ⟨k0, 0, 0, rfl, Nat.le_refl _, hk0, rfl, Nat.zero_le _, rfl, by decide, fun _ => rfl, fun a => absurd a (Nat.lt_irrefl _), hrd⟩, ?_⟩
      rintro _ _ _ ⟨k, n, v, rfl, hk0k, hk, rfl, hn6, rfl, hv, hn0, hv48, hr⟩
      have hvb : v < 2 ^ 48 := Nat.lt_of_lt_of_le hv (Nat.pow_le_pow_right (by decide) hn6 : 256 ^ n ≤ 256 ^ 6)
      have hv0 : lN v = 0 ↔ n = 0 := by
        constructor
        · intro a
          have := (pk_lEQ (b := 0) (by omega) (by omega)).mp a
          rcases Nat.eq_zero_or_pos n with b | b
          · exact b
          · have := hv48 b; omega
        · intro a
          subst a
          have : v = 0 := by simpa using hv
          subst this; rfl
      have henc : lN v = enc (lN v) := by
        rcases Nat.eq_zero_or_pos n with b | b
        · rw [hv0.mpr b]; decide
        · have h48 := hv48 b
          refine (enc_id ⟨(pk_lLE (a := 0) (by omega) (by omega)).mpr (by omega), fun a => ?_, fun a => ?_⟩).symm
          · have := (pk_lEQ (b := 35) (by omega) (by omega)).mp a; omega
          · have := (pk_lEQ (b := 42) (by omega) (by omega)).mp a; omega
      have stop : (k = tp.length ∨ isS (tp.getD k 0) = false ∨ n = 6) → _ := fun hstop => part k n (lN v) (lN v) hk0k hk hr henc hv0 hstop (fun a hkl => by
        have := hn0 a
        subst this
        exact hnw hkl)
      refine ⟨fun w => stop (Or.inl (Nat.le_antisymm hk (Nat.not_lt.mp fun a => absurd w (nI_ge a (by omega))))), fun w => ?_⟩
      have hkl : k < tp.length := Nat.not_le.mp fun a => w (nI_le a (by omega))
      refine ⟨_, mr_r h4 hN rfl, _, mr_gI h4 hN (p := 191) (n := 60) (by decide) (by omega), ?_⟩
      rw [hA k hkl]
      refine m_isSign ⟨fun a => stop (Or.inr (Or.inl (bI_0.mp a))), fun a => ⟨fun b => stop (Or.inr (Or.inr ?_)), fun b => ⟨_, mr_r h4 hN rfl, _, mr_gI h4 hN (p := 191) (n := 60) (by decide) (by omega), ⟨k + 1, n + 1, v * 256 + (tp.getD k 0).toNatClampNeg, nI_1 k, by omega, hkl, nI_1 n, ?_, ?_, ?_, fun d => by omega, fun _ => ?_, ?_⟩, mu_dec hkl (by omega)⟩⟩⟩
      · have := (nI_leI (a := 6) (by omega) (by omega)).mp b; omega
      all_goals
        have hn : n < 6 := Nat.not_le.mp fun d => b (nI_le (a := 6) d (by omega))
        obtain ⟨d, hd1, hd2, hd⟩ := isS_n (bI_t a)
        have hdc : (tp.getD k 0).toNatClampNeg = d := by rw [hd, nI_clamp (by omega)]
      · omega
      · rw [hA k hkl, hdc]
        show nxt (lN v) (tp.getD k 0) = _
        rw [hd, nxt_N hvb (by omega)]
      · rw [hdc, Nat.pow_succ]; omega
      · rw [hdc]; omega
      · have hx : tp.getD k 0 = tp[k] := by rw [List.getD_eq_getElem?_getD, List.getElem?_eq_getElem hkl]; rfl
        rw [List.drop_eq_getElem_cons hkl, ← hx, rd] at hr
        have h46 : ¬ tp.getD k 0 = 46 := by rw [hd]; intro e; have := (nI_eq (b := 46) (by omega) (by omega)).mp e; omega
        have hw : isW (tp.getD k 0) = false := by
          refine decide_eq_false ?_
          rw [hd]
          rintro (e | e)
          · have := (nI_eq (b := 42) (by omega) (by omega)).mp e; omega
          · have := (nI_eq (b := 35) (by omega) (by omega)).mp e; omega
        have hc : cst (tp.getD k 0) n qs.length wild = true := by
          unfold cst
          rw [if_neg h46, hw, bI_t a, decide_eq_true hn]; rfl
        rw [hc, if_pos rfl, if_neg h46, hw] at hr
        rw [hdc, ← nxt_N hvb (by omega), ← hd]
        exact hr
    refine ⟨fun w => word (fun _ a => ?_), fun w => ⟨fun w2 => word (fun hk _ => ?_), fun w2 => ?_⟩⟩
    · rw [a.1] at w; exact absurd w (by decide)
    · exact absurd w2 (nI_ge hk (by omega))
    · have hwt : wild = true := bI_t w
      have hkl : k0 < tp.length := Nat.not_le.mp fun a => w2 (nI_le a (by omega))
      have hx : tp.getD k0 0 = tp[k0] := by rw [List.getD_eq_getElem?_getD, List.getElem?_eq_getElem hkl]; rfl
      have hw6 : isW (tp.getD k0 0) = true → rd wild (tp.drop (k0 + 1)) (k0 + 1) qs (nxt 0 (tp.getD k0 0)) 6 = rd wild tp 0 [] 0 0 := fun hw => by
        rw [List.drop_eq_getElem_cons hkl, ← hx, rd] at hrd
        have h46 : ¬ tp.getD k0 0 = 46 := by
          intro e; rw [e] at hw; exact absurd hw (by decide)
        have hc : cst (tp.getD k0 0) 0 qs.length wild = true := by
          unfold cst
          rw [if_neg h46, hw, hwt]; rfl
        rw [hc, if_pos rfl, if_neg h46, hw] at hrd
        exact hrd
      refine ⟨_, mr_r h4 hN rfl, _, mr_gI h4 hN (p := 191) (n := 60) (by decide) (by omega), ?_⟩
      rw [hA k0 hkl]
      have wildp : isW (tp.getD k0 0) = true → wp_Mod_reads_b67 g P _ M4 (ads 190) (bI wild) (nI tp.length) (nI k0) := fun hw => by
        refine ⟨_, mr_r h4 hN rfl, _, mr_gI h4 hN (p := 191) (n := 60) (by decide) (by omega), ?_⟩
        rw [hA k0 hkl]
        refine ⟨fun a => ?_, fun a => ?_⟩
        · have := part (k0 + 1) 6 (nxt 0 (tp.getD k0 0)) (-1) (by omega) hkl (hw6 hw) (by rw [a]; decide) (by decide) (Or.inr (Or.inr rfl)) (fun b => absurd b (by decide))
          rw [← nI_1] at this
          exact this
        · have a2 : tp.getD k0 0 = 35 := (of_decide_eq_true hw).resolve_left a
          have := part (k0 + 1) 6 (nxt 0 (tp.getD k0 0)) (-2) (by omega) hkl (hw6 hw) (by rw [a2]; decide) (by decide) (Or.inr (Or.inr rfl)) (fun b => absurd b (by decide))
          rw [← nI_1] at this
          exact this
      refine ⟨fun a => wildp (decide_eq_true (Or.inl a)), fun a => ⟨_, mr_r h4 hN rfl, _, mr_gI h4 hN (p := 191) (n := 60) (by decide) (by omega), ?_⟩⟩
      rw [hA k0 hkl]
      exact ⟨fun b => wildp (decide_eq_true (Or.inr b)), fun b => word (fun _ d => (of_decide_eq_true d.2).elim a b)⟩
end READS
