section MOD2
variable {N : Nat} {ads : Nat → Nat} {g : Nat → ClassId} {c0 : Nat → va_E} {s : Nat → Int32} {A : Nat → Nat → Int32} {L : Nat → Nat → Int64} {M : Mem} {i : Nat} {ps : List Int64}
theorem m_move (h : MR N ads g c0 s A L M) (hN : 208 ≤ N) (hi : i < 24) (hp : PatM A L i ps) {t : Nat} (ht : t < 128) {w : Int64} (hw : okW w) {P : Int32 → Prop} (hP : P (nI (stp ps w t))) : wp_Mod_move g M (ads 196) (nI (6 * i)) (nI ps.length) (nI t) w P := by
  have hp0 := hp
  obtain ⟨h6, hpos, -, hL⟩ := hp
  refine ⟨fun x6 x7 => ∃ p b, x7 = nI p ∧ p ≤ ps.length ∧ x6 = nI b ∧ b < 128 ∧ ∀ q, b.testBit q = nxq ps w t.testBit p q, fun _ x => ps.length - x.toNatClampNeg, ⟨0, 0, rfl, Nat.zero_le _, rfl, by decide, fun q => by simp [nxq]⟩, ?_⟩
  rintro _ _ ⟨p, b, rfl, hpl, rfl, hb, hbit⟩
  refine ⟨fun z => ?_, fun z => ?_⟩
  · have e : p = ps.length := Nat.le_antisymm hpl (Nat.not_lt.mp fun y => absurd z (nI_ge y (by omega)))
    subst e
    refine m_spread h hN hi hp0 hb (fun b' hb' hbit' => ?_)
    have : b' = stp ps w t := by
      refine Nat.eq_of_testBit_eq fun q => ?_
      rw [hbit', stp, ofB_bit]
      have hS : b.testBit = nxq ps w t.testBit ps.length := funext hbit
      rw [hS, Bd_sprd]
      by_cases hq : q ≤ ps.length
      · rw [if_pos hq, decide_eq_true (by omega : q < ps.length + 1), Bool.true_and]
      · rw [if_neg hq, decide_eq_false (by omega : ¬ q < ps.length + 1), Bool.false_and]
        unfold nxq
        rw [decide_eq_false (by omega : ¬ q < ps.length), decide_eq_false (by omega : ¬ (0 < q ∧ q - 1 < ps.length))]
        rfl
    rw [this]
    exact hP
  · have hlt : p < ps.length := Nat.not_le.mp fun y => z (nI_le y (by omega))
    have hx := getD_some (d := (0 : Int64)) hlt
    have hxp : (0 : Int64) < ps.getD p 0 := hpos _ (List.mem_of_getElem? hx)
    have fin : ∀ b' : Nat, b' < 128 → (∀ q, b'.testBit q = nxq ps w t.testBit (p + 1) q) → (∃ p' b'', nI p + 1 = nI p' ∧ p' ≤ ps.length ∧ nI b' = nI b'' ∧ b'' < 128 ∧ ∀ q, b''.testBit q = nxq ps w t.testBit p' q) ∧ ps.length - (nI p + 1).toNatClampNeg < ps.length - (nI p).toNatClampNeg := fun b' h1 h2 => ⟨⟨p + 1, b', nI_1 p, hlt, rfl, h1, h2⟩, mu_dec hlt (by omega)⟩
    have step : ∀ q, nxq ps w t.testBit (p + 1) q = (nxq ps w t.testBit p q || ((decide (q = p) && (hB ps p && t.testBit p)) || (decide (q = p + 1) && (mB ps w p && t.testBit p)))) := fun q => by
      unfold nxq
      by_cases h1 : q = p
      · subst h1
        have a1 : ¬ q = q + 1 := by omega
        have a2 : q - 1 < q + 1 := by omega
        by_cases a3 : 0 < q
        · have a4 : q - 1 < q := by omega
          simp only [a1, a2, a3, a4, Nat.lt_irrefl, decide_true, decide_false, Bool.true_and, Bool.false_and, Bool.false_or, Bool.or_false, and_self, Nat.lt_succ_self]
          exact Bool.or_comm _ _
        · simp only [a1, a3, Nat.lt_irrefl, decide_true, decide_false, Bool.true_and, Bool.false_and, Bool.false_or, Bool.or_false, false_and, Nat.lt_succ_self]
      · by_cases h2 : q = p + 1
        · subst h2
          have a1 : ¬ p + 1 < p := by omega
          have a2 : ¬ p + 1 = p := by omega
          simp only [a1, a2, Nat.lt_irrefl, decide_true, decide_false, Bool.true_and, Bool.false_and, Bool.false_or, Bool.or_false, Nat.add_sub_cancel, Nat.zero_lt_succ, Nat.lt_succ_self, and_self, and_false]
        · have a1 : (q < p + 1) = (q < p) := propext (by omega)
          have a2 : (0 < q ∧ q - 1 < p + 1) = (0 < q ∧ q - 1 < p) := propext (by omega)
          simp only [a1, a2, h1, h2, decide_false, Bool.false_and, Bool.or_false]
    refine ⟨fun y => fin b hb (fun q => ?_), fun y => ⟨_, by rw [nI_add]; exact mr_gL h hN (p := 196) (n := 144) (by decide) (by omega), fun w1 => ?_, fun w1 => ?_⟩⟩
    · rw [bs_t (by omega) (by omega)] at y
      rw [hbit, step, y]; simp
    all_goals
      have hS : t.testBit p = true := by
        cases hb2 : t.testBit p
        · exact absurd ((bs_t (by omega) (by omega)).mpr hb2) y
        · rfl
      rw [cmp0, hL p hlt, enc_h hxp] at w1
    · have hh : hB ps p = true := by unfold hB; rw [hx, w1]; exact decide_eq_true rfl
      have hm : mB ps w p = false := by unfold mB; rw [hx, w1]; exact decide_eq_false (fun z => z.1 rfl)
      have := fin (b ||| 2 ^ p) (or128 hb (by omega)) (fun q => by
        rw [Nat.testBit_or, hbit, Nat.testBit_two_pow, step, hh, hm, hS]
        simp [eq_comm])
      rw [← bs_or, ← bs_1 p (by omega)] at this
      exact this
    · have hn : ps[p]? ≠ some 35 := fun z => w1 (Option.some.inj (hx.symm.trans z))
      have hh : hB ps p = false := decide_eq_false hn
      have word : mB ps w p = true → (∃ p' b'', nI p + 1 = nI p' ∧ p' ≤ ps.length ∧ nI b ||| ((1 : Int32) <<< ((nI p + 1) &&& 31)) = nI b'' ∧ b'' < 128 ∧ ∀ q, b''.testBit q = nxq ps w t.testBit p' q) ∧ ps.length - (nI p + 1).toNatClampNeg < ps.length - (nI p).toNatClampNeg := fun hm => by
        have := fin (b ||| 2 ^ (p + 1)) (or128 hb (by omega)) (fun q => by
          rw [Nat.testBit_or, hbit, Nat.testBit_two_pow, step, hh, hm, hS]
          simp [eq_comm])
        rw [← bs_or, ← bs_1 (p + 1) (by omega), ← nI_1] at this
        exact this
      refine ⟨fun w2 => word ?_, fun w2 => ⟨fun w3 => word ?_, fun w3 => fin b hb (fun q => ?_)⟩⟩
      · rw [cmp0, hL p hlt, enc_s hxp] at w2
        exact decide_eq_true ⟨hn, Or.inl (by rw [hx, w2])⟩
      · rw [cmp0, hL p hlt, enc_w hw] at w3
        exact decide_eq_true ⟨hn, Or.inr (by rw [hx, w3])⟩
      · rw [cmp0, hL p hlt, enc_s hxp] at w2
        rw [cmp0, hL p hlt, enc_w hw] at w3
        have hm : mB ps w p = false := decide_eq_false (by
          rintro ⟨_, z | z⟩
          · exact w2 (Option.some.inj (hx.symm.trans z))
          · exact w3 (Option.some.inj (hx.symm.trans z)))
        rw [hbit, step, hh, hm]; simp
theorem m_moved (h : MR N ads g c0 s A L M) (hN : 208 ≤ N) (hi : i < 24) (hp : PatM A L i ps) {t : Nat} (ht : t < 128) {w : Int64} (hw : okW w) {P : Int32 → Prop} (hP : P (nI (stp ps w t))) : wp_Mod_moved g M (ads 190) (nI i) (nI t) w P := by
  refine ⟨_, mr_r h hN rfl, _, mr_r h hN rfl, _, mr_gI h hN (p := 197) (n := 24) (by decide) hi, ?_⟩
  rw [hp.2.2.1, mu6]
  exact m_move h hN hi hp ht hw hP
theorem sprd_1 (q : Nat) : sprd ps (Nat.testBit 1) q = stB ps q := by
  have h1 : ∀ q, Nat.testBit 1 q = decide (q = 0) := fun q => by
    rw [show (1 : Nat) = 2 ^ 0 from rfl, Nat.testBit_two_pow]; exact decide_eq_decide.mpr eq_comm
  induction q with
  | zero => rw [sprd, h1, stB]; rfl
  | succ q ih => rw [sprd, ih, h1, stB, decide_eq_false (by omega), Bool.false_or]
theorem m_first (h : MR N ads g c0 s A L M) (hN : 208 ≤ N) (hi : i < 24) (hp : PatM A L i ps) {P : Int32 → Prop} (hP : P (nI (sta ps))) : wp_Mod_first g M (ads 190) (nI i) P := by
  refine ⟨_, mr_r h hN rfl, _, mr_r h hN rfl, _, mr_gI h hN (p := 197) (n := 24) (by decide) hi, ?_⟩
  rw [hp.2.2.1, mu6]
  refine m_spread (b := 1) h hN hi hp (by decide) (fun b' hb' hbit => ?_)
  have : b' = sta ps := by
    refine Nat.eq_of_testBit_eq fun q => ?_
    rw [hbit, sta, ofB_bit, sprd_1]
    by_cases hq : q ≤ ps.length
    · rw [if_pos hq, decide_eq_true (by omega : q < ps.length + 1), Bool.true_and]
    · rw [if_neg hq, decide_eq_false (by omega : ¬ q < ps.length + 1), Bool.false_and, show (1 : Nat) = 2 ^ 0 from rfl, Nat.testBit_two_pow, decide_eq_false (by omega)]
  rw [this]
  exact hP
theorem m_isEnd (h : MR N ads g c0 s A L M) (hN : 208 ≤ N) (hi : i < 24) (hp : PatM A L i ps) {t : Nat} (ht : t < 128) {P : Int32 → Prop} (hP : P (bI (enB ps t))) : wp_Mod_isEnd g M (ads 190) (nI i) (nI t) P := by
  have h6 := hp.1
  unfold enB at hP
  refine ⟨_, mr_r h hN rfl, _, mr_gI h hN (p := 197) (n := 24) (by decide) hi, ?_⟩
  rw [hp.2.2.1]
  refine ⟨fun z => ⟨isB_1, ?_⟩, fun z => ⟨isB_0, ?_⟩⟩
  · rw [bs_t1 (by omega) (by omega)] at z
    rw [z] at hP; exact hP
  · rw [bs_t1 (by omega) (by omega)] at z
    cases hb : t.testBit ps.length
    · rw [hb] at hP; exact hP
    · exact absurd hb z
/-- the words of a topic in an array of the reference -/
theorem m_fits (h : MR N ads g c0 s A L M) (hN : 208 ≤ N) (hi : i < 24) (hp : PatM A L i ps) {ts : List Int64} (hts : ∀ w ∈ ts, okW w) {p n f : Nat} (hpn : (p, n) ∈ mLL) (hf : f + ts.length ≤ n) (hn : n ≤ 144) (hT : ∀ k, k < ts.length → L p (f + k) = ts.getD k 0) {P : Int32 → Prop} (hP : P (bI (tks ps ts))) : wp_Mod_fits g M (ads 190) (nI i) (ads p) (nI f) (nI ts.length) P := by
  have h6 := hp.1
  refine ⟨mr_O h hN, m_first h hN hi hp ?_⟩
  refine ⟨fun x5 x6 => ∃ j, x6 = nI j ∧ j ≤ ts.length ∧ x5 = nI (mvs ps (sta ps) (ts.take j)), fun _ x => ts.length - x.toNatClampNeg, ⟨0, rfl, Nat.zero_le _, rfl⟩, ?_⟩
  rintro _ _ ⟨j, rfl, hj, rfl⟩
  have hlt2 : mvs ps (sta ps) (ts.take j) < 128 := mvs_lt h6 (sta_lt h6)
  refine ⟨fun z => ?_, fun z => ?_⟩
  · have e : j = ts.length := Nat.le_antisymm hj (Nat.not_lt.mp fun y => absurd z (nI_ge y (by omega)))
    subst e
    refine ⟨mr_O h hN, m_isEnd h hN hi hp hlt2 ⟨bI_B _, ?_⟩⟩
    rw [List.take_length]
    exact hP
  · have hlt : j < ts.length := Nat.not_le.mp fun y => z (nI_le y (by omega))
    refine ⟨_, by rw [nI_add]; exact mr_gL h hN hpn (by omega), mr_O h hN, ?_⟩
    rw [hT j hlt]
    refine m_moved h hN hi hp hlt2 (hts _ (List.mem_of_getElem? (getD_some hlt))) ⟨⟨j + 1, nI_1 j, hlt, ?_⟩, mu_dec hlt (by omega)⟩
    rw [← take_snoc (d := 0) hlt, mvs_snoc]
end MOD2
