/-! startPlaces, placesBehind, hasEnd, takes -/
section NFA
variable {g : Nat → ClassId} {N : Nat} {ads : Nat → Nat} {c : Nat → va_E} {M : Mem} {i : Nat} {ss : List Int32} {ps : List Int64}
theorem getD_some {α : Type} {l : List α} {d : α} {j : Nat} (h : j < l.length) : l[j]? = some (l.getD j d) := by
  rw [List.getD_eq_getElem?_getD, List.getElem?_eq_getElem h]; rfl
theorem sta_all {b p : Nat} (hp : p ≤ ps.length) (hb : ∀ q, b.testBit q = decide (q ≤ p)) (h1 : ∀ q, q < p → hB ps q = true) (h2 : hB ps p = false) : b = sta ps := by
  have h3 : ∀ q, stB ps q = decide (q ≤ p) := by
    intro q
    induction q with
    | zero => simp [stB]
    | succ q ih =>
      rw [stB, ih]
      rcases Nat.lt_trichotomy q p with h | h | h
      · rw [h1 q h]; simp; omega
      · subst h; rw [h2]; simp
      · have a : ¬ q ≤ p := by omega
        have a2 : ¬ q + 1 ≤ p := by omega
        simp [a, a2]
  refine Nat.eq_of_testBit_eq fun q => ?_
  rw [hb, sta, ofB_bit, h3]
  by_cases h : q ≤ p
  · have : q < ps.length + 1 := by omega
    simp [h, this]
  · simp [h]
theorem t_start (hR : Rep N ads c M) (hi : i + 2 < N) (h : TextL g ads c i ss ps) (hk : ps.length ≤ 6) {P : Int32 → Prop} (hP : P (nI (sta ps))) : wp_Text_startPlaces g M (ads i) P := by
  refine ⟨fun x1 x2 => ∃ p b, x2 = nI p ∧ p ≤ ps.length ∧ x1 = nI b ∧ (∀ q, b.testBit q = decide (q ≤ p)) ∧ ∀ q, q < p → hB ps q = true, fun _ x => ps.length - x.toNatClampNeg, ⟨0, 1, rfl, Nat.zero_le _, rfl, fun q => by rw [show (1 : Nat) = 2 ^ 0 from rfl, Nat.testBit_two_pow]; exact decide_eq_decide.mpr (by omega), fun q hq => absurd hq (Nat.not_lt_zero _)⟩, ?_⟩
  rintro x1 x2 ⟨p, b, rfl, hp, rfl, hb, hh⟩
  refine ⟨_, h.cnt hR hi, fun q => ?_, fun q => ?_⟩
  · have e : p = ps.length := Nat.le_antisymm hp (Nat.not_lt.mp fun z => absurd q (nI_ge z (by omega)))
    subst e
    show P _
    rw [sta_all (Nat.le_refl _) hb hh (hB_out (Nat.le_refl _))]
    exact hP
  · have hlt : p < ps.length := Nat.not_le.mp fun z => q (nI_le z (by omega))
    refine ⟨h.O hR hi, l_partAt hR hi h hk hlt ⟨fun z => ⟨⟨p + 1, b ||| 2 ^ (p + 1), nI_1 p, hlt, ?_, fun q => ?_, fun q hq => ?_⟩, mu_dec hlt (by omega)⟩, fun z => ?_⟩⟩
    · rw [bs_2 p (by omega), bs_or]
    · rw [Nat.testBit_or, hb, Nat.testBit_two_pow, ← Bool.decide_or]
      exact decide_eq_decide.mpr (by omega)
    · by_cases hqp : q = p
      · subst hqp
        unfold hB
        rw [getD_some (d := 0) hlt, (cmp0 _ _).mp z]
        simp
      · exact hh q (by omega)
    · show P _
      rw [sta_all hp hb hh (by unfold hB; rw [getD_some (d := 0) hlt]; exact decide_eq_false fun z2 => z ((cmp0 _ _).mpr (Option.some.inj z2)))]
      exact hP
theorem t_behind (hR : Rep N ads c M) (hi : i + 2 < N) (h : TextL g ads c i ss ps) (hk : ps.length ≤ 6) {s : Nat} {w : Int64} (hs : s < 2 ^ 31) {P : Int32 → Prop} (hP : P (nI (stp ps w s))) : wp_Text_placesBehind g M (ads i) (nI s) w P := by
  refine ⟨fun x4 x5 => ∃ p b, x5 = nI p ∧ p ≤ ps.length ∧ x4 = nI b ∧ ∀ q, b.testBit q = pb ps w s.testBit p q, fun _ x => ps.length - x.toNatClampNeg, ⟨0, 0, rfl, Nat.zero_le _, rfl, fun q => by rw [pb_0]; simp⟩, ?_⟩
  rintro x4 x5 ⟨p, b, rfl, hp, rfl, hb⟩
  refine ⟨_, h.cnt hR hi, fun q => ?_, fun q => ?_⟩
  · have e : p = ps.length := Nat.le_antisymm hp (Nat.not_lt.mp fun z => absurd q (nI_ge z (by omega)))
    subst e
    rw [pb_end hb]
    exact hP
  · have hlt : p < ps.length := Nat.not_le.mp fun z => q (nI_le z (by omega))
    have hx := getD_some (d := (0 : Int64)) hlt
    have fin : ∀ b' : Nat, (∀ q, b'.testBit q = pb ps w s.testBit (p + 1) q) → (∃ p' b'', nI p + 1 = nI p' ∧ p' ≤ ps.length ∧ nI b' = nI b'' ∧ ∀ q, b''.testBit q = pb ps w s.testBit p' q) ∧ ps.length - (nI p + 1).toNatClampNeg < ps.length - (nI p).toNatClampNeg := fun b' h' => ⟨⟨p + 1, b', nI_1 p, hlt, rfl, h'⟩, mu_dec hlt (by omega)⟩
    have hsh : ∀ b1 : Nat, nI b1 ||| ((nI b1 &&& ((1 : Int32) <<< (nI p &&& 31))) <<< ((1 : Int32) &&& 31)) = nI (b1 ||| ((b1 &&& 2 ^ p) * 2)) := fun b1 => by
      have h1 : b1 &&& 2 ^ p ≤ 2 ^ p := Nat.and_le_right
      have h2 : 2 ^ p ≤ 2 ^ 6 := Nat.pow_le_pow_right (by decide) (by omega)
      rw [bs_1 p (by omega), bs_and, bs_d (by omega), bs_or]
    refine ⟨h.O hR hi, l_partAt hR hi h hk hlt ⟨fun z => ?_, fun z => ?_⟩⟩
    · have hS := (bs_t hs (by omega)).mp z
      refine ⟨fun e => ⟨fun _ => ?_, fun n => absurd rfl n⟩, fun e => ⟨fun _ => ?_, fun n => absurd rfl n⟩⟩
      · rw [(cmp0 _ _).mp e] at hx
        have := fin _ (pb_hash hx (pb_no hb hS))
        rw [← hsh] at this
        exact this
      · have hn : ps[p]? ≠ some 35 := fun z2 => e ((cmp0 _ _).mpr (Option.some.inj (hx.symm.trans z2)))
        exact fin b (pb_skip hb hn (by rw [hS]; simp))
    · have hS : s.testBit p = true := by
        cases hb2 : s.testBit p
        · exact absurd ((bs_t hs (by omega)).mpr hb2) z
        · rfl
      refine ⟨fun e => ⟨fun z => absurd z (by decide), fun _ => ?_⟩, fun e => ⟨fun z => absurd z (by decide), fun _ => ?_⟩⟩
      · rw [(cmp0 _ _).mp e] at hx
        have := fin _ (pb_hash hx (pb_or hb hx hS))
        rw [← hsh, ← bs_or, ← bs_1 p (by omega)] at this
        exact this
      · have hn : ps[p]? ≠ some 35 := fun z2 => e ((cmp0 _ _).mpr (Option.some.inj (hx.symm.trans z2)))
        have hw : mB ps w p = true → (∃ p' b'', nI p + 1 = nI p' ∧ p' ≤ ps.length ∧ nI b ||| ((2 : Int32) <<< (nI p &&& 31)) = nI b'' ∧ ∀ q, b''.testBit q = pb ps w s.testBit p' q) ∧ ps.length - (nI p + 1).toNatClampNeg < ps.length - (nI p).toNatClampNeg := fun hm => by
          have := fin _ (pb_word hb hn hm hS)
          rw [← bs_or, ← bs_2 p (by omega)] at this
          exact this
        refine ⟨fun e2 => hw ?_, fun e2 => ⟨fun e3 => hw ?_, fun e3 => fin b (pb_skip hb hn ?_)⟩⟩
        · exact decide_eq_true ⟨hn, Or.inl (by rw [hx, (cmp0 _ _).mp e2])⟩
        · exact decide_eq_true ⟨hn, Or.inr (by rw [hx, (cmp0 _ _).mp e3])⟩
        · rw [show mB ps w p = false from decide_eq_false (by
            rintro ⟨_, h1 | h1⟩
            · exact e2 ((cmp0 _ _).mpr (Option.some.inj (hx.symm.trans h1)))
            · exact e3 ((cmp0 _ _).mpr (Option.some.inj (hx.symm.trans h1))))]
          rfl
theorem t_end (hR : Rep N ads c M) (hi : i + 2 < N) (h : TextL g ads c i ss ps) (hk : ps.length ≤ 6) {s : Nat} (hs : s < 2 ^ 31) {P : Int32 → Prop} (hP : P (bI (enB ps s))) : wp_Text_hasEnd g M (ads i) (nI s) P := by
  unfold enB at hP
  refine ⟨_, h.cnt hR hi, fun z => ⟨isB_0, ?_⟩, fun z => ⟨isB_1, ?_⟩⟩
  · rw [(bs_t hs (by omega)).mp z] at hP
    exact hP
  · cases hb : s.testBit ps.length
    · exact absurd ((bs_t hs (by omega)).mpr hb) z
    · rw [hb] at hP
      exact hP
theorem mvs_snoc {s : Nat} {ts : List Int64} {w : Int64} : mvs ps s (ts ++ [w]) = stp ps w (mvs ps s ts) := by simp [mvs]
theorem take_snoc {α : Type} {l : List α} {d : α} {j : Nat} (h : j < l.length) : l.take j ++ [l.getD j d] = l.take (j + 1) := by
  rw [List.take_succ, getD_some (d := d) h]; rfl
theorem t_takes (hR : Rep N ads c M) (hi : i + 2 < N) (h : TextL g ads c i ss ps) (hk : ps.length ≤ 6) {o : Nat} (ho : o + 2 < N) {ss2 : List Int32} {ts : List Int64} (h2 : TextL g ads c o ss2 ts) (hk2 : ts.length ≤ 6) {P : Int32 → Prop} (hP : P (bI (tks ps ts))) : wp_Text_takes g M (ads i) (ads o) P := by
  refine ⟨h.O hR hi, t_start hR hi h hk ?_⟩
  refine ⟨fun x2 x3 => ∃ j, x3 = nI j ∧ j ≤ ts.length ∧ x2 = nI (mvs ps (sta ps) (ts.take j)), fun _ x => ts.length - x.toNatClampNeg, ⟨0, rfl, Nat.zero_le _, rfl⟩, ?_⟩
  rintro x2 x3 ⟨j, rfl, hj, rfl⟩
  have hlt2 : mvs ps (sta ps) (ts.take j) < 2 ^ 31 := Nat.lt_trans (mvs_lt hk (sta_lt hk)) (by decide)
  refine ⟨_, h2.cnt hR ho, fun q => ?_, fun q => ?_⟩
  · have e : j = ts.length := Nat.le_antisymm hj (Nat.not_lt.mp fun z => absurd q (nI_ge z (by omega)))
    refine ⟨h.O hR hi, t_end hR hi h hk hlt2 ⟨bI_B _, ?_⟩⟩
    subst e
    rw [List.take_length]
    exact hP
  · have hlt : j < ts.length := Nat.not_le.mp fun z => q (nI_le z (by omega))
    refine ⟨h2.O hR ho, l_partAt hR ho h2 hk2 hlt ⟨h.O hR hi, t_behind hR hi h hk hlt2 ⟨⟨j + 1, nI_1 j, hlt, ?_⟩, mu_dec hlt (by omega)⟩⟩⟩
    rw [← take_snoc (d := 0) hlt, mvs_snoc]
end NFA
