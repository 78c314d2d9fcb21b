/-! the order of texts -/
def ltL : List Int32 → List Int32 → Bool
  | [], [] => false
  | [], _ :: _ => true
  | _ :: _, [] => false
  | x :: xs, y :: ys => if x = y then ltL xs ys else decide (x < y)
/-- a sign that a tape can hold -/
def sgn (x : Int32) : Prop := ∃ n : Nat, 33 ≤ n ∧ n ≤ 126 ∧ x = nI n
theorem sgn_byteN : ∀ n, n < 127 → vp_nar .byte (nI n).toInt8.toInt32 = nI n := by decide +kernel
theorem sgn.byte {x : Int32} (h : sgn x) : isByte x := by
  obtain ⟨n, h1, h2, rfl⟩ := h
  exact sgn_byteN n (by omega)
theorem ltL_irrefl (a : List Int32) : ltL a a = false := by
  induction a with
  | nil => rfl
  | cons x xs ih => simp [ltL, ih]
theorem i32_tri (x y : Int32) : x < y ∨ x = y ∨ y < x := by
  rw [Int32.lt_iff_toInt_lt, Int32.lt_iff_toInt_lt, ← Int32.toInt_inj]
  omega
theorem ltL_tri (a : List Int32) : ∀ b, ltL a b = true ∨ a = b ∨ ltL b a = true := by
  induction a with
  | nil => intro b; cases b; exact Or.inr (Or.inl rfl); exact Or.inl rfl
  | cons x xs ih =>
    intro b
    cases b with
    | nil => exact Or.inr (Or.inr rfl)
    | cons y ys =>
      by_cases h : x = y
      · subst h
        rcases ih ys with z | z | z
        · exact Or.inl (by simp [ltL, z])
        · exact Or.inr (Or.inl (by rw [z]))
        · exact Or.inr (Or.inr (by simp [ltL, z]))
      · rcases i32_tri x y with z | z | z
        · exact Or.inl (by simp [ltL, h, z])
        · exact absurd z h
        · exact Or.inr (Or.inr (by simp [ltL, Ne.symm h, z]))
theorem ltL_trans (a : List Int32) : ∀ b d, ltL a b = true → ltL b d = true → ltL a d = true := by
  induction a with
  | nil =>
    intro b d h1 h2
    cases d with
    | nil => cases b <;> simp [ltL] at h2
    | cons z zs => rfl
  | cons x xs ih =>
    intro b d h1 h2
    cases b with
    | nil => simp [ltL] at h1
    | cons y ys =>
      cases d with
      | nil => simp [ltL] at h2
      | cons z zs =>
        by_cases hxy : x = y
        · subst hxy
          by_cases hxz : x = z
          · subst hxz
            simp [ltL] at h1 h2 ⊢
            exact ih ys zs h1 h2
          · simp [ltL, hxz] at h2 ⊢
            exact h2
        · by_cases hyz : y = z
          · subst hyz
            simp [ltL, hxy] at h1 ⊢
            exact h1
          · simp [ltL, hxy, hyz] at h1 h2
            have hxz : x < z := Int32.lt_trans h1 h2
            have hne : ¬ x = z := fun e => by subst e; exact Int32.lt_irrefl hxz
            simp [ltL, hne, hxz]
theorem ltL_asymm {a b : List Int32} (h : ltL a b = true) : ltL b a = false := by
  cases h2 : ltL b a
  · rfl
  · have := ltL_trans a b a h h2
    rw [ltL_irrefl] at this
    exact this.symm
section CMP
variable {g : Nat → ClassId} {N : Nat} {ads : Nat → Nat} {c : Nat → va_E} {M : Mem} {i : Nat} {ss : List Int32} {ps : List Int64}
theorem m_minN {a b : Nat} (ha : a < 2 ^ 31) (hb : b < 2 ^ 31) : m_minF (nI a) (nI b) = nI (min a b) := by
  unfold m_minF
  by_cases h : b < a
  · rw [if_pos (nI_lt h ha), Nat.min_eq_right (by omega)]
  · rw [if_neg (nI_nlt (by omega) hb), Nat.min_eq_left (by omega)]
theorem neg_iff (x : Int32) : x < 0 ↔ x.toInt < 0 := by
  rw [Int32.lt_iff_toInt_lt]; exact Iff.rfl
theorem zero_iff (x : Int32) : x = 0 ↔ x.toInt = 0 := by
  rw [← Int32.toInt_inj]; exact Iff.rfl
theorem t_cmp (hR : Rep N ads c M) (hi : i + 2 < N) (h : TextL g ads c i ss ps) (hn : ss.length ≤ 60) (hs : ∀ x ∈ ss, sgn x) {o : Nat} (ho : o + 2 < N) {ss2 : List Int32} {ps2 : List Int64} (h2 : TextL g ads c o ss2 ps2) (hn2 : ss2.length ≤ 60) (hs2 : ∀ x ∈ ss2, sgn x) {P : Int32 → Prop} (hP : ∀ v, (v < 0 ↔ ltL ss ss2 = true) → (v = 0 ↔ ss = ss2) → P v) : wp_Text_compareSigns g M (ads i) (ads o) P := by
  refine ⟨_, h.len hR hi, _, h2.len hR ho, ?_⟩
  rw [m_minN (by omega) (by omega)]
  refine ⟨fun x => ∃ j, x = nI j ∧ j ≤ min ss.length ss2.length ∧ ltL (ss.drop j) (ss2.drop j) = ltL ss ss2 ∧ (ss.drop j = ss2.drop j ↔ ss = ss2), fun x => min ss.length ss2.length - x.toNatClampNeg, ⟨0, rfl, Nat.zero_le _, rfl, Iff.rfl⟩, ?_⟩
  rintro _ ⟨j, rfl, hj, hl, he⟩
  refine ⟨fun q => ⟨_, h.len hR hi, _, h2.len hR ho, ?_⟩, fun q => ?_⟩
  · have e : j = min ss.length ss2.length := Nat.le_antisymm hj (Nat.not_lt.mp fun z => absurd q (nI_ge z (by omega)))
    have ht := pk_sub_toInt (a := ss.length) (b := ss2.length) (by omega) (by omega)
    refine hP _ ?_ ?_
    · rw [neg_iff, ht, ← hl]
      rcases Nat.lt_trichotomy ss.length ss2.length with z | z | z
      · rw [List.drop_of_length_le (by omega : ss.length ≤ j), List.drop_eq_getElem_cons (by omega : j < ss2.length)]
        exact ⟨fun _ => rfl, fun _ => by omega⟩
      · rw [List.drop_of_length_le (by omega : ss.length ≤ j), List.drop_of_length_le (by omega : ss2.length ≤ j)]
        exact ⟨fun y => by omega, fun y => by cases y⟩
      · rw [List.drop_of_length_le (by omega : ss2.length ≤ j), List.drop_eq_getElem_cons (by omega : j < ss.length)]
        exact ⟨fun y => by omega, fun y => by cases y⟩
    · rw [zero_iff, ht, ← he]
      rcases Nat.lt_trichotomy ss.length ss2.length with z | z | z
      · rw [List.drop_of_length_le (by omega : ss.length ≤ j), List.drop_eq_getElem_cons (by omega : j < ss2.length)]
        exact ⟨fun _ => by omega, fun y => by cases y⟩
      · rw [List.drop_of_length_le (by omega : ss.length ≤ j), List.drop_of_length_le (by omega : ss2.length ≤ j)]
        exact ⟨fun y => rfl, fun y => by omega⟩
      · rw [List.drop_of_length_le (by omega : ss2.length ≤ j), List.drop_eq_getElem_cons (by omega : j < ss.length)]
        exact ⟨fun y => by omega, fun y => by cases y⟩
  · have hlt : j < min ss.length ss2.length := Nat.not_le.mp fun z => q (nI_le z (by omega))
    have l1 : j < ss.length := by omega
    have l2 : j < ss2.length := by omega
    have hx : ss.getD j 0 = ss[j] := by rw [List.getD_eq_getElem?_getD, List.getElem?_eq_getElem l1]; rfl
    have hy : ss2.getD j 0 = ss2[j] := by rw [List.getD_eq_getElem?_getD, List.getElem?_eq_getElem l2]; rfl
    obtain ⟨m, m1, m2, m3⟩ := hs _ (List.getElem_mem l1)
    obtain ⟨k, k1, k2, k3⟩ := hs2 _ (List.getElem_mem l2)
    have ht := pk_sub_toInt (a := m) (b := k) (by omega) (by omega)
    rw [List.drop_eq_getElem_cons l1, List.drop_eq_getElem_cons l2, m3, k3] at hl he
    refine ⟨h.O hR hi, l_signAt hR hi h hn l1 ⟨h2.O hR ho, l_signAt hR ho h2 hn2 l2 ?_⟩⟩
    rw [hx, hy, m3, k3]
    refine ⟨fun z => ⟨⟨j + 1, nI_1 j, hlt, ?_, ?_⟩, mu_dec hlt (by omega)⟩, fun z => hP _ ?_ ?_⟩
    · rw [zero_iff, ht] at z
      have : m = k := by omega
      subst this
      simp [ltL] at hl
      exact hl
    · rw [zero_iff, ht] at z
      have : m = k := by omega
      subst this
      simp at he
      exact he
    · rw [zero_iff, ht] at z
      have hne : ¬ nI m = nI k := fun y => z (by rw [nI_eq (by omega) (by omega)] at y; omega)
      rw [neg_iff, ht, ← hl, ltL, if_neg hne, decide_eq_true_iff, nI_ltI (by omega) (by omega)]
      omega
    · rw [zero_iff, ht] at z ⊢
      rw [← he]
      refine ⟨fun y => absurd y z, fun y => ?_⟩
      have := (List.cons.inj y).1
      rw [nI_eq (by omega) (by omega)] at this
      omega
end CMP
