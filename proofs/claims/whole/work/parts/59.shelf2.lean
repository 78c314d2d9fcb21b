/-! the shelf as a list: putting in and taking out -/
def insK (ss : List Int32) (v : Int32) : List (List Int32 × Int32) → List (List Int32 × Int32)
  | [] => [(ss, v)]
  | x :: K => if ltL x.1 ss then x :: insK ss v K else if x.1 = ss then (ss, v) :: K else (ss, v) :: x :: K
def delK (ss : List Int32) : List (List Int32 × Int32) → List (List Int32 × Int32)
  | [] => []
  | x :: K => if ltL x.1 ss then x :: delK ss K else if x.1 = ss then K else x :: K
section LISTS
variable {ss : List Int32} {v : Int32} {K : List (List Int32 × Int32)}
theorem pf_nil : pf [] ss = 0 := rfl
theorem pf_cons {x : List Int32 × Int32} : pf (x :: K) ss = if ltL x.1 ss then pf K ss + 1 else 0 := by
  unfold pf
  rw [List.takeWhile_cons]
  cases ltL x.1 ss <;> simp
theorem pf_le : pf K ss ≤ K.length := by
  induction K with
  | nil => exact Nat.le_refl _
  | cons x K ih =>
    rw [pf_cons]
    split
    · simp; exact ih
    · exact Nat.zero_le _
theorem isAtB_cons {x : List Int32 × Int32} {j : Nat} : isAtB (x :: K) ss (j + 1) = isAtB K ss j := rfl
theorem isAtB_0 {x : List Int32 × Int32} : isAtB (x :: K) ss 0 = decide (x.1 = ss) := rfl
theorem ins_set (h : isAtB K ss (pf K ss) = true) : insK ss v K = K.set (pf K ss) (ss, v) := by
  induction K with
  | nil => simp [isAtB] at h
  | cons x K ih =>
    rw [pf_cons] at h ⊢
    rw [insK]
    by_cases hl : ltL x.1 ss = true
    · rw [if_pos hl] at h ⊢
      rw [if_pos hl, ih (by rw [isAtB_cons] at h; exact h)]
      rfl
    · rw [if_neg hl] at h ⊢
      rw [isAtB_0] at h
      rw [if_neg hl, if_pos (of_decide_eq_true h)]
      rfl
theorem ins_put (h : isAtB K ss (pf K ss) = false) : insK ss v K = K.take (pf K ss) ++ (ss, v) :: K.drop (pf K ss) := by
  induction K with
  | nil => rfl
  | cons x K ih =>
    rw [pf_cons] at h ⊢
    rw [insK]
    by_cases hl : ltL x.1 ss = true
    · rw [if_pos hl] at h ⊢
      rw [if_pos hl, ih (by rw [isAtB_cons] at h; exact h)]
      rfl
    · rw [if_neg hl] at h ⊢
      rw [isAtB_0] at h
      rw [if_neg hl, if_neg (of_decide_eq_false h)]
      rfl
theorem del_no (h : isAtB K ss (pf K ss) = false) : delK ss K = K := by
  induction K with
  | nil => rfl
  | cons x K ih =>
    rw [pf_cons] at h
    rw [delK]
    by_cases hl : ltL x.1 ss = true
    · rw [if_pos hl] at h
      rw [if_pos hl, ih (by rw [isAtB_cons] at h; exact h)]
    · rw [if_neg hl] at h
      rw [isAtB_0] at h
      rw [if_neg hl, if_neg (of_decide_eq_false h)]
theorem del_yes (h : isAtB K ss (pf K ss) = true) : delK ss K = K.eraseIdx (pf K ss) := by
  induction K with
  | nil => simp [isAtB] at h
  | cons x K ih =>
    rw [pf_cons] at h ⊢
    rw [delK]
    by_cases hl : ltL x.1 ss = true
    · rw [if_pos hl] at h ⊢
      rw [if_pos hl, ih (by rw [isAtB_cons] at h; exact h)]
      rfl
    · rw [if_neg hl] at h ⊢
      rw [isAtB_0] at h
      rw [if_neg hl, if_pos (of_decide_eq_true h)]
      rfl
theorem nlt_gt {a : List Int32} (h1 : ¬ ltL a ss = true) (h2 : ¬ a = ss) : ltL ss a = true := by
  rcases ltL_tri a ss with h | h | h
  · exact absurd h h1
  · exact absurd h h2
  · exact h
theorem ltL_ne {a b : List Int32} (h : ltL a b = true) : a ≠ b := fun e => by subst e; rw [ltL_irrefl] at h; cases h
theorem ins_mem (hs : sorted K) (e : List Int32 × Int32) : e ∈ insK ss v K ↔ e = (ss, v) ∨ (e ∈ K ∧ e.1 ≠ ss) := by
  induction K with
  | nil => simp [insK]
  | cons x K ih =>
    obtain ⟨hx, hs'⟩ := List.pairwise_cons.mp hs
    rw [insK]
    by_cases hl : ltL x.1 ss = true
    · rw [if_pos hl, List.mem_cons, ih hs', List.mem_cons]
      constructor
      · rintro (rfl | h | h)
        · exact Or.inr ⟨Or.inl rfl, ltL_ne hl⟩
        · exact Or.inl h
        · exact Or.inr ⟨Or.inr h.1, h.2⟩
      · rintro (h | ⟨h | h, h2⟩)
        · exact Or.inr (Or.inl h)
        · exact Or.inl h
        · exact Or.inr (Or.inr ⟨h, h2⟩)
    · rw [if_neg hl]
      by_cases he : x.1 = ss
      · rw [if_pos he, List.mem_cons, List.mem_cons]
        constructor
        · rintro (h | h)
          · exact Or.inl h
          · exact Or.inr ⟨Or.inr h, fun z => ltL_ne (hx e h) (he.trans z.symm)⟩
        · rintro (h | ⟨h | h, h2⟩)
          · exact Or.inl h
          · exact absurd (h ▸ he) h2
          · exact Or.inr h
      · rw [if_neg he, List.mem_cons]
        have hgt := nlt_gt hl he
        constructor
        · rintro (h | h)
          · exact Or.inl h
          · refine Or.inr ⟨h, fun z => ?_⟩
            rcases List.mem_cons.mp h with h3 | h3
            · exact he (h3 ▸ z)
            · exact ltL_ne (ltL_trans _ _ _ hgt (hx e h3)) z.symm
        · rintro (h | ⟨h, h2⟩)
          · exact Or.inl h
          · exact Or.inr h
theorem ins_sorted (hs : sorted K) : sorted (insK ss v K) := by
  induction K with
  | nil => exact List.pairwise_singleton _ _
  | cons x K ih =>
    obtain ⟨hx, hs'⟩ := List.pairwise_cons.mp hs
    rw [insK]
    by_cases hl : ltL x.1 ss = true
    · rw [if_pos hl]
      refine List.pairwise_cons.mpr ⟨fun e he => ?_, ih hs'⟩
      rcases (ins_mem hs' e).mp he with h | h
      · rw [h]; exact hl
      · exact hx e h.1
    · rw [if_neg hl]
      by_cases he : x.1 = ss
      · rw [if_pos he]
        exact List.pairwise_cons.mpr ⟨fun e h => by have := hx e h; rw [he] at this; exact this, hs'⟩
      · rw [if_neg he]
        have hgt := nlt_gt hl he
        refine List.pairwise_cons.mpr ⟨fun e h => ?_, hs⟩
        rcases List.mem_cons.mp h with h3 | h3
        · rw [h3]; exact hgt
        · exact ltL_trans _ _ _ hgt (hx e h3)
theorem del_mem (hs : sorted K) (e : List Int32 × Int32) : e ∈ delK ss K ↔ e ∈ K ∧ e.1 ≠ ss := by
  induction K with
  | nil => simp [delK]
  | cons x K ih =>
    obtain ⟨hx, hs'⟩ := List.pairwise_cons.mp hs
    rw [delK]
    by_cases hl : ltL x.1 ss = true
    · rw [if_pos hl, List.mem_cons, ih hs', List.mem_cons]
      constructor
      · rintro (rfl | h)
        · exact ⟨Or.inl rfl, ltL_ne hl⟩
        · exact ⟨Or.inr h.1, h.2⟩
      · rintro ⟨h | h, h2⟩
        · exact Or.inl h
        · exact Or.inr ⟨h, h2⟩
    · rw [if_neg hl]
      by_cases he : x.1 = ss
      · rw [if_pos he, List.mem_cons]
        constructor
        · intro h
          exact ⟨Or.inr h, fun z => ltL_ne (hx e h) (he.trans z.symm)⟩
        · rintro ⟨h | h, h2⟩
          · exact absurd (h ▸ he) h2
          · exact h
      · rw [if_neg he]
        have hgt := nlt_gt hl he
        constructor
        · intro h
          refine ⟨h, fun z => ?_⟩
          rcases List.mem_cons.mp h with h3 | h3
          · exact he (h3 ▸ z)
          · exact ltL_ne (ltL_trans _ _ _ hgt (hx e h3)) z.symm
        · exact fun h => h.1
theorem del_sorted (hs : sorted K) : sorted (delK ss K) := by
  induction K with
  | nil => exact hs
  | cons x K ih =>
    obtain ⟨hx, hs'⟩ := List.pairwise_cons.mp hs
    rw [delK]
    by_cases hl : ltL x.1 ss = true
    · rw [if_pos hl]
      exact List.pairwise_cons.mpr ⟨fun e he => hx e ((del_mem hs' e).mp he).1, ih hs'⟩
    · rw [if_neg hl]
      by_cases he : x.1 = ss
      · rw [if_pos he]; exact hs'
      · rw [if_neg he]; exact hs
theorem isAt_mem (hs : sorted K) : isAtB K ss (pf K ss) = true ↔ ∃ u, (ss, u) ∈ K := by
  induction K with
  | nil => simp [isAtB]
  | cons x K ih =>
    obtain ⟨hx, hs'⟩ := List.pairwise_cons.mp hs
    rw [pf_cons]
    by_cases hl : ltL x.1 ss = true
    · rw [if_pos hl, isAtB_cons, ih hs']
      constructor
      · rintro ⟨u, h⟩; exact ⟨u, List.mem_cons_of_mem _ h⟩
      · rintro ⟨u, h⟩
        rcases List.mem_cons.mp h with h3 | h3
        · exact absurd (congrArg Prod.fst h3).symm (ltL_ne hl)
        · exact ⟨u, h3⟩
    · rw [if_neg hl, isAtB_0]
      constructor
      · intro h
        have := of_decide_eq_true h
        exact ⟨x.2, by rw [← this]; exact List.mem_cons_self⟩
      · rintro ⟨u, h⟩
        refine decide_eq_true ?_
        by_cases he : x.1 = ss
        · exact he
        · rcases List.mem_cons.mp h with h3 | h3
          · exact (congrArg Prod.fst h3).symm
          · exact absurd rfl (ltL_ne (ltL_trans _ _ _ (nlt_gt hl he) (hx _ h3)))
end LISTS
section MVF
variable {α : Type} {T : Nat → α} {f t j k : Nat}
theorem mvF_comp : mvF T f t k = T (mvF id f t k) := by
  unfold mvF mvL mvR
  by_cases h1 : k = t
  · rw [if_pos h1, if_pos h1]; rfl
  · rw [if_neg h1, if_neg h1]
    by_cases h2 : f < t
    · rw [if_pos h2, if_pos h2]
      by_cases h3 : f ≤ k ∧ k < t
      · rw [if_pos h3, if_pos h3]; rfl
      · rw [if_neg h3, if_neg h3]; rfl
    · rw [if_neg h2, if_neg h2]
      by_cases h3 : t < k ∧ k ≤ f
      · rw [if_pos h3, if_pos h3]; rfl
      · rw [if_neg h3, if_neg h3]; rfl
theorem mvF_id : mvF id f t k = if k = t then f else if f < t then (if f ≤ k ∧ k < t then k + 1 else k) else (if t < k ∧ k ≤ f then k - 1 else k) := rfl
theorem mvF_lt {n : Nat} (hf : f < n) (ht : t < n) (hk : k < n) : mvF id f t k < n := by
  rw [mvF_id]
  split
  · exact hf
  · split
    · split <;> omega
    · split <;> omega
theorem mvF_inj (h : mvF id f t j = mvF id f t k) : j = k := by
  rw [mvF_id, mvF_id] at h
  repeat' (split at h)
  all_goals omega
end MVF
