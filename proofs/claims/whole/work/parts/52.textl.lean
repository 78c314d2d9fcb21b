/-! a text as its signs and its parts -/
def TextL (g : Nat → ClassId) (ads : Nat → Nat) (c : Nat → va_E) (i : Nat) (ss : List Int32) (ps : List Int64) : Prop :=
  ∃ (sg : Nat → Int32) (pt : Nat → Int64), TextC g ads c i sg pt ss.length ps.length ∧ (∀ j, j < ss.length → sg j = ss.getD j 0) ∧ ∀ j, j < ps.length → pt j = ps.getD j 0
/-- c' is c but for the three places of the text at i, which now is ss, ps -/
def TextTo (g : Nat → ClassId) (ads : Nat → Nat) (c : Nat → va_E) (i : Nat) (ss : List Int32) (ps : List Int64) (c' : Nat → va_E) : Prop :=
  TextL g ads c' i ss ps ∧ ∀ j, j ≠ i → j ≠ i + 1 → j ≠ i + 2 → c' j = c j
section TEXTL
variable {g : Nat → ClassId} {N : Nat} {ads : Nat → Nat} {c : Nat → va_E} {M : Mem} {i : Nat} {ss : List Int32} {ps : List Int64}
theorem getD_app_lt {α : Type} {l : List α} {x d : α} {j : Nat} (h : j < l.length) : (l ++ [x]).getD j d = l.getD j d := by
  simp [List.getD, List.getElem?_append_left h]
theorem getD_app_eq {α : Type} {l : List α} {x d : α} : (l ++ [x]).getD l.length d = x := by
  simp [List.getD]
theorem TextL.same {c' : Nat → va_E} (h : TextL g ads c i ss ps) (h0 : c' i = c i) (h1 : c' (i + 1) = c (i + 1)) (h2 : c' (i + 2) = c (i + 2)) : TextL g ads c' i ss ps := by
  obtain ⟨sg, pt, hC, a, b⟩ := h
  refine ⟨sg, pt, ?_, a, b⟩
  unfold TextC
  rw [h0, h1, h2]
  exact hC
theorem mu_dec {j n : Nat} (h : j < n) (hn : n < 2 ^ 31) : n - (nI j + 1).toNatClampNeg < n - (nI j).toNatClampNeg := by
  rw [nI_1, nI_clamp (by omega), nI_clamp (by omega)]
  omega
theorem l_length (hR : Rep N ads c M) (hi : i + 2 < N) (h : TextL g ads c i ss ps) {P : Int32 → Prop} (hP : P (nI ss.length)) : wp_Text_length g M (ads i) P := by
  obtain ⟨sg, pt, hC, -, -⟩ := h
  exact s_length hR hi hC hP
theorem l_partCount (hR : Rep N ads c M) (hi : i + 2 < N) (h : TextL g ads c i ss ps) {P : Int32 → Prop} (hP : P (nI ps.length)) : wp_Text_partCount g M (ads i) P := by
  obtain ⟨sg, pt, hC, -, -⟩ := h
  exact s_partCount hR hi hC hP
theorem TextL.O (hR : Rep N ads c M) (hi : i + 2 < N) (h : TextL g ads c i ss ps) : isO M 1 (ads i) := by
  obtain ⟨sg, pt, hC, -, -⟩ := h
  exact hR.O (by omega) hC.1
theorem TextL.len (hR : Rep N ads c M) (hi : i + 2 < N) (h : TextL g ads c i ss ps) : gI M 1 (ads i) 2 = some (nI ss.length) := by
  obtain ⟨sg, pt, hC, -, -⟩ := h
  exact hR.I (by omega) hC.1 rfl
theorem TextL.cnt (hR : Rep N ads c M) (hi : i + 2 < N) (h : TextL g ads c i ss ps) : gI M 1 (ads i) 3 = some (nI ps.length) := by
  obtain ⟨sg, pt, hC, -, -⟩ := h
  exact hR.I (by omega) hC.1 rfl
theorem l_signAt (hR : Rep N ads c M) (hi : i + 2 < N) (h : TextL g ads c i ss ps) (hn : ss.length ≤ 60) {j : Nat} (hj : j < ss.length) {P : Int32 → Prop} (hP : P (ss.getD j 0)) : wp_Text_signAt g M (ads i) (nI j) P := by
  obtain ⟨sg, pt, hC, a, -⟩ := h
  exact s_signAt hR hi hC hn hj (by rw [a j hj]; exact hP)
theorem l_signOut (hR : Rep N ads c M) (hi : i + 2 < N) (h : TextL g ads c i ss ps) (hn : ss.length ≤ 60) {x : Int32} (hx : x < 0 ∨ nI ss.length ≤ x) {P : Int32 → Prop} (hP : P (-1)) : wp_Text_signAt g M (ads i) x P := by
  obtain ⟨sg, pt, hC, -, -⟩ := h
  exact s_signOut hR hi hC hn hx hP
theorem l_partAt (hR : Rep N ads c M) (hi : i + 2 < N) (h : TextL g ads c i ss ps) (hk : ps.length ≤ 6) {j : Nat} (hj : j < ps.length) {P : Int64 → Prop} (hP : P (ps.getD j 0)) : wp_Text_partAt g M (ads i) (nI j) P := by
  obtain ⟨sg, pt, hC, -, b⟩ := h
  exact s_partAt hR hi hC hk hj (by rw [b j hj]; exact hP)
/-- a byte that is stored is the byte -/
def isByte (x : Int32) : Prop := vp_nar .byte x.toInt8.toInt32 = x
theorem l_add (hR : Rep N ads c M) (hi : i + 2 < N) (h : TextL g ads c i ss ps) (hn : ss.length < 60) {x : Int32} (hx : isByte x) {P : Mem → Prop} (hP : ∀ c' M', Rep N ads c' M' → TextTo g ads c i (ss ++ [x]) ps c' → P M') : wp_Text_add g M (ads i) x P := by
  obtain ⟨sg, pt, hC, a, b⟩ := h
  refine s_add hR hi hC hn (fun M' hR' => hP _ M' hR' ⟨⟨upd sg ss.length (vp_nar .byte x.toInt8.toInt32), pt, ?_, fun j hj => ?_, b⟩, fun j h0 h1 h2 => textUp_ne h0 h1 h2⟩)
  · rw [List.length_append]; exact TextC.of_up
  · rw [show vp_nar .byte x.toInt8.toInt32 = x from hx]
    rw [List.length_append, List.length_singleton] at hj
    by_cases hjn : j = ss.length
    · subst hjn; rw [pk_us, getD_app_eq]
    · rw [pk_un hjn, getD_app_lt (by omega)]; exact a j (by omega)
theorem l_clear (hR : Rep N ads c M) (hi : i + 2 < N) (h : TextL g ads c i ss ps) {P : Mem → Prop} (hP : ∀ c' M', Rep N ads c' M' → TextTo g ads c i [] [] c' → P M') : wp_Text_clear g M (ads i) P := by
  obtain ⟨sg, pt, hC, a, b⟩ := h
  exact s_clear hR hi hC (fun M' hR' => hP _ M' hR' ⟨⟨sg, pt, TextC.of_up, fun j hj => absurd hj (Nat.not_lt_zero _), fun j hj => absurd hj (Nat.not_lt_zero _)⟩, fun j h0 h1 h2 => textUp_ne h0 h1 h2⟩)
theorem l_addPart (hR : Rep N ads c M) (hi : i + 2 < N) (h : TextL g ads c i ss ps) (hk : ps.length < 6) {x : Int64} {P : Mem → Prop} (hP : ∀ c' M', Rep N ads c' M' → TextTo g ads c i ss (ps ++ [x]) c' → P M') : wp_Text_addPart g M (ads i) x P := by
  obtain ⟨sg, pt, hC, a, b⟩ := h
  refine s_addPart hR hi hC hk (fun M' hR' => hP _ M' hR' ⟨⟨sg, vp_updL pt ps.length x, ?_, a, fun j hj => ?_⟩, fun j h0 h1 h2 => textUp_ne h0 h1 h2⟩)
  · rw [List.length_append]; exact TextC.of_up
  · rw [List.length_append, List.length_singleton] at hj
    by_cases hjn : j = ps.length
    · subst hjn; rw [pk_uLs, getD_app_eq]
    · rw [pk_uLn hjn, getD_app_lt (by omega)]; exact b j (by omega)
theorem TextTo.trans {c' c'' : Nat → va_E} {ss' : List Int32} {ps' : List Int64} (h1 : TextTo g ads c i ss ps c') (h2 : TextTo g ads c' i ss' ps' c'') : TextTo g ads c i ss' ps' c'' := ⟨h2.1, fun j a b d => (h2.2 j a b d).trans (h1.2 j a b d)⟩
theorem TextTo.other {c' : Nat → va_E} {j : Nat} {ss' : List Int32} {ps' : List Int64} (h1 : TextTo g ads c i ss' ps' c') (h : TextL g ads c j ss ps) (hd : j + 2 < i ∨ i + 2 < j) : TextL g ads c' j ss ps :=
  h.same (h1.2 j (by omega) (by omega) (by omega)) (h1.2 (j + 1) (by omega) (by omega) (by omega)) (h1.2 (j + 2) (by omega) (by omega) (by omega))
/-- copy: the other's signs and parts -/
theorem l_copy (hR : Rep N ads c M) (hi : i + 2 < N) {o : Nat} (ho : o + 2 < N) (hd : o + 2 < i ∨ i + 2 < o) {ss0 : List Int32} {ps0 : List Int64} (h : TextL g ads c i ss0 ps0) (h2 : TextL g ads c o ss ps) (hn : ss.length ≤ 60) (hk : ps.length ≤ 6) (hb : ∀ x ∈ ss, isByte x) {P : Mem → Prop} (hP : ∀ c' M', Rep N ads c' M' → TextTo g ads c i ss ps c' → P M') : wp_Text_copy g M (ads i) (ads o) P := by
  refine ⟨h.O hR hi, l_clear hR hi h (fun c1 M1 hR1 hT1 => ?_)⟩
  refine ⟨fun x N0 => ∃ (j : Nat) (c' : Nat → va_E), x = nI j ∧ j ≤ ss.length ∧ Rep N ads c' N0 ∧ TextTo g ads c i (ss.take j) [] c', fun x _ => ss.length - x.toNatClampNeg, ⟨0, c1, rfl, Nat.zero_le _, hR1, hT1⟩, ?_⟩
  rintro x N0 ⟨j, c', rfl, hj, hR', hT'⟩
  have h2' := hT'.other h2 hd
  refine ⟨_, h2'.len hR' ho, fun q => ?_, fun q => ?_⟩
  · -- the parts
    have hjn : j = ss.length := Nat.le_antisymm hj (Nat.not_lt.mp fun z => absurd q (nI_ge z (by omega)))
    subst hjn
    rw [List.take_length] at hT'
    refine ⟨fun x N1 => ∃ (j : Nat) (c2 : Nat → va_E), x = nI j ∧ j ≤ ps.length ∧ Rep N ads c2 N1 ∧ TextTo g ads c i ss (ps.take j) c2, fun x _ => ps.length - x.toNatClampNeg, ⟨0, c', rfl, Nat.zero_le _, hR', hT'⟩, ?_⟩
    rintro x N1 ⟨j, c2, rfl, hj2, hR2, hT2⟩
    have h22 := hT2.other h2 hd
    refine ⟨_, h22.cnt hR2 ho, fun q => ?_, fun q => ?_⟩
    · have hjn : j = ps.length := Nat.le_antisymm hj2 (Nat.not_lt.mp fun z => absurd q (nI_ge z (by omega)))
      subst hjn
      rw [List.take_length] at hT2
      exact hP c2 N1 hR2 hT2
    · have hlt : j < ps.length := Nat.not_le.mp fun z => q (nI_le z (by omega))
      refine ⟨h22.O hR2 ho, l_partAt hR2 ho h22 hk hlt ⟨hT2.1.O hR2 hi, l_addPart hR2 hi hT2.1 (by rw [List.length_take]; omega) (fun c3 M3 hR3 hT3 => ⟨⟨j + 1, c3, nI_1 j, hlt, hR3, ?_⟩, ?_⟩)⟩⟩
      · have h4 := hT2.trans hT3
        rw [show ps.take j ++ [ps.getD j 0] = ps.take (j + 1) by rw [List.take_succ, List.getD_eq_getElem?_getD, List.getElem?_eq_getElem hlt]; rfl] at h4
        exact h4
      · show ps.length - (nI j + 1).toNatClampNeg < ps.length - (nI j).toNatClampNeg
        rw [nI_1, nI_clamp (by omega), nI_clamp (by omega)]
        omega
  · have hlt : j < ss.length := Nat.not_le.mp fun z => q (nI_le z (by omega))
    have hx : ss.getD j 0 = ss[j] := by rw [List.getD_eq_getElem?_getD, List.getElem?_eq_getElem hlt]; rfl
    refine ⟨h2'.O hR' ho, l_signAt hR' ho h2' hn hlt ⟨hT'.1.O hR' hi, l_add hR' hi hT'.1 (by rw [List.length_take]; omega) (by rw [hx]; exact hb _ (List.getElem_mem hlt)) (fun c3 M3 hR3 hT3 => ⟨⟨j + 1, c3, nI_1 j, hlt, hR3, ?_⟩, ?_⟩)⟩⟩
    · have h4 := hT'.trans hT3
      rw [show ss.take j ++ [ss.getD j 0] = ss.take (j + 1) by rw [List.take_succ, List.getD_eq_getElem?_getD, List.getElem?_eq_getElem hlt]; rfl] at h4
      exact h4
    · show ss.length - (nI j + 1).toNatClampNeg < ss.length - (nI j).toNatClampNeg
      rw [nI_1, nI_clamp (by omega), nI_clamp (by omega)]
      omega
end TEXTL
