/-! Text's methods, over places -/
section TEXT
variable {g : Nat → ClassId} {N : Nat} {ads : Nat → Nat} {c : Nat → va_E} {M : Mem} {i : Nat} {sg : Nat → Int32} {pt : Nat → Int64} {n k : Nat}
theorem TextC.up {j : Nat} {e : va_E} (h : TextC g ads c i sg pt n k) (h0 : j ≠ i) (h1 : j ≠ i + 1) (h2 : j ≠ i + 2) : TextC g ads (va_up c j e) i sg pt n k := by
  unfold TextC
  rw [up_ne (Ne.symm h0), up_ne (Ne.symm h1), up_ne (Ne.symm h2)]
  exact h
theorem s_length (hR : Rep N ads c M) (hi : i + 2 < N) (h : TextC g ads c i sg pt n k) {P : Int32 → Prop} (hP : P (nI n)) : wp_Text_length g M (ads i) P := ⟨_, hR.I (by omega) h.1 rfl, hP⟩
theorem s_partCount (hR : Rep N ads c M) (hi : i + 2 < N) (h : TextC g ads c i sg pt n k) {P : Int32 → Prop} (hP : P (nI k)) : wp_Text_partCount g M (ads i) P := ⟨_, hR.I (by omega) h.1 rfl, hP⟩
theorem s_signAt (hR : Rep N ads c M) (hi : i + 2 < N) (h : TextC g ads c i sg pt n k) (hn : n ≤ 60) {j : Nat} (hj : j < n) {P : Int32 → Prop} (hP : P (sg j)) : wp_Text_signAt g M (ads i) (nI j) P := by
  refine ⟨fun q => absurd q (nI_pos (by omega)), fun _ => ⟨_, hR.I (by omega) h.1 rfl, fun q => absurd q (nI_ge hj (by omega)), fun _ => ⟨_, hR.R (by omega) h.1 rfl, _, hR.len (by omega) h.2.1, fun q => absurd q (nI_ge (by omega) (by omega)), fun _ => ⟨_, hR.R (by omega) h.1 rfl, _, hR.rI (by omega) h.2.1 (by omega) (by omega), hP⟩⟩⟩⟩
theorem s_signOut (hR : Rep N ads c M) (hi : i + 2 < N) (h : TextC g ads c i sg pt n k) (hn : n ≤ 60) {x : Int32} (hx : x < 0 ∨ nI n ≤ x) {P : Int32 → Prop} (hP : P (-1)) : wp_Text_signAt g M (ads i) x P := by
  refine ⟨fun _ => hP, fun q => ⟨_, hR.I (by omega) h.1 rfl, fun _ => hP, fun q2 => ?_⟩⟩
  exact absurd hx (by rintro (h1 | h1); exact q h1; exact q2 h1)
theorem s_partAt (hR : Rep N ads c M) (hi : i + 2 < N) (h : TextC g ads c i sg pt n k) (hk : k ≤ 6) {j : Nat} (hj : j < k) {P : Int64 → Prop} (hP : P (pt j)) : wp_Text_partAt g M (ads i) (nI j) P := by
  refine ⟨fun q => absurd q (nI_pos (by omega)), fun _ => ⟨_, hR.I (by omega) h.1 rfl, fun q => absurd q (nI_ge hj (by omega)), fun _ => ⟨_, hR.R (by omega) h.1 rfl, _, hR.len (by omega) h.2.2, fun q => absurd q (nI_ge (by omega) (by omega)), fun _ => ⟨_, hR.R (by omega) h.1 rfl, _, hR.rL (by omega) h.2.2 (by omega) (by omega), hP⟩⟩⟩⟩
/-- the places of a text, written anew -/
def textUp (ads : Nat → Nat) (g : Nat → ClassId) (c : Nat → va_E) (i : Nat) (sg : Nat → Int32) (pt : Nat → Int64) (n k : Nat) : Nat → va_E := va_up (va_up (va_up c i (.inr (1, [.ref (ads (i + 1)), .ref (ads (i + 2)), .int (nI n), .int (nI k)]))) (i + 1) (.inl (g 0, 60, .inl sg))) (i + 2) (.inl (g 1, 6, .inr (.inl pt)))
theorem TextC.of_up : TextC g ads (textUp ads g c i sg pt n k) i sg pt n k := by
  unfold TextC textUp
  refine ⟨?_, ?_, up_self⟩
  · rw [up_ne (by omega), up_ne (by omega), up_self]
  · rw [up_ne (by omega), up_self]
theorem textUp_ne {j : Nat} (h0 : j ≠ i) (h1 : j ≠ i + 1) (h2 : j ≠ i + 2) : textUp ads g c i sg pt n k j = c j := by
  unfold textUp
  rw [up_ne h2, up_ne h1, up_ne h0]
theorem textUp_self (h : TextC g ads c i sg pt n k) : textUp ads g c i sg pt n k = c := by
  funext j
  by_cases h2 : j = i + 2
  · subst h2; rw [TextC.of_up.2.2, h.2.2]
  · by_cases h1 : j = i + 1
    · subst h1; rw [TextC.of_up.2.1, h.2.1]
    · by_cases h0 : j = i
      · subst h0; rw [TextC.of_up.1, h.1]
      · exact textUp_ne h0 h1 h2
theorem textUp_up {sg' : Nat → Int32} {pt' : Nat → Int64} {n' k' : Nat} : textUp ads g (textUp ads g c i sg pt n k) i sg' pt' n' k' = textUp ads g c i sg' pt' n' k' := by
  funext j
  by_cases h2 : j = i + 2
  · subst h2; rw [TextC.of_up.2.2, TextC.of_up.2.2]
  · by_cases h1 : j = i + 1
    · subst h1; rw [TextC.of_up.2.1, TextC.of_up.2.1]
    · by_cases h0 : j = i
      · subst h0; rw [TextC.of_up.1, TextC.of_up.1]
      · rw [textUp_ne h0 h1 h2, textUp_ne h0 h1 h2, textUp_ne h0 h1 h2]
/-- by what a cell is changed, the text is the same but for that -/
theorem up_obj (h : TextC g ads c i sg pt n k) {n' k' : Nat} : va_up c i (.inr (1, [.ref (ads (i + 1)), .ref (ads (i + 2)), .int (nI n'), .int (nI k')])) = textUp ads g c i sg pt n' k' := by
  funext j
  unfold textUp
  by_cases h2 : j = i + 2
  · subst h2; rw [up_self, up_ne (by omega), h.2.2]
  · rw [up_ne h2]
    by_cases h1 : j = i + 1
    · subst h1; rw [up_self, up_ne (by omega), h.2.1]
    · rw [up_ne h1]
theorem up_sg (h : TextC g ads c i sg pt n k) {sg' : Nat → Int32} : va_up c (i + 1) (.inl (g 0, 60, .inl sg')) = textUp ads g c i sg' pt n k := by
  funext j
  unfold textUp
  by_cases h2 : j = i + 2
  · subst h2; rw [up_self, up_ne (by omega), h.2.2]
  · rw [up_ne h2]
    by_cases h1 : j = i + 1
    · subst h1; rw [up_self, up_self]
    · rw [up_ne h1, up_ne h1]
      by_cases h0 : j = i
      · subst h0; rw [up_self, h.1]
      · rw [up_ne h0]
theorem up_pt (h : TextC g ads c i sg pt n k) {pt' : Nat → Int64} : va_up c (i + 2) (.inl (g 1, 6, .inr (.inl pt'))) = textUp ads g c i sg pt' n k := by
  funext j
  unfold textUp
  by_cases h2 : j = i + 2
  · subst h2; rw [up_self, up_self]
  · rw [up_ne h2, up_ne h2]
    by_cases h1 : j = i + 1
    · subst h1; rw [up_self, h.2.1]
    · rw [up_ne h1]
      by_cases h0 : j = i
      · subst h0; rw [up_self, h.1]
      · rw [up_ne h0]
theorem s_add (hR : Rep N ads c M) (hi : i + 2 < N) (h : TextC g ads c i sg pt n k) (hn : n < 60) {x : Int32} {P : Mem → Prop} (hP : ∀ M', Rep N ads (textUp ads g c i (upd sg n (vp_nar .byte x.toInt8.toInt32)) pt (n + 1) k) M' → P M') : wp_Text_add g M (ads i) x P := by
  refine ⟨_, hR.I (by omega) h.1 rfl, _, hR.R (by omega) h.1 rfl, _, hR.len (by omega) h.2.1, fun q => absurd q (nI_ge (by omega) (by omega)), fun _ => ⟨_, hR.R (by omega) h.1 rfl, _, hR.I (by omega) h.1 rfl, _, hR.wI (by omega) h.2.1 (by omega) (by omega) _, ?_⟩⟩
  have hR1 := hR.up (i := i + 1) (by omega) (.inl (g 0, 60, .inl (upd sg n (vp_nar .byte x.toInt8.toInt32))))
  rw [up_sg h] at hR1
  have h1 : TextC g ads (textUp ads g c i (upd sg n (vp_nar .byte x.toInt8.toInt32)) pt n k) i (upd sg n (vp_nar .byte x.toInt8.toInt32)) pt n k := TextC.of_up
  refine ⟨_, hR1.I (by omega) h1.1 rfl, _, hR1.wV (by omega) h1.1 (Nat.le_of_ble_eq_true rfl), hP _ ?_⟩
  have hR2 := hR1.up (i := i) (by omega) (.inr (1, [.ref (ads (i + 1)), .ref (ads (i + 2)), .int (nI (n + 1)), .int (nI k)]))
  rw [up_obj h1, textUp_up] at hR2
  rw [nI_succ] at hR2
  exact hR2
theorem s_clear (hR : Rep N ads c M) (hi : i + 2 < N) (h : TextC g ads c i sg pt n k) {P : Mem → Prop} (hP : ∀ M', Rep N ads (textUp ads g c i sg pt 0 0) M' → P M') : wp_Text_clear g M (ads i) P := by
  have hR1 := hR.up (i := i) (by omega) (.inr (1, [.ref (ads (i + 1)), .ref (ads (i + 2)), .int (nI 0), .int (nI k)]))
  rw [up_obj h] at hR1
  have h1 : TextC g ads (textUp ads g c i sg pt 0 k) i sg pt 0 k := TextC.of_up
  refine ⟨_, hR.wV (by omega) h.1 (Nat.le_of_ble_eq_true rfl), _, hR1.wV (by omega) h1.1 (Nat.le_of_ble_eq_true rfl), hP _ ?_⟩
  have hR2 := hR1.up (i := i) (by omega) (.inr (1, [.ref (ads (i + 1)), .ref (ads (i + 2)), .int (nI 0), .int (nI 0)]))
  rw [up_obj h1, textUp_up] at hR2
  exact hR2
theorem s_addPart (hR : Rep N ads c M) (hi : i + 2 < N) (h : TextC g ads c i sg pt n k) (hk : k < 6) {x : Int64} {P : Mem → Prop} (hP : ∀ M', Rep N ads (textUp ads g c i sg (vp_updL pt k x) n (k + 1)) M' → P M') : wp_Text_addPart g M (ads i) x P := by
  refine ⟨_, hR.I (by omega) h.1 rfl, _, hR.R (by omega) h.1 rfl, _, hR.len (by omega) h.2.2, fun q => absurd q (nI_ge (by omega) (by omega)), fun _ => ⟨_, hR.R (by omega) h.1 rfl, _, hR.I (by omega) h.1 rfl, _, hR.wL (by omega) h.2.2 (by omega) (by omega) _, ?_⟩⟩
  have hR1 := hR.up (i := i + 2) (by omega) (.inl (g 1, 6, .inr (.inl (vp_updL pt k x))))
  rw [up_pt h] at hR1
  have h1 : TextC g ads (textUp ads g c i sg (vp_updL pt k x) n k) i sg (vp_updL pt k x) n k := TextC.of_up
  refine ⟨_, hR1.I (by omega) h1.1 rfl, _, hR1.wV (by omega) h1.1 (Nat.le_of_ble_eq_true rfl), hP _ ?_⟩
  have hR2 := hR1.up (i := i) (by omega) (.inr (1, [.ref (ads (i + 1)), .ref (ads (i + 2)), .int (nI n), .int (nI (k + 1))]))
  rw [up_obj h1, textUp_up] at hR2
  rw [nI_succ] at hR2
  exact hR2
end TEXT
