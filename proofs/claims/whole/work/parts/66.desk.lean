/-! the desk: its places -/
abbrev BS : Type := Int32 × Int32 × List Int32
def BndC (g : Nat → ClassId) (ads : Nat → Nat) (c : Nat → va_E) (i : Nat) (b : BS) : Prop :=
  c (8 + 4 * i) = .inr (2, [.ref (ads (9 + 4 * i)), .int b.1, .int b.2.1]) ∧ TextL g ads c (9 + 4 * i) b.2.2 (pP b.2.2)
def D0 (ads : Nat → Nat) (c : Nat → va_E) (ft : Int32) : Prop := c 0 = .inr (0, [.ref (ads 1), .ref (ads 4), .ref (ads 7), .ref (ads 104), .ref (ads 186), .int ft])
def D3 (g : Nat → ClassId) (ads : Nat → Nat) (c : Nat → va_E) : Prop := ∃ T, c 7 = arrR g 3 24 T ∧ ∀ i, i < 24 → T i = some (ads (8 + 4 * i))
def D6 (g : Nat → ClassId) (ads : Nat → Nat) (c : Nat → va_E) : Prop := ∃ q n wt sn wd, c = rsUp ads g c q n wt sn wd
def DeskC (g : Nat → ClassId) (ads : Nat → Nat) (c : Nat → va_E) (tp : List Int32) (ft : Int32) (B : Nat → BS) (K : List (List Int32 × Int32)) : Prop :=
  D0 ads c ft ∧ TextL g ads c 1 tp [] ∧ (∃ ss ps, TextL g ads c 4 ss ps) ∧ D3 g ads c ∧ (∀ i, i < 24 → BndC g ads c i (B i)) ∧ (∃ π, ShelfC g ads c K π) ∧ D6 g ads c
section DESK
variable {g : Nat → ClassId} {ads : Nat → Nat} {c c' : Nat → va_E} {tp : List Int32} {ft : Int32} {B : Nat → BS} {K : List (List Int32 × Int32)} {N : Nat} {M : Mem}
theorem BndC.same {i : Nat} {b : BS} (h : BndC g ads c i b) (he : ∀ j, 8 + 4 * i ≤ j → j ≤ 11 + 4 * i → c' j = c j) : BndC g ads c' i b :=
  ⟨by rw [he _ (by omega) (by omega)]; exact h.1, h.2.same (he _ (by omega) (by omega)) (he _ (by omega) (by omega)) (he _ (by omega) (by omega))⟩
theorem ShelfC.same {π : Nat → Nat} (h : ShelfC g ads c K π) (he : ∀ j, 104 ≤ j → j ≤ 185 → c' j = c j) : ShelfC g ads c' K π := by
  obtain ⟨h1, h2, ⟨T, h3, h4⟩, h5, h6, h7, h8⟩ := h
  refine ⟨by rw [he _ (by omega) (by omega)]; exact h1, h2, ⟨T, by rw [he _ (by omega) (by omega)]; exact h3, h4⟩, h5, h6, fun t ht => ?_, fun j e hj => ?_⟩
  · obtain ⟨ss, ps, v, hk⟩ := h7 t ht
    exact ⟨ss, ps, v, hk.same (fun j a b => he j (by omega) (by omega))⟩
  · have := (List.getElem?_eq_some_iff.mp hj).1
    have := h5 j (by omega)
    exact (h8 j e hj).same (fun j a b => he j (by omega) (by omega))
theorem D6.same (h : D6 g ads c) (he : ∀ j, 186 ≤ j → j ≤ 189 → c' j = c j) : D6 g ads c' := by
  obtain ⟨q, n, wt, sn, wd, h⟩ := h
  refine ⟨q, n, wt, sn, wd, rs_ext (fun _ _ => rfl) ?_ ?_ ?_ ?_⟩
  · rw [he _ (by omega) (by omega), h, rs_186]
  · rw [he _ (by omega) (by omega), h, rs_187]
  · rw [he _ (by omega) (by omega), h, rs_188]
  · rw [he _ (by omega) (by omega), h, rs_189]
theorem desk_1 {tp' : List Int32} (h : DeskC g ads c tp ft B K) (hT : TextTo g ads c 1 tp' [] c') : DeskC g ads c' tp' ft B K := by
  obtain ⟨h0, h1, ⟨ss, ps, h2⟩, ⟨T, h3, h3'⟩, h4, ⟨π, h5⟩, h6⟩ := h
  have he : ∀ j, j < 1 ∨ 3 < j → c' j = c j := fun j hj => hT.2 j (by omega) (by omega) (by omega)
  exact ⟨(he 0 (by omega)).trans h0, hT.1, ⟨ss, ps, hT.other h2 (by omega)⟩, ⟨T, (he 7 (by omega)).trans h3, h3'⟩, fun i hi => (h4 i hi).same (fun j a b => he j (by omega)), ⟨π, h5.same (fun j a b => he j (by omega))⟩, h6.same (fun j a b => he j (by omega))⟩
theorem desk_4 {ss : List Int32} {ps : List Int64} (h : DeskC g ads c tp ft B K) (hT : TextTo g ads c 4 ss ps c') : DeskC g ads c' tp ft B K := by
  obtain ⟨h0, h1, h2, ⟨T, h3, h3'⟩, h4, ⟨π, h5⟩, h6⟩ := h
  have he : ∀ j, j < 4 ∨ 6 < j → c' j = c j := fun j hj => hT.2 j (by omega) (by omega) (by omega)
  exact ⟨(he 0 (by omega)).trans h0, hT.other h1 (by omega), ⟨ss, ps, hT.1⟩, ⟨T, (he 7 (by omega)).trans h3, h3'⟩, fun i hi => (h4 i hi).same (fun j a b => he j (by omega)), ⟨π, h5.same (fun j a b => he j (by omega))⟩, h6.same (fun j a b => he j (by omega))⟩
theorem desk_f (h : DeskC g ads c tp ft B K) (ft' : Int32) : DeskC g ads (va_up c 0 (.inr (0, [.ref (ads 1), .ref (ads 4), .ref (ads 7), .ref (ads 104), .ref (ads 186), .int ft']))) tp ft' B K := by
  obtain ⟨h0, h1, ⟨ss, ps, h2⟩, ⟨T, h3, h3'⟩, h4, ⟨π, h5⟩, h6⟩ := h
  have he : ∀ j, 0 < j → va_up c 0 (.inr (0, [.ref (ads 1), .ref (ads 4), .ref (ads 7), .ref (ads 104), .ref (ads 186), .int ft'])) j = c j := fun j hj => up_ne (by omega)
  exact ⟨up_self, h1.same (he _ (by omega)) (he _ (by omega)) (he _ (by omega)), ⟨ss, ps, h2.same (he _ (by omega)) (he _ (by omega)) (he _ (by omega))⟩, ⟨T, (he 7 (by omega)).trans h3, h3'⟩, fun i hi => (h4 i hi).same (fun j a b => he j (by omega)), ⟨π, h5.same (fun j a b => he j (by omega))⟩, h6.same (fun j a b => he j (by omega))⟩
theorem desk_b {i : Nat} (hi : i < 24) {b : BS} (h : DeskC g ads c tp ft B K) (hb : BndC g ads c' i b) (he : ∀ j, j < 8 + 4 * i ∨ 11 + 4 * i < j → c' j = c j) : DeskC g ads c' tp ft (va_up B i b) K := by
  obtain ⟨h0, h1, ⟨ss, ps, h2⟩, ⟨T, h3, h3'⟩, h4, ⟨π, h5⟩, h6⟩ := h
  refine ⟨(he 0 (by omega)).trans h0, h1.same (he _ (by omega)) (he _ (by omega)) (he _ (by omega)), ⟨ss, ps, h2.same (he _ (by omega)) (he _ (by omega)) (he _ (by omega))⟩, ⟨T, (he 7 (by omega)).trans h3, h3'⟩, fun k hk => ?_, ⟨π, h5.same (fun j a b => he j (by omega))⟩, h6.same (fun j a b => he j (by omega))⟩
  by_cases hki : k = i
  · subst hki; rw [up_self]; exact hb
  · rw [up_ne hki]; exact (h4 k hk).same (fun j a b => he j (by omega))
theorem desk_s {K' : List (List Int32 × Int32)} (h : DeskC g ads c tp ft B K) (hS : ShelfTo g ads c K' c') : DeskC g ads c' tp ft B K' := by
  obtain ⟨h0, h1, ⟨ss, ps, h2⟩, ⟨T, h3, h3'⟩, h4, h5, h6⟩ := h
  obtain ⟨hS1, he⟩ := hS
  exact ⟨(he 0 (by omega)).trans h0, h1.same (he _ (by omega)) (he _ (by omega)) (he _ (by omega)), ⟨ss, ps, h2.same (he _ (by omega)) (he _ (by omega)) (he _ (by omega))⟩, ⟨T, (he 7 (by omega)).trans h3, h3'⟩, fun i hi => (h4 i hi).same (fun j a b => he j (by omega)), hS1, h6.same (fun j a b => he j (by omega))⟩
theorem desk_r {q n : Int32} {wt : Nat → Int32} {sn wd : Nat → Int64} (h : DeskC g ads c tp ft B K) : DeskC g ads (rsUp ads g c q n wt sn wd) tp ft B K := by
  obtain ⟨h0, h1, ⟨ss, ps, h2⟩, ⟨T, h3, h3'⟩, h4, ⟨π, h5⟩, h6⟩ := h
  have he : ∀ j, j < 186 → rsUp ads g c q n wt sn wd j = c j := fun j hj => rs_ne (by omega)
  refine ⟨(he 0 (by omega)).trans h0, h1.same (he _ (by omega)) (he _ (by omega)) (he _ (by omega)), ⟨ss, ps, h2.same (he _ (by omega)) (he _ (by omega)) (he _ (by omega))⟩, ⟨T, (he 7 (by omega)).trans h3, h3'⟩, fun i hi => (h4 i hi).same (fun j a b => he j (by omega)), ⟨π, h5.same (fun j a b => he j (by omega))⟩, ⟨q, n, wt, sn, wd, rs_ext (fun _ _ => rfl) rs_186 rs_187 rs_188 rs_189⟩⟩
/-! reads of the desk -/
section
variable (h : DeskC g ads c tp ft B K) (hR : Rep N ads c M) (hN : 190 ≤ N)
theorem d_O (h : DeskC g ads c tp ft B K) (hR : Rep N ads c M) (hN : 190 ≤ N) : isO M 0 (ads 0) := hR.O (by omega) h.1
theorem d_0 (h : DeskC g ads c tp ft B K) (hR : Rep N ads c M) (hN : 190 ≤ N) : gR M 0 (ads 0) 0 = some (ads 1) := hR.R (by omega) h.1 rfl
theorem d_1 (h : DeskC g ads c tp ft B K) (hR : Rep N ads c M) (hN : 190 ≤ N) : gR M 0 (ads 0) 1 = some (ads 4) := hR.R (by omega) h.1 rfl
theorem d_2 (h : DeskC g ads c tp ft B K) (hR : Rep N ads c M) (hN : 190 ≤ N) : gR M 0 (ads 0) 2 = some (ads 7) := hR.R (by omega) h.1 rfl
theorem d_3 (h : DeskC g ads c tp ft B K) (hR : Rep N ads c M) (hN : 190 ≤ N) : gR M 0 (ads 0) 3 = some (ads 104) := hR.R (by omega) h.1 rfl
theorem d_4 (h : DeskC g ads c tp ft B K) (hR : Rep N ads c M) (hN : 190 ≤ N) : gR M 0 (ads 0) 4 = some (ads 186) := hR.R (by omega) h.1 rfl
theorem d_5 (h : DeskC g ads c tp ft B K) (hR : Rep N ads c M) (hN : 190 ≤ N) : gI M 0 (ads 0) 5 = some ft := hR.I (by omega) h.1 rfl
theorem d_n (h : DeskC g ads c tp ft B K) (hR : Rep N ads c M) (hN : 190 ≤ N) : aN M (g 3) (ads 7) = some 24 := by
  obtain ⟨T, h3, -⟩ := h.2.2.2.1
  exact hR.len (by omega) h3
theorem d_a (h : DeskC g ads c tp ft B K) (hR : Rep N ads c M) (hN : 190 ≤ N) {i : Nat} (hi : i < 24) : aQ M (g 3) (ads 7) (nI i) = some (some (ads (8 + 4 * i))) := by
  obtain ⟨T, h3, h4⟩ := h.2.2.2.1
  rw [← h4 i hi]
  exact hR.rQ (by omega) h3 hi (by omega)
theorem d_b (h : DeskC g ads c tp ft B K) (hR : Rep N ads c M) (hN : 190 ≤ N) {i : Nat} (hi : i < 24) : isO M 2 (ads (8 + 4 * i)) := hR.O (by omega) (h.2.2.2.2.1 i hi).1
theorem d_q (h : DeskC g ads c tp ft B K) (hR : Rep N ads c M) (hN : 190 ≤ N) {i : Nat} (hi : i < 24) : gI M 2 (ads (8 + 4 * i)) 1 = some (B i).1 := hR.I (by omega) (h.2.2.2.2.1 i hi).1 rfl
theorem d_r (h : DeskC g ads c tp ft B K) (hR : Rep N ads c M) (hN : 190 ≤ N) {i : Nat} (hi : i < 24) : gI M 2 (ads (8 + 4 * i)) 2 = some (B i).2.1 := hR.I (by omega) (h.2.2.2.2.1 i hi).1 rfl
theorem d_p (h : DeskC g ads c tp ft B K) (hR : Rep N ads c M) (hN : 190 ≤ N) {i : Nat} (hi : i < 24) : gR M 2 (ads (8 + 4 * i)) 0 = some (ads (9 + 4 * i)) := hR.R (by omega) (h.2.2.2.2.1 i hi).1 rfl
theorem d_isBound (h : DeskC g ads c tp ft B K) (hR : Rep N ads c M) (hN : 190 ≤ N) {i : Nat} (hi : i < 24) {P : Int32 → Prop} (hP : P (bI (decide ((B i).1 ≠ -1)))) : wp_Bnd_isBound g M (ads (8 + 4 * i)) P := by
  refine ⟨_, d_q h hR hN hi, fun z => ⟨isB_0, ?_⟩, fun z => ⟨isB_1, ?_⟩⟩
  · rw [decide_eq_false (fun y => y z)] at hP; exact hP
  · rw [decide_eq_true z] at hP; exact hP
theorem d_boundAt (h : DeskC g ads c tp ft B K) (hR : Rep N ads c M) (hN : 190 ≤ N) {x : Int32} {P : Option Nat → Prop} (hS : ∀ k, k < 24 → x = nI k → (B k).1 ≠ -1 → P (some (ads (8 + 4 * k)))) (h0 : (∀ k, k < 24 → x = nI k → (B k).1 = -1) → P none) : wp_Desk_boundAt g M (ads 0) x P := by
  refine ⟨fun z => h0 (fun k hk e => absurd z (by rw [e]; exact nI_pos (by omega))), fun z => ⟨_, d_2 h hR hN, _, d_n h hR hN, fun y => ?_, fun y => h0 (fun k hk e => absurd (by rw [e]; exact nI_lt hk (by omega)) y)⟩⟩
  obtain ⟨k, hk, rfl⟩ := nI_of z
  have hk24 : k < 24 := (nI_ltI (by omega) (by omega)).mp y
  refine ⟨_, d_2 h hR hN, _, d_a h hR hN hk24, d_b h hR hN hk24, d_isBound h hR hN hk24 ⟨fun w => h0 (fun k2 hk2 e => ?_), fun w => ⟨_, d_2 h hR hN, _, d_a h hR hN hk24, hS k hk24 rfl ?_⟩⟩⟩
  · have : k = k2 := (nI_eq (by omega) (by omega)).mp e
    rw [bI_0] at w
    have := of_decide_eq_false w
    subst k2
    exact Decidable.not_not.mp this
  · intro e
    exact w (by rw [bI_0]; exact decide_eq_false (fun y => y e))
theorem d_isQueue {x : Int32} {P : Int32 → Prop} (hP : P (bI (decide (∃ k : Nat, k < 16 ∧ x = nI k)))) : wp_Desk_isQueue g M x P := by
  refine ⟨fun z => ⟨isB_0, ?_⟩, fun z => ⟨fun y => ⟨isB_0, ?_⟩, fun y => ⟨isB_1, ?_⟩⟩⟩
  · rw [decide_eq_false] at hP
    · exact hP
    · rintro ⟨k, hk, rfl⟩; exact nI_pos (by omega) z
  · rw [decide_eq_false] at hP
    · exact hP
    · rintro ⟨k, hk, rfl⟩; exact nI_ge (b := 16) hk (by omega) y
  · obtain ⟨k, hk, rfl⟩ := nI_of z
    have : k < 16 := Nat.not_le.mp fun w => y (nI_le (a := 16) w (by omega))
    rw [decide_eq_true ⟨k, this, rfl⟩] at hP
    exact hP
end
end DESK
