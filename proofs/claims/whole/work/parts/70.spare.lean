section SPARE
variable {g : Nat → ClassId} {ads : Nat → Nat} {c : Nat → va_E} {tp : List Int32} {ft : Int32} {B : Nat → BS} {K : List (List Int32 × Int32)} {N : Nat} {M : Mem}
noncomputable def cI (p : Prop) : Bool := @decide p (Classical.propDecidable p)
theorem cI_t {p : Prop} : cI p = true ↔ p := by unfold cI; exact @decide_eq_true_iff p (Classical.propDecidable p)
theorem cI_f {p : Prop} : cI p = false ↔ ¬ p := by unfold cI; exact @decide_eq_false_iff_not p (Classical.propDecidable p)
def win (B : Nat → BS) (i j : Nat) : Prop := fw (pP (B i).2.2) (pP (B j).2.2) false = 0
def spP (B : Nat → BS) (q : Int32) (i j : Nat) : Prop := j ≠ i ∧ (B j).1 = q ∧ win B i j ∧ (j < i ∨ ¬ win B j i)
def spX (B : Nat → BS) (q : Int32) (i : Nat) : Prop := ∃ j, j < 24 ∧ spP B q i j
noncomputable def spQ (B : Nat → BS) (q : Int32) : Nat → Int32
  | 0 => 0
  | n + 1 => if cI ((B n).1 = q ∧ spX B q n) then spQ B q n ||| ((1 : Int32) <<< (nI n &&& 31)) else spQ B q n
theorem isQ_ne {q : Int32} (h : isQ q) : q ≠ -1 := by
  obtain ⟨k, hk, rfl⟩ := h
  intro z
  have : nI k < 0 := by rw [z]; decide
  exact nI_pos (by omega) this
theorem d_within (h : DeskC g ads c tp ft B K) (hR : Rep N ads c M) (hN : 190 ≤ N) {i j : Nat} (hi : i < 24) (hj : j < 24) (hbi : (B i).1 ≠ -1) (hbj : (B j).1 ≠ -1) {P : Int32 → Mem → Prop} (hP : ∀ c' M', Rep N ads c' M' → DeskC g ads c' tp ft B K → Fr c c' → P (bI (cI (win B i j))) M') : wp_Desk_isWithin g M (ads 0) (nI i) (nI j) P := by
  refine ⟨d_O h hR hN, d_few (fl := false) h hR hN (fun k l hk hl e1 e2 _ _ hlt c' M' hR' h' f' => ?_) (fun hno => ?_)⟩
  · have e3 : i = k := (nI_eq (by omega) (by omega)).mp e1
    have e4 : j = l := (nI_eq (by omega) (by omega)).mp e2
    subst e3
    subst e4
    have := hP c' M' hR' h' f'
    refine ⟨fun z => ⟨isB_1, ?_⟩, fun z => ⟨isB_0, ?_⟩⟩
    · rw [cI_t.mpr (show win B i j from (nI_eq (b := 0) hlt (by omega)).mp z)] at this; exact this
    · rw [cI_f.mpr (fun y : win B i j => z (by unfold win at y; rw [y]; rfl))] at this; exact this
  · rcases hno with z | z
    · exact absurd (z i hi rfl) hbi
    · exact absurd (z j hj rfl) hbj
theorem d_isSpare (h : DeskC g ads c tp ft B K) (hR : Rep N ads c M) (hN : 190 ≤ N) {i : Nat} (hi : i < 24) {q : Int32} (hq : isQ q) (hiq : (B i).1 = q) {P : Int32 → Mem → Prop} (hP : ∀ c' M', Rep N ads c' M' → DeskC g ads c' tp ft B K → Fr c c' → P (bI (cI (spX B q i))) M') : wp_Desk_isSpare g M (ads 0) (nI i) q P := by
  have hbi : (B i).1 ≠ -1 := by rw [hiq]; exact isQ_ne hq
  refine ⟨fun x M' => ∃ (j : Nat) (c' : Nat → va_E), x = nI j ∧ j ≤ 24 ∧ Rep N ads c' M' ∧ DeskC g ads c' tp ft B K ∧ Fr c c' ∧ ∀ k, k < j → ¬ spP B q i k, fun x _ => 24 - x.toNatClampNeg, ⟨0, c, rfl, Nat.zero_le _, hR, h, Fr.refl, fun k hk => absurd hk (Nat.not_lt_zero _)⟩, ?_⟩
  rintro _ M1 ⟨j, c1, rfl, hj, hR1, h1, f1, hall⟩
  refine ⟨_, d_2 h1 hR1 hN, _, d_n h1 hR1 hN, fun z => ⟨isB_0, ?_⟩, fun z => ?_⟩
  · have e : j = 24 := Nat.le_antisymm hj (Nat.not_lt.mp fun y => absurd z (nI_ge y (by omega)))
    subst e
    have := hP c1 M1 hR1 h1 f1
    rw [cI_f.mpr (fun y : spX B q i => by obtain ⟨k, hk, hs⟩ := y; exact hall k hk hs)] at this
    exact this
  · have hlt : j < 24 := Nat.not_le.mp fun y => z (nI_le y (by omega))
    have go : ∀ {c' : Nat → va_E} {M' : Mem}, Rep N ads c' M' → DeskC g ads c' tp ft B K → Fr c c' → ¬ spP B q i j → (∃ (j' : Nat) (c' : Nat → va_E), nI j + 1 = nI j' ∧ j' ≤ 24 ∧ Rep N ads c' M' ∧ DeskC g ads c' tp ft B K ∧ Fr c c' ∧ ∀ k, k < j' → ¬ spP B q i k) ∧ 24 - (nI j + 1).toNatClampNeg < 24 - (nI j).toNatClampNeg := fun {c' M'} a1 a2 a3 a4 =>
      ⟨⟨j + 1, c', nI_1 j, hlt, a1, a2, a3, fun k hk => if hkj : k = j then hkj ▸ a4 else hall k (by omega)⟩, mu_dec hlt (by omega)⟩
    have yes : ∀ {c' : Nat → va_E} {M' : Mem}, Rep N ads c' M' → DeskC g ads c' tp ft B K → Fr c c' → spP B q i j → isB (1 : Int32) ∧ P 1 M' := fun {c' M'} a1 a2 a3 a4 => by
      have := hP c' M' a1 a2 a3
      rw [cI_t.mpr (show spX B q i from ⟨j, hlt, a4⟩)] at this
      exact ⟨isB_1, this⟩
    refine ⟨fun y => go hR1 h1 f1 (fun s => s.1 ((nI_eq (by omega) (by omega)).mp y)), fun y => ⟨_, d_2 h1 hR1 hN, _, d_a h1 hR1 hN hlt, d_b h1 hR1 hN hlt, _, d_q h1 hR1 hN hlt, fun y2 => ⟨d_O h1 hR1 hN, ?_⟩, fun y2 => go hR1 h1 f1 (fun s => y2 s.2.1)⟩⟩
    have hne : j ≠ i := fun w => y (by rw [w])
    have hbj : (B j).1 ≠ -1 := by rw [y2]; exact isQ_ne hq
    refine d_within h1 hR1 hN hi hlt hbi hbj (fun c2 M2 hR2 h2 f2 => ⟨fun y3 => go hR2 h2 (f1.trans f2) (fun s => cI_f.mp (bI_0.mp y3) s.2.2.1), fun y3 => ?_⟩)
    have hw := cI_t.mp (bI_t y3)
    refine ⟨fun y4 => yes hR2 h2 (f1.trans f2) ⟨hne, y2, hw, Or.inl ((nI_ltI (by omega) (by omega)).mp y4)⟩, fun y4 => ⟨d_O h2 hR2 hN, d_within h2 hR2 hN hlt hi hbj hbi (fun c3 M3 hR3 h3 f3 => ⟨fun y5 => yes hR3 h3 ((f1.trans f2).trans f3) ⟨hne, y2, hw, Or.inr (cI_f.mp (bI_0.mp y5))⟩, fun y5 => go hR3 h3 ((f1.trans f2).trans f3) (fun s => ?_)⟩)⟩⟩
    rcases s.2.2.2 with w | w
    · exact y4 (nI_lt w (by omega))
    · exact w (cI_t.mp (bI_t y5))
theorem d_spare (h : DeskC g ads c tp ft B K) (hR : Rep N ads c M) (hN : 190 ≤ N) {q : Int32} {P : Int32 → Mem → Prop} (hP : isQ q → ∀ c' M', Rep N ads c' M' → DeskC g ads c' tp ft B K → Fr c c' → P (spQ B q 24) M') (hP0 : ¬ isQ q → P 0 M) : wp_Desk_spare g M (ads 0) q P := by
  refine d_isQueue ⟨fun z => hP0 (of_decide_eq_false (bI_0.mp z)), fun z => ?_⟩
  have hq : isQ q := of_decide_eq_true (bI_t z)
  refine ⟨fun x2 x3 M' => ∃ (j : Nat) (c' : Nat → va_E), x3 = nI j ∧ j ≤ 24 ∧ x2 = spQ B q j ∧ Rep N ads c' M' ∧ DeskC g ads c' tp ft B K ∧ Fr c c', fun _ x _ => 24 - x.toNatClampNeg, ⟨0, c, rfl, Nat.zero_le _, rfl, hR, h, Fr.refl⟩, ?_⟩
  rintro _ _ M1 ⟨j, c1, rfl, hj, rfl, hR1, h1, f1⟩
  refine ⟨_, d_2 h1 hR1 hN, _, d_n h1 hR1 hN, fun y => ?_, fun y => ?_⟩
  · have e : j = 24 := Nat.le_antisymm hj (Nat.not_lt.mp fun w => absurd y (nI_ge w (by omega)))
    subst e
    exact hP hq c1 M1 hR1 h1 f1
  · have hlt : j < 24 := Nat.not_le.mp fun w => y (nI_le w (by omega))
    refine ⟨_, d_2 h1 hR1 hN, _, d_a h1 hR1 hN hlt, d_b h1 hR1 hN hlt, _, d_q h1 hR1 hN hlt, fun y2 => ⟨d_O h1 hR1 hN, d_isSpare h1 hR1 hN hlt hq y2 (fun c2 M2 hR2 h2 f2 => ⟨fun y3 => ⟨⟨j + 1, c2, nI_1 j, hlt, ?_, hR2, h2, f1.trans f2⟩, mu_dec hlt (by omega)⟩, fun y3 => ⟨⟨j + 1, c2, nI_1 j, hlt, ?_, hR2, h2, f1.trans f2⟩, mu_dec hlt (by omega)⟩⟩)⟩, fun y2 => ⟨⟨j + 1, c1, nI_1 j, hlt, ?_, hR1, h1, f1⟩, mu_dec hlt (by omega)⟩⟩
    · rw [spQ, cI_f.mpr (fun w => cI_f.mp (bI_0.mp y3) w.2)]; rfl
    · rw [spQ, cI_t.mpr ⟨y2, cI_t.mp (bI_t y3)⟩]; rfl
    · rw [spQ, cI_f.mpr (fun w => y2 w.1)]; rfl
end SPARE
