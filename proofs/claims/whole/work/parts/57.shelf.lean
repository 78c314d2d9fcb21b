/-! the shelf: topics in the order of their texts -/
theorem rd_len {wild : Bool} : ∀ (xs : List Int32) (a : Nat) (qs : List Int64) (w : Int64) (hd : Nat), qs.length ≤ 5 → (rd wild xs a qs w hd).2.length ≤ 6 := by
  intro xs
  induction xs with
  | nil =>
    intro a qs w hd h
    rw [rd]
    split
    · exact Nat.le_succ_of_le h
    · rw [List.length_append, List.length_singleton]; omega
  | cons x xs ih =>
    intro a qs w hd h
    rw [rd]
    split
    · rename_i hc
      split
      · rename_i h46
        refine ih _ _ _ _ ?_
        unfold cst at hc
        rw [if_pos h46] at hc
        have := (of_decide_eq_true hc).2
        rw [List.length_append, List.length_singleton]
        omega
      · exact ih _ _ _ _ h
    · exact Nat.le_succ_of_le h
def pT (ss : List Int32) : List Int64 := (rd false ss 0 [] 0 0).2
def pP (ss : List Int32) : List Int64 := (rd true ss 0 [] 0 0).2
theorem pT_len (ss : List Int32) : (pT ss).length ≤ 6 := rd_len _ _ _ _ _ (Nat.zero_le _)
theorem pP_len (ss : List Int32) : (pP ss).length ≤ 6 := rd_len _ _ _ _ _ (Nat.zero_le _)
def KtC (g : Nat → ClassId) (ads : Nat → Nat) (c : Nat → va_E) (t : Nat) (ss : List Int32) (ps : List Int64) (v : Int32) : Prop :=
  c (106 + 4 * t) = .inr (3, [.ref (ads (107 + 4 * t)), .int v]) ∧ TextL g ads c (107 + 4 * t) ss ps
def arrR (g : Nat → ClassId) (k n : Nat) (T : Nat → Option Nat) : va_E := .inl (g k, n, .inr (.inr (.inr (.inr T))))
def ShelfC (g : Nat → ClassId) (ads : Nat → Nat) (c : Nat → va_E) (K : List (List Int32 × Int32)) (π : Nat → Nat) : Prop :=
  c 104 = .inr (4, [.ref (ads 105), .int (nI K.length)]) ∧ K.length ≤ 20 ∧
  (∃ T, c 105 = arrR g 4 20 T ∧ ∀ j, j < 20 → T j = some (ads (106 + 4 * π j))) ∧
  (∀ j, j < 20 → π j < 20) ∧ (∀ j k, j < 20 → k < 20 → π j = π k → j = k) ∧
  (∀ t, t < 20 → ∃ ss ps v, KtC g ads c t ss ps v) ∧
  ∀ j e, K[j]? = some e → KtC g ads c (π j) e.1 (pT e.1) e.2
def okT (ss : List Int32) : Prop := ss.length ≤ 60 ∧ (∀ x ∈ ss, sgn x)
def sorted (K : List (List Int32 × Int32)) : Prop := K.Pairwise (fun a b => ltL a.1 b.1 = true)
def pf (K : List (List Int32 × Int32)) (ss : List Int32) : Nat := (K.takeWhile (fun a => ltL a.1 ss)).length
section SHELF
variable {g : Nat → ClassId} {N : Nat} {ads : Nat → Nat} {c : Nat → va_E} {M : Mem} {K : List (List Int32 × Int32)} {π : Nat → Nat} {o : Nat} {ss : List Int32} {ps : List Int64}
theorem up_up {α : Type} {f : Nat → α} {k : Nat} {v v' : α} : va_up (va_up f k v) k v' = va_up f k v' := by
  funext j
  by_cases h : j = k
  · subst h; rw [up_self, up_self]
  · rw [up_ne h, up_ne h, up_ne h]
theorem ShelfC.size (h : ShelfC g ads c K π) (hR : Rep N ads c M) (hN : 186 ≤ N) : gI M 4 (ads 104) 1 = some (nI K.length) := hR.I (by omega) h.1 rfl
theorem ShelfC.arr (h : ShelfC g ads c K π) (hR : Rep N ads c M) (hN : 186 ≤ N) : gR M 4 (ads 104) 0 = some (ads 105) := hR.R (by omega) h.1 rfl
theorem ShelfC.len (h : ShelfC g ads c K π) (hR : Rep N ads c M) (hN : 186 ≤ N) : aN M (g 4) (ads 105) = some 20 := by
  obtain ⟨T, hT, _⟩ := h.2.2.1
  exact hR.len (by omega) hT
theorem ShelfC.O (h : ShelfC g ads c K π) (hR : Rep N ads c M) (hN : 186 ≤ N) : isO M 4 (ads 104) := hR.O (by omega) h.1
theorem ShelfC.at (h : ShelfC g ads c K π) (hR : Rep N ads c M) (hN : 186 ≤ N) {j : Nat} (hj : j < 20) : aQ M (g 4) (ads 105) (nI j) = some (some (ads (106 + 4 * π j))) := by
  obtain ⟨T, hT, hT2⟩ := h.2.2.1
  rw [← hT2 j hj]
  exact hR.rQ (by omega) hT hj (by omega)
theorem ShelfC.tO (h : ShelfC g ads c K π) (hR : Rep N ads c M) (hN : 186 ≤ N) {t : Nat} (ht : t < 20) : isO M 3 (ads (106 + 4 * t)) := by
  obtain ⟨ss, ps, v, hk⟩ := h.2.2.2.2.2.1 t ht
  exact hR.O (by omega) hk.1
theorem ShelfC.get (h : ShelfC g ads c K π) {j : Nat} (hj : j < K.length) : KtC g ads c (π j) (K[j]).1 (pT (K[j]).1) (K[j]).2 := h.2.2.2.2.2.2 j _ (List.getElem?_eq_getElem hj)
theorem KtC.text {t : Nat} {v : Int32} (h : KtC g ads c t ss ps v) (hR : Rep N ads c M) (hN : 186 ≤ N) (ht : t < 20) {P : Nat → Prop} (hP : P (ads (107 + 4 * t))) : wp_Kt_text g M (ads (106 + 4 * t)) P := ⟨_, hR.R (by omega) h.1 rfl, hP⟩
theorem ShelfC.lt (h : ShelfC g ads c K π) {j : Nat} (hj : j < K.length) : π j < 20 := h.2.2.2.1 j (Nat.lt_of_lt_of_le hj h.2.1)
/-- a topic on the shelf, held against another text -/
theorem sh_cmp (h : ShelfC g ads c K π) (hR : Rep N ads c M) (hN : 186 ≤ N) (hK : ∀ e ∈ K, okT e.1) (ho : o + 2 < N) (ht : TextL g ads c o ss ps) (hs : okT ss) {j : Nat} (hj : j < K.length) {P : Int32 → Prop} (hP : ∀ v, (v < 0 ↔ ltL (K[j]).1 ss = true) → (v = 0 ↔ (K[j]).1 = ss) → P v) : ∃ v4 : Nat, aQ M (g 4) (ads 105) (nI j) = some (some v4) ∧ isO M 3 v4 ∧ wp_Kt_text g M v4 (fun v5 => isO M 1 v5 ∧ wp_Text_compareSigns g M v5 (ads o) P) := by
  have hl := h.lt hj
  have hg := h.get hj
  have hk := hK _ (List.getElem_mem hj)
  exact ⟨_, h.at hR hN (Nat.lt_of_lt_of_le hj h.2.1), h.tO hR hN hl, hg.text hR hN hl ⟨hg.2.O hR (by omega), t_cmp hR (by omega) hg.2 hk.1 hk.2 ho ht hs.1 hs.2 hP⟩⟩
theorem takeWhile_stop {α : Type} {p : α → Bool} {l : List α} {j : Nat} (h1 : ∀ k (hk : k < l.length), k < j → p l[k] = true) (h2 : ∀ hj : j < l.length, p l[j] = false) (hj : j ≤ l.length) : (l.takeWhile p).length = j := by
  induction l generalizing j with
  | nil => simp at hj ⊢; omega
  | cons x l ih =>
    cases j with
    | zero =>
      have := h2 (by simp)
      simp at this
      simp [List.takeWhile_cons, this]
    | succ j =>
      have h0 := h1 0 (by simp) (by omega)
      simp at h0
      rw [List.takeWhile_cons, h0]
      simp
      refine ih (fun k hk hkj => ?_) (fun hj2 => ?_) (by simpa using hj)
      · have := h1 (k + 1) (by simpa using hk) (by omega)
        simpa using this
      · have := h2 (by simpa using hj2)
        simpa using this
theorem sh_placeFor (h : ShelfC g ads c K π) (hR : Rep N ads c M) (hN : 186 ≤ N) (hK : ∀ e ∈ K, okT e.1) (ho : o + 2 < N) (ht : TextL g ads c o ss ps) (hs : okT ss) {P : Int32 → Prop} (hP : P (nI (pf K ss))) : wp_Shelf_placeFor g M (ads 104) (ads o) P := by
  have h20 := h.2.1
  refine ⟨fun x => ∃ j, x = nI j ∧ j ≤ K.length ∧ ∀ k (hk : k < K.length), k < j → ltL (K[k]).1 ss = true, fun x => K.length - x.toNatClampNeg, ⟨0, rfl, Nat.zero_le _, fun k _ hk => absurd hk (Nat.not_lt_zero _)⟩, ?_⟩
  rintro _ ⟨j, rfl, hj, hall⟩
  refine ⟨_, h.size hR hN, fun q => ?_, fun q => ⟨_, h.arr hR hN, _, h.len hR hN, fun q2 => ?_, fun _ => ⟨_, h.arr hR hN, ?_⟩⟩⟩
  · have e : j = K.length := Nat.le_antisymm hj (Nat.not_lt.mp fun z => absurd q (nI_ge z (by omega)))
    have : pf K ss = j := takeWhile_stop (p := fun (a : List Int32 × Int32) => ltL a.1 ss) hall (fun z => absurd z (by omega)) hj
    rw [this] at hP
    exact hP
  · have hlt : j < K.length := Nat.not_le.mp fun z => q (nI_le z (by omega))
    exact absurd q2 (nI_ge (by omega) (by omega))
  · have hlt : j < K.length := Nat.not_le.mp fun z => q (nI_le z (by omega))
    refine sh_cmp h hR hN hK ho ht hs hlt fun v hv1 hv2 => ⟨fun z => ?_, fun z => ⟨⟨j + 1, nI_1 j, hlt, fun k hk hkj => ?_⟩, mu_dec hlt (by omega)⟩⟩
    · have hf : ltL (K[j]).1 ss = false := by
        cases hl : ltL (K[j]).1 ss
        · rfl
        · exact absurd (hv1.mpr hl) (Int32.not_lt.mpr z)
      have : pf K ss = j := takeWhile_stop (p := fun (a : List Int32 × Int32) => ltL a.1 ss) hall (fun _ => hf) hj
      rw [this] at hP
      exact hP
    · by_cases hkj2 : k = j
      · subst hkj2; exact hv1.mp (Int32.not_le.mp z)
      · exact hall k hk (by omega)
def isAtB (K : List (List Int32 × Int32)) (ss : List Int32) (j : Nat) : Bool := match K[j]? with
  | some e => decide (e.1 = ss)
  | none => false
theorem isAtB_lt {j : Nat} (hj : j < K.length) : isAtB K ss j = decide ((K[j]).1 = ss) := by
  unfold isAtB; rw [List.getElem?_eq_getElem hj]
theorem isAtB_ge {j : Nat} (hj : K.length ≤ j) : isAtB K ss j = false := by
  unfold isAtB; rw [List.getElem?_eq_none hj]
theorem sh_isAt (h : ShelfC g ads c K π) (hR : Rep N ads c M) (hN : 186 ≤ N) (hK : ∀ e ∈ K, okT e.1) (ho : o + 2 < N) (ht : TextL g ads c o ss ps) (hs : okT ss) {j : Nat} (hj : j ≤ 20) {P : Int32 → Prop} (hP : P (bI (isAtB K ss j))) : wp_Shelf_isAt g M (ads 104) (nI j) (ads o) P := by
  have h20 := h.2.1
  refine ⟨_, h.size hR hN, fun q => ⟨isB_0, ?_⟩, fun q => ⟨_, h.arr hR hN, _, h.len hR hN, fun q2 => ?_, fun _ => ⟨_, h.arr hR hN, ?_⟩⟩⟩
  · rw [isAtB_ge (Nat.not_lt.mp fun z => absurd q (nI_ge z (by omega)))] at hP
    exact hP
  · have hlt : j < K.length := Nat.not_le.mp fun z => q (nI_le z (by omega))
    exact absurd q2 (nI_ge (by omega) (by omega))
  · have hlt : j < K.length := Nat.not_le.mp fun z => q (nI_le z (by omega))
    rw [isAtB_lt hlt] at hP
    refine sh_cmp h hR hN hK ho ht hs hlt fun v hv1 hv2 => ⟨fun z => ⟨isB_1, ?_⟩, fun z => ⟨isB_0, ?_⟩⟩
    · rw [decide_eq_true (hv2.mp z)] at hP; exact hP
    · rw [decide_eq_false (fun y => z (hv2.mpr y))] at hP; exact hP
end SHELF
