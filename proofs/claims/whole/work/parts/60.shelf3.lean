/-! put, drop, countTakenBy, takenBy -/
section SH3
variable {g : Nat → ClassId} {N : Nat} {ads : Nat → Nat} {c c' : Nat → va_E} {M : Mem} {K : List (List Int32 × Int32)} {π : Nat → Nat} {o t : Nat} {ss : List Int32} {ps : List Int64} {v : Int32}
theorem KtC.same (h : KtC g ads c t ss ps v) (he : ∀ j, 106 + 4 * t ≤ j → j ≤ 109 + 4 * t → c' j = c j) : KtC g ads c' t ss ps v :=
  ⟨by rw [he _ (by omega) (by omega)]; exact h.1, h.2.same (he _ (by omega) (by omega)) (he _ (by omega) (by omega)) (he _ (by omega) (by omega))⟩
theorem KtC.val (h : KtC g ads c t ss ps v) (v' : Int32) : KtC g ads (va_up c (106 + 4 * t) (.inr (3, [.ref (ads (107 + 4 * t)), .int v']))) t ss ps v' :=
  ⟨up_self, h.2.same (up_ne (by omega)) (up_ne (by omega)) (up_ne (by omega))⟩
theorem kt_setValue (h : KtC g ads c t ss ps v) (hR : Rep N ads c M) (hN : 186 ≤ N) (ht : t < 20) {v' : Int32} {P : Mem → Prop} (hP : ∀ M', Rep N ads (va_up c (106 + 4 * t) (.inr (3, [.ref (ads (107 + 4 * t)), .int v']))) M' → P M') : wp_Kt_setValue g M (ads (106 + 4 * t)) v' P :=
  ⟨_, hR.wV (by omega) h.1 (Nat.le_of_ble_eq_true rfl), hP _ (hR.up (by omega) _)⟩
theorem kt_setText {ss0 : List Int32} {ps0 : List Int64} (h : KtC g ads c t ss0 ps0 v) (hR : Rep N ads c M) (hN : 186 ≤ N) (ht : t < 20) (ho : o + 2 < 104) (hx : TextL g ads c o ss ps) (hk : ps.length ≤ 6) (hs : okT ss) {P : Mem → Prop} (hP : ∀ c' M', Rep N ads c' M' → TextTo g ads c (107 + 4 * t) ss ps c' → P M') : wp_Kt_setText g M (ads (106 + 4 * t)) (ads o) P :=
  ⟨_, hR.R (by omega) h.1 rfl, h.2.O hR (by omega), l_copy hR (by omega) (by omega) (by omega) h.2 hx hs.1 hk (fun x hx => (hs.2 x hx).byte) hP⟩
/-- the shelf and what is around it -/
def ShelfTo (g : Nat → ClassId) (ads : Nat → Nat) (c : Nat → va_E) (K' : List (List Int32 × Int32)) (c' : Nat → va_E) : Prop :=
  (∃ π', ShelfC g ads c' K' π') ∧ ∀ j, j < 104 ∨ 185 < j → c' j = c j
theorem set_get {j a : Nat} {x e : List Int32 × Int32} (h : (K.set a x)[j]? = some e) : (j = a ∧ e = x) ∨ (j ≠ a ∧ K[j]? = some e) := by
  by_cases hj : j = a
  · subst hj
    have hl := (List.getElem?_eq_some_iff.mp h).1
    rw [List.length_set] at hl
    rw [List.getElem?_set_self hl] at h
    exact Or.inl ⟨rfl, (Option.some.inj h).symm⟩
  · rw [List.getElem?_set_ne (Ne.symm hj)] at h
    exact Or.inr ⟨hj, h⟩
theorem ins_get {j a : Nat} {x e : List Int32 × Int32} (ha : a ≤ K.length) (h : (K.take a ++ x :: K.drop a)[j]? = some e) : (j < a ∧ K[j]? = some e) ∨ (j = a ∧ e = x) ∨ (a < j ∧ K[j - 1]? = some e) := by
  have hl : (K.take a).length = a := by rw [List.length_take]; omega
  rcases Nat.lt_trichotomy j a with z | z | z
  · rw [List.getElem?_append_left (by omega), List.getElem?_take_of_lt z] at h
    exact Or.inl ⟨z, h⟩
  · subst z
    rw [List.getElem?_append_right (by omega), hl, Nat.sub_self] at h
    exact Or.inr (Or.inl ⟨rfl, (Option.some.inj h).symm⟩)
  · rw [List.getElem?_append_right (by omega), hl, show j - a = (j - 1 - a) + 1 by omega, List.getElem?_cons_succ, List.getElem?_drop, show a + (j - 1 - a) = j - 1 by omega] at h
    exact Or.inr (Or.inr ⟨z, h⟩)
theorem sh_put (h : ShelfC g ads c K π) (hR : Rep N ads c M) (hN : 186 ≤ N) (hK : ∀ e ∈ K, okT e.1) (ho : o + 2 < 104) (hx : TextL g ads c o ss (pT ss)) (hs : okT ss) {P : Int32 → Mem → Prop} (hP1 : (isAtB K ss (pf K ss) = true ∨ K.length < 20) → ∀ c' M', Rep N ads c' M' → ShelfTo g ads c (insK ss v K) c' → P 1 M') (hP0 : isAtB K ss (pf K ss) = false → K.length = 20 → P 0 M) : wp_Shelf_put g M (ads 104) (ads o) v P := by
  have h20 := h.2.1
  have hpf := pf_le (K := K) (ss := ss)
  refine ⟨h.O hR hN, sh_placeFor h hR hN hK (by omega) hx hs ⟨h.O hR hN, sh_isAt h hR hN hK (by omega) hx hs (by omega) ⟨fun z => ?_, fun z => ?_⟩⟩⟩
  · have hat := bI_0.mp z
    obtain ⟨T, hT, hT2⟩ := h.2.2.1
    refine ⟨_, h.arr hR hN, _, h.len hR hN, fun q => ⟨isB_0, hP0 hat (Nat.le_antisymm h20 (Nat.not_lt.mp fun y => absurd q (nI_ge (by omega) (by omega))))⟩, fun _ => ⟨fun e => absurd e (by decide), fun _ => ⟨_, h.size hR hN, _, h.arr hR hN, _, h.len hR hN, fun q => ⟨fun e => absurd e (by decide), fun _ => ?_⟩, fun q => ⟨isB_0, hP0 hat (Nat.le_antisymm h20 (Nat.not_lt.mp fun y => q (nI_lt y (by omega))))⟩⟩⟩⟩
    have hlt : K.length < 20 := (nI_ltI (by omega) (by omega)).mp q
    have hR1 := hR.up (i := 104) (by omega) (.inr (4, [.ref (ads 105), .int (nI K.length + 1)]))
    refine ⟨_, h.size hR hN, _, hR.wV (by omega) h.1 (Nat.le_of_ble_eq_true rfl), nI K.length + 1, hR1.I (by omega) up_self rfl, hR1.O (by omega) up_self, ?_⟩
    rw [show nI K.length + 1 - 1 = nI K.length by rw [nI_1, nI_pred]]
    have hs20 : π K.length < 20 := h.2.2.2.1 _ hlt
    refine sh_move (z := nI K.length + 1) (T := T) hR1 hN up_self (by rw [up_ne (by omega)]; exact hT) (fun j hj => ⟨π j, h.2.2.2.1 j hj, hT2 j hj⟩) (fun t ht => ?_) hlt (by omega) (fun M2 hR2 => ?_)
    · obtain ⟨a1, a2, a3, a4⟩ := h.2.2.2.2.2.1 t ht
      exact ⟨_, by rw [up_ne (by omega)]; exact a4.1⟩
    · obtain ⟨a1, a2, a3, a4⟩ := h.2.2.2.2.2.1 (π K.length) hs20
      have a5 : KtC g ads (va_up (va_up c 104 (.inr (4, [.ref (ads 105), .int (nI K.length + 1)]))) 105 (arrR g 4 20 (mvF T K.length (pf K ss)))) (π K.length) a1 a2 a3 := a4.same (fun j h1 h2 => by rw [up_ne (by omega), up_ne (by omega)])
      have e1 : mvF T K.length (pf K ss) (pf K ss) = some (ads (106 + 4 * π K.length)) := by rw [← hT2 _ hlt]; unfold mvF; rw [if_pos rfl]
      have haq : ∀ {c3 : Nat → va_E} {M3 : Mem}, Rep N ads c3 M3 → c3 105 = arrR g 4 20 (mvF T K.length (pf K ss)) → aQ M3 (g 4) (ads 105) (nI (pf K ss)) = some (some (ads (106 + 4 * π K.length))) := fun h3 h4 => by
        rw [← e1]; exact h3.rQ (by omega) h4 (by omega) (by omega)
      refine ⟨_, hR2.R (fs := [.ref (ads 105), .int (nI K.length + 1)]) (by omega) (by rw [up_ne (by omega)]; exact up_self) rfl, _, haq hR2 up_self, hR2.O (by omega) a5.1, kt_setText a5 hR2 hN hs20 ho (hx.same (by rw [up_ne (by omega), up_ne (by omega)]) (by rw [up_ne (by omega), up_ne (by omega)]) (by rw [up_ne (by omega), up_ne (by omega)])) (pT_len ss) hs (fun c3 M3 hR3 hT3 => ?_)⟩
      have a6 : KtC g ads c3 (π K.length) ss (pT ss) a3 := ⟨by rw [hT3.2 _ (by omega) (by omega) (by omega)]; exact a5.1, hT3.1⟩
      have c104 : c3 104 = .inr (4, [.ref (ads 105), .int (nI K.length + 1)]) := by rw [hT3.2 _ (by omega) (by omega) (by omega), up_ne (by omega)]; exact up_self
      have c105 : c3 105 = arrR g 4 20 (mvF T K.length (pf K ss)) := by rw [hT3.2 _ (by omega) (by omega) (by omega)]; exact up_self
      refine ⟨_, hR3.R (by omega) c104 rfl, _, haq hR3 c105, hR3.O (by omega) a6.1, kt_setValue a6 hR3 hN hs20 (fun M4 hR4 => ⟨isB_1, hP1 (Or.inr hlt) _ _ hR4 ⟨⟨mvF π K.length (pf K ss), ?_⟩, fun j hj => ?_⟩⟩)⟩
      · have far : ∀ s, s < 20 → s ≠ π K.length → ∀ j, 106 + 4 * s ≤ j → j ≤ 109 + 4 * s → va_up c3 (106 + 4 * π K.length) (.inr (3, [.ref (ads (107 + 4 * π K.length)), .int v])) j = c j := fun s hs hne j h1 h2 => by
          rw [up_ne (by omega), hT3.2 _ (by omega) (by omega) (by omega), up_ne (by omega), up_ne (by omega)]
        have hnear := a6.val v
        rw [ins_put hat]
        refine ⟨?_, ?_, ⟨mvF T K.length (pf K ss), ?_, fun j hj => ?_⟩, fun j hj => ?_, fun j k hj hk hjk => ?_, fun s hs => ?_, fun j e he => ?_⟩
        · rw [up_ne (by omega), c104]
          simp only [List.length_append, List.length_cons, List.length_take, List.length_drop]
          rw [Nat.min_eq_left hpf, nI_1, show pf K ss + (K.length - pf K ss + 1) = K.length + 1 by omega]
        · simp only [List.length_append, List.length_cons, List.length_take, List.length_drop]
          omega
        · rw [up_ne (by omega)]; exact c105
        · rw [mvF_comp, mvF_comp (T := π)]
          exact hT2 _ (mvF_lt hlt (by omega) hj)
        · rw [mvF_comp]
          exact h.2.2.2.1 _ (mvF_lt hlt (by omega) hj)
        · rw [mvF_comp, mvF_comp (T := π) (k := k)] at hjk
          exact mvF_inj (h.2.2.2.2.1 _ _ (mvF_lt hlt (by omega) hj) (mvF_lt hlt (by omega) hk) hjk)
        · by_cases hne : s = π K.length
          · subst hne; exact ⟨_, _, _, hnear⟩
          · obtain ⟨b1, b2, b3, b4⟩ := h.2.2.2.2.2.1 s hs
            exact ⟨b1, b2, b3, b4.same (far s hs hne)⟩
        · have step : ∀ k, k < K.length → K[k]? = some e → mvF id K.length (pf K ss) j = k → KtC g ads (va_up c3 (106 + 4 * π K.length) (.inr (3, [.ref (ads (107 + 4 * π K.length)), .int v]))) (mvF π K.length (pf K ss) j) e.1 (pT e.1) e.2 := fun k hk hke hm => by
            rw [mvF_comp, hm]
            refine (h.2.2.2.2.2.2 k e hke).same (far _ (h.2.2.2.1 k (by omega)) (fun y => ?_))
            have := h.2.2.2.2.1 k K.length (by omega) hlt y
            omega
          rcases ins_get hpf he with ⟨z1, z2⟩ | ⟨z1, z2⟩ | ⟨z1, z2⟩
          · refine step j (List.getElem?_eq_some_iff.mp z2).1 z2 ?_
            rw [mvF_id, if_neg (by omega), if_neg (by omega), if_neg (by omega)]
          · rw [z2, show mvF π K.length (pf K ss) j = π K.length by unfold mvF; rw [if_pos z1]]
            exact hnear
          · have := (List.getElem?_eq_some_iff.mp z2).1
            refine step (j - 1) this z2 ?_
            rw [mvF_id, if_neg (by omega), if_neg (by omega), if_pos (by omega)]
      · rw [up_ne (by omega), hT3.2 _ (by omega) (by omega) (by omega), up_ne (by omega), up_ne (by omega)]
  · have hat : isAtB K ss (pf K ss) = true := by
      cases hb : isAtB K ss (pf K ss)
      · exact absurd (bI_0.mpr hb) z
      · rfl
    have hlt : pf K ss < K.length := Nat.not_le.mp fun y => by rw [isAtB_ge y] at hat; cases hat
    have hss : (K[pf K ss]).1 = ss := by rw [isAtB_lt hlt] at hat; exact of_decide_eq_true hat
    have hs20 := h.lt hlt
    have hg := h.get hlt
    refine ⟨_, h.arr hR hN, _, h.len hR hN, fun q => absurd q (nI_ge (by omega) (by omega)), fun _ => ⟨fun _ => ⟨fun _ => ⟨_, h.arr hR hN, _, h.at hR hN (by omega), h.tO hR hN hs20, kt_setValue hg hR hN hs20 (fun M4 hR4 => ⟨isB_1, hP1 (Or.inl hat) _ _ hR4 ⟨⟨π, ?_⟩, fun j hj => up_ne (by omega)⟩⟩)⟩, fun e => absurd rfl e⟩, fun e => absurd rfl e⟩⟩
    obtain ⟨T, hT, hT2⟩ := h.2.2.1
    have far : ∀ s, s ≠ π (pf K ss) → ∀ j, 106 + 4 * s ≤ j → j ≤ 109 + 4 * s → va_up c (106 + 4 * π (pf K ss)) (.inr (3, [.ref (ads (107 + 4 * π (pf K ss))), .int v])) j = c j := fun s hne j h1 h2 => up_ne (by omega)
    rw [ins_set hat]
    refine ⟨?_, ?_, ⟨T, ?_, hT2⟩, h.2.2.2.1, h.2.2.2.2.1, fun s hs => ?_, fun j e he => ?_⟩
    · rw [up_ne (by omega), List.length_set]; exact h.1
    · rw [List.length_set]; exact h20
    · rw [up_ne (by omega)]; exact hT
    · by_cases hne : s = π (pf K ss)
      · subst hne; exact ⟨_, _, _, hg.val v⟩
      · obtain ⟨b1, b2, b3, b4⟩ := h.2.2.2.2.2.1 s hs
        exact ⟨b1, b2, b3, b4.same (far s hne)⟩
    · rcases set_get he with ⟨z1, z2⟩ | ⟨z1, z2⟩
      · subst z1
        rw [z2]
        have := hg.val v
        rw [hss] at this
        exact this
      · have hjl := (List.getElem?_eq_some_iff.mp z2).1
        exact (h.2.2.2.2.2.2 j e z2).same (far _ (fun y => z1 (h.2.2.2.2.1 _ _ (by omega) (by omega) y)))
end SH3
