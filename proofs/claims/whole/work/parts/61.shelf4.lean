section SH4
variable {g : Nat → ClassId} {N : Nat} {ads : Nat → Nat} {c c' : Nat → va_E} {M : Mem} {K : List (List Int32 × Int32)} {π : Nat → Nat} {o t : Nat} {ss : List Int32} {ps : List Int64} {v : Int32}
theorem sh_drop (h : ShelfC g ads c K π) (hR : Rep N ads c M) (hN : 186 ≤ N) (hK : ∀ e ∈ K, okT e.1) (ho : o + 2 < 104) (hx : TextL g ads c o ss ps) (hs : okT ss) {P : Int32 → Mem → Prop} (hP : ∀ c' M', Rep N ads c' M' → ShelfTo g ads c (delK ss K) c' → P (bI (isAtB K ss (pf K ss))) M') : wp_Shelf_drop g M (ads 104) (ads o) P := by
  have h20 := h.2.1
  have hpf := pf_le (K := K) (ss := ss)
  refine ⟨h.O hR hN, sh_placeFor h hR hN hK (by omega) hx hs ⟨h.O hR hN, sh_isAt h hR hN hK (by omega) hx hs (by omega) ⟨fun z => ⟨isB_0, ?_⟩, fun z => ?_⟩⟩⟩
  · have hat := bI_0.mp z
    have := hP c M hR ⟨⟨π, by rw [del_no hat]; exact h⟩, fun _ _ => rfl⟩
    rw [hat] at this
    exact this
  · have hat : isAtB K ss (pf K ss) = true := by
      cases hb : isAtB K ss (pf K ss)
      · exact absurd (bI_0.mpr hb) z
      · rfl
    rw [hat] at hP
    have hlt : pf K ss < K.length := Nat.not_le.mp fun y => by rw [isAtB_ge y] at hat; cases hat
    obtain ⟨T, hT, hT2⟩ := h.2.2.1
    obtain ⟨n, hn⟩ : ∃ n, K.length = n + 1 := ⟨K.length - 1, by omega⟩
    refine ⟨_, h.size hR hN, h.O hR hN, ?_⟩
    rw [hn, nI_pred]
    refine sh_move (T := T) hR hN h.1 hT (fun j hj => ⟨π j, h.2.2.2.1 j hj, hT2 j hj⟩) (fun t ht => ?_) (by omega) (by omega) (fun M2 hR2 => ?_)
    · obtain ⟨a1, a2, a3, a4⟩ := h.2.2.2.2.2.1 t ht
      exact ⟨_, a4.1⟩
    have e104 : va_up c 105 (arrR g 4 20 (mvF T (pf K ss) n)) 104 = .inr (4, [.ref (ads 105), .int (nI K.length)]) := by rw [up_ne (by omega)]; exact h.1
    refine ⟨_, hR2.I (by omega) e104 rfl, _, hR2.wV (by omega) e104 (Nat.le_of_ble_eq_true rfl), isB_1, hP _ _ (hR2.up (by omega) _) ⟨⟨mvF π (pf K ss) n, ?_⟩, fun j hj => by rw [up_ne (by omega), up_ne (by omega)]⟩⟩
    have hlen : (K.eraseIdx (pf K ss)).length = n := by rw [List.length_eraseIdx_of_lt hlt]; omega
    have far : ∀ s j, 106 + 4 * s ≤ j → j ≤ 109 + 4 * s → va_up (va_up c 105 (arrR g 4 20 (mvF T (pf K ss) n))) 104 (.inr (4, [.ref (ads 105), .int (nI K.length - 1)])) j = c j := fun s j h1 h2 => by rw [up_ne (by omega), up_ne (by omega)]
    rw [del_yes hat]
    refine ⟨?_, by omega, ⟨mvF T (pf K ss) n, ?_, fun j hj => ?_⟩, fun j hj => ?_, fun j k hj hk hjk => ?_, fun s hs => ?_, fun j e he => ?_⟩
    · refine (up_self).trans ?_
      rw [hlen, hn, nI_pred]; rfl
    · rw [up_ne (by omega)]; exact up_self
    · rw [mvF_comp, mvF_comp (T := π)]
      exact hT2 _ (mvF_lt (by omega) (by omega) hj)
    · rw [mvF_comp]
      exact h.2.2.2.1 _ (mvF_lt (by omega) (by omega) hj)
    · rw [mvF_comp, mvF_comp (T := π) (k := k)] at hjk
      exact mvF_inj (h.2.2.2.2.1 _ _ (mvF_lt (by omega) (by omega) hj) (mvF_lt (by omega) (by omega) hk) hjk)
    · obtain ⟨b1, b2, b3, b4⟩ := h.2.2.2.2.2.1 s hs
      exact ⟨b1, b2, b3, b4.same (far s)⟩
    · have hjl := (List.getElem?_eq_some_iff.mp he).1
      rw [hlen] at hjl
      have step : ∀ k, K[k]? = some e → mvF id (pf K ss) n j = k → KtC g ads (va_up (va_up c 105 (arrR g 4 20 (mvF T (pf K ss) n))) 104 (.inr (4, [.ref (ads 105), .int (nI K.length - 1)]))) (mvF π (pf K ss) n j) e.1 (pT e.1) e.2 := fun k hke hm => by
        rw [mvF_comp, hm]
        exact (h.2.2.2.2.2.2 k e hke).same (far _)
      rw [List.getElem?_eraseIdx] at he
      by_cases hj2 : j < pf K ss
      · rw [if_pos hj2] at he
        refine step j he ?_
        rw [mvF_id, if_neg (by omega)]
        by_cases hf : pf K ss < n
        · rw [if_pos hf, if_neg (by omega)]
        · rw [if_neg hf, if_neg (by omega)]
      · rw [if_neg hj2] at he
        refine step (j + 1) he ?_
        rw [mvF_id, if_neg (by omega), if_pos (by omega), if_pos (by omega)]
def fitK (ps : List Int64) (e : List Int32 × Int32) : Bool := tks ps (pT e.1)
theorem filt_s {p : List Int32 × Int32 → Bool} {j : Nat} (hj : j < K.length) : (K.take (j + 1)).filter p = (K.take j).filter p ++ if p K[j] then [K[j]] else [] := by
  rw [List.take_succ, List.getElem?_eq_getElem hj, List.filter_append]
  cases hp : p K[j] <;> simp [hp]
theorem sh_takes (h : ShelfC g ads c K π) (hR : Rep N ads c M) (hN : 186 ≤ N) (ho : o + 2 < N) (hx : TextL g ads c o ss ps) (hk : ps.length ≤ 6) {j : Nat} (hj : j < K.length) {P : Int32 → Prop} (hP : P (bI (fitK ps K[j]))) : ∃ v4 : Nat, aQ M (g 4) (ads 105) (nI j) = some (some v4) ∧ isO M 3 v4 ∧ wp_Kt_text g M v4 (fun v5 => isO M 1 (ads o) ∧ wp_Text_takes g M (ads o) v5 P) := by
  have hl := h.lt hj
  have hg := h.get hj
  exact ⟨_, h.at hR hN (Nat.lt_of_lt_of_le hj h.2.1), h.tO hR hN hl, hg.text hR hN hl ⟨hx.O hR ho, t_takes hR ho hx hk (by omega) hg.2 (pT_len _) hP⟩⟩
theorem sh_count (h : ShelfC g ads c K π) (hR : Rep N ads c M) (hN : 186 ≤ N) (ho : o + 2 < N) (hx : TextL g ads c o ss ps) (hk : ps.length ≤ 6) {P : Int32 → Prop} (hP : P (nI (K.filter (fitK ps)).length)) : wp_Shelf_countTakenBy g M (ads 104) (ads o) P := by
  have h20 := h.2.1
  refine ⟨fun x2 x3 => ∃ j, x3 = nI j ∧ j ≤ K.length ∧ x2 = nI ((K.take j).filter (fitK ps)).length, fun _ x => K.length - x.toNatClampNeg, ⟨0, rfl, Nat.zero_le _, rfl⟩, ?_⟩
  rintro _ _ ⟨j, rfl, hj, rfl⟩
  refine ⟨_, h.size hR hN, fun q => ?_, fun q => ⟨_, h.arr hR hN, _, h.len hR hN, fun q2 => ?_, fun _ => ⟨_, h.arr hR hN, ?_⟩⟩⟩
  · have e : j = K.length := Nat.le_antisymm hj (Nat.not_lt.mp fun z => absurd q (nI_ge z (by omega)))
    subst e
    rw [List.take_length]
    exact hP
  · have hlt : j < K.length := Nat.not_le.mp fun z => q (nI_le z (by omega))
    exact absurd q2 (nI_ge (by omega) (by omega))
  · have hlt : j < K.length := Nat.not_le.mp fun z => q (nI_le z (by omega))
    refine sh_takes h hR hN ho hx hk hlt ⟨fun z => ⟨⟨j + 1, nI_1 j, hlt, ?_⟩, mu_dec hlt (by omega)⟩, fun z => ⟨⟨j + 1, nI_1 j, hlt, ?_⟩, mu_dec hlt (by omega)⟩⟩
    · rw [filt_s hlt, bI_0.mp z]; simp
    · rw [filt_s hlt, show fitK ps K[j] = true by cases hb : fitK ps K[j]; exact absurd (bI_0.mpr hb) z; rfl]
      simp [nI_1]
theorem sh_taken (h : ShelfC g ads c K π) (hR : Rep N ads c M) (hN : 186 ≤ N) (ho : o + 2 < N) (hx : TextL g ads c o ss ps) (hk : ps.length ≤ 6) {k : Int32} {P : Option Nat → Prop} (hP : ∀ n e t, k = nI n → (K.filter (fitK ps))[n]? = some e → t < 20 → KtC g ads c t e.1 (pT e.1) e.2 → P (some (ads (106 + 4 * t)))) (hP0 : (∀ n, n < (K.filter (fitK ps)).length → k ≠ nI n) → P none) : wp_Shelf_takenBy g M (ads 104) (ads o) k P := by
  have h20 := h.2.1
  refine ⟨fun x2 x3 => ∃ j, x3 = nI j ∧ j ≤ K.length ∧ x2 = nI ((K.take j).filter (fitK ps)).length ∧ ∀ n, n < ((K.take j).filter (fitK ps)).length → k ≠ nI n, fun _ x => K.length - x.toNatClampNeg, ⟨0, rfl, Nat.zero_le _, rfl, fun n hn => absurd hn (Nat.not_lt_zero _)⟩, ?_⟩
  rintro _ _ ⟨j, rfl, hj, rfl, hno⟩
  refine ⟨_, h.size hR hN, fun q => ?_, fun q => ⟨_, h.arr hR hN, _, h.len hR hN, fun q2 => ?_, fun _ => ⟨_, h.arr hR hN, ?_⟩⟩⟩
  · have e : j = K.length := Nat.le_antisymm hj (Nat.not_lt.mp fun z => absurd q (nI_ge z (by omega)))
    subst e
    rw [List.take_length] at hno
    exact hP0 hno
  · have hlt : j < K.length := Nat.not_le.mp fun z => q (nI_le z (by omega))
    exact absurd q2 (nI_ge (by omega) (by omega))
  · have hlt : j < K.length := Nat.not_le.mp fun z => q (nI_le z (by omega))
    refine sh_takes h hR hN ho hx hk hlt ⟨fun z => ⟨⟨j + 1, nI_1 j, hlt, ?_, ?_⟩, mu_dec hlt (by omega)⟩, fun z => ?_⟩
    · rw [filt_s hlt, bI_0.mp z]; simp
    · rw [filt_s hlt, bI_0.mp z]; simpa using hno
    · have hf : fitK ps K[j] = true := by cases hb : fitK ps K[j]; exact absurd (bI_0.mpr hb) z; rfl
      refine ⟨fun y => ⟨_, h.arr hR hN, _, h.at hR hN (by omega), ?_⟩, fun y => ⟨⟨j + 1, nI_1 j, hlt, ?_, ?_⟩, mu_dec hlt (by omega)⟩⟩
      · refine hP _ (K[j]) (π j) y.symm ?_ (h.lt hlt) (h.get hlt)
        have e1 : K = K.take (j + 1) ++ K.drop (j + 1) := (List.take_append_drop _ _).symm
        have e2 : K.filter (fitK ps) = (K.take j).filter (fitK ps) ++ ([K[j]] ++ (K.drop (j + 1)).filter (fitK ps)) := by
          conv => lhs; rw [e1, List.filter_append, filt_s hlt, hf]
          simp
        rw [e2, List.getElem?_append_right (Nat.le_refl _), Nat.sub_self]
        rfl
      · rw [filt_s hlt, hf]; simp [nI_1]
      · rw [filt_s hlt, hf]
        intro n hn
        simp at hn
        by_cases hn2 : n = ((K.take j).filter (fitK ps)).length
        · subst hn2; exact fun w => y w.symm
        · exact hno n (by omega)
end SH4
