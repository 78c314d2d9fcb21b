section DESK3
variable {g : Nat → ClassId} {ads : Nat → Nat} {c : Nat → va_E} {tp : List Int32} {ft : Int32} {B : Nat → BS} {K : List (List Int32 × Int32)} {N : Nat} {M : Mem}
abbrev isQ (x : Int32) : Prop := ∃ k : Nat, k < 16 ∧ x = nI k
def lfP (B : Nat → BS) (i : Nat) : Prop := i < 24 ∧ (B i).1 = -1 ∧ ∀ j, j < i → (B j).1 ≠ -1
theorem d_least (h : DeskC g ads c tp ft B K) (hR : Rep N ads c M) (hN : 190 ≤ N) {P : Int32 → Prop} (hP1 : ∀ i, lfP B i → P (nI i)) (hP0 : (∀ i, i < 24 → (B i).1 ≠ -1) → P (-1)) : wp_Desk_leastFreeBinding g M (ads 0) P := by
  refine ⟨fun x => ∃ j, x = nI j ∧ j ≤ 24 ∧ ∀ k, k < j → (B k).1 ≠ -1, fun x => 24 - x.toNatClampNeg, ⟨0, rfl, Nat.zero_le _, fun k hk => absurd hk (Nat.not_lt_zero _)⟩, ?_⟩
  rintro _ ⟨j, rfl, hj, hall⟩
  refine ⟨_, d_2 h hR hN, _, d_n h hR hN, fun q => ?_, fun q => ?_⟩
  · have e : j = 24 := Nat.le_antisymm hj (Nat.not_lt.mp fun y => absurd q (nI_ge y (by omega)))
    subst e
    exact hP0 hall
  · have hlt : j < 24 := Nat.not_le.mp fun y => q (nI_le y (by omega))
    refine ⟨_, d_2 h hR hN, _, d_a h hR hN hlt, d_b h hR hN hlt, d_isBound h hR hN hlt ⟨fun z => hP1 j ⟨hlt, ?_, hall⟩, fun z => ⟨⟨j + 1, nI_1 j, hlt, fun k hk => ?_⟩, mu_dec hlt (by omega)⟩⟩⟩
    · rw [bI_0] at z
      exact Decidable.not_not.mp (of_decide_eq_false z)
    · by_cases hkj : k = j
      · subst hkj; exact of_decide_eq_true (bI_t z)
      · exact hall k (by omega)
theorem d_bind (h : DeskC g ads c tp ft B K) (hR : Rep N ads c M) (hN : 190 ≤ N) (ht : okT tp) {x : Int32} {P : Int32 → Mem → Prop} {PT : Nat → Mem → Prop}
    (hP1 : ∀ i, rf true tp = -1 → isQ x → lfP B i → ∀ c' M', Rep N ads c' M' → DeskC g ads c' [] (rf true tp) (va_up B i (x, 0, tp)) K → Fr c c' → P (nI i) M')
    (hT1 : (¬ rf true tp = -1 ∨ ¬ isQ x) → ∀ c' M', Rep N ads c' M' → DeskC g ads c' [] (rf true tp) B K → Fr c c' → PT 1 M')
    (hT2 : rf true tp = -1 → isQ x → (∀ i, i < 24 → (B i).1 ≠ -1) → ∀ c' M', Rep N ads c' M' → DeskC g ads c' [] (rf true tp) B K → Fr c c' → PT 2 M') : wp_Desk_bind g M (ads 0) x P PT := by
  refine ⟨d_O h hR hN, d_take (wild := true) h hR hN ht (fun c1 M1 hR1 h1 t1 f1 => ⟨fun z => hT1 (Or.inl (of_decide_eq_false (bI_0.mp z))) c1 M1 hR1 h1 f1, fun z => d_isQueue ⟨fun z2 => hT1 (Or.inr (of_decide_eq_false (bI_0.mp z2))) c1 M1 hR1 h1 f1, fun z2 => ⟨d_O h1 hR1 hN, ?_⟩⟩⟩)⟩
  have hrf : rf true tp = -1 := of_decide_eq_true (bI_t z)
  have hq : isQ x := of_decide_eq_true (bI_t z2)
  refine d_least h1 hR1 hN (fun i hi => ⟨fun y => absurd y (nI_pos (by have := hi.1; omega)), fun _ => ⟨_, d_2 h1 hR1 hN, _, d_n h1 hR1 hN, fun _ => ?_, fun y => absurd (nI_lt hi.1 (by omega)) y⟩⟩) (fun hno => ⟨fun _ => hT2 hrf hq hno c1 M1 hR1 h1 f1, fun y => absurd (by decide) y⟩)
  · have hi24 := hi.1
    have hbi := h1.2.2.2.2.1 i hi24
    refine ⟨_, d_2 h1 hR1 hN, _, d_a h1 hR1 hN hi24, _, d_1 h1 hR1 hN, d_b h1 hR1 hN hi24, _, d_p h1 hR1 hN hi24, hbi.2.O hR1 (by omega), l_copy hR1 (by omega) (by omega) (by omega) hbi.2 t1 ht.1 (pP_len tp) (fun x hx => (ht.2 x hx).byte) (fun c2 M2 hR2 hT2' => ?_)⟩
    have e2 : c2 (8 + 4 * i) = .inr (2, [.ref (ads (9 + 4 * i)), .int (B i).1, .int (B i).2.1]) := by rw [hT2'.2 _ (by omega) (by omega) (by omega)]; exact hbi.1
    have hR3 := hR2.up (i := 8 + 4 * i) (by omega) (.inr (2, [.ref (ads (9 + 4 * i)), .int x, .int (B i).2.1]))
    have hR4 := hR3.up (i := 8 + 4 * i) (by omega) (.inr (2, [.ref (ads (9 + 4 * i)), .int x, .int 0]))
    rw [up_up] at hR4
    refine ⟨_, hR2.wV (by omega) e2 (Nat.le_of_ble_eq_true rfl), _, hR3.wV (by omega) up_self (Nat.le_of_ble_eq_true rfl), hP1 i hrf hq hi _ _ hR4 (desk_b hi24 h1 ⟨up_self, ?_⟩ (fun j hj => ?_)) (f1.trans (fun j hj => ?_))⟩
    · exact hT2'.1.same (up_ne (by omega)) (up_ne (by omega)) (up_ne (by omega))
    · rw [up_ne (by omega), hT2'.2 _ (by omega) (by omega) (by omega)]
    · rw [up_ne (by omega), hT2'.2 _ (by omega) (by omega) (by omega)]
def rtF (B : Nat → BS) (ts : List Int64) (i : Nat) : Bool := decide ((B i).1 ≠ -1) && tks (pP (B i).2.2) ts
def rtB (B : Nat → BS) (ts : List Int64) (n : Nat) : Nat → BS := fun i => if decide (i < n) && rtF B ts i then ((B i).1, (B i).2.1 + 1, (B i).2.2) else B i
def rtQ (B : Nat → BS) (ts : List Int64) : Nat → Int32
  | 0 => 0
  | n + 1 => if rtF B ts n then rtQ B ts n ||| ((1 : Int32) <<< ((B n).1 &&& 31)) else rtQ B ts n
theorem rtB_0 {ts : List Int64} : rtB B ts 0 = B := by
  funext i; unfold rtB; rw [decide_eq_false (Nat.not_lt_zero _)]; rfl
theorem rtB_same {ts : List Int64} {n i : Nat} (h : n ≤ i) : rtB B ts n i = B i := by
  unfold rtB; rw [decide_eq_false (by omega)]; rfl
theorem rtB_no {ts : List Int64} {n : Nat} (h : rtF B ts n = false) : rtB B ts (n + 1) = rtB B ts n := by
  funext i
  unfold rtB
  by_cases hi : i = n
  · subst hi; rw [h, Bool.and_false, Bool.and_false]
  · rw [show decide (i < n + 1) = decide (i < n) from decide_eq_decide.mpr (by omega)]
theorem rtB_yes {ts : List Int64} {n : Nat} (h : rtF B ts n = true) : rtB B ts (n + 1) = va_up (rtB B ts n) n ((B n).1, (B n).2.1 + 1, (B n).2.2) := by
  funext i
  by_cases hi : i = n
  · subst hi; rw [up_self]; unfold rtB; rw [h, decide_eq_true (by omega)]; rfl
  · rw [up_ne hi]
    unfold rtB
    rw [show decide (i < n + 1) = decide (i < n) from decide_eq_decide.mpr (by omega)]
theorem d_route (h : DeskC g ads c tp ft B K) (hR : Rep N ads c M) (hN : 190 ≤ N) (ht : okT tp) {P : Int32 → Mem → Prop} {PT : Nat → Mem → Prop}
    (hP1 : rf false tp = -1 → ∀ c' M', Rep N ads c' M' → DeskC g ads c' [] (rf false tp) (rtB B (pT tp) 24) K → Fr c c' → P (rtQ B (pT tp) 24) M')
    (hT1 : ¬ rf false tp = -1 → ∀ c' M', Rep N ads c' M' → DeskC g ads c' [] (rf false tp) B K → Fr c c' → PT 1 M') : wp_Desk_route g M (ads 0) P PT := by
  refine ⟨d_O h hR hN, d_take (wild := false) h hR hN ht (fun c1 M1 hR1 h1 t1 f1 => ⟨fun z => hT1 (of_decide_eq_false (bI_0.mp z)) c1 M1 hR1 h1 f1, fun z => ?_⟩)⟩
  have hrf : rf false tp = -1 := of_decide_eq_true (bI_t z)
  refine ⟨fun x1 x2 M' => ∃ (j : Nat) (c' : Nat → va_E), x2 = nI j ∧ j ≤ 24 ∧ x1 = rtQ B (pT tp) j ∧ Rep N ads c' M' ∧ DeskC g ads c' [] (rf false tp) (rtB B (pT tp) j) K ∧ TextL g ads c' 4 tp (pT tp) ∧ Fr c c', fun _ x _ => 24 - x.toNatClampNeg, ⟨0, c1, rfl, Nat.zero_le _, rfl, hR1, by rw [rtB_0]; exact h1, t1, f1⟩, ?_⟩
  rintro _ _ M2 ⟨j, c2, rfl, hj, rfl, hR2, h2, t2, f2⟩
  refine ⟨_, d_2 h2 hR2 hN, _, d_n h2 hR2 hN, fun q => ?_, fun q => ?_⟩
  · have e : j = 24 := Nat.le_antisymm hj (Nat.not_lt.mp fun y => absurd q (nI_ge y (by omega)))
    subst e
    exact hP1 hrf c2 M2 hR2 h2 f2
  · have hlt : j < 24 := Nat.not_le.mp fun y => q (nI_le y (by omega))
    have hsame := rtB_same (B := B) (ts := pT tp) (Nat.le_refl j)
    have hb := h2.2.2.2.2.1 j hlt
    have cont : rtF B (pT tp) j = false → (∃ (j' : Nat) (c' : Nat → va_E), nI j + 1 = nI j' ∧ j' ≤ 24 ∧ rtQ B (pT tp) j = rtQ B (pT tp) j' ∧ Rep N ads c' M2 ∧ DeskC g ads c' [] (rf false tp) (rtB B (pT tp) j') K ∧ TextL g ads c' 4 tp (pT tp) ∧ Fr c c') ∧ 24 - (nI j + 1).toNatClampNeg < 24 - (nI j).toNatClampNeg := fun hf =>
      ⟨⟨j + 1, c2, nI_1 j, hlt, by rw [rtQ, hf]; rfl, hR2, by rw [rtB_no hf]; exact h2, t2, f2⟩, mu_dec hlt (by omega)⟩
    refine ⟨_, d_2 h2 hR2 hN, _, d_a h2 hR2 hN hlt, d_b h2 hR2 hN hlt, d_isBound h2 hR2 hN hlt ⟨fun z1 => cont ?_, fun z1 => ⟨d_b h2 hR2 hN hlt, _, d_p h2 hR2 hN hlt, _, d_1 h2 hR2 hN, hb.2.O hR2 (by omega), t_takes hR2 (by omega) hb.2 (pP_len _) (by omega) t2 (pT_len _) ⟨fun z2 => cont ?_, fun z2 => ⟨d_b h2 hR2 hN hlt, ?_⟩⟩⟩⟩⟩
    · rw [bI_0, hsame] at z1
      unfold rtF
      rw [z1]; rfl
    · rw [bI_0, hsame] at z2
      unfold rtF
      rw [z2, Bool.and_false]
    · have hf : rtF B (pT tp) j = true := by
        have a1 := bI_t z1
        have a2 := bI_t z2
        rw [hsame] at a1 a2
        unfold rtF
        rw [a1, a2]; rfl
      have h3 := bnd_up h2 hlt (rtB B (pT tp) j j).1 ((rtB B (pT tp) j j).2.1 + 1)
      have hR3 := hR2.up (i := 8 + 4 * j) (by omega) (.inr (2, [.ref (ads (9 + 4 * j)), .int (rtB B (pT tp) j j).1, .int ((rtB B (pT tp) j j).2.1 + 1)]))
      refine ⟨_, d_r h2 hR2 hN hlt, _, hR2.wV (by omega) hb.1 (Nat.le_of_ble_eq_true rfl), d_b h3 hR3 hN hlt, _, d_q h3 hR3 hN hlt, ⟨j + 1, _, nI_1 j, hlt, ?_, hR3, ?_, t2.same (up_ne (by omega)) (up_ne (by omega)) (up_ne (by omega)), f2.trans (fun i hi => up_ne (by omega))⟩, mu_dec hlt (by omega)⟩
      · rw [up_self, hsame, rtQ, hf]; rfl
      · rw [rtB_yes hf]
        rw [hsame] at h3
        rw [hsame]
        exact h3
theorem d_keep (h : DeskC g ads c tp ft B K) (hR : Rep N ads c M) (hN : 190 ≤ N) (ht : okT tp) (hK : ∀ e ∈ K, okT e.1) {v : Int32} {P : Int32 → Mem → Prop} {PT : Nat → Mem → Prop}
    (hP1 : rf false tp = -1 → (isAtB K tp (pf K tp) = true ∨ K.length < 20) → ∀ c' M', Rep N ads c' M' → DeskC g ads c' [] (rf false tp) B (insK tp v K) → Fr c c' → P (nI (insK tp v K).length) M')
    (hT1 : ¬ rf false tp = -1 → ∀ c' M', Rep N ads c' M' → DeskC g ads c' [] (rf false tp) B K → Fr c c' → PT 1 M')
    (hT2 : rf false tp = -1 → isAtB K tp (pf K tp) = false → K.length = 20 → ∀ c' M', Rep N ads c' M' → DeskC g ads c' [] (rf false tp) B K → Fr c c' → PT 2 M') : wp_Desk_keep g M (ads 0) v P PT := by
  refine ⟨d_O h hR hN, d_take (wild := false) h hR hN ht (fun c1 M1 hR1 h1 t1 f1 => ⟨fun z => hT1 (of_decide_eq_false (bI_0.mp z)) c1 M1 hR1 h1 f1, fun z => ?_⟩)⟩
  have hrf : rf false tp = -1 := of_decide_eq_true (bI_t z)
  obtain ⟨π, hS⟩ := h1.2.2.2.2.2.1
  refine ⟨_, d_3 h1 hR1 hN, _, d_1 h1 hR1 hN, hS.O hR1 (by omega), sh_put hS hR1 (by omega) hK (by omega) t1 ht (fun hc c2 M2 hR2 hT2' => ⟨fun y => absurd y (by decide), fun _ => ?_⟩) (fun hn hl => ⟨fun _ => hT2 hrf hn hl c1 M1 hR1 h1 f1, fun y => absurd rfl y⟩)⟩
  have h2 := desk_s h1 hT2'
  obtain ⟨π2, hS2⟩ := h2.2.2.2.2.2.1
  exact ⟨_, d_3 h2 hR2 hN, hS2.O hR2 (by omega), _, hS2.size hR2 (by omega), hP1 hrf hc c2 M2 hR2 h2 (f1.trans (fun j hj => hT2'.2 j (by omega)))⟩
theorem d_lose (h : DeskC g ads c tp ft B K) (hR : Rep N ads c M) (hN : 190 ≤ N) (ht : okT tp) (hK : ∀ e ∈ K, okT e.1) {P : Int32 → Mem → Prop} {PT : Nat → Mem → Prop}
    (hP1 : rf false tp = -1 → ∀ c' M', Rep N ads c' M' → DeskC g ads c' [] (rf false tp) B (delK tp K) → Fr c c' → P (bI (isAtB K tp (pf K tp))) M')
    (hT1 : ¬ rf false tp = -1 → ∀ c' M', Rep N ads c' M' → DeskC g ads c' [] (rf false tp) B K → Fr c c' → PT 1 M') : wp_Desk_lose g M (ads 0) P PT := by
  refine ⟨d_O h hR hN, d_take (wild := false) h hR hN ht (fun c1 M1 hR1 h1 t1 f1 => ⟨fun z => hT1 (of_decide_eq_false (bI_0.mp z)) c1 M1 hR1 h1 f1, fun z => ?_⟩)⟩
  have hrf : rf false tp = -1 := of_decide_eq_true (bI_t z)
  obtain ⟨π, hS⟩ := h1.2.2.2.2.2.1
  exact ⟨_, d_3 h1 hR1 hN, _, d_1 h1 hR1 hN, hS.O hR1 (by omega), sh_drop hS hR1 (by omega) hK (by omega) t1 ht (fun c2 M2 hR2 hT2' => ⟨bI_B _, hP1 hrf c2 M2 hR2 (desk_s h1 hT2') (f1.trans (fun j hj => hT2'.2 j (by omega)))⟩)⟩
end DESK3
