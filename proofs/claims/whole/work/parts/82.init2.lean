section INIT2
variable {g : Nat → ClassId} {ads : Nat → Nat} {c : Nat → va_E} {M : Mem} {i a : Nat}
theorem t_init' (h : Rep (i + 1) ads c M) (ha : ads i = a) (hc : c i = .inr (1, [.null, .null, .int 0, .int 0])) {P : Mem → Prop} (hP : ∀ ads' c' M', Rep (i + 3) ads' c' M' → (∀ j, j < i + 1 → ads' j = ads j) → (∀ j, j < i → c' j = c j) → TextL g ads' c' i [] [] → P M') : wp_Text_init g M a P := by
  subst ha; exact t_init h hc hP
theorem b_init' (h : Rep (i + 1) ads c M) (ha : ads i = a) (hc : c i = .inr (2, [.null, .int 0, .int 0])) {P : Mem → Prop} (hP : ∀ ads' c' M', Rep (i + 4) ads' c' M' → (∀ j, j < i + 1 → ads' j = ads j) → (∀ j, j < i → c' j = c j) → c' i = .inr (2, [.ref (ads' (i + 1)), .int (-1), .int 0]) → TextL g ads' c' (i + 1) [] [] → P M') : wp_Bnd_init g M a P := by
  subst ha; exact b_init h hc hP
theorem s_init' (h : Rep 105 ads c M) (ha : ads 104 = a) (hc : c 104 = .inr (4, [.null, .int 0])) {P : Mem → Prop} (hP : ∀ ads' c' M', Rep 186 ads' c' M' → (∀ j, j < 105 → ads' j = ads j) → (∀ j, j < 104 → c' j = c j) → ShelfC g ads' c' [] id → P M') : wp_Shelf_init g M a P := by
  subst ha; exact s_init h hc hP
theorem r_init' (h : Rep 187 ads c M) (ha : ads 186 = a) (hc : c 186 = .inr (5, [.null, .null, .null, .int 0, .int 0])) {P : Mem → Prop} (hP : ∀ ads' c' M', Rep 190 ads' c' M' → (∀ j, j < 187 → ads' j = ads j) → (∀ j, j < 186 → c' j = c j) → D6 g ads' c' → P M') : wp_Rs_init g M a P := by
  subst ha; exact r_init h hc hP
theorem BndC.ext {ads' : Nat → Nat} {c' : Nat → va_E} {b : BS} (h : BndC g ads c i b) (ha : ∀ j, j < 12 + 4 * i → ads' j = ads j) (hc : ∀ j, 8 + 4 * i ≤ j → j < 12 + 4 * i → c' j = c j) : BndC g ads' c' i b :=
  ⟨by rw [hc _ (by omega) (by omega), ha _ (by omega)]; exact h.1, h.2.ext (fun j hj => ha j (by omega)) (fun j p q => hc j (by omega) (by omega))⟩
theorem ShelfC.ext {ads' : Nat → Nat} {c' : Nat → va_E} {K : List (List Int32 × Int32)} {π : Nat → Nat} (h : ShelfC g ads c K π) (ha : ∀ j, j < 186 → ads' j = ads j) (hc : ∀ j, 104 ≤ j → j < 186 → c' j = c j) : ShelfC g ads' c' K π := by
  obtain ⟨h1, h2, ⟨T, h3, h4⟩, h5, h6, h7, h8⟩ := h
  have hk : ∀ {t : Nat} {ss : List Int32} {ps : List Int64} {v : Int32}, t < 20 → KtC g ads c t ss ps v → KtC g ads' c' t ss ps v := fun {t ss ps v} ht hh => ⟨by rw [hc _ (by omega) (by omega), ha _ (by omega)]; exact hh.1, hh.2.ext (fun j hj => ha j (by omega)) (fun j p q => hc j (by omega) (by omega))⟩
  refine ⟨by rw [hc _ (by omega) (by omega), ha _ (by omega)]; exact h1, h2, ⟨T, by rw [hc _ (by omega) (by omega)]; exact h3, fun j hj => by have := h5 j hj; rw [ha _ (by omega)]; exact h4 j hj⟩, h5, h6, fun t ht => ?_, fun j e hj => ?_⟩
  · obtain ⟨ss, ps, v, hh⟩ := h7 t ht
    exact ⟨ss, ps, v, hk ht hh⟩
  · have := (List.getElem?_eq_some_iff.mp hj).1
    exact hk (h5 j (by omega)) (h8 j e hj)
def B0 : Nat → BS := fun _ => (-1, 0, [])
theorem d_init (h : Rep 1 ads c M) (ha0 : ads 0 = a) (hc : c 0 = .inr (0, [.null, .null, .null, .null, .null, .int 0])) {P : Mem → Prop} (hP : ∀ ads' c' M', Rep 190 ads' c' M' → ads' 0 = a → DeskC g ads' c' [] (-1) B0 [] → P M') : wp_Desk_init g M a P := by
  intro q1 M2 hq1 hM2
  subst hM2
  refine t_init' (i := 1) (h.push hq1) up_self up_self (fun ads4 c4 M4 h4 ha4 hc4 ht4 => ?_)
  have c40 : c4 0 = .inr (0, [.null, .null, .null, .null, .null, .int 0]) := by rw [hc4 0 (by omega), up_ne (by omega)]; exact hc
  have a40 : ads4 0 = a := by rw [ha4 0 (by omega), up_ne (by omega)]; exact ha0
  have a41 : ads4 1 = q1 := by rw [ha4 1 (by omega), up_self]
  obtain ⟨M5, e5, h5⟩ := wset (k := 0) h4 (by omega : 0 < 1 + 3) a40 c40 (Nat.le_of_ble_eq_true rfl) (.ref q1)
  refine ⟨M5, e5, fun q6 M7 hq6 hM7 => ?_⟩
  subst hM7
  refine t_init' (i := 4) (h5.push hq6) up_self up_self (fun ads9 c9 M9 h9 ha9 hc9 ht9 => ?_)
  have c90 : c9 0 = .inr (0, [.ref q1, .null, .null, .null, .null, .int 0]) := by rw [hc9 0 (by omega), up_ne (by omega), up_self]; rfl
  have a9 : ∀ j, j < 4 → ads9 j = ads4 j := fun j hj => by rw [ha9 j (by omega), up_ne (by omega)]
  have a90 : ads9 0 = a := by rw [a9 0 (by omega)]; exact a40
  have a94 : ads9 4 = q6 := by rw [ha9 4 (by omega), up_self]
  have t91 : TextL g ads9 c9 1 [] [] := ht4.ext (fun j hj => a9 j (by omega)) (fun j p q => by rw [hc9 j (by omega), up_ne (by omega), up_ne (by omega)])
  obtain ⟨M10, e10, h10⟩ := wset (k := 1) h9 (by omega : 0 < 4 + 3) a90 c90 (Nat.le_of_ble_eq_true rfl) (.ref q6)
  refine ⟨M10, e10, fun q11 M12 hq11 hM12 => ?_⟩
  subst hM12
  obtain ⟨M13, e13, h13⟩ := al (k := 2) (a := a) (e := arrR g 3 24 (fun _ => none)) h10 (by omega : 0 < 4 + 3) a90 up_self (Nat.le_of_ble_eq_true rfl) hq11
  refine ⟨M13, e13, fun x1 M' => ∃ (k : Nat) (ads' : Nat → Nat) (c' : Nat → va_E) (T : Nat → Option Nat), x1 = nI k ∧ k ≤ 24 ∧ Rep (8 + 4 * k) ads' c' M' ∧ ads' 0 = a ∧ c' 0 = .inr (0, [.ref (ads' 1), .ref (ads' 4), .ref (ads' 7), .null, .null, .int 0]) ∧ TextL g ads' c' 1 [] [] ∧ TextL g ads' c' 4 [] [] ∧ c' 7 = arrR g 3 24 T ∧ (∀ j, j < k → T j = some (ads' (8 + 4 * j))) ∧ ∀ t, t < k → BndC g ads' c' t (-1, 0, []), fun x _ => 24 - x.toNatClampNeg, by show 24 - (0 : Int32).toNatClampNeg ≤ 24; omega, ⟨0, _, _, fun _ => none, rfl, Nat.zero_le _, h13, by rw [up_ne (by omega)]; exact a90, ?_, t91.ext (fun j hj => up_ne (by omega)) (fun j p q => by rw [up_ne (by omega), up_ne (by omega), up_ne (by omega)]), ht9.ext (fun j hj => up_ne (by omega)) (fun j p q => by rw [up_ne (by omega), up_ne (by omega), up_ne (by omega)]), by rw [up_ne (by omega), up_self], fun j hj => absurd hj (Nat.not_lt_zero _), fun t ht => absurd ht (Nat.not_lt_zero _)⟩, ?_⟩
  · rw [up_self, up_ne (by omega), up_ne (by omega), up_self, a94, a9 1 (by omega), a41]; rfl
  clear h13 e13 hq11 e10 h10 t91 a94 a90 a9 c90 ht9 hc9 ha9 h9 e5 h5 a41 a40 c40 ht4 hc4 ha4 h4
  rintro _ M14 ⟨k, ads4, c4, T, rfl, hk, h4, a40, c40, t1, t4, c7, hT, hB⟩
  refine ⟨ads4 7, by rw [← a40]; exact h4.R (by omega) c40 rfl, 24, h4.len (by omega) c7, fun z => ?_, fun z => ⟨ads4 7, by rw [← a40]; exact h4.R (by omega) c40 rfl, fun q16 M17 hq16 hM17 => ?_⟩⟩
  · have e : k = 24 := Nat.le_antisymm hk ((nI_leI (by omega) (by omega)).mp z)
    subst e
    intro q4 M5 hq4 hM5
    subst hM5
    refine s_init' (h4.push hq4) up_self up_self (fun ads7 c7' M7 h7 ha7 hc7 hS7 => ?_)
    have a7 : ∀ j, j < 104 → ads7 j = ads4 j := fun j hj => by rw [ha7 j (by omega), up_ne (by omega)]
    have cc7 : ∀ j, j < 104 → c7' j = c4 j := fun j hj => by rw [hc7 j (by omega), up_ne (by omega)]
    have a7q : ads7 104 = q4 := by rw [ha7 104 (by omega), up_self]
    have a70 : ads7 0 = a := by rw [a7 0 (by omega)]; exact a40
    have c70 : c7' 0 = .inr (0, [.ref (ads4 1), .ref (ads4 4), .ref (ads4 7), .null, .null, .int 0]) := by rw [cc7 0 (by omega)]; exact c40
    obtain ⟨M8, e8, h8⟩ := wset (k := 3) h7 (by omega : 0 < 186) a70 c70 (Nat.le_of_ble_eq_true rfl) (.ref q4)
    refine ⟨M8, e8, fun q9 M10 hq9 hM10 => ?_⟩
    subst hM10
    refine r_init' (h8.push hq9) up_self up_self (fun ads12 c12 M12 h12 ha12 hc12 hD12 => ?_)
    have a12 : ∀ j, j < 186 → ads12 j = ads7 j := fun j hj => by rw [ha12 j (by omega), up_ne (by omega)]
    have cc12 : ∀ j, 0 < j → j < 186 → c12 j = c7' j := fun j h0 hj => by rw [hc12 j (by omega), up_ne (by omega), up_ne (by omega)]
    have a12q : ads12 186 = q9 := by rw [ha12 186 (by omega), up_self]
    have a120 : ads12 0 = a := by rw [a12 0 (by omega)]; exact a70
    have c120 : c12 0 = .inr (0, [.ref (ads4 1), .ref (ads4 4), .ref (ads4 7), .ref q4, .null, .int 0]) := by rw [hc12 0 (by omega), up_ne (by omega), up_self]; rfl
    obtain ⟨M13, e13, h13⟩ := wset (k := 4) h12 (by omega : 0 < 190) a120 c120 (Nat.le_of_ble_eq_true rfl) (.ref q9)
    obtain ⟨M14, e14, h14⟩ := wset (k := 5) h13 (by omega : 0 < 190) a120 up_self (Nat.le_of_ble_eq_true rfl) (.int (-1))
    rw [up_up] at h14
    have aj : ∀ j, j < 104 → ads12 j = ads4 j := fun j hj => by rw [a12 j (by omega), a7 j hj]
    have cj : ∀ j, 0 < j → j < 104 → va_up c12 0 (.inr (0, ([.ref (ads4 1), .ref (ads4 4), .ref (ads4 7), .ref q4, .null, .int 0].set 4 (.ref q9)).set 5 (.int (-1)))) j = c4 j := fun j h0 hj => by rw [up_ne (by omega), cc12 j h0 (by omega), cc7 j hj]
    refine ⟨M13, e13, M14, e14, hP _ _ M14 h14 a120 ⟨?_, t1.ext (fun j hj => aj j (by omega)) (fun j p q => cj j (by omega) (by omega)), ⟨[], [], t4.ext (fun j hj => aj j (by omega)) (fun j p q => cj j (by omega) (by omega))⟩, ⟨T, by rw [cj 7 (by omega) (by omega)]; exact c7, fun j hj => by rw [aj _ (by omega)]; exact hT j hj⟩, fun t ht => (hB t ht).ext (fun j hj => aj j (by omega)) (fun j p q => cj j (by omega) (by omega)), ⟨id, hS7.ext a12 (fun j p q => by rw [up_ne (by omega)]; exact cc12 j (by omega) q)⟩, hD12.same (fun j p q => up_ne (by omega))⟩⟩
    unfold D0
    rw [up_self, aj 1 (by omega), aj 4 (by omega), aj 7 (by omega), a12 104 (by omega), a7q, a12q]; rfl
  · have hlt : k < 24 := Nat.not_le.mp fun w => z (nI_le w (by omega))
    subst hM17
    refine b_init' (i := 8 + 4 * k) (h4.push hq16) up_self up_self (fun ads9 c9 M9 h9 ha9 hc9 hci9 ht9 => ?_)
    have haq : ads9 (8 + 4 * k) = q16 := by rw [ha9 _ (by omega), up_self]
    have ha : ∀ j, j < 8 + 4 * k → ads9 j = ads4 j := fun j hj => by rw [ha9 j (by omega), up_ne (by omega)]
    have hcc : ∀ j, j < 8 + 4 * k → c9 j = c4 j := fun j hj => by rw [hc9 j hj, up_ne (by omega)]
    have h7' : c9 7 = arrR g 3 24 T := by rw [hcc 7 (by omega)]; exact c7
    have ew := h9.wR (i := 7) (by omega) h7' hlt (by omega) q16
    rw [ha 7 (by omega)] at ew
    have h10 := h9.up (i := 7) (by omega) (arrR g 3 24 (va_up T k (some q16)))
    rw [ha 7 (by omega)] at h10
    refine ⟨by rw [← haq]; exact h9.O (by omega) hci9, _, ew, ⟨k + 1, ads9, _, va_up T k (some q16), nI_1 k, hlt, h10, by rw [ha 0 (by omega)]; exact a40, by rw [up_ne (by omega), hcc 0 (by omega), ha 1 (by omega), ha 4 (by omega), ha 7 (by omega)]; exact c40, t1.ext (fun j hj => ha j (by omega)) (fun j p q => by rw [up_ne (by omega)]; exact hcc j (by omega)), t4.ext (fun j hj => ha j (by omega)) (fun j p q => by rw [up_ne (by omega)]; exact hcc j (by omega)), up_self, fun j hj => ?_, fun t ht => ?_⟩, mu_dec hlt (by omega)⟩
    · by_cases hjk : j = k
      · subst hjk; rw [up_self, haq]
      · rw [up_ne hjk, ha _ (by omega)]; exact hT j (by omega)
    · by_cases htk : t = k
      · subst htk
        have e9 : 8 + 4 * t + 1 = 9 + 4 * t := by omega
        rw [e9] at hci9 ht9
        exact ⟨by rw [up_ne (by omega)]; exact hci9, ht9.same (up_ne (by omega)) (up_ne (by omega)) (up_ne (by omega))⟩
      · exact (hB t (by omega)).ext (fun j hj => ha j (by omega)) (fun j p q => by rw [up_ne (by omega)]; exact hcc j (by omega))
end INIT2
