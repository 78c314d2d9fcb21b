/-! constructors: places one behind the other -/
section INIT
variable {g : Nat → ClassId} {ads ads' : Nat → Nat} {c c' : Nat → va_E} {M : Mem} {n x i : Nat}
theorem Rep.push {q : Nat} {e : va_E} (h : Rep n ads c M) (hq : M q = none) : Rep (n + 1) (va_up ads n q) (va_up c n e) (mup M q e) := by
  have hne : ∀ j, j < n → ads j ≠ q := fun j hj z => by
    have := h.1 j hj
    rw [z, hq] at this
    cases this
  refine ⟨fun j hj => ?_, fun j k hj hk hjk => ?_⟩
  · by_cases hjn : j = n
    · subst hjn; rw [up_self, up_self, mup_self]
    · rw [up_ne hjn, up_ne hjn, mup_ne (hne j (by omega))]; exact h.1 j (by omega)
  · by_cases hjn : j = n
    · by_cases hkn : k = n
      · omega
      · rw [hjn, up_self, up_ne hkn] at hjk
        exact absurd hjk.symm (hne k (by omega))
    · by_cases hkn : k = n
      · rw [hkn, up_self, up_ne hjn] at hjk
        exact absurd hjk (hne j (by omega))
      · rw [up_ne hjn, up_ne hkn] at hjk
        exact h.2 j k (by omega) (by omega) hjk
theorem wset {ci k a : Nat} {fs : List Value} (h : Rep n ads c M) (hx : x < n) (ha : ads x = a) (hc : c x = .inr (ci, fs)) (hk : k < fs.length) (v : Value) : ∃ M3, pV M ci a k v = some M3 ∧ Rep n ads (va_up c x (.inr (ci, fs.set k v))) M3 := by
  subst ha
  exact ⟨_, h.wV hx hc hk, h.up hx _⟩
theorem al {ci k a q : Nat} {fs : List Value} {e : va_E} (h : Rep n ads c M) (hx : x < n) (ha : ads x = a) (hc : c x = .inr (ci, fs)) (hk : k < fs.length) (hq : M q = none) : ∃ M3, pV (mup M q e) ci a k (.ref q) = some M3 ∧ Rep (n + 1) (va_up ads n q) (va_up (va_up c n e) x (.inr (ci, fs.set k (.ref q)))) M3 :=
  wset (h.push hq) (by omega) (by rw [up_ne (by omega)]; exact ha) (by rw [up_ne (by omega)]; exact hc) hk _
theorem TextL.ext {ss : List Int32} {ps : List Int64} (h : TextL g ads c i ss ps) (ha : ∀ j, j < i + 3 → ads' j = ads j) (hc : ∀ j, i ≤ j → j < i + 3 → c' j = c j) : TextL g ads' c' i ss ps := by
  obtain ⟨sg, pt, ⟨h1, h2, h3⟩, a, b⟩ := h
  refine ⟨sg, pt, ⟨?_, ?_, ?_⟩, a, b⟩
  · rw [hc i (by omega) (by omega), ha (i + 1) (by omega), ha (i + 2) (by omega)]; exact h1
  · rw [hc (i + 1) (by omega) (by omega)]; exact h2
  · rw [hc (i + 2) (by omega) (by omega)]; exact h3
theorem t_init (h : Rep (i + 1) ads c M) (hc : c i = .inr (1, [.null, .null, .int 0, .int 0])) {P : Mem → Prop} (hP : ∀ ads' c' M', Rep (i + 3) ads' c' M' → (∀ j, j < i + 1 → ads' j = ads j) → (∀ j, j < i → c' j = c j) → TextL g ads' c' i [] [] → P M') : wp_Text_init g M (ads i) P := by
  intro q1 M2 hq1 hM2
  subst hM2
  obtain ⟨M3, e3, h3⟩ := al (k := 0) (e := .inl (g 0, (60, .inl (fun _ => 0)))) h (by omega) rfl hc (Nat.le_of_ble_eq_true rfl) hq1
  refine ⟨M3, e3, fun q4 M5 hq4 hM5 => ?_⟩
  subst hM5
  obtain ⟨M6, e6, h6⟩ := al (k := 1) (a := ads i) (e := .inl (g 1, (6, .inr (.inl (fun _ => 0))))) h3 (by omega : i < i + 1 + 1) (up_ne (by omega)) up_self (Nat.le_of_ble_eq_true rfl) hq4
  obtain ⟨M7, e7, h7⟩ := wset (k := 2) (a := ads i) h6 (by omega : i < i + 1 + 1 + 1) (by rw [up_ne (by omega), up_ne (by omega)]) up_self (Nat.le_of_ble_eq_true rfl) (.int 0)
  obtain ⟨M8, e8, h8⟩ := wset (k := 3) (a := ads i) h7 (by omega : i < i + 1 + 1 + 1) (by rw [up_ne (by omega), up_ne (by omega)]) up_self (Nat.le_of_ble_eq_true rfl) (.int 0)
  refine ⟨M6, e6, M7, e7, M8, e8, hP _ _ M8 h8 (fun j hj => by rw [up_ne (by omega), up_ne (by omega)]) (fun j hj => ?_) ⟨fun _ => 0, fun _ => 0, ⟨?_, ?_, ?_⟩, fun j hj => absurd hj (Nat.not_lt_zero _), fun j hj => absurd hj (Nat.not_lt_zero _)⟩⟩
  · rw [up_ne (by omega), up_ne (by omega), up_ne (by omega), up_ne (by omega), up_ne (by omega), up_ne (by omega)]
  · rw [up_self, up_self, up_ne (by omega), up_self]; rfl
  · rw [up_ne (by omega), up_ne (by omega), up_ne (by omega), up_ne (by omega), up_ne (by omega), up_self]
  · rw [up_ne (by omega), up_ne (by omega), up_ne (by omega), up_self]
theorem b_init (h : Rep (i + 1) ads c M) (hc : c i = .inr (2, [.null, .int 0, .int 0])) {P : Mem → Prop} (hP : ∀ ads' c' M', Rep (i + 4) ads' c' M' → (∀ j, j < i + 1 → ads' j = ads j) → (∀ j, j < i → c' j = c j) → c' i = .inr (2, [.ref (ads' (i + 1)), .int (-1), .int 0]) → TextL g ads' c' (i + 1) [] [] → P M') : wp_Bnd_init g M (ads i) P := by
  intro q1 M2 hq1 hM2
  subst hM2
  have h2 := h.push (e := .inr (1, [.null, .null, .int 0, .int 0])) hq1
  have := t_init (g := g) (i := i + 1) (P := fun M4 => ∃ M5 : Mem, pV M4 2 (ads i) 0 (.ref q1) = some M5 ∧ (∃ M6 : Mem, pV M5 2 (ads i) 1 (.int (-1 : Int32)) = some M6 ∧ (∃ M7 : Mem, pV M6 2 (ads i) 2 (.int (0 : Int32)) = some M7 ∧ (P M7)))) h2 up_self (fun ads4 c4 M4 h4 ha4 hc4 ht4 => ?_)
  · rw [up_self] at this; exact this
  have hci : c4 i = .inr (2, [.null, .int 0, .int 0]) := by rw [hc4 i (by omega), up_ne (by omega)]; exact hc
  have hai : ads4 i = ads i := by rw [ha4 i (by omega), up_ne (by omega)]
  have haq : ads4 (i + 1) = q1 := by rw [ha4 (i + 1) (by omega), up_self]
  obtain ⟨M5, e5, h5⟩ := wset (k := 0) h4 (by omega : i < i + 1 + 3) hai hci (Nat.le_of_ble_eq_true rfl) (.ref q1)
  obtain ⟨M6, e6, h6⟩ := wset (k := 1) h5 (by omega : i < i + 1 + 3) hai up_self (Nat.le_of_ble_eq_true rfl) (.int (-1))
  obtain ⟨M7, e7, h7⟩ := wset (k := 2) h6 (by omega : i < i + 1 + 3) hai up_self (Nat.le_of_ble_eq_true rfl) (.int 0)
  rw [up_up, up_up] at h7
  refine ⟨M5, e5, M6, e6, M7, e7, hP _ _ M7 h7 (fun j hj => ?_) (fun j hj => ?_) ?_ (ht4.same (up_ne (by omega)) (up_ne (by omega)) (up_ne (by omega)))⟩
  · rw [ha4 j (by omega), up_ne (by omega)]
  · rw [up_ne (by omega), hc4 j (by omega), up_ne (by omega)]
  · rw [up_self, haq]; rfl
theorem k_init (h : Rep (i + 1) ads c M) (hc : c i = .inr (3, [.null, .int 0])) {P : Mem → Prop} (hP : ∀ ads' c' M', Rep (i + 4) ads' c' M' → (∀ j, j < i + 1 → ads' j = ads j) → (∀ j, j < i → c' j = c j) → c' i = .inr (3, [.ref (ads' (i + 1)), .int 0]) → TextL g ads' c' (i + 1) [] [] → P M') : wp_Kt_init g M (ads i) P := by
  intro q1 M2 hq1 hM2
  subst hM2
  have h2 := h.push (e := .inr (1, [.null, .null, .int 0, .int 0])) hq1
  have := t_init (g := g) (i := i + 1) (P := fun M4 => ∃ M5 : Mem, pV M4 3 (ads i) 0 (.ref q1) = some M5 ∧ (∃ M6 : Mem, pV M5 3 (ads i) 1 (.int (0 : Int32)) = some M6 ∧ (P M6))) h2 up_self (fun ads4 c4 M4 h4 ha4 hc4 ht4 => ?_)
  · rw [up_self] at this; exact this
  have hci : c4 i = .inr (3, [.null, .int 0]) := by rw [hc4 i (by omega), up_ne (by omega)]; exact hc
  have hai : ads4 i = ads i := by rw [ha4 i (by omega), up_ne (by omega)]
  have haq : ads4 (i + 1) = q1 := by rw [ha4 (i + 1) (by omega), up_self]
  obtain ⟨M5, e5, h5⟩ := wset (k := 0) h4 (by omega : i < i + 1 + 3) hai hci (Nat.le_of_ble_eq_true rfl) (.ref q1)
  obtain ⟨M6, e6, h6⟩ := wset (k := 1) h5 (by omega : i < i + 1 + 3) hai up_self (Nat.le_of_ble_eq_true rfl) (.int 0)
  rw [up_up] at h6
  refine ⟨M5, e5, M6, e6, hP _ _ M6 h6 (fun j hj => ?_) (fun j hj => ?_) ?_ (ht4.same (up_ne (by omega)) (up_ne (by omega)) (up_ne (by omega)))⟩
  · rw [ha4 j (by omega), up_ne (by omega)]
  · rw [up_ne (by omega), hc4 j (by omega), up_ne (by omega)]
  · rw [up_self, haq]; rfl
theorem s_init (h : Rep 105 ads c M) (hc : c 104 = .inr (4, [.null, .int 0])) {P : Mem → Prop} (hP : ∀ ads' c' M', Rep 186 ads' c' M' → (∀ j, j < 105 → ads' j = ads j) → (∀ j, j < 104 → c' j = c j) → ShelfC g ads' c' [] id → P M') : wp_Shelf_init g M (ads 104) P := by
  intro q1 M2 hq1 hM2
  subst hM2
  obtain ⟨M3, e3, h3⟩ := al (k := 0) (e := arrR g 4 20 (fun _ => none)) h (by omega) rfl hc (Nat.le_of_ble_eq_true rfl) hq1
  refine ⟨M3, e3, fun x1 M' => ∃ (k : Nat) (ads4 : Nat → Nat) (c4 : Nat → va_E) (T : Nat → Option Nat), x1 = nI k ∧ k ≤ 20 ∧ Rep (106 + 4 * k) ads4 c4 M' ∧ (∀ j, j < 105 → ads4 j = ads j) ∧ (∀ j, j < 104 → c4 j = c j) ∧ c4 104 = .inr (4, [.ref (ads4 105), .int 0]) ∧ c4 105 = arrR g 4 20 T ∧ (∀ j, j < k → T j = some (ads4 (106 + 4 * j))) ∧ ∀ t, t < k → KtC g ads4 c4 t [] [] 0, fun x _ => 20 - x.toNatClampNeg, by show 20 - (0 : Int32).toNatClampNeg ≤ 20; omega, ⟨0, _, _, fun _ => none, rfl, Nat.zero_le _, h3, fun j hj => up_ne (by omega), fun j hj => by rw [up_ne (by omega), up_ne (by omega)], by rw [up_self, up_self]; rfl, by rw [up_ne (by omega), up_self], fun j hj => absurd hj (Nat.not_lt_zero _), fun t ht => absurd ht (Nat.not_lt_zero _)⟩, ?_⟩
  rintro _ M4 ⟨k, ads4, c4, T, rfl, hk, h4, ha4, hc4, h104, h105, hT, hKt⟩
  have ha104 : ads4 104 = ads 104 := ha4 104 (by omega)
  refine ⟨ads4 105, by rw [← ha104]; exact h4.R (by omega) h104 rfl, 20, h4.len (by omega) h105, fun z => ?_, fun z => ⟨ads4 105, by rw [← ha104]; exact h4.R (by omega) h104 rfl, fun q6 M7 hq6 hM7 => ?_⟩⟩
  · have e : k = 20 := Nat.le_antisymm hk ((nI_leI (by omega) (by omega)).mp z)
    subst e
    obtain ⟨M5, e5, h5⟩ := wset (k := 1) h4 (by omega : 104 < 106 + 4 * 20) ha104 h104 (Nat.le_of_ble_eq_true rfl) (.int 0)
    refine ⟨M5, e5, hP _ _ M5 h5 ha4 (fun j hj => by rw [up_ne (by omega)]; exact hc4 j hj) ⟨up_self, Nat.zero_le _, ⟨T, by rw [up_ne (by omega)]; exact h105, hT⟩, fun j hj => hj, fun j k _ _ e => e, fun t ht => ⟨[], [], 0, (hKt t ht).same (fun j a b => up_ne (by omega))⟩, fun j e hj => by cases hj⟩⟩
  · have hlt : k < 20 := Nat.not_le.mp fun w => z (nI_le w (by omega))
    subst hM7
    have h7 := h4.push (e := .inr (3, [.null, .int 0])) hq6
    have := k_init (g := g) (i := 106 + 4 * k) (P := fun M9 => isO M9 3 q6 ∧ (∃ M10 : Mem, sR M9 (g 4) (ads4 105) (nI k) q6 = some M10 ∧ ((∃ (k' : Nat) (ads4 : Nat → Nat) (c4 : Nat → va_E) (T : Nat → Option Nat), nI k + 1 = nI k' ∧ k' ≤ 20 ∧ Rep (106 + 4 * k') ads4 c4 M10 ∧ (∀ j, j < 105 → ads4 j = ads j) ∧ (∀ j, j < 104 → c4 j = c j) ∧ c4 104 = .inr (4, [.ref (ads4 105), .int 0]) ∧ c4 105 = arrR g 4 20 T ∧ (∀ j, j < k' → T j = some (ads4 (106 + 4 * j))) ∧ ∀ t, t < k' → KtC g ads4 c4 t [] [] 0) ∧ 20 - (nI k + 1).toNatClampNeg < 20 - (nI k).toNatClampNeg))) h7 up_self (fun ads9 c9 M9 h9 ha9 hc9 hci9 ht9 => ?_)
    · rw [up_self] at this; exact this
    have haq : ads9 (106 + 4 * k) = q6 := by rw [ha9 _ (by omega), up_self]
    have ha : ∀ j, j < 106 + 4 * k → ads9 j = ads4 j := fun j hj => by rw [ha9 j (by omega), up_ne (by omega)]
    have hcc : ∀ j, j < 106 + 4 * k → c9 j = c4 j := fun j hj => by rw [hc9 j hj, up_ne (by omega)]
    have h105' : c9 105 = arrR g 4 20 T := by rw [hcc 105 (by omega)]; exact h105
    have ew := h9.wR (i := 105) (by omega) h105' hlt (by omega) q6
    rw [ha 105 (by omega)] at ew
    have h10 := h9.up (i := 105) (by omega) (arrR g 4 20 (va_up T k (some q6)))
    rw [ha 105 (by omega)] at h10
    refine ⟨by rw [← haq]; exact h9.O (by omega) hci9, _, ew, ⟨k + 1, ads9, _, va_up T k (some q6), nI_1 k, hlt, h10, fun j hj => by rw [ha j (by omega)]; exact ha4 j hj, fun j hj => by rw [up_ne (by omega), hcc j (by omega)]; exact hc4 j hj, by rw [up_ne (by omega), hcc 104 (by omega), ha 105 (by omega)]; exact h104, up_self, fun j hj => ?_, fun t ht => ?_⟩, mu_dec hlt (by omega)⟩
    · by_cases hjk : j = k
      · subst hjk; rw [up_self, haq]
      · rw [up_ne hjk, ha _ (by omega)]; exact hT j (by omega)
    · by_cases htk : t = k
      · subst htk
        have e107 : 106 + 4 * t + 1 = 107 + 4 * t := by omega
        rw [e107] at hci9 ht9
        exact ⟨by rw [up_ne (by omega)]; exact hci9, ht9.same (up_ne (by omega)) (up_ne (by omega)) (up_ne (by omega))⟩
      · have hh := hKt t (by omega)
        exact ⟨by rw [up_ne (by omega), hcc _ (by omega), ha _ (by omega)]; exact hh.1, hh.2.ext (fun j hj => ha j (by omega)) (fun j a b => by rw [up_ne (by omega)]; exact hcc j (by omega))⟩
theorem r_init (h : Rep 187 ads c M) (hc : c 186 = .inr (5, [.null, .null, .null, .int 0, .int 0])) {P : Mem → Prop} (hP : ∀ ads' c' M', Rep 190 ads' c' M' → (∀ j, j < 187 → ads' j = ads j) → (∀ j, j < 186 → c' j = c j) → D6 g ads' c' → P M') : wp_Rs_init g M (ads 186) P := by
  intro q1 M2 hq1 hM2
  subst hM2
  obtain ⟨M3, e3, h3⟩ := al (k := 0) (e := .inl (g 2, (1024, .inl (fun _ => 0)))) h (by omega) rfl hc (Nat.le_of_ble_eq_true rfl) hq1
  refine ⟨M3, e3, fun q4 M5 hq4 hM5 => ?_⟩
  subst hM5
  obtain ⟨M6, e6, h6⟩ := al (k := 1) (a := ads 186) (e := .inl (g 1, (16, .inr (.inl (fun _ => 0))))) h3 (by omega) (up_ne (by omega)) up_self (Nat.le_of_ble_eq_true rfl) hq4
  refine ⟨M6, e6, fun q7 M8 hq7 hM8 => ?_⟩
  subst hM8
  obtain ⟨M9, e9, h9⟩ := al (k := 2) (a := ads 186) (e := .inl (g 1, (13, .inr (.inl (fun _ => 0))))) h6 (by omega) (by rw [up_ne (by omega), up_ne (by omega)]) up_self (Nat.le_of_ble_eq_true rfl) hq7
  obtain ⟨M10, e10, h10⟩ := wset (k := 3) (a := ads 186) h9 (by omega) (by rw [up_ne (by omega), up_ne (by omega), up_ne (by omega)]) up_self (Nat.le_of_ble_eq_true rfl) (.int 0)
  obtain ⟨M11, e11, h11⟩ := wset (k := 4) (a := ads 186) h10 (by omega) (by rw [up_ne (by omega), up_ne (by omega), up_ne (by omega)]) up_self (Nat.le_of_ble_eq_true rfl) (.int 0)
  refine ⟨M9, e9, M10, e10, M11, e11, hP _ _ M11 h11 (fun j hj => by rw [up_ne (by omega), up_ne (by omega), up_ne (by omega)]) (fun j hj => by rw [up_ne (by omega), up_ne (by omega), up_ne (by omega), up_ne (by omega), up_ne (by omega), up_ne (by omega), up_ne (by omega), up_ne (by omega)]) ⟨0, 0, fun _ => 0, fun _ => 0, fun _ => 0, rs_ext (fun _ _ => rfl) ?_ ?_ ?_ ?_⟩⟩
  · rw [up_self]; rfl
  · rw [up_ne (by omega), up_ne (by omega), up_ne (by omega), up_ne (by omega), up_ne (by omega), up_ne (by omega), up_ne (by omega), up_self]
  · rw [up_ne (by omega), up_ne (by omega), up_ne (by omega), up_ne (by omega), up_ne (by omega), up_self]
  · rw [up_ne (by omega), up_ne (by omega), up_ne (by omega), up_self]
end INIT
