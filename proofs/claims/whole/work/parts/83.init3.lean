section INIT3
variable {g : Nat → ClassId} {ads : Nat → Nat} {c : Nat → va_E} {M : Mem} {a : Nat}
def s0 : Nat → Int32 := fun k => if k = 3 then -1 else 0
/-- one more array of the reference -/
theorem al2 {n k q : Nat} {fs : List Value} {e : va_E} {c0 : Nat → va_E} {E : Nat → va_E} {ads0 : Nat → Nat} (h : Rep n ads c M) (hn : 191 ≤ n) (ha : ads 190 = a) (hc : c 190 = .inr (6, fs)) (hk : k < fs.length) (hq : M q = none) (hlow : ∀ j, j < 190 → c j = c0 j) (hads : ∀ j, j < 191 → ads j = ads0 j) (hE : ∀ j, 191 ≤ j → j < n → c j = E j) (he : E n = e) : ∃ M3 ads' c', pV (mup M q e) 6 a k (.ref q) = some M3 ∧ Rep (n + 1) ads' c' M3 ∧ ads' 190 = a ∧ c' 190 = .inr (6, fs.set k (.ref (ads' n))) ∧ (∀ j, j < 190 → c' j = c0 j) ∧ (∀ j, j < 191 → ads' j = ads0 j) ∧ (∀ j, 191 ≤ j → j < n + 1 → c' j = E j) ∧ ∀ j, j < n → ads' j = ads j := by
  obtain ⟨M3, e3, h3⟩ := al (e := e) h (by omega : 190 < n) ha hc hk hq
  refine ⟨M3, _, _, e3, h3, by rw [up_ne (by omega)]; exact ha, by rw [up_self, up_self], fun j hj => by rw [up_ne (by omega), up_ne (by omega)]; exact hlow j hj, fun j hj => by rw [up_ne (by omega)]; exact hads j hj, fun j h1 h2 => ?_, fun j hj => up_ne (by omega)⟩
  rw [up_ne (by omega)]
  by_cases hj : j = n
  · subst hj; rw [up_self, he]
  · rw [up_ne hj]; exact hE j h1 (by omega)
def mE (g : Nat → ClassId) : Nat → va_E := fun p =>
  if p = 192 then .inl (g 1, (6, .inr (.inl (fun _ => 0)))) else if p = 196 then .inl (g 1, (144, .inr (.inl (fun _ => 0)))) else if p = 201 then .inl (g 1, (120, .inr (.inl (fun _ => 0)))) else if p = 191 ∨ p = 193 then .inl (g 2, (60, .inl (fun _ => 0))) else if p = 198 then .inl (g 2, (984, .inl (fun _ => 0))) else if p = 203 then .inl (g 2, (820, .inl (fun _ => 0))) else if p = 205 ∨ p = 206 then .inl (g 2, (16384, .inl (fun _ => 0))) else if p = 194 ∨ p = 195 ∨ p = 197 ∨ p = 199 then .inl (g 2, (24, .inl (fun _ => 0))) else .inl (g 2, (20, .inl (fun _ => 0)))
theorem mE_I : ∀ e ∈ mLI, mE g e.1 = .inl (g 2, e.2, .inl (fun _ => 0)) := by
  intro e he
  simp only [mLI, List.mem_cons, List.not_mem_nil, or_false] at he
  rcases he with rfl | rfl | rfl | rfl | rfl | rfl | rfl | rfl | rfl | rfl | rfl | rfl | rfl
  all_goals rfl
theorem mE_L : ∀ e ∈ mLL, mE g e.1 = .inl (g 1, e.2, .inr (.inl (fun _ => 0))) := by
  intro e he
  simp only [mLL, List.mem_cons, List.not_mem_nil, or_false] at he
  rcases he with rfl | rfl | rfl
  all_goals rfl
theorem ModC.up194 {s : Nat → Int32} {A : Nat → Nat → Int32} {L : Nat → Nat → Int64} {f : Nat → Int32} (hC : ModC g ads c s A L) : ModC g ads (va_up c 194 (.inl (g 2, 24, .inl f))) s (va_up A 194 f) L := by
  refine ⟨?_, fun e he => ?_, fun e he => ?_⟩
  · rw [up_ne (by omega)]; exact hC.1
  · by_cases hep : e.1 = 194
    · have h2 : e.2 = 24 := mLI_fun e he (194, 24) (by decide) hep
      rw [hep, up_self, up_self, h2]
    · rw [up_ne hep, up_ne hep]; exact hC.2.1 e he
  · have h2 := mIL_ne (194, 24) (by decide) e he
    rw [up_ne (Ne.symm h2)]; exact hC.2.2 e he
theorem o_init (h : Rep 191 ads c M) (ha : ads 190 = a) (hc : c 190 = .inr (6, [.int 0, .null, .int 0, .int 0, .null, .int 0, .int 0, .null, .null, .null, .null, .null, .null, .null, .int 0, .null, .null, .null, .null, .null, .null, .int 0, .null])) {P : Mem → Prop} (hP : ∀ ads' c' A' M', Rep 207 ads' c' M' → (∀ j, j < 191 → ads' j = ads j) → (∀ j, j < 190 → c' j = c j) → ModC g ads' c' s0 A' (fun _ _ => 0) → (∀ i, i < 24 → A' 194 i = -1) → (∀ p, p ≠ 194 → A' p = fun _ => 0) → P M') : wp_Mod_init g M a P := by
  have hl0 : ∀ j, j < 190 → c j = c j := fun _ _ => rfl
  have hd0 : ∀ j, j < 191 → ads j = ads j := fun _ _ => rfl
  have hE0 : ∀ j, 191 ≤ j → j < 191 → c j = mE g j := fun j a b => by omega
  intro q1 M1a hq1 hM1
  subst hM1
  obtain ⟨M1, ads1, c1, e1, h1, ha1, hc1, hl1, hd1, hE1, hs1⟩ := al2 (k := 1) (n := 191) (e := .inl (g 2, (60, .inl (fun _ => 0)))) (E := mE g) h (by omega) ha hc (Nat.le_of_ble_eq_true rfl) hq1 hl0 hd0 hE0 rfl
  obtain ⟨M1b, e1b, h1b⟩ := wset (k := 3) h1 (by omega : 190 < 191 + 1) ha1 hc1 (Nat.le_of_ble_eq_true rfl) (.int (-1))
  refine ⟨M1, e1, M1b, e1b, ?_⟩
  replace hl1 : ∀ j, j < 190 → va_up c1 190 (.inr (6, ([.int 0, .null, .int 0, .int 0, .null, .int 0, .int 0, .null, .null, .null, .null, .null, .null, .null, .int 0, .null, .null, .null, .null, .null, .null, .int 0, .null].set 1 (.ref (ads1 191))).set 3 (.int (-1)))) j = c j := fun j hj => by rw [up_ne (by omega)]; exact hl1 j hj
  replace hE1 : ∀ j, 191 ≤ j → j < 191 + 1 → va_up c1 190 (.inr (6, ([.int 0, .null, .int 0, .int 0, .null, .int 0, .int 0, .null, .null, .null, .null, .null, .null, .null, .int 0, .null, .null, .null, .null, .null, .null, .int 0, .null].set 1 (.ref (ads1 191))).set 3 (.int (-1)))) j = mE g j := fun j p q => by rw [up_ne (by omega)]; exact hE1 j p q
  replace hc1 : va_up c1 190 (.inr (6, ([.int 0, .null, .int 0, .int 0, .null, .int 0, .int 0, .null, .null, .null, .null, .null, .null, .null, .int 0, .null, .null, .null, .null, .null, .null, .int 0, .null].set 1 (.ref (ads1 191))).set 3 (.int (-1)))) 190 = _ := up_self
  replace h1 := h1b
  intro q2 M2a hq2 hM2
  subst hM2
  obtain ⟨M2, ads2, c2, e2, h2, ha2, hc2, hl2, hd2, hE2, hs2⟩ := al2 (k := 4) (n := 192) (e := .inl (g 1, (6, .inr (.inl (fun _ => 0))))) (E := mE g) h1 (by omega) ha1 hc1 (Nat.le_of_ble_eq_true rfl) hq2 hl1 hd1 hE1 rfl
  refine ⟨M2, e2, ?_⟩
  intro q3 M3a hq3 hM3
  subst hM3
  obtain ⟨M3, ads3, c3, e3, h3, ha3, hc3, hl3, hd3, hE3, hs3⟩ := al2 (k := 7) (n := 193) (e := .inl (g 2, (60, .inl (fun _ => 0)))) (E := mE g) h2 (by omega) ha2 hc2 (Nat.le_of_ble_eq_true rfl) hq3 hl2 hd2 hE2 rfl
  refine ⟨M3, e3, ?_⟩
  intro q4 M4a hq4 hM4
  subst hM4
  obtain ⟨M4, ads4, c4, e4, h4, ha4, hc4, hl4, hd4, hE4, hs4⟩ := al2 (k := 8) (n := 194) (e := .inl (g 2, (24, .inl (fun _ => 0)))) (E := mE g) h3 (by omega) ha3 hc3 (Nat.le_of_ble_eq_true rfl) hq4 hl3 hd3 hE3 rfl
  refine ⟨M4, e4, ?_⟩
  intro q5 M5a hq5 hM5
  subst hM5
  obtain ⟨M5, ads5, c5, e5, h5, ha5, hc5, hl5, hd5, hE5, hs5⟩ := al2 (k := 9) (n := 195) (e := .inl (g 2, (24, .inl (fun _ => 0)))) (E := mE g) h4 (by omega) ha4 hc4 (Nat.le_of_ble_eq_true rfl) hq5 hl4 hd4 hE4 rfl
  refine ⟨M5, e5, ?_⟩
  intro q6 M6a hq6 hM6
  subst hM6
  obtain ⟨M6, ads6, c6, e6, h6, ha6, hc6, hl6, hd6, hE6, hs6⟩ := al2 (k := 10) (n := 196) (e := .inl (g 1, (144, .inr (.inl (fun _ => 0))))) (E := mE g) h5 (by omega) ha5 hc5 (Nat.le_of_ble_eq_true rfl) hq6 hl5 hd5 hE5 rfl
  refine ⟨M6, e6, ?_⟩
  intro q7 M7a hq7 hM7
  subst hM7
  obtain ⟨M7, ads7, c7, e7, h7, ha7, hc7, hl7, hd7, hE7, hs7⟩ := al2 (k := 11) (n := 197) (e := .inl (g 2, (24, .inl (fun _ => 0)))) (E := mE g) h6 (by omega) ha6 hc6 (Nat.le_of_ble_eq_true rfl) hq7 hl6 hd6 hE6 rfl
  refine ⟨M7, e7, ?_⟩
  intro q8 M8a hq8 hM8
  subst hM8
  obtain ⟨M8, ads8, c8, e8, h8, ha8, hc8, hl8, hd8, hE8, hs8⟩ := al2 (k := 12) (n := 198) (e := .inl (g 2, (984, .inl (fun _ => 0)))) (E := mE g) h7 (by omega) ha7 hc7 (Nat.le_of_ble_eq_true rfl) hq8 hl7 hd7 hE7 rfl
  refine ⟨M8, e8, ?_⟩
  intro q9 M9a hq9 hM9
  subst hM9
  obtain ⟨M9, ads9, c9, e9, h9, ha9, hc9, hl9, hd9, hE9, hs9⟩ := al2 (k := 13) (n := 199) (e := .inl (g 2, (24, .inl (fun _ => 0)))) (E := mE g) h8 (by omega) ha8 hc8 (Nat.le_of_ble_eq_true rfl) hq9 hl8 hd8 hE8 rfl
  refine ⟨M9, e9, ?_⟩
  intro q10 M10a hq10 hM10
  subst hM10
  obtain ⟨M10, ads10, c10, e10, h10, ha10, hc10, hl10, hd10, hE10, hs10⟩ := al2 (k := 15) (n := 200) (e := .inl (g 2, (20, .inl (fun _ => 0)))) (E := mE g) h9 (by omega) ha9 hc9 (Nat.le_of_ble_eq_true rfl) hq10 hl9 hd9 hE9 rfl
  refine ⟨M10, e10, ?_⟩
  intro q11 M11a hq11 hM11
  subst hM11
  obtain ⟨M11, ads11, c11, e11, h11, ha11, hc11, hl11, hd11, hE11, hs11⟩ := al2 (k := 16) (n := 201) (e := .inl (g 1, (120, .inr (.inl (fun _ => 0))))) (E := mE g) h10 (by omega) ha10 hc10 (Nat.le_of_ble_eq_true rfl) hq11 hl10 hd10 hE10 rfl
  refine ⟨M11, e11, ?_⟩
  intro q12 M12a hq12 hM12
  subst hM12
  obtain ⟨M12, ads12, c12, e12, h12, ha12, hc12, hl12, hd12, hE12, hs12⟩ := al2 (k := 17) (n := 202) (e := .inl (g 2, (20, .inl (fun _ => 0)))) (E := mE g) h11 (by omega) ha11 hc11 (Nat.le_of_ble_eq_true rfl) hq12 hl11 hd11 hE11 rfl
  refine ⟨M12, e12, ?_⟩
  intro q13 M13a hq13 hM13
  subst hM13
  obtain ⟨M13, ads13, c13, e13, h13, ha13, hc13, hl13, hd13, hE13, hs13⟩ := al2 (k := 18) (n := 203) (e := .inl (g 2, (820, .inl (fun _ => 0)))) (E := mE g) h12 (by omega) ha12 hc12 (Nat.le_of_ble_eq_true rfl) hq13 hl12 hd12 hE12 rfl
  refine ⟨M13, e13, ?_⟩
  intro q14 M14a hq14 hM14
  subst hM14
  obtain ⟨M14, ads14, c14, e14, h14, ha14, hc14, hl14, hd14, hE14, hs14⟩ := al2 (k := 19) (n := 204) (e := .inl (g 2, (20, .inl (fun _ => 0)))) (E := mE g) h13 (by omega) ha13 hc13 (Nat.le_of_ble_eq_true rfl) hq14 hl13 hd13 hE13 rfl
  refine ⟨M14, e14, ?_⟩
  intro q15 M15a hq15 hM15
  subst hM15
  obtain ⟨M15, ads15, c15, e15, h15, ha15, hc15, hl15, hd15, hE15, hs15⟩ := al2 (k := 20) (n := 205) (e := .inl (g 2, (16384, .inl (fun _ => 0)))) (E := mE g) h14 (by omega) ha14 hc14 (Nat.le_of_ble_eq_true rfl) hq15 hl14 hd14 hE14 rfl
  refine ⟨M15, e15, ?_⟩
  intro q16 M16a hq16 hM16
  subst hM16
  obtain ⟨M16, ads16, c16, e16, h16, ha16, hc16, hl16, hd16, hE16, hs16⟩ := al2 (k := 22) (n := 206) (e := .inl (g 2, (16384, .inl (fun _ => 0)))) (E := mE g) h15 (by omega) ha15 hc15 (Nat.le_of_ble_eq_true rfl) hq16 hl15 hd15 hE15 rfl
  refine ⟨M16, e16, ?_⟩
  have hC : ModC g ads16 c16 s0 (fun _ _ => 0) (fun _ _ => 0) := by
    refine ⟨?_, fun e he => ?_, fun e he => ?_⟩
    · rw [hc16]
      have r191 : ads16 191 = ads1 191 := by rw [hs16 191 (by omega), hs15 191 (by omega), hs14 191 (by omega), hs13 191 (by omega), hs12 191 (by omega), hs11 191 (by omega), hs10 191 (by omega), hs9 191 (by omega), hs8 191 (by omega), hs7 191 (by omega), hs6 191 (by omega), hs5 191 (by omega), hs4 191 (by omega), hs3 191 (by omega), hs2 191 (by omega)]
      have r192 : ads16 192 = ads2 192 := by rw [hs16 192 (by omega), hs15 192 (by omega), hs14 192 (by omega), hs13 192 (by omega), hs12 192 (by omega), hs11 192 (by omega), hs10 192 (by omega), hs9 192 (by omega), hs8 192 (by omega), hs7 192 (by omega), hs6 192 (by omega), hs5 192 (by omega), hs4 192 (by omega), hs3 192 (by omega)]
      have r193 : ads16 193 = ads3 193 := by rw [hs16 193 (by omega), hs15 193 (by omega), hs14 193 (by omega), hs13 193 (by omega), hs12 193 (by omega), hs11 193 (by omega), hs10 193 (by omega), hs9 193 (by omega), hs8 193 (by omega), hs7 193 (by omega), hs6 193 (by omega), hs5 193 (by omega), hs4 193 (by omega)]
      have r194 : ads16 194 = ads4 194 := by rw [hs16 194 (by omega), hs15 194 (by omega), hs14 194 (by omega), hs13 194 (by omega), hs12 194 (by omega), hs11 194 (by omega), hs10 194 (by omega), hs9 194 (by omega), hs8 194 (by omega), hs7 194 (by omega), hs6 194 (by omega), hs5 194 (by omega)]
      have r195 : ads16 195 = ads5 195 := by rw [hs16 195 (by omega), hs15 195 (by omega), hs14 195 (by omega), hs13 195 (by omega), hs12 195 (by omega), hs11 195 (by omega), hs10 195 (by omega), hs9 195 (by omega), hs8 195 (by omega), hs7 195 (by omega), hs6 195 (by omega)]
      have r196 : ads16 196 = ads6 196 := by rw [hs16 196 (by omega), hs15 196 (by omega), hs14 196 (by omega), hs13 196 (by omega), hs12 196 (by omega), hs11 196 (by omega), hs10 196 (by omega), hs9 196 (by omega), hs8 196 (by omega), hs7 196 (by omega)]
      have r197 : ads16 197 = ads7 197 := by rw [hs16 197 (by omega), hs15 197 (by omega), hs14 197 (by omega), hs13 197 (by omega), hs12 197 (by omega), hs11 197 (by omega), hs10 197 (by omega), hs9 197 (by omega), hs8 197 (by omega)]
      have r198 : ads16 198 = ads8 198 := by rw [hs16 198 (by omega), hs15 198 (by omega), hs14 198 (by omega), hs13 198 (by omega), hs12 198 (by omega), hs11 198 (by omega), hs10 198 (by omega), hs9 198 (by omega)]
      have r199 : ads16 199 = ads9 199 := by rw [hs16 199 (by omega), hs15 199 (by omega), hs14 199 (by omega), hs13 199 (by omega), hs12 199 (by omega), hs11 199 (by omega), hs10 199 (by omega)]
      have r200 : ads16 200 = ads10 200 := by rw [hs16 200 (by omega), hs15 200 (by omega), hs14 200 (by omega), hs13 200 (by omega), hs12 200 (by omega), hs11 200 (by omega)]
      have r201 : ads16 201 = ads11 201 := by rw [hs16 201 (by omega), hs15 201 (by omega), hs14 201 (by omega), hs13 201 (by omega), hs12 201 (by omega)]
      have r202 : ads16 202 = ads12 202 := by rw [hs16 202 (by omega), hs15 202 (by omega), hs14 202 (by omega), hs13 202 (by omega)]
      have r203 : ads16 203 = ads13 203 := by rw [hs16 203 (by omega), hs15 203 (by omega), hs14 203 (by omega)]
      have r204 : ads16 204 = ads14 204 := by rw [hs16 204 (by omega), hs15 204 (by omega)]
      have r205 : ads16 205 = ads15 205 := by rw [hs16 205 (by omega)]
      rw [← r191, ← r192, ← r193, ← r194, ← r195, ← r196, ← r197, ← r198, ← r199, ← r200, ← r201, ← r202, ← r203, ← r204, ← r205]
      rfl
    · have hk := mLI_ok e he
      rw [hE16 e.1 (by omega) (by omega)]
      exact mE_I e he
    · have hk := mLL_ok e he
      rw [hE16 e.1 (by omega) (by omega)]
      exact mE_L e he
  clear hc16 hE16
  refine ⟨fun x1 M' => ∃ (k : Nat) (c' : Nat → va_E) (A' : Nat → Nat → Int32), x1 = nI k ∧ k ≤ 24 ∧ Rep 207 ads16 c' M' ∧ (∀ j, j < 190 → c' j = c j) ∧ ModC g ads16 c' s0 A' (fun _ _ => 0) ∧ (∀ i, i < k → A' 194 i = -1) ∧ (∀ p, p ≠ 194 → A' p = fun _ => 0), fun x _ => 24 - x.toNatClampNeg, ⟨0, c16, fun _ _ => 0, rfl, Nat.zero_le _, h16, hl16, hC, fun i hi => absurd hi (Nat.not_lt_zero _), fun _ _ => rfl⟩, ?_⟩
  rintro _ M' ⟨k, c', A', rfl, hk, hR, hlow, hC', hq, ho⟩
  refine ⟨fun z => ?_, fun z => ?_⟩
  · have e : k = 24 := Nat.le_antisymm hk ((nI_leI (a := 24) (by omega) (by omega)).mp z)
    subst e
    exact hP ads16 c' A' M' hR hd16 hlow hC' hq ho
  · have hlt : k < 24 := Nat.not_le.mp fun w => z (nI_le (a := 24) w (by omega))
    have hcell : c' 194 = .inl (g 2, 24, .inl (A' 194)) := hC'.2.1 (194, 24) (by decide)
    refine ⟨ads16 194, by rw [← ha16]; exact hR.R (by omega) hC'.1 rfl, _, hR.wI (by omega) hcell hlt (by omega) (-1), ⟨k + 1, _, va_up A' 194 (upd (A' 194) k (-1)), nI_1 k, hlt, hR.up (by omega) _, fun j hj => by rw [up_ne (by omega)]; exact hlow j hj, hC'.up194, fun i hi => ?_, fun p hp => by rw [up_ne hp]; exact ho p hp⟩, mu_dec hlt (by omega)⟩
    rw [up_self]
    by_cases hik : i = k
    · subst hik; rw [pk_us]
    · rw [pk_un hik]; exact hq i (by omega)
end INIT3
