/-! type -/
def byt (w : Int64) (k : Nat) : Int32 := (((w.toUInt64 >>> (((8 : Int32) * nI k).toInt64.toUInt64 &&& Int64.toUInt64 63)).toInt64).toInt32) &&& (255 : Int32)
theorem by_s1 : ∀ k, k < 8 → ((((8 : Int32) * nI k).toInt64 &&& 63).toBitVec.smod 64).toNat = 8 * k := by decide +kernel
theorem by_s2 : ∀ k, k < 8 → ((((8 : Int32) * nI k).toInt64.toUInt64 &&& Int64.toUInt64 63).toBitVec % 64).toNat = 8 * k := by decide +kernel
theorem by_m1 : ∀ i, i < 32 → (255 : Int32).toBitVec.getLsbD i = decide (i < 8) := by decide +kernel
theorem by_m2 : ∀ i, i < 32 → (255 : Int64).toBitVec.getLsbD i = decide (i < 8) := by decide +kernel
theorem by_eq (w : Int64) {k : Nat} (hk : k < 8) : ((w >>> (((8 : Int32) * nI k).toInt64 &&& 63)) &&& (255 : Int64)).toInt32 = byt w k := by
  apply Int32.toBitVec_inj.mp
  apply BitVec.eq_of_getLsbD_eq
  intro i hi
  have hL : (((w >>> (((8 : Int32) * nI k).toInt64 &&& 63)) &&& (255 : Int64)).toInt32).toBitVec.getLsbD i = (decide (i < 8) && w.toBitVec.getLsbD (8 * k + i)) := by
    rw [Int64.toBitVec_toInt32, BitVec.getLsbD_signExtend, if_pos (by omega), Int64.toBitVec_and, BitVec.getLsbD_and, by_m2 i hi, Int64.toBitVec_shiftRight]
    show (decide (i < 32) && ((w.toBitVec.sshiftRight ((((8 : Int32) * nI k).toInt64 &&& 63).toBitVec.smod 64).toNat).getLsbD i && decide (i < 8))) = _
    rw [by_s1 k hk, BitVec.getLsbD_sshiftRight]
    by_cases h8 : i < 8
    · rw [if_pos (by omega)]
      simp [h8, hi]
      intro _; omega
    · simp [h8]
  have hR : (byt w k).toBitVec.getLsbD i = (decide (i < 8) && w.toBitVec.getLsbD (8 * k + i)) := by
    unfold byt
    rw [Int32.toBitVec_and, BitVec.getLsbD_and, by_m1 i hi, Int64.toBitVec_toInt32, BitVec.getLsbD_signExtend, if_pos (by omega)]
    show ((decide (i < 32) && (w.toUInt64 >>> (((8 : Int32) * nI k).toInt64.toUInt64 &&& Int64.toUInt64 63)).toBitVec.getLsbD i) && decide (i < 8)) = _
    rw [UInt64.toBitVec_shiftRight]
    show ((decide (i < 32) && (w.toBitVec >>> ((((8 : Int32) * nI k).toInt64.toUInt64 &&& Int64.toUInt64 63).toBitVec % 64).toNat).getLsbD i) && decide (i < 8)) = _
    rw [by_s2 k hk, BitVec.getLsbD_ushiftRight]
    simp [hi, Bool.and_comm]
  rw [hL, hR]
def tyL (w : Int64) : Nat → List Int32
  | 0 => []
  | n + 1 => byt w n :: tyL w n
def tyP (w : Int64) (x : Int32) (tp : List Int32) (m : Nat) : Prop := x = nI m ∧ 1 ≤ m ∧ m ≤ 8 ∧ tp.length + m ≤ 60 ∧ ∀ k, k < m → ¬ byt w k < 33 ∧ byt w k ≤ 126
theorem byt_sgn {w : Int64} {k : Nat} (h1 : ¬ byt w k < 33) (h2 : byt w k ≤ 126) : sgn (byt w k) := by
  have h0 : ¬ byt w k < 0 := fun z => h1 (Int32.lt_trans z (by decide))
  obtain ⟨j, hj, e⟩ := nI_of2 (n := 126) (by decide) h0 h2
  refine ⟨j, Nat.not_lt.mp fun z => h1 ?_, hj, e⟩
  rw [e]
  exact nI_lt (b := 33) z (by omega)
theorem tyL_len (w : Int64) (n : Nat) : (tyL w n).length = n := by
  induction n with
  | zero => rfl
  | succ n ih => rw [tyL, List.length_cons, ih]
theorem tyL_sgn {w : Int64} {n : Nat} (h : ∀ k, k < n → ¬ byt w k < 33 ∧ byt w k ≤ 126) : ∀ x ∈ tyL w n, sgn x := by
  induction n with
  | zero => exact fun x hx => (List.not_mem_nil hx).elim
  | succ n ih =>
    intro x hx
    rcases List.mem_cons.mp hx with z | z
    · rw [z]; exact byt_sgn (h n (by omega)).1 (h n (by omega)).2
    · exact ih (fun k hk => h k (by omega)) x z
def Fr (c c' : Nat → va_E) : Prop := ∀ j, 190 ≤ j → c' j = c j
theorem Fr.refl {c : Nat → va_E} : Fr c c := fun _ _ => rfl
theorem Fr.trans {c c' c'' : Nat → va_E} (h : Fr c c') (h' : Fr c' c'') : Fr c c'' := fun j hj => (h' j hj).trans (h j hj)
theorem TextTo.fr {g : Nat → ClassId} {ads : Nat → Nat} {c c' : Nat → va_E} {i : Nat} {ss : List Int32} {ps : List Int64} (h : TextTo g ads c i ss ps c') (hi : i + 2 < 190) : Fr c c' := fun j hj => h.2 j (by omega) (by omega) (by omega)
section TYPE
variable {g : Nat → ClassId} {ads : Nat → Nat} {c : Nat → va_E} {tp : List Int32} {ft : Int32} {B : Nat → BS} {K : List (List Int32 × Int32)} {N : Nat} {M : Mem}
theorem d_type (h : DeskC g ads c tp ft B K) (hR : Rep N ads c M) (hN : 190 ≤ N) (ht : tp.length ≤ 60) {w : Int64} {x : Int32} {P : Int32 → Mem → Prop} (hP1 : ∀ m, tyP w x tp m → ∀ c' M', Rep N ads c' M' → DeskC g ads c' (tp ++ tyL w m) ft B K → Fr c c' → P 1 M') (hP0 : (∀ m, ¬ tyP w x tp m) → P 0 M) : wp_Desk_type g M (ads 0) w x P := by
  refine ⟨fun z => ⟨isB_0, hP0 ?_⟩, fun z => ⟨fun z2 => ⟨isB_0, hP0 ?_⟩, fun z2 => ⟨_, d_0 h hR hN, h.2.1.O hR (by omega), l_length hR (by omega) h.2.1 ?_⟩⟩⟩
  · rintro m ⟨rfl, h1, h8, -⟩
    exact nI_nlt (b := 1) h1 (by omega) z
  · rintro m ⟨rfl, h1, h8, -⟩
    exact nI_nlt (a := 8) h8 (by omega) z2
  have h0 : ¬ x < 0 := fun y => z (Int32.lt_trans y (by decide))
  obtain ⟨m, hm, rfl⟩ := nI_of h0
  have hm1 : 1 ≤ m := Nat.not_lt.mp fun y => z (nI_lt (b := 1) y (by omega))
  have hm8 : m ≤ 8 := Nat.not_lt.mp fun y => z2 (nI_lt (a := 8) y (by omega))
  rw [nI_add]
  refine ⟨fun y => ?_, fun y => ⟨isB_0, hP0 ?_⟩⟩
  · have h60 : tp.length + m ≤ 60 := (nI_leI (b := 60) (by omega) (by omega)).mp y
    refine ⟨fun x => ∃ j, x = nI j ∧ j ≤ m ∧ ∀ k, k < j → ¬ byt w k < 33 ∧ byt w k ≤ 126, fun x => m - x.toNatClampNeg, ⟨0, rfl, Nat.zero_le _, fun k hk => absurd hk (Nat.not_lt_zero _)⟩, ?_⟩
    rintro _ ⟨j, rfl, hj, hall⟩
    refine ⟨fun q => ?_, fun q => ?_⟩
    · have e : j = m := Nat.le_antisymm hj (Nat.not_lt.mp fun y => absurd q (nI_ge y (by omega)))
      subst e
      have hP := hP1 j ⟨rfl, hm1, hm8, h60, hall⟩
      refine ⟨fun x M' => ∃ (k : Nat) (cur : List Int32) (c' : Nat → va_E), x = nI k - 1 ∧ k ≤ j ∧ cur ++ tyL w k = tp ++ tyL w j ∧ Rep N ads c' M' ∧ DeskC g ads c' cur ft B K ∧ Fr c c', fun x _ => (x + 1).toNatClampNeg, ⟨j, tp, c, rfl, Nat.le_refl _, rfl, hR, h, Fr.refl⟩, ?_⟩
      rintro _ M1 ⟨k, cur, c1, rfl, hk, hcur, hR1, h1, hf1⟩
      cases k with
      | zero =>
        refine ⟨fun _ => ⟨isB_1, hP c1 M1 hR1 ?_ hf1⟩, fun y => absurd (by decide) y⟩
        rw [← hcur]
        show DeskC g ads c1 (cur ++ []) ft B K
        rw [List.append_nil]
        exact h1
      | succ k =>
        rw [nI_pred]
        refine ⟨fun y => absurd y (nI_pos (by omega)), fun _ => ⟨_, d_0 h1 hR1 hN, h1.2.1.O hR1 (by omega), ?_⟩⟩
        have hlen : cur.length + (k + 1) = tp.length + j := by
          have := congrArg List.length hcur
          rw [List.length_append, List.length_append, tyL_len, tyL_len] at this
          exact this
        have hs := hall k (by omega)
        refine l_add hR1 (by omega) h1.2.1 (by omega) (x := byt w k) (byt_sgn hs.1 hs.2).byte (fun c2 M2 hR2 hT2 => ⟨⟨k, cur ++ [byt w k], c2, ?_, by omega, ?_, hR2, desk_1 h1 hT2, hf1.trans (hT2.fr (by omega))⟩, ?_⟩)
        · cases k with
          | zero => decide
          | succ k => rw [pk_m1, nI_pred]
        · rw [List.append_assoc]; exact hcur
        · show (nI k + (-1) + 1).toNatClampNeg < (nI k + 1).toNatClampNeg
          rw [show nI k + (-1) + 1 = nI k by rw [Int32.add_assoc]; exact Int32.add_zero _, nI_1, nI_clamp (by omega), nI_clamp (by omega)]
          omega
    · have hlt : j < m := Nat.not_le.mp fun y => q (nI_le y (by omega))
      refine ⟨fun a => ⟨isB_0, hP0 ?_⟩, fun a => ⟨fun b => ⟨⟨j + 1, nI_1 j, hlt, fun k hk => ?_⟩, mu_dec hlt (by omega)⟩, fun b => ⟨isB_0, hP0 ?_⟩⟩⟩
      · rintro m' ⟨e, -, h8', -, h5⟩
        have : m = m' := (nI_eq (by omega) (by omega)).mp e
        exact (h5 j (by omega)).1 a
      · by_cases hkj : k = j
        · subst hkj; exact ⟨a, b⟩
        · exact hall k (by omega)
      · rintro m' ⟨e, -, h8', -, h5⟩
        have : m = m' := (nI_eq (by omega) (by omega)).mp e
        exact b (h5 j (by omega)).2
  · rintro m' ⟨e, h1, h8, h60, -⟩
    have : m = m' := (nI_eq (by omega) (by omega)).mp e
    subst this
    exact y (nI_le (b := 60) h60 (by omega))
end TYPE
