/-! the reference's cells -/
def modF (ads : Nat → Nat) (s : Nat → Int32) : List Value := [.int (s 0), .ref (ads 191), .int (s 2), .int (s 3), .ref (ads 192), .int (s 5), .int (s 6), .ref (ads 193), .ref (ads 194), .ref (ads 195), .ref (ads 196), .ref (ads 197), .ref (ads 198), .ref (ads 199), .int (s 14), .ref (ads 200), .ref (ads 201), .ref (ads 202), .ref (ads 203), .ref (ads 204), .ref (ads 205), .int (s 21), .ref (ads 206)]
def mLI : List (Nat × Nat) := [(191, 60), (193, 60), (194, 24), (195, 24), (197, 24), (198, 984), (199, 24), (200, 20), (202, 20), (203, 820), (204, 20), (205, 16384), (206, 16384)]
def mLL : List (Nat × Nat) := [(192, 6), (196, 144), (201, 120)]
theorem mLI_ok : ∀ e ∈ mLI, 190 < e.1 ∧ e.1 < 207 ∧ e.2 < 20000 := by decide
theorem mLL_ok : ∀ e ∈ mLL, 190 < e.1 ∧ e.1 < 207 ∧ e.2 < 20000 := by decide
theorem mLI_fun : ∀ e ∈ mLI, ∀ f ∈ mLI, e.1 = f.1 → e.2 = f.2 := by decide
theorem mLL_fun : ∀ e ∈ mLL, ∀ f ∈ mLL, e.1 = f.1 → e.2 = f.2 := by decide
theorem mIL_ne : ∀ e ∈ mLI, ∀ f ∈ mLL, e.1 ≠ f.1 := by decide
def ModC (g : Nat → ClassId) (ads : Nat → Nat) (c : Nat → va_E) (s : Nat → Int32) (A : Nat → Nat → Int32) (L : Nat → Nat → Int64) : Prop :=
  c 190 = .inr (6, modF ads s) ∧ (∀ e ∈ mLI, c e.1 = .inl (g 2, e.2, .inl (A e.1))) ∧ ∀ e ∈ mLL, c e.1 = .inl (g 1, e.2, .inr (.inl (L e.1)))
def FrM (c c' : Nat → va_E) : Prop := ∀ j, j < 190 ∨ 207 ≤ j → c' j = c j
def MR (N : Nat) (ads : Nat → Nat) (g : Nat → ClassId) (c0 : Nat → va_E) (s : Nat → Int32) (A : Nat → Nat → Int32) (L : Nat → Nat → Int64) (M : Mem) : Prop :=
  ∃ c, Rep N ads c M ∧ ModC g ads c s A L ∧ FrM c0 c
section MOD
variable {N : Nat} {ads : Nat → Nat} {g : Nat → ClassId} {c0 : Nat → va_E} {s : Nat → Int32} {A : Nat → Nat → Int32} {L : Nat → Nat → Int64} {M : Mem}
theorem mr_O (h : MR N ads g c0 s A L M) (hN : 208 ≤ N) : isO M 6 (ads 190) := by
  obtain ⟨c, hR, hC, -⟩ := h
  exact hR.O (by omega) hC.1
theorem mr_s (h : MR N ads g c0 s A L M) (hN : 208 ≤ N) {k : Nat} {v : Int32} (hk : (modF ads s)[k]? = some (.int v)) : gI M 6 (ads 190) k = some v := by
  obtain ⟨c, hR, hC, -⟩ := h
  exact hR.I (by omega) hC.1 hk
theorem mr_r (h : MR N ads g c0 s A L M) (hN : 208 ≤ N) {k a : Nat} (hk : (modF ads s)[k]? = some (.ref a)) : gR M 6 (ads 190) k = some a := by
  obtain ⟨c, hR, hC, -⟩ := h
  exact hR.R (by omega) hC.1 hk
theorem mr_w (h : MR N ads g c0 s A L M) (hN : 208 ≤ N) {k : Nat} (x : Int32) (hk : (modF ads s).set k (.int x) = modF ads (va_up s k x)) (hl : k < 23) : ∃ M', pV M 6 (ads 190) k (.int x) = some M' ∧ MR N ads g c0 (va_up s k x) A L M' := by
  obtain ⟨c, hR, hC, hF⟩ := h
  refine ⟨_, hR.wV (by omega) hC.1 hl, _, hR.up (by omega) _, ⟨?_, fun e he => ?_, fun e he => ?_⟩, fun j hj => ?_⟩
  · rw [up_self, hk]
  · have := mLI_ok e he; rw [up_ne (by omega)]; exact hC.2.1 e he
  · have := mLL_ok e he; rw [up_ne (by omega)]; exact hC.2.2 e he
  · rw [up_ne (by omega)]; exact hF j hj
theorem mr_gI (h : MR N ads g c0 s A L M) (hN : 208 ≤ N) {p n j : Nat} (hp : (p, n) ∈ mLI) (hj : j < n) : aI M (g 2) (ads p) (nI j) = some (A p j) := by
  obtain ⟨c, hR, hC, -⟩ := h
  have := mLI_ok _ hp
  simp only at this
  exact hR.rI (by omega) (hC.2.1 _ hp) hj (by omega)
theorem mr_gL (h : MR N ads g c0 s A L M) (hN : 208 ≤ N) {p n j : Nat} (hp : (p, n) ∈ mLL) (hj : j < n) : aL M (g 1) (ads p) (nI j) = some (L p j) := by
  obtain ⟨c, hR, hC, -⟩ := h
  have := mLL_ok _ hp
  simp only at this
  exact hR.rL (by omega) (hC.2.2 _ hp) hj (by omega)
theorem mr_wI (h : MR N ads g c0 s A L M) (hN : 208 ≤ N) {p n j : Nat} (hp : (p, n) ∈ mLI) (hj : j < n) (x : Int32) : ∃ M', sI M (g 2) (ads p) (nI j) x = some M' ∧ MR N ads g c0 s (va_up A p (upd (A p) j x)) L M' := by
  obtain ⟨c, hR, hC, hF⟩ := h
  have hok := mLI_ok _ hp
  simp only at hok
  refine ⟨_, hR.wI (by omega) (hC.2.1 _ hp) hj (by omega) x, _, hR.up (by omega) _, ⟨?_, fun e he => ?_, fun e he => ?_⟩, fun j hj => ?_⟩
  · rw [up_ne (by omega)]; exact hC.1
  · by_cases hep : e.1 = p
    · have h2 : e.2 = n := mLI_fun e he _ hp hep
      rw [hep, up_self, up_self, h2]
    · rw [up_ne hep, up_ne hep]; exact hC.2.1 e he
  · have h2 := mIL_ne _ hp e he
    rw [up_ne (Ne.symm h2)]; exact hC.2.2 e he
  · rw [up_ne (by omega)]; exact hF j hj
theorem mr_wL (h : MR N ads g c0 s A L M) (hN : 208 ≤ N) {p n j : Nat} (hp : (p, n) ∈ mLL) (hj : j < n) (x : Int64) : ∃ M', sL M (g 1) (ads p) (nI j) x = some M' ∧ MR N ads g c0 s A (va_up L p (vp_updL (L p) j x)) M' := by
  obtain ⟨c, hR, hC, hF⟩ := h
  have hok := mLL_ok _ hp
  simp only at hok
  refine ⟨_, hR.wL (by omega) (hC.2.2 _ hp) hj (by omega) x, _, hR.up (by omega) _, ⟨?_, fun e he => ?_, fun e he => ?_⟩, fun j hj => ?_⟩
  · rw [up_ne (by omega)]; exact hC.1
  · have h2 := mIL_ne e he _ hp
    rw [up_ne h2]; exact hC.2.1 e he
  · by_cases hep : e.1 = p
    · have h2 : e.2 = n := mLL_fun e he _ hp hep
      rw [hep, up_self, up_self, h2]
    · rw [up_ne hep, up_ne hep]; exact hC.2.2 e he
  · rw [up_ne (by omega)]; exact hF j hj
theorem ix41 (i k : Nat) : (41 : Int32) * nI i + nI k = nI (41 * i + k) := by rw [← nI_add, ← pk_mul]; rfl
theorem ix6 (i k : Nat) : (6 : Int32) * nI i + nI k = nI (6 * i + k) := by rw [← nI_add, ← pk_mul]; rfl
theorem ix128 (i k : Nat) : (128 : Int32) * nI i + nI k = nI (128 * i + k) := by rw [← nI_add, ← pk_mul]; rfl
theorem mu6 (i : Nat) : (6 : Int32) * nI i = nI (6 * i) := by rw [← pk_mul]; rfl
/-! a pattern in the reference -/
def enc (x : Int64) : Int64 := if x = 35 then -2 else if x = 42 then -1 else x
def PatM (A : Nat → Nat → Int32) (L : Nat → Nat → Int64) (i : Nat) (ps : List Int64) : Prop :=
  ps.length ≤ 6 ∧ (∀ x ∈ ps, (0 : Int64) < x) ∧ A 197 i = nI ps.length ∧ ∀ k, k < ps.length → L 196 (6 * i + k) = enc (ps.getD k 0)
def okW (w : Int64) : Prop := 0 ≤ w ∧ w ≠ 35 ∧ w ≠ 42
theorem enc_h {x : Int64} (h : 0 < x) : enc x = -2 ↔ x = 35 := by
  unfold enc
  by_cases h1 : x = 35
  · simp [h1]
  · rw [if_neg h1]
    by_cases h2 : x = 42
    · subst h2; decide
    · rw [if_neg h2]
      refine ⟨fun z => ?_, fun z => absurd z h1⟩
      subst z; exact absurd h (by decide)
theorem enc_s {x : Int64} (h : 0 < x) : enc x = -1 ↔ x = 42 := by
  unfold enc
  by_cases h1 : x = 35
  · subst h1; decide
  · rw [if_neg h1]
    by_cases h2 : x = 42
    · simp [h2]
    · rw [if_neg h2]
      refine ⟨fun z => ?_, fun z => absurd z h2⟩
      subst z; exact absurd h (by decide)
theorem enc_w {x w : Int64} (hw : okW w) : enc x = w ↔ x = w := by
  unfold enc
  by_cases h1 : x = 35
  · subst h1
    rw [if_pos rfl]
    refine ⟨fun z => ?_, fun z => absurd z.symm hw.2.1⟩
    have := hw.1
    rw [← z] at this
    exact absurd this (by decide)
  · rw [if_neg h1]
    by_cases h2 : x = 42
    · subst h2
      rw [if_pos rfl]
      refine ⟨fun z => ?_, fun z => absurd z.symm hw.2.2⟩
      have := hw.1
      rw [← z] at this
      exact absurd this (by decide)
    · rw [if_neg h2]
theorem enc_id {w : Int64} (hw : okW w) : enc w = w := (enc_w hw).mpr rfl
def sprd (ps : List Int64) (S : Nat → Bool) : Nat → Bool
  | 0 => S 0
  | q + 1 => S (q + 1) || (sprd ps S q && hB ps q)
theorem tb128 {b : Nat} (h : b < 128) {q : Nat} (hq : 7 ≤ q) : b.testBit q = false := Nat.testBit_lt_two_pow (Nat.lt_of_lt_of_le h (Nat.pow_le_pow_right (by decide) hq : 2 ^ 7 ≤ 2 ^ q))
theorem or128 {b k : Nat} (h : b < 128) (hk : k < 7) : b ||| 2 ^ k < 128 := Nat.or_lt_two_pow (n := 7) h (Nat.pow_lt_pow_right (by decide) hk)
theorem m_spread (h : MR N ads g c0 s A L M) (hN : 208 ≤ N) {i : Nat} (hi : i < 24) {ps : List Int64} (hp : PatM A L i ps) {b : Nat} (hb : b < 128) {P : Int32 → Prop} (hP : ∀ b', b' < 128 → (∀ q, b'.testBit q = if q ≤ ps.length then sprd ps b.testBit q else b.testBit q) → P (nI b')) : wp_Mod_spread g M (ads 196) (nI (6 * i)) (nI ps.length) (nI b) P := by
  obtain ⟨h6, hpos, -, hL⟩ := hp
  refine ⟨fun x4 x5 => ∃ p b', x5 = nI p ∧ p ≤ ps.length ∧ x4 = nI b' ∧ b' < 128 ∧ ∀ q, b'.testBit q = if q ≤ p then sprd ps b.testBit q else b.testBit q, fun _ x => ps.length - x.toNatClampNeg, ⟨0, b, rfl, Nat.zero_le _, rfl, hb, fun q => ?_⟩, ?_⟩
  · by_cases hq : q ≤ 0
    · rw [if_pos hq, show q = 0 by omega]; rfl
    · rw [if_neg hq]
  rintro _ _ ⟨p, b', rfl, hpl, rfl, hb', hbit⟩
  refine ⟨fun z => ?_, fun z => ?_⟩
  · have e : p = ps.length := Nat.le_antisymm hpl (Nat.not_lt.mp fun y => absurd z (nI_ge y (by omega)))
    subst e
    exact hP b' hb' hbit
  · have hlt : p < ps.length := Nat.not_le.mp fun y => z (nI_le y (by omega))
    have hx := getD_some (d := (0 : Int64)) hlt
    have hxp : (0 : Int64) < ps.getD p 0 := hpos _ (List.mem_of_getElem? hx)
    have go : (sprd ps b.testBit p && hB ps p) = false → (∃ p' b'', nI p + 1 = nI p' ∧ p' ≤ ps.length ∧ nI b' = nI b'' ∧ b'' < 128 ∧ ∀ q, b''.testBit q = if q ≤ p' then sprd ps b.testBit q else b.testBit q) ∧ ps.length - (nI p + 1).toNatClampNeg < ps.length - (nI p).toNatClampNeg := fun hf => ⟨⟨p + 1, b', nI_1 p, hlt, rfl, hb', fun q => by
      rw [hbit]
      by_cases hq : q ≤ p
      · rw [if_pos hq, if_pos (by omega)]
      · rw [if_neg hq]
        by_cases hq2 : q = p + 1
        · subst hq2; rw [if_pos (Nat.le_refl _), sprd, hf, Bool.or_false]
        · rw [if_neg (by omega)]⟩, mu_dec hlt (by omega)⟩
    have hbp : b'.testBit p = sprd ps b.testBit p := by rw [hbit, if_pos (Nat.le_refl _)]
    refine ⟨fun y => ⟨_, by rw [nI_add]; exact mr_gL h hN (p := 196) (n := 144) (by decide) (by omega), fun w => ?_, fun w => go ?_⟩, fun y => go ?_⟩
    · rw [cmp0, hL p hlt, enc_h hxp] at w
      rw [bs_t1 (by omega) (by omega), hbp] at y
      have hh : hB ps p = true := by unfold hB; rw [hx, w]; exact decide_eq_true rfl
      refine ⟨⟨p + 1, b' ||| 2 ^ (p + 1), nI_1 p, hlt, ?_, or128 hb' (by omega), fun q => ?_⟩, mu_dec hlt (by omega)⟩
      · rw [nI_1, bs_1 (p + 1) (by omega), bs_or]
      · rw [Nat.testBit_or, hbit, Nat.testBit_two_pow]
        by_cases hq : q ≤ p
        · have : ¬ p + 1 = q := by omega
          rw [if_pos hq, if_pos (by omega), decide_eq_false this, Bool.or_false]
        · rw [if_neg hq]
          by_cases hq2 : q = p + 1
          · subst hq2; rw [if_pos (Nat.le_refl _), sprd, y, hh]; simp
          · have : ¬ p + 1 = q := by omega
            rw [if_neg (by omega), decide_eq_false this, Bool.or_false]
    · rw [cmp0, hL p hlt, enc_h hxp] at w
      have hh : hB ps p = false := by unfold hB; rw [hx]; exact decide_eq_false fun z => w (Option.some.inj z)
      rw [hh, Bool.and_false]
    · rw [bs_t1 (by omega) (by omega), hbp] at y
      cases hs : sprd ps b.testBit p
      · rfl
      · exact absurd hs y
def nxq (ps : List Int64) (w : Int64) (S : Nat → Bool) (p q : Nat) : Bool := (decide (q < p) && (hB ps q && S q)) || (decide (0 < q ∧ q - 1 < p) && (mB ps w (q - 1) && S (q - 1)))
theorem Bd_sprd {ps : List Int64} {w : Int64} {S : Nat → Bool} (q : Nat) : sprd ps (nxq ps w S ps.length) q = Bd ps w S q := by
  have hout : ∀ q, ¬ q < ps.length → hB ps q = false := fun q hq => hB_out (by omega)
  have houtm : ∀ q, ¬ q < ps.length → mB ps w q = false := fun q hq => mB_out (by omega)
  induction q with
  | zero =>
    simp [sprd, nxq, Bd]
    intro h
    by_cases hq : 0 < ps.length
    · exact fun _ => hq
    · rw [hout 0 hq] at h; cases h
  | succ q ih =>
    rw [sprd, ih, Bd]
    unfold nxq
    by_cases h1 : q + 1 < ps.length
    · have h2 : q < ps.length := by omega
      simp only [h1, h2, decide_true, Bool.true_and, Nat.add_sub_cancel, Nat.zero_lt_succ, and_true, true_and]
      cases hB ps (q + 1) <;> cases S (q + 1) <;> cases mB ps w q <;> cases S q <;> cases Bd ps w S q <;> cases hB ps q <;> rfl
    · rw [hout _ h1]
      by_cases h2 : q < ps.length
      · simp only [h2, decide_true, Bool.true_and, Nat.add_sub_cancel, Nat.zero_lt_succ, and_true, true_and, Bool.false_and, Bool.and_false, Bool.false_or]
        cases mB ps w q <;> cases S q <;> cases Bd ps w S q <;> cases hB ps q <;> rfl
      · rw [hout _ h2, houtm _ h2]
        simp
        exact fun z => absurd z h2
end MOD
