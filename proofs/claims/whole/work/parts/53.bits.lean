/-! sets of places as numbers -/
theorem bs_or (a b : Nat) : nI a ||| nI b = nI (a ||| b) := by
  apply Int32.toBitVec_inj.1
  show BitVec.ofNat 32 a ||| BitVec.ofNat 32 b = BitVec.ofNat 32 (a ||| b)
  apply BitVec.eq_of_getLsbD_eq
  intro i hi
  simp [hi]
theorem bs_and (a b : Nat) : nI a &&& nI b = nI (a &&& b) := by
  apply Int32.toBitVec_inj.1
  show BitVec.ofNat 32 a &&& BitVec.ofNat 32 b = BitVec.ofNat 32 (a &&& b)
  apply BitVec.eq_of_getLsbD_eq
  intro i hi
  simp [hi]
theorem bs_l : ∀ n, n < 32 → ((nI n &&& 31).toBitVec.smod 32).toNat = n := by decide +kernel
theorem bs_1 : ∀ p, p < 31 → (1 : Int32) <<< (nI p &&& 31) = nI (2 ^ p) := by decide +kernel
theorem bs_2 : ∀ p, p < 30 → (2 : Int32) <<< (nI p &&& 31) = nI (2 ^ (p + 1)) := by decide +kernel
theorem bs_d {s : Nat} (h : s * 2 < 2 ^ 32) : nI s <<< ((1 : Int32) &&& 31) = nI (s * 2) := pk_shlN _ 1 (by decide) (by omega)
theorem bs_r {s p : Nat} (hs : s < 2 ^ 31) (hp : p < 32) : nI s >>> (nI p &&& 31) = nI (s / 2 ^ p) := pk_shrN hs _ p (bs_l p hp)
theorem bs_bit {s p : Nat} (hs : s < 2 ^ 31) (hp : p < 32) : (nI s >>> (nI p &&& 31)) &&& 1 = nI (if s.testBit p then 1 else 0) := by
  rw [bs_r hs hp]
  show nI _ &&& nI 1 = _
  rw [bs_and, Nat.and_one_is_mod, Nat.testBit_eq_decide_div_mod_eq]
  by_cases h : s / 2 ^ p % 2 = 1
  · rw [decide_eq_true h, h]; rfl
  · rw [decide_eq_false h, show s / 2 ^ p % 2 = 0 by omega]; rfl
theorem bs_t {s p : Nat} (hs : s < 2 ^ 31) (hp : p < 32) : (nI s >>> (nI p &&& 31)) &&& 1 = 0 ↔ s.testBit p = false := by
  rw [bs_bit hs hp]
  cases s.testBit p
  · exact ⟨fun _ => rfl, fun _ => rfl⟩
  · exact ⟨fun z => absurd z (by decide), fun z => absurd z (by decide)⟩
theorem bs_t1 {s p : Nat} (hs : s < 2 ^ 31) (hp : p < 32) : (nI s >>> (nI p &&& 31)) &&& 1 = 1 ↔ s.testBit p = true := by
  rw [bs_bit hs hp]
  cases s.testBit p
  · exact ⟨fun z => absurd z (by decide), fun z => absurd z (by decide)⟩
  · exact ⟨fun _ => rfl, fun _ => rfl⟩
theorem tb_mul2 (s q : Nat) : (s * 2).testBit q = (decide (0 < q) && s.testBit (q - 1)) := by
  cases q with
  | zero => simp [Nat.testBit_zero]
  | succ q => rw [Nat.testBit_succ]; simp
theorem cmp0 (x y : Int64) : lg_cmp x y = 0 ↔ x = y := by
  unfold lg_cmp
  by_cases h : x = y
  · subst h; simp [Int64.lt_irrefl]
  · split
    · simp [h]
    · simp [h]
/-! a number by its bits -/
def ofB (f : Nat → Bool) : Nat → Nat
  | 0 => 0
  | n + 1 => ofB f n ||| (if f n then 2 ^ n else 0)
theorem ofB_bit (f : Nat → Bool) (n q : Nat) : (ofB f n).testBit q = (decide (q < n) && f q) := by
  induction n with
  | zero => simp [ofB]
  | succ n ih =>
    rw [ofB, Nat.testBit_or, ih]
    by_cases hq : q = n
    · subst hq
      cases hf : f q <;> simp [Nat.testBit_two_pow]
    · have h1 : (if f n then 2 ^ n else 0).testBit q = false := by
        cases f n
        · simp
        · simp [Nat.testBit_two_pow, Ne.symm hq]
      rw [h1, Bool.or_false]
      congr 1
      exact decide_eq_decide.mpr (by omega)
theorem ofB_lt (f : Nat → Bool) (n : Nat) : ofB f n < 2 ^ n := by
  induction n with
  | zero => simp [ofB]
  | succ n ih =>
    rw [ofB]
    refine Nat.or_lt_two_pow ?_ ?_
    · exact Nat.lt_trans ih (Nat.pow_lt_pow_right (by decide) (Nat.lt_succ_self n))
    · split
      · exact Nat.pow_lt_pow_right (by decide) (Nat.lt_succ_self n)
      · exact Nat.two_pow_pos _
/-! how a pattern moves: the places behind a word -/
def hB (ps : List Int64) (q : Nat) : Bool := decide (ps[q]? = some 35)
def mB (ps : List Int64) (w : Int64) (q : Nat) : Bool := decide (ps[q]? ≠ some 35 ∧ (ps[q]? = some 42 ∨ ps[q]? = some w))
def Bd (ps : List Int64) (w : Int64) (S : Nat → Bool) : Nat → Bool
  | 0 => hB ps 0 && S 0
  | q + 1 => (hB ps (q + 1) && S (q + 1)) || ((hB ps q && Bd ps w S q) || (mB ps w q && S q))
def pre (ps : List Int64) (w : Int64) (S : Nat → Bool) : Nat → Bool
  | 0 => false
  | p + 1 => (hB ps p && Bd ps w S p) || (mB ps w p && S p)
def stB (ps : List Int64) : Nat → Bool
  | 0 => true
  | q + 1 => stB ps q && hB ps q
def stp (ps : List Int64) (w : Int64) (s : Nat) : Nat := ofB (Bd ps w s.testBit) (ps.length + 1)
def sta (ps : List Int64) : Nat := ofB (stB ps) (ps.length + 1)
def enB (ps : List Int64) (s : Nat) : Bool := s.testBit ps.length
def mvs (ps : List Int64) (s : Nat) (ts : List Int64) : Nat := ts.foldl (fun s w => stp ps w s) s
def tks (ps ts : List Int64) : Bool := enB ps (mvs ps (sta ps) ts)
def bI (b : Bool) : Int32 := if b then 1 else 0
theorem bI_B (b : Bool) : isB (bI b) := by cases b; exact isB_0; exact isB_1
theorem bI_0 {b : Bool} : bI b = 0 ↔ b = false := by cases b <;> decide
theorem stp_lt {ps : List Int64} (w : Int64) (s : Nat) (h : ps.length ≤ 6) : stp ps w s < 128 := Nat.lt_of_lt_of_le (ofB_lt _ _) (Nat.pow_le_pow_right (by decide) (by omega : ps.length + 1 ≤ 7))
theorem sta_lt {ps : List Int64} (h : ps.length ≤ 6) : sta ps < 128 := Nat.lt_of_lt_of_le (ofB_lt _ _) (Nat.pow_le_pow_right (by decide) (by omega : ps.length + 1 ≤ 7))
theorem mvs_lt {ps : List Int64} {ts : List Int64} (h : ps.length ≤ 6) : ∀ {s : Nat}, s < 128 → mvs ps s ts < 128 := by
  induction ts with
  | nil => exact fun hs => hs
  | cons w ts ih => exact fun _ => ih (stp_lt w _ h)
section MOVE
variable {ps : List Int64} {w : Int64} {S : Nat → Bool} {p b : Nat}
theorem Bd_pre : Bd ps w S p = ((hB ps p && S p) || pre ps w S p) := by
  cases p with
  | zero => simp [Bd, pre]
  | succ p => rfl
def pb (ps : List Int64) (w : Int64) (S : Nat → Bool) (p q : Nat) : Bool := if q < p then Bd ps w S q else if q = p then pre ps w S p else false
theorem pb_0 (q : Nat) : pb ps w S 0 q = false := by
  unfold pb
  split
  · omega
  · split
    · rfl
    · rfl
theorem pb_hash (hp : ps[p]? = some 35) {b1 : Nat} (hb : ∀ q, b1.testBit q = if q < p then Bd ps w S q else if q = p then Bd ps w S p else false) (q : Nat) : (b1 ||| ((b1 &&& 2 ^ p) * 2)).testBit q = pb ps w S (p + 1) q := by
  have hh : hB ps p = true := by simp [hB, hp]
  have hm : mB ps w p = false := by simp [mB, hp]
  rw [Nat.testBit_or, tb_mul2, Nat.testBit_and, Nat.testBit_two_pow, hb, hb]
  unfold pb
  rcases Nat.lt_trichotomy q p with h | h | h
  · have h1 : ¬ p = q - 1 := by omega
    have h2 : q < p + 1 := by omega
    simp [h, h1, h2]
  · subst h
    cases q with
    | zero => simp
    | succ q => simp
  · by_cases h1 : q = p + 1
    · subst h1
      have h6 : ¬ p + 1 < p := by omega
      simp [pre, hh, hm, h6]
    · have h2 : ¬ q < p := by omega
      have h3 : ¬ q = p := by omega
      have h4 : ¬ q < p + 1 := by omega
      have h5 : ¬ p = q - 1 := by omega
      simp [h1, h2, h3, h4, h5]
theorem pb_or (hb : ∀ q, b.testBit q = pb ps w S p q) (hp : ps[p]? = some 35) (hS : S p = true) (q : Nat) : (b ||| 2 ^ p).testBit q = if q < p then Bd ps w S q else if q = p then Bd ps w S p else false := by
  have hh : hB ps p = true := by simp [hB, hp]
  rw [Nat.testBit_or, hb, Nat.testBit_two_pow, Bd_pre (p := p), hh, hS]
  unfold pb
  by_cases h : q < p
  · simp [h, Nat.ne_of_gt h]
  · by_cases h1 : q = p
    · simp [h1]
    · simp [h, h1, Ne.symm h1]
theorem pb_no (hb : ∀ q, b.testBit q = pb ps w S p q) (hS : S p = false) (q : Nat) : b.testBit q = if q < p then Bd ps w S q else if q = p then Bd ps w S p else false := by
  rw [hb, Bd_pre (p := p), hS, Bool.and_false, Bool.false_or]
  rfl
theorem pb_word (hb : ∀ q, b.testBit q = pb ps w S p q) (hp : ps[p]? ≠ some 35) (hm : mB ps w p = true) (hS : S p = true) (q : Nat) : (b ||| 2 ^ (p + 1)).testBit q = pb ps w S (p + 1) q := by
  have hh : hB ps p = false := by simp [hB, hp]
  rw [Nat.testBit_or, hb, Nat.testBit_two_pow]
  have e : Bd ps w S p = pre ps w S p := by rw [Bd_pre, hh]; simp
  unfold pb
  by_cases h : q < p
  · have h1 : ¬ p + 1 = q := by omega
    have h2 : q < p + 1 := by omega
    simp [h, h1, h2]
  · by_cases h1 : q = p
    · subst h1; simp [e]
    · by_cases h2 : q = p + 1
      · subst h2; simp [pre, hm, hS]
      · have h3 : ¬ q < p + 1 := by omega
        simp [h, h1, h2, h3, Ne.symm h2]
theorem pb_skip (hb : ∀ q, b.testBit q = pb ps w S p q) (hp : ps[p]? ≠ some 35) (hm : (mB ps w p && S p) = false) (q : Nat) : b.testBit q = pb ps w S (p + 1) q := by
  have hh : hB ps p = false := by simp [hB, hp]
  rw [hb]
  have e : Bd ps w S p = pre ps w S p := by rw [Bd_pre, hh]; simp
  unfold pb
  by_cases h : q < p
  · have h2 : q < p + 1 := by omega
    simp [h, h2]
  · by_cases h1 : q = p
    · subst h1; simp [e]
    · by_cases h2 : q = p + 1
      · subst h2; have h6 : ¬ p + 1 < p := by omega
        simp [pre, hm, hh, h6]
      · have h3 : ¬ q < p + 1 := by omega
        simp [h, h1, h2, h3]
theorem hB_out {q : Nat} (h : ps.length ≤ q) : hB ps q = false := by simp [hB, List.getElem?_eq_none h]
theorem mB_out {q : Nat} (h : ps.length ≤ q) : mB ps w q = false := by simp [mB, List.getElem?_eq_none h]
theorem pb_end {s : Nat} (hb : ∀ q, b.testBit q = pb ps w s.testBit ps.length q) : b = stp ps w s := by
  refine Nat.eq_of_testBit_eq fun q => ?_
  rw [hb, stp, ofB_bit]
  unfold pb
  by_cases h : q < ps.length
  · have h2 : q < ps.length + 1 := by omega
    simp [h, h2]
  · by_cases h1 : q = ps.length
    · subst h1; rw [Bd_pre, hB_out (Nat.le_refl _)]; simp
    · have h2 : ¬ q < ps.length + 1 := by omega
      simp [h, h1, h2]
end MOVE
