/-! reading a text: one sign after the other -/
def isW (x : Int32) : Bool := decide (x = 42 ∨ x = 35)
def isS (x : Int32) : Bool := decide ((97 ≤ x ∧ x ≤ 122) ∨ (48 ≤ x ∧ x ≤ 57))
def cst (x : Int32) (hd k : Nat) (wild : Bool) : Bool :=
  if x = 46 then decide (0 < hd ∧ k < 5) else if isW x then wild && decide (hd = 0) else isS x && decide (hd < 6)
def nxt (w : Int64) (x : Int32) : Int64 := (w <<< ((8 : Int32).toInt64 &&& 63)) ||| x.toInt64
def rd (wild : Bool) : List Int32 → Nat → List Int64 → Int64 → Nat → Int32 × List Int64
  | [], a, ps, w, hd => if hd = 0 then (nI a, ps) else (-1, ps ++ [w])
  | x :: xs, a, ps, w, hd => if cst x hd ps.length wild then (if x = 46 then rd wild xs (a + 1) (ps ++ [w]) 0 0 else rd wild xs (a + 1) ps (nxt w x) (if isW x then 6 else hd + 1)) else (nI a, ps)
section READ
variable {g : Nat → ClassId} {N : Nat} {ads : Nat → Nat} {c : Nat → va_E} {M : Mem} {i : Nat} {ss : List Int32} {ps : List Int64}
theorem t_isWild {x : Int32} {P : Int32 → Prop} (hP : P (bI (isW x))) : wp_Text_isWild g M x P := by
  unfold isW at hP
  refine ⟨fun h => ⟨isB_1, ?_⟩, fun h => ⟨fun h2 => ⟨isB_1, ?_⟩, fun h2 => ⟨isB_0, ?_⟩⟩⟩
  · rw [decide_eq_true (Or.inl h)] at hP; exact hP
  · rw [decide_eq_true (Or.inr h2)] at hP; exact hP
  · rw [decide_eq_false (fun z => z.elim h h2)] at hP; exact hP
theorem t_isSign {x : Int32} {P : Int32 → Prop} (hP : P (bI (isS x))) : wp_Text_isWordSign g M x P := by
  unfold isS at hP
  have h12 : ¬ (97 ≤ x ∧ x ≤ 122) → wp_Text_isWordSign_b12 g P M x := by
    intro hn
    refine ⟨fun h => ⟨isB_0, ?_⟩, fun h => ⟨fun h2 => ⟨isB_0, ?_⟩, fun h2 => ⟨isB_1, ?_⟩⟩⟩
    · rw [decide_eq_false (fun z => z.elim hn (fun z => Int32.not_le.mpr h z.1))] at hP; exact hP
    · rw [decide_eq_false (fun z => z.elim hn (fun z => Int32.not_le.mpr h2 z.2))] at hP; exact hP
    · rw [decide_eq_true (Or.inr ⟨Int32.not_lt.mp h, Int32.not_lt.mp h2⟩)] at hP; exact hP
  refine ⟨fun h => h12 (fun z => Int32.not_le.mpr h z.1), fun h => ⟨fun h2 => ⟨isB_1, ?_⟩, fun h2 => h12 (fun z => h2 z.2)⟩⟩
  rw [decide_eq_true (Or.inl ⟨Int32.not_lt.mp h, h2⟩)] at hP; exact hP
theorem t_can (hR : Rep N ads c M) (hi : i + 2 < N) (h : TextL g ads c i ss ps) (hk : ps.length ≤ 6) {x : Int32} {hd : Nat} (hh : hd ≤ 6) {wild : Bool} {P : Int32 → Prop} (hP : P (bI (cst x hd ps.length wild))) : wp_Text_canStand g M (ads i) x (nI hd) (bI wild) P := by
  unfold cst at hP
  refine ⟨fun h1 => ?_, fun h1 => ?_⟩
  · rw [if_pos h1] at hP
    refine ⟨fun h2 => ⟨isB_0, ?_⟩, fun h2 => ⟨_, h.cnt hR hi, fun h3 => ⟨isB_0, ?_⟩, fun h3 => ⟨isB_1, ?_⟩⟩⟩
    · rw [decide_eq_false (fun z => absurd h2 (nI_nle z.1 (by omega)))] at hP; exact hP
    · rw [decide_eq_false (fun z => absurd h3 (nI_ge (b := 5) z.2 (by omega)))] at hP; exact hP
    · have a1 : 0 < hd := by
        rcases Nat.eq_zero_or_pos hd with z | z
        · subst z; exact absurd (nI_le (Nat.le_refl 0) (by omega)) h2
        · exact z
      have a2 : ps.length < 5 := Nat.not_le.mp fun z => h3 (nI_le (a := 5) z (by omega))
      rw [decide_eq_true ⟨a1, a2⟩] at hP; exact hP
  · rw [if_neg h1] at hP
    refine t_isWild ⟨fun h2 => ?_, fun h2 => ?_⟩
    · rw [bI_0.mp h2] at hP
      refine t_isSign ⟨fun h3 => ⟨isB_0, ?_⟩, fun h3 => ⟨fun h4 => ⟨isB_0, ?_⟩, fun h4 => ⟨isB_1, ?_⟩⟩⟩
      · rw [bI_0.mp h3] at hP; exact hP
      · rw [decide_eq_false (Nat.not_lt.mpr ((nI_leI (a := 6) (by omega) (by omega)).mp h4)), Bool.and_false] at hP; exact hP
      · have a1 : isS x = true := by cases hs : isS x; exact absurd (bI_0.mpr hs) h3; rfl
        have a2 : hd < 6 := Nat.not_le.mp fun z => h4 (nI_le (a := 6) z (by omega))
        rw [a1, decide_eq_true a2] at hP; exact hP
    · have a1 : isW x = true := by cases hs : isW x; exact absurd (bI_0.mpr hs) h2; rfl
      rw [a1] at hP
      refine ⟨fun h3 => ⟨isB_0, ?_⟩, fun h3 => ⟨fun h4 => ⟨isB_1, ?_⟩, fun h4 => ⟨isB_0, ?_⟩⟩⟩
      · rw [bI_0.mp h3] at hP; exact hP
      · have a2 : wild = true := by cases wild; exact absurd rfl h3; rfl
        have a3 : hd = 0 := (nI_eq (b := 0) (by omega) (by omega)).mp h4
        rw [a2, decide_eq_true a3] at hP; exact hP
      · rw [decide_eq_false (fun z => h4 (by rw [z]; rfl)), Bool.and_false] at hP; exact hP
theorem l_cnt0 (hR : Rep N ads c M) (hi : i + 2 < N) (h : TextL g ads c i ss ps) : ∃ M', pV M 1 (ads i) 3 (.int (0 : Int32)) = some M' ∧ ∃ c', Rep N ads c' M' ∧ TextTo g ads c i ss [] c' := by
  obtain ⟨sg, pt, hC, a, b⟩ := h
  refine ⟨_, hR.wV (by omega) hC.1 (Nat.le_of_ble_eq_true rfl), _, hR.up (by omega) _, ⟨sg, pt, ?_, a, fun j hj => absurd hj (Nat.not_lt_zero _)⟩, fun j h0 h1 h2 => up_ne h0⟩
  have := up_obj (n' := ss.length) (k' := 0) hC
  exact (this ▸ TextC.of_up : TextC g ads (va_up c i _) i sg pt ss.length 0)
theorem t_read (hR : Rep N ads c M) (hi : i + 2 < N) (h : TextL g ads c i ss ps) (hn : ss.length ≤ 60) {wild : Bool} {P : Int32 → Mem → Prop} (hP : ∀ c' M', Rep N ads c' M' → TextTo g ads c i ss (rd wild ss 0 [] 0 0).2 c' → P (rd wild ss 0 [] 0 0).1 M') : wp_Text_read g M (ads i) (bI wild) P := by
  obtain ⟨M1, e1, c1, hR1, hT1⟩ := l_cnt0 hR hi h
  refine ⟨M1, e1, fun w hd a M' => ∃ (n j : Nat) (qs : List Int64) (c' : Nat → va_E), a = nI j ∧ j ≤ ss.length ∧ hd = nI n ∧ n ≤ 6 ∧ qs.length ≤ 5 ∧ Rep N ads c' M' ∧ TextTo g ads c i ss qs c' ∧ rd wild (ss.drop j) j qs w n = rd wild ss 0 [] 0 0, fun _ _ a _ => ss.length - a.toNatClampNeg, ⟨0, 0, [], c1, rfl, Nat.zero_le _, rfl, Nat.zero_le _, Nat.zero_le _, hR1, hT1, rfl⟩, ?_⟩
  rintro w _ _ M' ⟨n, j, qs, c', rfl, hj, rfl, hn6, hq, hR', hT', he⟩
  refine ⟨_, hT'.1.len hR' hi, fun q => ?_, fun q => ?_⟩
  · have e : j = ss.length := Nat.le_antisymm hj (Nat.not_lt.mp fun z => absurd q (nI_ge z (by omega)))
    subst e
    rw [List.drop_length] at he
    refine ⟨fun z => ⟨_, hT'.1.len hR' hi, ?_⟩, fun z => ⟨hT'.1.O hR' hi, l_addPart hR' hi hT'.1 (by omega) fun c2 M2 hR2 hT2 => ?_⟩⟩
    · have e0 : n = 0 := (nI_eq (b := 0) (by omega) (by omega)).mp z
      rw [rd, if_pos e0] at he
      have := hP c' M' hR' (by rw [← he]; exact hT')
      rw [← he] at this
      exact this
    · have e0 : ¬ n = 0 := fun y => z (by rw [y]; rfl)
      rw [rd, if_neg e0] at he
      have := hP c2 M2 hR2 (by rw [← he]; exact hT'.trans hT2)
      rw [← he] at this
      exact this
  · have hlt : j < ss.length := Nat.not_le.mp fun z => q (nI_le z (by omega))
    have hx : ss.getD j 0 = ss[j] := by rw [List.getD_eq_getElem?_getD, List.getElem?_eq_getElem hlt]; rfl
    rw [List.drop_eq_getElem_cons hlt, ← hx, rd] at he
    refine ⟨hT'.1.O hR' hi, l_signAt hR' hi hT'.1 hn hlt ⟨hT'.1.O hR' hi, t_can hR' hi hT'.1 (by omega) hn6 ⟨fun z => ?_, fun z => ?_⟩⟩⟩
    · rw [bI_0.mp z] at he
      have := hP c' M' hR' (by rw [← he]; exact hT')
      rw [← he] at this
      exact this
    · have hc : cst (ss.getD j 0) n qs.length wild = true := by
        cases hs : cst (ss.getD j 0) n qs.length wild
        · exact absurd (bI_0.mpr hs) z
        · rfl
      rw [if_pos hc] at he
      refine ⟨fun h46 => ⟨hT'.1.O hR' hi, l_addPart hR' hi hT'.1 (by omega) fun c2 M2 hR2 hT2 => ⟨⟨0, j + 1, qs ++ [w], c2, nI_1 j, hlt, rfl, Nat.zero_le _, ?_, hR2, hT'.trans hT2, ?_⟩, mu_dec hlt (by omega)⟩⟩, fun h46 => t_isWild ⟨fun h2 => ⟨⟨n + 1, j + 1, qs, c', nI_1 j, hlt, nI_1 n, ?_, hq, hR', hT', ?_⟩, mu_dec hlt (by omega)⟩, fun h2 => ⟨⟨6, j + 1, qs, c', nI_1 j, hlt, rfl, Nat.le_refl _, hq, hR', hT', ?_⟩, mu_dec hlt (by omega)⟩⟩⟩
      · unfold cst at hc
        rw [if_pos h46] at hc
        have := (of_decide_eq_true hc).2
        rw [List.length_append, List.length_singleton]
        omega
      · rw [if_pos h46] at he; exact he
      · unfold cst at hc
        rw [if_neg h46, bI_0.mp h2] at hc
        simp at hc
        omega
      · rw [if_neg h46, bI_0.mp h2] at he; exact he
      · have a1 : isW (ss.getD j 0) = true := by cases hs : isW (ss.getD j 0); exact absurd (bI_0.mpr hs) h2; rfl
        rw [if_neg h46, a1] at he; exact he
end READ
