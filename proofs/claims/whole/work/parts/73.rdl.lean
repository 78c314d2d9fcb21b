/-! what reading gives: words, their numbers, the length -/
theorem wq_tb (n : Nat) : (lN n).toBitVec = BitVec.ofNat 64 n := rfl
theorem wq_c : ∀ k, k < 64 → ((nI k).toInt64 &&& 63) = lN k := by decide +kernel
theorem wq_sm : ∀ k, k < 64 → (BitVec.ofNat 64 k).smod 64 = BitVec.ofNat 64 k := by decide +kernel
theorem wq_shl (n : Nat) {k : Nat} (hk : k < 64) : lN n <<< ((nI k).toInt64 &&& 63) = lN (n * 2 ^ k) := by
  rw [wq_c k hk]
  apply Int64.toBitVec_inj.mp
  rw [Int64.toBitVec_shiftLeft, wq_tb, wq_tb, wq_tb, wq_sm k hk]
  apply BitVec.eq_of_toNat_eq
  rw [BitVec.shiftLeft_eq', BitVec.toNat_shiftLeft, BitVec.toNat_ofNat, BitVec.toNat_ofNat, BitVec.toNat_ofNat, Nat.mod_eq_of_lt (show k < 2 ^ 64 by omega), Nat.shiftLeft_eq, Nat.mul_mod, Nat.mod_mod, ← Nat.mul_mod]
theorem wq_or {a b : Nat} (ha : a < 2 ^ 64) (hb : b < 2 ^ 64) : lN a ||| lN b = lN (a ||| b) := by
  apply Int64.toBitVec_inj.mp
  rw [Int64.toBitVec_or, wq_tb, wq_tb, wq_tb]
  apply BitVec.eq_of_toNat_eq
  rw [BitVec.toNat_or, BitVec.toNat_ofNat, BitVec.toNat_ofNat, BitVec.toNat_ofNat, Nat.mod_eq_of_lt ha, Nat.mod_eq_of_lt hb, Nat.mod_eq_of_lt (Nat.or_lt_two_pow ha hb)]
theorem nxt_N {v c : Nat} (hv : v < 2 ^ 48) (hc : c < 256) : nxt (lN v) (nI c) = lN (v * 256 + c) := by
  unfold nxt
  rw [show ((8 : Int32).toInt64 &&& 63) = ((nI 8).toInt64 &&& 63) from rfl, wq_shl v (by omega), nI_l (by omega), wq_or (by omega) (by omega), or_add (by omega)]
theorem isS_n {x : Int32} (h : isS x = true) : ∃ c : Nat, 48 ≤ c ∧ c ≤ 122 ∧ x = nI c := by
  have := of_decide_eq_true h
  rcases this with ⟨h1, h2⟩ | ⟨h1, h2⟩
  · have h0 : ¬ x < 0 := fun z => Int32.not_le.mpr (Int32.lt_trans z (by decide)) h1
    obtain ⟨j, hj, e⟩ := nI_of2 (n := 122) (by decide) h0 h2
    refine ⟨j, ?_, hj, e⟩
    rw [e] at h1
    have := (nI_leI (a := 97) (by omega) (by omega)).mp h1
    omega
  · have h0 : ¬ x < 0 := fun z => Int32.not_le.mpr (Int32.lt_trans z (by decide)) h1
    obtain ⟨j, hj, e⟩ := nI_of2 (n := 57) (by decide) h0 h2
    refine ⟨j, ?_, by omega, e⟩
    rw [e] at h1
    exact (nI_leI (a := 48) (by omega) (by omega)).mp h1
theorem nI_m1 {a : Nat} (h : a < 2 ^ 31) : nI a ≠ -1 := fun z => by
  have : nI a < 0 := by rw [z]; decide
  exact nI_pos h this
theorem rd_41 {wild : Bool} {ps : List Int64} : ∀ (xs : List Int32) (a : Nat) (qs : List Int64) (w : Int64) (n : Nat), qs.length ≤ 5 → n ≤ 6 → a + xs.length < 2 ^ 31 → rd wild xs a qs w n = (-1, ps) → xs.length ≤ (5 - qs.length) * 7 + (6 - n) := by
  intro xs
  induction xs with
  | nil => intros; exact Nat.zero_le _
  | cons x xs ih =>
    intro a qs w n hq hn ha h
    rw [List.length_cons] at ha
    rw [rd] at h
    by_cases hc : cst x n qs.length wild = true
    · rw [if_pos hc] at h
      unfold cst at hc
      by_cases h46 : x = 46
      · rw [if_pos h46] at h hc
        have hd := of_decide_eq_true hc
        have := ih _ _ _ _ (by rw [List.length_append, List.length_singleton]; omega) (Nat.zero_le _) (by omega) h
        rw [List.length_append, List.length_singleton] at this
        rw [List.length_cons]
        omega
      · rw [if_neg h46] at h hc
        by_cases hw : isW x = true
        · rw [if_pos hw] at h hc
          have h0 : n = 0 := by
            rw [Bool.and_eq_true] at hc
            exact of_decide_eq_true hc.2
          have := ih _ _ _ _ hq (Nat.le_refl _) (by omega) h
          rw [List.length_cons]
          omega
        · rw [if_neg hw] at h hc
          have h0 : n < 6 := by
            rw [Bool.and_eq_true] at hc
            exact of_decide_eq_true hc.2
          have := ih _ _ _ _ hq (by omega) (by omega) h
          rw [List.length_cons]
          omega
    · rw [if_neg hc] at h
      exact absurd (congrArg Prod.fst h) (nI_m1 (by omega))
theorem rf_41 {wild : Bool} {tp : List Int32} (h60 : tp.length ≤ 60) (h : rf wild tp = -1) : tp.length ≤ 41 := by
  have := rd_41 (wild := wild) (ps := rp wild tp) tp 0 [] 0 0 (by simp) (by simp) (by omega) (by
    unfold rf at h; unfold rp; exact Prod.ext h rfl)
  simpa using this
theorem rd_pos {wild : Bool} : ∀ (xs : List Int32) (a : Nat) (qs : List Int64) (v n : Nat), n ≤ 6 → v < 256 ^ n → (0 < n → 0 < v) → ∀ y ∈ (rd wild xs a qs (lN v) n).2, y ∈ qs ∨ (0 : Int64) < y := by
  have pos : ∀ {v n : Nat}, n ≤ 6 → v < 256 ^ n → 0 < v → (0 : Int64) < lN v := fun {v n} hn hv h0 => by
    have : (256 : Nat) ^ n ≤ 256 ^ 6 := Nat.pow_le_pow_right (by decide) hn
    exact (pk_lLT (a := 0) (by omega) (by omega)).mpr h0
  intro xs
  induction xs with
  | nil =>
    intro a qs v n hn hv h0 y hy
    rw [rd] at hy
    split at hy
    · exact Or.inl hy
    · rename_i hne
      rcases List.mem_append.mp hy with z | z
      · exact Or.inl z
      · rw [List.mem_singleton.mp z]; exact Or.inr (pos hn hv (h0 (by omega)))
  | cons x xs ih =>
    intro a qs v n hn hv h0 y hy
    have hv48 : v < 2 ^ 48 := Nat.lt_of_lt_of_le hv (Nat.pow_le_pow_right (by decide) hn : 256 ^ n ≤ 256 ^ 6)
    rw [rd] at hy
    by_cases hc : cst x n qs.length wild = true
    · rw [if_pos hc] at hy
      unfold cst at hc
      by_cases h46 : x = 46
      · rw [if_pos h46] at hy hc
        have hd := of_decide_eq_true hc
        rcases ih (a + 1) (qs ++ [lN v]) 0 0 (by omega) (by decide) (fun z => absurd z (Nat.lt_irrefl _)) y hy with z | z
        · rcases List.mem_append.mp z with z | z
          · exact Or.inl z
          · rw [List.mem_singleton.mp z]; exact Or.inr (pos hn hv (h0 hd.1))
        · exact Or.inr z
      · rw [if_neg h46] at hy hc
        by_cases hw : isW x = true
        · rw [if_pos hw] at hy hc
          have hn0 : n = 0 := by
            rw [Bool.and_eq_true] at hc
            exact of_decide_eq_true hc.2
          subst hn0
          have hv0 : v = 0 := by simpa using hv
          subst hv0
          rcases of_decide_eq_true hw with e | e
          · subst e
            rw [show nxt (lN 0) 42 = lN 42 from nxt_N (v := 0) (c := 42) (by omega) (by omega)] at hy
            exact ih _ _ 42 6 (by omega) (by decide) (fun _ => by omega) y hy
          · subst e
            rw [show nxt (lN 0) 35 = lN 35 from nxt_N (v := 0) (c := 35) (by omega) (by omega)] at hy
            exact ih _ _ 35 6 (by omega) (by decide) (fun _ => by omega) y hy
        · rw [if_neg hw] at hy hc
          rw [Bool.and_eq_true] at hc
          have hn6 : n < 6 := of_decide_eq_true hc.2
          obtain ⟨d, hd1, hd2, rfl⟩ := isS_n hc.1
          rw [nxt_N hv48 (by omega)] at hy
          refine ih _ _ _ _ (by omega) ?_ (fun _ => by omega) y hy
          rw [Nat.pow_succ]; omega
    · rw [if_neg hc] at hy
      exact Or.inl hy
theorem pP_pos (tp : List Int32) : ∀ y ∈ pP tp, (0 : Int64) < y := fun y hy => by
  rcases rd_pos (wild := true) tp 0 [] 0 0 (by omega) (by decide) (fun z => absurd z (Nat.lt_irrefl _)) y hy with z | z
  · exact (List.not_mem_nil z).elim
  · exact z
/-! topics: their words -/
def ev (l : List Int32) : Nat := l.foldl (fun v x => v * 256 + x.toNatClampNeg) 0
theorem ev_snoc (l : List Int32) (x : Int32) : ev (l ++ [x]) = ev l * 256 + x.toNatClampNeg := by simp [ev]
def gw (l : List Int32) : Prop := l ≠ [] ∧ l.length ≤ 6 ∧ ∀ x ∈ l, isS x = true
theorem nil_or_snoc (l : List Int32) : l = [] ∨ ∃ k x, l = k ++ [x] := by
  rcases List.eq_nil_or_concat l with h | ⟨k, x, h⟩
  · exact Or.inl h
  · exact Or.inr ⟨k, x, by rw [h, List.concat_eq_append]⟩
theorem snoc_ind {P : List Int32 → Prop} (h0 : P []) (h1 : ∀ l x, P l → P (l ++ [x])) (l : List Int32) : P l := by
  have : ∀ n (l : List Int32), l.length = n → P l := by
    intro n
    induction n with
    | zero => intro l hl; rw [List.length_eq_zero_iff.mp hl]; exact h0
    | succ n ih =>
      intro l hl
      rcases nil_or_snoc l with e | ⟨l', x, e⟩
      · rw [e] at hl; cases hl
      · rw [e, List.length_append, List.length_singleton] at hl
        rw [e]
        exact h1 l' x (ih l' (by omega))
  exact this l.length l rfl
theorem ev_lt {l : List Int32} (h : ∀ x ∈ l, isS x = true) : ev l < 256 ^ l.length := by
  induction l using snoc_ind with
  | h0 => exact Nat.one_pos
  | h1 l x ih =>
    have h2 := ih (fun y hy => h y (List.mem_append_left _ hy))
    obtain ⟨c, h3, h4, rfl⟩ := isS_n (h x (List.mem_append_right _ (List.mem_singleton.mpr rfl)))
    rw [ev_snoc, List.length_append, List.length_singleton, Nat.pow_succ, nI_clamp (by omega)]
    omega
theorem ev_inj {l l' : List Int32} (h : ∀ x ∈ l, isS x = true) (h' : ∀ x ∈ l', isS x = true) (e : ev l = ev l') : l = l' := by
  induction l using snoc_ind generalizing l' with
  | h0 =>
    rcases nil_or_snoc l' with z | ⟨k, x, z⟩
    · exact z.symm
    · subst z
      obtain ⟨c, h3, h4, rfl⟩ := isS_n (h' x (List.mem_append_right _ (List.mem_singleton.mpr rfl)))
      rw [ev_snoc, nI_clamp (by omega), show ev [] = 0 from rfl] at e
      omega
  | h1 l x ih =>
    obtain ⟨c, h3, h4, rfl⟩ := isS_n (h x (List.mem_append_right _ (List.mem_singleton.mpr rfl)))
    rcases nil_or_snoc l' with z | ⟨k, x, z⟩
    · subst z
      rw [ev_snoc, nI_clamp (by omega), show ev [] = 0 from rfl] at e
      omega
    · subst z
      obtain ⟨d, h5, h6, rfl⟩ := isS_n (h' x (List.mem_append_right _ (List.mem_singleton.mpr rfl)))
      rw [ev_snoc, ev_snoc, nI_clamp (by omega), nI_clamp (by omega)] at e
      have e1 : ev l = ev k := by omega
      have e2 : c = d := by omega
      rw [ih (fun y hy => h y (List.mem_append_left _ hy)) (fun y hy => h' y (List.mem_append_left _ hy)) e1, e2]
def jn (w : List Int32) : List (List Int32) → List Int32
  | [] => w
  | v :: ws => w ++ 46 :: jn v ws
theorem rd_words {ps : List Int64} : ∀ (xs : List Int32) (a : Nat) (qs : List Int64) (cur : List Int32), (∀ x ∈ cur, isS x = true) → cur.length ≤ 6 → a + xs.length < 2 ^ 31 → rd false xs a qs (lN (ev cur)) cur.length = (-1, ps) → ∃ v ws, cur ++ xs = jn v ws ∧ ps = qs ++ (v :: ws).map (fun l => lN (ev l)) ∧ ∀ l ∈ v :: ws, gw l := by
  intro xs
  induction xs with
  | nil =>
    intro a qs cur hs h6 ha h
    rw [rd] at h
    by_cases h0 : cur.length = 0
    · rw [if_pos h0] at h
      exact absurd (congrArg Prod.fst h) (nI_m1 (by simpa using ha))
    · rw [if_neg h0] at h
      refine ⟨cur, [], by rw [List.append_nil]; rfl, (congrArg Prod.snd h).symm, fun l hl => ?_⟩
      rw [List.mem_singleton.mp hl]
      exact ⟨fun z => h0 (by rw [z]; rfl), h6, hs⟩
  | cons x xs ih =>
    intro a qs cur hs h6 ha h
    rw [List.length_cons] at ha
    rw [rd] at h
    by_cases hc : cst x cur.length qs.length false = true
    · rw [if_pos hc] at h
      unfold cst at hc
      by_cases h46 : x = 46
      · rw [if_pos h46] at h hc
        have hd := of_decide_eq_true hc
        obtain ⟨v, ws, e1, e2, e3⟩ := ih (a + 1) (qs ++ [lN (ev cur)]) [] (fun x hx => (List.not_mem_nil hx).elim) (by simp) (by omega) h
        refine ⟨cur, v :: ws, ?_, ?_, fun l hl => ?_⟩
        · rw [h46, jn, ← e1]; rfl
        · rw [e2, List.append_assoc]; rfl
        · rcases List.mem_cons.mp hl with z | z
          · rw [z]; exact ⟨fun y => absurd hd.1 (by rw [y]; exact Nat.lt_irrefl 0), h6, hs⟩
          · exact e3 l z
      · rw [if_neg h46] at h hc
        by_cases hw : isW x = true
        · rw [if_pos hw] at hc
          simp at hc
        · rw [if_neg hw] at h hc
          rw [Bool.and_eq_true] at hc
          have hn6 : cur.length < 6 := of_decide_eq_true hc.2
          have hv48 : ev cur < 2 ^ 48 := Nat.lt_of_lt_of_le (ev_lt hs) (Nat.pow_le_pow_right (by decide) h6 : 256 ^ cur.length ≤ 256 ^ 6)
          obtain ⟨d, hd1, hd2, e⟩ := isS_n hc.1
          have e4 : nxt (lN (ev cur)) x = lN (ev (cur ++ [x])) := by rw [ev_snoc, e, nxt_N hv48 (by omega), nI_clamp (by omega)]
          rw [e4] at h
          obtain ⟨v, ws, e1, e2, e3⟩ := ih (a + 1) qs (cur ++ [x]) (fun y hy => (List.mem_append.mp hy).elim (hs y) (fun z => by rw [List.mem_singleton.mp z]; exact hc.1)) (by rw [List.length_append, List.length_singleton]; omega) (by omega) (by rw [List.length_append, List.length_singleton]; exact h)
          exact ⟨v, ws, by rw [← e1, List.append_assoc]; rfl, e2, e3⟩
    · rw [if_neg hc] at h
      exact absurd (congrArg Prod.fst h) (nI_m1 (by omega))
theorem topic {tp : List Int32} (h60 : tp.length ≤ 60) (h : rf false tp = -1) : ∃ v ws, tp = jn v ws ∧ pT tp = (v :: ws).map (fun l => lN (ev l)) ∧ ∀ l ∈ v :: ws, gw l := by
  have := rd_words (ps := pT tp) tp 0 [] [] (fun x hx => (List.not_mem_nil hx).elim) (by simp) (by omega) (by
    unfold rf at h; unfold pT; exact Prod.ext h rfl)
  simpa using this
theorem gw_ok {l : List Int32} (h : gw l) : okW (lN (ev l)) := by
  obtain ⟨h0, h6, hs⟩ := h
  have hlt : ev l < 2 ^ 48 := Nat.lt_of_lt_of_le (ev_lt hs) (Nat.pow_le_pow_right (by decide) h6 : 256 ^ l.length ≤ 256 ^ 6)
  have h48 : 48 ≤ ev l := by
    rcases nil_or_snoc l with z | ⟨k, x, z⟩
    · exact absurd z h0
    · subst z
      obtain ⟨d, h5, h6, rfl⟩ := isS_n (hs x (List.mem_append_right _ (List.mem_singleton.mpr rfl)))
      rw [ev_snoc, nI_clamp (by omega)]
      omega
  refine ⟨(pk_lLE (a := 0) (by omega) (by omega)).mpr (by omega), fun z => ?_, fun z => ?_⟩
  · have := (pk_lEQ (b := 35) (by omega) (by omega)).mp z; omega
  · have := (pk_lEQ (b := 42) (by omega) (by omega)).mp z; omega
theorem topic_ok {tp : List Int32} (h60 : tp.length ≤ 60) (h : rf false tp = -1) : ∀ w ∈ pT tp, okW w := by
  obtain ⟨v, ws, e1, e2, e3⟩ := topic h60 h
  intro w hw
  rw [e2] at hw
  obtain ⟨l, hl, rfl⟩ := List.mem_map.mp hw
  exact gw_ok (e3 l hl)
theorem topic_inj {tp tp' : List Int32} (h60 : tp.length ≤ 60) (h : rf false tp = -1) (h60' : tp'.length ≤ 60) (h' : rf false tp' = -1) (e : pT tp = pT tp') : tp = tp' := by
  obtain ⟨v, ws, e1, e2, e3⟩ := topic h60 h
  obtain ⟨v', ws', e1', e2', e3'⟩ := topic h60' h'
  rw [e2, e2'] at e
  have key : ∀ (a b : List (List Int32)), (∀ l ∈ a, gw l) → (∀ l ∈ b, gw l) → a.map (fun l => lN (ev l)) = b.map (fun l => lN (ev l)) → a = b := by
    intro a
    induction a with
    | nil =>
      intro b _ _ hab
      cases b with
      | nil => rfl
      | cons y b => cases hab
    | cons x a ih =>
      intro b ha hb hab
      cases b with
      | nil => cases hab
      | cons y b =>
        rw [List.map_cons, List.map_cons] at hab
        obtain ⟨h1, h2⟩ := List.cons.inj hab
        have gx := ha x List.mem_cons_self
        have gy := hb y List.mem_cons_self
        have lx : ev x < 2 ^ 48 := Nat.lt_of_lt_of_le (ev_lt gx.2.2) (Nat.pow_le_pow_right (by decide) gx.2.1 : 256 ^ x.length ≤ 256 ^ 6)
        have ly : ev y < 2 ^ 48 := Nat.lt_of_lt_of_le (ev_lt gy.2.2) (Nat.pow_le_pow_right (by decide) gy.2.1 : 256 ^ y.length ≤ 256 ^ 6)
        rw [ev_inj gx.2.2 gy.2.2 ((pk_lEQ (by omega) (by omega)).mp h1), ih b (fun l hl => ha l (List.mem_cons_of_mem _ hl)) (fun l hl => hb l (List.mem_cons_of_mem _ hl)) h2]
  have := key _ _ e3 e3' e
  obtain ⟨h1, h2⟩ := List.cons.inj this
  rw [e1, e1', h1, h2]
