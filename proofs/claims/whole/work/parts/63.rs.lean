/-! RowSearch: its cells -/
def lb (x : Int64) (i : Nat) : Bool := x.toBitVec.getLsbD i
theorem lb_one : ∀ k, k < 64 → ((1 : Int64) <<< ((nI k).toInt64 &&& 63)).toBitVec = BitVec.twoPow 64 k := by decide +kernel
theorem lb_tp : ∀ k, k < 64 → BitVec.twoPow 64 k ≠ 0#64 := by decide +kernel
theorem lb_test {x : Int64} {k : Nat} (hk : k < 64) : x &&& ((1 : Int64) <<< ((nI k).toInt64 &&& 63)) = 0 ↔ lb x k = false := by
  rw [← Int64.toBitVec_inj, Int64.toBitVec_and, lb_one k hk, BitVec.and_twoPow]
  unfold lb
  show _ = 0#64 ↔ _
  cases hb : x.toBitVec.getLsbD k
  · exact ⟨fun _ => rfl, fun _ => by simp⟩
  · exact ⟨fun z => absurd ((if_pos rfl).symm.trans z) (lb_tp k hk), fun z => by cases z⟩
theorem lb_set {x : Int64} {k : Nat} (hk : k < 64) (i : Nat) : lb (x ||| ((1 : Int64) <<< ((nI k).toInt64 &&& 63))) i = (lb x i || decide (i = k)) := by
  unfold lb
  rw [Int64.toBitVec_or, lb_one k hk, BitVec.getLsbD_or, BitVec.getLsbD_twoPow]
  by_cases h : k = i
  · subst h; simp [hk]
  · simp [h, Ne.symm h]
theorem lb_0 (i : Nat) : lb 0 i = false := by unfold lb; exact BitVec.getLsbD_zero
def rsUp (ads : Nat → Nat) (g : Nat → ClassId) (c : Nat → va_E) (q n : Int32) (wt : Nat → Int32) (sn wd : Nat → Int64) : Nat → va_E :=
  va_up (va_up (va_up (va_up c 186 (.inr (5, [.ref (ads 187), .ref (ads 188), .ref (ads 189), .int q, .int n]))) 187 (.inl (g 2, 1024, .inl wt))) 188 (.inl (g 1, 16, .inr (.inl sn)))) 189 (.inl (g 1, 13, .inr (.inl wd)))
section RS
variable {ads : Nat → Nat} {g : Nat → ClassId} {c : Nat → va_E} {q n q' n' : Int32} {wt wt' : Nat → Int32} {sn wd sn' wd' : Nat → Int64} {N : Nat} {M : Mem}
theorem rs_186 : rsUp ads g c q n wt sn wd 186 = .inr (5, [.ref (ads 187), .ref (ads 188), .ref (ads 189), .int q, .int n]) := by
  unfold rsUp; rw [up_ne (by omega), up_ne (by omega), up_ne (by omega), up_self]
theorem rs_187 : rsUp ads g c q n wt sn wd 187 = .inl (g 2, 1024, .inl wt) := by
  unfold rsUp; rw [up_ne (by omega), up_ne (by omega), up_self]
theorem rs_188 : rsUp ads g c q n wt sn wd 188 = .inl (g 1, 16, .inr (.inl sn)) := by
  unfold rsUp; rw [up_ne (by omega), up_self]
theorem rs_189 : rsUp ads g c q n wt sn wd 189 = .inl (g 1, 13, .inr (.inl wd)) := up_self
theorem rs_ne {j : Nat} (h : j < 186 ∨ 189 < j) : rsUp ads g c q n wt sn wd j = c j := by
  unfold rsUp; rw [up_ne (by omega), up_ne (by omega), up_ne (by omega), up_ne (by omega)]
theorem rs_ext {c1 : Nat → va_E} (h0 : ∀ j, j < 186 ∨ 189 < j → c1 j = c j) (h1 : c1 186 = .inr (5, [.ref (ads 187), .ref (ads 188), .ref (ads 189), .int q, .int n])) (h2 : c1 187 = .inl (g 2, 1024, .inl wt)) (h3 : c1 188 = .inl (g 1, 16, .inr (.inl sn))) (h4 : c1 189 = .inl (g 1, 13, .inr (.inl wd))) : c1 = rsUp ads g c q n wt sn wd := by
  funext j
  by_cases a : j < 186 ∨ 189 < j
  · rw [h0 j a, rs_ne a]
  · have : j = 186 ∨ j = 187 ∨ j = 188 ∨ j = 189 := by omega
    rcases this with rfl | rfl | rfl | rfl
    · rw [h1, rs_186]
    · rw [h2, rs_187]
    · rw [h3, rs_188]
    · rw [h4, rs_189]
theorem rs_u0 : va_up (rsUp ads g c q n wt sn wd) 186 (.inr (5, [.ref (ads 187), .ref (ads 188), .ref (ads 189), .int q', .int n'])) = rsUp ads g c q' n' wt sn wd :=
  rs_ext (fun j hj => by rw [up_ne (by omega), rs_ne hj]) up_self (by rw [up_ne (by omega), rs_187]) (by rw [up_ne (by omega), rs_188]) (by rw [up_ne (by omega), rs_189])
theorem rs_u1 : va_up (rsUp ads g c q n wt sn wd) 187 (.inl (g 2, 1024, .inl wt')) = rsUp ads g c q n wt' sn wd :=
  rs_ext (fun j hj => by rw [up_ne (by omega), rs_ne hj]) (by rw [up_ne (by omega), rs_186]) up_self (by rw [up_ne (by omega), rs_188]) (by rw [up_ne (by omega), rs_189])
theorem rs_u2 : va_up (rsUp ads g c q n wt sn wd) 188 (.inl (g 1, 16, .inr (.inl sn'))) = rsUp ads g c q n wt sn' wd :=
  rs_ext (fun j hj => by rw [up_ne (by omega), rs_ne hj]) (by rw [up_ne (by omega), rs_186]) (by rw [up_ne (by omega), rs_187]) up_self (by rw [up_ne (by omega), rs_189])
theorem rs_u3 : va_up (rsUp ads g c q n wt sn wd) 189 (.inl (g 1, 13, .inr (.inl wd'))) = rsUp ads g c q n wt sn wd' :=
  rs_ext (fun j hj => by rw [up_ne (by omega), rs_ne hj]) (by rw [up_ne (by omega), rs_186]) (by rw [up_ne (by omega), rs_187]) (by rw [up_ne (by omega), rs_188]) up_self
theorem rs_text {i : Nat} {ss : List Int32} {ps : List Int64} (hi : i + 2 < 186) (h : TextL g ads c i ss ps) : TextL g ads (rsUp ads g c q n wt sn wd) i ss ps := h.same (rs_ne (by omega)) (rs_ne (by omega)) (rs_ne (by omega))
/-! reads and writes -/
section
variable (hR : Rep N ads (rsUp ads g c q n wt sn wd) M) (hN : 190 ≤ N)
theorem rs_O (hR : Rep N ads (rsUp ads g c q n wt sn wd) M) (hN : 190 ≤ N) : isO M 5 (ads 186) := hR.O (by omega) rs_186
theorem rs_q (hR : Rep N ads (rsUp ads g c q n wt sn wd) M) (hN : 190 ≤ N) : gI M 5 (ads 186) 3 = some q := hR.I (by omega) rs_186 rfl
theorem rs_n (hR : Rep N ads (rsUp ads g c q n wt sn wd) M) (hN : 190 ≤ N) : gI M 5 (ads 186) 4 = some n := hR.I (by omega) rs_186 rfl
theorem rs_r0 (hR : Rep N ads (rsUp ads g c q n wt sn wd) M) (hN : 190 ≤ N) : gR M 5 (ads 186) 0 = some (ads 187) := hR.R (by omega) rs_186 rfl
theorem rs_r1 (hR : Rep N ads (rsUp ads g c q n wt sn wd) M) (hN : 190 ≤ N) : gR M 5 (ads 186) 1 = some (ads 188) := hR.R (by omega) rs_186 rfl
theorem rs_r2 (hR : Rep N ads (rsUp ads g c q n wt sn wd) M) (hN : 190 ≤ N) : gR M 5 (ads 186) 2 = some (ads 189) := hR.R (by omega) rs_186 rfl
theorem rs_wq (hR : Rep N ads (rsUp ads g c q n wt sn wd) M) (hN : 190 ≤ N) (x : Int32) : ∃ M', pV M 5 (ads 186) 3 (.int x) = some M' ∧ Rep N ads (rsUp ads g c x n wt sn wd) M' := ⟨_, hR.wV (by omega) rs_186 (Nat.le_of_ble_eq_true rfl), by
  have := hR.up (i := 186) (by omega) (.inr (5, [.ref (ads 187), .ref (ads 188), .ref (ads 189), .int x, .int n]))
  rw [rs_u0] at this; exact this⟩
theorem rs_wn (hR : Rep N ads (rsUp ads g c q n wt sn wd) M) (hN : 190 ≤ N) (x : Int32) : ∃ M', pV M 5 (ads 186) 4 (.int x) = some M' ∧ Rep N ads (rsUp ads g c q x wt sn wd) M' := ⟨_, hR.wV (by omega) rs_186 (Nat.le_of_ble_eq_true rfl), by
  have := hR.up (i := 186) (by omega) (.inr (5, [.ref (ads 187), .ref (ads 188), .ref (ads 189), .int q, .int x]))
  rw [rs_u0] at this; exact this⟩
theorem rs_wt (hR : Rep N ads (rsUp ads g c q n wt sn wd) M) (hN : 190 ≤ N) {j : Nat} (hj : j < 1024) (x : Int32) : ∃ M', sI M (g 2) (ads 187) (nI j) x = some M' ∧ Rep N ads (rsUp ads g c q n (upd wt j x) sn wd) M' := ⟨_, hR.wI (by omega) rs_187 hj (by omega) x, by
  have := hR.up (i := 187) (by omega) (.inl (g 2, 1024, .inl (upd wt j x)))
  rw [rs_u1] at this; exact this⟩
theorem rs_ws (hR : Rep N ads (rsUp ads g c q n wt sn wd) M) (hN : 190 ≤ N) {j : Nat} (hj : j < 16) (x : Int64) : ∃ M', sL M (g 1) (ads 188) (nI j) x = some M' ∧ Rep N ads (rsUp ads g c q n wt (vp_updL sn j x) wd) M' := ⟨_, hR.wL (by omega) rs_188 hj (by omega) x, by
  have := hR.up (i := 188) (by omega) (.inl (g 1, 16, .inr (.inl (vp_updL sn j x))))
  rw [rs_u2] at this; exact this⟩
theorem rs_ww (hR : Rep N ads (rsUp ads g c q n wt sn wd) M) (hN : 190 ≤ N) {j : Nat} (hj : j < 13) (x : Int64) : ∃ M', sL M (g 1) (ads 189) (nI j) x = some M' ∧ Rep N ads (rsUp ads g c q n wt sn (vp_updL wd j x)) M' := ⟨_, hR.wL (by omega) rs_189 hj (by omega) x, by
  have := hR.up (i := 189) (by omega) (.inl (g 1, 13, .inr (.inl (vp_updL wd j x))))
  rw [rs_u3] at this; exact this⟩
theorem rs_gt (hR : Rep N ads (rsUp ads g c q n wt sn wd) M) (hN : 190 ≤ N) {j : Nat} (hj : j < 1024) : aI M (g 2) (ads 187) (nI j) = some (wt j) := hR.rI (by omega) rs_187 hj (by omega)
theorem rs_gs (hR : Rep N ads (rsUp ads g c q n wt sn wd) M) (hN : 190 ≤ N) {j : Nat} (hj : j < 16) : aL M (g 1) (ads 188) (nI j) = some (sn j) := hR.rL (by omega) rs_188 hj (by omega)
theorem rs_gw (hR : Rep N ads (rsUp ads g c q n wt sn wd) M) (hN : 190 ≤ N) {j : Nat} (hj : j < 13) : aL M (g 1) (ads 189) (nI j) = some (wd j) := hR.rL (by omega) rs_189 hj (by omega)
end
/-! the words -/
def WL (wd : Nat → Int64) (W : List Int64) : Prop := ∀ j w, W[j]? = some w → wd j = w
def adW (W : List Int64) (x : Int64) : List Int64 := if x = 42 ∨ x = 35 ∨ x ∈ W then W else W ++ [x]
theorem adW_mem {W : List Int64} {x w : Int64} : w ∈ adW W x ↔ w ∈ W ∨ (w = x ∧ x ≠ 42 ∧ x ≠ 35) := by
  unfold adW
  by_cases h : x = 42 ∨ x = 35 ∨ x ∈ W
  · rw [if_pos h]
    constructor
    · exact Or.inl
    · rintro (z | ⟨rfl, z2, z3⟩)
      · exact z
      · rcases h with h | h | h
        · exact absurd h z2
        · exact absurd h z3
        · exact h
  · rw [if_neg h, List.mem_append, List.mem_singleton]
    constructor
    · rintro (z | rfl)
      · exact Or.inl z
      · exact Or.inr ⟨rfl, fun y => h (Or.inl y), fun y => h (Or.inr (Or.inl y))⟩
    · rintro (z | ⟨rfl, _⟩)
      · exact Or.inl z
      · exact Or.inr rfl
theorem adW_len {W : List Int64} {x : Int64} : (adW W x).length ≤ W.length + 1 := by
  unfold adW
  split
  · omega
  · rw [List.length_append, List.length_singleton]; exact Nat.le_refl _
theorem r_addWord {W : List Int64} (hR : Rep N ads (rsUp ads g c q (nI W.length) wt sn wd) M) (hN : 190 ≤ N) (hW : WL wd W) (hl : W.length ≤ 12) {x : Int64} {P : Mem → Prop} (hP : ∀ wd' M', Rep N ads (rsUp ads g c q (nI (adW W x).length) wt sn wd') M' → WL wd' (adW W x) → P M') : wp_Rs_addWord g M (ads 186) x P := by
  have main : ∀ b : Bool, (b = true ↔ x ≠ 42 ∧ x ≠ 35) → wp_Rs_addWord_b21 g P M (ads 186) x (bI b) := by
    intro b hb
    refine ⟨fun x3 x4 => ∃ (j : Nat) (b' : Bool), x4 = nI j ∧ j ≤ W.length ∧ x3 = bI b' ∧ (b' = true ↔ (x ≠ 42 ∧ x ≠ 35) ∧ x ∉ W.take j), fun _ x => W.length - x.toNatClampNeg, ⟨0, b, rfl, Nat.zero_le _, rfl, by rw [hb]; simp⟩, ?_⟩
    rintro _ _ ⟨j, b', rfl, hj, rfl, hb'⟩
    refine ⟨_, rs_n hR hN, fun z => ?_, fun z => ?_⟩
    · have e : j = W.length := Nat.le_antisymm hj (Nat.not_lt.mp fun y => absurd z (nI_ge y (by omega)))
      subst e
      rw [List.take_length] at hb'
      refine ⟨fun y => ?_, fun y => ?_⟩
      · have h1 : x = 42 ∨ x = 35 ∨ x ∈ W := by
          rw [bI_0] at y
          rw [y] at hb'
          by_cases a1 : x = 42
          · exact Or.inl a1
          · by_cases a2 : x = 35
            · exact Or.inr (Or.inl a2)
            · by_cases a3 : x ∈ W
              · exact Or.inr (Or.inr a3)
              · exact absurd (hb'.mpr ⟨⟨a1, a2⟩, a3⟩) (by decide)
        have h2 : adW W x = W := by unfold adW; rw [if_pos h1]
        rw [h2] at hP
        exact hP wd M hR hW
      · have h1 : ¬ (x = 42 ∨ x = 35 ∨ x ∈ W) := by
          have : b' = true := by cases b'; exact absurd rfl y; rfl
          have := hb'.mp this
          rintro (a1 | a1 | a1)
          · exact this.1.1 a1
          · exact this.1.2 a1
          · exact this.2 a1
        have h2 : adW W x = W ++ [x] := by unfold adW; rw [if_neg h1]
        rw [h2] at hP
        refine ⟨_, rs_n hR hN, _, rs_r2 hR hN, _, hR.len (by omega) rs_189, fun z => absurd z (nI_ge (by omega) (by omega)), fun _ => ⟨_, rs_r2 hR hN, _, rs_n hR hN, ?_⟩⟩
        obtain ⟨M1, e1, hR1⟩ := rs_ww hR hN (j := W.length) (by omega) x
        obtain ⟨M2, e2, hR2⟩ := rs_wn hR1 hN (nI W.length + 1)
        refine ⟨M1, e1, _, rs_n hR1 hN, M2, e2, hP _ M2 (by rw [List.length_append, List.length_singleton, ← nI_1]; exact hR2) (fun k w hk => ?_)⟩
        rcases app_get hk with a1 | ⟨a1, a2⟩
        · have := (List.getElem?_eq_some_iff.mp a1).1
          rw [pk_uLn (by omega)]; exact hW k w a1
        · rw [a1, pk_uLs, a2]
    · have hlt : j < W.length := Nat.not_le.mp fun y => z (nI_le y (by omega))
      have hw := hW j _ (List.getElem?_eq_getElem hlt)
      have ht : ∀ y : Int64, y ∉ W.take (j + 1) ↔ y ∉ W.take j ∧ W[j] ≠ y := fun y => by
        rw [List.take_succ, List.getElem?_eq_getElem hlt, List.mem_append]
        simp
        exact fun _ => ⟨fun h e => h e.symm, fun h e => h e.symm⟩
      refine ⟨fun y => ⟨⟨j + 1, false, nI_1 j, hlt, rfl, ?_⟩, mu_dec hlt (by omega)⟩, fun y => ⟨_, rs_r2 hR hN, _, rs_gw hR hN (by omega), fun e => ⟨⟨j + 1, false, nI_1 j, hlt, rfl, ?_⟩, mu_dec hlt (by omega)⟩, fun e => ⟨⟨j + 1, true, nI_1 j, hlt, rfl, ?_⟩, mu_dec hlt (by omega)⟩⟩⟩
      · rw [bI_0] at y
        rw [y] at hb'
        refine ⟨fun a => (by cases a), fun a => ?_⟩
        exact hb'.mpr ⟨a.1, ((ht x).mp a.2).1⟩
      · refine ⟨fun a => (by cases a), fun a => ?_⟩
        rw [cmp0, hw] at e
        exact absurd e ((ht x).mp a.2).2
      · have h3 : b' = true := by cases b'; exact absurd rfl y; rfl
        have h4 := hb'.mp h3
        rw [cmp0, hw] at e
        exact ⟨fun _ => ⟨h4.1, (ht x).mpr ⟨h4.2, e⟩⟩, fun _ => rfl⟩
  refine ⟨fun e => main false ?_, fun e => ⟨fun e2 => main false ?_, fun e2 => main true ?_⟩⟩
  · rw [cmp0] at e
    exact ⟨fun z => (by cases z), fun z => absurd e z.1⟩
  · rw [cmp0] at e2
    exact ⟨fun z => (by cases z), fun z => absurd e2 z.2⟩
  · rw [cmp0] at e e2
    exact ⟨fun _ => ⟨e, e2⟩, fun _ => rfl⟩
end RS
