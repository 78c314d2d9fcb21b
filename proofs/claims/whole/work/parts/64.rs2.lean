/-! RowSearch: its methods -/
section RS2
variable {ads : Nat → Nat} {g : Nat → ClassId} {c : Nat → va_E} {q n : Int32} {wt : Nat → Int32} {sn wd : Nat → Int64} {N : Nat} {M : Mem} {i o : Nat} {s1 s2 : List Int32} {p1 p2 : List Int64}
def adWs (W : List Int64) (ps : List Int64) : List Int64 := ps.foldl adW W
theorem adWs_mem {ps : List Int64} {w : Int64} : ∀ {W : List Int64}, w ∈ adWs W ps ↔ w ∈ W ∨ (w ∈ ps ∧ w ≠ 42 ∧ w ≠ 35) := by
  induction ps with
  | nil => intro W; simp [adWs]
  | cons x ps ih =>
    intro W
    have := ih (W := adW W x)
    unfold adWs at this ⊢
    rw [List.foldl_cons, this, adW_mem, List.mem_cons]
    constructor
    · rintro ((h | ⟨rfl, h⟩) | h)
      · exact Or.inl h
      · exact Or.inr ⟨Or.inl rfl, h⟩
      · exact Or.inr ⟨Or.inr h.1, h.2⟩
    · rintro (h | ⟨rfl | h, h2⟩)
      · exact Or.inl (Or.inl h)
      · exact Or.inl (Or.inr ⟨rfl, h2⟩)
      · exact Or.inr ⟨h, h2⟩
theorem adWs_len {ps : List Int64} : ∀ {W : List Int64}, (adWs W ps).length ≤ W.length + ps.length := by
  induction ps with
  | nil => intro W; exact Nat.le_refl _
  | cons x ps ih =>
    intro W
    have h1 := ih (W := adW W x)
    have h2 := adW_len (W := W) (x := x)
    unfold adWs at h1 ⊢
    rw [List.foldl_cons, List.length_cons]
    omega
theorem adWs_snoc {W ps : List Int64} {x : Int64} : adWs W (ps ++ [x]) = adW (adWs W ps) x := by simp [adWs]
def wds (p1 p2 : List Int64) : List Int64 := adWs (adWs [0] p1) p2
theorem wds_mem {w : Int64} : w ∈ wds p1 p2 ↔ inW p1 p2 w := by
  unfold wds inW
  rw [adWs_mem, adWs_mem, List.mem_singleton]
  constructor
  · rintro ((h | h) | h)
    · exact Or.inl h
    · exact Or.inr ⟨Or.inl h.1, h.2⟩
    · exact Or.inr ⟨Or.inr h.1, h.2⟩
  · rintro (h | ⟨h | h, h2⟩)
    · exact Or.inl (Or.inl h)
    · exact Or.inl (Or.inr ⟨h, h2⟩)
    · exact Or.inr ⟨h, h2⟩
theorem wds_len (h1 : p1.length ≤ 6) (h2 : p2.length ≤ 6) : (wds p1 p2).length ≤ 13 := by
  have a := adWs_len (W := adWs [0] p1) (ps := p2)
  have b := adWs_len (W := [0]) (ps := p1)
  unfold wds
  simp at b
  omega
theorem r_collect (hR : Rep N ads (rsUp ads g c q n wt sn wd) M) (hN : 190 ≤ N) (hi : i + 2 < 186) (h1 : TextL g ads c i s1 p1) (hk1 : p1.length ≤ 6) (ho : o + 2 < 186) (h2 : TextL g ads c o s2 p2) (hk2 : p2.length ≤ 6) {P : Mem → Prop} (hP : ∀ wd' M', Rep N ads (rsUp ads g c q (nI (wds p1 p2).length) wt sn wd') M' → WL wd' (wds p1 p2) → P M') : wp_Rs_collectWords g M (ads 186) (ads i) (ads o) P := by
  obtain ⟨M1, e1, hR1⟩ := rs_wn hR hN 0
  refine ⟨M1, e1, rs_O hR1 hN, r_addWord (W := []) hR1 hN (fun j w h => by cases h) (by simp) (fun wd2 M2 hR2 hW2 => ?_)⟩
  have e0 : adW [] 0 = [0] := by unfold adW; rw [if_neg (by decide)]; rfl
  rw [e0] at hR2 hW2
  have b1 : ∀ j, (adWs [0] (p1.take j)).length ≤ 1 + j := fun j => by
    have := adWs_len (W := [0]) (ps := p1.take j)
    rw [List.length_take] at this
    simp at this
    omega
  refine ⟨fun x M' => ∃ (j : Nat) (wd' : Nat → Int64), x = nI j ∧ j ≤ p1.length ∧ Rep N ads (rsUp ads g c q (nI (adWs [0] (p1.take j)).length) wt sn wd') M' ∧ WL wd' (adWs [0] (p1.take j)), fun x _ => p1.length - x.toNatClampNeg, ⟨0, wd2, rfl, Nat.zero_le _, hR2, hW2⟩, ?_⟩
  rintro _ M3 ⟨j, wd3, rfl, hj, hR3, hW3⟩
  have t1 : TextL g ads (rsUp ads g c q (nI (adWs [0] (p1.take j)).length) wt sn wd3) i s1 p1 := rs_text hi h1
  refine ⟨t1.O hR3 (by omega), l_partCount hR3 (by omega) t1 ⟨fun z => ?_, fun z => ?_⟩⟩
  · have e : j = p1.length := Nat.le_antisymm hj (Nat.not_lt.mp fun y => absurd z (nI_ge y (by omega)))
    subst e
    rw [List.take_length] at hR3 hW3
    have b2 := b1 p1.length
    rw [List.take_length] at b2
    refine ⟨fun x M' => ∃ (j : Nat) (wd' : Nat → Int64), x = nI j ∧ j ≤ p2.length ∧ Rep N ads (rsUp ads g c q (nI (adWs (adWs [0] p1) (p2.take j)).length) wt sn wd') M' ∧ WL wd' (adWs (adWs [0] p1) (p2.take j)), fun x _ => p2.length - x.toNatClampNeg, ⟨0, wd3, rfl, Nat.zero_le _, hR3, hW3⟩, ?_⟩
    rintro _ M4 ⟨k, wd4, rfl, hk, hR4, hW4⟩
    have t2 : TextL g ads (rsUp ads g c q (nI (adWs (adWs [0] p1) (p2.take k)).length) wt sn wd4) o s2 p2 := rs_text ho h2
    refine ⟨t2.O hR4 (by omega), l_partCount hR4 (by omega) t2 ⟨fun z => ?_, fun z => ?_⟩⟩
    · have e : k = p2.length := Nat.le_antisymm hk (Nat.not_lt.mp fun y => absurd z (nI_ge y (by omega)))
      subst e
      rw [List.take_length] at hR4 hW4
      exact hP wd4 M4 hR4 hW4
    · have hlt : k < p2.length := Nat.not_le.mp fun y => z (nI_le y (by omega))
      have b3 := adWs_len (W := adWs [0] p1) (ps := p2.take k)
      rw [List.length_take] at b3
      refine ⟨t2.O hR4 (by omega), l_partAt hR4 (by omega) t2 hk2 hlt ⟨rs_O hR4 hN, r_addWord hR4 hN hW4 (by omega) (fun wd5 M5 hR5 hW5 => ⟨⟨k + 1, wd5, nI_1 k, hlt, ?_, ?_⟩, mu_dec hlt (by omega)⟩)⟩⟩
      · rw [← take_snoc (d := 0) hlt, adWs_snoc]; exact hR5
      · rw [← take_snoc (d := 0) hlt, adWs_snoc]; exact hW5
  · have hlt : j < p1.length := Nat.not_le.mp fun y => z (nI_le y (by omega))
    have b2 := b1 j
    refine ⟨t1.O hR3 (by omega), l_partAt hR3 (by omega) t1 hk1 hlt ⟨rs_O hR3 hN, r_addWord hR3 hN hW3 (by omega) (fun wd5 M5 hR5 hW5 => ⟨⟨j + 1, wd5, nI_1 j, hlt, ?_, ?_⟩, mu_dec hlt (by omega)⟩)⟩⟩
    · rw [← take_snoc (d := 0) hlt, adWs_snoc]; exact hR5
    · rw [← take_snoc (d := 0) hlt, adWs_snoc]; exact hW5
theorem r_fill (hR : Rep N ads (rsUp ads g c q n wt sn wd) M) (hN : 190 ≤ N) {P : Mem → Prop} (hP : ∀ sn' M', Rep N ads (rsUp ads g c q n wt sn' wd) M' → (∀ j, j < 16 → sn' j = 0) → P M') : wp_Arr_fill g M (ads 188) 0 P := by
  refine ⟨16, hR.len (by omega) rs_188, fun x M' => ∃ (j : Nat) (sn' : Nat → Int64), x = nI j ∧ j ≤ 16 ∧ Rep N ads (rsUp ads g c q n wt sn' wd) M' ∧ ∀ k, k < j → sn' k = 0, fun x _ => 16 - x.toNatClampNeg, ⟨0, sn, rfl, Nat.zero_le _, hR, fun k hk => absurd hk (Nat.not_lt_zero _)⟩, ?_⟩
  rintro _ M1 ⟨j, sn1, rfl, hj, hR1, h1⟩
  refine ⟨fun z => ?_, fun z => ?_⟩
  · have e : j = 16 := Nat.le_antisymm hj (Nat.not_lt.mp fun y => absurd z (nI_ge y (by omega)))
    subst e
    exact hP sn1 M1 hR1 h1
  · have hlt : j < 16 := Nat.not_le.mp fun y => z (nI_le y (by omega))
    obtain ⟨M2, e2, hR2⟩ := rs_ws hR1 hN hlt 0
    refine ⟨M2, e2, ⟨j + 1, _, nI_1 j, hlt, hR2, fun k hk => ?_⟩, mu_dec hlt (by omega)⟩
    by_cases hkj : k = j
    · subst hkj; exact pk_uLs
    · rw [pk_uLn hkj]; exact h1 k (by omega)
/-! states -/
def QOK (Q : List (Nat × Nat)) (wt : Nat → Int32) (sn : Nat → Int64) : Prop :=
  (∀ (j : Nat) (e : Nat × Nat), Q[j]? = some e → wt j = nI (e.2 * 1024 + e.1) ∧ e.2 ≤ j ∧ e.1 < 1024) ∧
  (∀ st, st < 1024 → (lb (sn (st / 64)) (st % 64) = true ↔ st ∈ Q.map Prod.fst)) ∧ (Q.map Prod.fst).Nodup
theorem QOK.len {Q : List (Nat × Nat)} (h : QOK Q wt sn) : Q.length ≤ 1024 := by
  have := pigeon 1024 (Q.map Prod.fst) h.2.2 (fun x hx => by
    obtain ⟨e, he, rfl⟩ := List.mem_map.mp hx
    obtain ⟨j, hj⟩ := List.getElem?_of_mem he
    exact (h.1 j e hj).2.2)
  rw [List.length_map] at this
  exact this
theorem QOK.room {Q : List (Nat × Nat)} (h : QOK Q wt sn) {st : Nat} (hs : st < 1024) (hn : st ∉ Q.map Prod.fst) : Q.length < 1024 := by
  have := pigeon 1024 (st :: Q.map Prod.fst) (List.nodup_cons.mpr ⟨hn, h.2.2⟩) (fun x hx => by
    rcases List.mem_cons.mp hx with rfl | hx
    · exact hs
    · obtain ⟨e, he, rfl⟩ := List.mem_map.mp hx
      obtain ⟨j, hj⟩ := List.getElem?_of_mem he
      exact (h.1 j e hj).2.2)
  rw [List.length_cons, List.length_map] at this
  omega
theorem or_add {a b k : Nat} (h : b < 2 ^ k) : a * 2 ^ k ||| b = a * 2 ^ k + b := by
  rw [Nat.mul_comm]; exact (Nat.two_pow_add_eq_or_of_lt h a).symm
theorem r_addState {Q : List (Nat × Nat)} (hR : Rep N ads (rsUp ads g c (nI Q.length) n wt sn wd) M) (hN : 190 ≤ N) (hQ : QOK Q wt sn) {st d : Nat} (hs : st < 1024) (hd : d ≤ Q.length) {P : Mem → Prop} (hP0 : st ∈ Q.map Prod.fst → P M) (hP1 : st ∉ Q.map Prod.fst → ∀ wt' sn' M', Rep N ads (rsUp ads g c (nI (Q ++ [(st, d)]).length) n wt' sn' wd) M' → QOK (Q ++ [(st, d)]) wt' sn' → P M') : wp_Rs_addState g M (ads 186) (nI st) (nI d) P := by
  have e1 : nI st / (64 : Int32) = nI (st / 64) := pk_div (d := 64) (by omega) (by omega) (by omega)
  have e2 : nI st - nI st / (64 : Int32) * (64 : Int32) = nI (st % 64) := pk_rem (d := 64) (by omega) (by omega) (by omega)
  have hlen := hQ.len
  unfold wp_Rs_addState
  rw [e2, e1]
  have h16 : st / 64 < 16 := by omega
  refine ⟨fun z => absurd z (nI_pos (by omega)), fun _ => ⟨_, rs_r1 hR hN, _, hR.len (by omega) rs_188, fun z => absurd z (nI_ge h16 (by omega)), fun _ => ⟨_, rs_r1 hR hN, _, rs_gs hR hN h16, fun z => ?_, fun z => ?_⟩⟩⟩
  · rw [cmp0, lb_test (by omega)] at z
    have hn : st ∉ Q.map Prod.fst := fun y => by
      rw [(hQ.2.1 st hs).mpr y] at z
      cases z
    have hroom := hQ.room hs hn
    obtain ⟨M1, f1, hR1⟩ := rs_ws hR hN h16 (sn (st / 64) ||| ((1 : Int64) <<< ((nI (st % 64)).toInt64 &&& 63)))
    obtain ⟨M2, f2, hR2⟩ := rs_wt hR1 hN hroom ((nI d <<< ((10 : Int32) &&& 31)) ||| nI st)
    obtain ⟨M3, f3, hR3⟩ := rs_wq hR2 hN (nI Q.length + 1)
    refine ⟨_, rs_r1 hR hN, _, rs_gs hR hN h16, M1, f1, _, rs_q hR1 hN, _, rs_r0 hR1 hN, _, hR1.len (by omega) rs_187, fun y => absurd y (nI_ge hroom (by omega)), fun _ => ⟨_, rs_r0 hR1 hN, _, rs_q hR1 hN, M2, f2, _, rs_q hR2 hN, M3, f3, hP1 hn _ _ M3 (by rw [List.length_append, List.length_singleton, ← nI_1]; exact hR3) ⟨fun j e he => ?_, fun s hs2 => ?_, ?_⟩⟩⟩
    · rcases app_get he with a | ⟨a, a2⟩
      · have := (List.getElem?_eq_some_iff.mp a).1
        rw [pk_un (by omega)]
        exact hQ.1 j e a
      · rw [a, pk_us, a2]
        refine ⟨?_, hd, hs⟩
        rw [pk_shlN _ 10 (by decide) (by omega), bs_or, or_add (by omega)]
    · rw [List.map_append, List.mem_append]
      by_cases hrow : s / 64 = st / 64
      · rw [hrow, pk_uLs, lb_set (by omega), Bool.or_eq_true, ← hrow, hQ.2.1 s hs2, decide_eq_true_iff]
        refine or_congr Iff.rfl ?_
        simp
        omega
      · rw [pk_uLn hrow, hQ.2.1 s hs2]
        refine ⟨Or.inl, fun y => y.elim id fun y => ?_⟩
        simp at y
        exact absurd (by rw [y]) hrow
    · rw [List.map_append, List.nodup_append]
      refine ⟨hQ.2.2, by simp, fun a ha b hb => ?_⟩
      simp at hb
      rw [hb]
      exact fun y => hn (y ▸ ha)
  · rw [cmp0, lb_test (by omega)] at z
    refine hP0 ((hQ.2.1 st hs).mp ?_)
    cases hb : lb (sn (st / 64)) (st % 64)
    · exact absurd hb z
    · rfl
theorem r_addStates {Q0 : List (Nat × Nat)} (hR : Rep N ads (rsUp ads g c (nI Q0.length) n wt sn wd) M) (hN : 190 ≤ N) (hQ : QOK Q0 wt sn) {F S d : Nat} (hF : F < 128) (hS : S < 128) (hd : d ≤ Q0.length) {J : List (Nat × Nat) → Prop} (hJ0 : J Q0) (hJ : ∀ Q p, J Q → p < 7 → F.testBit p = true → p * 128 + S ∉ Q.map Prod.fst → J (Q ++ [(p * 128 + S, d)])) {P : Mem → Prop} (hP : ∀ Q wt' sn' M', Rep N ads (rsUp ads g c (nI Q.length) n wt' sn' wd) M' → QOK Q wt' sn' → J Q → (∀ p, p < 7 → F.testBit p = true → p * 128 + S ∈ Q.map Prod.fst) → P M') : wp_Rs_addStates g M (ads 186) (nI F) (nI S) (nI d) P := by
  refine ⟨fun x M' => ∃ (j : Nat) (Q : List (Nat × Nat)) (wt' : Nat → Int32) (sn' : Nat → Int64), x = nI j ∧ j ≤ 7 ∧ Rep N ads (rsUp ads g c (nI Q.length) n wt' sn' wd) M' ∧ QOK Q wt' sn' ∧ J Q ∧ d ≤ Q.length ∧ ∀ p, p < j → F.testBit p = true → p * 128 + S ∈ Q.map Prod.fst, fun x _ => 7 - x.toNatClampNeg, ⟨0, Q0, wt, sn, rfl, Nat.zero_le _, hR, hQ, hJ0, hd, fun p hp => absurd hp (Nat.not_lt_zero _)⟩, ?_⟩
  rintro _ M1 ⟨j, Q, wt1, sn1, rfl, hj, hR1, hQ1, hJ1, hd1, hall⟩
  refine ⟨fun z => ?_, fun z => ?_⟩
  · have e : j = 7 := Nat.le_antisymm hj (Nat.not_lt.mp fun y => absurd z (nI_ge (b := 7) y (by omega)))
    subst e
    exact hP Q wt1 sn1 M1 hR1 hQ1 hJ1 hall
  · have hlt : j < 7 := Nat.not_le.mp fun y => z (nI_le (a := 7) y (by omega))
    have est : (nI j <<< ((7 : Int32) &&& 31)) ||| nI S = nI (j * 128 + S) := by
      rw [pk_shlN _ 7 (by decide) (by omega), bs_or, or_add (by omega)]
    refine ⟨fun y => ⟨⟨j + 1, Q, wt1, sn1, nI_1 j, hlt, hR1, hQ1, hJ1, hd1, fun p hp hb => ?_⟩, mu_dec hlt (by omega)⟩, fun y => ⟨rs_O hR1 hN, ?_⟩⟩
    · rw [bs_t (by omega) (by omega)] at y
      by_cases hpj : p = j
      · subst hpj; rw [hb] at y; cases y
      · exact hall p (by omega) hb
    · have hbit : F.testBit j = true := by
        cases hb : F.testBit j
        · exact absurd ((bs_t (by omega) (by omega)).mpr hb) y
        · rfl
      rw [est]
      refine r_addState hR1 hN hQ1 (by omega) hd1 (fun hm => ⟨⟨j + 1, Q, wt1, sn1, nI_1 j, hlt, hR1, hQ1, hJ1, hd1, fun p hp hb => ?_⟩, mu_dec hlt (by omega)⟩) (fun hm wt2 sn2 M2 hR2 hQ2 => ⟨⟨j + 1, _, wt2, sn2, nI_1 j, hlt, hR2, hQ2, hJ Q j hJ1 hlt hbit hm, ?_, fun p hp hb => ?_⟩, mu_dec hlt (by omega)⟩)
      · by_cases hpj : p = j
        · subst hpj; exact hm
        · exact hall p (by omega) hb
      · rw [List.length_append]; omega
      · rw [List.map_append, List.mem_append]
        by_cases hpj : p = j
        · subst hpj; exact Or.inr (by simp)
        · exact Or.inl (hall p (by omega) hb)
end RS2
