/-! the law: its loop and its start -/
section LAW
variable {g : Nat → ClassId} {ads : Nat → Nat} {M : Mem} {n : Nat}
theorem LInv.mono {m : Nat} (h : LInv g ads M n) (hm : n ≤ m) : LInv g ads M m := by
  obtain ⟨c, tp, ft, B, K, Km, r, s, A, L, out, hR, hD, hC, hI, ho, hok, hr⟩ := h
  exact ⟨c, tp, ft, B, K, Km, r, s, A, L, out, hR, hD, hC, hI, ho, hok, Nat.le_trans hr hm⟩
theorem lw_loop {b L : Nat} {xs : Nat → Int32} (h : LInv g ads M 0) (hL : L ≤ 2048) : wp_Law_law_b23 g b L xs M (ads 0) (ads 190) (ads 207) 0 := by
  refine ⟨fun x M => ∃ k, x = nI (4 * k) ∧ k ≤ 512 ∧ LInv g ads M (1200 * k), fun x _ => 512 - x.toNatClampNeg / 4, Nat.sub_le _ _, ⟨0, rfl, Nat.zero_le _, h⟩, ?_⟩
  clear h
  rintro _ M1 ⟨k, rfl, hk, h⟩
  refine ⟨fun _ => trivial, fun z => ?_⟩
  have hb : 4 * k + 4 ≤ L := by
    refine Nat.not_lt.mp fun w => z ?_
    have e : (Int32.ofNat L - (4 : Int32)).toInt = (L : Int) - (4 : Nat) := pk_sub_toInt (a := L) (b := 4) (by omega) (by omega)
    rw [Int32.lt_iff_toInt_lt, e, nI_toInt (by omega)]
    omega
  have v0 : vp_in (nI (4 * k)) L := vp_in_nI (by omega) (by omega)
  have v1 : vp_in (nI (4 * k) + (1 : Int32)) L := by rw [show nI (4 * k) + (1 : Int32) = nI (4 * k + 1) from nI_add _ 1]; exact vp_in_nI (by omega) (by omega)
  have v2 : vp_in (nI (4 * k) + (2 : Int32)) L := by rw [show nI (4 * k) + (2 : Int32) = nI (4 * k + 2) from nI_add _ 2]; exact vp_in_nI (by omega) (by omega)
  have v3 : vp_in (nI (4 * k) + (3 : Int32)) L := by rw [show nI (4 * k) + (3 : Int32) = nI (4 * k + 3) from nI_add _ 3]; exact vp_in_nI (by omega) (by omega)
  have fin : ∀ M' : Mem, LInv g ads M' (1200 * k + 1200) → wp_Law_law_b659 g b L xs (fun y4 N => (∃ k, y4 = nI (4 * k) ∧ k ≤ 512 ∧ LInv g ads N (1200 * k)) ∧ 512 - y4.toNatClampNeg / 4 < 512 - (nI (4 * k)).toNatClampNeg / 4) M' (ads 0) (ads 190) (ads 207) (nI (4 * k)) := fun M' h' => by
    have e : nI (4 * k) + (4 : Int32) = nI (4 * (k + 1)) := nI_add (4 * k) 4
    refine ⟨⟨k + 1, e, by omega, h'⟩, ?_⟩
    rw [e, nI_clamp (by omega), nI_clamp (by omega)]
    omega
  have fin0 : ∀ M' : Mem, LInv g ads M' (1200 * k) → wp_Law_law_b659 g b L xs (fun y4 N => (∃ k, y4 = nI (4 * k) ∧ k ≤ 512 ∧ LInv g ads N (1200 * k)) ∧ 512 - y4.toNatClampNeg / 4 < 512 - (nI (4 * k)).toNatClampNeg / 4) M' (ads 0) (ads 190) (ads 207) (nI (4 * k)) := fun M' h' => fin M' (h'.mono (by omega))
  have fin1 : ∀ M' : Mem, LInv g ads M' (1200 * k + 1) → wp_Law_law_b659 g b L xs (fun y4 N => (∃ k, y4 = nI (4 * k) ∧ k ≤ 512 ∧ LInv g ads N (1200 * k)) ∧ 512 - y4.toNatClampNeg / 4 < 512 - (nI (4 * k)).toNatClampNeg / 4) M' (ads 0) (ads 190) (ads 207) (nI (4 * k)) := fun M' h' => fin M' (h'.mono (by omega))
  refine ⟨v0, fun _ => ⟨v1, v2, v3, lw_type h v1 v2 v3 fin0⟩, fun _ => ⟨fun _ => ⟨v1, lw_bind h v1 fin0⟩, fun _ => ⟨fun _ => lw_fault h fin0, fun _ => ⟨fun _ => ⟨v1, lw_free h v1 fin0⟩, fun _ => ⟨fun _ => lw_route h fin0, fun _ => ⟨fun _ => ⟨v1, lw_keep h v1 fin0⟩, fun _ => ⟨fun _ => lw_lose h fin0, fun _ => ⟨fun _ => ⟨v1, v2, lw_about h v1 v2 fin0⟩, fun _ => ⟨fun _ => ⟨v1, v2, lw_kept h v1 v2 fin0⟩, fun _ => ⟨fun _ => ⟨v1, v2, lw_sign h v1 v2 fin0⟩, fun _ => ⟨fun _ => ⟨v1, v2, lw_both h (by omega) v1 v2 fin1⟩, fun _ => ⟨fun _ => ⟨v1, v2, lw_only h (by omega) v1 v2 fin1⟩, fun _ => ⟨fun _ => ⟨v1, lw_spare h (by omega) v1 fin⟩, fun _ => fin0 _ h⟩⟩⟩⟩⟩⟩⟩⟩⟩⟩⟩⟩⟩
theorem MI_new {A : Nat → Nat → Int32} (h1 : ∀ i, i < 24 → A 194 i = -1) (h0 : ∀ p, p ≠ 194 → A p = fun _ => 0) : MI s0 A (fun _ _ => 0) [] (-1) B0 [] 0 := by
  refine ⟨rfl, fun j hj => absurd hj (Nat.not_lt_zero _), rfl, fun i hi => ⟨h1 i hi, by rw [h0 195 (by omega)]; rfl, ⟨Nat.zero_le _, fun x hx => (List.not_mem_nil hx).elim, by rw [h0 197 (by omega)]; rfl, fun k hk => absurd hk (Nat.not_lt_zero _)⟩, by rw [h0 199 (by omega)]; rfl, Nat.zero_le _, fun k hk => absurd hk (Nat.not_lt_zero _)⟩, ⟨rfl, Nat.zero_le _, fun j e hj => (by cases hj)⟩, rfl, fun k hk => ⟨0, Nat.le_refl _, by rw [h0 205 (by omega)]; rfl⟩⟩
theorem pure_law : ∀ (g : Nat → ClassId) (b L : Nat) (xs : Nat → Int32), L ≤ 2048 → wp_Law_law g b L xs m0 := by
  intro g b L xs hL q1 M2 hq1 hM2
  subst hM2
  have h0 : Rep 0 (fun _ => 0) (fun _ => (.inr (0, []) : va_E)) m0 := ⟨fun i hi => absurd hi (Nat.not_lt_zero _), fun i j hi => absurd hi (Nat.not_lt_zero _)⟩
  refine d_init (h0.push hq1) up_self up_self (fun ads1 c1 M1 hR1 ha1 hD1 => ?_)
  intro q5 M6 hq5 hM6
  subst hM6
  refine o_init (hR1.push hq5) up_self up_self (fun ads2 c2 A2 M3 hR2 ha2 hc2 hC2 hA1 hA0 => ?_)
  intro q9 M10 hq9 hM10
  subst hM10
  have hR3 : Rep 208 (va_up ads2 207 q9) (va_up c2 207 (outE g (fun _ => 0))) (mup M3 q9 (outE g (fun _ => 0))) := hR2.push hq9
  have e0 : va_up ads2 207 q9 0 = q1 := by rw [up_ne (by omega), ha2 0 (by omega), up_ne (by omega)]; exact ha1
  have e1 : va_up ads2 207 q9 190 = q5 := by rw [up_ne (by omega), ha2 190 (by omega), up_self]
  have e2 : va_up ads2 207 q9 207 = q9 := up_self
  have hD3 : DeskC g (va_up ads2 207 q9) (va_up c2 207 (outE g (fun _ => 0))) [] (-1) B0 [] := hD1.ext (fun j hj => by rw [up_ne (by omega), ha2 j (by omega), up_ne (by omega)]) (fun j hj => by rw [up_ne (by omega), hc2 j (by omega), up_ne (by omega)])
  have hmf : modF (va_up ads2 207 q9) s0 = modF ads2 s0 := by
    unfold modF
    rw [up_ne (j := 191) (by omega), up_ne (j := 192) (by omega), up_ne (j := 193) (by omega), up_ne (j := 194) (by omega), up_ne (j := 195) (by omega), up_ne (j := 196) (by omega), up_ne (j := 197) (by omega), up_ne (j := 198) (by omega), up_ne (j := 199) (by omega), up_ne (j := 200) (by omega), up_ne (j := 201) (by omega), up_ne (j := 202) (by omega), up_ne (j := 203) (by omega), up_ne (j := 204) (by omega), up_ne (j := 205) (by omega), up_ne (j := 206) (by omega)]
  have hC3 : ModC g (va_up ads2 207 q9) (va_up c2 207 (outE g (fun _ => 0))) s0 A2 (fun _ _ => 0) := by
    have hC4 : ModC g ads2 (va_up c2 207 (outE g (fun _ => 0))) s0 A2 (fun _ _ => 0) := hC2.at (fun j _ hj => up_ne (by omega))
    exact ⟨by rw [hmf]; exact hC4.1, hC4.2⟩
  have hinv : LInv g (va_up ads2 207 q9) (mup M3 q9 (outE g (fun _ => 0))) 0 := ⟨_, [], -1, B0, [], [], 0, s0, A2, _, _, hR3, hD3, hC3, MI_new hA1 hA0, up_self, ⟨okT_nil, fun i hi => ⟨okT_nil, Or.inl rfl⟩, ⟨List.Pairwise.nil, fun e he => (List.not_mem_nil he).elim, fun e => Iff.rfl, List.Pairwise.nil⟩⟩, Nat.le_refl _⟩
  have hl := lw_loop (b := b) (xs := xs) hinv hL
  rw [e0, e1, e2] at hl
  exact hl
end LAW
theorem i_vc : Claimed_1_1 ∧ Claimed_1_2 := i_vc_of pure_law
