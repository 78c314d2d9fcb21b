/-! the desk's methods -/
section DESK2
variable {g : Nat → ClassId} {ads : Nat → Nat} {c : Nat → va_E} {tp : List Int32} {ft : Int32} {B : Nat → BS} {K : List (List Int32 × Int32)} {N : Nat} {M : Mem}
def rf (wild : Bool) (tp : List Int32) : Int32 := (rd wild tp 0 [] 0 0).1
def rp (wild : Bool) (tp : List Int32) : List Int64 := (rd wild tp 0 [] 0 0).2
theorem d_take (h : DeskC g ads c tp ft B K) (hR : Rep N ads c M) (hN : 190 ≤ N) (ht : okT tp) {wild : Bool} {P : Int32 → Mem → Prop} (hP : ∀ c' M', Rep N ads c' M' → DeskC g ads c' [] (rf wild tp) B K → TextL g ads c' 4 tp (rp wild tp) → Fr c c' → P (bI (decide (rf wild tp = -1))) M') : wp_Desk_takeTape g M (ads 0) (bI wild) P := by
  obtain ⟨ss0, ps0, h4⟩ := h.2.2.1
  refine ⟨_, d_1 h hR hN, _, d_0 h hR hN, h4.O hR (by omega), l_copy hR (by omega) (by omega) (by omega) h4 h.2.1 ht.1 (by simp) (fun x hx => (ht.2 x hx).byte) (fun c1 M1 hR1 hT1 => ?_)⟩
  have h1 := desk_4 h hT1
  refine ⟨_, d_0 h1 hR1 hN, h1.2.1.O hR1 (by omega), l_clear hR1 (by omega) h1.2.1 (fun c2 M2 hR2 hT2 => ?_)⟩
  have h2 := desk_1 h1 hT2
  have t2 : TextL g ads c2 4 tp [] := hT2.other hT1.1 (by omega)
  refine ⟨_, d_1 h2 hR2 hN, t2.O hR2 (by omega), t_read hR2 (by omega) t2 ht.1 (fun c3 M3 hR3 hT3 => ?_)⟩
  have h3 := desk_4 h2 hT3
  have h4' := desk_f h3 (rf wild tp)
  have hR4 := hR3.up (i := 0) (by omega) (.inr (0, [.ref (ads 1), .ref (ads 4), .ref (ads 7), .ref (ads 104), .ref (ads 186), .int (rf wild tp)]))
  have hfin := hP _ _ hR4 h4' (hT3.1.same (up_ne (by omega)) (up_ne (by omega)) (up_ne (by omega))) (((hT1.fr (by omega)).trans (hT2.fr (by omega))).trans ((hT3.fr (by omega)).trans (fun j hj => up_ne (by omega))))
  refine ⟨_, hR3.wV (by omega) h3.1 (Nat.le_of_ble_eq_true rfl), _, d_5 h4' hR4 hN, fun z => ⟨isB_1, ?_⟩, fun z => ⟨isB_0, ?_⟩⟩
  · rw [decide_eq_true z] at hfin; exact hfin
  · rw [decide_eq_false z] at hfin; exact hfin
theorem d_fault (h : DeskC g ads c tp ft B K) (hR : Rep N ads c M) (hN : 190 ≤ N) {P : Int32 → Prop} (hP : P ft) : wp_Desk_fault g M (ads 0) P := ⟨_, d_5 h hR hN, hP⟩
theorem bI_t {b : Bool} (h : ¬ bI b = 0) : b = true := by cases b; exact absurd rfl h; rfl
theorem bnd_up (h : DeskC g ads c tp ft B K) {i : Nat} (hi : i < 24) (q r : Int32) : DeskC g ads (va_up c (8 + 4 * i) (.inr (2, [.ref (ads (9 + 4 * i)), .int q, .int r]))) tp ft (va_up B i (q, r, (B i).2.2)) K :=
  desk_b hi h ⟨up_self, (h.2.2.2.2.1 i hi).2.same (up_ne (by omega)) (up_ne (by omega)) (up_ne (by omega))⟩ (fun j hj => up_ne (by omega))
theorem d_free (h : DeskC g ads c tp ft B K) (hR : Rep N ads c M) (hN : 190 ≤ N) {x : Int32} {P : Int32 → Mem → Prop} (hP1 : ∀ k, k < 24 → x = nI k → (B k).1 ≠ -1 → ∀ c' M', Rep N ads c' M' → DeskC g ads c' tp ft (va_up B k (-1, (B k).2)) K → Fr c c' → P 1 M') (hP0 : (∀ k, k < 24 → x = nI k → (B k).1 = -1) → P 0 M) : wp_Desk_free g M (ads 0) x P := by
  refine ⟨d_O h hR hN, d_boundAt h hR hN (fun k hk e hb => ⟨fun z => (by cases z), fun a ha => ?_⟩) (fun hn => ⟨fun _ => ⟨isB_0, hP0 hn⟩, fun a ha => (by cases ha)⟩)⟩
  cases ha
  exact ⟨d_b h hR hN hk, _, hR.wV (by omega) (h.2.2.2.2.1 k hk).1 (Nat.le_of_ble_eq_true rfl), isB_1, hP1 k hk e hb _ _ (hR.up (by omega) _) (bnd_up h hk (-1) (B k).2.1) (fun j hj => up_ne (by omega))⟩
theorem d_sign (h : DeskC g ads c tp ft B K) (hR : Rep N ads c M) (hN : 190 ≤ N) (hB : ∀ i, i < 24 → okT (B i).2.2) {x y : Int32} {P : Int32 → Prop} (hP1 : ∀ k j, k < 24 → x = nI k → (B k).1 ≠ -1 → j < (B k).2.2.length → y = nI j → P ((B k).2.2.getD j 0)) (hP0 : ((∀ k, k < 24 → x = nI k → (B k).1 = -1) ∨ ∃ k, k < 24 ∧ x = nI k ∧ (B k).1 ≠ -1 ∧ (y < 0 ∨ nI (B k).2.2.length ≤ y)) → P (-1)) : wp_Desk_sign g M (ads 0) x y P := by
  refine ⟨d_O h hR hN, d_boundAt h hR hN (fun k hk e hb => ⟨fun z => (by cases z), fun a ha => ?_⟩) (fun hn => ⟨fun _ => hP0 (Or.inl hn), fun a ha => (by cases ha)⟩)⟩
  cases ha
  have hl := (hB k hk).1
  have ht := (h.2.2.2.2.1 k hk).2
  refine ⟨d_b h hR hN hk, _, d_p h hR hN hk, ht.O hR (by omega), ?_⟩
  rcases pk_ix y (n := (B k).2.2.length) (by omega) with z | z | ⟨j, hj, rfl⟩
  · exact l_signOut hR (by omega) ht hl (Or.inl z) (hP0 (Or.inr ⟨k, hk, e, hb, Or.inl z⟩))
  · exact l_signOut hR (by omega) ht hl (Or.inr z) (hP0 (Or.inr ⟨k, hk, e, hb, Or.inr z⟩))
  · exact l_signAt hR (by omega) ht hl hj (hP1 k j hk e hb hj rfl)
def abv (b : BS) (K : List (List Int32 × Int32)) (y : Int32) : Int32 :=
  if y = 0 then b.1 else if y = 1 then b.2.1 else if y = 2 then nI (K.filter (fitK (pP b.2.2))).length else if y = 3 then nI b.2.2.length else -1
theorem d_about (h : DeskC g ads c tp ft B K) (hR : Rep N ads c M) (hN : 190 ≤ N) {x y : Int32} {P : Int32 → Prop} (hP1 : ∀ k, k < 24 → x = nI k → (B k).1 ≠ -1 → P (abv (B k) K y)) (hP0 : (∀ k, k < 24 → x = nI k → (B k).1 = -1) → P (-1)) : wp_Desk_about g M (ads 0) x y P := by
  refine ⟨d_O h hR hN, d_boundAt h hR hN (fun k hk e hb => ⟨fun z => (by cases z), fun a ha => ?_⟩) (fun hn => ⟨fun _ => hP0 hn, fun a ha => (by cases ha)⟩)⟩
  cases ha
  have hP := hP1 k hk e hb
  unfold abv at hP
  have ht := (h.2.2.2.2.1 k hk).2
  obtain ⟨π, hS⟩ := h.2.2.2.2.2.1
  refine ⟨fun z => ⟨d_b h hR hN hk, _, d_q h hR hN hk, ?_⟩, fun z => ⟨fun z1 => ⟨d_b h hR hN hk, _, d_r h hR hN hk, ?_⟩, fun z1 => ⟨fun z2 => ⟨_, d_3 h hR hN, d_b h hR hN hk, _, d_p h hR hN hk, hS.O hR (by omega), sh_count hS hR (by omega) (by omega) ht (pP_len _) ?_⟩, fun z2 => ⟨fun z3 => ⟨d_b h hR hN hk, _, d_p h hR hN hk, ht.O hR (by omega), l_length hR (by omega) ht ?_⟩, fun z3 => ?_⟩⟩⟩⟩
  · rw [if_pos z] at hP; exact hP
  · rw [if_neg z, if_pos z1] at hP; exact hP
  · rw [if_neg z, if_neg z1, if_pos z2] at hP; exact hP
  · rw [if_neg z, if_neg z1, if_neg z2, if_pos z3] at hP; exact hP
  · rw [if_neg z, if_neg z1, if_neg z2, if_neg z3] at hP; exact hP
theorem d_kept (h : DeskC g ads c tp ft B K) (hR : Rep N ads c M) (hN : 190 ≤ N) {x y : Int32} {P : Int32 → Mem → Prop} {PT : Nat → Mem → Prop} (hP1 : ∀ k n e, k < 24 → x = nI k → (B k).1 ≠ -1 → y = nI n → (K.filter (fitK (pP (B k).2.2)))[n]? = some e → P e.2 M) (hP0 : ((∀ k, k < 24 → x = nI k → (B k).1 = -1) ∨ ∃ k, k < 24 ∧ x = nI k ∧ (B k).1 ≠ -1 ∧ ∀ n, n < (K.filter (fitK (pP (B k).2.2))).length → y ≠ nI n) → PT 3 M) : wp_Desk_kept g M (ads 0) x y P PT := by
  refine ⟨d_O h hR hN, d_boundAt h hR hN (fun k hk e hb => ⟨fun z => (by cases z), fun a ha => ?_⟩) (fun hn => ⟨fun _ => ⟨fun _ => hP0 (Or.inl hn), fun a ha => (by cases ha)⟩, fun a ha => (by cases ha)⟩)⟩
  cases ha
  have ht := (h.2.2.2.2.1 k hk).2
  obtain ⟨π, hS⟩ := h.2.2.2.2.2.1
  refine ⟨_, d_3 h hR hN, d_b h hR hN hk, _, d_p h hR hN hk, hS.O hR (by omega), sh_taken hS hR (by omega) (by omega) ht (pP_len _) (fun n ev t e1 e2 ht20 hkt => ⟨fun z => (by cases z), fun a ha => ?_⟩) (fun hno => ⟨fun _ => hP0 (Or.inr ⟨k, hk, e, hb, hno⟩), fun a ha => (by cases ha)⟩)⟩
  cases ha
  exact ⟨hR.O (by omega) hkt.1, _, hR.I (by omega) hkt.1 rfl, hP1 k n ev hk e hb e1 e2⟩
theorem d_few (h : DeskC g ads c tp ft B K) (hR : Rep N ads c M) (hN : 190 ≤ N) {x y : Int32} {fl : Bool} {P : Int32 → Mem → Prop} (hP1 : ∀ k j, k < 24 → j < 24 → x = nI k → y = nI j → (B k).1 ≠ -1 → (B j).1 ≠ -1 → fw (pP (B k).2.2) (pP (B j).2.2) fl < 2 ^ 31 → ∀ c' M', Rep N ads c' M' → DeskC g ads c' tp ft B K → Fr c c' → P (nI (fw (pP (B k).2.2) (pP (B j).2.2) fl)) M') (hP0 : ((∀ k, k < 24 → x = nI k → (B k).1 = -1) ∨ ∀ k, k < 24 → y = nI k → (B k).1 = -1) → P (-1) M) : wp_Desk_fewestWords g M (ads 0) x y (bI fl) P := by
  refine ⟨d_O h hR hN, d_boundAt h hR hN (fun k hk e hb => ⟨d_O h hR hN, d_boundAt h hR hN (fun j hj e2 hb2 => ⟨fun z => (by cases z), fun a ha => ⟨fun z => (by cases z), fun a2 ha2 => ?_⟩⟩) (fun hn => ⟨fun z => (by cases z), fun a ha => ⟨fun _ => hP0 (Or.inr hn), fun a2 ha2 => (by cases ha2)⟩⟩)⟩) (fun hn => ⟨d_O h hR hN, d_boundAt h hR hN (fun j hj e2 hb2 => ⟨fun _ => hP0 (Or.inl hn), fun a ha => (by cases ha)⟩) (fun hn2 => ⟨fun _ => hP0 (Or.inl hn), fun a ha => (by cases ha)⟩)⟩)⟩
  cases ha
  cases ha2
  obtain ⟨q, n, wt, sn, wd, h6⟩ := h.2.2.2.2.2.2
  have hR' := hR
  rw [h6] at hR'
  refine ⟨_, d_4 h hR hN, d_b h hR hN hk, _, d_p h hR hN hk, d_b h hR hN hj, _, d_p h hR hN hj, rs_O hR' hN, r_fewest hR' hN (by omega) (h.2.2.2.2.1 k hk).2 (pP_len _) (by omega) (h.2.2.2.2.1 j hj).2 (pP_len _) (fun q' n' wt' sn' wd' M' hR2 hlt => hP1 k j hk hj e e2 hb hb2 hlt _ M' hR2 (desk_r h) (fun j hj => rs_ne (by omega)))⟩
end DESK2
