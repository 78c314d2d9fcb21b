/-! what the reference's cells hold -/
def BndM (A : Nat → Nat → Int32) (L : Nat → Nat → Int64) (i : Nat) (b : BS) : Prop :=
  A 194 i = b.1 ∧ A 195 i = b.2.1 ∧ PatM A L i (pP b.2.2) ∧ A 199 i = nI b.2.2.length ∧ b.2.2.length ≤ 41 ∧ ∀ k, k < b.2.2.length → A 198 (41 * i + k) = b.2.2.getD k 0
def KtM (A : Nat → Nat → Int32) (L : Nat → Nat → Int64) (j : Nat) (e : List Int32 × Int32) : Prop :=
  A 200 j = e.2 ∧ A 202 j = nI (pT e.1).length ∧ (∀ k, k < (pT e.1).length → L 201 (6 * j + k) = (pT e.1).getD k 0) ∧ A 204 j = nI e.1.length ∧ e.1.length ≤ 41 ∧ ∀ k, k < e.1.length → A 203 (41 * j + k) = e.1.getD k 0
def MI (s : Nat → Int32) (A : Nat → Nat → Int32) (L : Nat → Nat → Int64) (tp : List Int32) (ft : Int32) (B : Nat → BS) (Km : List (List Int32 × Int32)) (r : Nat) : Prop :=
  s 2 = nI tp.length ∧ (∀ j, j < tp.length → A 191 j = tp.getD j 0) ∧ s 3 = ft ∧ (∀ i, i < 24 → BndM A L i (B i)) ∧ (s 14 = nI Km.length ∧ Km.length ≤ 20 ∧ ∀ (j : Nat) (e : List Int32 × Int32), Km[j]? = some e → KtM A L j e) ∧ s 21 = nI r ∧ ∀ k, k < 16384 → ∃ m, m ≤ r ∧ A 205 k = nI m
section MI
variable {N : Nat} {ads : Nat → Nat} {g : Nat → ClassId} {c0 : Nat → va_E} {s s' : Nat → Int32} {A A' : Nat → Nat → Int32} {L L' : Nat → Nat → Int64} {M : Mem} {tp : List Int32} {ft : Int32} {B : Nat → BS} {Km : List (List Int32 × Int32)} {r : Nat}
theorem BndM.same {i : Nat} {b : BS} (h : BndM A L i b) (hA : ∀ p, p = 194 ∨ p = 195 ∨ p = 197 ∨ p = 198 ∨ p = 199 → A' p = A p) (hL : L' 196 = L 196) : BndM A' L' i b := by
  obtain ⟨h1, h2, ⟨h3, h4, h5, h6⟩, h7, h8, h9⟩ := h
  refine ⟨by rw [hA 194 (by omega)]; exact h1, by rw [hA 195 (by omega)]; exact h2, ⟨h3, h4, by rw [hA 197 (by omega)]; exact h5, by rw [hL]; exact h6⟩, by rw [hA 199 (by omega)]; exact h7, h8, by rw [hA 198 (by omega)]; exact h9⟩
theorem KtM.same {j : Nat} {e : List Int32 × Int32} (h : KtM A L j e) (hA : ∀ p, p = 200 ∨ p = 202 ∨ p = 203 ∨ p = 204 → A' p = A p) (hL : L' 201 = L 201) : KtM A' L' j e := by
  obtain ⟨h1, h2, h3, h4, h5, h6⟩ := h
  refine ⟨by rw [hA 200 (by omega)]; exact h1, by rw [hA 202 (by omega)]; exact h2, by rw [hL]; exact h3, by rw [hA 204 (by omega)]; exact h4, h5, by rw [hA 203 (by omega)]; exact h6⟩
theorem MI.same (h : MI s A L tp ft B Km r) (hs : ∀ k, k = 2 ∨ k = 3 ∨ k = 14 ∨ k = 21 → s' k = s k) (hA : ∀ p, p ≠ 193 → p ≠ 206 → A' p = A p) (hL : ∀ p, p ≠ 192 → L' p = L p) : MI s' A' L' tp ft B Km r := by
  obtain ⟨h1, h2, h3, h4, ⟨h5, h6, h7⟩, h8, h9⟩ := h
  refine ⟨by rw [hs 2 (by omega)]; exact h1, by rw [hA 191 (by omega) (by omega)]; exact h2, by rw [hs 3 (by omega)]; exact h3, fun i hi => (h4 i hi).same (fun p hp => hA p (by omega) (by omega)) (hL 196 (by omega)), ⟨by rw [hs 14 (by omega)]; exact h5, h6, fun j e hj => (h7 j e hj).same (fun p hp => hA p (by omega) (by omega)) (hL 201 (by omega))⟩, by rw [hs 21 (by omega)]; exact h8, by rw [hA 205 (by omega) (by omega)]; exact h9⟩
theorem MI.thr (h : MI s A L tp ft B Km r) (x : Int32) : MI (va_up s 0 x) A L tp ft B Km r := h.same (fun k hk => up_ne (by omega)) (fun _ _ _ => rfl) (fun _ _ => rfl)
theorem MI.read (h : MI s A L tp ft B Km r) {wild : Bool} (hp : RdPost wild tp s A L s' A' L') : MI s' A' L' [] (rf wild tp) B Km r := by
  obtain ⟨h1, h2, h3, h4, ⟨h5, h6, h7⟩, h8, h9⟩ := h
  obtain ⟨p1, p2, p3, p4, p5, -⟩ := hp
  refine ⟨p2, fun j hj => absurd hj (Nat.not_lt_zero _), p3, fun i hi => (h4 i hi).same (fun p hp => p4 p (by omega)) (p5 196 (by omega)), ⟨by rw [p1 14 (by omega) (by omega) (by omega) (by omega)]; exact h5, h6, fun j e hj => (h7 j e hj).same (fun p hp => p4 p (by omega)) (p5 201 (by omega))⟩, by rw [p1 21 (by omega) (by omega) (by omega) (by omega)]; exact h8, by rw [p4 205 (by omega)]; exact h9⟩
theorem m_isBound (h : MR N ads g c0 s A L M) (hN : 208 ≤ N) (hB : ∀ i, i < 24 → A 194 i = (B i).1) {x : Int32} {P : Int32 → Prop} (hS : ∀ k, k < 24 → x = nI k → (B k).1 ≠ -1 → P 1) (h0 : (∀ k, k < 24 → x = nI k → (B k).1 = -1) → P 0) : wp_Mod_isBound g M (ads 190) x P := by
  refine ⟨fun z => ⟨isB_0, fun _ => ⟨isB_0, h0 (fun k hk e => absurd z (by rw [e]; exact nI_pos (by omega)))⟩, fun z => absurd rfl z⟩, fun z => ⟨fun y => ⟨isB_0, fun _ => ⟨isB_0, h0 (fun k hk e => absurd y (by rw [e]; exact nI_ge (b := 24) hk (by omega)))⟩, fun z => absurd rfl z⟩, fun y => ⟨isB_1, fun w => absurd w (by decide), fun _ => ?_⟩⟩⟩
  obtain ⟨k, hk, rfl⟩ := nI_of z
  have hk24 : k < 24 := Nat.not_le.mp fun w => y (nI_le (a := 24) w (by omega))
  refine ⟨_, mr_r h hN rfl, _, mr_gI h hN (p := 194) (n := 24) (by decide) hk24, ?_⟩
  rw [hB k hk24]
  refine ⟨fun w => ⟨isB_0, h0 (fun k2 hk2 e => ?_)⟩, fun w => ⟨isB_1, hS k hk24 rfl w⟩⟩
  have : k = k2 := (nI_eq (by omega) (by omega)).mp e
  subst k2
  exact w
theorem MI.q (h : MI s A L tp ft B Km r) : ∀ i, i < 24 → A 194 i = (B i).1 := fun i hi => (h.2.2.2.1 i hi).1
theorem m_type (h : MR N ads g c0 s A L M) (hN : 208 ≤ N) (hI : MI s A L tp ft B Km r) (ht : tp.length ≤ 60) {w : Int64} {x : Int32} {P : Int32 → Mem → Prop} (hP1 : ∀ m, tyP w x tp m → ∀ s' A' L' M', MR N ads g c0 s' A' L' M' → MI s' A' L' (tp ++ tyL w m) ft B Km r → P 1 M') (hP0 : (∀ m, ¬ tyP w x tp m) → ∀ s' A' L' M', MR N ads g c0 s' A' L' M' → MI s' A' L' tp ft B Km r → P 0 M') : wp_Mod_type g M (ads 190) w x P := by
  obtain ⟨M1, e1, h1⟩ := mr_w h hN (k := 0) 0 rfl (by omega)
  have hI1 := hI.thr 0
  have no : (∀ m, ¬ tyP w x tp m) → isB (0 : Int32) ∧ P 0 M1 := fun hn => ⟨isB_0, hP0 hn _ _ _ M1 h1 hI1⟩
  refine ⟨M1, e1, fun z => no ?_, fun z => ⟨fun z2 => no ?_, fun z2 => ⟨_, mr_s h1 hN rfl, ?_⟩⟩⟩
  · rintro m ⟨rfl, a1, a8, -⟩
    exact nI_nlt (b := 1) a1 (by omega) z
  · rintro m ⟨rfl, a1, a8, -⟩
    exact nI_nlt (a := 8) a8 (by omega) z2
  have h0 : ¬ x < 0 := fun y => z (Int32.lt_trans y (by decide))
  obtain ⟨m, hm, rfl⟩ := nI_of h0
  have hm1 : 1 ≤ m := Nat.not_lt.mp fun y => z (nI_lt (b := 1) y (by omega))
  have hm8 : m ≤ 8 := Nat.not_lt.mp fun y => z2 (nI_lt (a := 8) y (by omega))
  rw [show va_up s 0 0 2 = nI tp.length from hI1.1, nI_add]
  refine ⟨fun y => ?_, fun y => no ?_⟩
  · have h60 : tp.length + m ≤ 60 := (nI_leI (b := 60) (by omega) (by omega)).mp y
    refine ⟨fun x => ∃ j, x = nI j ∧ j ≤ m ∧ ∀ k, k < j → ¬ byt w k < 33 ∧ byt w k ≤ 126, fun x => m - x.toNatClampNeg, ⟨0, rfl, Nat.zero_le _, fun k hk => absurd hk (Nat.not_lt_zero _)⟩, ?_⟩
    rintro _ ⟨j, rfl, hj, hall⟩
    refine ⟨fun q => ?_, fun q => ?_⟩
    · have e : j = m := Nat.le_antisymm hj (Nat.not_lt.mp fun y => absurd q (nI_ge y (by omega)))
      subst e
      have hP := hP1 j ⟨rfl, hm1, hm8, h60, hall⟩
      refine ⟨fun x M' => ∃ (k : Nat) (cur : List Int32) (s' : Nat → Int32) (A' : Nat → Nat → Int32), x = nI k - 1 ∧ k ≤ j ∧ cur ++ tyL w k = tp ++ tyL w j ∧ MR N ads g c0 s' A' L M' ∧ MI s' A' L cur ft B Km r, fun x _ => (x + 1).toNatClampNeg, ⟨j, tp, _, _, rfl, Nat.le_refl _, rfl, h1, hI1⟩, ?_⟩
      rintro _ M2 ⟨k, cur, s2, A2, rfl, hk, hcur, h2, hI2⟩
      cases k with
      | zero =>
        refine ⟨fun _ => ⟨isB_1, hP s2 A2 L M2 h2 ?_⟩, fun y => absurd (by decide) y⟩
        rw [← hcur]
        show MI s2 A2 L (cur ++ []) ft B Km r
        rw [List.append_nil]
        exact hI2
      | succ k =>
        rw [nI_pred]
        have hlen : cur.length + (k + 1) = tp.length + j := by
          have := congrArg List.length hcur
          rw [List.length_append, List.length_append, tyL_len, tyL_len] at this
          exact this
        have hs := hall k (by omega)
        obtain ⟨M3, e3, h3⟩ := mr_wI h2 hN (p := 191) (n := 60) (j := cur.length) (by decide) (by omega) (byt w k)
        obtain ⟨M4, e4, h4⟩ := mr_w h3 hN (k := 2) (nI cur.length + 1) rfl (by omega)
        refine ⟨fun y => absurd y (nI_pos (by omega)), fun _ => ⟨_, mr_r h2 hN rfl, nI cur.length, by rw [← hI2.1]; exact mr_s h2 hN rfl, M3, by rw [by_eq w (by omega)]; exact e3, nI cur.length, by rw [← hI2.1]; exact mr_s h3 hN rfl, M4, e4, ⟨k, cur ++ [byt w k], _, _, ?_, by omega, ?_, h4, ?_⟩, ?_⟩⟩
        · cases k with
          | zero => decide
          | succ k => rw [pk_m1, nI_pred]
        · rw [List.append_assoc]; exact hcur
        · obtain ⟨b1, b2, b3, b4, ⟨b5, b6, b7⟩, b8, b9⟩ := hI2
          refine ⟨by rw [up_self, List.length_append, List.length_singleton, nI_1], fun i hi => ?_, by rw [up_ne (by omega)]; exact b3, fun i hi => (b4 i hi).same (fun p hp => up_ne (by omega)) rfl, ⟨by rw [up_ne (by omega)]; exact b5, b6, fun i e hi => (b7 i e hi).same (fun p hp => up_ne (by omega)) rfl⟩, by rw [up_ne (by omega)]; exact b8, by rw [up_ne (by omega)]; exact b9⟩
          rw [List.length_append, List.length_singleton] at hi
          rw [up_self]
          by_cases hic : i = cur.length
          · subst hic; rw [pk_us, getD_app_eq]
          · rw [pk_un hic, getD_app_lt (by omega)]; exact b2 i (by omega)
        · show (nI k + (-1) + 1).toNatClampNeg < (nI k + 1).toNatClampNeg
          rw [show nI k + (-1) + 1 = nI k by rw [Int32.add_assoc]; exact Int32.add_zero _, nI_1, nI_clamp (by omega), nI_clamp (by omega)]
          omega
    · have hlt : j < m := Nat.not_le.mp fun y => q (nI_le y (by omega))
      rw [by_eq w (by omega)]
      refine ⟨fun a => no ?_, fun a => ⟨fun b => ⟨⟨j + 1, nI_1 j, hlt, fun k hk => ?_⟩, mu_dec hlt (by omega)⟩, fun b => no ?_⟩⟩
      · rintro m' ⟨e, -, h8', -, h5⟩
        have : m = m' := (nI_eq (by omega) (by omega)).mp e
        exact (h5 j (by omega)).1 a
      · by_cases hkj : k = j
        · subst hkj; exact ⟨a, b⟩
        · exact hall k (by omega)
      · rintro m' ⟨e, -, h8', -, h5⟩
        have : m = m' := (nI_eq (by omega) (by omega)).mp e
        exact b (h5 j (by omega)).2
  · rintro m' ⟨e, a1, a8, a60, -⟩
    have : m = m' := (nI_eq (by omega) (by omega)).mp e
    subst this
    exact y (nI_le (b := 60) a60 (by omega))
theorem m_fault (h : MR N ads g c0 s A L M) (hN : 208 ≤ N) (hI : MI s A L tp ft B Km r) {P : Int32 → Mem → Prop} (hP : ∀ s' A' L' M', MR N ads g c0 s' A' L' M' → MI s' A' L' tp ft B Km r → P ft M') : wp_Mod_fault g M (ads 190) P := by
  obtain ⟨M1, e1, h1⟩ := mr_w h hN (k := 0) 0 rfl (by omega)
  exact ⟨M1, e1, ft, by rw [← hI.2.2.1]; exact mr_s h1 hN rfl, hP _ _ _ M1 h1 (hI.thr 0)⟩
theorem m_free (h : MR N ads g c0 s A L M) (hN : 208 ≤ N) (hI : MI s A L tp ft B Km r) {x : Int32} {P : Int32 → Mem → Prop} (hP1 : ∀ k, k < 24 → x = nI k → (B k).1 ≠ -1 → ∀ s' A' L' M', MR N ads g c0 s' A' L' M' → MI s' A' L' tp ft (va_up B k (-1, (B k).2)) Km r → P 1 M') (hP0 : (∀ k, k < 24 → x = nI k → (B k).1 = -1) → ∀ s' A' L' M', MR N ads g c0 s' A' L' M' → MI s' A' L' tp ft B Km r → P 0 M') : wp_Mod_free g M (ads 190) x P := by
  obtain ⟨M1, e1, h1⟩ := mr_w h hN (k := 0) 0 rfl (by omega)
  refine ⟨M1, e1, mr_O h1 hN, m_isBound h1 hN hI.q (fun k hk e hb => ⟨fun z => absurd z (by decide), fun _ => ?_⟩) (fun hn => ⟨fun _ => ⟨isB_0, hP0 hn _ _ _ M1 h1 (hI.thr 0)⟩, fun z => absurd rfl z⟩)⟩
  subst e
  obtain ⟨M2, e2, h2⟩ := mr_wI h1 hN (p := 194) (n := 24) (j := k) (by decide) hk (-1)
  refine ⟨_, mr_r h1 hN rfl, M2, e2, isB_1, hP1 k hk rfl hb _ _ _ M2 h2 ?_⟩
  obtain ⟨b1, b2, b3, b4, ⟨b5, b6, b7⟩, b8, b9⟩ := hI.thr 0
  refine ⟨b1, by rw [up_ne (by omega)]; exact b2, b3, fun i hi => ?_, ⟨b5, b6, fun i e hi => (b7 i e hi).same (fun p hp => up_ne (by omega)) rfl⟩, b8, by rw [up_ne (by omega)]; exact b9⟩
  obtain ⟨d1, d2, ⟨d3, d4, d5, d6⟩, d7, d8, d9⟩ := b4 i hi
  by_cases hik : i = k
  · subst hik
    rw [up_self]
    exact ⟨by rw [up_self, pk_us], by rw [up_ne (by omega)]; exact d2, ⟨d3, d4, by rw [up_ne (by omega)]; exact d5, d6⟩, by rw [up_ne (by omega)]; exact d7, d8, by rw [up_ne (by omega)]; exact d9⟩
  · rw [up_ne hik]
    exact ⟨by rw [up_self, pk_un hik]; exact d1, by rw [up_ne (by omega)]; exact d2, ⟨d3, d4, by rw [up_ne (by omega)]; exact d5, d6⟩, by rw [up_ne (by omega)]; exact d7, d8, by rw [up_ne (by omega)]; exact d9⟩
theorem m_sign (h : MR N ads g c0 s A L M) (hN : 208 ≤ N) (hI : MI s A L tp ft B Km r) {x y : Int32} {P : Int32 → Mem → Prop} (hP1 : ∀ k j, k < 24 → x = nI k → (B k).1 ≠ -1 → j < (B k).2.2.length → y = nI j → ∀ s' A' L' M', MR N ads g c0 s' A' L' M' → MI s' A' L' tp ft B Km r → P ((B k).2.2.getD j 0) M') (hP0 : ((∀ k, k < 24 → x = nI k → (B k).1 = -1) ∨ ∃ k, k < 24 ∧ x = nI k ∧ (B k).1 ≠ -1 ∧ (y < 0 ∨ nI (B k).2.2.length ≤ y)) → ∀ s' A' L' M', MR N ads g c0 s' A' L' M' → MI s' A' L' tp ft B Km r → P (-1) M') : wp_Mod_sign g M (ads 190) x y P := by
  obtain ⟨M1, e1, h1⟩ := mr_w h hN (k := 0) 0 rfl (by omega)
  have hI1 := hI.thr 0
  refine ⟨M1, e1, mr_O h1 hN, m_isBound h1 hN hI.q (fun k hk e hb => ⟨fun z => absurd z (by decide), fun _ => ?_⟩) (fun hn => ⟨fun _ => hP0 (Or.inl hn) _ _ _ M1 h1 hI1, fun z => absurd rfl z⟩)⟩
  subst e
  obtain ⟨d1, d2, d3, d7, d8, d9⟩ := hI.2.2.2.1 k hk
  refine ⟨fun z => hP0 (Or.inr ⟨k, hk, rfl, hb, Or.inl z⟩) _ _ _ M1 h1 hI1, fun z => ⟨_, mr_r h1 hN rfl, _, mr_gI h1 hN (p := 199) (n := 24) (by decide) hk, ?_⟩⟩
  rw [d7]
  refine ⟨fun z2 => hP0 (Or.inr ⟨k, hk, rfl, hb, Or.inr z2⟩) _ _ _ M1 h1 hI1, fun z2 => ⟨_, mr_r h1 hN rfl, ?_⟩⟩
  obtain ⟨j, hj, rfl⟩ := nI_of z
  have hjl : j < (B k).2.2.length := Nat.not_le.mp fun a => z2 (nI_le a (by omega))
  refine ⟨_, by rw [ix41]; exact mr_gI h1 hN (p := 198) (n := 984) (by decide) (by omega), ?_⟩
  show P (A 198 (41 * k + j)) M1
  rw [d9 j hjl]
  exact hP1 k j hk rfl hb hjl rfl _ _ _ M1 h1 hI1
end MI
