section MS
variable {N : Nat} {ads : Nat → Nat} {g : Nat → ClassId} {c0 : Nat → va_E} {s : Nat → Int32} {A : Nat → Nat → Int32} {L : Nat → Nat → Int64} {M : Mem} {tp : List Int32} {ft : Int32} {B : Nat → BS} {Km : List (List Int32 × Int32)} {r : Nat}
theorem m_two (h : MR N ads g c0 s A L M) (hN : 208 ≤ N) (hI : MI s A L tp ft B Km r) (hr : r + 1 < 2 ^ 31) {x y : Int32} {fl : Bool} {P : Int32 → Mem → Prop} (hP1 : ∀ k j, k < 24 → j < 24 → x = nI k → y = nI j → (B k).1 ≠ -1 → (B j).1 ≠ -1 → ∀ s' A' L' M', MR N ads g c0 s' A' L' M' → MI s' A' L' tp ft B Km (r + 1) → P (nI (fw (pP (B k).2.2) (pP (B j).2.2) fl)) M') (hP0 : ((∀ k, k < 24 → x = nI k → (B k).1 = -1) ∨ ∀ k, k < 24 → y = nI k → (B k).1 = -1) → ∀ s' A' L' M', MR N ads g c0 s' A' L' M' → MI s' A' L' tp ft B Km r → P (-1) M') : ∃ M1 : Mem, pV M 6 (ads 190) 0 (.int (0 : Int32)) = some M1 ∧ (isO M1 6 (ads 190) ∧ (wp_Mod_isBound g M1 (ads 190) x (fun v2 : Int32 => (v2 = 0 → P (-1) M1) ∧ (¬ v2 = 0 → (isO M1 6 (ads 190) ∧ (wp_Mod_isBound g M1 (ads 190) y (fun v5 : Int32 => (v5 = 0 → P (-1) M1) ∧ (¬ v5 = 0 → (isO M1 6 (ads 190) ∧ (wp_Mod_fewest g M1 (ads 190) x y (bI fl) P)))))))))) := by
  obtain ⟨M1, e1, h1⟩ := mr_w h hN (k := 0) 0 rfl (by omega)
  have hI1 := hI.thr 0
  refine ⟨M1, e1, mr_O h1 hN, m_isBound h1 hN hI1.q (fun k hk e hb => ⟨fun w => absurd w (by decide), fun _ => ⟨mr_O h1 hN, m_isBound h1 hN hI1.q (fun j hj e2 hb2 => ⟨fun w => absurd w (by decide), fun _ => ⟨mr_O h1 hN, ?_⟩⟩) (fun hn => ⟨fun _ => hP0 (Or.inr hn) _ _ _ M1 h1 hI1, fun w => absurd rfl w⟩)⟩⟩) (fun hn => ⟨fun _ => hP0 (Or.inl hn) _ _ _ M1 h1 hI1, fun w => absurd rfl w⟩)⟩
  subst e
  subst e2
  exact m_fewest h1 hN hI1 hr hk hj (fun _ s' A' L' M' a _ b => hP1 k j hk hj rfl rfl hb hb2 s' A' L' M' a b)
theorem m_spare (h : MR N ads g c0 s A L M) (hN : 208 ≤ N) (hI : MI s A L tp ft B Km r) (hr : r + 1200 < 2 ^ 31) {q : Int32} {P : Int32 → Mem → Prop} (hP : 0 ≤ q → ∀ s' A' L' M' r', MR N ads g c0 s' A' L' M' → r' ≤ r + 1200 → MI s' A' L' tp ft B Km r' → P (spQ B q 24) M') (hP0 : ¬ 0 ≤ q → ∀ s' A' L' M', MR N ads g c0 s' A' L' M' → MI s' A' L' tp ft B Km r → P 0 M') : wp_Mod_spare g M (ads 190) q P := by
  obtain ⟨M1, e1, h1⟩ := mr_w h hN (k := 0) 0 rfl (by omega)
  have hI1 := hI.thr 0
  refine ⟨M1, e1, fun hq => ?_, fun hq => hP0 hq _ _ _ M1 h1 hI1⟩
  refine ⟨fun x2 x3 M' => ∃ (i : Nat) (s' : Nat → Int32) (A' : Nat → Nat → Int32) (L' : Nat → Nat → Int64) (r' : Nat), x3 = nI i ∧ i ≤ 24 ∧ x2 = spQ B q i ∧ MR N ads g c0 s' A' L' M' ∧ r' ≤ r + 48 * i ∧ MI s' A' L' tp ft B Km r', fun _ x _ => 24 - x.toNatClampNeg, ⟨0, _, _, _, r, rfl, Nat.zero_le _, rfl, h1, by omega, hI1⟩, ?_⟩
  rintro _ _ M2 ⟨i, s2, A2, L2, r2, rfl, hi, rfl, h2, hr2, hI2⟩
  refine ⟨fun z => ?_, fun z => ?_⟩
  · have e : i = 24 := Nat.le_antisymm hi ((nI_leI (a := 24) (by omega) (by omega)).mp z)
    subst e
    exact hP hq _ _ _ M2 r2 h2 (by omega) hI2
  have hlt : i < 24 := Nat.not_le.mp fun w => z (nI_le (a := 24) w (by omega))
  have exit : ∀ {s' : Nat → Int32} {A' : Nat → Nat → Int32} {L' : Nat → Nat → Int64} {M' : Mem} {r' : Nat} (b : Bool), MR N ads g c0 s' A' L' M' → r' ≤ r + 48 * (i + 1) → MI s' A' L' tp ft B Km r' → cI ((B i).1 = q ∧ spX B q i) = b → wp_Mod_spare_b107 g P (fun y2 y3 N' => (∃ (i' : Nat) (s' : Nat → Int32) (A' : Nat → Nat → Int32) (L' : Nat → Nat → Int64) (r' : Nat), y3 = nI i' ∧ i' ≤ 24 ∧ y2 = spQ B q i' ∧ MR N ads g c0 s' A' L' N' ∧ r' ≤ r + 48 * i' ∧ MI s' A' L' tp ft B Km r') ∧ 24 - y3.toNatClampNeg < 24 - (nI i).toNatClampNeg) M' (ads 190) q (spQ B q i) (nI i) (bI b) := fun {s' A' L' M' r'} b a1 a2 a3 a4 => by
    refine ⟨fun w => ⟨⟨i + 1, s', A', L', r', nI_1 i, hlt, ?_, a1, a2, a3⟩, mu_dec hlt (by omega)⟩, fun w => ⟨⟨i + 1, s', A', L', r', nI_1 i, hlt, ?_, a1, a2, a3⟩, mu_dec hlt (by omega)⟩⟩
    · rw [spQ, a4, bI_0.mp w, Int32.or_zero]; rfl
    · rw [spQ, a4, bI_t w]; rfl
  refine ⟨fun x4 x5 M' => ∃ (j : Nat) (b : Bool) (s' : Nat → Int32) (A' : Nat → Nat → Int32) (L' : Nat → Nat → Int64) (r' : Nat), x5 = nI j ∧ j ≤ 24 ∧ x4 = bI b ∧ MR N ads g c0 s' A' L' M' ∧ r' ≤ r + 48 * i + 2 * j ∧ MI s' A' L' tp ft B Km r' ∧ (b = true → (B i).1 = q ∧ spX B q i) ∧ (b = false → ∀ k, k < j → ¬ spP B q i k), fun _ x _ => 24 - x.toNatClampNeg, ⟨0, false, s2, A2, L2, r2, rfl, Nat.zero_le _, rfl, h2, by omega, hI2, fun w => (by cases w), fun _ k hk => absurd hk (Nat.not_lt_zero _)⟩, ?_⟩
  rintro _ _ M3 ⟨j, b, s3, A3, L3, r3, rfl, hj, rfl, h3, hr3, hI3, hbt, hbf⟩
  refine ⟨fun w => ?_, fun w => ?_⟩
  · have e : j = 24 := Nat.le_antisymm hj ((nI_leI (a := 24) (by omega) (by omega)).mp w)
    subst e
    refine exit b h3 (by omega) hI3 ?_
    cases hb : b
    · exact cI_f.mpr (fun y => by obtain ⟨k, hk, hs⟩ := y.2; exact hbf hb k hk hs)
    · exact cI_t.mpr (hbt hb)
  have hjl : j < 24 := Nat.not_le.mp fun v => w (nI_le (a := 24) v (by omega))
  refine ⟨_, mr_r h3 hN rfl, _, mr_gI h3 hN (p := 194) (n := 24) (by decide) hlt, ?_⟩
  rw [hI3.q i hlt]
  refine ⟨fun hiq => ⟨fun hx4 => ?_, fun hx4 => exit b h3 (by omega) hI3 ?_⟩, fun hiq => exit b h3 (by omega) hI3 ?_⟩
  · have hb := bI_0.mp hx4
    have no : ∀ {s' : Nat → Int32} {A' : Nat → Nat → Int32} {L' : Nat → Nat → Int64} {M' : Mem} {r' : Nat}, MR N ads g c0 s' A' L' M' → r' ≤ r + 48 * i + 2 * (j + 1) → MI s' A' L' tp ft B Km r' → ¬ spP B q i j → (∃ (j' : Nat) (b : Bool) (s' : Nat → Int32) (A' : Nat → Nat → Int32) (L' : Nat → Nat → Int64) (r' : Nat), nI j + 1 = nI j' ∧ j' ≤ 24 ∧ (0 : Int32) = bI b ∧ MR N ads g c0 s' A' L' M' ∧ r' ≤ r + 48 * i + 2 * j' ∧ MI s' A' L' tp ft B Km r' ∧ (b = true → (B i).1 = q ∧ spX B q i) ∧ (b = false → ∀ k, k < j' → ¬ spP B q i k)) ∧ 24 - (nI j + 1).toNatClampNeg < 24 - (nI j).toNatClampNeg := fun {s' A' L' M' r'} a1 a2 a3 a4 =>
      ⟨⟨j + 1, false, s', A', L', r', nI_1 j, hjl, rfl, a1, a2, a3, fun v => (by cases v), fun _ k hk => if hkj : k = j then hkj ▸ a4 else hbf hb k (by omega)⟩, mu_dec hjl (by omega)⟩
    have yes : ∀ {s' : Nat → Int32} {A' : Nat → Nat → Int32} {L' : Nat → Nat → Int64} {M' : Mem} {r' : Nat}, MR N ads g c0 s' A' L' M' → r' ≤ r + 48 * i + 2 * (j + 1) → MI s' A' L' tp ft B Km r' → spP B q i j → (∃ (j' : Nat) (b : Bool) (s' : Nat → Int32) (A' : Nat → Nat → Int32) (L' : Nat → Nat → Int64) (r' : Nat), nI j + 1 = nI j' ∧ j' ≤ 24 ∧ (1 : Int32) = bI b ∧ MR N ads g c0 s' A' L' M' ∧ r' ≤ r + 48 * i + 2 * j' ∧ MI s' A' L' tp ft B Km r' ∧ (b = true → (B i).1 = q ∧ spX B q i) ∧ (b = false → ∀ k, k < j' → ¬ spP B q i k)) ∧ 24 - (nI j + 1).toNatClampNeg < 24 - (nI j).toNatClampNeg := fun {s' A' L' M' r'} a1 a2 a3 a4 =>
      ⟨⟨j + 1, true, s', A', L', r', nI_1 j, hjl, rfl, a1, a2, a3, fun _ => ⟨hiq, j, hjl, a4⟩, fun v => (by cases v)⟩, mu_dec hjl (by omega)⟩
    refine ⟨fun v => no h3 (by omega) hI3 (fun sp => sp.1 ((nI_eq (by omega) (by omega)).mp v)), fun v => ⟨_, mr_r h3 hN rfl, _, mr_gI h3 hN (p := 194) (n := 24) (by decide) hjl, ?_⟩⟩
    rw [hI3.q j hjl]
    have hne : j ≠ i := fun e => v (by rw [e])
    refine ⟨fun hjq => ⟨mr_O h3 hN, ?_⟩, fun hjq => no h3 (by omega) hI3 (fun sp => hjq sp.2.1)⟩
    refine m_fewest (fl := false) h3 hN hI3 (by omega) hlt hjl (fun hf s4 A4 L4 M4 h4 _ hI4 => ⟨fun u => ?_, fun u => no h4 (by omega) hI4 (fun sp => u ?_)⟩)
    · have hw : win B i j := (nI_eq (b := 0) hf (by omega)).mp u
      refine ⟨fun t => yes h4 (by omega) hI4 ⟨hne, hjq, hw, Or.inl ((nI_ltI (by omega) (by omega)).mp t)⟩, fun t => ⟨mr_O h4 hN, ?_⟩⟩
      refine m_fewest (fl := false) h4 hN hI4 (by omega) hjl hlt (fun hf2 s5 A5 L5 M5 h5 _ hI5 => ⟨fun p => no h5 (by omega) hI5 (fun sp => ?_), fun p => yes h5 (by omega) hI5 ⟨hne, hjq, hw, Or.inr (fun hw2 => p ?_)⟩⟩)
      · have h0 := (nI_leI (b := 0) hf2 (by omega)).mp p
        rcases sp.2.2.2 with a | a
        · exact t (nI_lt a (by omega))
        · exact a (by unfold win; omega)
      · unfold win at hw2; rw [hw2]; exact Int32.le_refl _
    · have := sp.2.2.1
      unfold win at this
      rw [this]; rfl
  · rw [bI_t hx4]; exact cI_t.mpr (hbt (bI_t hx4))
  · cases hb : b
    · exact cI_f.mpr (fun y => hiq y.1)
    · exact absurd (hbt hb).1 hiq
end MS
