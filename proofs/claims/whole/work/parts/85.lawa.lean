/-! class and reference side by side -/
section LAWA
variable {g : Nat → ClassId} {ads : Nat → Nat} {c c' c1 : Nat → va_E} {tp : List Int32} {ft : Int32} {B : Nat → BS} {K Km : List (List Int32 × Int32)} {M M' : Mem} {s s' : Nat → Int32} {A A' : Nat → Nat → Int32} {L L' : Nat → Nat → Int64} {r n : Nat} {out : Nat → Int64}
theorem DeskC.same (h : DeskC g ads c tp ft B K) (he : ∀ j, j < 190 → c' j = c j) : DeskC g ads c' tp ft B K := by
  obtain ⟨h0, h1, ⟨ss, ps, h2⟩, ⟨T, h3, h3'⟩, h4, ⟨π, h5⟩, h6⟩ := h
  exact ⟨by unfold D0; rw [he 0 (by omega)]; exact h0, h1.same (he _ (by omega)) (he _ (by omega)) (he _ (by omega)), ⟨ss, ps, h2.same (he _ (by omega)) (he _ (by omega)) (he _ (by omega))⟩, ⟨T, by rw [he 7 (by omega)]; exact h3, h3'⟩, fun i hi => (h4 i hi).same (fun j a b => he j (by omega)), ⟨π, h5.same (fun j a b => he j (by omega))⟩, h6.same (fun j a b => he j (by omega))⟩
theorem DeskC.ext {ads' : Nat → Nat} (h : DeskC g ads c tp ft B K) (ha : ∀ j, j < 190 → ads' j = ads j) (he : ∀ j, j < 190 → c' j = c j) : DeskC g ads' c' tp ft B K := by
  obtain ⟨h0, h1, ⟨ss, ps, h2⟩, ⟨T, h3, h3'⟩, h4, ⟨π, h5⟩, ⟨q, m, wt, sn, wd, h6⟩⟩ := h
  refine ⟨?_, h1.ext (fun j hj => ha j (by omega)) (fun j p q => he j (by omega)), ⟨ss, ps, h2.ext (fun j hj => ha j (by omega)) (fun j p q => he j (by omega))⟩, ⟨T, by rw [he 7 (by omega)]; exact h3, fun i hi => by rw [ha _ (by omega)]; exact h3' i hi⟩, fun i hi => (h4 i hi).ext (fun j hj => ha j (by omega)) (fun j a b => he j (by omega)), ⟨π, h5.ext (fun j hj => ha j (by omega)) (fun j a b => he j (by omega))⟩, ⟨q, m, wt, sn, wd, rs_ext (fun _ _ => rfl) ?_ ?_ ?_ ?_⟩⟩
  · unfold D0; rw [he 0 (by omega), ha 1 (by omega), ha 4 (by omega), ha 7 (by omega), ha 104 (by omega), ha 186 (by omega)]; exact h0
  · rw [he _ (by omega), ha 187 (by omega), ha 188 (by omega), ha 189 (by omega), h6, rs_186]
  · rw [he _ (by omega), h6, rs_187]
  · rw [he _ (by omega), h6, rs_188]
  · rw [he _ (by omega), h6, rs_189]
theorem ModC.at (h : ModC g ads c s A L) (he : ∀ j, 190 ≤ j → j < 207 → c' j = c j) : ModC g ads c' s A L :=
  ⟨by rw [he 190 (by omega) (by omega)]; exact h.1, fun e hm => by have := mLI_ok e hm; rw [he _ (by omega) (by omega)]; exact h.2.1 e hm, fun e hm => by have := mLL_ok e hm; rw [he _ (by omega) (by omega)]; exact h.2.2 e hm⟩
def OKS (tp : List Int32) (B : Nat → BS) (K Km : List (List Int32 × Int32)) : Prop := okT tp ∧ (∀ i, i < 24 → okT (B i).2.2 ∧ ((B i).1 = -1 ∨ isQ (B i).1)) ∧ KP K Km
abbrev outE (g : Nat → ClassId) (out : Nat → Int64) : va_E := .inl (g 1, 1, .inr (.inl out))
def LInv (g : Nat → ClassId) (ads : Nat → Nat) (M : Mem) (n : Nat) : Prop := ∃ c tp ft B K Km r s A L out, Rep 208 ads c M ∧ DeskC g ads c tp ft B K ∧ ModC g ads c s A L ∧ MI s A L tp ft B Km r ∧ c 207 = outE g out ∧ OKS tp B K Km ∧ r ≤ n
theorem L_end (hD : DeskC g ads c1 tp ft B K) (hM : MR 208 ads g c1 s' A' L' M') (hI : MI s' A' L' tp ft B Km r) (ho : c1 207 = outE g out) (hok : OKS tp B K Km) (hr : r ≤ n) : LInv g ads M' n := by
  obtain ⟨c2, hR2, hC2, hF⟩ := hM
  exact ⟨c2, tp, ft, B, K, Km, r, s', A', L', out, hR2, hD.same (fun j hj => hF j (Or.inl hj)), hC2, hI, by rw [hF 207 (Or.inr (Nat.le_refl _))]; exact ho, hok, hr⟩
theorem L_ref (hR : Rep 208 ads c1 M') (hC : ModC g ads c s A L) (hf : Fr c c1) : MR 208 ads g c1 s A L M' := ⟨c1, hR, hC.at (fun j hj _ => hf j hj), fun _ _ => rfl⟩
theorem L_out (hM : MR 208 ads g c1 s A L M) (ho : c1 207 = outE g out) : aL M (g 1) (ads 207) 0 = some (out 0) := by
  obtain ⟨c2, hR2, hC2, hF⟩ := hM
  exact hR2.rL (j := 0) (by omega) (by rw [hF 207 (Or.inr (Nat.le_refl _))]; exact ho) (by omega) (by omega)
theorem L_write (hR : Rep 208 ads c1 M) (hD : DeskC g ads c1 tp ft B K) (hC : ModC g ads c s A L) (hf : Fr c c1) (ho : c 207 = outE g out) (v : Int64) {P : Mem → Prop} (hP : ∀ c2 out' M', MR 208 ads g c2 s A L M' → DeskC g ads c2 tp ft B K → c2 207 = outE g out' → out' 0 = v → P M') : ∃ M' : Mem, sL M (g 1) (ads 207) 0 v = some M' ∧ P M' := by
  have ho1 : c1 207 = outE g out := by rw [hf 207 (by omega)]; exact ho
  refine ⟨_, hR.wL (j := 0) (by omega) ho1 (by omega) (by omega) v, hP _ _ _ ⟨_, hR.up (by omega) _, (hC.at (fun j hj _ => hf j hj)).at (fun j hj hl => up_ne (by omega)), fun _ _ => rfl⟩ (hD.same (fun j hj => up_ne (by omega))) up_self pk_uLs⟩
theorem ty_ok {w : Int64} {x : Int32} {m : Nat} (h : okT tp) (hm : tyP w x tp m) : okT (tp ++ tyL w m) := by
  refine ⟨?_, fun y hy => ?_⟩
  · rw [List.length_append, tyL_len]; exact hm.2.2.2.1
  · rcases List.mem_append.mp hy with z | z
    · exact h.2 y z
    · exact tyL_sgn hm.2.2.2.2 y z
theorem ty_uni {w : Int64} {x : Int32} {m m' : Nat} (h : tyP w x tp m) (h' : tyP w x tp m') : m' = m := (nI_eq (by have := h'.2.2.1; omega) (by have := h.2.2.1; omega)).mp (h'.1.symm.trans h.1)
theorem okT_nil : okT [] := ⟨Nat.zero_le _, fun _ h => (List.not_mem_nil h).elim⟩
theorem OKS.nil (h : OKS tp B K Km) : OKS [] B K Km := ⟨okT_nil, h.2⟩
theorem KP.okm (h : KP K Km) : ∀ e ∈ Km, okE e := fun e he => h.2.1 e ((h.2.2.1 e).mp he)
theorem KP.hW (h : KP K Km) : ∀ e ∈ Km, ∀ w ∈ pT e.1, okW w := fun e he => topic_ok (h.okm e he).1.1 (h.okm e he).2
/-! the calls, one by one -/
section
variable {q1 q2 q3 p1 p2 p3 : Prop} {x y : Int32} {P : Mem → Prop}
theorem lw_type {w : Int64} (h : LInv g ads M n) (h1 : q1) (h2 : q2) (h3 : q3) (hP : ∀ M', LInv g ads M' n → P M') : isO M 0 (ads 0) ∧ wp_Desk_type g M (ads 0) w x (fun v M4 => q1 ∧ (q2 ∧ (q3 ∧ (isO M4 6 (ads 190) ∧ wp_Mod_type g M4 (ads 190) w x (fun v5 M6 => (v = v5 → P M6) ∧ (¬ v = v5 → False)))))) := by
  obtain ⟨c, tp, ft, B, K, Km, r, s, A, L, out, hR, hD, hC, hI, ho, hok, hr⟩ := h
  refine ⟨d_O hD hR (by omega), d_type hD hR (by omega) hok.1.1 (fun m hm c1 M1 hR1 hD1 hf => ?_) (fun hno => ?_)⟩
  · have hM := L_ref hR1 hC hf
    refine ⟨h1, h2, h3, mr_O hM (by omega), m_type hM (by omega) hI hok.1.1 (fun m' hm' s' A' L' M' hM' hI' => ⟨fun _ => hP _ ?_, fun z => z rfl⟩) (fun hno => absurd hm (hno m))⟩
    have e := ty_uni hm hm'
    subst e
    exact L_end hD1 hM' hI' (by rw [hf 207 (by omega)]; exact ho) ⟨ty_ok hok.1 hm', hok.2⟩ hr
  · have hM := L_ref hR hC Fr.refl
    exact ⟨h1, h2, h3, mr_O hM (by omega), m_type hM (by omega) hI hok.1.1 (fun m' hm' => absurd hm' (hno m')) (fun _ s' A' L' M' hM' hI' => ⟨fun _ => hP _ (L_end hD hM' hI' ho hok hr), fun z => z rfl⟩)⟩
theorem lw_fault (h : LInv g ads M n) (hP : ∀ M', LInv g ads M' n → P M') : isO M 0 (ads 0) ∧ wp_Desk_fault g M (ads 0) (fun v => isO M 6 (ads 190) ∧ wp_Mod_fault g M (ads 190) (fun v5 M6 => (v = v5 → P M6) ∧ (¬ v = v5 → False))) := by
  obtain ⟨c, tp, ft, B, K, Km, r, s, A, L, out, hR, hD, hC, hI, ho, hok, hr⟩ := h
  have hM := L_ref hR hC Fr.refl
  exact ⟨d_O hD hR (by omega), d_fault hD hR (by omega) ⟨mr_O hM (by omega), m_fault hM (by omega) hI (fun s' A' L' M' hM' hI' => ⟨fun _ => hP _ (L_end hD hM' hI' ho hok hr), fun z => z rfl⟩)⟩⟩
theorem fix_eq {k k' : Nat} (hk : k < 24) (hk' : k' < 24) (e : x = nI k) (e' : x = nI k') : k' = k := (nI_eq (by omega) (by omega)).mp (e'.symm.trans e)
theorem lw_free (h : LInv g ads M n) (h1 : q1) (hP : ∀ M', LInv g ads M' n → P M') : isO M 0 (ads 0) ∧ wp_Desk_free g M (ads 0) x (fun v M4 => q1 ∧ (isO M4 6 (ads 190) ∧ wp_Mod_free g M4 (ads 190) x (fun v5 M6 => (v = v5 → P M6) ∧ (¬ v = v5 → False)))) := by
  obtain ⟨c, tp, ft, B, K, Km, r, s, A, L, out, hR, hD, hC, hI, ho, hok, hr⟩ := h
  refine ⟨d_O hD hR (by omega), d_free hD hR (by omega) (fun k hk e hb c1 M1 hR1 hD1 hf => ?_) (fun hno => ?_)⟩
  · have hM := L_ref hR1 hC hf
    refine ⟨h1, mr_O hM (by omega), m_free hM (by omega) hI (fun k' hk' e' hb' s' A' L' M' hM' hI' => ⟨fun _ => hP _ ?_, fun z => z rfl⟩) (fun hno => absurd (hno k hk e) hb)⟩
    have e2 := fix_eq hk hk' e e'
    subst e2
    refine L_end hD1 hM' hI' (by rw [hf 207 (by omega)]; exact ho) ⟨hok.1, fun i hi => ?_, hok.2.2⟩ hr
    by_cases hik : i = k'
    · subst hik; rw [up_self]; exact ⟨(hok.2.1 i hi).1, Or.inl rfl⟩
    · rw [up_ne hik]; exact hok.2.1 i hi
  · have hM := L_ref hR hC Fr.refl
    exact ⟨h1, mr_O hM (by omega), m_free hM (by omega) hI (fun k' hk' e' hb' => absurd (hno k' hk' e') hb') (fun _ s' A' L' M' hM' hI' => ⟨fun _ => hP _ (L_end hD hM' hI' ho hok hr), fun z => z rfl⟩)⟩
theorem lw_about (h : LInv g ads M n) (h1 : q1) (h2 : q2) (hP : ∀ M', LInv g ads M' n → P M') : isO M 0 (ads 0) ∧ wp_Desk_about g M (ads 0) x y (fun v => q1 ∧ (q2 ∧ (isO M 6 (ads 190) ∧ wp_Mod_about g M (ads 190) x y (fun v5 M6 => (v = v5 → P M6) ∧ (¬ v = v5 → False))))) := by
  obtain ⟨c, tp, ft, B, K, Km, r, s, A, L, out, hR, hD, hC, hI, ho, hok, hr⟩ := h
  have hM := L_ref hR hC Fr.refl
  refine ⟨d_O hD hR (by omega), d_about hD hR (by omega) (fun k hk e hb => ⟨h1, h2, mr_O hM (by omega), m_about hM (by omega) hI hok.2.2.hW (fun k' hk' e' hb' s' A' L' M' hM' hI' => ⟨fun _ => hP _ (L_end hD hM' hI' ho hok hr), fun z => z ?_⟩) (fun hno => absurd (hno k hk e) hb)⟩) (fun hno => ⟨h1, h2, mr_O hM (by omega), m_about hM (by omega) hI hok.2.2.hW (fun k' hk' e' hb' => absurd (hno k' hk' e') hb') (fun _ s' A' L' M' hM' hI' => ⟨fun _ => hP _ (L_end hD hM' hI' ho hok hr), fun z => z rfl⟩)⟩)⟩
  have e2 := fix_eq hk hk' e e'
  subst e2
  unfold abv
  rw [hok.2.2.flen]
theorem lw_sign (h : LInv g ads M n) (h1 : q1) (h2 : q2) (hP : ∀ M', LInv g ads M' n → P M') : isO M 0 (ads 0) ∧ wp_Desk_sign g M (ads 0) x y (fun v => q1 ∧ (q2 ∧ (isO M 6 (ads 190) ∧ wp_Mod_sign g M (ads 190) x y (fun v5 M6 => (v = v5 → P M6) ∧ (¬ v = v5 → False))))) := by
  obtain ⟨c, tp, ft, B, K, Km, r, s, A, L, out, hR, hD, hC, hI, ho, hok, hr⟩ := h
  have hM := L_ref hR hC Fr.refl
  have hcross : ∀ k j, k < 24 → x = nI k → (B k).1 ≠ -1 → j < (B k).2.2.length → y = nI j → ((∀ k, k < 24 → x = nI k → (B k).1 = -1) ∨ ∃ k, k < 24 ∧ x = nI k ∧ (B k).1 ≠ -1 ∧ (y < 0 ∨ nI (B k).2.2.length ≤ y)) → False := fun k j hk e hb hj ej hno => by
    have hl := (hok.2.1 k hk).1.1
    rcases hno with a | ⟨k', hk', e', hb', a⟩
    · exact hb (a k hk e)
    · have e2 := fix_eq hk hk' e e'
      subst e2
      rw [ej] at a
      rcases a with a | a
      · exact nI_pos (by omega) a
      · exact nI_ge hj (by omega) a
  refine ⟨d_O hD hR (by omega), d_sign hD hR (by omega) (fun i hi => (hok.2.1 i hi).1) (fun k j hk e hb hj ej => ⟨h1, h2, mr_O hM (by omega), m_sign hM (by omega) hI (fun k' j' hk' e' hb' hj' ej' s' A' L' M' hM' hI' => ⟨fun _ => hP _ (L_end hD hM' hI' ho hok hr), fun z => z ?_⟩) (fun hno => (hcross k j hk e hb hj ej hno).elim)⟩) (fun hno => ⟨h1, h2, mr_O hM (by omega), m_sign hM (by omega) hI (fun k' j' hk' e' hb' hj' ej' => (hcross k' j' hk' e' hb' hj' ej' hno).elim) (fun _ s' A' L' M' hM' hI' => ⟨fun _ => hP _ (L_end hD hM' hI' ho hok hr), fun z => z rfl⟩)⟩)⟩
  have e2 := fix_eq hk hk' e e'
  subst e2
  have hl := (hok.2.1 k' hk').1.1
  rw [show j = j' from (nI_eq (by omega) (by omega)).mp (ej.symm.trans ej')]
theorem lw_few {fl : Bool} {W : Int32 → Mem → Prop} (h : LInv g ads M n) (hn : n + 1 < 2 ^ 31) (hP : ∀ M', LInv g ads M' (n + 1) → P M') (hW : ∀ v M4, isO M4 6 (ads 190) → (∃ M1 : Mem, pV M4 6 (ads 190) 0 (.int (0 : Int32)) = some M1 ∧ (isO M1 6 (ads 190) ∧ (wp_Mod_isBound g M1 (ads 190) x (fun v2 : Int32 => (v2 = 0 → ((v = -1 → P M1) ∧ (¬ v = -1 → False))) ∧ (¬ v2 = 0 → (isO M1 6 (ads 190) ∧ (wp_Mod_isBound g M1 (ads 190) y (fun v5 : Int32 => (v5 = 0 → ((v = -1 → P M1) ∧ (¬ v = -1 → False))) ∧ (¬ v5 = 0 → (isO M1 6 (ads 190) ∧ (wp_Mod_fewest g M1 (ads 190) x y (bI fl) (fun v5 M6 => (v = v5 → P M6) ∧ (¬ v = v5 → False))))))))))))) → W v M4) : isO M 0 (ads 0) ∧ wp_Desk_fewestWords g M (ads 0) x y (bI fl) W := by
  obtain ⟨c, tp, ft, B, K, Km, r, s, A, L, out, hR, hD, hC, hI, ho, hok, hr⟩ := h
  refine ⟨d_O hD hR (by omega), d_few hD hR (by omega) (fun k j hk hj e1 e2 b1 b2 _ c1 M1 hR1 hD1 hf => ?_) (fun hno => ?_)⟩
  · have hM := L_ref hR1 hC hf
    refine hW _ _ (mr_O hM (by omega)) (m_two (P := fun v5 M6 => (nI (fw (pP (B k).2.2) (pP (B j).2.2) fl) = v5 → P M6) ∧ (¬ nI (fw (pP (B k).2.2) (pP (B j).2.2) fl) = v5 → False)) hM (by omega) hI (by omega) (fun k' j' hk' hj' e1' e2' _ _ s' A' L' M' hM' hI' => ?_) (fun hno => ?_))
    · have z1 := fix_eq hk hk' e1 e1'
      have z2 := fix_eq hj hj' e2 e2'
      subst z1
      subst z2
      exact ⟨fun _ => hP _ (L_end hD1 hM' hI' (by rw [hf 207 (by omega)]; exact ho) hok (by omega)), fun z => z rfl⟩
    · rcases hno with a | a
      · exact absurd (a k hk e1) b1
      · exact absurd (a j hj e2) b2
  · have hM := L_ref hR hC Fr.refl
    refine hW _ _ (mr_O hM (by omega)) (m_two (P := fun v5 M6 => ((-1 : Int32) = v5 → P M6) ∧ (¬ (-1 : Int32) = v5 → False)) hM (by omega) hI (by omega) (fun k' j' hk' hj' e1' e2' b1 b2 => ?_) (fun _ s' A' L' M' hM' hI' => ⟨fun _ => hP _ (L_end hD hM' hI' ho hok (by omega)), fun z => z rfl⟩))
    rcases hno with a | a
    · exact absurd (a k' hk' e1') b1
    · exact absurd (a j' hj' e2') b2
theorem lw_both (h : LInv g ads M n) (hn : n + 1 < 2 ^ 31) (h1 : q1) (h2 : q2) (hP : ∀ M', LInv g ads M' (n + 1) → P M') : isO M 0 (ads 0) ∧ wp_Desk_both g M (ads 0) x y (fun v M4 => q1 ∧ (q2 ∧ (isO M4 6 (ads 190) ∧ wp_Mod_both g M4 (ads 190) x y (fun v5 M6 => (v = v5 → P M6) ∧ (¬ v = v5 → False))))) :=
  have k := lw_few (x := x) (y := y) (fl := true) (W := fun v M4 => q1 ∧ (q2 ∧ (isO M4 6 (ads 190) ∧ wp_Mod_both g M4 (ads 190) x y (fun v5 M6 => (v = v5 → P M6) ∧ (¬ v = v5 → False))))) h hn hP (fun v M4 a b => ⟨h1, h2, a, b⟩)
  ⟨k.1, k.1, k.2⟩
theorem lw_only (h : LInv g ads M n) (hn : n + 1 < 2 ^ 31) (h1 : q1) (h2 : q2) (hP : ∀ M', LInv g ads M' (n + 1) → P M') : isO M 0 (ads 0) ∧ wp_Desk_only g M (ads 0) x y (fun v M4 => q1 ∧ (q2 ∧ (isO M4 6 (ads 190) ∧ wp_Mod_only g M4 (ads 190) x y (fun v5 M6 => (v = v5 → P M6) ∧ (¬ v = v5 → False))))) :=
  have k := lw_few (x := x) (y := y) (fl := false) (W := fun v M4 => q1 ∧ (q2 ∧ (isO M4 6 (ads 190) ∧ wp_Mod_only g M4 (ads 190) x y (fun v5 M6 => (v = v5 → P M6) ∧ (¬ v = v5 → False))))) h hn hP (fun v M4 a b => ⟨h1, h2, a, b⟩)
  ⟨k.1, k.1, k.2⟩
theorem isQ_pos (h : isQ x) : 0 ≤ x := by obtain ⟨k, hk, rfl⟩ := h; exact nI_pos' (by omega)
theorem spQ_none (h : ∀ i, i < 24 → (B i).1 ≠ x) : ∀ m, m ≤ 24 → spQ B x m = 0 := by
  intro m
  induction m with
  | zero => intro _; rfl
  | succ m ih =>
    intro hm
    rw [spQ, cI_f.mpr (fun z => h m (by omega) z.1)]
    exact ih (by omega)
theorem lw_spare (h : LInv g ads M n) (hn : n + 1200 < 2 ^ 31) (h1 : q1) (hP : ∀ M', LInv g ads M' (n + 1200) → P M') : isO M 0 (ads 0) ∧ wp_Desk_spare g M (ads 0) x (fun v M4 => q1 ∧ (isO M4 6 (ads 190) ∧ wp_Mod_spare g M4 (ads 190) x (fun v5 M6 => (v = v5 → P M6) ∧ (¬ v = v5 → False)))) := by
  obtain ⟨c, tp, ft, B, K, Km, r, s, A, L, out, hR, hD, hC, hI, ho, hok, hr⟩ := h
  refine ⟨d_O hD hR (by omega), d_spare hD hR (by omega) (fun hq c1 M1 hR1 hD1 hf => ?_) (fun hq => ?_)⟩
  · have hM := L_ref hR1 hC hf
    exact ⟨h1, mr_O hM (by omega), m_spare hM (by omega) hI (by omega) (fun _ s' A' L' M' r' hM' hr' hI' => ⟨fun _ => hP _ (L_end hD1 hM' hI' (by rw [hf 207 (by omega)]; exact ho) hok (by omega)), fun z => z rfl⟩) (fun z => absurd (isQ_pos hq) z)⟩
  · have hM := L_ref hR hC Fr.refl
    refine ⟨h1, mr_O hM (by omega), m_spare hM (by omega) hI (by omega) (fun h0 s' A' L' M' r' hM' hr' hI' => ?_) (fun _ s' A' L' M' hM' hI' => ⟨fun _ => hP _ (L_end hD hM' hI' ho hok (by omega)), fun z => z rfl⟩)⟩
    have e : spQ B x 24 = 0 := spQ_none (fun i hi z => by
      rcases (hok.2.1 i hi).2 with a | a
      · rw [← z, a] at h0; exact absurd h0 (by decide)
      · exact hq (z ▸ a)) 24 (Nat.le_refl _)
    rw [e]
    exact ⟨fun _ => hP _ (L_end hD hM' hI' ho hok (by omega)), fun z => z rfl⟩
/-! the calls that may be refused -/
theorem lw_bind (h : LInv g ads M n) (h1 : q1) (hP : ∀ M', LInv g ads M' n → P M') : wp_Law_bind g M (ads 0) x (ads 207) (fun v9 M10 => q1 ∧ (isO M10 6 (ads 190) ∧ (wp_Mod_bind g M10 (ads 190) x (fun v11 M12 => isO M12 6 (ads 190) ∧ (wp_Mod_thrown g M12 (ads 190) (fun v13 : Int32 => (v13 = v9 → ((v9 = 0 → (∃ v17 : Int64, aL M12 (g 1) (ads 207) (0 : Int32) = some v17 ∧ (((lg_cmp v17 v11.toInt64) = 0 → P M12) ∧ (¬ (lg_cmp v17 v11.toInt64) = 0 → (False))))) ∧ (¬ v9 = 0 → P M12))) ∧ (¬ v13 = v9 → (False)))))))) := by
  obtain ⟨c, tp, ft, B, K, Km, r, s, A, L, out, hR, hD, hC, hI, ho, hok, hr⟩ := h
  refine ⟨d_O hD hR (by omega), d_bind hD hR (by omega) hok.1 (fun i a1 a2 a3 c1 M1 hR1 hD1 hf => ?_) (fun a1 c1 M1 hR1 hD1 hf => ⟨fun _ => ?_, fun z => absurd rfl z⟩) (fun a1 a2 a3 c1 M1 hR1 hD1 hf => ⟨fun z => absurd z (by decide), fun _ => ⟨fun _ => ?_, fun z => absurd rfl z⟩⟩)⟩
  · refine L_write hR1 hD1 hC hf ho _ (fun c2 out' M2 hM hD2 ho2 hv => ⟨h1, mr_O hM (by omega), m_bind hM (by omega) hI hok.1.1 (fun i' b1 b2 b3 s' A' L' M' hM' hs' hI' => ?_) (fun b1 => ?_) (fun b1 b2 b3 => ?_)⟩)
    · have e : i' = i := by
        rcases Nat.lt_trichotomy i' i with z | z | z
        · exact absurd b3.2.1 (a3.2.2 i' z)
        · exact z
        · exact absurd a3.2.1 (b3.2.2 i z)
      subst e
      refine ⟨mr_O hM' (by omega), _, mr_s hM' (by omega) rfl, fun _ => ⟨fun _ => ⟨_, L_out hM' ho2, fun _ => hP _ ?_, fun z => z (by rw [hv]; exact (cmp0 _ _).mpr rfl)⟩, fun z => absurd rfl z⟩, fun z => z hs'⟩
      refine L_end hD2 hM' hI' ho2 ⟨okT_nil, fun j hj => ?_, hok.2.2⟩ hr
      by_cases hji : j = i'
      · subst hji; rw [up_self]; exact ⟨hok.1, Or.inr a2⟩
      · rw [up_ne hji]; exact hok.2.1 j hj
    · rcases b1 with z | z
      · exact absurd a1 z
      · exact absurd a2 z
    · exact absurd a3.2.1 (b3 i a3.1)
  · have hM := L_ref hR1 hC hf
    have ho1 : c1 207 = outE g out := by rw [hf 207 (by omega)]; exact ho
    refine ⟨h1, mr_O hM (by omega), m_bind hM (by omega) hI hok.1.1 (fun i' b1 b2 b3 => ?_) (fun b1 s' A' L' M' hM' hs' hI' => ⟨mr_O hM' (by omega), _, mr_s hM' (by omega) rfl, fun _ => ⟨fun z => absurd z (by decide), fun _ => hP _ (L_end hD1 hM' hI' ho1 hok.nil hr)⟩, fun z => z hs'⟩) (fun b1 b2 b3 => ?_)⟩
    · rcases a1 with z | z
      · exact absurd b1 z
      · exact absurd b2 z
    · rcases a1 with z | z
      · exact absurd b1 z
      · exact absurd b2 z
  · have hM := L_ref hR1 hC hf
    have ho1 : c1 207 = outE g out := by rw [hf 207 (by omega)]; exact ho
    refine ⟨h1, mr_O hM (by omega), m_bind hM (by omega) hI hok.1.1 (fun i' b1 b2 b3 => absurd b3.2.1 (a3 i' b3.1)) (fun b1 => ?_) (fun b1 b2 b3 s' A' L' M' hM' hs' hI' => ⟨mr_O hM' (by omega), _, mr_s hM' (by omega) rfl, fun _ => ⟨fun z => absurd z (by decide), fun _ => hP _ (L_end hD1 hM' hI' ho1 hok.nil hr)⟩, fun z => z hs'⟩)⟩
    rcases b1 with z | z
    · exact absurd a1 z
    · exact absurd a2 z
theorem rtB_ok {ts : List Int64} (h : ∀ i, i < 24 → okT (B i).2.2 ∧ ((B i).1 = -1 ∨ isQ (B i).1)) : ∀ i, i < 24 → okT (rtB B ts 24 i).2.2 ∧ ((rtB B ts 24 i).1 = -1 ∨ isQ (rtB B ts 24 i).1) := fun i hi => by
  unfold rtB
  by_cases hc : (decide (i < 24) && rtF B ts i) = true
  · rw [if_pos hc]; exact h i hi
  · rw [if_neg hc]; exact h i hi
theorem lw_route (h : LInv g ads M n) (hP : ∀ M', LInv g ads M' n → P M') : wp_Law_route g M (ads 0) (ads 207) (fun v9 M10 => isO M10 6 (ads 190) ∧ (wp_Mod_route g M10 (ads 190) (fun v11 M12 => isO M12 6 (ads 190) ∧ (wp_Mod_thrown g M12 (ads 190) (fun v13 : Int32 => (v13 = v9 → ((v9 = 0 → (∃ v17 : Int64, aL M12 (g 1) (ads 207) (0 : Int32) = some v17 ∧ (((lg_cmp v17 v11.toInt64) = 0 → P M12) ∧ (¬ (lg_cmp v17 v11.toInt64) = 0 → (False))))) ∧ (¬ v9 = 0 → P M12))) ∧ (¬ v13 = v9 → (False))))))) := by
  obtain ⟨c, tp, ft, B, K, Km, r, s, A, L, out, hR, hD, hC, hI, ho, hok, hr⟩ := h
  refine ⟨d_O hD hR (by omega), d_route hD hR (by omega) hok.1 (fun a1 c1 M1 hR1 hD1 hf => ?_) (fun a1 c1 M1 hR1 hD1 hf => ⟨fun _ => ?_, fun z => absurd rfl z⟩)⟩
  · refine L_write hR1 hD1 hC hf ho _ (fun c2 out' M2 hM hD2 ho2 hv => ⟨mr_O hM (by omega), m_route hM (by omega) hI hok.1.1 (fun b1 s' A' L' M' hM' hs' hI' => ?_) (fun b1 => absurd a1 b1)⟩)
    exact ⟨mr_O hM' (by omega), _, mr_s hM' (by omega) rfl, fun _ => ⟨fun _ => ⟨_, L_out hM' ho2, fun _ => hP _ (L_end hD2 hM' hI' ho2 ⟨okT_nil, rtB_ok hok.2.1, hok.2.2⟩ hr), fun z => z (by rw [hv]; exact (cmp0 _ _).mpr rfl)⟩, fun z => absurd rfl z⟩, fun z => z hs'⟩
  · have hM := L_ref hR1 hC hf
    have ho1 : c1 207 = outE g out := by rw [hf 207 (by omega)]; exact ho
    exact ⟨mr_O hM (by omega), m_route hM (by omega) hI hok.1.1 (fun b1 => absurd b1 a1) (fun b1 s' A' L' M' hM' hs' hI' => ⟨mr_O hM' (by omega), _, mr_s hM' (by omega) rfl, fun _ => ⟨fun z => absurd z (by decide), fun _ => hP _ (L_end hD1 hM' hI' ho1 hok.nil hr)⟩, fun z => z hs'⟩)⟩
end
end LAWA
