/-! the kept topics in both -/
section LAWB
variable {g : Nat → ClassId} {ads : Nat → Nat} {M : Mem} {n : Nat} {q1 q2 : Prop} {x y : Int32} {P : Mem → Prop}
theorem lw_keep (h : LInv g ads M n) (h1 : q1) (hP : ∀ M', LInv g ads M' n → P M') : wp_Law_keep g M (ads 0) x (ads 207) (fun v9 M10 => q1 ∧ (isO M10 6 (ads 190) ∧ (wp_Mod_keep g M10 (ads 190) x (fun v11 M12 => isO M12 6 (ads 190) ∧ (wp_Mod_thrown g M12 (ads 190) (fun v13 : Int32 => (v13 = v9 → ((v9 = 0 → (∃ v17 : Int64, aL M12 (g 1) (ads 207) (0 : Int32) = some v17 ∧ (((lg_cmp v17 v11.toInt64) = 0 → P M12) ∧ (¬ (lg_cmp v17 v11.toInt64) = 0 → (False))))) ∧ (¬ v9 = 0 → P M12))) ∧ (¬ v13 = v9 → (False)))))))) := by
  obtain ⟨c, tp, ft, B, K, Km, r, s, A, L, out, hR, hD, hC, hI, ho, hok, hr⟩ := h
  have hKP := hok.2.2
  refine ⟨d_O hD hR (by omega), d_keep hD hR (by omega) hok.1 (fun e he => (hKP.2.1 e he).1) (fun a1 a2 c1 M1 hR1 hD1 hf => ?_) (fun a1 c1 M1 hR1 hD1 hf => ⟨fun _ => ?_, fun z => absurd rfl z⟩) (fun a1 a2 a3 c1 M1 hR1 hD1 hf => ⟨fun z => absurd z (by decide), fun _ => ⟨fun _ => ?_, fun z => absurd rfl z⟩⟩)⟩
  · refine L_write hR1 hD1 hC hf ho _ (fun c2 out' M2 hM hD2 ho2 hv => ⟨h1, mr_O hM (by omega), m_keep hM (by omega) hI hok.1 hKP.okm (fun k hk b1 b2 s' A' L' M' hM' hs' hI' => ?_) (fun b1 b2 b3 s' A' L' M' hM' hs' hI' => ?_) (fun b1 => absurd a1 b1) (fun b1 b2 b3 => ?_)⟩)
    · have hk2 : KP (insK tp x K) (Km.set k (tp, x)) := hKP.set ⟨hok.1, a1⟩ hk b2
      have hl := hk2.len
      rw [List.length_set] at hl
      exact ⟨mr_O hM' (by omega), _, mr_s hM' (by omega) rfl, fun _ => ⟨fun _ => ⟨_, L_out hM' ho2, fun _ => hP _ (L_end hD2 hM' hI' ho2 ⟨okT_nil, hok.2.1, hk2⟩ hr), fun z => z (by rw [hv, hl]; exact (cmp0 _ _).mpr rfl)⟩, fun z => absurd rfl z⟩, fun z => z hs'⟩
    · have hk2 : KP (insK tp x K) (Km ++ [(tp, x)]) := hKP.put ⟨hok.1, a1⟩ b2
      have hl := hk2.len
      rw [List.length_append, List.length_singleton] at hl
      exact ⟨mr_O hM' (by omega), _, mr_s hM' (by omega) rfl, fun _ => ⟨fun _ => ⟨_, L_out hM' ho2, fun _ => hP _ (L_end hD2 hM' hI' ho2 ⟨okT_nil, hok.2.1, hk2⟩ hr), fun z => z (by rw [hv, hl]; exact (cmp0 _ _).mpr rfl)⟩, fun z => absurd rfl z⟩, fun z => z hs'⟩
    · exfalso
      rcases a2 with z | z
      · obtain ⟨e, he, h2⟩ := hKP.at.mp z
        exact b2 e he h2
      · have := hKP.len; omega
  · have hM := L_ref hR1 hC hf
    have ho1 : c1 207 = outE g out := by rw [hf 207 (by omega)]; exact ho
    exact ⟨h1, mr_O hM (by omega), m_keep hM (by omega) hI hok.1 hKP.okm (fun k hk b1 => absurd b1 a1) (fun b1 => absurd b1 a1) (fun b1 s' A' L' M' hM' hs' hI' => ⟨mr_O hM' (by omega), _, mr_s hM' (by omega) rfl, fun _ => ⟨fun z => absurd z (by decide), fun _ => hP _ (L_end hD1 hM' hI' ho1 hok.nil hr)⟩, fun z => z hs'⟩) (fun b1 => absurd b1 a1)⟩
  · have hM := L_ref hR1 hC hf
    have ho1 : c1 207 = outE g out := by rw [hf 207 (by omega)]; exact ho
    refine ⟨h1, mr_O hM (by omega), m_keep hM (by omega) hI hok.1 hKP.okm (fun k hk b1 b2 => ?_) (fun b1 b2 b3 => ?_) (fun b1 => absurd a1 b1) (fun b1 b2 b3 s' A' L' M' hM' hs' hI' => ⟨mr_O hM' (by omega), _, mr_s hM' (by omega) rfl, fun _ => ⟨fun z => absurd z (by decide), fun _ => hP _ (L_end hD1 hM' hI' ho1 hok.nil hr)⟩, fun z => z hs'⟩)⟩
    · exact absurd (hKP.at.mpr ⟨_, List.getElem_mem hk, b2⟩) (by rw [a2]; decide)
    · exfalso; have := hKP.len; omega
theorem lw_lose (h : LInv g ads M n) (hP : ∀ M', LInv g ads M' n → P M') : wp_Law_lose g M (ads 0) (ads 207) (fun v9 M10 => isO M10 6 (ads 190) ∧ (wp_Mod_lose g M10 (ads 190) (fun v11 M12 => isO M12 6 (ads 190) ∧ (wp_Mod_thrown g M12 (ads 190) (fun v13 : Int32 => (v13 = v9 → ((v9 = 0 → (∃ v17 : Int64, aL M12 (g 1) (ads 207) (0 : Int32) = some v17 ∧ ((v11 = 0 → (((lg_cmp v17 0) = 0 → P M12) ∧ (¬ (lg_cmp v17 0) = 0 → (False)))) ∧ (¬ v11 = 0 → (((lg_cmp v17 1) = 0 → P M12) ∧ (¬ (lg_cmp v17 1) = 0 → (False))))))) ∧ (¬ v9 = 0 → P M12))) ∧ (¬ v13 = v9 → (False))))))) := by
  obtain ⟨c, tp, ft, B, K, Km, r, s, A, L, out, hR, hD, hC, hI, ho, hok, hr⟩ := h
  have hKP := hok.2.2
  refine ⟨d_O hD hR (by omega), d_lose hD hR (by omega) hok.1 (fun e he => (hKP.2.1 e he).1) (fun a1 c1 M1 hR1 hD1 hf => ?_) (fun a1 c1 M1 hR1 hD1 hf => ⟨fun _ => ?_, fun z => absurd rfl z⟩)⟩
  · refine ⟨fun y => ?_, fun y => ?_⟩
    · have hn : ∀ e ∈ Km, e.1 ≠ tp := fun e he z => absurd (hKP.at.mpr ⟨e, he, z⟩) (by rw [bI_0.mp y]; decide)
      refine L_write hR1 hD1 hC hf ho _ (fun c2 out' M2 hM hD2 ho2 hv => ⟨mr_O hM (by omega), m_lose hM (by omega) hI hok.1 hKP.okm (fun k hk b1 b2 => absurd b2 (hn _ (List.getElem_mem hk))) (fun b1 b2 s' A' L' M' hM' hs' hI' => ?_) (fun b1 => absurd a1 b1)⟩)
      rw [hKP.del_none hn] at hD2
      exact ⟨mr_O hM' (by omega), _, mr_s hM' (by omega) rfl, fun _ => ⟨fun _ => ⟨_, L_out hM' ho2, fun _ => ⟨fun _ => hP _ (L_end hD2 hM' hI' ho2 hok.nil hr), fun z => z (by rw [hv]; exact (cmp0 _ _).mpr rfl)⟩, fun z => absurd rfl z⟩, fun z => absurd rfl z⟩, fun z => z hs'⟩
    · refine L_write hR1 hD1 hC hf ho _ (fun c2 out' M2 hM hD2 ho2 hv => ⟨mr_O hM (by omega), m_lose hM (by omega) hI hok.1 hKP.okm (fun k hk b1 b2 s' A' L' M' hM' hs' hI' => ?_) (fun b1 b2 => ?_) (fun b1 => absurd a1 b1)⟩)
      · exact ⟨mr_O hM' (by omega), _, mr_s hM' (by omega) rfl, fun _ => ⟨fun _ => ⟨_, L_out hM' ho2, fun z => absurd z (by decide), fun _ => ⟨fun _ => hP _ (L_end hD2 hM' hI' ho2 ⟨okT_nil, hok.2.1, hKP.cut hk b2⟩ hr), fun z => z (by rw [hv]; exact (cmp0 _ _).mpr rfl)⟩⟩, fun z => absurd rfl z⟩, fun z => z hs'⟩
      · obtain ⟨e, he, h2⟩ := hKP.at.mp (bI_t y)
        exact absurd h2 (b2 e he)
  · have hM := L_ref hR1 hC hf
    have ho1 : c1 207 = outE g out := by rw [hf 207 (by omega)]; exact ho
    exact ⟨mr_O hM (by omega), m_lose hM (by omega) hI hok.1 hKP.okm (fun k hk b1 => absurd b1 a1) (fun b1 => absurd b1 a1) (fun b1 s' A' L' M' hM' hs' hI' => ⟨mr_O hM' (by omega), _, mr_s hM' (by omega) rfl, fun _ => ⟨fun z => absurd z (by decide), fun _ => hP _ (L_end hD1 hM' hI' ho1 hok.nil hr)⟩, fun z => z hs'⟩)⟩
theorem lw_kept (h : LInv g ads M n) (h1 : q1) (h2 : q2) (hP : ∀ M', LInv g ads M' n → P M') : wp_Law_kept g M (ads 0) x y (ads 207) (fun v9 M10 => q1 ∧ (q2 ∧ (isO M10 6 (ads 190) ∧ (wp_Mod_kept g M10 (ads 190) x y (fun v11 M12 => isO M12 6 (ads 190) ∧ (wp_Mod_thrown g M12 (ads 190) (fun v13 : Int32 => (v13 = v9 → ((v9 = 0 → (∃ v17 : Int64, aL M12 (g 1) (ads 207) (0 : Int32) = some v17 ∧ (((lg_cmp v17 v11.toInt64) = 0 → P M12) ∧ (¬ (lg_cmp v17 v11.toInt64) = 0 → (False))))) ∧ (¬ v9 = 0 → P M12))) ∧ (¬ v13 = v9 → (False))))))))) := by
  obtain ⟨c, tp, ft, B, K, Km, r, s, A, L, out, hR, hD, hC, hI, ho, hok, hr⟩ := h
  have hKP := hok.2.2
  have hl20 := hI.2.2.2.2.1.2.1
  have hlen := hKP.len
  have hF : ∀ ps : List Int64, (K.filter (fitK ps)).length ≤ 20 := fun ps => Nat.le_trans (List.length_filter_le _ _) (by omega)
  refine ⟨d_O hD hR (by omega), d_kept hD hR (by omega) (fun k m e hk ek hb em hm => ?_) (fun hno => ⟨fun _ => ?_, fun z => absurd rfl z⟩)⟩
  · have hml := (List.getElem?_eq_some_iff.mp hm).1
    have hm20 := hF (pP (B k).2.2)
    refine L_write hR hD hC Fr.refl ho _ (fun c2 out' M2 hM hD2 ho2 hv => ⟨h1, h2, mr_O hM (by omega), m_kept hM (by omega) hI hKP.hW (fun k' e' hk' ek' hb' he' hf' ey' s' A' L' M' hM' hs' hI' => ?_) (fun hno => ?_)⟩)
    · have z := fix_eq hk hk' ek ek'
      subst z
      obtain ⟨m', hm', ea⟩ := ahd_mem hKP he' hf'
      have hml' := (List.getElem?_eq_some_iff.mp hm').1
      have e2 : m' = m := (nI_eq (by omega) (by omega)).mp (by rw [← ea, ← ey', em])
      subst e2
      have e3 : e = e' := Option.some.inj (hm.symm.trans hm')
      subst e3
      exact ⟨mr_O hM' (by omega), _, mr_s hM' (by omega) rfl, fun _ => ⟨fun _ => ⟨_, L_out hM' ho2, fun _ => hP _ (L_end hD2 hM' hI' ho2 hok hr), fun z => z (by rw [hv]; exact (cmp0 _ _).mpr rfl)⟩, fun z => absurd rfl z⟩, fun z => z hs'⟩
    · exfalso
      rcases hno with a | ⟨k', hk', ek', hb', a⟩
      · exact hb (a k hk ek)
      · have z := fix_eq hk hk' ek ek'
        subst z
        have hmem := List.mem_filter.mp (List.mem_of_getElem? hm)
        exact a e ((hKP.2.2.1 e).mpr hmem.1) hmem.2 (by rw [ahd_idx hKP hm]; exact em)
  · have hM := L_ref hR hC Fr.refl
    refine ⟨h1, h2, mr_O hM (by omega), m_kept hM (by omega) hI hKP.hW (fun k' e' hk' ek' hb' he' hf' ey' => ?_) (fun _ s' A' L' M' hM' hs' hI' => ⟨mr_O hM' (by omega), _, mr_s hM' (by omega) rfl, fun _ => ⟨fun z => absurd z (by decide), fun _ => hP _ (L_end hD hM' hI' ho hok hr)⟩, fun z => z hs'⟩)⟩
    exfalso
    rcases hno with a | ⟨k, hk, ek, hb, a⟩
    · exact hb' (a k' hk' ek')
    · have z := fix_eq hk hk' ek ek'
      subst z
      obtain ⟨m', hm', ea⟩ := ahd_mem hKP he' hf'
      exact a m' (List.getElem?_eq_some_iff.mp hm').1 (by rw [← ea]; exact ey')
end LAWB
