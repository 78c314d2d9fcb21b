/-! the reference's search -/
theorem cmp_ge (v : Int64) : 0 ≤ lg_cmp v 0 ↔ 0 ≤ v := by
  unfold lg_cmp
  by_cases h1 : v > 0
  · rw [if_pos h1]; exact ⟨fun _ => Int64.le_of_lt h1, fun _ => by decide⟩
  · rw [if_neg h1]
    by_cases h2 : v = 0
    · rw [if_pos h2, h2]; decide
    · rw [if_neg h2]
      refine ⟨fun z => absurd z (by decide), fun z => ?_⟩
      exact absurd (Int64.le_antisymm (Int64.not_lt.mp h1) z) h2
def wdo (p1 p2 : List Int64) (c : Nat) : Int64 :=
  if c = 12 then 0 else if c < 6 then (if c < p1.length then enc (p1.getD c 0) else -1) else (if c - 6 < p2.length then enc (p2.getD (c - 6) 0) else -1)
theorem enc_ge {x : Int64} (h : 0 < x) (h2 : 0 ≤ enc x) : enc x = x ∧ x ≠ 42 ∧ x ≠ 35 := by
  unfold enc at *
  by_cases h1 : x = 35
  · rw [if_pos h1] at h2; exact absurd h2 (by decide)
  · rw [if_neg h1] at h2 ⊢
    by_cases h3 : x = 42
    · rw [if_pos h3] at h2; exact absurd h2 (by decide)
    · rw [if_neg h3]; exact ⟨rfl, h3, h1⟩
theorem wdo_in {p1 p2 : List Int64} (h1 : ∀ x ∈ p1, (0 : Int64) < x) (h2 : ∀ x ∈ p2, (0 : Int64) < x) {c : Nat} (h : 0 ≤ wdo p1 p2 c) : inW p1 p2 (wdo p1 p2 c) := by
  unfold wdo at *
  by_cases hc : c = 12
  · rw [if_pos hc]; exact Or.inl rfl
  · rw [if_neg hc] at h ⊢
    by_cases h6 : c < 6
    · rw [if_pos h6] at h ⊢
      by_cases hl : c < p1.length
      · rw [if_pos hl] at h ⊢
        have hm := List.mem_of_getElem? (getD_some (d := (0 : Int64)) hl)
        obtain ⟨e, e2, e3⟩ := enc_ge (h1 _ hm) h
        rw [e]
        exact Or.inr ⟨Or.inl hm, e2, e3⟩
      · rw [if_neg hl] at h; exact absurd h (by decide)
    · rw [if_neg h6] at h ⊢
      by_cases hl : c - 6 < p2.length
      · rw [if_pos hl] at h ⊢
        have hm := List.mem_of_getElem? (getD_some (d := (0 : Int64)) hl)
        obtain ⟨e, e2, e3⟩ := enc_ge (h2 _ hm) h
        rw [e]
        exact Or.inr ⟨Or.inr hm, e2, e3⟩
      · rw [if_neg hl] at h; exact absurd h (by decide)
theorem getD_of {l : List Int64} {i : Nat} {w : Int64} (h : l[i]? = some w) : i < l.length ∧ l.getD i 0 = w := by
  refine ⟨(List.getElem?_eq_some_iff.mp h).1, ?_⟩
  rw [List.getD_eq_getElem?_getD, h]; rfl
theorem inW_ok {p1 p2 : List Int64} (h1 : ∀ x ∈ p1, (0 : Int64) < x) (h2 : ∀ x ∈ p2, (0 : Int64) < x) {w : Int64} (h : inW p1 p2 w) : okW w := by
  rcases h with h | ⟨h | h, h3, h4⟩
  · subst h; exact ⟨by decide, by decide, by decide⟩
  · exact ⟨Int64.le_of_lt (h1 w h), h4, h3⟩
  · exact ⟨Int64.le_of_lt (h2 w h), h4, h3⟩
theorem in_wdo {p1 p2 : List Int64} (h1 : p1.length ≤ 6) (h2 : p2.length ≤ 6) {w : Int64} (h : inW p1 p2 w) (hw : okW w) : ∃ c, c < 13 ∧ wdo p1 p2 c = w := by
  rcases h with h | ⟨h | h, h3, h4⟩
  · exact ⟨12, by omega, h.symm⟩
  · obtain ⟨i, hi⟩ := List.getElem?_of_mem h
    obtain ⟨hil, hie⟩ := getD_of hi
    refine ⟨i, by omega, ?_⟩
    unfold wdo
    rw [if_neg (by omega), if_pos (by omega), if_pos hil, hie, enc_id hw]
  · obtain ⟨i, hi⟩ := List.getElem?_of_mem h
    obtain ⟨hil, hie⟩ := getD_of hi
    refine ⟨i + 6, by omega, ?_⟩
    unfold wdo
    rw [if_neg (by omega), if_neg (by omega), Nat.add_sub_cancel, if_pos hil, hie, enc_id hw]
section MF
variable {N : Nat} {ads : Nat → Nat} {g : Nat → ClassId} {c0 : Nat → va_E} {s : Nat → Int32} {A : Nat → Nat → Int32} {L : Nat → Nat → Int64} {M : Mem} {tp : List Int32} {ft : Int32} {B : Nat → BS} {Km : List (List Int32 × Int32)} {r i j : Nat} {p1 p2 : List Int64}
theorem PatM.same {A' : Nat → Nat → Int32} (h : PatM A L i p1) (hA : A' 197 = A 197) : PatM A' L i p1 := ⟨h.1, h.2.1, by rw [hA]; exact h.2.2.1, h.2.2.2⟩
theorem m_wordOf (h : MR N ads g c0 s A L M) (hN : 208 ≤ N) (hi : i < 24) (hj : j < 24) (h1 : PatM A L i p1) (h2 : PatM A L j p2) {c : Nat} (hc : c < 13) {P : Int64 → Prop} (hP : P (wdo p1 p2 c)) : wp_Mod_wordOf g M (ads 190) (nI i) (nI j) (nI c) P := by
  have e6 : nI c - nI c / (6 : Int32) * (6 : Int32) = nI (c % 6) := pk_rem (d := 6) (by omega) (by omega) (by omega)
  unfold wdo at hP
  have b19 : ∀ {t : Nat} {ps : List Int64}, t < 24 → PatM A L t ps → P (if c % 6 < ps.length then enc (ps.getD (c % 6) 0) else -1) → wp_Mod_wordOf_b19 g P M (ads 190) (nI c) (nI t) := fun {t ps} ht hp hP => by
    have h6 := hp.1
    unfold wp_Mod_wordOf_b19
    rw [e6]
    refine ⟨_, mr_r h hN rfl, nI ps.length, by rw [← hp.2.2.1]; exact mr_gI h hN (p := 197) (n := 24) (by decide) ht, fun z => ?_, fun z => ?_⟩
    · rw [if_neg (Nat.not_lt.mpr ((nI_leI (by omega) (by omega)).mp z))] at hP; exact hP
    · have hl : c % 6 < ps.length := Nat.not_le.mp fun w => z (nI_le w (by omega))
      rw [if_pos hl] at hP
      refine ⟨_, mr_r h hN rfl, _, by rw [ix6]; exact mr_gL h hN (p := 196) (n := 144) (by decide) (by omega), ?_⟩
      rw [hp.2.2.2 _ hl]; exact hP
  refine ⟨fun z => ?_, fun z => ?_⟩
  · rw [if_pos ((nI_eq (b := 12) (by omega) (by omega)).mp z)] at hP; exact hP
  · have hne : ¬ c = 12 := fun e => z (by rw [e]; rfl)
    rw [if_neg hne] at hP
    refine ⟨fun y => b19 hj h2 ?_, fun y => b19 hi h1 ?_⟩
    · have h6 : 6 ≤ c := (nI_leI (a := 6) (by omega) (by omega)).mp y
      rw [if_neg (by omega), show c - 6 = c % 6 by omega] at hP; exact hP
    · have h6 : c < 6 := Nat.not_le.mp fun w => y (nI_le (a := 6) w (by omega))
      rw [if_pos h6] at hP
      rw [show c % 6 = c by omega]
      exact hP
def QM (Q : List (Nat × Nat)) (A : Nat → Nat → Int32) (r : Nat) : Prop :=
  (∀ (j : Nat) (e : Nat × Nat), Q[j]? = some e → A 206 j = nI e.1 ∧ e.1 < 16384 ∧ e.2 ≤ j) ∧ (∀ st, 128 ≤ st → st < 16384 → (A 205 st = nI (r + 1) ↔ st ∈ Q.tail.map Prod.fst)) ∧ (Q.tail.map Prod.fst).Nodup ∧ (∀ x ∈ Q.tail.map Prod.fst, 128 ≤ x ∧ x < 16384) ∧ Q ≠ [] ∧ ∀ k, k < 16384 → ∃ m, m ≤ r + 1 ∧ A 205 k = nI m
theorem QM.room {Q : List (Nat × Nat)} (h : QM Q A r) {st : Nat} (h1 : 128 ≤ st) (h2 : st < 16384) (hn : st ∉ Q.tail.map Prod.fst) : Q.length < 16384 := by
  have := pigeon 16384 (0 :: st :: Q.tail.map Prod.fst) (List.nodup_cons.mpr ⟨fun hm => ?_, List.nodup_cons.mpr ⟨hn, h.2.2.1⟩⟩) (fun x hx => ?_)
  · rw [List.length_cons, List.length_cons, List.length_map, List.length_tail] at this
    have : 0 < Q.length := List.length_pos_iff.mpr h.2.2.2.2.1
    omega
  · rcases List.mem_cons.mp hm with z | z
    · omega
    · have := (h.2.2.2.1 0 z).1; omega
  · rcases List.mem_cons.mp hx with z | z
    · omega
    · rcases List.mem_cons.mp z with z | z
      · omega
      · exact (h.2.2.2.1 x z).2
theorem QM.len {Q : List (Nat × Nat)} (h : QM Q A r) : Q.length ≤ 16384 := by
  have := pigeon 16384 (0 :: Q.tail.map Prod.fst) (List.nodup_cons.mpr ⟨fun hm => ?_, h.2.2.1⟩) (fun x hx => ?_)
  · rw [List.length_cons, List.length_map, List.length_tail] at this
    have : 0 < Q.length := List.length_pos_iff.mpr h.2.2.2.2.1
    omega
  · have := (h.2.2.2.1 0 hm).1; omega
  · rcases List.mem_cons.mp hx with z | z
    · omega
    · exact (h.2.2.2.1 x z).2
theorem m_fewest (h : MR N ads g c0 s A L M) (hN : 208 ≤ N) (hI : MI s A L tp ft B Km r) (hr : r + 1 < 2 ^ 31) (hi : i < 24) (hj : j < 24) {fl : Bool} {P : Int32 → Mem → Prop} (hP : fw (pP (B i).2.2) (pP (B j).2.2) fl < 2 ^ 31 → ∀ s' A' L' M', MR N ads g c0 s' A' L' M' → s' 0 = s 0 → MI s' A' L' tp ft B Km (r + 1) → P (nI (fw (pP (B i).2.2) (pP (B j).2.2) fl)) M') : wp_Mod_fewest g M (ads 190) (nI i) (nI j) (bI fl) P := by
  obtain ⟨b1, b2, b3, b4, ⟨b5, b6, b7⟩, b8, b9⟩ := hI
  have hp1 := (b4 i hi).2.2.1
  have hp2 := (b4 j hj).2.2.1
  generalize pP (B i).2.2 = p1 at *
  generalize pP (B j).2.2 = p2 at *
  have hk1 := hp1.1
  have hk2 := hp2.1
  obtain ⟨M1, e1, h1⟩ := mr_w h hN (k := 21) (nI r + 1) rfl (by omega)
  have hst1 := sta_lt hk1
  have hst2 := sta_lt hk2
  obtain ⟨M2, e2, h2⟩ := mr_wI h1 hN (p := 206) (n := 16384) (j := 0) (by decide) (by omega) (nI (128 * sta p1 + sta p2))
  refine ⟨nI r, by rw [← b8]; exact mr_s h hN rfl, M1, e1, _, mr_r h1 hN rfl, mr_O h1 hN, m_first h1 hN hi hp1 ⟨mr_O h1 hN, m_first h1 hN hj hp2 ⟨M2, by rw [ix128]; exact e2, ?_⟩⟩⟩
  have frA : ∀ p, p ≠ 205 → p ≠ 206 → va_up A 206 (upd (A 206) 0 (nI (128 * sta p1 + sta p2))) p = A p := fun p _ b => up_ne b
  have end_ : ∀ {A' : Nat → Nat → Int32} {M' : Mem} {v : Nat}, MR N ads g c0 (va_up s 21 (nI r + 1)) A' L M' → (∀ p, p ≠ 205 → p ≠ 206 → A' p = A p) → (∀ k, k < 16384 → ∃ m, m ≤ r + 1 ∧ A' 205 k = nI m) → fw p1 p2 fl = v → v < 2 ^ 31 → P (nI v) M' := fun {A' M' v} hM hA hs hv hlt => by
    rw [hv] at hP
    exact hP hlt _ A' L M' hM (up_ne (by omega)) ⟨by rw [up_ne (by omega)]; exact b1, by rw [hA 191 (by omega) (by omega)]; exact b2, by rw [up_ne (by omega)]; exact b3, fun k hk => (b4 k hk).same (fun p hp => hA p (by omega) (by omega)) rfl, ⟨by rw [up_ne (by omega)]; exact b5, b6, fun k e hk => (b7 k e hk).same (fun p hp => hA p (by omega) (by omega)) rfl⟩, by rw [up_self, nI_1], hs⟩
  have hQ0 : QM [(sta p1 * 128 + sta p2, 0)] (va_up A 206 (upd (A 206) 0 (nI (128 * sta p1 + sta p2)))) r := by
    refine ⟨fun k e hk => ?_, fun st a b => ?_, List.nodup_nil, fun x hx => (List.not_mem_nil hx).elim, by simp, fun k hk => ?_⟩
    · have hk0 := (List.getElem?_eq_some_iff.mp hk).1
      have : k = 0 := by simpa using hk0
      subst this
      have he : e = (sta p1 * 128 + sta p2, 0) := by simpa using hk.symm
      rw [up_self, pk_us, he]
      exact ⟨by rw [Nat.mul_comm], by simp only; omega, Nat.le_refl _⟩
    · obtain ⟨m, hm, hmA⟩ := b9 st b
      rw [up_ne (by omega), hmA, nI_eq (by omega) (by omega)]
      simp
      omega
    · obtain ⟨m, hm, hmA⟩ := b9 k hk
      exact ⟨m, by omega, by rw [up_ne (by omega)]; exact hmA⟩
  have hB0 : BI (inW p1 p2) (mS p1 p2) (mN p1 p2) (mH p1 p2 fl) [(sta p1 * 128 + sta p2, 0)] 0 (fun _ => False) := BI.init (fun e he => by
    rw [List.mem_singleton.mp he]; exact ⟨rfl, rfl⟩) (fun st hs => by
    have : st = sta p1 * 128 + sta p2 := hs
    rw [this]; exact List.mem_singleton.mpr rfl)
  refine ⟨fun x4 x5 x6 M' => ∃ (n D : Nat) (Q : List (Nat × Nat)) (A' : Nat → Nat → Int32), x4 = nI n ∧ n ≤ Q.length ∧ x5 = nI Q.length ∧ x6 = nI (D + 1) ∧ D ≤ n ∧ MR N ads g c0 (va_up s 21 (nI r + 1)) A' L M' ∧ (∀ p, p ≠ 205 → p ≠ 206 → A' p = A p) ∧ QM Q A' r ∧ BI (inW p1 p2) (mS p1 p2) (mN p1 p2) (mH p1 p2 fl) Q n (fun _ => False) ∧ ∀ k e, n ≤ k → Q[k]? = some e → e.2 = D, fun x4 _ _ _ => 20000 - x4.toNatClampNeg, ⟨0, 0, _, _, rfl, Nat.zero_le _, rfl, rfl, Nat.le_refl _, h2, frA, hQ0, hB0, fun k e _ hk => ?_⟩, ?_⟩
  · have := List.mem_of_getElem? hk
    rw [List.mem_singleton.mp this]
  rintro _ _ _ M3 ⟨n0, D, Q0, A3, rfl, hn0, rfl, rfl, hDn0, h3, fr3, hQ3, hB3, hd3⟩
  have hlen3 := hQ3.len
  refine ⟨fun z => ?_, fun z => ?_⟩
  · have e : n0 = Q0.length := Nat.le_antisymm hn0 ((nI_leI (by omega) (by omega)).mp z)
    have hf : fw p1 p2 fl = 0 := (fw_is p1 p2 fl).uniq (Or.inl ⟨rfl, fun m hm => hB3.fin (by omega) m ((m_iff hk1 hk2 m).mpr hm)⟩)
    exact end_ (v := 0) h3 fr3 hQ3.2.2.2.2.2 hf (by decide)
  have hlt0 : n0 < Q0.length := Nat.not_le.mp fun w => z (nI_le w (by omega))
  refine ⟨fun x4 x5 M' => ∃ (n : Nat) (Q : List (Nat × Nat)) (A' : Nat → Nat → Int32), x4 = nI n ∧ n0 ≤ n ∧ n ≤ Q0.length ∧ Q0.length ≤ Q.length ∧ x5 = nI Q.length ∧ MR N ads g c0 (va_up s 21 (nI r + 1)) A' L M' ∧ (∀ p, p ≠ 205 → p ≠ 206 → A' p = A p) ∧ QM Q A' r ∧ BI (inW p1 p2) (mS p1 p2) (mN p1 p2) (mH p1 p2 fl) Q n (fun _ => False) ∧ ∀ k e, n ≤ k → Q[k]? = some e → e.2 = if k < Q0.length then D else D + 1, fun x4 _ _ => 20000 - x4.toNatClampNeg, ⟨n0, Q0, A3, rfl, Nat.le_refl _, hn0, Nat.le_refl _, rfl, h3, fr3, hQ3, hB3, fun k e hk hke => ?_⟩, ?_⟩
  · rw [if_pos (List.getElem?_eq_some_iff.mp hke).1]; exact hd3 k e hk hke
  rintro _ _ M4 ⟨n, Q, A4, rfl, hn0n, hnl, hQl, rfl, h4, fr4, hQ4, hB4, hd4⟩
  have hlen4 := hQ4.len
  refine ⟨fun y => ?_, fun y => ?_⟩
  · have e : n = Q0.length := Nat.le_antisymm hnl ((nI_leI (by omega) (by omega)).mp y)
    refine ⟨⟨n, D + 1, Q, A4, rfl, by omega, rfl, nI_1 _, by omega, h4, fr4, hQ4, hB4, fun k e hk hke => ?_⟩, ?_⟩
    · rw [hd4 k e hk hke, if_neg (by omega)]
    · show 20000 - (nI n).toNatClampNeg < 20000 - (nI n0).toNatClampNeg
      rw [nI_clamp (by omega), nI_clamp (by omega)]; omega
  have hnlt : n < Q0.length := Nat.not_le.mp fun w => y (nI_le w (by omega))
  obtain ⟨⟨st, D'⟩, hq4⟩ : ∃ e, Q[n]? = some e := ⟨_, List.getElem?_eq_getElem (by omega : n < Q.length)⟩
  have hD' : D' = D := by have := hd4 n _ (Nat.le_refl _) hq4; rw [if_pos hnlt] at this; exact this
  subst hD'
  have hst : st < 16384 := (hQ4.1 n _ hq4).2.1
  refine ⟨fun x5 x8 M' => ∃ (c : Nat) (Q : List (Nat × Nat)) (A' : Nat → Nat → Int32), x8 = nI c ∧ c ≤ 13 ∧ Q0.length ≤ Q.length ∧ x5 = nI Q.length ∧ MR N ads g c0 (va_up s 21 (nI r + 1)) A' L M' ∧ (∀ p, p ≠ 205 → p ≠ 206 → A' p = A p) ∧ QM Q A' r ∧ BI (inW p1 p2) (mS p1 p2) (mN p1 p2) (mH p1 p2 fl) Q n (fun w => ∃ c', c' < c ∧ wdo p1 p2 c' = w ∧ 0 ≤ w) ∧ Q[n]? = some (st, D') ∧ ∀ k e, n ≤ k → Q[k]? = some e → e.2 = if k < Q0.length then D' else D' + 1, fun _ x _ => 13 - x.toNatClampNeg, ⟨0, Q, A4, rfl, by omega, hQl, rfl, h4, fr4, hQ4, hB4.weak (fun w hw => by obtain ⟨c', hc', _⟩ := hw; exact absurd hc' (Nat.not_lt_zero _)), hq4, hd4⟩, ?_⟩
  clear hB4 hQ4 hlen4 hd4 hq4 h4 fr4 hQl y
  rintro _ _ M5 ⟨c, Q, A5, rfl, hc, hQl, rfl, h5, fr5, hQ5, hB5, hq5, hd5⟩
  have hlen5 := hQ5.len
  refine ⟨fun y => ?_, fun y => ⟨mr_O h5 hN, ?_⟩⟩
  · have e : c = 13 := Nat.le_antisymm hc (by have := (nI_ltI (a := 12) (by omega) (by omega)).mp y; omega)
    subst e
    refine ⟨⟨n + 1, Q, A5, nI_1 n, by omega, hnlt, hQl, rfl, h5, fr5, hQ5, hB5.next (fun w hw => ?_), fun k e hk hke => hd5 k e (by omega) hke⟩, mu_dec (by omega) (by omega)⟩
    have hok := inW_ok hp1.2.1 hp2.2.1 hw
    obtain ⟨c', hc', hc2⟩ := in_wdo hk1 hk2 hw hok
    exact ⟨c', hc', hc2, hok.1⟩
  have hclt : c < 13 := by
    rcases Nat.lt_or_ge 12 c with w | w
    · exact absurd (nI_lt (a := 12) w (by omega)) y
    · omega
  have hp1' : PatM A5 L i p1 := hp1.same (fr5 197 (by omega) (by omega))
  have hp2' : PatM A5 L j p2 := hp2.same (fr5 197 (by omega) (by omega))
  have go : ∀ {Q' : List (Nat × Nat)} {A' : Nat → Nat → Int32} {M' : Mem}, Q0.length ≤ Q'.length → MR N ads g c0 (va_up s 21 (nI r + 1)) A' L M' → (∀ p, p ≠ 205 → p ≠ 206 → A' p = A p) → QM Q' A' r → BI (inW p1 p2) (mS p1 p2) (mN p1 p2) (mH p1 p2 fl) Q' n (fun w => ∃ c', c' < c ∧ wdo p1 p2 c' = w ∧ 0 ≤ w) → Q'[n]? = some (st, D') → (∀ k e, n ≤ k → Q'[k]? = some e → e.2 = if k < Q0.length then D' else D' + 1) → (0 ≤ wdo p1 p2 c → bcl (mN p1 p2) (mH p1 p2 fl) Q' (st, D') (wdo p1 p2 c)) → (∃ (c' : Nat) (Q : List (Nat × Nat)) (A' : Nat → Nat → Int32), nI c + 1 = nI c' ∧ c' ≤ 13 ∧ Q0.length ≤ Q.length ∧ nI Q'.length = nI Q.length ∧ MR N ads g c0 (va_up s 21 (nI r + 1)) A' L M' ∧ (∀ p, p ≠ 205 → p ≠ 206 → A' p = A p) ∧ QM Q A' r ∧ BI (inW p1 p2) (mS p1 p2) (mN p1 p2) (mH p1 p2 fl) Q n (fun w => ∃ c'', c'' < c' ∧ wdo p1 p2 c'' = w ∧ 0 ≤ w) ∧ Q[n]? = some (st, D') ∧ ∀ k e, n ≤ k → Q[k]? = some e → e.2 = if k < Q0.length then D' else D' + 1) ∧ 13 - (nI c + 1).toNatClampNeg < 13 - (nI c).toNatClampNeg := fun {Q' A' M'} a1 a2 a3 a4 a5 a6 a7 a8 => by
    refine ⟨⟨c + 1, Q', A', nI_1 c, hclt, a1, rfl, a2, a3, a4, ?_, a6, a7⟩, mu_dec hclt (by omega)⟩
    by_cases hw : 0 ≤ wdo p1 p2 c
    · refine (a5.word a6 (a8 hw)).weak (fun w hw2 => ?_)
      obtain ⟨c', hc', hc2, hc3⟩ := hw2
      by_cases hcc : c' = c
      · subst hcc; exact Or.inr hc2.symm
      · exact Or.inl ⟨c', by omega, hc2, hc3⟩
    · refine a5.weak (fun w hw2 => ?_)
      obtain ⟨c', hc', hc2, hc3⟩ := hw2
      by_cases hcc : c' = c
      · subst hcc; rw [hc2] at hw; exact absurd hc3 hw
      · exact ⟨c', by omega, hc2, hc3⟩
  refine m_wordOf h5 hN hi hj hp1' hp2' hclt ⟨fun w => ?_, fun w => go hQl h5 fr5 hQ5 hB5 hq5 hd5 (fun hw => absurd ((cmp_ge _).mpr hw) w)⟩
  have hw0 := (cmp_ge _).mp w
  have hin := wdo_in hp1.2.1 hp2.2.1 hw0
  have hok := inW_ok hp1.2.1 hp2.2.1 hin
  have hrow : A5 206 n = nI st := (hQ5.1 n _ hq5).1
  have hn16 : n < 16384 := by omega
  have hsa : st / 128 < 128 := by omega
  have hsb : st % 128 < 128 := by omega
  refine ⟨_, mr_r h5 hN rfl, nI st, by rw [← hrow]; exact mr_gI h5 hN (p := 206) (n := 16384) (by decide) hn16, mr_O h5 hN, ?_⟩
  rw [show nI st / (128 : Int32) = nI (st / 128) from pk_div (d := 128) (by omega) (by omega) (by omega)]
  refine m_moved h5 hN hi hp1' hsa hok ⟨_, mr_r h5 hN rfl, nI st, by rw [← hrow]; exact mr_gI h5 hN (p := 206) (n := 16384) (by decide) hn16, mr_O h5 hN, ?_⟩
  rw [show nI st - nI st / (128 : Int32) * (128 : Int32) = nI (st % 128) from pk_rem (d := 128) (by omega) (by omega) (by omega)]
  refine m_moved h5 hN hj hp2' hsb hok ⟨mr_O h5 hN, ?_⟩
  have ha := stp_lt (ps := p1) (wdo p1 p2 c) (st / 128) hk1
  have hb := stp_lt (ps := p2) (wdo p1 p2 c) (st % 128) hk2
  have cont : ∀ (J40 : Int32 → Int32 → Int32 → Mem → Prop) (J51 : Int32 → Int32 → Mem → Prop), ¬ mH p1 p2 fl st (wdo p1 p2 c) → wp_Mod_fewest_b152 g P J40 J51 (fun y5 y8 N' => (∃ (c' : Nat) (Q : List (Nat × Nat)) (A' : Nat → Nat → Int32), y8 = nI c' ∧ c' ≤ 13 ∧ Q0.length ≤ Q.length ∧ y5 = nI Q.length ∧ MR N ads g c0 (va_up s 21 (nI r + 1)) A' L N' ∧ (∀ p, p ≠ 205 → p ≠ 206 → A' p = A p) ∧ QM Q A' r ∧ BI (inW p1 p2) (mS p1 p2) (mN p1 p2) (mH p1 p2 fl) Q n (fun w => ∃ c'', c'' < c' ∧ wdo p1 p2 c'' = w ∧ 0 ≤ w) ∧ Q[n]? = some (st, D') ∧ ∀ k e, n ≤ k → Q[k]? = some e → e.2 = if k < Q0.length then D' else D' + 1) ∧ 13 - y8.toNatClampNeg < 13 - (nI c).toNatClampNeg) M5 (ads 190) (nI i) (nI j) (bI fl) (nI n) (nI Q.length) (nI (D' + 1)) (nI Q0.length) (nI c) (nI (stp p1 (wdo p1 p2 c) (st / 128))) (nI (stp p2 (wdo p1 p2 c) (st % 128))) := by
    intro J40 J51 hno
    refine ⟨fun z => go hQl h5 fr5 hQ5 hB5 hq5 hd5 (fun _ => ⟨hno, fun s' hs' => ?_⟩), fun z => ?_⟩
    · exact absurd ((nI_eq (b := 0) (by omega) (by omega)).mp z) hs'.1
    have hne : stp p1 (wdo p1 p2 c) (st / 128) ≠ 0 := fun e => z (by rw [e]; rfl)
    have h128 : 128 ≤ 128 * stp p1 (wdo p1 p2 c) (st / 128) + stp p2 (wdo p1 p2 c) (st % 128) := by omega
    have h16k : 128 * stp p1 (wdo p1 p2 c) (st / 128) + stp p2 (wdo p1 p2 c) (st % 128) < 16384 := by omega
    rw [ix128]
    have hsn : mN p1 p2 st (wdo p1 p2 c) (128 * stp p1 (wdo p1 p2 c) (st / 128) + stp p2 (wdo p1 p2 c) (st % 128)) := ⟨hne, by rw [Nat.mul_comm]⟩
    refine ⟨_, mr_r h5 hN rfl, _, mr_gI h5 hN (p := 205) (n := 16384) (by decide) h16k, nI (r + 1), by rw [show nI (r + 1) = va_up s 21 (nI r + 1) 21 by rw [up_self, nI_1]]; exact mr_s h5 hN rfl, fun y2 => go hQl h5 fr5 hQ5 hB5 hq5 hd5 (fun _ => ⟨hno, fun s' hs' => ?_⟩), fun y2 => ?_⟩
    · have hm := (hQ5.2.1 _ h128 h16k).mp y2
      have e : s' = 128 * stp p1 (wdo p1 p2 c) (st / 128) + stp p2 (wdo p1 p2 c) (st % 128) := by rw [hs'.2, Nat.mul_comm]
      rw [e]
      obtain ⟨d', hd'⟩ := fst_mem hm
      have hd2 := List.mem_of_mem_tail hd'
      exact ⟨d', hB5.2.2.2.2 _ _ hq5 hd2, hd2⟩
    · have hnm : 128 * stp p1 (wdo p1 p2 c) (st / 128) + stp p2 (wdo p1 p2 c) (st % 128) ∉ Q.tail.map Prod.fst := fun hm => y2 ((hQ5.2.1 _ h128 h16k).mpr hm)
      have hroom := hQ5.room h128 h16k hnm
      generalize hS : 128 * stp p1 (wdo p1 p2 c) (st / 128) + stp p2 (wdo p1 p2 c) (st % 128) = S at *
      obtain ⟨M6, e6, h6⟩ := mr_wI h5 hN (p := 205) (n := 16384) (j := S) (by decide) h16k (nI (r + 1))
      obtain ⟨M7, e7, h7⟩ := mr_wI h6 hN (p := 206) (n := 16384) (j := Q.length) (by decide) hroom (nI S)
      have hlQ : (Q ++ [(S, D' + 1)]).length = Q.length + 1 := by rw [List.length_append, List.length_singleton]
      have htl : (Q ++ [(S, D' + 1)]).tail = Q.tail ++ [(S, D' + 1)] := List.tail_append_of_ne_nil hQ5.2.2.2.2.1
      have hq6 : (Q ++ [(S, D' + 1)])[n]? = some (st, D') := by rw [List.getElem?_append_left (by omega)]; exact hq5
      have hD'n : D' ≤ n := (hQ5.1 n _ hq5).2.2
      refine ⟨_, mr_r h5 hN rfl, nI (r + 1), by rw [show nI (r + 1) = va_up s 21 (nI r + 1) 21 by rw [up_self, nI_1]]; exact mr_s h5 hN rfl, M6, e6, _, mr_r h6 hN rfl, M7, e7, ?_⟩
      have := go (Q' := Q ++ [(S, D' + 1)]) (by omega) h7 (fun p a b => by rw [up_ne b, up_ne a]; exact fr5 p a b) ⟨fun k e hk => ?_, fun t ht1 ht2 => ?_, ?_, fun x hx => ?_, by simp, fun k hk => ?_⟩ (hB5.add hq5 hin hsn) hq6 (fun k e hk hke => ?_) (fun _ => ⟨hno, fun s' hs' => ?_⟩)
      · rw [hlQ, ← nI_1] at this
        exact this
      · rcases app_get hk with a | ⟨a, a2⟩
        · have := (List.getElem?_eq_some_iff.mp a).1
          rw [up_self, pk_un (by omega), up_ne (by omega)]
          exact hQ5.1 k e a
        · rw [a, a2, up_self, pk_us]
          exact ⟨rfl, h16k, by simp only; omega⟩
      · rw [up_ne (by omega), up_self, htl, List.map_append, List.mem_append]
        by_cases hts : t = S
        · subst hts; rw [pk_us]; exact ⟨fun _ => Or.inr (by simp), fun _ => rfl⟩
        · rw [pk_un hts, hQ5.2.1 t ht1 ht2]
          refine ⟨Or.inl, fun a => a.elim id fun b => ?_⟩
          simp at b
          exact absurd b hts
      · rw [htl, List.map_append, List.nodup_append]
        refine ⟨hQ5.2.2.1, by simp, fun a ha b hb => ?_⟩
        simp at hb
        rw [hb]
        exact fun y => hnm (y ▸ ha)
      · rw [htl, List.map_append, List.mem_append] at hx
        rcases hx with a | a
        · exact hQ5.2.2.2.1 x a
        · simp at a
          rw [a]; exact ⟨h128, h16k⟩
      · rw [up_ne (by omega), up_self]
        by_cases hkS : k = S
        · subst hkS; rw [pk_us]; exact ⟨r + 1, Nat.le_refl _, rfl⟩
        · rw [pk_un hkS]; exact hQ5.2.2.2.2.2 k hk
      · rcases app_get hke with a | ⟨a, a2⟩
        · exact hd5 k e hk a
        · rw [a2, if_neg (by omega)]
      · have e : s' = S := by rw [hs'.2, Nat.mul_comm]; exact hS
        rw [e]
        exact ⟨D' + 1, Nat.le_refl _, List.mem_append_right _ (List.mem_singleton.mpr rfl)⟩
  refine m_isEnd h5 hN hi hp1' ha ⟨fun z1 => cont _ _ (fun hh => ?_), fun z1 => ⟨mr_O h5 hN, m_isEnd h5 hN hj hp2' hb ⟨fun z2 => ?_, fun z2 => cont _ _ (fun hh => z2 ?_)⟩⟩⟩
  · rw [bI_0, hh.1] at z1; cases z1
  · obtain ⟨g1, g2⟩ := hB5.found hq5 hin ⟨bI_t z1, bI_inj.mp z2⟩
    have hf : fw p1 p2 fl = D' + 1 := (fw_is p1 p2 fl).uniq (Or.inr ⟨D', rfl, (m_iff hk1 hk2 D').mp g1, fun m hm hT => g2 m hm ((m_iff hk1 hk2 m).mpr hT)⟩)
    exact end_ h5 fr5 hQ5.2.2.2.2.2 hf (by omega)
  · rw [hh.2]
end MF
