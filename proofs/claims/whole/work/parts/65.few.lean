section FEW
variable {ads : Nat → Nat} {g : Nat → ClassId} {c : Nat → va_E} {q n : Int32} {wt : Nat → Int32} {sn wd : Nat → Int64} {N : Nat} {M : Mem} {i o : Nat} {s1 s2 : List Int32} {p1 p2 : List Int64}
theorem fst_mem {Q : List (Nat × Nat)} {s : Nat} (h : s ∈ Q.map Prod.fst) : ∃ d, (s, d) ∈ Q := by
  obtain ⟨e, he, rfl⟩ := List.mem_map.mp h
  exact ⟨e.2, he⟩
theorem bI_inj {a b : Bool} : bI a = bI b ↔ a = b := by cases a <;> cases b <;> decide
theorem r_fewest (hR : Rep N ads (rsUp ads g c q n wt sn wd) M) (hN : 190 ≤ N) (hi : i + 2 < 186) (h1 : TextL g ads c i s1 p1) (hk1 : p1.length ≤ 6) (ho : o + 2 < 186) (h2 : TextL g ads c o s2 p2) (hk2 : p2.length ≤ 6) {fl : Bool} {P : Int32 → Mem → Prop} (hP : ∀ q' n' wt' sn' wd' M', Rep N ads (rsUp ads g c q' n' wt' sn' wd') M' → fw p1 p2 fl < 2 ^ 31 → P (nI (fw p1 p2 fl)) M') : wp_Rs_fewestWords g M (ads 186) (ads i) (ads o) (bI fl) P := by
  refine ⟨rs_O hR hN, r_collect hR hN hi h1 hk1 ho h2 hk2 (fun wd1 M1 hR1 hW => ?_)⟩
  obtain ⟨M2, e2, hR2⟩ := rs_wq hR1 hN 0
  refine ⟨M2, e2, _, rs_r1 hR2 hN, r_fill hR2 hN (fun sn3 M3 hR3 hsn => ?_)⟩
  have hWl := wds_len hk1 hk2
  refine ⟨(rs_text hi h1).O hR3 (by omega), t_start hR3 (by omega) (rs_text hi h1) hk1 ⟨(rs_text ho h2).O hR3 (by omega), t_start hR3 (by omega) (rs_text ho h2) hk2 ⟨rs_O hR3 hN, ?_⟩⟩⟩
  have hQ0 : QOK [] wt sn3 := ⟨fun j e h => (by cases h), fun st hst => by rw [hsn _ (by omega), lb_0]; simp, List.nodup_nil⟩
  refine r_addStates (Q0 := []) (d := 0) hR3 hN hQ0 (sta_lt hk1) (sta_lt hk2) (Nat.le_refl _) (J := fun Q => ∀ e ∈ Q, e.2 = 0 ∧ cS p1 p2 e.1) (fun e h => (List.not_mem_nil h).elim) (fun Q p hJ hp hb _ e he => ?_) (fun Q4 wt4 sn4 M4 hR4 hQ4 hJ4 hall4 => ?_)
  · rcases List.mem_append.mp he with z | z
    · exact hJ e z
    · rw [List.mem_singleton.mp z]; exact ⟨rfl, p, hp, hb, rfl⟩
  have hB0 : BI (inW p1 p2) (cS p1 p2) (cN p1 p2) (cH p1 p2 fl) Q4 0 (fun _ => False) := BI.init hJ4 (fun s hs => by
    obtain ⟨p, hp, hb, rfl⟩ := hs
    obtain ⟨d, hd⟩ := fst_mem (hall4 p hp hb)
    have := (hJ4 _ hd).1
    simp at this
    rw [this] at hd
    exact hd)
  refine ⟨fun x M' => ∃ (k : Nat) (Q : List (Nat × Nat)) (wt' : Nat → Int32) (sn' : Nat → Int64), x = nI k ∧ k ≤ Q.length ∧ Rep N ads (rsUp ads g c (nI Q.length) (nI (wds p1 p2).length) wt' sn' wd1) M' ∧ QOK Q wt' sn' ∧ BI (inW p1 p2) (cS p1 p2) (cN p1 p2) (cH p1 p2 fl) Q k (fun _ => False), fun x _ => 1024 - x.toNatClampNeg, ⟨0, Q4, wt4, sn4, rfl, Nat.zero_le _, hR4, hQ4, hB0⟩, ?_⟩
  rintro _ M5 ⟨k, Q, wt5, sn5, rfl, hk, hR5, hQ5, hB5⟩
  have hlen := hQ5.len
  refine ⟨_, rs_q hR5 hN, fun z => ?_, fun z => ?_⟩
  · have e : k = Q.length := Nat.le_antisymm hk (Nat.not_lt.mp fun y => absurd z (nI_ge y (by omega)))
    have hf : fw p1 p2 fl = 0 := (fw_is p1 p2 fl).uniq (Or.inl ⟨rfl, fun m hm => hB5.fin (by omega) m ((c_iff hk1 hk2 m).mpr hm)⟩)
    have := hP _ _ _ _ _ M5 hR5 (by rw [hf]; omega)
    rw [hf] at this
    exact this
  · have hlt : k < Q.length := Nat.not_le.mp fun y => z (nI_le y (by omega))
    refine ⟨_, rs_r0 hR5 hN, _, hR5.len (by omega) rs_187, fun y => absurd y (nI_ge (by omega) (by omega)), fun _ => ⟨_, rs_r0 hR5 hN, _, rs_gt hR5 hN (by omega), _, rs_r0 hR5 hN, _, rs_gt hR5 hN (by omega), ?_⟩⟩
    obtain ⟨⟨s, D⟩, hq⟩ : ∃ e, Q[k]? = some e := ⟨_, List.getElem?_eq_getElem hlt⟩
    obtain ⟨hw1, hw2, hw3⟩ := hQ5.1 k _ hq
    simp only at hw1 hw2 hw3
    have ea : wt5 k &&& (1023 : Int32) = nI s := by
      rw [hw1, pk_andN (k := 10) (by omega) (by decide), show (D * 1024 + s) % 2 ^ 10 = s by omega]
    have eb : (wt5 k >>> ((10 : Int32) &&& 31)) + (1 : Int32) = nI (D + 1) := by
      rw [hw1, pk_shrN (by omega) _ 10 (by decide), show (D * 1024 + s) / 2 ^ 10 = D by omega, nI_1]
    rw [ea, eb]
    refine ⟨fun x M' => ∃ (j : Nat) (Q : List (Nat × Nat)) (wt' : Nat → Int32) (sn' : Nat → Int64), x = nI j ∧ j ≤ (wds p1 p2).length ∧ Rep N ads (rsUp ads g c (nI Q.length) (nI (wds p1 p2).length) wt' sn' wd1) M' ∧ QOK Q wt' sn' ∧ BI (inW p1 p2) (cS p1 p2) (cN p1 p2) (cH p1 p2 fl) Q k (fun w => w ∈ (wds p1 p2).take j) ∧ Q[k]? = some (s, D), fun x _ => (wds p1 p2).length - x.toNatClampNeg, ⟨0, Q, wt5, sn5, rfl, Nat.zero_le _, hR5, hQ5, hB5.weak (fun w hw => by simp at hw), hq⟩, ?_⟩
    clear hB5 hQ5 hR5 hk hlt hq hw1 ea eb hlen z
    rintro _ M6 ⟨j, Q, wt6, sn6, rfl, hj, hR6, hQ6, hB6, hq6⟩
    have hlen := hQ6.len
    have hlt := (List.getElem?_eq_some_iff.mp hq6).1
    refine ⟨_, rs_n hR6 hN, fun z => ?_, fun z => ?_⟩
    · have e : j = (wds p1 p2).length := Nat.le_antisymm hj (Nat.not_lt.mp fun y => absurd z (nI_ge y (by omega)))
      subst e
      rw [List.take_length] at hB6
      exact ⟨⟨k + 1, Q, wt6, sn6, nI_1 k, hlt, hR6, hQ6, hB6.next (fun w hw => wds_mem.mpr hw)⟩, mu_dec (by omega) (by omega)⟩
    · have hjl : j < (wds p1 p2).length := Nat.not_le.mp fun y => z (nI_le y (by omega))
      have hwj : wd1 j = (wds p1 p2)[j] := hW j _ (List.getElem?_eq_getElem hjl)
      have hin : inW p1 p2 (wd1 j) := wds_mem.mp (by rw [hwj]; exact List.getElem_mem hjl)
      refine ⟨_, rs_r2 hR6 hN, _, rs_gw hR6 hN (by omega), (rs_text hi h1).O hR6 (by omega), ?_⟩
      rw [show (1 : Int32) <<< ((nI s >>> ((7 : Int32) &&& 31)) &&& 31) = nI (2 ^ (s / 128)) by rw [pk_shrN (by omega) _ 7 (by decide)]; exact bs_1 _ (by omega)]
      have h2p : 2 ^ (s / 128) < 2 ^ 31 := Nat.pow_lt_pow_right (by decide) (by omega)
      refine t_behind hR6 (by omega) (rs_text hi h1) hk1 h2p ⟨_, rs_r2 hR6 hN, _, rs_gw hR6 hN (by omega), (rs_text ho h2).O hR6 (by omega), ?_⟩
      rw [show nI s &&& (127 : Int32) = nI (s % 128) by rw [pk_andN (k := 7) (by omega) (by decide)]]
      refine t_behind hR6 (by omega) (rs_text ho h2) hk2 (by omega) ⟨(rs_text hi h1).O hR6 (by omega), ?_⟩
      have hF := stp_lt (ps := p1) (wd1 j) (2 ^ (s / 128)) hk1
      have hS := stp_lt (ps := p2) (wd1 j) (s % 128) hk2
      have cont : ¬ cH p1 p2 fl s (wd1 j) → wp_Rs_addStates g M6 (ads 186) (nI (stp p1 (wd1 j) (2 ^ (s / 128)))) (nI (stp p2 (wd1 j) (s % 128))) (nI (D + 1)) (fun M2 => (∃ (j' : Nat) (Q : List (Nat × Nat)) (wt' : Nat → Int32) (sn' : Nat → Int64), nI j + 1 = nI j' ∧ j' ≤ (wds p1 p2).length ∧ Rep N ads (rsUp ads g c (nI Q.length) (nI (wds p1 p2).length) wt' sn' wd1) M2 ∧ QOK Q wt' sn' ∧ BI (inW p1 p2) (cS p1 p2) (cN p1 p2) (cH p1 p2 fl) Q k (fun w => w ∈ (wds p1 p2).take j') ∧ Q[k]? = some (s, D)) ∧ (wds p1 p2).length - (nI j + 1).toNatClampNeg < (wds p1 p2).length - (nI j).toNatClampNeg) := by
        intro hno
        refine r_addStates hR6 hN hQ6 hF hS (by omega) (J := fun Q' => BI (inW p1 p2) (cS p1 p2) (cN p1 p2) (cH p1 p2 fl) Q' k (fun w => w ∈ (wds p1 p2).take j) ∧ Q'[k]? = some (s, D)) ⟨hB6, hq6⟩ (fun Q' p hJ hp hb _ => ⟨hJ.1.add hJ.2 hin ⟨p, hp, hb, rfl⟩, ?_⟩) (fun Q7 wt7 sn7 M7 hR7 hQ7 hJ7 hall7 => ⟨⟨j + 1, Q7, wt7, sn7, nI_1 j, hjl, hR7, hQ7, ?_, hJ7.2⟩, mu_dec hjl (by omega)⟩)
        · rw [List.getElem?_append_left (List.getElem?_eq_some_iff.mp hJ.2).1]; exact hJ.2
        · refine (hJ7.1.word (w := wd1 j) hJ7.2 ⟨hno, fun s' hs' => ?_⟩).weak (fun w hw => ?_)
          · obtain ⟨p, hp, hb, rfl⟩ := hs'
            obtain ⟨d', hd'⟩ := fst_mem (hall7 p hp hb)
            exact ⟨d', hJ7.1.2.2.2.2 _ _ hJ7.2 hd', hd'⟩
          · rw [List.take_succ, List.getElem?_eq_getElem hjl, List.mem_append] at hw
            simp at hw
            rw [hwj]
            exact hw
      refine t_end hR6 (by omega) (rs_text hi h1) hk1 (by omega) ⟨fun y => ⟨rs_O hR6 hN, cont (fun h => ?_)⟩, fun y => ⟨(rs_text ho h2).O hR6 (by omega), t_end hR6 (by omega) (rs_text ho h2) hk2 (by omega) ⟨fun y2 => ?_, fun y2 => ⟨rs_O hR6 hN, cont (fun h => y2 ?_)⟩⟩⟩⟩
      · rw [bI_0, h.1] at y; cases y
      · have he : enB p1 (stp p1 (wd1 j) (2 ^ (s / 128))) = true := by
          cases hb : enB p1 (stp p1 (wd1 j) (2 ^ (s / 128)))
          · exact absurd (bI_0.mpr hb) y
          · rfl
        obtain ⟨g1, g2⟩ := hB6.found hq6 hin ⟨he, bI_inj.mp y2⟩
        have hf : fw p1 p2 fl = D + 1 := (fw_is p1 p2 fl).uniq (Or.inr ⟨D, rfl, (c_iff hk1 hk2 D).mp g1, fun m hm hT => g2 m hm ((c_iff hk1 hk2 m).mpr hT)⟩)
        have := hP _ _ _ _ _ M6 hR6 (by rw [hf]; omega)
        rw [hf] at this
        exact this
      · rw [h.2]
end FEW
