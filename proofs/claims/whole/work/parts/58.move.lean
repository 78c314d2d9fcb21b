/-! moving on the shelf; putting and dropping -/
def mvL {α : Type} (T : Nat → α) (f j k : Nat) : α := if f ≤ k ∧ k < j then T (k + 1) else T k
def mvR {α : Type} (T : Nat → α) (f j k : Nat) : α := if j < k ∧ k ≤ f then T (k - 1) else T k
def mvF {α : Type} (T : Nat → α) (f t k : Nat) : α := if k = t then T f else if f < t then mvL T f t k else mvR T f t k
section MV
variable {α : Type} {g : Nat → ClassId} {N : Nat} {ads : Nat → Nat} {c : Nat → va_E} {M : Mem} {T : Nat → Option Nat}
theorem mvL_0 {T : Nat → α} {f : Nat} : mvL T f f = T := by
  funext k; unfold mvL; rw [if_neg (by omega)]
theorem mvR_0 {T : Nat → α} {f : Nat} : mvR T f f = T := by
  funext k; unfold mvR; rw [if_neg (by omega)]
theorem mvL_s {T : Nat → α} {f j : Nat} (h : f ≤ j) : va_up (mvL T f j) j (mvL T f j (j + 1)) = mvL T f (j + 1) := by
  funext k
  by_cases hk : k = j
  · subst hk; rw [up_self]; unfold mvL; rw [if_neg (by omega), if_pos (by omega)]
  · rw [up_ne hk]; unfold mvL
    by_cases h2 : f ≤ k ∧ k < j
    · rw [if_pos h2, if_pos (by omega)]
    · rw [if_neg h2, if_neg (by omega)]
theorem mvR_s {T : Nat → α} {f j : Nat} (h : j + 1 ≤ f) : va_up (mvR T f (j + 1)) (j + 1) (mvR T f (j + 1) j) = mvR T f j := by
  funext k
  by_cases hk : k = j + 1
  · subst hk; rw [up_self]; unfold mvR; rw [if_neg (by omega), if_pos (by omega)]; rfl
  · rw [up_ne hk]; unfold mvR
    by_cases h2 : j + 1 < k ∧ k ≤ f
    · rw [if_pos h2, if_pos (by omega)]
    · rw [if_neg h2, if_neg (by omega)]
theorem mvL_f {T : Nat → α} {f t : Nat} (h : f < t) : va_up (mvL T f t) t (T f) = mvF T f t := by
  funext k
  unfold mvF
  by_cases hk : k = t
  · subst hk; rw [up_self, if_pos rfl]
  · rw [up_ne hk, if_neg hk, if_pos h]
theorem mvR_f {T : Nat → α} {f t : Nat} (h : t ≤ f) : va_up (mvR T f t) t (T f) = mvF T f t := by
  funext k
  unfold mvF
  by_cases hk : k = t
  · subst hk; rw [up_self, if_pos rfl]
  · rw [up_ne hk, if_neg hk, if_neg (by omega)]
theorem sh_isPlace {z : Int32} (hR : Rep N ads c M) (hN : 186 ≤ N) (h4 : c 104 = .inr (4, [.ref (ads 105), .int z])) (hT : c 105 = arrR g 4 20 T) {f : Nat} (hf : f < 20) {P : Int32 → Prop} (hP : P 1) : wp_Shelf_isPlace g M (ads 104) (nI f) P := ⟨fun q => absurd q (nI_pos (by omega)), fun _ => ⟨_, hR.R (by omega) h4 rfl, _, hR.len (by omega) hT, fun q => absurd q (nI_ge hf (by omega)), fun _ => ⟨isB_1, hP⟩⟩⟩
theorem sh_move {z : Int32} (hR : Rep N ads c M) (hN : 186 ≤ N) (h4 : c 104 = .inr (4, [.ref (ads 105), .int z])) (hT : c 105 = arrR g 4 20 T) (hO : ∀ j, j < 20 → ∃ t, t < 20 ∧ T j = some (ads (106 + 4 * t))) (hK : ∀ t, t < 20 → ∃ fs, c (106 + 4 * t) = .inr (3, fs)) {f t : Nat} (hf : f < 20) (ht : t < 20) {P : Mem → Prop} (hP : ∀ M', Rep N ads (va_up c 105 (arrR g 4 20 (mvF T f t))) M' → P M') : wp_Shelf_move g M (ads 104) (nI f) (nI t) P := by
  obtain ⟨tf, htf, hTf⟩ := hO f hf
  have hread : ∀ {T' : Nat → Option Nat} {M' : Mem}, Rep N ads (va_up c 105 (arrR g 4 20 T')) M' → gR M' 4 (ads 104) 0 = some (ads 105) := fun h => h.R (fs := [.ref (ads 105), .int z]) (by omega) (by rw [up_ne (by omega)]; exact h4) rfl
  have hobj : ∀ {T' : Nat → Option Nat} {M' : Mem} {s : Nat}, Rep N ads (va_up c 105 (arrR g 4 20 T')) M' → s < 20 → isO M' 3 (ads (106 + 4 * s)) := fun {T' M' s} h hs => by
    obtain ⟨fs, hfs⟩ := hK s hs
    exact h.O (by omega) (by rw [up_ne (by omega)]; exact hfs)
  have hat : ∀ {T' : Nat → Option Nat} {M' : Mem} {j : Nat}, Rep N ads (va_up c 105 (arrR g 4 20 T')) M' → j < 20 → aQ M' (g 4) (ads 105) (nI j) = some (T' j) := fun {T' M' j} h hj => h.rQ (by omega) (up_self : va_up c 105 (arrR g 4 20 T') 105 = _) hj (by omega)
  have hset : ∀ {T' : Nat → Option Nat} {M' : Mem} {j s : Nat}, Rep N ads (va_up c 105 (arrR g 4 20 T')) M' → j < 20 → ∃ M2, sR M' (g 4) (ads 105) (nI j) (ads s) = some M2 ∧ Rep N ads (va_up c 105 (arrR g 4 20 (va_up T' j (some (ads s))))) M2 := fun {T' M' j s} h hj => ⟨_, h.wR (by omega) (up_self : va_up c 105 (arrR g 4 20 T') 105 = _) hj (by omega) _, by
    have := h.up (i := 105) (by omega) (arrR g 4 20 (va_up T' j (some (ads s))))
    rw [up_up] at this
    exact this⟩
  have hR0 : Rep N ads (va_up c 105 (arrR g 4 20 T)) M := by
    have : va_up c 105 (arrR g 4 20 T) = c := by
      funext k
      by_cases hk : k = 105
      · subst hk; rw [up_self, hT]
      · rw [up_ne hk]
    rw [this]; exact hR
  refine ⟨hR.O (by omega) h4, sh_isPlace hR hN h4 hT hf ⟨fun e => absurd e (by decide), fun _ => ⟨hR.O (by omega) h4, sh_isPlace hR hN h4 hT ht ⟨fun e => absurd e (by decide), fun _ => ⟨_, hread hR0, ads (106 + 4 * tf), by rw [hat hR0 hf, hTf], ?_⟩⟩⟩⟩⟩
  by_cases hft : f < t
  · refine ⟨fun x M' => ∃ j, x = nI j ∧ f ≤ j ∧ j ≤ t ∧ Rep N ads (va_up c 105 (arrR g 4 20 (mvL T f j))) M', fun x _ => t - x.toNatClampNeg, ⟨f, rfl, Nat.le_refl _, by omega, by rw [mvL_0]; exact hR0⟩, ?_⟩
    rintro _ M1 ⟨j, rfl, hfj, hjt, hR1⟩
    refine ⟨fun q => ?_, fun q => ?_⟩
    · have e : j = t := Nat.le_antisymm hjt (Nat.not_lt.mp fun z => absurd q (nI_ge z (by omega)))
      subst e
      refine ⟨fun x M' => x = nI f ∧ M' = M1, fun _ _ => 0, ⟨rfl, rfl⟩, ?_⟩
      rintro _ _ ⟨rfl, rfl⟩
      refine ⟨fun q => ?_, fun q => absurd (nI_le hfj (by omega)) q⟩
      obtain ⟨M2, e2, hR2⟩ := hset (s := 106 + 4 * tf) hR1 ht
      refine ⟨_, hread hR1, hobj hR1 htf, M2, e2, hP _ ?_⟩
      rw [← hTf, mvL_f hft] at hR2
      exact hR2
    · have hlt : j < t := Nat.not_le.mp fun z => q (nI_le z (by omega))
      have e1 : mvL T f j (j + 1) = T (j + 1) := by unfold mvL; rw [if_neg (by omega)]
      obtain ⟨s, hs, hTs⟩ := hO (j + 1) (by omega)
      obtain ⟨M2, e2, hR2⟩ := hset (s := 106 + 4 * s) hR1 (by omega : j < 20)
      refine ⟨_, hread hR1, _, hread hR1, ads (106 + 4 * s), ?_, hobj hR1 hs, M2, e2, ⟨j + 1, nI_1 j, by omega, hlt, ?_⟩, mu_dec hlt (by omega)⟩
      · rw [nI_1, hat hR1 (by omega), e1, hTs]
      · rw [← hTs, ← e1, mvL_s hfj] at hR2
        exact hR2
  · refine ⟨fun x M' => x = nI f ∧ M' = M, fun _ _ => 0, ⟨rfl, rfl⟩, ?_⟩
    rintro _ _ ⟨rfl, rfl⟩
    refine ⟨fun q => ?_, fun q => absurd (nI_le (by omega) (by omega)) q⟩
    refine ⟨fun x M' => ∃ j, x = nI j ∧ t ≤ j ∧ j ≤ f ∧ Rep N ads (va_up c 105 (arrR g 4 20 (mvR T f j))) M', fun x _ => x.toNatClampNeg, ⟨f, rfl, by omega, Nat.le_refl _, by rw [mvR_0]; exact hR0⟩, ?_⟩
    rintro _ M1 ⟨j, rfl, htj, hjf, hR1⟩
    refine ⟨fun q => ?_, fun q => ?_⟩
    · have e : j = t := Nat.le_antisymm (Nat.not_lt.mp fun z => absurd q (nI_ge z (by omega))) htj
      subst e
      obtain ⟨M2, e2, hR2⟩ := hset (s := 106 + 4 * tf) hR1 ht
      refine ⟨_, hread hR1, hobj hR1 htf, M2, e2, hP _ ?_⟩
      rw [← hTf, mvR_f hjf] at hR2
      exact hR2
    · have hlt : t < j := Nat.not_le.mp fun z => q (nI_le z (by omega))
      obtain ⟨j, rfl⟩ : ∃ j', j = j' + 1 := ⟨j - 1, by omega⟩
      have e1 : mvR T f (j + 1) j = T j := by unfold mvR; rw [if_neg (by omega)]
      obtain ⟨s, hs, hTs⟩ := hO j (by omega)
      obtain ⟨M2, e2, hR2⟩ := hset (s := 106 + 4 * s) hR1 (by omega : j + 1 < 20)
      refine ⟨_, hread hR1, _, hread hR1, ads (106 + 4 * s), ?_, hobj hR1 hs, M2, e2, ⟨j, pk_m1 j, by omega, by omega, ?_⟩, ?_⟩
      · rw [nI_pred, hat hR1 (by omega), e1, hTs]
      · rw [← hTs, ← e1, mvR_s hjf] at hR2
        exact hR2
      · show (nI (j + 1) + (-1)).toNatClampNeg < (nI (j + 1)).toNatClampNeg
        rw [pk_m1, nI_clamp (by omega), nI_clamp (by omega)]
        omega
end MV
