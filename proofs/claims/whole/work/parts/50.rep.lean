/-! memory by places: place i lies at the address ads i and holds c i -/
def Rep (N : Nat) (ads : Nat → Nat) (c : Nat → va_E) (M : Mem) : Prop := (∀ i, i < N → M (ads i) = some (c i)) ∧ ∀ i j, i < N → j < N → ads i = ads j → i = j
section REP
variable {N : Nat} {ads : Nat → Nat} {c : Nat → va_E} {M : Mem} {i : Nat}
theorem Rep.up (h : Rep N ads c M) (hi : i < N) (e : va_E) : Rep N ads (va_up c i e) (mup M (ads i) e) := by
  refine ⟨fun j hj => ?_, h.2⟩
  by_cases hji : j = i
  · subst hji
    simp [mup, va_up]
  · have hne : ads j ≠ ads i := fun z => hji (h.2 j i hj hi z)
    simp [mup, va_up, hji, hne, h.1 j hj]
theorem Rep.V (h : Rep N ads c M) (hi : i < N) {ci k : Nat} {fs : List Value} {v : Value} (hc : c i = .inr (ci, fs)) (hv : fs[k]? = some v) : gV M ci (ads i) k = some v := by
  simp [gV, h.1 i hi, hc, hv]
theorem Rep.I (h : Rep N ads c M) (hi : i < N) {ci k : Nat} {fs : List Value} {v : Int32} (hc : c i = .inr (ci, fs)) (hv : fs[k]? = some (.int v)) : gI M ci (ads i) k = some v := by
  simp [gI, h.V hi hc hv]
theorem Rep.R (h : Rep N ads c M) (hi : i < N) {ci k : Nat} {fs : List Value} {v : Nat} (hc : c i = .inr (ci, fs)) (hv : fs[k]? = some (.ref v)) : gR M ci (ads i) k = some v := by
  simp [gR, h.V hi hc hv]
theorem Rep.O (h : Rep N ads c M) (hi : i < N) {ci : Nat} {fs : List Value} (hc : c i = .inr (ci, fs)) : isO M ci (ads i) := ⟨fs, by rw [h.1 i hi, hc]⟩
theorem Rep.wV (h : Rep N ads c M) (hi : i < N) {ci k : Nat} {fs : List Value} {v : Value} (hc : c i = .inr (ci, fs)) (hk : k < fs.length) : pV M ci (ads i) k v = some (mup M (ads i) (.inr (ci, fs.set k v))) := by
  simp [pV, h.1 i hi, hc, hk]
theorem Rep.len (h : Rep N ads c M) (hi : i < N) {cA : ClassId} {n : Nat} {f} (hc : c i = .inl (cA, n, f)) : aN M cA (ads i) = some n := by
  simp [aN, h.1 i hi, hc]
theorem in_nI {j n : Nat} (hj : j < n) (hn : n < 2 ^ 31) : ¬ (nI j < 0 ∨ n ≤ (nI j).toNatClampNeg) := nI_in hj hn
theorem Rep.rI (h : Rep N ads c M) (hi : i < N) {cA : ClassId} {n j : Nat} {f : Nat → Int32} (hc : c i = .inl (cA, n, .inl f)) (hj : j < n) (hn : n < 2 ^ 31) : aI M cA (ads i) (nI j) = some (f j) := by
  have h1 := in_nI hj hn
  simp only [aI, h.1 i hi, hc]
  rw [if_pos ⟨trivial, h1⟩, nI_clamp (by omega)]
theorem Rep.rL (h : Rep N ads c M) (hi : i < N) {cA : ClassId} {n j : Nat} {f : Nat → Int64} (hc : c i = .inl (cA, n, .inr (.inl f))) (hj : j < n) (hn : n < 2 ^ 31) : aL M cA (ads i) (nI j) = some (f j) := by
  have h1 := in_nI hj hn
  simp only [aL, h.1 i hi, hc]
  rw [if_pos ⟨trivial, h1⟩, nI_clamp (by omega)]
theorem Rep.rQ (h : Rep N ads c M) (hi : i < N) {cA : ClassId} {n j : Nat} {f : Nat → Option Nat} (hc : c i = .inl (cA, n, .inr (.inr (.inr (.inr f))))) (hj : j < n) (hn : n < 2 ^ 31) : aQ M cA (ads i) (nI j) = some (f j) := by
  have h1 := in_nI hj hn
  simp only [aQ, h.1 i hi, hc]
  rw [if_pos ⟨trivial, h1⟩, nI_clamp (by omega)]
theorem Rep.wI (h : Rep N ads c M) (hi : i < N) {cA : ClassId} {n j : Nat} {f : Nat → Int32} (hc : c i = .inl (cA, n, .inl f)) (hj : j < n) (hn : n < 2 ^ 31) (x : Int32) : sI M cA (ads i) (nI j) x = some (mup M (ads i) (.inl (cA, n, .inl (upd f j x)))) := by
  have h1 := in_nI hj hn
  simp only [sI, h.1 i hi, hc]
  rw [if_pos ⟨trivial, h1⟩, nI_clamp (by omega)]
theorem Rep.wL (h : Rep N ads c M) (hi : i < N) {cA : ClassId} {n j : Nat} {f : Nat → Int64} (hc : c i = .inl (cA, n, .inr (.inl f))) (hj : j < n) (hn : n < 2 ^ 31) (x : Int64) : sL M cA (ads i) (nI j) x = some (mup M (ads i) (.inl (cA, n, .inr (.inl (vp_updL f j x))))) := by
  have h1 := in_nI hj hn
  simp only [sL, h.1 i hi, hc]
  rw [if_pos ⟨trivial, h1⟩, nI_clamp (by omega)]
theorem Rep.wR (h : Rep N ads c M) (hi : i < N) {cA : ClassId} {n j : Nat} {f : Nat → Option Nat} (hc : c i = .inl (cA, n, .inr (.inr (.inr (.inr f))))) (hj : j < n) (hn : n < 2 ^ 31) (x : Nat) : sR M cA (ads i) (nI j) x = some (mup M (ads i) (.inl (cA, n, .inr (.inr (.inr (.inr (va_up f j (some x)))))))) := by
  have h1 := in_nI hj hn
  simp only [sR, h.1 i hi, hc]
  rw [if_pos ⟨trivial, h1⟩, nI_clamp (by omega)]
theorem up_self {α : Type} {f : Nat → α} {k : Nat} {v : α} : va_up f k v k = v := by simp [va_up]
theorem up_ne {α : Type} {f : Nat → α} {k j : Nat} {v : α} (h : j ≠ k) : va_up f k v j = f j := by simp [va_up, h]
end REP
/-! a text: three places one behind the other -/
def TextC (g : Nat → ClassId) (ads : Nat → Nat) (c : Nat → va_E) (i : Nat) (sg : Nat → Int32) (pt : Nat → Int64) (n k : Nat) : Prop :=
  c i = .inr (1, [.ref (ads (i + 1)), .ref (ads (i + 2)), .int (nI n), .int (nI k)]) ∧ c (i + 1) = .inl (g 0, 60, .inl sg) ∧ c (i + 2) = .inl (g 1, 6, .inr (.inl pt))
