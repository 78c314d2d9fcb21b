/-! A memory as a function: what the world holds at an address. Rows over it, out of the kit's rows over lists. -/
abbrev Mem : Type := Nat → Option va_E
def mup (M : Mem) (a : Nat) (e : va_E) : Mem := fun q => if q = a then some e else M q
theorem mup_self {M : Mem} {a : Nat} {e : va_E} : mup M a e a = some e := by simp [mup]
theorem mup_ne {M : Mem} {a b : Nat} {e : va_E} (h : b ≠ a) : mup M a e b = M b := by simp [mup, h]
def mRep (M : Mem) (ws : va_W) : Prop := ∀ (a : Nat) (e : va_E), M a = some e ↔ ∃ k : Nat, ws[k]? = some (a, e)
def mW (D : va_G) (cl : List vw_C) (A : Nat → Prop) (M : Mem) (H : Heap) : Prop := ∃ ws : va_W, mRep M ws ∧ va_P D cl ws H ∧ va_D A ws
def mA (M : Mem) (sz : Nat) : Nat → Prop := fun q => (∃ e : va_E, M q = some e) ∨ sz ≤ q
theorem mA_of {M : Mem} {ws : va_W} (h : mRep M ws) {sz q : Nat} (hq : va_A ws sz q) : mA M sz q := by
  rcases hq with ⟨k, e, hk⟩ | hq
  · exact Or.inl ⟨e, (h q e).mpr ⟨k, hk⟩⟩
  · exact Or.inr hq
theorem mRep.set {A : Nat → Prop} {M : Mem} {ws : va_W} (h : mRep M ws) (hD : va_D A ws) {k a : Nat} {e e' : va_E} (hk : ws[k]? = some (a, e)) : mRep (mup M a e') (ws.set k (a, e')) := by
  have hl := (List.getElem?_eq_some_iff.mp hk).1
  intro q x
  by_cases hq : q = a
  · subst hq
    rw [mup_self]
    constructor
    · intro hx
      exact ⟨k, by rw [List.getElem?_set_self hl, Option.some.inj hx]⟩
    · rintro ⟨j, hj⟩
      by_cases hjk : j = k
      · subst hjk
        rw [List.getElem?_set_self hl] at hj
        exact congrArg some (congrArg Prod.snd (Option.some.inj hj))
      · rw [List.getElem?_set_ne (Ne.symm hjk)] at hj
        exact absurd (hD.1 j k _ _ hj hk rfl) hjk
  · rw [mup_ne hq, h q x]
    constructor
    · rintro ⟨j, hj⟩
      have hjk : j ≠ k := fun z => hq (by subst z; rw [hk] at hj; exact (congrArg Prod.fst (Option.some.inj hj)).symm)
      exact ⟨j, by rw [List.getElem?_set_ne (Ne.symm hjk)]; exact hj⟩
    · rintro ⟨j, hj⟩
      by_cases hjk : j = k
      · subst hjk
        rw [List.getElem?_set_self hl] at hj
        exact absurd (congrArg Prod.fst (Option.some.inj hj)).symm hq
      · rw [List.getElem?_set_ne (Ne.symm hjk)] at hj
        exact ⟨j, hj⟩
theorem mRep.fresh {A : Nat → Prop} {M : Mem} {ws : va_W} (h : mRep M ws) {q : Nat} {e : va_E} (hD : va_D A (ws ++ [(q, e)])) : M q = none := by
  cases hM : M q with
  | none => rfl
  | some x =>
    obtain ⟨k, hk⟩ := (h q x).mp hM
    have hl := (List.getElem?_eq_some_iff.mp hk).1
    have h1 : (ws ++ [(q, e)])[k]? = some (q, x) := by rw [List.getElem?_append_left hl]; exact hk
    have h2 : (ws ++ [(q, e)])[ws.length]? = some (q, e) := by rw [List.getElem?_append_right (Nat.le_refl _), Nat.sub_self]; rfl
    have := hD.1 k ws.length _ _ h1 h2 rfl
    omega
theorem mRep.push {M : Mem} {ws : va_W} (h : mRep M ws) {q : Nat} {e : va_E} (hq : M q = none) : mRep (mup M q e) (ws ++ [(q, e)]) := by
  intro b x
  have h2 : (ws ++ [(q, e)])[ws.length]? = some (q, e) := by rw [List.getElem?_append_right (Nat.le_refl _), Nat.sub_self]; rfl
  have key : ∀ k : Nat, (ws ++ [(q, e)])[k]? = some (b, x) → ws[k]? = some (b, x) ∨ (q, e) = (b, x) := by
    intro k hk
    rcases List.mem_append.mp (List.mem_of_getElem? hk) with hm | hm
    · by_cases hl : k < ws.length
      · rw [List.getElem?_append_left hl] at hk; exact Or.inl hk
      · rw [List.getElem?_append_right (by omega)] at hk
        exact Or.inr (List.mem_singleton.mp (List.mem_of_getElem? hk)).symm
    · exact Or.inr (List.mem_singleton.mp hm).symm
  by_cases hb : b = q
  · subst hb
    rw [mup_self]
    constructor
    · intro hx
      exact ⟨ws.length, by rw [h2, Option.some.inj hx]⟩
    · rintro ⟨k, hk⟩
      rcases key k hk with h3 | h3
      · have := (h b x).mpr ⟨k, h3⟩
        rw [hq] at this
        cases this
      · exact congrArg some (congrArg Prod.snd h3)
  · rw [mup_ne hb, h b x]
    constructor
    · rintro ⟨k, hk⟩
      have hl := (List.getElem?_eq_some_iff.mp hk).1
      exact ⟨k, by rw [List.getElem?_append_left hl]; exact hk⟩
    · rintro ⟨k, hk⟩
      rcases key k hk with h3 | h3
      · exact ⟨k, h3⟩
      · exact absurd (congrArg Prod.fst h3).symm hb
theorem mW.weaken {D : va_G} {cl : List vw_C} {A B : Nat → Prop} {M : Mem} {H : Heap} (h : mW D cl A M H) (hAB : ∀ q, A q → B q) : mW D cl B M H := by
  obtain ⟨ws, h1, h2, h3⟩ := h
  exact ⟨ws, h1, h2, h3.weaken (fun _ _ _ z => hAB _ z)⟩
theorem mW.self {D : va_G} {cl : List vw_C} {A : Nat → Prop} {M : Mem} {H : Heap} (h : mW D cl A M H) (sz : Nat) : mW D cl (mA M sz) M H := by
  obtain ⟨ws, h1, h2, h3⟩ := h
  exact ⟨ws, h1, h2, (h3.self (sz := sz)).weaken (fun _ _ _ z => mA_of h1 z)⟩
theorem mW.inA {D : va_G} {cl : List vw_C} {A : Nat → Prop} {M : Mem} {H : Heap} (h : mW D cl A M H) {q : Nat} {e : va_E} (hq : M q = some e) : A q := by
  obtain ⟨ws, h1, h2, h3⟩ := h
  obtain ⟨k, hk⟩ := (h1 q e).mp hq
  exact h3.2 k _ hk
/-! reads and writes, as partial functions -/
def gV (M : Mem) (ci a k : Nat) : Option Value := match M a with
  | some (.inr (c, fs)) => if c = ci then fs[k]? else none
  | _ => none
def gI (M : Mem) (ci a k : Nat) : Option Int32 := match gV M ci a k with
  | some (.int x) => some x
  | _ => none
def gL (M : Mem) (ci a k : Nat) : Option Int64 := match gV M ci a k with
  | some (.long x) => some x
  | _ => none
def gR (M : Mem) (ci a k : Nat) : Option Nat := match gV M ci a k with
  | some (.ref x) => some x
  | _ => none
def pV (M : Mem) (ci a k : Nat) (v : Value) : Option Mem := match M a with
  | some (.inr (c, fs)) => if c = ci ∧ k < fs.length then some (mup M a (.inr (ci, fs.set k v))) else none
  | _ => none
def isO (M : Mem) (ci a : Nat) : Prop := ∃ fs : List Value, M a = some (.inr (ci, fs))
def aN (M : Mem) (cA : ClassId) (a : Nat) : Option Nat := match M a with
  | some (.inl (c, n, _)) => if c = cA then some n else none
  | _ => none
def aI (M : Mem) (cA : ClassId) (a : Nat) (i : Int32) : Option Int32 := match M a with
  | some (.inl (c, n, .inl f)) => if c = cA ∧ ¬ (i < 0 ∨ n ≤ i.toNatClampNeg) then some (f i.toNatClampNeg) else none
  | _ => none
def aL (M : Mem) (cA : ClassId) (a : Nat) (i : Int32) : Option Int64 := match M a with
  | some (.inl (c, n, .inr (.inl f))) => if c = cA ∧ ¬ (i < 0 ∨ n ≤ i.toNatClampNeg) then some (f i.toNatClampNeg) else none
  | _ => none
def aQ (M : Mem) (cA : ClassId) (a : Nat) (i : Int32) : Option (Option Nat) := match M a with
  | some (.inl (c, n, .inr (.inr (.inr (.inr f))))) => if c = cA ∧ ¬ (i < 0 ∨ n ≤ i.toNatClampNeg) then some (f i.toNatClampNeg) else none
  | _ => none
def sI (M : Mem) (cA : ClassId) (a : Nat) (i x : Int32) : Option Mem := match M a with
  | some (.inl (c, n, .inl f)) => if c = cA ∧ ¬ (i < 0 ∨ n ≤ i.toNatClampNeg) then some (mup M a (.inl (cA, n, .inl (upd f i.toNatClampNeg x)))) else none
  | _ => none
def sL (M : Mem) (cA : ClassId) (a : Nat) (i : Int32) (x : Int64) : Option Mem := match M a with
  | some (.inl (c, n, .inr (.inl f))) => if c = cA ∧ ¬ (i < 0 ∨ n ≤ i.toNatClampNeg) then some (mup M a (.inl (cA, n, .inr (.inl (vp_updL f i.toNatClampNeg x))))) else none
  | _ => none
def sR (M : Mem) (cA : ClassId) (a : Nat) (i : Int32) (v : Nat) : Option Mem := match M a with
  | some (.inl (c, n, .inr (.inr (.inr (.inr f))))) => if c = cA ∧ ¬ (i < 0 ∨ n ≤ i.toNatClampNeg) then some (mup M a (.inl (cA, n, .inr (.inr (.inr (.inr (va_up f i.toNatClampNeg (some v)))))))) else none
  | _ => none
theorem gV_spec {M : Mem} {ci a k : Nat} {v : Value} (h : gV M ci a k = some v) : ∃ fs : List Value, M a = some (.inr (ci, fs)) ∧ fs[k]? = some v := by
  unfold gV at h
  split at h
  · rename_i c fs he
    split at h
    · rename_i hc; subst hc; exact ⟨fs, he, h⟩
    · cases h
  · cases h
theorem gI_spec {M : Mem} {ci a k : Nat} {x : Int32} (h : gI M ci a k = some x) : gV M ci a k = some (.int x) := by
  unfold gI at h
  split at h
  · rename_i y he; cases h; exact he
  · cases h
theorem gL_spec {M : Mem} {ci a k : Nat} {x : Int64} (h : gL M ci a k = some x) : gV M ci a k = some (.long x) := by
  unfold gL at h
  split at h
  · rename_i y he; cases h; exact he
  · cases h
theorem gR_spec {M : Mem} {ci a k : Nat} {x : Nat} (h : gR M ci a k = some x) : gV M ci a k = some (.ref x) := by
  unfold gR at h
  split at h
  · rename_i y he; cases h; exact he
  · cases h
theorem pV_spec {M M' : Mem} {ci a k : Nat} {v : Value} (h : pV M ci a k v = some M') : ∃ fs : List Value, M a = some (.inr (ci, fs)) ∧ k < fs.length ∧ M' = mup M a (.inr (ci, fs.set k v)) := by
  unfold pV at h
  split at h
  · rename_i c fs he
    split at h
    · rename_i hc; obtain ⟨rfl, hk⟩ := hc; cases h; exact ⟨fs, he, hk, rfl⟩
    · cases h
  · cases h
theorem aN_spec {M : Mem} {cA : ClassId} {a n : Nat} (h : aN M cA a = some n) : ∃ f, M a = some (.inl (cA, n, f)) := by
  unfold aN at h
  split at h
  · rename_i c n' f he
    split at h
    · rename_i hc; subst hc; cases h; exact ⟨f, he⟩
    · cases h
  · cases h
theorem aI_spec {M : Mem} {cA : ClassId} {a : Nat} {i x : Int32} (h : aI M cA a i = some x) : ∃ (n : Nat) (f : Nat → Int32), M a = some (.inl (cA, n, .inl f)) ∧ vp_in i n ∧ f i.toNatClampNeg = x := by
  unfold aI at h
  split at h
  · rename_i c n f he
    split at h
    · rename_i hc; obtain ⟨rfl, hk⟩ := hc; cases h; exact ⟨n, f, he, hk, rfl⟩
    · cases h
  · cases h
theorem aL_spec {M : Mem} {cA : ClassId} {a : Nat} {i : Int32} {x : Int64} (h : aL M cA a i = some x) : ∃ (n : Nat) (f : Nat → Int64), M a = some (.inl (cA, n, .inr (.inl f))) ∧ vp_in i n ∧ f i.toNatClampNeg = x := by
  unfold aL at h
  split at h
  · rename_i c n f he
    split at h
    · rename_i hc; obtain ⟨rfl, hk⟩ := hc; cases h; exact ⟨n, f, he, hk, rfl⟩
    · cases h
  · cases h
theorem aQ_spec {M : Mem} {cA : ClassId} {a : Nat} {i : Int32} {x : Option Nat} (h : aQ M cA a i = some x) : ∃ (n : Nat) (f : Nat → Option Nat), M a = some (.inl (cA, n, .inr (.inr (.inr (.inr f))))) ∧ vp_in i n ∧ f i.toNatClampNeg = x := by
  unfold aQ at h
  split at h
  · rename_i c n f he
    split at h
    · rename_i hc; obtain ⟨rfl, hk⟩ := hc; cases h; exact ⟨n, f, he, hk, rfl⟩
    · cases h
  · cases h
theorem sI_spec {M M' : Mem} {cA : ClassId} {a : Nat} {i x : Int32} (h : sI M cA a i x = some M') : ∃ (n : Nat) (f : Nat → Int32), M a = some (.inl (cA, n, .inl f)) ∧ vp_in i n ∧ M' = mup M a (.inl (cA, n, .inl (upd f i.toNatClampNeg x))) := by
  unfold sI at h
  split at h
  · rename_i c n f he
    split at h
    · rename_i hc; obtain ⟨rfl, hk⟩ := hc; cases h; exact ⟨n, f, he, hk, rfl⟩
    · cases h
  · cases h
theorem sL_spec {M M' : Mem} {cA : ClassId} {a : Nat} {i : Int32} {x : Int64} (h : sL M cA a i x = some M') : ∃ (n : Nat) (f : Nat → Int64), M a = some (.inl (cA, n, .inr (.inl f))) ∧ vp_in i n ∧ M' = mup M a (.inl (cA, n, .inr (.inl (vp_updL f i.toNatClampNeg x)))) := by
  unfold sL at h
  split at h
  · rename_i c n f he
    split at h
    · rename_i hc; obtain ⟨rfl, hk⟩ := hc; cases h; exact ⟨n, f, he, hk, rfl⟩
    · cases h
  · cases h
theorem sR_spec {M M' : Mem} {cA : ClassId} {a v : Nat} {i : Int32} (h : sR M cA a i v = some M') : ∃ (n : Nat) (f : Nat → Option Nat), M a = some (.inl (cA, n, .inr (.inr (.inr (.inr f))))) ∧ vp_in i n ∧ M' = mup M a (.inl (cA, n, .inr (.inr (.inr (.inr (va_up f i.toNatClampNeg (some v))))))) := by
  unfold sR at h
  split at h
  · rename_i c n f he
    split at h
    · rename_i hc; obtain ⟨rfl, hk⟩ := hc; cases h; exact ⟨n, f, he, hk, rfl⟩
    · cases h
  · cases h
