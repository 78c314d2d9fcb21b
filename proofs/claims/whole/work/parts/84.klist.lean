/-! the kept topics in both: the same entries -/
section KL
variable {K Km : List (List Int32 × Int32)} {tp : List Int32} {v : Int32}
theorem nodup_le : ∀ (a b : List (List Int32 × Int32)), a.Nodup → (∀ x ∈ a, x ∈ b) → a.length ≤ b.length := by
  intro a
  induction a with
  | nil => intros; exact Nat.zero_le _
  | cons x a ih =>
    intro b hd hs
    obtain ⟨hx, hd'⟩ := List.nodup_cons.mp hd
    have h1 := hs x List.mem_cons_self
    have h2 := ih (b.erase x) hd' (fun y hy => (List.mem_erase_of_ne (show y ≠ x from fun e => hx (e ▸ hy))).mpr (hs y (List.mem_cons_of_mem _ hy)))
    rw [List.length_erase_of_mem h1] at h2
    have := List.length_pos_of_mem h1
    rw [List.length_cons]
    omega
def KP (K Km : List (List Int32 × Int32)) : Prop := sorted K ∧ (∀ e ∈ K, okE e) ∧ (∀ e, e ∈ Km ↔ e ∈ K) ∧ (Km.map Prod.fst).Nodup
theorem sorted_nodup (h : sorted K) : K.Nodup := List.Pairwise.imp (fun {a b} hab e => by rw [e, ltL_irrefl] at hab; cases hab) h
theorem keys_nodup (h : (Km.map Prod.fst).Nodup) : Km.Nodup := List.Pairwise.imp (fun {a b} hab e => hab (by rw [e])) (List.pairwise_map.mp h)
theorem KP.flen (h : KP K Km) (p : List Int32 × Int32 → Bool) : (K.filter p).length = (Km.filter p).length := by
  have h1 := sorted_nodup h.1
  have h2 := keys_nodup h.2.2.2
  refine Nat.le_antisymm (nodup_le _ _ (h1.filter p) (fun x hx => ?_)) (nodup_le _ _ (h2.filter p) (fun x hx => ?_))
  · rw [List.mem_filter] at hx ⊢; exact ⟨(h.2.2.1 x).mpr hx.1, hx.2⟩
  · rw [List.mem_filter] at hx ⊢; exact ⟨(h.2.2.1 x).mp hx.1, hx.2⟩
theorem KP.len (h : KP K Km) : K.length = Km.length := by
  have h1 := sorted_nodup h.1
  have h2 := keys_nodup h.2.2.2
  exact Nat.le_antisymm (nodup_le _ _ h1 (fun x hx => (h.2.2.1 x).mpr hx)) (nodup_le _ _ h2 (fun x hx => (h.2.2.1 x).mp hx))
theorem KP.at (h : KP K Km) : isAtB K tp (pf K tp) = true ↔ ∃ e ∈ Km, e.1 = tp := by
  rw [isAt_mem h.1]
  constructor
  · rintro ⟨u, hu⟩; exact ⟨(tp, u), (h.2.2.1 _).mpr hu, rfl⟩
  · rintro ⟨e, he, rfl⟩; exact ⟨e.2, (h.2.2.1 _).mp he⟩
theorem key_uniq (h : (Km.map Prod.fst).Nodup) {e e' : List Int32 × Int32} (he : e ∈ Km) (he' : e' ∈ Km) (hk : e.1 = e'.1) : e = e' := by
  induction Km with
  | nil => exact (List.not_mem_nil he).elim
  | cons x Km ih =>
    rw [List.map_cons, List.nodup_cons] at h
    rcases List.mem_cons.mp he with a | a <;> rcases List.mem_cons.mp he' with b | b
    · rw [a, b]
    · exact absurd (by rw [← a, hk]; exact List.mem_map_of_mem b) h.1
    · exact absurd (by rw [← b, ← hk]; exact List.mem_map_of_mem a) h.1
    · exact ih h.2 a b
theorem KP.put (h : KP K Km) (ho : okE (tp, v)) (hn : ∀ e ∈ Km, e.1 ≠ tp) : KP (insK tp v K) (Km ++ [(tp, v)]) := by
  refine ⟨ins_sorted h.1, fun e he => ?_, fun e => ?_, ?_⟩
  · rcases (ins_mem h.1 e).mp he with a | a
    · rw [a]; exact ho
    · exact h.2.1 e a.1
  · rw [ins_mem h.1, List.mem_append, List.mem_singleton, h.2.2.1]
    constructor
    · rintro (a | a)
      · exact Or.inr ⟨a, hn e ((h.2.2.1 e).mpr a)⟩
      · exact Or.inl a
    · rintro (a | a)
      · exact Or.inr a
      · exact Or.inl a.1
  · rw [List.map_append, List.nodup_append]
    refine ⟨h.2.2.2, by simp, fun a ha b hb => ?_⟩
    simp at hb
    obtain ⟨e, he, rfl⟩ := List.mem_map.mp ha
    rw [hb]
    exact hn e he
theorem KP.set (h : KP K Km) (ho : okE (tp, v)) {k : Nat} (hk : k < Km.length) (hkt : (Km[k]).1 = tp) : KP (insK tp v K) (Km.set k (tp, v)) := by
  refine ⟨ins_sorted h.1, fun e he => ?_, fun e => ?_, ?_⟩
  · rcases (ins_mem h.1 e).mp he with a | a
    · rw [a]; exact ho
    · exact h.2.1 e a.1
  · rw [ins_mem h.1, ← h.2.2.1]
    constructor
    · intro he
      obtain ⟨j, hj⟩ := List.getElem?_of_mem he
      rcases set_get hj with ⟨a, b⟩ | ⟨a, b⟩
      · exact Or.inl b
      · refine Or.inr ⟨List.mem_of_getElem? b, fun z => ?_⟩
        have hjl := (List.getElem?_eq_some_iff.mp b).1
        have hje := (List.getElem?_eq_some_iff.mp b).2
        have : j = k := by
          have h1 : (Km.map Prod.fst)[j]? = some tp := by rw [List.getElem?_map, b]; simp [z]
          have h2 : (Km.map Prod.fst)[k]? = some tp := by rw [List.getElem?_map, List.getElem?_eq_getElem hk]; simp [hkt]
          obtain ⟨a1, a2⟩ := List.getElem?_eq_some_iff.mp h1
          obtain ⟨a3, a4⟩ := List.getElem?_eq_some_iff.mp h2
          exact (List.getElem_inj h.2.2.2).mp (a2.trans a4.symm)
        exact a this
    · rintro (a | ⟨a, b⟩)
      · rw [a]; exact List.mem_iff_getElem?.mpr ⟨k, by rw [List.getElem?_set_self hk]⟩
      · obtain ⟨j, hj⟩ := List.getElem?_of_mem a
        have hjk : j ≠ k := fun z => b (by
          subst z
          obtain ⟨_, e2⟩ := List.getElem?_eq_some_iff.mp hj
          rw [← e2]; exact hkt)
        exact List.mem_iff_getElem?.mpr ⟨j, by rw [List.getElem?_set_ne (Ne.symm hjk)]; exact hj⟩
  · have : (Km.set k (tp, v)).map Prod.fst = Km.map Prod.fst := by
      rw [List.map_set]
      apply List.ext_getElem?
      intro i
      by_cases hik : i = k
      · subst hik
        rw [List.getElem?_set_self (by rw [List.length_map]; exact hk), List.getElem?_map, List.getElem?_eq_getElem hk]
        simp [hkt]
      · rw [List.getElem?_set_ne (Ne.symm hik)]
    rw [this]; exact h.2.2.2
theorem KP.cut (h : KP K Km) {k : Nat} (hk : k < Km.length) (hkt : (Km[k]).1 = tp) : KP (delK tp K) (cutK Km k) := by
  have inj : ∀ {i j : Nat} {e e' : List Int32 × Int32}, Km[i]? = some e → Km[j]? = some e' → e.1 = e'.1 → i = j := fun {i j e e'} hi hj he => by
    have h1 : (Km.map Prod.fst)[i]? = some e.1 := by rw [List.getElem?_map, hi]; rfl
    have h2 : (Km.map Prod.fst)[j]? = some e.1 := by rw [List.getElem?_map, hj, he]; rfl
    obtain ⟨a1, a2⟩ := List.getElem?_eq_some_iff.mp h1
    obtain ⟨a3, a4⟩ := List.getElem?_eq_some_iff.mp h2
    exact (List.getElem_inj h.2.2.2).mp (a2.trans a4.symm)
  have hkk : Km[k]? = some (Km[k]) := List.getElem?_eq_getElem hk
  have hlen : (cutK Km k).length = Km.length - 1 := by unfold cutK; rw [List.length_set, List.length_take]; omega
  have mem : ∀ e, e ∈ cutK Km k ↔ e ∈ Km ∧ e.1 ≠ tp := fun e => by
    constructor
    · intro he
      obtain ⟨i, hi⟩ := List.getElem?_of_mem he
      obtain ⟨hil, ⟨a, b⟩ | ⟨a, b⟩⟩ := cutK_get hi
      · refine ⟨List.mem_of_getElem? b, fun z => ?_⟩
        have := inj b hkk (by rw [hkt]; exact z)
        omega
      · exact ⟨List.mem_of_getElem? b, fun z => a (inj b hkk (by rw [hkt]; exact z))⟩
    · rintro ⟨he, hne⟩
      obtain ⟨i, hi⟩ := List.getElem?_of_mem he
      have hil := (List.getElem?_eq_some_iff.mp hi).1
      have hik : i ≠ k := fun z => hne (by
        subst z
        obtain ⟨_, e2⟩ := List.getElem?_eq_some_iff.mp hi
        rw [← e2]; exact hkt)
      refine List.mem_iff_getElem?.mpr ?_
      unfold cutK
      by_cases hl : i = Km.length - 1
      · refine ⟨k, ?_⟩
        rw [List.getElem?_set_self (by rw [List.length_take]; omega), ← hl, List.getD_eq_getElem?_getD, hi]; rfl
      · exact ⟨i, by rw [List.getElem?_set_ne (Ne.symm hik), List.getElem?_take_of_lt (by omega)]; exact hi⟩
  refine ⟨del_sorted h.1, fun e he => h.2.1 e ((del_mem h.1 e).mp he).1, fun e => by rw [mem, del_mem h.1, h.2.2.1], ?_⟩
  refine List.pairwise_iff_getElem.mpr ?_
  intro i j hi hj hij z
  have hi' : i < (cutK Km k).length := by have := hi; rw [List.length_map] at this; exact this
  have hj' : j < (cutK Km k).length := by have := hj; rw [List.length_map] at this; exact this
  have z2 : ((cutK Km k)[i]).1 = ((cutK Km k)[j]).1 := by rw [List.getElem_map, List.getElem_map] at z; exact z
  obtain ⟨_, a⟩ := cutK_get (List.getElem?_eq_getElem hi')
  obtain ⟨_, b⟩ := cutK_get (List.getElem?_eq_getElem hj')
  rcases a with ⟨a1, a2⟩ | ⟨a1, a2⟩ <;> rcases b with ⟨b1, b2⟩ | ⟨b1, b2⟩
  · omega
  · have := inj a2 b2 z2; omega
  · have := inj a2 b2 z2; omega
  · have := inj a2 b2 z2; omega
theorem KP.del_none (h : KP K Km) (hn : ∀ e ∈ Km, e.1 ≠ tp) : delK tp K = K := del_no (by
  cases hb : isAtB K tp (pf K tp)
  · rfl
  · obtain ⟨e, he, h2⟩ := h.at.mp hb
    exact absurd h2 (hn e he))
theorem ahead_idx : ∀ (F : List (List Int32 × Int32)) (n : Nat) (e : List Int32 × Int32), sorted F → F[n]? = some e → (F.filter (fun x => ltL x.1 e.1)).length = n := by
  intro F
  induction F with
  | nil => intro n e _ h; cases h
  | cons x F ih =>
    intro n e hs h
    obtain ⟨hx, hs'⟩ := List.pairwise_cons.mp hs
    cases n with
    | zero =>
      have e1 : x = e := by simpa using h
      subst e1
      rw [List.filter_cons, ltL_irrefl]
      have : F.filter (fun y => ltL y.1 x.1) = [] := List.filter_eq_nil_iff.mpr (fun y hy => by rw [ltL_asymm (hx y hy)]; simp)
      simp [this]
    | succ n =>
      have h' : F[n]? = some e := by simpa using h
      have h1 := hx e (List.mem_of_getElem? h')
      rw [List.filter_cons, h1]
      simp [ih n e hs' h']
theorem ahd_idx {ps : List Int64} (h : KP K Km) {n : Nat} {e : List Int32 × Int32} (hF : (K.filter (fitK ps))[n]? = some e) : ahd Km ps e = n := by
  unfold ahd
  rw [← h.flen]
  have hs : sorted (K.filter (fitK ps)) := List.Pairwise.filter _ h.1
  rw [← ahead_idx _ n e hs hF, List.filter_filter]
  congr 2
  funext x
  exact Bool.and_comm _ _
theorem ahd_mem {ps : List Int64} (h : KP K Km) {e : List Int32 × Int32} (he : e ∈ Km) (hf : fitK ps e = true) : ∃ n, (K.filter (fitK ps))[n]? = some e ∧ ahd Km ps e = n := by
  obtain ⟨n, hn⟩ := List.getElem?_of_mem (List.mem_filter.mpr ⟨(h.2.2.1 e).mp he, hf⟩)
  exact ⟨n, hn, ahd_idx h hn⟩
end KL
