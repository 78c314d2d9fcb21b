/-! the search by breadth, abstractly: a queue of states with their lengths -/
section BFS
variable {ω : Type} (W : ω → Prop) (start : Nat → Prop) (succ : Nat → ω → Nat → Prop) (hit : Nat → ω → Prop)
def rch : Nat → Nat → Prop
  | 0, s => start s
  | d + 1, s' => ∃ s w, rch d s ∧ W w ∧ succ s w s'
def gT (n : Nat) : Prop := ∃ s w, rch W start succ n s ∧ W w ∧ hit s w
def bcl (Q : List (Nat × Nat)) (a : Nat × Nat) (w : ω) : Prop := ¬ hit a.1 w ∧ ∀ s', succ a.1 w s' → ∃ d', d' ≤ a.2 + 1 ∧ (s', d') ∈ Q
def BI (Q : List (Nat × Nat)) (n : Nat) (V : ω → Prop) : Prop :=
  (∀ e ∈ Q, rch W start succ e.2 e.1) ∧ (∀ s, start s → (s, 0) ∈ Q) ∧ (∀ (i j : Nat) (a b : Nat × Nat), i ≤ j → Q[i]? = some a → Q[j]? = some b → a.2 ≤ b.2) ∧
  (∀ (i : Nat) (a : Nat × Nat), Q[i]? = some a → (i < n → ∀ w, W w → bcl succ hit Q a w) ∧ (i = n → ∀ w, V w → bcl succ hit Q a w)) ∧ ∀ (a b : Nat × Nat), Q[n]? = some a → b ∈ Q → b.2 ≤ a.2 + 1
variable {W start succ hit} {Q : List (Nat × Nat)} {n : Nat} {V : ω → Prop} {s D : Nat} {w : ω}
theorem BI.init (h1 : ∀ e ∈ Q, e.2 = 0 ∧ start e.1) (h2 : ∀ s, start s → (s, 0) ∈ Q) : BI W start succ hit Q 0 (fun _ => False) := by
  refine ⟨fun e he => ?_, h2, fun i j a b _ ha hb => ?_, fun i a _ => ⟨fun h => absurd h (Nat.not_lt_zero _), fun _ w h => h.elim⟩, fun a b ha hb => ?_⟩
  · rw [(h1 e he).1]; exact (h1 e he).2
  · rw [(h1 a (List.mem_of_getElem? ha)).1]; exact Nat.zero_le _
  · rw [(h1 b hb).1]; exact Nat.zero_le _
theorem app_get {α : Type} {Q : List α} {x a : α} {i : Nat} (h : (Q ++ [x])[i]? = some a) : Q[i]? = some a ∨ (i = Q.length ∧ a = x) := by
  rcases Nat.lt_trichotomy i Q.length with z | z | z
  · rw [List.getElem?_append_left z] at h; exact Or.inl h
  · subst z; rw [List.getElem?_append_right (Nat.le_refl _), Nat.sub_self] at h; exact Or.inr ⟨rfl, (Option.some.inj h).symm⟩
  · rw [List.getElem?_append_right (by omega), List.getElem?_eq_none (by simp; omega)] at h; cases h
theorem BI.add (h : BI W start succ hit Q n V) (hq : Q[n]? = some (s, D)) (hw : W w) {s' : Nat} (hs : succ s w s') : BI W start succ hit (Q ++ [(s', D + 1)]) n V := by
  have hn := (List.getElem?_eq_some_iff.mp hq).1
  have mono : ∀ a w, bcl succ hit Q a w → bcl succ hit (Q ++ [(s', D + 1)]) a w := fun a w hb => ⟨hb.1, fun s'' h'' => by
    obtain ⟨d', h1, h2⟩ := hb.2 s'' h''
    exact ⟨d', h1, List.mem_append_left _ h2⟩⟩
  refine ⟨fun e he => ?_, fun s hs => List.mem_append_left _ (h.2.1 s hs), fun i j a b hij ha hb => ?_, fun i a ha => ⟨fun hi w hw => ?_, fun hi w hw => ?_⟩, fun a b ha hb => ?_⟩
  · rcases List.mem_append.mp he with z | z
    · exact h.1 e z
    · rw [List.mem_singleton.mp z]
      exact ⟨s, w, h.1 _ (List.mem_of_getElem? hq), hw, hs⟩
  · rcases app_get ha with za | ⟨za, za2⟩
    · rcases app_get hb with zb | ⟨zb, zb2⟩
      · exact h.2.2.1 i j a b hij za zb
      · rw [zb2]; exact h.2.2.2.2 _ a hq (List.mem_of_getElem? za)
    · rcases app_get hb with zb | ⟨zb, zb2⟩
      · have := (List.getElem?_eq_some_iff.mp zb).1
        omega
      · rw [za2, zb2]; exact Nat.le_refl _
  · rcases app_get ha with za | ⟨za, za2⟩
    · exact mono a w (((h.2.2.2.1 i a za).1 hi) w hw)
    · omega
  · rcases app_get ha with za | ⟨za, za2⟩
    · exact mono a w (((h.2.2.2.1 i a za).2 hi) w hw)
    · omega
  · rcases app_get ha with za | ⟨za, za2⟩
    · rcases List.mem_append.mp hb with z | z
      · exact h.2.2.2.2 a b za z
      · rw [List.mem_singleton.mp z]
        rw [hq] at za
        rw [← Option.some.inj za]
        exact Nat.le_refl _
    · omega
theorem BI.word (h : BI W start succ hit Q n V) (hq : Q[n]? = some (s, D)) (hw : bcl succ hit Q (s, D) w) : BI W start succ hit Q n (fun x => V x ∨ x = w) := by
  refine ⟨h.1, h.2.1, h.2.2.1, fun i a ha => ⟨(h.2.2.2.1 i a ha).1, fun hi x hx => ?_⟩, h.2.2.2.2⟩
  rcases hx with hx | hx
  · exact (h.2.2.2.1 i a ha).2 hi x hx
  · subst hi
    rw [hq] at ha
    rw [← Option.some.inj ha, hx]
    exact hw
theorem BI.weak {V' : ω → Prop} (h : BI W start succ hit Q n V) (hV : ∀ w, V' w → V w) : BI W start succ hit Q n V' :=
  ⟨h.1, h.2.1, h.2.2.1, fun i a ha => ⟨(h.2.2.2.1 i a ha).1, fun hi x hx => (h.2.2.2.1 i a ha).2 hi x (hV x hx)⟩, h.2.2.2.2⟩
theorem BI.next (h : BI W start succ hit Q n V) (hV : ∀ w, W w → V w) : BI W start succ hit Q (n + 1) (fun _ => False) := by
  refine ⟨h.1, h.2.1, h.2.2.1, fun i a ha => ⟨fun hi w hw => ?_, fun _ w z => z.elim⟩, fun a b ha hb => ?_⟩
  · by_cases hin : i = n
    · exact (h.2.2.2.1 i a ha).2 hin w (hV w hw)
    · exact (h.2.2.2.1 i a ha).1 (by omega) w hw
  · have hl := (List.getElem?_eq_some_iff.mp ha).1
    have h1 := h.2.2.2.2 _ b (List.getElem?_eq_getElem (by omega : n < Q.length)) hb
    have h2 := h.2.2.1 n (n + 1) _ _ (by omega) (List.getElem?_eq_getElem (by omega : n < Q.length)) ha
    omega
theorem BI.found (h : BI W start succ hit Q n V) (hq : Q[n]? = some (s, D)) (hw : W w) (hh : hit s w) : gT W start succ hit D ∧ ∀ m, m < D → ¬ gT W start succ hit m := by
  have idx : ∀ {s' d' : Nat}, (s', d') ∈ Q → d' < D → ∃ i, i < n ∧ Q[i]? = some (s', d') := fun {s' d'} hm hd => by
    obtain ⟨i, hi⟩ := List.getElem?_of_mem hm
    refine ⟨i, Nat.not_le.mp fun z => ?_, hi⟩
    have := h.2.2.1 n i _ _ z hq hi
    simp at this
    omega
  have all : ∀ k s', rch W start succ k s' → k < D → ∃ d', d' ≤ k ∧ (s', d') ∈ Q := by
    intro k
    induction k with
    | zero => exact fun s' hs _ => ⟨0, Nat.le_refl _, h.2.1 s' hs⟩
    | succ k ih =>
      rintro s' ⟨s'', w', h1, h2, h3⟩ hk
      obtain ⟨d', hd', hm⟩ := ih s'' h1 (by omega)
      obtain ⟨i, hi, hi2⟩ := idx hm (by omega)
      obtain ⟨d2, h4, h5⟩ := (((h.2.2.2.1 i _ hi2).1 hi) w' h2).2 s' h3
      exact ⟨d2, by simp at h4; omega, h5⟩
  refine ⟨⟨s, w, h.1 _ (List.mem_of_getElem? hq), hw, hh⟩, ?_⟩
  rintro m hm ⟨s', w', h1, h2, h3⟩
  obtain ⟨d', hd', hmem⟩ := all m s' h1 hm
  obtain ⟨i, hi, hi2⟩ := idx hmem (by omega)
  exact (((h.2.2.2.1 i _ hi2).1 hi) w' h2).1 h3
theorem BI.fin (h : BI W start succ hit Q n V) (hn : Q.length ≤ n) (m : Nat) : ¬ gT W start succ hit m := by
  have idx : ∀ {e : Nat × Nat}, e ∈ Q → ∀ w, W w → bcl succ hit Q e w := fun {e} hm => by
    obtain ⟨i, hi⟩ := List.getElem?_of_mem hm
    have := (List.getElem?_eq_some_iff.mp hi).1
    exact (h.2.2.2.1 i _ hi).1 (by omega)
  have all : ∀ k s', rch W start succ k s' → ∃ d', (s', d') ∈ Q := by
    intro k
    induction k with
    | zero => exact fun s' hs => ⟨0, h.2.1 s' hs⟩
    | succ k ih =>
      rintro s' ⟨s'', w', h1, h2, h3⟩
      obtain ⟨d', hm⟩ := ih s'' h1
      obtain ⟨d2, _, h5⟩ := (idx hm w' h2).2 s' h3
      exact ⟨d2, h5⟩
  rintro ⟨s', w', h1, h2, h3⟩
  obtain ⟨d', hm⟩ := all m s' h1
  exact (idx hm w' h2).1 h3
end BFS
def isFW (T : Nat → Prop) (r : Nat) : Prop := (r = 0 ∧ ∀ m, ¬ T m) ∨ ∃ D, r = D + 1 ∧ T D ∧ ∀ m, m < D → ¬ T m
theorem isFW.uniq {T : Nat → Prop} {r r' : Nat} (h : isFW T r) (h' : isFW T r') : r = r' := by
  rcases h with ⟨h1, h2⟩ | ⟨D, h1, h2, h3⟩ <;> rcases h' with ⟨h1', h2'⟩ | ⟨D', h1', h2', h3'⟩
  · omega
  · exact absurd h2' (h2 D')
  · exact absurd h2 (h2' D)
  · rcases Nat.lt_trichotomy D D' with z | z | z
    · exact absurd h2 (h3' D z)
    · omega
    · exact absurd h2' (h3 D' z)
theorem isFW.ex (T : Nat → Prop) : ∃ r, isFW T r := by
  by_cases h : ∃ n, T n
  · obtain ⟨n, hn⟩ := h
    induction n using Nat.strongRecOn with
    | ind n ih =>
      by_cases h2 : ∃ m, m < n ∧ T m
      · obtain ⟨m, hm, hT⟩ := h2
        exact ih m hm hT
      · exact ⟨n + 1, Or.inr ⟨n, rfl, hn, fun m hm hT => h2 ⟨m, hm, hT⟩⟩⟩
  · exact ⟨0, Or.inl ⟨rfl, fun m hT => h ⟨m, hT⟩⟩⟩
theorem isFW.congr {T T' : Nat → Prop} {r : Nat} (h : isFW T r) (he : ∀ n, T n ↔ T' n) : isFW T' r := by
  have : T = T' := funext fun n => propext (he n)
  rw [← this]; exact h
/-! rows of words that fit one pattern, and fit, or don't fit, the other -/
def inW (p1 p2 : List Int64) (w : Int64) : Prop := w = 0 ∨ ((w ∈ p1 ∨ w ∈ p2) ∧ w ≠ 42 ∧ w ≠ 35)
def mvr (ps : List Int64) : List Int64 → Nat
  | [] => sta ps
  | w :: u => stp ps w (mvr ps u)
def fwT (p1 p2 : List Int64) (fl : Bool) (n : Nat) : Prop := ∃ u : List Int64, u.length = n + 1 ∧ (∀ w ∈ u, inW p1 p2 w) ∧ enB p1 (mvr p1 u) = true ∧ enB p2 (mvr p2 u) = fl
noncomputable def fw (p1 p2 : List Int64) (fl : Bool) : Nat := Classical.choose (isFW.ex (fwT p1 p2 fl))
theorem fw_is (p1 p2 : List Int64) (fl : Bool) : isFW (fwT p1 p2 fl) (fw p1 p2 fl) := Classical.choose_spec (isFW.ex (fwT p1 p2 fl))
theorem mvr_lt {ps : List Int64} (h : ps.length ≤ 6) (u : List Int64) : mvr ps u < 128 := by
  cases u with
  | nil => exact sta_lt h
  | cons w u => exact stp_lt w _ h
section LIN
variable {ps : List Int64} {w : Int64}
theorem Bd_lin (S : Nat → Bool) (q : Nat) : Bd ps w S q = true ↔ ∃ p, S p = true ∧ Bd ps w (fun x => decide (p = x)) q = true := by
  induction q with
  | zero =>
    simp only [Bd, Bool.and_eq_true, decide_eq_true_iff]
    constructor
    · rintro ⟨h1, h2⟩; exact ⟨0, h2, h1, rfl⟩
    · rintro ⟨p, h1, h2, rfl⟩; exact ⟨h2, h1⟩
  | succ q ih =>
    simp only [Bd, Bool.or_eq_true, Bool.and_eq_true, decide_eq_true_iff]
    rw [ih]
    constructor
    · rintro (⟨h1, h2⟩ | ⟨h1, p, h2, h3⟩ | ⟨h1, h2⟩)
      · exact ⟨q + 1, h2, Or.inl ⟨h1, rfl⟩⟩
      · exact ⟨p, h2, Or.inr (Or.inl ⟨h1, h3⟩)⟩
      · exact ⟨q, h2, Or.inr (Or.inr ⟨h1, rfl⟩)⟩
    · rintro ⟨p, h0, ⟨h1, rfl⟩ | ⟨h1, h3⟩ | ⟨h1, rfl⟩⟩
      · exact Or.inl ⟨h1, h0⟩
      · exact Or.inr (Or.inl ⟨h1, p, h0, h3⟩)
      · exact Or.inr (Or.inr ⟨h1, h0⟩)
theorem stp_lin (s q : Nat) : (stp ps w s).testBit q = true ↔ ∃ p, s.testBit p = true ∧ (stp ps w (2 ^ p)).testBit q = true := by
  unfold stp
  simp only [ofB_bit, Bool.and_eq_true, decide_eq_true_iff]
  rw [Bd_lin]
  constructor
  · rintro ⟨h1, p, h2, h3⟩
    refine ⟨p, h2, h1, ?_⟩
    rw [show Nat.testBit (2 ^ p) = fun x => decide (p = x) from funext fun x => Nat.testBit_two_pow]
    exact h3
  · rintro ⟨p, h2, h1, h3⟩
    rw [show Nat.testBit (2 ^ p) = fun x => decide (p = x) from funext fun x => Nat.testBit_two_pow] at h3
    exact ⟨h1, p, h2, h3⟩
end LIN
section TWO
variable {p1 p2 : List Int64} {fl : Bool}
def cS (p1 p2 : List Int64) (s : Nat) : Prop := ∃ p, p < 7 ∧ (sta p1).testBit p = true ∧ s = p * 128 + sta p2
def cN (p1 p2 : List Int64) (s : Nat) (w : Int64) (s' : Nat) : Prop := ∃ p, p < 7 ∧ (stp p1 w (2 ^ (s / 128))).testBit p = true ∧ s' = p * 128 + stp p2 w (s % 128)
def cH (p1 p2 : List Int64) (fl : Bool) (s : Nat) (w : Int64) : Prop := enB p1 (stp p1 w (2 ^ (s / 128))) = true ∧ enB p2 (stp p2 w (s % 128)) = fl
def mS (p1 p2 : List Int64) (s : Nat) : Prop := s = sta p1 * 128 + sta p2
def mN (p1 p2 : List Int64) (s : Nat) (w : Int64) (s' : Nat) : Prop := stp p1 w (s / 128) ≠ 0 ∧ s' = stp p1 w (s / 128) * 128 + stp p2 w (s % 128)
def mH (p1 p2 : List Int64) (fl : Bool) (s : Nat) (w : Int64) : Prop := enB p1 (stp p1 w (s / 128)) = true ∧ enB p2 (stp p2 w (s % 128)) = fl
theorem tb_lt7 {s p : Nat} (hs : s < 128) (h : s.testBit p = true) : p < 7 := Nat.not_le.mp fun z => by
  have h1 := Nat.testBit_lt_two_pow (Nat.lt_of_lt_of_le hs (Nat.pow_le_pow_right (by decide) z : 2 ^ 7 ≤ 2 ^ p))
  rw [h] at h1
  cases h1
theorem c_iff (h1 : p1.length ≤ 6) (h2 : p2.length ≤ 6) (n : Nat) : gT (inW p1 p2) (cS p1 p2) (cN p1 p2) (cH p1 p2 fl) n ↔ fwT p1 p2 fl n := by
  have fwd : ∀ d s, rch (inW p1 p2) (cS p1 p2) (cN p1 p2) d s → ∃ (u : List Int64) (p : Nat), u.length = d ∧ (∀ w ∈ u, inW p1 p2 w) ∧ (mvr p1 u).testBit p = true ∧ s = p * 128 + mvr p2 u := by
    intro d
    induction d with
    | zero =>
      rintro s ⟨p, hp, hb, rfl⟩
      exact ⟨[], p, rfl, fun w hw => (List.not_mem_nil hw).elim, hb, rfl⟩
    | succ d ih =>
      rintro s' ⟨s, w, hs, hw, p', hp', hb', rfl⟩
      obtain ⟨u, p, hu, hall, hb, rfl⟩ := ih s hs
      have hlt := mvr_lt h2 u
      rw [show (p * 128 + mvr p2 u) / 128 = p by omega] at hb'
      refine ⟨w :: u, p', by rw [List.length_cons, hu], fun x hx => ?_, ?_, ?_⟩
      · rcases List.mem_cons.mp hx with z | z
        · rw [z]; exact hw
        · exact hall x z
      · exact (stp_lin _ _).mpr ⟨p, hb, hb'⟩
      · rw [show (p * 128 + mvr p2 u) % 128 = mvr p2 u by omega]; rfl
  have bwd : ∀ (u : List Int64), (∀ w ∈ u, inW p1 p2 w) → ∀ p, (mvr p1 u).testBit p = true → rch (inW p1 p2) (cS p1 p2) (cN p1 p2) u.length (p * 128 + mvr p2 u) := by
    intro u
    induction u with
    | nil => exact fun _ p hp => ⟨p, tb_lt7 (sta_lt h1) hp, hp, rfl⟩
    | cons w u ih =>
      intro hall p' hp'
      obtain ⟨p, hp, hpp⟩ := (stp_lin _ _).mp hp'
      have hlt := mvr_lt h2 u
      refine ⟨p * 128 + mvr p2 u, w, ih (fun x hx => hall x (List.mem_cons_of_mem _ hx)) p hp, hall w List.mem_cons_self, p', tb_lt7 (stp_lt w _ h1) hpp, ?_, ?_⟩
      · rw [show (p * 128 + mvr p2 u) / 128 = p by omega]; exact hpp
      · rw [show (p * 128 + mvr p2 u) % 128 = mvr p2 u by omega]; rfl
  constructor
  · rintro ⟨s, w, hs, hw, he1, he2⟩
    obtain ⟨u, p, hu, hall, hb, rfl⟩ := fwd n s hs
    have hlt := mvr_lt h2 u
    rw [show (p * 128 + mvr p2 u) / 128 = p by omega] at he1
    rw [show (p * 128 + mvr p2 u) % 128 = mvr p2 u by omega] at he2
    refine ⟨w :: u, by rw [List.length_cons, hu], fun x hx => ?_, (stp_lin _ _).mpr ⟨p, hb, he1⟩, he2⟩
    rcases List.mem_cons.mp hx with z | z
    · rw [z]; exact hw
    · exact hall x z
  · rintro ⟨u, hu, hall, he1, he2⟩
    cases u with
    | nil => cases hu
    | cons w u =>
      obtain ⟨p, hp, hpp⟩ := (stp_lin _ _).mp he1
      have hlt := mvr_lt h2 u
      have hg := bwd u (fun x hx => hall x (List.mem_cons_of_mem _ hx)) p hp
      rw [show u.length = n by simpa using hu] at hg
      refine ⟨p * 128 + mvr p2 u, w, hg, hall w List.mem_cons_self, ?_, ?_⟩
      · rw [show (p * 128 + mvr p2 u) / 128 = p by omega]; exact hpp
      · rw [show (p * 128 + mvr p2 u) % 128 = mvr p2 u by omega]; exact he2
theorem m_iff (h1 : p1.length ≤ 6) (h2 : p2.length ≤ 6) (n : Nat) : gT (inW p1 p2) (mS p1 p2) (mN p1 p2) (mH p1 p2 fl) n ↔ fwT p1 p2 fl n := by
  have fwd : ∀ d s, rch (inW p1 p2) (mS p1 p2) (mN p1 p2) d s → ∃ u : List Int64, u.length = d ∧ (∀ w ∈ u, inW p1 p2 w) ∧ s = mvr p1 u * 128 + mvr p2 u := by
    intro d
    induction d with
    | zero => exact fun s hs => ⟨[], rfl, fun w hw => (List.not_mem_nil hw).elim, hs⟩
    | succ d ih =>
      rintro s' ⟨s, w, hs, hw, _, rfl⟩
      obtain ⟨u, hu, hall, rfl⟩ := ih s hs
      have hlt := mvr_lt h2 u
      refine ⟨w :: u, by rw [List.length_cons, hu], fun x hx => ?_, ?_⟩
      · rcases List.mem_cons.mp hx with z | z
        · rw [z]; exact hw
        · exact hall x z
      · rw [show (mvr p1 u * 128 + mvr p2 u) % 128 = mvr p2 u by omega, show (mvr p1 u * 128 + mvr p2 u) / 128 = mvr p1 u by omega]; rfl
  have bwd : ∀ (u : List Int64), (∀ w ∈ u, inW p1 p2 w) → mvr p1 u ≠ 0 → rch (inW p1 p2) (mS p1 p2) (mN p1 p2) u.length (mvr p1 u * 128 + mvr p2 u) := by
    intro u
    induction u with
    | nil => exact fun _ _ => rfl
    | cons w u ih =>
      intro hall hne
      have hne2 : mvr p1 u ≠ 0 := fun z => hne (by
        show stp p1 w (mvr p1 u) = 0
        rw [z]
        refine Nat.eq_of_testBit_eq fun q => ?_
        rw [Nat.zero_testBit]
        cases hb : (stp p1 w 0).testBit q
        · rfl
        · obtain ⟨p, hp, _⟩ := (stp_lin _ _).mp hb
          rw [Nat.zero_testBit] at hp
          cases hp)
      have hlt := mvr_lt h2 u
      refine ⟨mvr p1 u * 128 + mvr p2 u, w, ih (fun x hx => hall x (List.mem_cons_of_mem _ hx)) hne2, hall w List.mem_cons_self, ?_, ?_⟩
      · rw [show (mvr p1 u * 128 + mvr p2 u) / 128 = mvr p1 u by omega]; exact hne
      · rw [show (mvr p1 u * 128 + mvr p2 u) % 128 = mvr p2 u by omega, show (mvr p1 u * 128 + mvr p2 u) / 128 = mvr p1 u by omega]; rfl
  constructor
  · rintro ⟨s, w, hs, hw, he1, he2⟩
    obtain ⟨u, hu, hall, rfl⟩ := fwd n s hs
    have hlt := mvr_lt h2 u
    rw [show (mvr p1 u * 128 + mvr p2 u) / 128 = mvr p1 u by omega] at he1
    rw [show (mvr p1 u * 128 + mvr p2 u) % 128 = mvr p2 u by omega] at he2
    refine ⟨w :: u, by rw [List.length_cons, hu], fun x hx => ?_, he1, he2⟩
    rcases List.mem_cons.mp hx with z | z
    · rw [z]; exact hw
    · exact hall x z
  · rintro ⟨u, hu, hall, he1, he2⟩
    cases u with
    | nil => cases hu
    | cons w u =>
      have hlt := mvr_lt h2 u
      have hne2 : mvr p1 u ≠ 0 := fun z => by
        obtain ⟨p, hp, _⟩ := (stp_lin _ _).mp he1
        rw [z, Nat.zero_testBit] at hp
        cases hp
      have hg := bwd u (fun x hx => hall x (List.mem_cons_of_mem _ hx)) hne2
      rw [show u.length = n by simpa using hu] at hg
      refine ⟨_, w, hg, hall w List.mem_cons_self, ?_, ?_⟩
      · rw [show (mvr p1 u * 128 + mvr p2 u) / 128 = mvr p1 u by omega]; exact he1
      · rw [show (mvr p1 u * 128 + mvr p2 u) % 128 = mvr p2 u by omega]; exact he2
end TWO
theorem pigeon : ∀ (n : Nat) (l : List Nat), l.Nodup → (∀ x ∈ l, x < n) → l.length ≤ n := by
  intro n
  induction n with
  | zero =>
    intro l _ h
    cases l with
    | nil => exact Nat.le_refl _
    | cons x l => exact absurd (h x List.mem_cons_self) (Nat.not_lt_zero _)
  | succ n ih =>
    intro l hd h
    by_cases hn : n ∈ l
    · have h1 := ih (l.erase n) (hd.erase n) (fun x hx => by
        have h2 := (hd.mem_erase_iff).mp hx
        have h3 := h x h2.2
        omega)
      rw [List.length_erase_of_mem hn] at h1
      omega
    · exact Nat.le_succ_of_le (ih l hd (fun x hx => by
        have h3 := h x hx
        have h4 : x ≠ n := fun z => hn (z ▸ hx)
        omega))
