theorem d_Text_isWordSign_0 : decode b_Text_isWordSign 0 = .ok (.iload_n 0, 1) := by decide +kernel
theorem d_Text_isWordSign_1 : decode b_Text_isWordSign 1 = .ok (.bipush 97, 2) := by decide +kernel
theorem d_Text_isWordSign_3 : decode b_Text_isWordSign 3 = .ok (.if_icmp .lt 9, 3) := by decide +kernel
theorem d_Text_isWordSign_6 : decode b_Text_isWordSign 6 = .ok (.iload_n 0, 1) := by decide +kernel
theorem d_Text_isWordSign_7 : decode b_Text_isWordSign 7 = .ok (.bipush 122, 2) := by decide +kernel
theorem d_Text_isWordSign_9 : decode b_Text_isWordSign 9 = .ok (.if_icmp .le 15, 3) := by decide +kernel
theorem d_Text_isWordSign_12 : decode b_Text_isWordSign 12 = .ok (.iload_n 0, 1) := by decide +kernel
theorem d_Text_isWordSign_13 : decode b_Text_isWordSign 13 = .ok (.bipush 48, 2) := by decide +kernel
theorem d_Text_isWordSign_15 : decode b_Text_isWordSign 15 = .ok (.if_icmp .lt 13, 3) := by decide +kernel
theorem d_Text_isWordSign_18 : decode b_Text_isWordSign 18 = .ok (.iload_n 0, 1) := by decide +kernel
theorem d_Text_isWordSign_19 : decode b_Text_isWordSign 19 = .ok (.bipush 57, 2) := by decide +kernel
theorem d_Text_isWordSign_21 : decode b_Text_isWordSign 21 = .ok (.if_icmp .gt 7, 3) := by decide +kernel
theorem d_Text_isWordSign_24 : decode b_Text_isWordSign 24 = .ok (.iconst 1, 1) := by decide +kernel
theorem d_Text_isWordSign_25 : decode b_Text_isWordSign 25 = .ok (.goto 4, 3) := by decide +kernel
theorem d_Text_isWordSign_28 : decode b_Text_isWordSign 28 = .ok (.iconst 0, 1) := by decide +kernel
theorem d_Text_isWordSign_29 : decode b_Text_isWordSign 29 = .ok (.ireturn, 1) := by decide +kernel
abbrev rm_Text_isWordSign : Room := { frames := 0, cells := 0, slots := 0, locals := 0 }
abbrev C_Text_isWordSign (D : va_G) (g : Nat → ClassId) (p : Program) (s : State) (m : MethodId) (args : Array Value) (meth : Method) (c : Code) (M0 : Mem) : Prop := Cx p s m args c b_Text_isWordSign 1 R_Text BIG D vwCl (tysG g) (mA M0 s.heap.size) ∧ meth.sig.returnType = (some .boolean) ∧ meth.locks = false
abbrev B_Text_isWordSign (l : Launch) (D : va_G) (p : Program) (e : Env) (s : State) (m : MethodId) (args : Array Value) (below : List Frame) (meth : Method) (c : Code) (M0 : Mem) (P : Int32 → Prop) (M : Mem) (pc : Nat) (lv : List (Nat × Value)) (st : List Value) : Prop := Wb p l e rm_Text_isWordSign s m args below meth c 1 D vwCl M0 (kI fun r M' => M0 = M' ∧ P r) 0 0 M pc lv st
def wp_Text_isWordSign_b29 (g : Nat → ClassId) (P : Int32 → Prop) (M : Mem) (t0 : Int32) : Prop :=
  isB t0 ∧ P t0
set_option maxHeartbeats 4000000 in
set_option maxRecDepth 100000 in
theorem t_Text_isWordSign_b29 {l : Launch} {D : va_G} {g : Nat → ClassId} {p : Program} {e : Env} {s : State} {m : MethodId} {args : Array Value} {below : List Frame} {meth : Method} {c : Code} {P : Int32 → Prop} {M : Mem} {t0 : Int32} (C : C_Text_isWordSign D g p s m args meth c M) (h : wp_Text_isWordSign_b29 g P M t0) : B_Text_isWordSign l D p e s m args below meth c M P M 29 [] [.int t0] := by
  intro ls H locs hM hS hl
  unfold wp_Text_isWordSign_b29 at h
  exact mr_Z C.1 C.2.1 C.2.2 h.1 hM hS ⟨_, rfl, rfl, h.2⟩ d_Text_isWordSign_29
def wp_Text_isWordSign_b28 (g : Nat → ClassId) (P : Int32 → Prop) (M : Mem) : Prop :=
  wp_Text_isWordSign_b29 g P M (0 : Int32)
set_option maxHeartbeats 4000000 in
set_option maxRecDepth 100000 in
theorem t_Text_isWordSign_b28 {l : Launch} {D : va_G} {g : Nat → ClassId} {p : Program} {e : Env} {s : State} {m : MethodId} {args : Array Value} {below : List Frame} {meth : Method} {c : Code} {P : Int32 → Prop} {M : Mem} (C : C_Text_isWordSign D g p s m args meth c M) (h : wp_Text_isWordSign_b28 g P M ) : B_Text_isWordSign l D p e s m args below meth c M P M 28 [] [] := by
  intro ls H locs hM hS hl
  unfold wp_Text_isWordSign_b28 at h
  refine lv_iconst (v := (0 : Int32)) C.1.1 C.1.2.1 d_Text_isWordSign_28 (by decide) ?_
  exact t_Text_isWordSign_b29 C h _ _ _ hM hS (lv_sub hl [] rfl)
def wp_Text_isWordSign_b24 (g : Nat → ClassId) (P : Int32 → Prop) (M : Mem) : Prop :=
  wp_Text_isWordSign_b29 g P M (1 : Int32)
set_option maxHeartbeats 4000000 in
set_option maxRecDepth 100000 in
theorem t_Text_isWordSign_b24 {l : Launch} {D : va_G} {g : Nat → ClassId} {p : Program} {e : Env} {s : State} {m : MethodId} {args : Array Value} {below : List Frame} {meth : Method} {c : Code} {P : Int32 → Prop} {M : Mem} (C : C_Text_isWordSign D g p s m args meth c M) (h : wp_Text_isWordSign_b24 g P M ) : B_Text_isWordSign l D p e s m args below meth c M P M 24 [] [] := by
  intro ls H locs hM hS hl
  unfold wp_Text_isWordSign_b24 at h
  refine lv_iconst (v := (1 : Int32)) C.1.1 C.1.2.1 d_Text_isWordSign_24 (by decide) ?_
  refine lv_goto (tgt := 29) C.1.1 C.1.2.1 d_Text_isWordSign_25 (by decide) ?_
  exact t_Text_isWordSign_b29 C h _ _ _ hM hS (lv_sub hl [] rfl)
def wp_Text_isWordSign_b12 (g : Nat → ClassId) (P : Int32 → Prop) (M : Mem) (x0 : Int32) : Prop :=
  (x0 < (48 : Int32) → (wp_Text_isWordSign_b28 g P M)) ∧ (¬ x0 < (48 : Int32) → (((57 : Int32) < x0 → (wp_Text_isWordSign_b28 g P M)) ∧ (¬ (57 : Int32) < x0 → (wp_Text_isWordSign_b24 g P M))))
set_option maxHeartbeats 4000000 in
set_option maxRecDepth 100000 in
theorem t_Text_isWordSign_b12 {l : Launch} {D : va_G} {g : Nat → ClassId} {p : Program} {e : Env} {s : State} {m : MethodId} {args : Array Value} {below : List Frame} {meth : Method} {c : Code} {P : Int32 → Prop} {M : Mem} {x0 : Int32} (C : C_Text_isWordSign D g p s m args meth c M) (h : wp_Text_isWordSign_b12 g P M x0 ) : B_Text_isWordSign l D p e s m args below meth c M P M 12 [(0, .int x0)] [] := by
  intro ls H locs hM hS hl
  unfold wp_Text_isWordSign_b12 at h
  refine lv_iload_n C.1.1 C.1.2.1 d_Text_isWordSign_12 rfl (lv_at hl 0 rfl) ?_
  refine lv_bipush (v := (48 : Int32)) C.1.1 C.1.2.1 d_Text_isWordSign_13 (by decide) ?_
  refine lv_icmp_lt (tgt := 28) C.1.1 C.1.2.1 d_Text_isWordSign_15 (by decide) (fun c1 => ?_) (fun c1 => ?_)
  · have h := h.1 c1
    exact t_Text_isWordSign_b28 C h _ _ _ hM hS (lv_sub hl [] rfl)
  · have h := h.2 c1
    refine lv_iload_n C.1.1 C.1.2.1 d_Text_isWordSign_18 rfl (lv_at hl 0 rfl) ?_
    refine lv_bipush (v := (57 : Int32)) C.1.1 C.1.2.1 d_Text_isWordSign_19 (by decide) ?_
    refine lv_icmp_gt (tgt := 28) C.1.1 C.1.2.1 d_Text_isWordSign_21 (by decide) (fun c2 => ?_) (fun c2 => ?_)
    · have h := h.1 c2
      exact t_Text_isWordSign_b28 C h _ _ _ hM hS (lv_sub hl [] rfl)
    · have h := h.2 c2
      exact t_Text_isWordSign_b24 C h _ _ _ hM hS (lv_sub hl [] rfl)
def wp_Text_isWordSign (g : Nat → ClassId) (M : Mem) (x0 : Int32) (P : Int32 → Prop) : Prop :=
  (x0 < (97 : Int32) → (wp_Text_isWordSign_b12 g P M x0)) ∧ (¬ x0 < (97 : Int32) → ((x0 ≤ (122 : Int32) → (wp_Text_isWordSign_b24 g P M)) ∧ (¬ x0 ≤ (122 : Int32) → (wp_Text_isWordSign_b12 g P M x0))))
set_option maxHeartbeats 4000000 in
set_option maxRecDepth 100000 in
theorem c_Text_isWordSign {l : Launch} {D : va_G} {g : Nat → ClassId} {M : Mem} {x0 : Int32} {P : Int32 → Prop} (h : wp_Text_isWordSign g M x0 P) : mMet l BIG D vwCl (tysG g) y_Text_isWordSign b_Text_isWordSign 1 (some .boolean) rm_Text_isWordSign [.int x0] M (kI fun r M' => M = M' ∧ P r) := by
  refine mMet.of (own := R_Text) rfl (by decide) rfl (fun p e s m below meth c C hr hlk hnm ls hM hS hl => ?_)
  have C : C_Text_isWordSign D g p s m ([.int x0] : List Value).toArray meth c M := ⟨C, hr, hlk⟩
  unfold wp_Text_isWordSign at h
  have hl : lv_has ls 1 [(0, .int x0)] := hl
  refine lv_iload_n C.1.1 C.1.2.1 d_Text_isWordSign_0 rfl (lv_at hl 0 rfl) ?_
  refine lv_bipush (v := (97 : Int32)) C.1.1 C.1.2.1 d_Text_isWordSign_1 (by decide) ?_
  refine lv_icmp_lt (tgt := 12) C.1.1 C.1.2.1 d_Text_isWordSign_3 (by decide) (fun c1 => ?_) (fun c1 => ?_)
  · have h := h.1 c1
    exact t_Text_isWordSign_b12 C h _ _ _ hM hS (lv_sub hl [0] rfl)
  · have h := h.2 c1
    refine lv_iload_n C.1.1 C.1.2.1 d_Text_isWordSign_6 rfl (lv_at hl 0 rfl) ?_
    refine lv_bipush (v := (122 : Int32)) C.1.1 C.1.2.1 d_Text_isWordSign_7 (by decide) ?_
    refine lv_icmp_le (tgt := 24) C.1.1 C.1.2.1 d_Text_isWordSign_9 (by decide) (fun c2 => ?_) (fun c2 => ?_)
    · have h := h.1 c2
      exact t_Text_isWordSign_b24 C h _ _ _ hM hS (lv_sub hl [] rfl)
    · have h := h.2 c2
      exact t_Text_isWordSign_b12 C h _ _ _ hM hS (lv_sub hl [0] rfl)
theorem d_Text_copy_0 : decode b_Text_copy 0 = .ok (.aload_n 0, 1) := by decide +kernel
theorem d_Text_copy_1 : decode b_Text_copy 1 = .ok (.invokevirtual 26, 3) := by decide +kernel
theorem d_Text_copy_4 : decode b_Text_copy 4 = .ok (.iconst 0, 1) := by decide +kernel
theorem d_Text_copy_5 : decode b_Text_copy 5 = .ok (.istore_n 2, 1) := by decide +kernel
theorem d_Text_copy_6 : decode b_Text_copy 6 = .ok (.iload_n 2, 1) := by decide +kernel
theorem d_Text_copy_7 : decode b_Text_copy 7 = .ok (.aload_n 1, 1) := by decide +kernel
theorem d_Text_copy_8 : decode b_Text_copy 8 = .ok (.getfield 19, 3) := by decide +kernel
theorem d_Text_copy_11 : decode b_Text_copy 11 = .ok (.if_icmp .ge 18, 3) := by decide +kernel
theorem d_Text_copy_14 : decode b_Text_copy 14 = .ok (.aload_n 0, 1) := by decide +kernel
theorem d_Text_copy_15 : decode b_Text_copy 15 = .ok (.aload_n 1, 1) := by decide +kernel
theorem d_Text_copy_16 : decode b_Text_copy 16 = .ok (.iload_n 2, 1) := by decide +kernel
theorem d_Text_copy_17 : decode b_Text_copy 17 = .ok (.invokevirtual 29, 3) := by decide +kernel
theorem d_Text_copy_20 : decode b_Text_copy 20 = .ok (.invokevirtual 33, 3) := by decide +kernel
theorem d_Text_copy_23 : decode b_Text_copy 23 = .ok (.iinc 2 1, 3) := by decide +kernel
theorem d_Text_copy_26 : decode b_Text_copy 26 = .ok (.goto (-20), 3) := by decide +kernel
theorem d_Text_copy_29 : decode b_Text_copy 29 = .ok (.iconst 0, 1) := by decide +kernel
theorem d_Text_copy_30 : decode b_Text_copy 30 = .ok (.istore_n 2, 1) := by decide +kernel
theorem d_Text_copy_31 : decode b_Text_copy 31 = .ok (.iload_n 2, 1) := by decide +kernel
theorem d_Text_copy_32 : decode b_Text_copy 32 = .ok (.aload_n 1, 1) := by decide +kernel
theorem d_Text_copy_33 : decode b_Text_copy 33 = .ok (.getfield 23, 3) := by decide +kernel
theorem d_Text_copy_36 : decode b_Text_copy 36 = .ok (.if_icmp .ge 18, 3) := by decide +kernel
theorem d_Text_copy_39 : decode b_Text_copy 39 = .ok (.aload_n 0, 1) := by decide +kernel
theorem d_Text_copy_40 : decode b_Text_copy 40 = .ok (.aload_n 1, 1) := by decide +kernel
theorem d_Text_copy_41 : decode b_Text_copy 41 = .ok (.iload_n 2, 1) := by decide +kernel
theorem d_Text_copy_42 : decode b_Text_copy 42 = .ok (.invokevirtual 37, 3) := by decide +kernel
theorem d_Text_copy_45 : decode b_Text_copy 45 = .ok (.invokevirtual 41, 3) := by decide +kernel
theorem d_Text_copy_48 : decode b_Text_copy 48 = .ok (.iinc 2 1, 3) := by decide +kernel
theorem d_Text_copy_51 : decode b_Text_copy 51 = .ok (.goto (-20), 3) := by decide +kernel
theorem d_Text_copy_54 : decode b_Text_copy 54 = .ok (.return_, 1) := by decide +kernel
abbrev rm_Text_copy : Room := { frames := 1, cells := 0, slots := 0, locals := 22 }
abbrev C_Text_copy (D : va_G) (g : Nat → ClassId) (p : Program) (s : State) (m : MethodId) (args : Array Value) (meth : Method) (c : Code) (M0 : Mem) : Prop := Cx p s m args c b_Text_copy 3 R_Text BIG D vwCl (tysG g) (mA M0 s.heap.size) ∧ meth.sig.returnType = none ∧ meth.locks = false
abbrev B_Text_copy (l : Launch) (D : va_G) (p : Program) (e : Env) (s : State) (m : MethodId) (args : Array Value) (below : List Frame) (meth : Method) (c : Code) (M0 : Mem) (P : Mem → Prop) (M : Mem) (pc : Nat) (lv : List (Nat × Value)) (st : List Value) : Prop := Wb p l e rm_Text_copy s m args below meth c 3 D vwCl M0 (kV fun M' => P M') 0 0 M pc lv st
def wp_Text_copy_b31 (g : Nat → ClassId) (P : Mem → Prop) (M : Mem) (x0 : Nat) (x1 : Nat) (x2 : Int32) : Prop :=
  ∃ (I : Int32 → Mem → Prop) (μ : Int32 → Mem → Nat), I x2 M ∧ ∀ (x2 : Int32) (M : Mem), I x2 M →
  ∃ v1 : Int32, gI M 1 x1 3 = some v1 ∧ ((v1 ≤ x2 → (P M)) ∧ (¬ v1 ≤ x2 → (isO M 1 x1 ∧ (wp_Text_partAt g M x1 x2 (fun v3 : Int64 => isO M 1 x0 ∧ (wp_Text_addPart g M x0 v3 (fun (M6 : Mem) => (I (x2 + (1 : Int32)) M6 ∧ μ (x2 + (1 : Int32)) M6 < μ x2 M))))))))
set_option maxHeartbeats 4000000 in
set_option maxRecDepth 100000 in
theorem t_Text_copy_b31 {l : Launch} {D : va_G} {g : Nat → ClassId} {p : Program} {e : Env} {s : State} {m : MethodId} {args : Array Value} {below : List Frame} {meth : Method} {c : Code} {M0 : Mem} {P : Mem → Prop} {M : Mem} {x0 : Nat} {x1 : Nat} {x2 : Int32} (C : C_Text_copy D g p s m args meth c M0) (h : wp_Text_copy_b31 g P M x0 x1 x2 ) : B_Text_copy l D p e s m args below meth c M0 P M 31 [(0, .ref x0), (1, .ref x1), (2, .int x2)] [] := by
  unfold wp_Text_copy_b31 at h
  obtain ⟨I, μ, hI, hb⟩ := h
  have key : ∀ (n : Nat) (x2 : Int32) (M : Mem), I x2 M → μ x2 M < n → B_Text_copy l D p e s m args below meth c M0 P M 31 [(0, .ref x0), (1, .ref x1), (2, .int x2)] [] := by
    intro n
    induction n with
    | zero => intro x2 M _ hn; exact absurd hn (Nat.not_lt_zero _)
    | succ n ih =>
      intro x2 M hI hn ls H locs hM hS hl
      have h := hb x2 M hI
      refine lv_iload_n C.1.1 C.1.2.1 d_Text_copy_31 rfl (lv_at hl 2 rfl) ?_
      refine lv_aload_n C.1.1 C.1.2.1 d_Text_copy_32 rfl (lv_at hl 1 rfl) ?_
      obtain ⟨v1, ev1, h⟩ := h
      refine mg_I C.1 hM ok_Text (by decide) kw104 ev1 d_Text_copy_33 ?_
      refine lv_icmp_ge (tgt := 54) C.1.1 C.1.2.1 d_Text_copy_36 (by decide) (fun c2 => ?_) (fun c2 => ?_)
      · have h := h.1 c2
        exact mr_V C.1 C.2.1 C.2.2 hM hS ⟨rfl, h⟩ d_Text_copy_54
      · have h := h.2 c2
        refine lv_aload_n C.1.1 C.1.2.1 d_Text_copy_39 rfl (lv_at hl 0 rfl) ?_
        refine lv_aload_n C.1.1 C.1.2.1 d_Text_copy_40 rfl (lv_at hl 1 rfl) ?_
        refine lv_iload_n C.1.1 C.1.2.1 d_Text_copy_41 rfl (lv_at hl 2 rfl) ?_
        obtain ⟨ho, h⟩ := h
        refine mc_V (As := [.int x2]) (ci := 1) C.1 hM hS bigGood (c_Text_partAt h) rfl ho kw114 kw116 kw117 kw107 kw115 hd_Text_partAt ⟨by decide, by decide⟩ hl.1 rfl (Nat.le_of_ble_eq_true rfl) d_Text_copy_42 (mc := 0) (ms := 0) rfl rfl ⟨by decide, by decide⟩ (fun v M' H locs hp hM hS => ?_)
        obtain ⟨v3, rfl, rfl, h⟩ := hp
        obtain ⟨ho, h⟩ := h
        refine mc_V (As := [.long v3]) (ci := 1) C.1 hM hS bigGood (c_Text_addPart h) rfl ho kw191 kw193 kw194 kw107 kw192 hd_Text_addPart ⟨by decide, by decide⟩ hl.1 rfl (Nat.le_of_ble_eq_true rfl) d_Text_copy_45 (mc := 0) (ms := 0) rfl rfl ⟨by decide, by decide⟩ (fun v M6 H locs hp hM hS => ?_)
        obtain ⟨rfl, h⟩ := hp
        refine lv_iinc (v := x2 + (1 : Int32)) (lv' := [(2, .int (x2 + (1 : Int32))), (0, .ref x0), (1, .ref x1)]) C.1.1 C.1.2.1 d_Text_copy_48 hl (k := 2) rfl rfl (by decide) rfl (fun ls hl => ?_)
        refine lv_goto (tgt := 31) C.1.1 C.1.2.1 d_Text_copy_51 (by decide) ?_
        exact ih (x2 + (1 : Int32)) M6 h.1 (Nat.lt_of_lt_of_le h.2 (Nat.le_of_lt_succ hn)) _ _ _ hM hS (lv_sub hl [1, 2, 0] rfl)
  exact key _ x2 M hI (Nat.lt_succ_self _)
def wp_Text_copy_b6 (g : Nat → ClassId) (P : Mem → Prop) (M : Mem) (x0 : Nat) (x1 : Nat) (x2 : Int32) : Prop :=
  ∃ (I : Int32 → Mem → Prop) (μ : Int32 → Mem → Nat), I x2 M ∧ ∀ (x2 : Int32) (M : Mem), I x2 M →
  ∃ v1 : Int32, gI M 1 x1 2 = some v1 ∧ ((v1 ≤ x2 → (wp_Text_copy_b31 g P M x0 x1 (0 : Int32))) ∧ (¬ v1 ≤ x2 → (isO M 1 x1 ∧ (wp_Text_signAt g M x1 x2 (fun v3 : Int32 => isO M 1 x0 ∧ (wp_Text_add g M x0 v3 (fun (M6 : Mem) => (I (x2 + (1 : Int32)) M6 ∧ μ (x2 + (1 : Int32)) M6 < μ x2 M))))))))
set_option maxHeartbeats 4000000 in
set_option maxRecDepth 100000 in
theorem t_Text_copy_b6 {l : Launch} {D : va_G} {g : Nat → ClassId} {p : Program} {e : Env} {s : State} {m : MethodId} {args : Array Value} {below : List Frame} {meth : Method} {c : Code} {M0 : Mem} {P : Mem → Prop} {M : Mem} {x0 : Nat} {x1 : Nat} {x2 : Int32} (C : C_Text_copy D g p s m args meth c M0) (h : wp_Text_copy_b6 g P M x0 x1 x2 ) : B_Text_copy l D p e s m args below meth c M0 P M 6 [(0, .ref x0), (1, .ref x1), (2, .int x2)] [] := by
  unfold wp_Text_copy_b6 at h
  obtain ⟨I, μ, hI, hb⟩ := h
  have key : ∀ (n : Nat) (x2 : Int32) (M : Mem), I x2 M → μ x2 M < n → B_Text_copy l D p e s m args below meth c M0 P M 6 [(0, .ref x0), (1, .ref x1), (2, .int x2)] [] := by
    intro n
    induction n with
    | zero => intro x2 M _ hn; exact absurd hn (Nat.not_lt_zero _)
    | succ n ih =>
      intro x2 M hI hn ls H locs hM hS hl
      have h := hb x2 M hI
      refine lv_iload_n C.1.1 C.1.2.1 d_Text_copy_6 rfl (lv_at hl 2 rfl) ?_
      refine lv_aload_n C.1.1 C.1.2.1 d_Text_copy_7 rfl (lv_at hl 1 rfl) ?_
      obtain ⟨v1, ev1, h⟩ := h
      refine mg_I C.1 hM ok_Text (by decide) kw103 ev1 d_Text_copy_8 ?_
      refine lv_icmp_ge (tgt := 29) C.1.1 C.1.2.1 d_Text_copy_11 (by decide) (fun c2 => ?_) (fun c2 => ?_)
      · have h := h.1 c2
        refine lv_iconst (v := (0 : Int32)) C.1.1 C.1.2.1 d_Text_copy_29 (by decide) ?_
        refine lv_istore_n (lv' := [(2, .int (0 : Int32)), (0, .ref x0), (1, .ref x1)]) C.1.1 C.1.2.1 d_Text_copy_30 rfl hl (by decide) rfl (fun ls hl => ?_)
        exact t_Text_copy_b31 C h _ _ _ hM hS (lv_sub hl [1, 2, 0] rfl)
      · have h := h.2 c2
        refine lv_aload_n C.1.1 C.1.2.1 d_Text_copy_14 rfl (lv_at hl 0 rfl) ?_
        refine lv_aload_n C.1.1 C.1.2.1 d_Text_copy_15 rfl (lv_at hl 1 rfl) ?_
        refine lv_iload_n C.1.1 C.1.2.1 d_Text_copy_16 rfl (lv_at hl 2 rfl) ?_
        obtain ⟨ho, h⟩ := h
        refine mc_V (As := [.int x2]) (ci := 1) C.1 hM hS bigGood (c_Text_signAt h) rfl ho kw105 kw108 kw109 kw107 kw106 hd_Text_signAt ⟨by decide, by decide⟩ hl.1 rfl (Nat.le_of_ble_eq_true rfl) d_Text_copy_17 (mc := 0) (ms := 0) rfl rfl ⟨by decide, by decide⟩ (fun v M' H locs hp hM hS => ?_)
        obtain ⟨v3, rfl, rfl, h⟩ := hp
        obtain ⟨ho, h⟩ := h
        refine mc_V (As := [.int v3]) (ci := 1) C.1 hM hS bigGood (c_Text_add h) rfl ho kw195 kw127 kw128 kw107 kw126 hd_Text_add ⟨by decide, by decide⟩ hl.1 rfl (Nat.le_of_ble_eq_true rfl) d_Text_copy_20 (mc := 0) (ms := 0) rfl rfl ⟨by decide, by decide⟩ (fun v M6 H locs hp hM hS => ?_)
        obtain ⟨rfl, h⟩ := hp
        refine lv_iinc (v := x2 + (1 : Int32)) (lv' := [(2, .int (x2 + (1 : Int32))), (0, .ref x0), (1, .ref x1)]) C.1.1 C.1.2.1 d_Text_copy_23 hl (k := 2) rfl rfl (by decide) rfl (fun ls hl => ?_)
        refine lv_goto (tgt := 6) C.1.1 C.1.2.1 d_Text_copy_26 (by decide) ?_
        exact ih (x2 + (1 : Int32)) M6 h.1 (Nat.lt_of_lt_of_le h.2 (Nat.le_of_lt_succ hn)) _ _ _ hM hS (lv_sub hl [1, 2, 0] rfl)
  exact key _ x2 M hI (Nat.lt_succ_self _)
def wp_Text_copy (g : Nat → ClassId) (M : Mem) (x0 : Nat) (x1 : Nat) (P : Mem → Prop) : Prop :=
  isO M 1 x0 ∧ (wp_Text_clear g M x0 (fun (M2 : Mem) => wp_Text_copy_b6 g P M2 x0 x1 (0 : Int32)))
set_option maxHeartbeats 4000000 in
set_option maxRecDepth 100000 in
theorem c_Text_copy {l : Launch} {D : va_G} {g : Nat → ClassId} {M : Mem} {x0 : Nat} {x1 : Nat} {P : Mem → Prop} (h : wp_Text_copy g M x0 x1 P) : mMet l BIG D vwCl (tysG g) y_Text_copy b_Text_copy 3 none rm_Text_copy [.ref x0, .ref x1] M (kV fun M' => P M') := by
  refine mMet.of (own := R_Text) rfl (by decide) rfl (fun p e s m below meth c C hr hlk hnm ls hM hS hl => ?_)
  have C : C_Text_copy D g p s m ([.ref x0, .ref x1] : List Value).toArray meth c M := ⟨C, hr, hlk⟩
  unfold wp_Text_copy at h
  have hl : lv_has ls 3 [(0, .ref x0), (1, .ref x1)] := hl
  refine lv_aload_n C.1.1 C.1.2.1 d_Text_copy_0 rfl (lv_at hl 0 rfl) ?_
  obtain ⟨ho, h⟩ := h
  refine mc_V (As := []) (ci := 1) C.1 hM hS bigGood (c_Text_clear h) rfl ho kw196 kw198 kw199 kw107 kw197 hd_Text_clear ⟨by decide, by decide⟩ hl.1 rfl (Nat.le_of_ble_eq_true rfl) d_Text_copy_1 (mc := 0) (ms := 0) rfl rfl ⟨by decide, by decide⟩ (fun v M2 H locs hp hM hS => ?_)
  obtain ⟨rfl, h⟩ := hp
  refine lv_iconst (v := (0 : Int32)) C.1.1 C.1.2.1 d_Text_copy_4 (by decide) ?_
  refine lv_istore_n (lv' := [(2, .int (0 : Int32)), (0, .ref x0), (1, .ref x1)]) C.1.1 C.1.2.1 d_Text_copy_5 rfl hl (by decide) rfl (fun ls hl => ?_)
  exact t_Text_copy_b6 C h _ _ _ hM hS (lv_sub hl [1, 2, 0] rfl)
theorem d_Text_takes_0 : decode b_Text_takes 0 = .ok (.aload_n 0, 1) := by decide +kernel
theorem d_Text_takes_1 : decode b_Text_takes 1 = .ok (.invokevirtual 59, 3) := by decide +kernel
theorem d_Text_takes_4 : decode b_Text_takes 4 = .ok (.istore_n 2, 1) := by decide +kernel
theorem d_Text_takes_5 : decode b_Text_takes 5 = .ok (.iconst 0, 1) := by decide +kernel
theorem d_Text_takes_6 : decode b_Text_takes 6 = .ok (.istore_n 3, 1) := by decide +kernel
theorem d_Text_takes_7 : decode b_Text_takes 7 = .ok (.iload_n 3, 1) := by decide +kernel
theorem d_Text_takes_8 : decode b_Text_takes 8 = .ok (.aload_n 1, 1) := by decide +kernel
theorem d_Text_takes_9 : decode b_Text_takes 9 = .ok (.getfield 23, 3) := by decide +kernel
theorem d_Text_takes_12 : decode b_Text_takes 12 = .ok (.if_icmp .ge 20, 3) := by decide +kernel
theorem d_Text_takes_15 : decode b_Text_takes 15 = .ok (.aload_n 0, 1) := by decide +kernel
theorem d_Text_takes_16 : decode b_Text_takes 16 = .ok (.iload_n 2, 1) := by decide +kernel
theorem d_Text_takes_17 : decode b_Text_takes 17 = .ok (.aload_n 1, 1) := by decide +kernel
theorem d_Text_takes_18 : decode b_Text_takes 18 = .ok (.iload_n 3, 1) := by decide +kernel
theorem d_Text_takes_19 : decode b_Text_takes 19 = .ok (.invokevirtual 37, 3) := by decide +kernel
theorem d_Text_takes_22 : decode b_Text_takes 22 = .ok (.invokevirtual 63, 3) := by decide +kernel
theorem d_Text_takes_25 : decode b_Text_takes 25 = .ok (.istore_n 2, 1) := by decide +kernel
theorem d_Text_takes_26 : decode b_Text_takes 26 = .ok (.iinc 3 1, 3) := by decide +kernel
theorem d_Text_takes_29 : decode b_Text_takes 29 = .ok (.goto (-22), 3) := by decide +kernel
theorem d_Text_takes_32 : decode b_Text_takes 32 = .ok (.aload_n 0, 1) := by decide +kernel
theorem d_Text_takes_33 : decode b_Text_takes 33 = .ok (.iload_n 2, 1) := by decide +kernel
theorem d_Text_takes_34 : decode b_Text_takes 34 = .ok (.invokevirtual 67, 3) := by decide +kernel
theorem d_Text_takes_37 : decode b_Text_takes 37 = .ok (.ireturn, 1) := by decide +kernel
abbrev rm_Text_takes : Room := { frames := 2, cells := 0, slots := 0, locals := 49 }
abbrev C_Text_takes (D : va_G) (g : Nat → ClassId) (p : Program) (s : State) (m : MethodId) (args : Array Value) (meth : Method) (c : Code) (M0 : Mem) : Prop := Cx p s m args c b_Text_takes 4 R_Text BIG D vwCl (tysG g) (mA M0 s.heap.size) ∧ meth.sig.returnType = (some .boolean) ∧ meth.locks = false
abbrev B_Text_takes (l : Launch) (D : va_G) (p : Program) (e : Env) (s : State) (m : MethodId) (args : Array Value) (below : List Frame) (meth : Method) (c : Code) (M0 : Mem) (P : Int32 → Prop) (M : Mem) (pc : Nat) (lv : List (Nat × Value)) (st : List Value) : Prop := Wb p l e rm_Text_takes s m args below meth c 4 D vwCl M0 (kI fun r M' => M0 = M' ∧ P r) 0 0 M pc lv st
def wp_Text_takes_b7 (g : Nat → ClassId) (P : Int32 → Prop) (M : Mem) (x0 : Nat) (x1 : Nat) (x2 : Int32) (x3 : Int32) : Prop :=
  ∃ (I : Int32 → Int32 → Prop) (μ : Int32 → Int32 → Nat), I x2 x3 ∧ ∀ (x2 : Int32) (x3 : Int32), I x2 x3 →
  ∃ v1 : Int32, gI M 1 x1 3 = some v1 ∧ ((v1 ≤ x3 → (isO M 1 x0 ∧ (wp_Text_hasEnd g M x0 x2 (fun v3 : Int32 => isB v3 ∧ P v3)))) ∧ (¬ v1 ≤ x3 → (isO M 1 x1 ∧ (wp_Text_partAt g M x1 x3 (fun v5 : Int64 => isO M 1 x0 ∧ (wp_Text_placesBehind g M x0 x2 v5 (fun v7 : Int32 => (I v7 (x3 + (1 : Int32)) ∧ μ v7 (x3 + (1 : Int32)) < μ x2 x3))))))))
set_option maxHeartbeats 4000000 in
set_option maxRecDepth 100000 in
theorem t_Text_takes_b7 {l : Launch} {D : va_G} {g : Nat → ClassId} {p : Program} {e : Env} {s : State} {m : MethodId} {args : Array Value} {below : List Frame} {meth : Method} {c : Code} {P : Int32 → Prop} {M : Mem} {x0 : Nat} {x1 : Nat} {x2 : Int32} {x3 : Int32} (C : C_Text_takes D g p s m args meth c M) (h : wp_Text_takes_b7 g P M x0 x1 x2 x3 ) : B_Text_takes l D p e s m args below meth c M P M 7 [(0, .ref x0), (1, .ref x1), (2, .int x2), (3, .int x3)] [] := by
  unfold wp_Text_takes_b7 at h
  obtain ⟨I, μ, hI, hb⟩ := h
  have key : ∀ (n : Nat) (x2 : Int32) (x3 : Int32), I x2 x3 → μ x2 x3 < n → B_Text_takes l D p e s m args below meth c M P M 7 [(0, .ref x0), (1, .ref x1), (2, .int x2), (3, .int x3)] [] := by
    intro n
    induction n with
    | zero => intro x2 x3 _ hn; exact absurd hn (Nat.not_lt_zero _)
    | succ n ih =>
      intro x2 x3 hI hn ls H locs hM hS hl
      have h := hb x2 x3 hI
      refine lv_iload_n C.1.1 C.1.2.1 d_Text_takes_7 rfl (lv_at hl 3 rfl) ?_
      refine lv_aload_n C.1.1 C.1.2.1 d_Text_takes_8 rfl (lv_at hl 1 rfl) ?_
      obtain ⟨v1, ev1, h⟩ := h
      refine mg_I C.1 hM ok_Text (by decide) kw104 ev1 d_Text_takes_9 ?_
      refine lv_icmp_ge (tgt := 32) C.1.1 C.1.2.1 d_Text_takes_12 (by decide) (fun c2 => ?_) (fun c2 => ?_)
      · have h := h.1 c2
        refine lv_aload_n C.1.1 C.1.2.1 d_Text_takes_32 rfl (lv_at hl 0 rfl) ?_
        refine lv_iload_n C.1.1 C.1.2.1 d_Text_takes_33 rfl (lv_at hl 2 rfl) ?_
        obtain ⟨ho, h⟩ := h
        refine mc_V (As := [.int x2]) (ci := 1) C.1 hM hS bigGood (c_Text_hasEnd h) rfl ho kw200 kw202 kw203 kw107 kw201 hd_Text_hasEnd ⟨by decide, by decide⟩ hl.1 rfl (Nat.le_of_ble_eq_true rfl) d_Text_takes_34 (mc := 0) (ms := 0) rfl rfl ⟨by decide, by decide⟩ (fun v M' H locs hp hM hS => ?_)
        obtain ⟨v3, rfl, rfl, h⟩ := hp
        exact mr_Z C.1 C.2.1 C.2.2 h.1 hM hS ⟨_, rfl, rfl, h.2⟩ d_Text_takes_37
      · have h := h.2 c2
        refine lv_aload_n C.1.1 C.1.2.1 d_Text_takes_15 rfl (lv_at hl 0 rfl) ?_
        refine lv_iload_n C.1.1 C.1.2.1 d_Text_takes_16 rfl (lv_at hl 2 rfl) ?_
        refine lv_aload_n C.1.1 C.1.2.1 d_Text_takes_17 rfl (lv_at hl 1 rfl) ?_
        refine lv_iload_n C.1.1 C.1.2.1 d_Text_takes_18 rfl (lv_at hl 3 rfl) ?_
        obtain ⟨ho, h⟩ := h
        refine mc_V (As := [.int x3]) (ci := 1) C.1 hM hS bigGood (c_Text_partAt h) rfl ho kw114 kw116 kw117 kw107 kw115 hd_Text_partAt ⟨by decide, by decide⟩ hl.1 rfl (Nat.le_of_ble_eq_true rfl) d_Text_takes_19 (mc := 0) (ms := 0) rfl rfl ⟨by decide, by decide⟩ (fun v M' H locs hp hM hS => ?_)
        obtain ⟨v5, rfl, rfl, h⟩ := hp
        obtain ⟨ho, h⟩ := h
        refine mc_V (As := [.int x2, .long v5]) (ci := 1) C.1 hM hS bigGood (c_Text_placesBehind h) rfl ho kw204 kw206 kw207 kw107 kw205 hd_Text_placesBehind ⟨by decide, by decide⟩ hl.1 rfl (Nat.le_of_ble_eq_true rfl) d_Text_takes_22 (mc := 0) (ms := 0) rfl rfl ⟨by decide, by decide⟩ (fun v M' H locs hp hM hS => ?_)
        obtain ⟨v7, rfl, rfl, h⟩ := hp
        refine lv_istore_n (lv' := [(2, .int v7), (0, .ref x0), (1, .ref x1), (3, .int x3)]) C.1.1 C.1.2.1 d_Text_takes_25 rfl hl (by decide) rfl (fun ls hl => ?_)
        refine lv_iinc (v := x3 + (1 : Int32)) (lv' := [(3, .int (x3 + (1 : Int32))), (2, .int v7), (0, .ref x0), (1, .ref x1)]) C.1.1 C.1.2.1 d_Text_takes_26 hl (k := 3) rfl rfl (by decide) rfl (fun ls hl => ?_)
        refine lv_goto (tgt := 7) C.1.1 C.1.2.1 d_Text_takes_29 (by decide) ?_
        exact ih v7 (x3 + (1 : Int32)) h.1 (Nat.lt_of_lt_of_le h.2 (Nat.le_of_lt_succ hn)) _ _ _ hM hS (lv_sub hl [2, 3, 1, 0] rfl)
  exact key _ x2 x3 hI (Nat.lt_succ_self _)
def wp_Text_takes (g : Nat → ClassId) (M : Mem) (x0 : Nat) (x1 : Nat) (P : Int32 → Prop) : Prop :=
  isO M 1 x0 ∧ (wp_Text_startPlaces g M x0 (fun v1 : Int32 => wp_Text_takes_b7 g P M x0 x1 v1 (0 : Int32)))
set_option maxHeartbeats 4000000 in
set_option maxRecDepth 100000 in
theorem c_Text_takes {l : Launch} {D : va_G} {g : Nat → ClassId} {M : Mem} {x0 : Nat} {x1 : Nat} {P : Int32 → Prop} (h : wp_Text_takes g M x0 x1 P) : mMet l BIG D vwCl (tysG g) y_Text_takes b_Text_takes 4 (some .boolean) rm_Text_takes [.ref x0, .ref x1] M (kI fun r M' => M = M' ∧ P r) := by
  refine mMet.of (own := R_Text) rfl (by decide) rfl (fun p e s m below meth c C hr hlk hnm ls hM hS hl => ?_)
  have C : C_Text_takes D g p s m ([.ref x0, .ref x1] : List Value).toArray meth c M := ⟨C, hr, hlk⟩
  unfold wp_Text_takes at h
  have hl : lv_has ls 4 [(0, .ref x0), (1, .ref x1)] := hl
  refine lv_aload_n C.1.1 C.1.2.1 d_Text_takes_0 rfl (lv_at hl 0 rfl) ?_
  obtain ⟨ho, h⟩ := h
  refine mc_V (As := []) (ci := 1) C.1 hM hS bigGood (c_Text_startPlaces h) rfl ho kw208 kw210 kw211 kw107 kw209 hd_Text_startPlaces ⟨by decide, by decide⟩ hl.1 rfl (Nat.le_of_ble_eq_true rfl) d_Text_takes_1 (mc := 0) (ms := 0) rfl rfl ⟨by decide, by decide⟩ (fun v M' H locs hp hM hS => ?_)
  obtain ⟨v1, rfl, rfl, h⟩ := hp
  refine lv_istore_n (lv' := [(2, .int v1), (0, .ref x0), (1, .ref x1)]) C.1.1 C.1.2.1 d_Text_takes_4 rfl hl (by decide) rfl (fun ls hl => ?_)
  refine lv_iconst (v := (0 : Int32)) C.1.1 C.1.2.1 d_Text_takes_5 (by decide) ?_
  refine lv_istore_n (lv' := [(3, .int (0 : Int32)), (2, .int v1), (0, .ref x0), (1, .ref x1)]) C.1.1 C.1.2.1 d_Text_takes_6 rfl hl (by decide) rfl (fun ls hl => ?_)
  exact t_Text_takes_b7 C h _ _ _ hM hS (lv_sub hl [2, 3, 1, 0] rfl)
theorem d_Text_canStand_0 : decode b_Text_canStand 0 = .ok (.iload_n 1, 1) := by decide +kernel
theorem d_Text_canStand_1 : decode b_Text_canStand 1 = .ok (.bipush 46, 2) := by decide +kernel
theorem d_Text_canStand_3 : decode b_Text_canStand 3 = .ok (.if_icmp .ne 21, 3) := by decide +kernel
theorem d_Text_canStand_6 : decode b_Text_canStand 6 = .ok (.iload_n 2, 1) := by decide +kernel
theorem d_Text_canStand_7 : decode b_Text_canStand 7 = .ok (.ifCond .le 15, 3) := by decide +kernel
theorem d_Text_canStand_10 : decode b_Text_canStand 10 = .ok (.aload_n 0, 1) := by decide +kernel
theorem d_Text_canStand_11 : decode b_Text_canStand 11 = .ok (.getfield 23, 3) := by decide +kernel
theorem d_Text_canStand_14 : decode b_Text_canStand 14 = .ok (.iconst 5, 1) := by decide +kernel
theorem d_Text_canStand_15 : decode b_Text_canStand 15 = .ok (.if_icmp .ge 7, 3) := by decide +kernel
theorem d_Text_canStand_18 : decode b_Text_canStand 18 = .ok (.iconst 1, 1) := by decide +kernel
theorem d_Text_canStand_19 : decode b_Text_canStand 19 = .ok (.goto 4, 3) := by decide +kernel
theorem d_Text_canStand_22 : decode b_Text_canStand 22 = .ok (.iconst 0, 1) := by decide +kernel
theorem d_Text_canStand_23 : decode b_Text_canStand 23 = .ok (.ireturn, 1) := by decide +kernel
theorem d_Text_canStand_24 : decode b_Text_canStand 24 = .ok (.iload_n 1, 1) := by decide +kernel
theorem d_Text_canStand_25 : decode b_Text_canStand 25 = .ok (.invokestatic 49, 3) := by decide +kernel
theorem d_Text_canStand_28 : decode b_Text_canStand 28 = .ok (.ifCond .eq 17, 3) := by decide +kernel
theorem d_Text_canStand_31 : decode b_Text_canStand 31 = .ok (.iload_n 3, 1) := by decide +kernel
theorem d_Text_canStand_32 : decode b_Text_canStand 32 = .ok (.ifCond .eq 11, 3) := by decide +kernel
theorem d_Text_canStand_35 : decode b_Text_canStand 35 = .ok (.iload_n 2, 1) := by decide +kernel
theorem d_Text_canStand_36 : decode b_Text_canStand 36 = .ok (.ifCond .ne 7, 3) := by decide +kernel
theorem d_Text_canStand_39 : decode b_Text_canStand 39 = .ok (.iconst 1, 1) := by decide +kernel
theorem d_Text_canStand_40 : decode b_Text_canStand 40 = .ok (.goto 4, 3) := by decide +kernel
theorem d_Text_canStand_43 : decode b_Text_canStand 43 = .ok (.iconst 0, 1) := by decide +kernel
theorem d_Text_canStand_44 : decode b_Text_canStand 44 = .ok (.ireturn, 1) := by decide +kernel
theorem d_Text_canStand_45 : decode b_Text_canStand 45 = .ok (.iload_n 1, 1) := by decide +kernel
theorem d_Text_canStand_46 : decode b_Text_canStand 46 = .ok (.invokestatic 74, 3) := by decide +kernel
theorem d_Text_canStand_49 : decode b_Text_canStand 49 = .ok (.ifCond .eq 13, 3) := by decide +kernel
theorem d_Text_canStand_52 : decode b_Text_canStand 52 = .ok (.iload_n 2, 1) := by decide +kernel
theorem d_Text_canStand_53 : decode b_Text_canStand 53 = .ok (.bipush 6, 2) := by decide +kernel
theorem d_Text_canStand_55 : decode b_Text_canStand 55 = .ok (.if_icmp .ge 7, 3) := by decide +kernel
theorem d_Text_canStand_58 : decode b_Text_canStand 58 = .ok (.iconst 1, 1) := by decide +kernel
theorem d_Text_canStand_59 : decode b_Text_canStand 59 = .ok (.goto 4, 3) := by decide +kernel
theorem d_Text_canStand_62 : decode b_Text_canStand 62 = .ok (.iconst 0, 1) := by decide +kernel
theorem d_Text_canStand_63 : decode b_Text_canStand 63 = .ok (.ireturn, 1) := by decide +kernel
abbrev rm_Text_canStand : Room := { frames := 1, cells := 0, slots := 0, locals := 20 }
abbrev C_Text_canStand (D : va_G) (g : Nat → ClassId) (p : Program) (s : State) (m : MethodId) (args : Array Value) (meth : Method) (c : Code) (M0 : Mem) : Prop := Cx p s m args c b_Text_canStand 4 R_Text BIG D vwCl (tysG g) (mA M0 s.heap.size) ∧ meth.sig.returnType = (some .boolean) ∧ meth.locks = false
abbrev B_Text_canStand (l : Launch) (D : va_G) (p : Program) (e : Env) (s : State) (m : MethodId) (args : Array Value) (below : List Frame) (meth : Method) (c : Code) (M0 : Mem) (P : Int32 → Prop) (M : Mem) (pc : Nat) (lv : List (Nat × Value)) (st : List Value) : Prop := Wb p l e rm_Text_canStand s m args below meth c 4 D vwCl M0 (kI fun r M' => M0 = M' ∧ P r) 0 0 M pc lv st
def wp_Text_canStand_b63 (g : Nat → ClassId) (P : Int32 → Prop) (M : Mem) (t0 : Int32) : Prop :=
  isB t0 ∧ P t0
set_option maxHeartbeats 4000000 in
set_option maxRecDepth 100000 in
theorem t_Text_canStand_b63 {l : Launch} {D : va_G} {g : Nat → ClassId} {p : Program} {e : Env} {s : State} {m : MethodId} {args : Array Value} {below : List Frame} {meth : Method} {c : Code} {P : Int32 → Prop} {M : Mem} {t0 : Int32} (C : C_Text_canStand D g p s m args meth c M) (h : wp_Text_canStand_b63 g P M t0) : B_Text_canStand l D p e s m args below meth c M P M 63 [] [.int t0] := by
  intro ls H locs hM hS hl
  unfold wp_Text_canStand_b63 at h
  exact mr_Z C.1 C.2.1 C.2.2 h.1 hM hS ⟨_, rfl, rfl, h.2⟩ d_Text_canStand_63
def wp_Text_canStand_b62 (g : Nat → ClassId) (P : Int32 → Prop) (M : Mem) : Prop :=
  wp_Text_canStand_b63 g P M (0 : Int32)
set_option maxHeartbeats 4000000 in
set_option maxRecDepth 100000 in
theorem t_Text_canStand_b62 {l : Launch} {D : va_G} {g : Nat → ClassId} {p : Program} {e : Env} {s : State} {m : MethodId} {args : Array Value} {below : List Frame} {meth : Method} {c : Code} {P : Int32 → Prop} {M : Mem} (C : C_Text_canStand D g p s m args meth c M) (h : wp_Text_canStand_b62 g P M ) : B_Text_canStand l D p e s m args below meth c M P M 62 [] [] := by
  intro ls H locs hM hS hl
  unfold wp_Text_canStand_b62 at h
  refine lv_iconst (v := (0 : Int32)) C.1.1 C.1.2.1 d_Text_canStand_62 (by decide) ?_
  exact t_Text_canStand_b63 C h _ _ _ hM hS (lv_sub hl [] rfl)
def wp_Text_canStand_b44 (g : Nat → ClassId) (P : Int32 → Prop) (M : Mem) (t0 : Int32) : Prop :=
  isB t0 ∧ P t0
set_option maxHeartbeats 4000000 in
set_option maxRecDepth 100000 in
theorem t_Text_canStand_b44 {l : Launch} {D : va_G} {g : Nat → ClassId} {p : Program} {e : Env} {s : State} {m : MethodId} {args : Array Value} {below : List Frame} {meth : Method} {c : Code} {P : Int32 → Prop} {M : Mem} {t0 : Int32} (C : C_Text_canStand D g p s m args meth c M) (h : wp_Text_canStand_b44 g P M t0) : B_Text_canStand l D p e s m args below meth c M P M 44 [] [.int t0] := by
  intro ls H locs hM hS hl
  unfold wp_Text_canStand_b44 at h
  exact mr_Z C.1 C.2.1 C.2.2 h.1 hM hS ⟨_, rfl, rfl, h.2⟩ d_Text_canStand_44
def wp_Text_canStand_b43 (g : Nat → ClassId) (P : Int32 → Prop) (M : Mem) : Prop :=
  wp_Text_canStand_b44 g P M (0 : Int32)
set_option maxHeartbeats 4000000 in
set_option maxRecDepth 100000 in
theorem t_Text_canStand_b43 {l : Launch} {D : va_G} {g : Nat → ClassId} {p : Program} {e : Env} {s : State} {m : MethodId} {args : Array Value} {below : List Frame} {meth : Method} {c : Code} {P : Int32 → Prop} {M : Mem} (C : C_Text_canStand D g p s m args meth c M) (h : wp_Text_canStand_b43 g P M ) : B_Text_canStand l D p e s m args below meth c M P M 43 [] [] := by
  intro ls H locs hM hS hl
  unfold wp_Text_canStand_b43 at h
  refine lv_iconst (v := (0 : Int32)) C.1.1 C.1.2.1 d_Text_canStand_43 (by decide) ?_
  exact t_Text_canStand_b44 C h _ _ _ hM hS (lv_sub hl [] rfl)
def wp_Text_canStand_b23 (g : Nat → ClassId) (P : Int32 → Prop) (M : Mem) (t0 : Int32) : Prop :=
  isB t0 ∧ P t0
set_option maxHeartbeats 4000000 in
set_option maxRecDepth 100000 in
theorem t_Text_canStand_b23 {l : Launch} {D : va_G} {g : Nat → ClassId} {p : Program} {e : Env} {s : State} {m : MethodId} {args : Array Value} {below : List Frame} {meth : Method} {c : Code} {P : Int32 → Prop} {M : Mem} {t0 : Int32} (C : C_Text_canStand D g p s m args meth c M) (h : wp_Text_canStand_b23 g P M t0) : B_Text_canStand l D p e s m args below meth c M P M 23 [] [.int t0] := by
  intro ls H locs hM hS hl
  unfold wp_Text_canStand_b23 at h
  exact mr_Z C.1 C.2.1 C.2.2 h.1 hM hS ⟨_, rfl, rfl, h.2⟩ d_Text_canStand_23
def wp_Text_canStand_b22 (g : Nat → ClassId) (P : Int32 → Prop) (M : Mem) : Prop :=
  wp_Text_canStand_b23 g P M (0 : Int32)
set_option maxHeartbeats 4000000 in
set_option maxRecDepth 100000 in
theorem t_Text_canStand_b22 {l : Launch} {D : va_G} {g : Nat → ClassId} {p : Program} {e : Env} {s : State} {m : MethodId} {args : Array Value} {below : List Frame} {meth : Method} {c : Code} {P : Int32 → Prop} {M : Mem} (C : C_Text_canStand D g p s m args meth c M) (h : wp_Text_canStand_b22 g P M ) : B_Text_canStand l D p e s m args below meth c M P M 22 [] [] := by
  intro ls H locs hM hS hl
  unfold wp_Text_canStand_b22 at h
  refine lv_iconst (v := (0 : Int32)) C.1.1 C.1.2.1 d_Text_canStand_22 (by decide) ?_
  exact t_Text_canStand_b23 C h _ _ _ hM hS (lv_sub hl [] rfl)
def wp_Text_canStand (g : Nat → ClassId) (M : Mem) (x0 : Nat) (x1 : Int32) (x2 : Int32) (x3 : Int32) (P : Int32 → Prop) : Prop :=
  (x1 = (46 : Int32) → ((x2 ≤ 0 → (wp_Text_canStand_b22 g P M)) ∧ (¬ x2 ≤ 0 → (∃ v12 : Int32, gI M 1 x0 3 = some v12 ∧ (((5 : Int32) ≤ v12 → (wp_Text_canStand_b22 g P M)) ∧ (¬ (5 : Int32) ≤ v12 → (wp_Text_canStand_b23 g P M (1 : Int32)))))))) ∧ (¬ x1 = (46 : Int32) → (wp_Text_isWild g M x1 (fun v2 : Int32 => (v2 = 0 → (wp_Text_isWordSign g M x1 (fun v5 : Int32 => (v5 = 0 → (wp_Text_canStand_b62 g P M)) ∧ (¬ v5 = 0 → (((6 : Int32) ≤ x2 → (wp_Text_canStand_b62 g P M)) ∧ (¬ (6 : Int32) ≤ x2 → (wp_Text_canStand_b63 g P M (1 : Int32)))))))) ∧ (¬ v2 = 0 → ((x3 = 0 → (wp_Text_canStand_b43 g P M)) ∧ (¬ x3 = 0 → ((x2 = 0 → (wp_Text_canStand_b44 g P M (1 : Int32))) ∧ (¬ x2 = 0 → (wp_Text_canStand_b43 g P M)))))))))
set_option maxHeartbeats 4000000 in
set_option maxRecDepth 100000 in
theorem c_Text_canStand {l : Launch} {D : va_G} {g : Nat → ClassId} {M : Mem} {x0 : Nat} {x1 : Int32} {x2 : Int32} {x3 : Int32} {P : Int32 → Prop} (h : wp_Text_canStand g M x0 x1 x2 x3 P) : mMet l BIG D vwCl (tysG g) y_Text_canStand b_Text_canStand 4 (some .boolean) rm_Text_canStand [.ref x0, .int x1, .int x2, .int x3] M (kI fun r M' => M = M' ∧ P r) := by
  refine mMet.of (own := R_Text) rfl (by decide) rfl (fun p e s m below meth c C hr hlk hnm ls hM hS hl => ?_)
  have C : C_Text_canStand D g p s m ([.ref x0, .int x1, .int x2, .int x3] : List Value).toArray meth c M := ⟨C, hr, hlk⟩
  unfold wp_Text_canStand at h
  have hl : lv_has ls 4 [(0, .ref x0), (1, .int x1), (2, .int x2), (3, .int x3)] := hl
  refine lv_iload_n C.1.1 C.1.2.1 d_Text_canStand_0 rfl (lv_at hl 1 rfl) ?_
  refine lv_bipush (v := (46 : Int32)) C.1.1 C.1.2.1 d_Text_canStand_1 (by decide) ?_
  refine lv_icmp_ne (tgt := 24) C.1.1 C.1.2.1 d_Text_canStand_3 (by decide) (fun c1 => ?_) (fun c1 => ?_)
  · have h := h.2 c1
    refine lv_iload_n C.1.1 C.1.2.1 d_Text_canStand_24 rfl (lv_at hl 1 rfl) ?_
    refine mc_S (As := [.int x1]) C.1 hM hS bigGood (c_Text_isWild h) kw212 kw214 kw107 kw213 hd_Text_isWild ⟨by decide, by decide⟩ hl.1 rfl (Nat.le_of_ble_eq_true rfl) d_Text_canStand_25 (mc := 0) (ms := 0) rfl rfl ⟨by decide, by decide⟩ (fun v M' H locs hp hM hS => ?_)
    obtain ⟨v2, rfl, rfl, h⟩ := hp
    refine lv_if_eq (tgt := 45) C.1.1 C.1.2.1 d_Text_canStand_28 (by decide) (fun c4 => ?_) (fun c4 => ?_)
    · have h := h.1 c4
      refine lv_iload_n C.1.1 C.1.2.1 d_Text_canStand_45 rfl (lv_at hl 1 rfl) ?_
      refine mc_S (As := [.int x1]) C.1 hM hS bigGood (c_Text_isWordSign h) kw215 kw217 kw107 kw216 hd_Text_isWordSign ⟨by decide, by decide⟩ hl.1 rfl (Nat.le_of_ble_eq_true rfl) d_Text_canStand_46 (mc := 0) (ms := 0) rfl rfl ⟨by decide, by decide⟩ (fun v M' H locs hp hM hS => ?_)
      obtain ⟨v5, rfl, rfl, h⟩ := hp
      refine lv_if_eq (tgt := 62) C.1.1 C.1.2.1 d_Text_canStand_49 (by decide) (fun c7 => ?_) (fun c7 => ?_)
      · have h := h.1 c7
        exact t_Text_canStand_b62 C h _ _ _ hM hS (lv_sub hl [] rfl)
      · have h := h.2 c7
        refine lv_iload_n C.1.1 C.1.2.1 d_Text_canStand_52 rfl (lv_at hl 2 rfl) ?_
        refine lv_bipush (v := (6 : Int32)) C.1.1 C.1.2.1 d_Text_canStand_53 (by decide) ?_
        refine lv_icmp_ge (tgt := 62) C.1.1 C.1.2.1 d_Text_canStand_55 (by decide) (fun c8 => ?_) (fun c8 => ?_)
        · have h := h.1 c8
          exact t_Text_canStand_b62 C h _ _ _ hM hS (lv_sub hl [] rfl)
        · have h := h.2 c8
          refine lv_iconst (v := (1 : Int32)) C.1.1 C.1.2.1 d_Text_canStand_58 (by decide) ?_
          refine lv_goto (tgt := 63) C.1.1 C.1.2.1 d_Text_canStand_59 (by decide) ?_
          exact t_Text_canStand_b63 C h _ _ _ hM hS (lv_sub hl [] rfl)
    · have h := h.2 c4
      refine lv_iload_n C.1.1 C.1.2.1 d_Text_canStand_31 rfl (lv_at hl 3 rfl) ?_
      refine lv_if_eq (tgt := 43) C.1.1 C.1.2.1 d_Text_canStand_32 (by decide) (fun c9 => ?_) (fun c9 => ?_)
      · have h := h.1 c9
        exact t_Text_canStand_b43 C h _ _ _ hM hS (lv_sub hl [] rfl)
      · have h := h.2 c9
        refine lv_iload_n C.1.1 C.1.2.1 d_Text_canStand_35 rfl (lv_at hl 2 rfl) ?_
        refine lv_if_ne (tgt := 43) C.1.1 C.1.2.1 d_Text_canStand_36 (by decide) (fun c10 => ?_) (fun c10 => ?_)
        · have h := h.2 c10
          exact t_Text_canStand_b43 C h _ _ _ hM hS (lv_sub hl [] rfl)
        · have h := h.1 c10
          refine lv_iconst (v := (1 : Int32)) C.1.1 C.1.2.1 d_Text_canStand_39 (by decide) ?_
          refine lv_goto (tgt := 44) C.1.1 C.1.2.1 d_Text_canStand_40 (by decide) ?_
          exact t_Text_canStand_b44 C h _ _ _ hM hS (lv_sub hl [] rfl)
  · have h := h.1 c1
    refine lv_iload_n C.1.1 C.1.2.1 d_Text_canStand_6 rfl (lv_at hl 2 rfl) ?_
    refine lv_if_le (tgt := 22) C.1.1 C.1.2.1 d_Text_canStand_7 (by decide) (fun c11 => ?_) (fun c11 => ?_)
    · have h := h.1 c11
      exact t_Text_canStand_b22 C h _ _ _ hM hS (lv_sub hl [] rfl)
    · have h := h.2 c11
      refine lv_aload_n C.1.1 C.1.2.1 d_Text_canStand_10 rfl (lv_at hl 0 rfl) ?_
      obtain ⟨v12, ev12, h⟩ := h
      refine mg_I C.1 hM ok_Text (by decide) kw104 ev12 d_Text_canStand_11 ?_
      refine lv_iconst (v := (5 : Int32)) C.1.1 C.1.2.1 d_Text_canStand_14 (by decide) ?_
      refine lv_icmp_ge (tgt := 22) C.1.1 C.1.2.1 d_Text_canStand_15 (by decide) (fun c13 => ?_) (fun c13 => ?_)
      · have h := h.1 c13
        exact t_Text_canStand_b22 C h _ _ _ hM hS (lv_sub hl [] rfl)
      · have h := h.2 c13
        refine lv_iconst (v := (1 : Int32)) C.1.1 C.1.2.1 d_Text_canStand_18 (by decide) ?_
        refine lv_goto (tgt := 23) C.1.1 C.1.2.1 d_Text_canStand_19 (by decide) ?_
        exact t_Text_canStand_b23 C h _ _ _ hM hS (lv_sub hl [] rfl)
theorem d_Text_read_0 : decode b_Text_read 0 = .ok (.aload_n 0, 1) := by decide +kernel
theorem d_Text_read_1 : decode b_Text_read 1 = .ok (.iconst 0, 1) := by decide +kernel
theorem d_Text_read_2 : decode b_Text_read 2 = .ok (.putfield 23, 3) := by decide +kernel
theorem d_Text_read_5 : decode b_Text_read 5 = .ok (.lconst 0, 1) := by decide +kernel
theorem d_Text_read_6 : decode b_Text_read 6 = .ok (.lstore_n 2, 1) := by decide +kernel
theorem d_Text_read_7 : decode b_Text_read 7 = .ok (.iconst 0, 1) := by decide +kernel
theorem d_Text_read_8 : decode b_Text_read 8 = .ok (.istore 4, 2) := by decide +kernel
theorem d_Text_read_10 : decode b_Text_read 10 = .ok (.iconst 0, 1) := by decide +kernel
theorem d_Text_read_11 : decode b_Text_read 11 = .ok (.istore 5, 2) := by decide +kernel
theorem d_Text_read_13 : decode b_Text_read 13 = .ok (.iload 5, 2) := by decide +kernel
theorem d_Text_read_15 : decode b_Text_read 15 = .ok (.aload_n 0, 1) := by decide +kernel
theorem d_Text_read_16 : decode b_Text_read 16 = .ok (.getfield 19, 3) := by decide +kernel
theorem d_Text_read_19 : decode b_Text_read 19 = .ok (.if_icmp .ge 80, 3) := by decide +kernel
theorem d_Text_read_22 : decode b_Text_read 22 = .ok (.aload_n 0, 1) := by decide +kernel
theorem d_Text_read_23 : decode b_Text_read 23 = .ok (.iload 5, 2) := by decide +kernel
theorem d_Text_read_25 : decode b_Text_read 25 = .ok (.invokevirtual 29, 3) := by decide +kernel
theorem d_Text_read_28 : decode b_Text_read 28 = .ok (.istore 6, 2) := by decide +kernel
theorem d_Text_read_30 : decode b_Text_read 30 = .ok (.aload_n 0, 1) := by decide +kernel
theorem d_Text_read_31 : decode b_Text_read 31 = .ok (.iload 6, 2) := by decide +kernel
theorem d_Text_read_33 : decode b_Text_read 33 = .ok (.iload 4, 2) := by decide +kernel
theorem d_Text_read_35 : decode b_Text_read 35 = .ok (.iload_n 1, 1) := by decide +kernel
theorem d_Text_read_36 : decode b_Text_read 36 = .ok (.invokevirtual 45, 3) := by decide +kernel
theorem d_Text_read_39 : decode b_Text_read 39 = .ok (.ifCond .ne 6, 3) := by decide +kernel
theorem d_Text_read_42 : decode b_Text_read 42 = .ok (.iload 5, 2) := by decide +kernel
theorem d_Text_read_44 : decode b_Text_read 44 = .ok (.ireturn, 1) := by decide +kernel
theorem d_Text_read_45 : decode b_Text_read 45 = .ok (.iload 6, 2) := by decide +kernel
theorem d_Text_read_47 : decode b_Text_read 47 = .ok (.bipush 46, 2) := by decide +kernel
theorem d_Text_read_49 : decode b_Text_read 49 = .ok (.if_icmp .ne 16, 3) := by decide +kernel
theorem d_Text_read_52 : decode b_Text_read 52 = .ok (.aload_n 0, 1) := by decide +kernel
theorem d_Text_read_53 : decode b_Text_read 53 = .ok (.lload_n 2, 1) := by decide +kernel
theorem d_Text_read_54 : decode b_Text_read 54 = .ok (.invokevirtual 41, 3) := by decide +kernel
theorem d_Text_read_57 : decode b_Text_read 57 = .ok (.lconst 0, 1) := by decide +kernel
theorem d_Text_read_58 : decode b_Text_read 58 = .ok (.lstore_n 2, 1) := by decide +kernel
theorem d_Text_read_59 : decode b_Text_read 59 = .ok (.iconst 0, 1) := by decide +kernel
theorem d_Text_read_60 : decode b_Text_read 60 = .ok (.istore 4, 2) := by decide +kernel
theorem d_Text_read_62 : decode b_Text_read 62 = .ok (.goto 31, 3) := by decide +kernel
theorem d_Text_read_65 : decode b_Text_read 65 = .ok (.lload_n 2, 1) := by decide +kernel
theorem d_Text_read_66 : decode b_Text_read 66 = .ok (.bipush 8, 2) := by decide +kernel
theorem d_Text_read_68 : decode b_Text_read 68 = .ok (.lshl, 1) := by decide +kernel
theorem d_Text_read_69 : decode b_Text_read 69 = .ok (.iload 6, 2) := by decide +kernel
theorem d_Text_read_71 : decode b_Text_read 71 = .ok (.i2l, 1) := by decide +kernel
theorem d_Text_read_72 : decode b_Text_read 72 = .ok (.lor, 1) := by decide +kernel
theorem d_Text_read_73 : decode b_Text_read 73 = .ok (.lstore_n 2, 1) := by decide +kernel
theorem d_Text_read_74 : decode b_Text_read 74 = .ok (.iload 6, 2) := by decide +kernel
theorem d_Text_read_76 : decode b_Text_read 76 = .ok (.invokestatic 49, 3) := by decide +kernel
theorem d_Text_read_79 : decode b_Text_read 79 = .ok (.ifCond .eq 8, 3) := by decide +kernel
theorem d_Text_read_82 : decode b_Text_read 82 = .ok (.bipush 6, 2) := by decide +kernel
theorem d_Text_read_84 : decode b_Text_read 84 = .ok (.goto 7, 3) := by decide +kernel
theorem d_Text_read_87 : decode b_Text_read 87 = .ok (.iload 4, 2) := by decide +kernel
theorem d_Text_read_89 : decode b_Text_read 89 = .ok (.iconst 1, 1) := by decide +kernel
theorem d_Text_read_90 : decode b_Text_read 90 = .ok (.iadd, 1) := by decide +kernel
theorem d_Text_read_91 : decode b_Text_read 91 = .ok (.istore 4, 2) := by decide +kernel
theorem d_Text_read_93 : decode b_Text_read 93 = .ok (.iinc 5 1, 3) := by decide +kernel
theorem d_Text_read_96 : decode b_Text_read 96 = .ok (.goto (-83), 3) := by decide +kernel
theorem d_Text_read_99 : decode b_Text_read 99 = .ok (.iload 4, 2) := by decide +kernel
theorem d_Text_read_101 : decode b_Text_read 101 = .ok (.ifCond .ne 8, 3) := by decide +kernel
theorem d_Text_read_104 : decode b_Text_read 104 = .ok (.aload_n 0, 1) := by decide +kernel
theorem d_Text_read_105 : decode b_Text_read 105 = .ok (.getfield 19, 3) := by decide +kernel
theorem d_Text_read_108 : decode b_Text_read 108 = .ok (.ireturn, 1) := by decide +kernel
theorem d_Text_read_109 : decode b_Text_read 109 = .ok (.aload_n 0, 1) := by decide +kernel
theorem d_Text_read_110 : decode b_Text_read 110 = .ok (.lload_n 2, 1) := by decide +kernel
theorem d_Text_read_111 : decode b_Text_read 111 = .ok (.invokevirtual 41, 3) := by decide +kernel
theorem d_Text_read_114 : decode b_Text_read 114 = .ok (.iconst (-1), 1) := by decide +kernel
theorem d_Text_read_115 : decode b_Text_read 115 = .ok (.ireturn, 1) := by decide +kernel
abbrev rm_Text_read : Room := { frames := 2, cells := 0, slots := 0, locals := 43 }
abbrev C_Text_read (D : va_G) (g : Nat → ClassId) (p : Program) (s : State) (m : MethodId) (args : Array Value) (meth : Method) (c : Code) (M0 : Mem) : Prop := Cx p s m args c b_Text_read 7 R_Text BIG D vwCl (tysG g) (mA M0 s.heap.size) ∧ meth.sig.returnType = (some .int) ∧ meth.locks = false
abbrev B_Text_read (l : Launch) (D : va_G) (p : Program) (e : Env) (s : State) (m : MethodId) (args : Array Value) (below : List Frame) (meth : Method) (c : Code) (M0 : Mem) (P : Int32 → Mem → Prop) (M : Mem) (pc : Nat) (lv : List (Nat × Value)) (st : List Value) : Prop := Wb p l e rm_Text_read s m args below meth c 7 D vwCl M0 (kI fun r M' => P r M') 0 0 M pc lv st
def wp_Text_read_b93 (g : Nat → ClassId) (P : Int32 → Mem → Prop) (J13 : Int64 → Int32 → Int32 → Mem → Prop) (M : Mem) (x0 : Nat) (x1 : Int32) (x2 : Int64) (x4 : Int32) (x5 : Int32) : Prop :=
  J13 x2 x4 (x5 + (1 : Int32)) M
set_option maxHeartbeats 4000000 in
set_option maxRecDepth 100000 in
theorem t_Text_read_b93 {l : Launch} {D : va_G} {g : Nat → ClassId} {p : Program} {e : Env} {s : State} {m : MethodId} {args : Array Value} {below : List Frame} {meth : Method} {c : Code} {M0 : Mem} {P : Int32 → Mem → Prop} {J13 : Int64 → Int32 → Int32 → Mem → Prop} {M : Mem} {x0 : Nat} {x1 : Int32} {x2 : Int64} {x4 : Int32} {x5 : Int32} (C : C_Text_read D g p s m args meth c M0) (h : wp_Text_read_b93 g P J13 M x0 x1 x2 x4 x5 ) (kJ13 : ∀ (x2 : Int64) (x4 : Int32) (x5 : Int32) (M : Mem), J13 x2 x4 x5 M → B_Text_read l D p e s m args below meth c M0 P M 13 [(0, .ref x0), (1, .int x1), (2, .long x2), (4, .int x4), (5, .int x5)] []) : B_Text_read l D p e s m args below meth c M0 P M 93 [(0, .ref x0), (1, .int x1), (2, .long x2), (4, .int x4), (5, .int x5)] [] := by
  intro ls H locs hM hS hl
  unfold wp_Text_read_b93 at h
  refine lv_iinc (v := x5 + (1 : Int32)) (lv' := [(5, .int (x5 + (1 : Int32))), (0, .ref x0), (1, .int x1), (2, .long x2), (4, .int x4)]) C.1.1 C.1.2.1 d_Text_read_93 hl (k := 4) rfl rfl (by decide) rfl (fun ls hl => ?_)
  refine lv_goto (tgt := 13) C.1.1 C.1.2.1 d_Text_read_96 (by decide) ?_
  exact kJ13 x2 x4 (x5 + (1 : Int32)) M h _ _ _ hM hS (lv_sub hl [1, 2, 3, 4, 0] rfl)
def wp_Text_read_b91 (g : Nat → ClassId) (P : Int32 → Mem → Prop) (J13 : Int64 → Int32 → Int32 → Mem → Prop) (M : Mem) (x0 : Nat) (x1 : Int32) (x2 : Int64) (x5 : Int32) (t0 : Int32) : Prop :=
  wp_Text_read_b93 g P J13 M x0 x1 x2 t0 x5
set_option maxHeartbeats 4000000 in
set_option maxRecDepth 100000 in
theorem t_Text_read_b91 {l : Launch} {D : va_G} {g : Nat → ClassId} {p : Program} {e : Env} {s : State} {m : MethodId} {args : Array Value} {below : List Frame} {meth : Method} {c : Code} {M0 : Mem} {P : Int32 → Mem → Prop} {J13 : Int64 → Int32 → Int32 → Mem → Prop} {M : Mem} {x0 : Nat} {x1 : Int32} {x2 : Int64} {x5 : Int32} {t0 : Int32} (C : C_Text_read D g p s m args meth c M0) (h : wp_Text_read_b91 g P J13 M x0 x1 x2 x5 t0) (kJ13 : ∀ (x2 : Int64) (x4 : Int32) (x5 : Int32) (M : Mem), J13 x2 x4 x5 M → B_Text_read l D p e s m args below meth c M0 P M 13 [(0, .ref x0), (1, .int x1), (2, .long x2), (4, .int x4), (5, .int x5)] []) : B_Text_read l D p e s m args below meth c M0 P M 91 [(0, .ref x0), (1, .int x1), (2, .long x2), (5, .int x5)] [.int t0] := by
  intro ls H locs hM hS hl
  unfold wp_Text_read_b91 at h
  refine lv_istore (lv' := [(4, .int t0), (0, .ref x0), (1, .int x1), (2, .long x2), (5, .int x5)]) C.1.1 C.1.2.1 d_Text_read_91 hl (by decide) rfl (fun ls hl => ?_)
  exact t_Text_read_b93 C h kJ13 _ _ _ hM hS (lv_sub hl [1, 2, 3, 0, 4] rfl)
def wp_Text_read_b13 (g : Nat → ClassId) (P : Int32 → Mem → Prop) (M : Mem) (x0 : Nat) (x1 : Int32) (x2 : Int64) (x4 : Int32) (x5 : Int32) : Prop :=
  ∃ (I : Int64 → Int32 → Int32 → Mem → Prop) (μ : Int64 → Int32 → Int32 → Mem → Nat), I x2 x4 x5 M ∧ ∀ (x2 : Int64) (x4 : Int32) (x5 : Int32) (M : Mem), I x2 x4 x5 M →
  ∃ v1 : Int32, gI M 1 x0 2 = some v1 ∧ ((v1 ≤ x5 → ((x4 = 0 → (∃ v6 : Int32, gI M 1 x0 2 = some v6 ∧ (P v6 M))) ∧ (¬ x4 = 0 → (isO M 1 x0 ∧ (wp_Text_addPart g M x0 x2 (fun (M5 : Mem) => P (-1 : Int32) M5)))))) ∧ (¬ v1 ≤ x5 → (isO M 1 x0 ∧ (wp_Text_signAt g M x0 x5 (fun v7 : Int32 => isO M 1 x0 ∧ (wp_Text_canStand g M x0 v7 x4 x1 (fun v9 : Int32 => (v9 = 0 → (P x5 M)) ∧ (¬ v9 = 0 → ((v7 = (46 : Int32) → (isO M 1 x0 ∧ (wp_Text_addPart g M x0 x2 (fun (M17 : Mem) => wp_Text_read_b93 g P (fun y2 y4 y5 N => I y2 y4 y5 N ∧ μ y2 y4 y5 N < μ x2 x4 x5 M) M17 x0 x1 (0 : Int64) (0 : Int32) x5)))) ∧ (¬ v7 = (46 : Int32) → (wp_Text_isWild g M v7 (fun v13 : Int32 => (v13 = 0 → (wp_Text_read_b91 g P (fun y2 y4 y5 N => I y2 y4 y5 N ∧ μ y2 y4 y5 N < μ x2 x4 x5 M) M x0 x1 ((x2 <<< ((8 : Int32).toInt64 &&& 63)) ||| v7.toInt64) x5 (x4 + (1 : Int32)))) ∧ (¬ v13 = 0 → (wp_Text_read_b91 g P (fun y2 y4 y5 N => I y2 y4 y5 N ∧ μ y2 y4 y5 N < μ x2 x4 x5 M) M x0 x1 ((x2 <<< ((8 : Int32).toInt64 &&& 63)) ||| v7.toInt64) x5 (6 : Int32)))))))))))))))
set_option maxHeartbeats 4000000 in
set_option maxRecDepth 100000 in
theorem t_Text_read_b13 {l : Launch} {D : va_G} {g : Nat → ClassId} {p : Program} {e : Env} {s : State} {m : MethodId} {args : Array Value} {below : List Frame} {meth : Method} {c : Code} {M0 : Mem} {P : Int32 → Mem → Prop} {M : Mem} {x0 : Nat} {x1 : Int32} {x2 : Int64} {x4 : Int32} {x5 : Int32} (C : C_Text_read D g p s m args meth c M0) (h : wp_Text_read_b13 g P M x0 x1 x2 x4 x5 ) : B_Text_read l D p e s m args below meth c M0 P M 13 [(0, .ref x0), (1, .int x1), (2, .long x2), (4, .int x4), (5, .int x5)] [] := by
  unfold wp_Text_read_b13 at h
  obtain ⟨I, μ, hI, hb⟩ := h
  have key : ∀ (n : Nat) (x2 : Int64) (x4 : Int32) (x5 : Int32) (M : Mem), I x2 x4 x5 M → μ x2 x4 x5 M < n → B_Text_read l D p e s m args below meth c M0 P M 13 [(0, .ref x0), (1, .int x1), (2, .long x2), (4, .int x4), (5, .int x5)] [] := by
    intro n
    induction n with
    | zero => intro x2 x4 x5 M _ hn; exact absurd hn (Nat.not_lt_zero _)
    | succ n ih =>
      intro x2 x4 x5 M hI hn ls H locs hM hS hl
      have h := hb x2 x4 x5 M hI
      refine lv_iload C.1.1 C.1.2.1 d_Text_read_13 (lv_at hl 4 rfl) ?_
      refine lv_aload_n C.1.1 C.1.2.1 d_Text_read_15 rfl (lv_at hl 0 rfl) ?_
      obtain ⟨v1, ev1, h⟩ := h
      refine mg_I C.1 hM ok_Text (by decide) kw103 ev1 d_Text_read_16 ?_
      refine lv_icmp_ge (tgt := 99) C.1.1 C.1.2.1 d_Text_read_19 (by decide) (fun c2 => ?_) (fun c2 => ?_)
      · have h := h.1 c2
        refine lv_iload C.1.1 C.1.2.1 d_Text_read_99 (lv_at hl 3 rfl) ?_
        refine lv_if_ne (tgt := 109) C.1.1 C.1.2.1 d_Text_read_101 (by decide) (fun c3 => ?_) (fun c3 => ?_)
        · have h := h.2 c3
          refine lv_aload_n C.1.1 C.1.2.1 d_Text_read_109 rfl (lv_at hl 0 rfl) ?_
          refine lv_lload_n C.1.1 C.1.2.1 d_Text_read_110 rfl (lv_at hl 2 rfl) ?_
          obtain ⟨ho, h⟩ := h
          refine mc_V (As := [.long x2]) (ci := 1) C.1 hM hS bigGood (c_Text_addPart h) rfl ho kw191 kw193 kw194 kw107 kw192 hd_Text_addPart ⟨by decide, by decide⟩ hl.1 rfl (Nat.le_of_ble_eq_true rfl) d_Text_read_111 (mc := 0) (ms := 0) rfl rfl ⟨by decide, by decide⟩ (fun v M5 H locs hp hM hS => ?_)
          obtain ⟨rfl, h⟩ := hp
          refine lv_iconst (v := (-1 : Int32)) C.1.1 C.1.2.1 d_Text_read_114 (by decide) ?_
          exact mr_I C.1 C.2.1 C.2.2 hM hS ⟨_, rfl, h⟩ d_Text_read_115
        · have h := h.1 c3
          refine lv_aload_n C.1.1 C.1.2.1 d_Text_read_104 rfl (lv_at hl 0 rfl) ?_
          obtain ⟨v6, ev6, h⟩ := h
          refine mg_I C.1 hM ok_Text (by decide) kw103 ev6 d_Text_read_105 ?_
          exact mr_I C.1 C.2.1 C.2.2 hM hS ⟨_, rfl, h⟩ d_Text_read_108
      · have h := h.2 c2
        refine lv_aload_n C.1.1 C.1.2.1 d_Text_read_22 rfl (lv_at hl 0 rfl) ?_
        refine lv_iload C.1.1 C.1.2.1 d_Text_read_23 (lv_at hl 4 rfl) ?_
        obtain ⟨ho, h⟩ := h
        refine mc_V (As := [.int x5]) (ci := 1) C.1 hM hS bigGood (c_Text_signAt h) rfl ho kw105 kw108 kw109 kw107 kw106 hd_Text_signAt ⟨by decide, by decide⟩ hl.1 rfl (Nat.le_of_ble_eq_true rfl) d_Text_read_25 (mc := 0) (ms := 0) rfl rfl ⟨by decide, by decide⟩ (fun v M' H locs hp hM hS => ?_)
        obtain ⟨v7, rfl, rfl, h⟩ := hp
        refine lv_istore (lv' := [(6, .int v7), (0, .ref x0), (1, .int x1), (2, .long x2), (4, .int x4), (5, .int x5)]) C.1.1 C.1.2.1 d_Text_read_28 hl (by decide) rfl (fun ls hl => ?_)
        refine lv_aload_n C.1.1 C.1.2.1 d_Text_read_30 rfl (lv_at hl 1 rfl) ?_
        refine lv_iload C.1.1 C.1.2.1 d_Text_read_31 (lv_at hl 0 rfl) ?_
        refine lv_iload C.1.1 C.1.2.1 d_Text_read_33 (lv_at hl 4 rfl) ?_
        refine lv_iload_n C.1.1 C.1.2.1 d_Text_read_35 rfl (lv_at hl 2 rfl) ?_
        obtain ⟨ho, h⟩ := h
        refine mc_V (As := [.int v7, .int x4, .int x1]) (ci := 1) C.1 hM hS bigGood (c_Text_canStand h) rfl ho kw296 kw298 kw299 kw107 kw297 hd_Text_canStand ⟨by decide, by decide⟩ hl.1 rfl (Nat.le_of_ble_eq_true rfl) d_Text_read_36 (mc := 0) (ms := 0) rfl rfl ⟨by decide, by decide⟩ (fun v M' H locs hp hM hS => ?_)
        obtain ⟨v9, rfl, rfl, h⟩ := hp
        refine lv_if_ne (tgt := 45) C.1.1 C.1.2.1 d_Text_read_39 (by decide) (fun c11 => ?_) (fun c11 => ?_)
        · have h := h.2 c11
          refine lv_iload C.1.1 C.1.2.1 d_Text_read_45 (lv_at hl 0 rfl) ?_
          refine lv_bipush (v := (46 : Int32)) C.1.1 C.1.2.1 d_Text_read_47 (by decide) ?_
          refine lv_icmp_ne (tgt := 65) C.1.1 C.1.2.1 d_Text_read_49 (by decide) (fun c12 => ?_) (fun c12 => ?_)
          · have h := h.2 c12
            refine lv_lload_n C.1.1 C.1.2.1 d_Text_read_65 rfl (lv_at hl 3 rfl) ?_
            refine lv_bipush (v := (8 : Int32)) C.1.1 C.1.2.1 d_Text_read_66 (by decide) ?_
            refine lv_lshl (v := x2 <<< ((8 : Int32).toInt64 &&& 63)) C.1.1 C.1.2.1 d_Text_read_68 rfl ?_
            refine lv_iload C.1.1 C.1.2.1 d_Text_read_69 (lv_at hl 0 rfl) ?_
            refine lv_i2l (v := v7.toInt64) C.1.1 C.1.2.1 d_Text_read_71 rfl ?_
            refine lv_lor C.1.1 C.1.2.1 d_Text_read_72 ?_
            refine lv_lstore_n (lv' := [(2, .long ((x2 <<< ((8 : Int32).toInt64 &&& 63)) ||| v7.toInt64)), (6, .int v7), (0, .ref x0), (1, .int x1), (4, .int x4), (5, .int x5)]) C.1.1 C.1.2.1 d_Text_read_73 rfl hl (by decide) rfl (fun ls hl => ?_)
            refine lv_iload C.1.1 C.1.2.1 d_Text_read_74 (lv_at hl 1 rfl) ?_
            refine mc_S (As := [.int v7]) C.1 hM hS bigGood (c_Text_isWild h) kw212 kw214 kw107 kw213 hd_Text_isWild ⟨by decide, by decide⟩ hl.1 rfl (Nat.le_of_ble_eq_true rfl) d_Text_read_76 (mc := 0) (ms := 0) rfl rfl ⟨by decide, by decide⟩ (fun v M' H locs hp hM hS => ?_)
            obtain ⟨v13, rfl, rfl, h⟩ := hp
            refine lv_if_eq (tgt := 87) C.1.1 C.1.2.1 d_Text_read_79 (by decide) (fun c15 => ?_) (fun c15 => ?_)
            · have h := h.1 c15
              refine lv_iload C.1.1 C.1.2.1 d_Text_read_87 (lv_at hl 4 rfl) ?_
              refine lv_iconst (v := (1 : Int32)) C.1.1 C.1.2.1 d_Text_read_89 (by decide) ?_
              refine lv_iadd C.1.1 C.1.2.1 d_Text_read_90 ?_
              exact t_Text_read_b91 C h (fun y2 y4 y5 N hJ => ih y2 y4 y5 N hJ.1 (Nat.lt_of_lt_of_le hJ.2 (Nat.le_of_lt_succ hn))) _ _ _ hM hS (lv_sub hl [2, 3, 0, 5] rfl)
            · have h := h.2 c15
              refine lv_bipush (v := (6 : Int32)) C.1.1 C.1.2.1 d_Text_read_82 (by decide) ?_
              refine lv_goto (tgt := 91) C.1.1 C.1.2.1 d_Text_read_84 (by decide) ?_
              exact t_Text_read_b91 C h (fun y2 y4 y5 N hJ => ih y2 y4 y5 N hJ.1 (Nat.lt_of_lt_of_le hJ.2 (Nat.le_of_lt_succ hn))) _ _ _ hM hS (lv_sub hl [2, 3, 0, 5] rfl)
          · have h := h.1 c12
            refine lv_aload_n C.1.1 C.1.2.1 d_Text_read_52 rfl (lv_at hl 1 rfl) ?_
            refine lv_lload_n C.1.1 C.1.2.1 d_Text_read_53 rfl (lv_at hl 3 rfl) ?_
            obtain ⟨ho, h⟩ := h
            refine mc_V (As := [.long x2]) (ci := 1) C.1 hM hS bigGood (c_Text_addPart h) rfl ho kw191 kw193 kw194 kw107 kw192 hd_Text_addPart ⟨by decide, by decide⟩ hl.1 rfl (Nat.le_of_ble_eq_true rfl) d_Text_read_54 (mc := 0) (ms := 0) rfl rfl ⟨by decide, by decide⟩ (fun v M17 H locs hp hM hS => ?_)
            obtain ⟨rfl, h⟩ := hp
            refine lv_lconst (v := (0 : Int64)) C.1.1 C.1.2.1 d_Text_read_57 (by decide) ?_
            refine lv_lstore_n (lv' := [(2, .long (0 : Int64)), (6, .int v7), (0, .ref x0), (1, .int x1), (4, .int x4), (5, .int x5)]) C.1.1 C.1.2.1 d_Text_read_58 rfl hl (by decide) rfl (fun ls hl => ?_)
            refine lv_iconst (v := (0 : Int32)) C.1.1 C.1.2.1 d_Text_read_59 (by decide) ?_
            refine lv_istore (lv' := [(4, .int (0 : Int32)), (2, .long (0 : Int64)), (6, .int v7), (0, .ref x0), (1, .int x1), (5, .int x5)]) C.1.1 C.1.2.1 d_Text_read_60 hl (by decide) rfl (fun ls hl => ?_)
            refine lv_goto (tgt := 93) C.1.1 C.1.2.1 d_Text_read_62 (by decide) ?_
            exact t_Text_read_b93 C h (fun y2 y4 y5 N hJ => ih y2 y4 y5 N hJ.1 (Nat.lt_of_lt_of_le hJ.2 (Nat.le_of_lt_succ hn))) _ _ _ hM hS (lv_sub hl [3, 4, 1, 0, 5] rfl)
        · have h := h.1 c11
          refine lv_iload C.1.1 C.1.2.1 d_Text_read_42 (lv_at hl 5 rfl) ?_
          exact mr_I C.1 C.2.1 C.2.2 hM hS ⟨_, rfl, h⟩ d_Text_read_44
  exact key _ x2 x4 x5 M hI (Nat.lt_succ_self _)
def wp_Text_read (g : Nat → ClassId) (M : Mem) (x0 : Nat) (x1 : Int32) (P : Int32 → Mem → Prop) : Prop :=
  ∃ M1 : Mem, pV M 1 x0 3 (.int (0 : Int32)) = some M1 ∧ (wp_Text_read_b13 g P M1 x0 x1 (0 : Int64) (0 : Int32) (0 : Int32))
set_option maxHeartbeats 4000000 in
set_option maxRecDepth 100000 in
theorem c_Text_read {l : Launch} {D : va_G} {g : Nat → ClassId} {M : Mem} {x0 : Nat} {x1 : Int32} {P : Int32 → Mem → Prop} (h : wp_Text_read g M x0 x1 P) : mMet l BIG D vwCl (tysG g) y_Text_read b_Text_read 7 (some .int) rm_Text_read [.ref x0, .int x1] M (kI fun r M' => P r M') := by
  refine mMet.of (own := R_Text) rfl (by decide) rfl (fun p e s m below meth c C hr hlk hnm ls hM hS hl => ?_)
  have C : C_Text_read D g p s m ([.ref x0, .int x1] : List Value).toArray meth c M := ⟨C, hr, hlk⟩
  unfold wp_Text_read at h
  have hl : lv_has ls 7 [(0, .ref x0), (1, .int x1)] := hl
  refine lv_aload_n C.1.1 C.1.2.1 d_Text_read_0 rfl (lv_at hl 0 rfl) ?_
  refine lv_iconst (v := (0 : Int32)) C.1.1 C.1.2.1 d_Text_read_1 (by decide) ?_
  obtain ⟨M1, eM1, h⟩ := h
  refine mp_V C.1 hM hS ok_Text (by decide) kw104 rfl rfl rfl eM1 d_Text_read_2 (fun H locs hM hS => ?_)
  refine lv_lconst (v := (0 : Int64)) C.1.1 C.1.2.1 d_Text_read_5 (by decide) ?_
  refine lv_lstore_n (lv' := [(2, .long (0 : Int64)), (0, .ref x0), (1, .int x1)]) C.1.1 C.1.2.1 d_Text_read_6 rfl hl (by decide) rfl (fun ls hl => ?_)
  refine lv_iconst (v := (0 : Int32)) C.1.1 C.1.2.1 d_Text_read_7 (by decide) ?_
  refine lv_istore (lv' := [(4, .int (0 : Int32)), (2, .long (0 : Int64)), (0, .ref x0), (1, .int x1)]) C.1.1 C.1.2.1 d_Text_read_8 hl (by decide) rfl (fun ls hl => ?_)
  refine lv_iconst (v := (0 : Int32)) C.1.1 C.1.2.1 d_Text_read_10 (by decide) ?_
  refine lv_istore (lv' := [(5, .int (0 : Int32)), (4, .int (0 : Int32)), (2, .long (0 : Int64)), (0, .ref x0), (1, .int x1)]) C.1.1 C.1.2.1 d_Text_read_11 hl (by decide) rfl (fun ls hl => ?_)
  exact t_Text_read_b13 C h _ _ _ hM hS (lv_sub hl [3, 4, 2, 1, 0] rfl)
