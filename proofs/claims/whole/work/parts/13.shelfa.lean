theorem d_Shelf_size_0 : decode b_Shelf_size 0 = .ok (.aload_n 0, 1) := by decide +kernel
theorem d_Shelf_size_1 : decode b_Shelf_size 1 = .ok (.getfield 18, 3) := by decide +kernel
theorem d_Shelf_size_4 : decode b_Shelf_size 4 = .ok (.ireturn, 1) := by decide +kernel
abbrev rm_Shelf_size : Room := { frames := 0, cells := 0, slots := 0, locals := 0 }
abbrev C_Shelf_size (D : va_G) (g : Nat → ClassId) (p : Program) (s : State) (m : MethodId) (args : Array Value) (meth : Method) (c : Code) (M0 : Mem) : Prop := Cx p s m args c b_Shelf_size 1 R_Shelf BIG D vwCl (tysG g) (mA M0 s.heap.size) ∧ meth.sig.returnType = (some .int) ∧ meth.locks = false
abbrev B_Shelf_size (l : Launch) (D : va_G) (p : Program) (e : Env) (s : State) (m : MethodId) (args : Array Value) (below : List Frame) (meth : Method) (c : Code) (M0 : Mem) (P : Int32 → Prop) (M : Mem) (pc : Nat) (lv : List (Nat × Value)) (st : List Value) : Prop := Wb p l e rm_Shelf_size s m args below meth c 1 D vwCl M0 (kI fun r M' => M0 = M' ∧ P r) 0 0 M pc lv st
def wp_Shelf_size (g : Nat → ClassId) (M : Mem) (x0 : Nat) (P : Int32 → Prop) : Prop :=
  ∃ v1 : Int32, gI M 4 x0 1 = some v1 ∧ (P v1)
set_option maxHeartbeats 4000000 in
set_option maxRecDepth 100000 in
theorem c_Shelf_size {l : Launch} {D : va_G} {g : Nat → ClassId} {M : Mem} {x0 : Nat} {P : Int32 → Prop} (h : wp_Shelf_size g M x0 P) : mMet l BIG D vwCl (tysG g) y_Shelf_size b_Shelf_size 1 (some .int) rm_Shelf_size [.ref x0] M (kI fun r M' => M = M' ∧ P r) := by
  refine mMet.of (own := R_Shelf) rfl (by decide) rfl (fun p e s m below meth c C hr hlk hnm ls hM hS hl => ?_)
  have C : C_Shelf_size D g p s m ([.ref x0] : List Value).toArray meth c M := ⟨C, hr, hlk⟩
  unfold wp_Shelf_size at h
  have hl : lv_has ls 1 [(0, .ref x0)] := hl
  refine lv_aload_n C.1.1 C.1.2.1 d_Shelf_size_0 rfl (lv_at hl 0 rfl) ?_
  obtain ⟨v1, ev1, h⟩ := h
  refine mg_I C.1 hM ok_Shelf (by decide) kw97 ev1 d_Shelf_size_1 ?_
  exact mr_I C.1 C.2.1 C.2.2 hM hS ⟨_, rfl, rfl, h⟩ d_Shelf_size_4
theorem d_Shelf_move_0 : decode b_Shelf_move 0 = .ok (.aload_n 0, 1) := by decide +kernel
theorem d_Shelf_move_1 : decode b_Shelf_move 1 = .ok (.getfield 11, 3) := by decide +kernel
theorem d_Shelf_move_4 : decode b_Shelf_move 4 = .ok (.iload_n 1, 1) := by decide +kernel
theorem d_Shelf_move_5 : decode b_Shelf_move 5 = .ok (.aaload, 1) := by decide +kernel
theorem d_Shelf_move_6 : decode b_Shelf_move 6 = .ok (.astore_n 3, 1) := by decide +kernel
theorem d_Shelf_move_7 : decode b_Shelf_move 7 = .ok (.iload_n 1, 1) := by decide +kernel
theorem d_Shelf_move_8 : decode b_Shelf_move 8 = .ok (.istore 4, 2) := by decide +kernel
theorem d_Shelf_move_10 : decode b_Shelf_move 10 = .ok (.iload 4, 2) := by decide +kernel
theorem d_Shelf_move_12 : decode b_Shelf_move 12 = .ok (.iload_n 2, 1) := by decide +kernel
theorem d_Shelf_move_13 : decode b_Shelf_move 13 = .ok (.if_icmp .ge 25, 3) := by decide +kernel
theorem d_Shelf_move_16 : decode b_Shelf_move 16 = .ok (.aload_n 0, 1) := by decide +kernel
theorem d_Shelf_move_17 : decode b_Shelf_move 17 = .ok (.getfield 11, 3) := by decide +kernel
theorem d_Shelf_move_20 : decode b_Shelf_move 20 = .ok (.iload 4, 2) := by decide +kernel
theorem d_Shelf_move_22 : decode b_Shelf_move 22 = .ok (.aload_n 0, 1) := by decide +kernel
theorem d_Shelf_move_23 : decode b_Shelf_move 23 = .ok (.getfield 11, 3) := by decide +kernel
theorem d_Shelf_move_26 : decode b_Shelf_move 26 = .ok (.iload 4, 2) := by decide +kernel
theorem d_Shelf_move_28 : decode b_Shelf_move 28 = .ok (.iconst 1, 1) := by decide +kernel
theorem d_Shelf_move_29 : decode b_Shelf_move 29 = .ok (.iadd, 1) := by decide +kernel
theorem d_Shelf_move_30 : decode b_Shelf_move 30 = .ok (.aaload, 1) := by decide +kernel
theorem d_Shelf_move_31 : decode b_Shelf_move 31 = .ok (.aastore, 1) := by decide +kernel
theorem d_Shelf_move_32 : decode b_Shelf_move 32 = .ok (.iinc 4 1, 3) := by decide +kernel
theorem d_Shelf_move_35 : decode b_Shelf_move 35 = .ok (.goto (-25), 3) := by decide +kernel
theorem d_Shelf_move_38 : decode b_Shelf_move 38 = .ok (.iload_n 1, 1) := by decide +kernel
theorem d_Shelf_move_39 : decode b_Shelf_move 39 = .ok (.istore 4, 2) := by decide +kernel
theorem d_Shelf_move_41 : decode b_Shelf_move 41 = .ok (.iload 4, 2) := by decide +kernel
theorem d_Shelf_move_43 : decode b_Shelf_move 43 = .ok (.iload_n 2, 1) := by decide +kernel
theorem d_Shelf_move_44 : decode b_Shelf_move 44 = .ok (.if_icmp .le 25, 3) := by decide +kernel
theorem d_Shelf_move_47 : decode b_Shelf_move 47 = .ok (.aload_n 0, 1) := by decide +kernel
theorem d_Shelf_move_48 : decode b_Shelf_move 48 = .ok (.getfield 11, 3) := by decide +kernel
theorem d_Shelf_move_51 : decode b_Shelf_move 51 = .ok (.iload 4, 2) := by decide +kernel
theorem d_Shelf_move_53 : decode b_Shelf_move 53 = .ok (.aload_n 0, 1) := by decide +kernel
theorem d_Shelf_move_54 : decode b_Shelf_move 54 = .ok (.getfield 11, 3) := by decide +kernel
theorem d_Shelf_move_57 : decode b_Shelf_move 57 = .ok (.iload 4, 2) := by decide +kernel
theorem d_Shelf_move_59 : decode b_Shelf_move 59 = .ok (.iconst 1, 1) := by decide +kernel
theorem d_Shelf_move_60 : decode b_Shelf_move 60 = .ok (.isub, 1) := by decide +kernel
theorem d_Shelf_move_61 : decode b_Shelf_move 61 = .ok (.aaload, 1) := by decide +kernel
theorem d_Shelf_move_62 : decode b_Shelf_move 62 = .ok (.aastore, 1) := by decide +kernel
theorem d_Shelf_move_63 : decode b_Shelf_move 63 = .ok (.iinc 4 (-1), 3) := by decide +kernel
theorem d_Shelf_move_66 : decode b_Shelf_move 66 = .ok (.goto (-25), 3) := by decide +kernel
theorem d_Shelf_move_69 : decode b_Shelf_move 69 = .ok (.aload_n 0, 1) := by decide +kernel
theorem d_Shelf_move_70 : decode b_Shelf_move 70 = .ok (.getfield 11, 3) := by decide +kernel
theorem d_Shelf_move_73 : decode b_Shelf_move 73 = .ok (.iload_n 2, 1) := by decide +kernel
theorem d_Shelf_move_74 : decode b_Shelf_move 74 = .ok (.aload_n 3, 1) := by decide +kernel
theorem d_Shelf_move_75 : decode b_Shelf_move 75 = .ok (.aastore, 1) := by decide +kernel
theorem d_Shelf_move_76 : decode b_Shelf_move 76 = .ok (.return_, 1) := by decide +kernel
abbrev rm_Shelf_move : Room := { frames := 0, cells := 0, slots := 0, locals := 0 }
abbrev C_Shelf_move (D : va_G) (g : Nat → ClassId) (p : Program) (s : State) (m : MethodId) (args : Array Value) (meth : Method) (c : Code) (M0 : Mem) : Prop := Cx p s m args c b_Shelf_move 5 R_Shelf BIG D vwCl (tysG g) (mA M0 s.heap.size) ∧ meth.sig.returnType = none ∧ meth.locks = false
abbrev B_Shelf_move (l : Launch) (D : va_G) (p : Program) (e : Env) (s : State) (m : MethodId) (args : Array Value) (below : List Frame) (meth : Method) (c : Code) (M0 : Mem) (P : Mem → Prop) (M : Mem) (pc : Nat) (lv : List (Nat × Value)) (st : List Value) : Prop := Wb p l e rm_Shelf_move s m args below meth c 5 D vwCl M0 (kV fun M' => P M') 0 0 M pc lv st
def wp_Shelf_move_b41 (g : Nat → ClassId) (P : Mem → Prop) (M : Mem) (x0 : Nat) (x2 : Int32) (x3 : Nat) (x4 : Int32) : Prop :=
  ∃ (I : Int32 → Mem → Prop) (μ : Int32 → Mem → Nat), I x4 M ∧ ∀ (x4 : Int32) (M : Mem), I x4 M →
  (x4 ≤ x2 → (∃ v2 : Nat, gR M 4 x0 0 = some v2 ∧ (isO M 3 x3 ∧ (∃ M3 : Mem, sR M (g 4) v2 x2 x3 = some M3 ∧ (P M3))))) ∧ (¬ x4 ≤ x2 → (∃ v4 : Nat, gR M 4 x0 0 = some v4 ∧ (∃ v5 : Nat, gR M 4 x0 0 = some v5 ∧ (∃ v6 : Nat, aQ M (g 4) v5 (x4 - (1 : Int32)) = some (some v6) ∧ (isO M 3 v6 ∧ (∃ M7 : Mem, sR M (g 4) v4 x4 v6 = some M7 ∧ ((I (x4 + (-1 : Int32)) M7 ∧ μ (x4 + (-1 : Int32)) M7 < μ x4 M))))))))
set_option maxHeartbeats 4000000 in
set_option maxRecDepth 100000 in
theorem t_Shelf_move_b41 {l : Launch} {D : va_G} {g : Nat → ClassId} {p : Program} {e : Env} {s : State} {m : MethodId} {args : Array Value} {below : List Frame} {meth : Method} {c : Code} {M0 : Mem} {P : Mem → Prop} {M : Mem} {x0 : Nat} {x2 : Int32} {x3 : Nat} {x4 : Int32} (C : C_Shelf_move D g p s m args meth c M0) (h : wp_Shelf_move_b41 g P M x0 x2 x3 x4 ) : B_Shelf_move l D p e s m args below meth c M0 P M 41 [(0, .ref x0), (2, .int x2), (3, .ref x3), (4, .int x4)] [] := by
  unfold wp_Shelf_move_b41 at h
  obtain ⟨I, μ, hI, hb⟩ := h
  have key : ∀ (n : Nat) (x4 : Int32) (M : Mem), I x4 M → μ x4 M < n → B_Shelf_move l D p e s m args below meth c M0 P M 41 [(0, .ref x0), (2, .int x2), (3, .ref x3), (4, .int x4)] [] := by
    intro n
    induction n with
    | zero => intro x4 M _ hn; exact absurd hn (Nat.not_lt_zero _)
    | succ n ih =>
      intro x4 M hI hn ls H locs hM hS hl
      have h := hb x4 M hI
      refine lv_iload C.1.1 C.1.2.1 d_Shelf_move_41 (lv_at hl 3 rfl) ?_
      refine lv_iload_n C.1.1 C.1.2.1 d_Shelf_move_43 rfl (lv_at hl 1 rfl) ?_
      refine lv_icmp_le (tgt := 69) C.1.1 C.1.2.1 d_Shelf_move_44 (by decide) (fun c1 => ?_) (fun c1 => ?_)
      · have h := h.1 c1
        refine lv_aload_n C.1.1 C.1.2.1 d_Shelf_move_69 rfl (lv_at hl 0 rfl) ?_
        obtain ⟨v2, ev2, h⟩ := h
        refine mg_R C.1 hM ok_Shelf (by decide) kw98 ev2 d_Shelf_move_70 ?_
        refine lv_iload_n C.1.1 C.1.2.1 d_Shelf_move_73 rfl (lv_at hl 1 rfl) ?_
        refine lv_aload_n C.1.1 C.1.2.1 d_Shelf_move_74 rfl (lv_at hl 2 rfl) ?_
        obtain ⟨ho, h⟩ := h
        obtain ⟨M3, eM3, h⟩ := h
        refine ms_R C.1 hM hS 4 rfl rfl ho eM3 d_Shelf_move_75 (fun H locs hM hS => ?_)
        exact mr_V C.1 C.2.1 C.2.2 hM hS ⟨rfl, h⟩ d_Shelf_move_76
      · have h := h.2 c1
        refine lv_aload_n C.1.1 C.1.2.1 d_Shelf_move_47 rfl (lv_at hl 0 rfl) ?_
        obtain ⟨v4, ev4, h⟩ := h
        refine mg_R C.1 hM ok_Shelf (by decide) kw98 ev4 d_Shelf_move_48 ?_
        refine lv_iload C.1.1 C.1.2.1 d_Shelf_move_51 (lv_at hl 3 rfl) ?_
        refine lv_aload_n C.1.1 C.1.2.1 d_Shelf_move_53 rfl (lv_at hl 0 rfl) ?_
        obtain ⟨v5, ev5, h⟩ := h
        refine mg_R C.1 hM ok_Shelf (by decide) kw98 ev5 d_Shelf_move_54 ?_
        refine lv_iload C.1.1 C.1.2.1 d_Shelf_move_57 (lv_at hl 3 rfl) ?_
        refine lv_iconst (v := (1 : Int32)) C.1.1 C.1.2.1 d_Shelf_move_59 (by decide) ?_
        refine lv_isub C.1.1 C.1.2.1 d_Shelf_move_60 ?_
        obtain ⟨v6, ev6, h⟩ := h
        refine ma_R C.1 hM 4 rfl ev6 d_Shelf_move_61 ?_
        obtain ⟨ho, h⟩ := h
        obtain ⟨M7, eM7, h⟩ := h
        refine ms_R C.1 hM hS 4 rfl rfl ho eM7 d_Shelf_move_62 (fun H locs hM hS => ?_)
        refine lv_iinc (v := x4 + (-1 : Int32)) (lv' := [(4, .int (x4 + (-1 : Int32))), (0, .ref x0), (2, .int x2), (3, .ref x3)]) C.1.1 C.1.2.1 d_Shelf_move_63 hl (k := 3) rfl rfl (by decide) rfl (fun ls hl => ?_)
        refine lv_goto (tgt := 41) C.1.1 C.1.2.1 d_Shelf_move_66 (by decide) ?_
        exact ih (x4 + (-1 : Int32)) M7 h.1 (Nat.lt_of_lt_of_le h.2 (Nat.le_of_lt_succ hn)) _ _ _ hM hS (lv_sub hl [1, 2, 3, 0] rfl)
  exact key _ x4 M hI (Nat.lt_succ_self _)
def wp_Shelf_move_b10 (g : Nat → ClassId) (P : Mem → Prop) (M : Mem) (x0 : Nat) (x1 : Int32) (x2 : Int32) (x3 : Nat) (x4 : Int32) : Prop :=
  ∃ (I : Int32 → Mem → Prop) (μ : Int32 → Mem → Nat), I x4 M ∧ ∀ (x4 : Int32) (M : Mem), I x4 M →
  (x2 ≤ x4 → (wp_Shelf_move_b41 g P M x0 x2 x3 x1)) ∧ (¬ x2 ≤ x4 → (∃ v2 : Nat, gR M 4 x0 0 = some v2 ∧ (∃ v3 : Nat, gR M 4 x0 0 = some v3 ∧ (∃ v4 : Nat, aQ M (g 4) v3 (x4 + (1 : Int32)) = some (some v4) ∧ (isO M 3 v4 ∧ (∃ M5 : Mem, sR M (g 4) v2 x4 v4 = some M5 ∧ ((I (x4 + (1 : Int32)) M5 ∧ μ (x4 + (1 : Int32)) M5 < μ x4 M))))))))
set_option maxHeartbeats 4000000 in
set_option maxRecDepth 100000 in
theorem t_Shelf_move_b10 {l : Launch} {D : va_G} {g : Nat → ClassId} {p : Program} {e : Env} {s : State} {m : MethodId} {args : Array Value} {below : List Frame} {meth : Method} {c : Code} {M0 : Mem} {P : Mem → Prop} {M : Mem} {x0 : Nat} {x1 : Int32} {x2 : Int32} {x3 : Nat} {x4 : Int32} (C : C_Shelf_move D g p s m args meth c M0) (h : wp_Shelf_move_b10 g P M x0 x1 x2 x3 x4 ) : B_Shelf_move l D p e s m args below meth c M0 P M 10 [(0, .ref x0), (1, .int x1), (2, .int x2), (3, .ref x3), (4, .int x4)] [] := by
  unfold wp_Shelf_move_b10 at h
  obtain ⟨I, μ, hI, hb⟩ := h
  have key : ∀ (n : Nat) (x4 : Int32) (M : Mem), I x4 M → μ x4 M < n → B_Shelf_move l D p e s m args below meth c M0 P M 10 [(0, .ref x0), (1, .int x1), (2, .int x2), (3, .ref x3), (4, .int x4)] [] := by
    intro n
    induction n with
    | zero => intro x4 M _ hn; exact absurd hn (Nat.not_lt_zero _)
    | succ n ih =>
      intro x4 M hI hn ls H locs hM hS hl
      have h := hb x4 M hI
      refine lv_iload C.1.1 C.1.2.1 d_Shelf_move_10 (lv_at hl 4 rfl) ?_
      refine lv_iload_n C.1.1 C.1.2.1 d_Shelf_move_12 rfl (lv_at hl 2 rfl) ?_
      refine lv_icmp_ge (tgt := 38) C.1.1 C.1.2.1 d_Shelf_move_13 (by decide) (fun c1 => ?_) (fun c1 => ?_)
      · have h := h.1 c1
        refine lv_iload_n C.1.1 C.1.2.1 d_Shelf_move_38 rfl (lv_at hl 1 rfl) ?_
        refine lv_istore (lv' := [(4, .int x1), (0, .ref x0), (1, .int x1), (2, .int x2), (3, .ref x3)]) C.1.1 C.1.2.1 d_Shelf_move_39 hl (by decide) rfl (fun ls hl => ?_)
        exact t_Shelf_move_b41 C h _ _ _ hM hS (lv_sub hl [1, 3, 4, 0] rfl)
      · have h := h.2 c1
        refine lv_aload_n C.1.1 C.1.2.1 d_Shelf_move_16 rfl (lv_at hl 0 rfl) ?_
        obtain ⟨v2, ev2, h⟩ := h
        refine mg_R C.1 hM ok_Shelf (by decide) kw98 ev2 d_Shelf_move_17 ?_
        refine lv_iload C.1.1 C.1.2.1 d_Shelf_move_20 (lv_at hl 4 rfl) ?_
        refine lv_aload_n C.1.1 C.1.2.1 d_Shelf_move_22 rfl (lv_at hl 0 rfl) ?_
        obtain ⟨v3, ev3, h⟩ := h
        refine mg_R C.1 hM ok_Shelf (by decide) kw98 ev3 d_Shelf_move_23 ?_
        refine lv_iload C.1.1 C.1.2.1 d_Shelf_move_26 (lv_at hl 4 rfl) ?_
        refine lv_iconst (v := (1 : Int32)) C.1.1 C.1.2.1 d_Shelf_move_28 (by decide) ?_
        refine lv_iadd C.1.1 C.1.2.1 d_Shelf_move_29 ?_
        obtain ⟨v4, ev4, h⟩ := h
        refine ma_R C.1 hM 4 rfl ev4 d_Shelf_move_30 ?_
        obtain ⟨ho, h⟩ := h
        obtain ⟨M5, eM5, h⟩ := h
        refine ms_R C.1 hM hS 4 rfl rfl ho eM5 d_Shelf_move_31 (fun H locs hM hS => ?_)
        refine lv_iinc (v := x4 + (1 : Int32)) (lv' := [(4, .int (x4 + (1 : Int32))), (0, .ref x0), (1, .int x1), (2, .int x2), (3, .ref x3)]) C.1.1 C.1.2.1 d_Shelf_move_32 hl (k := 4) rfl rfl (by decide) rfl (fun ls hl => ?_)
        refine lv_goto (tgt := 10) C.1.1 C.1.2.1 d_Shelf_move_35 (by decide) ?_
        exact ih (x4 + (1 : Int32)) M5 h.1 (Nat.lt_of_lt_of_le h.2 (Nat.le_of_lt_succ hn)) _ _ _ hM hS (lv_sub hl [1, 2, 3, 4, 0] rfl)
  exact key _ x4 M hI (Nat.lt_succ_self _)
def wp_Shelf_move (g : Nat → ClassId) (M : Mem) (x0 : Nat) (x1 : Int32) (x2 : Int32) (P : Mem → Prop) : Prop :=
  ∃ v1 : Nat, gR M 4 x0 0 = some v1 ∧ (∃ v2 : Nat, aQ M (g 4) v1 x1 = some (some v2) ∧ (wp_Shelf_move_b10 g P M x0 x1 x2 v2 x1))
set_option maxHeartbeats 4000000 in
set_option maxRecDepth 100000 in
theorem c_Shelf_move {l : Launch} {D : va_G} {g : Nat → ClassId} {M : Mem} {x0 : Nat} {x1 : Int32} {x2 : Int32} {P : Mem → Prop} (h : wp_Shelf_move g M x0 x1 x2 P) : mMet l BIG D vwCl (tysG g) y_Shelf_move b_Shelf_move 5 none rm_Shelf_move [.ref x0, .int x1, .int x2] M (kV fun M' => P M') := by
  refine mMet.of (own := R_Shelf) rfl (by decide) rfl (fun p e s m below meth c C hr hlk hnm ls hM hS hl => ?_)
  have C : C_Shelf_move D g p s m ([.ref x0, .int x1, .int x2] : List Value).toArray meth c M := ⟨C, hr, hlk⟩
  unfold wp_Shelf_move at h
  have hl : lv_has ls 5 [(0, .ref x0), (1, .int x1), (2, .int x2)] := hl
  refine lv_aload_n C.1.1 C.1.2.1 d_Shelf_move_0 rfl (lv_at hl 0 rfl) ?_
  obtain ⟨v1, ev1, h⟩ := h
  refine mg_R C.1 hM ok_Shelf (by decide) kw98 ev1 d_Shelf_move_1 ?_
  refine lv_iload_n C.1.1 C.1.2.1 d_Shelf_move_4 rfl (lv_at hl 1 rfl) ?_
  obtain ⟨v2, ev2, h⟩ := h
  refine ma_R C.1 hM 4 rfl ev2 d_Shelf_move_5 ?_
  refine lv_astore_n (lv' := [(3, .ref v2), (0, .ref x0), (1, .int x1), (2, .int x2)]) C.1.1 C.1.2.1 d_Shelf_move_6 rfl hl (by decide) rfl (fun ls hl => ?_)
  refine lv_iload_n C.1.1 C.1.2.1 d_Shelf_move_7 rfl (lv_at hl 2 rfl) ?_
  refine lv_istore (lv' := [(4, .int x1), (3, .ref v2), (0, .ref x0), (1, .int x1), (2, .int x2)]) C.1.1 C.1.2.1 d_Shelf_move_8 hl (by decide) rfl (fun ls hl => ?_)
  exact t_Shelf_move_b10 C h _ _ _ hM hS (lv_sub hl [2, 3, 4, 1, 0] rfl)
theorem d_Shelf_init_0 : decode b_Shelf_init 0 = .ok (.aload_n 0, 1) := by decide +kernel
theorem d_Shelf_init_1 : decode b_Shelf_init 1 = .ok (.invokespecial 3, 3) := by decide +kernel
theorem d_Shelf_init_4 : decode b_Shelf_init 4 = .ok (.aload_n 0, 1) := by decide +kernel
theorem d_Shelf_init_5 : decode b_Shelf_init 5 = .ok (.bipush 20, 2) := by decide +kernel
theorem d_Shelf_init_7 : decode b_Shelf_init 7 = .ok (.anewarray 9, 3) := by decide +kernel
theorem d_Shelf_init_10 : decode b_Shelf_init 10 = .ok (.putfield 11, 3) := by decide +kernel
theorem d_Shelf_init_13 : decode b_Shelf_init 13 = .ok (.iconst 0, 1) := by decide +kernel
theorem d_Shelf_init_14 : decode b_Shelf_init 14 = .ok (.istore_n 1, 1) := by decide +kernel
theorem d_Shelf_init_15 : decode b_Shelf_init 15 = .ok (.iload_n 1, 1) := by decide +kernel
theorem d_Shelf_init_16 : decode b_Shelf_init 16 = .ok (.aload_n 0, 1) := by decide +kernel
theorem d_Shelf_init_17 : decode b_Shelf_init 17 = .ok (.getfield 11, 3) := by decide +kernel
theorem d_Shelf_init_20 : decode b_Shelf_init 20 = .ok (.arraylength, 1) := by decide +kernel
theorem d_Shelf_init_21 : decode b_Shelf_init 21 = .ok (.if_icmp .ge 22, 3) := by decide +kernel
theorem d_Shelf_init_24 : decode b_Shelf_init 24 = .ok (.aload_n 0, 1) := by decide +kernel
theorem d_Shelf_init_25 : decode b_Shelf_init 25 = .ok (.getfield 11, 3) := by decide +kernel
theorem d_Shelf_init_28 : decode b_Shelf_init 28 = .ok (.iload_n 1, 1) := by decide +kernel
theorem d_Shelf_init_29 : decode b_Shelf_init 29 = .ok (.new 9, 3) := by decide +kernel
theorem d_Shelf_init_32 : decode b_Shelf_init 32 = .ok (.dup, 1) := by decide +kernel
theorem d_Shelf_init_33 : decode b_Shelf_init 33 = .ok (.invokespecial 17, 3) := by decide +kernel
theorem d_Shelf_init_36 : decode b_Shelf_init 36 = .ok (.aastore, 1) := by decide +kernel
theorem d_Shelf_init_37 : decode b_Shelf_init 37 = .ok (.iinc 1 1, 3) := by decide +kernel
theorem d_Shelf_init_40 : decode b_Shelf_init 40 = .ok (.goto (-25), 3) := by decide +kernel
theorem d_Shelf_init_43 : decode b_Shelf_init 43 = .ok (.aload_n 0, 1) := by decide +kernel
theorem d_Shelf_init_44 : decode b_Shelf_init 44 = .ok (.iconst 0, 1) := by decide +kernel
theorem d_Shelf_init_45 : decode b_Shelf_init 45 = .ok (.putfield 18, 3) := by decide +kernel
theorem d_Shelf_init_48 : decode b_Shelf_init 48 = .ok (.return_, 1) := by decide +kernel
abbrev rm_Shelf_init : Room := { frames := 3, cells := 85, slots := 1532, locals := 60 }
abbrev C_Shelf_init (D : va_G) (g : Nat → ClassId) (p : Program) (s : State) (m : MethodId) (args : Array Value) (meth : Method) (c : Code) (M0 : Mem) : Prop := Cx p s m args c b_Shelf_init 2 R_Shelf BIG D vwCl (tysG g) (mA M0 s.heap.size) ∧ meth.sig.returnType = none ∧ meth.locks = false ∧ meth.name = "<init>"
abbrev B_Shelf_init (l : Launch) (D : va_G) (p : Program) (e : Env) (s : State) (m : MethodId) (args : Array Value) (below : List Frame) (meth : Method) (c : Code) (M0 : Mem) (P : Mem → Prop) (cn sn : Nat) (M : Mem) (pc : Nat) (lv : List (Nat × Value)) (st : List Value) : Prop := Wb p l e rm_Shelf_init s m args below meth c 2 D vwCl M0 (kV fun M' => P M') cn sn M pc lv st
def wp_Shelf_init_b15 (g : Nat → ClassId) (P : Mem → Prop) (M : Mem) (x0 : Nat) (x1 : Int32) : Prop :=
  ∃ (I : Int32 → Mem → Prop) (μ : Int32 → Mem → Nat), μ x1 M ≤ 20 ∧ I x1 M ∧ ∀ (x1 : Int32) (M : Mem), I x1 M →
  ∃ v1 : Nat, gR M 4 x0 0 = some v1 ∧ (∃ n2 : Nat, aN M (g 4) v1 = some n2 ∧ (((nI n2) ≤ x1 → (∃ M4 : Mem, pV M 4 x0 1 (.int (0 : Int32)) = some M4 ∧ (P M4))) ∧ (¬ (nI n2) ≤ x1 → (∃ v5 : Nat, gR M 4 x0 0 = some v5 ∧ (∀ (q6 : Nat) (M7 : Mem), M q6 = none → M7 = mup M q6 (.inr (3, [.null, .int 0])) → (wp_Kt_init g M7 q6 (fun (M9 : Mem) => isO M9 3 q6 ∧ (∃ M10 : Mem, sR M9 (g 4) v5 x1 q6 = some M10 ∧ ((I (x1 + (1 : Int32)) M10 ∧ μ (x1 + (1 : Int32)) M10 < μ x1 M))))))))))
set_option maxHeartbeats 4000000 in
set_option maxRecDepth 100000 in
theorem t_Shelf_init_b15 {l : Launch} {D : va_G} {g : Nat → ClassId} {p : Program} {e : Env} {s : State} {m : MethodId} {args : Array Value} {below : List Frame} {meth : Method} {c : Code} {M0 : Mem} {P : Mem → Prop} {M : Mem} {x0 : Nat} {x1 : Int32} (C : C_Shelf_init D g p s m args meth c M0) (h : wp_Shelf_init_b15 g P M x0 x1 ) {cn sn : Nat} (hcn : cn + 84 ≤ 85) (hsn : sn + 1512 ≤ 1532) : B_Shelf_init l D p e s m args below meth c M0 P cn sn M 15 [(0, .ref x0), (1, .int x1)] [] := by
  unfold wp_Shelf_init_b15 at h
  obtain ⟨I, μ, hmK, hI, hb⟩ := h
  have key : ∀ (n : Nat) (cn sn : Nat) (x1 : Int32) (M : Mem), I x1 M → μ x1 M < n → cn + 4 * μ x1 M + 4 ≤ 85 → sn + 72 * μ x1 M + 72 ≤ 1532 → B_Shelf_init l D p e s m args below meth c M0 P cn sn M 15 [(0, .ref x0), (1, .int x1)] [] := by
    intro n
    induction n with
    | zero => intro cn sn x1 M _ hn; exact absurd hn (Nat.not_lt_zero _)
    | succ n ih =>
      intro cn sn x1 M hI hn hcn hsn ls H locs hM hS hl
      have h := hb x1 M hI
      refine lv_iload_n C.1.1 C.1.2.1 d_Shelf_init_15 rfl (lv_at hl 1 rfl) ?_
      refine lv_aload_n C.1.1 C.1.2.1 d_Shelf_init_16 rfl (lv_at hl 0 rfl) ?_
      obtain ⟨v1, ev1, h⟩ := h
      refine mg_R C.1 hM ok_Shelf (by decide) kw98 ev1 d_Shelf_init_17 ?_
      obtain ⟨n2, en2, h⟩ := h
      refine ma_N C.1 hM 4 rfl en2 d_Shelf_init_20 ?_
      refine lv_icmp_ge (tgt := 43) C.1.1 C.1.2.1 d_Shelf_init_21 (by decide) (fun c3 => ?_) (fun c3 => ?_)
      · have h := h.1 c3
        refine lv_aload_n C.1.1 C.1.2.1 d_Shelf_init_43 rfl (lv_at hl 0 rfl) ?_
        refine lv_iconst (v := (0 : Int32)) C.1.1 C.1.2.1 d_Shelf_init_44 (by decide) ?_
        obtain ⟨M4, eM4, h⟩ := h
        refine mp_V C.1 hM hS ok_Shelf (by decide) kw97 rfl rfl rfl eM4 d_Shelf_init_45 (fun H locs hM hS => ?_)
        refine W.widen (k := 85) (n := 1532) (show _ ≤ (85 : Nat) by omega) (show _ ≤ (1532 : Nat) by omega) ?_
        exact mr_V C.1 C.2.1 C.2.2.1 hM hS ⟨rfl, h⟩ d_Shelf_init_48
      · have h := h.2 c3
        refine lv_aload_n C.1.1 C.1.2.1 d_Shelf_init_24 rfl (lv_at hl 0 rfl) ?_
        obtain ⟨v5, ev5, h⟩ := h
        refine mg_R C.1 hM ok_Shelf (by decide) kw98 ev5 d_Shelf_init_25 ?_
        refine lv_iload_n C.1.1 C.1.2.1 d_Shelf_init_28 rfl (lv_at hl 1 rfl) ?_
        refine mn_O (fs := [.null, .int 0]) C.1 hM hS ok_Kt kw171 kw172 kw173 (fun j hj => by rcases (show j = 0 ∨ j = 1 by omega) with rfl | rfl <;> rfl) (show _ ≤ (85 : Nat) by omega) (show _ ≤ (1532 : Nat) by omega) d_Shelf_init_29 (fun q6 H hq6 hM hS => ?_)
        obtain ⟨M7, eM7⟩ : ∃ N : Mem, N = mup M q6 (.inr (3, [.null, .int 0])) := ⟨_, rfl⟩
        rw [← eM7] at hM
        have h := h q6 M7 hq6 eM7
        refine lv_dup C.1.1 C.1.2.1 d_Shelf_init_32 rfl ?_
        refine mc_I (As := []) C.1 hM hS bigGood (c_Kt_init h) rfl kw174 kw176 kw173 kw175 hd_Kt_init ⟨by decide, by decide⟩ hl.1 rfl (Nat.le_of_ble_eq_true rfl) d_Shelf_init_33 (mc := 3) (ms := 70) rfl rfl ⟨show _ ≤ (85 : Nat) by omega, show _ ≤ (1532 : Nat) by omega⟩ (fun v M9 H locs hp hM hS => ?_)
        obtain ⟨rfl, h⟩ := hp
        obtain ⟨ho, h⟩ := h
        obtain ⟨M10, eM10, h⟩ := h
        refine ms_R C.1 hM hS 4 rfl rfl ho eM10 d_Shelf_init_36 (fun H locs hM hS => ?_)
        refine lv_iinc (v := x1 + (1 : Int32)) (lv' := [(1, .int (x1 + (1 : Int32))), (0, .ref x0)]) C.1.1 C.1.2.1 d_Shelf_init_37 hl (k := 1) rfl rfl (by decide) rfl (fun ls hl => ?_)
        refine lv_goto (tgt := 15) C.1.1 C.1.2.1 d_Shelf_init_40 (by decide) ?_
        have hmu := h.2
        exact ih _ _ (x1 + (1 : Int32)) M10 h.1 (Nat.lt_of_lt_of_le h.2 (Nat.le_of_lt_succ hn)) (show _ ≤ (85 : Nat) by omega) (show _ ≤ (1532 : Nat) by omega) _ _ _ hM hS (lv_sub hl [1, 0] rfl)
  exact key _ _ _ x1 M hI (Nat.lt_succ_self _) (show _ ≤ (85 : Nat) by omega) (show _ ≤ (1532 : Nat) by omega)
def wp_Shelf_init (g : Nat → ClassId) (M : Mem) (x0 : Nat) (P : Mem → Prop) : Prop :=
  ∀ (q1 : Nat) (M2 : Mem), M q1 = none → M2 = mup M q1 (.inl (g 4, (20, .inr (.inr (.inr (.inr (fun _ => none))))))) → (∃ M3 : Mem, pV M2 4 x0 0 (.ref q1) = some M3 ∧ (wp_Shelf_init_b15 g P M3 x0 (0 : Int32)))
set_option maxHeartbeats 4000000 in
set_option maxRecDepth 100000 in
theorem c_Shelf_init {l : Launch} {D : va_G} {g : Nat → ClassId} {M : Mem} {x0 : Nat} {P : Mem → Prop} (h : wp_Shelf_init g M x0 P) : mMet l BIG D vwCl (tysG g) y_Shelf_init b_Shelf_init 2 none rm_Shelf_init [.ref x0] M (kV fun M' => P M') := by
  refine mMet.of (own := R_Shelf) rfl (by decide) rfl (fun p e s m below meth c C hr hlk hnm ls hM hS hl => ?_)
  have C : C_Shelf_init D g p s m ([.ref x0] : List Value).toArray meth c M := ⟨C, hr, hlk, hnm⟩
  have hcn : 0 + 85 ≤ 85 := by decide
  have hsn : 0 + 1532 ≤ 1532 := by decide
  unfold wp_Shelf_init at h
  have hl : lv_has ls 2 [(0, .ref x0)] := hl
  refine lv_aload_n C.1.1 C.1.2.1 d_Shelf_init_0 rfl (lv_at hl 0 rfl) ?_
  refine m_objInit C.1 kw177 kw3 kw4 hl.1 d_Shelf_init_1 (by decide) (by decide) (Nat.le_of_ble_eq_true rfl) ?_
  refine lv_aload_n C.1.1 C.1.2.1 d_Shelf_init_4 rfl (lv_at hl 0 rfl) ?_
  refine lv_bipush (v := (20 : Int32)) C.1.1 C.1.2.1 d_Shelf_init_5 (by decide) ?_
  refine mn_Q (N' := 20) C.1 hM hS kw171 C.1.2.2.2.2.2.2.2.2 4 rfl (by decide) (by decide) (by decide) (show _ ≤ (85 : Nat) by omega) (show _ ≤ (1532 : Nat) by omega) d_Shelf_init_7 (fun q1 H hq1 hM hS => ?_)
  obtain ⟨M2, eM2⟩ : ∃ N : Mem, N = mup M q1 (.inl (g 4, (20, .inr (.inr (.inr (.inr (fun _ => none))))))) := ⟨_, rfl⟩
  rw [← eM2] at hM
  have h := h q1 M2 hq1 eM2
  obtain ⟨M3, eM3, h⟩ := h
  refine mp_F C.1 hM hS C.2.2.2 ok_Shelf (by decide) kw98 rfl rfl rfl rfl eM3 d_Shelf_init_10 (fun H locs hM hS => ?_)
  refine lv_iconst (v := (0 : Int32)) C.1.1 C.1.2.1 d_Shelf_init_13 (by decide) ?_
  refine lv_istore_n (lv' := [(1, .int (0 : Int32)), (0, .ref x0)]) C.1.1 C.1.2.1 d_Shelf_init_14 rfl hl (by decide) rfl (fun ls hl => ?_)
  exact t_Shelf_init_b15 C h (show _ ≤ (85 : Nat) by omega) (show _ ≤ (1532 : Nat) by omega) _ _ _ hM hS (lv_sub hl [1, 0] rfl)
theorem d_Shelf_placeFor_0 : decode b_Shelf_placeFor 0 = .ok (.iconst 0, 1) := by decide +kernel
theorem d_Shelf_placeFor_1 : decode b_Shelf_placeFor 1 = .ok (.istore_n 2, 1) := by decide +kernel
theorem d_Shelf_placeFor_2 : decode b_Shelf_placeFor 2 = .ok (.iload_n 2, 1) := by decide +kernel
theorem d_Shelf_placeFor_3 : decode b_Shelf_placeFor 3 = .ok (.aload_n 0, 1) := by decide +kernel
theorem d_Shelf_placeFor_4 : decode b_Shelf_placeFor 4 = .ok (.getfield 18, 3) := by decide +kernel
theorem d_Shelf_placeFor_7 : decode b_Shelf_placeFor 7 = .ok (.if_icmp .ge 25, 3) := by decide +kernel
theorem d_Shelf_placeFor_10 : decode b_Shelf_placeFor 10 = .ok (.aload_n 0, 1) := by decide +kernel
theorem d_Shelf_placeFor_11 : decode b_Shelf_placeFor 11 = .ok (.getfield 11, 3) := by decide +kernel
theorem d_Shelf_placeFor_14 : decode b_Shelf_placeFor 14 = .ok (.iload_n 2, 1) := by decide +kernel
theorem d_Shelf_placeFor_15 : decode b_Shelf_placeFor 15 = .ok (.aaload, 1) := by decide +kernel
theorem d_Shelf_placeFor_16 : decode b_Shelf_placeFor 16 = .ok (.invokevirtual 42, 3) := by decide +kernel
theorem d_Shelf_placeFor_19 : decode b_Shelf_placeFor 19 = .ok (.aload_n 1, 1) := by decide +kernel
theorem d_Shelf_placeFor_20 : decode b_Shelf_placeFor 20 = .ok (.invokevirtual 52, 3) := by decide +kernel
theorem d_Shelf_placeFor_23 : decode b_Shelf_placeFor 23 = .ok (.ifCond .ge 9, 3) := by decide +kernel
theorem d_Shelf_placeFor_26 : decode b_Shelf_placeFor 26 = .ok (.iinc 2 1, 3) := by decide +kernel
theorem d_Shelf_placeFor_29 : decode b_Shelf_placeFor 29 = .ok (.goto (-27), 3) := by decide +kernel
theorem d_Shelf_placeFor_32 : decode b_Shelf_placeFor 32 = .ok (.iload_n 2, 1) := by decide +kernel
theorem d_Shelf_placeFor_33 : decode b_Shelf_placeFor 33 = .ok (.ireturn, 1) := by decide +kernel
abbrev rm_Shelf_placeFor : Room := { frames := 3, cells := 0, slots := 0, locals := 64 }
abbrev C_Shelf_placeFor (D : va_G) (g : Nat → ClassId) (p : Program) (s : State) (m : MethodId) (args : Array Value) (meth : Method) (c : Code) (M0 : Mem) : Prop := Cx p s m args c b_Shelf_placeFor 3 R_Shelf BIG D vwCl (tysG g) (mA M0 s.heap.size) ∧ meth.sig.returnType = (some .int) ∧ meth.locks = false
abbrev B_Shelf_placeFor (l : Launch) (D : va_G) (p : Program) (e : Env) (s : State) (m : MethodId) (args : Array Value) (below : List Frame) (meth : Method) (c : Code) (M0 : Mem) (P : Int32 → Prop) (M : Mem) (pc : Nat) (lv : List (Nat × Value)) (st : List Value) : Prop := Wb p l e rm_Shelf_placeFor s m args below meth c 3 D vwCl M0 (kI fun r M' => M0 = M' ∧ P r) 0 0 M pc lv st
def wp_Shelf_placeFor_b32 (g : Nat → ClassId) (P : Int32 → Prop) (M : Mem) (x2 : Int32) : Prop :=
  P x2
set_option maxHeartbeats 4000000 in
set_option maxRecDepth 100000 in
theorem t_Shelf_placeFor_b32 {l : Launch} {D : va_G} {g : Nat → ClassId} {p : Program} {e : Env} {s : State} {m : MethodId} {args : Array Value} {below : List Frame} {meth : Method} {c : Code} {P : Int32 → Prop} {M : Mem} {x2 : Int32} (C : C_Shelf_placeFor D g p s m args meth c M) (h : wp_Shelf_placeFor_b32 g P M x2 ) : B_Shelf_placeFor l D p e s m args below meth c M P M 32 [(2, .int x2)] [] := by
  intro ls H locs hM hS hl
  unfold wp_Shelf_placeFor_b32 at h
  refine lv_iload_n C.1.1 C.1.2.1 d_Shelf_placeFor_32 rfl (lv_at hl 0 rfl) ?_
  exact mr_I C.1 C.2.1 C.2.2 hM hS ⟨_, rfl, rfl, h⟩ d_Shelf_placeFor_33
def wp_Shelf_placeFor_b2 (g : Nat → ClassId) (P : Int32 → Prop) (M : Mem) (x0 : Nat) (x1 : Nat) (x2 : Int32) : Prop :=
  ∃ (I : Int32 → Prop) (μ : Int32 → Nat), I x2 ∧ ∀ (x2 : Int32), I x2 →
  ∃ v1 : Int32, gI M 4 x0 1 = some v1 ∧ ((v1 ≤ x2 → (wp_Shelf_placeFor_b32 g P M x2)) ∧ (¬ v1 ≤ x2 → (∃ v3 : Nat, gR M 4 x0 0 = some v3 ∧ (∃ v4 : Nat, aQ M (g 4) v3 x2 = some (some v4) ∧ (isO M 3 v4 ∧ (wp_Kt_text g M v4 (fun v5 : Nat => isO M 1 v5 ∧ (wp_Text_compareSigns g M v5 x1 (fun v7 : Int32 => (0 ≤ v7 → (wp_Shelf_placeFor_b32 g P M x2)) ∧ (¬ 0 ≤ v7 → ((I (x2 + (1 : Int32)) ∧ μ (x2 + (1 : Int32)) < μ x2))))))))))))
set_option maxHeartbeats 4000000 in
set_option maxRecDepth 100000 in
theorem t_Shelf_placeFor_b2 {l : Launch} {D : va_G} {g : Nat → ClassId} {p : Program} {e : Env} {s : State} {m : MethodId} {args : Array Value} {below : List Frame} {meth : Method} {c : Code} {P : Int32 → Prop} {M : Mem} {x0 : Nat} {x1 : Nat} {x2 : Int32} (C : C_Shelf_placeFor D g p s m args meth c M) (h : wp_Shelf_placeFor_b2 g P M x0 x1 x2 ) : B_Shelf_placeFor l D p e s m args below meth c M P M 2 [(0, .ref x0), (1, .ref x1), (2, .int x2)] [] := by
  unfold wp_Shelf_placeFor_b2 at h
  obtain ⟨I, μ, hI, hb⟩ := h
  have key : ∀ (n : Nat) (x2 : Int32), I x2 → μ x2 < n → B_Shelf_placeFor l D p e s m args below meth c M P M 2 [(0, .ref x0), (1, .ref x1), (2, .int x2)] [] := by
    intro n
    induction n with
    | zero => intro x2 _ hn; exact absurd hn (Nat.not_lt_zero _)
    | succ n ih =>
      intro x2 hI hn ls H locs hM hS hl
      have h := hb x2 hI
      refine lv_iload_n C.1.1 C.1.2.1 d_Shelf_placeFor_2 rfl (lv_at hl 2 rfl) ?_
      refine lv_aload_n C.1.1 C.1.2.1 d_Shelf_placeFor_3 rfl (lv_at hl 0 rfl) ?_
      obtain ⟨v1, ev1, h⟩ := h
      refine mg_I C.1 hM ok_Shelf (by decide) kw97 ev1 d_Shelf_placeFor_4 ?_
      refine lv_icmp_ge (tgt := 32) C.1.1 C.1.2.1 d_Shelf_placeFor_7 (by decide) (fun c2 => ?_) (fun c2 => ?_)
      · have h := h.1 c2
        exact t_Shelf_placeFor_b32 C h _ _ _ hM hS (lv_sub hl [2] rfl)
      · have h := h.2 c2
        refine lv_aload_n C.1.1 C.1.2.1 d_Shelf_placeFor_10 rfl (lv_at hl 0 rfl) ?_
        obtain ⟨v3, ev3, h⟩ := h
        refine mg_R C.1 hM ok_Shelf (by decide) kw98 ev3 d_Shelf_placeFor_11 ?_
        refine lv_iload_n C.1.1 C.1.2.1 d_Shelf_placeFor_14 rfl (lv_at hl 2 rfl) ?_
        obtain ⟨v4, ev4, h⟩ := h
        refine ma_R C.1 hM 4 rfl ev4 d_Shelf_placeFor_15 ?_
        obtain ⟨ho, h⟩ := h
        refine mc_V (As := []) (ci := 3) C.1 hM hS bigGood (c_Kt_text h) rfl ho kw178 kw180 kw181 kw173 kw179 hd_Kt_text ⟨by decide, by decide⟩ hl.1 rfl (Nat.le_of_ble_eq_true rfl) d_Shelf_placeFor_16 (mc := 0) (ms := 0) rfl rfl ⟨by decide, by decide⟩ (fun v M' H locs hp hM hS => ?_)
        obtain ⟨v5, rfl, rfl, h⟩ := hp
        refine lv_aload_n C.1.1 C.1.2.1 d_Shelf_placeFor_19 rfl (lv_at hl 1 rfl) ?_
        obtain ⟨ho, h⟩ := h
        refine mc_V (As := [.ref x1]) (ci := 1) C.1 hM hS bigGood (c_Text_compareSigns h) rfl ho kw182 kw184 kw185 kw107 kw183 hd_Text_compareSigns ⟨by decide, by decide⟩ hl.1 rfl (Nat.le_of_ble_eq_true rfl) d_Shelf_placeFor_20 (mc := 0) (ms := 0) rfl rfl ⟨by decide, by decide⟩ (fun v M' H locs hp hM hS => ?_)
        obtain ⟨v7, rfl, rfl, h⟩ := hp
        refine lv_if_ge (tgt := 32) C.1.1 C.1.2.1 d_Shelf_placeFor_23 (by decide) (fun c9 => ?_) (fun c9 => ?_)
        · have h := h.1 c9
          exact t_Shelf_placeFor_b32 C h _ _ _ hM hS (lv_sub hl [2] rfl)
        · have h := h.2 c9
          refine lv_iinc (v := x2 + (1 : Int32)) (lv' := [(2, .int (x2 + (1 : Int32))), (0, .ref x0), (1, .ref x1)]) C.1.1 C.1.2.1 d_Shelf_placeFor_26 hl (k := 2) rfl rfl (by decide) rfl (fun ls hl => ?_)
          refine lv_goto (tgt := 2) C.1.1 C.1.2.1 d_Shelf_placeFor_29 (by decide) ?_
          exact ih (x2 + (1 : Int32)) h.1 (Nat.lt_of_lt_of_le h.2 (Nat.le_of_lt_succ hn)) _ _ _ hM hS (lv_sub hl [1, 2, 0] rfl)
  exact key _ x2 hI (Nat.lt_succ_self _)
def wp_Shelf_placeFor (g : Nat → ClassId) (M : Mem) (x0 : Nat) (x1 : Nat) (P : Int32 → Prop) : Prop :=
  wp_Shelf_placeFor_b2 g P M x0 x1 (0 : Int32)
set_option maxHeartbeats 4000000 in
set_option maxRecDepth 100000 in
theorem c_Shelf_placeFor {l : Launch} {D : va_G} {g : Nat → ClassId} {M : Mem} {x0 : Nat} {x1 : Nat} {P : Int32 → Prop} (h : wp_Shelf_placeFor g M x0 x1 P) : mMet l BIG D vwCl (tysG g) y_Shelf_placeFor b_Shelf_placeFor 3 (some .int) rm_Shelf_placeFor [.ref x0, .ref x1] M (kI fun r M' => M = M' ∧ P r) := by
  refine mMet.of (own := R_Shelf) rfl (by decide) rfl (fun p e s m below meth c C hr hlk hnm ls hM hS hl => ?_)
  have C : C_Shelf_placeFor D g p s m ([.ref x0, .ref x1] : List Value).toArray meth c M := ⟨C, hr, hlk⟩
  unfold wp_Shelf_placeFor at h
  have hl : lv_has ls 3 [(0, .ref x0), (1, .ref x1)] := hl
  refine lv_iconst (v := (0 : Int32)) C.1.1 C.1.2.1 d_Shelf_placeFor_0 (by decide) ?_
  refine lv_istore_n (lv' := [(2, .int (0 : Int32)), (0, .ref x0), (1, .ref x1)]) C.1.1 C.1.2.1 d_Shelf_placeFor_1 rfl hl (by decide) rfl (fun ls hl => ?_)
  exact t_Shelf_placeFor_b2 C h _ _ _ hM hS (lv_sub hl [1, 2, 0] rfl)
theorem d_Shelf_isAt_0 : decode b_Shelf_isAt 0 = .ok (.iload_n 1, 1) := by decide +kernel
theorem d_Shelf_isAt_1 : decode b_Shelf_isAt 1 = .ok (.aload_n 0, 1) := by decide +kernel
theorem d_Shelf_isAt_2 : decode b_Shelf_isAt 2 = .ok (.getfield 18, 3) := by decide +kernel
theorem d_Shelf_isAt_5 : decode b_Shelf_isAt 5 = .ok (.if_icmp .ge 23, 3) := by decide +kernel
theorem d_Shelf_isAt_8 : decode b_Shelf_isAt 8 = .ok (.aload_n 0, 1) := by decide +kernel
theorem d_Shelf_isAt_9 : decode b_Shelf_isAt 9 = .ok (.getfield 11, 3) := by decide +kernel
theorem d_Shelf_isAt_12 : decode b_Shelf_isAt 12 = .ok (.iload_n 1, 1) := by decide +kernel
theorem d_Shelf_isAt_13 : decode b_Shelf_isAt 13 = .ok (.aaload, 1) := by decide +kernel
theorem d_Shelf_isAt_14 : decode b_Shelf_isAt 14 = .ok (.invokevirtual 42, 3) := by decide +kernel
theorem d_Shelf_isAt_17 : decode b_Shelf_isAt 17 = .ok (.aload_n 2, 1) := by decide +kernel
theorem d_Shelf_isAt_18 : decode b_Shelf_isAt 18 = .ok (.invokevirtual 52, 3) := by decide +kernel
theorem d_Shelf_isAt_21 : decode b_Shelf_isAt 21 = .ok (.ifCond .ne 7, 3) := by decide +kernel
theorem d_Shelf_isAt_24 : decode b_Shelf_isAt 24 = .ok (.iconst 1, 1) := by decide +kernel
theorem d_Shelf_isAt_25 : decode b_Shelf_isAt 25 = .ok (.goto 4, 3) := by decide +kernel
theorem d_Shelf_isAt_28 : decode b_Shelf_isAt 28 = .ok (.iconst 0, 1) := by decide +kernel
theorem d_Shelf_isAt_29 : decode b_Shelf_isAt 29 = .ok (.ireturn, 1) := by decide +kernel
abbrev rm_Shelf_isAt : Room := { frames := 3, cells := 0, slots := 0, locals := 64 }
abbrev C_Shelf_isAt (D : va_G) (g : Nat → ClassId) (p : Program) (s : State) (m : MethodId) (args : Array Value) (meth : Method) (c : Code) (M0 : Mem) : Prop := Cx p s m args c b_Shelf_isAt 3 R_Shelf BIG D vwCl (tysG g) (mA M0 s.heap.size) ∧ meth.sig.returnType = (some .boolean) ∧ meth.locks = false
abbrev B_Shelf_isAt (l : Launch) (D : va_G) (p : Program) (e : Env) (s : State) (m : MethodId) (args : Array Value) (below : List Frame) (meth : Method) (c : Code) (M0 : Mem) (P : Int32 → Prop) (M : Mem) (pc : Nat) (lv : List (Nat × Value)) (st : List Value) : Prop := Wb p l e rm_Shelf_isAt s m args below meth c 3 D vwCl M0 (kI fun r M' => M0 = M' ∧ P r) 0 0 M pc lv st
def wp_Shelf_isAt_b29 (g : Nat → ClassId) (P : Int32 → Prop) (M : Mem) (t0 : Int32) : Prop :=
  isB t0 ∧ P t0
set_option maxHeartbeats 4000000 in
set_option maxRecDepth 100000 in
theorem t_Shelf_isAt_b29 {l : Launch} {D : va_G} {g : Nat → ClassId} {p : Program} {e : Env} {s : State} {m : MethodId} {args : Array Value} {below : List Frame} {meth : Method} {c : Code} {P : Int32 → Prop} {M : Mem} {t0 : Int32} (C : C_Shelf_isAt D g p s m args meth c M) (h : wp_Shelf_isAt_b29 g P M t0) : B_Shelf_isAt l D p e s m args below meth c M P M 29 [] [.int t0] := by
  intro ls H locs hM hS hl
  unfold wp_Shelf_isAt_b29 at h
  exact mr_Z C.1 C.2.1 C.2.2 h.1 hM hS ⟨_, rfl, rfl, h.2⟩ d_Shelf_isAt_29
def wp_Shelf_isAt_b28 (g : Nat → ClassId) (P : Int32 → Prop) (M : Mem) : Prop :=
  wp_Shelf_isAt_b29 g P M (0 : Int32)
set_option maxHeartbeats 4000000 in
set_option maxRecDepth 100000 in
theorem t_Shelf_isAt_b28 {l : Launch} {D : va_G} {g : Nat → ClassId} {p : Program} {e : Env} {s : State} {m : MethodId} {args : Array Value} {below : List Frame} {meth : Method} {c : Code} {P : Int32 → Prop} {M : Mem} (C : C_Shelf_isAt D g p s m args meth c M) (h : wp_Shelf_isAt_b28 g P M ) : B_Shelf_isAt l D p e s m args below meth c M P M 28 [] [] := by
  intro ls H locs hM hS hl
  unfold wp_Shelf_isAt_b28 at h
  refine lv_iconst (v := (0 : Int32)) C.1.1 C.1.2.1 d_Shelf_isAt_28 (by decide) ?_
  exact t_Shelf_isAt_b29 C h _ _ _ hM hS (lv_sub hl [] rfl)
def wp_Shelf_isAt (g : Nat → ClassId) (M : Mem) (x0 : Nat) (x1 : Int32) (x2 : Nat) (P : Int32 → Prop) : Prop :=
  ∃ v1 : Int32, gI M 4 x0 1 = some v1 ∧ ((v1 ≤ x1 → (wp_Shelf_isAt_b28 g P M)) ∧ (¬ v1 ≤ x1 → (∃ v3 : Nat, gR M 4 x0 0 = some v3 ∧ (∃ v4 : Nat, aQ M (g 4) v3 x1 = some (some v4) ∧ (isO M 3 v4 ∧ (wp_Kt_text g M v4 (fun v5 : Nat => isO M 1 v5 ∧ (wp_Text_compareSigns g M v5 x2 (fun v7 : Int32 => (v7 = 0 → (wp_Shelf_isAt_b29 g P M (1 : Int32))) ∧ (¬ v7 = 0 → (wp_Shelf_isAt_b28 g P M)))))))))))
set_option maxHeartbeats 4000000 in
set_option maxRecDepth 100000 in
theorem c_Shelf_isAt {l : Launch} {D : va_G} {g : Nat → ClassId} {M : Mem} {x0 : Nat} {x1 : Int32} {x2 : Nat} {P : Int32 → Prop} (h : wp_Shelf_isAt g M x0 x1 x2 P) : mMet l BIG D vwCl (tysG g) y_Shelf_isAt b_Shelf_isAt 3 (some .boolean) rm_Shelf_isAt [.ref x0, .int x1, .ref x2] M (kI fun r M' => M = M' ∧ P r) := by
  refine mMet.of (own := R_Shelf) rfl (by decide) rfl (fun p e s m below meth c C hr hlk hnm ls hM hS hl => ?_)
  have C : C_Shelf_isAt D g p s m ([.ref x0, .int x1, .ref x2] : List Value).toArray meth c M := ⟨C, hr, hlk⟩
  unfold wp_Shelf_isAt at h
  have hl : lv_has ls 3 [(0, .ref x0), (1, .int x1), (2, .ref x2)] := hl
  refine lv_iload_n C.1.1 C.1.2.1 d_Shelf_isAt_0 rfl (lv_at hl 1 rfl) ?_
  refine lv_aload_n C.1.1 C.1.2.1 d_Shelf_isAt_1 rfl (lv_at hl 0 rfl) ?_
  obtain ⟨v1, ev1, h⟩ := h
  refine mg_I C.1 hM ok_Shelf (by decide) kw97 ev1 d_Shelf_isAt_2 ?_
  refine lv_icmp_ge (tgt := 28) C.1.1 C.1.2.1 d_Shelf_isAt_5 (by decide) (fun c2 => ?_) (fun c2 => ?_)
  · have h := h.1 c2
    exact t_Shelf_isAt_b28 C h _ _ _ hM hS (lv_sub hl [] rfl)
  · have h := h.2 c2
    refine lv_aload_n C.1.1 C.1.2.1 d_Shelf_isAt_8 rfl (lv_at hl 0 rfl) ?_
    obtain ⟨v3, ev3, h⟩ := h
    refine mg_R C.1 hM ok_Shelf (by decide) kw98 ev3 d_Shelf_isAt_9 ?_
    refine lv_iload_n C.1.1 C.1.2.1 d_Shelf_isAt_12 rfl (lv_at hl 1 rfl) ?_
    obtain ⟨v4, ev4, h⟩ := h
    refine ma_R C.1 hM 4 rfl ev4 d_Shelf_isAt_13 ?_
    obtain ⟨ho, h⟩ := h
    refine mc_V (As := []) (ci := 3) C.1 hM hS bigGood (c_Kt_text h) rfl ho kw178 kw180 kw181 kw173 kw179 hd_Kt_text ⟨by decide, by decide⟩ hl.1 rfl (Nat.le_of_ble_eq_true rfl) d_Shelf_isAt_14 (mc := 0) (ms := 0) rfl rfl ⟨by decide, by decide⟩ (fun v M' H locs hp hM hS => ?_)
    obtain ⟨v5, rfl, rfl, h⟩ := hp
    refine lv_aload_n C.1.1 C.1.2.1 d_Shelf_isAt_17 rfl (lv_at hl 2 rfl) ?_
    obtain ⟨ho, h⟩ := h
    refine mc_V (As := [.ref x2]) (ci := 1) C.1 hM hS bigGood (c_Text_compareSigns h) rfl ho kw182 kw184 kw185 kw107 kw183 hd_Text_compareSigns ⟨by decide, by decide⟩ hl.1 rfl (Nat.le_of_ble_eq_true rfl) d_Shelf_isAt_18 (mc := 0) (ms := 0) rfl rfl ⟨by decide, by decide⟩ (fun v M' H locs hp hM hS => ?_)
    obtain ⟨v7, rfl, rfl, h⟩ := hp
    refine lv_if_ne (tgt := 28) C.1.1 C.1.2.1 d_Shelf_isAt_21 (by decide) (fun c9 => ?_) (fun c9 => ?_)
    · have h := h.2 c9
      exact t_Shelf_isAt_b28 C h _ _ _ hM hS (lv_sub hl [] rfl)
    · have h := h.1 c9
      refine lv_iconst (v := (1 : Int32)) C.1.1 C.1.2.1 d_Shelf_isAt_24 (by decide) ?_
      refine lv_goto (tgt := 29) C.1.1 C.1.2.1 d_Shelf_isAt_25 (by decide) ?_
      exact t_Shelf_isAt_b29 C h _ _ _ hM hS (lv_sub hl [] rfl)
theorem d_Shelf_put_0 : decode b_Shelf_put 0 = .ok (.aload_n 0, 1) := by decide +kernel
theorem d_Shelf_put_1 : decode b_Shelf_put 1 = .ok (.aload_n 1, 1) := by decide +kernel
theorem d_Shelf_put_2 : decode b_Shelf_put 2 = .ok (.invokevirtual 22, 3) := by decide +kernel
theorem d_Shelf_put_5 : decode b_Shelf_put 5 = .ok (.istore_n 3, 1) := by decide +kernel
theorem d_Shelf_put_6 : decode b_Shelf_put 6 = .ok (.aload_n 0, 1) := by decide +kernel
theorem d_Shelf_put_7 : decode b_Shelf_put 7 = .ok (.iload_n 3, 1) := by decide +kernel
theorem d_Shelf_put_8 : decode b_Shelf_put 8 = .ok (.aload_n 1, 1) := by decide +kernel
theorem d_Shelf_put_9 : decode b_Shelf_put 9 = .ok (.invokevirtual 26, 3) := by decide +kernel
theorem d_Shelf_put_12 : decode b_Shelf_put 12 = .ok (.ifCond .ne 48, 3) := by decide +kernel
theorem d_Shelf_put_15 : decode b_Shelf_put 15 = .ok (.aload_n 0, 1) := by decide +kernel
theorem d_Shelf_put_16 : decode b_Shelf_put 16 = .ok (.getfield 18, 3) := by decide +kernel
theorem d_Shelf_put_19 : decode b_Shelf_put 19 = .ok (.aload_n 0, 1) := by decide +kernel
theorem d_Shelf_put_20 : decode b_Shelf_put 20 = .ok (.getfield 11, 3) := by decide +kernel
theorem d_Shelf_put_23 : decode b_Shelf_put 23 = .ok (.arraylength, 1) := by decide +kernel
theorem d_Shelf_put_24 : decode b_Shelf_put 24 = .ok (.if_icmp .lt 5, 3) := by decide +kernel
theorem d_Shelf_put_27 : decode b_Shelf_put 27 = .ok (.iconst 0, 1) := by decide +kernel
theorem d_Shelf_put_28 : decode b_Shelf_put 28 = .ok (.ireturn, 1) := by decide +kernel
theorem d_Shelf_put_29 : decode b_Shelf_put 29 = .ok (.aload_n 0, 1) := by decide +kernel
theorem d_Shelf_put_30 : decode b_Shelf_put 30 = .ok (.dup, 1) := by decide +kernel
theorem d_Shelf_put_31 : decode b_Shelf_put 31 = .ok (.getfield 18, 3) := by decide +kernel
theorem d_Shelf_put_34 : decode b_Shelf_put 34 = .ok (.iconst 1, 1) := by decide +kernel
theorem d_Shelf_put_35 : decode b_Shelf_put 35 = .ok (.iadd, 1) := by decide +kernel
theorem d_Shelf_put_36 : decode b_Shelf_put 36 = .ok (.putfield 18, 3) := by decide +kernel
theorem d_Shelf_put_39 : decode b_Shelf_put 39 = .ok (.aload_n 0, 1) := by decide +kernel
theorem d_Shelf_put_40 : decode b_Shelf_put 40 = .ok (.aload_n 0, 1) := by decide +kernel
theorem d_Shelf_put_41 : decode b_Shelf_put 41 = .ok (.getfield 18, 3) := by decide +kernel
theorem d_Shelf_put_44 : decode b_Shelf_put 44 = .ok (.iconst 1, 1) := by decide +kernel
theorem d_Shelf_put_45 : decode b_Shelf_put 45 = .ok (.isub, 1) := by decide +kernel
theorem d_Shelf_put_46 : decode b_Shelf_put 46 = .ok (.iload_n 3, 1) := by decide +kernel
theorem d_Shelf_put_47 : decode b_Shelf_put 47 = .ok (.invokevirtual 30, 3) := by decide +kernel
theorem d_Shelf_put_50 : decode b_Shelf_put 50 = .ok (.aload_n 0, 1) := by decide +kernel
theorem d_Shelf_put_51 : decode b_Shelf_put 51 = .ok (.getfield 11, 3) := by decide +kernel
theorem d_Shelf_put_54 : decode b_Shelf_put 54 = .ok (.iload_n 3, 1) := by decide +kernel
theorem d_Shelf_put_55 : decode b_Shelf_put 55 = .ok (.aaload, 1) := by decide +kernel
theorem d_Shelf_put_56 : decode b_Shelf_put 56 = .ok (.aload_n 1, 1) := by decide +kernel
theorem d_Shelf_put_57 : decode b_Shelf_put 57 = .ok (.invokevirtual 34, 3) := by decide +kernel
theorem d_Shelf_put_60 : decode b_Shelf_put 60 = .ok (.aload_n 0, 1) := by decide +kernel
theorem d_Shelf_put_61 : decode b_Shelf_put 61 = .ok (.getfield 11, 3) := by decide +kernel
theorem d_Shelf_put_64 : decode b_Shelf_put 64 = .ok (.iload_n 3, 1) := by decide +kernel
theorem d_Shelf_put_65 : decode b_Shelf_put 65 = .ok (.aaload, 1) := by decide +kernel
theorem d_Shelf_put_66 : decode b_Shelf_put 66 = .ok (.iload_n 2, 1) := by decide +kernel
theorem d_Shelf_put_67 : decode b_Shelf_put 67 = .ok (.invokevirtual 38, 3) := by decide +kernel
theorem d_Shelf_put_70 : decode b_Shelf_put 70 = .ok (.iconst 1, 1) := by decide +kernel
theorem d_Shelf_put_71 : decode b_Shelf_put 71 = .ok (.ireturn, 1) := by decide +kernel
abbrev rm_Shelf_put : Room := { frames := 4, cells := 0, slots := 0, locals := 86 }
abbrev C_Shelf_put (D : va_G) (g : Nat → ClassId) (p : Program) (s : State) (m : MethodId) (args : Array Value) (meth : Method) (c : Code) (M0 : Mem) : Prop := Cx p s m args c b_Shelf_put 4 R_Shelf BIG D vwCl (tysG g) (mA M0 s.heap.size) ∧ meth.sig.returnType = (some .boolean) ∧ meth.locks = false
abbrev B_Shelf_put (l : Launch) (D : va_G) (p : Program) (e : Env) (s : State) (m : MethodId) (args : Array Value) (below : List Frame) (meth : Method) (c : Code) (M0 : Mem) (P : Int32 → Mem → Prop) (M : Mem) (pc : Nat) (lv : List (Nat × Value)) (st : List Value) : Prop := Wb p l e rm_Shelf_put s m args below meth c 4 D vwCl M0 (kI fun r M' => P r M') 0 0 M pc lv st
def wp_Shelf_put_b60 (g : Nat → ClassId) (P : Int32 → Mem → Prop) (M : Mem) (x0 : Nat) (x2 : Int32) (x3 : Int32) : Prop :=
  ∃ v1 : Nat, gR M 4 x0 0 = some v1 ∧ (∃ v2 : Nat, aQ M (g 4) v1 x3 = some (some v2) ∧ (isO M 3 v2 ∧ (wp_Kt_setValue g M v2 x2 (fun (M4 : Mem) => isB (1 : Int32) ∧ P (1 : Int32) M4))))
set_option maxHeartbeats 4000000 in
set_option maxRecDepth 100000 in
theorem t_Shelf_put_b60 {l : Launch} {D : va_G} {g : Nat → ClassId} {p : Program} {e : Env} {s : State} {m : MethodId} {args : Array Value} {below : List Frame} {meth : Method} {c : Code} {M0 : Mem} {P : Int32 → Mem → Prop} {M : Mem} {x0 : Nat} {x2 : Int32} {x3 : Int32} (C : C_Shelf_put D g p s m args meth c M0) (h : wp_Shelf_put_b60 g P M x0 x2 x3 ) : B_Shelf_put l D p e s m args below meth c M0 P M 60 [(0, .ref x0), (2, .int x2), (3, .int x3)] [] := by
  intro ls H locs hM hS hl
  unfold wp_Shelf_put_b60 at h
  refine lv_aload_n C.1.1 C.1.2.1 d_Shelf_put_60 rfl (lv_at hl 0 rfl) ?_
  obtain ⟨v1, ev1, h⟩ := h
  refine mg_R C.1 hM ok_Shelf (by decide) kw98 ev1 d_Shelf_put_61 ?_
  refine lv_iload_n C.1.1 C.1.2.1 d_Shelf_put_64 rfl (lv_at hl 2 rfl) ?_
  obtain ⟨v2, ev2, h⟩ := h
  refine ma_R C.1 hM 4 rfl ev2 d_Shelf_put_65 ?_
  refine lv_iload_n C.1.1 C.1.2.1 d_Shelf_put_66 rfl (lv_at hl 1 rfl) ?_
  obtain ⟨ho, h⟩ := h
  refine mc_V (As := [.int x2]) (ci := 3) C.1 hM hS bigGood (c_Kt_setValue h) rfl ho kw268 kw270 kw271 kw173 kw269 hd_Kt_setValue ⟨by decide, by decide⟩ hl.1 rfl (Nat.le_of_ble_eq_true rfl) d_Shelf_put_67 (mc := 0) (ms := 0) rfl rfl ⟨by decide, by decide⟩ (fun v M4 H locs hp hM hS => ?_)
  obtain ⟨rfl, h⟩ := hp
  refine lv_iconst (v := (1 : Int32)) C.1.1 C.1.2.1 d_Shelf_put_70 (by decide) ?_
  exact mr_Z C.1 C.2.1 C.2.2 h.1 hM hS ⟨_, rfl, h.2⟩ d_Shelf_put_71
def wp_Shelf_put (g : Nat → ClassId) (M : Mem) (x0 : Nat) (x1 : Nat) (x2 : Int32) (P : Int32 → Mem → Prop) : Prop :=
  isO M 4 x0 ∧ (wp_Shelf_placeFor g M x0 x1 (fun v1 : Int32 => isO M 4 x0 ∧ (wp_Shelf_isAt g M x0 v1 x1 (fun v3 : Int32 => (v3 = 0 → (∃ v6 : Int32, gI M 4 x0 1 = some v6 ∧ (∃ v7 : Nat, gR M 4 x0 0 = some v7 ∧ (∃ n8 : Nat, aN M (g 4) v7 = some n8 ∧ ((v6 < (nI n8) → (∃ v10 : Int32, gI M 4 x0 1 = some v10 ∧ (∃ M11 : Mem, pV M 4 x0 1 (.int (v10 + (1 : Int32))) = some M11 ∧ (∃ v12 : Int32, gI M11 4 x0 1 = some v12 ∧ (isO M11 4 x0 ∧ (wp_Shelf_move g M11 x0 (v12 - (1 : Int32)) v1 (fun (M14 : Mem) => ∃ v15 : Nat, gR M14 4 x0 0 = some v15 ∧ (∃ v16 : Nat, aQ M14 (g 4) v15 v1 = some (some v16) ∧ (isO M14 3 v16 ∧ (wp_Kt_setText g M14 v16 x1 (fun (M18 : Mem) => wp_Shelf_put_b60 g P M18 x0 x2 v1))))))))))) ∧ (¬ v6 < (nI n8) → (isB (0 : Int32) ∧ P (0 : Int32) M))))))) ∧ (¬ v3 = 0 → (wp_Shelf_put_b60 g P M x0 x2 v1))))))
set_option maxHeartbeats 4000000 in
set_option maxRecDepth 100000 in
theorem c_Shelf_put {l : Launch} {D : va_G} {g : Nat → ClassId} {M : Mem} {x0 : Nat} {x1 : Nat} {x2 : Int32} {P : Int32 → Mem → Prop} (h : wp_Shelf_put g M x0 x1 x2 P) : mMet l BIG D vwCl (tysG g) y_Shelf_put b_Shelf_put 4 (some .boolean) rm_Shelf_put [.ref x0, .ref x1, .int x2] M (kI fun r M' => P r M') := by
  refine mMet.of (own := R_Shelf) rfl (by decide) rfl (fun p e s m below meth c C hr hlk hnm ls hM hS hl => ?_)
  have C : C_Shelf_put D g p s m ([.ref x0, .ref x1, .int x2] : List Value).toArray meth c M := ⟨C, hr, hlk⟩
  unfold wp_Shelf_put at h
  have hl : lv_has ls 4 [(0, .ref x0), (1, .ref x1), (2, .int x2)] := hl
  refine lv_aload_n C.1.1 C.1.2.1 d_Shelf_put_0 rfl (lv_at hl 0 rfl) ?_
  refine lv_aload_n C.1.1 C.1.2.1 d_Shelf_put_1 rfl (lv_at hl 1 rfl) ?_
  obtain ⟨ho, h⟩ := h
  refine mc_V (As := [.ref x1]) (ci := 4) C.1 hM hS bigGood (c_Shelf_placeFor h) rfl ho kw272 kw274 kw275 kw215 kw273 hd_Shelf_placeFor ⟨by decide, by decide⟩ hl.1 rfl (Nat.le_of_ble_eq_true rfl) d_Shelf_put_2 (mc := 0) (ms := 0) rfl rfl ⟨by decide, by decide⟩ (fun v M' H locs hp hM hS => ?_)
  obtain ⟨v1, rfl, rfl, h⟩ := hp
  refine lv_istore_n (lv' := [(3, .int v1), (0, .ref x0), (1, .ref x1), (2, .int x2)]) C.1.1 C.1.2.1 d_Shelf_put_5 rfl hl (by decide) rfl (fun ls hl => ?_)
  refine lv_aload_n C.1.1 C.1.2.1 d_Shelf_put_6 rfl (lv_at hl 1 rfl) ?_
  refine lv_iload_n C.1.1 C.1.2.1 d_Shelf_put_7 rfl (lv_at hl 0 rfl) ?_
  refine lv_aload_n C.1.1 C.1.2.1 d_Shelf_put_8 rfl (lv_at hl 2 rfl) ?_
  obtain ⟨ho, h⟩ := h
  refine mc_V (As := [.int v1, .ref x1]) (ci := 4) C.1 hM hS bigGood (c_Shelf_isAt h) rfl ho kw276 kw278 kw279 kw215 kw277 hd_Shelf_isAt ⟨by decide, by decide⟩ hl.1 rfl (Nat.le_of_ble_eq_true rfl) d_Shelf_put_9 (mc := 0) (ms := 0) rfl rfl ⟨by decide, by decide⟩ (fun v M' H locs hp hM hS => ?_)
  obtain ⟨v3, rfl, rfl, h⟩ := hp
  refine lv_if_ne (tgt := 60) C.1.1 C.1.2.1 d_Shelf_put_12 (by decide) (fun c5 => ?_) (fun c5 => ?_)
  · have h := h.2 c5
    exact t_Shelf_put_b60 C h _ _ _ hM hS (lv_sub hl [1, 3, 0] rfl)
  · have h := h.1 c5
    refine lv_aload_n C.1.1 C.1.2.1 d_Shelf_put_15 rfl (lv_at hl 1 rfl) ?_
    obtain ⟨v6, ev6, h⟩ := h
    refine mg_I C.1 hM ok_Shelf (by decide) kw97 ev6 d_Shelf_put_16 ?_
    refine lv_aload_n C.1.1 C.1.2.1 d_Shelf_put_19 rfl (lv_at hl 1 rfl) ?_
    obtain ⟨v7, ev7, h⟩ := h
    refine mg_R C.1 hM ok_Shelf (by decide) kw98 ev7 d_Shelf_put_20 ?_
    obtain ⟨n8, en8, h⟩ := h
    refine ma_N C.1 hM 4 rfl en8 d_Shelf_put_23 ?_
    refine lv_icmp_lt (tgt := 29) C.1.1 C.1.2.1 d_Shelf_put_24 (by decide) (fun c9 => ?_) (fun c9 => ?_)
    · have h := h.1 c9
      refine lv_aload_n C.1.1 C.1.2.1 d_Shelf_put_29 rfl (lv_at hl 1 rfl) ?_
      refine lv_dup C.1.1 C.1.2.1 d_Shelf_put_30 rfl ?_
      obtain ⟨v10, ev10, h⟩ := h
      refine mg_I C.1 hM ok_Shelf (by decide) kw97 ev10 d_Shelf_put_31 ?_
      refine lv_iconst (v := (1 : Int32)) C.1.1 C.1.2.1 d_Shelf_put_34 (by decide) ?_
      refine lv_iadd C.1.1 C.1.2.1 d_Shelf_put_35 ?_
      obtain ⟨M11, eM11, h⟩ := h
      refine mp_V C.1 hM hS ok_Shelf (by decide) kw97 rfl rfl rfl eM11 d_Shelf_put_36 (fun H locs hM hS => ?_)
      refine lv_aload_n C.1.1 C.1.2.1 d_Shelf_put_39 rfl (lv_at hl 1 rfl) ?_
      refine lv_aload_n C.1.1 C.1.2.1 d_Shelf_put_40 rfl (lv_at hl 1 rfl) ?_
      obtain ⟨v12, ev12, h⟩ := h
      refine mg_I C.1 hM ok_Shelf (by decide) kw97 ev12 d_Shelf_put_41 ?_
      refine lv_iconst (v := (1 : Int32)) C.1.1 C.1.2.1 d_Shelf_put_44 (by decide) ?_
      refine lv_isub C.1.1 C.1.2.1 d_Shelf_put_45 ?_
      refine lv_iload_n C.1.1 C.1.2.1 d_Shelf_put_46 rfl (lv_at hl 0 rfl) ?_
      obtain ⟨ho, h⟩ := h
      refine mc_V (As := [.int (v12 - (1 : Int32)), .int v1]) (ci := 4) C.1 hM hS bigGood (c_Shelf_move h) rfl ho kw280 kw282 kw283 kw215 kw281 hd_Shelf_move ⟨by decide, by decide⟩ hl.1 rfl (Nat.le_of_ble_eq_true rfl) d_Shelf_put_47 (mc := 0) (ms := 0) rfl rfl ⟨by decide, by decide⟩ (fun v M14 H locs hp hM hS => ?_)
      obtain ⟨rfl, h⟩ := hp
      refine lv_aload_n C.1.1 C.1.2.1 d_Shelf_put_50 rfl (lv_at hl 1 rfl) ?_
      obtain ⟨v15, ev15, h⟩ := h
      refine mg_R C.1 hM ok_Shelf (by decide) kw98 ev15 d_Shelf_put_51 ?_
      refine lv_iload_n C.1.1 C.1.2.1 d_Shelf_put_54 rfl (lv_at hl 0 rfl) ?_
      obtain ⟨v16, ev16, h⟩ := h
      refine ma_R C.1 hM 4 rfl ev16 d_Shelf_put_55 ?_
      refine lv_aload_n C.1.1 C.1.2.1 d_Shelf_put_56 rfl (lv_at hl 2 rfl) ?_
      obtain ⟨ho, h⟩ := h
      refine mc_V (As := [.ref x1]) (ci := 3) C.1 hM hS bigGood (c_Kt_setText h) rfl ho kw284 kw286 kw287 kw173 kw285 hd_Kt_setText ⟨by decide, by decide⟩ hl.1 rfl (Nat.le_of_ble_eq_true rfl) d_Shelf_put_57 (mc := 0) (ms := 0) rfl rfl ⟨by decide, by decide⟩ (fun v M18 H locs hp hM hS => ?_)
      obtain ⟨rfl, h⟩ := hp
      exact t_Shelf_put_b60 C h _ _ _ hM hS (lv_sub hl [1, 3, 0] rfl)
    · have h := h.2 c9
      refine lv_iconst (v := (0 : Int32)) C.1.1 C.1.2.1 d_Shelf_put_27 (by decide) ?_
      exact mr_Z C.1 C.2.1 C.2.2 h.1 hM hS ⟨_, rfl, h.2⟩ d_Shelf_put_28
theorem d_Shelf_drop_0 : decode b_Shelf_drop 0 = .ok (.aload_n 0, 1) := by decide +kernel
theorem d_Shelf_drop_1 : decode b_Shelf_drop 1 = .ok (.aload_n 1, 1) := by decide +kernel
theorem d_Shelf_drop_2 : decode b_Shelf_drop 2 = .ok (.invokevirtual 22, 3) := by decide +kernel
theorem d_Shelf_drop_5 : decode b_Shelf_drop 5 = .ok (.istore_n 2, 1) := by decide +kernel
theorem d_Shelf_drop_6 : decode b_Shelf_drop 6 = .ok (.aload_n 0, 1) := by decide +kernel
theorem d_Shelf_drop_7 : decode b_Shelf_drop 7 = .ok (.iload_n 2, 1) := by decide +kernel
theorem d_Shelf_drop_8 : decode b_Shelf_drop 8 = .ok (.aload_n 1, 1) := by decide +kernel
theorem d_Shelf_drop_9 : decode b_Shelf_drop 9 = .ok (.invokevirtual 26, 3) := by decide +kernel
theorem d_Shelf_drop_12 : decode b_Shelf_drop 12 = .ok (.ifCond .ne 5, 3) := by decide +kernel
theorem d_Shelf_drop_15 : decode b_Shelf_drop 15 = .ok (.iconst 0, 1) := by decide +kernel
theorem d_Shelf_drop_16 : decode b_Shelf_drop 16 = .ok (.ireturn, 1) := by decide +kernel
theorem d_Shelf_drop_17 : decode b_Shelf_drop 17 = .ok (.aload_n 0, 1) := by decide +kernel
theorem d_Shelf_drop_18 : decode b_Shelf_drop 18 = .ok (.iload_n 2, 1) := by decide +kernel
theorem d_Shelf_drop_19 : decode b_Shelf_drop 19 = .ok (.aload_n 0, 1) := by decide +kernel
theorem d_Shelf_drop_20 : decode b_Shelf_drop 20 = .ok (.getfield 18, 3) := by decide +kernel
theorem d_Shelf_drop_23 : decode b_Shelf_drop 23 = .ok (.iconst 1, 1) := by decide +kernel
theorem d_Shelf_drop_24 : decode b_Shelf_drop 24 = .ok (.isub, 1) := by decide +kernel
theorem d_Shelf_drop_25 : decode b_Shelf_drop 25 = .ok (.invokevirtual 30, 3) := by decide +kernel
theorem d_Shelf_drop_28 : decode b_Shelf_drop 28 = .ok (.aload_n 0, 1) := by decide +kernel
theorem d_Shelf_drop_29 : decode b_Shelf_drop 29 = .ok (.dup, 1) := by decide +kernel
theorem d_Shelf_drop_30 : decode b_Shelf_drop 30 = .ok (.getfield 18, 3) := by decide +kernel
theorem d_Shelf_drop_33 : decode b_Shelf_drop 33 = .ok (.iconst 1, 1) := by decide +kernel
theorem d_Shelf_drop_34 : decode b_Shelf_drop 34 = .ok (.isub, 1) := by decide +kernel
theorem d_Shelf_drop_35 : decode b_Shelf_drop 35 = .ok (.putfield 18, 3) := by decide +kernel
theorem d_Shelf_drop_38 : decode b_Shelf_drop 38 = .ok (.iconst 1, 1) := by decide +kernel
theorem d_Shelf_drop_39 : decode b_Shelf_drop 39 = .ok (.ireturn, 1) := by decide +kernel
abbrev rm_Shelf_drop : Room := { frames := 4, cells := 0, slots := 0, locals := 86 }
abbrev C_Shelf_drop (D : va_G) (g : Nat → ClassId) (p : Program) (s : State) (m : MethodId) (args : Array Value) (meth : Method) (c : Code) (M0 : Mem) : Prop := Cx p s m args c b_Shelf_drop 3 R_Shelf BIG D vwCl (tysG g) (mA M0 s.heap.size) ∧ meth.sig.returnType = (some .boolean) ∧ meth.locks = false
abbrev B_Shelf_drop (l : Launch) (D : va_G) (p : Program) (e : Env) (s : State) (m : MethodId) (args : Array Value) (below : List Frame) (meth : Method) (c : Code) (M0 : Mem) (P : Int32 → Mem → Prop) (M : Mem) (pc : Nat) (lv : List (Nat × Value)) (st : List Value) : Prop := Wb p l e rm_Shelf_drop s m args below meth c 3 D vwCl M0 (kI fun r M' => P r M') 0 0 M pc lv st
def wp_Shelf_drop (g : Nat → ClassId) (M : Mem) (x0 : Nat) (x1 : Nat) (P : Int32 → Mem → Prop) : Prop :=
  isO M 4 x0 ∧ (wp_Shelf_placeFor g M x0 x1 (fun v1 : Int32 => isO M 4 x0 ∧ (wp_Shelf_isAt g M x0 v1 x1 (fun v3 : Int32 => (v3 = 0 → (isB (0 : Int32) ∧ P (0 : Int32) M)) ∧ (¬ v3 = 0 → (∃ v6 : Int32, gI M 4 x0 1 = some v6 ∧ (isO M 4 x0 ∧ (wp_Shelf_move g M x0 v1 (v6 - (1 : Int32)) (fun (M8 : Mem) => ∃ v9 : Int32, gI M8 4 x0 1 = some v9 ∧ (∃ M10 : Mem, pV M8 4 x0 1 (.int (v9 - (1 : Int32))) = some M10 ∧ (isB (1 : Int32) ∧ P (1 : Int32) M10)))))))))))
set_option maxHeartbeats 4000000 in
set_option maxRecDepth 100000 in
theorem c_Shelf_drop {l : Launch} {D : va_G} {g : Nat → ClassId} {M : Mem} {x0 : Nat} {x1 : Nat} {P : Int32 → Mem → Prop} (h : wp_Shelf_drop g M x0 x1 P) : mMet l BIG D vwCl (tysG g) y_Shelf_drop b_Shelf_drop 3 (some .boolean) rm_Shelf_drop [.ref x0, .ref x1] M (kI fun r M' => P r M') := by
  refine mMet.of (own := R_Shelf) rfl (by decide) rfl (fun p e s m below meth c C hr hlk hnm ls hM hS hl => ?_)
  have C : C_Shelf_drop D g p s m ([.ref x0, .ref x1] : List Value).toArray meth c M := ⟨C, hr, hlk⟩
  unfold wp_Shelf_drop at h
  have hl : lv_has ls 3 [(0, .ref x0), (1, .ref x1)] := hl
  refine lv_aload_n C.1.1 C.1.2.1 d_Shelf_drop_0 rfl (lv_at hl 0 rfl) ?_
  refine lv_aload_n C.1.1 C.1.2.1 d_Shelf_drop_1 rfl (lv_at hl 1 rfl) ?_
  obtain ⟨ho, h⟩ := h
  refine mc_V (As := [.ref x1]) (ci := 4) C.1 hM hS bigGood (c_Shelf_placeFor h) rfl ho kw272 kw274 kw275 kw215 kw273 hd_Shelf_placeFor ⟨by decide, by decide⟩ hl.1 rfl (Nat.le_of_ble_eq_true rfl) d_Shelf_drop_2 (mc := 0) (ms := 0) rfl rfl ⟨by decide, by decide⟩ (fun v M' H locs hp hM hS => ?_)
  obtain ⟨v1, rfl, rfl, h⟩ := hp
  refine lv_istore_n (lv' := [(2, .int v1), (0, .ref x0), (1, .ref x1)]) C.1.1 C.1.2.1 d_Shelf_drop_5 rfl hl (by decide) rfl (fun ls hl => ?_)
  refine lv_aload_n C.1.1 C.1.2.1 d_Shelf_drop_6 rfl (lv_at hl 1 rfl) ?_
  refine lv_iload_n C.1.1 C.1.2.1 d_Shelf_drop_7 rfl (lv_at hl 0 rfl) ?_
  refine lv_aload_n C.1.1 C.1.2.1 d_Shelf_drop_8 rfl (lv_at hl 2 rfl) ?_
  obtain ⟨ho, h⟩ := h
  refine mc_V (As := [.int v1, .ref x1]) (ci := 4) C.1 hM hS bigGood (c_Shelf_isAt h) rfl ho kw276 kw278 kw279 kw215 kw277 hd_Shelf_isAt ⟨by decide, by decide⟩ hl.1 rfl (Nat.le_of_ble_eq_true rfl) d_Shelf_drop_9 (mc := 0) (ms := 0) rfl rfl ⟨by decide, by decide⟩ (fun v M' H locs hp hM hS => ?_)
  obtain ⟨v3, rfl, rfl, h⟩ := hp
  refine lv_if_ne (tgt := 17) C.1.1 C.1.2.1 d_Shelf_drop_12 (by decide) (fun c5 => ?_) (fun c5 => ?_)
  · have h := h.2 c5
    refine lv_aload_n C.1.1 C.1.2.1 d_Shelf_drop_17 rfl (lv_at hl 1 rfl) ?_
    refine lv_iload_n C.1.1 C.1.2.1 d_Shelf_drop_18 rfl (lv_at hl 0 rfl) ?_
    refine lv_aload_n C.1.1 C.1.2.1 d_Shelf_drop_19 rfl (lv_at hl 1 rfl) ?_
    obtain ⟨v6, ev6, h⟩ := h
    refine mg_I C.1 hM ok_Shelf (by decide) kw97 ev6 d_Shelf_drop_20 ?_
    refine lv_iconst (v := (1 : Int32)) C.1.1 C.1.2.1 d_Shelf_drop_23 (by decide) ?_
    refine lv_isub C.1.1 C.1.2.1 d_Shelf_drop_24 ?_
    obtain ⟨ho, h⟩ := h
    refine mc_V (As := [.int v1, .int (v6 - (1 : Int32))]) (ci := 4) C.1 hM hS bigGood (c_Shelf_move h) rfl ho kw280 kw282 kw283 kw215 kw281 hd_Shelf_move ⟨by decide, by decide⟩ hl.1 rfl (Nat.le_of_ble_eq_true rfl) d_Shelf_drop_25 (mc := 0) (ms := 0) rfl rfl ⟨by decide, by decide⟩ (fun v M8 H locs hp hM hS => ?_)
    obtain ⟨rfl, h⟩ := hp
    refine lv_aload_n C.1.1 C.1.2.1 d_Shelf_drop_28 rfl (lv_at hl 1 rfl) ?_
    refine lv_dup C.1.1 C.1.2.1 d_Shelf_drop_29 rfl ?_
    obtain ⟨v9, ev9, h⟩ := h
    refine mg_I C.1 hM ok_Shelf (by decide) kw97 ev9 d_Shelf_drop_30 ?_
    refine lv_iconst (v := (1 : Int32)) C.1.1 C.1.2.1 d_Shelf_drop_33 (by decide) ?_
    refine lv_isub C.1.1 C.1.2.1 d_Shelf_drop_34 ?_
    obtain ⟨M10, eM10, h⟩ := h
    refine mp_V C.1 hM hS ok_Shelf (by decide) kw97 rfl rfl rfl eM10 d_Shelf_drop_35 (fun H locs hM hS => ?_)
    refine lv_iconst (v := (1 : Int32)) C.1.1 C.1.2.1 d_Shelf_drop_38 (by decide) ?_
    exact mr_Z C.1 C.2.1 C.2.2 h.1 hM hS ⟨_, rfl, h.2⟩ d_Shelf_drop_39
  · have h := h.1 c5
    refine lv_iconst (v := (0 : Int32)) C.1.1 C.1.2.1 d_Shelf_drop_15 (by decide) ?_
    exact mr_Z C.1 C.2.1 C.2.2 h.1 hM hS ⟨_, rfl, h.2⟩ d_Shelf_drop_16
theorem d_Shelf_countTakenBy_0 : decode b_Shelf_countTakenBy 0 = .ok (.iconst 0, 1) := by decide +kernel
theorem d_Shelf_countTakenBy_1 : decode b_Shelf_countTakenBy 1 = .ok (.istore_n 2, 1) := by decide +kernel
theorem d_Shelf_countTakenBy_2 : decode b_Shelf_countTakenBy 2 = .ok (.iconst 0, 1) := by decide +kernel
theorem d_Shelf_countTakenBy_3 : decode b_Shelf_countTakenBy 3 = .ok (.istore_n 3, 1) := by decide +kernel
theorem d_Shelf_countTakenBy_4 : decode b_Shelf_countTakenBy 4 = .ok (.iload_n 3, 1) := by decide +kernel
theorem d_Shelf_countTakenBy_5 : decode b_Shelf_countTakenBy 5 = .ok (.aload_n 0, 1) := by decide +kernel
theorem d_Shelf_countTakenBy_6 : decode b_Shelf_countTakenBy 6 = .ok (.getfield 18, 3) := by decide +kernel
theorem d_Shelf_countTakenBy_9 : decode b_Shelf_countTakenBy 9 = .ok (.if_icmp .ge 28, 3) := by decide +kernel
theorem d_Shelf_countTakenBy_12 : decode b_Shelf_countTakenBy 12 = .ok (.aload_n 1, 1) := by decide +kernel
theorem d_Shelf_countTakenBy_13 : decode b_Shelf_countTakenBy 13 = .ok (.aload_n 0, 1) := by decide +kernel
theorem d_Shelf_countTakenBy_14 : decode b_Shelf_countTakenBy 14 = .ok (.getfield 11, 3) := by decide +kernel
theorem d_Shelf_countTakenBy_17 : decode b_Shelf_countTakenBy 17 = .ok (.iload_n 3, 1) := by decide +kernel
theorem d_Shelf_countTakenBy_18 : decode b_Shelf_countTakenBy 18 = .ok (.aaload, 1) := by decide +kernel
theorem d_Shelf_countTakenBy_19 : decode b_Shelf_countTakenBy 19 = .ok (.invokevirtual 42, 3) := by decide +kernel
theorem d_Shelf_countTakenBy_22 : decode b_Shelf_countTakenBy 22 = .ok (.invokevirtual 46, 3) := by decide +kernel
theorem d_Shelf_countTakenBy_25 : decode b_Shelf_countTakenBy 25 = .ok (.ifCond .eq 6, 3) := by decide +kernel
theorem d_Shelf_countTakenBy_28 : decode b_Shelf_countTakenBy 28 = .ok (.iinc 2 1, 3) := by decide +kernel
theorem d_Shelf_countTakenBy_31 : decode b_Shelf_countTakenBy 31 = .ok (.iinc 3 1, 3) := by decide +kernel
theorem d_Shelf_countTakenBy_34 : decode b_Shelf_countTakenBy 34 = .ok (.goto (-30), 3) := by decide +kernel
theorem d_Shelf_countTakenBy_37 : decode b_Shelf_countTakenBy 37 = .ok (.iload_n 2, 1) := by decide +kernel
theorem d_Shelf_countTakenBy_38 : decode b_Shelf_countTakenBy 38 = .ok (.ireturn, 1) := by decide +kernel
abbrev rm_Shelf_countTakenBy : Room := { frames := 3, cells := 0, slots := 0, locals := 72 }
abbrev C_Shelf_countTakenBy (D : va_G) (g : Nat → ClassId) (p : Program) (s : State) (m : MethodId) (args : Array Value) (meth : Method) (c : Code) (M0 : Mem) : Prop := Cx p s m args c b_Shelf_countTakenBy 4 R_Shelf BIG D vwCl (tysG g) (mA M0 s.heap.size) ∧ meth.sig.returnType = (some .int) ∧ meth.locks = false
abbrev B_Shelf_countTakenBy (l : Launch) (D : va_G) (p : Program) (e : Env) (s : State) (m : MethodId) (args : Array Value) (below : List Frame) (meth : Method) (c : Code) (M0 : Mem) (P : Int32 → Prop) (M : Mem) (pc : Nat) (lv : List (Nat × Value)) (st : List Value) : Prop := Wb p l e rm_Shelf_countTakenBy s m args below meth c 4 D vwCl M0 (kI fun r M' => M0 = M' ∧ P r) 0 0 M pc lv st
def wp_Shelf_countTakenBy_b31 (g : Nat → ClassId) (P : Int32 → Prop) (J4 : Int32 → Int32 → Prop) (M : Mem) (x0 : Nat) (x1 : Nat) (x2 : Int32) (x3 : Int32) : Prop :=
  J4 x2 (x3 + (1 : Int32))
set_option maxHeartbeats 4000000 in
set_option maxRecDepth 100000 in
theorem t_Shelf_countTakenBy_b31 {l : Launch} {D : va_G} {g : Nat → ClassId} {p : Program} {e : Env} {s : State} {m : MethodId} {args : Array Value} {below : List Frame} {meth : Method} {c : Code} {P : Int32 → Prop} {J4 : Int32 → Int32 → Prop} {M : Mem} {x0 : Nat} {x1 : Nat} {x2 : Int32} {x3 : Int32} (C : C_Shelf_countTakenBy D g p s m args meth c M) (h : wp_Shelf_countTakenBy_b31 g P J4 M x0 x1 x2 x3 ) (kJ4 : ∀ (x2 : Int32) (x3 : Int32), J4 x2 x3 → B_Shelf_countTakenBy l D p e s m args below meth c M P M 4 [(0, .ref x0), (1, .ref x1), (2, .int x2), (3, .int x3)] []) : B_Shelf_countTakenBy l D p e s m args below meth c M P M 31 [(0, .ref x0), (1, .ref x1), (2, .int x2), (3, .int x3)] [] := by
  intro ls H locs hM hS hl
  unfold wp_Shelf_countTakenBy_b31 at h
  refine lv_iinc (v := x3 + (1 : Int32)) (lv' := [(3, .int (x3 + (1 : Int32))), (0, .ref x0), (1, .ref x1), (2, .int x2)]) C.1.1 C.1.2.1 d_Shelf_countTakenBy_31 hl (k := 3) rfl rfl (by decide) rfl (fun ls hl => ?_)
  refine lv_goto (tgt := 4) C.1.1 C.1.2.1 d_Shelf_countTakenBy_34 (by decide) ?_
  exact kJ4 x2 (x3 + (1 : Int32)) h _ _ _ hM hS (lv_sub hl [1, 2, 3, 0] rfl)
def wp_Shelf_countTakenBy_b4 (g : Nat → ClassId) (P : Int32 → Prop) (M : Mem) (x0 : Nat) (x1 : Nat) (x2 : Int32) (x3 : Int32) : Prop :=
  ∃ (I : Int32 → Int32 → Prop) (μ : Int32 → Int32 → Nat), I x2 x3 ∧ ∀ (x2 : Int32) (x3 : Int32), I x2 x3 →
  ∃ v1 : Int32, gI M 4 x0 1 = some v1 ∧ ((v1 ≤ x3 → (P x2)) ∧ (¬ v1 ≤ x3 → (∃ v3 : Nat, gR M 4 x0 0 = some v3 ∧ (∃ v4 : Nat, aQ M (g 4) v3 x3 = some (some v4) ∧ (isO M 3 v4 ∧ (wp_Kt_text g M v4 (fun v5 : Nat => isO M 1 x1 ∧ (wp_Text_takes g M x1 v5 (fun v7 : Int32 => (v7 = 0 → (wp_Shelf_countTakenBy_b31 g P (fun y2 y3 => I y2 y3 ∧ μ y2 y3 < μ x2 x3) M x0 x1 x2 x3)) ∧ (¬ v7 = 0 → (wp_Shelf_countTakenBy_b31 g P (fun y2 y3 => I y2 y3 ∧ μ y2 y3 < μ x2 x3) M x0 x1 (x2 + (1 : Int32)) x3)))))))))))
set_option maxHeartbeats 4000000 in
set_option maxRecDepth 100000 in
theorem t_Shelf_countTakenBy_b4 {l : Launch} {D : va_G} {g : Nat → ClassId} {p : Program} {e : Env} {s : State} {m : MethodId} {args : Array Value} {below : List Frame} {meth : Method} {c : Code} {P : Int32 → Prop} {M : Mem} {x0 : Nat} {x1 : Nat} {x2 : Int32} {x3 : Int32} (C : C_Shelf_countTakenBy D g p s m args meth c M) (h : wp_Shelf_countTakenBy_b4 g P M x0 x1 x2 x3 ) : B_Shelf_countTakenBy l D p e s m args below meth c M P M 4 [(0, .ref x0), (1, .ref x1), (2, .int x2), (3, .int x3)] [] := by
  unfold wp_Shelf_countTakenBy_b4 at h
  obtain ⟨I, μ, hI, hb⟩ := h
  have key : ∀ (n : Nat) (x2 : Int32) (x3 : Int32), I x2 x3 → μ x2 x3 < n → B_Shelf_countTakenBy l D p e s m args below meth c M P M 4 [(0, .ref x0), (1, .ref x1), (2, .int x2), (3, .int x3)] [] := by
    intro n
    induction n with
    | zero => intro x2 x3 _ hn; exact absurd hn (Nat.not_lt_zero _)
    | succ n ih =>
      intro x2 x3 hI hn ls H locs hM hS hl
      have h := hb x2 x3 hI
      refine lv_iload_n C.1.1 C.1.2.1 d_Shelf_countTakenBy_4 rfl (lv_at hl 3 rfl) ?_
      refine lv_aload_n C.1.1 C.1.2.1 d_Shelf_countTakenBy_5 rfl (lv_at hl 0 rfl) ?_
      obtain ⟨v1, ev1, h⟩ := h
      refine mg_I C.1 hM ok_Shelf (by decide) kw97 ev1 d_Shelf_countTakenBy_6 ?_
      refine lv_icmp_ge (tgt := 37) C.1.1 C.1.2.1 d_Shelf_countTakenBy_9 (by decide) (fun c2 => ?_) (fun c2 => ?_)
      · have h := h.1 c2
        refine lv_iload_n C.1.1 C.1.2.1 d_Shelf_countTakenBy_37 rfl (lv_at hl 2 rfl) ?_
        exact mr_I C.1 C.2.1 C.2.2 hM hS ⟨_, rfl, rfl, h⟩ d_Shelf_countTakenBy_38
      · have h := h.2 c2
        refine lv_aload_n C.1.1 C.1.2.1 d_Shelf_countTakenBy_12 rfl (lv_at hl 1 rfl) ?_
        refine lv_aload_n C.1.1 C.1.2.1 d_Shelf_countTakenBy_13 rfl (lv_at hl 0 rfl) ?_
        obtain ⟨v3, ev3, h⟩ := h
        refine mg_R C.1 hM ok_Shelf (by decide) kw98 ev3 d_Shelf_countTakenBy_14 ?_
        refine lv_iload_n C.1.1 C.1.2.1 d_Shelf_countTakenBy_17 rfl (lv_at hl 3 rfl) ?_
        obtain ⟨v4, ev4, h⟩ := h
        refine ma_R C.1 hM 4 rfl ev4 d_Shelf_countTakenBy_18 ?_
        obtain ⟨ho, h⟩ := h
        refine mc_V (As := []) (ci := 3) C.1 hM hS bigGood (c_Kt_text h) rfl ho kw178 kw180 kw181 kw173 kw179 hd_Kt_text ⟨by decide, by decide⟩ hl.1 rfl (Nat.le_of_ble_eq_true rfl) d_Shelf_countTakenBy_19 (mc := 0) (ms := 0) rfl rfl ⟨by decide, by decide⟩ (fun v M' H locs hp hM hS => ?_)
        obtain ⟨v5, rfl, rfl, h⟩ := hp
        obtain ⟨ho, h⟩ := h
        refine mc_V (As := [.ref v5]) (ci := 1) C.1 hM hS bigGood (c_Text_takes h) rfl ho kw288 kw290 kw291 kw107 kw289 hd_Text_takes ⟨by decide, by decide⟩ hl.1 rfl (Nat.le_of_ble_eq_true rfl) d_Shelf_countTakenBy_22 (mc := 0) (ms := 0) rfl rfl ⟨by decide, by decide⟩ (fun v M' H locs hp hM hS => ?_)
        obtain ⟨v7, rfl, rfl, h⟩ := hp
        refine lv_if_eq (tgt := 31) C.1.1 C.1.2.1 d_Shelf_countTakenBy_25 (by decide) (fun c9 => ?_) (fun c9 => ?_)
        · have h := h.1 c9
          exact t_Shelf_countTakenBy_b31 C h (fun y2 y3 hJ => ih y2 y3 hJ.1 (Nat.lt_of_lt_of_le hJ.2 (Nat.le_of_lt_succ hn))) _ _ _ hM hS (lv_sub hl [0, 1, 2, 3] rfl)
        · have h := h.2 c9
          refine lv_iinc (v := x2 + (1 : Int32)) (lv' := [(2, .int (x2 + (1 : Int32))), (0, .ref x0), (1, .ref x1), (3, .int x3)]) C.1.1 C.1.2.1 d_Shelf_countTakenBy_28 hl (k := 2) rfl rfl (by decide) rfl (fun ls hl => ?_)
          exact t_Shelf_countTakenBy_b31 C h (fun y2 y3 hJ => ih y2 y3 hJ.1 (Nat.lt_of_lt_of_le hJ.2 (Nat.le_of_lt_succ hn))) _ _ _ hM hS (lv_sub hl [1, 2, 0, 3] rfl)
  exact key _ x2 x3 hI (Nat.lt_succ_self _)
def wp_Shelf_countTakenBy (g : Nat → ClassId) (M : Mem) (x0 : Nat) (x1 : Nat) (P : Int32 → Prop) : Prop :=
  wp_Shelf_countTakenBy_b4 g P M x0 x1 (0 : Int32) (0 : Int32)
set_option maxHeartbeats 4000000 in
set_option maxRecDepth 100000 in
theorem c_Shelf_countTakenBy {l : Launch} {D : va_G} {g : Nat → ClassId} {M : Mem} {x0 : Nat} {x1 : Nat} {P : Int32 → Prop} (h : wp_Shelf_countTakenBy g M x0 x1 P) : mMet l BIG D vwCl (tysG g) y_Shelf_countTakenBy b_Shelf_countTakenBy 4 (some .int) rm_Shelf_countTakenBy [.ref x0, .ref x1] M (kI fun r M' => M = M' ∧ P r) := by
  refine mMet.of (own := R_Shelf) rfl (by decide) rfl (fun p e s m below meth c C hr hlk hnm ls hM hS hl => ?_)
  have C : C_Shelf_countTakenBy D g p s m ([.ref x0, .ref x1] : List Value).toArray meth c M := ⟨C, hr, hlk⟩
  unfold wp_Shelf_countTakenBy at h
  have hl : lv_has ls 4 [(0, .ref x0), (1, .ref x1)] := hl
  refine lv_iconst (v := (0 : Int32)) C.1.1 C.1.2.1 d_Shelf_countTakenBy_0 (by decide) ?_
  refine lv_istore_n (lv' := [(2, .int (0 : Int32)), (0, .ref x0), (1, .ref x1)]) C.1.1 C.1.2.1 d_Shelf_countTakenBy_1 rfl hl (by decide) rfl (fun ls hl => ?_)
  refine lv_iconst (v := (0 : Int32)) C.1.1 C.1.2.1 d_Shelf_countTakenBy_2 (by decide) ?_
  refine lv_istore_n (lv' := [(3, .int (0 : Int32)), (2, .int (0 : Int32)), (0, .ref x0), (1, .ref x1)]) C.1.1 C.1.2.1 d_Shelf_countTakenBy_3 rfl hl (by decide) rfl (fun ls hl => ?_)
  exact t_Shelf_countTakenBy_b4 C h _ _ _ hM hS (lv_sub hl [2, 3, 1, 0] rfl)
theorem d_Shelf_takenBy_0 : decode b_Shelf_takenBy 0 = .ok (.iconst 0, 1) := by decide +kernel
theorem d_Shelf_takenBy_1 : decode b_Shelf_takenBy 1 = .ok (.istore_n 3, 1) := by decide +kernel
theorem d_Shelf_takenBy_2 : decode b_Shelf_takenBy 2 = .ok (.iconst 0, 1) := by decide +kernel
theorem d_Shelf_takenBy_3 : decode b_Shelf_takenBy 3 = .ok (.istore 4, 2) := by decide +kernel
theorem d_Shelf_takenBy_5 : decode b_Shelf_takenBy 5 = .ok (.iload 4, 2) := by decide +kernel
theorem d_Shelf_takenBy_7 : decode b_Shelf_takenBy 7 = .ok (.aload_n 0, 1) := by decide +kernel
theorem d_Shelf_takenBy_8 : decode b_Shelf_takenBy 8 = .ok (.getfield 18, 3) := by decide +kernel
theorem d_Shelf_takenBy_11 : decode b_Shelf_takenBy 11 = .ok (.if_icmp .ge 42, 3) := by decide +kernel
theorem d_Shelf_takenBy_14 : decode b_Shelf_takenBy 14 = .ok (.aload_n 1, 1) := by decide +kernel
theorem d_Shelf_takenBy_15 : decode b_Shelf_takenBy 15 = .ok (.aload_n 0, 1) := by decide +kernel
theorem d_Shelf_takenBy_16 : decode b_Shelf_takenBy 16 = .ok (.getfield 11, 3) := by decide +kernel
theorem d_Shelf_takenBy_19 : decode b_Shelf_takenBy 19 = .ok (.iload 4, 2) := by decide +kernel
theorem d_Shelf_takenBy_21 : decode b_Shelf_takenBy 21 = .ok (.aaload, 1) := by decide +kernel
theorem d_Shelf_takenBy_22 : decode b_Shelf_takenBy 22 = .ok (.invokevirtual 42, 3) := by decide +kernel
theorem d_Shelf_takenBy_25 : decode b_Shelf_takenBy 25 = .ok (.invokevirtual 46, 3) := by decide +kernel
theorem d_Shelf_takenBy_28 : decode b_Shelf_takenBy 28 = .ok (.ifCond .eq 19, 3) := by decide +kernel
theorem d_Shelf_takenBy_31 : decode b_Shelf_takenBy 31 = .ok (.iload_n 3, 1) := by decide +kernel
theorem d_Shelf_takenBy_32 : decode b_Shelf_takenBy 32 = .ok (.iload_n 2, 1) := by decide +kernel
theorem d_Shelf_takenBy_33 : decode b_Shelf_takenBy 33 = .ok (.if_icmp .ne 11, 3) := by decide +kernel
theorem d_Shelf_takenBy_36 : decode b_Shelf_takenBy 36 = .ok (.aload_n 0, 1) := by decide +kernel
theorem d_Shelf_takenBy_37 : decode b_Shelf_takenBy 37 = .ok (.getfield 11, 3) := by decide +kernel
theorem d_Shelf_takenBy_40 : decode b_Shelf_takenBy 40 = .ok (.iload 4, 2) := by decide +kernel
theorem d_Shelf_takenBy_42 : decode b_Shelf_takenBy 42 = .ok (.aaload, 1) := by decide +kernel
theorem d_Shelf_takenBy_43 : decode b_Shelf_takenBy 43 = .ok (.areturn, 1) := by decide +kernel
theorem d_Shelf_takenBy_44 : decode b_Shelf_takenBy 44 = .ok (.iinc 3 1, 3) := by decide +kernel
theorem d_Shelf_takenBy_47 : decode b_Shelf_takenBy 47 = .ok (.iinc 4 1, 3) := by decide +kernel
theorem d_Shelf_takenBy_50 : decode b_Shelf_takenBy 50 = .ok (.goto (-45), 3) := by decide +kernel
theorem d_Shelf_takenBy_53 : decode b_Shelf_takenBy 53 = .ok (.aconst_null, 1) := by decide +kernel
theorem d_Shelf_takenBy_54 : decode b_Shelf_takenBy 54 = .ok (.areturn, 1) := by decide +kernel
abbrev rm_Shelf_takenBy : Room := { frames := 3, cells := 0, slots := 0, locals := 72 }
abbrev C_Shelf_takenBy (D : va_G) (g : Nat → ClassId) (p : Program) (s : State) (m : MethodId) (args : Array Value) (meth : Method) (c : Code) (M0 : Mem) : Prop := Cx p s m args c b_Shelf_takenBy 5 R_Shelf BIG D vwCl (tysG g) (mA M0 s.heap.size) ∧ meth.sig.returnType = (some (.object "TopicDesk$KeptTopic")) ∧ meth.locks = false
abbrev B_Shelf_takenBy (l : Launch) (D : va_G) (p : Program) (e : Env) (s : State) (m : MethodId) (args : Array Value) (below : List Frame) (meth : Method) (c : Code) (M0 : Mem) (P : Option Nat → Prop) (M : Mem) (pc : Nat) (lv : List (Nat × Value)) (st : List Value) : Prop := Wb p l e rm_Shelf_takenBy s m args below meth c 5 D vwCl M0 (kQ fun r M' => M0 = M' ∧ P r) 0 0 M pc lv st
def wp_Shelf_takenBy_b47 (g : Nat → ClassId) (P : Option Nat → Prop) (J5 : Int32 → Int32 → Prop) (M : Mem) (x0 : Nat) (x1 : Nat) (x2 : Int32) (x3 : Int32) (x4 : Int32) : Prop :=
  J5 x3 (x4 + (1 : Int32))
set_option maxHeartbeats 4000000 in
set_option maxRecDepth 100000 in
theorem t_Shelf_takenBy_b47 {l : Launch} {D : va_G} {g : Nat → ClassId} {p : Program} {e : Env} {s : State} {m : MethodId} {args : Array Value} {below : List Frame} {meth : Method} {c : Code} {P : Option Nat → Prop} {J5 : Int32 → Int32 → Prop} {M : Mem} {x0 : Nat} {x1 : Nat} {x2 : Int32} {x3 : Int32} {x4 : Int32} (C : C_Shelf_takenBy D g p s m args meth c M) (h : wp_Shelf_takenBy_b47 g P J5 M x0 x1 x2 x3 x4 ) (kJ5 : ∀ (x3 : Int32) (x4 : Int32), J5 x3 x4 → B_Shelf_takenBy l D p e s m args below meth c M P M 5 [(0, .ref x0), (1, .ref x1), (2, .int x2), (3, .int x3), (4, .int x4)] []) : B_Shelf_takenBy l D p e s m args below meth c M P M 47 [(0, .ref x0), (1, .ref x1), (2, .int x2), (3, .int x3), (4, .int x4)] [] := by
  intro ls H locs hM hS hl
  unfold wp_Shelf_takenBy_b47 at h
  refine lv_iinc (v := x4 + (1 : Int32)) (lv' := [(4, .int (x4 + (1 : Int32))), (0, .ref x0), (1, .ref x1), (2, .int x2), (3, .int x3)]) C.1.1 C.1.2.1 d_Shelf_takenBy_47 hl (k := 4) rfl rfl (by decide) rfl (fun ls hl => ?_)
  refine lv_goto (tgt := 5) C.1.1 C.1.2.1 d_Shelf_takenBy_50 (by decide) ?_
  exact kJ5 x3 (x4 + (1 : Int32)) h _ _ _ hM hS (lv_sub hl [1, 2, 3, 4, 0] rfl)
def wp_Shelf_takenBy_b5 (g : Nat → ClassId) (P : Option Nat → Prop) (M : Mem) (x0 : Nat) (x1 : Nat) (x2 : Int32) (x3 : Int32) (x4 : Int32) : Prop :=
  ∃ (I : Int32 → Int32 → Prop) (μ : Int32 → Int32 → Nat), I x3 x4 ∧ ∀ (x3 : Int32) (x4 : Int32), I x3 x4 →
  ∃ v1 : Int32, gI M 4 x0 1 = some v1 ∧ ((v1 ≤ x4 → (P none)) ∧ (¬ v1 ≤ x4 → (∃ v3 : Nat, gR M 4 x0 0 = some v3 ∧ (∃ v4 : Nat, aQ M (g 4) v3 x4 = some (some v4) ∧ (isO M 3 v4 ∧ (wp_Kt_text g M v4 (fun v5 : Nat => isO M 1 x1 ∧ (wp_Text_takes g M x1 v5 (fun v7 : Int32 => (v7 = 0 → (wp_Shelf_takenBy_b47 g P (fun y3 y4 => I y3 y4 ∧ μ y3 y4 < μ x3 x4) M x0 x1 x2 x3 x4)) ∧ (¬ v7 = 0 → ((x3 = x2 → (∃ v11 : Nat, gR M 4 x0 0 = some v11 ∧ (∃ v12 : Nat, aQ M (g 4) v11 x4 = some (some v12) ∧ (P (some v12))))) ∧ (¬ x3 = x2 → (wp_Shelf_takenBy_b47 g P (fun y3 y4 => I y3 y4 ∧ μ y3 y4 < μ x3 x4) M x0 x1 x2 (x3 + (1 : Int32)) x4)))))))))))))
set_option maxHeartbeats 4000000 in
set_option maxRecDepth 100000 in
theorem t_Shelf_takenBy_b5 {l : Launch} {D : va_G} {g : Nat → ClassId} {p : Program} {e : Env} {s : State} {m : MethodId} {args : Array Value} {below : List Frame} {meth : Method} {c : Code} {P : Option Nat → Prop} {M : Mem} {x0 : Nat} {x1 : Nat} {x2 : Int32} {x3 : Int32} {x4 : Int32} (C : C_Shelf_takenBy D g p s m args meth c M) (h : wp_Shelf_takenBy_b5 g P M x0 x1 x2 x3 x4 ) : B_Shelf_takenBy l D p e s m args below meth c M P M 5 [(0, .ref x0), (1, .ref x1), (2, .int x2), (3, .int x3), (4, .int x4)] [] := by
  unfold wp_Shelf_takenBy_b5 at h
  obtain ⟨I, μ, hI, hb⟩ := h
  have key : ∀ (n : Nat) (x3 : Int32) (x4 : Int32), I x3 x4 → μ x3 x4 < n → B_Shelf_takenBy l D p e s m args below meth c M P M 5 [(0, .ref x0), (1, .ref x1), (2, .int x2), (3, .int x3), (4, .int x4)] [] := by
    intro n
    induction n with
    | zero => intro x3 x4 _ hn; exact absurd hn (Nat.not_lt_zero _)
    | succ n ih =>
      intro x3 x4 hI hn ls H locs hM hS hl
      have h := hb x3 x4 hI
      refine lv_iload C.1.1 C.1.2.1 d_Shelf_takenBy_5 (lv_at hl 4 rfl) ?_
      refine lv_aload_n C.1.1 C.1.2.1 d_Shelf_takenBy_7 rfl (lv_at hl 0 rfl) ?_
      obtain ⟨v1, ev1, h⟩ := h
      refine mg_I C.1 hM ok_Shelf (by decide) kw97 ev1 d_Shelf_takenBy_8 ?_
      refine lv_icmp_ge (tgt := 53) C.1.1 C.1.2.1 d_Shelf_takenBy_11 (by decide) (fun c2 => ?_) (fun c2 => ?_)
      · have h := h.1 c2
        refine lv_null C.1.1 C.1.2.1 d_Shelf_takenBy_53 ?_
        exact mr_Q (v := none) C.1 C.2.1 C.2.2 (Or.inl ⟨_, rfl⟩) hM hS ⟨_, rfl, rfl, h⟩ d_Shelf_takenBy_54
      · have h := h.2 c2
        refine lv_aload_n C.1.1 C.1.2.1 d_Shelf_takenBy_14 rfl (lv_at hl 1 rfl) ?_
        refine lv_aload_n C.1.1 C.1.2.1 d_Shelf_takenBy_15 rfl (lv_at hl 0 rfl) ?_
        obtain ⟨v3, ev3, h⟩ := h
        refine mg_R C.1 hM ok_Shelf (by decide) kw98 ev3 d_Shelf_takenBy_16 ?_
        refine lv_iload C.1.1 C.1.2.1 d_Shelf_takenBy_19 (lv_at hl 4 rfl) ?_
        obtain ⟨v4, ev4, h⟩ := h
        refine ma_R C.1 hM 4 rfl ev4 d_Shelf_takenBy_21 ?_
        obtain ⟨ho, h⟩ := h
        refine mc_V (As := []) (ci := 3) C.1 hM hS bigGood (c_Kt_text h) rfl ho kw178 kw180 kw181 kw173 kw179 hd_Kt_text ⟨by decide, by decide⟩ hl.1 rfl (Nat.le_of_ble_eq_true rfl) d_Shelf_takenBy_22 (mc := 0) (ms := 0) rfl rfl ⟨by decide, by decide⟩ (fun v M' H locs hp hM hS => ?_)
        obtain ⟨v5, rfl, rfl, h⟩ := hp
        obtain ⟨ho, h⟩ := h
        refine mc_V (As := [.ref v5]) (ci := 1) C.1 hM hS bigGood (c_Text_takes h) rfl ho kw288 kw290 kw291 kw107 kw289 hd_Text_takes ⟨by decide, by decide⟩ hl.1 rfl (Nat.le_of_ble_eq_true rfl) d_Shelf_takenBy_25 (mc := 0) (ms := 0) rfl rfl ⟨by decide, by decide⟩ (fun v M' H locs hp hM hS => ?_)
        obtain ⟨v7, rfl, rfl, h⟩ := hp
        refine lv_if_eq (tgt := 47) C.1.1 C.1.2.1 d_Shelf_takenBy_28 (by decide) (fun c9 => ?_) (fun c9 => ?_)
        · have h := h.1 c9
          exact t_Shelf_takenBy_b47 C h (fun y3 y4 hJ => ih y3 y4 hJ.1 (Nat.lt_of_lt_of_le hJ.2 (Nat.le_of_lt_succ hn))) _ _ _ hM hS (lv_sub hl [0, 1, 2, 3, 4] rfl)
        · have h := h.2 c9
          refine lv_iload_n C.1.1 C.1.2.1 d_Shelf_takenBy_31 rfl (lv_at hl 3 rfl) ?_
          refine lv_iload_n C.1.1 C.1.2.1 d_Shelf_takenBy_32 rfl (lv_at hl 2 rfl) ?_
          refine lv_icmp_ne (tgt := 44) C.1.1 C.1.2.1 d_Shelf_takenBy_33 (by decide) (fun c10 => ?_) (fun c10 => ?_)
          · have h := h.2 c10
            refine lv_iinc (v := x3 + (1 : Int32)) (lv' := [(3, .int (x3 + (1 : Int32))), (0, .ref x0), (1, .ref x1), (2, .int x2), (4, .int x4)]) C.1.1 C.1.2.1 d_Shelf_takenBy_44 hl (k := 3) rfl rfl (by decide) rfl (fun ls hl => ?_)
            exact t_Shelf_takenBy_b47 C h (fun y3 y4 hJ => ih y3 y4 hJ.1 (Nat.lt_of_lt_of_le hJ.2 (Nat.le_of_lt_succ hn))) _ _ _ hM hS (lv_sub hl [1, 2, 3, 0, 4] rfl)
          · have h := h.1 c10
            refine lv_aload_n C.1.1 C.1.2.1 d_Shelf_takenBy_36 rfl (lv_at hl 0 rfl) ?_
            obtain ⟨v11, ev11, h⟩ := h
            refine mg_R C.1 hM ok_Shelf (by decide) kw98 ev11 d_Shelf_takenBy_37 ?_
            refine lv_iload C.1.1 C.1.2.1 d_Shelf_takenBy_40 (lv_at hl 4 rfl) ?_
            obtain ⟨v12, ev12, h⟩ := h
            refine ma_R C.1 hM 4 rfl ev12 d_Shelf_takenBy_42 ?_
            exact mr_Q (v := (some v12)) C.1 C.2.1 C.2.2 (Or.inl ⟨_, rfl⟩) hM hS ⟨_, rfl, rfl, h⟩ d_Shelf_takenBy_43
  exact key _ x3 x4 hI (Nat.lt_succ_self _)
def wp_Shelf_takenBy (g : Nat → ClassId) (M : Mem) (x0 : Nat) (x1 : Nat) (x2 : Int32) (P : Option Nat → Prop) : Prop :=
  wp_Shelf_takenBy_b5 g P M x0 x1 x2 (0 : Int32) (0 : Int32)
set_option maxHeartbeats 4000000 in
set_option maxRecDepth 100000 in
theorem c_Shelf_takenBy {l : Launch} {D : va_G} {g : Nat → ClassId} {M : Mem} {x0 : Nat} {x1 : Nat} {x2 : Int32} {P : Option Nat → Prop} (h : wp_Shelf_takenBy g M x0 x1 x2 P) : mMet l BIG D vwCl (tysG g) y_Shelf_takenBy b_Shelf_takenBy 5 (some (.object "TopicDesk$KeptTopic")) rm_Shelf_takenBy [.ref x0, .ref x1, .int x2] M (kQ fun r M' => M = M' ∧ P r) := by
  refine mMet.of (own := R_Shelf) rfl (by decide) rfl (fun p e s m below meth c C hr hlk hnm ls hM hS hl => ?_)
  have C : C_Shelf_takenBy D g p s m ([.ref x0, .ref x1, .int x2] : List Value).toArray meth c M := ⟨C, hr, hlk⟩
  unfold wp_Shelf_takenBy at h
  have hl : lv_has ls 5 [(0, .ref x0), (1, .ref x1), (2, .int x2)] := hl
  refine lv_iconst (v := (0 : Int32)) C.1.1 C.1.2.1 d_Shelf_takenBy_0 (by decide) ?_
  refine lv_istore_n (lv' := [(3, .int (0 : Int32)), (0, .ref x0), (1, .ref x1), (2, .int x2)]) C.1.1 C.1.2.1 d_Shelf_takenBy_1 rfl hl (by decide) rfl (fun ls hl => ?_)
  refine lv_iconst (v := (0 : Int32)) C.1.1 C.1.2.1 d_Shelf_takenBy_2 (by decide) ?_
  refine lv_istore (lv' := [(4, .int (0 : Int32)), (3, .int (0 : Int32)), (0, .ref x0), (1, .ref x1), (2, .int x2)]) C.1.1 C.1.2.1 d_Shelf_takenBy_3 hl (by decide) rfl (fun ls hl => ?_)
  exact t_Shelf_takenBy_b5 C h _ _ _ hM hS (lv_sub hl [2, 3, 4, 1, 0] rfl)
