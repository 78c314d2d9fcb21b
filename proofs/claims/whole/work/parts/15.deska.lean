theorem d_Desk_fault_0 : decode b_Desk_fault 0 = .ok (.aload_n 0, 1) := by decide +kernel
theorem d_Desk_fault_1 : decode b_Desk_fault 1 = .ok (.getfield 40, 3) := by decide +kernel
theorem d_Desk_fault_4 : decode b_Desk_fault 4 = .ok (.ireturn, 1) := by decide +kernel
abbrev rm_Desk_fault : Room := { frames := 0, cells := 0, slots := 0, locals := 0 }
abbrev C_Desk_fault (D : va_G) (g : Nat → ClassId) (p : Program) (s : State) (m : MethodId) (args : Array Value) (meth : Method) (c : Code) (M0 : Mem) : Prop := Cx p s m args c b_Desk_fault 1 R_Desk BIG D vwCl (tysG g) (mA M0 s.heap.size) ∧ meth.sig.returnType = (some .int) ∧ meth.locks = false
abbrev B_Desk_fault (l : Launch) (D : va_G) (p : Program) (e : Env) (s : State) (m : MethodId) (args : Array Value) (below : List Frame) (meth : Method) (c : Code) (M0 : Mem) (P : Int32 → Prop) (M : Mem) (pc : Nat) (lv : List (Nat × Value)) (st : List Value) : Prop := Wb p l e rm_Desk_fault s m args below meth c 1 D vwCl M0 (kI fun r M' => M0 = M' ∧ P r) 0 0 M pc lv st
def wp_Desk_fault (g : Nat → ClassId) (M : Mem) (x0 : Nat) (P : Int32 → Prop) : Prop :=
  ∃ v1 : Int32, gI M 0 x0 5 = some v1 ∧ (P v1)
set_option maxHeartbeats 4000000 in
set_option maxRecDepth 100000 in
theorem c_Desk_fault {l : Launch} {D : va_G} {g : Nat → ClassId} {M : Mem} {x0 : Nat} {P : Int32 → Prop} (h : wp_Desk_fault g M x0 P) : mMet l BIG D vwCl (tysG g) y_Desk_fault b_Desk_fault 1 (some .int) rm_Desk_fault [.ref x0] M (kI fun r M' => M = M' ∧ P r) := by
  refine mMet.of (own := R_Desk) rfl (by decide) rfl (fun p e s m below meth c C hr hlk hnm ls hM hS hl => ?_)
  have C : C_Desk_fault D g p s m ([.ref x0] : List Value).toArray meth c M := ⟨C, hr, hlk⟩
  unfold wp_Desk_fault at h
  have hl : lv_has ls 1 [(0, .ref x0)] := hl
  refine lv_aload_n C.1.1 C.1.2.1 d_Desk_fault_0 rfl (lv_at hl 0 rfl) ?_
  obtain ⟨v1, ev1, h⟩ := h
  refine mg_I C.1 hM ok_Desk (by decide) kw0 ev1 d_Desk_fault_1 ?_
  exact mr_I C.1 C.2.1 C.2.2 hM hS ⟨_, rfl, rfl, h⟩ d_Desk_fault_4
theorem d_Desk_byteOf_0 : decode b_Desk_byteOf 0 = .ok (.lload_n 0, 1) := by decide +kernel
theorem d_Desk_byteOf_1 : decode b_Desk_byteOf 1 = .ok (.bipush 8, 2) := by decide +kernel
theorem d_Desk_byteOf_3 : decode b_Desk_byteOf 3 = .ok (.iload_n 2, 1) := by decide +kernel
theorem d_Desk_byteOf_4 : decode b_Desk_byteOf 4 = .ok (.imul, 1) := by decide +kernel
theorem d_Desk_byteOf_5 : decode b_Desk_byteOf 5 = .ok (.lushr, 1) := by decide +kernel
theorem d_Desk_byteOf_6 : decode b_Desk_byteOf 6 = .ok (.l2i, 1) := by decide +kernel
theorem d_Desk_byteOf_7 : decode b_Desk_byteOf 7 = .ok (.sipush 255, 3) := by decide +kernel
theorem d_Desk_byteOf_10 : decode b_Desk_byteOf 10 = .ok (.iand, 1) := by decide +kernel
theorem d_Desk_byteOf_11 : decode b_Desk_byteOf 11 = .ok (.ireturn, 1) := by decide +kernel
abbrev rm_Desk_byteOf : Room := { frames := 0, cells := 0, slots := 0, locals := 0 }
abbrev C_Desk_byteOf (D : va_G) (g : Nat → ClassId) (p : Program) (s : State) (m : MethodId) (args : Array Value) (meth : Method) (c : Code) (M0 : Mem) : Prop := Cx p s m args c b_Desk_byteOf 3 R_Desk BIG D vwCl (tysG g) (mA M0 s.heap.size) ∧ meth.sig.returnType = (some .int) ∧ meth.locks = false
abbrev B_Desk_byteOf (l : Launch) (D : va_G) (p : Program) (e : Env) (s : State) (m : MethodId) (args : Array Value) (below : List Frame) (meth : Method) (c : Code) (M0 : Mem) (P : Int32 → Prop) (M : Mem) (pc : Nat) (lv : List (Nat × Value)) (st : List Value) : Prop := Wb p l e rm_Desk_byteOf s m args below meth c 3 D vwCl M0 (kI fun r M' => M0 = M' ∧ P r) 0 0 M pc lv st
def wp_Desk_byteOf (g : Nat → ClassId) (M : Mem) (x0 : Int64) (x2 : Int32) (P : Int32 → Prop) : Prop :=
  P ((((x0.toUInt64 >>> (((8 : Int32) * x2).toInt64.toUInt64 &&& Int64.toUInt64 63)).toInt64).toInt32) &&& (255 : Int32))
set_option maxHeartbeats 4000000 in
set_option maxRecDepth 100000 in
theorem c_Desk_byteOf {l : Launch} {D : va_G} {g : Nat → ClassId} {M : Mem} {x0 : Int64} {x2 : Int32} {P : Int32 → Prop} (h : wp_Desk_byteOf g M x0 x2 P) : mMet l BIG D vwCl (tysG g) y_Desk_byteOf b_Desk_byteOf 3 (some .int) rm_Desk_byteOf [.long x0, .int x2] M (kI fun r M' => M = M' ∧ P r) := by
  refine mMet.of (own := R_Desk) rfl (by decide) rfl (fun p e s m below meth c C hr hlk hnm ls hM hS hl => ?_)
  have C : C_Desk_byteOf D g p s m ([.long x0, .int x2] : List Value).toArray meth c M := ⟨C, hr, hlk⟩
  unfold wp_Desk_byteOf at h
  have hl : lv_has ls 3 [(0, .long x0), (2, .int x2)] := hl
  refine lv_lload_n C.1.1 C.1.2.1 d_Desk_byteOf_0 rfl (lv_at hl 0 rfl) ?_
  refine lv_bipush (v := (8 : Int32)) C.1.1 C.1.2.1 d_Desk_byteOf_1 (by decide) ?_
  refine lv_iload_n C.1.1 C.1.2.1 d_Desk_byteOf_3 rfl (lv_at hl 1 rfl) ?_
  refine lv_imul C.1.1 C.1.2.1 d_Desk_byteOf_4 ?_
  refine lv_lushr (v := (x0.toUInt64 >>> (((8 : Int32) * x2).toInt64.toUInt64 &&& Int64.toUInt64 63)).toInt64) C.1.1 C.1.2.1 d_Desk_byteOf_5 rfl ?_
  refine lv_l2i (v := ((x0.toUInt64 >>> (((8 : Int32) * x2).toInt64.toUInt64 &&& Int64.toUInt64 63)).toInt64).toInt32) C.1.1 C.1.2.1 d_Desk_byteOf_6 rfl ?_
  refine lv_sipush (v := (255 : Int32)) C.1.1 C.1.2.1 d_Desk_byteOf_7 (by decide) ?_
  refine lv_iand C.1.1 C.1.2.1 d_Desk_byteOf_10 ?_
  exact mr_I C.1 C.2.1 C.2.2 hM hS ⟨_, rfl, rfl, h⟩ d_Desk_byteOf_11
theorem d_Desk_isQueue_0 : decode b_Desk_isQueue 0 = .ok (.iload_n 0, 1) := by decide +kernel
theorem d_Desk_isQueue_1 : decode b_Desk_isQueue 1 = .ok (.ifCond .lt 13, 3) := by decide +kernel
theorem d_Desk_isQueue_4 : decode b_Desk_isQueue 4 = .ok (.iload_n 0, 1) := by decide +kernel
theorem d_Desk_isQueue_5 : decode b_Desk_isQueue 5 = .ok (.bipush 16, 2) := by decide +kernel
theorem d_Desk_isQueue_7 : decode b_Desk_isQueue 7 = .ok (.if_icmp .ge 7, 3) := by decide +kernel
theorem d_Desk_isQueue_10 : decode b_Desk_isQueue 10 = .ok (.iconst 1, 1) := by decide +kernel
theorem d_Desk_isQueue_11 : decode b_Desk_isQueue 11 = .ok (.goto 4, 3) := by decide +kernel
theorem d_Desk_isQueue_14 : decode b_Desk_isQueue 14 = .ok (.iconst 0, 1) := by decide +kernel
theorem d_Desk_isQueue_15 : decode b_Desk_isQueue 15 = .ok (.ireturn, 1) := by decide +kernel
abbrev rm_Desk_isQueue : Room := { frames := 0, cells := 0, slots := 0, locals := 0 }
abbrev C_Desk_isQueue (D : va_G) (g : Nat → ClassId) (p : Program) (s : State) (m : MethodId) (args : Array Value) (meth : Method) (c : Code) (M0 : Mem) : Prop := Cx p s m args c b_Desk_isQueue 1 R_Desk BIG D vwCl (tysG g) (mA M0 s.heap.size) ∧ meth.sig.returnType = (some .boolean) ∧ meth.locks = false
abbrev B_Desk_isQueue (l : Launch) (D : va_G) (p : Program) (e : Env) (s : State) (m : MethodId) (args : Array Value) (below : List Frame) (meth : Method) (c : Code) (M0 : Mem) (P : Int32 → Prop) (M : Mem) (pc : Nat) (lv : List (Nat × Value)) (st : List Value) : Prop := Wb p l e rm_Desk_isQueue s m args below meth c 1 D vwCl M0 (kI fun r M' => M0 = M' ∧ P r) 0 0 M pc lv st
def wp_Desk_isQueue_b15 (g : Nat → ClassId) (P : Int32 → Prop) (M : Mem) (t0 : Int32) : Prop :=
  isB t0 ∧ P t0
set_option maxHeartbeats 4000000 in
set_option maxRecDepth 100000 in
theorem t_Desk_isQueue_b15 {l : Launch} {D : va_G} {g : Nat → ClassId} {p : Program} {e : Env} {s : State} {m : MethodId} {args : Array Value} {below : List Frame} {meth : Method} {c : Code} {P : Int32 → Prop} {M : Mem} {t0 : Int32} (C : C_Desk_isQueue D g p s m args meth c M) (h : wp_Desk_isQueue_b15 g P M t0) : B_Desk_isQueue l D p e s m args below meth c M P M 15 [] [.int t0] := by
  intro ls H locs hM hS hl
  unfold wp_Desk_isQueue_b15 at h
  exact mr_Z C.1 C.2.1 C.2.2 h.1 hM hS ⟨_, rfl, rfl, h.2⟩ d_Desk_isQueue_15
def wp_Desk_isQueue_b14 (g : Nat → ClassId) (P : Int32 → Prop) (M : Mem) : Prop :=
  wp_Desk_isQueue_b15 g P M (0 : Int32)
set_option maxHeartbeats 4000000 in
set_option maxRecDepth 100000 in
theorem t_Desk_isQueue_b14 {l : Launch} {D : va_G} {g : Nat → ClassId} {p : Program} {e : Env} {s : State} {m : MethodId} {args : Array Value} {below : List Frame} {meth : Method} {c : Code} {P : Int32 → Prop} {M : Mem} (C : C_Desk_isQueue D g p s m args meth c M) (h : wp_Desk_isQueue_b14 g P M ) : B_Desk_isQueue l D p e s m args below meth c M P M 14 [] [] := by
  intro ls H locs hM hS hl
  unfold wp_Desk_isQueue_b14 at h
  refine lv_iconst (v := (0 : Int32)) C.1.1 C.1.2.1 d_Desk_isQueue_14 (by decide) ?_
  exact t_Desk_isQueue_b15 C h _ _ _ hM hS (lv_sub hl [] rfl)
def wp_Desk_isQueue (g : Nat → ClassId) (M : Mem) (x0 : Int32) (P : Int32 → Prop) : Prop :=
  (x0 < 0 → (wp_Desk_isQueue_b14 g P M)) ∧ (¬ x0 < 0 → (((16 : Int32) ≤ x0 → (wp_Desk_isQueue_b14 g P M)) ∧ (¬ (16 : Int32) ≤ x0 → (wp_Desk_isQueue_b15 g P M (1 : Int32)))))
set_option maxHeartbeats 4000000 in
set_option maxRecDepth 100000 in
theorem c_Desk_isQueue {l : Launch} {D : va_G} {g : Nat → ClassId} {M : Mem} {x0 : Int32} {P : Int32 → Prop} (h : wp_Desk_isQueue g M x0 P) : mMet l BIG D vwCl (tysG g) y_Desk_isQueue b_Desk_isQueue 1 (some .boolean) rm_Desk_isQueue [.int x0] M (kI fun r M' => M = M' ∧ P r) := by
  refine mMet.of (own := R_Desk) rfl (by decide) rfl (fun p e s m below meth c C hr hlk hnm ls hM hS hl => ?_)
  have C : C_Desk_isQueue D g p s m ([.int x0] : List Value).toArray meth c M := ⟨C, hr, hlk⟩
  unfold wp_Desk_isQueue at h
  have hl : lv_has ls 1 [(0, .int x0)] := hl
  refine lv_iload_n C.1.1 C.1.2.1 d_Desk_isQueue_0 rfl (lv_at hl 0 rfl) ?_
  refine lv_if_lt (tgt := 14) C.1.1 C.1.2.1 d_Desk_isQueue_1 (by decide) (fun c1 => ?_) (fun c1 => ?_)
  · have h := h.1 c1
    exact t_Desk_isQueue_b14 C h _ _ _ hM hS (lv_sub hl [] rfl)
  · have h := h.2 c1
    refine lv_iload_n C.1.1 C.1.2.1 d_Desk_isQueue_4 rfl (lv_at hl 0 rfl) ?_
    refine lv_bipush (v := (16 : Int32)) C.1.1 C.1.2.1 d_Desk_isQueue_5 (by decide) ?_
    refine lv_icmp_ge (tgt := 14) C.1.1 C.1.2.1 d_Desk_isQueue_7 (by decide) (fun c2 => ?_) (fun c2 => ?_)
    · have h := h.1 c2
      exact t_Desk_isQueue_b14 C h _ _ _ hM hS (lv_sub hl [] rfl)
    · have h := h.2 c2
      refine lv_iconst (v := (1 : Int32)) C.1.1 C.1.2.1 d_Desk_isQueue_10 (by decide) ?_
      refine lv_goto (tgt := 15) C.1.1 C.1.2.1 d_Desk_isQueue_11 (by decide) ?_
      exact t_Desk_isQueue_b15 C h _ _ _ hM hS (lv_sub hl [] rfl)
theorem d_Desk_type_0 : decode b_Desk_type 0 = .ok (.iload_n 3, 1) := by decide +kernel
theorem d_Desk_type_1 : decode b_Desk_type 1 = .ok (.iconst 1, 1) := by decide +kernel
theorem d_Desk_type_2 : decode b_Desk_type 2 = .ok (.if_icmp .lt 23, 3) := by decide +kernel
theorem d_Desk_type_5 : decode b_Desk_type 5 = .ok (.iload_n 3, 1) := by decide +kernel
theorem d_Desk_type_6 : decode b_Desk_type 6 = .ok (.bipush 8, 2) := by decide +kernel
theorem d_Desk_type_8 : decode b_Desk_type 8 = .ok (.if_icmp .gt 17, 3) := by decide +kernel
theorem d_Desk_type_11 : decode b_Desk_type 11 = .ok (.aload_n 0, 1) := by decide +kernel
theorem d_Desk_type_12 : decode b_Desk_type 12 = .ok (.getfield 10, 3) := by decide +kernel
theorem d_Desk_type_15 : decode b_Desk_type 15 = .ok (.invokevirtual 44, 3) := by decide +kernel
theorem d_Desk_type_18 : decode b_Desk_type 18 = .ok (.iload_n 3, 1) := by decide +kernel
theorem d_Desk_type_19 : decode b_Desk_type 19 = .ok (.iadd, 1) := by decide +kernel
theorem d_Desk_type_20 : decode b_Desk_type 20 = .ok (.bipush 60, 2) := by decide +kernel
theorem d_Desk_type_22 : decode b_Desk_type 22 = .ok (.if_icmp .le 5, 3) := by decide +kernel
theorem d_Desk_type_25 : decode b_Desk_type 25 = .ok (.iconst 0, 1) := by decide +kernel
theorem d_Desk_type_26 : decode b_Desk_type 26 = .ok (.ireturn, 1) := by decide +kernel
theorem d_Desk_type_27 : decode b_Desk_type 27 = .ok (.iconst 0, 1) := by decide +kernel
theorem d_Desk_type_28 : decode b_Desk_type 28 = .ok (.istore 4, 2) := by decide +kernel
theorem d_Desk_type_30 : decode b_Desk_type 30 = .ok (.iload 4, 2) := by decide +kernel
theorem d_Desk_type_32 : decode b_Desk_type 32 = .ok (.iload_n 3, 1) := by decide +kernel
theorem d_Desk_type_33 : decode b_Desk_type 33 = .ok (.if_icmp .ge 33, 3) := by decide +kernel
theorem d_Desk_type_36 : decode b_Desk_type 36 = .ok (.lload_n 1, 1) := by decide +kernel
theorem d_Desk_type_37 : decode b_Desk_type 37 = .ok (.iload 4, 2) := by decide +kernel
theorem d_Desk_type_39 : decode b_Desk_type 39 = .ok (.invokestatic 48, 3) := by decide +kernel
theorem d_Desk_type_42 : decode b_Desk_type 42 = .ok (.istore 5, 2) := by decide +kernel
theorem d_Desk_type_44 : decode b_Desk_type 44 = .ok (.iload 5, 2) := by decide +kernel
theorem d_Desk_type_46 : decode b_Desk_type 46 = .ok (.bipush 33, 2) := by decide +kernel
theorem d_Desk_type_48 : decode b_Desk_type 48 = .ok (.if_icmp .lt 10, 3) := by decide +kernel
theorem d_Desk_type_51 : decode b_Desk_type 51 = .ok (.iload 5, 2) := by decide +kernel
theorem d_Desk_type_53 : decode b_Desk_type 53 = .ok (.bipush 126, 2) := by decide +kernel
theorem d_Desk_type_55 : decode b_Desk_type 55 = .ok (.if_icmp .le 5, 3) := by decide +kernel
theorem d_Desk_type_58 : decode b_Desk_type 58 = .ok (.iconst 0, 1) := by decide +kernel
theorem d_Desk_type_59 : decode b_Desk_type 59 = .ok (.ireturn, 1) := by decide +kernel
theorem d_Desk_type_60 : decode b_Desk_type 60 = .ok (.iinc 4 1, 3) := by decide +kernel
theorem d_Desk_type_63 : decode b_Desk_type 63 = .ok (.goto (-33), 3) := by decide +kernel
theorem d_Desk_type_66 : decode b_Desk_type 66 = .ok (.iload_n 3, 1) := by decide +kernel
theorem d_Desk_type_67 : decode b_Desk_type 67 = .ok (.iconst 1, 1) := by decide +kernel
theorem d_Desk_type_68 : decode b_Desk_type 68 = .ok (.isub, 1) := by decide +kernel
theorem d_Desk_type_69 : decode b_Desk_type 69 = .ok (.istore 4, 2) := by decide +kernel
theorem d_Desk_type_71 : decode b_Desk_type 71 = .ok (.iload 4, 2) := by decide +kernel
theorem d_Desk_type_73 : decode b_Desk_type 73 = .ok (.ifCond .lt 22, 3) := by decide +kernel
theorem d_Desk_type_76 : decode b_Desk_type 76 = .ok (.aload_n 0, 1) := by decide +kernel
theorem d_Desk_type_77 : decode b_Desk_type 77 = .ok (.getfield 10, 3) := by decide +kernel
theorem d_Desk_type_80 : decode b_Desk_type 80 = .ok (.lload_n 1, 1) := by decide +kernel
theorem d_Desk_type_81 : decode b_Desk_type 81 = .ok (.iload 4, 2) := by decide +kernel
theorem d_Desk_type_83 : decode b_Desk_type 83 = .ok (.invokestatic 48, 3) := by decide +kernel
theorem d_Desk_type_86 : decode b_Desk_type 86 = .ok (.invokevirtual 52, 3) := by decide +kernel
theorem d_Desk_type_89 : decode b_Desk_type 89 = .ok (.iinc 4 (-1), 3) := by decide +kernel
theorem d_Desk_type_92 : decode b_Desk_type 92 = .ok (.goto (-21), 3) := by decide +kernel
theorem d_Desk_type_95 : decode b_Desk_type 95 = .ok (.iconst 1, 1) := by decide +kernel
theorem d_Desk_type_96 : decode b_Desk_type 96 = .ok (.ireturn, 1) := by decide +kernel
abbrev rm_Desk_type : Room := { frames := 1, cells := 0, slots := 0, locals := 22 }
abbrev C_Desk_type (D : va_G) (g : Nat → ClassId) (p : Program) (s : State) (m : MethodId) (args : Array Value) (meth : Method) (c : Code) (M0 : Mem) : Prop := Cx p s m args c b_Desk_type 6 R_Desk BIG D vwCl (tysG g) (mA M0 s.heap.size) ∧ meth.sig.returnType = (some .boolean) ∧ meth.locks = false
abbrev B_Desk_type (l : Launch) (D : va_G) (p : Program) (e : Env) (s : State) (m : MethodId) (args : Array Value) (below : List Frame) (meth : Method) (c : Code) (M0 : Mem) (P : Int32 → Mem → Prop) (M : Mem) (pc : Nat) (lv : List (Nat × Value)) (st : List Value) : Prop := Wb p l e rm_Desk_type s m args below meth c 6 D vwCl M0 (kI fun r M' => P r M') 0 0 M pc lv st
def wp_Desk_type_b71 (g : Nat → ClassId) (P : Int32 → Mem → Prop) (M : Mem) (x0 : Nat) (x1 : Int64) (x4 : Int32) : Prop :=
  ∃ (I : Int32 → Mem → Prop) (μ : Int32 → Mem → Nat), I x4 M ∧ ∀ (x4 : Int32) (M : Mem), I x4 M →
  (x4 < 0 → (isB (1 : Int32) ∧ P (1 : Int32) M)) ∧ (¬ x4 < 0 → (∃ v2 : Nat, gR M 0 x0 0 = some v2 ∧ (wp_Desk_byteOf g M x1 x4 (fun v3 : Int32 => isO M 1 v2 ∧ (wp_Text_add g M v2 v3 (fun (M6 : Mem) => (I (x4 + (-1 : Int32)) M6 ∧ μ (x4 + (-1 : Int32)) M6 < μ x4 M)))))))
set_option maxHeartbeats 4000000 in
set_option maxRecDepth 100000 in
theorem t_Desk_type_b71 {l : Launch} {D : va_G} {g : Nat → ClassId} {p : Program} {e : Env} {s : State} {m : MethodId} {args : Array Value} {below : List Frame} {meth : Method} {c : Code} {M0 : Mem} {P : Int32 → Mem → Prop} {M : Mem} {x0 : Nat} {x1 : Int64} {x4 : Int32} (C : C_Desk_type D g p s m args meth c M0) (h : wp_Desk_type_b71 g P M x0 x1 x4 ) : B_Desk_type l D p e s m args below meth c M0 P M 71 [(0, .ref x0), (1, .long x1), (4, .int x4)] [] := by
  unfold wp_Desk_type_b71 at h
  obtain ⟨I, μ, hI, hb⟩ := h
  have key : ∀ (n : Nat) (x4 : Int32) (M : Mem), I x4 M → μ x4 M < n → B_Desk_type l D p e s m args below meth c M0 P M 71 [(0, .ref x0), (1, .long x1), (4, .int x4)] [] := by
    intro n
    induction n with
    | zero => intro x4 M _ hn; exact absurd hn (Nat.not_lt_zero _)
    | succ n ih =>
      intro x4 M hI hn ls H locs hM hS hl
      have h := hb x4 M hI
      refine lv_iload C.1.1 C.1.2.1 d_Desk_type_71 (lv_at hl 2 rfl) ?_
      refine lv_if_lt (tgt := 95) C.1.1 C.1.2.1 d_Desk_type_73 (by decide) (fun c1 => ?_) (fun c1 => ?_)
      · have h := h.1 c1
        refine lv_iconst (v := (1 : Int32)) C.1.1 C.1.2.1 d_Desk_type_95 (by decide) ?_
        exact mr_Z C.1 C.2.1 C.2.2 h.1 hM hS ⟨_, rfl, h.2⟩ d_Desk_type_96
      · have h := h.2 c1
        refine lv_aload_n C.1.1 C.1.2.1 d_Desk_type_76 rfl (lv_at hl 0 rfl) ?_
        obtain ⟨v2, ev2, h⟩ := h
        refine mg_R C.1 hM ok_Desk (by decide) kw120 ev2 d_Desk_type_77 ?_
        refine lv_lload_n C.1.1 C.1.2.1 d_Desk_type_80 rfl (lv_at hl 1 rfl) ?_
        refine lv_iload C.1.1 C.1.2.1 d_Desk_type_81 (lv_at hl 2 rfl) ?_
        refine mc_S (As := [.long x1, .int x4]) C.1 hM hS bigGood (c_Desk_byteOf h) kw121 kw124 kw123 kw122 hd_Desk_byteOf ⟨by decide, by decide⟩ hl.1 rfl (Nat.le_of_ble_eq_true rfl) d_Desk_type_83 (mc := 0) (ms := 0) rfl rfl ⟨by decide, by decide⟩ (fun v M' H locs hp hM hS => ?_)
        obtain ⟨v3, rfl, rfl, h⟩ := hp
        obtain ⟨ho, h⟩ := h
        refine mc_V (As := [.int v3]) (ci := 1) C.1 hM hS bigGood (c_Text_add h) rfl ho kw125 kw127 kw128 kw107 kw126 hd_Text_add ⟨by decide, by decide⟩ hl.1 rfl (Nat.le_of_ble_eq_true rfl) d_Desk_type_86 (mc := 0) (ms := 0) rfl rfl ⟨by decide, by decide⟩ (fun v M6 H locs hp hM hS => ?_)
        obtain ⟨rfl, h⟩ := hp
        refine lv_iinc (v := x4 + (-1 : Int32)) (lv' := [(4, .int (x4 + (-1 : Int32))), (0, .ref x0), (1, .long x1)]) C.1.1 C.1.2.1 d_Desk_type_89 hl (k := 2) rfl rfl (by decide) rfl (fun ls hl => ?_)
        refine lv_goto (tgt := 71) C.1.1 C.1.2.1 d_Desk_type_92 (by decide) ?_
        exact ih (x4 + (-1 : Int32)) M6 h.1 (Nat.lt_of_lt_of_le h.2 (Nat.le_of_lt_succ hn)) _ _ _ hM hS (lv_sub hl [1, 2, 0] rfl)
  exact key _ x4 M hI (Nat.lt_succ_self _)
def wp_Desk_type_b58 (g : Nat → ClassId) (P : Int32 → Mem → Prop) (M : Mem) : Prop :=
  isB (0 : Int32) ∧ P (0 : Int32) M
set_option maxHeartbeats 4000000 in
set_option maxRecDepth 100000 in
theorem t_Desk_type_b58 {l : Launch} {D : va_G} {g : Nat → ClassId} {p : Program} {e : Env} {s : State} {m : MethodId} {args : Array Value} {below : List Frame} {meth : Method} {c : Code} {M0 : Mem} {P : Int32 → Mem → Prop} {M : Mem} (C : C_Desk_type D g p s m args meth c M0) (h : wp_Desk_type_b58 g P M ) : B_Desk_type l D p e s m args below meth c M0 P M 58 [] [] := by
  intro ls H locs hM hS hl
  unfold wp_Desk_type_b58 at h
  refine lv_iconst (v := (0 : Int32)) C.1.1 C.1.2.1 d_Desk_type_58 (by decide) ?_
  exact mr_Z C.1 C.2.1 C.2.2 h.1 hM hS ⟨_, rfl, h.2⟩ d_Desk_type_59
def wp_Desk_type_b30 (g : Nat → ClassId) (P : Int32 → Mem → Prop) (M : Mem) (x0 : Nat) (x1 : Int64) (x3 : Int32) (x4 : Int32) : Prop :=
  ∃ (I : Int32 → Prop) (μ : Int32 → Nat), I x4 ∧ ∀ (x4 : Int32), I x4 →
  (x3 ≤ x4 → (wp_Desk_type_b71 g P M x0 x1 (x3 - (1 : Int32)))) ∧ (¬ x3 ≤ x4 → (wp_Desk_byteOf g M x1 x4 (fun v2 : Int32 => (v2 < (33 : Int32) → (wp_Desk_type_b58 g P M)) ∧ (¬ v2 < (33 : Int32) → ((v2 ≤ (126 : Int32) → ((I (x4 + (1 : Int32)) ∧ μ (x4 + (1 : Int32)) < μ x4))) ∧ (¬ v2 ≤ (126 : Int32) → (wp_Desk_type_b58 g P M)))))))
set_option maxHeartbeats 4000000 in
set_option maxRecDepth 100000 in
theorem t_Desk_type_b30 {l : Launch} {D : va_G} {g : Nat → ClassId} {p : Program} {e : Env} {s : State} {m : MethodId} {args : Array Value} {below : List Frame} {meth : Method} {c : Code} {M0 : Mem} {P : Int32 → Mem → Prop} {M : Mem} {x0 : Nat} {x1 : Int64} {x3 : Int32} {x4 : Int32} (C : C_Desk_type D g p s m args meth c M0) (h : wp_Desk_type_b30 g P M x0 x1 x3 x4 ) : B_Desk_type l D p e s m args below meth c M0 P M 30 [(0, .ref x0), (1, .long x1), (3, .int x3), (4, .int x4)] [] := by
  unfold wp_Desk_type_b30 at h
  obtain ⟨I, μ, hI, hb⟩ := h
  have key : ∀ (n : Nat) (x4 : Int32), I x4 → μ x4 < n → B_Desk_type l D p e s m args below meth c M0 P M 30 [(0, .ref x0), (1, .long x1), (3, .int x3), (4, .int x4)] [] := by
    intro n
    induction n with
    | zero => intro x4 _ hn; exact absurd hn (Nat.not_lt_zero _)
    | succ n ih =>
      intro x4 hI hn ls H locs hM hS hl
      have h := hb x4 hI
      refine lv_iload C.1.1 C.1.2.1 d_Desk_type_30 (lv_at hl 3 rfl) ?_
      refine lv_iload_n C.1.1 C.1.2.1 d_Desk_type_32 rfl (lv_at hl 2 rfl) ?_
      refine lv_icmp_ge (tgt := 66) C.1.1 C.1.2.1 d_Desk_type_33 (by decide) (fun c1 => ?_) (fun c1 => ?_)
      · have h := h.1 c1
        refine lv_iload_n C.1.1 C.1.2.1 d_Desk_type_66 rfl (lv_at hl 2 rfl) ?_
        refine lv_iconst (v := (1 : Int32)) C.1.1 C.1.2.1 d_Desk_type_67 (by decide) ?_
        refine lv_isub C.1.1 C.1.2.1 d_Desk_type_68 ?_
        refine lv_istore (lv' := [(4, .int (x3 - (1 : Int32))), (0, .ref x0), (1, .long x1), (3, .int x3)]) C.1.1 C.1.2.1 d_Desk_type_69 hl (by decide) rfl (fun ls hl => ?_)
        exact t_Desk_type_b71 C h _ _ _ hM hS (lv_sub hl [1, 2, 0] rfl)
      · have h := h.2 c1
        refine lv_lload_n C.1.1 C.1.2.1 d_Desk_type_36 rfl (lv_at hl 1 rfl) ?_
        refine lv_iload C.1.1 C.1.2.1 d_Desk_type_37 (lv_at hl 3 rfl) ?_
        refine mc_S (As := [.long x1, .int x4]) C.1 hM hS bigGood (c_Desk_byteOf h) kw121 kw124 kw123 kw122 hd_Desk_byteOf ⟨by decide, by decide⟩ hl.1 rfl (Nat.le_of_ble_eq_true rfl) d_Desk_type_39 (mc := 0) (ms := 0) rfl rfl ⟨by decide, by decide⟩ (fun v M' H locs hp hM hS => ?_)
        obtain ⟨v2, rfl, rfl, h⟩ := hp
        refine lv_istore (lv' := [(5, .int v2), (0, .ref x0), (1, .long x1), (3, .int x3), (4, .int x4)]) C.1.1 C.1.2.1 d_Desk_type_42 hl (by decide) rfl (fun ls hl => ?_)
        refine lv_iload C.1.1 C.1.2.1 d_Desk_type_44 (lv_at hl 0 rfl) ?_
        refine lv_bipush (v := (33 : Int32)) C.1.1 C.1.2.1 d_Desk_type_46 (by decide) ?_
        refine lv_icmp_lt (tgt := 58) C.1.1 C.1.2.1 d_Desk_type_48 (by decide) (fun c4 => ?_) (fun c4 => ?_)
        · have h := h.1 c4
          exact t_Desk_type_b58 C h _ _ _ hM hS (lv_sub hl [] rfl)
        · have h := h.2 c4
          refine lv_iload C.1.1 C.1.2.1 d_Desk_type_51 (lv_at hl 0 rfl) ?_
          refine lv_bipush (v := (126 : Int32)) C.1.1 C.1.2.1 d_Desk_type_53 (by decide) ?_
          refine lv_icmp_le (tgt := 60) C.1.1 C.1.2.1 d_Desk_type_55 (by decide) (fun c5 => ?_) (fun c5 => ?_)
          · have h := h.1 c5
            refine lv_iinc (v := x4 + (1 : Int32)) (lv' := [(4, .int (x4 + (1 : Int32))), (5, .int v2), (0, .ref x0), (1, .long x1), (3, .int x3)]) C.1.1 C.1.2.1 d_Desk_type_60 hl (k := 4) rfl rfl (by decide) rfl (fun ls hl => ?_)
            refine lv_goto (tgt := 30) C.1.1 C.1.2.1 d_Desk_type_63 (by decide) ?_
            exact ih (x4 + (1 : Int32)) h.1 (Nat.lt_of_lt_of_le h.2 (Nat.le_of_lt_succ hn)) _ _ _ hM hS (lv_sub hl [2, 3, 4, 0] rfl)
          · have h := h.2 c5
            exact t_Desk_type_b58 C h _ _ _ hM hS (lv_sub hl [] rfl)
  exact key _ x4 hI (Nat.lt_succ_self _)
def wp_Desk_type_b25 (g : Nat → ClassId) (P : Int32 → Mem → Prop) (M : Mem) : Prop :=
  isB (0 : Int32) ∧ P (0 : Int32) M
set_option maxHeartbeats 4000000 in
set_option maxRecDepth 100000 in
theorem t_Desk_type_b25 {l : Launch} {D : va_G} {g : Nat → ClassId} {p : Program} {e : Env} {s : State} {m : MethodId} {args : Array Value} {below : List Frame} {meth : Method} {c : Code} {M0 : Mem} {P : Int32 → Mem → Prop} {M : Mem} (C : C_Desk_type D g p s m args meth c M0) (h : wp_Desk_type_b25 g P M ) : B_Desk_type l D p e s m args below meth c M0 P M 25 [] [] := by
  intro ls H locs hM hS hl
  unfold wp_Desk_type_b25 at h
  refine lv_iconst (v := (0 : Int32)) C.1.1 C.1.2.1 d_Desk_type_25 (by decide) ?_
  exact mr_Z C.1 C.2.1 C.2.2 h.1 hM hS ⟨_, rfl, h.2⟩ d_Desk_type_26
def wp_Desk_type (g : Nat → ClassId) (M : Mem) (x0 : Nat) (x1 : Int64) (x3 : Int32) (P : Int32 → Mem → Prop) : Prop :=
  (x3 < (1 : Int32) → (wp_Desk_type_b25 g P M)) ∧ (¬ x3 < (1 : Int32) → (((8 : Int32) < x3 → (wp_Desk_type_b25 g P M)) ∧ (¬ (8 : Int32) < x3 → (∃ v3 : Nat, gR M 0 x0 0 = some v3 ∧ (isO M 1 v3 ∧ (wp_Text_length g M v3 (fun v4 : Int32 => ((v4 + x3) ≤ (60 : Int32) → (wp_Desk_type_b30 g P M x0 x1 x3 (0 : Int32))) ∧ (¬ (v4 + x3) ≤ (60 : Int32) → (wp_Desk_type_b25 g P M)))))))))
set_option maxHeartbeats 4000000 in
set_option maxRecDepth 100000 in
theorem c_Desk_type {l : Launch} {D : va_G} {g : Nat → ClassId} {M : Mem} {x0 : Nat} {x1 : Int64} {x3 : Int32} {P : Int32 → Mem → Prop} (h : wp_Desk_type g M x0 x1 x3 P) : mMet l BIG D vwCl (tysG g) y_Desk_type b_Desk_type 6 (some .boolean) rm_Desk_type [.ref x0, .long x1, .int x3] M (kI fun r M' => P r M') := by
  refine mMet.of (own := R_Desk) rfl (by decide) rfl (fun p e s m below meth c C hr hlk hnm ls hM hS hl => ?_)
  have C : C_Desk_type D g p s m ([.ref x0, .long x1, .int x3] : List Value).toArray meth c M := ⟨C, hr, hlk⟩
  unfold wp_Desk_type at h
  have hl : lv_has ls 6 [(0, .ref x0), (1, .long x1), (3, .int x3)] := hl
  refine lv_iload_n C.1.1 C.1.2.1 d_Desk_type_0 rfl (lv_at hl 2 rfl) ?_
  refine lv_iconst (v := (1 : Int32)) C.1.1 C.1.2.1 d_Desk_type_1 (by decide) ?_
  refine lv_icmp_lt (tgt := 25) C.1.1 C.1.2.1 d_Desk_type_2 (by decide) (fun c1 => ?_) (fun c1 => ?_)
  · have h := h.1 c1
    exact t_Desk_type_b25 C h _ _ _ hM hS (lv_sub hl [] rfl)
  · have h := h.2 c1
    refine lv_iload_n C.1.1 C.1.2.1 d_Desk_type_5 rfl (lv_at hl 2 rfl) ?_
    refine lv_bipush (v := (8 : Int32)) C.1.1 C.1.2.1 d_Desk_type_6 (by decide) ?_
    refine lv_icmp_gt (tgt := 25) C.1.1 C.1.2.1 d_Desk_type_8 (by decide) (fun c2 => ?_) (fun c2 => ?_)
    · have h := h.1 c2
      exact t_Desk_type_b25 C h _ _ _ hM hS (lv_sub hl [] rfl)
    · have h := h.2 c2
      refine lv_aload_n C.1.1 C.1.2.1 d_Desk_type_11 rfl (lv_at hl 0 rfl) ?_
      obtain ⟨v3, ev3, h⟩ := h
      refine mg_R C.1 hM ok_Desk (by decide) kw120 ev3 d_Desk_type_12 ?_
      obtain ⟨ho, h⟩ := h
      refine mc_V (As := []) (ci := 1) C.1 hM hS bigGood (c_Text_length h) rfl ho kw129 kw131 kw132 kw107 kw130 hd_Text_length ⟨by decide, by decide⟩ hl.1 rfl (Nat.le_of_ble_eq_true rfl) d_Desk_type_15 (mc := 0) (ms := 0) rfl rfl ⟨by decide, by decide⟩ (fun v M' H locs hp hM hS => ?_)
      obtain ⟨v4, rfl, rfl, h⟩ := hp
      refine lv_iload_n C.1.1 C.1.2.1 d_Desk_type_18 rfl (lv_at hl 2 rfl) ?_
      refine lv_iadd C.1.1 C.1.2.1 d_Desk_type_19 ?_
      refine lv_bipush (v := (60 : Int32)) C.1.1 C.1.2.1 d_Desk_type_20 (by decide) ?_
      refine lv_icmp_le (tgt := 27) C.1.1 C.1.2.1 d_Desk_type_22 (by decide) (fun c6 => ?_) (fun c6 => ?_)
      · have h := h.1 c6
        refine lv_iconst (v := (0 : Int32)) C.1.1 C.1.2.1 d_Desk_type_27 (by decide) ?_
        refine lv_istore (lv' := [(4, .int (0 : Int32)), (0, .ref x0), (1, .long x1), (3, .int x3)]) C.1.1 C.1.2.1 d_Desk_type_28 hl (by decide) rfl (fun ls hl => ?_)
        exact t_Desk_type_b30 C h _ _ _ hM hS (lv_sub hl [1, 2, 3, 0] rfl)
      · have h := h.2 c6
        exact t_Desk_type_b25 C h _ _ _ hM hS (lv_sub hl [] rfl)
theorem d_Desk_leastFreeBinding_0 : decode b_Desk_leastFreeBinding 0 = .ok (.iconst 0, 1) := by decide +kernel
theorem d_Desk_leastFreeBinding_1 : decode b_Desk_leastFreeBinding 1 = .ok (.istore_n 1, 1) := by decide +kernel
theorem d_Desk_leastFreeBinding_2 : decode b_Desk_leastFreeBinding 2 = .ok (.iload_n 1, 1) := by decide +kernel
theorem d_Desk_leastFreeBinding_3 : decode b_Desk_leastFreeBinding 3 = .ok (.aload_n 0, 1) := by decide +kernel
theorem d_Desk_leastFreeBinding_4 : decode b_Desk_leastFreeBinding 4 = .ok (.getfield 21, 3) := by decide +kernel
theorem d_Desk_leastFreeBinding_7 : decode b_Desk_leastFreeBinding 7 = .ok (.arraylength, 1) := by decide +kernel
theorem d_Desk_leastFreeBinding_8 : decode b_Desk_leastFreeBinding 8 = .ok (.if_icmp .ge 23, 3) := by decide +kernel
theorem d_Desk_leastFreeBinding_11 : decode b_Desk_leastFreeBinding 11 = .ok (.aload_n 0, 1) := by decide +kernel
theorem d_Desk_leastFreeBinding_12 : decode b_Desk_leastFreeBinding 12 = .ok (.getfield 21, 3) := by decide +kernel
theorem d_Desk_leastFreeBinding_15 : decode b_Desk_leastFreeBinding 15 = .ok (.iload_n 1, 1) := by decide +kernel
theorem d_Desk_leastFreeBinding_16 : decode b_Desk_leastFreeBinding 16 = .ok (.aaload, 1) := by decide +kernel
theorem d_Desk_leastFreeBinding_17 : decode b_Desk_leastFreeBinding 17 = .ok (.invokevirtual 92, 3) := by decide +kernel
theorem d_Desk_leastFreeBinding_20 : decode b_Desk_leastFreeBinding 20 = .ok (.ifCond .ne 5, 3) := by decide +kernel
theorem d_Desk_leastFreeBinding_23 : decode b_Desk_leastFreeBinding 23 = .ok (.iload_n 1, 1) := by decide +kernel
theorem d_Desk_leastFreeBinding_24 : decode b_Desk_leastFreeBinding 24 = .ok (.ireturn, 1) := by decide +kernel
theorem d_Desk_leastFreeBinding_25 : decode b_Desk_leastFreeBinding 25 = .ok (.iinc 1 1, 3) := by decide +kernel
theorem d_Desk_leastFreeBinding_28 : decode b_Desk_leastFreeBinding 28 = .ok (.goto (-26), 3) := by decide +kernel
theorem d_Desk_leastFreeBinding_31 : decode b_Desk_leastFreeBinding 31 = .ok (.iconst (-1), 1) := by decide +kernel
theorem d_Desk_leastFreeBinding_32 : decode b_Desk_leastFreeBinding 32 = .ok (.ireturn, 1) := by decide +kernel
abbrev rm_Desk_leastFreeBinding : Room := { frames := 1, cells := 0, slots := 0, locals := 20 }
abbrev C_Desk_leastFreeBinding (D : va_G) (g : Nat → ClassId) (p : Program) (s : State) (m : MethodId) (args : Array Value) (meth : Method) (c : Code) (M0 : Mem) : Prop := Cx p s m args c b_Desk_leastFreeBinding 2 R_Desk BIG D vwCl (tysG g) (mA M0 s.heap.size) ∧ meth.sig.returnType = (some .int) ∧ meth.locks = false
abbrev B_Desk_leastFreeBinding (l : Launch) (D : va_G) (p : Program) (e : Env) (s : State) (m : MethodId) (args : Array Value) (below : List Frame) (meth : Method) (c : Code) (M0 : Mem) (P : Int32 → Prop) (M : Mem) (pc : Nat) (lv : List (Nat × Value)) (st : List Value) : Prop := Wb p l e rm_Desk_leastFreeBinding s m args below meth c 2 D vwCl M0 (kI fun r M' => M0 = M' ∧ P r) 0 0 M pc lv st
def wp_Desk_leastFreeBinding_b2 (g : Nat → ClassId) (P : Int32 → Prop) (M : Mem) (x0 : Nat) (x1 : Int32) : Prop :=
  ∃ (I : Int32 → Prop) (μ : Int32 → Nat), I x1 ∧ ∀ (x1 : Int32), I x1 →
  ∃ v1 : Nat, gR M 0 x0 2 = some v1 ∧ (∃ n2 : Nat, aN M (g 3) v1 = some n2 ∧ (((nI n2) ≤ x1 → (P (-1 : Int32))) ∧ (¬ (nI n2) ≤ x1 → (∃ v4 : Nat, gR M 0 x0 2 = some v4 ∧ (∃ v5 : Nat, aQ M (g 3) v4 x1 = some (some v5) ∧ (isO M 2 v5 ∧ (wp_Bnd_isBound g M v5 (fun v6 : Int32 => (v6 = 0 → (P x1)) ∧ (¬ v6 = 0 → ((I (x1 + (1 : Int32)) ∧ μ (x1 + (1 : Int32)) < μ x1)))))))))))
set_option maxHeartbeats 4000000 in
set_option maxRecDepth 100000 in
theorem t_Desk_leastFreeBinding_b2 {l : Launch} {D : va_G} {g : Nat → ClassId} {p : Program} {e : Env} {s : State} {m : MethodId} {args : Array Value} {below : List Frame} {meth : Method} {c : Code} {P : Int32 → Prop} {M : Mem} {x0 : Nat} {x1 : Int32} (C : C_Desk_leastFreeBinding D g p s m args meth c M) (h : wp_Desk_leastFreeBinding_b2 g P M x0 x1 ) : B_Desk_leastFreeBinding l D p e s m args below meth c M P M 2 [(0, .ref x0), (1, .int x1)] [] := by
  unfold wp_Desk_leastFreeBinding_b2 at h
  obtain ⟨I, μ, hI, hb⟩ := h
  have key : ∀ (n : Nat) (x1 : Int32), I x1 → μ x1 < n → B_Desk_leastFreeBinding l D p e s m args below meth c M P M 2 [(0, .ref x0), (1, .int x1)] [] := by
    intro n
    induction n with
    | zero => intro x1 _ hn; exact absurd hn (Nat.not_lt_zero _)
    | succ n ih =>
      intro x1 hI hn ls H locs hM hS hl
      have h := hb x1 hI
      refine lv_iload_n C.1.1 C.1.2.1 d_Desk_leastFreeBinding_2 rfl (lv_at hl 1 rfl) ?_
      refine lv_aload_n C.1.1 C.1.2.1 d_Desk_leastFreeBinding_3 rfl (lv_at hl 0 rfl) ?_
      obtain ⟨v1, ev1, h⟩ := h
      refine mg_R C.1 hM ok_Desk (by decide) kw133 ev1 d_Desk_leastFreeBinding_4 ?_
      obtain ⟨n2, en2, h⟩ := h
      refine ma_N C.1 hM 3 rfl en2 d_Desk_leastFreeBinding_7 ?_
      refine lv_icmp_ge (tgt := 31) C.1.1 C.1.2.1 d_Desk_leastFreeBinding_8 (by decide) (fun c3 => ?_) (fun c3 => ?_)
      · have h := h.1 c3
        refine lv_iconst (v := (-1 : Int32)) C.1.1 C.1.2.1 d_Desk_leastFreeBinding_31 (by decide) ?_
        exact mr_I C.1 C.2.1 C.2.2 hM hS ⟨_, rfl, rfl, h⟩ d_Desk_leastFreeBinding_32
      · have h := h.2 c3
        refine lv_aload_n C.1.1 C.1.2.1 d_Desk_leastFreeBinding_11 rfl (lv_at hl 0 rfl) ?_
        obtain ⟨v4, ev4, h⟩ := h
        refine mg_R C.1 hM ok_Desk (by decide) kw133 ev4 d_Desk_leastFreeBinding_12 ?_
        refine lv_iload_n C.1.1 C.1.2.1 d_Desk_leastFreeBinding_15 rfl (lv_at hl 1 rfl) ?_
        obtain ⟨v5, ev5, h⟩ := h
        refine ma_R C.1 hM 3 rfl ev5 d_Desk_leastFreeBinding_16 ?_
        obtain ⟨ho, h⟩ := h
        refine mc_V (As := []) (ci := 2) C.1 hM hS bigGood (c_Bnd_isBound h) rfl ho kw134 kw137 kw138 kw136 kw135 hd_Bnd_isBound ⟨by decide, by decide⟩ hl.1 rfl (Nat.le_of_ble_eq_true rfl) d_Desk_leastFreeBinding_17 (mc := 0) (ms := 0) rfl rfl ⟨by decide, by decide⟩ (fun v M' H locs hp hM hS => ?_)
        obtain ⟨v6, rfl, rfl, h⟩ := hp
        refine lv_if_ne (tgt := 25) C.1.1 C.1.2.1 d_Desk_leastFreeBinding_20 (by decide) (fun c8 => ?_) (fun c8 => ?_)
        · have h := h.2 c8
          refine lv_iinc (v := x1 + (1 : Int32)) (lv' := [(1, .int (x1 + (1 : Int32))), (0, .ref x0)]) C.1.1 C.1.2.1 d_Desk_leastFreeBinding_25 hl (k := 1) rfl rfl (by decide) rfl (fun ls hl => ?_)
          refine lv_goto (tgt := 2) C.1.1 C.1.2.1 d_Desk_leastFreeBinding_28 (by decide) ?_
          exact ih (x1 + (1 : Int32)) h.1 (Nat.lt_of_lt_of_le h.2 (Nat.le_of_lt_succ hn)) _ _ _ hM hS (lv_sub hl [1, 0] rfl)
        · have h := h.1 c8
          refine lv_iload_n C.1.1 C.1.2.1 d_Desk_leastFreeBinding_23 rfl (lv_at hl 1 rfl) ?_
          exact mr_I C.1 C.2.1 C.2.2 hM hS ⟨_, rfl, rfl, h⟩ d_Desk_leastFreeBinding_24
  exact key _ x1 hI (Nat.lt_succ_self _)
def wp_Desk_leastFreeBinding (g : Nat → ClassId) (M : Mem) (x0 : Nat) (P : Int32 → Prop) : Prop :=
  wp_Desk_leastFreeBinding_b2 g P M x0 (0 : Int32)
set_option maxHeartbeats 4000000 in
set_option maxRecDepth 100000 in
theorem c_Desk_leastFreeBinding {l : Launch} {D : va_G} {g : Nat → ClassId} {M : Mem} {x0 : Nat} {P : Int32 → Prop} (h : wp_Desk_leastFreeBinding g M x0 P) : mMet l BIG D vwCl (tysG g) y_Desk_leastFreeBinding b_Desk_leastFreeBinding 2 (some .int) rm_Desk_leastFreeBinding [.ref x0] M (kI fun r M' => M = M' ∧ P r) := by
  refine mMet.of (own := R_Desk) rfl (by decide) rfl (fun p e s m below meth c C hr hlk hnm ls hM hS hl => ?_)
  have C : C_Desk_leastFreeBinding D g p s m ([.ref x0] : List Value).toArray meth c M := ⟨C, hr, hlk⟩
  unfold wp_Desk_leastFreeBinding at h
  have hl : lv_has ls 2 [(0, .ref x0)] := hl
  refine lv_iconst (v := (0 : Int32)) C.1.1 C.1.2.1 d_Desk_leastFreeBinding_0 (by decide) ?_
  refine lv_istore_n (lv' := [(1, .int (0 : Int32)), (0, .ref x0)]) C.1.1 C.1.2.1 d_Desk_leastFreeBinding_1 rfl hl (by decide) rfl (fun ls hl => ?_)
  exact t_Desk_leastFreeBinding_b2 C h _ _ _ hM hS (lv_sub hl [1, 0] rfl)
theorem d_Desk_boundAt_0 : decode b_Desk_boundAt 0 = .ok (.iload_n 1, 1) := by decide +kernel
theorem d_Desk_boundAt_1 : decode b_Desk_boundAt 1 = .ok (.ifCond .lt 12, 3) := by decide +kernel
theorem d_Desk_boundAt_4 : decode b_Desk_boundAt 4 = .ok (.iload_n 1, 1) := by decide +kernel
theorem d_Desk_boundAt_5 : decode b_Desk_boundAt 5 = .ok (.aload_n 0, 1) := by decide +kernel
theorem d_Desk_boundAt_6 : decode b_Desk_boundAt 6 = .ok (.getfield 21, 3) := by decide +kernel
theorem d_Desk_boundAt_9 : decode b_Desk_boundAt 9 = .ok (.arraylength, 1) := by decide +kernel
theorem d_Desk_boundAt_10 : decode b_Desk_boundAt 10 = .ok (.if_icmp .lt 5, 3) := by decide +kernel
theorem d_Desk_boundAt_13 : decode b_Desk_boundAt 13 = .ok (.aconst_null, 1) := by decide +kernel
theorem d_Desk_boundAt_14 : decode b_Desk_boundAt 14 = .ok (.areturn, 1) := by decide +kernel
theorem d_Desk_boundAt_15 : decode b_Desk_boundAt 15 = .ok (.aload_n 0, 1) := by decide +kernel
theorem d_Desk_boundAt_16 : decode b_Desk_boundAt 16 = .ok (.getfield 21, 3) := by decide +kernel
theorem d_Desk_boundAt_19 : decode b_Desk_boundAt 19 = .ok (.iload_n 1, 1) := by decide +kernel
theorem d_Desk_boundAt_20 : decode b_Desk_boundAt 20 = .ok (.aaload, 1) := by decide +kernel
theorem d_Desk_boundAt_21 : decode b_Desk_boundAt 21 = .ok (.invokevirtual 92, 3) := by decide +kernel
theorem d_Desk_boundAt_24 : decode b_Desk_boundAt 24 = .ok (.ifCond .eq 12, 3) := by decide +kernel
theorem d_Desk_boundAt_27 : decode b_Desk_boundAt 27 = .ok (.aload_n 0, 1) := by decide +kernel
theorem d_Desk_boundAt_28 : decode b_Desk_boundAt 28 = .ok (.getfield 21, 3) := by decide +kernel
theorem d_Desk_boundAt_31 : decode b_Desk_boundAt 31 = .ok (.iload_n 1, 1) := by decide +kernel
theorem d_Desk_boundAt_32 : decode b_Desk_boundAt 32 = .ok (.aaload, 1) := by decide +kernel
theorem d_Desk_boundAt_33 : decode b_Desk_boundAt 33 = .ok (.goto 4, 3) := by decide +kernel
theorem d_Desk_boundAt_36 : decode b_Desk_boundAt 36 = .ok (.aconst_null, 1) := by decide +kernel
theorem d_Desk_boundAt_37 : decode b_Desk_boundAt 37 = .ok (.areturn, 1) := by decide +kernel
abbrev rm_Desk_boundAt : Room := { frames := 1, cells := 0, slots := 0, locals := 20 }
abbrev C_Desk_boundAt (D : va_G) (g : Nat → ClassId) (p : Program) (s : State) (m : MethodId) (args : Array Value) (meth : Method) (c : Code) (M0 : Mem) : Prop := Cx p s m args c b_Desk_boundAt 2 R_Desk BIG D vwCl (tysG g) (mA M0 s.heap.size) ∧ meth.sig.returnType = (some (.object "TopicDesk$Binding")) ∧ meth.locks = false
abbrev B_Desk_boundAt (l : Launch) (D : va_G) (p : Program) (e : Env) (s : State) (m : MethodId) (args : Array Value) (below : List Frame) (meth : Method) (c : Code) (M0 : Mem) (P : Option Nat → Prop) (M : Mem) (pc : Nat) (lv : List (Nat × Value)) (st : List Value) : Prop := Wb p l e rm_Desk_boundAt s m args below meth c 2 D vwCl M0 (kQ fun r M' => M0 = M' ∧ P r) 0 0 M pc lv st
def wp_Desk_boundAt_b37 (g : Nat → ClassId) (P : Option Nat → Prop) (M : Mem) (t0 : Option Nat) : Prop :=
  P t0
set_option maxHeartbeats 4000000 in
set_option maxRecDepth 100000 in
theorem t_Desk_boundAt_b37 {l : Launch} {D : va_G} {g : Nat → ClassId} {p : Program} {e : Env} {s : State} {m : MethodId} {args : Array Value} {below : List Frame} {meth : Method} {c : Code} {P : Option Nat → Prop} {M : Mem} {t0 : Option Nat} (C : C_Desk_boundAt D g p s m args meth c M) (h : wp_Desk_boundAt_b37 g P M t0) : B_Desk_boundAt l D p e s m args below meth c M P M 37 [] [va_rf t0] := by
  intro ls H locs hM hS hl
  unfold wp_Desk_boundAt_b37 at h
  exact mr_Q (v := t0) C.1 C.2.1 C.2.2 (Or.inl ⟨_, rfl⟩) hM hS ⟨_, rfl, rfl, h⟩ d_Desk_boundAt_37
def wp_Desk_boundAt_b13 (g : Nat → ClassId) (P : Option Nat → Prop) (M : Mem) : Prop :=
  P none
set_option maxHeartbeats 4000000 in
set_option maxRecDepth 100000 in
theorem t_Desk_boundAt_b13 {l : Launch} {D : va_G} {g : Nat → ClassId} {p : Program} {e : Env} {s : State} {m : MethodId} {args : Array Value} {below : List Frame} {meth : Method} {c : Code} {P : Option Nat → Prop} {M : Mem} (C : C_Desk_boundAt D g p s m args meth c M) (h : wp_Desk_boundAt_b13 g P M ) : B_Desk_boundAt l D p e s m args below meth c M P M 13 [] [] := by
  intro ls H locs hM hS hl
  unfold wp_Desk_boundAt_b13 at h
  refine lv_null C.1.1 C.1.2.1 d_Desk_boundAt_13 ?_
  exact mr_Q (v := none) C.1 C.2.1 C.2.2 (Or.inl ⟨_, rfl⟩) hM hS ⟨_, rfl, rfl, h⟩ d_Desk_boundAt_14
def wp_Desk_boundAt (g : Nat → ClassId) (M : Mem) (x0 : Nat) (x1 : Int32) (P : Option Nat → Prop) : Prop :=
  (x1 < 0 → (wp_Desk_boundAt_b13 g P M)) ∧ (¬ x1 < 0 → (∃ v2 : Nat, gR M 0 x0 2 = some v2 ∧ (∃ n3 : Nat, aN M (g 3) v2 = some n3 ∧ ((x1 < (nI n3) → (∃ v5 : Nat, gR M 0 x0 2 = some v5 ∧ (∃ v6 : Nat, aQ M (g 3) v5 x1 = some (some v6) ∧ (isO M 2 v6 ∧ (wp_Bnd_isBound g M v6 (fun v7 : Int32 => (v7 = 0 → (wp_Desk_boundAt_b37 g P M none)) ∧ (¬ v7 = 0 → (∃ v10 : Nat, gR M 0 x0 2 = some v10 ∧ (∃ v11 : Nat, aQ M (g 3) v10 x1 = some (some v11) ∧ (wp_Desk_boundAt_b37 g P M (some v11))))))))))) ∧ (¬ x1 < (nI n3) → (wp_Desk_boundAt_b13 g P M))))))
set_option maxHeartbeats 4000000 in
set_option maxRecDepth 100000 in
theorem c_Desk_boundAt {l : Launch} {D : va_G} {g : Nat → ClassId} {M : Mem} {x0 : Nat} {x1 : Int32} {P : Option Nat → Prop} (h : wp_Desk_boundAt g M x0 x1 P) : mMet l BIG D vwCl (tysG g) y_Desk_boundAt b_Desk_boundAt 2 (some (.object "TopicDesk$Binding")) rm_Desk_boundAt [.ref x0, .int x1] M (kQ fun r M' => M = M' ∧ P r) := by
  refine mMet.of (own := R_Desk) rfl (by decide) rfl (fun p e s m below meth c C hr hlk hnm ls hM hS hl => ?_)
  have C : C_Desk_boundAt D g p s m ([.ref x0, .int x1] : List Value).toArray meth c M := ⟨C, hr, hlk⟩
  unfold wp_Desk_boundAt at h
  have hl : lv_has ls 2 [(0, .ref x0), (1, .int x1)] := hl
  refine lv_iload_n C.1.1 C.1.2.1 d_Desk_boundAt_0 rfl (lv_at hl 1 rfl) ?_
  refine lv_if_lt (tgt := 13) C.1.1 C.1.2.1 d_Desk_boundAt_1 (by decide) (fun c1 => ?_) (fun c1 => ?_)
  · have h := h.1 c1
    exact t_Desk_boundAt_b13 C h _ _ _ hM hS (lv_sub hl [] rfl)
  · have h := h.2 c1
    refine lv_iload_n C.1.1 C.1.2.1 d_Desk_boundAt_4 rfl (lv_at hl 1 rfl) ?_
    refine lv_aload_n C.1.1 C.1.2.1 d_Desk_boundAt_5 rfl (lv_at hl 0 rfl) ?_
    obtain ⟨v2, ev2, h⟩ := h
    refine mg_R C.1 hM ok_Desk (by decide) kw133 ev2 d_Desk_boundAt_6 ?_
    obtain ⟨n3, en3, h⟩ := h
    refine ma_N C.1 hM 3 rfl en3 d_Desk_boundAt_9 ?_
    refine lv_icmp_lt (tgt := 15) C.1.1 C.1.2.1 d_Desk_boundAt_10 (by decide) (fun c4 => ?_) (fun c4 => ?_)
    · have h := h.1 c4
      refine lv_aload_n C.1.1 C.1.2.1 d_Desk_boundAt_15 rfl (lv_at hl 0 rfl) ?_
      obtain ⟨v5, ev5, h⟩ := h
      refine mg_R C.1 hM ok_Desk (by decide) kw133 ev5 d_Desk_boundAt_16 ?_
      refine lv_iload_n C.1.1 C.1.2.1 d_Desk_boundAt_19 rfl (lv_at hl 1 rfl) ?_
      obtain ⟨v6, ev6, h⟩ := h
      refine ma_R C.1 hM 3 rfl ev6 d_Desk_boundAt_20 ?_
      obtain ⟨ho, h⟩ := h
      refine mc_V (As := []) (ci := 2) C.1 hM hS bigGood (c_Bnd_isBound h) rfl ho kw134 kw137 kw138 kw136 kw135 hd_Bnd_isBound ⟨by decide, by decide⟩ hl.1 rfl (Nat.le_of_ble_eq_true rfl) d_Desk_boundAt_21 (mc := 0) (ms := 0) rfl rfl ⟨by decide, by decide⟩ (fun v M' H locs hp hM hS => ?_)
      obtain ⟨v7, rfl, rfl, h⟩ := hp
      refine lv_if_eq (tgt := 36) C.1.1 C.1.2.1 d_Desk_boundAt_24 (by decide) (fun c9 => ?_) (fun c9 => ?_)
      · have h := h.1 c9
        refine lv_null C.1.1 C.1.2.1 d_Desk_boundAt_36 ?_
        exact t_Desk_boundAt_b37 C h _ _ _ hM hS (lv_sub hl [] rfl)
      · have h := h.2 c9
        refine lv_aload_n C.1.1 C.1.2.1 d_Desk_boundAt_27 rfl (lv_at hl 0 rfl) ?_
        obtain ⟨v10, ev10, h⟩ := h
        refine mg_R C.1 hM ok_Desk (by decide) kw133 ev10 d_Desk_boundAt_28 ?_
        refine lv_iload_n C.1.1 C.1.2.1 d_Desk_boundAt_31 rfl (lv_at hl 1 rfl) ?_
        obtain ⟨v11, ev11, h⟩ := h
        refine ma_R C.1 hM 3 rfl ev11 d_Desk_boundAt_32 ?_
        refine lv_goto (tgt := 37) C.1.1 C.1.2.1 d_Desk_boundAt_33 (by decide) ?_
        exact t_Desk_boundAt_b37 C h _ _ _ hM hS (lv_sub hl [] rfl)
    · have h := h.2 c4
      exact t_Desk_boundAt_b13 C h _ _ _ hM hS (lv_sub hl [] rfl)
theorem d_Desk_init_0 : decode b_Desk_init 0 = .ok (.aload_n 0, 1) := by decide +kernel
theorem d_Desk_init_1 : decode b_Desk_init 1 = .ok (.invokespecial 1, 3) := by decide +kernel
theorem d_Desk_init_4 : decode b_Desk_init 4 = .ok (.aload_n 0, 1) := by decide +kernel
theorem d_Desk_init_5 : decode b_Desk_init 5 = .ok (.new 7, 3) := by decide +kernel
theorem d_Desk_init_8 : decode b_Desk_init 8 = .ok (.dup, 1) := by decide +kernel
theorem d_Desk_init_9 : decode b_Desk_init 9 = .ok (.invokespecial 9, 3) := by decide +kernel
theorem d_Desk_init_12 : decode b_Desk_init 12 = .ok (.putfield 10, 3) := by decide +kernel
theorem d_Desk_init_15 : decode b_Desk_init 15 = .ok (.aload_n 0, 1) := by decide +kernel
theorem d_Desk_init_16 : decode b_Desk_init 16 = .ok (.new 7, 3) := by decide +kernel
theorem d_Desk_init_19 : decode b_Desk_init 19 = .ok (.dup, 1) := by decide +kernel
theorem d_Desk_init_20 : decode b_Desk_init 20 = .ok (.invokespecial 9, 3) := by decide +kernel
theorem d_Desk_init_23 : decode b_Desk_init 23 = .ok (.putfield 16, 3) := by decide +kernel
theorem d_Desk_init_26 : decode b_Desk_init 26 = .ok (.aload_n 0, 1) := by decide +kernel
theorem d_Desk_init_27 : decode b_Desk_init 27 = .ok (.bipush 24, 2) := by decide +kernel
theorem d_Desk_init_29 : decode b_Desk_init 29 = .ok (.anewarray 19, 3) := by decide +kernel
theorem d_Desk_init_32 : decode b_Desk_init 32 = .ok (.putfield 21, 3) := by decide +kernel
theorem d_Desk_init_35 : decode b_Desk_init 35 = .ok (.iconst 0, 1) := by decide +kernel
theorem d_Desk_init_36 : decode b_Desk_init 36 = .ok (.istore_n 1, 1) := by decide +kernel
theorem d_Desk_init_37 : decode b_Desk_init 37 = .ok (.iload_n 1, 1) := by decide +kernel
theorem d_Desk_init_38 : decode b_Desk_init 38 = .ok (.aload_n 0, 1) := by decide +kernel
theorem d_Desk_init_39 : decode b_Desk_init 39 = .ok (.getfield 21, 3) := by decide +kernel
theorem d_Desk_init_42 : decode b_Desk_init 42 = .ok (.arraylength, 1) := by decide +kernel
theorem d_Desk_init_43 : decode b_Desk_init 43 = .ok (.if_icmp .ge 22, 3) := by decide +kernel
theorem d_Desk_init_46 : decode b_Desk_init 46 = .ok (.aload_n 0, 1) := by decide +kernel
theorem d_Desk_init_47 : decode b_Desk_init 47 = .ok (.getfield 21, 3) := by decide +kernel
theorem d_Desk_init_50 : decode b_Desk_init 50 = .ok (.iload_n 1, 1) := by decide +kernel
theorem d_Desk_init_51 : decode b_Desk_init 51 = .ok (.new 19, 3) := by decide +kernel
theorem d_Desk_init_54 : decode b_Desk_init 54 = .ok (.dup, 1) := by decide +kernel
theorem d_Desk_init_55 : decode b_Desk_init 55 = .ok (.invokespecial 25, 3) := by decide +kernel
theorem d_Desk_init_58 : decode b_Desk_init 58 = .ok (.aastore, 1) := by decide +kernel
theorem d_Desk_init_59 : decode b_Desk_init 59 = .ok (.iinc 1 1, 3) := by decide +kernel
theorem d_Desk_init_62 : decode b_Desk_init 62 = .ok (.goto (-25), 3) := by decide +kernel
theorem d_Desk_init_65 : decode b_Desk_init 65 = .ok (.aload_n 0, 1) := by decide +kernel
theorem d_Desk_init_66 : decode b_Desk_init 66 = .ok (.new 26, 3) := by decide +kernel
theorem d_Desk_init_69 : decode b_Desk_init 69 = .ok (.dup, 1) := by decide +kernel
theorem d_Desk_init_70 : decode b_Desk_init 70 = .ok (.invokespecial 28, 3) := by decide +kernel
theorem d_Desk_init_73 : decode b_Desk_init 73 = .ok (.putfield 29, 3) := by decide +kernel
theorem d_Desk_init_76 : decode b_Desk_init 76 = .ok (.aload_n 0, 1) := by decide +kernel
theorem d_Desk_init_77 : decode b_Desk_init 77 = .ok (.new 33, 3) := by decide +kernel
theorem d_Desk_init_80 : decode b_Desk_init 80 = .ok (.dup, 1) := by decide +kernel
theorem d_Desk_init_81 : decode b_Desk_init 81 = .ok (.invokespecial 35, 3) := by decide +kernel
theorem d_Desk_init_84 : decode b_Desk_init 84 = .ok (.putfield 36, 3) := by decide +kernel
theorem d_Desk_init_87 : decode b_Desk_init 87 = .ok (.aload_n 0, 1) := by decide +kernel
theorem d_Desk_init_88 : decode b_Desk_init 88 = .ok (.iconst (-1), 1) := by decide +kernel
theorem d_Desk_init_89 : decode b_Desk_init 89 = .ok (.putfield 40, 3) := by decide +kernel
theorem d_Desk_init_92 : decode b_Desk_init 92 = .ok (.return_, 1) := by decide +kernel
abbrev rm_Desk_init : Room := { frames := 4, cells := 197, slots := 4581, locals := 81 }
abbrev C_Desk_init (D : va_G) (g : Nat → ClassId) (p : Program) (s : State) (m : MethodId) (args : Array Value) (meth : Method) (c : Code) (M0 : Mem) : Prop := Cx p s m args c b_Desk_init 2 R_Desk BIG D vwCl (tysG g) (mA M0 s.heap.size) ∧ meth.sig.returnType = none ∧ meth.locks = false ∧ meth.name = "<init>"
abbrev B_Desk_init (l : Launch) (D : va_G) (p : Program) (e : Env) (s : State) (m : MethodId) (args : Array Value) (below : List Frame) (meth : Method) (c : Code) (M0 : Mem) (P : Mem → Prop) (cn sn : Nat) (M : Mem) (pc : Nat) (lv : List (Nat × Value)) (st : List Value) : Prop := Wb p l e rm_Desk_init s m args below meth c 2 D vwCl M0 (kV fun M' => P M') cn sn M pc lv st
def wp_Desk_init_b37 (g : Nat → ClassId) (P : Mem → Prop) (M : Mem) (x0 : Nat) (x1 : Int32) : Prop :=
  ∃ (I : Int32 → Mem → Prop) (μ : Int32 → Mem → Nat), μ x1 M ≤ 24 ∧ I x1 M ∧ ∀ (x1 : Int32) (M : Mem), I x1 M →
  ∃ v1 : Nat, gR M 0 x0 2 = some v1 ∧ (∃ n2 : Nat, aN M (g 3) v1 = some n2 ∧ (((nI n2) ≤ x1 → (∀ (q4 : Nat) (M5 : Mem), M q4 = none → M5 = mup M q4 (.inr (4, [.null, .int 0])) → (wp_Shelf_init g M5 q4 (fun (M7 : Mem) => ∃ M8 : Mem, pV M7 0 x0 3 (.ref q4) = some M8 ∧ (∀ (q9 : Nat) (M10 : Mem), M8 q9 = none → M10 = mup M8 q9 (.inr (5, [.null, .null, .null, .int 0, .int 0])) → (wp_Rs_init g M10 q9 (fun (M12 : Mem) => ∃ M13 : Mem, pV M12 0 x0 4 (.ref q9) = some M13 ∧ (∃ M14 : Mem, pV M13 0 x0 5 (.int (-1 : Int32)) = some M14 ∧ (P M14))))))))) ∧ (¬ (nI n2) ≤ x1 → (∃ v15 : Nat, gR M 0 x0 2 = some v15 ∧ (∀ (q16 : Nat) (M17 : Mem), M q16 = none → M17 = mup M q16 (.inr (2, [.null, .int 0, .int 0])) → (wp_Bnd_init g M17 q16 (fun (M19 : Mem) => isO M19 2 q16 ∧ (∃ M20 : Mem, sR M19 (g 3) v15 x1 q16 = some M20 ∧ ((I (x1 + (1 : Int32)) M20 ∧ μ (x1 + (1 : Int32)) M20 < μ x1 M))))))))))
set_option maxHeartbeats 4000000 in
set_option maxRecDepth 100000 in
theorem t_Desk_init_b37 {l : Launch} {D : va_G} {g : Nat → ClassId} {p : Program} {e : Env} {s : State} {m : MethodId} {args : Array Value} {below : List Frame} {meth : Method} {c : Code} {M0 : Mem} {P : Mem → Prop} {M : Mem} {x0 : Nat} {x1 : Int32} (C : C_Desk_init D g p s m args meth c M0) (h : wp_Desk_init_b37 g P M x0 x1 ) {cn sn : Nat} (hcn : cn + 190 ≤ 197) (hsn : sn + 4417 ≤ 4581) : B_Desk_init l D p e s m args below meth c M0 P cn sn M 37 [(0, .ref x0), (1, .int x1)] [] := by
  unfold wp_Desk_init_b37 at h
  obtain ⟨I, μ, hmK, hI, hb⟩ := h
  have key : ∀ (n : Nat) (cn sn : Nat) (x1 : Int32) (M : Mem), I x1 M → μ x1 M < n → cn + 4 * μ x1 M + 94 ≤ 197 → sn + 73 * μ x1 M + 2665 ≤ 4581 → B_Desk_init l D p e s m args below meth c M0 P cn sn M 37 [(0, .ref x0), (1, .int x1)] [] := by
    intro n
    induction n with
    | zero => intro cn sn x1 M _ hn; exact absurd hn (Nat.not_lt_zero _)
    | succ n ih =>
      intro cn sn x1 M hI hn hcn hsn ls H locs hM hS hl
      have h := hb x1 M hI
      refine lv_iload_n C.1.1 C.1.2.1 d_Desk_init_37 rfl (lv_at hl 1 rfl) ?_
      refine lv_aload_n C.1.1 C.1.2.1 d_Desk_init_38 rfl (lv_at hl 0 rfl) ?_
      obtain ⟨v1, ev1, h⟩ := h
      refine mg_R C.1 hM ok_Desk (by decide) kw133 ev1 d_Desk_init_39 ?_
      obtain ⟨n2, en2, h⟩ := h
      refine ma_N C.1 hM 3 rfl en2 d_Desk_init_42 ?_
      refine lv_icmp_ge (tgt := 65) C.1.1 C.1.2.1 d_Desk_init_43 (by decide) (fun c3 => ?_) (fun c3 => ?_)
      · have h := h.1 c3
        refine lv_aload_n C.1.1 C.1.2.1 d_Desk_init_65 rfl (lv_at hl 0 rfl) ?_
        refine mn_O (fs := [.null, .int 0]) C.1 hM hS ok_Shelf kw218 kw219 kw188 (fun j hj => by rcases (show j = 0 ∨ j = 1 by omega) with rfl | rfl <;> rfl) (show _ ≤ (197 : Nat) by omega) (show _ ≤ (4581 : Nat) by omega) d_Desk_init_66 (fun q4 H hq4 hM hS => ?_)
        obtain ⟨M5, eM5⟩ : ∃ N : Mem, N = mup M q4 (.inr (4, [.null, .int 0])) := ⟨_, rfl⟩
        rw [← eM5] at hM
        have h := h q4 M5 hq4 eM5
        refine lv_dup C.1.1 C.1.2.1 d_Desk_init_69 rfl ?_
        refine mc_I (As := []) C.1 hM hS bigGood (c_Shelf_init h) rfl kw220 kw222 kw188 kw221 hd_Shelf_init ⟨by decide, by decide⟩ hl.1 rfl (Nat.le_of_ble_eq_true rfl) d_Desk_init_70 (mc := 85) (ms := 1532) rfl rfl ⟨show _ ≤ (197 : Nat) by omega, show _ ≤ (4581 : Nat) by omega⟩ (fun v M7 H locs hp hM hS => ?_)
        obtain ⟨rfl, h⟩ := hp
        obtain ⟨M8, eM8, h⟩ := h
        refine mp_F C.1 hM hS C.2.2.2 ok_Desk (by decide) kw223 rfl rfl rfl rfl eM8 d_Desk_init_73 (fun H locs hM hS => ?_)
        refine lv_aload_n C.1.1 C.1.2.1 d_Desk_init_76 rfl (lv_at hl 0 rfl) ?_
        refine mn_O (fs := [.null, .null, .null, .int 0, .int 0]) C.1 hM hS ok_Rs kw224 kw225 kw164 (fun j hj => by rcases (show j = 0 ∨ j = 1 ∨ j = 2 ∨ j = 3 ∨ j = 4 by omega) with rfl | rfl | rfl | rfl | rfl <;> rfl) (show _ ≤ (197 : Nat) by omega) (show _ ≤ (4581 : Nat) by omega) d_Desk_init_77 (fun q9 H hq9 hM hS => ?_)
        obtain ⟨M10, eM10⟩ : ∃ N : Mem, N = mup M8 q9 (.inr (5, [.null, .null, .null, .int 0, .int 0])) := ⟨_, rfl⟩
        rw [← eM10] at hM
        have h := h q9 M10 hq9 eM10
        refine lv_dup C.1.1 C.1.2.1 d_Desk_init_80 rfl ?_
        refine mc_I (As := []) C.1 hM hS bigGood (c_Rs_init h) rfl kw226 kw228 kw164 kw227 hd_Rs_init ⟨by decide, by decide⟩ hl.1 rfl (Nat.le_of_ble_eq_true rfl) d_Desk_init_81 (mc := 3) (ms := 1053) rfl rfl ⟨show _ ≤ (197 : Nat) by omega, show _ ≤ (4581 : Nat) by omega⟩ (fun v M12 H locs hp hM hS => ?_)
        obtain ⟨rfl, h⟩ := hp
        obtain ⟨M13, eM13, h⟩ := h
        refine mp_F C.1 hM hS C.2.2.2 ok_Desk (by decide) kw229 rfl rfl rfl rfl eM13 d_Desk_init_84 (fun H locs hM hS => ?_)
        refine lv_aload_n C.1.1 C.1.2.1 d_Desk_init_87 rfl (lv_at hl 0 rfl) ?_
        refine lv_iconst (v := (-1 : Int32)) C.1.1 C.1.2.1 d_Desk_init_88 (by decide) ?_
        obtain ⟨M14, eM14, h⟩ := h
        refine mp_V C.1 hM hS ok_Desk (by decide) kw0 rfl rfl rfl eM14 d_Desk_init_89 (fun H locs hM hS => ?_)
        refine W.widen (k := 197) (n := 4581) (show _ ≤ (197 : Nat) by omega) (show _ ≤ (4581 : Nat) by omega) ?_
        exact mr_V C.1 C.2.1 C.2.2.1 hM hS ⟨rfl, h⟩ d_Desk_init_92
      · have h := h.2 c3
        refine lv_aload_n C.1.1 C.1.2.1 d_Desk_init_46 rfl (lv_at hl 0 rfl) ?_
        obtain ⟨v15, ev15, h⟩ := h
        refine mg_R C.1 hM ok_Desk (by decide) kw133 ev15 d_Desk_init_47 ?_
        refine lv_iload_n C.1.1 C.1.2.1 d_Desk_init_50 rfl (lv_at hl 1 rfl) ?_
        refine mn_O (fs := [.null, .int 0, .int 0]) C.1 hM hS ok_Bnd kw230 kw231 kw136 (fun j hj => by rcases (show j = 0 ∨ j = 1 ∨ j = 2 by omega) with rfl | rfl | rfl <;> rfl) (show _ ≤ (197 : Nat) by omega) (show _ ≤ (4581 : Nat) by omega) d_Desk_init_51 (fun q16 H hq16 hM hS => ?_)
        obtain ⟨M17, eM17⟩ : ∃ N : Mem, N = mup M q16 (.inr (2, [.null, .int 0, .int 0])) := ⟨_, rfl⟩
        rw [← eM17] at hM
        have h := h q16 M17 hq16 eM17
        refine lv_dup C.1.1 C.1.2.1 d_Desk_init_54 rfl ?_
        refine mc_I (As := []) C.1 hM hS bigGood (c_Bnd_init h) rfl kw232 kw234 kw136 kw233 hd_Bnd_init ⟨by decide, by decide⟩ hl.1 rfl (Nat.le_of_ble_eq_true rfl) d_Desk_init_55 (mc := 3) (ms := 70) rfl rfl ⟨show _ ≤ (197 : Nat) by omega, show _ ≤ (4581 : Nat) by omega⟩ (fun v M19 H locs hp hM hS => ?_)
        obtain ⟨rfl, h⟩ := hp
        obtain ⟨ho, h⟩ := h
        obtain ⟨M20, eM20, h⟩ := h
        refine ms_R C.1 hM hS 3 rfl rfl ho eM20 d_Desk_init_58 (fun H locs hM hS => ?_)
        refine lv_iinc (v := x1 + (1 : Int32)) (lv' := [(1, .int (x1 + (1 : Int32))), (0, .ref x0)]) C.1.1 C.1.2.1 d_Desk_init_59 hl (k := 1) rfl rfl (by decide) rfl (fun ls hl => ?_)
        refine lv_goto (tgt := 37) C.1.1 C.1.2.1 d_Desk_init_62 (by decide) ?_
        have hmu := h.2
        exact ih _ _ (x1 + (1 : Int32)) M20 h.1 (Nat.lt_of_lt_of_le h.2 (Nat.le_of_lt_succ hn)) (show _ ≤ (197 : Nat) by omega) (show _ ≤ (4581 : Nat) by omega) _ _ _ hM hS (lv_sub hl [1, 0] rfl)
  exact key _ _ _ x1 M hI (Nat.lt_succ_self _) (show _ ≤ (197 : Nat) by omega) (show _ ≤ (4581 : Nat) by omega)
def wp_Desk_init (g : Nat → ClassId) (M : Mem) (x0 : Nat) (P : Mem → Prop) : Prop :=
  ∀ (q1 : Nat) (M2 : Mem), M q1 = none → M2 = mup M q1 (.inr (1, [.null, .null, .int 0, .int 0])) → (wp_Text_init g M2 q1 (fun (M4 : Mem) => ∃ M5 : Mem, pV M4 0 x0 0 (.ref q1) = some M5 ∧ (∀ (q6 : Nat) (M7 : Mem), M5 q6 = none → M7 = mup M5 q6 (.inr (1, [.null, .null, .int 0, .int 0])) → (wp_Text_init g M7 q6 (fun (M9 : Mem) => ∃ M10 : Mem, pV M9 0 x0 1 (.ref q6) = some M10 ∧ (∀ (q11 : Nat) (M12 : Mem), M10 q11 = none → M12 = mup M10 q11 (.inl (g 3, (24, .inr (.inr (.inr (.inr (fun _ => none))))))) → (∃ M13 : Mem, pV M12 0 x0 2 (.ref q11) = some M13 ∧ (wp_Desk_init_b37 g P M13 x0 (0 : Int32)))))))))
set_option maxHeartbeats 4000000 in
set_option maxRecDepth 100000 in
theorem c_Desk_init {l : Launch} {D : va_G} {g : Nat → ClassId} {M : Mem} {x0 : Nat} {P : Mem → Prop} (h : wp_Desk_init g M x0 P) : mMet l BIG D vwCl (tysG g) y_Desk_init b_Desk_init 2 none rm_Desk_init [.ref x0] M (kV fun M' => P M') := by
  refine mMet.of (own := R_Desk) rfl (by decide) rfl (fun p e s m below meth c C hr hlk hnm ls hM hS hl => ?_)
  have C : C_Desk_init D g p s m ([.ref x0] : List Value).toArray meth c M := ⟨C, hr, hlk, hnm⟩
  have hcn : 0 + 197 ≤ 197 := by decide
  have hsn : 0 + 4581 ≤ 4581 := by decide
  unfold wp_Desk_init at h
  have hl : lv_has ls 2 [(0, .ref x0)] := hl
  refine lv_aload_n C.1.1 C.1.2.1 d_Desk_init_0 rfl (lv_at hl 0 rfl) ?_
  refine m_objInit C.1 kw235 kw3 kw4 hl.1 d_Desk_init_1 (by decide) (by decide) (Nat.le_of_ble_eq_true rfl) ?_
  refine lv_aload_n C.1.1 C.1.2.1 d_Desk_init_4 rfl (lv_at hl 0 rfl) ?_
  refine mn_O (fs := [.null, .null, .int 0, .int 0]) C.1 hM hS ok_Text kw236 kw150 kw107 (fun j hj => by rcases (show j = 0 ∨ j = 1 ∨ j = 2 ∨ j = 3 by omega) with rfl | rfl | rfl | rfl <;> rfl) (show _ ≤ (197 : Nat) by omega) (show _ ≤ (4581 : Nat) by omega) d_Desk_init_5 (fun q1 H hq1 hM hS => ?_)
  obtain ⟨M2, eM2⟩ : ∃ N : Mem, N = mup M q1 (.inr (1, [.null, .null, .int 0, .int 0])) := ⟨_, rfl⟩
  rw [← eM2] at hM
  have h := h q1 M2 hq1 eM2
  refine lv_dup C.1.1 C.1.2.1 d_Desk_init_8 rfl ?_
  refine mc_I (As := []) C.1 hM hS bigGood (c_Text_init h) rfl kw237 kw153 kw107 kw152 hd_Text_init ⟨by decide, by decide⟩ hl.1 rfl (Nat.le_of_ble_eq_true rfl) d_Desk_init_9 (mc := 2) (ms := 66) rfl rfl ⟨show _ ≤ (197 : Nat) by omega, show _ ≤ (4581 : Nat) by omega⟩ (fun v M4 H locs hp hM hS => ?_)
  obtain ⟨rfl, h⟩ := hp
  obtain ⟨M5, eM5, h⟩ := h
  refine mp_F C.1 hM hS C.2.2.2 ok_Desk (by decide) kw120 rfl rfl rfl rfl eM5 d_Desk_init_12 (fun H locs hM hS => ?_)
  refine lv_aload_n C.1.1 C.1.2.1 d_Desk_init_15 rfl (lv_at hl 0 rfl) ?_
  refine mn_O (fs := [.null, .null, .int 0, .int 0]) C.1 hM hS ok_Text kw236 kw150 kw107 (fun j hj => by rcases (show j = 0 ∨ j = 1 ∨ j = 2 ∨ j = 3 by omega) with rfl | rfl | rfl | rfl <;> rfl) (show _ ≤ (197 : Nat) by omega) (show _ ≤ (4581 : Nat) by omega) d_Desk_init_16 (fun q6 H hq6 hM hS => ?_)
  obtain ⟨M7, eM7⟩ : ∃ N : Mem, N = mup M5 q6 (.inr (1, [.null, .null, .int 0, .int 0])) := ⟨_, rfl⟩
  rw [← eM7] at hM
  have h := h q6 M7 hq6 eM7
  refine lv_dup C.1.1 C.1.2.1 d_Desk_init_19 rfl ?_
  refine mc_I (As := []) C.1 hM hS bigGood (c_Text_init h) rfl kw237 kw153 kw107 kw152 hd_Text_init ⟨by decide, by decide⟩ hl.1 rfl (Nat.le_of_ble_eq_true rfl) d_Desk_init_20 (mc := 2) (ms := 66) rfl rfl ⟨show _ ≤ (197 : Nat) by omega, show _ ≤ (4581 : Nat) by omega⟩ (fun v M9 H locs hp hM hS => ?_)
  obtain ⟨rfl, h⟩ := hp
  obtain ⟨M10, eM10, h⟩ := h
  refine mp_F C.1 hM hS C.2.2.2 ok_Desk (by decide) kw238 rfl rfl rfl rfl eM10 d_Desk_init_23 (fun H locs hM hS => ?_)
  refine lv_aload_n C.1.1 C.1.2.1 d_Desk_init_26 rfl (lv_at hl 0 rfl) ?_
  refine lv_bipush (v := (24 : Int32)) C.1.1 C.1.2.1 d_Desk_init_27 (by decide) ?_
  refine mn_Q (N' := 24) C.1 hM hS kw230 C.1.2.2.2.2.2.2.2.1 3 rfl (by decide) (by decide) (by decide) (show _ ≤ (197 : Nat) by omega) (show _ ≤ (4581 : Nat) by omega) d_Desk_init_29 (fun q11 H hq11 hM hS => ?_)
  obtain ⟨M12, eM12⟩ : ∃ N : Mem, N = mup M10 q11 (.inl (g 3, (24, .inr (.inr (.inr (.inr (fun _ => none))))))) := ⟨_, rfl⟩
  rw [← eM12] at hM
  have h := h q11 M12 hq11 eM12
  obtain ⟨M13, eM13, h⟩ := h
  refine mp_F C.1 hM hS C.2.2.2 ok_Desk (by decide) kw133 rfl rfl rfl rfl eM13 d_Desk_init_32 (fun H locs hM hS => ?_)
  refine lv_iconst (v := (0 : Int32)) C.1.1 C.1.2.1 d_Desk_init_35 (by decide) ?_
  refine lv_istore_n (lv' := [(1, .int (0 : Int32)), (0, .ref x0)]) C.1.1 C.1.2.1 d_Desk_init_36 rfl hl (by decide) rfl (fun ls hl => ?_)
  exact t_Desk_init_b37 C h (show _ ≤ (197 : Nat) by omega) (show _ ≤ (4581 : Nat) by omega) _ _ _ hM hS (lv_sub hl [1, 0] rfl)
theorem d_Desk_free_0 : decode b_Desk_free 0 = .ok (.aload_n 0, 1) := by decide +kernel
theorem d_Desk_free_1 : decode b_Desk_free 1 = .ok (.iload_n 1, 1) := by decide +kernel
theorem d_Desk_free_2 : decode b_Desk_free 2 = .ok (.invokevirtual 83, 3) := by decide +kernel
theorem d_Desk_free_5 : decode b_Desk_free 5 = .ok (.astore_n 2, 1) := by decide +kernel
theorem d_Desk_free_6 : decode b_Desk_free 6 = .ok (.aload_n 2, 1) := by decide +kernel
theorem d_Desk_free_7 : decode b_Desk_free 7 = .ok (.ifnonnull 5, 3) := by decide +kernel
theorem d_Desk_free_10 : decode b_Desk_free 10 = .ok (.iconst 0, 1) := by decide +kernel
theorem d_Desk_free_11 : decode b_Desk_free 11 = .ok (.ireturn, 1) := by decide +kernel
theorem d_Desk_free_12 : decode b_Desk_free 12 = .ok (.aload_n 2, 1) := by decide +kernel
theorem d_Desk_free_13 : decode b_Desk_free 13 = .ok (.invokevirtual 87, 3) := by decide +kernel
theorem d_Desk_free_16 : decode b_Desk_free 16 = .ok (.iconst 1, 1) := by decide +kernel
theorem d_Desk_free_17 : decode b_Desk_free 17 = .ok (.ireturn, 1) := by decide +kernel
abbrev rm_Desk_free : Room := { frames := 2, cells := 0, slots := 0, locals := 41 }
abbrev C_Desk_free (D : va_G) (g : Nat → ClassId) (p : Program) (s : State) (m : MethodId) (args : Array Value) (meth : Method) (c : Code) (M0 : Mem) : Prop := Cx p s m args c b_Desk_free 3 R_Desk BIG D vwCl (tysG g) (mA M0 s.heap.size) ∧ meth.sig.returnType = (some .boolean) ∧ meth.locks = false
abbrev B_Desk_free (l : Launch) (D : va_G) (p : Program) (e : Env) (s : State) (m : MethodId) (args : Array Value) (below : List Frame) (meth : Method) (c : Code) (M0 : Mem) (P : Int32 → Mem → Prop) (M : Mem) (pc : Nat) (lv : List (Nat × Value)) (st : List Value) : Prop := Wb p l e rm_Desk_free s m args below meth c 3 D vwCl M0 (kI fun r M' => P r M') 0 0 M pc lv st
def wp_Desk_free (g : Nat → ClassId) (M : Mem) (x0 : Nat) (x1 : Int32) (P : Int32 → Mem → Prop) : Prop :=
  isO M 0 x0 ∧ (wp_Desk_boundAt g M x0 x1 (fun v1 : Option Nat => (v1 = none → (isB (0 : Int32) ∧ P (0 : Int32) M)) ∧ (∀ a3 : Nat, v1 = some a3 → (isO M 2 a3 ∧ (wp_Bnd_untie g M a3 (fun (M5 : Mem) => isB (1 : Int32) ∧ P (1 : Int32) M5))))))
set_option maxHeartbeats 4000000 in
set_option maxRecDepth 100000 in
theorem c_Desk_free {l : Launch} {D : va_G} {g : Nat → ClassId} {M : Mem} {x0 : Nat} {x1 : Int32} {P : Int32 → Mem → Prop} (h : wp_Desk_free g M x0 x1 P) : mMet l BIG D vwCl (tysG g) y_Desk_free b_Desk_free 3 (some .boolean) rm_Desk_free [.ref x0, .int x1] M (kI fun r M' => P r M') := by
  refine mMet.of (own := R_Desk) rfl (by decide) rfl (fun p e s m below meth c C hr hlk hnm ls hM hS hl => ?_)
  have C : C_Desk_free D g p s m ([.ref x0, .int x1] : List Value).toArray meth c M := ⟨C, hr, hlk⟩
  unfold wp_Desk_free at h
  have hl : lv_has ls 3 [(0, .ref x0), (1, .int x1)] := hl
  refine lv_aload_n C.1.1 C.1.2.1 d_Desk_free_0 rfl (lv_at hl 0 rfl) ?_
  refine lv_iload_n C.1.1 C.1.2.1 d_Desk_free_1 rfl (lv_at hl 1 rfl) ?_
  obtain ⟨ho, h⟩ := h
  refine mc_V (As := [.int x1]) (ci := 0) C.1 hM hS bigGood (c_Desk_boundAt h) rfl ho kw239 kw241 kw242 kw123 kw240 hd_Desk_boundAt ⟨by decide, by decide⟩ hl.1 rfl (Nat.le_of_ble_eq_true rfl) d_Desk_free_2 (mc := 0) (ms := 0) rfl rfl ⟨by decide, by decide⟩ (fun v M' H locs hp hM hS => ?_)
  obtain ⟨v1, rfl, rfl, h⟩ := hp
  refine lq_astore_n (lv' := [(2, va_rf v1), (0, .ref x0), (1, .int x1)]) C.1.1 C.1.2.1 d_Desk_free_5 rfl hl (by decide) rfl (fun ls hl => ?_)
  refine lq_aload_n C.1.1 C.1.2.1 d_Desk_free_6 rfl (lv_at hl 0 rfl) ?_
  rcases v1 with _ | a3
  · have h := h.1 rfl
    refine lv_ifnonnullN C.1.1 C.1.2.1 d_Desk_free_7 ?_
    refine lv_iconst (v := (0 : Int32)) C.1.1 C.1.2.1 d_Desk_free_10 (by decide) ?_
    exact mr_Z C.1 C.2.1 C.2.2 h.1 hM hS ⟨_, rfl, h.2⟩ d_Desk_free_11
  · have h := h.2 a3 rfl
    refine lv_ifnonnull (tgt := 12) C.1.1 C.1.2.1 d_Desk_free_7 (by decide) ?_
    refine lv_aload_n C.1.1 C.1.2.1 d_Desk_free_12 rfl (lv_at hl 0 rfl) ?_
    obtain ⟨ho, h⟩ := h
    refine mc_V (As := []) (ci := 2) C.1 hM hS bigGood (c_Bnd_untie h) rfl ho kw243 kw245 kw246 kw136 kw244 hd_Bnd_untie ⟨by decide, by decide⟩ hl.1 rfl (Nat.le_of_ble_eq_true rfl) d_Desk_free_13 (mc := 0) (ms := 0) rfl rfl ⟨by decide, by decide⟩ (fun v M5 H locs hp hM hS => ?_)
    obtain ⟨rfl, h⟩ := hp
    refine lv_iconst (v := (1 : Int32)) C.1.1 C.1.2.1 d_Desk_free_16 (by decide) ?_
    exact mr_Z C.1 C.2.1 C.2.2 h.1 hM hS ⟨_, rfl, h.2⟩ d_Desk_free_17
theorem d_Desk_sign_0 : decode b_Desk_sign 0 = .ok (.aload_n 0, 1) := by decide +kernel
theorem d_Desk_sign_1 : decode b_Desk_sign 1 = .ok (.iload_n 1, 1) := by decide +kernel
theorem d_Desk_sign_2 : decode b_Desk_sign 2 = .ok (.invokevirtual 83, 3) := by decide +kernel
theorem d_Desk_sign_5 : decode b_Desk_sign 5 = .ok (.astore_n 3, 1) := by decide +kernel
theorem d_Desk_sign_6 : decode b_Desk_sign 6 = .ok (.aload_n 3, 1) := by decide +kernel
theorem d_Desk_sign_7 : decode b_Desk_sign 7 = .ok (.ifnonnull 7, 3) := by decide +kernel
theorem d_Desk_sign_10 : decode b_Desk_sign 10 = .ok (.iconst (-1), 1) := by decide +kernel
theorem d_Desk_sign_11 : decode b_Desk_sign 11 = .ok (.goto 11, 3) := by decide +kernel
theorem d_Desk_sign_14 : decode b_Desk_sign 14 = .ok (.aload_n 3, 1) := by decide +kernel
theorem d_Desk_sign_15 : decode b_Desk_sign 15 = .ok (.invokevirtual 96, 3) := by decide +kernel
theorem d_Desk_sign_18 : decode b_Desk_sign 18 = .ok (.iload_n 2, 1) := by decide +kernel
theorem d_Desk_sign_19 : decode b_Desk_sign 19 = .ok (.invokevirtual 143, 3) := by decide +kernel
theorem d_Desk_sign_22 : decode b_Desk_sign 22 = .ok (.ireturn, 1) := by decide +kernel
abbrev rm_Desk_sign : Room := { frames := 2, cells := 0, slots := 0, locals := 41 }
abbrev C_Desk_sign (D : va_G) (g : Nat → ClassId) (p : Program) (s : State) (m : MethodId) (args : Array Value) (meth : Method) (c : Code) (M0 : Mem) : Prop := Cx p s m args c b_Desk_sign 4 R_Desk BIG D vwCl (tysG g) (mA M0 s.heap.size) ∧ meth.sig.returnType = (some .int) ∧ meth.locks = false
abbrev B_Desk_sign (l : Launch) (D : va_G) (p : Program) (e : Env) (s : State) (m : MethodId) (args : Array Value) (below : List Frame) (meth : Method) (c : Code) (M0 : Mem) (P : Int32 → Prop) (M : Mem) (pc : Nat) (lv : List (Nat × Value)) (st : List Value) : Prop := Wb p l e rm_Desk_sign s m args below meth c 4 D vwCl M0 (kI fun r M' => M0 = M' ∧ P r) 0 0 M pc lv st
def wp_Desk_sign_b22 (g : Nat → ClassId) (P : Int32 → Prop) (M : Mem) (t0 : Int32) : Prop :=
  P t0
set_option maxHeartbeats 4000000 in
set_option maxRecDepth 100000 in
theorem t_Desk_sign_b22 {l : Launch} {D : va_G} {g : Nat → ClassId} {p : Program} {e : Env} {s : State} {m : MethodId} {args : Array Value} {below : List Frame} {meth : Method} {c : Code} {P : Int32 → Prop} {M : Mem} {t0 : Int32} (C : C_Desk_sign D g p s m args meth c M) (h : wp_Desk_sign_b22 g P M t0) : B_Desk_sign l D p e s m args below meth c M P M 22 [] [.int t0] := by
  intro ls H locs hM hS hl
  unfold wp_Desk_sign_b22 at h
  exact mr_I C.1 C.2.1 C.2.2 hM hS ⟨_, rfl, rfl, h⟩ d_Desk_sign_22
def wp_Desk_sign (g : Nat → ClassId) (M : Mem) (x0 : Nat) (x1 : Int32) (x2 : Int32) (P : Int32 → Prop) : Prop :=
  isO M 0 x0 ∧ (wp_Desk_boundAt g M x0 x1 (fun v1 : Option Nat => (v1 = none → (wp_Desk_sign_b22 g P M (-1 : Int32))) ∧ (∀ a3 : Nat, v1 = some a3 → (isO M 2 a3 ∧ (wp_Bnd_pattern g M a3 (fun v4 : Nat => isO M 1 v4 ∧ (wp_Text_signAt g M v4 x2 (fun v6 : Int32 => wp_Desk_sign_b22 g P M v6))))))))
set_option maxHeartbeats 4000000 in
set_option maxRecDepth 100000 in
theorem c_Desk_sign {l : Launch} {D : va_G} {g : Nat → ClassId} {M : Mem} {x0 : Nat} {x1 : Int32} {x2 : Int32} {P : Int32 → Prop} (h : wp_Desk_sign g M x0 x1 x2 P) : mMet l BIG D vwCl (tysG g) y_Desk_sign b_Desk_sign 4 (some .int) rm_Desk_sign [.ref x0, .int x1, .int x2] M (kI fun r M' => M = M' ∧ P r) := by
  refine mMet.of (own := R_Desk) rfl (by decide) rfl (fun p e s m below meth c C hr hlk hnm ls hM hS hl => ?_)
  have C : C_Desk_sign D g p s m ([.ref x0, .int x1, .int x2] : List Value).toArray meth c M := ⟨C, hr, hlk⟩
  unfold wp_Desk_sign at h
  have hl : lv_has ls 4 [(0, .ref x0), (1, .int x1), (2, .int x2)] := hl
  refine lv_aload_n C.1.1 C.1.2.1 d_Desk_sign_0 rfl (lv_at hl 0 rfl) ?_
  refine lv_iload_n C.1.1 C.1.2.1 d_Desk_sign_1 rfl (lv_at hl 1 rfl) ?_
  obtain ⟨ho, h⟩ := h
  refine mc_V (As := [.int x1]) (ci := 0) C.1 hM hS bigGood (c_Desk_boundAt h) rfl ho kw239 kw241 kw242 kw123 kw240 hd_Desk_boundAt ⟨by decide, by decide⟩ hl.1 rfl (Nat.le_of_ble_eq_true rfl) d_Desk_sign_2 (mc := 0) (ms := 0) rfl rfl ⟨by decide, by decide⟩ (fun v M' H locs hp hM hS => ?_)
  obtain ⟨v1, rfl, rfl, h⟩ := hp
  refine lq_astore_n (lv' := [(3, va_rf v1), (0, .ref x0), (1, .int x1), (2, .int x2)]) C.1.1 C.1.2.1 d_Desk_sign_5 rfl hl (by decide) rfl (fun ls hl => ?_)
  refine lq_aload_n C.1.1 C.1.2.1 d_Desk_sign_6 rfl (lv_at hl 0 rfl) ?_
  rcases v1 with _ | a3
  · have h := h.1 rfl
    refine lv_ifnonnullN C.1.1 C.1.2.1 d_Desk_sign_7 ?_
    refine lv_iconst (v := (-1 : Int32)) C.1.1 C.1.2.1 d_Desk_sign_10 (by decide) ?_
    refine lv_goto (tgt := 22) C.1.1 C.1.2.1 d_Desk_sign_11 (by decide) ?_
    exact t_Desk_sign_b22 C h _ _ _ hM hS (lv_sub hl [] rfl)
  · have h := h.2 a3 rfl
    refine lv_ifnonnull (tgt := 14) C.1.1 C.1.2.1 d_Desk_sign_7 (by decide) ?_
    refine lv_aload_n C.1.1 C.1.2.1 d_Desk_sign_14 rfl (lv_at hl 0 rfl) ?_
    obtain ⟨ho, h⟩ := h
    refine mc_V (As := []) (ci := 2) C.1 hM hS bigGood (c_Bnd_pattern h) rfl ho kw247 kw249 kw250 kw136 kw248 hd_Bnd_pattern ⟨by decide, by decide⟩ hl.1 rfl (Nat.le_of_ble_eq_true rfl) d_Desk_sign_15 (mc := 0) (ms := 0) rfl rfl ⟨by decide, by decide⟩ (fun v M' H locs hp hM hS => ?_)
    obtain ⟨v4, rfl, rfl, h⟩ := hp
    refine lv_iload_n C.1.1 C.1.2.1 d_Desk_sign_18 rfl (lv_at hl 3 rfl) ?_
    obtain ⟨ho, h⟩ := h
    refine mc_V (As := [.int x2]) (ci := 1) C.1 hM hS bigGood (c_Text_signAt h) rfl ho kw251 kw108 kw109 kw107 kw106 hd_Text_signAt ⟨by decide, by decide⟩ hl.1 rfl (Nat.le_of_ble_eq_true rfl) d_Desk_sign_19 (mc := 0) (ms := 0) rfl rfl ⟨by decide, by decide⟩ (fun v M' H locs hp hM hS => ?_)
    obtain ⟨v6, rfl, rfl, h⟩ := hp
    exact t_Desk_sign_b22 C h _ _ _ hM hS (lv_sub hl [] rfl)
theorem d_Desk_about_0 : decode b_Desk_about 0 = .ok (.aload_n 0, 1) := by decide +kernel
theorem d_Desk_about_1 : decode b_Desk_about 1 = .ok (.iload_n 1, 1) := by decide +kernel
theorem d_Desk_about_2 : decode b_Desk_about 2 = .ok (.invokevirtual 83, 3) := by decide +kernel
theorem d_Desk_about_5 : decode b_Desk_about 5 = .ok (.astore_n 3, 1) := by decide +kernel
theorem d_Desk_about_6 : decode b_Desk_about 6 = .ok (.aload_n 3, 1) := by decide +kernel
theorem d_Desk_about_7 : decode b_Desk_about 7 = .ok (.ifnonnull 5, 3) := by decide +kernel
theorem d_Desk_about_10 : decode b_Desk_about 10 = .ok (.iconst (-1), 1) := by decide +kernel
theorem d_Desk_about_11 : decode b_Desk_about 11 = .ok (.ireturn, 1) := by decide +kernel
theorem d_Desk_about_12 : decode b_Desk_about 12 = .ok (.iload_n 2, 1) := by decide +kernel
theorem d_Desk_about_13 : decode b_Desk_about 13 = .ok (.tableswitch 61 0 3 #[31, 36, 41, 53], 31) := by decide +kernel
theorem d_Desk_about_44 : decode b_Desk_about 44 = .ok (.aload_n 3, 1) := by decide +kernel
theorem d_Desk_about_45 : decode b_Desk_about 45 = .ok (.invokevirtual 107, 3) := by decide +kernel
theorem d_Desk_about_48 : decode b_Desk_about 48 = .ok (.ireturn, 1) := by decide +kernel
theorem d_Desk_about_49 : decode b_Desk_about 49 = .ok (.aload_n 3, 1) := by decide +kernel
theorem d_Desk_about_50 : decode b_Desk_about 50 = .ok (.invokevirtual 122, 3) := by decide +kernel
theorem d_Desk_about_53 : decode b_Desk_about 53 = .ok (.ireturn, 1) := by decide +kernel
theorem d_Desk_about_54 : decode b_Desk_about 54 = .ok (.aload_n 0, 1) := by decide +kernel
theorem d_Desk_about_55 : decode b_Desk_about 55 = .ok (.getfield 29, 3) := by decide +kernel
theorem d_Desk_about_58 : decode b_Desk_about 58 = .ok (.aload_n 3, 1) := by decide +kernel
theorem d_Desk_about_59 : decode b_Desk_about 59 = .ok (.invokevirtual 96, 3) := by decide +kernel
theorem d_Desk_about_62 : decode b_Desk_about 62 = .ok (.invokevirtual 125, 3) := by decide +kernel
theorem d_Desk_about_65 : decode b_Desk_about 65 = .ok (.ireturn, 1) := by decide +kernel
theorem d_Desk_about_66 : decode b_Desk_about 66 = .ok (.aload_n 3, 1) := by decide +kernel
theorem d_Desk_about_67 : decode b_Desk_about 67 = .ok (.invokevirtual 96, 3) := by decide +kernel
theorem d_Desk_about_70 : decode b_Desk_about 70 = .ok (.invokevirtual 44, 3) := by decide +kernel
theorem d_Desk_about_73 : decode b_Desk_about 73 = .ok (.ireturn, 1) := by decide +kernel
theorem d_Desk_about_74 : decode b_Desk_about 74 = .ok (.iconst (-1), 1) := by decide +kernel
theorem d_Desk_about_75 : decode b_Desk_about 75 = .ok (.ireturn, 1) := by decide +kernel
abbrev rm_Desk_about : Room := { frames := 4, cells := 0, slots := 0, locals := 95 }
abbrev C_Desk_about (D : va_G) (g : Nat → ClassId) (p : Program) (s : State) (m : MethodId) (args : Array Value) (meth : Method) (c : Code) (M0 : Mem) : Prop := Cx p s m args c b_Desk_about 4 R_Desk BIG D vwCl (tysG g) (mA M0 s.heap.size) ∧ meth.sig.returnType = (some .int) ∧ meth.locks = false
abbrev B_Desk_about (l : Launch) (D : va_G) (p : Program) (e : Env) (s : State) (m : MethodId) (args : Array Value) (below : List Frame) (meth : Method) (c : Code) (M0 : Mem) (P : Int32 → Prop) (M : Mem) (pc : Nat) (lv : List (Nat × Value)) (st : List Value) : Prop := Wb p l e rm_Desk_about s m args below meth c 4 D vwCl M0 (kI fun r M' => M0 = M' ∧ P r) 0 0 M pc lv st
def wp_Desk_about (g : Nat → ClassId) (M : Mem) (x0 : Nat) (x1 : Int32) (x2 : Int32) (P : Int32 → Prop) : Prop :=
  isO M 0 x0 ∧ (wp_Desk_boundAt g M x0 x1 (fun v1 : Option Nat => (v1 = none → (P (-1 : Int32))) ∧ (∀ a3 : Nat, v1 = some a3 → ((x2 = 0 → (isO M 2 a3 ∧ (wp_Bnd_queue g M a3 (fun v5 : Int32 => P v5)))) ∧ (¬ x2 = 0 → ((x2 = 1 → (isO M 2 a3 ∧ (wp_Bnd_routed g M a3 (fun v8 : Int32 => P v8)))) ∧ (¬ x2 = 1 → ((x2 = 2 → (∃ v11 : Nat, gR M 0 x0 3 = some v11 ∧ (isO M 2 a3 ∧ (wp_Bnd_pattern g M a3 (fun v12 : Nat => isO M 4 v11 ∧ (wp_Shelf_countTakenBy g M v11 v12 (fun v14 : Int32 => P v14))))))) ∧ (¬ x2 = 2 → ((x2 = 3 → (isO M 2 a3 ∧ (wp_Bnd_pattern g M a3 (fun v17 : Nat => isO M 1 v17 ∧ (wp_Text_length g M v17 (fun v19 : Int32 => P v19)))))) ∧ (¬ x2 = 3 → (P (-1 : Int32)))))))))))))
set_option maxHeartbeats 4000000 in
set_option maxRecDepth 100000 in
theorem c_Desk_about {l : Launch} {D : va_G} {g : Nat → ClassId} {M : Mem} {x0 : Nat} {x1 : Int32} {x2 : Int32} {P : Int32 → Prop} (h : wp_Desk_about g M x0 x1 x2 P) : mMet l BIG D vwCl (tysG g) y_Desk_about b_Desk_about 4 (some .int) rm_Desk_about [.ref x0, .int x1, .int x2] M (kI fun r M' => M = M' ∧ P r) := by
  refine mMet.of (own := R_Desk) rfl (by decide) rfl (fun p e s m below meth c C hr hlk hnm ls hM hS hl => ?_)
  have C : C_Desk_about D g p s m ([.ref x0, .int x1, .int x2] : List Value).toArray meth c M := ⟨C, hr, hlk⟩
  unfold wp_Desk_about at h
  have hl : lv_has ls 4 [(0, .ref x0), (1, .int x1), (2, .int x2)] := hl
  refine lv_aload_n C.1.1 C.1.2.1 d_Desk_about_0 rfl (lv_at hl 0 rfl) ?_
  refine lv_iload_n C.1.1 C.1.2.1 d_Desk_about_1 rfl (lv_at hl 1 rfl) ?_
  obtain ⟨ho, h⟩ := h
  refine mc_V (As := [.int x1]) (ci := 0) C.1 hM hS bigGood (c_Desk_boundAt h) rfl ho kw239 kw241 kw242 kw123 kw240 hd_Desk_boundAt ⟨by decide, by decide⟩ hl.1 rfl (Nat.le_of_ble_eq_true rfl) d_Desk_about_2 (mc := 0) (ms := 0) rfl rfl ⟨by decide, by decide⟩ (fun v M' H locs hp hM hS => ?_)
  obtain ⟨v1, rfl, rfl, h⟩ := hp
  refine lq_astore_n (lv' := [(3, va_rf v1), (0, .ref x0), (1, .int x1), (2, .int x2)]) C.1.1 C.1.2.1 d_Desk_about_5 rfl hl (by decide) rfl (fun ls hl => ?_)
  refine lq_aload_n C.1.1 C.1.2.1 d_Desk_about_6 rfl (lv_at hl 0 rfl) ?_
  rcases v1 with _ | a3
  · have h := h.1 rfl
    refine lv_ifnonnullN C.1.1 C.1.2.1 d_Desk_about_7 ?_
    refine lv_iconst (v := (-1 : Int32)) C.1.1 C.1.2.1 d_Desk_about_10 (by decide) ?_
    exact mr_I C.1 C.2.1 C.2.2 hM hS ⟨_, rfl, rfl, h⟩ d_Desk_about_11
  · have h := h.2 a3 rfl
    refine lv_ifnonnull (tgt := 12) C.1.1 C.1.2.1 d_Desk_about_7 (by decide) ?_
    refine lv_iload_n C.1.1 C.1.2.1 d_Desk_about_12 rfl (lv_at hl 3 rfl) ?_
    by_cases c4 : x2 = 0
    · have h := h.1 c4
      refine lv_tableIn (tgt := 44) C.1.1 C.1.2.1 d_Desk_about_13 (by rw [c4]; decide) (by rw [c4]; decide) (by rw [c4]; rfl) (by decide) ?_
      refine lv_aload_n C.1.1 C.1.2.1 d_Desk_about_44 rfl (lv_at hl 0 rfl) ?_
      obtain ⟨ho, h⟩ := h
      refine mc_V (As := []) (ci := 2) C.1 hM hS bigGood (c_Bnd_queue h) rfl ho kw300 kw302 kw303 kw136 kw301 hd_Bnd_queue ⟨by decide, by decide⟩ hl.1 rfl (Nat.le_of_ble_eq_true rfl) d_Desk_about_45 (mc := 0) (ms := 0) rfl rfl ⟨by decide, by decide⟩ (fun v M' H locs hp hM hS => ?_)
      obtain ⟨v5, rfl, rfl, h⟩ := hp
      exact mr_I C.1 C.2.1 C.2.2 hM hS ⟨_, rfl, rfl, h⟩ d_Desk_about_48
    · have h := h.2 c4
      by_cases c7 : x2 = 1
      · have h := h.1 c7
        refine lv_tableIn (tgt := 49) C.1.1 C.1.2.1 d_Desk_about_13 (by rw [c7]; decide) (by rw [c7]; decide) (by rw [c7]; rfl) (by decide) ?_
        refine lv_aload_n C.1.1 C.1.2.1 d_Desk_about_49 rfl (lv_at hl 0 rfl) ?_
        obtain ⟨ho, h⟩ := h
        refine mc_V (As := []) (ci := 2) C.1 hM hS bigGood (c_Bnd_routed h) rfl ho kw304 kw306 kw307 kw136 kw305 hd_Bnd_routed ⟨by decide, by decide⟩ hl.1 rfl (Nat.le_of_ble_eq_true rfl) d_Desk_about_50 (mc := 0) (ms := 0) rfl rfl ⟨by decide, by decide⟩ (fun v M' H locs hp hM hS => ?_)
        obtain ⟨v8, rfl, rfl, h⟩ := hp
        exact mr_I C.1 C.2.1 C.2.2 hM hS ⟨_, rfl, rfl, h⟩ d_Desk_about_53
      · have h := h.2 c7
        by_cases c10 : x2 = 2
        · have h := h.1 c10
          refine lv_tableIn (tgt := 54) C.1.1 C.1.2.1 d_Desk_about_13 (by rw [c10]; decide) (by rw [c10]; decide) (by rw [c10]; rfl) (by decide) ?_
          refine lv_aload_n C.1.1 C.1.2.1 d_Desk_about_54 rfl (lv_at hl 1 rfl) ?_
          obtain ⟨v11, ev11, h⟩ := h
          refine mg_R C.1 hM ok_Desk (by decide) kw223 ev11 d_Desk_about_55 ?_
          refine lv_aload_n C.1.1 C.1.2.1 d_Desk_about_58 rfl (lv_at hl 0 rfl) ?_
          obtain ⟨ho, h⟩ := h
          refine mc_V (As := []) (ci := 2) C.1 hM hS bigGood (c_Bnd_pattern h) rfl ho kw247 kw249 kw250 kw136 kw248 hd_Bnd_pattern ⟨by decide, by decide⟩ hl.1 rfl (Nat.le_of_ble_eq_true rfl) d_Desk_about_59 (mc := 0) (ms := 0) rfl rfl ⟨by decide, by decide⟩ (fun v M' H locs hp hM hS => ?_)
          obtain ⟨v12, rfl, rfl, h⟩ := hp
          obtain ⟨ho, h⟩ := h
          refine mc_V (As := [.ref v12]) (ci := 4) C.1 hM hS bigGood (c_Shelf_countTakenBy h) rfl ho kw308 kw310 kw311 kw188 kw309 hd_Shelf_countTakenBy ⟨by decide, by decide⟩ hl.1 rfl (Nat.le_of_ble_eq_true rfl) d_Desk_about_62 (mc := 0) (ms := 0) rfl rfl ⟨by decide, by decide⟩ (fun v M' H locs hp hM hS => ?_)
          obtain ⟨v14, rfl, rfl, h⟩ := hp
          exact mr_I C.1 C.2.1 C.2.2 hM hS ⟨_, rfl, rfl, h⟩ d_Desk_about_65
        · have h := h.2 c10
          by_cases c16 : x2 = 3
          · have h := h.1 c16
            refine lv_tableIn (tgt := 66) C.1.1 C.1.2.1 d_Desk_about_13 (by rw [c16]; decide) (by rw [c16]; decide) (by rw [c16]; rfl) (by decide) ?_
            refine lv_aload_n C.1.1 C.1.2.1 d_Desk_about_66 rfl (lv_at hl 0 rfl) ?_
            obtain ⟨ho, h⟩ := h
            refine mc_V (As := []) (ci := 2) C.1 hM hS bigGood (c_Bnd_pattern h) rfl ho kw247 kw249 kw250 kw136 kw248 hd_Bnd_pattern ⟨by decide, by decide⟩ hl.1 rfl (Nat.le_of_ble_eq_true rfl) d_Desk_about_67 (mc := 0) (ms := 0) rfl rfl ⟨by decide, by decide⟩ (fun v M' H locs hp hM hS => ?_)
            obtain ⟨v17, rfl, rfl, h⟩ := hp
            obtain ⟨ho, h⟩ := h
            refine mc_V (As := []) (ci := 1) C.1 hM hS bigGood (c_Text_length h) rfl ho kw129 kw131 kw132 kw107 kw130 hd_Text_length ⟨by decide, by decide⟩ hl.1 rfl (Nat.le_of_ble_eq_true rfl) d_Desk_about_70 (mc := 0) (ms := 0) rfl rfl ⟨by decide, by decide⟩ (fun v M' H locs hp hM hS => ?_)
            obtain ⟨v19, rfl, rfl, h⟩ := hp
            exact mr_I C.1 C.2.1 C.2.2 hM hS ⟨_, rfl, rfl, h⟩ d_Desk_about_73
          · have h := h.2 c16
            have hto : x2.toInt < 0 ∨ 3 < x2.toInt := by
              refine tab_out 0 3 (fun k h1 h2 hk => ?_)
              rcases (show k = 0 ∨ k = 1 ∨ k = 2 ∨ k = 3 by omega) with rfl | rfl | rfl | rfl
              · exact c4 (hk.trans (by decide))
              · exact c7 (hk.trans (by decide))
              · exact c10 (hk.trans (by decide))
              · exact c16 (hk.trans (by decide))
            refine lv_tableOut (tgt := 74) C.1.1 C.1.2.1 d_Desk_about_13 hto (by decide) ?_
            refine lv_iconst (v := (-1 : Int32)) C.1.1 C.1.2.1 d_Desk_about_74 (by decide) ?_
            exact mr_I C.1 C.2.1 C.2.2 hM hS ⟨_, rfl, rfl, h⟩ d_Desk_about_75
theorem d_Desk_takeTape_0 : decode b_Desk_takeTape 0 = .ok (.aload_n 0, 1) := by decide +kernel
theorem d_Desk_takeTape_1 : decode b_Desk_takeTape 1 = .ok (.getfield 16, 3) := by decide +kernel
theorem d_Desk_takeTape_4 : decode b_Desk_takeTape 4 = .ok (.aload_n 0, 1) := by decide +kernel
theorem d_Desk_takeTape_5 : decode b_Desk_takeTape 5 = .ok (.getfield 10, 3) := by decide +kernel
theorem d_Desk_takeTape_8 : decode b_Desk_takeTape 8 = .ok (.invokevirtual 155, 3) := by decide +kernel
theorem d_Desk_takeTape_11 : decode b_Desk_takeTape 11 = .ok (.aload_n 0, 1) := by decide +kernel
theorem d_Desk_takeTape_12 : decode b_Desk_takeTape 12 = .ok (.getfield 10, 3) := by decide +kernel
theorem d_Desk_takeTape_15 : decode b_Desk_takeTape 15 = .ok (.invokevirtual 159, 3) := by decide +kernel
theorem d_Desk_takeTape_18 : decode b_Desk_takeTape 18 = .ok (.aload_n 0, 1) := by decide +kernel
theorem d_Desk_takeTape_19 : decode b_Desk_takeTape 19 = .ok (.aload_n 0, 1) := by decide +kernel
theorem d_Desk_takeTape_20 : decode b_Desk_takeTape 20 = .ok (.getfield 16, 3) := by decide +kernel
theorem d_Desk_takeTape_23 : decode b_Desk_takeTape 23 = .ok (.iload_n 1, 1) := by decide +kernel
theorem d_Desk_takeTape_24 : decode b_Desk_takeTape 24 = .ok (.invokevirtual 162, 3) := by decide +kernel
theorem d_Desk_takeTape_27 : decode b_Desk_takeTape 27 = .ok (.putfield 40, 3) := by decide +kernel
theorem d_Desk_takeTape_30 : decode b_Desk_takeTape 30 = .ok (.aload_n 0, 1) := by decide +kernel
theorem d_Desk_takeTape_31 : decode b_Desk_takeTape 31 = .ok (.getfield 40, 3) := by decide +kernel
theorem d_Desk_takeTape_34 : decode b_Desk_takeTape 34 = .ok (.iconst (-1), 1) := by decide +kernel
theorem d_Desk_takeTape_35 : decode b_Desk_takeTape 35 = .ok (.if_icmp .ne 7, 3) := by decide +kernel
theorem d_Desk_takeTape_38 : decode b_Desk_takeTape 38 = .ok (.iconst 1, 1) := by decide +kernel
theorem d_Desk_takeTape_39 : decode b_Desk_takeTape 39 = .ok (.goto 4, 3) := by decide +kernel
theorem d_Desk_takeTape_42 : decode b_Desk_takeTape 42 = .ok (.iconst 0, 1) := by decide +kernel
theorem d_Desk_takeTape_43 : decode b_Desk_takeTape 43 = .ok (.ireturn, 1) := by decide +kernel
abbrev rm_Desk_takeTape : Room := { frames := 3, cells := 0, slots := 0, locals := 69 }
abbrev C_Desk_takeTape (D : va_G) (g : Nat → ClassId) (p : Program) (s : State) (m : MethodId) (args : Array Value) (meth : Method) (c : Code) (M0 : Mem) : Prop := Cx p s m args c b_Desk_takeTape 2 R_Desk BIG D vwCl (tysG g) (mA M0 s.heap.size) ∧ meth.sig.returnType = (some .boolean) ∧ meth.locks = false
abbrev B_Desk_takeTape (l : Launch) (D : va_G) (p : Program) (e : Env) (s : State) (m : MethodId) (args : Array Value) (below : List Frame) (meth : Method) (c : Code) (M0 : Mem) (P : Int32 → Mem → Prop) (M : Mem) (pc : Nat) (lv : List (Nat × Value)) (st : List Value) : Prop := Wb p l e rm_Desk_takeTape s m args below meth c 2 D vwCl M0 (kI fun r M' => P r M') 0 0 M pc lv st
def wp_Desk_takeTape_b43 (g : Nat → ClassId) (P : Int32 → Mem → Prop) (M : Mem) (t0 : Int32) : Prop :=
  isB t0 ∧ P t0 M
set_option maxHeartbeats 4000000 in
set_option maxRecDepth 100000 in
theorem t_Desk_takeTape_b43 {l : Launch} {D : va_G} {g : Nat → ClassId} {p : Program} {e : Env} {s : State} {m : MethodId} {args : Array Value} {below : List Frame} {meth : Method} {c : Code} {M0 : Mem} {P : Int32 → Mem → Prop} {M : Mem} {t0 : Int32} (C : C_Desk_takeTape D g p s m args meth c M0) (h : wp_Desk_takeTape_b43 g P M t0) : B_Desk_takeTape l D p e s m args below meth c M0 P M 43 [] [.int t0] := by
  intro ls H locs hM hS hl
  unfold wp_Desk_takeTape_b43 at h
  exact mr_Z C.1 C.2.1 C.2.2 h.1 hM hS ⟨_, rfl, h.2⟩ d_Desk_takeTape_43
def wp_Desk_takeTape (g : Nat → ClassId) (M : Mem) (x0 : Nat) (x1 : Int32) (P : Int32 → Mem → Prop) : Prop :=
  ∃ v1 : Nat, gR M 0 x0 1 = some v1 ∧ (∃ v2 : Nat, gR M 0 x0 0 = some v2 ∧ (isO M 1 v1 ∧ (wp_Text_copy g M v1 v2 (fun (M4 : Mem) => ∃ v5 : Nat, gR M4 0 x0 0 = some v5 ∧ (isO M4 1 v5 ∧ (wp_Text_clear g M4 v5 (fun (M7 : Mem) => ∃ v8 : Nat, gR M7 0 x0 1 = some v8 ∧ (isO M7 1 v8 ∧ (wp_Text_read g M7 v8 x1 (fun (v9 : Int32) (M10 : Mem) => ∃ M11 : Mem, pV M10 0 x0 5 (.int v9) = some M11 ∧ (∃ v12 : Int32, gI M11 0 x0 5 = some v12 ∧ ((v12 = (-1 : Int32) → (wp_Desk_takeTape_b43 g P M11 (1 : Int32))) ∧ (¬ v12 = (-1 : Int32) → (wp_Desk_takeTape_b43 g P M11 (0 : Int32)))))))))))))))
set_option maxHeartbeats 4000000 in
set_option maxRecDepth 100000 in
theorem c_Desk_takeTape {l : Launch} {D : va_G} {g : Nat → ClassId} {M : Mem} {x0 : Nat} {x1 : Int32} {P : Int32 → Mem → Prop} (h : wp_Desk_takeTape g M x0 x1 P) : mMet l BIG D vwCl (tysG g) y_Desk_takeTape b_Desk_takeTape 2 (some .boolean) rm_Desk_takeTape [.ref x0, .int x1] M (kI fun r M' => P r M') := by
  refine mMet.of (own := R_Desk) rfl (by decide) rfl (fun p e s m below meth c C hr hlk hnm ls hM hS hl => ?_)
  have C : C_Desk_takeTape D g p s m ([.ref x0, .int x1] : List Value).toArray meth c M := ⟨C, hr, hlk⟩
  unfold wp_Desk_takeTape at h
  have hl : lv_has ls 2 [(0, .ref x0), (1, .int x1)] := hl
  refine lv_aload_n C.1.1 C.1.2.1 d_Desk_takeTape_0 rfl (lv_at hl 0 rfl) ?_
  obtain ⟨v1, ev1, h⟩ := h
  refine mg_R C.1 hM ok_Desk (by decide) kw238 ev1 d_Desk_takeTape_1 ?_
  refine lv_aload_n C.1.1 C.1.2.1 d_Desk_takeTape_4 rfl (lv_at hl 0 rfl) ?_
  obtain ⟨v2, ev2, h⟩ := h
  refine mg_R C.1 hM ok_Desk (by decide) kw120 ev2 d_Desk_takeTape_5 ?_
  obtain ⟨ho, h⟩ := h
  refine mc_V (As := [.ref v2]) (ci := 1) C.1 hM hS bigGood (c_Text_copy h) rfl ho kw323 kw254 kw255 kw107 kw253 hd_Text_copy ⟨by decide, by decide⟩ hl.1 rfl (Nat.le_of_ble_eq_true rfl) d_Desk_takeTape_8 (mc := 0) (ms := 0) rfl rfl ⟨by decide, by decide⟩ (fun v M4 H locs hp hM hS => ?_)
  obtain ⟨rfl, h⟩ := hp
  refine lv_aload_n C.1.1 C.1.2.1 d_Desk_takeTape_11 rfl (lv_at hl 0 rfl) ?_
  obtain ⟨v5, ev5, h⟩ := h
  refine mg_R C.1 hM ok_Desk (by decide) kw120 ev5 d_Desk_takeTape_12 ?_
  obtain ⟨ho, h⟩ := h
  refine mc_V (As := []) (ci := 1) C.1 hM hS bigGood (c_Text_clear h) rfl ho kw324 kw198 kw199 kw107 kw197 hd_Text_clear ⟨by decide, by decide⟩ hl.1 rfl (Nat.le_of_ble_eq_true rfl) d_Desk_takeTape_15 (mc := 0) (ms := 0) rfl rfl ⟨by decide, by decide⟩ (fun v M7 H locs hp hM hS => ?_)
  obtain ⟨rfl, h⟩ := hp
  refine lv_aload_n C.1.1 C.1.2.1 d_Desk_takeTape_18 rfl (lv_at hl 0 rfl) ?_
  refine lv_aload_n C.1.1 C.1.2.1 d_Desk_takeTape_19 rfl (lv_at hl 0 rfl) ?_
  obtain ⟨v8, ev8, h⟩ := h
  refine mg_R C.1 hM ok_Desk (by decide) kw238 ev8 d_Desk_takeTape_20 ?_
  refine lv_iload_n C.1.1 C.1.2.1 d_Desk_takeTape_23 rfl (lv_at hl 1 rfl) ?_
  obtain ⟨ho, h⟩ := h
  refine mc_V (As := [.int x1]) (ci := 1) C.1 hM hS bigGood (c_Text_read h) rfl ho kw325 kw327 kw328 kw107 kw326 hd_Text_read ⟨by decide, by decide⟩ hl.1 rfl (Nat.le_of_ble_eq_true rfl) d_Desk_takeTape_24 (mc := 0) (ms := 0) rfl rfl ⟨by decide, by decide⟩ (fun v M10 H locs hp hM hS => ?_)
  obtain ⟨v9, rfl, h⟩ := hp
  obtain ⟨M11, eM11, h⟩ := h
  refine mp_V C.1 hM hS ok_Desk (by decide) kw0 rfl rfl rfl eM11 d_Desk_takeTape_27 (fun H locs hM hS => ?_)
  refine lv_aload_n C.1.1 C.1.2.1 d_Desk_takeTape_30 rfl (lv_at hl 0 rfl) ?_
  obtain ⟨v12, ev12, h⟩ := h
  refine mg_I C.1 hM ok_Desk (by decide) kw0 ev12 d_Desk_takeTape_31 ?_
  refine lv_iconst (v := (-1 : Int32)) C.1.1 C.1.2.1 d_Desk_takeTape_34 (by decide) ?_
  refine lv_icmp_ne (tgt := 42) C.1.1 C.1.2.1 d_Desk_takeTape_35 (by decide) (fun c13 => ?_) (fun c13 => ?_)
  · have h := h.2 c13
    refine lv_iconst (v := (0 : Int32)) C.1.1 C.1.2.1 d_Desk_takeTape_42 (by decide) ?_
    exact t_Desk_takeTape_b43 C h _ _ _ hM hS (lv_sub hl [] rfl)
  · have h := h.1 c13
    refine lv_iconst (v := (1 : Int32)) C.1.1 C.1.2.1 d_Desk_takeTape_38 (by decide) ?_
    refine lv_goto (tgt := 43) C.1.1 C.1.2.1 d_Desk_takeTape_39 (by decide) ?_
    exact t_Desk_takeTape_b43 C h _ _ _ hM hS (lv_sub hl [] rfl)
theorem d_Desk_fewestWords_0 : decode b_Desk_fewestWords 0 = .ok (.aload_n 0, 1) := by decide +kernel
theorem d_Desk_fewestWords_1 : decode b_Desk_fewestWords 1 = .ok (.iload_n 1, 1) := by decide +kernel
theorem d_Desk_fewestWords_2 : decode b_Desk_fewestWords 2 = .ok (.invokevirtual 83, 3) := by decide +kernel
theorem d_Desk_fewestWords_5 : decode b_Desk_fewestWords 5 = .ok (.astore 4, 2) := by decide +kernel
theorem d_Desk_fewestWords_7 : decode b_Desk_fewestWords 7 = .ok (.aload_n 0, 1) := by decide +kernel
theorem d_Desk_fewestWords_8 : decode b_Desk_fewestWords 8 = .ok (.iload_n 2, 1) := by decide +kernel
theorem d_Desk_fewestWords_9 : decode b_Desk_fewestWords 9 = .ok (.invokevirtual 83, 3) := by decide +kernel
theorem d_Desk_fewestWords_12 : decode b_Desk_fewestWords 12 = .ok (.astore 5, 2) := by decide +kernel
theorem d_Desk_fewestWords_14 : decode b_Desk_fewestWords 14 = .ok (.aload 4, 2) := by decide +kernel
theorem d_Desk_fewestWords_16 : decode b_Desk_fewestWords 16 = .ok (.ifnull 8, 3) := by decide +kernel
theorem d_Desk_fewestWords_19 : decode b_Desk_fewestWords 19 = .ok (.aload 5, 2) := by decide +kernel
theorem d_Desk_fewestWords_21 : decode b_Desk_fewestWords 21 = .ok (.ifnonnull 5, 3) := by decide +kernel
theorem d_Desk_fewestWords_24 : decode b_Desk_fewestWords 24 = .ok (.iconst (-1), 1) := by decide +kernel
theorem d_Desk_fewestWords_25 : decode b_Desk_fewestWords 25 = .ok (.ireturn, 1) := by decide +kernel
theorem d_Desk_fewestWords_26 : decode b_Desk_fewestWords 26 = .ok (.aload_n 0, 1) := by decide +kernel
theorem d_Desk_fewestWords_27 : decode b_Desk_fewestWords 27 = .ok (.getfield 36, 3) := by decide +kernel
theorem d_Desk_fewestWords_30 : decode b_Desk_fewestWords 30 = .ok (.aload 4, 2) := by decide +kernel
theorem d_Desk_fewestWords_32 : decode b_Desk_fewestWords 32 = .ok (.invokevirtual 96, 3) := by decide +kernel
theorem d_Desk_fewestWords_35 : decode b_Desk_fewestWords 35 = .ok (.aload 5, 2) := by decide +kernel
theorem d_Desk_fewestWords_37 : decode b_Desk_fewestWords 37 = .ok (.invokevirtual 96, 3) := by decide +kernel
theorem d_Desk_fewestWords_40 : decode b_Desk_fewestWords 40 = .ok (.iload_n 3, 1) := by decide +kernel
theorem d_Desk_fewestWords_41 : decode b_Desk_fewestWords 41 = .ok (.invokevirtual 166, 3) := by decide +kernel
theorem d_Desk_fewestWords_44 : decode b_Desk_fewestWords 44 = .ok (.ireturn, 1) := by decide +kernel
abbrev rm_Desk_fewestWords : Room := { frames := 3, cells := 0, slots := 0, locals := 78 }
abbrev C_Desk_fewestWords (D : va_G) (g : Nat → ClassId) (p : Program) (s : State) (m : MethodId) (args : Array Value) (meth : Method) (c : Code) (M0 : Mem) : Prop := Cx p s m args c b_Desk_fewestWords 6 R_Desk BIG D vwCl (tysG g) (mA M0 s.heap.size) ∧ meth.sig.returnType = (some .int) ∧ meth.locks = false
abbrev B_Desk_fewestWords (l : Launch) (D : va_G) (p : Program) (e : Env) (s : State) (m : MethodId) (args : Array Value) (below : List Frame) (meth : Method) (c : Code) (M0 : Mem) (P : Int32 → Mem → Prop) (M : Mem) (pc : Nat) (lv : List (Nat × Value)) (st : List Value) : Prop := Wb p l e rm_Desk_fewestWords s m args below meth c 6 D vwCl M0 (kI fun r M' => P r M') 0 0 M pc lv st
def wp_Desk_fewestWords_b24 (g : Nat → ClassId) (P : Int32 → Mem → Prop) (M : Mem) : Prop :=
  P (-1 : Int32) M
set_option maxHeartbeats 4000000 in
set_option maxRecDepth 100000 in
theorem t_Desk_fewestWords_b24 {l : Launch} {D : va_G} {g : Nat → ClassId} {p : Program} {e : Env} {s : State} {m : MethodId} {args : Array Value} {below : List Frame} {meth : Method} {c : Code} {M0 : Mem} {P : Int32 → Mem → Prop} {M : Mem} (C : C_Desk_fewestWords D g p s m args meth c M0) (h : wp_Desk_fewestWords_b24 g P M ) : B_Desk_fewestWords l D p e s m args below meth c M0 P M 24 [] [] := by
  intro ls H locs hM hS hl
  unfold wp_Desk_fewestWords_b24 at h
  refine lv_iconst (v := (-1 : Int32)) C.1.1 C.1.2.1 d_Desk_fewestWords_24 (by decide) ?_
  exact mr_I C.1 C.2.1 C.2.2 hM hS ⟨_, rfl, h⟩ d_Desk_fewestWords_25
def wp_Desk_fewestWords (g : Nat → ClassId) (M : Mem) (x0 : Nat) (x1 : Int32) (x2 : Int32) (x3 : Int32) (P : Int32 → Mem → Prop) : Prop :=
  isO M 0 x0 ∧ (wp_Desk_boundAt g M x0 x1 (fun v1 : Option Nat => isO M 0 x0 ∧ (wp_Desk_boundAt g M x0 x2 (fun v3 : Option Nat => (v1 = none → (wp_Desk_fewestWords_b24 g P M)) ∧ (∀ a5 : Nat, v1 = some a5 → ((v3 = none → (wp_Desk_fewestWords_b24 g P M)) ∧ (∀ a6 : Nat, v3 = some a6 → (∃ v7 : Nat, gR M 0 x0 4 = some v7 ∧ (isO M 2 a5 ∧ (wp_Bnd_pattern g M a5 (fun v8 : Nat => isO M 2 a6 ∧ (wp_Bnd_pattern g M a6 (fun v10 : Nat => isO M 5 v7 ∧ (wp_Rs_fewestWords g M v7 v8 v10 x3 (fun (v12 : Int32) (M13 : Mem) => P v12 M13)))))))))))))))
set_option maxHeartbeats 4000000 in
set_option maxRecDepth 100000 in
theorem c_Desk_fewestWords {l : Launch} {D : va_G} {g : Nat → ClassId} {M : Mem} {x0 : Nat} {x1 : Int32} {x2 : Int32} {x3 : Int32} {P : Int32 → Mem → Prop} (h : wp_Desk_fewestWords g M x0 x1 x2 x3 P) : mMet l BIG D vwCl (tysG g) y_Desk_fewestWords b_Desk_fewestWords 6 (some .int) rm_Desk_fewestWords [.ref x0, .int x1, .int x2, .int x3] M (kI fun r M' => P r M') := by
  refine mMet.of (own := R_Desk) rfl (by decide) rfl (fun p e s m below meth c C hr hlk hnm ls hM hS hl => ?_)
  have C : C_Desk_fewestWords D g p s m ([.ref x0, .int x1, .int x2, .int x3] : List Value).toArray meth c M := ⟨C, hr, hlk⟩
  unfold wp_Desk_fewestWords at h
  have hl : lv_has ls 6 [(0, .ref x0), (1, .int x1), (2, .int x2), (3, .int x3)] := hl
  refine lv_aload_n C.1.1 C.1.2.1 d_Desk_fewestWords_0 rfl (lv_at hl 0 rfl) ?_
  refine lv_iload_n C.1.1 C.1.2.1 d_Desk_fewestWords_1 rfl (lv_at hl 1 rfl) ?_
  obtain ⟨ho, h⟩ := h
  refine mc_V (As := [.int x1]) (ci := 0) C.1 hM hS bigGood (c_Desk_boundAt h) rfl ho kw239 kw241 kw242 kw123 kw240 hd_Desk_boundAt ⟨by decide, by decide⟩ hl.1 rfl (Nat.le_of_ble_eq_true rfl) d_Desk_fewestWords_2 (mc := 0) (ms := 0) rfl rfl ⟨by decide, by decide⟩ (fun v M' H locs hp hM hS => ?_)
  obtain ⟨v1, rfl, rfl, h⟩ := hp
  refine lq_astore (lv' := [(4, va_rf v1), (0, .ref x0), (1, .int x1), (2, .int x2), (3, .int x3)]) C.1.1 C.1.2.1 d_Desk_fewestWords_5 hl (by decide) rfl (fun ls hl => ?_)
  refine lv_aload_n C.1.1 C.1.2.1 d_Desk_fewestWords_7 rfl (lv_at hl 1 rfl) ?_
  refine lv_iload_n C.1.1 C.1.2.1 d_Desk_fewestWords_8 rfl (lv_at hl 3 rfl) ?_
  obtain ⟨ho, h⟩ := h
  refine mc_V (As := [.int x2]) (ci := 0) C.1 hM hS bigGood (c_Desk_boundAt h) rfl ho kw239 kw241 kw242 kw123 kw240 hd_Desk_boundAt ⟨by decide, by decide⟩ hl.1 rfl (Nat.le_of_ble_eq_true rfl) d_Desk_fewestWords_9 (mc := 0) (ms := 0) rfl rfl ⟨by decide, by decide⟩ (fun v M' H locs hp hM hS => ?_)
  obtain ⟨v3, rfl, rfl, h⟩ := hp
  refine lq_astore (lv' := [(5, va_rf v3), (4, va_rf v1), (0, .ref x0), (1, .int x1), (2, .int x2), (3, .int x3)]) C.1.1 C.1.2.1 d_Desk_fewestWords_12 hl (by decide) (by cases v1 <;> rfl) (fun ls hl => ?_)
  refine lq_aload C.1.1 C.1.2.1 d_Desk_fewestWords_14 (lv_at hl 1 rfl) ?_
  rcases v1 with _ | a5
  · have h := h.1 rfl
    refine lv_ifnullN (tgt := 24) C.1.1 C.1.2.1 d_Desk_fewestWords_16 (by decide) ?_
    exact t_Desk_fewestWords_b24 C h _ _ _ hM hS (lv_sub hl [] rfl)
  · have h := h.2 a5 rfl
    refine lv_ifnull C.1.1 C.1.2.1 d_Desk_fewestWords_16 ?_
    refine lq_aload C.1.1 C.1.2.1 d_Desk_fewestWords_19 (lv_at hl 0 rfl) ?_
    rcases v3 with _ | a6
    · have h := h.1 rfl
      refine lv_ifnonnullN C.1.1 C.1.2.1 d_Desk_fewestWords_21 ?_
      exact t_Desk_fewestWords_b24 C h _ _ _ hM hS (lv_sub hl [] rfl)
    · have h := h.2 a6 rfl
      refine lv_ifnonnull (tgt := 26) C.1.1 C.1.2.1 d_Desk_fewestWords_21 (by decide) ?_
      refine lv_aload_n C.1.1 C.1.2.1 d_Desk_fewestWords_26 rfl (lv_at hl 2 rfl) ?_
      obtain ⟨v7, ev7, h⟩ := h
      refine mg_R C.1 hM ok_Desk (by decide) kw229 ev7 d_Desk_fewestWords_27 ?_
      refine lv_aload C.1.1 C.1.2.1 d_Desk_fewestWords_30 (lv_at hl 1 rfl) ?_
      obtain ⟨ho, h⟩ := h
      refine mc_V (As := []) (ci := 2) C.1 hM hS bigGood (c_Bnd_pattern h) rfl ho kw247 kw249 kw250 kw136 kw248 hd_Bnd_pattern ⟨by decide, by decide⟩ hl.1 rfl (Nat.le_of_ble_eq_true rfl) d_Desk_fewestWords_32 (mc := 0) (ms := 0) rfl rfl ⟨by decide, by decide⟩ (fun v M' H locs hp hM hS => ?_)
      obtain ⟨v8, rfl, rfl, h⟩ := hp
      refine lv_aload C.1.1 C.1.2.1 d_Desk_fewestWords_35 (lv_at hl 0 rfl) ?_
      obtain ⟨ho, h⟩ := h
      refine mc_V (As := []) (ci := 2) C.1 hM hS bigGood (c_Bnd_pattern h) rfl ho kw247 kw249 kw250 kw136 kw248 hd_Bnd_pattern ⟨by decide, by decide⟩ hl.1 rfl (Nat.le_of_ble_eq_true rfl) d_Desk_fewestWords_37 (mc := 0) (ms := 0) rfl rfl ⟨by decide, by decide⟩ (fun v M' H locs hp hM hS => ?_)
      obtain ⟨v10, rfl, rfl, h⟩ := hp
      refine lv_iload_n C.1.1 C.1.2.1 d_Desk_fewestWords_40 rfl (lv_at hl 5 rfl) ?_
      obtain ⟨ho, h⟩ := h
      refine mc_V (As := [.ref v8, .ref v10, .int x3]) (ci := 5) C.1 hM hS bigGood (c_Rs_fewestWords h) rfl ho kw329 kw331 kw332 kw164 kw330 hd_Rs_fewestWords ⟨by decide, by decide⟩ hl.1 rfl (Nat.le_of_ble_eq_true rfl) d_Desk_fewestWords_41 (mc := 0) (ms := 0) rfl rfl ⟨by decide, by decide⟩ (fun v M13 H locs hp hM hS => ?_)
      obtain ⟨v12, rfl, h⟩ := hp
      exact mr_I C.1 C.2.1 C.2.2 hM hS ⟨_, rfl, h⟩ d_Desk_fewestWords_44
