theorem d_Mod_spare_0 : decode b_Mod_spare 0 = .ok (.aload_n 0, 1) := by decide +kernel
theorem d_Mod_spare_1 : decode b_Mod_spare 1 = .ok (.iconst 0, 1) := by decide +kernel
theorem d_Mod_spare_2 : decode b_Mod_spare 2 = .ok (.putfield 63, 3) := by decide +kernel
theorem d_Mod_spare_5 : decode b_Mod_spare 5 = .ok (.iconst 0, 1) := by decide +kernel
theorem d_Mod_spare_6 : decode b_Mod_spare 6 = .ok (.istore_n 2, 1) := by decide +kernel
theorem d_Mod_spare_7 : decode b_Mod_spare 7 = .ok (.iload_n 1, 1) := by decide +kernel
theorem d_Mod_spare_8 : decode b_Mod_spare 8 = .ok (.ifCond .ge 5, 3) := by decide +kernel
theorem d_Mod_spare_11 : decode b_Mod_spare 11 = .ok (.iconst 0, 1) := by decide +kernel
theorem d_Mod_spare_12 : decode b_Mod_spare 12 = .ok (.ireturn, 1) := by decide +kernel
theorem d_Mod_spare_13 : decode b_Mod_spare 13 = .ok (.iconst 0, 1) := by decide +kernel
theorem d_Mod_spare_14 : decode b_Mod_spare 14 = .ok (.istore_n 3, 1) := by decide +kernel
theorem d_Mod_spare_15 : decode b_Mod_spare 15 = .ok (.iload_n 3, 1) := by decide +kernel
theorem d_Mod_spare_16 : decode b_Mod_spare 16 = .ok (.bipush 24, 2) := by decide +kernel
theorem d_Mod_spare_18 : decode b_Mod_spare 18 = .ok (.if_icmp .ge 110, 3) := by decide +kernel
theorem d_Mod_spare_21 : decode b_Mod_spare 21 = .ok (.iconst 0, 1) := by decide +kernel
theorem d_Mod_spare_22 : decode b_Mod_spare 22 = .ok (.istore 4, 2) := by decide +kernel
theorem d_Mod_spare_24 : decode b_Mod_spare 24 = .ok (.iconst 0, 1) := by decide +kernel
theorem d_Mod_spare_25 : decode b_Mod_spare 25 = .ok (.istore 5, 2) := by decide +kernel
theorem d_Mod_spare_27 : decode b_Mod_spare 27 = .ok (.iload 5, 2) := by decide +kernel
theorem d_Mod_spare_29 : decode b_Mod_spare 29 = .ok (.bipush 24, 2) := by decide +kernel
theorem d_Mod_spare_31 : decode b_Mod_spare 31 = .ok (.if_icmp .ge 76, 3) := by decide +kernel
theorem d_Mod_spare_34 : decode b_Mod_spare 34 = .ok (.aload_n 0, 1) := by decide +kernel
theorem d_Mod_spare_35 : decode b_Mod_spare 35 = .ok (.getfield 24, 3) := by decide +kernel
theorem d_Mod_spare_38 : decode b_Mod_spare 38 = .ok (.iload_n 3, 1) := by decide +kernel
theorem d_Mod_spare_39 : decode b_Mod_spare 39 = .ok (.iaload, 1) := by decide +kernel
theorem d_Mod_spare_40 : decode b_Mod_spare 40 = .ok (.iload_n 1, 1) := by decide +kernel
theorem d_Mod_spare_41 : decode b_Mod_spare 41 = .ok (.if_icmp .ne 66, 3) := by decide +kernel
theorem d_Mod_spare_44 : decode b_Mod_spare 44 = .ok (.iload 4, 2) := by decide +kernel
theorem d_Mod_spare_46 : decode b_Mod_spare 46 = .ok (.ifCond .ne 61, 3) := by decide +kernel
theorem d_Mod_spare_49 : decode b_Mod_spare 49 = .ok (.iload 5, 2) := by decide +kernel
theorem d_Mod_spare_51 : decode b_Mod_spare 51 = .ok (.iload_n 3, 1) := by decide +kernel
theorem d_Mod_spare_52 : decode b_Mod_spare 52 = .ok (.if_icmp .eq 46, 3) := by decide +kernel
theorem d_Mod_spare_55 : decode b_Mod_spare 55 = .ok (.aload_n 0, 1) := by decide +kernel
theorem d_Mod_spare_56 : decode b_Mod_spare 56 = .ok (.getfield 24, 3) := by decide +kernel
theorem d_Mod_spare_59 : decode b_Mod_spare 59 = .ok (.iload 5, 2) := by decide +kernel
theorem d_Mod_spare_61 : decode b_Mod_spare 61 = .ok (.iaload, 1) := by decide +kernel
theorem d_Mod_spare_62 : decode b_Mod_spare 62 = .ok (.iload_n 1, 1) := by decide +kernel
theorem d_Mod_spare_63 : decode b_Mod_spare 63 = .ok (.if_icmp .ne 35, 3) := by decide +kernel
theorem d_Mod_spare_66 : decode b_Mod_spare 66 = .ok (.aload_n 0, 1) := by decide +kernel
theorem d_Mod_spare_67 : decode b_Mod_spare 67 = .ok (.iload_n 3, 1) := by decide +kernel
theorem d_Mod_spare_68 : decode b_Mod_spare 68 = .ok (.iload 5, 2) := by decide +kernel
theorem d_Mod_spare_70 : decode b_Mod_spare 70 = .ok (.iconst 0, 1) := by decide +kernel
theorem d_Mod_spare_71 : decode b_Mod_spare 71 = .ok (.invokevirtual 142, 3) := by decide +kernel
theorem d_Mod_spare_74 : decode b_Mod_spare 74 = .ok (.ifCond .ne 24, 3) := by decide +kernel
theorem d_Mod_spare_77 : decode b_Mod_spare 77 = .ok (.iload 5, 2) := by decide +kernel
theorem d_Mod_spare_79 : decode b_Mod_spare 79 = .ok (.iload_n 3, 1) := by decide +kernel
theorem d_Mod_spare_80 : decode b_Mod_spare 80 = .ok (.if_icmp .lt 14, 3) := by decide +kernel
theorem d_Mod_spare_83 : decode b_Mod_spare 83 = .ok (.aload_n 0, 1) := by decide +kernel
theorem d_Mod_spare_84 : decode b_Mod_spare 84 = .ok (.iload 5, 2) := by decide +kernel
theorem d_Mod_spare_86 : decode b_Mod_spare 86 = .ok (.iload_n 3, 1) := by decide +kernel
theorem d_Mod_spare_87 : decode b_Mod_spare 87 = .ok (.iconst 0, 1) := by decide +kernel
theorem d_Mod_spare_88 : decode b_Mod_spare 88 = .ok (.invokevirtual 142, 3) := by decide +kernel
theorem d_Mod_spare_91 : decode b_Mod_spare 91 = .ok (.ifCond .le 7, 3) := by decide +kernel
theorem d_Mod_spare_94 : decode b_Mod_spare 94 = .ok (.iconst 1, 1) := by decide +kernel
theorem d_Mod_spare_95 : decode b_Mod_spare 95 = .ok (.goto 4, 3) := by decide +kernel
theorem d_Mod_spare_98 : decode b_Mod_spare 98 = .ok (.iconst 0, 1) := by decide +kernel
theorem d_Mod_spare_99 : decode b_Mod_spare 99 = .ok (.istore 4, 2) := by decide +kernel
theorem d_Mod_spare_101 : decode b_Mod_spare 101 = .ok (.iinc 5 1, 3) := by decide +kernel
theorem d_Mod_spare_104 : decode b_Mod_spare 104 = .ok (.goto (-77), 3) := by decide +kernel
theorem d_Mod_spare_107 : decode b_Mod_spare 107 = .ok (.iload_n 2, 1) := by decide +kernel
theorem d_Mod_spare_108 : decode b_Mod_spare 108 = .ok (.iload 4, 2) := by decide +kernel
theorem d_Mod_spare_110 : decode b_Mod_spare 110 = .ok (.ifCond .eq 9, 3) := by decide +kernel
theorem d_Mod_spare_113 : decode b_Mod_spare 113 = .ok (.iconst 1, 1) := by decide +kernel
theorem d_Mod_spare_114 : decode b_Mod_spare 114 = .ok (.iload_n 3, 1) := by decide +kernel
theorem d_Mod_spare_115 : decode b_Mod_spare 115 = .ok (.ishl, 1) := by decide +kernel
theorem d_Mod_spare_116 : decode b_Mod_spare 116 = .ok (.goto 4, 3) := by decide +kernel
theorem d_Mod_spare_119 : decode b_Mod_spare 119 = .ok (.iconst 0, 1) := by decide +kernel
theorem d_Mod_spare_120 : decode b_Mod_spare 120 = .ok (.ior, 1) := by decide +kernel
theorem d_Mod_spare_121 : decode b_Mod_spare 121 = .ok (.istore_n 2, 1) := by decide +kernel
theorem d_Mod_spare_122 : decode b_Mod_spare 122 = .ok (.iinc 3 1, 3) := by decide +kernel
theorem d_Mod_spare_125 : decode b_Mod_spare 125 = .ok (.goto (-110), 3) := by decide +kernel
theorem d_Mod_spare_128 : decode b_Mod_spare 128 = .ok (.iload_n 2, 1) := by decide +kernel
theorem d_Mod_spare_129 : decode b_Mod_spare 129 = .ok (.ireturn, 1) := by decide +kernel
abbrev rm_Mod_spare : Room := { frames := 4, cells := 0, slots := 0, locals := 110 }
abbrev C_Mod_spare (D : va_G) (g : Nat → ClassId) (p : Program) (s : State) (m : MethodId) (args : Array Value) (meth : Method) (c : Code) (M0 : Mem) : Prop := Cx p s m args c b_Mod_spare 6 R_Mod BIG D vwCl (tysG g) (mA M0 s.heap.size) ∧ meth.sig.returnType = (some .int) ∧ meth.locks = false
abbrev B_Mod_spare (l : Launch) (D : va_G) (p : Program) (e : Env) (s : State) (m : MethodId) (args : Array Value) (below : List Frame) (meth : Method) (c : Code) (M0 : Mem) (P : Int32 → Mem → Prop) (M : Mem) (pc : Nat) (lv : List (Nat × Value)) (st : List Value) : Prop := Wb p l e rm_Mod_spare s m args below meth c 6 D vwCl M0 (kI fun r M' => P r M') 0 0 M pc lv st
def wp_Mod_spare_b120 (g : Nat → ClassId) (P : Int32 → Mem → Prop) (J15 : Int32 → Int32 → Mem → Prop) (M : Mem) (x0 : Nat) (x1 : Int32) (x3 : Int32) (t0 : Int32) (t1 : Int32) : Prop :=
  J15 (t0 ||| t1) (x3 + (1 : Int32)) M
set_option maxHeartbeats 4000000 in
set_option maxRecDepth 100000 in
theorem t_Mod_spare_b120 {l : Launch} {D : va_G} {g : Nat → ClassId} {p : Program} {e : Env} {s : State} {m : MethodId} {args : Array Value} {below : List Frame} {meth : Method} {c : Code} {M0 : Mem} {P : Int32 → Mem → Prop} {J15 : Int32 → Int32 → Mem → Prop} {M : Mem} {x0 : Nat} {x1 : Int32} {x3 : Int32} {t0 : Int32} {t1 : Int32} (C : C_Mod_spare D g p s m args meth c M0) (h : wp_Mod_spare_b120 g P J15 M x0 x1 x3 t0 t1) (kJ15 : ∀ (x2 : Int32) (x3 : Int32) (M : Mem), J15 x2 x3 M → B_Mod_spare l D p e s m args below meth c M0 P M 15 [(0, .ref x0), (1, .int x1), (2, .int x2), (3, .int x3)] []) : B_Mod_spare l D p e s m args below meth c M0 P M 120 [(0, .ref x0), (1, .int x1), (3, .int x3)] [.int t1, .int t0] := by
  intro ls H locs hM hS hl
  unfold wp_Mod_spare_b120 at h
  refine lv_ior C.1.1 C.1.2.1 d_Mod_spare_120 ?_
  refine lv_istore_n (lv' := [(2, .int (t0 ||| t1)), (0, .ref x0), (1, .int x1), (3, .int x3)]) C.1.1 C.1.2.1 d_Mod_spare_121 rfl hl (by decide) rfl (fun ls hl => ?_)
  refine lv_iinc (v := x3 + (1 : Int32)) (lv' := [(3, .int (x3 + (1 : Int32))), (2, .int (t0 ||| t1)), (0, .ref x0), (1, .int x1)]) C.1.1 C.1.2.1 d_Mod_spare_122 hl (k := 3) rfl rfl (by decide) rfl (fun ls hl => ?_)
  refine lv_goto (tgt := 15) C.1.1 C.1.2.1 d_Mod_spare_125 (by decide) ?_
  exact kJ15 (t0 ||| t1) (x3 + (1 : Int32)) M h _ _ _ hM hS (lv_sub hl [2, 3, 1, 0] rfl)
def wp_Mod_spare_b107 (g : Nat → ClassId) (P : Int32 → Mem → Prop) (J15 : Int32 → Int32 → Mem → Prop) (M : Mem) (x0 : Nat) (x1 : Int32) (x2 : Int32) (x3 : Int32) (x4 : Int32) : Prop :=
  (x4 = 0 → (wp_Mod_spare_b120 g P J15 M x0 x1 x3 x2 (0 : Int32))) ∧ (¬ x4 = 0 → (wp_Mod_spare_b120 g P J15 M x0 x1 x3 x2 ((1 : Int32) <<< (x3 &&& 31))))
set_option maxHeartbeats 4000000 in
set_option maxRecDepth 100000 in
theorem t_Mod_spare_b107 {l : Launch} {D : va_G} {g : Nat → ClassId} {p : Program} {e : Env} {s : State} {m : MethodId} {args : Array Value} {below : List Frame} {meth : Method} {c : Code} {M0 : Mem} {P : Int32 → Mem → Prop} {J15 : Int32 → Int32 → Mem → Prop} {M : Mem} {x0 : Nat} {x1 : Int32} {x2 : Int32} {x3 : Int32} {x4 : Int32} (C : C_Mod_spare D g p s m args meth c M0) (h : wp_Mod_spare_b107 g P J15 M x0 x1 x2 x3 x4 ) (kJ15 : ∀ (x2 : Int32) (x3 : Int32) (M : Mem), J15 x2 x3 M → B_Mod_spare l D p e s m args below meth c M0 P M 15 [(0, .ref x0), (1, .int x1), (2, .int x2), (3, .int x3)] []) : B_Mod_spare l D p e s m args below meth c M0 P M 107 [(0, .ref x0), (1, .int x1), (2, .int x2), (3, .int x3), (4, .int x4)] [] := by
  intro ls H locs hM hS hl
  unfold wp_Mod_spare_b107 at h
  refine lv_iload_n C.1.1 C.1.2.1 d_Mod_spare_107 rfl (lv_at hl 2 rfl) ?_
  refine lv_iload C.1.1 C.1.2.1 d_Mod_spare_108 (lv_at hl 4 rfl) ?_
  refine lv_if_eq (tgt := 119) C.1.1 C.1.2.1 d_Mod_spare_110 (by decide) (fun c1 => ?_) (fun c1 => ?_)
  · have h := h.1 c1
    refine lv_iconst (v := (0 : Int32)) C.1.1 C.1.2.1 d_Mod_spare_119 (by decide) ?_
    exact t_Mod_spare_b120 C h kJ15 _ _ _ hM hS (lv_sub hl [0, 1, 3] rfl)
  · have h := h.2 c1
    refine lv_iconst (v := (1 : Int32)) C.1.1 C.1.2.1 d_Mod_spare_113 (by decide) ?_
    refine lv_iload_n C.1.1 C.1.2.1 d_Mod_spare_114 rfl (lv_at hl 3 rfl) ?_
    refine lv_ishl C.1.1 C.1.2.1 d_Mod_spare_115 ?_
    refine lv_goto (tgt := 120) C.1.1 C.1.2.1 d_Mod_spare_116 (by decide) ?_
    exact t_Mod_spare_b120 C h kJ15 _ _ _ hM hS (lv_sub hl [0, 1, 3] rfl)
def wp_Mod_spare_b99 (g : Nat → ClassId) (P : Int32 → Mem → Prop) (J15 : Int32 → Int32 → Mem → Prop) (J27 : Int32 → Int32 → Mem → Prop) (M : Mem) (x0 : Nat) (x1 : Int32) (x2 : Int32) (x3 : Int32) (x5 : Int32) (t0 : Int32) : Prop :=
  J27 t0 (x5 + (1 : Int32)) M
set_option maxHeartbeats 4000000 in
set_option maxRecDepth 100000 in
theorem t_Mod_spare_b99 {l : Launch} {D : va_G} {g : Nat → ClassId} {p : Program} {e : Env} {s : State} {m : MethodId} {args : Array Value} {below : List Frame} {meth : Method} {c : Code} {M0 : Mem} {P : Int32 → Mem → Prop} {J15 : Int32 → Int32 → Mem → Prop} {J27 : Int32 → Int32 → Mem → Prop} {M : Mem} {x0 : Nat} {x1 : Int32} {x2 : Int32} {x3 : Int32} {x5 : Int32} {t0 : Int32} (C : C_Mod_spare D g p s m args meth c M0) (h : wp_Mod_spare_b99 g P J15 J27 M x0 x1 x2 x3 x5 t0) (kJ15 : ∀ (x2 : Int32) (x3 : Int32) (M : Mem), J15 x2 x3 M → B_Mod_spare l D p e s m args below meth c M0 P M 15 [(0, .ref x0), (1, .int x1), (2, .int x2), (3, .int x3)] []) (kJ27 : ∀ (x4 : Int32) (x5 : Int32) (M : Mem), J27 x4 x5 M → B_Mod_spare l D p e s m args below meth c M0 P M 27 [(0, .ref x0), (1, .int x1), (2, .int x2), (3, .int x3), (4, .int x4), (5, .int x5)] []) : B_Mod_spare l D p e s m args below meth c M0 P M 99 [(0, .ref x0), (1, .int x1), (2, .int x2), (3, .int x3), (5, .int x5)] [.int t0] := by
  intro ls H locs hM hS hl
  unfold wp_Mod_spare_b99 at h
  refine lv_istore (lv' := [(4, .int t0), (0, .ref x0), (1, .int x1), (2, .int x2), (3, .int x3), (5, .int x5)]) C.1.1 C.1.2.1 d_Mod_spare_99 hl (by decide) rfl (fun ls hl => ?_)
  refine lv_iinc (v := x5 + (1 : Int32)) (lv' := [(5, .int (x5 + (1 : Int32))), (4, .int t0), (0, .ref x0), (1, .int x1), (2, .int x2), (3, .int x3)]) C.1.1 C.1.2.1 d_Mod_spare_101 hl (k := 5) rfl rfl (by decide) rfl (fun ls hl => ?_)
  refine lv_goto (tgt := 27) C.1.1 C.1.2.1 d_Mod_spare_104 (by decide) ?_
  exact kJ27 t0 (x5 + (1 : Int32)) M h _ _ _ hM hS (lv_sub hl [2, 3, 4, 5, 1, 0] rfl)
def wp_Mod_spare_b98 (g : Nat → ClassId) (P : Int32 → Mem → Prop) (J15 : Int32 → Int32 → Mem → Prop) (J27 : Int32 → Int32 → Mem → Prop) (M : Mem) (x0 : Nat) (x1 : Int32) (x2 : Int32) (x3 : Int32) (x5 : Int32) : Prop :=
  wp_Mod_spare_b99 g P J15 J27 M x0 x1 x2 x3 x5 (0 : Int32)
set_option maxHeartbeats 4000000 in
set_option maxRecDepth 100000 in
theorem t_Mod_spare_b98 {l : Launch} {D : va_G} {g : Nat → ClassId} {p : Program} {e : Env} {s : State} {m : MethodId} {args : Array Value} {below : List Frame} {meth : Method} {c : Code} {M0 : Mem} {P : Int32 → Mem → Prop} {J15 : Int32 → Int32 → Mem → Prop} {J27 : Int32 → Int32 → Mem → Prop} {M : Mem} {x0 : Nat} {x1 : Int32} {x2 : Int32} {x3 : Int32} {x5 : Int32} (C : C_Mod_spare D g p s m args meth c M0) (h : wp_Mod_spare_b98 g P J15 J27 M x0 x1 x2 x3 x5 ) (kJ15 : ∀ (x2 : Int32) (x3 : Int32) (M : Mem), J15 x2 x3 M → B_Mod_spare l D p e s m args below meth c M0 P M 15 [(0, .ref x0), (1, .int x1), (2, .int x2), (3, .int x3)] []) (kJ27 : ∀ (x4 : Int32) (x5 : Int32) (M : Mem), J27 x4 x5 M → B_Mod_spare l D p e s m args below meth c M0 P M 27 [(0, .ref x0), (1, .int x1), (2, .int x2), (3, .int x3), (4, .int x4), (5, .int x5)] []) : B_Mod_spare l D p e s m args below meth c M0 P M 98 [(0, .ref x0), (1, .int x1), (2, .int x2), (3, .int x3), (5, .int x5)] [] := by
  intro ls H locs hM hS hl
  unfold wp_Mod_spare_b98 at h
  refine lv_iconst (v := (0 : Int32)) C.1.1 C.1.2.1 d_Mod_spare_98 (by decide) ?_
  exact t_Mod_spare_b99 C h kJ15 kJ27 _ _ _ hM hS (lv_sub hl [0, 1, 2, 3, 4] rfl)
def wp_Mod_spare_b94 (g : Nat → ClassId) (P : Int32 → Mem → Prop) (J15 : Int32 → Int32 → Mem → Prop) (J27 : Int32 → Int32 → Mem → Prop) (M : Mem) (x0 : Nat) (x1 : Int32) (x2 : Int32) (x3 : Int32) (x5 : Int32) : Prop :=
  wp_Mod_spare_b99 g P J15 J27 M x0 x1 x2 x3 x5 (1 : Int32)
set_option maxHeartbeats 4000000 in
set_option maxRecDepth 100000 in
theorem t_Mod_spare_b94 {l : Launch} {D : va_G} {g : Nat → ClassId} {p : Program} {e : Env} {s : State} {m : MethodId} {args : Array Value} {below : List Frame} {meth : Method} {c : Code} {M0 : Mem} {P : Int32 → Mem → Prop} {J15 : Int32 → Int32 → Mem → Prop} {J27 : Int32 → Int32 → Mem → Prop} {M : Mem} {x0 : Nat} {x1 : Int32} {x2 : Int32} {x3 : Int32} {x5 : Int32} (C : C_Mod_spare D g p s m args meth c M0) (h : wp_Mod_spare_b94 g P J15 J27 M x0 x1 x2 x3 x5 ) (kJ15 : ∀ (x2 : Int32) (x3 : Int32) (M : Mem), J15 x2 x3 M → B_Mod_spare l D p e s m args below meth c M0 P M 15 [(0, .ref x0), (1, .int x1), (2, .int x2), (3, .int x3)] []) (kJ27 : ∀ (x4 : Int32) (x5 : Int32) (M : Mem), J27 x4 x5 M → B_Mod_spare l D p e s m args below meth c M0 P M 27 [(0, .ref x0), (1, .int x1), (2, .int x2), (3, .int x3), (4, .int x4), (5, .int x5)] []) : B_Mod_spare l D p e s m args below meth c M0 P M 94 [(0, .ref x0), (1, .int x1), (2, .int x2), (3, .int x3), (5, .int x5)] [] := by
  intro ls H locs hM hS hl
  unfold wp_Mod_spare_b94 at h
  refine lv_iconst (v := (1 : Int32)) C.1.1 C.1.2.1 d_Mod_spare_94 (by decide) ?_
  refine lv_goto (tgt := 99) C.1.1 C.1.2.1 d_Mod_spare_95 (by decide) ?_
  exact t_Mod_spare_b99 C h kJ15 kJ27 _ _ _ hM hS (lv_sub hl [0, 1, 2, 3, 4] rfl)
def wp_Mod_spare_b27 (g : Nat → ClassId) (P : Int32 → Mem → Prop) (J15 : Int32 → Int32 → Mem → Prop) (M : Mem) (x0 : Nat) (x1 : Int32) (x2 : Int32) (x3 : Int32) (x4 : Int32) (x5 : Int32) : Prop :=
  ∃ (I : Int32 → Int32 → Mem → Prop) (μ : Int32 → Int32 → Mem → Nat), I x4 x5 M ∧ ∀ (x4 : Int32) (x5 : Int32) (M : Mem), I x4 x5 M →
  ((24 : Int32) ≤ x5 → (wp_Mod_spare_b107 g P J15 M x0 x1 x2 x3 x4)) ∧ (¬ (24 : Int32) ≤ x5 → (∃ v2 : Nat, gR M 6 x0 8 = some v2 ∧ (∃ v3 : Int32, aI M (g 2) v2 x3 = some v3 ∧ ((v3 = x1 → ((x4 = 0 → ((x5 = x3 → (wp_Mod_spare_b98 g P J15 (fun y4 y5 N => I y4 y5 N ∧ μ y4 y5 N < μ x4 x5 M) M x0 x1 x2 x3 x5)) ∧ (¬ x5 = x3 → (∃ v7 : Nat, gR M 6 x0 8 = some v7 ∧ (∃ v8 : Int32, aI M (g 2) v7 x5 = some v8 ∧ ((v8 = x1 → (isO M 6 x0 ∧ (wp_Mod_fewest g M x0 x3 x5 (0 : Int32) (fun (v10 : Int32) (M11 : Mem) => (v10 = 0 → ((x5 < x3 → (wp_Mod_spare_b94 g P J15 (fun y4 y5 N => I y4 y5 N ∧ μ y4 y5 N < μ x4 x5 M) M11 x0 x1 x2 x3 x5)) ∧ (¬ x5 < x3 → (isO M11 6 x0 ∧ (wp_Mod_fewest g M11 x0 x5 x3 (0 : Int32) (fun (v14 : Int32) (M15 : Mem) => (v14 ≤ 0 → (wp_Mod_spare_b98 g P J15 (fun y4 y5 N => I y4 y5 N ∧ μ y4 y5 N < μ x4 x5 M) M15 x0 x1 x2 x3 x5)) ∧ (¬ v14 ≤ 0 → (wp_Mod_spare_b94 g P J15 (fun y4 y5 N => I y4 y5 N ∧ μ y4 y5 N < μ x4 x5 M) M15 x0 x1 x2 x3 x5)))))))) ∧ (¬ v10 = 0 → (wp_Mod_spare_b98 g P J15 (fun y4 y5 N => I y4 y5 N ∧ μ y4 y5 N < μ x4 x5 M) M11 x0 x1 x2 x3 x5)))))) ∧ (¬ v8 = x1 → (wp_Mod_spare_b98 g P J15 (fun y4 y5 N => I y4 y5 N ∧ μ y4 y5 N < μ x4 x5 M) M x0 x1 x2 x3 x5)))))))) ∧ (¬ x4 = 0 → (wp_Mod_spare_b107 g P J15 M x0 x1 x2 x3 x4)))) ∧ (¬ v3 = x1 → (wp_Mod_spare_b107 g P J15 M x0 x1 x2 x3 x4))))))
set_option maxHeartbeats 4000000 in
set_option maxRecDepth 100000 in
theorem t_Mod_spare_b27 {l : Launch} {D : va_G} {g : Nat → ClassId} {p : Program} {e : Env} {s : State} {m : MethodId} {args : Array Value} {below : List Frame} {meth : Method} {c : Code} {M0 : Mem} {P : Int32 → Mem → Prop} {J15 : Int32 → Int32 → Mem → Prop} {M : Mem} {x0 : Nat} {x1 : Int32} {x2 : Int32} {x3 : Int32} {x4 : Int32} {x5 : Int32} (C : C_Mod_spare D g p s m args meth c M0) (h : wp_Mod_spare_b27 g P J15 M x0 x1 x2 x3 x4 x5 ) (kJ15 : ∀ (x2 : Int32) (x3 : Int32) (M : Mem), J15 x2 x3 M → B_Mod_spare l D p e s m args below meth c M0 P M 15 [(0, .ref x0), (1, .int x1), (2, .int x2), (3, .int x3)] []) : B_Mod_spare l D p e s m args below meth c M0 P M 27 [(0, .ref x0), (1, .int x1), (2, .int x2), (3, .int x3), (4, .int x4), (5, .int x5)] [] := by
  unfold wp_Mod_spare_b27 at h
  obtain ⟨I, μ, hI, hb⟩ := h
  have key : ∀ (n : Nat) (x4 : Int32) (x5 : Int32) (M : Mem), I x4 x5 M → μ x4 x5 M < n → B_Mod_spare l D p e s m args below meth c M0 P M 27 [(0, .ref x0), (1, .int x1), (2, .int x2), (3, .int x3), (4, .int x4), (5, .int x5)] [] := by
    intro n
    induction n with
    | zero => intro x4 x5 M _ hn; exact absurd hn (Nat.not_lt_zero _)
    | succ n ih =>
      intro x4 x5 M hI hn ls H locs hM hS hl
      have h := hb x4 x5 M hI
      refine lv_iload C.1.1 C.1.2.1 d_Mod_spare_27 (lv_at hl 5 rfl) ?_
      refine lv_bipush (v := (24 : Int32)) C.1.1 C.1.2.1 d_Mod_spare_29 (by decide) ?_
      refine lv_icmp_ge (tgt := 107) C.1.1 C.1.2.1 d_Mod_spare_31 (by decide) (fun c1 => ?_) (fun c1 => ?_)
      · have h := h.1 c1
        exact t_Mod_spare_b107 C h kJ15 _ _ _ hM hS (lv_sub hl [0, 1, 2, 3, 4] rfl)
      · have h := h.2 c1
        refine lv_aload_n C.1.1 C.1.2.1 d_Mod_spare_34 rfl (lv_at hl 0 rfl) ?_
        obtain ⟨v2, ev2, h⟩ := h
        refine mg_R C.1 hM ok_Mod (by decide) kw1 ev2 d_Mod_spare_35 ?_
        refine lv_iload_n C.1.1 C.1.2.1 d_Mod_spare_38 rfl (lv_at hl 3 rfl) ?_
        obtain ⟨v3, ev3, h⟩ := h
        refine ma_I C.1 hM 2 rfl ev3 d_Mod_spare_39 ?_
        refine lv_iload_n C.1.1 C.1.2.1 d_Mod_spare_40 rfl (lv_at hl 1 rfl) ?_
        refine lv_icmp_ne (tgt := 107) C.1.1 C.1.2.1 d_Mod_spare_41 (by decide) (fun c4 => ?_) (fun c4 => ?_)
        · have h := h.2 c4
          exact t_Mod_spare_b107 C h kJ15 _ _ _ hM hS (lv_sub hl [0, 1, 2, 3, 4] rfl)
        · have h := h.1 c4
          refine lv_iload C.1.1 C.1.2.1 d_Mod_spare_44 (lv_at hl 4 rfl) ?_
          refine lv_if_ne (tgt := 107) C.1.1 C.1.2.1 d_Mod_spare_46 (by decide) (fun c5 => ?_) (fun c5 => ?_)
          · have h := h.2 c5
            exact t_Mod_spare_b107 C h kJ15 _ _ _ hM hS (lv_sub hl [0, 1, 2, 3, 4] rfl)
          · have h := h.1 c5
            refine lv_iload C.1.1 C.1.2.1 d_Mod_spare_49 (lv_at hl 5 rfl) ?_
            refine lv_iload_n C.1.1 C.1.2.1 d_Mod_spare_51 rfl (lv_at hl 3 rfl) ?_
            refine lv_icmp_eq (tgt := 98) C.1.1 C.1.2.1 d_Mod_spare_52 (by decide) (fun c6 => ?_) (fun c6 => ?_)
            · have h := h.1 c6
              exact t_Mod_spare_b98 C h kJ15 (fun y4 y5 N hJ => ih y4 y5 N hJ.1 (Nat.lt_of_lt_of_le hJ.2 (Nat.le_of_lt_succ hn))) _ _ _ hM hS (lv_sub hl [0, 1, 2, 3, 5] rfl)
            · have h := h.2 c6
              refine lv_aload_n C.1.1 C.1.2.1 d_Mod_spare_55 rfl (lv_at hl 0 rfl) ?_
              obtain ⟨v7, ev7, h⟩ := h
              refine mg_R C.1 hM ok_Mod (by decide) kw1 ev7 d_Mod_spare_56 ?_
              refine lv_iload C.1.1 C.1.2.1 d_Mod_spare_59 (lv_at hl 5 rfl) ?_
              obtain ⟨v8, ev8, h⟩ := h
              refine ma_I C.1 hM 2 rfl ev8 d_Mod_spare_61 ?_
              refine lv_iload_n C.1.1 C.1.2.1 d_Mod_spare_62 rfl (lv_at hl 1 rfl) ?_
              refine lv_icmp_ne (tgt := 98) C.1.1 C.1.2.1 d_Mod_spare_63 (by decide) (fun c9 => ?_) (fun c9 => ?_)
              · have h := h.2 c9
                exact t_Mod_spare_b98 C h kJ15 (fun y4 y5 N hJ => ih y4 y5 N hJ.1 (Nat.lt_of_lt_of_le hJ.2 (Nat.le_of_lt_succ hn))) _ _ _ hM hS (lv_sub hl [0, 1, 2, 3, 5] rfl)
              · have h := h.1 c9
                refine lv_aload_n C.1.1 C.1.2.1 d_Mod_spare_66 rfl (lv_at hl 0 rfl) ?_
                refine lv_iload_n C.1.1 C.1.2.1 d_Mod_spare_67 rfl (lv_at hl 3 rfl) ?_
                refine lv_iload C.1.1 C.1.2.1 d_Mod_spare_68 (lv_at hl 5 rfl) ?_
                refine lv_iconst (v := (0 : Int32)) C.1.1 C.1.2.1 d_Mod_spare_70 (by decide) ?_
                obtain ⟨ho, h⟩ := h
                refine mc_V (As := [.int x3, .int x5, .int (0 : Int32)]) (ci := 6) C.1 hM hS bigGood (c_Mod_fewest h) rfl ho kw144 kw146 kw147 kw29 kw145 hd_Mod_fewest ⟨by decide, by decide⟩ hl.1 rfl (Nat.le_of_ble_eq_true rfl) d_Mod_spare_71 (mc := 0) (ms := 0) rfl rfl ⟨by decide, by decide⟩ (fun v M11 H locs hp hM hS => ?_)
                obtain ⟨v10, rfl, h⟩ := hp
                refine lv_if_ne (tgt := 98) C.1.1 C.1.2.1 d_Mod_spare_74 (by decide) (fun c12 => ?_) (fun c12 => ?_)
                · have h := h.2 c12
                  exact t_Mod_spare_b98 C h kJ15 (fun y4 y5 N hJ => ih y4 y5 N hJ.1 (Nat.lt_of_lt_of_le hJ.2 (Nat.le_of_lt_succ hn))) _ _ _ hM hS (lv_sub hl [0, 1, 2, 3, 5] rfl)
                · have h := h.1 c12
                  refine lv_iload C.1.1 C.1.2.1 d_Mod_spare_77 (lv_at hl 5 rfl) ?_
                  refine lv_iload_n C.1.1 C.1.2.1 d_Mod_spare_79 rfl (lv_at hl 3 rfl) ?_
                  refine lv_icmp_lt (tgt := 94) C.1.1 C.1.2.1 d_Mod_spare_80 (by decide) (fun c13 => ?_) (fun c13 => ?_)
                  · have h := h.1 c13
                    exact t_Mod_spare_b94 C h kJ15 (fun y4 y5 N hJ => ih y4 y5 N hJ.1 (Nat.lt_of_lt_of_le hJ.2 (Nat.le_of_lt_succ hn))) _ _ _ hM hS (lv_sub hl [0, 1, 2, 3, 5] rfl)
                  · have h := h.2 c13
                    refine lv_aload_n C.1.1 C.1.2.1 d_Mod_spare_83 rfl (lv_at hl 0 rfl) ?_
                    refine lv_iload C.1.1 C.1.2.1 d_Mod_spare_84 (lv_at hl 5 rfl) ?_
                    refine lv_iload_n C.1.1 C.1.2.1 d_Mod_spare_86 rfl (lv_at hl 3 rfl) ?_
                    refine lv_iconst (v := (0 : Int32)) C.1.1 C.1.2.1 d_Mod_spare_87 (by decide) ?_
                    obtain ⟨ho, h⟩ := h
                    refine mc_V (As := [.int x5, .int x3, .int (0 : Int32)]) (ci := 6) C.1 hM hS bigGood (c_Mod_fewest h) rfl ho kw144 kw146 kw147 kw29 kw145 hd_Mod_fewest ⟨by decide, by decide⟩ hl.1 rfl (Nat.le_of_ble_eq_true rfl) d_Mod_spare_88 (mc := 0) (ms := 0) rfl rfl ⟨by decide, by decide⟩ (fun v M15 H locs hp hM hS => ?_)
                    obtain ⟨v14, rfl, h⟩ := hp
                    refine lv_if_le (tgt := 98) C.1.1 C.1.2.1 d_Mod_spare_91 (by decide) (fun c16 => ?_) (fun c16 => ?_)
                    · have h := h.1 c16
                      exact t_Mod_spare_b98 C h kJ15 (fun y4 y5 N hJ => ih y4 y5 N hJ.1 (Nat.lt_of_lt_of_le hJ.2 (Nat.le_of_lt_succ hn))) _ _ _ hM hS (lv_sub hl [0, 1, 2, 3, 5] rfl)
                    · have h := h.2 c16
                      exact t_Mod_spare_b94 C h kJ15 (fun y4 y5 N hJ => ih y4 y5 N hJ.1 (Nat.lt_of_lt_of_le hJ.2 (Nat.le_of_lt_succ hn))) _ _ _ hM hS (lv_sub hl [0, 1, 2, 3, 5] rfl)
  exact key _ x4 x5 M hI (Nat.lt_succ_self _)
def wp_Mod_spare_b15 (g : Nat → ClassId) (P : Int32 → Mem → Prop) (M : Mem) (x0 : Nat) (x1 : Int32) (x2 : Int32) (x3 : Int32) : Prop :=
  ∃ (I : Int32 → Int32 → Mem → Prop) (μ : Int32 → Int32 → Mem → Nat), I x2 x3 M ∧ ∀ (x2 : Int32) (x3 : Int32) (M : Mem), I x2 x3 M →
  ((24 : Int32) ≤ x3 → (P x2 M)) ∧ (¬ (24 : Int32) ≤ x3 → (wp_Mod_spare_b27 g P (fun y2 y3 N => I y2 y3 N ∧ μ y2 y3 N < μ x2 x3 M) M x0 x1 x2 x3 (0 : Int32) (0 : Int32)))
set_option maxHeartbeats 4000000 in
set_option maxRecDepth 100000 in
theorem t_Mod_spare_b15 {l : Launch} {D : va_G} {g : Nat → ClassId} {p : Program} {e : Env} {s : State} {m : MethodId} {args : Array Value} {below : List Frame} {meth : Method} {c : Code} {M0 : Mem} {P : Int32 → Mem → Prop} {M : Mem} {x0 : Nat} {x1 : Int32} {x2 : Int32} {x3 : Int32} (C : C_Mod_spare D g p s m args meth c M0) (h : wp_Mod_spare_b15 g P M x0 x1 x2 x3 ) : B_Mod_spare l D p e s m args below meth c M0 P M 15 [(0, .ref x0), (1, .int x1), (2, .int x2), (3, .int x3)] [] := by
  unfold wp_Mod_spare_b15 at h
  obtain ⟨I, μ, hI, hb⟩ := h
  have key : ∀ (n : Nat) (x2 : Int32) (x3 : Int32) (M : Mem), I x2 x3 M → μ x2 x3 M < n → B_Mod_spare l D p e s m args below meth c M0 P M 15 [(0, .ref x0), (1, .int x1), (2, .int x2), (3, .int x3)] [] := by
    intro n
    induction n with
    | zero => intro x2 x3 M _ hn; exact absurd hn (Nat.not_lt_zero _)
    | succ n ih =>
      intro x2 x3 M hI hn ls H locs hM hS hl
      have h := hb x2 x3 M hI
      refine lv_iload_n C.1.1 C.1.2.1 d_Mod_spare_15 rfl (lv_at hl 3 rfl) ?_
      refine lv_bipush (v := (24 : Int32)) C.1.1 C.1.2.1 d_Mod_spare_16 (by decide) ?_
      refine lv_icmp_ge (tgt := 128) C.1.1 C.1.2.1 d_Mod_spare_18 (by decide) (fun c1 => ?_) (fun c1 => ?_)
      · have h := h.1 c1
        refine lv_iload_n C.1.1 C.1.2.1 d_Mod_spare_128 rfl (lv_at hl 2 rfl) ?_
        exact mr_I C.1 C.2.1 C.2.2 hM hS ⟨_, rfl, h⟩ d_Mod_spare_129
      · have h := h.2 c1
        refine lv_iconst (v := (0 : Int32)) C.1.1 C.1.2.1 d_Mod_spare_21 (by decide) ?_
        refine lv_istore (lv' := [(4, .int (0 : Int32)), (0, .ref x0), (1, .int x1), (2, .int x2), (3, .int x3)]) C.1.1 C.1.2.1 d_Mod_spare_22 hl (by decide) rfl (fun ls hl => ?_)
        refine lv_iconst (v := (0 : Int32)) C.1.1 C.1.2.1 d_Mod_spare_24 (by decide) ?_
        refine lv_istore (lv' := [(5, .int (0 : Int32)), (4, .int (0 : Int32)), (0, .ref x0), (1, .int x1), (2, .int x2), (3, .int x3)]) C.1.1 C.1.2.1 d_Mod_spare_25 hl (by decide) rfl (fun ls hl => ?_)
        exact t_Mod_spare_b27 C h (fun y2 y3 N hJ => ih y2 y3 N hJ.1 (Nat.lt_of_lt_of_le hJ.2 (Nat.le_of_lt_succ hn))) _ _ _ hM hS (lv_sub hl [2, 3, 4, 5, 1, 0] rfl)
  exact key _ x2 x3 M hI (Nat.lt_succ_self _)
def wp_Mod_spare (g : Nat → ClassId) (M : Mem) (x0 : Nat) (x1 : Int32) (P : Int32 → Mem → Prop) : Prop :=
  ∃ M1 : Mem, pV M 6 x0 0 (.int (0 : Int32)) = some M1 ∧ ((0 ≤ x1 → (wp_Mod_spare_b15 g P M1 x0 x1 (0 : Int32) (0 : Int32))) ∧ (¬ 0 ≤ x1 → (P (0 : Int32) M1)))
set_option maxHeartbeats 4000000 in
set_option maxRecDepth 100000 in
theorem c_Mod_spare {l : Launch} {D : va_G} {g : Nat → ClassId} {M : Mem} {x0 : Nat} {x1 : Int32} {P : Int32 → Mem → Prop} (h : wp_Mod_spare g M x0 x1 P) : mMet l BIG D vwCl (tysG g) y_Mod_spare b_Mod_spare 6 (some .int) rm_Mod_spare [.ref x0, .int x1] M (kI fun r M' => P r M') := by
  refine mMet.of (own := R_Mod) rfl (by decide) rfl (fun p e s m below meth c C hr hlk hnm ls hM hS hl => ?_)
  have C : C_Mod_spare D g p s m ([.ref x0, .int x1] : List Value).toArray meth c M := ⟨C, hr, hlk⟩
  unfold wp_Mod_spare at h
  have hl : lv_has ls 6 [(0, .ref x0), (1, .int x1)] := hl
  refine lv_aload_n C.1.1 C.1.2.1 d_Mod_spare_0 rfl (lv_at hl 0 rfl) ?_
  refine lv_iconst (v := (0 : Int32)) C.1.1 C.1.2.1 d_Mod_spare_1 (by decide) ?_
  obtain ⟨M1, eM1, h⟩ := h
  refine mp_V C.1 hM hS ok_Mod (by decide) kw23 rfl rfl rfl eM1 d_Mod_spare_2 (fun H locs hM hS => ?_)
  refine lv_iconst (v := (0 : Int32)) C.1.1 C.1.2.1 d_Mod_spare_5 (by decide) ?_
  refine lv_istore_n (lv' := [(2, .int (0 : Int32)), (0, .ref x0), (1, .int x1)]) C.1.1 C.1.2.1 d_Mod_spare_6 rfl hl (by decide) rfl (fun ls hl => ?_)
  refine lv_iload_n C.1.1 C.1.2.1 d_Mod_spare_7 rfl (lv_at hl 2 rfl) ?_
  refine lv_if_ge (tgt := 13) C.1.1 C.1.2.1 d_Mod_spare_8 (by decide) (fun c2 => ?_) (fun c2 => ?_)
  · have h := h.1 c2
    refine lv_iconst (v := (0 : Int32)) C.1.1 C.1.2.1 d_Mod_spare_13 (by decide) ?_
    refine lv_istore_n (lv' := [(3, .int (0 : Int32)), (2, .int (0 : Int32)), (0, .ref x0), (1, .int x1)]) C.1.1 C.1.2.1 d_Mod_spare_14 rfl hl (by decide) rfl (fun ls hl => ?_)
    exact t_Mod_spare_b15 C h _ _ _ hM hS (lv_sub hl [2, 3, 1, 0] rfl)
  · have h := h.2 c2
    refine lv_iconst (v := (0 : Int32)) C.1.1 C.1.2.1 d_Mod_spare_11 (by decide) ?_
    exact mr_I C.1 C.2.1 C.2.2 hM hS ⟨_, rfl, h⟩ d_Mod_spare_12
