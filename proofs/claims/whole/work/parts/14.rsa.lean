theorem d_Rs_init_0 : decode b_Rs_init 0 = .ok (.aload_n 0, 1) := by decide +kernel
theorem d_Rs_init_1 : decode b_Rs_init 1 = .ok (.invokespecial 5, 3) := by decide +kernel
theorem d_Rs_init_4 : decode b_Rs_init 4 = .ok (.aload_n 0, 1) := by decide +kernel
theorem d_Rs_init_5 : decode b_Rs_init 5 = .ok (.sipush 1024, 3) := by decide +kernel
theorem d_Rs_init_8 : decode b_Rs_init 8 = .ok (.newarray .int, 2) := by decide +kernel
theorem d_Rs_init_10 : decode b_Rs_init 10 = .ok (.putfield 11, 3) := by decide +kernel
theorem d_Rs_init_13 : decode b_Rs_init 13 = .ok (.aload_n 0, 1) := by decide +kernel
theorem d_Rs_init_14 : decode b_Rs_init 14 = .ok (.bipush 16, 2) := by decide +kernel
theorem d_Rs_init_16 : decode b_Rs_init 16 = .ok (.newarray .long, 2) := by decide +kernel
theorem d_Rs_init_18 : decode b_Rs_init 18 = .ok (.putfield 15, 3) := by decide +kernel
theorem d_Rs_init_21 : decode b_Rs_init 21 = .ok (.aload_n 0, 1) := by decide +kernel
theorem d_Rs_init_22 : decode b_Rs_init 22 = .ok (.bipush 13, 2) := by decide +kernel
theorem d_Rs_init_24 : decode b_Rs_init 24 = .ok (.newarray .long, 2) := by decide +kernel
theorem d_Rs_init_26 : decode b_Rs_init 26 = .ok (.putfield 19, 3) := by decide +kernel
theorem d_Rs_init_29 : decode b_Rs_init 29 = .ok (.aload_n 0, 1) := by decide +kernel
theorem d_Rs_init_30 : decode b_Rs_init 30 = .ok (.iconst 0, 1) := by decide +kernel
theorem d_Rs_init_31 : decode b_Rs_init 31 = .ok (.putfield 22, 3) := by decide +kernel
theorem d_Rs_init_34 : decode b_Rs_init 34 = .ok (.aload_n 0, 1) := by decide +kernel
theorem d_Rs_init_35 : decode b_Rs_init 35 = .ok (.iconst 0, 1) := by decide +kernel
theorem d_Rs_init_36 : decode b_Rs_init 36 = .ok (.putfield 26, 3) := by decide +kernel
theorem d_Rs_init_39 : decode b_Rs_init 39 = .ok (.return_, 1) := by decide +kernel
abbrev rm_Rs_init : Room := { frames := 1, cells := 3, slots := 1053, locals := 20 }
abbrev C_Rs_init (D : va_G) (g : Nat → ClassId) (p : Program) (s : State) (m : MethodId) (args : Array Value) (meth : Method) (c : Code) (M0 : Mem) : Prop := Cx p s m args c b_Rs_init 1 R_Rs BIG D vwCl (tysG g) (mA M0 s.heap.size) ∧ meth.sig.returnType = none ∧ meth.locks = false ∧ meth.name = "<init>"
abbrev B_Rs_init (l : Launch) (D : va_G) (p : Program) (e : Env) (s : State) (m : MethodId) (args : Array Value) (below : List Frame) (meth : Method) (c : Code) (M0 : Mem) (P : Mem → Prop) (cn sn : Nat) (M : Mem) (pc : Nat) (lv : List (Nat × Value)) (st : List Value) : Prop := Wb p l e rm_Rs_init s m args below meth c 1 D vwCl M0 (kV fun M' => P M') cn sn M pc lv st
def wp_Rs_init (g : Nat → ClassId) (M : Mem) (x0 : Nat) (P : Mem → Prop) : Prop :=
  ∀ (q1 : Nat) (M2 : Mem), M q1 = none → M2 = mup M q1 (.inl (g 2, (1024, .inl (fun _ => 0)))) → (∃ M3 : Mem, pV M2 5 x0 0 (.ref q1) = some M3 ∧ (∀ (q4 : Nat) (M5 : Mem), M3 q4 = none → M5 = mup M3 q4 (.inl (g 1, (16, .inr (.inl (fun _ => 0))))) → (∃ M6 : Mem, pV M5 5 x0 1 (.ref q4) = some M6 ∧ (∀ (q7 : Nat) (M8 : Mem), M6 q7 = none → M8 = mup M6 q7 (.inl (g 1, (13, .inr (.inl (fun _ => 0))))) → (∃ M9 : Mem, pV M8 5 x0 2 (.ref q7) = some M9 ∧ (∃ M10 : Mem, pV M9 5 x0 3 (.int (0 : Int32)) = some M10 ∧ (∃ M11 : Mem, pV M10 5 x0 4 (.int (0 : Int32)) = some M11 ∧ (P M11))))))))
set_option maxHeartbeats 4000000 in
set_option maxRecDepth 100000 in
theorem c_Rs_init {l : Launch} {D : va_G} {g : Nat → ClassId} {M : Mem} {x0 : Nat} {P : Mem → Prop} (h : wp_Rs_init g M x0 P) : mMet l BIG D vwCl (tysG g) y_Rs_init b_Rs_init 1 none rm_Rs_init [.ref x0] M (kV fun M' => P M') := by
  refine mMet.of (own := R_Rs) rfl (by decide) rfl (fun p e s m below meth c C hr hlk hnm ls hM hS hl => ?_)
  have C : C_Rs_init D g p s m ([.ref x0] : List Value).toArray meth c M := ⟨C, hr, hlk, hnm⟩
  have hcn : 0 + 3 ≤ 3 := by decide
  have hsn : 0 + 1053 ≤ 1053 := by decide
  unfold wp_Rs_init at h
  have hl : lv_has ls 1 [(0, .ref x0)] := hl
  refine lv_aload_n C.1.1 C.1.2.1 d_Rs_init_0 rfl (lv_at hl 0 rfl) ?_
  refine m_objInit C.1 kw89 kw3 kw4 hl.1 d_Rs_init_1 (by decide) (by decide) (Nat.le_of_ble_eq_true rfl) ?_
  refine lv_aload_n C.1.1 C.1.2.1 d_Rs_init_4 rfl (lv_at hl 0 rfl) ?_
  refine lv_sipush (v := (1024 : Int32)) C.1.1 C.1.2.1 d_Rs_init_5 (by decide) ?_
  refine mn_A (atype := .int) (a0 := (1024, .inl (fun _ => 0))) (N' := 1024) C.1 hM hS (ty := .int) rfl kw5 2 rfl (fun _ => rfl) (by decide) (by decide) (by decide) (show _ ≤ (3 : Nat) by omega) (show _ ≤ (1053 : Nat) by omega) d_Rs_init_8 (fun q1 H hq1 hM hS => ?_)
  obtain ⟨M2, eM2⟩ : ∃ N : Mem, N = mup M q1 (.inl (g 2, (1024, .inl (fun _ => 0)))) := ⟨_, rfl⟩
  rw [← eM2] at hM
  have h := h q1 M2 hq1 eM2
  obtain ⟨M3, eM3, h⟩ := h
  refine mp_F C.1 hM hS C.2.2.2 ok_Rs (by decide) kw90 rfl rfl rfl rfl eM3 d_Rs_init_10 (fun H locs hM hS => ?_)
  refine lv_aload_n C.1.1 C.1.2.1 d_Rs_init_13 rfl (lv_at hl 0 rfl) ?_
  refine lv_bipush (v := (16 : Int32)) C.1.1 C.1.2.1 d_Rs_init_14 (by decide) ?_
  refine mn_A (atype := .long) (a0 := (16, .inr (.inl (fun _ => 0)))) (N' := 16) C.1 hM hS (ty := .long) rfl kw8 1 rfl (fun _ => rfl) (by decide) (by decide) (by decide) (show _ ≤ (3 : Nat) by omega) (show _ ≤ (1053 : Nat) by omega) d_Rs_init_16 (fun q4 H hq4 hM hS => ?_)
  obtain ⟨M5, eM5⟩ : ∃ N : Mem, N = mup M3 q4 (.inl (g 1, (16, .inr (.inl (fun _ => 0))))) := ⟨_, rfl⟩
  rw [← eM5] at hM
  have h := h q4 M5 hq4 eM5
  obtain ⟨M6, eM6, h⟩ := h
  refine mp_F C.1 hM hS C.2.2.2 ok_Rs (by decide) kw91 rfl rfl rfl rfl eM6 d_Rs_init_18 (fun H locs hM hS => ?_)
  refine lv_aload_n C.1.1 C.1.2.1 d_Rs_init_21 rfl (lv_at hl 0 rfl) ?_
  refine lv_bipush (v := (13 : Int32)) C.1.1 C.1.2.1 d_Rs_init_22 (by decide) ?_
  refine mn_A (atype := .long) (a0 := (13, .inr (.inl (fun _ => 0)))) (N' := 13) C.1 hM hS (ty := .long) rfl kw8 1 rfl (fun _ => rfl) (by decide) (by decide) (by decide) (show _ ≤ (3 : Nat) by omega) (show _ ≤ (1053 : Nat) by omega) d_Rs_init_24 (fun q7 H hq7 hM hS => ?_)
  obtain ⟨M8, eM8⟩ : ∃ N : Mem, N = mup M6 q7 (.inl (g 1, (13, .inr (.inl (fun _ => 0))))) := ⟨_, rfl⟩
  rw [← eM8] at hM
  have h := h q7 M8 hq7 eM8
  obtain ⟨M9, eM9, h⟩ := h
  refine mp_F C.1 hM hS C.2.2.2 ok_Rs (by decide) kw92 rfl rfl rfl rfl eM9 d_Rs_init_26 (fun H locs hM hS => ?_)
  refine lv_aload_n C.1.1 C.1.2.1 d_Rs_init_29 rfl (lv_at hl 0 rfl) ?_
  refine lv_iconst (v := (0 : Int32)) C.1.1 C.1.2.1 d_Rs_init_30 (by decide) ?_
  obtain ⟨M10, eM10, h⟩ := h
  refine mp_V C.1 hM hS ok_Rs (by decide) kw93 rfl rfl rfl eM10 d_Rs_init_31 (fun H locs hM hS => ?_)
  refine lv_aload_n C.1.1 C.1.2.1 d_Rs_init_34 rfl (lv_at hl 0 rfl) ?_
  refine lv_iconst (v := (0 : Int32)) C.1.1 C.1.2.1 d_Rs_init_35 (by decide) ?_
  obtain ⟨M11, eM11, h⟩ := h
  refine mp_V C.1 hM hS ok_Rs (by decide) kw94 rfl rfl rfl eM11 d_Rs_init_36 (fun H locs hM hS => ?_)
  refine W.widen (k := 3) (n := 1053) (show _ ≤ (3 : Nat) by omega) (show _ ≤ (1053 : Nat) by omega) ?_
  exact mr_V C.1 C.2.1 C.2.2.1 hM hS ⟨rfl, h⟩ d_Rs_init_39
theorem d_Rs_addWord_0 : decode b_Rs_addWord 0 = .ok (.lload_n 1, 1) := by decide +kernel
theorem d_Rs_addWord_1 : decode b_Rs_addWord 1 = .ok (.ldc2_w 68, 3) := by decide +kernel
theorem d_Rs_addWord_4 : decode b_Rs_addWord 4 = .ok (.lcmp, 1) := by decide +kernel
theorem d_Rs_addWord_5 : decode b_Rs_addWord 5 = .ok (.ifCond .eq 15, 3) := by decide +kernel
theorem d_Rs_addWord_8 : decode b_Rs_addWord 8 = .ok (.lload_n 1, 1) := by decide +kernel
theorem d_Rs_addWord_9 : decode b_Rs_addWord 9 = .ok (.ldc2_w 70, 3) := by decide +kernel
theorem d_Rs_addWord_12 : decode b_Rs_addWord 12 = .ok (.lcmp, 1) := by decide +kernel
theorem d_Rs_addWord_13 : decode b_Rs_addWord 13 = .ok (.ifCond .eq 7, 3) := by decide +kernel
theorem d_Rs_addWord_16 : decode b_Rs_addWord 16 = .ok (.iconst 1, 1) := by decide +kernel
theorem d_Rs_addWord_17 : decode b_Rs_addWord 17 = .ok (.goto 4, 3) := by decide +kernel
theorem d_Rs_addWord_20 : decode b_Rs_addWord 20 = .ok (.iconst 0, 1) := by decide +kernel
theorem d_Rs_addWord_21 : decode b_Rs_addWord 21 = .ok (.istore_n 3, 1) := by decide +kernel
theorem d_Rs_addWord_22 : decode b_Rs_addWord 22 = .ok (.iconst 0, 1) := by decide +kernel
theorem d_Rs_addWord_23 : decode b_Rs_addWord 23 = .ok (.istore 4, 2) := by decide +kernel
theorem d_Rs_addWord_25 : decode b_Rs_addWord 25 = .ok (.iload 4, 2) := by decide +kernel
theorem d_Rs_addWord_27 : decode b_Rs_addWord 27 = .ok (.aload_n 0, 1) := by decide +kernel
theorem d_Rs_addWord_28 : decode b_Rs_addWord 28 = .ok (.getfield 26, 3) := by decide +kernel
theorem d_Rs_addWord_31 : decode b_Rs_addWord 31 = .ok (.if_icmp .ge 31, 3) := by decide +kernel
theorem d_Rs_addWord_34 : decode b_Rs_addWord 34 = .ok (.iload_n 3, 1) := by decide +kernel
theorem d_Rs_addWord_35 : decode b_Rs_addWord 35 = .ok (.ifCond .eq 19, 3) := by decide +kernel
theorem d_Rs_addWord_38 : decode b_Rs_addWord 38 = .ok (.aload_n 0, 1) := by decide +kernel
theorem d_Rs_addWord_39 : decode b_Rs_addWord 39 = .ok (.getfield 19, 3) := by decide +kernel
theorem d_Rs_addWord_42 : decode b_Rs_addWord 42 = .ok (.iload 4, 2) := by decide +kernel
theorem d_Rs_addWord_44 : decode b_Rs_addWord 44 = .ok (.laload, 1) := by decide +kernel
theorem d_Rs_addWord_45 : decode b_Rs_addWord 45 = .ok (.lload_n 1, 1) := by decide +kernel
theorem d_Rs_addWord_46 : decode b_Rs_addWord 46 = .ok (.lcmp, 1) := by decide +kernel
theorem d_Rs_addWord_47 : decode b_Rs_addWord 47 = .ok (.ifCond .eq 7, 3) := by decide +kernel
theorem d_Rs_addWord_50 : decode b_Rs_addWord 50 = .ok (.iconst 1, 1) := by decide +kernel
theorem d_Rs_addWord_51 : decode b_Rs_addWord 51 = .ok (.goto 4, 3) := by decide +kernel
theorem d_Rs_addWord_54 : decode b_Rs_addWord 54 = .ok (.iconst 0, 1) := by decide +kernel
theorem d_Rs_addWord_55 : decode b_Rs_addWord 55 = .ok (.istore_n 3, 1) := by decide +kernel
theorem d_Rs_addWord_56 : decode b_Rs_addWord 56 = .ok (.iinc 4 1, 3) := by decide +kernel
theorem d_Rs_addWord_59 : decode b_Rs_addWord 59 = .ok (.goto (-34), 3) := by decide +kernel
theorem d_Rs_addWord_62 : decode b_Rs_addWord 62 = .ok (.iload_n 3, 1) := by decide +kernel
theorem d_Rs_addWord_63 : decode b_Rs_addWord 63 = .ok (.ifCond .eq 35, 3) := by decide +kernel
theorem d_Rs_addWord_66 : decode b_Rs_addWord 66 = .ok (.aload_n 0, 1) := by decide +kernel
theorem d_Rs_addWord_67 : decode b_Rs_addWord 67 = .ok (.getfield 26, 3) := by decide +kernel
theorem d_Rs_addWord_70 : decode b_Rs_addWord 70 = .ok (.aload_n 0, 1) := by decide +kernel
theorem d_Rs_addWord_71 : decode b_Rs_addWord 71 = .ok (.getfield 19, 3) := by decide +kernel
theorem d_Rs_addWord_74 : decode b_Rs_addWord 74 = .ok (.arraylength, 1) := by decide +kernel
theorem d_Rs_addWord_75 : decode b_Rs_addWord 75 = .ok (.if_icmp .ge 23, 3) := by decide +kernel
theorem d_Rs_addWord_78 : decode b_Rs_addWord 78 = .ok (.aload_n 0, 1) := by decide +kernel
theorem d_Rs_addWord_79 : decode b_Rs_addWord 79 = .ok (.getfield 19, 3) := by decide +kernel
theorem d_Rs_addWord_82 : decode b_Rs_addWord 82 = .ok (.aload_n 0, 1) := by decide +kernel
theorem d_Rs_addWord_83 : decode b_Rs_addWord 83 = .ok (.getfield 26, 3) := by decide +kernel
theorem d_Rs_addWord_86 : decode b_Rs_addWord 86 = .ok (.lload_n 1, 1) := by decide +kernel
theorem d_Rs_addWord_87 : decode b_Rs_addWord 87 = .ok (.lastore, 1) := by decide +kernel
theorem d_Rs_addWord_88 : decode b_Rs_addWord 88 = .ok (.aload_n 0, 1) := by decide +kernel
theorem d_Rs_addWord_89 : decode b_Rs_addWord 89 = .ok (.dup, 1) := by decide +kernel
theorem d_Rs_addWord_90 : decode b_Rs_addWord 90 = .ok (.getfield 26, 3) := by decide +kernel
theorem d_Rs_addWord_93 : decode b_Rs_addWord 93 = .ok (.iconst 1, 1) := by decide +kernel
theorem d_Rs_addWord_94 : decode b_Rs_addWord 94 = .ok (.iadd, 1) := by decide +kernel
theorem d_Rs_addWord_95 : decode b_Rs_addWord 95 = .ok (.putfield 26, 3) := by decide +kernel
theorem d_Rs_addWord_98 : decode b_Rs_addWord 98 = .ok (.return_, 1) := by decide +kernel
abbrev rm_Rs_addWord : Room := { frames := 0, cells := 0, slots := 0, locals := 0 }
abbrev C_Rs_addWord (D : va_G) (g : Nat → ClassId) (p : Program) (s : State) (m : MethodId) (args : Array Value) (meth : Method) (c : Code) (M0 : Mem) : Prop := Cx p s m args c b_Rs_addWord 5 R_Rs BIG D vwCl (tysG g) (mA M0 s.heap.size) ∧ meth.sig.returnType = none ∧ meth.locks = false
abbrev B_Rs_addWord (l : Launch) (D : va_G) (p : Program) (e : Env) (s : State) (m : MethodId) (args : Array Value) (below : List Frame) (meth : Method) (c : Code) (M0 : Mem) (P : Mem → Prop) (M : Mem) (pc : Nat) (lv : List (Nat × Value)) (st : List Value) : Prop := Wb p l e rm_Rs_addWord s m args below meth c 5 D vwCl M0 (kV fun M' => P M') 0 0 M pc lv st
def wp_Rs_addWord_b98 (g : Nat → ClassId) (P : Mem → Prop) (M : Mem) : Prop :=
  P M
set_option maxHeartbeats 4000000 in
set_option maxRecDepth 100000 in
theorem t_Rs_addWord_b98 {l : Launch} {D : va_G} {g : Nat → ClassId} {p : Program} {e : Env} {s : State} {m : MethodId} {args : Array Value} {below : List Frame} {meth : Method} {c : Code} {M0 : Mem} {P : Mem → Prop} {M : Mem} (C : C_Rs_addWord D g p s m args meth c M0) (h : wp_Rs_addWord_b98 g P M ) : B_Rs_addWord l D p e s m args below meth c M0 P M 98 [] [] := by
  intro ls H locs hM hS hl
  unfold wp_Rs_addWord_b98 at h
  exact mr_V C.1 C.2.1 C.2.2 hM hS ⟨rfl, h⟩ d_Rs_addWord_98
def wp_Rs_addWord_b55 (g : Nat → ClassId) (P : Mem → Prop) (J25 : Int32 → Int32 → Prop) (M : Mem) (x0 : Nat) (x1 : Int64) (x4 : Int32) (t0 : Int32) : Prop :=
  J25 t0 (x4 + (1 : Int32))
set_option maxHeartbeats 4000000 in
set_option maxRecDepth 100000 in
theorem t_Rs_addWord_b55 {l : Launch} {D : va_G} {g : Nat → ClassId} {p : Program} {e : Env} {s : State} {m : MethodId} {args : Array Value} {below : List Frame} {meth : Method} {c : Code} {M0 : Mem} {P : Mem → Prop} {J25 : Int32 → Int32 → Prop} {M : Mem} {x0 : Nat} {x1 : Int64} {x4 : Int32} {t0 : Int32} (C : C_Rs_addWord D g p s m args meth c M0) (h : wp_Rs_addWord_b55 g P J25 M x0 x1 x4 t0) (kJ25 : ∀ (x3 : Int32) (x4 : Int32), J25 x3 x4 → B_Rs_addWord l D p e s m args below meth c M0 P M 25 [(0, .ref x0), (1, .long x1), (3, .int x3), (4, .int x4)] []) : B_Rs_addWord l D p e s m args below meth c M0 P M 55 [(0, .ref x0), (1, .long x1), (4, .int x4)] [.int t0] := by
  intro ls H locs hM hS hl
  unfold wp_Rs_addWord_b55 at h
  refine lv_istore_n (lv' := [(3, .int t0), (0, .ref x0), (1, .long x1), (4, .int x4)]) C.1.1 C.1.2.1 d_Rs_addWord_55 rfl hl (by decide) rfl (fun ls hl => ?_)
  refine lv_iinc (v := x4 + (1 : Int32)) (lv' := [(4, .int (x4 + (1 : Int32))), (3, .int t0), (0, .ref x0), (1, .long x1)]) C.1.1 C.1.2.1 d_Rs_addWord_56 hl (k := 3) rfl rfl (by decide) rfl (fun ls hl => ?_)
  refine lv_goto (tgt := 25) C.1.1 C.1.2.1 d_Rs_addWord_59 (by decide) ?_
  exact kJ25 t0 (x4 + (1 : Int32)) h _ _ _ hM hS (lv_sub hl [2, 3, 1, 0] rfl)
def wp_Rs_addWord_b54 (g : Nat → ClassId) (P : Mem → Prop) (J25 : Int32 → Int32 → Prop) (M : Mem) (x0 : Nat) (x1 : Int64) (x4 : Int32) : Prop :=
  wp_Rs_addWord_b55 g P J25 M x0 x1 x4 (0 : Int32)
set_option maxHeartbeats 4000000 in
set_option maxRecDepth 100000 in
theorem t_Rs_addWord_b54 {l : Launch} {D : va_G} {g : Nat → ClassId} {p : Program} {e : Env} {s : State} {m : MethodId} {args : Array Value} {below : List Frame} {meth : Method} {c : Code} {M0 : Mem} {P : Mem → Prop} {J25 : Int32 → Int32 → Prop} {M : Mem} {x0 : Nat} {x1 : Int64} {x4 : Int32} (C : C_Rs_addWord D g p s m args meth c M0) (h : wp_Rs_addWord_b54 g P J25 M x0 x1 x4 ) (kJ25 : ∀ (x3 : Int32) (x4 : Int32), J25 x3 x4 → B_Rs_addWord l D p e s m args below meth c M0 P M 25 [(0, .ref x0), (1, .long x1), (3, .int x3), (4, .int x4)] []) : B_Rs_addWord l D p e s m args below meth c M0 P M 54 [(0, .ref x0), (1, .long x1), (4, .int x4)] [] := by
  intro ls H locs hM hS hl
  unfold wp_Rs_addWord_b54 at h
  refine lv_iconst (v := (0 : Int32)) C.1.1 C.1.2.1 d_Rs_addWord_54 (by decide) ?_
  exact t_Rs_addWord_b55 C h kJ25 _ _ _ hM hS (lv_sub hl [0, 1, 2] rfl)
def wp_Rs_addWord_b25 (g : Nat → ClassId) (P : Mem → Prop) (M : Mem) (x0 : Nat) (x1 : Int64) (x3 : Int32) (x4 : Int32) : Prop :=
  ∃ (I : Int32 → Int32 → Prop) (μ : Int32 → Int32 → Nat), I x3 x4 ∧ ∀ (x3 : Int32) (x4 : Int32), I x3 x4 →
  ∃ v1 : Int32, gI M 5 x0 4 = some v1 ∧ ((v1 ≤ x4 → ((x3 = 0 → (wp_Rs_addWord_b98 g P M)) ∧ (¬ x3 = 0 → (∃ v4 : Int32, gI M 5 x0 4 = some v4 ∧ (∃ v5 : Nat, gR M 5 x0 2 = some v5 ∧ (∃ n6 : Nat, aN M (g 1) v5 = some n6 ∧ (((nI n6) ≤ v4 → (wp_Rs_addWord_b98 g P M)) ∧ (¬ (nI n6) ≤ v4 → (∃ v8 : Nat, gR M 5 x0 2 = some v8 ∧ (∃ v9 : Int32, gI M 5 x0 4 = some v9 ∧ (∃ M10 : Mem, sL M (g 1) v8 v9 x1 = some M10 ∧ (∃ v11 : Int32, gI M10 5 x0 4 = some v11 ∧ (∃ M12 : Mem, pV M10 5 x0 4 (.int (v11 + (1 : Int32))) = some M12 ∧ (wp_Rs_addWord_b98 g P M12)))))))))))))) ∧ (¬ v1 ≤ x4 → ((x3 = 0 → (wp_Rs_addWord_b54 g P (fun y3 y4 => I y3 y4 ∧ μ y3 y4 < μ x3 x4) M x0 x1 x4)) ∧ (¬ x3 = 0 → (∃ v14 : Nat, gR M 5 x0 2 = some v14 ∧ (∃ v15 : Int64, aL M (g 1) v14 x4 = some v15 ∧ (((lg_cmp v15 x1) = 0 → (wp_Rs_addWord_b54 g P (fun y3 y4 => I y3 y4 ∧ μ y3 y4 < μ x3 x4) M x0 x1 x4)) ∧ (¬ (lg_cmp v15 x1) = 0 → (wp_Rs_addWord_b55 g P (fun y3 y4 => I y3 y4 ∧ μ y3 y4 < μ x3 x4) M x0 x1 x4 (1 : Int32))))))))))
set_option maxHeartbeats 4000000 in
set_option maxRecDepth 100000 in
theorem t_Rs_addWord_b25 {l : Launch} {D : va_G} {g : Nat → ClassId} {p : Program} {e : Env} {s : State} {m : MethodId} {args : Array Value} {below : List Frame} {meth : Method} {c : Code} {M0 : Mem} {P : Mem → Prop} {M : Mem} {x0 : Nat} {x1 : Int64} {x3 : Int32} {x4 : Int32} (C : C_Rs_addWord D g p s m args meth c M0) (h : wp_Rs_addWord_b25 g P M x0 x1 x3 x4 ) : B_Rs_addWord l D p e s m args below meth c M0 P M 25 [(0, .ref x0), (1, .long x1), (3, .int x3), (4, .int x4)] [] := by
  unfold wp_Rs_addWord_b25 at h
  obtain ⟨I, μ, hI, hb⟩ := h
  have key : ∀ (n : Nat) (x3 : Int32) (x4 : Int32), I x3 x4 → μ x3 x4 < n → B_Rs_addWord l D p e s m args below meth c M0 P M 25 [(0, .ref x0), (1, .long x1), (3, .int x3), (4, .int x4)] [] := by
    intro n
    induction n with
    | zero => intro x3 x4 _ hn; exact absurd hn (Nat.not_lt_zero _)
    | succ n ih =>
      intro x3 x4 hI hn ls H locs hM hS hl
      have h := hb x3 x4 hI
      refine lv_iload C.1.1 C.1.2.1 d_Rs_addWord_25 (lv_at hl 3 rfl) ?_
      refine lv_aload_n C.1.1 C.1.2.1 d_Rs_addWord_27 rfl (lv_at hl 0 rfl) ?_
      obtain ⟨v1, ev1, h⟩ := h
      refine mg_I C.1 hM ok_Rs (by decide) kw94 ev1 d_Rs_addWord_28 ?_
      refine lv_icmp_ge (tgt := 62) C.1.1 C.1.2.1 d_Rs_addWord_31 (by decide) (fun c2 => ?_) (fun c2 => ?_)
      · have h := h.1 c2
        refine lv_iload_n C.1.1 C.1.2.1 d_Rs_addWord_62 rfl (lv_at hl 2 rfl) ?_
        refine lv_if_eq (tgt := 98) C.1.1 C.1.2.1 d_Rs_addWord_63 (by decide) (fun c3 => ?_) (fun c3 => ?_)
        · have h := h.1 c3
          exact t_Rs_addWord_b98 C h _ _ _ hM hS (lv_sub hl [] rfl)
        · have h := h.2 c3
          refine lv_aload_n C.1.1 C.1.2.1 d_Rs_addWord_66 rfl (lv_at hl 0 rfl) ?_
          obtain ⟨v4, ev4, h⟩ := h
          refine mg_I C.1 hM ok_Rs (by decide) kw94 ev4 d_Rs_addWord_67 ?_
          refine lv_aload_n C.1.1 C.1.2.1 d_Rs_addWord_70 rfl (lv_at hl 0 rfl) ?_
          obtain ⟨v5, ev5, h⟩ := h
          refine mg_R C.1 hM ok_Rs (by decide) kw92 ev5 d_Rs_addWord_71 ?_
          obtain ⟨n6, en6, h⟩ := h
          refine ma_N C.1 hM 1 rfl en6 d_Rs_addWord_74 ?_
          refine lv_icmp_ge (tgt := 98) C.1.1 C.1.2.1 d_Rs_addWord_75 (by decide) (fun c7 => ?_) (fun c7 => ?_)
          · have h := h.1 c7
            exact t_Rs_addWord_b98 C h _ _ _ hM hS (lv_sub hl [] rfl)
          · have h := h.2 c7
            refine lv_aload_n C.1.1 C.1.2.1 d_Rs_addWord_78 rfl (lv_at hl 0 rfl) ?_
            obtain ⟨v8, ev8, h⟩ := h
            refine mg_R C.1 hM ok_Rs (by decide) kw92 ev8 d_Rs_addWord_79 ?_
            refine lv_aload_n C.1.1 C.1.2.1 d_Rs_addWord_82 rfl (lv_at hl 0 rfl) ?_
            obtain ⟨v9, ev9, h⟩ := h
            refine mg_I C.1 hM ok_Rs (by decide) kw94 ev9 d_Rs_addWord_83 ?_
            refine lv_lload_n C.1.1 C.1.2.1 d_Rs_addWord_86 rfl (lv_at hl 1 rfl) ?_
            obtain ⟨M10, eM10, h⟩ := h
            refine ms_L C.1 hM hS 1 rfl eM10 d_Rs_addWord_87 (fun H locs hM hS => ?_)
            refine lv_aload_n C.1.1 C.1.2.1 d_Rs_addWord_88 rfl (lv_at hl 0 rfl) ?_
            refine lv_dup C.1.1 C.1.2.1 d_Rs_addWord_89 rfl ?_
            obtain ⟨v11, ev11, h⟩ := h
            refine mg_I C.1 hM ok_Rs (by decide) kw94 ev11 d_Rs_addWord_90 ?_
            refine lv_iconst (v := (1 : Int32)) C.1.1 C.1.2.1 d_Rs_addWord_93 (by decide) ?_
            refine lv_iadd C.1.1 C.1.2.1 d_Rs_addWord_94 ?_
            obtain ⟨M12, eM12, h⟩ := h
            refine mp_V C.1 hM hS ok_Rs (by decide) kw94 rfl rfl rfl eM12 d_Rs_addWord_95 (fun H locs hM hS => ?_)
            exact t_Rs_addWord_b98 C h _ _ _ hM hS (lv_sub hl [] rfl)
      · have h := h.2 c2
        refine lv_iload_n C.1.1 C.1.2.1 d_Rs_addWord_34 rfl (lv_at hl 2 rfl) ?_
        refine lv_if_eq (tgt := 54) C.1.1 C.1.2.1 d_Rs_addWord_35 (by decide) (fun c13 => ?_) (fun c13 => ?_)
        · have h := h.1 c13
          exact t_Rs_addWord_b54 C h (fun y3 y4 hJ => ih y3 y4 hJ.1 (Nat.lt_of_lt_of_le hJ.2 (Nat.le_of_lt_succ hn))) _ _ _ hM hS (lv_sub hl [0, 1, 3] rfl)
        · have h := h.2 c13
          refine lv_aload_n C.1.1 C.1.2.1 d_Rs_addWord_38 rfl (lv_at hl 0 rfl) ?_
          obtain ⟨v14, ev14, h⟩ := h
          refine mg_R C.1 hM ok_Rs (by decide) kw92 ev14 d_Rs_addWord_39 ?_
          refine lv_iload C.1.1 C.1.2.1 d_Rs_addWord_42 (lv_at hl 3 rfl) ?_
          obtain ⟨v15, ev15, h⟩ := h
          refine ma_L C.1 hM 1 rfl ev15 d_Rs_addWord_44 ?_
          refine lv_lload_n C.1.1 C.1.2.1 d_Rs_addWord_45 rfl (lv_at hl 1 rfl) ?_
          refine W.lcmp C.1.1 C.1.2.1 d_Rs_addWord_46 ?_
          refine lv_if_eq (tgt := 54) C.1.1 C.1.2.1 d_Rs_addWord_47 (by decide) (fun c16 => ?_) (fun c16 => ?_)
          · have h := h.1 c16
            exact t_Rs_addWord_b54 C h (fun y3 y4 hJ => ih y3 y4 hJ.1 (Nat.lt_of_lt_of_le hJ.2 (Nat.le_of_lt_succ hn))) _ _ _ hM hS (lv_sub hl [0, 1, 3] rfl)
          · have h := h.2 c16
            refine lv_iconst (v := (1 : Int32)) C.1.1 C.1.2.1 d_Rs_addWord_50 (by decide) ?_
            refine lv_goto (tgt := 55) C.1.1 C.1.2.1 d_Rs_addWord_51 (by decide) ?_
            exact t_Rs_addWord_b55 C h (fun y3 y4 hJ => ih y3 y4 hJ.1 (Nat.lt_of_lt_of_le hJ.2 (Nat.le_of_lt_succ hn))) _ _ _ hM hS (lv_sub hl [0, 1, 3] rfl)
  exact key _ x3 x4 hI (Nat.lt_succ_self _)
def wp_Rs_addWord_b21 (g : Nat → ClassId) (P : Mem → Prop) (M : Mem) (x0 : Nat) (x1 : Int64) (t0 : Int32) : Prop :=
  wp_Rs_addWord_b25 g P M x0 x1 t0 (0 : Int32)
set_option maxHeartbeats 4000000 in
set_option maxRecDepth 100000 in
theorem t_Rs_addWord_b21 {l : Launch} {D : va_G} {g : Nat → ClassId} {p : Program} {e : Env} {s : State} {m : MethodId} {args : Array Value} {below : List Frame} {meth : Method} {c : Code} {M0 : Mem} {P : Mem → Prop} {M : Mem} {x0 : Nat} {x1 : Int64} {t0 : Int32} (C : C_Rs_addWord D g p s m args meth c M0) (h : wp_Rs_addWord_b21 g P M x0 x1 t0) : B_Rs_addWord l D p e s m args below meth c M0 P M 21 [(0, .ref x0), (1, .long x1)] [.int t0] := by
  intro ls H locs hM hS hl
  unfold wp_Rs_addWord_b21 at h
  refine lv_istore_n (lv' := [(3, .int t0), (0, .ref x0), (1, .long x1)]) C.1.1 C.1.2.1 d_Rs_addWord_21 rfl hl (by decide) rfl (fun ls hl => ?_)
  refine lv_iconst (v := (0 : Int32)) C.1.1 C.1.2.1 d_Rs_addWord_22 (by decide) ?_
  refine lv_istore (lv' := [(4, .int (0 : Int32)), (3, .int t0), (0, .ref x0), (1, .long x1)]) C.1.1 C.1.2.1 d_Rs_addWord_23 hl (by decide) rfl (fun ls hl => ?_)
  exact t_Rs_addWord_b25 C h _ _ _ hM hS (lv_sub hl [2, 3, 1, 0] rfl)
def wp_Rs_addWord_b20 (g : Nat → ClassId) (P : Mem → Prop) (M : Mem) (x0 : Nat) (x1 : Int64) : Prop :=
  wp_Rs_addWord_b21 g P M x0 x1 (0 : Int32)
set_option maxHeartbeats 4000000 in
set_option maxRecDepth 100000 in
theorem t_Rs_addWord_b20 {l : Launch} {D : va_G} {g : Nat → ClassId} {p : Program} {e : Env} {s : State} {m : MethodId} {args : Array Value} {below : List Frame} {meth : Method} {c : Code} {M0 : Mem} {P : Mem → Prop} {M : Mem} {x0 : Nat} {x1 : Int64} (C : C_Rs_addWord D g p s m args meth c M0) (h : wp_Rs_addWord_b20 g P M x0 x1 ) : B_Rs_addWord l D p e s m args below meth c M0 P M 20 [(0, .ref x0), (1, .long x1)] [] := by
  intro ls H locs hM hS hl
  unfold wp_Rs_addWord_b20 at h
  refine lv_iconst (v := (0 : Int32)) C.1.1 C.1.2.1 d_Rs_addWord_20 (by decide) ?_
  exact t_Rs_addWord_b21 C h _ _ _ hM hS (lv_sub hl [0, 1] rfl)
def wp_Rs_addWord (g : Nat → ClassId) (M : Mem) (x0 : Nat) (x1 : Int64) (P : Mem → Prop) : Prop :=
  ((lg_cmp x1 (42 : Int64)) = 0 → (wp_Rs_addWord_b20 g P M x0 x1)) ∧ (¬ (lg_cmp x1 (42 : Int64)) = 0 → (((lg_cmp x1 (35 : Int64)) = 0 → (wp_Rs_addWord_b20 g P M x0 x1)) ∧ (¬ (lg_cmp x1 (35 : Int64)) = 0 → (wp_Rs_addWord_b21 g P M x0 x1 (1 : Int32)))))
set_option maxHeartbeats 4000000 in
set_option maxRecDepth 100000 in
theorem c_Rs_addWord {l : Launch} {D : va_G} {g : Nat → ClassId} {M : Mem} {x0 : Nat} {x1 : Int64} {P : Mem → Prop} (h : wp_Rs_addWord g M x0 x1 P) : mMet l BIG D vwCl (tysG g) y_Rs_addWord b_Rs_addWord 5 none rm_Rs_addWord [.ref x0, .long x1] M (kV fun M' => P M') := by
  refine mMet.of (own := R_Rs) rfl (by decide) rfl (fun p e s m below meth c C hr hlk hnm ls hM hS hl => ?_)
  have C : C_Rs_addWord D g p s m ([.ref x0, .long x1] : List Value).toArray meth c M := ⟨C, hr, hlk⟩
  unfold wp_Rs_addWord at h
  have hl : lv_has ls 5 [(0, .ref x0), (1, .long x1)] := hl
  refine lv_lload_n C.1.1 C.1.2.1 d_Rs_addWord_0 rfl (lv_at hl 1 rfl) ?_
  refine lv_ldc2 (v := (42 : Int64)) C.1.1 C.1.2.1 C.1.2.2.2.1 (C.1.2.2.2.2.1 _ kw95) d_Rs_addWord_1 ?_
  refine W.lcmp C.1.1 C.1.2.1 d_Rs_addWord_4 ?_
  refine lv_if_eq (tgt := 20) C.1.1 C.1.2.1 d_Rs_addWord_5 (by decide) (fun c1 => ?_) (fun c1 => ?_)
  · have h := h.1 c1
    exact t_Rs_addWord_b20 C h _ _ _ hM hS (lv_sub hl [0, 1] rfl)
  · have h := h.2 c1
    refine lv_lload_n C.1.1 C.1.2.1 d_Rs_addWord_8 rfl (lv_at hl 1 rfl) ?_
    refine lv_ldc2 (v := (35 : Int64)) C.1.1 C.1.2.1 C.1.2.2.2.1 (C.1.2.2.2.2.1 _ kw96) d_Rs_addWord_9 ?_
    refine W.lcmp C.1.1 C.1.2.1 d_Rs_addWord_12 ?_
    refine lv_if_eq (tgt := 20) C.1.1 C.1.2.1 d_Rs_addWord_13 (by decide) (fun c2 => ?_) (fun c2 => ?_)
    · have h := h.1 c2
      exact t_Rs_addWord_b20 C h _ _ _ hM hS (lv_sub hl [0, 1] rfl)
    · have h := h.2 c2
      refine lv_iconst (v := (1 : Int32)) C.1.1 C.1.2.1 d_Rs_addWord_16 (by decide) ?_
      refine lv_goto (tgt := 21) C.1.1 C.1.2.1 d_Rs_addWord_17 (by decide) ?_
      exact t_Rs_addWord_b21 C h _ _ _ hM hS (lv_sub hl [0, 1] rfl)
theorem d_Rs_addState_0 : decode b_Rs_addState 0 = .ok (.iload_n 1, 1) := by decide +kernel
theorem d_Rs_addState_1 : decode b_Rs_addState 1 = .ok (.bipush 64, 2) := by decide +kernel
theorem d_Rs_addState_3 : decode b_Rs_addState 3 = .ok (.idiv, 1) := by decide +kernel
theorem d_Rs_addState_4 : decode b_Rs_addState 4 = .ok (.istore_n 3, 1) := by decide +kernel
theorem d_Rs_addState_5 : decode b_Rs_addState 5 = .ok (.lconst 1, 1) := by decide +kernel
theorem d_Rs_addState_6 : decode b_Rs_addState 6 = .ok (.iload_n 1, 1) := by decide +kernel
theorem d_Rs_addState_7 : decode b_Rs_addState 7 = .ok (.bipush 64, 2) := by decide +kernel
theorem d_Rs_addState_9 : decode b_Rs_addState 9 = .ok (.irem, 1) := by decide +kernel
theorem d_Rs_addState_10 : decode b_Rs_addState 10 = .ok (.lshl, 1) := by decide +kernel
theorem d_Rs_addState_11 : decode b_Rs_addState 11 = .ok (.lstore 4, 2) := by decide +kernel
theorem d_Rs_addState_13 : decode b_Rs_addState 13 = .ok (.iload_n 3, 1) := by decide +kernel
theorem d_Rs_addState_14 : decode b_Rs_addState 14 = .ok (.ifCond .lt 26, 3) := by decide +kernel
theorem d_Rs_addState_17 : decode b_Rs_addState 17 = .ok (.iload_n 3, 1) := by decide +kernel
theorem d_Rs_addState_18 : decode b_Rs_addState 18 = .ok (.aload_n 0, 1) := by decide +kernel
theorem d_Rs_addState_19 : decode b_Rs_addState 19 = .ok (.getfield 15, 3) := by decide +kernel
theorem d_Rs_addState_22 : decode b_Rs_addState 22 = .ok (.arraylength, 1) := by decide +kernel
theorem d_Rs_addState_23 : decode b_Rs_addState 23 = .ok (.if_icmp .ge 17, 3) := by decide +kernel
theorem d_Rs_addState_26 : decode b_Rs_addState 26 = .ok (.aload_n 0, 1) := by decide +kernel
theorem d_Rs_addState_27 : decode b_Rs_addState 27 = .ok (.getfield 15, 3) := by decide +kernel
theorem d_Rs_addState_30 : decode b_Rs_addState 30 = .ok (.iload_n 3, 1) := by decide +kernel
theorem d_Rs_addState_31 : decode b_Rs_addState 31 = .ok (.laload, 1) := by decide +kernel
theorem d_Rs_addState_32 : decode b_Rs_addState 32 = .ok (.lload 4, 2) := by decide +kernel
theorem d_Rs_addState_34 : decode b_Rs_addState 34 = .ok (.land, 1) := by decide +kernel
theorem d_Rs_addState_35 : decode b_Rs_addState 35 = .ok (.lconst 0, 1) := by decide +kernel
theorem d_Rs_addState_36 : decode b_Rs_addState 36 = .ok (.lcmp, 1) := by decide +kernel
theorem d_Rs_addState_37 : decode b_Rs_addState 37 = .ok (.ifCond .eq 4, 3) := by decide +kernel
theorem d_Rs_addState_40 : decode b_Rs_addState 40 = .ok (.return_, 1) := by decide +kernel
theorem d_Rs_addState_41 : decode b_Rs_addState 41 = .ok (.aload_n 0, 1) := by decide +kernel
theorem d_Rs_addState_42 : decode b_Rs_addState 42 = .ok (.getfield 15, 3) := by decide +kernel
theorem d_Rs_addState_45 : decode b_Rs_addState 45 = .ok (.iload_n 3, 1) := by decide +kernel
theorem d_Rs_addState_46 : decode b_Rs_addState 46 = .ok (.dup2, 1) := by decide +kernel
theorem d_Rs_addState_47 : decode b_Rs_addState 47 = .ok (.laload, 1) := by decide +kernel
theorem d_Rs_addState_48 : decode b_Rs_addState 48 = .ok (.lload 4, 2) := by decide +kernel
theorem d_Rs_addState_50 : decode b_Rs_addState 50 = .ok (.lor, 1) := by decide +kernel
theorem d_Rs_addState_51 : decode b_Rs_addState 51 = .ok (.lastore, 1) := by decide +kernel
theorem d_Rs_addState_52 : decode b_Rs_addState 52 = .ok (.aload_n 0, 1) := by decide +kernel
theorem d_Rs_addState_53 : decode b_Rs_addState 53 = .ok (.getfield 22, 3) := by decide +kernel
theorem d_Rs_addState_56 : decode b_Rs_addState 56 = .ok (.aload_n 0, 1) := by decide +kernel
theorem d_Rs_addState_57 : decode b_Rs_addState 57 = .ok (.getfield 11, 3) := by decide +kernel
theorem d_Rs_addState_60 : decode b_Rs_addState 60 = .ok (.arraylength, 1) := by decide +kernel
theorem d_Rs_addState_61 : decode b_Rs_addState 61 = .ok (.if_icmp .ge 28, 3) := by decide +kernel
theorem d_Rs_addState_64 : decode b_Rs_addState 64 = .ok (.aload_n 0, 1) := by decide +kernel
theorem d_Rs_addState_65 : decode b_Rs_addState 65 = .ok (.getfield 11, 3) := by decide +kernel
theorem d_Rs_addState_68 : decode b_Rs_addState 68 = .ok (.aload_n 0, 1) := by decide +kernel
theorem d_Rs_addState_69 : decode b_Rs_addState 69 = .ok (.getfield 22, 3) := by decide +kernel
theorem d_Rs_addState_72 : decode b_Rs_addState 72 = .ok (.iload_n 2, 1) := by decide +kernel
theorem d_Rs_addState_73 : decode b_Rs_addState 73 = .ok (.bipush 10, 2) := by decide +kernel
theorem d_Rs_addState_75 : decode b_Rs_addState 75 = .ok (.ishl, 1) := by decide +kernel
theorem d_Rs_addState_76 : decode b_Rs_addState 76 = .ok (.iload_n 1, 1) := by decide +kernel
theorem d_Rs_addState_77 : decode b_Rs_addState 77 = .ok (.ior, 1) := by decide +kernel
theorem d_Rs_addState_78 : decode b_Rs_addState 78 = .ok (.iastore, 1) := by decide +kernel
theorem d_Rs_addState_79 : decode b_Rs_addState 79 = .ok (.aload_n 0, 1) := by decide +kernel
theorem d_Rs_addState_80 : decode b_Rs_addState 80 = .ok (.dup, 1) := by decide +kernel
theorem d_Rs_addState_81 : decode b_Rs_addState 81 = .ok (.getfield 22, 3) := by decide +kernel
theorem d_Rs_addState_84 : decode b_Rs_addState 84 = .ok (.iconst 1, 1) := by decide +kernel
theorem d_Rs_addState_85 : decode b_Rs_addState 85 = .ok (.iadd, 1) := by decide +kernel
theorem d_Rs_addState_86 : decode b_Rs_addState 86 = .ok (.putfield 22, 3) := by decide +kernel
theorem d_Rs_addState_89 : decode b_Rs_addState 89 = .ok (.return_, 1) := by decide +kernel
abbrev rm_Rs_addState : Room := { frames := 0, cells := 0, slots := 0, locals := 0 }
abbrev C_Rs_addState (D : va_G) (g : Nat → ClassId) (p : Program) (s : State) (m : MethodId) (args : Array Value) (meth : Method) (c : Code) (M0 : Mem) : Prop := Cx p s m args c b_Rs_addState 6 R_Rs BIG D vwCl (tysG g) (mA M0 s.heap.size) ∧ meth.sig.returnType = none ∧ meth.locks = false
abbrev B_Rs_addState (l : Launch) (D : va_G) (p : Program) (e : Env) (s : State) (m : MethodId) (args : Array Value) (below : List Frame) (meth : Method) (c : Code) (M0 : Mem) (P : Mem → Prop) (M : Mem) (pc : Nat) (lv : List (Nat × Value)) (st : List Value) : Prop := Wb p l e rm_Rs_addState s m args below meth c 6 D vwCl M0 (kV fun M' => P M') 0 0 M pc lv st
def wp_Rs_addState_b89 (g : Nat → ClassId) (P : Mem → Prop) (M : Mem) : Prop :=
  P M
set_option maxHeartbeats 4000000 in
set_option maxRecDepth 100000 in
theorem t_Rs_addState_b89 {l : Launch} {D : va_G} {g : Nat → ClassId} {p : Program} {e : Env} {s : State} {m : MethodId} {args : Array Value} {below : List Frame} {meth : Method} {c : Code} {M0 : Mem} {P : Mem → Prop} {M : Mem} (C : C_Rs_addState D g p s m args meth c M0) (h : wp_Rs_addState_b89 g P M ) : B_Rs_addState l D p e s m args below meth c M0 P M 89 [] [] := by
  intro ls H locs hM hS hl
  unfold wp_Rs_addState_b89 at h
  exact mr_V C.1 C.2.1 C.2.2 hM hS ⟨rfl, h⟩ d_Rs_addState_89
def wp_Rs_addState_b40 (g : Nat → ClassId) (P : Mem → Prop) (M : Mem) : Prop :=
  P M
set_option maxHeartbeats 4000000 in
set_option maxRecDepth 100000 in
theorem t_Rs_addState_b40 {l : Launch} {D : va_G} {g : Nat → ClassId} {p : Program} {e : Env} {s : State} {m : MethodId} {args : Array Value} {below : List Frame} {meth : Method} {c : Code} {M0 : Mem} {P : Mem → Prop} {M : Mem} (C : C_Rs_addState D g p s m args meth c M0) (h : wp_Rs_addState_b40 g P M ) : B_Rs_addState l D p e s m args below meth c M0 P M 40 [] [] := by
  intro ls H locs hM hS hl
  unfold wp_Rs_addState_b40 at h
  exact mr_V C.1 C.2.1 C.2.2 hM hS ⟨rfl, h⟩ d_Rs_addState_40
def wp_Rs_addState (g : Nat → ClassId) (M : Mem) (x0 : Nat) (x1 : Int32) (x2 : Int32) (P : Mem → Prop) : Prop :=
  ((x1 / (64 : Int32)) < 0 → (wp_Rs_addState_b40 g P M)) ∧ (¬ (x1 / (64 : Int32)) < 0 → (∃ v2 : Nat, gR M 5 x0 1 = some v2 ∧ (∃ n3 : Nat, aN M (g 1) v2 = some n3 ∧ (((nI n3) ≤ (x1 / (64 : Int32)) → (wp_Rs_addState_b40 g P M)) ∧ (¬ (nI n3) ≤ (x1 / (64 : Int32)) → (∃ v5 : Nat, gR M 5 x0 1 = some v5 ∧ (∃ v6 : Int64, aL M (g 1) v5 (x1 / (64 : Int32)) = some v6 ∧ (((lg_cmp (v6 &&& ((1 : Int64) <<< ((x1 - x1 / (64 : Int32) * (64 : Int32)).toInt64 &&& 63))) (0 : Int64)) = 0 → (∃ v8 : Nat, gR M 5 x0 1 = some v8 ∧ (∃ v9 : Int64, aL M (g 1) v8 (x1 / (64 : Int32)) = some v9 ∧ (∃ M10 : Mem, sL M (g 1) v8 (x1 / (64 : Int32)) (v9 ||| ((1 : Int64) <<< ((x1 - x1 / (64 : Int32) * (64 : Int32)).toInt64 &&& 63))) = some M10 ∧ (∃ v11 : Int32, gI M10 5 x0 3 = some v11 ∧ (∃ v12 : Nat, gR M10 5 x0 0 = some v12 ∧ (∃ n13 : Nat, aN M10 (g 2) v12 = some n13 ∧ (((nI n13) ≤ v11 → (wp_Rs_addState_b89 g P M10)) ∧ (¬ (nI n13) ≤ v11 → (∃ v15 : Nat, gR M10 5 x0 0 = some v15 ∧ (∃ v16 : Int32, gI M10 5 x0 3 = some v16 ∧ (∃ M17 : Mem, sI M10 (g 2) v15 v16 ((x2 <<< ((10 : Int32) &&& 31)) ||| x1) = some M17 ∧ (∃ v18 : Int32, gI M17 5 x0 3 = some v18 ∧ (∃ M19 : Mem, pV M17 5 x0 3 (.int (v18 + (1 : Int32))) = some M19 ∧ (wp_Rs_addState_b89 g P M19))))))))))))))) ∧ (¬ (lg_cmp (v6 &&& ((1 : Int64) <<< ((x1 - x1 / (64 : Int32) * (64 : Int32)).toInt64 &&& 63))) (0 : Int64)) = 0 → (wp_Rs_addState_b40 g P M))))))))))
set_option maxHeartbeats 4000000 in
set_option maxRecDepth 100000 in
theorem c_Rs_addState {l : Launch} {D : va_G} {g : Nat → ClassId} {M : Mem} {x0 : Nat} {x1 : Int32} {x2 : Int32} {P : Mem → Prop} (h : wp_Rs_addState g M x0 x1 x2 P) : mMet l BIG D vwCl (tysG g) y_Rs_addState b_Rs_addState 6 none rm_Rs_addState [.ref x0, .int x1, .int x2] M (kV fun M' => P M') := by
  refine mMet.of (own := R_Rs) rfl (by decide) rfl (fun p e s m below meth c C hr hlk hnm ls hM hS hl => ?_)
  have C : C_Rs_addState D g p s m ([.ref x0, .int x1, .int x2] : List Value).toArray meth c M := ⟨C, hr, hlk⟩
  unfold wp_Rs_addState at h
  have hl : lv_has ls 6 [(0, .ref x0), (1, .int x1), (2, .int x2)] := hl
  refine lv_iload_n C.1.1 C.1.2.1 d_Rs_addState_0 rfl (lv_at hl 1 rfl) ?_
  refine lv_bipush (v := (64 : Int32)) C.1.1 C.1.2.1 d_Rs_addState_1 (by decide) ?_
  refine lv_idiv C.1.1 C.1.2.1 d_Rs_addState_3 (by decide) ?_
  refine lv_istore_n (lv' := [(3, .int (x1 / (64 : Int32))), (0, .ref x0), (1, .int x1), (2, .int x2)]) C.1.1 C.1.2.1 d_Rs_addState_4 rfl hl (by decide) rfl (fun ls hl => ?_)
  refine lv_lconst (v := (1 : Int64)) C.1.1 C.1.2.1 d_Rs_addState_5 (by decide) ?_
  refine lv_iload_n C.1.1 C.1.2.1 d_Rs_addState_6 rfl (lv_at hl 2 rfl) ?_
  refine lv_bipush (v := (64 : Int32)) C.1.1 C.1.2.1 d_Rs_addState_7 (by decide) ?_
  refine lv_irem C.1.1 C.1.2.1 d_Rs_addState_9 (by decide) ?_
  refine lv_lshl (v := (1 : Int64) <<< ((x1 - x1 / (64 : Int32) * (64 : Int32)).toInt64 &&& 63)) C.1.1 C.1.2.1 d_Rs_addState_10 rfl ?_
  refine lv_lstore (lv' := [(4, .long ((1 : Int64) <<< ((x1 - x1 / (64 : Int32) * (64 : Int32)).toInt64 &&& 63))), (3, .int (x1 / (64 : Int32))), (0, .ref x0), (1, .int x1), (2, .int x2)]) C.1.1 C.1.2.1 d_Rs_addState_11 hl (by decide) rfl (fun ls hl => ?_)
  refine lv_iload_n C.1.1 C.1.2.1 d_Rs_addState_13 rfl (lv_at hl 1 rfl) ?_
  refine lv_if_lt (tgt := 40) C.1.1 C.1.2.1 d_Rs_addState_14 (by decide) (fun c1 => ?_) (fun c1 => ?_)
  · have h := h.1 c1
    exact t_Rs_addState_b40 C h _ _ _ hM hS (lv_sub hl [] rfl)
  · have h := h.2 c1
    refine lv_iload_n C.1.1 C.1.2.1 d_Rs_addState_17 rfl (lv_at hl 1 rfl) ?_
    refine lv_aload_n C.1.1 C.1.2.1 d_Rs_addState_18 rfl (lv_at hl 2 rfl) ?_
    obtain ⟨v2, ev2, h⟩ := h
    refine mg_R C.1 hM ok_Rs (by decide) kw91 ev2 d_Rs_addState_19 ?_
    obtain ⟨n3, en3, h⟩ := h
    refine ma_N C.1 hM 1 rfl en3 d_Rs_addState_22 ?_
    refine lv_icmp_ge (tgt := 40) C.1.1 C.1.2.1 d_Rs_addState_23 (by decide) (fun c4 => ?_) (fun c4 => ?_)
    · have h := h.1 c4
      exact t_Rs_addState_b40 C h _ _ _ hM hS (lv_sub hl [] rfl)
    · have h := h.2 c4
      refine lv_aload_n C.1.1 C.1.2.1 d_Rs_addState_26 rfl (lv_at hl 2 rfl) ?_
      obtain ⟨v5, ev5, h⟩ := h
      refine mg_R C.1 hM ok_Rs (by decide) kw91 ev5 d_Rs_addState_27 ?_
      refine lv_iload_n C.1.1 C.1.2.1 d_Rs_addState_30 rfl (lv_at hl 1 rfl) ?_
      obtain ⟨v6, ev6, h⟩ := h
      refine ma_L C.1 hM 1 rfl ev6 d_Rs_addState_31 ?_
      refine lv_lload C.1.1 C.1.2.1 d_Rs_addState_32 (lv_at hl 0 rfl) ?_
      refine lv_land C.1.1 C.1.2.1 d_Rs_addState_34 ?_
      refine lv_lconst (v := (0 : Int64)) C.1.1 C.1.2.1 d_Rs_addState_35 (by decide) ?_
      refine W.lcmp C.1.1 C.1.2.1 d_Rs_addState_36 ?_
      refine lv_if_eq (tgt := 41) C.1.1 C.1.2.1 d_Rs_addState_37 (by decide) (fun c7 => ?_) (fun c7 => ?_)
      · have h := h.1 c7
        refine lv_aload_n C.1.1 C.1.2.1 d_Rs_addState_41 rfl (lv_at hl 2 rfl) ?_
        obtain ⟨v8, ev8, h⟩ := h
        refine mg_R C.1 hM ok_Rs (by decide) kw91 ev8 d_Rs_addState_42 ?_
        refine lv_iload_n C.1.1 C.1.2.1 d_Rs_addState_45 rfl (lv_at hl 1 rfl) ?_
        refine lv_dup2_11 C.1.1 C.1.2.1 d_Rs_addState_46 rfl rfl ?_
        obtain ⟨v9, ev9, h⟩ := h
        refine ma_L C.1 hM 1 rfl ev9 d_Rs_addState_47 ?_
        refine lv_lload C.1.1 C.1.2.1 d_Rs_addState_48 (lv_at hl 0 rfl) ?_
        refine lv_lor C.1.1 C.1.2.1 d_Rs_addState_50 ?_
        obtain ⟨M10, eM10, h⟩ := h
        refine ms_L C.1 hM hS 1 rfl eM10 d_Rs_addState_51 (fun H locs hM hS => ?_)
        refine lv_aload_n C.1.1 C.1.2.1 d_Rs_addState_52 rfl (lv_at hl 2 rfl) ?_
        obtain ⟨v11, ev11, h⟩ := h
        refine mg_I C.1 hM ok_Rs (by decide) kw93 ev11 d_Rs_addState_53 ?_
        refine lv_aload_n C.1.1 C.1.2.1 d_Rs_addState_56 rfl (lv_at hl 2 rfl) ?_
        obtain ⟨v12, ev12, h⟩ := h
        refine mg_R C.1 hM ok_Rs (by decide) kw90 ev12 d_Rs_addState_57 ?_
        obtain ⟨n13, en13, h⟩ := h
        refine ma_N C.1 hM 2 rfl en13 d_Rs_addState_60 ?_
        refine lv_icmp_ge (tgt := 89) C.1.1 C.1.2.1 d_Rs_addState_61 (by decide) (fun c14 => ?_) (fun c14 => ?_)
        · have h := h.1 c14
          exact t_Rs_addState_b89 C h _ _ _ hM hS (lv_sub hl [] rfl)
        · have h := h.2 c14
          refine lv_aload_n C.1.1 C.1.2.1 d_Rs_addState_64 rfl (lv_at hl 2 rfl) ?_
          obtain ⟨v15, ev15, h⟩ := h
          refine mg_R C.1 hM ok_Rs (by decide) kw90 ev15 d_Rs_addState_65 ?_
          refine lv_aload_n C.1.1 C.1.2.1 d_Rs_addState_68 rfl (lv_at hl 2 rfl) ?_
          obtain ⟨v16, ev16, h⟩ := h
          refine mg_I C.1 hM ok_Rs (by decide) kw93 ev16 d_Rs_addState_69 ?_
          refine lv_iload_n C.1.1 C.1.2.1 d_Rs_addState_72 rfl (lv_at hl 4 rfl) ?_
          refine lv_bipush (v := (10 : Int32)) C.1.1 C.1.2.1 d_Rs_addState_73 (by decide) ?_
          refine lv_ishl C.1.1 C.1.2.1 d_Rs_addState_75 ?_
          refine lv_iload_n C.1.1 C.1.2.1 d_Rs_addState_76 rfl (lv_at hl 3 rfl) ?_
          refine lv_ior C.1.1 C.1.2.1 d_Rs_addState_77 ?_
          obtain ⟨M17, eM17, h⟩ := h
          refine ms_I C.1 hM hS 2 rfl eM17 d_Rs_addState_78 (fun H locs hM hS => ?_)
          refine lv_aload_n C.1.1 C.1.2.1 d_Rs_addState_79 rfl (lv_at hl 2 rfl) ?_
          refine lv_dup C.1.1 C.1.2.1 d_Rs_addState_80 rfl ?_
          obtain ⟨v18, ev18, h⟩ := h
          refine mg_I C.1 hM ok_Rs (by decide) kw93 ev18 d_Rs_addState_81 ?_
          refine lv_iconst (v := (1 : Int32)) C.1.1 C.1.2.1 d_Rs_addState_84 (by decide) ?_
          refine lv_iadd C.1.1 C.1.2.1 d_Rs_addState_85 ?_
          obtain ⟨M19, eM19, h⟩ := h
          refine mp_V C.1 hM hS ok_Rs (by decide) kw93 rfl rfl rfl eM19 d_Rs_addState_86 (fun H locs hM hS => ?_)
          exact t_Rs_addState_b89 C h _ _ _ hM hS (lv_sub hl [] rfl)
      · have h := h.2 c7
        exact t_Rs_addState_b40 C h _ _ _ hM hS (lv_sub hl [] rfl)
theorem d_Arr_fill_0 : decode b_Arr_fill 0 = .ok (.iconst 0, 1) := by decide +kernel
theorem d_Arr_fill_1 : decode b_Arr_fill 1 = .ok (.istore_n 3, 1) := by decide +kernel
theorem d_Arr_fill_2 : decode b_Arr_fill 2 = .ok (.aload_n 0, 1) := by decide +kernel
theorem d_Arr_fill_3 : decode b_Arr_fill 3 = .ok (.arraylength, 1) := by decide +kernel
theorem d_Arr_fill_4 : decode b_Arr_fill 4 = .ok (.istore 4, 2) := by decide +kernel
theorem d_Arr_fill_6 : decode b_Arr_fill 6 = .ok (.iload_n 3, 1) := by decide +kernel
theorem d_Arr_fill_7 : decode b_Arr_fill 7 = .ok (.iload 4, 2) := by decide +kernel
theorem d_Arr_fill_9 : decode b_Arr_fill 9 = .ok (.if_icmp .ge 13, 3) := by decide +kernel
theorem d_Arr_fill_12 : decode b_Arr_fill 12 = .ok (.aload_n 0, 1) := by decide +kernel
theorem d_Arr_fill_13 : decode b_Arr_fill 13 = .ok (.iload_n 3, 1) := by decide +kernel
theorem d_Arr_fill_14 : decode b_Arr_fill 14 = .ok (.lload_n 1, 1) := by decide +kernel
theorem d_Arr_fill_15 : decode b_Arr_fill 15 = .ok (.lastore, 1) := by decide +kernel
theorem d_Arr_fill_16 : decode b_Arr_fill 16 = .ok (.iinc 3 1, 3) := by decide +kernel
theorem d_Arr_fill_19 : decode b_Arr_fill 19 = .ok (.goto (-13), 3) := by decide +kernel
theorem d_Arr_fill_22 : decode b_Arr_fill 22 = .ok (.return_, 1) := by decide +kernel
abbrev rm_Arr_fill : Room := { frames := 0, cells := 0, slots := 0, locals := 0 }
abbrev C_Arr_fill (D : va_G) (g : Nat → ClassId) (p : Program) (s : State) (m : MethodId) (args : Array Value) (meth : Method) (c : Code) (M0 : Mem) : Prop := Cx p s m args c b_Arr_fill 5 R_Arr BIG D vwCl (tysG g) (mA M0 s.heap.size) ∧ meth.sig.returnType = none ∧ meth.locks = false
abbrev B_Arr_fill (l : Launch) (D : va_G) (p : Program) (e : Env) (s : State) (m : MethodId) (args : Array Value) (below : List Frame) (meth : Method) (c : Code) (M0 : Mem) (P : Mem → Prop) (M : Mem) (pc : Nat) (lv : List (Nat × Value)) (st : List Value) : Prop := Wb p l e rm_Arr_fill s m args below meth c 5 D vwCl M0 (kV fun M' => P M') 0 0 M pc lv st
def wp_Arr_fill_b6 (g : Nat → ClassId) (P : Mem → Prop) (M : Mem) (x0 : Nat) (x1 : Int64) (x3 : Int32) (x4 : Int32) : Prop :=
  ∃ (I : Int32 → Mem → Prop) (μ : Int32 → Mem → Nat), I x3 M ∧ ∀ (x3 : Int32) (M : Mem), I x3 M →
  (x4 ≤ x3 → (P M)) ∧ (¬ x4 ≤ x3 → (∃ M2 : Mem, sL M (g 1) x0 x3 x1 = some M2 ∧ ((I (x3 + (1 : Int32)) M2 ∧ μ (x3 + (1 : Int32)) M2 < μ x3 M))))
set_option maxHeartbeats 4000000 in
set_option maxRecDepth 100000 in
theorem t_Arr_fill_b6 {l : Launch} {D : va_G} {g : Nat → ClassId} {p : Program} {e : Env} {s : State} {m : MethodId} {args : Array Value} {below : List Frame} {meth : Method} {c : Code} {M0 : Mem} {P : Mem → Prop} {M : Mem} {x0 : Nat} {x1 : Int64} {x3 : Int32} {x4 : Int32} (C : C_Arr_fill D g p s m args meth c M0) (h : wp_Arr_fill_b6 g P M x0 x1 x3 x4 ) : B_Arr_fill l D p e s m args below meth c M0 P M 6 [(0, .ref x0), (1, .long x1), (3, .int x3), (4, .int x4)] [] := by
  unfold wp_Arr_fill_b6 at h
  obtain ⟨I, μ, hI, hb⟩ := h
  have key : ∀ (n : Nat) (x3 : Int32) (M : Mem), I x3 M → μ x3 M < n → B_Arr_fill l D p e s m args below meth c M0 P M 6 [(0, .ref x0), (1, .long x1), (3, .int x3), (4, .int x4)] [] := by
    intro n
    induction n with
    | zero => intro x3 M _ hn; exact absurd hn (Nat.not_lt_zero _)
    | succ n ih =>
      intro x3 M hI hn ls H locs hM hS hl
      have h := hb x3 M hI
      refine lv_iload_n C.1.1 C.1.2.1 d_Arr_fill_6 rfl (lv_at hl 2 rfl) ?_
      refine lv_iload C.1.1 C.1.2.1 d_Arr_fill_7 (lv_at hl 3 rfl) ?_
      refine lv_icmp_ge (tgt := 22) C.1.1 C.1.2.1 d_Arr_fill_9 (by decide) (fun c1 => ?_) (fun c1 => ?_)
      · have h := h.1 c1
        exact mr_V C.1 C.2.1 C.2.2 hM hS ⟨rfl, h⟩ d_Arr_fill_22
      · have h := h.2 c1
        refine lv_aload_n C.1.1 C.1.2.1 d_Arr_fill_12 rfl (lv_at hl 0 rfl) ?_
        refine lv_iload_n C.1.1 C.1.2.1 d_Arr_fill_13 rfl (lv_at hl 2 rfl) ?_
        refine lv_lload_n C.1.1 C.1.2.1 d_Arr_fill_14 rfl (lv_at hl 1 rfl) ?_
        obtain ⟨M2, eM2, h⟩ := h
        refine ms_L C.1 hM hS 1 rfl eM2 d_Arr_fill_15 (fun H locs hM hS => ?_)
        refine lv_iinc (v := x3 + (1 : Int32)) (lv' := [(3, .int (x3 + (1 : Int32))), (0, .ref x0), (1, .long x1), (4, .int x4)]) C.1.1 C.1.2.1 d_Arr_fill_16 hl (k := 2) rfl rfl (by decide) rfl (fun ls hl => ?_)
        refine lv_goto (tgt := 6) C.1.1 C.1.2.1 d_Arr_fill_19 (by decide) ?_
        exact ih (x3 + (1 : Int32)) M2 h.1 (Nat.lt_of_lt_of_le h.2 (Nat.le_of_lt_succ hn)) _ _ _ hM hS (lv_sub hl [1, 2, 0, 3] rfl)
  exact key _ x3 M hI (Nat.lt_succ_self _)
def wp_Arr_fill (g : Nat → ClassId) (M : Mem) (x0 : Nat) (x1 : Int64) (P : Mem → Prop) : Prop :=
  ∃ n1 : Nat, aN M (g 1) x0 = some n1 ∧ (wp_Arr_fill_b6 g P M x0 x1 (0 : Int32) (nI n1))
set_option maxHeartbeats 4000000 in
set_option maxRecDepth 100000 in
theorem c_Arr_fill {l : Launch} {D : va_G} {g : Nat → ClassId} {M : Mem} {x0 : Nat} {x1 : Int64} {P : Mem → Prop} (h : wp_Arr_fill g M x0 x1 P) : mMet l BIG D vwCl (tysG g) y_Arr_fill b_Arr_fill 5 none rm_Arr_fill [.ref x0, .long x1] M (kV fun M' => P M') := by
  refine mMet.of (own := R_Arr) rfl (by decide) rfl (fun p e s m below meth c C hr hlk hnm ls hM hS hl => ?_)
  have C : C_Arr_fill D g p s m ([.ref x0, .long x1] : List Value).toArray meth c M := ⟨C, hr, hlk⟩
  unfold wp_Arr_fill at h
  have hl : lv_has ls 5 [(0, .ref x0), (1, .long x1)] := hl
  refine lv_iconst (v := (0 : Int32)) C.1.1 C.1.2.1 d_Arr_fill_0 (by decide) ?_
  refine lv_istore_n (lv' := [(3, .int (0 : Int32)), (0, .ref x0), (1, .long x1)]) C.1.1 C.1.2.1 d_Arr_fill_1 rfl hl (by decide) rfl (fun ls hl => ?_)
  refine lv_aload_n C.1.1 C.1.2.1 d_Arr_fill_2 rfl (lv_at hl 1 rfl) ?_
  obtain ⟨n1, en1, h⟩ := h
  refine ma_N C.1 hM 1 rfl en1 d_Arr_fill_3 ?_
  refine lv_istore (lv' := [(4, .int (nI n1)), (3, .int (0 : Int32)), (0, .ref x0), (1, .long x1)]) C.1.1 C.1.2.1 d_Arr_fill_4 hl (by decide) rfl (fun ls hl => ?_)
  exact t_Arr_fill_b6 C h _ _ _ hM hS (lv_sub hl [2, 3, 1, 0] rfl)
theorem d_Rs_collectWords_0 : decode b_Rs_collectWords 0 = .ok (.aload_n 0, 1) := by decide +kernel
theorem d_Rs_collectWords_1 : decode b_Rs_collectWords 1 = .ok (.iconst 0, 1) := by decide +kernel
theorem d_Rs_collectWords_2 : decode b_Rs_collectWords 2 = .ok (.putfield 26, 3) := by decide +kernel
theorem d_Rs_collectWords_5 : decode b_Rs_collectWords 5 = .ok (.aload_n 0, 1) := by decide +kernel
theorem d_Rs_collectWords_6 : decode b_Rs_collectWords 6 = .ok (.lconst 0, 1) := by decide +kernel
theorem d_Rs_collectWords_7 : decode b_Rs_collectWords 7 = .ok (.invokevirtual 57, 3) := by decide +kernel
theorem d_Rs_collectWords_10 : decode b_Rs_collectWords 10 = .ok (.iconst 0, 1) := by decide +kernel
theorem d_Rs_collectWords_11 : decode b_Rs_collectWords 11 = .ok (.istore_n 3, 1) := by decide +kernel
theorem d_Rs_collectWords_12 : decode b_Rs_collectWords 12 = .ok (.iload_n 3, 1) := by decide +kernel
theorem d_Rs_collectWords_13 : decode b_Rs_collectWords 13 = .ok (.aload_n 1, 1) := by decide +kernel
theorem d_Rs_collectWords_14 : decode b_Rs_collectWords 14 = .ok (.invokevirtual 61, 3) := by decide +kernel
theorem d_Rs_collectWords_17 : decode b_Rs_collectWords 17 = .ok (.if_icmp .ge 18, 3) := by decide +kernel
theorem d_Rs_collectWords_20 : decode b_Rs_collectWords 20 = .ok (.aload_n 0, 1) := by decide +kernel
theorem d_Rs_collectWords_21 : decode b_Rs_collectWords 21 = .ok (.aload_n 1, 1) := by decide +kernel
theorem d_Rs_collectWords_22 : decode b_Rs_collectWords 22 = .ok (.iload_n 3, 1) := by decide +kernel
theorem d_Rs_collectWords_23 : decode b_Rs_collectWords 23 = .ok (.invokevirtual 64, 3) := by decide +kernel
theorem d_Rs_collectWords_26 : decode b_Rs_collectWords 26 = .ok (.invokevirtual 57, 3) := by decide +kernel
theorem d_Rs_collectWords_29 : decode b_Rs_collectWords 29 = .ok (.iinc 3 1, 3) := by decide +kernel
theorem d_Rs_collectWords_32 : decode b_Rs_collectWords 32 = .ok (.goto (-20), 3) := by decide +kernel
theorem d_Rs_collectWords_35 : decode b_Rs_collectWords 35 = .ok (.iconst 0, 1) := by decide +kernel
theorem d_Rs_collectWords_36 : decode b_Rs_collectWords 36 = .ok (.istore_n 3, 1) := by decide +kernel
theorem d_Rs_collectWords_37 : decode b_Rs_collectWords 37 = .ok (.iload_n 3, 1) := by decide +kernel
theorem d_Rs_collectWords_38 : decode b_Rs_collectWords 38 = .ok (.aload_n 2, 1) := by decide +kernel
theorem d_Rs_collectWords_39 : decode b_Rs_collectWords 39 = .ok (.invokevirtual 61, 3) := by decide +kernel
theorem d_Rs_collectWords_42 : decode b_Rs_collectWords 42 = .ok (.if_icmp .ge 18, 3) := by decide +kernel
theorem d_Rs_collectWords_45 : decode b_Rs_collectWords 45 = .ok (.aload_n 0, 1) := by decide +kernel
theorem d_Rs_collectWords_46 : decode b_Rs_collectWords 46 = .ok (.aload_n 2, 1) := by decide +kernel
theorem d_Rs_collectWords_47 : decode b_Rs_collectWords 47 = .ok (.iload_n 3, 1) := by decide +kernel
theorem d_Rs_collectWords_48 : decode b_Rs_collectWords 48 = .ok (.invokevirtual 64, 3) := by decide +kernel
theorem d_Rs_collectWords_51 : decode b_Rs_collectWords 51 = .ok (.invokevirtual 57, 3) := by decide +kernel
theorem d_Rs_collectWords_54 : decode b_Rs_collectWords 54 = .ok (.iinc 3 1, 3) := by decide +kernel
theorem d_Rs_collectWords_57 : decode b_Rs_collectWords 57 = .ok (.goto (-20), 3) := by decide +kernel
theorem d_Rs_collectWords_60 : decode b_Rs_collectWords 60 = .ok (.return_, 1) := by decide +kernel
abbrev rm_Rs_collectWords : Room := { frames := 1, cells := 0, slots := 0, locals := 24 }
abbrev C_Rs_collectWords (D : va_G) (g : Nat → ClassId) (p : Program) (s : State) (m : MethodId) (args : Array Value) (meth : Method) (c : Code) (M0 : Mem) : Prop := Cx p s m args c b_Rs_collectWords 4 R_Rs BIG D vwCl (tysG g) (mA M0 s.heap.size) ∧ meth.sig.returnType = none ∧ meth.locks = false
abbrev B_Rs_collectWords (l : Launch) (D : va_G) (p : Program) (e : Env) (s : State) (m : MethodId) (args : Array Value) (below : List Frame) (meth : Method) (c : Code) (M0 : Mem) (P : Mem → Prop) (M : Mem) (pc : Nat) (lv : List (Nat × Value)) (st : List Value) : Prop := Wb p l e rm_Rs_collectWords s m args below meth c 4 D vwCl M0 (kV fun M' => P M') 0 0 M pc lv st
def wp_Rs_collectWords_b37 (g : Nat → ClassId) (P : Mem → Prop) (M : Mem) (x0 : Nat) (x2 : Nat) (x3 : Int32) : Prop :=
  ∃ (I : Int32 → Mem → Prop) (μ : Int32 → Mem → Nat), I x3 M ∧ ∀ (x3 : Int32) (M : Mem), I x3 M →
  isO M 1 x2 ∧ (wp_Text_partCount g M x2 (fun v1 : Int32 => (v1 ≤ x3 → (P M)) ∧ (¬ v1 ≤ x3 → (isO M 1 x2 ∧ (wp_Text_partAt g M x2 x3 (fun v4 : Int64 => isO M 5 x0 ∧ (wp_Rs_addWord g M x0 v4 (fun (M7 : Mem) => (I (x3 + (1 : Int32)) M7 ∧ μ (x3 + (1 : Int32)) M7 < μ x3 M)))))))))
set_option maxHeartbeats 4000000 in
set_option maxRecDepth 100000 in
theorem t_Rs_collectWords_b37 {l : Launch} {D : va_G} {g : Nat → ClassId} {p : Program} {e : Env} {s : State} {m : MethodId} {args : Array Value} {below : List Frame} {meth : Method} {c : Code} {M0 : Mem} {P : Mem → Prop} {M : Mem} {x0 : Nat} {x2 : Nat} {x3 : Int32} (C : C_Rs_collectWords D g p s m args meth c M0) (h : wp_Rs_collectWords_b37 g P M x0 x2 x3 ) : B_Rs_collectWords l D p e s m args below meth c M0 P M 37 [(0, .ref x0), (2, .ref x2), (3, .int x3)] [] := by
  unfold wp_Rs_collectWords_b37 at h
  obtain ⟨I, μ, hI, hb⟩ := h
  have key : ∀ (n : Nat) (x3 : Int32) (M : Mem), I x3 M → μ x3 M < n → B_Rs_collectWords l D p e s m args below meth c M0 P M 37 [(0, .ref x0), (2, .ref x2), (3, .int x3)] [] := by
    intro n
    induction n with
    | zero => intro x3 M _ hn; exact absurd hn (Nat.not_lt_zero _)
    | succ n ih =>
      intro x3 M hI hn ls H locs hM hS hl
      have h := hb x3 M hI
      refine lv_iload_n C.1.1 C.1.2.1 d_Rs_collectWords_37 rfl (lv_at hl 2 rfl) ?_
      refine lv_aload_n C.1.1 C.1.2.1 d_Rs_collectWords_38 rfl (lv_at hl 1 rfl) ?_
      obtain ⟨ho, h⟩ := h
      refine mc_V (As := []) (ci := 1) C.1 hM hS bigGood (c_Text_partCount h) rfl ho kw157 kw159 kw160 kw107 kw158 hd_Text_partCount ⟨by decide, by decide⟩ hl.1 rfl (Nat.le_of_ble_eq_true rfl) d_Rs_collectWords_39 (mc := 0) (ms := 0) rfl rfl ⟨by decide, by decide⟩ (fun v M' H locs hp hM hS => ?_)
      obtain ⟨v1, rfl, rfl, h⟩ := hp
      refine lv_icmp_ge (tgt := 60) C.1.1 C.1.2.1 d_Rs_collectWords_42 (by decide) (fun c3 => ?_) (fun c3 => ?_)
      · have h := h.1 c3
        exact mr_V C.1 C.2.1 C.2.2 hM hS ⟨rfl, h⟩ d_Rs_collectWords_60
      · have h := h.2 c3
        refine lv_aload_n C.1.1 C.1.2.1 d_Rs_collectWords_45 rfl (lv_at hl 0 rfl) ?_
        refine lv_aload_n C.1.1 C.1.2.1 d_Rs_collectWords_46 rfl (lv_at hl 1 rfl) ?_
        refine lv_iload_n C.1.1 C.1.2.1 d_Rs_collectWords_47 rfl (lv_at hl 2 rfl) ?_
        obtain ⟨ho, h⟩ := h
        refine mc_V (As := [.int x3]) (ci := 1) C.1 hM hS bigGood (c_Text_partAt h) rfl ho kw161 kw116 kw117 kw107 kw115 hd_Text_partAt ⟨by decide, by decide⟩ hl.1 rfl (Nat.le_of_ble_eq_true rfl) d_Rs_collectWords_48 (mc := 0) (ms := 0) rfl rfl ⟨by decide, by decide⟩ (fun v M' H locs hp hM hS => ?_)
        obtain ⟨v4, rfl, rfl, h⟩ := hp
        obtain ⟨ho, h⟩ := h
        refine mc_V (As := [.long v4]) (ci := 5) C.1 hM hS bigGood (c_Rs_addWord h) rfl ho kw162 kw165 kw166 kw164 kw163 hd_Rs_addWord ⟨by decide, by decide⟩ hl.1 rfl (Nat.le_of_ble_eq_true rfl) d_Rs_collectWords_51 (mc := 0) (ms := 0) rfl rfl ⟨by decide, by decide⟩ (fun v M7 H locs hp hM hS => ?_)
        obtain ⟨rfl, h⟩ := hp
        refine lv_iinc (v := x3 + (1 : Int32)) (lv' := [(3, .int (x3 + (1 : Int32))), (0, .ref x0), (2, .ref x2)]) C.1.1 C.1.2.1 d_Rs_collectWords_54 hl (k := 2) rfl rfl (by decide) rfl (fun ls hl => ?_)
        refine lv_goto (tgt := 37) C.1.1 C.1.2.1 d_Rs_collectWords_57 (by decide) ?_
        exact ih (x3 + (1 : Int32)) M7 h.1 (Nat.lt_of_lt_of_le h.2 (Nat.le_of_lt_succ hn)) _ _ _ hM hS (lv_sub hl [1, 2, 0] rfl)
  exact key _ x3 M hI (Nat.lt_succ_self _)
def wp_Rs_collectWords_b12 (g : Nat → ClassId) (P : Mem → Prop) (M : Mem) (x0 : Nat) (x1 : Nat) (x2 : Nat) (x3 : Int32) : Prop :=
  ∃ (I : Int32 → Mem → Prop) (μ : Int32 → Mem → Nat), I x3 M ∧ ∀ (x3 : Int32) (M : Mem), I x3 M →
  isO M 1 x1 ∧ (wp_Text_partCount g M x1 (fun v1 : Int32 => (v1 ≤ x3 → (wp_Rs_collectWords_b37 g P M x0 x2 (0 : Int32))) ∧ (¬ v1 ≤ x3 → (isO M 1 x1 ∧ (wp_Text_partAt g M x1 x3 (fun v4 : Int64 => isO M 5 x0 ∧ (wp_Rs_addWord g M x0 v4 (fun (M7 : Mem) => (I (x3 + (1 : Int32)) M7 ∧ μ (x3 + (1 : Int32)) M7 < μ x3 M)))))))))
set_option maxHeartbeats 4000000 in
set_option maxRecDepth 100000 in
theorem t_Rs_collectWords_b12 {l : Launch} {D : va_G} {g : Nat → ClassId} {p : Program} {e : Env} {s : State} {m : MethodId} {args : Array Value} {below : List Frame} {meth : Method} {c : Code} {M0 : Mem} {P : Mem → Prop} {M : Mem} {x0 : Nat} {x1 : Nat} {x2 : Nat} {x3 : Int32} (C : C_Rs_collectWords D g p s m args meth c M0) (h : wp_Rs_collectWords_b12 g P M x0 x1 x2 x3 ) : B_Rs_collectWords l D p e s m args below meth c M0 P M 12 [(0, .ref x0), (1, .ref x1), (2, .ref x2), (3, .int x3)] [] := by
  unfold wp_Rs_collectWords_b12 at h
  obtain ⟨I, μ, hI, hb⟩ := h
  have key : ∀ (n : Nat) (x3 : Int32) (M : Mem), I x3 M → μ x3 M < n → B_Rs_collectWords l D p e s m args below meth c M0 P M 12 [(0, .ref x0), (1, .ref x1), (2, .ref x2), (3, .int x3)] [] := by
    intro n
    induction n with
    | zero => intro x3 M _ hn; exact absurd hn (Nat.not_lt_zero _)
    | succ n ih =>
      intro x3 M hI hn ls H locs hM hS hl
      have h := hb x3 M hI
      refine lv_iload_n C.1.1 C.1.2.1 d_Rs_collectWords_12 rfl (lv_at hl 3 rfl) ?_
      refine lv_aload_n C.1.1 C.1.2.1 d_Rs_collectWords_13 rfl (lv_at hl 1 rfl) ?_
      obtain ⟨ho, h⟩ := h
      refine mc_V (As := []) (ci := 1) C.1 hM hS bigGood (c_Text_partCount h) rfl ho kw157 kw159 kw160 kw107 kw158 hd_Text_partCount ⟨by decide, by decide⟩ hl.1 rfl (Nat.le_of_ble_eq_true rfl) d_Rs_collectWords_14 (mc := 0) (ms := 0) rfl rfl ⟨by decide, by decide⟩ (fun v M' H locs hp hM hS => ?_)
      obtain ⟨v1, rfl, rfl, h⟩ := hp
      refine lv_icmp_ge (tgt := 35) C.1.1 C.1.2.1 d_Rs_collectWords_17 (by decide) (fun c3 => ?_) (fun c3 => ?_)
      · have h := h.1 c3
        refine lv_iconst (v := (0 : Int32)) C.1.1 C.1.2.1 d_Rs_collectWords_35 (by decide) ?_
        refine lv_istore_n (lv' := [(3, .int (0 : Int32)), (0, .ref x0), (1, .ref x1), (2, .ref x2)]) C.1.1 C.1.2.1 d_Rs_collectWords_36 rfl hl (by decide) rfl (fun ls hl => ?_)
        exact t_Rs_collectWords_b37 C h _ _ _ hM hS (lv_sub hl [1, 3, 0] rfl)
      · have h := h.2 c3
        refine lv_aload_n C.1.1 C.1.2.1 d_Rs_collectWords_20 rfl (lv_at hl 0 rfl) ?_
        refine lv_aload_n C.1.1 C.1.2.1 d_Rs_collectWords_21 rfl (lv_at hl 1 rfl) ?_
        refine lv_iload_n C.1.1 C.1.2.1 d_Rs_collectWords_22 rfl (lv_at hl 3 rfl) ?_
        obtain ⟨ho, h⟩ := h
        refine mc_V (As := [.int x3]) (ci := 1) C.1 hM hS bigGood (c_Text_partAt h) rfl ho kw161 kw116 kw117 kw107 kw115 hd_Text_partAt ⟨by decide, by decide⟩ hl.1 rfl (Nat.le_of_ble_eq_true rfl) d_Rs_collectWords_23 (mc := 0) (ms := 0) rfl rfl ⟨by decide, by decide⟩ (fun v M' H locs hp hM hS => ?_)
        obtain ⟨v4, rfl, rfl, h⟩ := hp
        obtain ⟨ho, h⟩ := h
        refine mc_V (As := [.long v4]) (ci := 5) C.1 hM hS bigGood (c_Rs_addWord h) rfl ho kw162 kw165 kw166 kw164 kw163 hd_Rs_addWord ⟨by decide, by decide⟩ hl.1 rfl (Nat.le_of_ble_eq_true rfl) d_Rs_collectWords_26 (mc := 0) (ms := 0) rfl rfl ⟨by decide, by decide⟩ (fun v M7 H locs hp hM hS => ?_)
        obtain ⟨rfl, h⟩ := hp
        refine lv_iinc (v := x3 + (1 : Int32)) (lv' := [(3, .int (x3 + (1 : Int32))), (0, .ref x0), (1, .ref x1), (2, .ref x2)]) C.1.1 C.1.2.1 d_Rs_collectWords_29 hl (k := 3) rfl rfl (by decide) rfl (fun ls hl => ?_)
        refine lv_goto (tgt := 12) C.1.1 C.1.2.1 d_Rs_collectWords_32 (by decide) ?_
        exact ih (x3 + (1 : Int32)) M7 h.1 (Nat.lt_of_lt_of_le h.2 (Nat.le_of_lt_succ hn)) _ _ _ hM hS (lv_sub hl [1, 2, 3, 0] rfl)
  exact key _ x3 M hI (Nat.lt_succ_self _)
def wp_Rs_collectWords (g : Nat → ClassId) (M : Mem) (x0 : Nat) (x1 : Nat) (x2 : Nat) (P : Mem → Prop) : Prop :=
  ∃ M1 : Mem, pV M 5 x0 4 (.int (0 : Int32)) = some M1 ∧ (isO M1 5 x0 ∧ (wp_Rs_addWord g M1 x0 (0 : Int64) (fun (M3 : Mem) => wp_Rs_collectWords_b12 g P M3 x0 x1 x2 (0 : Int32))))
set_option maxHeartbeats 4000000 in
set_option maxRecDepth 100000 in
theorem c_Rs_collectWords {l : Launch} {D : va_G} {g : Nat → ClassId} {M : Mem} {x0 : Nat} {x1 : Nat} {x2 : Nat} {P : Mem → Prop} (h : wp_Rs_collectWords g M x0 x1 x2 P) : mMet l BIG D vwCl (tysG g) y_Rs_collectWords b_Rs_collectWords 4 none rm_Rs_collectWords [.ref x0, .ref x1, .ref x2] M (kV fun M' => P M') := by
  refine mMet.of (own := R_Rs) rfl (by decide) rfl (fun p e s m below meth c C hr hlk hnm ls hM hS hl => ?_)
  have C : C_Rs_collectWords D g p s m ([.ref x0, .ref x1, .ref x2] : List Value).toArray meth c M := ⟨C, hr, hlk⟩
  unfold wp_Rs_collectWords at h
  have hl : lv_has ls 4 [(0, .ref x0), (1, .ref x1), (2, .ref x2)] := hl
  refine lv_aload_n C.1.1 C.1.2.1 d_Rs_collectWords_0 rfl (lv_at hl 0 rfl) ?_
  refine lv_iconst (v := (0 : Int32)) C.1.1 C.1.2.1 d_Rs_collectWords_1 (by decide) ?_
  obtain ⟨M1, eM1, h⟩ := h
  refine mp_V C.1 hM hS ok_Rs (by decide) kw94 rfl rfl rfl eM1 d_Rs_collectWords_2 (fun H locs hM hS => ?_)
  refine lv_aload_n C.1.1 C.1.2.1 d_Rs_collectWords_5 rfl (lv_at hl 0 rfl) ?_
  refine lv_lconst (v := (0 : Int64)) C.1.1 C.1.2.1 d_Rs_collectWords_6 (by decide) ?_
  obtain ⟨ho, h⟩ := h
  refine mc_V (As := [.long (0 : Int64)]) (ci := 5) C.1 hM hS bigGood (c_Rs_addWord h) rfl ho kw162 kw165 kw166 kw164 kw163 hd_Rs_addWord ⟨by decide, by decide⟩ hl.1 rfl (Nat.le_of_ble_eq_true rfl) d_Rs_collectWords_7 (mc := 0) (ms := 0) rfl rfl ⟨by decide, by decide⟩ (fun v M3 H locs hp hM hS => ?_)
  obtain ⟨rfl, h⟩ := hp
  refine lv_iconst (v := (0 : Int32)) C.1.1 C.1.2.1 d_Rs_collectWords_10 (by decide) ?_
  refine lv_istore_n (lv' := [(3, .int (0 : Int32)), (0, .ref x0), (1, .ref x1), (2, .ref x2)]) C.1.1 C.1.2.1 d_Rs_collectWords_11 rfl hl (by decide) rfl (fun ls hl => ?_)
  exact t_Rs_collectWords_b12 C h _ _ _ hM hS (lv_sub hl [1, 2, 3, 0] rfl)
theorem d_Rs_addStates_0 : decode b_Rs_addStates 0 = .ok (.iconst 0, 1) := by decide +kernel
theorem d_Rs_addStates_1 : decode b_Rs_addStates 1 = .ok (.istore 4, 2) := by decide +kernel
theorem d_Rs_addStates_3 : decode b_Rs_addStates 3 = .ok (.iload 4, 2) := by decide +kernel
theorem d_Rs_addStates_5 : decode b_Rs_addStates 5 = .ok (.bipush 7, 2) := by decide +kernel
theorem d_Rs_addStates_7 : decode b_Rs_addStates 7 = .ok (.if_icmp .ge 30, 3) := by decide +kernel
theorem d_Rs_addStates_10 : decode b_Rs_addStates 10 = .ok (.iload_n 1, 1) := by decide +kernel
theorem d_Rs_addStates_11 : decode b_Rs_addStates 11 = .ok (.iload 4, 2) := by decide +kernel
theorem d_Rs_addStates_13 : decode b_Rs_addStates 13 = .ok (.ishr, 1) := by decide +kernel
theorem d_Rs_addStates_14 : decode b_Rs_addStates 14 = .ok (.iconst 1, 1) := by decide +kernel
theorem d_Rs_addStates_15 : decode b_Rs_addStates 15 = .ok (.iand, 1) := by decide +kernel
theorem d_Rs_addStates_16 : decode b_Rs_addStates 16 = .ok (.ifCond .eq 15, 3) := by decide +kernel
theorem d_Rs_addStates_19 : decode b_Rs_addStates 19 = .ok (.aload_n 0, 1) := by decide +kernel
theorem d_Rs_addStates_20 : decode b_Rs_addStates 20 = .ok (.iload 4, 2) := by decide +kernel
theorem d_Rs_addStates_22 : decode b_Rs_addStates 22 = .ok (.bipush 7, 2) := by decide +kernel
theorem d_Rs_addStates_24 : decode b_Rs_addStates 24 = .ok (.ishl, 1) := by decide +kernel
theorem d_Rs_addStates_25 : decode b_Rs_addStates 25 = .ok (.iload_n 2, 1) := by decide +kernel
theorem d_Rs_addStates_26 : decode b_Rs_addStates 26 = .ok (.ior, 1) := by decide +kernel
theorem d_Rs_addStates_27 : decode b_Rs_addStates 27 = .ok (.iload_n 3, 1) := by decide +kernel
theorem d_Rs_addStates_28 : decode b_Rs_addStates 28 = .ok (.invokevirtual 72, 3) := by decide +kernel
theorem d_Rs_addStates_31 : decode b_Rs_addStates 31 = .ok (.iinc 4 1, 3) := by decide +kernel
theorem d_Rs_addStates_34 : decode b_Rs_addStates 34 = .ok (.goto (-31), 3) := by decide +kernel
theorem d_Rs_addStates_37 : decode b_Rs_addStates 37 = .ok (.return_, 1) := by decide +kernel
abbrev rm_Rs_addStates : Room := { frames := 1, cells := 0, slots := 0, locals := 25 }
abbrev C_Rs_addStates (D : va_G) (g : Nat → ClassId) (p : Program) (s : State) (m : MethodId) (args : Array Value) (meth : Method) (c : Code) (M0 : Mem) : Prop := Cx p s m args c b_Rs_addStates 5 R_Rs BIG D vwCl (tysG g) (mA M0 s.heap.size) ∧ meth.sig.returnType = none ∧ meth.locks = false
abbrev B_Rs_addStates (l : Launch) (D : va_G) (p : Program) (e : Env) (s : State) (m : MethodId) (args : Array Value) (below : List Frame) (meth : Method) (c : Code) (M0 : Mem) (P : Mem → Prop) (M : Mem) (pc : Nat) (lv : List (Nat × Value)) (st : List Value) : Prop := Wb p l e rm_Rs_addStates s m args below meth c 5 D vwCl M0 (kV fun M' => P M') 0 0 M pc lv st
def wp_Rs_addStates_b31 (g : Nat → ClassId) (P : Mem → Prop) (J3 : Int32 → Mem → Prop) (M : Mem) (x0 : Nat) (x1 : Int32) (x2 : Int32) (x3 : Int32) (x4 : Int32) : Prop :=
  J3 (x4 + (1 : Int32)) M
set_option maxHeartbeats 4000000 in
set_option maxRecDepth 100000 in
theorem t_Rs_addStates_b31 {l : Launch} {D : va_G} {g : Nat → ClassId} {p : Program} {e : Env} {s : State} {m : MethodId} {args : Array Value} {below : List Frame} {meth : Method} {c : Code} {M0 : Mem} {P : Mem → Prop} {J3 : Int32 → Mem → Prop} {M : Mem} {x0 : Nat} {x1 : Int32} {x2 : Int32} {x3 : Int32} {x4 : Int32} (C : C_Rs_addStates D g p s m args meth c M0) (h : wp_Rs_addStates_b31 g P J3 M x0 x1 x2 x3 x4 ) (kJ3 : ∀ (x4 : Int32) (M : Mem), J3 x4 M → B_Rs_addStates l D p e s m args below meth c M0 P M 3 [(0, .ref x0), (1, .int x1), (2, .int x2), (3, .int x3), (4, .int x4)] []) : B_Rs_addStates l D p e s m args below meth c M0 P M 31 [(0, .ref x0), (1, .int x1), (2, .int x2), (3, .int x3), (4, .int x4)] [] := by
  intro ls H locs hM hS hl
  unfold wp_Rs_addStates_b31 at h
  refine lv_iinc (v := x4 + (1 : Int32)) (lv' := [(4, .int (x4 + (1 : Int32))), (0, .ref x0), (1, .int x1), (2, .int x2), (3, .int x3)]) C.1.1 C.1.2.1 d_Rs_addStates_31 hl (k := 4) rfl rfl (by decide) rfl (fun ls hl => ?_)
  refine lv_goto (tgt := 3) C.1.1 C.1.2.1 d_Rs_addStates_34 (by decide) ?_
  exact kJ3 (x4 + (1 : Int32)) M h _ _ _ hM hS (lv_sub hl [1, 2, 3, 4, 0] rfl)
def wp_Rs_addStates_b3 (g : Nat → ClassId) (P : Mem → Prop) (M : Mem) (x0 : Nat) (x1 : Int32) (x2 : Int32) (x3 : Int32) (x4 : Int32) : Prop :=
  ∃ (I : Int32 → Mem → Prop) (μ : Int32 → Mem → Nat), I x4 M ∧ ∀ (x4 : Int32) (M : Mem), I x4 M →
  ((7 : Int32) ≤ x4 → (P M)) ∧ (¬ (7 : Int32) ≤ x4 → ((((x1 >>> (x4 &&& 31)) &&& (1 : Int32)) = 0 → (wp_Rs_addStates_b31 g P (fun y4 N => I y4 N ∧ μ y4 N < μ x4 M) M x0 x1 x2 x3 x4)) ∧ (¬ ((x1 >>> (x4 &&& 31)) &&& (1 : Int32)) = 0 → (isO M 5 x0 ∧ (wp_Rs_addState g M x0 ((x4 <<< ((7 : Int32) &&& 31)) ||| x2) x3 (fun (M4 : Mem) => wp_Rs_addStates_b31 g P (fun y4 N => I y4 N ∧ μ y4 N < μ x4 M) M4 x0 x1 x2 x3 x4))))))
set_option maxHeartbeats 4000000 in
set_option maxRecDepth 100000 in
theorem t_Rs_addStates_b3 {l : Launch} {D : va_G} {g : Nat → ClassId} {p : Program} {e : Env} {s : State} {m : MethodId} {args : Array Value} {below : List Frame} {meth : Method} {c : Code} {M0 : Mem} {P : Mem → Prop} {M : Mem} {x0 : Nat} {x1 : Int32} {x2 : Int32} {x3 : Int32} {x4 : Int32} (C : C_Rs_addStates D g p s m args meth c M0) (h : wp_Rs_addStates_b3 g P M x0 x1 x2 x3 x4 ) : B_Rs_addStates l D p e s m args below meth c M0 P M 3 [(0, .ref x0), (1, .int x1), (2, .int x2), (3, .int x3), (4, .int x4)] [] := by
  unfold wp_Rs_addStates_b3 at h
  obtain ⟨I, μ, hI, hb⟩ := h
  have key : ∀ (n : Nat) (x4 : Int32) (M : Mem), I x4 M → μ x4 M < n → B_Rs_addStates l D p e s m args below meth c M0 P M 3 [(0, .ref x0), (1, .int x1), (2, .int x2), (3, .int x3), (4, .int x4)] [] := by
    intro n
    induction n with
    | zero => intro x4 M _ hn; exact absurd hn (Nat.not_lt_zero _)
    | succ n ih =>
      intro x4 M hI hn ls H locs hM hS hl
      have h := hb x4 M hI
      refine lv_iload C.1.1 C.1.2.1 d_Rs_addStates_3 (lv_at hl 4 rfl) ?_
      refine lv_bipush (v := (7 : Int32)) C.1.1 C.1.2.1 d_Rs_addStates_5 (by decide) ?_
      refine lv_icmp_ge (tgt := 37) C.1.1 C.1.2.1 d_Rs_addStates_7 (by decide) (fun c1 => ?_) (fun c1 => ?_)
      · have h := h.1 c1
        exact mr_V C.1 C.2.1 C.2.2 hM hS ⟨rfl, h⟩ d_Rs_addStates_37
      · have h := h.2 c1
        refine lv_iload_n C.1.1 C.1.2.1 d_Rs_addStates_10 rfl (lv_at hl 1 rfl) ?_
        refine lv_iload C.1.1 C.1.2.1 d_Rs_addStates_11 (lv_at hl 4 rfl) ?_
        refine lv_ishr C.1.1 C.1.2.1 d_Rs_addStates_13 ?_
        refine lv_iconst (v := (1 : Int32)) C.1.1 C.1.2.1 d_Rs_addStates_14 (by decide) ?_
        refine lv_iand C.1.1 C.1.2.1 d_Rs_addStates_15 ?_
        refine lv_if_eq (tgt := 31) C.1.1 C.1.2.1 d_Rs_addStates_16 (by decide) (fun c2 => ?_) (fun c2 => ?_)
        · have h := h.1 c2
          exact t_Rs_addStates_b31 C h (fun y4 N hJ => ih y4 N hJ.1 (Nat.lt_of_lt_of_le hJ.2 (Nat.le_of_lt_succ hn))) _ _ _ hM hS (lv_sub hl [0, 1, 2, 3, 4] rfl)
        · have h := h.2 c2
          refine lv_aload_n C.1.1 C.1.2.1 d_Rs_addStates_19 rfl (lv_at hl 0 rfl) ?_
          refine lv_iload C.1.1 C.1.2.1 d_Rs_addStates_20 (lv_at hl 4 rfl) ?_
          refine lv_bipush (v := (7 : Int32)) C.1.1 C.1.2.1 d_Rs_addStates_22 (by decide) ?_
          refine lv_ishl C.1.1 C.1.2.1 d_Rs_addStates_24 ?_
          refine lv_iload_n C.1.1 C.1.2.1 d_Rs_addStates_25 rfl (lv_at hl 2 rfl) ?_
          refine lv_ior C.1.1 C.1.2.1 d_Rs_addStates_26 ?_
          refine lv_iload_n C.1.1 C.1.2.1 d_Rs_addStates_27 rfl (lv_at hl 3 rfl) ?_
          obtain ⟨ho, h⟩ := h
          refine mc_V (As := [.int ((x4 <<< ((7 : Int32) &&& 31)) ||| x2), .int x3]) (ci := 5) C.1 hM hS bigGood (c_Rs_addState h) rfl ho kw167 kw169 kw170 kw164 kw168 hd_Rs_addState ⟨by decide, by decide⟩ hl.1 rfl (Nat.le_of_ble_eq_true rfl) d_Rs_addStates_28 (mc := 0) (ms := 0) rfl rfl ⟨by decide, by decide⟩ (fun v M4 H locs hp hM hS => ?_)
          obtain ⟨rfl, h⟩ := hp
          exact t_Rs_addStates_b31 C h (fun y4 N hJ => ih y4 N hJ.1 (Nat.lt_of_lt_of_le hJ.2 (Nat.le_of_lt_succ hn))) _ _ _ hM hS (lv_sub hl [0, 1, 2, 3, 4] rfl)
  exact key _ x4 M hI (Nat.lt_succ_self _)
def wp_Rs_addStates (g : Nat → ClassId) (M : Mem) (x0 : Nat) (x1 : Int32) (x2 : Int32) (x3 : Int32) (P : Mem → Prop) : Prop :=
  wp_Rs_addStates_b3 g P M x0 x1 x2 x3 (0 : Int32)
set_option maxHeartbeats 4000000 in
set_option maxRecDepth 100000 in
theorem c_Rs_addStates {l : Launch} {D : va_G} {g : Nat → ClassId} {M : Mem} {x0 : Nat} {x1 : Int32} {x2 : Int32} {x3 : Int32} {P : Mem → Prop} (h : wp_Rs_addStates g M x0 x1 x2 x3 P) : mMet l BIG D vwCl (tysG g) y_Rs_addStates b_Rs_addStates 5 none rm_Rs_addStates [.ref x0, .int x1, .int x2, .int x3] M (kV fun M' => P M') := by
  refine mMet.of (own := R_Rs) rfl (by decide) rfl (fun p e s m below meth c C hr hlk hnm ls hM hS hl => ?_)
  have C : C_Rs_addStates D g p s m ([.ref x0, .int x1, .int x2, .int x3] : List Value).toArray meth c M := ⟨C, hr, hlk⟩
  unfold wp_Rs_addStates at h
  have hl : lv_has ls 5 [(0, .ref x0), (1, .int x1), (2, .int x2), (3, .int x3)] := hl
  refine lv_iconst (v := (0 : Int32)) C.1.1 C.1.2.1 d_Rs_addStates_0 (by decide) ?_
  refine lv_istore (lv' := [(4, .int (0 : Int32)), (0, .ref x0), (1, .int x1), (2, .int x2), (3, .int x3)]) C.1.1 C.1.2.1 d_Rs_addStates_1 hl (by decide) rfl (fun ls hl => ?_)
  exact t_Rs_addStates_b3 C h _ _ _ hM hS (lv_sub hl [1, 2, 3, 4, 0] rfl)
