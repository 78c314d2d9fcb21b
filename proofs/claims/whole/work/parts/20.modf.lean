theorem d_Mod_wordOf_0 : decode b_Mod_wordOf 0 = .ok (.iload_n 3, 1) := by decide +kernel
theorem d_Mod_wordOf_1 : decode b_Mod_wordOf 1 = .ok (.bipush 12, 2) := by decide +kernel
theorem d_Mod_wordOf_3 : decode b_Mod_wordOf 3 = .ok (.if_icmp .ne 5, 3) := by decide +kernel
theorem d_Mod_wordOf_6 : decode b_Mod_wordOf 6 = .ok (.lconst 0, 1) := by decide +kernel
theorem d_Mod_wordOf_7 : decode b_Mod_wordOf 7 = .ok (.lreturn, 1) := by decide +kernel
theorem d_Mod_wordOf_8 : decode b_Mod_wordOf 8 = .ok (.iload_n 3, 1) := by decide +kernel
theorem d_Mod_wordOf_9 : decode b_Mod_wordOf 9 = .ok (.bipush 6, 2) := by decide +kernel
theorem d_Mod_wordOf_11 : decode b_Mod_wordOf 11 = .ok (.if_icmp .ge 7, 3) := by decide +kernel
theorem d_Mod_wordOf_14 : decode b_Mod_wordOf 14 = .ok (.iload_n 1, 1) := by decide +kernel
theorem d_Mod_wordOf_15 : decode b_Mod_wordOf 15 = .ok (.goto 4, 3) := by decide +kernel
theorem d_Mod_wordOf_18 : decode b_Mod_wordOf 18 = .ok (.iload_n 2, 1) := by decide +kernel
theorem d_Mod_wordOf_19 : decode b_Mod_wordOf 19 = .ok (.istore 4, 2) := by decide +kernel
theorem d_Mod_wordOf_21 : decode b_Mod_wordOf 21 = .ok (.iload_n 3, 1) := by decide +kernel
theorem d_Mod_wordOf_22 : decode b_Mod_wordOf 22 = .ok (.bipush 6, 2) := by decide +kernel
theorem d_Mod_wordOf_24 : decode b_Mod_wordOf 24 = .ok (.irem, 1) := by decide +kernel
theorem d_Mod_wordOf_25 : decode b_Mod_wordOf 25 = .ok (.aload_n 0, 1) := by decide +kernel
theorem d_Mod_wordOf_26 : decode b_Mod_wordOf 26 = .ok (.getfield 33, 3) := by decide +kernel
theorem d_Mod_wordOf_29 : decode b_Mod_wordOf 29 = .ok (.iload 4, 2) := by decide +kernel
theorem d_Mod_wordOf_31 : decode b_Mod_wordOf 31 = .ok (.iaload, 1) := by decide +kernel
theorem d_Mod_wordOf_32 : decode b_Mod_wordOf 32 = .ok (.if_icmp .ge 21, 3) := by decide +kernel
theorem d_Mod_wordOf_35 : decode b_Mod_wordOf 35 = .ok (.aload_n 0, 1) := by decide +kernel
theorem d_Mod_wordOf_36 : decode b_Mod_wordOf 36 = .ok (.getfield 30, 3) := by decide +kernel
theorem d_Mod_wordOf_39 : decode b_Mod_wordOf 39 = .ok (.bipush 6, 2) := by decide +kernel
theorem d_Mod_wordOf_41 : decode b_Mod_wordOf 41 = .ok (.iload 4, 2) := by decide +kernel
theorem d_Mod_wordOf_43 : decode b_Mod_wordOf 43 = .ok (.imul, 1) := by decide +kernel
theorem d_Mod_wordOf_44 : decode b_Mod_wordOf 44 = .ok (.iload_n 3, 1) := by decide +kernel
theorem d_Mod_wordOf_45 : decode b_Mod_wordOf 45 = .ok (.bipush 6, 2) := by decide +kernel
theorem d_Mod_wordOf_47 : decode b_Mod_wordOf 47 = .ok (.irem, 1) := by decide +kernel
theorem d_Mod_wordOf_48 : decode b_Mod_wordOf 48 = .ok (.iadd, 1) := by decide +kernel
theorem d_Mod_wordOf_49 : decode b_Mod_wordOf 49 = .ok (.laload, 1) := by decide +kernel
theorem d_Mod_wordOf_50 : decode b_Mod_wordOf 50 = .ok (.goto 6, 3) := by decide +kernel
theorem d_Mod_wordOf_53 : decode b_Mod_wordOf 53 = .ok (.ldc2_w 74, 3) := by decide +kernel
theorem d_Mod_wordOf_56 : decode b_Mod_wordOf 56 = .ok (.lreturn, 1) := by decide +kernel
abbrev rm_Mod_wordOf : Room := { frames := 0, cells := 0, slots := 0, locals := 0 }
abbrev C_Mod_wordOf (D : va_G) (g : Nat → ClassId) (p : Program) (s : State) (m : MethodId) (args : Array Value) (meth : Method) (c : Code) (M0 : Mem) : Prop := Cx p s m args c b_Mod_wordOf 5 R_Mod BIG D vwCl (tysG g) (mA M0 s.heap.size) ∧ meth.sig.returnType = (some .long) ∧ meth.locks = false
abbrev B_Mod_wordOf (l : Launch) (D : va_G) (p : Program) (e : Env) (s : State) (m : MethodId) (args : Array Value) (below : List Frame) (meth : Method) (c : Code) (M0 : Mem) (P : Int64 → Prop) (M : Mem) (pc : Nat) (lv : List (Nat × Value)) (st : List Value) : Prop := Wb p l e rm_Mod_wordOf s m args below meth c 5 D vwCl M0 (kL fun r M' => M0 = M' ∧ P r) 0 0 M pc lv st
def wp_Mod_wordOf_b56 (g : Nat → ClassId) (P : Int64 → Prop) (M : Mem) (t0 : Int64) : Prop :=
  P t0
set_option maxHeartbeats 4000000 in
set_option maxRecDepth 100000 in
theorem t_Mod_wordOf_b56 {l : Launch} {D : va_G} {g : Nat → ClassId} {p : Program} {e : Env} {s : State} {m : MethodId} {args : Array Value} {below : List Frame} {meth : Method} {c : Code} {P : Int64 → Prop} {M : Mem} {t0 : Int64} (C : C_Mod_wordOf D g p s m args meth c M) (h : wp_Mod_wordOf_b56 g P M t0) : B_Mod_wordOf l D p e s m args below meth c M P M 56 [] [.long t0] := by
  intro ls H locs hM hS hl
  unfold wp_Mod_wordOf_b56 at h
  exact mr_L C.1 C.2.1 C.2.2 hM hS ⟨_, rfl, rfl, h⟩ d_Mod_wordOf_56
def wp_Mod_wordOf_b19 (g : Nat → ClassId) (P : Int64 → Prop) (M : Mem) (x0 : Nat) (x3 : Int32) (t0 : Int32) : Prop :=
  ∃ v1 : Nat, gR M 6 x0 11 = some v1 ∧ (∃ v2 : Int32, aI M (g 2) v1 t0 = some v2 ∧ ((v2 ≤ (x3 - x3 / (6 : Int32) * (6 : Int32)) → (wp_Mod_wordOf_b56 g P M (-1 : Int64))) ∧ (¬ v2 ≤ (x3 - x3 / (6 : Int32) * (6 : Int32)) → (∃ v4 : Nat, gR M 6 x0 10 = some v4 ∧ (∃ v5 : Int64, aL M (g 1) v4 (((6 : Int32) * t0) + (x3 - x3 / (6 : Int32) * (6 : Int32))) = some v5 ∧ (wp_Mod_wordOf_b56 g P M v5))))))
set_option maxHeartbeats 4000000 in
set_option maxRecDepth 100000 in
theorem t_Mod_wordOf_b19 {l : Launch} {D : va_G} {g : Nat → ClassId} {p : Program} {e : Env} {s : State} {m : MethodId} {args : Array Value} {below : List Frame} {meth : Method} {c : Code} {P : Int64 → Prop} {M : Mem} {x0 : Nat} {x3 : Int32} {t0 : Int32} (C : C_Mod_wordOf D g p s m args meth c M) (h : wp_Mod_wordOf_b19 g P M x0 x3 t0) : B_Mod_wordOf l D p e s m args below meth c M P M 19 [(0, .ref x0), (3, .int x3)] [.int t0] := by
  intro ls H locs hM hS hl
  unfold wp_Mod_wordOf_b19 at h
  refine lv_istore (lv' := [(4, .int t0), (0, .ref x0), (3, .int x3)]) C.1.1 C.1.2.1 d_Mod_wordOf_19 hl (by decide) rfl (fun ls hl => ?_)
  refine lv_iload_n C.1.1 C.1.2.1 d_Mod_wordOf_21 rfl (lv_at hl 2 rfl) ?_
  refine lv_bipush (v := (6 : Int32)) C.1.1 C.1.2.1 d_Mod_wordOf_22 (by decide) ?_
  refine lv_irem C.1.1 C.1.2.1 d_Mod_wordOf_24 (by decide) ?_
  refine lv_aload_n C.1.1 C.1.2.1 d_Mod_wordOf_25 rfl (lv_at hl 1 rfl) ?_
  obtain ⟨v1, ev1, h⟩ := h
  refine mg_R C.1 hM ok_Mod (by decide) kw13 ev1 d_Mod_wordOf_26 ?_
  refine lv_iload C.1.1 C.1.2.1 d_Mod_wordOf_29 (lv_at hl 0 rfl) ?_
  obtain ⟨v2, ev2, h⟩ := h
  refine ma_I C.1 hM 2 rfl ev2 d_Mod_wordOf_31 ?_
  refine lv_icmp_ge (tgt := 53) C.1.1 C.1.2.1 d_Mod_wordOf_32 (by decide) (fun c3 => ?_) (fun c3 => ?_)
  · have h := h.1 c3
    refine lv_ldc2 (v := (-1 : Int64)) C.1.1 C.1.2.1 C.1.2.2.2.1 (C.1.2.2.2.2.1 _ kw32) d_Mod_wordOf_53 ?_
    exact t_Mod_wordOf_b56 C h _ _ _ hM hS (lv_sub hl [] rfl)
  · have h := h.2 c3
    refine lv_aload_n C.1.1 C.1.2.1 d_Mod_wordOf_35 rfl (lv_at hl 1 rfl) ?_
    obtain ⟨v4, ev4, h⟩ := h
    refine mg_R C.1 hM ok_Mod (by decide) kw12 ev4 d_Mod_wordOf_36 ?_
    refine lv_bipush (v := (6 : Int32)) C.1.1 C.1.2.1 d_Mod_wordOf_39 (by decide) ?_
    refine lv_iload C.1.1 C.1.2.1 d_Mod_wordOf_41 (lv_at hl 0 rfl) ?_
    refine lv_imul C.1.1 C.1.2.1 d_Mod_wordOf_43 ?_
    refine lv_iload_n C.1.1 C.1.2.1 d_Mod_wordOf_44 rfl (lv_at hl 2 rfl) ?_
    refine lv_bipush (v := (6 : Int32)) C.1.1 C.1.2.1 d_Mod_wordOf_45 (by decide) ?_
    refine lv_irem C.1.1 C.1.2.1 d_Mod_wordOf_47 (by decide) ?_
    refine lv_iadd C.1.1 C.1.2.1 d_Mod_wordOf_48 ?_
    obtain ⟨v5, ev5, h⟩ := h
    refine ma_L C.1 hM 1 rfl ev5 d_Mod_wordOf_49 ?_
    refine lv_goto (tgt := 56) C.1.1 C.1.2.1 d_Mod_wordOf_50 (by decide) ?_
    exact t_Mod_wordOf_b56 C h _ _ _ hM hS (lv_sub hl [] rfl)
def wp_Mod_wordOf (g : Nat → ClassId) (M : Mem) (x0 : Nat) (x1 : Int32) (x2 : Int32) (x3 : Int32) (P : Int64 → Prop) : Prop :=
  (x3 = (12 : Int32) → (P (0 : Int64))) ∧ (¬ x3 = (12 : Int32) → (((6 : Int32) ≤ x3 → (wp_Mod_wordOf_b19 g P M x0 x3 x2)) ∧ (¬ (6 : Int32) ≤ x3 → (wp_Mod_wordOf_b19 g P M x0 x3 x1))))
set_option maxHeartbeats 4000000 in
set_option maxRecDepth 100000 in
theorem c_Mod_wordOf {l : Launch} {D : va_G} {g : Nat → ClassId} {M : Mem} {x0 : Nat} {x1 : Int32} {x2 : Int32} {x3 : Int32} {P : Int64 → Prop} (h : wp_Mod_wordOf g M x0 x1 x2 x3 P) : mMet l BIG D vwCl (tysG g) y_Mod_wordOf b_Mod_wordOf 5 (some .long) rm_Mod_wordOf [.ref x0, .int x1, .int x2, .int x3] M (kL fun r M' => M = M' ∧ P r) := by
  refine mMet.of (own := R_Mod) rfl (by decide) rfl (fun p e s m below meth c C hr hlk hnm ls hM hS hl => ?_)
  have C : C_Mod_wordOf D g p s m ([.ref x0, .int x1, .int x2, .int x3] : List Value).toArray meth c M := ⟨C, hr, hlk⟩
  unfold wp_Mod_wordOf at h
  have hl : lv_has ls 5 [(0, .ref x0), (1, .int x1), (2, .int x2), (3, .int x3)] := hl
  refine lv_iload_n C.1.1 C.1.2.1 d_Mod_wordOf_0 rfl (lv_at hl 3 rfl) ?_
  refine lv_bipush (v := (12 : Int32)) C.1.1 C.1.2.1 d_Mod_wordOf_1 (by decide) ?_
  refine lv_icmp_ne (tgt := 8) C.1.1 C.1.2.1 d_Mod_wordOf_3 (by decide) (fun c1 => ?_) (fun c1 => ?_)
  · have h := h.2 c1
    refine lv_iload_n C.1.1 C.1.2.1 d_Mod_wordOf_8 rfl (lv_at hl 3 rfl) ?_
    refine lv_bipush (v := (6 : Int32)) C.1.1 C.1.2.1 d_Mod_wordOf_9 (by decide) ?_
    refine lv_icmp_ge (tgt := 18) C.1.1 C.1.2.1 d_Mod_wordOf_11 (by decide) (fun c2 => ?_) (fun c2 => ?_)
    · have h := h.1 c2
      refine lv_iload_n C.1.1 C.1.2.1 d_Mod_wordOf_18 rfl (lv_at hl 2 rfl) ?_
      exact t_Mod_wordOf_b19 C h _ _ _ hM hS (lv_sub hl [0, 3] rfl)
    · have h := h.2 c2
      refine lv_iload_n C.1.1 C.1.2.1 d_Mod_wordOf_14 rfl (lv_at hl 1 rfl) ?_
      refine lv_goto (tgt := 19) C.1.1 C.1.2.1 d_Mod_wordOf_15 (by decide) ?_
      exact t_Mod_wordOf_b19 C h _ _ _ hM hS (lv_sub hl [0, 3] rfl)
  · have h := h.1 c1
    refine lv_lconst (v := (0 : Int64)) C.1.1 C.1.2.1 d_Mod_wordOf_6 (by decide) ?_
    exact mr_L C.1 C.2.1 C.2.2 hM hS ⟨_, rfl, rfl, h⟩ d_Mod_wordOf_7
theorem d_Mod_fewest_0 : decode b_Mod_fewest 0 = .ok (.aload_n 0, 1) := by decide +kernel
theorem d_Mod_fewest_1 : decode b_Mod_fewest 1 = .ok (.dup, 1) := by decide +kernel
theorem d_Mod_fewest_2 : decode b_Mod_fewest 2 = .ok (.getfield 135, 3) := by decide +kernel
theorem d_Mod_fewest_5 : decode b_Mod_fewest 5 = .ok (.iconst 1, 1) := by decide +kernel
theorem d_Mod_fewest_6 : decode b_Mod_fewest 6 = .ok (.iadd, 1) := by decide +kernel
theorem d_Mod_fewest_7 : decode b_Mod_fewest 7 = .ok (.putfield 135, 3) := by decide +kernel
theorem d_Mod_fewest_10 : decode b_Mod_fewest 10 = .ok (.iconst 0, 1) := by decide +kernel
theorem d_Mod_fewest_11 : decode b_Mod_fewest 11 = .ok (.istore 4, 2) := by decide +kernel
theorem d_Mod_fewest_13 : decode b_Mod_fewest 13 = .ok (.iconst 1, 1) := by decide +kernel
theorem d_Mod_fewest_14 : decode b_Mod_fewest 14 = .ok (.istore 5, 2) := by decide +kernel
theorem d_Mod_fewest_16 : decode b_Mod_fewest 16 = .ok (.aload_n 0, 1) := by decide +kernel
theorem d_Mod_fewest_17 : decode b_Mod_fewest 17 = .ok (.getfield 60, 3) := by decide +kernel
theorem d_Mod_fewest_20 : decode b_Mod_fewest 20 = .ok (.iconst 0, 1) := by decide +kernel
theorem d_Mod_fewest_21 : decode b_Mod_fewest 21 = .ok (.sipush 128, 3) := by decide +kernel
theorem d_Mod_fewest_24 : decode b_Mod_fewest 24 = .ok (.aload_n 0, 1) := by decide +kernel
theorem d_Mod_fewest_25 : decode b_Mod_fewest 25 = .ok (.iload_n 1, 1) := by decide +kernel
theorem d_Mod_fewest_26 : decode b_Mod_fewest 26 = .ok (.invokevirtual 93, 3) := by decide +kernel
theorem d_Mod_fewest_29 : decode b_Mod_fewest 29 = .ok (.imul, 1) := by decide +kernel
theorem d_Mod_fewest_30 : decode b_Mod_fewest 30 = .ok (.aload_n 0, 1) := by decide +kernel
theorem d_Mod_fewest_31 : decode b_Mod_fewest 31 = .ok (.iload_n 2, 1) := by decide +kernel
theorem d_Mod_fewest_32 : decode b_Mod_fewest 32 = .ok (.invokevirtual 93, 3) := by decide +kernel
theorem d_Mod_fewest_35 : decode b_Mod_fewest 35 = .ok (.iadd, 1) := by decide +kernel
theorem d_Mod_fewest_36 : decode b_Mod_fewest 36 = .ok (.iastore, 1) := by decide +kernel
theorem d_Mod_fewest_37 : decode b_Mod_fewest 37 = .ok (.iconst 1, 1) := by decide +kernel
theorem d_Mod_fewest_38 : decode b_Mod_fewest 38 = .ok (.istore 6, 2) := by decide +kernel
theorem d_Mod_fewest_40 : decode b_Mod_fewest 40 = .ok (.iload 4, 2) := by decide +kernel
theorem d_Mod_fewest_42 : decode b_Mod_fewest 42 = .ok (.iload 5, 2) := by decide +kernel
theorem d_Mod_fewest_44 : decode b_Mod_fewest 44 = .ok (.if_icmp .ge 192, 3) := by decide +kernel
theorem d_Mod_fewest_47 : decode b_Mod_fewest 47 = .ok (.iload 5, 2) := by decide +kernel
theorem d_Mod_fewest_49 : decode b_Mod_fewest 49 = .ok (.istore 7, 2) := by decide +kernel
theorem d_Mod_fewest_51 : decode b_Mod_fewest 51 = .ok (.iload 4, 2) := by decide +kernel
theorem d_Mod_fewest_53 : decode b_Mod_fewest 53 = .ok (.iload 7, 2) := by decide +kernel
theorem d_Mod_fewest_55 : decode b_Mod_fewest 55 = .ok (.if_icmp .ge 175, 3) := by decide +kernel
theorem d_Mod_fewest_58 : decode b_Mod_fewest 58 = .ok (.iconst 0, 1) := by decide +kernel
theorem d_Mod_fewest_59 : decode b_Mod_fewest 59 = .ok (.istore 8, 2) := by decide +kernel
theorem d_Mod_fewest_61 : decode b_Mod_fewest 61 = .ok (.iload 8, 2) := by decide +kernel
theorem d_Mod_fewest_63 : decode b_Mod_fewest 63 = .ok (.bipush 12, 2) := by decide +kernel
theorem d_Mod_fewest_65 : decode b_Mod_fewest 65 = .ok (.if_icmp .gt 159, 3) := by decide +kernel
theorem d_Mod_fewest_68 : decode b_Mod_fewest 68 = .ok (.aload_n 0, 1) := by decide +kernel
theorem d_Mod_fewest_69 : decode b_Mod_fewest 69 = .ok (.iload_n 1, 1) := by decide +kernel
theorem d_Mod_fewest_70 : decode b_Mod_fewest 70 = .ok (.iload_n 2, 1) := by decide +kernel
theorem d_Mod_fewest_71 : decode b_Mod_fewest 71 = .ok (.iload 8, 2) := by decide +kernel
theorem d_Mod_fewest_73 : decode b_Mod_fewest 73 = .ok (.invokevirtual 138, 3) := by decide +kernel
theorem d_Mod_fewest_76 : decode b_Mod_fewest 76 = .ok (.lstore 9, 2) := by decide +kernel
theorem d_Mod_fewest_78 : decode b_Mod_fewest 78 = .ok (.lload 9, 2) := by decide +kernel
theorem d_Mod_fewest_80 : decode b_Mod_fewest 80 = .ok (.lconst 0, 1) := by decide +kernel
theorem d_Mod_fewest_81 : decode b_Mod_fewest 81 = .ok (.lcmp, 1) := by decide +kernel
theorem d_Mod_fewest_82 : decode b_Mod_fewest 82 = .ok (.ifCond .ge 6, 3) := by decide +kernel
theorem d_Mod_fewest_85 : decode b_Mod_fewest 85 = .ok (.goto 133, 3) := by decide +kernel
theorem d_Mod_fewest_88 : decode b_Mod_fewest 88 = .ok (.aload_n 0, 1) := by decide +kernel
theorem d_Mod_fewest_89 : decode b_Mod_fewest 89 = .ok (.iload_n 1, 1) := by decide +kernel
theorem d_Mod_fewest_90 : decode b_Mod_fewest 90 = .ok (.aload_n 0, 1) := by decide +kernel
theorem d_Mod_fewest_91 : decode b_Mod_fewest 91 = .ok (.getfield 60, 3) := by decide +kernel
theorem d_Mod_fewest_94 : decode b_Mod_fewest 94 = .ok (.iload 4, 2) := by decide +kernel
theorem d_Mod_fewest_96 : decode b_Mod_fewest 96 = .ok (.iaload, 1) := by decide +kernel
theorem d_Mod_fewest_97 : decode b_Mod_fewest 97 = .ok (.sipush 128, 3) := by decide +kernel
theorem d_Mod_fewest_100 : decode b_Mod_fewest 100 = .ok (.idiv, 1) := by decide +kernel
theorem d_Mod_fewest_101 : decode b_Mod_fewest 101 = .ok (.lload 9, 2) := by decide +kernel
theorem d_Mod_fewest_103 : decode b_Mod_fewest 103 = .ok (.invokevirtual 97, 3) := by decide +kernel
theorem d_Mod_fewest_106 : decode b_Mod_fewest 106 = .ok (.istore 11, 2) := by decide +kernel
theorem d_Mod_fewest_108 : decode b_Mod_fewest 108 = .ok (.aload_n 0, 1) := by decide +kernel
theorem d_Mod_fewest_109 : decode b_Mod_fewest 109 = .ok (.iload_n 2, 1) := by decide +kernel
theorem d_Mod_fewest_110 : decode b_Mod_fewest 110 = .ok (.aload_n 0, 1) := by decide +kernel
theorem d_Mod_fewest_111 : decode b_Mod_fewest 111 = .ok (.getfield 60, 3) := by decide +kernel
theorem d_Mod_fewest_114 : decode b_Mod_fewest 114 = .ok (.iload 4, 2) := by decide +kernel
theorem d_Mod_fewest_116 : decode b_Mod_fewest 116 = .ok (.iaload, 1) := by decide +kernel
theorem d_Mod_fewest_117 : decode b_Mod_fewest 117 = .ok (.sipush 128, 3) := by decide +kernel
theorem d_Mod_fewest_120 : decode b_Mod_fewest 120 = .ok (.irem, 1) := by decide +kernel
theorem d_Mod_fewest_121 : decode b_Mod_fewest 121 = .ok (.lload 9, 2) := by decide +kernel
theorem d_Mod_fewest_123 : decode b_Mod_fewest 123 = .ok (.invokevirtual 97, 3) := by decide +kernel
theorem d_Mod_fewest_126 : decode b_Mod_fewest 126 = .ok (.istore 12, 2) := by decide +kernel
theorem d_Mod_fewest_128 : decode b_Mod_fewest 128 = .ok (.aload_n 0, 1) := by decide +kernel
theorem d_Mod_fewest_129 : decode b_Mod_fewest 129 = .ok (.iload_n 1, 1) := by decide +kernel
theorem d_Mod_fewest_130 : decode b_Mod_fewest 130 = .ok (.iload 11, 2) := by decide +kernel
theorem d_Mod_fewest_132 : decode b_Mod_fewest 132 = .ok (.invokevirtual 101, 3) := by decide +kernel
theorem d_Mod_fewest_135 : decode b_Mod_fewest 135 = .ok (.ifCond .eq 17, 3) := by decide +kernel
theorem d_Mod_fewest_138 : decode b_Mod_fewest 138 = .ok (.aload_n 0, 1) := by decide +kernel
theorem d_Mod_fewest_139 : decode b_Mod_fewest 139 = .ok (.iload_n 2, 1) := by decide +kernel
theorem d_Mod_fewest_140 : decode b_Mod_fewest 140 = .ok (.iload 12, 2) := by decide +kernel
theorem d_Mod_fewest_142 : decode b_Mod_fewest 142 = .ok (.invokevirtual 101, 3) := by decide +kernel
theorem d_Mod_fewest_145 : decode b_Mod_fewest 145 = .ok (.iload_n 3, 1) := by decide +kernel
theorem d_Mod_fewest_146 : decode b_Mod_fewest 146 = .ok (.if_icmp .ne 6, 3) := by decide +kernel
theorem d_Mod_fewest_149 : decode b_Mod_fewest 149 = .ok (.iload 6, 2) := by decide +kernel
theorem d_Mod_fewest_151 : decode b_Mod_fewest 151 = .ok (.ireturn, 1) := by decide +kernel
theorem d_Mod_fewest_152 : decode b_Mod_fewest 152 = .ok (.iload 11, 2) := by decide +kernel
theorem d_Mod_fewest_154 : decode b_Mod_fewest 154 = .ok (.ifCond .eq 64, 3) := by decide +kernel
theorem d_Mod_fewest_157 : decode b_Mod_fewest 157 = .ok (.aload_n 0, 1) := by decide +kernel
theorem d_Mod_fewest_158 : decode b_Mod_fewest 158 = .ok (.getfield 57, 3) := by decide +kernel
theorem d_Mod_fewest_161 : decode b_Mod_fewest 161 = .ok (.sipush 128, 3) := by decide +kernel
theorem d_Mod_fewest_164 : decode b_Mod_fewest 164 = .ok (.iload 11, 2) := by decide +kernel
theorem d_Mod_fewest_166 : decode b_Mod_fewest 166 = .ok (.imul, 1) := by decide +kernel
theorem d_Mod_fewest_167 : decode b_Mod_fewest 167 = .ok (.iload 12, 2) := by decide +kernel
theorem d_Mod_fewest_169 : decode b_Mod_fewest 169 = .ok (.iadd, 1) := by decide +kernel
theorem d_Mod_fewest_170 : decode b_Mod_fewest 170 = .ok (.iaload, 1) := by decide +kernel
theorem d_Mod_fewest_171 : decode b_Mod_fewest 171 = .ok (.aload_n 0, 1) := by decide +kernel
theorem d_Mod_fewest_172 : decode b_Mod_fewest 172 = .ok (.getfield 135, 3) := by decide +kernel
theorem d_Mod_fewest_175 : decode b_Mod_fewest 175 = .ok (.if_icmp .ne 6, 3) := by decide +kernel
theorem d_Mod_fewest_178 : decode b_Mod_fewest 178 = .ok (.goto 40, 3) := by decide +kernel
theorem d_Mod_fewest_181 : decode b_Mod_fewest 181 = .ok (.aload_n 0, 1) := by decide +kernel
theorem d_Mod_fewest_182 : decode b_Mod_fewest 182 = .ok (.getfield 57, 3) := by decide +kernel
theorem d_Mod_fewest_185 : decode b_Mod_fewest 185 = .ok (.sipush 128, 3) := by decide +kernel
theorem d_Mod_fewest_188 : decode b_Mod_fewest 188 = .ok (.iload 11, 2) := by decide +kernel
theorem d_Mod_fewest_190 : decode b_Mod_fewest 190 = .ok (.imul, 1) := by decide +kernel
theorem d_Mod_fewest_191 : decode b_Mod_fewest 191 = .ok (.iload 12, 2) := by decide +kernel
theorem d_Mod_fewest_193 : decode b_Mod_fewest 193 = .ok (.iadd, 1) := by decide +kernel
theorem d_Mod_fewest_194 : decode b_Mod_fewest 194 = .ok (.aload_n 0, 1) := by decide +kernel
theorem d_Mod_fewest_195 : decode b_Mod_fewest 195 = .ok (.getfield 135, 3) := by decide +kernel
theorem d_Mod_fewest_198 : decode b_Mod_fewest 198 = .ok (.iastore, 1) := by decide +kernel
theorem d_Mod_fewest_199 : decode b_Mod_fewest 199 = .ok (.aload_n 0, 1) := by decide +kernel
theorem d_Mod_fewest_200 : decode b_Mod_fewest 200 = .ok (.getfield 60, 3) := by decide +kernel
theorem d_Mod_fewest_203 : decode b_Mod_fewest 203 = .ok (.iload 5, 2) := by decide +kernel
theorem d_Mod_fewest_205 : decode b_Mod_fewest 205 = .ok (.sipush 128, 3) := by decide +kernel
theorem d_Mod_fewest_208 : decode b_Mod_fewest 208 = .ok (.iload 11, 2) := by decide +kernel
theorem d_Mod_fewest_210 : decode b_Mod_fewest 210 = .ok (.imul, 1) := by decide +kernel
theorem d_Mod_fewest_211 : decode b_Mod_fewest 211 = .ok (.iload 12, 2) := by decide +kernel
theorem d_Mod_fewest_213 : decode b_Mod_fewest 213 = .ok (.iadd, 1) := by decide +kernel
theorem d_Mod_fewest_214 : decode b_Mod_fewest 214 = .ok (.iastore, 1) := by decide +kernel
theorem d_Mod_fewest_215 : decode b_Mod_fewest 215 = .ok (.iinc 5 1, 3) := by decide +kernel
theorem d_Mod_fewest_218 : decode b_Mod_fewest 218 = .ok (.iinc 8 1, 3) := by decide +kernel
theorem d_Mod_fewest_221 : decode b_Mod_fewest 221 = .ok (.goto (-160), 3) := by decide +kernel
theorem d_Mod_fewest_224 : decode b_Mod_fewest 224 = .ok (.iinc 4 1, 3) := by decide +kernel
theorem d_Mod_fewest_227 : decode b_Mod_fewest 227 = .ok (.goto (-176), 3) := by decide +kernel
theorem d_Mod_fewest_230 : decode b_Mod_fewest 230 = .ok (.iinc 6 1, 3) := by decide +kernel
theorem d_Mod_fewest_233 : decode b_Mod_fewest 233 = .ok (.goto (-193), 3) := by decide +kernel
theorem d_Mod_fewest_236 : decode b_Mod_fewest 236 = .ok (.iconst 0, 1) := by decide +kernel
theorem d_Mod_fewest_237 : decode b_Mod_fewest 237 = .ok (.ireturn, 1) := by decide +kernel
abbrev rm_Mod_fewest : Room := { frames := 3, cells := 0, slots := 0, locals := 78 }
abbrev C_Mod_fewest (D : va_G) (g : Nat → ClassId) (p : Program) (s : State) (m : MethodId) (args : Array Value) (meth : Method) (c : Code) (M0 : Mem) : Prop := Cx p s m args c b_Mod_fewest 13 R_Mod BIG D vwCl (tysG g) (mA M0 s.heap.size) ∧ meth.sig.returnType = (some .int) ∧ meth.locks = false
abbrev B_Mod_fewest (l : Launch) (D : va_G) (p : Program) (e : Env) (s : State) (m : MethodId) (args : Array Value) (below : List Frame) (meth : Method) (c : Code) (M0 : Mem) (P : Int32 → Mem → Prop) (M : Mem) (pc : Nat) (lv : List (Nat × Value)) (st : List Value) : Prop := Wb p l e rm_Mod_fewest s m args below meth c 13 D vwCl M0 (kI fun r M' => P r M') 0 0 M pc lv st
def wp_Mod_fewest_b218 (g : Nat → ClassId) (P : Int32 → Mem → Prop) (J40 : Int32 → Int32 → Int32 → Mem → Prop) (J51 : Int32 → Int32 → Mem → Prop) (J61 : Int32 → Int32 → Mem → Prop) (M : Mem) (x0 : Nat) (x1 : Int32) (x2 : Int32) (x3 : Int32) (x4 : Int32) (x5 : Int32) (x6 : Int32) (x7 : Int32) (x8 : Int32) : Prop :=
  J61 x5 (x8 + (1 : Int32)) M
set_option maxHeartbeats 4000000 in
set_option maxRecDepth 100000 in
theorem t_Mod_fewest_b218 {l : Launch} {D : va_G} {g : Nat → ClassId} {p : Program} {e : Env} {s : State} {m : MethodId} {args : Array Value} {below : List Frame} {meth : Method} {c : Code} {M0 : Mem} {P : Int32 → Mem → Prop} {J40 : Int32 → Int32 → Int32 → Mem → Prop} {J51 : Int32 → Int32 → Mem → Prop} {J61 : Int32 → Int32 → Mem → Prop} {M : Mem} {x0 : Nat} {x1 : Int32} {x2 : Int32} {x3 : Int32} {x4 : Int32} {x5 : Int32} {x6 : Int32} {x7 : Int32} {x8 : Int32} (C : C_Mod_fewest D g p s m args meth c M0) (h : wp_Mod_fewest_b218 g P J40 J51 J61 M x0 x1 x2 x3 x4 x5 x6 x7 x8 ) (kJ40 : ∀ (x4 : Int32) (x5 : Int32) (x6 : Int32) (M : Mem), J40 x4 x5 x6 M → B_Mod_fewest l D p e s m args below meth c M0 P M 40 [(0, .ref x0), (1, .int x1), (2, .int x2), (3, .int x3), (4, .int x4), (5, .int x5), (6, .int x6)] []) (kJ51 : ∀ (x4 : Int32) (x5 : Int32) (M : Mem), J51 x4 x5 M → B_Mod_fewest l D p e s m args below meth c M0 P M 51 [(0, .ref x0), (1, .int x1), (2, .int x2), (3, .int x3), (4, .int x4), (5, .int x5), (6, .int x6), (7, .int x7)] []) (kJ61 : ∀ (x5 : Int32) (x8 : Int32) (M : Mem), J61 x5 x8 M → B_Mod_fewest l D p e s m args below meth c M0 P M 61 [(0, .ref x0), (1, .int x1), (2, .int x2), (3, .int x3), (4, .int x4), (5, .int x5), (6, .int x6), (7, .int x7), (8, .int x8)] []) : B_Mod_fewest l D p e s m args below meth c M0 P M 218 [(0, .ref x0), (1, .int x1), (2, .int x2), (3, .int x3), (4, .int x4), (5, .int x5), (6, .int x6), (7, .int x7), (8, .int x8)] [] := by
  intro ls H locs hM hS hl
  unfold wp_Mod_fewest_b218 at h
  refine lv_iinc (v := x8 + (1 : Int32)) (lv' := [(8, .int (x8 + (1 : Int32))), (0, .ref x0), (1, .int x1), (2, .int x2), (3, .int x3), (4, .int x4), (5, .int x5), (6, .int x6), (7, .int x7)]) C.1.1 C.1.2.1 d_Mod_fewest_218 hl (k := 8) rfl rfl (by decide) rfl (fun ls hl => ?_)
  refine lv_goto (tgt := 61) C.1.1 C.1.2.1 d_Mod_fewest_221 (by decide) ?_
  exact kJ61 x5 (x8 + (1 : Int32)) M h _ _ _ hM hS (lv_sub hl [1, 2, 3, 4, 5, 6, 7, 8, 0] rfl)
def wp_Mod_fewest_b152 (g : Nat → ClassId) (P : Int32 → Mem → Prop) (J40 : Int32 → Int32 → Int32 → Mem → Prop) (J51 : Int32 → Int32 → Mem → Prop) (J61 : Int32 → Int32 → Mem → Prop) (M : Mem) (x0 : Nat) (x1 : Int32) (x2 : Int32) (x3 : Int32) (x4 : Int32) (x5 : Int32) (x6 : Int32) (x7 : Int32) (x8 : Int32) (x11 : Int32) (x12 : Int32) : Prop :=
  (x11 = 0 → (wp_Mod_fewest_b218 g P J40 J51 J61 M x0 x1 x2 x3 x4 x5 x6 x7 x8)) ∧ (¬ x11 = 0 → (∃ v2 : Nat, gR M 6 x0 20 = some v2 ∧ (∃ v3 : Int32, aI M (g 2) v2 (((128 : Int32) * x11) + x12) = some v3 ∧ (∃ v4 : Int32, gI M 6 x0 21 = some v4 ∧ ((v3 = v4 → (wp_Mod_fewest_b218 g P J40 J51 J61 M x0 x1 x2 x3 x4 x5 x6 x7 x8)) ∧ (¬ v3 = v4 → (∃ v6 : Nat, gR M 6 x0 20 = some v6 ∧ (∃ v7 : Int32, gI M 6 x0 21 = some v7 ∧ (∃ M8 : Mem, sI M (g 2) v6 (((128 : Int32) * x11) + x12) v7 = some M8 ∧ (∃ v9 : Nat, gR M8 6 x0 22 = some v9 ∧ (∃ M10 : Mem, sI M8 (g 2) v9 x5 (((128 : Int32) * x11) + x12) = some M10 ∧ (wp_Mod_fewest_b218 g P J40 J51 J61 M10 x0 x1 x2 x3 x4 (x5 + (1 : Int32)) x6 x7 x8))))))))))))
set_option maxHeartbeats 4000000 in
set_option maxRecDepth 100000 in
theorem t_Mod_fewest_b152 {l : Launch} {D : va_G} {g : Nat → ClassId} {p : Program} {e : Env} {s : State} {m : MethodId} {args : Array Value} {below : List Frame} {meth : Method} {c : Code} {M0 : Mem} {P : Int32 → Mem → Prop} {J40 : Int32 → Int32 → Int32 → Mem → Prop} {J51 : Int32 → Int32 → Mem → Prop} {J61 : Int32 → Int32 → Mem → Prop} {M : Mem} {x0 : Nat} {x1 : Int32} {x2 : Int32} {x3 : Int32} {x4 : Int32} {x5 : Int32} {x6 : Int32} {x7 : Int32} {x8 : Int32} {x11 : Int32} {x12 : Int32} (C : C_Mod_fewest D g p s m args meth c M0) (h : wp_Mod_fewest_b152 g P J40 J51 J61 M x0 x1 x2 x3 x4 x5 x6 x7 x8 x11 x12 ) (kJ40 : ∀ (x4 : Int32) (x5 : Int32) (x6 : Int32) (M : Mem), J40 x4 x5 x6 M → B_Mod_fewest l D p e s m args below meth c M0 P M 40 [(0, .ref x0), (1, .int x1), (2, .int x2), (3, .int x3), (4, .int x4), (5, .int x5), (6, .int x6)] []) (kJ51 : ∀ (x4 : Int32) (x5 : Int32) (M : Mem), J51 x4 x5 M → B_Mod_fewest l D p e s m args below meth c M0 P M 51 [(0, .ref x0), (1, .int x1), (2, .int x2), (3, .int x3), (4, .int x4), (5, .int x5), (6, .int x6), (7, .int x7)] []) (kJ61 : ∀ (x5 : Int32) (x8 : Int32) (M : Mem), J61 x5 x8 M → B_Mod_fewest l D p e s m args below meth c M0 P M 61 [(0, .ref x0), (1, .int x1), (2, .int x2), (3, .int x3), (4, .int x4), (5, .int x5), (6, .int x6), (7, .int x7), (8, .int x8)] []) : B_Mod_fewest l D p e s m args below meth c M0 P M 152 [(0, .ref x0), (1, .int x1), (2, .int x2), (3, .int x3), (4, .int x4), (5, .int x5), (6, .int x6), (7, .int x7), (8, .int x8), (11, .int x11), (12, .int x12)] [] := by
  intro ls H locs hM hS hl
  unfold wp_Mod_fewest_b152 at h
  refine lv_iload C.1.1 C.1.2.1 d_Mod_fewest_152 (lv_at hl 9 rfl) ?_
  refine lv_if_eq (tgt := 218) C.1.1 C.1.2.1 d_Mod_fewest_154 (by decide) (fun c1 => ?_) (fun c1 => ?_)
  · have h := h.1 c1
    exact t_Mod_fewest_b218 C h kJ40 kJ51 kJ61 _ _ _ hM hS (lv_sub hl [0, 1, 2, 3, 4, 5, 6, 7, 8] rfl)
  · have h := h.2 c1
    refine lv_aload_n C.1.1 C.1.2.1 d_Mod_fewest_157 rfl (lv_at hl 0 rfl) ?_
    obtain ⟨v2, ev2, h⟩ := h
    refine mg_R C.1 hM ok_Mod (by decide) kw21 ev2 d_Mod_fewest_158 ?_
    refine lv_sipush (v := (128 : Int32)) C.1.1 C.1.2.1 d_Mod_fewest_161 (by decide) ?_
    refine lv_iload C.1.1 C.1.2.1 d_Mod_fewest_164 (lv_at hl 9 rfl) ?_
    refine lv_imul C.1.1 C.1.2.1 d_Mod_fewest_166 ?_
    refine lv_iload C.1.1 C.1.2.1 d_Mod_fewest_167 (lv_at hl 10 rfl) ?_
    refine lv_iadd C.1.1 C.1.2.1 d_Mod_fewest_169 ?_
    obtain ⟨v3, ev3, h⟩ := h
    refine ma_I C.1 hM 2 rfl ev3 d_Mod_fewest_170 ?_
    refine lv_aload_n C.1.1 C.1.2.1 d_Mod_fewest_171 rfl (lv_at hl 0 rfl) ?_
    obtain ⟨v4, ev4, h⟩ := h
    refine mg_I C.1 hM ok_Mod (by decide) kw139 ev4 d_Mod_fewest_172 ?_
    refine lv_icmp_ne (tgt := 181) C.1.1 C.1.2.1 d_Mod_fewest_175 (by decide) (fun c5 => ?_) (fun c5 => ?_)
    · have h := h.2 c5
      refine lv_aload_n C.1.1 C.1.2.1 d_Mod_fewest_181 rfl (lv_at hl 0 rfl) ?_
      obtain ⟨v6, ev6, h⟩ := h
      refine mg_R C.1 hM ok_Mod (by decide) kw21 ev6 d_Mod_fewest_182 ?_
      refine lv_sipush (v := (128 : Int32)) C.1.1 C.1.2.1 d_Mod_fewest_185 (by decide) ?_
      refine lv_iload C.1.1 C.1.2.1 d_Mod_fewest_188 (lv_at hl 9 rfl) ?_
      refine lv_imul C.1.1 C.1.2.1 d_Mod_fewest_190 ?_
      refine lv_iload C.1.1 C.1.2.1 d_Mod_fewest_191 (lv_at hl 10 rfl) ?_
      refine lv_iadd C.1.1 C.1.2.1 d_Mod_fewest_193 ?_
      refine lv_aload_n C.1.1 C.1.2.1 d_Mod_fewest_194 rfl (lv_at hl 0 rfl) ?_
      obtain ⟨v7, ev7, h⟩ := h
      refine mg_I C.1 hM ok_Mod (by decide) kw139 ev7 d_Mod_fewest_195 ?_
      obtain ⟨M8, eM8, h⟩ := h
      refine ms_I C.1 hM hS 2 rfl eM8 d_Mod_fewest_198 (fun H locs hM hS => ?_)
      refine lv_aload_n C.1.1 C.1.2.1 d_Mod_fewest_199 rfl (lv_at hl 0 rfl) ?_
      obtain ⟨v9, ev9, h⟩ := h
      refine mg_R C.1 hM ok_Mod (by decide) kw22 ev9 d_Mod_fewest_200 ?_
      refine lv_iload C.1.1 C.1.2.1 d_Mod_fewest_203 (lv_at hl 5 rfl) ?_
      refine lv_sipush (v := (128 : Int32)) C.1.1 C.1.2.1 d_Mod_fewest_205 (by decide) ?_
      refine lv_iload C.1.1 C.1.2.1 d_Mod_fewest_208 (lv_at hl 9 rfl) ?_
      refine lv_imul C.1.1 C.1.2.1 d_Mod_fewest_210 ?_
      refine lv_iload C.1.1 C.1.2.1 d_Mod_fewest_211 (lv_at hl 10 rfl) ?_
      refine lv_iadd C.1.1 C.1.2.1 d_Mod_fewest_213 ?_
      obtain ⟨M10, eM10, h⟩ := h
      refine ms_I C.1 hM hS 2 rfl eM10 d_Mod_fewest_214 (fun H locs hM hS => ?_)
      refine lv_iinc (v := x5 + (1 : Int32)) (lv' := [(5, .int (x5 + (1 : Int32))), (0, .ref x0), (1, .int x1), (2, .int x2), (3, .int x3), (4, .int x4), (6, .int x6), (7, .int x7), (8, .int x8), (11, .int x11), (12, .int x12)]) C.1.1 C.1.2.1 d_Mod_fewest_215 hl (k := 5) rfl rfl (by decide) rfl (fun ls hl => ?_)
      exact t_Mod_fewest_b218 C h kJ40 kJ51 kJ61 _ _ _ hM hS (lv_sub hl [1, 2, 3, 4, 5, 0, 6, 7, 8] rfl)
    · have h := h.1 c5
      refine lv_goto (tgt := 218) C.1.1 C.1.2.1 d_Mod_fewest_178 (by decide) ?_
      exact t_Mod_fewest_b218 C h kJ40 kJ51 kJ61 _ _ _ hM hS (lv_sub hl [0, 1, 2, 3, 4, 5, 6, 7, 8] rfl)
def wp_Mod_fewest_b61 (g : Nat → ClassId) (P : Int32 → Mem → Prop) (J40 : Int32 → Int32 → Int32 → Mem → Prop) (J51 : Int32 → Int32 → Mem → Prop) (M : Mem) (x0 : Nat) (x1 : Int32) (x2 : Int32) (x3 : Int32) (x4 : Int32) (x5 : Int32) (x6 : Int32) (x7 : Int32) (x8 : Int32) : Prop :=
  ∃ (I : Int32 → Int32 → Mem → Prop) (μ : Int32 → Int32 → Mem → Nat), I x5 x8 M ∧ ∀ (x5 : Int32) (x8 : Int32) (M : Mem), I x5 x8 M →
  ((12 : Int32) < x8 → (J51 (x4 + (1 : Int32)) x5 M)) ∧ (¬ (12 : Int32) < x8 → (isO M 6 x0 ∧ (wp_Mod_wordOf g M x0 x1 x2 x8 (fun v2 : Int64 => (0 ≤ (lg_cmp v2 (0 : Int64)) → (∃ v5 : Nat, gR M 6 x0 22 = some v5 ∧ (∃ v6 : Int32, aI M (g 2) v5 x4 = some v6 ∧ (isO M 6 x0 ∧ (wp_Mod_moved g M x0 x1 (v6 / (128 : Int32)) v2 (fun v7 : Int32 => ∃ v9 : Nat, gR M 6 x0 22 = some v9 ∧ (∃ v10 : Int32, aI M (g 2) v9 x4 = some v10 ∧ (isO M 6 x0 ∧ (wp_Mod_moved g M x0 x2 (v10 - v10 / (128 : Int32) * (128 : Int32)) v2 (fun v11 : Int32 => isO M 6 x0 ∧ (wp_Mod_isEnd g M x0 x1 v7 (fun v13 : Int32 => (v13 = 0 → (wp_Mod_fewest_b152 g P J40 J51 (fun y5 y8 N => I y5 y8 N ∧ μ y5 y8 N < μ x5 x8 M) M x0 x1 x2 x3 x4 x5 x6 x7 x8 v7 v11)) ∧ (¬ v13 = 0 → (isO M 6 x0 ∧ (wp_Mod_isEnd g M x0 x2 v11 (fun v16 : Int32 => (v16 = x3 → (P x6 M)) ∧ (¬ v16 = x3 → (wp_Mod_fewest_b152 g P J40 J51 (fun y5 y8 N => I y5 y8 N ∧ μ y5 y8 N < μ x5 x8 M) M x0 x1 x2 x3 x4 x5 x6 x7 x8 v7 v11)))))))))))))))))) ∧ (¬ 0 ≤ (lg_cmp v2 (0 : Int64)) → (wp_Mod_fewest_b218 g P J40 J51 (fun y5 y8 N => I y5 y8 N ∧ μ y5 y8 N < μ x5 x8 M) M x0 x1 x2 x3 x4 x5 x6 x7 x8))))))
set_option maxHeartbeats 4000000 in
set_option maxRecDepth 100000 in
theorem t_Mod_fewest_b61 {l : Launch} {D : va_G} {g : Nat → ClassId} {p : Program} {e : Env} {s : State} {m : MethodId} {args : Array Value} {below : List Frame} {meth : Method} {c : Code} {M0 : Mem} {P : Int32 → Mem → Prop} {J40 : Int32 → Int32 → Int32 → Mem → Prop} {J51 : Int32 → Int32 → Mem → Prop} {M : Mem} {x0 : Nat} {x1 : Int32} {x2 : Int32} {x3 : Int32} {x4 : Int32} {x5 : Int32} {x6 : Int32} {x7 : Int32} {x8 : Int32} (C : C_Mod_fewest D g p s m args meth c M0) (h : wp_Mod_fewest_b61 g P J40 J51 M x0 x1 x2 x3 x4 x5 x6 x7 x8 ) (kJ40 : ∀ (x4 : Int32) (x5 : Int32) (x6 : Int32) (M : Mem), J40 x4 x5 x6 M → B_Mod_fewest l D p e s m args below meth c M0 P M 40 [(0, .ref x0), (1, .int x1), (2, .int x2), (3, .int x3), (4, .int x4), (5, .int x5), (6, .int x6)] []) (kJ51 : ∀ (x4 : Int32) (x5 : Int32) (M : Mem), J51 x4 x5 M → B_Mod_fewest l D p e s m args below meth c M0 P M 51 [(0, .ref x0), (1, .int x1), (2, .int x2), (3, .int x3), (4, .int x4), (5, .int x5), (6, .int x6), (7, .int x7)] []) : B_Mod_fewest l D p e s m args below meth c M0 P M 61 [(0, .ref x0), (1, .int x1), (2, .int x2), (3, .int x3), (4, .int x4), (5, .int x5), (6, .int x6), (7, .int x7), (8, .int x8)] [] := by
  unfold wp_Mod_fewest_b61 at h
  obtain ⟨I, μ, hI, hb⟩ := h
  have key : ∀ (n : Nat) (x5 : Int32) (x8 : Int32) (M : Mem), I x5 x8 M → μ x5 x8 M < n → B_Mod_fewest l D p e s m args below meth c M0 P M 61 [(0, .ref x0), (1, .int x1), (2, .int x2), (3, .int x3), (4, .int x4), (5, .int x5), (6, .int x6), (7, .int x7), (8, .int x8)] [] := by
    intro n
    induction n with
    | zero => intro x5 x8 M _ hn; exact absurd hn (Nat.not_lt_zero _)
    | succ n ih =>
      intro x5 x8 M hI hn ls H locs hM hS hl
      have h := hb x5 x8 M hI
      refine lv_iload C.1.1 C.1.2.1 d_Mod_fewest_61 (lv_at hl 8 rfl) ?_
      refine lv_bipush (v := (12 : Int32)) C.1.1 C.1.2.1 d_Mod_fewest_63 (by decide) ?_
      refine lv_icmp_gt (tgt := 224) C.1.1 C.1.2.1 d_Mod_fewest_65 (by decide) (fun c1 => ?_) (fun c1 => ?_)
      · have h := h.1 c1
        refine lv_iinc (v := x4 + (1 : Int32)) (lv' := [(4, .int (x4 + (1 : Int32))), (0, .ref x0), (1, .int x1), (2, .int x2), (3, .int x3), (5, .int x5), (6, .int x6), (7, .int x7), (8, .int x8)]) C.1.1 C.1.2.1 d_Mod_fewest_224 hl (k := 4) rfl rfl (by decide) rfl (fun ls hl => ?_)
        refine lv_goto (tgt := 51) C.1.1 C.1.2.1 d_Mod_fewest_227 (by decide) ?_
        exact kJ51 (x4 + (1 : Int32)) x5 M h _ _ _ hM hS (lv_sub hl [1, 2, 3, 4, 0, 5, 6, 7] rfl)
      · have h := h.2 c1
        refine lv_aload_n C.1.1 C.1.2.1 d_Mod_fewest_68 rfl (lv_at hl 0 rfl) ?_
        refine lv_iload_n C.1.1 C.1.2.1 d_Mod_fewest_69 rfl (lv_at hl 1 rfl) ?_
        refine lv_iload_n C.1.1 C.1.2.1 d_Mod_fewest_70 rfl (lv_at hl 2 rfl) ?_
        refine lv_iload C.1.1 C.1.2.1 d_Mod_fewest_71 (lv_at hl 8 rfl) ?_
        obtain ⟨ho, h⟩ := h
        refine mc_V (As := [.int x1, .int x2, .int x8]) (ci := 6) C.1 hM hS bigGood (c_Mod_wordOf h) rfl ho kw140 kw142 kw143 kw29 kw141 hd_Mod_wordOf ⟨by decide, by decide⟩ hl.1 rfl (Nat.le_of_ble_eq_true rfl) d_Mod_fewest_73 (mc := 0) (ms := 0) rfl rfl ⟨by decide, by decide⟩ (fun v M' H locs hp hM hS => ?_)
        obtain ⟨v2, rfl, rfl, h⟩ := hp
        refine lv_lstore (lv' := [(9, .long v2), (0, .ref x0), (1, .int x1), (2, .int x2), (3, .int x3), (4, .int x4), (5, .int x5), (6, .int x6), (7, .int x7), (8, .int x8)]) C.1.1 C.1.2.1 d_Mod_fewest_76 hl (by decide) rfl (fun ls hl => ?_)
        refine lv_lload C.1.1 C.1.2.1 d_Mod_fewest_78 (lv_at hl 0 rfl) ?_
        refine lv_lconst (v := (0 : Int64)) C.1.1 C.1.2.1 d_Mod_fewest_80 (by decide) ?_
        refine W.lcmp C.1.1 C.1.2.1 d_Mod_fewest_81 ?_
        refine lv_if_ge (tgt := 88) C.1.1 C.1.2.1 d_Mod_fewest_82 (by decide) (fun c4 => ?_) (fun c4 => ?_)
        · have h := h.1 c4
          refine lv_aload_n C.1.1 C.1.2.1 d_Mod_fewest_88 rfl (lv_at hl 1 rfl) ?_
          refine lv_iload_n C.1.1 C.1.2.1 d_Mod_fewest_89 rfl (lv_at hl 2 rfl) ?_
          refine lv_aload_n C.1.1 C.1.2.1 d_Mod_fewest_90 rfl (lv_at hl 1 rfl) ?_
          obtain ⟨v5, ev5, h⟩ := h
          refine mg_R C.1 hM ok_Mod (by decide) kw22 ev5 d_Mod_fewest_91 ?_
          refine lv_iload C.1.1 C.1.2.1 d_Mod_fewest_94 (lv_at hl 5 rfl) ?_
          obtain ⟨v6, ev6, h⟩ := h
          refine ma_I C.1 hM 2 rfl ev6 d_Mod_fewest_96 ?_
          refine lv_sipush (v := (128 : Int32)) C.1.1 C.1.2.1 d_Mod_fewest_97 (by decide) ?_
          refine lv_idiv C.1.1 C.1.2.1 d_Mod_fewest_100 (by decide) ?_
          refine lv_lload C.1.1 C.1.2.1 d_Mod_fewest_101 (lv_at hl 0 rfl) ?_
          obtain ⟨ho, h⟩ := h
          refine mc_V (As := [.int x1, .int (v6 / (128 : Int32)), .long v2]) (ci := 6) C.1 hM hS bigGood (c_Mod_moved h) rfl ho kw44 kw46 kw47 kw29 kw45 hd_Mod_moved ⟨by decide, by decide⟩ hl.1 rfl (Nat.le_of_ble_eq_true rfl) d_Mod_fewest_103 (mc := 0) (ms := 0) rfl rfl ⟨by decide, by decide⟩ (fun v M' H locs hp hM hS => ?_)
          obtain ⟨v7, rfl, rfl, h⟩ := hp
          refine lv_istore (lv' := [(11, .int v7), (9, .long v2), (0, .ref x0), (1, .int x1), (2, .int x2), (3, .int x3), (4, .int x4), (5, .int x5), (6, .int x6), (7, .int x7), (8, .int x8)]) C.1.1 C.1.2.1 d_Mod_fewest_106 hl (by decide) rfl (fun ls hl => ?_)
          refine lv_aload_n C.1.1 C.1.2.1 d_Mod_fewest_108 rfl (lv_at hl 2 rfl) ?_
          refine lv_iload_n C.1.1 C.1.2.1 d_Mod_fewest_109 rfl (lv_at hl 4 rfl) ?_
          refine lv_aload_n C.1.1 C.1.2.1 d_Mod_fewest_110 rfl (lv_at hl 2 rfl) ?_
          obtain ⟨v9, ev9, h⟩ := h
          refine mg_R C.1 hM ok_Mod (by decide) kw22 ev9 d_Mod_fewest_111 ?_
          refine lv_iload C.1.1 C.1.2.1 d_Mod_fewest_114 (lv_at hl 6 rfl) ?_
          obtain ⟨v10, ev10, h⟩ := h
          refine ma_I C.1 hM 2 rfl ev10 d_Mod_fewest_116 ?_
          refine lv_sipush (v := (128 : Int32)) C.1.1 C.1.2.1 d_Mod_fewest_117 (by decide) ?_
          refine lv_irem C.1.1 C.1.2.1 d_Mod_fewest_120 (by decide) ?_
          refine lv_lload C.1.1 C.1.2.1 d_Mod_fewest_121 (lv_at hl 1 rfl) ?_
          obtain ⟨ho, h⟩ := h
          refine mc_V (As := [.int x2, .int (v10 - v10 / (128 : Int32) * (128 : Int32)), .long v2]) (ci := 6) C.1 hM hS bigGood (c_Mod_moved h) rfl ho kw44 kw46 kw47 kw29 kw45 hd_Mod_moved ⟨by decide, by decide⟩ hl.1 rfl (Nat.le_of_ble_eq_true rfl) d_Mod_fewest_123 (mc := 0) (ms := 0) rfl rfl ⟨by decide, by decide⟩ (fun v M' H locs hp hM hS => ?_)
          obtain ⟨v11, rfl, rfl, h⟩ := hp
          refine lv_istore (lv' := [(12, .int v11), (11, .int v7), (9, .long v2), (0, .ref x0), (1, .int x1), (2, .int x2), (3, .int x3), (4, .int x4), (5, .int x5), (6, .int x6), (7, .int x7), (8, .int x8)]) C.1.1 C.1.2.1 d_Mod_fewest_126 hl (by decide) rfl (fun ls hl => ?_)
          refine lv_aload_n C.1.1 C.1.2.1 d_Mod_fewest_128 rfl (lv_at hl 3 rfl) ?_
          refine lv_iload_n C.1.1 C.1.2.1 d_Mod_fewest_129 rfl (lv_at hl 4 rfl) ?_
          refine lv_iload C.1.1 C.1.2.1 d_Mod_fewest_130 (lv_at hl 1 rfl) ?_
          obtain ⟨ho, h⟩ := h
          refine mc_V (As := [.int x1, .int v7]) (ci := 6) C.1 hM hS bigGood (c_Mod_isEnd h) rfl ho kw40 kw42 kw43 kw29 kw41 hd_Mod_isEnd ⟨by decide, by decide⟩ hl.1 rfl (Nat.le_of_ble_eq_true rfl) d_Mod_fewest_132 (mc := 0) (ms := 0) rfl rfl ⟨by decide, by decide⟩ (fun v M' H locs hp hM hS => ?_)
          obtain ⟨v13, rfl, rfl, h⟩ := hp
          refine lv_if_eq (tgt := 152) C.1.1 C.1.2.1 d_Mod_fewest_135 (by decide) (fun c15 => ?_) (fun c15 => ?_)
          · have h := h.1 c15
            exact t_Mod_fewest_b152 C h kJ40 kJ51 (fun y5 y8 N hJ => ih y5 y8 N hJ.1 (Nat.lt_of_lt_of_le hJ.2 (Nat.le_of_lt_succ hn))) _ _ _ hM hS (lv_sub hl [3, 4, 5, 6, 7, 8, 9, 10, 11, 1, 0] rfl)
          · have h := h.2 c15
            refine lv_aload_n C.1.1 C.1.2.1 d_Mod_fewest_138 rfl (lv_at hl 3 rfl) ?_
            refine lv_iload_n C.1.1 C.1.2.1 d_Mod_fewest_139 rfl (lv_at hl 5 rfl) ?_
            refine lv_iload C.1.1 C.1.2.1 d_Mod_fewest_140 (lv_at hl 0 rfl) ?_
            obtain ⟨ho, h⟩ := h
            refine mc_V (As := [.int x2, .int v11]) (ci := 6) C.1 hM hS bigGood (c_Mod_isEnd h) rfl ho kw40 kw42 kw43 kw29 kw41 hd_Mod_isEnd ⟨by decide, by decide⟩ hl.1 rfl (Nat.le_of_ble_eq_true rfl) d_Mod_fewest_142 (mc := 0) (ms := 0) rfl rfl ⟨by decide, by decide⟩ (fun v M' H locs hp hM hS => ?_)
            obtain ⟨v16, rfl, rfl, h⟩ := hp
            refine lv_iload_n C.1.1 C.1.2.1 d_Mod_fewest_145 rfl (lv_at hl 6 rfl) ?_
            refine lv_icmp_ne (tgt := 152) C.1.1 C.1.2.1 d_Mod_fewest_146 (by decide) (fun c18 => ?_) (fun c18 => ?_)
            · have h := h.2 c18
              exact t_Mod_fewest_b152 C h kJ40 kJ51 (fun y5 y8 N hJ => ih y5 y8 N hJ.1 (Nat.lt_of_lt_of_le hJ.2 (Nat.le_of_lt_succ hn))) _ _ _ hM hS (lv_sub hl [3, 4, 5, 6, 7, 8, 9, 10, 11, 1, 0] rfl)
            · have h := h.1 c18
              refine lv_iload C.1.1 C.1.2.1 d_Mod_fewest_149 (lv_at hl 9 rfl) ?_
              exact mr_I C.1 C.2.1 C.2.2 hM hS ⟨_, rfl, h⟩ d_Mod_fewest_151
        · have h := h.2 c4
          refine lv_goto (tgt := 218) C.1.1 C.1.2.1 d_Mod_fewest_85 (by decide) ?_
          exact t_Mod_fewest_b218 C h kJ40 kJ51 (fun y5 y8 N hJ => ih y5 y8 N hJ.1 (Nat.lt_of_lt_of_le hJ.2 (Nat.le_of_lt_succ hn))) _ _ _ hM hS (lv_sub hl [1, 2, 3, 4, 5, 6, 7, 8, 9] rfl)
  exact key _ x5 x8 M hI (Nat.lt_succ_self _)
def wp_Mod_fewest_b51 (g : Nat → ClassId) (P : Int32 → Mem → Prop) (J40 : Int32 → Int32 → Int32 → Mem → Prop) (M : Mem) (x0 : Nat) (x1 : Int32) (x2 : Int32) (x3 : Int32) (x4 : Int32) (x5 : Int32) (x6 : Int32) (x7 : Int32) : Prop :=
  ∃ (I : Int32 → Int32 → Mem → Prop) (μ : Int32 → Int32 → Mem → Nat), I x4 x5 M ∧ ∀ (x4 : Int32) (x5 : Int32) (M : Mem), I x4 x5 M →
  (x7 ≤ x4 → (J40 x4 x5 (x6 + (1 : Int32)) M)) ∧ (¬ x7 ≤ x4 → (wp_Mod_fewest_b61 g P J40 (fun y4 y5 N => I y4 y5 N ∧ μ y4 y5 N < μ x4 x5 M) M x0 x1 x2 x3 x4 x5 x6 x7 (0 : Int32)))
set_option maxHeartbeats 4000000 in
set_option maxRecDepth 100000 in
theorem t_Mod_fewest_b51 {l : Launch} {D : va_G} {g : Nat → ClassId} {p : Program} {e : Env} {s : State} {m : MethodId} {args : Array Value} {below : List Frame} {meth : Method} {c : Code} {M0 : Mem} {P : Int32 → Mem → Prop} {J40 : Int32 → Int32 → Int32 → Mem → Prop} {M : Mem} {x0 : Nat} {x1 : Int32} {x2 : Int32} {x3 : Int32} {x4 : Int32} {x5 : Int32} {x6 : Int32} {x7 : Int32} (C : C_Mod_fewest D g p s m args meth c M0) (h : wp_Mod_fewest_b51 g P J40 M x0 x1 x2 x3 x4 x5 x6 x7 ) (kJ40 : ∀ (x4 : Int32) (x5 : Int32) (x6 : Int32) (M : Mem), J40 x4 x5 x6 M → B_Mod_fewest l D p e s m args below meth c M0 P M 40 [(0, .ref x0), (1, .int x1), (2, .int x2), (3, .int x3), (4, .int x4), (5, .int x5), (6, .int x6)] []) : B_Mod_fewest l D p e s m args below meth c M0 P M 51 [(0, .ref x0), (1, .int x1), (2, .int x2), (3, .int x3), (4, .int x4), (5, .int x5), (6, .int x6), (7, .int x7)] [] := by
  unfold wp_Mod_fewest_b51 at h
  obtain ⟨I, μ, hI, hb⟩ := h
  have key : ∀ (n : Nat) (x4 : Int32) (x5 : Int32) (M : Mem), I x4 x5 M → μ x4 x5 M < n → B_Mod_fewest l D p e s m args below meth c M0 P M 51 [(0, .ref x0), (1, .int x1), (2, .int x2), (3, .int x3), (4, .int x4), (5, .int x5), (6, .int x6), (7, .int x7)] [] := by
    intro n
    induction n with
    | zero => intro x4 x5 M _ hn; exact absurd hn (Nat.not_lt_zero _)
    | succ n ih =>
      intro x4 x5 M hI hn ls H locs hM hS hl
      have h := hb x4 x5 M hI
      refine lv_iload C.1.1 C.1.2.1 d_Mod_fewest_51 (lv_at hl 4 rfl) ?_
      refine lv_iload C.1.1 C.1.2.1 d_Mod_fewest_53 (lv_at hl 7 rfl) ?_
      refine lv_icmp_ge (tgt := 230) C.1.1 C.1.2.1 d_Mod_fewest_55 (by decide) (fun c1 => ?_) (fun c1 => ?_)
      · have h := h.1 c1
        refine lv_iinc (v := x6 + (1 : Int32)) (lv' := [(6, .int (x6 + (1 : Int32))), (0, .ref x0), (1, .int x1), (2, .int x2), (3, .int x3), (4, .int x4), (5, .int x5), (7, .int x7)]) C.1.1 C.1.2.1 d_Mod_fewest_230 hl (k := 6) rfl rfl (by decide) rfl (fun ls hl => ?_)
        refine lv_goto (tgt := 40) C.1.1 C.1.2.1 d_Mod_fewest_233 (by decide) ?_
        exact kJ40 x4 x5 (x6 + (1 : Int32)) M h _ _ _ hM hS (lv_sub hl [1, 2, 3, 4, 5, 6, 0] rfl)
      · have h := h.2 c1
        refine lv_iconst (v := (0 : Int32)) C.1.1 C.1.2.1 d_Mod_fewest_58 (by decide) ?_
        refine lv_istore (lv' := [(8, .int (0 : Int32)), (0, .ref x0), (1, .int x1), (2, .int x2), (3, .int x3), (4, .int x4), (5, .int x5), (6, .int x6), (7, .int x7)]) C.1.1 C.1.2.1 d_Mod_fewest_59 hl (by decide) rfl (fun ls hl => ?_)
        exact t_Mod_fewest_b61 C h kJ40 (fun y4 y5 N hJ => ih y4 y5 N hJ.1 (Nat.lt_of_lt_of_le hJ.2 (Nat.le_of_lt_succ hn))) _ _ _ hM hS (lv_sub hl [1, 2, 3, 4, 5, 6, 7, 8, 0] rfl)
  exact key _ x4 x5 M hI (Nat.lt_succ_self _)
def wp_Mod_fewest_b40 (g : Nat → ClassId) (P : Int32 → Mem → Prop) (M : Mem) (x0 : Nat) (x1 : Int32) (x2 : Int32) (x3 : Int32) (x4 : Int32) (x5 : Int32) (x6 : Int32) : Prop :=
  ∃ (I : Int32 → Int32 → Int32 → Mem → Prop) (μ : Int32 → Int32 → Int32 → Mem → Nat), I x4 x5 x6 M ∧ ∀ (x4 : Int32) (x5 : Int32) (x6 : Int32) (M : Mem), I x4 x5 x6 M →
  (x5 ≤ x4 → (P (0 : Int32) M)) ∧ (¬ x5 ≤ x4 → (wp_Mod_fewest_b51 g P (fun y4 y5 y6 N => I y4 y5 y6 N ∧ μ y4 y5 y6 N < μ x4 x5 x6 M) M x0 x1 x2 x3 x4 x5 x6 x5))
set_option maxHeartbeats 4000000 in
set_option maxRecDepth 100000 in
theorem t_Mod_fewest_b40 {l : Launch} {D : va_G} {g : Nat → ClassId} {p : Program} {e : Env} {s : State} {m : MethodId} {args : Array Value} {below : List Frame} {meth : Method} {c : Code} {M0 : Mem} {P : Int32 → Mem → Prop} {M : Mem} {x0 : Nat} {x1 : Int32} {x2 : Int32} {x3 : Int32} {x4 : Int32} {x5 : Int32} {x6 : Int32} (C : C_Mod_fewest D g p s m args meth c M0) (h : wp_Mod_fewest_b40 g P M x0 x1 x2 x3 x4 x5 x6 ) : B_Mod_fewest l D p e s m args below meth c M0 P M 40 [(0, .ref x0), (1, .int x1), (2, .int x2), (3, .int x3), (4, .int x4), (5, .int x5), (6, .int x6)] [] := by
  unfold wp_Mod_fewest_b40 at h
  obtain ⟨I, μ, hI, hb⟩ := h
  have key : ∀ (n : Nat) (x4 : Int32) (x5 : Int32) (x6 : Int32) (M : Mem), I x4 x5 x6 M → μ x4 x5 x6 M < n → B_Mod_fewest l D p e s m args below meth c M0 P M 40 [(0, .ref x0), (1, .int x1), (2, .int x2), (3, .int x3), (4, .int x4), (5, .int x5), (6, .int x6)] [] := by
    intro n
    induction n with
    | zero => intro x4 x5 x6 M _ hn; exact absurd hn (Nat.not_lt_zero _)
    | succ n ih =>
      intro x4 x5 x6 M hI hn ls H locs hM hS hl
      have h := hb x4 x5 x6 M hI
      refine lv_iload C.1.1 C.1.2.1 d_Mod_fewest_40 (lv_at hl 4 rfl) ?_
      refine lv_iload C.1.1 C.1.2.1 d_Mod_fewest_42 (lv_at hl 5 rfl) ?_
      refine lv_icmp_ge (tgt := 236) C.1.1 C.1.2.1 d_Mod_fewest_44 (by decide) (fun c1 => ?_) (fun c1 => ?_)
      · have h := h.1 c1
        refine lv_iconst (v := (0 : Int32)) C.1.1 C.1.2.1 d_Mod_fewest_236 (by decide) ?_
        exact mr_I C.1 C.2.1 C.2.2 hM hS ⟨_, rfl, h⟩ d_Mod_fewest_237
      · have h := h.2 c1
        refine lv_iload C.1.1 C.1.2.1 d_Mod_fewest_47 (lv_at hl 5 rfl) ?_
        refine lv_istore (lv' := [(7, .int x5), (0, .ref x0), (1, .int x1), (2, .int x2), (3, .int x3), (4, .int x4), (5, .int x5), (6, .int x6)]) C.1.1 C.1.2.1 d_Mod_fewest_49 hl (by decide) rfl (fun ls hl => ?_)
        exact t_Mod_fewest_b51 C h (fun y4 y5 y6 N hJ => ih y4 y5 y6 N hJ.1 (Nat.lt_of_lt_of_le hJ.2 (Nat.le_of_lt_succ hn))) _ _ _ hM hS (lv_sub hl [1, 2, 3, 4, 5, 6, 7, 0] rfl)
  exact key _ x4 x5 x6 M hI (Nat.lt_succ_self _)
def wp_Mod_fewest (g : Nat → ClassId) (M : Mem) (x0 : Nat) (x1 : Int32) (x2 : Int32) (x3 : Int32) (P : Int32 → Mem → Prop) : Prop :=
  ∃ v1 : Int32, gI M 6 x0 21 = some v1 ∧ (∃ M2 : Mem, pV M 6 x0 21 (.int (v1 + (1 : Int32))) = some M2 ∧ (∃ v3 : Nat, gR M2 6 x0 22 = some v3 ∧ (isO M2 6 x0 ∧ (wp_Mod_first g M2 x0 x1 (fun v4 : Int32 => isO M2 6 x0 ∧ (wp_Mod_first g M2 x0 x2 (fun v6 : Int32 => ∃ M8 : Mem, sI M2 (g 2) v3 (0 : Int32) (((128 : Int32) * v4) + v6) = some M8 ∧ (wp_Mod_fewest_b40 g P M8 x0 x1 x2 x3 (0 : Int32) (1 : Int32) (1 : Int32)))))))))
set_option maxHeartbeats 4000000 in
set_option maxRecDepth 100000 in
theorem c_Mod_fewest {l : Launch} {D : va_G} {g : Nat → ClassId} {M : Mem} {x0 : Nat} {x1 : Int32} {x2 : Int32} {x3 : Int32} {P : Int32 → Mem → Prop} (h : wp_Mod_fewest g M x0 x1 x2 x3 P) : mMet l BIG D vwCl (tysG g) y_Mod_fewest b_Mod_fewest 13 (some .int) rm_Mod_fewest [.ref x0, .int x1, .int x2, .int x3] M (kI fun r M' => P r M') := by
  refine mMet.of (own := R_Mod) rfl (by decide) rfl (fun p e s m below meth c C hr hlk hnm ls hM hS hl => ?_)
  have C : C_Mod_fewest D g p s m ([.ref x0, .int x1, .int x2, .int x3] : List Value).toArray meth c M := ⟨C, hr, hlk⟩
  unfold wp_Mod_fewest at h
  have hl : lv_has ls 13 [(0, .ref x0), (1, .int x1), (2, .int x2), (3, .int x3)] := hl
  refine lv_aload_n C.1.1 C.1.2.1 d_Mod_fewest_0 rfl (lv_at hl 0 rfl) ?_
  refine lv_dup C.1.1 C.1.2.1 d_Mod_fewest_1 rfl ?_
  obtain ⟨v1, ev1, h⟩ := h
  refine mg_I C.1 hM ok_Mod (by decide) kw139 ev1 d_Mod_fewest_2 ?_
  refine lv_iconst (v := (1 : Int32)) C.1.1 C.1.2.1 d_Mod_fewest_5 (by decide) ?_
  refine lv_iadd C.1.1 C.1.2.1 d_Mod_fewest_6 ?_
  obtain ⟨M2, eM2, h⟩ := h
  refine mp_V C.1 hM hS ok_Mod (by decide) kw139 rfl rfl rfl eM2 d_Mod_fewest_7 (fun H locs hM hS => ?_)
  refine lv_iconst (v := (0 : Int32)) C.1.1 C.1.2.1 d_Mod_fewest_10 (by decide) ?_
  refine lv_istore (lv' := [(4, .int (0 : Int32)), (0, .ref x0), (1, .int x1), (2, .int x2), (3, .int x3)]) C.1.1 C.1.2.1 d_Mod_fewest_11 hl (by decide) rfl (fun ls hl => ?_)
  refine lv_iconst (v := (1 : Int32)) C.1.1 C.1.2.1 d_Mod_fewest_13 (by decide) ?_
  refine lv_istore (lv' := [(5, .int (1 : Int32)), (4, .int (0 : Int32)), (0, .ref x0), (1, .int x1), (2, .int x2), (3, .int x3)]) C.1.1 C.1.2.1 d_Mod_fewest_14 hl (by decide) rfl (fun ls hl => ?_)
  refine lv_aload_n C.1.1 C.1.2.1 d_Mod_fewest_16 rfl (lv_at hl 2 rfl) ?_
  obtain ⟨v3, ev3, h⟩ := h
  refine mg_R C.1 hM ok_Mod (by decide) kw22 ev3 d_Mod_fewest_17 ?_
  refine lv_iconst (v := (0 : Int32)) C.1.1 C.1.2.1 d_Mod_fewest_20 (by decide) ?_
  refine lv_sipush (v := (128 : Int32)) C.1.1 C.1.2.1 d_Mod_fewest_21 (by decide) ?_
  refine lv_aload_n C.1.1 C.1.2.1 d_Mod_fewest_24 rfl (lv_at hl 2 rfl) ?_
  refine lv_iload_n C.1.1 C.1.2.1 d_Mod_fewest_25 rfl (lv_at hl 3 rfl) ?_
  obtain ⟨ho, h⟩ := h
  refine mc_V (As := [.int x1]) (ci := 6) C.1 hM hS bigGood (c_Mod_first h) rfl ho kw48 kw50 kw51 kw29 kw49 hd_Mod_first ⟨by decide, by decide⟩ hl.1 rfl (Nat.le_of_ble_eq_true rfl) d_Mod_fewest_26 (mc := 0) (ms := 0) rfl rfl ⟨by decide, by decide⟩ (fun v M' H locs hp hM hS => ?_)
  obtain ⟨v4, rfl, rfl, h⟩ := hp
  refine lv_imul C.1.1 C.1.2.1 d_Mod_fewest_29 ?_
  refine lv_aload_n C.1.1 C.1.2.1 d_Mod_fewest_30 rfl (lv_at hl 2 rfl) ?_
  refine lv_iload_n C.1.1 C.1.2.1 d_Mod_fewest_31 rfl (lv_at hl 4 rfl) ?_
  obtain ⟨ho, h⟩ := h
  refine mc_V (As := [.int x2]) (ci := 6) C.1 hM hS bigGood (c_Mod_first h) rfl ho kw48 kw50 kw51 kw29 kw49 hd_Mod_first ⟨by decide, by decide⟩ hl.1 rfl (Nat.le_of_ble_eq_true rfl) d_Mod_fewest_32 (mc := 0) (ms := 0) rfl rfl ⟨by decide, by decide⟩ (fun v M' H locs hp hM hS => ?_)
  obtain ⟨v6, rfl, rfl, h⟩ := hp
  refine lv_iadd C.1.1 C.1.2.1 d_Mod_fewest_35 ?_
  obtain ⟨M8, eM8, h⟩ := h
  refine ms_I C.1 hM hS 2 rfl eM8 d_Mod_fewest_36 (fun H locs hM hS => ?_)
  refine lv_iconst (v := (1 : Int32)) C.1.1 C.1.2.1 d_Mod_fewest_37 (by decide) ?_
  refine lv_istore (lv' := [(6, .int (1 : Int32)), (5, .int (1 : Int32)), (4, .int (0 : Int32)), (0, .ref x0), (1, .int x1), (2, .int x2), (3, .int x3)]) C.1.1 C.1.2.1 d_Mod_fewest_38 hl (by decide) rfl (fun ls hl => ?_)
  exact t_Mod_fewest_b40 C h _ _ _ hM hS (lv_sub hl [3, 4, 5, 6, 2, 1, 0] rfl)
theorem d_Mod_both_0 : decode b_Mod_both 0 = .ok (.aload_n 0, 1) := by decide +kernel
theorem d_Mod_both_1 : decode b_Mod_both 1 = .ok (.iconst 0, 1) := by decide +kernel
theorem d_Mod_both_2 : decode b_Mod_both 2 = .ok (.putfield 63, 3) := by decide +kernel
theorem d_Mod_both_5 : decode b_Mod_both 5 = .ok (.aload_n 0, 1) := by decide +kernel
theorem d_Mod_both_6 : decode b_Mod_both 6 = .ok (.iload_n 1, 1) := by decide +kernel
theorem d_Mod_both_7 : decode b_Mod_both 7 = .ok (.invokevirtual 115, 3) := by decide +kernel
theorem d_Mod_both_10 : decode b_Mod_both 10 = .ok (.ifCond .eq 21, 3) := by decide +kernel
theorem d_Mod_both_13 : decode b_Mod_both 13 = .ok (.aload_n 0, 1) := by decide +kernel
theorem d_Mod_both_14 : decode b_Mod_both 14 = .ok (.iload_n 2, 1) := by decide +kernel
theorem d_Mod_both_15 : decode b_Mod_both 15 = .ok (.invokevirtual 115, 3) := by decide +kernel
theorem d_Mod_both_18 : decode b_Mod_both 18 = .ok (.ifCond .eq 13, 3) := by decide +kernel
theorem d_Mod_both_21 : decode b_Mod_both 21 = .ok (.aload_n 0, 1) := by decide +kernel
theorem d_Mod_both_22 : decode b_Mod_both 22 = .ok (.iload_n 1, 1) := by decide +kernel
theorem d_Mod_both_23 : decode b_Mod_both 23 = .ok (.iload_n 2, 1) := by decide +kernel
theorem d_Mod_both_24 : decode b_Mod_both 24 = .ok (.iconst 1, 1) := by decide +kernel
theorem d_Mod_both_25 : decode b_Mod_both 25 = .ok (.invokevirtual 142, 3) := by decide +kernel
theorem d_Mod_both_28 : decode b_Mod_both 28 = .ok (.goto 4, 3) := by decide +kernel
theorem d_Mod_both_31 : decode b_Mod_both 31 = .ok (.iconst (-1), 1) := by decide +kernel
theorem d_Mod_both_32 : decode b_Mod_both 32 = .ok (.ireturn, 1) := by decide +kernel
abbrev rm_Mod_both : Room := { frames := 4, cells := 0, slots := 0, locals := 110 }
abbrev C_Mod_both (D : va_G) (g : Nat → ClassId) (p : Program) (s : State) (m : MethodId) (args : Array Value) (meth : Method) (c : Code) (M0 : Mem) : Prop := Cx p s m args c b_Mod_both 3 R_Mod BIG D vwCl (tysG g) (mA M0 s.heap.size) ∧ meth.sig.returnType = (some .int) ∧ meth.locks = false
abbrev B_Mod_both (l : Launch) (D : va_G) (p : Program) (e : Env) (s : State) (m : MethodId) (args : Array Value) (below : List Frame) (meth : Method) (c : Code) (M0 : Mem) (P : Int32 → Mem → Prop) (M : Mem) (pc : Nat) (lv : List (Nat × Value)) (st : List Value) : Prop := Wb p l e rm_Mod_both s m args below meth c 3 D vwCl M0 (kI fun r M' => P r M') 0 0 M pc lv st
def wp_Mod_both_b32 (g : Nat → ClassId) (P : Int32 → Mem → Prop) (M : Mem) (t0 : Int32) : Prop :=
  P t0 M
set_option maxHeartbeats 4000000 in
set_option maxRecDepth 100000 in
theorem t_Mod_both_b32 {l : Launch} {D : va_G} {g : Nat → ClassId} {p : Program} {e : Env} {s : State} {m : MethodId} {args : Array Value} {below : List Frame} {meth : Method} {c : Code} {M0 : Mem} {P : Int32 → Mem → Prop} {M : Mem} {t0 : Int32} (C : C_Mod_both D g p s m args meth c M0) (h : wp_Mod_both_b32 g P M t0) : B_Mod_both l D p e s m args below meth c M0 P M 32 [] [.int t0] := by
  intro ls H locs hM hS hl
  unfold wp_Mod_both_b32 at h
  exact mr_I C.1 C.2.1 C.2.2 hM hS ⟨_, rfl, h⟩ d_Mod_both_32
def wp_Mod_both_b31 (g : Nat → ClassId) (P : Int32 → Mem → Prop) (M : Mem) : Prop :=
  wp_Mod_both_b32 g P M (-1 : Int32)
set_option maxHeartbeats 4000000 in
set_option maxRecDepth 100000 in
theorem t_Mod_both_b31 {l : Launch} {D : va_G} {g : Nat → ClassId} {p : Program} {e : Env} {s : State} {m : MethodId} {args : Array Value} {below : List Frame} {meth : Method} {c : Code} {M0 : Mem} {P : Int32 → Mem → Prop} {M : Mem} (C : C_Mod_both D g p s m args meth c M0) (h : wp_Mod_both_b31 g P M ) : B_Mod_both l D p e s m args below meth c M0 P M 31 [] [] := by
  intro ls H locs hM hS hl
  unfold wp_Mod_both_b31 at h
  refine lv_iconst (v := (-1 : Int32)) C.1.1 C.1.2.1 d_Mod_both_31 (by decide) ?_
  exact t_Mod_both_b32 C h _ _ _ hM hS (lv_sub hl [] rfl)
def wp_Mod_both (g : Nat → ClassId) (M : Mem) (x0 : Nat) (x1 : Int32) (x2 : Int32) (P : Int32 → Mem → Prop) : Prop :=
  ∃ M1 : Mem, pV M 6 x0 0 (.int (0 : Int32)) = some M1 ∧ (isO M1 6 x0 ∧ (wp_Mod_isBound g M1 x0 x1 (fun v2 : Int32 => (v2 = 0 → (wp_Mod_both_b31 g P M1)) ∧ (¬ v2 = 0 → (isO M1 6 x0 ∧ (wp_Mod_isBound g M1 x0 x2 (fun v5 : Int32 => (v5 = 0 → (wp_Mod_both_b31 g P M1)) ∧ (¬ v5 = 0 → (isO M1 6 x0 ∧ (wp_Mod_fewest g M1 x0 x1 x2 (1 : Int32) (fun (v8 : Int32) (M9 : Mem) => wp_Mod_both_b32 g P M9 v8)))))))))))
set_option maxHeartbeats 4000000 in
set_option maxRecDepth 100000 in
theorem c_Mod_both {l : Launch} {D : va_G} {g : Nat → ClassId} {M : Mem} {x0 : Nat} {x1 : Int32} {x2 : Int32} {P : Int32 → Mem → Prop} (h : wp_Mod_both g M x0 x1 x2 P) : mMet l BIG D vwCl (tysG g) y_Mod_both b_Mod_both 3 (some .int) rm_Mod_both [.ref x0, .int x1, .int x2] M (kI fun r M' => P r M') := by
  refine mMet.of (own := R_Mod) rfl (by decide) rfl (fun p e s m below meth c C hr hlk hnm ls hM hS hl => ?_)
  have C : C_Mod_both D g p s m ([.ref x0, .int x1, .int x2] : List Value).toArray meth c M := ⟨C, hr, hlk⟩
  unfold wp_Mod_both at h
  have hl : lv_has ls 3 [(0, .ref x0), (1, .int x1), (2, .int x2)] := hl
  refine lv_aload_n C.1.1 C.1.2.1 d_Mod_both_0 rfl (lv_at hl 0 rfl) ?_
  refine lv_iconst (v := (0 : Int32)) C.1.1 C.1.2.1 d_Mod_both_1 (by decide) ?_
  obtain ⟨M1, eM1, h⟩ := h
  refine mp_V C.1 hM hS ok_Mod (by decide) kw23 rfl rfl rfl eM1 d_Mod_both_2 (fun H locs hM hS => ?_)
  refine lv_aload_n C.1.1 C.1.2.1 d_Mod_both_5 rfl (lv_at hl 0 rfl) ?_
  refine lv_iload_n C.1.1 C.1.2.1 d_Mod_both_6 rfl (lv_at hl 1 rfl) ?_
  obtain ⟨ho, h⟩ := h
  refine mc_V (As := [.int x1]) (ci := 6) C.1 hM hS bigGood (c_Mod_isBound h) rfl ho kw63 kw65 kw66 kw29 kw64 hd_Mod_isBound ⟨by decide, by decide⟩ hl.1 rfl (Nat.le_of_ble_eq_true rfl) d_Mod_both_7 (mc := 0) (ms := 0) rfl rfl ⟨by decide, by decide⟩ (fun v M' H locs hp hM hS => ?_)
  obtain ⟨v2, rfl, rfl, h⟩ := hp
  refine lv_if_eq (tgt := 31) C.1.1 C.1.2.1 d_Mod_both_10 (by decide) (fun c4 => ?_) (fun c4 => ?_)
  · have h := h.1 c4
    exact t_Mod_both_b31 C h _ _ _ hM hS (lv_sub hl [] rfl)
  · have h := h.2 c4
    refine lv_aload_n C.1.1 C.1.2.1 d_Mod_both_13 rfl (lv_at hl 0 rfl) ?_
    refine lv_iload_n C.1.1 C.1.2.1 d_Mod_both_14 rfl (lv_at hl 2 rfl) ?_
    obtain ⟨ho, h⟩ := h
    refine mc_V (As := [.int x2]) (ci := 6) C.1 hM hS bigGood (c_Mod_isBound h) rfl ho kw63 kw65 kw66 kw29 kw64 hd_Mod_isBound ⟨by decide, by decide⟩ hl.1 rfl (Nat.le_of_ble_eq_true rfl) d_Mod_both_15 (mc := 0) (ms := 0) rfl rfl ⟨by decide, by decide⟩ (fun v M' H locs hp hM hS => ?_)
    obtain ⟨v5, rfl, rfl, h⟩ := hp
    refine lv_if_eq (tgt := 31) C.1.1 C.1.2.1 d_Mod_both_18 (by decide) (fun c7 => ?_) (fun c7 => ?_)
    · have h := h.1 c7
      exact t_Mod_both_b31 C h _ _ _ hM hS (lv_sub hl [] rfl)
    · have h := h.2 c7
      refine lv_aload_n C.1.1 C.1.2.1 d_Mod_both_21 rfl (lv_at hl 0 rfl) ?_
      refine lv_iload_n C.1.1 C.1.2.1 d_Mod_both_22 rfl (lv_at hl 1 rfl) ?_
      refine lv_iload_n C.1.1 C.1.2.1 d_Mod_both_23 rfl (lv_at hl 2 rfl) ?_
      refine lv_iconst (v := (1 : Int32)) C.1.1 C.1.2.1 d_Mod_both_24 (by decide) ?_
      obtain ⟨ho, h⟩ := h
      refine mc_V (As := [.int x1, .int x2, .int (1 : Int32)]) (ci := 6) C.1 hM hS bigGood (c_Mod_fewest h) rfl ho kw144 kw146 kw147 kw29 kw145 hd_Mod_fewest ⟨by decide, by decide⟩ hl.1 rfl (Nat.le_of_ble_eq_true rfl) d_Mod_both_25 (mc := 0) (ms := 0) rfl rfl ⟨by decide, by decide⟩ (fun v M9 H locs hp hM hS => ?_)
      obtain ⟨v8, rfl, h⟩ := hp
      refine lv_goto (tgt := 32) C.1.1 C.1.2.1 d_Mod_both_28 (by decide) ?_
      exact t_Mod_both_b32 C h _ _ _ hM hS (lv_sub hl [] rfl)
theorem d_Mod_only_0 : decode b_Mod_only 0 = .ok (.aload_n 0, 1) := by decide +kernel
theorem d_Mod_only_1 : decode b_Mod_only 1 = .ok (.iconst 0, 1) := by decide +kernel
theorem d_Mod_only_2 : decode b_Mod_only 2 = .ok (.putfield 63, 3) := by decide +kernel
theorem d_Mod_only_5 : decode b_Mod_only 5 = .ok (.aload_n 0, 1) := by decide +kernel
theorem d_Mod_only_6 : decode b_Mod_only 6 = .ok (.iload_n 1, 1) := by decide +kernel
theorem d_Mod_only_7 : decode b_Mod_only 7 = .ok (.invokevirtual 115, 3) := by decide +kernel
theorem d_Mod_only_10 : decode b_Mod_only 10 = .ok (.ifCond .eq 21, 3) := by decide +kernel
theorem d_Mod_only_13 : decode b_Mod_only 13 = .ok (.aload_n 0, 1) := by decide +kernel
theorem d_Mod_only_14 : decode b_Mod_only 14 = .ok (.iload_n 2, 1) := by decide +kernel
theorem d_Mod_only_15 : decode b_Mod_only 15 = .ok (.invokevirtual 115, 3) := by decide +kernel
theorem d_Mod_only_18 : decode b_Mod_only 18 = .ok (.ifCond .eq 13, 3) := by decide +kernel
theorem d_Mod_only_21 : decode b_Mod_only 21 = .ok (.aload_n 0, 1) := by decide +kernel
theorem d_Mod_only_22 : decode b_Mod_only 22 = .ok (.iload_n 1, 1) := by decide +kernel
theorem d_Mod_only_23 : decode b_Mod_only 23 = .ok (.iload_n 2, 1) := by decide +kernel
theorem d_Mod_only_24 : decode b_Mod_only 24 = .ok (.iconst 0, 1) := by decide +kernel
theorem d_Mod_only_25 : decode b_Mod_only 25 = .ok (.invokevirtual 142, 3) := by decide +kernel
theorem d_Mod_only_28 : decode b_Mod_only 28 = .ok (.goto 4, 3) := by decide +kernel
theorem d_Mod_only_31 : decode b_Mod_only 31 = .ok (.iconst (-1), 1) := by decide +kernel
theorem d_Mod_only_32 : decode b_Mod_only 32 = .ok (.ireturn, 1) := by decide +kernel
abbrev rm_Mod_only : Room := { frames := 4, cells := 0, slots := 0, locals := 110 }
abbrev C_Mod_only (D : va_G) (g : Nat → ClassId) (p : Program) (s : State) (m : MethodId) (args : Array Value) (meth : Method) (c : Code) (M0 : Mem) : Prop := Cx p s m args c b_Mod_only 3 R_Mod BIG D vwCl (tysG g) (mA M0 s.heap.size) ∧ meth.sig.returnType = (some .int) ∧ meth.locks = false
abbrev B_Mod_only (l : Launch) (D : va_G) (p : Program) (e : Env) (s : State) (m : MethodId) (args : Array Value) (below : List Frame) (meth : Method) (c : Code) (M0 : Mem) (P : Int32 → Mem → Prop) (M : Mem) (pc : Nat) (lv : List (Nat × Value)) (st : List Value) : Prop := Wb p l e rm_Mod_only s m args below meth c 3 D vwCl M0 (kI fun r M' => P r M') 0 0 M pc lv st
def wp_Mod_only_b32 (g : Nat → ClassId) (P : Int32 → Mem → Prop) (M : Mem) (t0 : Int32) : Prop :=
  P t0 M
set_option maxHeartbeats 4000000 in
set_option maxRecDepth 100000 in
theorem t_Mod_only_b32 {l : Launch} {D : va_G} {g : Nat → ClassId} {p : Program} {e : Env} {s : State} {m : MethodId} {args : Array Value} {below : List Frame} {meth : Method} {c : Code} {M0 : Mem} {P : Int32 → Mem → Prop} {M : Mem} {t0 : Int32} (C : C_Mod_only D g p s m args meth c M0) (h : wp_Mod_only_b32 g P M t0) : B_Mod_only l D p e s m args below meth c M0 P M 32 [] [.int t0] := by
  intro ls H locs hM hS hl
  unfold wp_Mod_only_b32 at h
  exact mr_I C.1 C.2.1 C.2.2 hM hS ⟨_, rfl, h⟩ d_Mod_only_32
def wp_Mod_only_b31 (g : Nat → ClassId) (P : Int32 → Mem → Prop) (M : Mem) : Prop :=
  wp_Mod_only_b32 g P M (-1 : Int32)
set_option maxHeartbeats 4000000 in
set_option maxRecDepth 100000 in
theorem t_Mod_only_b31 {l : Launch} {D : va_G} {g : Nat → ClassId} {p : Program} {e : Env} {s : State} {m : MethodId} {args : Array Value} {below : List Frame} {meth : Method} {c : Code} {M0 : Mem} {P : Int32 → Mem → Prop} {M : Mem} (C : C_Mod_only D g p s m args meth c M0) (h : wp_Mod_only_b31 g P M ) : B_Mod_only l D p e s m args below meth c M0 P M 31 [] [] := by
  intro ls H locs hM hS hl
  unfold wp_Mod_only_b31 at h
  refine lv_iconst (v := (-1 : Int32)) C.1.1 C.1.2.1 d_Mod_only_31 (by decide) ?_
  exact t_Mod_only_b32 C h _ _ _ hM hS (lv_sub hl [] rfl)
def wp_Mod_only (g : Nat → ClassId) (M : Mem) (x0 : Nat) (x1 : Int32) (x2 : Int32) (P : Int32 → Mem → Prop) : Prop :=
  ∃ M1 : Mem, pV M 6 x0 0 (.int (0 : Int32)) = some M1 ∧ (isO M1 6 x0 ∧ (wp_Mod_isBound g M1 x0 x1 (fun v2 : Int32 => (v2 = 0 → (wp_Mod_only_b31 g P M1)) ∧ (¬ v2 = 0 → (isO M1 6 x0 ∧ (wp_Mod_isBound g M1 x0 x2 (fun v5 : Int32 => (v5 = 0 → (wp_Mod_only_b31 g P M1)) ∧ (¬ v5 = 0 → (isO M1 6 x0 ∧ (wp_Mod_fewest g M1 x0 x1 x2 (0 : Int32) (fun (v8 : Int32) (M9 : Mem) => wp_Mod_only_b32 g P M9 v8)))))))))))
set_option maxHeartbeats 4000000 in
set_option maxRecDepth 100000 in
theorem c_Mod_only {l : Launch} {D : va_G} {g : Nat → ClassId} {M : Mem} {x0 : Nat} {x1 : Int32} {x2 : Int32} {P : Int32 → Mem → Prop} (h : wp_Mod_only g M x0 x1 x2 P) : mMet l BIG D vwCl (tysG g) y_Mod_only b_Mod_only 3 (some .int) rm_Mod_only [.ref x0, .int x1, .int x2] M (kI fun r M' => P r M') := by
  refine mMet.of (own := R_Mod) rfl (by decide) rfl (fun p e s m below meth c C hr hlk hnm ls hM hS hl => ?_)
  have C : C_Mod_only D g p s m ([.ref x0, .int x1, .int x2] : List Value).toArray meth c M := ⟨C, hr, hlk⟩
  unfold wp_Mod_only at h
  have hl : lv_has ls 3 [(0, .ref x0), (1, .int x1), (2, .int x2)] := hl
  refine lv_aload_n C.1.1 C.1.2.1 d_Mod_only_0 rfl (lv_at hl 0 rfl) ?_
  refine lv_iconst (v := (0 : Int32)) C.1.1 C.1.2.1 d_Mod_only_1 (by decide) ?_
  obtain ⟨M1, eM1, h⟩ := h
  refine mp_V C.1 hM hS ok_Mod (by decide) kw23 rfl rfl rfl eM1 d_Mod_only_2 (fun H locs hM hS => ?_)
  refine lv_aload_n C.1.1 C.1.2.1 d_Mod_only_5 rfl (lv_at hl 0 rfl) ?_
  refine lv_iload_n C.1.1 C.1.2.1 d_Mod_only_6 rfl (lv_at hl 1 rfl) ?_
  obtain ⟨ho, h⟩ := h
  refine mc_V (As := [.int x1]) (ci := 6) C.1 hM hS bigGood (c_Mod_isBound h) rfl ho kw63 kw65 kw66 kw29 kw64 hd_Mod_isBound ⟨by decide, by decide⟩ hl.1 rfl (Nat.le_of_ble_eq_true rfl) d_Mod_only_7 (mc := 0) (ms := 0) rfl rfl ⟨by decide, by decide⟩ (fun v M' H locs hp hM hS => ?_)
  obtain ⟨v2, rfl, rfl, h⟩ := hp
  refine lv_if_eq (tgt := 31) C.1.1 C.1.2.1 d_Mod_only_10 (by decide) (fun c4 => ?_) (fun c4 => ?_)
  · have h := h.1 c4
    exact t_Mod_only_b31 C h _ _ _ hM hS (lv_sub hl [] rfl)
  · have h := h.2 c4
    refine lv_aload_n C.1.1 C.1.2.1 d_Mod_only_13 rfl (lv_at hl 0 rfl) ?_
    refine lv_iload_n C.1.1 C.1.2.1 d_Mod_only_14 rfl (lv_at hl 2 rfl) ?_
    obtain ⟨ho, h⟩ := h
    refine mc_V (As := [.int x2]) (ci := 6) C.1 hM hS bigGood (c_Mod_isBound h) rfl ho kw63 kw65 kw66 kw29 kw64 hd_Mod_isBound ⟨by decide, by decide⟩ hl.1 rfl (Nat.le_of_ble_eq_true rfl) d_Mod_only_15 (mc := 0) (ms := 0) rfl rfl ⟨by decide, by decide⟩ (fun v M' H locs hp hM hS => ?_)
    obtain ⟨v5, rfl, rfl, h⟩ := hp
    refine lv_if_eq (tgt := 31) C.1.1 C.1.2.1 d_Mod_only_18 (by decide) (fun c7 => ?_) (fun c7 => ?_)
    · have h := h.1 c7
      exact t_Mod_only_b31 C h _ _ _ hM hS (lv_sub hl [] rfl)
    · have h := h.2 c7
      refine lv_aload_n C.1.1 C.1.2.1 d_Mod_only_21 rfl (lv_at hl 0 rfl) ?_
      refine lv_iload_n C.1.1 C.1.2.1 d_Mod_only_22 rfl (lv_at hl 1 rfl) ?_
      refine lv_iload_n C.1.1 C.1.2.1 d_Mod_only_23 rfl (lv_at hl 2 rfl) ?_
      refine lv_iconst (v := (0 : Int32)) C.1.1 C.1.2.1 d_Mod_only_24 (by decide) ?_
      obtain ⟨ho, h⟩ := h
      refine mc_V (As := [.int x1, .int x2, .int (0 : Int32)]) (ci := 6) C.1 hM hS bigGood (c_Mod_fewest h) rfl ho kw144 kw146 kw147 kw29 kw145 hd_Mod_fewest ⟨by decide, by decide⟩ hl.1 rfl (Nat.le_of_ble_eq_true rfl) d_Mod_only_25 (mc := 0) (ms := 0) rfl rfl ⟨by decide, by decide⟩ (fun v M9 H locs hp hM hS => ?_)
      obtain ⟨v8, rfl, h⟩ := hp
      refine lv_goto (tgt := 32) C.1.1 C.1.2.1 d_Mod_only_28 (by decide) ?_
      exact t_Mod_only_b32 C h _ _ _ hM hS (lv_sub hl [] rfl)
