theorem d_Rs_fewestWords_0 : decode b_Rs_fewestWords 0 = .ok (.aload_n 0, 1) := by decide +kernel
theorem d_Rs_fewestWords_1 : decode b_Rs_fewestWords 1 = .ok (.aload_n 1, 1) := by decide +kernel
theorem d_Rs_fewestWords_2 : decode b_Rs_fewestWords 2 = .ok (.aload_n 2, 1) := by decide +kernel
theorem d_Rs_fewestWords_3 : decode b_Rs_fewestWords 3 = .ok (.invokevirtual 29, 3) := by decide +kernel
theorem d_Rs_fewestWords_6 : decode b_Rs_fewestWords 6 = .ok (.aload_n 0, 1) := by decide +kernel
theorem d_Rs_fewestWords_7 : decode b_Rs_fewestWords 7 = .ok (.iconst 0, 1) := by decide +kernel
theorem d_Rs_fewestWords_8 : decode b_Rs_fewestWords 8 = .ok (.putfield 22, 3) := by decide +kernel
theorem d_Rs_fewestWords_11 : decode b_Rs_fewestWords 11 = .ok (.aload_n 0, 1) := by decide +kernel
theorem d_Rs_fewestWords_12 : decode b_Rs_fewestWords 12 = .ok (.getfield 15, 3) := by decide +kernel
theorem d_Rs_fewestWords_15 : decode b_Rs_fewestWords 15 = .ok (.lconst 0, 1) := by decide +kernel
theorem d_Rs_fewestWords_16 : decode b_Rs_fewestWords 16 = .ok (.invokestatic 33, 3) := by decide +kernel
theorem d_Rs_fewestWords_19 : decode b_Rs_fewestWords 19 = .ok (.aload_n 0, 1) := by decide +kernel
theorem d_Rs_fewestWords_20 : decode b_Rs_fewestWords 20 = .ok (.aload_n 1, 1) := by decide +kernel
theorem d_Rs_fewestWords_21 : decode b_Rs_fewestWords 21 = .ok (.invokevirtual 39, 3) := by decide +kernel
theorem d_Rs_fewestWords_24 : decode b_Rs_fewestWords 24 = .ok (.aload_n 2, 1) := by decide +kernel
theorem d_Rs_fewestWords_25 : decode b_Rs_fewestWords 25 = .ok (.invokevirtual 39, 3) := by decide +kernel
theorem d_Rs_fewestWords_28 : decode b_Rs_fewestWords 28 = .ok (.iconst 0, 1) := by decide +kernel
theorem d_Rs_fewestWords_29 : decode b_Rs_fewestWords 29 = .ok (.invokevirtual 45, 3) := by decide +kernel
theorem d_Rs_fewestWords_32 : decode b_Rs_fewestWords 32 = .ok (.iconst 0, 1) := by decide +kernel
theorem d_Rs_fewestWords_33 : decode b_Rs_fewestWords 33 = .ok (.istore 4, 2) := by decide +kernel
theorem d_Rs_fewestWords_35 : decode b_Rs_fewestWords 35 = .ok (.iload 4, 2) := by decide +kernel
theorem d_Rs_fewestWords_37 : decode b_Rs_fewestWords 37 = .ok (.aload_n 0, 1) := by decide +kernel
theorem d_Rs_fewestWords_38 : decode b_Rs_fewestWords 38 = .ok (.getfield 22, 3) := by decide +kernel
theorem d_Rs_fewestWords_41 : decode b_Rs_fewestWords 41 = .ok (.if_icmp .ge 134, 3) := by decide +kernel
theorem d_Rs_fewestWords_44 : decode b_Rs_fewestWords 44 = .ok (.iload 4, 2) := by decide +kernel
theorem d_Rs_fewestWords_46 : decode b_Rs_fewestWords 46 = .ok (.aload_n 0, 1) := by decide +kernel
theorem d_Rs_fewestWords_47 : decode b_Rs_fewestWords 47 = .ok (.getfield 11, 3) := by decide +kernel
theorem d_Rs_fewestWords_50 : decode b_Rs_fewestWords 50 = .ok (.arraylength, 1) := by decide +kernel
theorem d_Rs_fewestWords_51 : decode b_Rs_fewestWords 51 = .ok (.if_icmp .ge 124, 3) := by decide +kernel
theorem d_Rs_fewestWords_54 : decode b_Rs_fewestWords 54 = .ok (.aload_n 0, 1) := by decide +kernel
theorem d_Rs_fewestWords_55 : decode b_Rs_fewestWords 55 = .ok (.getfield 11, 3) := by decide +kernel
theorem d_Rs_fewestWords_58 : decode b_Rs_fewestWords 58 = .ok (.iload 4, 2) := by decide +kernel
theorem d_Rs_fewestWords_60 : decode b_Rs_fewestWords 60 = .ok (.iaload, 1) := by decide +kernel
theorem d_Rs_fewestWords_61 : decode b_Rs_fewestWords 61 = .ok (.sipush 1023, 3) := by decide +kernel
theorem d_Rs_fewestWords_64 : decode b_Rs_fewestWords 64 = .ok (.iand, 1) := by decide +kernel
theorem d_Rs_fewestWords_65 : decode b_Rs_fewestWords 65 = .ok (.istore 5, 2) := by decide +kernel
theorem d_Rs_fewestWords_67 : decode b_Rs_fewestWords 67 = .ok (.aload_n 0, 1) := by decide +kernel
theorem d_Rs_fewestWords_68 : decode b_Rs_fewestWords 68 = .ok (.getfield 11, 3) := by decide +kernel
theorem d_Rs_fewestWords_71 : decode b_Rs_fewestWords 71 = .ok (.iload 4, 2) := by decide +kernel
theorem d_Rs_fewestWords_73 : decode b_Rs_fewestWords 73 = .ok (.iaload, 1) := by decide +kernel
theorem d_Rs_fewestWords_74 : decode b_Rs_fewestWords 74 = .ok (.bipush 10, 2) := by decide +kernel
theorem d_Rs_fewestWords_76 : decode b_Rs_fewestWords 76 = .ok (.ishr, 1) := by decide +kernel
theorem d_Rs_fewestWords_77 : decode b_Rs_fewestWords 77 = .ok (.iconst 1, 1) := by decide +kernel
theorem d_Rs_fewestWords_78 : decode b_Rs_fewestWords 78 = .ok (.iadd, 1) := by decide +kernel
theorem d_Rs_fewestWords_79 : decode b_Rs_fewestWords 79 = .ok (.istore 6, 2) := by decide +kernel
theorem d_Rs_fewestWords_81 : decode b_Rs_fewestWords 81 = .ok (.iconst 0, 1) := by decide +kernel
theorem d_Rs_fewestWords_82 : decode b_Rs_fewestWords 82 = .ok (.istore 7, 2) := by decide +kernel
theorem d_Rs_fewestWords_84 : decode b_Rs_fewestWords 84 = .ok (.iload 7, 2) := by decide +kernel
theorem d_Rs_fewestWords_86 : decode b_Rs_fewestWords 86 = .ok (.aload_n 0, 1) := by decide +kernel
theorem d_Rs_fewestWords_87 : decode b_Rs_fewestWords 87 = .ok (.getfield 26, 3) := by decide +kernel
theorem d_Rs_fewestWords_90 : decode b_Rs_fewestWords 90 = .ok (.if_icmp .ge 79, 3) := by decide +kernel
theorem d_Rs_fewestWords_93 : decode b_Rs_fewestWords 93 = .ok (.aload_n 1, 1) := by decide +kernel
theorem d_Rs_fewestWords_94 : decode b_Rs_fewestWords 94 = .ok (.iconst 1, 1) := by decide +kernel
theorem d_Rs_fewestWords_95 : decode b_Rs_fewestWords 95 = .ok (.iload 5, 2) := by decide +kernel
theorem d_Rs_fewestWords_97 : decode b_Rs_fewestWords 97 = .ok (.bipush 7, 2) := by decide +kernel
theorem d_Rs_fewestWords_99 : decode b_Rs_fewestWords 99 = .ok (.ishr, 1) := by decide +kernel
theorem d_Rs_fewestWords_100 : decode b_Rs_fewestWords 100 = .ok (.ishl, 1) := by decide +kernel
theorem d_Rs_fewestWords_101 : decode b_Rs_fewestWords 101 = .ok (.aload_n 0, 1) := by decide +kernel
theorem d_Rs_fewestWords_102 : decode b_Rs_fewestWords 102 = .ok (.getfield 19, 3) := by decide +kernel
theorem d_Rs_fewestWords_105 : decode b_Rs_fewestWords 105 = .ok (.iload 7, 2) := by decide +kernel
theorem d_Rs_fewestWords_107 : decode b_Rs_fewestWords 107 = .ok (.laload, 1) := by decide +kernel
theorem d_Rs_fewestWords_108 : decode b_Rs_fewestWords 108 = .ok (.invokevirtual 49, 3) := by decide +kernel
theorem d_Rs_fewestWords_111 : decode b_Rs_fewestWords 111 = .ok (.istore 8, 2) := by decide +kernel
theorem d_Rs_fewestWords_113 : decode b_Rs_fewestWords 113 = .ok (.aload_n 2, 1) := by decide +kernel
theorem d_Rs_fewestWords_114 : decode b_Rs_fewestWords 114 = .ok (.iload 5, 2) := by decide +kernel
theorem d_Rs_fewestWords_116 : decode b_Rs_fewestWords 116 = .ok (.bipush 127, 2) := by decide +kernel
theorem d_Rs_fewestWords_118 : decode b_Rs_fewestWords 118 = .ok (.iand, 1) := by decide +kernel
theorem d_Rs_fewestWords_119 : decode b_Rs_fewestWords 119 = .ok (.aload_n 0, 1) := by decide +kernel
theorem d_Rs_fewestWords_120 : decode b_Rs_fewestWords 120 = .ok (.getfield 19, 3) := by decide +kernel
theorem d_Rs_fewestWords_123 : decode b_Rs_fewestWords 123 = .ok (.iload 7, 2) := by decide +kernel
theorem d_Rs_fewestWords_125 : decode b_Rs_fewestWords 125 = .ok (.laload, 1) := by decide +kernel
theorem d_Rs_fewestWords_126 : decode b_Rs_fewestWords 126 = .ok (.invokevirtual 49, 3) := by decide +kernel
theorem d_Rs_fewestWords_129 : decode b_Rs_fewestWords 129 = .ok (.istore 9, 2) := by decide +kernel
theorem d_Rs_fewestWords_131 : decode b_Rs_fewestWords 131 = .ok (.aload_n 1, 1) := by decide +kernel
theorem d_Rs_fewestWords_132 : decode b_Rs_fewestWords 132 = .ok (.iload 8, 2) := by decide +kernel
theorem d_Rs_fewestWords_134 : decode b_Rs_fewestWords 134 = .ok (.invokevirtual 53, 3) := by decide +kernel
theorem d_Rs_fewestWords_137 : decode b_Rs_fewestWords 137 = .ok (.ifCond .eq 16, 3) := by decide +kernel
theorem d_Rs_fewestWords_140 : decode b_Rs_fewestWords 140 = .ok (.aload_n 2, 1) := by decide +kernel
theorem d_Rs_fewestWords_141 : decode b_Rs_fewestWords 141 = .ok (.iload 9, 2) := by decide +kernel
theorem d_Rs_fewestWords_143 : decode b_Rs_fewestWords 143 = .ok (.invokevirtual 53, 3) := by decide +kernel
theorem d_Rs_fewestWords_146 : decode b_Rs_fewestWords 146 = .ok (.iload_n 3, 1) := by decide +kernel
theorem d_Rs_fewestWords_147 : decode b_Rs_fewestWords 147 = .ok (.if_icmp .ne 6, 3) := by decide +kernel
theorem d_Rs_fewestWords_150 : decode b_Rs_fewestWords 150 = .ok (.iload 6, 2) := by decide +kernel
theorem d_Rs_fewestWords_152 : decode b_Rs_fewestWords 152 = .ok (.ireturn, 1) := by decide +kernel
theorem d_Rs_fewestWords_153 : decode b_Rs_fewestWords 153 = .ok (.aload_n 0, 1) := by decide +kernel
theorem d_Rs_fewestWords_154 : decode b_Rs_fewestWords 154 = .ok (.iload 8, 2) := by decide +kernel
theorem d_Rs_fewestWords_156 : decode b_Rs_fewestWords 156 = .ok (.iload 9, 2) := by decide +kernel
theorem d_Rs_fewestWords_158 : decode b_Rs_fewestWords 158 = .ok (.iload 6, 2) := by decide +kernel
theorem d_Rs_fewestWords_160 : decode b_Rs_fewestWords 160 = .ok (.invokevirtual 45, 3) := by decide +kernel
theorem d_Rs_fewestWords_163 : decode b_Rs_fewestWords 163 = .ok (.iinc 7 1, 3) := by decide +kernel
theorem d_Rs_fewestWords_166 : decode b_Rs_fewestWords 166 = .ok (.goto (-82), 3) := by decide +kernel
theorem d_Rs_fewestWords_169 : decode b_Rs_fewestWords 169 = .ok (.iinc 4 1, 3) := by decide +kernel
theorem d_Rs_fewestWords_172 : decode b_Rs_fewestWords 172 = .ok (.goto (-137), 3) := by decide +kernel
theorem d_Rs_fewestWords_175 : decode b_Rs_fewestWords 175 = .ok (.iconst 0, 1) := by decide +kernel
theorem d_Rs_fewestWords_176 : decode b_Rs_fewestWords 176 = .ok (.ireturn, 1) := by decide +kernel
abbrev rm_Rs_fewestWords : Room := { frames := 2, cells := 0, slots := 0, locals := 49 }
abbrev C_Rs_fewestWords (D : va_G) (g : Nat → ClassId) (p : Program) (s : State) (m : MethodId) (args : Array Value) (meth : Method) (c : Code) (M0 : Mem) : Prop := Cx p s m args c b_Rs_fewestWords 10 R_Rs BIG D vwCl (tysG g) (mA M0 s.heap.size) ∧ meth.sig.returnType = (some .int) ∧ meth.locks = false
abbrev B_Rs_fewestWords (l : Launch) (D : va_G) (p : Program) (e : Env) (s : State) (m : MethodId) (args : Array Value) (below : List Frame) (meth : Method) (c : Code) (M0 : Mem) (P : Int32 → Mem → Prop) (M : Mem) (pc : Nat) (lv : List (Nat × Value)) (st : List Value) : Prop := Wb p l e rm_Rs_fewestWords s m args below meth c 10 D vwCl M0 (kI fun r M' => P r M') 0 0 M pc lv st
def wp_Rs_fewestWords_b175 (g : Nat → ClassId) (P : Int32 → Mem → Prop) (M : Mem) : Prop :=
  P (0 : Int32) M
set_option maxHeartbeats 4000000 in
set_option maxRecDepth 100000 in
theorem t_Rs_fewestWords_b175 {l : Launch} {D : va_G} {g : Nat → ClassId} {p : Program} {e : Env} {s : State} {m : MethodId} {args : Array Value} {below : List Frame} {meth : Method} {c : Code} {M0 : Mem} {P : Int32 → Mem → Prop} {M : Mem} (C : C_Rs_fewestWords D g p s m args meth c M0) (h : wp_Rs_fewestWords_b175 g P M ) : B_Rs_fewestWords l D p e s m args below meth c M0 P M 175 [] [] := by
  intro ls H locs hM hS hl
  unfold wp_Rs_fewestWords_b175 at h
  refine lv_iconst (v := (0 : Int32)) C.1.1 C.1.2.1 d_Rs_fewestWords_175 (by decide) ?_
  exact mr_I C.1 C.2.1 C.2.2 hM hS ⟨_, rfl, h⟩ d_Rs_fewestWords_176
def wp_Rs_fewestWords_b153 (g : Nat → ClassId) (P : Int32 → Mem → Prop) (J35 : Int32 → Mem → Prop) (J84 : Int32 → Mem → Prop) (M : Mem) (x0 : Nat) (x1 : Nat) (x2 : Nat) (x3 : Int32) (x4 : Int32) (x5 : Int32) (x6 : Int32) (x7 : Int32) (x8 : Int32) (x9 : Int32) : Prop :=
  isO M 5 x0 ∧ (wp_Rs_addStates g M x0 x8 x9 x6 (fun (M2 : Mem) => J84 (x7 + (1 : Int32)) M2))
set_option maxHeartbeats 4000000 in
set_option maxRecDepth 100000 in
theorem t_Rs_fewestWords_b153 {l : Launch} {D : va_G} {g : Nat → ClassId} {p : Program} {e : Env} {s : State} {m : MethodId} {args : Array Value} {below : List Frame} {meth : Method} {c : Code} {M0 : Mem} {P : Int32 → Mem → Prop} {J35 : Int32 → Mem → Prop} {J84 : Int32 → Mem → Prop} {M : Mem} {x0 : Nat} {x1 : Nat} {x2 : Nat} {x3 : Int32} {x4 : Int32} {x5 : Int32} {x6 : Int32} {x7 : Int32} {x8 : Int32} {x9 : Int32} (C : C_Rs_fewestWords D g p s m args meth c M0) (h : wp_Rs_fewestWords_b153 g P J35 J84 M x0 x1 x2 x3 x4 x5 x6 x7 x8 x9 ) (kJ35 : ∀ (x4 : Int32) (M : Mem), J35 x4 M → B_Rs_fewestWords l D p e s m args below meth c M0 P M 35 [(0, .ref x0), (1, .ref x1), (2, .ref x2), (3, .int x3), (4, .int x4)] []) (kJ84 : ∀ (x7 : Int32) (M : Mem), J84 x7 M → B_Rs_fewestWords l D p e s m args below meth c M0 P M 84 [(0, .ref x0), (1, .ref x1), (2, .ref x2), (3, .int x3), (4, .int x4), (5, .int x5), (6, .int x6), (7, .int x7)] []) : B_Rs_fewestWords l D p e s m args below meth c M0 P M 153 [(0, .ref x0), (1, .ref x1), (2, .ref x2), (3, .int x3), (4, .int x4), (5, .int x5), (6, .int x6), (7, .int x7), (8, .int x8), (9, .int x9)] [] := by
  intro ls H locs hM hS hl
  unfold wp_Rs_fewestWords_b153 at h
  refine lv_aload_n C.1.1 C.1.2.1 d_Rs_fewestWords_153 rfl (lv_at hl 0 rfl) ?_
  refine lv_iload C.1.1 C.1.2.1 d_Rs_fewestWords_154 (lv_at hl 8 rfl) ?_
  refine lv_iload C.1.1 C.1.2.1 d_Rs_fewestWords_156 (lv_at hl 9 rfl) ?_
  refine lv_iload C.1.1 C.1.2.1 d_Rs_fewestWords_158 (lv_at hl 6 rfl) ?_
  obtain ⟨ho, h⟩ := h
  refine mc_V (As := [.int x8, .int x9, .int x6]) (ci := 5) C.1 hM hS bigGood (c_Rs_addStates h) rfl ho kw257 kw259 kw260 kw164 kw258 hd_Rs_addStates ⟨by decide, by decide⟩ hl.1 rfl (Nat.le_of_ble_eq_true rfl) d_Rs_fewestWords_160 (mc := 0) (ms := 0) rfl rfl ⟨by decide, by decide⟩ (fun v M2 H locs hp hM hS => ?_)
  obtain ⟨rfl, h⟩ := hp
  refine lv_iinc (v := x7 + (1 : Int32)) (lv' := [(7, .int (x7 + (1 : Int32))), (0, .ref x0), (1, .ref x1), (2, .ref x2), (3, .int x3), (4, .int x4), (5, .int x5), (6, .int x6), (8, .int x8), (9, .int x9)]) C.1.1 C.1.2.1 d_Rs_fewestWords_163 hl (k := 7) rfl rfl (by decide) rfl (fun ls hl => ?_)
  refine lv_goto (tgt := 84) C.1.1 C.1.2.1 d_Rs_fewestWords_166 (by decide) ?_
  exact kJ84 (x7 + (1 : Int32)) M2 h _ _ _ hM hS (lv_sub hl [1, 2, 3, 4, 5, 6, 7, 0] rfl)
def wp_Rs_fewestWords_b84 (g : Nat → ClassId) (P : Int32 → Mem → Prop) (J35 : Int32 → Mem → Prop) (M : Mem) (x0 : Nat) (x1 : Nat) (x2 : Nat) (x3 : Int32) (x4 : Int32) (x5 : Int32) (x6 : Int32) (x7 : Int32) : Prop :=
  ∃ (I : Int32 → Mem → Prop) (μ : Int32 → Mem → Nat), I x7 M ∧ ∀ (x7 : Int32) (M : Mem), I x7 M →
  ∃ v1 : Int32, gI M 5 x0 4 = some v1 ∧ ((v1 ≤ x7 → (J35 (x4 + (1 : Int32)) M)) ∧ (¬ v1 ≤ x7 → (∃ v3 : Nat, gR M 5 x0 2 = some v3 ∧ (∃ v4 : Int64, aL M (g 1) v3 x7 = some v4 ∧ (isO M 1 x1 ∧ (wp_Text_placesBehind g M x1 ((1 : Int32) <<< ((x5 >>> ((7 : Int32) &&& 31)) &&& 31)) v4 (fun v5 : Int32 => ∃ v7 : Nat, gR M 5 x0 2 = some v7 ∧ (∃ v8 : Int64, aL M (g 1) v7 x7 = some v8 ∧ (isO M 1 x2 ∧ (wp_Text_placesBehind g M x2 (x5 &&& (127 : Int32)) v8 (fun v9 : Int32 => isO M 1 x1 ∧ (wp_Text_hasEnd g M x1 v5 (fun v11 : Int32 => (v11 = 0 → (wp_Rs_fewestWords_b153 g P J35 (fun y7 N => I y7 N ∧ μ y7 N < μ x7 M) M x0 x1 x2 x3 x4 x5 x6 x7 v5 v9)) ∧ (¬ v11 = 0 → (isO M 1 x2 ∧ (wp_Text_hasEnd g M x2 v9 (fun v14 : Int32 => (v14 = x3 → (P x6 M)) ∧ (¬ v14 = x3 → (wp_Rs_fewestWords_b153 g P J35 (fun y7 N => I y7 N ∧ μ y7 N < μ x7 M) M x0 x1 x2 x3 x4 x5 x6 x7 v5 v9)))))))))))))))))))
set_option maxHeartbeats 4000000 in
set_option maxRecDepth 100000 in
theorem t_Rs_fewestWords_b84 {l : Launch} {D : va_G} {g : Nat → ClassId} {p : Program} {e : Env} {s : State} {m : MethodId} {args : Array Value} {below : List Frame} {meth : Method} {c : Code} {M0 : Mem} {P : Int32 → Mem → Prop} {J35 : Int32 → Mem → Prop} {M : Mem} {x0 : Nat} {x1 : Nat} {x2 : Nat} {x3 : Int32} {x4 : Int32} {x5 : Int32} {x6 : Int32} {x7 : Int32} (C : C_Rs_fewestWords D g p s m args meth c M0) (h : wp_Rs_fewestWords_b84 g P J35 M x0 x1 x2 x3 x4 x5 x6 x7 ) (kJ35 : ∀ (x4 : Int32) (M : Mem), J35 x4 M → B_Rs_fewestWords l D p e s m args below meth c M0 P M 35 [(0, .ref x0), (1, .ref x1), (2, .ref x2), (3, .int x3), (4, .int x4)] []) : B_Rs_fewestWords l D p e s m args below meth c M0 P M 84 [(0, .ref x0), (1, .ref x1), (2, .ref x2), (3, .int x3), (4, .int x4), (5, .int x5), (6, .int x6), (7, .int x7)] [] := by
  unfold wp_Rs_fewestWords_b84 at h
  obtain ⟨I, μ, hI, hb⟩ := h
  have key : ∀ (n : Nat) (x7 : Int32) (M : Mem), I x7 M → μ x7 M < n → B_Rs_fewestWords l D p e s m args below meth c M0 P M 84 [(0, .ref x0), (1, .ref x1), (2, .ref x2), (3, .int x3), (4, .int x4), (5, .int x5), (6, .int x6), (7, .int x7)] [] := by
    intro n
    induction n with
    | zero => intro x7 M _ hn; exact absurd hn (Nat.not_lt_zero _)
    | succ n ih =>
      intro x7 M hI hn ls H locs hM hS hl
      have h := hb x7 M hI
      refine lv_iload C.1.1 C.1.2.1 d_Rs_fewestWords_84 (lv_at hl 7 rfl) ?_
      refine lv_aload_n C.1.1 C.1.2.1 d_Rs_fewestWords_86 rfl (lv_at hl 0 rfl) ?_
      obtain ⟨v1, ev1, h⟩ := h
      refine mg_I C.1 hM ok_Rs (by decide) kw94 ev1 d_Rs_fewestWords_87 ?_
      refine lv_icmp_ge (tgt := 169) C.1.1 C.1.2.1 d_Rs_fewestWords_90 (by decide) (fun c2 => ?_) (fun c2 => ?_)
      · have h := h.1 c2
        refine lv_iinc (v := x4 + (1 : Int32)) (lv' := [(4, .int (x4 + (1 : Int32))), (0, .ref x0), (1, .ref x1), (2, .ref x2), (3, .int x3), (5, .int x5), (6, .int x6), (7, .int x7)]) C.1.1 C.1.2.1 d_Rs_fewestWords_169 hl (k := 4) rfl rfl (by decide) rfl (fun ls hl => ?_)
        refine lv_goto (tgt := 35) C.1.1 C.1.2.1 d_Rs_fewestWords_172 (by decide) ?_
        exact kJ35 (x4 + (1 : Int32)) M h _ _ _ hM hS (lv_sub hl [1, 2, 3, 4, 0] rfl)
      · have h := h.2 c2
        refine lv_aload_n C.1.1 C.1.2.1 d_Rs_fewestWords_93 rfl (lv_at hl 1 rfl) ?_
        refine lv_iconst (v := (1 : Int32)) C.1.1 C.1.2.1 d_Rs_fewestWords_94 (by decide) ?_
        refine lv_iload C.1.1 C.1.2.1 d_Rs_fewestWords_95 (lv_at hl 5 rfl) ?_
        refine lv_bipush (v := (7 : Int32)) C.1.1 C.1.2.1 d_Rs_fewestWords_97 (by decide) ?_
        refine lv_ishr C.1.1 C.1.2.1 d_Rs_fewestWords_99 ?_
        refine lv_ishl C.1.1 C.1.2.1 d_Rs_fewestWords_100 ?_
        refine lv_aload_n C.1.1 C.1.2.1 d_Rs_fewestWords_101 rfl (lv_at hl 0 rfl) ?_
        obtain ⟨v3, ev3, h⟩ := h
        refine mg_R C.1 hM ok_Rs (by decide) kw92 ev3 d_Rs_fewestWords_102 ?_
        refine lv_iload C.1.1 C.1.2.1 d_Rs_fewestWords_105 (lv_at hl 7 rfl) ?_
        obtain ⟨v4, ev4, h⟩ := h
        refine ma_L C.1 hM 1 rfl ev4 d_Rs_fewestWords_107 ?_
        obtain ⟨ho, h⟩ := h
        refine mc_V (As := [.int ((1 : Int32) <<< ((x5 >>> ((7 : Int32) &&& 31)) &&& 31)), .long v4]) (ci := 1) C.1 hM hS bigGood (c_Text_placesBehind h) rfl ho kw261 kw206 kw207 kw107 kw205 hd_Text_placesBehind ⟨by decide, by decide⟩ hl.1 rfl (Nat.le_of_ble_eq_true rfl) d_Rs_fewestWords_108 (mc := 0) (ms := 0) rfl rfl ⟨by decide, by decide⟩ (fun v M' H locs hp hM hS => ?_)
        obtain ⟨v5, rfl, rfl, h⟩ := hp
        refine lv_istore (lv' := [(8, .int v5), (0, .ref x0), (1, .ref x1), (2, .ref x2), (3, .int x3), (4, .int x4), (5, .int x5), (6, .int x6), (7, .int x7)]) C.1.1 C.1.2.1 d_Rs_fewestWords_111 hl (by decide) rfl (fun ls hl => ?_)
        refine lv_aload_n C.1.1 C.1.2.1 d_Rs_fewestWords_113 rfl (lv_at hl 3 rfl) ?_
        refine lv_iload C.1.1 C.1.2.1 d_Rs_fewestWords_114 (lv_at hl 6 rfl) ?_
        refine lv_bipush (v := (127 : Int32)) C.1.1 C.1.2.1 d_Rs_fewestWords_116 (by decide) ?_
        refine lv_iand C.1.1 C.1.2.1 d_Rs_fewestWords_118 ?_
        refine lv_aload_n C.1.1 C.1.2.1 d_Rs_fewestWords_119 rfl (lv_at hl 1 rfl) ?_
        obtain ⟨v7, ev7, h⟩ := h
        refine mg_R C.1 hM ok_Rs (by decide) kw92 ev7 d_Rs_fewestWords_120 ?_
        refine lv_iload C.1.1 C.1.2.1 d_Rs_fewestWords_123 (lv_at hl 8 rfl) ?_
        obtain ⟨v8, ev8, h⟩ := h
        refine ma_L C.1 hM 1 rfl ev8 d_Rs_fewestWords_125 ?_
        obtain ⟨ho, h⟩ := h
        refine mc_V (As := [.int (x5 &&& (127 : Int32)), .long v8]) (ci := 1) C.1 hM hS bigGood (c_Text_placesBehind h) rfl ho kw261 kw206 kw207 kw107 kw205 hd_Text_placesBehind ⟨by decide, by decide⟩ hl.1 rfl (Nat.le_of_ble_eq_true rfl) d_Rs_fewestWords_126 (mc := 0) (ms := 0) rfl rfl ⟨by decide, by decide⟩ (fun v M' H locs hp hM hS => ?_)
        obtain ⟨v9, rfl, rfl, h⟩ := hp
        refine lv_istore (lv' := [(9, .int v9), (8, .int v5), (0, .ref x0), (1, .ref x1), (2, .ref x2), (3, .int x3), (4, .int x4), (5, .int x5), (6, .int x6), (7, .int x7)]) C.1.1 C.1.2.1 d_Rs_fewestWords_129 hl (by decide) rfl (fun ls hl => ?_)
        refine lv_aload_n C.1.1 C.1.2.1 d_Rs_fewestWords_131 rfl (lv_at hl 3 rfl) ?_
        refine lv_iload C.1.1 C.1.2.1 d_Rs_fewestWords_132 (lv_at hl 1 rfl) ?_
        obtain ⟨ho, h⟩ := h
        refine mc_V (As := [.int v5]) (ci := 1) C.1 hM hS bigGood (c_Text_hasEnd h) rfl ho kw262 kw202 kw203 kw107 kw201 hd_Text_hasEnd ⟨by decide, by decide⟩ hl.1 rfl (Nat.le_of_ble_eq_true rfl) d_Rs_fewestWords_134 (mc := 0) (ms := 0) rfl rfl ⟨by decide, by decide⟩ (fun v M' H locs hp hM hS => ?_)
        obtain ⟨v11, rfl, rfl, h⟩ := hp
        refine lv_if_eq (tgt := 153) C.1.1 C.1.2.1 d_Rs_fewestWords_137 (by decide) (fun c13 => ?_) (fun c13 => ?_)
        · have h := h.1 c13
          exact t_Rs_fewestWords_b153 C h kJ35 (fun y7 N hJ => ih y7 N hJ.1 (Nat.lt_of_lt_of_le hJ.2 (Nat.le_of_lt_succ hn))) _ _ _ hM hS (lv_sub hl [2, 3, 4, 5, 6, 7, 8, 9, 1, 0] rfl)
        · have h := h.2 c13
          refine lv_aload_n C.1.1 C.1.2.1 d_Rs_fewestWords_140 rfl (lv_at hl 4 rfl) ?_
          refine lv_iload C.1.1 C.1.2.1 d_Rs_fewestWords_141 (lv_at hl 0 rfl) ?_
          obtain ⟨ho, h⟩ := h
          refine mc_V (As := [.int v9]) (ci := 1) C.1 hM hS bigGood (c_Text_hasEnd h) rfl ho kw262 kw202 kw203 kw107 kw201 hd_Text_hasEnd ⟨by decide, by decide⟩ hl.1 rfl (Nat.le_of_ble_eq_true rfl) d_Rs_fewestWords_143 (mc := 0) (ms := 0) rfl rfl ⟨by decide, by decide⟩ (fun v M' H locs hp hM hS => ?_)
          obtain ⟨v14, rfl, rfl, h⟩ := hp
          refine lv_iload_n C.1.1 C.1.2.1 d_Rs_fewestWords_146 rfl (lv_at hl 5 rfl) ?_
          refine lv_icmp_ne (tgt := 153) C.1.1 C.1.2.1 d_Rs_fewestWords_147 (by decide) (fun c16 => ?_) (fun c16 => ?_)
          · have h := h.2 c16
            exact t_Rs_fewestWords_b153 C h kJ35 (fun y7 N hJ => ih y7 N hJ.1 (Nat.lt_of_lt_of_le hJ.2 (Nat.le_of_lt_succ hn))) _ _ _ hM hS (lv_sub hl [2, 3, 4, 5, 6, 7, 8, 9, 1, 0] rfl)
          · have h := h.1 c16
            refine lv_iload C.1.1 C.1.2.1 d_Rs_fewestWords_150 (lv_at hl 8 rfl) ?_
            exact mr_I C.1 C.2.1 C.2.2 hM hS ⟨_, rfl, h⟩ d_Rs_fewestWords_152
  exact key _ x7 M hI (Nat.lt_succ_self _)
def wp_Rs_fewestWords_b35 (g : Nat → ClassId) (P : Int32 → Mem → Prop) (M : Mem) (x0 : Nat) (x1 : Nat) (x2 : Nat) (x3 : Int32) (x4 : Int32) : Prop :=
  ∃ (I : Int32 → Mem → Prop) (μ : Int32 → Mem → Nat), I x4 M ∧ ∀ (x4 : Int32) (M : Mem), I x4 M →
  ∃ v1 : Int32, gI M 5 x0 3 = some v1 ∧ ((v1 ≤ x4 → (wp_Rs_fewestWords_b175 g P M)) ∧ (¬ v1 ≤ x4 → (∃ v3 : Nat, gR M 5 x0 0 = some v3 ∧ (∃ n4 : Nat, aN M (g 2) v3 = some n4 ∧ (((nI n4) ≤ x4 → (wp_Rs_fewestWords_b175 g P M)) ∧ (¬ (nI n4) ≤ x4 → (∃ v6 : Nat, gR M 5 x0 0 = some v6 ∧ (∃ v7 : Int32, aI M (g 2) v6 x4 = some v7 ∧ (∃ v8 : Nat, gR M 5 x0 0 = some v8 ∧ (∃ v9 : Int32, aI M (g 2) v8 x4 = some v9 ∧ (wp_Rs_fewestWords_b84 g P (fun y4 N => I y4 N ∧ μ y4 N < μ x4 M) M x0 x1 x2 x3 x4 (v7 &&& (1023 : Int32)) ((v9 >>> ((10 : Int32) &&& 31)) + (1 : Int32)) (0 : Int32))))))))))))
set_option maxHeartbeats 4000000 in
set_option maxRecDepth 100000 in
theorem t_Rs_fewestWords_b35 {l : Launch} {D : va_G} {g : Nat → ClassId} {p : Program} {e : Env} {s : State} {m : MethodId} {args : Array Value} {below : List Frame} {meth : Method} {c : Code} {M0 : Mem} {P : Int32 → Mem → Prop} {M : Mem} {x0 : Nat} {x1 : Nat} {x2 : Nat} {x3 : Int32} {x4 : Int32} (C : C_Rs_fewestWords D g p s m args meth c M0) (h : wp_Rs_fewestWords_b35 g P M x0 x1 x2 x3 x4 ) : B_Rs_fewestWords l D p e s m args below meth c M0 P M 35 [(0, .ref x0), (1, .ref x1), (2, .ref x2), (3, .int x3), (4, .int x4)] [] := by
  unfold wp_Rs_fewestWords_b35 at h
  obtain ⟨I, μ, hI, hb⟩ := h
  have key : ∀ (n : Nat) (x4 : Int32) (M : Mem), I x4 M → μ x4 M < n → B_Rs_fewestWords l D p e s m args below meth c M0 P M 35 [(0, .ref x0), (1, .ref x1), (2, .ref x2), (3, .int x3), (4, .int x4)] [] := by
    intro n
    induction n with
    | zero => intro x4 M _ hn; exact absurd hn (Nat.not_lt_zero _)
    | succ n ih =>
      intro x4 M hI hn ls H locs hM hS hl
      have h := hb x4 M hI
      refine lv_iload C.1.1 C.1.2.1 d_Rs_fewestWords_35 (lv_at hl 4 rfl) ?_
      refine lv_aload_n C.1.1 C.1.2.1 d_Rs_fewestWords_37 rfl (lv_at hl 0 rfl) ?_
      obtain ⟨v1, ev1, h⟩ := h
      refine mg_I C.1 hM ok_Rs (by decide) kw93 ev1 d_Rs_fewestWords_38 ?_
      refine lv_icmp_ge (tgt := 175) C.1.1 C.1.2.1 d_Rs_fewestWords_41 (by decide) (fun c2 => ?_) (fun c2 => ?_)
      · have h := h.1 c2
        exact t_Rs_fewestWords_b175 C h _ _ _ hM hS (lv_sub hl [] rfl)
      · have h := h.2 c2
        refine lv_iload C.1.1 C.1.2.1 d_Rs_fewestWords_44 (lv_at hl 4 rfl) ?_
        refine lv_aload_n C.1.1 C.1.2.1 d_Rs_fewestWords_46 rfl (lv_at hl 0 rfl) ?_
        obtain ⟨v3, ev3, h⟩ := h
        refine mg_R C.1 hM ok_Rs (by decide) kw90 ev3 d_Rs_fewestWords_47 ?_
        obtain ⟨n4, en4, h⟩ := h
        refine ma_N C.1 hM 2 rfl en4 d_Rs_fewestWords_50 ?_
        refine lv_icmp_ge (tgt := 175) C.1.1 C.1.2.1 d_Rs_fewestWords_51 (by decide) (fun c5 => ?_) (fun c5 => ?_)
        · have h := h.1 c5
          exact t_Rs_fewestWords_b175 C h _ _ _ hM hS (lv_sub hl [] rfl)
        · have h := h.2 c5
          refine lv_aload_n C.1.1 C.1.2.1 d_Rs_fewestWords_54 rfl (lv_at hl 0 rfl) ?_
          obtain ⟨v6, ev6, h⟩ := h
          refine mg_R C.1 hM ok_Rs (by decide) kw90 ev6 d_Rs_fewestWords_55 ?_
          refine lv_iload C.1.1 C.1.2.1 d_Rs_fewestWords_58 (lv_at hl 4 rfl) ?_
          obtain ⟨v7, ev7, h⟩ := h
          refine ma_I C.1 hM 2 rfl ev7 d_Rs_fewestWords_60 ?_
          refine lv_sipush (v := (1023 : Int32)) C.1.1 C.1.2.1 d_Rs_fewestWords_61 (by decide) ?_
          refine lv_iand C.1.1 C.1.2.1 d_Rs_fewestWords_64 ?_
          refine lv_istore (lv' := [(5, .int (v7 &&& (1023 : Int32))), (0, .ref x0), (1, .ref x1), (2, .ref x2), (3, .int x3), (4, .int x4)]) C.1.1 C.1.2.1 d_Rs_fewestWords_65 hl (by decide) rfl (fun ls hl => ?_)
          refine lv_aload_n C.1.1 C.1.2.1 d_Rs_fewestWords_67 rfl (lv_at hl 1 rfl) ?_
          obtain ⟨v8, ev8, h⟩ := h
          refine mg_R C.1 hM ok_Rs (by decide) kw90 ev8 d_Rs_fewestWords_68 ?_
          refine lv_iload C.1.1 C.1.2.1 d_Rs_fewestWords_71 (lv_at hl 5 rfl) ?_
          obtain ⟨v9, ev9, h⟩ := h
          refine ma_I C.1 hM 2 rfl ev9 d_Rs_fewestWords_73 ?_
          refine lv_bipush (v := (10 : Int32)) C.1.1 C.1.2.1 d_Rs_fewestWords_74 (by decide) ?_
          refine lv_ishr C.1.1 C.1.2.1 d_Rs_fewestWords_76 ?_
          refine lv_iconst (v := (1 : Int32)) C.1.1 C.1.2.1 d_Rs_fewestWords_77 (by decide) ?_
          refine lv_iadd C.1.1 C.1.2.1 d_Rs_fewestWords_78 ?_
          refine lv_istore (lv' := [(6, .int ((v9 >>> ((10 : Int32) &&& 31)) + (1 : Int32))), (5, .int (v7 &&& (1023 : Int32))), (0, .ref x0), (1, .ref x1), (2, .ref x2), (3, .int x3), (4, .int x4)]) C.1.1 C.1.2.1 d_Rs_fewestWords_79 hl (by decide) rfl (fun ls hl => ?_)
          refine lv_iconst (v := (0 : Int32)) C.1.1 C.1.2.1 d_Rs_fewestWords_81 (by decide) ?_
          refine lv_istore (lv' := [(7, .int (0 : Int32)), (6, .int ((v9 >>> ((10 : Int32) &&& 31)) + (1 : Int32))), (5, .int (v7 &&& (1023 : Int32))), (0, .ref x0), (1, .ref x1), (2, .ref x2), (3, .int x3), (4, .int x4)]) C.1.1 C.1.2.1 d_Rs_fewestWords_82 hl (by decide) rfl (fun ls hl => ?_)
          exact t_Rs_fewestWords_b84 C h (fun y4 N hJ => ih y4 N hJ.1 (Nat.lt_of_lt_of_le hJ.2 (Nat.le_of_lt_succ hn))) _ _ _ hM hS (lv_sub hl [3, 4, 5, 6, 7, 2, 1, 0] rfl)
  exact key _ x4 M hI (Nat.lt_succ_self _)
def wp_Rs_fewestWords (g : Nat → ClassId) (M : Mem) (x0 : Nat) (x1 : Nat) (x2 : Nat) (x3 : Int32) (P : Int32 → Mem → Prop) : Prop :=
  isO M 5 x0 ∧ (wp_Rs_collectWords g M x0 x1 x2 (fun (M2 : Mem) => ∃ M3 : Mem, pV M2 5 x0 3 (.int (0 : Int32)) = some M3 ∧ (∃ v4 : Nat, gR M3 5 x0 1 = some v4 ∧ (wp_Arr_fill g M3 v4 (0 : Int64) (fun (M6 : Mem) => isO M6 1 x1 ∧ (wp_Text_startPlaces g M6 x1 (fun v7 : Int32 => isO M6 1 x2 ∧ (wp_Text_startPlaces g M6 x2 (fun v9 : Int32 => isO M6 5 x0 ∧ (wp_Rs_addStates g M6 x0 v7 v9 (0 : Int32) (fun (M12 : Mem) => wp_Rs_fewestWords_b35 g P M12 x0 x1 x2 x3 (0 : Int32))))))))))))
set_option maxHeartbeats 4000000 in
set_option maxRecDepth 100000 in
theorem c_Rs_fewestWords {l : Launch} {D : va_G} {g : Nat → ClassId} {M : Mem} {x0 : Nat} {x1 : Nat} {x2 : Nat} {x3 : Int32} {P : Int32 → Mem → Prop} (h : wp_Rs_fewestWords g M x0 x1 x2 x3 P) : mMet l BIG D vwCl (tysG g) y_Rs_fewestWords b_Rs_fewestWords 10 (some .int) rm_Rs_fewestWords [.ref x0, .ref x1, .ref x2, .int x3] M (kI fun r M' => P r M') := by
  refine mMet.of (own := R_Rs) rfl (by decide) rfl (fun p e s m below meth c C hr hlk hnm ls hM hS hl => ?_)
  have C : C_Rs_fewestWords D g p s m ([.ref x0, .ref x1, .ref x2, .int x3] : List Value).toArray meth c M := ⟨C, hr, hlk⟩
  unfold wp_Rs_fewestWords at h
  have hl : lv_has ls 10 [(0, .ref x0), (1, .ref x1), (2, .ref x2), (3, .int x3)] := hl
  refine lv_aload_n C.1.1 C.1.2.1 d_Rs_fewestWords_0 rfl (lv_at hl 0 rfl) ?_
  refine lv_aload_n C.1.1 C.1.2.1 d_Rs_fewestWords_1 rfl (lv_at hl 1 rfl) ?_
  refine lv_aload_n C.1.1 C.1.2.1 d_Rs_fewestWords_2 rfl (lv_at hl 2 rfl) ?_
  obtain ⟨ho, h⟩ := h
  refine mc_V (As := [.ref x1, .ref x2]) (ci := 5) C.1 hM hS bigGood (c_Rs_collectWords h) rfl ho kw263 kw265 kw266 kw164 kw264 hd_Rs_collectWords ⟨by decide, by decide⟩ hl.1 rfl (Nat.le_of_ble_eq_true rfl) d_Rs_fewestWords_3 (mc := 0) (ms := 0) rfl rfl ⟨by decide, by decide⟩ (fun v M2 H locs hp hM hS => ?_)
  obtain ⟨rfl, h⟩ := hp
  refine lv_aload_n C.1.1 C.1.2.1 d_Rs_fewestWords_6 rfl (lv_at hl 0 rfl) ?_
  refine lv_iconst (v := (0 : Int32)) C.1.1 C.1.2.1 d_Rs_fewestWords_7 (by decide) ?_
  obtain ⟨M3, eM3, h⟩ := h
  refine mp_V C.1 hM hS ok_Rs (by decide) kw93 rfl rfl rfl eM3 d_Rs_fewestWords_8 (fun H locs hM hS => ?_)
  refine lv_aload_n C.1.1 C.1.2.1 d_Rs_fewestWords_11 rfl (lv_at hl 0 rfl) ?_
  obtain ⟨v4, ev4, h⟩ := h
  refine mg_R C.1 hM ok_Rs (by decide) kw91 ev4 d_Rs_fewestWords_12 ?_
  refine lv_lconst (v := (0 : Int64)) C.1.1 C.1.2.1 d_Rs_fewestWords_15 (by decide) ?_
  refine mc_S (As := [.ref v4, .long (0 : Int64)]) C.1 hM hS bigGood (c_Arr_fill h) kw267 kw270 kw269 kw268 hd_Arr_fill ⟨by decide, by decide⟩ hl.1 rfl (Nat.le_of_ble_eq_true rfl) d_Rs_fewestWords_16 (mc := 0) (ms := 0) rfl rfl ⟨by decide, by decide⟩ (fun v M6 H locs hp hM hS => ?_)
  obtain ⟨rfl, h⟩ := hp
  refine lv_aload_n C.1.1 C.1.2.1 d_Rs_fewestWords_19 rfl (lv_at hl 0 rfl) ?_
  refine lv_aload_n C.1.1 C.1.2.1 d_Rs_fewestWords_20 rfl (lv_at hl 1 rfl) ?_
  obtain ⟨ho, h⟩ := h
  refine mc_V (As := []) (ci := 1) C.1 hM hS bigGood (c_Text_startPlaces h) rfl ho kw271 kw210 kw211 kw107 kw209 hd_Text_startPlaces ⟨by decide, by decide⟩ hl.1 rfl (Nat.le_of_ble_eq_true rfl) d_Rs_fewestWords_21 (mc := 0) (ms := 0) rfl rfl ⟨by decide, by decide⟩ (fun v M' H locs hp hM hS => ?_)
  obtain ⟨v7, rfl, rfl, h⟩ := hp
  refine lv_aload_n C.1.1 C.1.2.1 d_Rs_fewestWords_24 rfl (lv_at hl 2 rfl) ?_
  obtain ⟨ho, h⟩ := h
  refine mc_V (As := []) (ci := 1) C.1 hM hS bigGood (c_Text_startPlaces h) rfl ho kw271 kw210 kw211 kw107 kw209 hd_Text_startPlaces ⟨by decide, by decide⟩ hl.1 rfl (Nat.le_of_ble_eq_true rfl) d_Rs_fewestWords_25 (mc := 0) (ms := 0) rfl rfl ⟨by decide, by decide⟩ (fun v M' H locs hp hM hS => ?_)
  obtain ⟨v9, rfl, rfl, h⟩ := hp
  refine lv_iconst (v := (0 : Int32)) C.1.1 C.1.2.1 d_Rs_fewestWords_28 (by decide) ?_
  obtain ⟨ho, h⟩ := h
  refine mc_V (As := [.int v7, .int v9, .int (0 : Int32)]) (ci := 5) C.1 hM hS bigGood (c_Rs_addStates h) rfl ho kw257 kw259 kw260 kw164 kw258 hd_Rs_addStates ⟨by decide, by decide⟩ hl.1 rfl (Nat.le_of_ble_eq_true rfl) d_Rs_fewestWords_29 (mc := 0) (ms := 0) rfl rfl ⟨by decide, by decide⟩ (fun v M12 H locs hp hM hS => ?_)
  obtain ⟨rfl, h⟩ := hp
  refine lv_iconst (v := (0 : Int32)) C.1.1 C.1.2.1 d_Rs_fewestWords_32 (by decide) ?_
  refine lv_istore (lv' := [(4, .int (0 : Int32)), (0, .ref x0), (1, .ref x1), (2, .ref x2), (3, .int x3)]) C.1.1 C.1.2.1 d_Rs_fewestWords_33 hl (by decide) rfl (fun ls hl => ?_)
  exact t_Rs_fewestWords_b35 C h _ _ _ hM hS (lv_sub hl [1, 2, 3, 4, 0] rfl)
