theorem d_Mod_reads_0 : decode b_Mod_reads 0 = .ok (.aload_n 0, 1) := by decide +kernel
theorem d_Mod_reads_1 : decode b_Mod_reads 1 = .ok (.getfield 66, 3) := by decide +kernel
theorem d_Mod_reads_4 : decode b_Mod_reads 4 = .ok (.istore_n 2, 1) := by decide +kernel
theorem d_Mod_reads_5 : decode b_Mod_reads 5 = .ok (.aload_n 0, 1) := by decide +kernel
theorem d_Mod_reads_6 : decode b_Mod_reads 6 = .ok (.iconst 0, 1) := by decide +kernel
theorem d_Mod_reads_7 : decode b_Mod_reads 7 = .ok (.putfield 66, 3) := by decide +kernel
theorem d_Mod_reads_10 : decode b_Mod_reads 10 = .ok (.aload_n 0, 1) := by decide +kernel
theorem d_Mod_reads_11 : decode b_Mod_reads 11 = .ok (.iconst 0, 1) := by decide +kernel
theorem d_Mod_reads_12 : decode b_Mod_reads 12 = .ok (.putfield 71, 3) := by decide +kernel
theorem d_Mod_reads_15 : decode b_Mod_reads 15 = .ok (.aload_n 0, 1) := by decide +kernel
theorem d_Mod_reads_16 : decode b_Mod_reads 16 = .ok (.iconst (-1), 1) := by decide +kernel
theorem d_Mod_reads_17 : decode b_Mod_reads 17 = .ok (.putfield 13, 3) := by decide +kernel
theorem d_Mod_reads_20 : decode b_Mod_reads 20 = .ok (.iconst 0, 1) := by decide +kernel
theorem d_Mod_reads_21 : decode b_Mod_reads 21 = .ok (.istore_n 3, 1) := by decide +kernel
theorem d_Mod_reads_22 : decode b_Mod_reads 22 = .ok (.iconst 1, 1) := by decide +kernel
theorem d_Mod_reads_23 : decode b_Mod_reads 23 = .ok (.istore 4, 2) := by decide +kernel
theorem d_Mod_reads_25 : decode b_Mod_reads 25 = .ok (.iload 4, 2) := by decide +kernel
theorem d_Mod_reads_27 : decode b_Mod_reads 27 = .ok (.ifCond .eq 196, 3) := by decide +kernel
theorem d_Mod_reads_30 : decode b_Mod_reads 30 = .ok (.lconst 0, 1) := by decide +kernel
theorem d_Mod_reads_31 : decode b_Mod_reads 31 = .ok (.lstore 5, 2) := by decide +kernel
theorem d_Mod_reads_33 : decode b_Mod_reads 33 = .ok (.iconst 0, 1) := by decide +kernel
theorem d_Mod_reads_34 : decode b_Mod_reads 34 = .ok (.istore 7, 2) := by decide +kernel
theorem d_Mod_reads_36 : decode b_Mod_reads 36 = .ok (.iload_n 1, 1) := by decide +kernel
theorem d_Mod_reads_37 : decode b_Mod_reads 37 = .ok (.ifCond .eq 58, 3) := by decide +kernel
theorem d_Mod_reads_40 : decode b_Mod_reads 40 = .ok (.iload_n 3, 1) := by decide +kernel
theorem d_Mod_reads_41 : decode b_Mod_reads 41 = .ok (.iload_n 2, 1) := by decide +kernel
theorem d_Mod_reads_42 : decode b_Mod_reads 42 = .ok (.if_icmp .ge 53, 3) := by decide +kernel
theorem d_Mod_reads_45 : decode b_Mod_reads 45 = .ok (.aload_n 0, 1) := by decide +kernel
theorem d_Mod_reads_46 : decode b_Mod_reads 46 = .ok (.getfield 7, 3) := by decide +kernel
theorem d_Mod_reads_49 : decode b_Mod_reads 49 = .ok (.iload_n 3, 1) := by decide +kernel
theorem d_Mod_reads_50 : decode b_Mod_reads 50 = .ok (.iaload, 1) := by decide +kernel
theorem d_Mod_reads_51 : decode b_Mod_reads 51 = .ok (.bipush 42, 2) := by decide +kernel
theorem d_Mod_reads_53 : decode b_Mod_reads 53 = .ok (.if_icmp .eq 14, 3) := by decide +kernel
theorem d_Mod_reads_56 : decode b_Mod_reads 56 = .ok (.aload_n 0, 1) := by decide +kernel
theorem d_Mod_reads_57 : decode b_Mod_reads 57 = .ok (.getfield 7, 3) := by decide +kernel
theorem d_Mod_reads_60 : decode b_Mod_reads 60 = .ok (.iload_n 3, 1) := by decide +kernel
theorem d_Mod_reads_61 : decode b_Mod_reads 61 = .ok (.iaload, 1) := by decide +kernel
theorem d_Mod_reads_62 : decode b_Mod_reads 62 = .ok (.bipush 35, 2) := by decide +kernel
theorem d_Mod_reads_64 : decode b_Mod_reads 64 = .ok (.if_icmp .ne 31, 3) := by decide +kernel
theorem d_Mod_reads_67 : decode b_Mod_reads 67 = .ok (.aload_n 0, 1) := by decide +kernel
theorem d_Mod_reads_68 : decode b_Mod_reads 68 = .ok (.getfield 7, 3) := by decide +kernel
theorem d_Mod_reads_71 : decode b_Mod_reads 71 = .ok (.iload_n 3, 1) := by decide +kernel
theorem d_Mod_reads_72 : decode b_Mod_reads 72 = .ok (.iaload, 1) := by decide +kernel
theorem d_Mod_reads_73 : decode b_Mod_reads 73 = .ok (.bipush 42, 2) := by decide +kernel
theorem d_Mod_reads_75 : decode b_Mod_reads 75 = .ok (.if_icmp .ne 9, 3) := by decide +kernel
theorem d_Mod_reads_78 : decode b_Mod_reads 78 = .ok (.ldc2_w 74, 3) := by decide +kernel
theorem d_Mod_reads_81 : decode b_Mod_reads 81 = .ok (.goto 6, 3) := by decide +kernel
theorem d_Mod_reads_84 : decode b_Mod_reads 84 = .ok (.ldc2_w 76, 3) := by decide +kernel
theorem d_Mod_reads_87 : decode b_Mod_reads 87 = .ok (.lstore 5, 2) := by decide +kernel
theorem d_Mod_reads_89 : decode b_Mod_reads 89 = .ok (.iinc 3 1, 3) := by decide +kernel
theorem d_Mod_reads_92 : decode b_Mod_reads 92 = .ok (.goto 51, 3) := by decide +kernel
theorem d_Mod_reads_95 : decode b_Mod_reads 95 = .ok (.iload_n 3, 1) := by decide +kernel
theorem d_Mod_reads_96 : decode b_Mod_reads 96 = .ok (.iload_n 2, 1) := by decide +kernel
theorem d_Mod_reads_97 : decode b_Mod_reads 97 = .ok (.if_icmp .ge 46, 3) := by decide +kernel
theorem d_Mod_reads_100 : decode b_Mod_reads 100 = .ok (.aload_n 0, 1) := by decide +kernel
theorem d_Mod_reads_101 : decode b_Mod_reads 101 = .ok (.getfield 7, 3) := by decide +kernel
theorem d_Mod_reads_104 : decode b_Mod_reads 104 = .ok (.iload_n 3, 1) := by decide +kernel
theorem d_Mod_reads_105 : decode b_Mod_reads 105 = .ok (.iaload, 1) := by decide +kernel
theorem d_Mod_reads_106 : decode b_Mod_reads 106 = .ok (.invokestatic 78, 3) := by decide +kernel
theorem d_Mod_reads_109 : decode b_Mod_reads 109 = .ok (.ifCond .eq 34, 3) := by decide +kernel
theorem d_Mod_reads_112 : decode b_Mod_reads 112 = .ok (.iload 7, 2) := by decide +kernel
theorem d_Mod_reads_114 : decode b_Mod_reads 114 = .ok (.bipush 6, 2) := by decide +kernel
theorem d_Mod_reads_116 : decode b_Mod_reads 116 = .ok (.if_icmp .ge 27, 3) := by decide +kernel
theorem d_Mod_reads_119 : decode b_Mod_reads 119 = .ok (.lload 5, 2) := by decide +kernel
theorem d_Mod_reads_121 : decode b_Mod_reads 121 = .ok (.bipush 8, 2) := by decide +kernel
theorem d_Mod_reads_123 : decode b_Mod_reads 123 = .ok (.lshl, 1) := by decide +kernel
theorem d_Mod_reads_124 : decode b_Mod_reads 124 = .ok (.aload_n 0, 1) := by decide +kernel
theorem d_Mod_reads_125 : decode b_Mod_reads 125 = .ok (.getfield 7, 3) := by decide +kernel
theorem d_Mod_reads_128 : decode b_Mod_reads 128 = .ok (.iload_n 3, 1) := by decide +kernel
theorem d_Mod_reads_129 : decode b_Mod_reads 129 = .ok (.iaload, 1) := by decide +kernel
theorem d_Mod_reads_130 : decode b_Mod_reads 130 = .ok (.i2l, 1) := by decide +kernel
theorem d_Mod_reads_131 : decode b_Mod_reads 131 = .ok (.lor, 1) := by decide +kernel
theorem d_Mod_reads_132 : decode b_Mod_reads 132 = .ok (.lstore 5, 2) := by decide +kernel
theorem d_Mod_reads_134 : decode b_Mod_reads 134 = .ok (.iinc 3 1, 3) := by decide +kernel
theorem d_Mod_reads_137 : decode b_Mod_reads 137 = .ok (.iinc 7 1, 3) := by decide +kernel
theorem d_Mod_reads_140 : decode b_Mod_reads 140 = .ok (.goto (-45), 3) := by decide +kernel
theorem d_Mod_reads_143 : decode b_Mod_reads 143 = .ok (.lload 5, 2) := by decide +kernel
theorem d_Mod_reads_145 : decode b_Mod_reads 145 = .ok (.lconst 0, 1) := by decide +kernel
theorem d_Mod_reads_146 : decode b_Mod_reads 146 = .ok (.lcmp, 1) := by decide +kernel
theorem d_Mod_reads_147 : decode b_Mod_reads 147 = .ok (.ifCond .eq 30, 3) := by decide +kernel
theorem d_Mod_reads_150 : decode b_Mod_reads 150 = .ok (.iload_n 3, 1) := by decide +kernel
theorem d_Mod_reads_151 : decode b_Mod_reads 151 = .ok (.iload_n 2, 1) := by decide +kernel
theorem d_Mod_reads_152 : decode b_Mod_reads 152 = .ok (.if_icmp .ge 32, 3) := by decide +kernel
theorem d_Mod_reads_155 : decode b_Mod_reads 155 = .ok (.aload_n 0, 1) := by decide +kernel
theorem d_Mod_reads_156 : decode b_Mod_reads 156 = .ok (.getfield 7, 3) := by decide +kernel
theorem d_Mod_reads_159 : decode b_Mod_reads 159 = .ok (.iload_n 3, 1) := by decide +kernel
theorem d_Mod_reads_160 : decode b_Mod_reads 160 = .ok (.iaload, 1) := by decide +kernel
theorem d_Mod_reads_161 : decode b_Mod_reads 161 = .ok (.bipush 46, 2) := by decide +kernel
theorem d_Mod_reads_163 : decode b_Mod_reads 163 = .ok (.if_icmp .ne 14, 3) := by decide +kernel
theorem d_Mod_reads_166 : decode b_Mod_reads 166 = .ok (.aload_n 0, 1) := by decide +kernel
theorem d_Mod_reads_167 : decode b_Mod_reads 167 = .ok (.getfield 71, 3) := by decide +kernel
theorem d_Mod_reads_170 : decode b_Mod_reads 170 = .ok (.iconst 1, 1) := by decide +kernel
theorem d_Mod_reads_171 : decode b_Mod_reads 171 = .ok (.iadd, 1) := by decide +kernel
theorem d_Mod_reads_172 : decode b_Mod_reads 172 = .ok (.bipush 6, 2) := by decide +kernel
theorem d_Mod_reads_174 : decode b_Mod_reads 174 = .ok (.if_icmp .ne 10, 3) := by decide +kernel
theorem d_Mod_reads_177 : decode b_Mod_reads 177 = .ok (.aload_n 0, 1) := by decide +kernel
theorem d_Mod_reads_178 : decode b_Mod_reads 178 = .ok (.iload_n 3, 1) := by decide +kernel
theorem d_Mod_reads_179 : decode b_Mod_reads 179 = .ok (.putfield 13, 3) := by decide +kernel
theorem d_Mod_reads_182 : decode b_Mod_reads 182 = .ok (.iconst 0, 1) := by decide +kernel
theorem d_Mod_reads_183 : decode b_Mod_reads 183 = .ok (.ireturn, 1) := by decide +kernel
theorem d_Mod_reads_184 : decode b_Mod_reads 184 = .ok (.aload_n 0, 1) := by decide +kernel
theorem d_Mod_reads_185 : decode b_Mod_reads 185 = .ok (.getfield 17, 3) := by decide +kernel
theorem d_Mod_reads_188 : decode b_Mod_reads 188 = .ok (.aload_n 0, 1) := by decide +kernel
theorem d_Mod_reads_189 : decode b_Mod_reads 189 = .ok (.getfield 71, 3) := by decide +kernel
theorem d_Mod_reads_192 : decode b_Mod_reads 192 = .ok (.lload 5, 2) := by decide +kernel
theorem d_Mod_reads_194 : decode b_Mod_reads 194 = .ok (.lastore, 1) := by decide +kernel
theorem d_Mod_reads_195 : decode b_Mod_reads 195 = .ok (.aload_n 0, 1) := by decide +kernel
theorem d_Mod_reads_196 : decode b_Mod_reads 196 = .ok (.dup, 1) := by decide +kernel
theorem d_Mod_reads_197 : decode b_Mod_reads 197 = .ok (.getfield 71, 3) := by decide +kernel
theorem d_Mod_reads_200 : decode b_Mod_reads 200 = .ok (.iconst 1, 1) := by decide +kernel
theorem d_Mod_reads_201 : decode b_Mod_reads 201 = .ok (.iadd, 1) := by decide +kernel
theorem d_Mod_reads_202 : decode b_Mod_reads 202 = .ok (.putfield 71, 3) := by decide +kernel
theorem d_Mod_reads_205 : decode b_Mod_reads 205 = .ok (.iload_n 3, 1) := by decide +kernel
theorem d_Mod_reads_206 : decode b_Mod_reads 206 = .ok (.iload_n 2, 1) := by decide +kernel
theorem d_Mod_reads_207 : decode b_Mod_reads 207 = .ok (.if_icmp .ge 7, 3) := by decide +kernel
theorem d_Mod_reads_210 : decode b_Mod_reads 210 = .ok (.iconst 1, 1) := by decide +kernel
theorem d_Mod_reads_211 : decode b_Mod_reads 211 = .ok (.goto 4, 3) := by decide +kernel
theorem d_Mod_reads_214 : decode b_Mod_reads 214 = .ok (.iconst 0, 1) := by decide +kernel
theorem d_Mod_reads_215 : decode b_Mod_reads 215 = .ok (.istore 4, 2) := by decide +kernel
theorem d_Mod_reads_217 : decode b_Mod_reads 217 = .ok (.iinc 3 1, 3) := by decide +kernel
theorem d_Mod_reads_220 : decode b_Mod_reads 220 = .ok (.goto (-195), 3) := by decide +kernel
theorem d_Mod_reads_223 : decode b_Mod_reads 223 = .ok (.aload_n 0, 1) := by decide +kernel
theorem d_Mod_reads_224 : decode b_Mod_reads 224 = .ok (.iload_n 2, 1) := by decide +kernel
theorem d_Mod_reads_225 : decode b_Mod_reads 225 = .ok (.putfield 82, 3) := by decide +kernel
theorem d_Mod_reads_228 : decode b_Mod_reads 228 = .ok (.iconst 0, 1) := by decide +kernel
theorem d_Mod_reads_229 : decode b_Mod_reads 229 = .ok (.istore 5, 2) := by decide +kernel
theorem d_Mod_reads_231 : decode b_Mod_reads 231 = .ok (.iload 5, 2) := by decide +kernel
theorem d_Mod_reads_233 : decode b_Mod_reads 233 = .ok (.iload_n 2, 1) := by decide +kernel
theorem d_Mod_reads_234 : decode b_Mod_reads 234 = .ok (.if_icmp .ge 23, 3) := by decide +kernel
theorem d_Mod_reads_237 : decode b_Mod_reads 237 = .ok (.aload_n 0, 1) := by decide +kernel
theorem d_Mod_reads_238 : decode b_Mod_reads 238 = .ok (.getfield 21, 3) := by decide +kernel
theorem d_Mod_reads_241 : decode b_Mod_reads 241 = .ok (.iload 5, 2) := by decide +kernel
theorem d_Mod_reads_243 : decode b_Mod_reads 243 = .ok (.aload_n 0, 1) := by decide +kernel
theorem d_Mod_reads_244 : decode b_Mod_reads 244 = .ok (.getfield 7, 3) := by decide +kernel
theorem d_Mod_reads_247 : decode b_Mod_reads 247 = .ok (.iload 5, 2) := by decide +kernel
theorem d_Mod_reads_249 : decode b_Mod_reads 249 = .ok (.iaload, 1) := by decide +kernel
theorem d_Mod_reads_250 : decode b_Mod_reads 250 = .ok (.iastore, 1) := by decide +kernel
theorem d_Mod_reads_251 : decode b_Mod_reads 251 = .ok (.iinc 5 1, 3) := by decide +kernel
theorem d_Mod_reads_254 : decode b_Mod_reads 254 = .ok (.goto (-23), 3) := by decide +kernel
theorem d_Mod_reads_257 : decode b_Mod_reads 257 = .ok (.iconst 1, 1) := by decide +kernel
theorem d_Mod_reads_258 : decode b_Mod_reads 258 = .ok (.ireturn, 1) := by decide +kernel
abbrev rm_Mod_reads : Room := { frames := 1, cells := 0, slots := 0, locals := 20 }
abbrev C_Mod_reads (D : va_G) (g : Nat → ClassId) (p : Program) (s : State) (m : MethodId) (args : Array Value) (meth : Method) (c : Code) (M0 : Mem) : Prop := Cx p s m args c b_Mod_reads 8 R_Mod BIG D vwCl (tysG g) (mA M0 s.heap.size) ∧ meth.sig.returnType = (some .boolean) ∧ meth.locks = false
abbrev B_Mod_reads (l : Launch) (D : va_G) (p : Program) (e : Env) (s : State) (m : MethodId) (args : Array Value) (below : List Frame) (meth : Method) (c : Code) (M0 : Mem) (P : Int32 → Mem → Prop) (M : Mem) (pc : Nat) (lv : List (Nat × Value)) (st : List Value) : Prop := Wb p l e rm_Mod_reads s m args below meth c 8 D vwCl M0 (kI fun r M' => P r M') 0 0 M pc lv st
def wp_Mod_reads_b231 (g : Nat → ClassId) (P : Int32 → Mem → Prop) (M : Mem) (x0 : Nat) (x2 : Int32) (x5 : Int32) : Prop :=
  ∃ (I : Int32 → Mem → Prop) (μ : Int32 → Mem → Nat), I x5 M ∧ ∀ (x5 : Int32) (M : Mem), I x5 M →
  (x2 ≤ x5 → (isB (1 : Int32) ∧ P (1 : Int32) M)) ∧ (¬ x2 ≤ x5 → (∃ v2 : Nat, gR M 6 x0 7 = some v2 ∧ (∃ v3 : Nat, gR M 6 x0 1 = some v3 ∧ (∃ v4 : Int32, aI M (g 2) v3 x5 = some v4 ∧ (∃ M5 : Mem, sI M (g 2) v2 x5 v4 = some M5 ∧ ((I (x5 + (1 : Int32)) M5 ∧ μ (x5 + (1 : Int32)) M5 < μ x5 M)))))))
set_option maxHeartbeats 4000000 in
set_option maxRecDepth 100000 in
theorem t_Mod_reads_b231 {l : Launch} {D : va_G} {g : Nat → ClassId} {p : Program} {e : Env} {s : State} {m : MethodId} {args : Array Value} {below : List Frame} {meth : Method} {c : Code} {M0 : Mem} {P : Int32 → Mem → Prop} {M : Mem} {x0 : Nat} {x2 : Int32} {x5 : Int32} (C : C_Mod_reads D g p s m args meth c M0) (h : wp_Mod_reads_b231 g P M x0 x2 x5 ) : B_Mod_reads l D p e s m args below meth c M0 P M 231 [(0, .ref x0), (2, .int x2), (5, .int x5)] [] := by
  unfold wp_Mod_reads_b231 at h
  obtain ⟨I, μ, hI, hb⟩ := h
  have key : ∀ (n : Nat) (x5 : Int32) (M : Mem), I x5 M → μ x5 M < n → B_Mod_reads l D p e s m args below meth c M0 P M 231 [(0, .ref x0), (2, .int x2), (5, .int x5)] [] := by
    intro n
    induction n with
    | zero => intro x5 M _ hn; exact absurd hn (Nat.not_lt_zero _)
    | succ n ih =>
      intro x5 M hI hn ls H locs hM hS hl
      have h := hb x5 M hI
      refine lv_iload C.1.1 C.1.2.1 d_Mod_reads_231 (lv_at hl 2 rfl) ?_
      refine lv_iload_n C.1.1 C.1.2.1 d_Mod_reads_233 rfl (lv_at hl 1 rfl) ?_
      refine lv_icmp_ge (tgt := 257) C.1.1 C.1.2.1 d_Mod_reads_234 (by decide) (fun c1 => ?_) (fun c1 => ?_)
      · have h := h.1 c1
        refine lv_iconst (v := (1 : Int32)) C.1.1 C.1.2.1 d_Mod_reads_257 (by decide) ?_
        exact mr_Z C.1 C.2.1 C.2.2 h.1 hM hS ⟨_, rfl, h.2⟩ d_Mod_reads_258
      · have h := h.2 c1
        refine lv_aload_n C.1.1 C.1.2.1 d_Mod_reads_237 rfl (lv_at hl 0 rfl) ?_
        obtain ⟨v2, ev2, h⟩ := h
        refine mg_R C.1 hM ok_Mod (by decide) kw10 ev2 d_Mod_reads_238 ?_
        refine lv_iload C.1.1 C.1.2.1 d_Mod_reads_241 (lv_at hl 2 rfl) ?_
        refine lv_aload_n C.1.1 C.1.2.1 d_Mod_reads_243 rfl (lv_at hl 0 rfl) ?_
        obtain ⟨v3, ev3, h⟩ := h
        refine mg_R C.1 hM ok_Mod (by decide) kw6 ev3 d_Mod_reads_244 ?_
        refine lv_iload C.1.1 C.1.2.1 d_Mod_reads_247 (lv_at hl 2 rfl) ?_
        obtain ⟨v4, ev4, h⟩ := h
        refine ma_I C.1 hM 2 rfl ev4 d_Mod_reads_249 ?_
        obtain ⟨M5, eM5, h⟩ := h
        refine ms_I C.1 hM hS 2 rfl eM5 d_Mod_reads_250 (fun H locs hM hS => ?_)
        refine lv_iinc (v := x5 + (1 : Int32)) (lv' := [(5, .int (x5 + (1 : Int32))), (0, .ref x0), (2, .int x2)]) C.1.1 C.1.2.1 d_Mod_reads_251 hl (k := 2) rfl rfl (by decide) rfl (fun ls hl => ?_)
        refine lv_goto (tgt := 231) C.1.1 C.1.2.1 d_Mod_reads_254 (by decide) ?_
        exact ih (x5 + (1 : Int32)) M5 h.1 (Nat.lt_of_lt_of_le h.2 (Nat.le_of_lt_succ hn)) _ _ _ hM hS (lv_sub hl [1, 2, 0] rfl)
  exact key _ x5 M hI (Nat.lt_succ_self _)
def wp_Mod_reads_b215 (g : Nat → ClassId) (P : Int32 → Mem → Prop) (J25 : Int32 → Int32 → Mem → Prop) (M : Mem) (x0 : Nat) (x1 : Int32) (x2 : Int32) (x3 : Int32) (t0 : Int32) : Prop :=
  J25 (x3 + (1 : Int32)) t0 M
set_option maxHeartbeats 4000000 in
set_option maxRecDepth 100000 in
theorem t_Mod_reads_b215 {l : Launch} {D : va_G} {g : Nat → ClassId} {p : Program} {e : Env} {s : State} {m : MethodId} {args : Array Value} {below : List Frame} {meth : Method} {c : Code} {M0 : Mem} {P : Int32 → Mem → Prop} {J25 : Int32 → Int32 → Mem → Prop} {M : Mem} {x0 : Nat} {x1 : Int32} {x2 : Int32} {x3 : Int32} {t0 : Int32} (C : C_Mod_reads D g p s m args meth c M0) (h : wp_Mod_reads_b215 g P J25 M x0 x1 x2 x3 t0) (kJ25 : ∀ (x3 : Int32) (x4 : Int32) (M : Mem), J25 x3 x4 M → B_Mod_reads l D p e s m args below meth c M0 P M 25 [(0, .ref x0), (1, .int x1), (2, .int x2), (3, .int x3), (4, .int x4)] []) : B_Mod_reads l D p e s m args below meth c M0 P M 215 [(0, .ref x0), (1, .int x1), (2, .int x2), (3, .int x3)] [.int t0] := by
  intro ls H locs hM hS hl
  unfold wp_Mod_reads_b215 at h
  refine lv_istore (lv' := [(4, .int t0), (0, .ref x0), (1, .int x1), (2, .int x2), (3, .int x3)]) C.1.1 C.1.2.1 d_Mod_reads_215 hl (by decide) rfl (fun ls hl => ?_)
  refine lv_iinc (v := x3 + (1 : Int32)) (lv' := [(3, .int (x3 + (1 : Int32))), (4, .int t0), (0, .ref x0), (1, .int x1), (2, .int x2)]) C.1.1 C.1.2.1 d_Mod_reads_217 hl (k := 4) rfl rfl (by decide) rfl (fun ls hl => ?_)
  refine lv_goto (tgt := 25) C.1.1 C.1.2.1 d_Mod_reads_220 (by decide) ?_
  exact kJ25 (x3 + (1 : Int32)) t0 M h _ _ _ hM hS (lv_sub hl [2, 3, 4, 0, 1] rfl)
def wp_Mod_reads_b184 (g : Nat → ClassId) (P : Int32 → Mem → Prop) (J25 : Int32 → Int32 → Mem → Prop) (M : Mem) (x0 : Nat) (x1 : Int32) (x2 : Int32) (x3 : Int32) (x5 : Int64) : Prop :=
  ∃ v1 : Nat, gR M 6 x0 4 = some v1 ∧ (∃ v2 : Int32, gI M 6 x0 5 = some v2 ∧ (∃ M3 : Mem, sL M (g 1) v1 v2 x5 = some M3 ∧ (∃ v4 : Int32, gI M3 6 x0 5 = some v4 ∧ (∃ M5 : Mem, pV M3 6 x0 5 (.int (v4 + (1 : Int32))) = some M5 ∧ ((x2 ≤ x3 → (wp_Mod_reads_b215 g P J25 M5 x0 x1 x2 x3 (0 : Int32))) ∧ (¬ x2 ≤ x3 → (wp_Mod_reads_b215 g P J25 M5 x0 x1 x2 x3 (1 : Int32))))))))
set_option maxHeartbeats 4000000 in
set_option maxRecDepth 100000 in
theorem t_Mod_reads_b184 {l : Launch} {D : va_G} {g : Nat → ClassId} {p : Program} {e : Env} {s : State} {m : MethodId} {args : Array Value} {below : List Frame} {meth : Method} {c : Code} {M0 : Mem} {P : Int32 → Mem → Prop} {J25 : Int32 → Int32 → Mem → Prop} {M : Mem} {x0 : Nat} {x1 : Int32} {x2 : Int32} {x3 : Int32} {x5 : Int64} (C : C_Mod_reads D g p s m args meth c M0) (h : wp_Mod_reads_b184 g P J25 M x0 x1 x2 x3 x5 ) (kJ25 : ∀ (x3 : Int32) (x4 : Int32) (M : Mem), J25 x3 x4 M → B_Mod_reads l D p e s m args below meth c M0 P M 25 [(0, .ref x0), (1, .int x1), (2, .int x2), (3, .int x3), (4, .int x4)] []) : B_Mod_reads l D p e s m args below meth c M0 P M 184 [(0, .ref x0), (1, .int x1), (2, .int x2), (3, .int x3), (5, .long x5)] [] := by
  intro ls H locs hM hS hl
  unfold wp_Mod_reads_b184 at h
  refine lv_aload_n C.1.1 C.1.2.1 d_Mod_reads_184 rfl (lv_at hl 0 rfl) ?_
  obtain ⟨v1, ev1, h⟩ := h
  refine mg_R C.1 hM ok_Mod (by decide) kw9 ev1 d_Mod_reads_185 ?_
  refine lv_aload_n C.1.1 C.1.2.1 d_Mod_reads_188 rfl (lv_at hl 0 rfl) ?_
  obtain ⟨v2, ev2, h⟩ := h
  refine mg_I C.1 hM ok_Mod (by decide) kw26 ev2 d_Mod_reads_189 ?_
  refine lv_lload C.1.1 C.1.2.1 d_Mod_reads_192 (lv_at hl 4 rfl) ?_
  obtain ⟨M3, eM3, h⟩ := h
  refine ms_L C.1 hM hS 1 rfl eM3 d_Mod_reads_194 (fun H locs hM hS => ?_)
  refine lv_aload_n C.1.1 C.1.2.1 d_Mod_reads_195 rfl (lv_at hl 0 rfl) ?_
  refine lv_dup C.1.1 C.1.2.1 d_Mod_reads_196 rfl ?_
  obtain ⟨v4, ev4, h⟩ := h
  refine mg_I C.1 hM ok_Mod (by decide) kw26 ev4 d_Mod_reads_197 ?_
  refine lv_iconst (v := (1 : Int32)) C.1.1 C.1.2.1 d_Mod_reads_200 (by decide) ?_
  refine lv_iadd C.1.1 C.1.2.1 d_Mod_reads_201 ?_
  obtain ⟨M5, eM5, h⟩ := h
  refine mp_V C.1 hM hS ok_Mod (by decide) kw26 rfl rfl rfl eM5 d_Mod_reads_202 (fun H locs hM hS => ?_)
  refine lv_iload_n C.1.1 C.1.2.1 d_Mod_reads_205 rfl (lv_at hl 3 rfl) ?_
  refine lv_iload_n C.1.1 C.1.2.1 d_Mod_reads_206 rfl (lv_at hl 2 rfl) ?_
  refine lv_icmp_ge (tgt := 214) C.1.1 C.1.2.1 d_Mod_reads_207 (by decide) (fun c6 => ?_) (fun c6 => ?_)
  · have h := h.1 c6
    refine lv_iconst (v := (0 : Int32)) C.1.1 C.1.2.1 d_Mod_reads_214 (by decide) ?_
    exact t_Mod_reads_b215 C h kJ25 _ _ _ hM hS (lv_sub hl [0, 1, 2, 3] rfl)
  · have h := h.2 c6
    refine lv_iconst (v := (1 : Int32)) C.1.1 C.1.2.1 d_Mod_reads_210 (by decide) ?_
    refine lv_goto (tgt := 215) C.1.1 C.1.2.1 d_Mod_reads_211 (by decide) ?_
    exact t_Mod_reads_b215 C h kJ25 _ _ _ hM hS (lv_sub hl [0, 1, 2, 3] rfl)
def wp_Mod_reads_b177 (g : Nat → ClassId) (P : Int32 → Mem → Prop) (M : Mem) (x0 : Nat) (x3 : Int32) : Prop :=
  ∃ M1 : Mem, pV M 6 x0 3 (.int x3) = some M1 ∧ (isB (0 : Int32) ∧ P (0 : Int32) M1)
set_option maxHeartbeats 4000000 in
set_option maxRecDepth 100000 in
theorem t_Mod_reads_b177 {l : Launch} {D : va_G} {g : Nat → ClassId} {p : Program} {e : Env} {s : State} {m : MethodId} {args : Array Value} {below : List Frame} {meth : Method} {c : Code} {M0 : Mem} {P : Int32 → Mem → Prop} {M : Mem} {x0 : Nat} {x3 : Int32} (C : C_Mod_reads D g p s m args meth c M0) (h : wp_Mod_reads_b177 g P M x0 x3 ) : B_Mod_reads l D p e s m args below meth c M0 P M 177 [(0, .ref x0), (3, .int x3)] [] := by
  intro ls H locs hM hS hl
  unfold wp_Mod_reads_b177 at h
  refine lv_aload_n C.1.1 C.1.2.1 d_Mod_reads_177 rfl (lv_at hl 0 rfl) ?_
  refine lv_iload_n C.1.1 C.1.2.1 d_Mod_reads_178 rfl (lv_at hl 1 rfl) ?_
  obtain ⟨M1, eM1, h⟩ := h
  refine mp_V C.1 hM hS ok_Mod (by decide) kw7 rfl rfl rfl eM1 d_Mod_reads_179 (fun H locs hM hS => ?_)
  refine lv_iconst (v := (0 : Int32)) C.1.1 C.1.2.1 d_Mod_reads_182 (by decide) ?_
  exact mr_Z C.1 C.2.1 C.2.2 h.1 hM hS ⟨_, rfl, h.2⟩ d_Mod_reads_183
def wp_Mod_reads_b143 (g : Nat → ClassId) (P : Int32 → Mem → Prop) (J25 : Int32 → Int32 → Mem → Prop) (M : Mem) (x0 : Nat) (x1 : Int32) (x2 : Int32) (x3 : Int32) (x5 : Int64) : Prop :=
  ((lg_cmp x5 (0 : Int64)) = 0 → (wp_Mod_reads_b177 g P M x0 x3)) ∧ (¬ (lg_cmp x5 (0 : Int64)) = 0 → ((x2 ≤ x3 → (wp_Mod_reads_b184 g P J25 M x0 x1 x2 x3 x5)) ∧ (¬ x2 ≤ x3 → (∃ v3 : Nat, gR M 6 x0 1 = some v3 ∧ (∃ v4 : Int32, aI M (g 2) v3 x3 = some v4 ∧ ((v4 = (46 : Int32) → (∃ v6 : Int32, gI M 6 x0 5 = some v6 ∧ (((v6 + (1 : Int32)) = (6 : Int32) → (wp_Mod_reads_b177 g P M x0 x3)) ∧ (¬ (v6 + (1 : Int32)) = (6 : Int32) → (wp_Mod_reads_b184 g P J25 M x0 x1 x2 x3 x5))))) ∧ (¬ v4 = (46 : Int32) → (wp_Mod_reads_b177 g P M x0 x3))))))))
set_option maxHeartbeats 4000000 in
set_option maxRecDepth 100000 in
theorem t_Mod_reads_b143 {l : Launch} {D : va_G} {g : Nat → ClassId} {p : Program} {e : Env} {s : State} {m : MethodId} {args : Array Value} {below : List Frame} {meth : Method} {c : Code} {M0 : Mem} {P : Int32 → Mem → Prop} {J25 : Int32 → Int32 → Mem → Prop} {M : Mem} {x0 : Nat} {x1 : Int32} {x2 : Int32} {x3 : Int32} {x5 : Int64} (C : C_Mod_reads D g p s m args meth c M0) (h : wp_Mod_reads_b143 g P J25 M x0 x1 x2 x3 x5 ) (kJ25 : ∀ (x3 : Int32) (x4 : Int32) (M : Mem), J25 x3 x4 M → B_Mod_reads l D p e s m args below meth c M0 P M 25 [(0, .ref x0), (1, .int x1), (2, .int x2), (3, .int x3), (4, .int x4)] []) : B_Mod_reads l D p e s m args below meth c M0 P M 143 [(0, .ref x0), (1, .int x1), (2, .int x2), (3, .int x3), (5, .long x5)] [] := by
  intro ls H locs hM hS hl
  unfold wp_Mod_reads_b143 at h
  refine lv_lload C.1.1 C.1.2.1 d_Mod_reads_143 (lv_at hl 4 rfl) ?_
  refine lv_lconst (v := (0 : Int64)) C.1.1 C.1.2.1 d_Mod_reads_145 (by decide) ?_
  refine W.lcmp C.1.1 C.1.2.1 d_Mod_reads_146 ?_
  refine lv_if_eq (tgt := 177) C.1.1 C.1.2.1 d_Mod_reads_147 (by decide) (fun c1 => ?_) (fun c1 => ?_)
  · have h := h.1 c1
    exact t_Mod_reads_b177 C h _ _ _ hM hS (lv_sub hl [0, 3] rfl)
  · have h := h.2 c1
    refine lv_iload_n C.1.1 C.1.2.1 d_Mod_reads_150 rfl (lv_at hl 3 rfl) ?_
    refine lv_iload_n C.1.1 C.1.2.1 d_Mod_reads_151 rfl (lv_at hl 2 rfl) ?_
    refine lv_icmp_ge (tgt := 184) C.1.1 C.1.2.1 d_Mod_reads_152 (by decide) (fun c2 => ?_) (fun c2 => ?_)
    · have h := h.1 c2
      exact t_Mod_reads_b184 C h kJ25 _ _ _ hM hS (lv_sub hl [0, 1, 2, 3, 4] rfl)
    · have h := h.2 c2
      refine lv_aload_n C.1.1 C.1.2.1 d_Mod_reads_155 rfl (lv_at hl 0 rfl) ?_
      obtain ⟨v3, ev3, h⟩ := h
      refine mg_R C.1 hM ok_Mod (by decide) kw6 ev3 d_Mod_reads_156 ?_
      refine lv_iload_n C.1.1 C.1.2.1 d_Mod_reads_159 rfl (lv_at hl 3 rfl) ?_
      obtain ⟨v4, ev4, h⟩ := h
      refine ma_I C.1 hM 2 rfl ev4 d_Mod_reads_160 ?_
      refine lv_bipush (v := (46 : Int32)) C.1.1 C.1.2.1 d_Mod_reads_161 (by decide) ?_
      refine lv_icmp_ne (tgt := 177) C.1.1 C.1.2.1 d_Mod_reads_163 (by decide) (fun c5 => ?_) (fun c5 => ?_)
      · have h := h.2 c5
        exact t_Mod_reads_b177 C h _ _ _ hM hS (lv_sub hl [0, 3] rfl)
      · have h := h.1 c5
        refine lv_aload_n C.1.1 C.1.2.1 d_Mod_reads_166 rfl (lv_at hl 0 rfl) ?_
        obtain ⟨v6, ev6, h⟩ := h
        refine mg_I C.1 hM ok_Mod (by decide) kw26 ev6 d_Mod_reads_167 ?_
        refine lv_iconst (v := (1 : Int32)) C.1.1 C.1.2.1 d_Mod_reads_170 (by decide) ?_
        refine lv_iadd C.1.1 C.1.2.1 d_Mod_reads_171 ?_
        refine lv_bipush (v := (6 : Int32)) C.1.1 C.1.2.1 d_Mod_reads_172 (by decide) ?_
        refine lv_icmp_ne (tgt := 184) C.1.1 C.1.2.1 d_Mod_reads_174 (by decide) (fun c7 => ?_) (fun c7 => ?_)
        · have h := h.2 c7
          exact t_Mod_reads_b184 C h kJ25 _ _ _ hM hS (lv_sub hl [0, 1, 2, 3, 4] rfl)
        · have h := h.1 c7
          exact t_Mod_reads_b177 C h _ _ _ hM hS (lv_sub hl [0, 3] rfl)
def wp_Mod_reads_b95 (g : Nat → ClassId) (P : Int32 → Mem → Prop) (J25 : Int32 → Int32 → Mem → Prop) (M : Mem) (x0 : Nat) (x1 : Int32) (x2 : Int32) (x3 : Int32) (x5 : Int64) (x7 : Int32) : Prop :=
  ∃ (I : Int32 → Int64 → Int32 → Prop) (μ : Int32 → Int64 → Int32 → Nat), I x3 x5 x7 ∧ ∀ (x3 : Int32) (x5 : Int64) (x7 : Int32), I x3 x5 x7 →
  (x2 ≤ x3 → (wp_Mod_reads_b143 g P J25 M x0 x1 x2 x3 x5)) ∧ (¬ x2 ≤ x3 → (∃ v2 : Nat, gR M 6 x0 1 = some v2 ∧ (∃ v3 : Int32, aI M (g 2) v2 x3 = some v3 ∧ (wp_Mod_isSign g M v3 (fun v4 : Int32 => (v4 = 0 → (wp_Mod_reads_b143 g P J25 M x0 x1 x2 x3 x5)) ∧ (¬ v4 = 0 → (((6 : Int32) ≤ x7 → (wp_Mod_reads_b143 g P J25 M x0 x1 x2 x3 x5)) ∧ (¬ (6 : Int32) ≤ x7 → (∃ v8 : Nat, gR M 6 x0 1 = some v8 ∧ (∃ v9 : Int32, aI M (g 2) v8 x3 = some v9 ∧ ((I (x3 + (1 : Int32)) ((x5 <<< ((8 : Int32).toInt64 &&& 63)) ||| v9.toInt64) (x7 + (1 : Int32)) ∧ μ (x3 + (1 : Int32)) ((x5 <<< ((8 : Int32).toInt64 &&& 63)) ||| v9.toInt64) (x7 + (1 : Int32)) < μ x3 x5 x7))))))))))))
set_option maxHeartbeats 4000000 in
set_option maxRecDepth 100000 in
theorem t_Mod_reads_b95 {l : Launch} {D : va_G} {g : Nat → ClassId} {p : Program} {e : Env} {s : State} {m : MethodId} {args : Array Value} {below : List Frame} {meth : Method} {c : Code} {M0 : Mem} {P : Int32 → Mem → Prop} {J25 : Int32 → Int32 → Mem → Prop} {M : Mem} {x0 : Nat} {x1 : Int32} {x2 : Int32} {x3 : Int32} {x5 : Int64} {x7 : Int32} (C : C_Mod_reads D g p s m args meth c M0) (h : wp_Mod_reads_b95 g P J25 M x0 x1 x2 x3 x5 x7 ) (kJ25 : ∀ (x3 : Int32) (x4 : Int32) (M : Mem), J25 x3 x4 M → B_Mod_reads l D p e s m args below meth c M0 P M 25 [(0, .ref x0), (1, .int x1), (2, .int x2), (3, .int x3), (4, .int x4)] []) : B_Mod_reads l D p e s m args below meth c M0 P M 95 [(0, .ref x0), (1, .int x1), (2, .int x2), (3, .int x3), (5, .long x5), (7, .int x7)] [] := by
  unfold wp_Mod_reads_b95 at h
  obtain ⟨I, μ, hI, hb⟩ := h
  have key : ∀ (n : Nat) (x3 : Int32) (x5 : Int64) (x7 : Int32), I x3 x5 x7 → μ x3 x5 x7 < n → B_Mod_reads l D p e s m args below meth c M0 P M 95 [(0, .ref x0), (1, .int x1), (2, .int x2), (3, .int x3), (5, .long x5), (7, .int x7)] [] := by
    intro n
    induction n with
    | zero => intro x3 x5 x7 _ hn; exact absurd hn (Nat.not_lt_zero _)
    | succ n ih =>
      intro x3 x5 x7 hI hn ls H locs hM hS hl
      have h := hb x3 x5 x7 hI
      refine lv_iload_n C.1.1 C.1.2.1 d_Mod_reads_95 rfl (lv_at hl 3 rfl) ?_
      refine lv_iload_n C.1.1 C.1.2.1 d_Mod_reads_96 rfl (lv_at hl 2 rfl) ?_
      refine lv_icmp_ge (tgt := 143) C.1.1 C.1.2.1 d_Mod_reads_97 (by decide) (fun c1 => ?_) (fun c1 => ?_)
      · have h := h.1 c1
        exact t_Mod_reads_b143 C h kJ25 _ _ _ hM hS (lv_sub hl [0, 1, 2, 3, 4] rfl)
      · have h := h.2 c1
        refine lv_aload_n C.1.1 C.1.2.1 d_Mod_reads_100 rfl (lv_at hl 0 rfl) ?_
        obtain ⟨v2, ev2, h⟩ := h
        refine mg_R C.1 hM ok_Mod (by decide) kw6 ev2 d_Mod_reads_101 ?_
        refine lv_iload_n C.1.1 C.1.2.1 d_Mod_reads_104 rfl (lv_at hl 3 rfl) ?_
        obtain ⟨v3, ev3, h⟩ := h
        refine ma_I C.1 hM 2 rfl ev3 d_Mod_reads_105 ?_
        refine mc_S (As := [.int v3]) C.1 hM hS bigGood (c_Mod_isSign h) kw27 kw30 kw29 kw28 hd_Mod_isSign ⟨by decide, by decide⟩ hl.1 rfl (Nat.le_of_ble_eq_true rfl) d_Mod_reads_106 (mc := 0) (ms := 0) rfl rfl ⟨by decide, by decide⟩ (fun v M' H locs hp hM hS => ?_)
        obtain ⟨v4, rfl, rfl, h⟩ := hp
        refine lv_if_eq (tgt := 143) C.1.1 C.1.2.1 d_Mod_reads_109 (by decide) (fun c6 => ?_) (fun c6 => ?_)
        · have h := h.1 c6
          exact t_Mod_reads_b143 C h kJ25 _ _ _ hM hS (lv_sub hl [0, 1, 2, 3, 4] rfl)
        · have h := h.2 c6
          refine lv_iload C.1.1 C.1.2.1 d_Mod_reads_112 (lv_at hl 5 rfl) ?_
          refine lv_bipush (v := (6 : Int32)) C.1.1 C.1.2.1 d_Mod_reads_114 (by decide) ?_
          refine lv_icmp_ge (tgt := 143) C.1.1 C.1.2.1 d_Mod_reads_116 (by decide) (fun c7 => ?_) (fun c7 => ?_)
          · have h := h.1 c7
            exact t_Mod_reads_b143 C h kJ25 _ _ _ hM hS (lv_sub hl [0, 1, 2, 3, 4] rfl)
          · have h := h.2 c7
            refine lv_lload C.1.1 C.1.2.1 d_Mod_reads_119 (lv_at hl 4 rfl) ?_
            refine lv_bipush (v := (8 : Int32)) C.1.1 C.1.2.1 d_Mod_reads_121 (by decide) ?_
            refine lv_lshl (v := x5 <<< ((8 : Int32).toInt64 &&& 63)) C.1.1 C.1.2.1 d_Mod_reads_123 rfl ?_
            refine lv_aload_n C.1.1 C.1.2.1 d_Mod_reads_124 rfl (lv_at hl 0 rfl) ?_
            obtain ⟨v8, ev8, h⟩ := h
            refine mg_R C.1 hM ok_Mod (by decide) kw6 ev8 d_Mod_reads_125 ?_
            refine lv_iload_n C.1.1 C.1.2.1 d_Mod_reads_128 rfl (lv_at hl 3 rfl) ?_
            obtain ⟨v9, ev9, h⟩ := h
            refine ma_I C.1 hM 2 rfl ev9 d_Mod_reads_129 ?_
            refine lv_i2l (v := v9.toInt64) C.1.1 C.1.2.1 d_Mod_reads_130 rfl ?_
            refine lv_lor C.1.1 C.1.2.1 d_Mod_reads_131 ?_
            refine lv_lstore (lv' := [(5, .long ((x5 <<< ((8 : Int32).toInt64 &&& 63)) ||| v9.toInt64)), (0, .ref x0), (1, .int x1), (2, .int x2), (3, .int x3), (7, .int x7)]) C.1.1 C.1.2.1 d_Mod_reads_132 hl (by decide) rfl (fun ls hl => ?_)
            refine lv_iinc (v := x3 + (1 : Int32)) (lv' := [(3, .int (x3 + (1 : Int32))), (5, .long ((x5 <<< ((8 : Int32).toInt64 &&& 63)) ||| v9.toInt64)), (0, .ref x0), (1, .int x1), (2, .int x2), (7, .int x7)]) C.1.1 C.1.2.1 d_Mod_reads_134 hl (k := 4) rfl rfl (by decide) rfl (fun ls hl => ?_)
            refine lv_iinc (v := x7 + (1 : Int32)) (lv' := [(7, .int (x7 + (1 : Int32))), (3, .int (x3 + (1 : Int32))), (5, .long ((x5 <<< ((8 : Int32).toInt64 &&& 63)) ||| v9.toInt64)), (0, .ref x0), (1, .int x1), (2, .int x2)]) C.1.1 C.1.2.1 d_Mod_reads_137 hl (k := 5) rfl rfl (by decide) rfl (fun ls hl => ?_)
            refine lv_goto (tgt := 95) C.1.1 C.1.2.1 d_Mod_reads_140 (by decide) ?_
            exact ih (x3 + (1 : Int32)) ((x5 <<< ((8 : Int32).toInt64 &&& 63)) ||| v9.toInt64) (x7 + (1 : Int32)) h.1 (Nat.lt_of_lt_of_le h.2 (Nat.le_of_lt_succ hn)) _ _ _ hM hS (lv_sub hl [3, 4, 5, 1, 2, 0] rfl)
  exact key _ x3 x5 x7 hI (Nat.lt_succ_self _)
def wp_Mod_reads_b87 (g : Nat → ClassId) (P : Int32 → Mem → Prop) (J25 : Int32 → Int32 → Mem → Prop) (M : Mem) (x0 : Nat) (x1 : Int32) (x2 : Int32) (x3 : Int32) (t0 : Int64) : Prop :=
  wp_Mod_reads_b143 g P J25 M x0 x1 x2 (x3 + (1 : Int32)) t0
set_option maxHeartbeats 4000000 in
set_option maxRecDepth 100000 in
theorem t_Mod_reads_b87 {l : Launch} {D : va_G} {g : Nat → ClassId} {p : Program} {e : Env} {s : State} {m : MethodId} {args : Array Value} {below : List Frame} {meth : Method} {c : Code} {M0 : Mem} {P : Int32 → Mem → Prop} {J25 : Int32 → Int32 → Mem → Prop} {M : Mem} {x0 : Nat} {x1 : Int32} {x2 : Int32} {x3 : Int32} {t0 : Int64} (C : C_Mod_reads D g p s m args meth c M0) (h : wp_Mod_reads_b87 g P J25 M x0 x1 x2 x3 t0) (kJ25 : ∀ (x3 : Int32) (x4 : Int32) (M : Mem), J25 x3 x4 M → B_Mod_reads l D p e s m args below meth c M0 P M 25 [(0, .ref x0), (1, .int x1), (2, .int x2), (3, .int x3), (4, .int x4)] []) : B_Mod_reads l D p e s m args below meth c M0 P M 87 [(0, .ref x0), (1, .int x1), (2, .int x2), (3, .int x3)] [.long t0] := by
  intro ls H locs hM hS hl
  unfold wp_Mod_reads_b87 at h
  refine lv_lstore (lv' := [(5, .long t0), (0, .ref x0), (1, .int x1), (2, .int x2), (3, .int x3)]) C.1.1 C.1.2.1 d_Mod_reads_87 hl (by decide) rfl (fun ls hl => ?_)
  refine lv_iinc (v := x3 + (1 : Int32)) (lv' := [(3, .int (x3 + (1 : Int32))), (5, .long t0), (0, .ref x0), (1, .int x1), (2, .int x2)]) C.1.1 C.1.2.1 d_Mod_reads_89 hl (k := 4) rfl rfl (by decide) rfl (fun ls hl => ?_)
  refine lv_goto (tgt := 143) C.1.1 C.1.2.1 d_Mod_reads_92 (by decide) ?_
  exact t_Mod_reads_b143 C h kJ25 _ _ _ hM hS (lv_sub hl [2, 3, 4, 0, 1] rfl)
def wp_Mod_reads_b67 (g : Nat → ClassId) (P : Int32 → Mem → Prop) (J25 : Int32 → Int32 → Mem → Prop) (M : Mem) (x0 : Nat) (x1 : Int32) (x2 : Int32) (x3 : Int32) : Prop :=
  ∃ v1 : Nat, gR M 6 x0 1 = some v1 ∧ (∃ v2 : Int32, aI M (g 2) v1 x3 = some v2 ∧ ((v2 = (42 : Int32) → (wp_Mod_reads_b87 g P J25 M x0 x1 x2 x3 (-1 : Int64))) ∧ (¬ v2 = (42 : Int32) → (wp_Mod_reads_b87 g P J25 M x0 x1 x2 x3 (-2 : Int64)))))
set_option maxHeartbeats 4000000 in
set_option maxRecDepth 100000 in
theorem t_Mod_reads_b67 {l : Launch} {D : va_G} {g : Nat → ClassId} {p : Program} {e : Env} {s : State} {m : MethodId} {args : Array Value} {below : List Frame} {meth : Method} {c : Code} {M0 : Mem} {P : Int32 → Mem → Prop} {J25 : Int32 → Int32 → Mem → Prop} {M : Mem} {x0 : Nat} {x1 : Int32} {x2 : Int32} {x3 : Int32} (C : C_Mod_reads D g p s m args meth c M0) (h : wp_Mod_reads_b67 g P J25 M x0 x1 x2 x3 ) (kJ25 : ∀ (x3 : Int32) (x4 : Int32) (M : Mem), J25 x3 x4 M → B_Mod_reads l D p e s m args below meth c M0 P M 25 [(0, .ref x0), (1, .int x1), (2, .int x2), (3, .int x3), (4, .int x4)] []) : B_Mod_reads l D p e s m args below meth c M0 P M 67 [(0, .ref x0), (1, .int x1), (2, .int x2), (3, .int x3)] [] := by
  intro ls H locs hM hS hl
  unfold wp_Mod_reads_b67 at h
  refine lv_aload_n C.1.1 C.1.2.1 d_Mod_reads_67 rfl (lv_at hl 0 rfl) ?_
  obtain ⟨v1, ev1, h⟩ := h
  refine mg_R C.1 hM ok_Mod (by decide) kw6 ev1 d_Mod_reads_68 ?_
  refine lv_iload_n C.1.1 C.1.2.1 d_Mod_reads_71 rfl (lv_at hl 3 rfl) ?_
  obtain ⟨v2, ev2, h⟩ := h
  refine ma_I C.1 hM 2 rfl ev2 d_Mod_reads_72 ?_
  refine lv_bipush (v := (42 : Int32)) C.1.1 C.1.2.1 d_Mod_reads_73 (by decide) ?_
  refine lv_icmp_ne (tgt := 84) C.1.1 C.1.2.1 d_Mod_reads_75 (by decide) (fun c3 => ?_) (fun c3 => ?_)
  · have h := h.2 c3
    refine lv_ldc2 (v := (-2 : Int64)) C.1.1 C.1.2.1 C.1.2.2.2.1 (C.1.2.2.2.2.1 _ kw31) d_Mod_reads_84 ?_
    exact t_Mod_reads_b87 C h kJ25 _ _ _ hM hS (lv_sub hl [0, 1, 2, 3] rfl)
  · have h := h.1 c3
    refine lv_ldc2 (v := (-1 : Int64)) C.1.1 C.1.2.1 C.1.2.2.2.1 (C.1.2.2.2.2.1 _ kw32) d_Mod_reads_78 ?_
    refine lv_goto (tgt := 87) C.1.1 C.1.2.1 d_Mod_reads_81 (by decide) ?_
    exact t_Mod_reads_b87 C h kJ25 _ _ _ hM hS (lv_sub hl [0, 1, 2, 3] rfl)
def wp_Mod_reads_b25 (g : Nat → ClassId) (P : Int32 → Mem → Prop) (M : Mem) (x0 : Nat) (x1 : Int32) (x2 : Int32) (x3 : Int32) (x4 : Int32) : Prop :=
  ∃ (I : Int32 → Int32 → Mem → Prop) (μ : Int32 → Int32 → Mem → Nat), I x3 x4 M ∧ ∀ (x3 : Int32) (x4 : Int32) (M : Mem), I x3 x4 M →
  (x4 = 0 → (∃ M2 : Mem, pV M 6 x0 6 (.int x2) = some M2 ∧ (wp_Mod_reads_b231 g P M2 x0 x2 (0 : Int32)))) ∧ (¬ x4 = 0 → ((x1 = 0 → (wp_Mod_reads_b95 g P (fun y3 y4 N => I y3 y4 N ∧ μ y3 y4 N < μ x3 x4 M) M x0 x1 x2 x3 (0 : Int64) (0 : Int32))) ∧ (¬ x1 = 0 → ((x2 ≤ x3 → (wp_Mod_reads_b95 g P (fun y3 y4 N => I y3 y4 N ∧ μ y3 y4 N < μ x3 x4 M) M x0 x1 x2 x3 (0 : Int64) (0 : Int32))) ∧ (¬ x2 ≤ x3 → (∃ v5 : Nat, gR M 6 x0 1 = some v5 ∧ (∃ v6 : Int32, aI M (g 2) v5 x3 = some v6 ∧ ((v6 = (42 : Int32) → (wp_Mod_reads_b67 g P (fun y3 y4 N => I y3 y4 N ∧ μ y3 y4 N < μ x3 x4 M) M x0 x1 x2 x3)) ∧ (¬ v6 = (42 : Int32) → (∃ v8 : Nat, gR M 6 x0 1 = some v8 ∧ (∃ v9 : Int32, aI M (g 2) v8 x3 = some v9 ∧ ((v9 = (35 : Int32) → (wp_Mod_reads_b67 g P (fun y3 y4 N => I y3 y4 N ∧ μ y3 y4 N < μ x3 x4 M) M x0 x1 x2 x3)) ∧ (¬ v9 = (35 : Int32) → (wp_Mod_reads_b95 g P (fun y3 y4 N => I y3 y4 N ∧ μ y3 y4 N < μ x3 x4 M) M x0 x1 x2 x3 (0 : Int64) (0 : Int32)))))))))))))))
set_option maxHeartbeats 4000000 in
set_option maxRecDepth 100000 in
theorem t_Mod_reads_b25 {l : Launch} {D : va_G} {g : Nat → ClassId} {p : Program} {e : Env} {s : State} {m : MethodId} {args : Array Value} {below : List Frame} {meth : Method} {c : Code} {M0 : Mem} {P : Int32 → Mem → Prop} {M : Mem} {x0 : Nat} {x1 : Int32} {x2 : Int32} {x3 : Int32} {x4 : Int32} (C : C_Mod_reads D g p s m args meth c M0) (h : wp_Mod_reads_b25 g P M x0 x1 x2 x3 x4 ) : B_Mod_reads l D p e s m args below meth c M0 P M 25 [(0, .ref x0), (1, .int x1), (2, .int x2), (3, .int x3), (4, .int x4)] [] := by
  unfold wp_Mod_reads_b25 at h
  obtain ⟨I, μ, hI, hb⟩ := h
  have key : ∀ (n : Nat) (x3 : Int32) (x4 : Int32) (M : Mem), I x3 x4 M → μ x3 x4 M < n → B_Mod_reads l D p e s m args below meth c M0 P M 25 [(0, .ref x0), (1, .int x1), (2, .int x2), (3, .int x3), (4, .int x4)] [] := by
    intro n
    induction n with
    | zero => intro x3 x4 M _ hn; exact absurd hn (Nat.not_lt_zero _)
    | succ n ih =>
      intro x3 x4 M hI hn ls H locs hM hS hl
      have h := hb x3 x4 M hI
      refine lv_iload C.1.1 C.1.2.1 d_Mod_reads_25 (lv_at hl 4 rfl) ?_
      refine lv_if_eq (tgt := 223) C.1.1 C.1.2.1 d_Mod_reads_27 (by decide) (fun c1 => ?_) (fun c1 => ?_)
      · have h := h.1 c1
        refine lv_aload_n C.1.1 C.1.2.1 d_Mod_reads_223 rfl (lv_at hl 0 rfl) ?_
        refine lv_iload_n C.1.1 C.1.2.1 d_Mod_reads_224 rfl (lv_at hl 2 rfl) ?_
        obtain ⟨M2, eM2, h⟩ := h
        refine mp_V C.1 hM hS ok_Mod (by decide) kw33 rfl rfl rfl eM2 d_Mod_reads_225 (fun H locs hM hS => ?_)
        refine lv_iconst (v := (0 : Int32)) C.1.1 C.1.2.1 d_Mod_reads_228 (by decide) ?_
        refine lv_istore (lv' := [(5, .int (0 : Int32)), (0, .ref x0), (1, .int x1), (2, .int x2), (3, .int x3), (4, .int x4)]) C.1.1 C.1.2.1 d_Mod_reads_229 hl (by decide) rfl (fun ls hl => ?_)
        exact t_Mod_reads_b231 C h _ _ _ hM hS (lv_sub hl [1, 3, 0] rfl)
      · have h := h.2 c1
        refine lv_lconst (v := (0 : Int64)) C.1.1 C.1.2.1 d_Mod_reads_30 (by decide) ?_
        refine lv_lstore (lv' := [(5, .long (0 : Int64)), (0, .ref x0), (1, .int x1), (2, .int x2), (3, .int x3), (4, .int x4)]) C.1.1 C.1.2.1 d_Mod_reads_31 hl (by decide) rfl (fun ls hl => ?_)
        refine lv_iconst (v := (0 : Int32)) C.1.1 C.1.2.1 d_Mod_reads_33 (by decide) ?_
        refine lv_istore (lv' := [(7, .int (0 : Int32)), (5, .long (0 : Int64)), (0, .ref x0), (1, .int x1), (2, .int x2), (3, .int x3), (4, .int x4)]) C.1.1 C.1.2.1 d_Mod_reads_34 hl (by decide) rfl (fun ls hl => ?_)
        refine lv_iload_n C.1.1 C.1.2.1 d_Mod_reads_36 rfl (lv_at hl 3 rfl) ?_
        refine lv_if_eq (tgt := 95) C.1.1 C.1.2.1 d_Mod_reads_37 (by decide) (fun c3 => ?_) (fun c3 => ?_)
        · have h := h.1 c3
          exact t_Mod_reads_b95 C h (fun y3 y4 N hJ => ih y3 y4 N hJ.1 (Nat.lt_of_lt_of_le hJ.2 (Nat.le_of_lt_succ hn))) _ _ _ hM hS (lv_sub hl [2, 3, 4, 5, 1, 0] rfl)
        · have h := h.2 c3
          refine lv_iload_n C.1.1 C.1.2.1 d_Mod_reads_40 rfl (lv_at hl 5 rfl) ?_
          refine lv_iload_n C.1.1 C.1.2.1 d_Mod_reads_41 rfl (lv_at hl 4 rfl) ?_
          refine lv_icmp_ge (tgt := 95) C.1.1 C.1.2.1 d_Mod_reads_42 (by decide) (fun c4 => ?_) (fun c4 => ?_)
          · have h := h.1 c4
            exact t_Mod_reads_b95 C h (fun y3 y4 N hJ => ih y3 y4 N hJ.1 (Nat.lt_of_lt_of_le hJ.2 (Nat.le_of_lt_succ hn))) _ _ _ hM hS (lv_sub hl [2, 3, 4, 5, 1, 0] rfl)
          · have h := h.2 c4
            refine lv_aload_n C.1.1 C.1.2.1 d_Mod_reads_45 rfl (lv_at hl 2 rfl) ?_
            obtain ⟨v5, ev5, h⟩ := h
            refine mg_R C.1 hM ok_Mod (by decide) kw6 ev5 d_Mod_reads_46 ?_
            refine lv_iload_n C.1.1 C.1.2.1 d_Mod_reads_49 rfl (lv_at hl 5 rfl) ?_
            obtain ⟨v6, ev6, h⟩ := h
            refine ma_I C.1 hM 2 rfl ev6 d_Mod_reads_50 ?_
            refine lv_bipush (v := (42 : Int32)) C.1.1 C.1.2.1 d_Mod_reads_51 (by decide) ?_
            refine lv_icmp_eq (tgt := 67) C.1.1 C.1.2.1 d_Mod_reads_53 (by decide) (fun c7 => ?_) (fun c7 => ?_)
            · have h := h.1 c7
              exact t_Mod_reads_b67 C h (fun y3 y4 N hJ => ih y3 y4 N hJ.1 (Nat.lt_of_lt_of_le hJ.2 (Nat.le_of_lt_succ hn))) _ _ _ hM hS (lv_sub hl [2, 3, 4, 5] rfl)
            · have h := h.2 c7
              refine lv_aload_n C.1.1 C.1.2.1 d_Mod_reads_56 rfl (lv_at hl 2 rfl) ?_
              obtain ⟨v8, ev8, h⟩ := h
              refine mg_R C.1 hM ok_Mod (by decide) kw6 ev8 d_Mod_reads_57 ?_
              refine lv_iload_n C.1.1 C.1.2.1 d_Mod_reads_60 rfl (lv_at hl 5 rfl) ?_
              obtain ⟨v9, ev9, h⟩ := h
              refine ma_I C.1 hM 2 rfl ev9 d_Mod_reads_61 ?_
              refine lv_bipush (v := (35 : Int32)) C.1.1 C.1.2.1 d_Mod_reads_62 (by decide) ?_
              refine lv_icmp_ne (tgt := 95) C.1.1 C.1.2.1 d_Mod_reads_64 (by decide) (fun c10 => ?_) (fun c10 => ?_)
              · have h := h.2 c10
                exact t_Mod_reads_b95 C h (fun y3 y4 N hJ => ih y3 y4 N hJ.1 (Nat.lt_of_lt_of_le hJ.2 (Nat.le_of_lt_succ hn))) _ _ _ hM hS (lv_sub hl [2, 3, 4, 5, 1, 0] rfl)
              · have h := h.1 c10
                exact t_Mod_reads_b67 C h (fun y3 y4 N hJ => ih y3 y4 N hJ.1 (Nat.lt_of_lt_of_le hJ.2 (Nat.le_of_lt_succ hn))) _ _ _ hM hS (lv_sub hl [2, 3, 4, 5] rfl)
  exact key _ x3 x4 M hI (Nat.lt_succ_self _)
def wp_Mod_reads (g : Nat → ClassId) (M : Mem) (x0 : Nat) (x1 : Int32) (P : Int32 → Mem → Prop) : Prop :=
  ∃ v1 : Int32, gI M 6 x0 2 = some v1 ∧ (∃ M2 : Mem, pV M 6 x0 2 (.int (0 : Int32)) = some M2 ∧ (∃ M3 : Mem, pV M2 6 x0 5 (.int (0 : Int32)) = some M3 ∧ (∃ M4 : Mem, pV M3 6 x0 3 (.int (-1 : Int32)) = some M4 ∧ (wp_Mod_reads_b25 g P M4 x0 x1 v1 (0 : Int32) (1 : Int32)))))
set_option maxHeartbeats 4000000 in
set_option maxRecDepth 100000 in
theorem c_Mod_reads {l : Launch} {D : va_G} {g : Nat → ClassId} {M : Mem} {x0 : Nat} {x1 : Int32} {P : Int32 → Mem → Prop} (h : wp_Mod_reads g M x0 x1 P) : mMet l BIG D vwCl (tysG g) y_Mod_reads b_Mod_reads 8 (some .boolean) rm_Mod_reads [.ref x0, .int x1] M (kI fun r M' => P r M') := by
  refine mMet.of (own := R_Mod) rfl (by decide) rfl (fun p e s m below meth c C hr hlk hnm ls hM hS hl => ?_)
  have C : C_Mod_reads D g p s m ([.ref x0, .int x1] : List Value).toArray meth c M := ⟨C, hr, hlk⟩
  unfold wp_Mod_reads at h
  have hl : lv_has ls 8 [(0, .ref x0), (1, .int x1)] := hl
  refine lv_aload_n C.1.1 C.1.2.1 d_Mod_reads_0 rfl (lv_at hl 0 rfl) ?_
  obtain ⟨v1, ev1, h⟩ := h
  refine mg_I C.1 hM ok_Mod (by decide) kw24 ev1 d_Mod_reads_1 ?_
  refine lv_istore_n (lv' := [(2, .int v1), (0, .ref x0), (1, .int x1)]) C.1.1 C.1.2.1 d_Mod_reads_4 rfl hl (by decide) rfl (fun ls hl => ?_)
  refine lv_aload_n C.1.1 C.1.2.1 d_Mod_reads_5 rfl (lv_at hl 1 rfl) ?_
  refine lv_iconst (v := (0 : Int32)) C.1.1 C.1.2.1 d_Mod_reads_6 (by decide) ?_
  obtain ⟨M2, eM2, h⟩ := h
  refine mp_V C.1 hM hS ok_Mod (by decide) kw24 rfl rfl rfl eM2 d_Mod_reads_7 (fun H locs hM hS => ?_)
  refine lv_aload_n C.1.1 C.1.2.1 d_Mod_reads_10 rfl (lv_at hl 1 rfl) ?_
  refine lv_iconst (v := (0 : Int32)) C.1.1 C.1.2.1 d_Mod_reads_11 (by decide) ?_
  obtain ⟨M3, eM3, h⟩ := h
  refine mp_V C.1 hM hS ok_Mod (by decide) kw26 rfl rfl rfl eM3 d_Mod_reads_12 (fun H locs hM hS => ?_)
  refine lv_aload_n C.1.1 C.1.2.1 d_Mod_reads_15 rfl (lv_at hl 1 rfl) ?_
  refine lv_iconst (v := (-1 : Int32)) C.1.1 C.1.2.1 d_Mod_reads_16 (by decide) ?_
  obtain ⟨M4, eM4, h⟩ := h
  refine mp_V C.1 hM hS ok_Mod (by decide) kw7 rfl rfl rfl eM4 d_Mod_reads_17 (fun H locs hM hS => ?_)
  refine lv_iconst (v := (0 : Int32)) C.1.1 C.1.2.1 d_Mod_reads_20 (by decide) ?_
  refine lv_istore_n (lv' := [(3, .int (0 : Int32)), (2, .int v1), (0, .ref x0), (1, .int x1)]) C.1.1 C.1.2.1 d_Mod_reads_21 rfl hl (by decide) rfl (fun ls hl => ?_)
  refine lv_iconst (v := (1 : Int32)) C.1.1 C.1.2.1 d_Mod_reads_22 (by decide) ?_
  refine lv_istore (lv' := [(4, .int (1 : Int32)), (3, .int (0 : Int32)), (2, .int v1), (0, .ref x0), (1, .int x1)]) C.1.1 C.1.2.1 d_Mod_reads_23 hl (by decide) rfl (fun ls hl => ?_)
  exact t_Mod_reads_b25 C h _ _ _ hM hS (lv_sub hl [3, 4, 2, 1, 0] rfl)
theorem d_Mod_spread_0 : decode b_Mod_spread 0 = .ok (.iload_n 3, 1) := by decide +kernel
theorem d_Mod_spread_1 : decode b_Mod_spread 1 = .ok (.istore 4, 2) := by decide +kernel
theorem d_Mod_spread_3 : decode b_Mod_spread 3 = .ok (.iconst 0, 1) := by decide +kernel
theorem d_Mod_spread_4 : decode b_Mod_spread 4 = .ok (.istore 5, 2) := by decide +kernel
theorem d_Mod_spread_6 : decode b_Mod_spread 6 = .ok (.iload 5, 2) := by decide +kernel
theorem d_Mod_spread_8 : decode b_Mod_spread 8 = .ok (.iload_n 2, 1) := by decide +kernel
theorem d_Mod_spread_9 : decode b_Mod_spread 9 = .ok (.if_icmp .ge 44, 3) := by decide +kernel
theorem d_Mod_spread_12 : decode b_Mod_spread 12 = .ok (.iload 4, 2) := by decide +kernel
theorem d_Mod_spread_14 : decode b_Mod_spread 14 = .ok (.iload 5, 2) := by decide +kernel
theorem d_Mod_spread_16 : decode b_Mod_spread 16 = .ok (.ishr, 1) := by decide +kernel
theorem d_Mod_spread_17 : decode b_Mod_spread 17 = .ok (.iconst 1, 1) := by decide +kernel
theorem d_Mod_spread_18 : decode b_Mod_spread 18 = .ok (.iand, 1) := by decide +kernel
theorem d_Mod_spread_19 : decode b_Mod_spread 19 = .ok (.iconst 1, 1) := by decide +kernel
theorem d_Mod_spread_20 : decode b_Mod_spread 20 = .ok (.if_icmp .ne 27, 3) := by decide +kernel
theorem d_Mod_spread_23 : decode b_Mod_spread 23 = .ok (.aload_n 0, 1) := by decide +kernel
theorem d_Mod_spread_24 : decode b_Mod_spread 24 = .ok (.iload_n 1, 1) := by decide +kernel
theorem d_Mod_spread_25 : decode b_Mod_spread 25 = .ok (.iload 5, 2) := by decide +kernel
theorem d_Mod_spread_27 : decode b_Mod_spread 27 = .ok (.iadd, 1) := by decide +kernel
theorem d_Mod_spread_28 : decode b_Mod_spread 28 = .ok (.laload, 1) := by decide +kernel
theorem d_Mod_spread_29 : decode b_Mod_spread 29 = .ok (.ldc2_w 76, 3) := by decide +kernel
theorem d_Mod_spread_32 : decode b_Mod_spread 32 = .ok (.lcmp, 1) := by decide +kernel
theorem d_Mod_spread_33 : decode b_Mod_spread 33 = .ok (.ifCond .ne 14, 3) := by decide +kernel
theorem d_Mod_spread_36 : decode b_Mod_spread 36 = .ok (.iload 4, 2) := by decide +kernel
theorem d_Mod_spread_38 : decode b_Mod_spread 38 = .ok (.iconst 1, 1) := by decide +kernel
theorem d_Mod_spread_39 : decode b_Mod_spread 39 = .ok (.iload 5, 2) := by decide +kernel
theorem d_Mod_spread_41 : decode b_Mod_spread 41 = .ok (.iconst 1, 1) := by decide +kernel
theorem d_Mod_spread_42 : decode b_Mod_spread 42 = .ok (.iadd, 1) := by decide +kernel
theorem d_Mod_spread_43 : decode b_Mod_spread 43 = .ok (.ishl, 1) := by decide +kernel
theorem d_Mod_spread_44 : decode b_Mod_spread 44 = .ok (.ior, 1) := by decide +kernel
theorem d_Mod_spread_45 : decode b_Mod_spread 45 = .ok (.istore 4, 2) := by decide +kernel
theorem d_Mod_spread_47 : decode b_Mod_spread 47 = .ok (.iinc 5 1, 3) := by decide +kernel
theorem d_Mod_spread_50 : decode b_Mod_spread 50 = .ok (.goto (-44), 3) := by decide +kernel
theorem d_Mod_spread_53 : decode b_Mod_spread 53 = .ok (.iload 4, 2) := by decide +kernel
theorem d_Mod_spread_55 : decode b_Mod_spread 55 = .ok (.ireturn, 1) := by decide +kernel
abbrev rm_Mod_spread : Room := { frames := 0, cells := 0, slots := 0, locals := 0 }
abbrev C_Mod_spread (D : va_G) (g : Nat → ClassId) (p : Program) (s : State) (m : MethodId) (args : Array Value) (meth : Method) (c : Code) (M0 : Mem) : Prop := Cx p s m args c b_Mod_spread 6 R_Mod BIG D vwCl (tysG g) (mA M0 s.heap.size) ∧ meth.sig.returnType = (some .int) ∧ meth.locks = false
abbrev B_Mod_spread (l : Launch) (D : va_G) (p : Program) (e : Env) (s : State) (m : MethodId) (args : Array Value) (below : List Frame) (meth : Method) (c : Code) (M0 : Mem) (P : Int32 → Prop) (M : Mem) (pc : Nat) (lv : List (Nat × Value)) (st : List Value) : Prop := Wb p l e rm_Mod_spread s m args below meth c 6 D vwCl M0 (kI fun r M' => M0 = M' ∧ P r) 0 0 M pc lv st
def wp_Mod_spread_b47 (g : Nat → ClassId) (P : Int32 → Prop) (J6 : Int32 → Int32 → Prop) (M : Mem) (x0 : Nat) (x1 : Int32) (x2 : Int32) (x4 : Int32) (x5 : Int32) : Prop :=
  J6 x4 (x5 + (1 : Int32))
set_option maxHeartbeats 4000000 in
set_option maxRecDepth 100000 in
theorem t_Mod_spread_b47 {l : Launch} {D : va_G} {g : Nat → ClassId} {p : Program} {e : Env} {s : State} {m : MethodId} {args : Array Value} {below : List Frame} {meth : Method} {c : Code} {P : Int32 → Prop} {J6 : Int32 → Int32 → Prop} {M : Mem} {x0 : Nat} {x1 : Int32} {x2 : Int32} {x4 : Int32} {x5 : Int32} (C : C_Mod_spread D g p s m args meth c M) (h : wp_Mod_spread_b47 g P J6 M x0 x1 x2 x4 x5 ) (kJ6 : ∀ (x4 : Int32) (x5 : Int32), J6 x4 x5 → B_Mod_spread l D p e s m args below meth c M P M 6 [(0, .ref x0), (1, .int x1), (2, .int x2), (4, .int x4), (5, .int x5)] []) : B_Mod_spread l D p e s m args below meth c M P M 47 [(0, .ref x0), (1, .int x1), (2, .int x2), (4, .int x4), (5, .int x5)] [] := by
  intro ls H locs hM hS hl
  unfold wp_Mod_spread_b47 at h
  refine lv_iinc (v := x5 + (1 : Int32)) (lv' := [(5, .int (x5 + (1 : Int32))), (0, .ref x0), (1, .int x1), (2, .int x2), (4, .int x4)]) C.1.1 C.1.2.1 d_Mod_spread_47 hl (k := 4) rfl rfl (by decide) rfl (fun ls hl => ?_)
  refine lv_goto (tgt := 6) C.1.1 C.1.2.1 d_Mod_spread_50 (by decide) ?_
  exact kJ6 x4 (x5 + (1 : Int32)) h _ _ _ hM hS (lv_sub hl [1, 2, 3, 4, 0] rfl)
def wp_Mod_spread_b6 (g : Nat → ClassId) (P : Int32 → Prop) (M : Mem) (x0 : Nat) (x1 : Int32) (x2 : Int32) (x4 : Int32) (x5 : Int32) : Prop :=
  ∃ (I : Int32 → Int32 → Prop) (μ : Int32 → Int32 → Nat), I x4 x5 ∧ ∀ (x4 : Int32) (x5 : Int32), I x4 x5 →
  (x2 ≤ x5 → (P x4)) ∧ (¬ x2 ≤ x5 → ((((x4 >>> (x5 &&& 31)) &&& (1 : Int32)) = (1 : Int32) → (∃ v3 : Int64, aL M (g 1) x0 (x1 + x5) = some v3 ∧ (((lg_cmp v3 (-2 : Int64)) = 0 → (wp_Mod_spread_b47 g P (fun y4 y5 => I y4 y5 ∧ μ y4 y5 < μ x4 x5) M x0 x1 x2 (x4 ||| ((1 : Int32) <<< ((x5 + (1 : Int32)) &&& 31))) x5)) ∧ (¬ (lg_cmp v3 (-2 : Int64)) = 0 → (wp_Mod_spread_b47 g P (fun y4 y5 => I y4 y5 ∧ μ y4 y5 < μ x4 x5) M x0 x1 x2 x4 x5))))) ∧ (¬ ((x4 >>> (x5 &&& 31)) &&& (1 : Int32)) = (1 : Int32) → (wp_Mod_spread_b47 g P (fun y4 y5 => I y4 y5 ∧ μ y4 y5 < μ x4 x5) M x0 x1 x2 x4 x5))))
set_option maxHeartbeats 4000000 in
set_option maxRecDepth 100000 in
theorem t_Mod_spread_b6 {l : Launch} {D : va_G} {g : Nat → ClassId} {p : Program} {e : Env} {s : State} {m : MethodId} {args : Array Value} {below : List Frame} {meth : Method} {c : Code} {P : Int32 → Prop} {M : Mem} {x0 : Nat} {x1 : Int32} {x2 : Int32} {x4 : Int32} {x5 : Int32} (C : C_Mod_spread D g p s m args meth c M) (h : wp_Mod_spread_b6 g P M x0 x1 x2 x4 x5 ) : B_Mod_spread l D p e s m args below meth c M P M 6 [(0, .ref x0), (1, .int x1), (2, .int x2), (4, .int x4), (5, .int x5)] [] := by
  unfold wp_Mod_spread_b6 at h
  obtain ⟨I, μ, hI, hb⟩ := h
  have key : ∀ (n : Nat) (x4 : Int32) (x5 : Int32), I x4 x5 → μ x4 x5 < n → B_Mod_spread l D p e s m args below meth c M P M 6 [(0, .ref x0), (1, .int x1), (2, .int x2), (4, .int x4), (5, .int x5)] [] := by
    intro n
    induction n with
    | zero => intro x4 x5 _ hn; exact absurd hn (Nat.not_lt_zero _)
    | succ n ih =>
      intro x4 x5 hI hn ls H locs hM hS hl
      have h := hb x4 x5 hI
      refine lv_iload C.1.1 C.1.2.1 d_Mod_spread_6 (lv_at hl 4 rfl) ?_
      refine lv_iload_n C.1.1 C.1.2.1 d_Mod_spread_8 rfl (lv_at hl 2 rfl) ?_
      refine lv_icmp_ge (tgt := 53) C.1.1 C.1.2.1 d_Mod_spread_9 (by decide) (fun c1 => ?_) (fun c1 => ?_)
      · have h := h.1 c1
        refine lv_iload C.1.1 C.1.2.1 d_Mod_spread_53 (lv_at hl 3 rfl) ?_
        exact mr_I C.1 C.2.1 C.2.2 hM hS ⟨_, rfl, rfl, h⟩ d_Mod_spread_55
      · have h := h.2 c1
        refine lv_iload C.1.1 C.1.2.1 d_Mod_spread_12 (lv_at hl 3 rfl) ?_
        refine lv_iload C.1.1 C.1.2.1 d_Mod_spread_14 (lv_at hl 4 rfl) ?_
        refine lv_ishr C.1.1 C.1.2.1 d_Mod_spread_16 ?_
        refine lv_iconst (v := (1 : Int32)) C.1.1 C.1.2.1 d_Mod_spread_17 (by decide) ?_
        refine lv_iand C.1.1 C.1.2.1 d_Mod_spread_18 ?_
        refine lv_iconst (v := (1 : Int32)) C.1.1 C.1.2.1 d_Mod_spread_19 (by decide) ?_
        refine lv_icmp_ne (tgt := 47) C.1.1 C.1.2.1 d_Mod_spread_20 (by decide) (fun c2 => ?_) (fun c2 => ?_)
        · have h := h.2 c2
          exact t_Mod_spread_b47 C h (fun y4 y5 hJ => ih y4 y5 hJ.1 (Nat.lt_of_lt_of_le hJ.2 (Nat.le_of_lt_succ hn))) _ _ _ hM hS (lv_sub hl [0, 1, 2, 3, 4] rfl)
        · have h := h.1 c2
          refine lv_aload_n C.1.1 C.1.2.1 d_Mod_spread_23 rfl (lv_at hl 0 rfl) ?_
          refine lv_iload_n C.1.1 C.1.2.1 d_Mod_spread_24 rfl (lv_at hl 1 rfl) ?_
          refine lv_iload C.1.1 C.1.2.1 d_Mod_spread_25 (lv_at hl 4 rfl) ?_
          refine lv_iadd C.1.1 C.1.2.1 d_Mod_spread_27 ?_
          obtain ⟨v3, ev3, h⟩ := h
          refine ma_L C.1 hM 1 rfl ev3 d_Mod_spread_28 ?_
          refine lv_ldc2 (v := (-2 : Int64)) C.1.1 C.1.2.1 C.1.2.2.2.1 (C.1.2.2.2.2.1 _ kw31) d_Mod_spread_29 ?_
          refine W.lcmp C.1.1 C.1.2.1 d_Mod_spread_32 ?_
          refine lv_if_ne (tgt := 47) C.1.1 C.1.2.1 d_Mod_spread_33 (by decide) (fun c4 => ?_) (fun c4 => ?_)
          · have h := h.2 c4
            exact t_Mod_spread_b47 C h (fun y4 y5 hJ => ih y4 y5 hJ.1 (Nat.lt_of_lt_of_le hJ.2 (Nat.le_of_lt_succ hn))) _ _ _ hM hS (lv_sub hl [0, 1, 2, 3, 4] rfl)
          · have h := h.1 c4
            refine lv_iload C.1.1 C.1.2.1 d_Mod_spread_36 (lv_at hl 3 rfl) ?_
            refine lv_iconst (v := (1 : Int32)) C.1.1 C.1.2.1 d_Mod_spread_38 (by decide) ?_
            refine lv_iload C.1.1 C.1.2.1 d_Mod_spread_39 (lv_at hl 4 rfl) ?_
            refine lv_iconst (v := (1 : Int32)) C.1.1 C.1.2.1 d_Mod_spread_41 (by decide) ?_
            refine lv_iadd C.1.1 C.1.2.1 d_Mod_spread_42 ?_
            refine lv_ishl C.1.1 C.1.2.1 d_Mod_spread_43 ?_
            refine lv_ior C.1.1 C.1.2.1 d_Mod_spread_44 ?_
            refine lv_istore (lv' := [(4, .int (x4 ||| ((1 : Int32) <<< ((x5 + (1 : Int32)) &&& 31)))), (0, .ref x0), (1, .int x1), (2, .int x2), (5, .int x5)]) C.1.1 C.1.2.1 d_Mod_spread_45 hl (by decide) rfl (fun ls hl => ?_)
            exact t_Mod_spread_b47 C h (fun y4 y5 hJ => ih y4 y5 hJ.1 (Nat.lt_of_lt_of_le hJ.2 (Nat.le_of_lt_succ hn))) _ _ _ hM hS (lv_sub hl [1, 2, 3, 0, 4] rfl)
  exact key _ x4 x5 hI (Nat.lt_succ_self _)
def wp_Mod_spread (g : Nat → ClassId) (M : Mem) (x0 : Nat) (x1 : Int32) (x2 : Int32) (x3 : Int32) (P : Int32 → Prop) : Prop :=
  wp_Mod_spread_b6 g P M x0 x1 x2 x3 (0 : Int32)
set_option maxHeartbeats 4000000 in
set_option maxRecDepth 100000 in
theorem c_Mod_spread {l : Launch} {D : va_G} {g : Nat → ClassId} {M : Mem} {x0 : Nat} {x1 : Int32} {x2 : Int32} {x3 : Int32} {P : Int32 → Prop} (h : wp_Mod_spread g M x0 x1 x2 x3 P) : mMet l BIG D vwCl (tysG g) y_Mod_spread b_Mod_spread 6 (some .int) rm_Mod_spread [.ref x0, .int x1, .int x2, .int x3] M (kI fun r M' => M = M' ∧ P r) := by
  refine mMet.of (own := R_Mod) rfl (by decide) rfl (fun p e s m below meth c C hr hlk hnm ls hM hS hl => ?_)
  have C : C_Mod_spread D g p s m ([.ref x0, .int x1, .int x2, .int x3] : List Value).toArray meth c M := ⟨C, hr, hlk⟩
  unfold wp_Mod_spread at h
  have hl : lv_has ls 6 [(0, .ref x0), (1, .int x1), (2, .int x2), (3, .int x3)] := hl
  refine lv_iload_n C.1.1 C.1.2.1 d_Mod_spread_0 rfl (lv_at hl 3 rfl) ?_
  refine lv_istore (lv' := [(4, .int x3), (0, .ref x0), (1, .int x1), (2, .int x2), (3, .int x3)]) C.1.1 C.1.2.1 d_Mod_spread_1 hl (by decide) rfl (fun ls hl => ?_)
  refine lv_iconst (v := (0 : Int32)) C.1.1 C.1.2.1 d_Mod_spread_3 (by decide) ?_
  refine lv_istore (lv' := [(5, .int (0 : Int32)), (4, .int x3), (0, .ref x0), (1, .int x1), (2, .int x2), (3, .int x3)]) C.1.1 C.1.2.1 d_Mod_spread_4 hl (by decide) rfl (fun ls hl => ?_)
  exact t_Mod_spread_b6 C h _ _ _ hM hS (lv_sub hl [2, 3, 4, 1, 0] rfl)
theorem d_Mod_move_0 : decode b_Mod_move 0 = .ok (.iconst 0, 1) := by decide +kernel
theorem d_Mod_move_1 : decode b_Mod_move 1 = .ok (.istore 6, 2) := by decide +kernel
theorem d_Mod_move_3 : decode b_Mod_move 3 = .ok (.iconst 0, 1) := by decide +kernel
theorem d_Mod_move_4 : decode b_Mod_move 4 = .ok (.istore 7, 2) := by decide +kernel
theorem d_Mod_move_6 : decode b_Mod_move 6 = .ok (.iload 7, 2) := by decide +kernel
theorem d_Mod_move_8 : decode b_Mod_move 8 = .ok (.iload_n 2, 1) := by decide +kernel
theorem d_Mod_move_9 : decode b_Mod_move 9 = .ok (.if_icmp .ge 78, 3) := by decide +kernel
theorem d_Mod_move_12 : decode b_Mod_move 12 = .ok (.iload_n 3, 1) := by decide +kernel
theorem d_Mod_move_13 : decode b_Mod_move 13 = .ok (.iload 7, 2) := by decide +kernel
theorem d_Mod_move_15 : decode b_Mod_move 15 = .ok (.ishr, 1) := by decide +kernel
theorem d_Mod_move_16 : decode b_Mod_move 16 = .ok (.iconst 1, 1) := by decide +kernel
theorem d_Mod_move_17 : decode b_Mod_move 17 = .ok (.iand, 1) := by decide +kernel
theorem d_Mod_move_18 : decode b_Mod_move 18 = .ok (.ifCond .ne 6, 3) := by decide +kernel
theorem d_Mod_move_21 : decode b_Mod_move 21 = .ok (.goto 60, 3) := by decide +kernel
theorem d_Mod_move_24 : decode b_Mod_move 24 = .ok (.aload_n 0, 1) := by decide +kernel
theorem d_Mod_move_25 : decode b_Mod_move 25 = .ok (.iload_n 1, 1) := by decide +kernel
theorem d_Mod_move_26 : decode b_Mod_move 26 = .ok (.iload 7, 2) := by decide +kernel
theorem d_Mod_move_28 : decode b_Mod_move 28 = .ok (.iadd, 1) := by decide +kernel
theorem d_Mod_move_29 : decode b_Mod_move 29 = .ok (.laload, 1) := by decide +kernel
theorem d_Mod_move_30 : decode b_Mod_move 30 = .ok (.lstore 8, 2) := by decide +kernel
theorem d_Mod_move_32 : decode b_Mod_move 32 = .ok (.lload 8, 2) := by decide +kernel
theorem d_Mod_move_34 : decode b_Mod_move 34 = .ok (.ldc2_w 76, 3) := by decide +kernel
theorem d_Mod_move_37 : decode b_Mod_move 37 = .ok (.lcmp, 1) := by decide +kernel
theorem d_Mod_move_38 : decode b_Mod_move 38 = .ok (.ifCond .ne 15, 3) := by decide +kernel
theorem d_Mod_move_41 : decode b_Mod_move 41 = .ok (.iload 6, 2) := by decide +kernel
theorem d_Mod_move_43 : decode b_Mod_move 43 = .ok (.iconst 1, 1) := by decide +kernel
theorem d_Mod_move_44 : decode b_Mod_move 44 = .ok (.iload 7, 2) := by decide +kernel
theorem d_Mod_move_46 : decode b_Mod_move 46 = .ok (.ishl, 1) := by decide +kernel
theorem d_Mod_move_47 : decode b_Mod_move 47 = .ok (.ior, 1) := by decide +kernel
theorem d_Mod_move_48 : decode b_Mod_move 48 = .ok (.istore 6, 2) := by decide +kernel
theorem d_Mod_move_50 : decode b_Mod_move 50 = .ok (.goto 31, 3) := by decide +kernel
theorem d_Mod_move_53 : decode b_Mod_move 53 = .ok (.lload 8, 2) := by decide +kernel
theorem d_Mod_move_55 : decode b_Mod_move 55 = .ok (.ldc2_w 74, 3) := by decide +kernel
theorem d_Mod_move_58 : decode b_Mod_move 58 = .ok (.lcmp, 1) := by decide +kernel
theorem d_Mod_move_59 : decode b_Mod_move 59 = .ok (.ifCond .eq 11, 3) := by decide +kernel
theorem d_Mod_move_62 : decode b_Mod_move 62 = .ok (.lload 8, 2) := by decide +kernel
theorem d_Mod_move_64 : decode b_Mod_move 64 = .ok (.lload 4, 2) := by decide +kernel
theorem d_Mod_move_66 : decode b_Mod_move 66 = .ok (.lcmp, 1) := by decide +kernel
theorem d_Mod_move_67 : decode b_Mod_move 67 = .ok (.ifCond .ne 14, 3) := by decide +kernel
theorem d_Mod_move_70 : decode b_Mod_move 70 = .ok (.iload 6, 2) := by decide +kernel
theorem d_Mod_move_72 : decode b_Mod_move 72 = .ok (.iconst 1, 1) := by decide +kernel
theorem d_Mod_move_73 : decode b_Mod_move 73 = .ok (.iload 7, 2) := by decide +kernel
theorem d_Mod_move_75 : decode b_Mod_move 75 = .ok (.iconst 1, 1) := by decide +kernel
theorem d_Mod_move_76 : decode b_Mod_move 76 = .ok (.iadd, 1) := by decide +kernel
theorem d_Mod_move_77 : decode b_Mod_move 77 = .ok (.ishl, 1) := by decide +kernel
theorem d_Mod_move_78 : decode b_Mod_move 78 = .ok (.ior, 1) := by decide +kernel
theorem d_Mod_move_79 : decode b_Mod_move 79 = .ok (.istore 6, 2) := by decide +kernel
theorem d_Mod_move_81 : decode b_Mod_move 81 = .ok (.iinc 7 1, 3) := by decide +kernel
theorem d_Mod_move_84 : decode b_Mod_move 84 = .ok (.goto (-78), 3) := by decide +kernel
theorem d_Mod_move_87 : decode b_Mod_move 87 = .ok (.aload_n 0, 1) := by decide +kernel
theorem d_Mod_move_88 : decode b_Mod_move 88 = .ok (.iload_n 1, 1) := by decide +kernel
theorem d_Mod_move_89 : decode b_Mod_move 89 = .ok (.iload_n 2, 1) := by decide +kernel
theorem d_Mod_move_90 : decode b_Mod_move 90 = .ok (.iload 6, 2) := by decide +kernel
theorem d_Mod_move_92 : decode b_Mod_move 92 = .ok (.invokestatic 85, 3) := by decide +kernel
theorem d_Mod_move_95 : decode b_Mod_move 95 = .ok (.ireturn, 1) := by decide +kernel
abbrev rm_Mod_move : Room := { frames := 1, cells := 0, slots := 0, locals := 25 }
abbrev C_Mod_move (D : va_G) (g : Nat → ClassId) (p : Program) (s : State) (m : MethodId) (args : Array Value) (meth : Method) (c : Code) (M0 : Mem) : Prop := Cx p s m args c b_Mod_move 10 R_Mod BIG D vwCl (tysG g) (mA M0 s.heap.size) ∧ meth.sig.returnType = (some .int) ∧ meth.locks = false
abbrev B_Mod_move (l : Launch) (D : va_G) (p : Program) (e : Env) (s : State) (m : MethodId) (args : Array Value) (below : List Frame) (meth : Method) (c : Code) (M0 : Mem) (P : Int32 → Prop) (M : Mem) (pc : Nat) (lv : List (Nat × Value)) (st : List Value) : Prop := Wb p l e rm_Mod_move s m args below meth c 10 D vwCl M0 (kI fun r M' => M0 = M' ∧ P r) 0 0 M pc lv st
def wp_Mod_move_b81 (g : Nat → ClassId) (P : Int32 → Prop) (J6 : Int32 → Int32 → Prop) (M : Mem) (x0 : Nat) (x1 : Int32) (x2 : Int32) (x3 : Int32) (x4 : Int64) (x6 : Int32) (x7 : Int32) : Prop :=
  J6 x6 (x7 + (1 : Int32))
set_option maxHeartbeats 4000000 in
set_option maxRecDepth 100000 in
theorem t_Mod_move_b81 {l : Launch} {D : va_G} {g : Nat → ClassId} {p : Program} {e : Env} {s : State} {m : MethodId} {args : Array Value} {below : List Frame} {meth : Method} {c : Code} {P : Int32 → Prop} {J6 : Int32 → Int32 → Prop} {M : Mem} {x0 : Nat} {x1 : Int32} {x2 : Int32} {x3 : Int32} {x4 : Int64} {x6 : Int32} {x7 : Int32} (C : C_Mod_move D g p s m args meth c M) (h : wp_Mod_move_b81 g P J6 M x0 x1 x2 x3 x4 x6 x7 ) (kJ6 : ∀ (x6 : Int32) (x7 : Int32), J6 x6 x7 → B_Mod_move l D p e s m args below meth c M P M 6 [(0, .ref x0), (1, .int x1), (2, .int x2), (3, .int x3), (4, .long x4), (6, .int x6), (7, .int x7)] []) : B_Mod_move l D p e s m args below meth c M P M 81 [(0, .ref x0), (1, .int x1), (2, .int x2), (3, .int x3), (4, .long x4), (6, .int x6), (7, .int x7)] [] := by
  intro ls H locs hM hS hl
  unfold wp_Mod_move_b81 at h
  refine lv_iinc (v := x7 + (1 : Int32)) (lv' := [(7, .int (x7 + (1 : Int32))), (0, .ref x0), (1, .int x1), (2, .int x2), (3, .int x3), (4, .long x4), (6, .int x6)]) C.1.1 C.1.2.1 d_Mod_move_81 hl (k := 6) rfl rfl (by decide) rfl (fun ls hl => ?_)
  refine lv_goto (tgt := 6) C.1.1 C.1.2.1 d_Mod_move_84 (by decide) ?_
  exact kJ6 x6 (x7 + (1 : Int32)) h _ _ _ hM hS (lv_sub hl [1, 2, 3, 4, 5, 6, 0] rfl)
def wp_Mod_move_b70 (g : Nat → ClassId) (P : Int32 → Prop) (J6 : Int32 → Int32 → Prop) (M : Mem) (x0 : Nat) (x1 : Int32) (x2 : Int32) (x3 : Int32) (x4 : Int64) (x6 : Int32) (x7 : Int32) : Prop :=
  wp_Mod_move_b81 g P J6 M x0 x1 x2 x3 x4 (x6 ||| ((1 : Int32) <<< ((x7 + (1 : Int32)) &&& 31))) x7
set_option maxHeartbeats 4000000 in
set_option maxRecDepth 100000 in
theorem t_Mod_move_b70 {l : Launch} {D : va_G} {g : Nat → ClassId} {p : Program} {e : Env} {s : State} {m : MethodId} {args : Array Value} {below : List Frame} {meth : Method} {c : Code} {P : Int32 → Prop} {J6 : Int32 → Int32 → Prop} {M : Mem} {x0 : Nat} {x1 : Int32} {x2 : Int32} {x3 : Int32} {x4 : Int64} {x6 : Int32} {x7 : Int32} (C : C_Mod_move D g p s m args meth c M) (h : wp_Mod_move_b70 g P J6 M x0 x1 x2 x3 x4 x6 x7 ) (kJ6 : ∀ (x6 : Int32) (x7 : Int32), J6 x6 x7 → B_Mod_move l D p e s m args below meth c M P M 6 [(0, .ref x0), (1, .int x1), (2, .int x2), (3, .int x3), (4, .long x4), (6, .int x6), (7, .int x7)] []) : B_Mod_move l D p e s m args below meth c M P M 70 [(0, .ref x0), (1, .int x1), (2, .int x2), (3, .int x3), (4, .long x4), (6, .int x6), (7, .int x7)] [] := by
  intro ls H locs hM hS hl
  unfold wp_Mod_move_b70 at h
  refine lv_iload C.1.1 C.1.2.1 d_Mod_move_70 (lv_at hl 5 rfl) ?_
  refine lv_iconst (v := (1 : Int32)) C.1.1 C.1.2.1 d_Mod_move_72 (by decide) ?_
  refine lv_iload C.1.1 C.1.2.1 d_Mod_move_73 (lv_at hl 6 rfl) ?_
  refine lv_iconst (v := (1 : Int32)) C.1.1 C.1.2.1 d_Mod_move_75 (by decide) ?_
  refine lv_iadd C.1.1 C.1.2.1 d_Mod_move_76 ?_
  refine lv_ishl C.1.1 C.1.2.1 d_Mod_move_77 ?_
  refine lv_ior C.1.1 C.1.2.1 d_Mod_move_78 ?_
  refine lv_istore (lv' := [(6, .int (x6 ||| ((1 : Int32) <<< ((x7 + (1 : Int32)) &&& 31)))), (0, .ref x0), (1, .int x1), (2, .int x2), (3, .int x3), (4, .long x4), (7, .int x7)]) C.1.1 C.1.2.1 d_Mod_move_79 hl (by decide) rfl (fun ls hl => ?_)
  exact t_Mod_move_b81 C h kJ6 _ _ _ hM hS (lv_sub hl [1, 2, 3, 4, 5, 0, 6] rfl)
def wp_Mod_move_b6 (g : Nat → ClassId) (P : Int32 → Prop) (M : Mem) (x0 : Nat) (x1 : Int32) (x2 : Int32) (x3 : Int32) (x4 : Int64) (x6 : Int32) (x7 : Int32) : Prop :=
  ∃ (I : Int32 → Int32 → Prop) (μ : Int32 → Int32 → Nat), I x6 x7 ∧ ∀ (x6 : Int32) (x7 : Int32), I x6 x7 →
  (x2 ≤ x7 → (wp_Mod_spread g M x0 x1 x2 x6 (fun v2 : Int32 => P v2))) ∧ (¬ x2 ≤ x7 → ((((x3 >>> (x7 &&& 31)) &&& (1 : Int32)) = 0 → (wp_Mod_move_b81 g P (fun y6 y7 => I y6 y7 ∧ μ y6 y7 < μ x6 x7) M x0 x1 x2 x3 x4 x6 x7)) ∧ (¬ ((x3 >>> (x7 &&& 31)) &&& (1 : Int32)) = 0 → (∃ v5 : Int64, aL M (g 1) x0 (x1 + x7) = some v5 ∧ (((lg_cmp v5 (-2 : Int64)) = 0 → (wp_Mod_move_b81 g P (fun y6 y7 => I y6 y7 ∧ μ y6 y7 < μ x6 x7) M x0 x1 x2 x3 x4 (x6 ||| ((1 : Int32) <<< (x7 &&& 31))) x7)) ∧ (¬ (lg_cmp v5 (-2 : Int64)) = 0 → (((lg_cmp v5 (-1 : Int64)) = 0 → (wp_Mod_move_b70 g P (fun y6 y7 => I y6 y7 ∧ μ y6 y7 < μ x6 x7) M x0 x1 x2 x3 x4 x6 x7)) ∧ (¬ (lg_cmp v5 (-1 : Int64)) = 0 → (((lg_cmp v5 x4) = 0 → (wp_Mod_move_b70 g P (fun y6 y7 => I y6 y7 ∧ μ y6 y7 < μ x6 x7) M x0 x1 x2 x3 x4 x6 x7)) ∧ (¬ (lg_cmp v5 x4) = 0 → (wp_Mod_move_b81 g P (fun y6 y7 => I y6 y7 ∧ μ y6 y7 < μ x6 x7) M x0 x1 x2 x3 x4 x6 x7)))))))))))
set_option maxHeartbeats 4000000 in
set_option maxRecDepth 100000 in
theorem t_Mod_move_b6 {l : Launch} {D : va_G} {g : Nat → ClassId} {p : Program} {e : Env} {s : State} {m : MethodId} {args : Array Value} {below : List Frame} {meth : Method} {c : Code} {P : Int32 → Prop} {M : Mem} {x0 : Nat} {x1 : Int32} {x2 : Int32} {x3 : Int32} {x4 : Int64} {x6 : Int32} {x7 : Int32} (C : C_Mod_move D g p s m args meth c M) (h : wp_Mod_move_b6 g P M x0 x1 x2 x3 x4 x6 x7 ) : B_Mod_move l D p e s m args below meth c M P M 6 [(0, .ref x0), (1, .int x1), (2, .int x2), (3, .int x3), (4, .long x4), (6, .int x6), (7, .int x7)] [] := by
  unfold wp_Mod_move_b6 at h
  obtain ⟨I, μ, hI, hb⟩ := h
  have key : ∀ (n : Nat) (x6 : Int32) (x7 : Int32), I x6 x7 → μ x6 x7 < n → B_Mod_move l D p e s m args below meth c M P M 6 [(0, .ref x0), (1, .int x1), (2, .int x2), (3, .int x3), (4, .long x4), (6, .int x6), (7, .int x7)] [] := by
    intro n
    induction n with
    | zero => intro x6 x7 _ hn; exact absurd hn (Nat.not_lt_zero _)
    | succ n ih =>
      intro x6 x7 hI hn ls H locs hM hS hl
      have h := hb x6 x7 hI
      refine lv_iload C.1.1 C.1.2.1 d_Mod_move_6 (lv_at hl 6 rfl) ?_
      refine lv_iload_n C.1.1 C.1.2.1 d_Mod_move_8 rfl (lv_at hl 2 rfl) ?_
      refine lv_icmp_ge (tgt := 87) C.1.1 C.1.2.1 d_Mod_move_9 (by decide) (fun c1 => ?_) (fun c1 => ?_)
      · have h := h.1 c1
        refine lv_aload_n C.1.1 C.1.2.1 d_Mod_move_87 rfl (lv_at hl 0 rfl) ?_
        refine lv_iload_n C.1.1 C.1.2.1 d_Mod_move_88 rfl (lv_at hl 1 rfl) ?_
        refine lv_iload_n C.1.1 C.1.2.1 d_Mod_move_89 rfl (lv_at hl 2 rfl) ?_
        refine lv_iload C.1.1 C.1.2.1 d_Mod_move_90 (lv_at hl 5 rfl) ?_
        refine mc_S (As := [.ref x0, .int x1, .int x2, .int x6]) C.1 hM hS bigGood (c_Mod_spread h) kw34 kw36 kw29 kw35 hd_Mod_spread ⟨by decide, by decide⟩ hl.1 rfl (Nat.le_of_ble_eq_true rfl) d_Mod_move_92 (mc := 0) (ms := 0) rfl rfl ⟨by decide, by decide⟩ (fun v M' H locs hp hM hS => ?_)
        obtain ⟨v2, rfl, rfl, h⟩ := hp
        exact mr_I C.1 C.2.1 C.2.2 hM hS ⟨_, rfl, rfl, h⟩ d_Mod_move_95
      · have h := h.2 c1
        refine lv_iload_n C.1.1 C.1.2.1 d_Mod_move_12 rfl (lv_at hl 3 rfl) ?_
        refine lv_iload C.1.1 C.1.2.1 d_Mod_move_13 (lv_at hl 6 rfl) ?_
        refine lv_ishr C.1.1 C.1.2.1 d_Mod_move_15 ?_
        refine lv_iconst (v := (1 : Int32)) C.1.1 C.1.2.1 d_Mod_move_16 (by decide) ?_
        refine lv_iand C.1.1 C.1.2.1 d_Mod_move_17 ?_
        refine lv_if_ne (tgt := 24) C.1.1 C.1.2.1 d_Mod_move_18 (by decide) (fun c4 => ?_) (fun c4 => ?_)
        · have h := h.2 c4
          refine lv_aload_n C.1.1 C.1.2.1 d_Mod_move_24 rfl (lv_at hl 0 rfl) ?_
          refine lv_iload_n C.1.1 C.1.2.1 d_Mod_move_25 rfl (lv_at hl 1 rfl) ?_
          refine lv_iload C.1.1 C.1.2.1 d_Mod_move_26 (lv_at hl 6 rfl) ?_
          refine lv_iadd C.1.1 C.1.2.1 d_Mod_move_28 ?_
          obtain ⟨v5, ev5, h⟩ := h
          refine ma_L C.1 hM 1 rfl ev5 d_Mod_move_29 ?_
          refine lv_lstore (lv' := [(8, .long v5), (0, .ref x0), (1, .int x1), (2, .int x2), (3, .int x3), (4, .long x4), (6, .int x6), (7, .int x7)]) C.1.1 C.1.2.1 d_Mod_move_30 hl (by decide) rfl (fun ls hl => ?_)
          refine lv_lload C.1.1 C.1.2.1 d_Mod_move_32 (lv_at hl 0 rfl) ?_
          refine lv_ldc2 (v := (-2 : Int64)) C.1.1 C.1.2.1 C.1.2.2.2.1 (C.1.2.2.2.2.1 _ kw31) d_Mod_move_34 ?_
          refine W.lcmp C.1.1 C.1.2.1 d_Mod_move_37 ?_
          refine lv_if_ne (tgt := 53) C.1.1 C.1.2.1 d_Mod_move_38 (by decide) (fun c6 => ?_) (fun c6 => ?_)
          · have h := h.2 c6
            refine lv_lload C.1.1 C.1.2.1 d_Mod_move_53 (lv_at hl 0 rfl) ?_
            refine lv_ldc2 (v := (-1 : Int64)) C.1.1 C.1.2.1 C.1.2.2.2.1 (C.1.2.2.2.2.1 _ kw32) d_Mod_move_55 ?_
            refine W.lcmp C.1.1 C.1.2.1 d_Mod_move_58 ?_
            refine lv_if_eq (tgt := 70) C.1.1 C.1.2.1 d_Mod_move_59 (by decide) (fun c7 => ?_) (fun c7 => ?_)
            · have h := h.1 c7
              exact t_Mod_move_b70 C h (fun y6 y7 hJ => ih y6 y7 hJ.1 (Nat.lt_of_lt_of_le hJ.2 (Nat.le_of_lt_succ hn))) _ _ _ hM hS (lv_sub hl [1, 2, 3, 4, 5, 6, 7] rfl)
            · have h := h.2 c7
              refine lv_lload C.1.1 C.1.2.1 d_Mod_move_62 (lv_at hl 0 rfl) ?_
              refine lv_lload C.1.1 C.1.2.1 d_Mod_move_64 (lv_at hl 5 rfl) ?_
              refine W.lcmp C.1.1 C.1.2.1 d_Mod_move_66 ?_
              refine lv_if_ne (tgt := 81) C.1.1 C.1.2.1 d_Mod_move_67 (by decide) (fun c8 => ?_) (fun c8 => ?_)
              · have h := h.2 c8
                exact t_Mod_move_b81 C h (fun y6 y7 hJ => ih y6 y7 hJ.1 (Nat.lt_of_lt_of_le hJ.2 (Nat.le_of_lt_succ hn))) _ _ _ hM hS (lv_sub hl [1, 2, 3, 4, 5, 6, 7] rfl)
              · have h := h.1 c8
                exact t_Mod_move_b70 C h (fun y6 y7 hJ => ih y6 y7 hJ.1 (Nat.lt_of_lt_of_le hJ.2 (Nat.le_of_lt_succ hn))) _ _ _ hM hS (lv_sub hl [1, 2, 3, 4, 5, 6, 7] rfl)
          · have h := h.1 c6
            refine lv_iload C.1.1 C.1.2.1 d_Mod_move_41 (lv_at hl 6 rfl) ?_
            refine lv_iconst (v := (1 : Int32)) C.1.1 C.1.2.1 d_Mod_move_43 (by decide) ?_
            refine lv_iload C.1.1 C.1.2.1 d_Mod_move_44 (lv_at hl 7 rfl) ?_
            refine lv_ishl C.1.1 C.1.2.1 d_Mod_move_46 ?_
            refine lv_ior C.1.1 C.1.2.1 d_Mod_move_47 ?_
            refine lv_istore (lv' := [(6, .int (x6 ||| ((1 : Int32) <<< (x7 &&& 31)))), (8, .long v5), (0, .ref x0), (1, .int x1), (2, .int x2), (3, .int x3), (4, .long x4), (7, .int x7)]) C.1.1 C.1.2.1 d_Mod_move_48 hl (by decide) rfl (fun ls hl => ?_)
            refine lv_goto (tgt := 81) C.1.1 C.1.2.1 d_Mod_move_50 (by decide) ?_
            exact t_Mod_move_b81 C h (fun y6 y7 hJ => ih y6 y7 hJ.1 (Nat.lt_of_lt_of_le hJ.2 (Nat.le_of_lt_succ hn))) _ _ _ hM hS (lv_sub hl [2, 3, 4, 5, 6, 0, 7] rfl)
        · have h := h.1 c4
          refine lv_goto (tgt := 81) C.1.1 C.1.2.1 d_Mod_move_21 (by decide) ?_
          exact t_Mod_move_b81 C h (fun y6 y7 hJ => ih y6 y7 hJ.1 (Nat.lt_of_lt_of_le hJ.2 (Nat.le_of_lt_succ hn))) _ _ _ hM hS (lv_sub hl [0, 1, 2, 3, 4, 5, 6] rfl)
  exact key _ x6 x7 hI (Nat.lt_succ_self _)
def wp_Mod_move (g : Nat → ClassId) (M : Mem) (x0 : Nat) (x1 : Int32) (x2 : Int32) (x3 : Int32) (x4 : Int64) (P : Int32 → Prop) : Prop :=
  wp_Mod_move_b6 g P M x0 x1 x2 x3 x4 (0 : Int32) (0 : Int32)
set_option maxHeartbeats 4000000 in
set_option maxRecDepth 100000 in
theorem c_Mod_move {l : Launch} {D : va_G} {g : Nat → ClassId} {M : Mem} {x0 : Nat} {x1 : Int32} {x2 : Int32} {x3 : Int32} {x4 : Int64} {P : Int32 → Prop} (h : wp_Mod_move g M x0 x1 x2 x3 x4 P) : mMet l BIG D vwCl (tysG g) y_Mod_move b_Mod_move 10 (some .int) rm_Mod_move [.ref x0, .int x1, .int x2, .int x3, .long x4] M (kI fun r M' => M = M' ∧ P r) := by
  refine mMet.of (own := R_Mod) rfl (by decide) rfl (fun p e s m below meth c C hr hlk hnm ls hM hS hl => ?_)
  have C : C_Mod_move D g p s m ([.ref x0, .int x1, .int x2, .int x3, .long x4] : List Value).toArray meth c M := ⟨C, hr, hlk⟩
  unfold wp_Mod_move at h
  have hl : lv_has ls 10 [(0, .ref x0), (1, .int x1), (2, .int x2), (3, .int x3), (4, .long x4)] := hl
  refine lv_iconst (v := (0 : Int32)) C.1.1 C.1.2.1 d_Mod_move_0 (by decide) ?_
  refine lv_istore (lv' := [(6, .int (0 : Int32)), (0, .ref x0), (1, .int x1), (2, .int x2), (3, .int x3), (4, .long x4)]) C.1.1 C.1.2.1 d_Mod_move_1 hl (by decide) rfl (fun ls hl => ?_)
  refine lv_iconst (v := (0 : Int32)) C.1.1 C.1.2.1 d_Mod_move_3 (by decide) ?_
  refine lv_istore (lv' := [(7, .int (0 : Int32)), (6, .int (0 : Int32)), (0, .ref x0), (1, .int x1), (2, .int x2), (3, .int x3), (4, .long x4)]) C.1.1 C.1.2.1 d_Mod_move_4 hl (by decide) rfl (fun ls hl => ?_)
  exact t_Mod_move_b6 C h _ _ _ hM hS (lv_sub hl [2, 3, 4, 5, 6, 1, 0] rfl)
theorem d_Mod_moved_0 : decode b_Mod_moved 0 = .ok (.aload_n 0, 1) := by decide +kernel
theorem d_Mod_moved_1 : decode b_Mod_moved 1 = .ok (.getfield 30, 3) := by decide +kernel
theorem d_Mod_moved_4 : decode b_Mod_moved 4 = .ok (.bipush 6, 2) := by decide +kernel
theorem d_Mod_moved_6 : decode b_Mod_moved 6 = .ok (.iload_n 1, 1) := by decide +kernel
theorem d_Mod_moved_7 : decode b_Mod_moved 7 = .ok (.imul, 1) := by decide +kernel
theorem d_Mod_moved_8 : decode b_Mod_moved 8 = .ok (.aload_n 0, 1) := by decide +kernel
theorem d_Mod_moved_9 : decode b_Mod_moved 9 = .ok (.getfield 33, 3) := by decide +kernel
theorem d_Mod_moved_12 : decode b_Mod_moved 12 = .ok (.iload_n 1, 1) := by decide +kernel
theorem d_Mod_moved_13 : decode b_Mod_moved 13 = .ok (.iaload, 1) := by decide +kernel
theorem d_Mod_moved_14 : decode b_Mod_moved 14 = .ok (.iload_n 2, 1) := by decide +kernel
theorem d_Mod_moved_15 : decode b_Mod_moved 15 = .ok (.lload_n 3, 1) := by decide +kernel
theorem d_Mod_moved_16 : decode b_Mod_moved 16 = .ok (.invokestatic 89, 3) := by decide +kernel
theorem d_Mod_moved_19 : decode b_Mod_moved 19 = .ok (.ireturn, 1) := by decide +kernel
abbrev rm_Mod_moved : Room := { frames := 2, cells := 0, slots := 0, locals := 54 }
abbrev C_Mod_moved (D : va_G) (g : Nat → ClassId) (p : Program) (s : State) (m : MethodId) (args : Array Value) (meth : Method) (c : Code) (M0 : Mem) : Prop := Cx p s m args c b_Mod_moved 5 R_Mod BIG D vwCl (tysG g) (mA M0 s.heap.size) ∧ meth.sig.returnType = (some .int) ∧ meth.locks = false
abbrev B_Mod_moved (l : Launch) (D : va_G) (p : Program) (e : Env) (s : State) (m : MethodId) (args : Array Value) (below : List Frame) (meth : Method) (c : Code) (M0 : Mem) (P : Int32 → Prop) (M : Mem) (pc : Nat) (lv : List (Nat × Value)) (st : List Value) : Prop := Wb p l e rm_Mod_moved s m args below meth c 5 D vwCl M0 (kI fun r M' => M0 = M' ∧ P r) 0 0 M pc lv st
def wp_Mod_moved (g : Nat → ClassId) (M : Mem) (x0 : Nat) (x1 : Int32) (x2 : Int32) (x3 : Int64) (P : Int32 → Prop) : Prop :=
  ∃ v1 : Nat, gR M 6 x0 10 = some v1 ∧ (∃ v2 : Nat, gR M 6 x0 11 = some v2 ∧ (∃ v3 : Int32, aI M (g 2) v2 x1 = some v3 ∧ (wp_Mod_move g M v1 ((6 : Int32) * x1) v3 x2 x3 (fun v4 : Int32 => P v4))))
set_option maxHeartbeats 4000000 in
set_option maxRecDepth 100000 in
theorem c_Mod_moved {l : Launch} {D : va_G} {g : Nat → ClassId} {M : Mem} {x0 : Nat} {x1 : Int32} {x2 : Int32} {x3 : Int64} {P : Int32 → Prop} (h : wp_Mod_moved g M x0 x1 x2 x3 P) : mMet l BIG D vwCl (tysG g) y_Mod_moved b_Mod_moved 5 (some .int) rm_Mod_moved [.ref x0, .int x1, .int x2, .long x3] M (kI fun r M' => M = M' ∧ P r) := by
  refine mMet.of (own := R_Mod) rfl (by decide) rfl (fun p e s m below meth c C hr hlk hnm ls hM hS hl => ?_)
  have C : C_Mod_moved D g p s m ([.ref x0, .int x1, .int x2, .long x3] : List Value).toArray meth c M := ⟨C, hr, hlk⟩
  unfold wp_Mod_moved at h
  have hl : lv_has ls 5 [(0, .ref x0), (1, .int x1), (2, .int x2), (3, .long x3)] := hl
  refine lv_aload_n C.1.1 C.1.2.1 d_Mod_moved_0 rfl (lv_at hl 0 rfl) ?_
  obtain ⟨v1, ev1, h⟩ := h
  refine mg_R C.1 hM ok_Mod (by decide) kw12 ev1 d_Mod_moved_1 ?_
  refine lv_bipush (v := (6 : Int32)) C.1.1 C.1.2.1 d_Mod_moved_4 (by decide) ?_
  refine lv_iload_n C.1.1 C.1.2.1 d_Mod_moved_6 rfl (lv_at hl 1 rfl) ?_
  refine lv_imul C.1.1 C.1.2.1 d_Mod_moved_7 ?_
  refine lv_aload_n C.1.1 C.1.2.1 d_Mod_moved_8 rfl (lv_at hl 0 rfl) ?_
  obtain ⟨v2, ev2, h⟩ := h
  refine mg_R C.1 hM ok_Mod (by decide) kw13 ev2 d_Mod_moved_9 ?_
  refine lv_iload_n C.1.1 C.1.2.1 d_Mod_moved_12 rfl (lv_at hl 1 rfl) ?_
  obtain ⟨v3, ev3, h⟩ := h
  refine ma_I C.1 hM 2 rfl ev3 d_Mod_moved_13 ?_
  refine lv_iload_n C.1.1 C.1.2.1 d_Mod_moved_14 rfl (lv_at hl 2 rfl) ?_
  refine lv_lload_n C.1.1 C.1.2.1 d_Mod_moved_15 rfl (lv_at hl 3 rfl) ?_
  refine mc_S (As := [.ref v1, .int ((6 : Int32) * x1), .int v3, .int x2, .long x3]) C.1 hM hS bigGood (c_Mod_move h) kw37 kw39 kw29 kw38 hd_Mod_move ⟨by decide, by decide⟩ hl.1 rfl (Nat.le_of_ble_eq_true rfl) d_Mod_moved_16 (mc := 0) (ms := 0) rfl rfl ⟨by decide, by decide⟩ (fun v M' H locs hp hM hS => ?_)
  obtain ⟨v4, rfl, rfl, h⟩ := hp
  exact mr_I C.1 C.2.1 C.2.2 hM hS ⟨_, rfl, rfl, h⟩ d_Mod_moved_19
theorem d_Mod_first_0 : decode b_Mod_first 0 = .ok (.aload_n 0, 1) := by decide +kernel
theorem d_Mod_first_1 : decode b_Mod_first 1 = .ok (.getfield 30, 3) := by decide +kernel
theorem d_Mod_first_4 : decode b_Mod_first 4 = .ok (.bipush 6, 2) := by decide +kernel
theorem d_Mod_first_6 : decode b_Mod_first 6 = .ok (.iload_n 1, 1) := by decide +kernel
theorem d_Mod_first_7 : decode b_Mod_first 7 = .ok (.imul, 1) := by decide +kernel
theorem d_Mod_first_8 : decode b_Mod_first 8 = .ok (.aload_n 0, 1) := by decide +kernel
theorem d_Mod_first_9 : decode b_Mod_first 9 = .ok (.getfield 33, 3) := by decide +kernel
theorem d_Mod_first_12 : decode b_Mod_first 12 = .ok (.iload_n 1, 1) := by decide +kernel
theorem d_Mod_first_13 : decode b_Mod_first 13 = .ok (.iaload, 1) := by decide +kernel
theorem d_Mod_first_14 : decode b_Mod_first 14 = .ok (.iconst 1, 1) := by decide +kernel
theorem d_Mod_first_15 : decode b_Mod_first 15 = .ok (.invokestatic 85, 3) := by decide +kernel
theorem d_Mod_first_18 : decode b_Mod_first 18 = .ok (.ireturn, 1) := by decide +kernel
abbrev rm_Mod_first : Room := { frames := 1, cells := 0, slots := 0, locals := 25 }
abbrev C_Mod_first (D : va_G) (g : Nat → ClassId) (p : Program) (s : State) (m : MethodId) (args : Array Value) (meth : Method) (c : Code) (M0 : Mem) : Prop := Cx p s m args c b_Mod_first 2 R_Mod BIG D vwCl (tysG g) (mA M0 s.heap.size) ∧ meth.sig.returnType = (some .int) ∧ meth.locks = false
abbrev B_Mod_first (l : Launch) (D : va_G) (p : Program) (e : Env) (s : State) (m : MethodId) (args : Array Value) (below : List Frame) (meth : Method) (c : Code) (M0 : Mem) (P : Int32 → Prop) (M : Mem) (pc : Nat) (lv : List (Nat × Value)) (st : List Value) : Prop := Wb p l e rm_Mod_first s m args below meth c 2 D vwCl M0 (kI fun r M' => M0 = M' ∧ P r) 0 0 M pc lv st
def wp_Mod_first (g : Nat → ClassId) (M : Mem) (x0 : Nat) (x1 : Int32) (P : Int32 → Prop) : Prop :=
  ∃ v1 : Nat, gR M 6 x0 10 = some v1 ∧ (∃ v2 : Nat, gR M 6 x0 11 = some v2 ∧ (∃ v3 : Int32, aI M (g 2) v2 x1 = some v3 ∧ (wp_Mod_spread g M v1 ((6 : Int32) * x1) v3 (1 : Int32) (fun v4 : Int32 => P v4))))
set_option maxHeartbeats 4000000 in
set_option maxRecDepth 100000 in
theorem c_Mod_first {l : Launch} {D : va_G} {g : Nat → ClassId} {M : Mem} {x0 : Nat} {x1 : Int32} {P : Int32 → Prop} (h : wp_Mod_first g M x0 x1 P) : mMet l BIG D vwCl (tysG g) y_Mod_first b_Mod_first 2 (some .int) rm_Mod_first [.ref x0, .int x1] M (kI fun r M' => M = M' ∧ P r) := by
  refine mMet.of (own := R_Mod) rfl (by decide) rfl (fun p e s m below meth c C hr hlk hnm ls hM hS hl => ?_)
  have C : C_Mod_first D g p s m ([.ref x0, .int x1] : List Value).toArray meth c M := ⟨C, hr, hlk⟩
  unfold wp_Mod_first at h
  have hl : lv_has ls 2 [(0, .ref x0), (1, .int x1)] := hl
  refine lv_aload_n C.1.1 C.1.2.1 d_Mod_first_0 rfl (lv_at hl 0 rfl) ?_
  obtain ⟨v1, ev1, h⟩ := h
  refine mg_R C.1 hM ok_Mod (by decide) kw12 ev1 d_Mod_first_1 ?_
  refine lv_bipush (v := (6 : Int32)) C.1.1 C.1.2.1 d_Mod_first_4 (by decide) ?_
  refine lv_iload_n C.1.1 C.1.2.1 d_Mod_first_6 rfl (lv_at hl 1 rfl) ?_
  refine lv_imul C.1.1 C.1.2.1 d_Mod_first_7 ?_
  refine lv_aload_n C.1.1 C.1.2.1 d_Mod_first_8 rfl (lv_at hl 0 rfl) ?_
  obtain ⟨v2, ev2, h⟩ := h
  refine mg_R C.1 hM ok_Mod (by decide) kw13 ev2 d_Mod_first_9 ?_
  refine lv_iload_n C.1.1 C.1.2.1 d_Mod_first_12 rfl (lv_at hl 1 rfl) ?_
  obtain ⟨v3, ev3, h⟩ := h
  refine ma_I C.1 hM 2 rfl ev3 d_Mod_first_13 ?_
  refine lv_iconst (v := (1 : Int32)) C.1.1 C.1.2.1 d_Mod_first_14 (by decide) ?_
  refine mc_S (As := [.ref v1, .int ((6 : Int32) * x1), .int v3, .int (1 : Int32)]) C.1 hM hS bigGood (c_Mod_spread h) kw34 kw36 kw29 kw35 hd_Mod_spread ⟨by decide, by decide⟩ hl.1 rfl (Nat.le_of_ble_eq_true rfl) d_Mod_first_15 (mc := 0) (ms := 0) rfl rfl ⟨by decide, by decide⟩ (fun v M' H locs hp hM hS => ?_)
  obtain ⟨v4, rfl, rfl, h⟩ := hp
  exact mr_I C.1 C.2.1 C.2.2 hM hS ⟨_, rfl, rfl, h⟩ d_Mod_first_18
