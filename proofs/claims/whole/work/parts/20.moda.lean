theorem d_Mod_init_0 : decode b_Mod_init 0 = .ok (.aload_n 0, 1) := by decide +kernel
theorem d_Mod_init_1 : decode b_Mod_init 1 = .ok (.invokespecial 1, 3) := by decide +kernel
theorem d_Mod_init_4 : decode b_Mod_init 4 = .ok (.aload_n 0, 1) := by decide +kernel
theorem d_Mod_init_5 : decode b_Mod_init 5 = .ok (.bipush 60, 2) := by decide +kernel
theorem d_Mod_init_7 : decode b_Mod_init 7 = .ok (.newarray .int, 2) := by decide +kernel
theorem d_Mod_init_9 : decode b_Mod_init 9 = .ok (.putfield 7, 3) := by decide +kernel
theorem d_Mod_init_12 : decode b_Mod_init 12 = .ok (.aload_n 0, 1) := by decide +kernel
theorem d_Mod_init_13 : decode b_Mod_init 13 = .ok (.iconst (-1), 1) := by decide +kernel
theorem d_Mod_init_14 : decode b_Mod_init 14 = .ok (.putfield 13, 3) := by decide +kernel
theorem d_Mod_init_17 : decode b_Mod_init 17 = .ok (.aload_n 0, 1) := by decide +kernel
theorem d_Mod_init_18 : decode b_Mod_init 18 = .ok (.bipush 6, 2) := by decide +kernel
theorem d_Mod_init_20 : decode b_Mod_init 20 = .ok (.newarray .long, 2) := by decide +kernel
theorem d_Mod_init_22 : decode b_Mod_init 22 = .ok (.putfield 17, 3) := by decide +kernel
theorem d_Mod_init_25 : decode b_Mod_init 25 = .ok (.aload_n 0, 1) := by decide +kernel
theorem d_Mod_init_26 : decode b_Mod_init 26 = .ok (.bipush 60, 2) := by decide +kernel
theorem d_Mod_init_28 : decode b_Mod_init 28 = .ok (.newarray .int, 2) := by decide +kernel
theorem d_Mod_init_30 : decode b_Mod_init 30 = .ok (.putfield 21, 3) := by decide +kernel
theorem d_Mod_init_33 : decode b_Mod_init 33 = .ok (.aload_n 0, 1) := by decide +kernel
theorem d_Mod_init_34 : decode b_Mod_init 34 = .ok (.bipush 24, 2) := by decide +kernel
theorem d_Mod_init_36 : decode b_Mod_init 36 = .ok (.newarray .int, 2) := by decide +kernel
theorem d_Mod_init_38 : decode b_Mod_init 38 = .ok (.putfield 24, 3) := by decide +kernel
theorem d_Mod_init_41 : decode b_Mod_init 41 = .ok (.aload_n 0, 1) := by decide +kernel
theorem d_Mod_init_42 : decode b_Mod_init 42 = .ok (.bipush 24, 2) := by decide +kernel
theorem d_Mod_init_44 : decode b_Mod_init 44 = .ok (.newarray .int, 2) := by decide +kernel
theorem d_Mod_init_46 : decode b_Mod_init 46 = .ok (.putfield 27, 3) := by decide +kernel
theorem d_Mod_init_49 : decode b_Mod_init 49 = .ok (.aload_n 0, 1) := by decide +kernel
theorem d_Mod_init_50 : decode b_Mod_init 50 = .ok (.sipush 144, 3) := by decide +kernel
theorem d_Mod_init_53 : decode b_Mod_init 53 = .ok (.newarray .long, 2) := by decide +kernel
theorem d_Mod_init_55 : decode b_Mod_init 55 = .ok (.putfield 30, 3) := by decide +kernel
theorem d_Mod_init_58 : decode b_Mod_init 58 = .ok (.aload_n 0, 1) := by decide +kernel
theorem d_Mod_init_59 : decode b_Mod_init 59 = .ok (.bipush 24, 2) := by decide +kernel
theorem d_Mod_init_61 : decode b_Mod_init 61 = .ok (.newarray .int, 2) := by decide +kernel
theorem d_Mod_init_63 : decode b_Mod_init 63 = .ok (.putfield 33, 3) := by decide +kernel
theorem d_Mod_init_66 : decode b_Mod_init 66 = .ok (.aload_n 0, 1) := by decide +kernel
theorem d_Mod_init_67 : decode b_Mod_init 67 = .ok (.sipush 984, 3) := by decide +kernel
theorem d_Mod_init_70 : decode b_Mod_init 70 = .ok (.newarray .int, 2) := by decide +kernel
theorem d_Mod_init_72 : decode b_Mod_init 72 = .ok (.putfield 36, 3) := by decide +kernel
theorem d_Mod_init_75 : decode b_Mod_init 75 = .ok (.aload_n 0, 1) := by decide +kernel
theorem d_Mod_init_76 : decode b_Mod_init 76 = .ok (.bipush 24, 2) := by decide +kernel
theorem d_Mod_init_78 : decode b_Mod_init 78 = .ok (.newarray .int, 2) := by decide +kernel
theorem d_Mod_init_80 : decode b_Mod_init 80 = .ok (.putfield 39, 3) := by decide +kernel
theorem d_Mod_init_83 : decode b_Mod_init 83 = .ok (.aload_n 0, 1) := by decide +kernel
theorem d_Mod_init_84 : decode b_Mod_init 84 = .ok (.bipush 20, 2) := by decide +kernel
theorem d_Mod_init_86 : decode b_Mod_init 86 = .ok (.newarray .int, 2) := by decide +kernel
theorem d_Mod_init_88 : decode b_Mod_init 88 = .ok (.putfield 42, 3) := by decide +kernel
theorem d_Mod_init_91 : decode b_Mod_init 91 = .ok (.aload_n 0, 1) := by decide +kernel
theorem d_Mod_init_92 : decode b_Mod_init 92 = .ok (.bipush 120, 2) := by decide +kernel
theorem d_Mod_init_94 : decode b_Mod_init 94 = .ok (.newarray .long, 2) := by decide +kernel
theorem d_Mod_init_96 : decode b_Mod_init 96 = .ok (.putfield 45, 3) := by decide +kernel
theorem d_Mod_init_99 : decode b_Mod_init 99 = .ok (.aload_n 0, 1) := by decide +kernel
theorem d_Mod_init_100 : decode b_Mod_init 100 = .ok (.bipush 20, 2) := by decide +kernel
theorem d_Mod_init_102 : decode b_Mod_init 102 = .ok (.newarray .int, 2) := by decide +kernel
theorem d_Mod_init_104 : decode b_Mod_init 104 = .ok (.putfield 48, 3) := by decide +kernel
theorem d_Mod_init_107 : decode b_Mod_init 107 = .ok (.aload_n 0, 1) := by decide +kernel
theorem d_Mod_init_108 : decode b_Mod_init 108 = .ok (.sipush 820, 3) := by decide +kernel
theorem d_Mod_init_111 : decode b_Mod_init 111 = .ok (.newarray .int, 2) := by decide +kernel
theorem d_Mod_init_113 : decode b_Mod_init 113 = .ok (.putfield 51, 3) := by decide +kernel
theorem d_Mod_init_116 : decode b_Mod_init 116 = .ok (.aload_n 0, 1) := by decide +kernel
theorem d_Mod_init_117 : decode b_Mod_init 117 = .ok (.bipush 20, 2) := by decide +kernel
theorem d_Mod_init_119 : decode b_Mod_init 119 = .ok (.newarray .int, 2) := by decide +kernel
theorem d_Mod_init_121 : decode b_Mod_init 121 = .ok (.putfield 54, 3) := by decide +kernel
theorem d_Mod_init_124 : decode b_Mod_init 124 = .ok (.aload_n 0, 1) := by decide +kernel
theorem d_Mod_init_125 : decode b_Mod_init 125 = .ok (.sipush 16384, 3) := by decide +kernel
theorem d_Mod_init_128 : decode b_Mod_init 128 = .ok (.newarray .int, 2) := by decide +kernel
theorem d_Mod_init_130 : decode b_Mod_init 130 = .ok (.putfield 57, 3) := by decide +kernel
theorem d_Mod_init_133 : decode b_Mod_init 133 = .ok (.aload_n 0, 1) := by decide +kernel
theorem d_Mod_init_134 : decode b_Mod_init 134 = .ok (.sipush 16384, 3) := by decide +kernel
theorem d_Mod_init_137 : decode b_Mod_init 137 = .ok (.newarray .int, 2) := by decide +kernel
theorem d_Mod_init_139 : decode b_Mod_init 139 = .ok (.putfield 60, 3) := by decide +kernel
theorem d_Mod_init_142 : decode b_Mod_init 142 = .ok (.iconst 0, 1) := by decide +kernel
theorem d_Mod_init_143 : decode b_Mod_init 143 = .ok (.istore_n 1, 1) := by decide +kernel
theorem d_Mod_init_144 : decode b_Mod_init 144 = .ok (.iload_n 1, 1) := by decide +kernel
theorem d_Mod_init_145 : decode b_Mod_init 145 = .ok (.bipush 24, 2) := by decide +kernel
theorem d_Mod_init_147 : decode b_Mod_init 147 = .ok (.if_icmp .ge 16, 3) := by decide +kernel
theorem d_Mod_init_150 : decode b_Mod_init 150 = .ok (.aload_n 0, 1) := by decide +kernel
theorem d_Mod_init_151 : decode b_Mod_init 151 = .ok (.getfield 24, 3) := by decide +kernel
theorem d_Mod_init_154 : decode b_Mod_init 154 = .ok (.iload_n 1, 1) := by decide +kernel
theorem d_Mod_init_155 : decode b_Mod_init 155 = .ok (.iconst (-1), 1) := by decide +kernel
theorem d_Mod_init_156 : decode b_Mod_init 156 = .ok (.iastore, 1) := by decide +kernel
theorem d_Mod_init_157 : decode b_Mod_init 157 = .ok (.iinc 1 1, 3) := by decide +kernel
theorem d_Mod_init_160 : decode b_Mod_init 160 = .ok (.goto (-16), 3) := by decide +kernel
theorem d_Mod_init_163 : decode b_Mod_init 163 = .ok (.return_, 1) := by decide +kernel
abbrev rm_Mod_init : Room := { frames := 1, cells := 16, slots := 35118, locals := 20 }
abbrev C_Mod_init (D : va_G) (g : Nat → ClassId) (p : Program) (s : State) (m : MethodId) (args : Array Value) (meth : Method) (c : Code) (M0 : Mem) : Prop := Cx p s m args c b_Mod_init 2 R_Mod BIG D vwCl (tysG g) (mA M0 s.heap.size) ∧ meth.sig.returnType = none ∧ meth.locks = false ∧ meth.name = "<init>"
abbrev B_Mod_init (l : Launch) (D : va_G) (p : Program) (e : Env) (s : State) (m : MethodId) (args : Array Value) (below : List Frame) (meth : Method) (c : Code) (M0 : Mem) (P : Mem → Prop) (cn sn : Nat) (M : Mem) (pc : Nat) (lv : List (Nat × Value)) (st : List Value) : Prop := Wb p l e rm_Mod_init s m args below meth c 2 D vwCl M0 (kV fun M' => P M') cn sn M pc lv st
def wp_Mod_init_b144 (g : Nat → ClassId) (P : Mem → Prop) (M : Mem) (x0 : Nat) (x1 : Int32) : Prop :=
  ∃ (I : Int32 → Mem → Prop) (μ : Int32 → Mem → Nat), I x1 M ∧ ∀ (x1 : Int32) (M : Mem), I x1 M →
  ((24 : Int32) ≤ x1 → (P M)) ∧ (¬ (24 : Int32) ≤ x1 → (∃ v2 : Nat, gR M 6 x0 8 = some v2 ∧ (∃ M3 : Mem, sI M (g 2) v2 x1 (-1 : Int32) = some M3 ∧ ((I (x1 + (1 : Int32)) M3 ∧ μ (x1 + (1 : Int32)) M3 < μ x1 M)))))
set_option maxHeartbeats 4000000 in
set_option maxRecDepth 100000 in
theorem t_Mod_init_b144 {l : Launch} {D : va_G} {g : Nat → ClassId} {p : Program} {e : Env} {s : State} {m : MethodId} {args : Array Value} {below : List Frame} {meth : Method} {c : Code} {M0 : Mem} {P : Mem → Prop} {M : Mem} {x0 : Nat} {x1 : Int32} (C : C_Mod_init D g p s m args meth c M0) (h : wp_Mod_init_b144 g P M x0 x1 ) {cn sn : Nat} (hcn : cn + 0 ≤ 16) (hsn : sn + 0 ≤ 35118) : B_Mod_init l D p e s m args below meth c M0 P cn sn M 144 [(0, .ref x0), (1, .int x1)] [] := by
  unfold wp_Mod_init_b144 at h
  obtain ⟨I, μ, hI, hb⟩ := h
  have key : ∀ (n : Nat) (cn sn : Nat) (x1 : Int32) (M : Mem), I x1 M → μ x1 M < n → cn + 0 * μ x1 M + 0 ≤ 16 → sn + 0 * μ x1 M + 0 ≤ 35118 → B_Mod_init l D p e s m args below meth c M0 P cn sn M 144 [(0, .ref x0), (1, .int x1)] [] := by
    intro n
    induction n with
    | zero => intro cn sn x1 M _ hn; exact absurd hn (Nat.not_lt_zero _)
    | succ n ih =>
      intro cn sn x1 M hI hn hcn hsn ls H locs hM hS hl
      have h := hb x1 M hI
      refine lv_iload_n C.1.1 C.1.2.1 d_Mod_init_144 rfl (lv_at hl 1 rfl) ?_
      refine lv_bipush (v := (24 : Int32)) C.1.1 C.1.2.1 d_Mod_init_145 (by decide) ?_
      refine lv_icmp_ge (tgt := 163) C.1.1 C.1.2.1 d_Mod_init_147 (by decide) (fun c1 => ?_) (fun c1 => ?_)
      · have h := h.1 c1
        refine W.widen (k := 16) (n := 35118) (show _ ≤ (16 : Nat) by omega) (show _ ≤ (35118 : Nat) by omega) ?_
        exact mr_V C.1 C.2.1 C.2.2.1 hM hS ⟨rfl, h⟩ d_Mod_init_163
      · have h := h.2 c1
        refine lv_aload_n C.1.1 C.1.2.1 d_Mod_init_150 rfl (lv_at hl 0 rfl) ?_
        obtain ⟨v2, ev2, h⟩ := h
        refine mg_R C.1 hM ok_Mod (by decide) kw1 ev2 d_Mod_init_151 ?_
        refine lv_iload_n C.1.1 C.1.2.1 d_Mod_init_154 rfl (lv_at hl 1 rfl) ?_
        refine lv_iconst (v := (-1 : Int32)) C.1.1 C.1.2.1 d_Mod_init_155 (by decide) ?_
        obtain ⟨M3, eM3, h⟩ := h
        refine ms_I C.1 hM hS 2 rfl eM3 d_Mod_init_156 (fun H locs hM hS => ?_)
        refine lv_iinc (v := x1 + (1 : Int32)) (lv' := [(1, .int (x1 + (1 : Int32))), (0, .ref x0)]) C.1.1 C.1.2.1 d_Mod_init_157 hl (k := 1) rfl rfl (by decide) rfl (fun ls hl => ?_)
        refine lv_goto (tgt := 144) C.1.1 C.1.2.1 d_Mod_init_160 (by decide) ?_
        have hmu := h.2
        exact ih _ _ (x1 + (1 : Int32)) M3 h.1 (Nat.lt_of_lt_of_le h.2 (Nat.le_of_lt_succ hn)) (show _ ≤ (16 : Nat) by omega) (show _ ≤ (35118 : Nat) by omega) _ _ _ hM hS (lv_sub hl [1, 0] rfl)
  exact key _ _ _ x1 M hI (Nat.lt_succ_self _) (show _ ≤ (16 : Nat) by omega) (show _ ≤ (35118 : Nat) by omega)
def wp_Mod_init (g : Nat → ClassId) (M : Mem) (x0 : Nat) (P : Mem → Prop) : Prop :=
  ∀ (q1 : Nat) (M2 : Mem), M q1 = none → M2 = mup M q1 (.inl (g 2, (60, .inl (fun _ => 0)))) → (∃ M3 : Mem, pV M2 6 x0 1 (.ref q1) = some M3 ∧ (∃ M4 : Mem, pV M3 6 x0 3 (.int (-1 : Int32)) = some M4 ∧ (∀ (q5 : Nat) (M6 : Mem), M4 q5 = none → M6 = mup M4 q5 (.inl (g 1, (6, .inr (.inl (fun _ => 0))))) → (∃ M7 : Mem, pV M6 6 x0 4 (.ref q5) = some M7 ∧ (∀ (q8 : Nat) (M9 : Mem), M7 q8 = none → M9 = mup M7 q8 (.inl (g 2, (60, .inl (fun _ => 0)))) → (∃ M10 : Mem, pV M9 6 x0 7 (.ref q8) = some M10 ∧ (∀ (q11 : Nat) (M12 : Mem), M10 q11 = none → M12 = mup M10 q11 (.inl (g 2, (24, .inl (fun _ => 0)))) → (∃ M13 : Mem, pV M12 6 x0 8 (.ref q11) = some M13 ∧ (∀ (q14 : Nat) (M15 : Mem), M13 q14 = none → M15 = mup M13 q14 (.inl (g 2, (24, .inl (fun _ => 0)))) → (∃ M16 : Mem, pV M15 6 x0 9 (.ref q14) = some M16 ∧ (∀ (q17 : Nat) (M18 : Mem), M16 q17 = none → M18 = mup M16 q17 (.inl (g 1, (144, .inr (.inl (fun _ => 0))))) → (∃ M19 : Mem, pV M18 6 x0 10 (.ref q17) = some M19 ∧ (∀ (q20 : Nat) (M21 : Mem), M19 q20 = none → M21 = mup M19 q20 (.inl (g 2, (24, .inl (fun _ => 0)))) → (∃ M22 : Mem, pV M21 6 x0 11 (.ref q20) = some M22 ∧ (∀ (q23 : Nat) (M24 : Mem), M22 q23 = none → M24 = mup M22 q23 (.inl (g 2, (984, .inl (fun _ => 0)))) → (∃ M25 : Mem, pV M24 6 x0 12 (.ref q23) = some M25 ∧ (∀ (q26 : Nat) (M27 : Mem), M25 q26 = none → M27 = mup M25 q26 (.inl (g 2, (24, .inl (fun _ => 0)))) → (∃ M28 : Mem, pV M27 6 x0 13 (.ref q26) = some M28 ∧ (∀ (q29 : Nat) (M30 : Mem), M28 q29 = none → M30 = mup M28 q29 (.inl (g 2, (20, .inl (fun _ => 0)))) → (∃ M31 : Mem, pV M30 6 x0 15 (.ref q29) = some M31 ∧ (∀ (q32 : Nat) (M33 : Mem), M31 q32 = none → M33 = mup M31 q32 (.inl (g 1, (120, .inr (.inl (fun _ => 0))))) → (∃ M34 : Mem, pV M33 6 x0 16 (.ref q32) = some M34 ∧ (∀ (q35 : Nat) (M36 : Mem), M34 q35 = none → M36 = mup M34 q35 (.inl (g 2, (20, .inl (fun _ => 0)))) → (∃ M37 : Mem, pV M36 6 x0 17 (.ref q35) = some M37 ∧ (∀ (q38 : Nat) (M39 : Mem), M37 q38 = none → M39 = mup M37 q38 (.inl (g 2, (820, .inl (fun _ => 0)))) → (∃ M40 : Mem, pV M39 6 x0 18 (.ref q38) = some M40 ∧ (∀ (q41 : Nat) (M42 : Mem), M40 q41 = none → M42 = mup M40 q41 (.inl (g 2, (20, .inl (fun _ => 0)))) → (∃ M43 : Mem, pV M42 6 x0 19 (.ref q41) = some M43 ∧ (∀ (q44 : Nat) (M45 : Mem), M43 q44 = none → M45 = mup M43 q44 (.inl (g 2, (16384, .inl (fun _ => 0)))) → (∃ M46 : Mem, pV M45 6 x0 20 (.ref q44) = some M46 ∧ (∀ (q47 : Nat) (M48 : Mem), M46 q47 = none → M48 = mup M46 q47 (.inl (g 2, (16384, .inl (fun _ => 0)))) → (∃ M49 : Mem, pV M48 6 x0 22 (.ref q47) = some M49 ∧ (wp_Mod_init_b144 g P M49 x0 (0 : Int32))))))))))))))))))))))))))))))))))
set_option maxHeartbeats 4000000 in
set_option maxRecDepth 100000 in
theorem c_Mod_init {l : Launch} {D : va_G} {g : Nat → ClassId} {M : Mem} {x0 : Nat} {P : Mem → Prop} (h : wp_Mod_init g M x0 P) : mMet l BIG D vwCl (tysG g) y_Mod_init b_Mod_init 2 none rm_Mod_init [.ref x0] M (kV fun M' => P M') := by
  refine mMet.of (own := R_Mod) rfl (by decide) rfl (fun p e s m below meth c C hr hlk hnm ls hM hS hl => ?_)
  have C : C_Mod_init D g p s m ([.ref x0] : List Value).toArray meth c M := ⟨C, hr, hlk, hnm⟩
  have hcn : 0 + 16 ≤ 16 := by decide
  have hsn : 0 + 35118 ≤ 35118 := by decide
  unfold wp_Mod_init at h
  have hl : lv_has ls 2 [(0, .ref x0)] := hl
  refine lv_aload_n C.1.1 C.1.2.1 d_Mod_init_0 rfl (lv_at hl 0 rfl) ?_
  refine m_objInit C.1 kw2 kw3 kw4 hl.1 d_Mod_init_1 (by decide) (by decide) (Nat.le_of_ble_eq_true rfl) ?_
  refine lv_aload_n C.1.1 C.1.2.1 d_Mod_init_4 rfl (lv_at hl 0 rfl) ?_
  refine lv_bipush (v := (60 : Int32)) C.1.1 C.1.2.1 d_Mod_init_5 (by decide) ?_
  refine mn_A (atype := .int) (a0 := (60, .inl (fun _ => 0))) (N' := 60) C.1 hM hS (ty := .int) rfl kw5 2 rfl (fun _ => rfl) (by decide) (by decide) (by decide) (show _ ≤ (16 : Nat) by omega) (show _ ≤ (35118 : Nat) by omega) d_Mod_init_7 (fun q1 H hq1 hM hS => ?_)
  obtain ⟨M2, eM2⟩ : ∃ N : Mem, N = mup M q1 (.inl (g 2, (60, .inl (fun _ => 0)))) := ⟨_, rfl⟩
  rw [← eM2] at hM
  have h := h q1 M2 hq1 eM2
  obtain ⟨M3, eM3, h⟩ := h
  refine mp_F C.1 hM hS C.2.2.2 ok_Mod (by decide) kw6 rfl rfl rfl rfl eM3 d_Mod_init_9 (fun H locs hM hS => ?_)
  refine lv_aload_n C.1.1 C.1.2.1 d_Mod_init_12 rfl (lv_at hl 0 rfl) ?_
  refine lv_iconst (v := (-1 : Int32)) C.1.1 C.1.2.1 d_Mod_init_13 (by decide) ?_
  obtain ⟨M4, eM4, h⟩ := h
  refine mp_V C.1 hM hS ok_Mod (by decide) kw7 rfl rfl rfl eM4 d_Mod_init_14 (fun H locs hM hS => ?_)
  refine lv_aload_n C.1.1 C.1.2.1 d_Mod_init_17 rfl (lv_at hl 0 rfl) ?_
  refine lv_bipush (v := (6 : Int32)) C.1.1 C.1.2.1 d_Mod_init_18 (by decide) ?_
  refine mn_A (atype := .long) (a0 := (6, .inr (.inl (fun _ => 0)))) (N' := 6) C.1 hM hS (ty := .long) rfl kw8 1 rfl (fun _ => rfl) (by decide) (by decide) (by decide) (show _ ≤ (16 : Nat) by omega) (show _ ≤ (35118 : Nat) by omega) d_Mod_init_20 (fun q5 H hq5 hM hS => ?_)
  obtain ⟨M6, eM6⟩ : ∃ N : Mem, N = mup M4 q5 (.inl (g 1, (6, .inr (.inl (fun _ => 0))))) := ⟨_, rfl⟩
  rw [← eM6] at hM
  have h := h q5 M6 hq5 eM6
  obtain ⟨M7, eM7, h⟩ := h
  refine mp_F C.1 hM hS C.2.2.2 ok_Mod (by decide) kw9 rfl rfl rfl rfl eM7 d_Mod_init_22 (fun H locs hM hS => ?_)
  refine lv_aload_n C.1.1 C.1.2.1 d_Mod_init_25 rfl (lv_at hl 0 rfl) ?_
  refine lv_bipush (v := (60 : Int32)) C.1.1 C.1.2.1 d_Mod_init_26 (by decide) ?_
  refine mn_A (atype := .int) (a0 := (60, .inl (fun _ => 0))) (N' := 60) C.1 hM hS (ty := .int) rfl kw5 2 rfl (fun _ => rfl) (by decide) (by decide) (by decide) (show _ ≤ (16 : Nat) by omega) (show _ ≤ (35118 : Nat) by omega) d_Mod_init_28 (fun q8 H hq8 hM hS => ?_)
  obtain ⟨M9, eM9⟩ : ∃ N : Mem, N = mup M7 q8 (.inl (g 2, (60, .inl (fun _ => 0)))) := ⟨_, rfl⟩
  rw [← eM9] at hM
  have h := h q8 M9 hq8 eM9
  obtain ⟨M10, eM10, h⟩ := h
  refine mp_F C.1 hM hS C.2.2.2 ok_Mod (by decide) kw10 rfl rfl rfl rfl eM10 d_Mod_init_30 (fun H locs hM hS => ?_)
  refine lv_aload_n C.1.1 C.1.2.1 d_Mod_init_33 rfl (lv_at hl 0 rfl) ?_
  refine lv_bipush (v := (24 : Int32)) C.1.1 C.1.2.1 d_Mod_init_34 (by decide) ?_
  refine mn_A (atype := .int) (a0 := (24, .inl (fun _ => 0))) (N' := 24) C.1 hM hS (ty := .int) rfl kw5 2 rfl (fun _ => rfl) (by decide) (by decide) (by decide) (show _ ≤ (16 : Nat) by omega) (show _ ≤ (35118 : Nat) by omega) d_Mod_init_36 (fun q11 H hq11 hM hS => ?_)
  obtain ⟨M12, eM12⟩ : ∃ N : Mem, N = mup M10 q11 (.inl (g 2, (24, .inl (fun _ => 0)))) := ⟨_, rfl⟩
  rw [← eM12] at hM
  have h := h q11 M12 hq11 eM12
  obtain ⟨M13, eM13, h⟩ := h
  refine mp_F C.1 hM hS C.2.2.2 ok_Mod (by decide) kw1 rfl rfl rfl rfl eM13 d_Mod_init_38 (fun H locs hM hS => ?_)
  refine lv_aload_n C.1.1 C.1.2.1 d_Mod_init_41 rfl (lv_at hl 0 rfl) ?_
  refine lv_bipush (v := (24 : Int32)) C.1.1 C.1.2.1 d_Mod_init_42 (by decide) ?_
  refine mn_A (atype := .int) (a0 := (24, .inl (fun _ => 0))) (N' := 24) C.1 hM hS (ty := .int) rfl kw5 2 rfl (fun _ => rfl) (by decide) (by decide) (by decide) (show _ ≤ (16 : Nat) by omega) (show _ ≤ (35118 : Nat) by omega) d_Mod_init_44 (fun q14 H hq14 hM hS => ?_)
  obtain ⟨M15, eM15⟩ : ∃ N : Mem, N = mup M13 q14 (.inl (g 2, (24, .inl (fun _ => 0)))) := ⟨_, rfl⟩
  rw [← eM15] at hM
  have h := h q14 M15 hq14 eM15
  obtain ⟨M16, eM16, h⟩ := h
  refine mp_F C.1 hM hS C.2.2.2 ok_Mod (by decide) kw11 rfl rfl rfl rfl eM16 d_Mod_init_46 (fun H locs hM hS => ?_)
  refine lv_aload_n C.1.1 C.1.2.1 d_Mod_init_49 rfl (lv_at hl 0 rfl) ?_
  refine lv_sipush (v := (144 : Int32)) C.1.1 C.1.2.1 d_Mod_init_50 (by decide) ?_
  refine mn_A (atype := .long) (a0 := (144, .inr (.inl (fun _ => 0)))) (N' := 144) C.1 hM hS (ty := .long) rfl kw8 1 rfl (fun _ => rfl) (by decide) (by decide) (by decide) (show _ ≤ (16 : Nat) by omega) (show _ ≤ (35118 : Nat) by omega) d_Mod_init_53 (fun q17 H hq17 hM hS => ?_)
  obtain ⟨M18, eM18⟩ : ∃ N : Mem, N = mup M16 q17 (.inl (g 1, (144, .inr (.inl (fun _ => 0))))) := ⟨_, rfl⟩
  rw [← eM18] at hM
  have h := h q17 M18 hq17 eM18
  obtain ⟨M19, eM19, h⟩ := h
  refine mp_F C.1 hM hS C.2.2.2 ok_Mod (by decide) kw12 rfl rfl rfl rfl eM19 d_Mod_init_55 (fun H locs hM hS => ?_)
  refine lv_aload_n C.1.1 C.1.2.1 d_Mod_init_58 rfl (lv_at hl 0 rfl) ?_
  refine lv_bipush (v := (24 : Int32)) C.1.1 C.1.2.1 d_Mod_init_59 (by decide) ?_
  refine mn_A (atype := .int) (a0 := (24, .inl (fun _ => 0))) (N' := 24) C.1 hM hS (ty := .int) rfl kw5 2 rfl (fun _ => rfl) (by decide) (by decide) (by decide) (show _ ≤ (16 : Nat) by omega) (show _ ≤ (35118 : Nat) by omega) d_Mod_init_61 (fun q20 H hq20 hM hS => ?_)
  obtain ⟨M21, eM21⟩ : ∃ N : Mem, N = mup M19 q20 (.inl (g 2, (24, .inl (fun _ => 0)))) := ⟨_, rfl⟩
  rw [← eM21] at hM
  have h := h q20 M21 hq20 eM21
  obtain ⟨M22, eM22, h⟩ := h
  refine mp_F C.1 hM hS C.2.2.2 ok_Mod (by decide) kw13 rfl rfl rfl rfl eM22 d_Mod_init_63 (fun H locs hM hS => ?_)
  refine lv_aload_n C.1.1 C.1.2.1 d_Mod_init_66 rfl (lv_at hl 0 rfl) ?_
  refine lv_sipush (v := (984 : Int32)) C.1.1 C.1.2.1 d_Mod_init_67 (by decide) ?_
  refine mn_A (atype := .int) (a0 := (984, .inl (fun _ => 0))) (N' := 984) C.1 hM hS (ty := .int) rfl kw5 2 rfl (fun _ => rfl) (by decide) (by decide) (by decide) (show _ ≤ (16 : Nat) by omega) (show _ ≤ (35118 : Nat) by omega) d_Mod_init_70 (fun q23 H hq23 hM hS => ?_)
  obtain ⟨M24, eM24⟩ : ∃ N : Mem, N = mup M22 q23 (.inl (g 2, (984, .inl (fun _ => 0)))) := ⟨_, rfl⟩
  rw [← eM24] at hM
  have h := h q23 M24 hq23 eM24
  obtain ⟨M25, eM25, h⟩ := h
  refine mp_F C.1 hM hS C.2.2.2 ok_Mod (by decide) kw14 rfl rfl rfl rfl eM25 d_Mod_init_72 (fun H locs hM hS => ?_)
  refine lv_aload_n C.1.1 C.1.2.1 d_Mod_init_75 rfl (lv_at hl 0 rfl) ?_
  refine lv_bipush (v := (24 : Int32)) C.1.1 C.1.2.1 d_Mod_init_76 (by decide) ?_
  refine mn_A (atype := .int) (a0 := (24, .inl (fun _ => 0))) (N' := 24) C.1 hM hS (ty := .int) rfl kw5 2 rfl (fun _ => rfl) (by decide) (by decide) (by decide) (show _ ≤ (16 : Nat) by omega) (show _ ≤ (35118 : Nat) by omega) d_Mod_init_78 (fun q26 H hq26 hM hS => ?_)
  obtain ⟨M27, eM27⟩ : ∃ N : Mem, N = mup M25 q26 (.inl (g 2, (24, .inl (fun _ => 0)))) := ⟨_, rfl⟩
  rw [← eM27] at hM
  have h := h q26 M27 hq26 eM27
  obtain ⟨M28, eM28, h⟩ := h
  refine mp_F C.1 hM hS C.2.2.2 ok_Mod (by decide) kw15 rfl rfl rfl rfl eM28 d_Mod_init_80 (fun H locs hM hS => ?_)
  refine lv_aload_n C.1.1 C.1.2.1 d_Mod_init_83 rfl (lv_at hl 0 rfl) ?_
  refine lv_bipush (v := (20 : Int32)) C.1.1 C.1.2.1 d_Mod_init_84 (by decide) ?_
  refine mn_A (atype := .int) (a0 := (20, .inl (fun _ => 0))) (N' := 20) C.1 hM hS (ty := .int) rfl kw5 2 rfl (fun _ => rfl) (by decide) (by decide) (by decide) (show _ ≤ (16 : Nat) by omega) (show _ ≤ (35118 : Nat) by omega) d_Mod_init_86 (fun q29 H hq29 hM hS => ?_)
  obtain ⟨M30, eM30⟩ : ∃ N : Mem, N = mup M28 q29 (.inl (g 2, (20, .inl (fun _ => 0)))) := ⟨_, rfl⟩
  rw [← eM30] at hM
  have h := h q29 M30 hq29 eM30
  obtain ⟨M31, eM31, h⟩ := h
  refine mp_F C.1 hM hS C.2.2.2 ok_Mod (by decide) kw16 rfl rfl rfl rfl eM31 d_Mod_init_88 (fun H locs hM hS => ?_)
  refine lv_aload_n C.1.1 C.1.2.1 d_Mod_init_91 rfl (lv_at hl 0 rfl) ?_
  refine lv_bipush (v := (120 : Int32)) C.1.1 C.1.2.1 d_Mod_init_92 (by decide) ?_
  refine mn_A (atype := .long) (a0 := (120, .inr (.inl (fun _ => 0)))) (N' := 120) C.1 hM hS (ty := .long) rfl kw8 1 rfl (fun _ => rfl) (by decide) (by decide) (by decide) (show _ ≤ (16 : Nat) by omega) (show _ ≤ (35118 : Nat) by omega) d_Mod_init_94 (fun q32 H hq32 hM hS => ?_)
  obtain ⟨M33, eM33⟩ : ∃ N : Mem, N = mup M31 q32 (.inl (g 1, (120, .inr (.inl (fun _ => 0))))) := ⟨_, rfl⟩
  rw [← eM33] at hM
  have h := h q32 M33 hq32 eM33
  obtain ⟨M34, eM34, h⟩ := h
  refine mp_F C.1 hM hS C.2.2.2 ok_Mod (by decide) kw17 rfl rfl rfl rfl eM34 d_Mod_init_96 (fun H locs hM hS => ?_)
  refine lv_aload_n C.1.1 C.1.2.1 d_Mod_init_99 rfl (lv_at hl 0 rfl) ?_
  refine lv_bipush (v := (20 : Int32)) C.1.1 C.1.2.1 d_Mod_init_100 (by decide) ?_
  refine mn_A (atype := .int) (a0 := (20, .inl (fun _ => 0))) (N' := 20) C.1 hM hS (ty := .int) rfl kw5 2 rfl (fun _ => rfl) (by decide) (by decide) (by decide) (show _ ≤ (16 : Nat) by omega) (show _ ≤ (35118 : Nat) by omega) d_Mod_init_102 (fun q35 H hq35 hM hS => ?_)
  obtain ⟨M36, eM36⟩ : ∃ N : Mem, N = mup M34 q35 (.inl (g 2, (20, .inl (fun _ => 0)))) := ⟨_, rfl⟩
  rw [← eM36] at hM
  have h := h q35 M36 hq35 eM36
  obtain ⟨M37, eM37, h⟩ := h
  refine mp_F C.1 hM hS C.2.2.2 ok_Mod (by decide) kw18 rfl rfl rfl rfl eM37 d_Mod_init_104 (fun H locs hM hS => ?_)
  refine lv_aload_n C.1.1 C.1.2.1 d_Mod_init_107 rfl (lv_at hl 0 rfl) ?_
  refine lv_sipush (v := (820 : Int32)) C.1.1 C.1.2.1 d_Mod_init_108 (by decide) ?_
  refine mn_A (atype := .int) (a0 := (820, .inl (fun _ => 0))) (N' := 820) C.1 hM hS (ty := .int) rfl kw5 2 rfl (fun _ => rfl) (by decide) (by decide) (by decide) (show _ ≤ (16 : Nat) by omega) (show _ ≤ (35118 : Nat) by omega) d_Mod_init_111 (fun q38 H hq38 hM hS => ?_)
  obtain ⟨M39, eM39⟩ : ∃ N : Mem, N = mup M37 q38 (.inl (g 2, (820, .inl (fun _ => 0)))) := ⟨_, rfl⟩
  rw [← eM39] at hM
  have h := h q38 M39 hq38 eM39
  obtain ⟨M40, eM40, h⟩ := h
  refine mp_F C.1 hM hS C.2.2.2 ok_Mod (by decide) kw19 rfl rfl rfl rfl eM40 d_Mod_init_113 (fun H locs hM hS => ?_)
  refine lv_aload_n C.1.1 C.1.2.1 d_Mod_init_116 rfl (lv_at hl 0 rfl) ?_
  refine lv_bipush (v := (20 : Int32)) C.1.1 C.1.2.1 d_Mod_init_117 (by decide) ?_
  refine mn_A (atype := .int) (a0 := (20, .inl (fun _ => 0))) (N' := 20) C.1 hM hS (ty := .int) rfl kw5 2 rfl (fun _ => rfl) (by decide) (by decide) (by decide) (show _ ≤ (16 : Nat) by omega) (show _ ≤ (35118 : Nat) by omega) d_Mod_init_119 (fun q41 H hq41 hM hS => ?_)
  obtain ⟨M42, eM42⟩ : ∃ N : Mem, N = mup M40 q41 (.inl (g 2, (20, .inl (fun _ => 0)))) := ⟨_, rfl⟩
  rw [← eM42] at hM
  have h := h q41 M42 hq41 eM42
  obtain ⟨M43, eM43, h⟩ := h
  refine mp_F C.1 hM hS C.2.2.2 ok_Mod (by decide) kw20 rfl rfl rfl rfl eM43 d_Mod_init_121 (fun H locs hM hS => ?_)
  refine lv_aload_n C.1.1 C.1.2.1 d_Mod_init_124 rfl (lv_at hl 0 rfl) ?_
  refine lv_sipush (v := (16384 : Int32)) C.1.1 C.1.2.1 d_Mod_init_125 (by decide) ?_
  refine mn_A (atype := .int) (a0 := (16384, .inl (fun _ => 0))) (N' := 16384) C.1 hM hS (ty := .int) rfl kw5 2 rfl (fun _ => rfl) (by decide) (by decide) (by decide) (show _ ≤ (16 : Nat) by omega) (show _ ≤ (35118 : Nat) by omega) d_Mod_init_128 (fun q44 H hq44 hM hS => ?_)
  obtain ⟨M45, eM45⟩ : ∃ N : Mem, N = mup M43 q44 (.inl (g 2, (16384, .inl (fun _ => 0)))) := ⟨_, rfl⟩
  rw [← eM45] at hM
  have h := h q44 M45 hq44 eM45
  obtain ⟨M46, eM46, h⟩ := h
  refine mp_F C.1 hM hS C.2.2.2 ok_Mod (by decide) kw21 rfl rfl rfl rfl eM46 d_Mod_init_130 (fun H locs hM hS => ?_)
  refine lv_aload_n C.1.1 C.1.2.1 d_Mod_init_133 rfl (lv_at hl 0 rfl) ?_
  refine lv_sipush (v := (16384 : Int32)) C.1.1 C.1.2.1 d_Mod_init_134 (by decide) ?_
  refine mn_A (atype := .int) (a0 := (16384, .inl (fun _ => 0))) (N' := 16384) C.1 hM hS (ty := .int) rfl kw5 2 rfl (fun _ => rfl) (by decide) (by decide) (by decide) (show _ ≤ (16 : Nat) by omega) (show _ ≤ (35118 : Nat) by omega) d_Mod_init_137 (fun q47 H hq47 hM hS => ?_)
  obtain ⟨M48, eM48⟩ : ∃ N : Mem, N = mup M46 q47 (.inl (g 2, (16384, .inl (fun _ => 0)))) := ⟨_, rfl⟩
  rw [← eM48] at hM
  have h := h q47 M48 hq47 eM48
  obtain ⟨M49, eM49, h⟩ := h
  refine mp_F C.1 hM hS C.2.2.2 ok_Mod (by decide) kw22 rfl rfl rfl rfl eM49 d_Mod_init_139 (fun H locs hM hS => ?_)
  refine lv_iconst (v := (0 : Int32)) C.1.1 C.1.2.1 d_Mod_init_142 (by decide) ?_
  refine lv_istore_n (lv' := [(1, .int (0 : Int32)), (0, .ref x0)]) C.1.1 C.1.2.1 d_Mod_init_143 rfl hl (by decide) rfl (fun ls hl => ?_)
  exact t_Mod_init_b144 C h (show _ ≤ (16 : Nat) by omega) (show _ ≤ (35118 : Nat) by omega) _ _ _ hM hS (lv_sub hl [1, 0] rfl)
theorem d_Mod_thrown_0 : decode b_Mod_thrown 0 = .ok (.aload_n 0, 1) := by decide +kernel
theorem d_Mod_thrown_1 : decode b_Mod_thrown 1 = .ok (.getfield 63, 3) := by decide +kernel
theorem d_Mod_thrown_4 : decode b_Mod_thrown 4 = .ok (.ireturn, 1) := by decide +kernel
abbrev rm_Mod_thrown : Room := { frames := 0, cells := 0, slots := 0, locals := 0 }
abbrev C_Mod_thrown (D : va_G) (g : Nat → ClassId) (p : Program) (s : State) (m : MethodId) (args : Array Value) (meth : Method) (c : Code) (M0 : Mem) : Prop := Cx p s m args c b_Mod_thrown 1 R_Mod BIG D vwCl (tysG g) (mA M0 s.heap.size) ∧ meth.sig.returnType = (some .int) ∧ meth.locks = false
abbrev B_Mod_thrown (l : Launch) (D : va_G) (p : Program) (e : Env) (s : State) (m : MethodId) (args : Array Value) (below : List Frame) (meth : Method) (c : Code) (M0 : Mem) (P : Int32 → Prop) (M : Mem) (pc : Nat) (lv : List (Nat × Value)) (st : List Value) : Prop := Wb p l e rm_Mod_thrown s m args below meth c 1 D vwCl M0 (kI fun r M' => M0 = M' ∧ P r) 0 0 M pc lv st
def wp_Mod_thrown (g : Nat → ClassId) (M : Mem) (x0 : Nat) (P : Int32 → Prop) : Prop :=
  ∃ v1 : Int32, gI M 6 x0 0 = some v1 ∧ (P v1)
set_option maxHeartbeats 4000000 in
set_option maxRecDepth 100000 in
theorem c_Mod_thrown {l : Launch} {D : va_G} {g : Nat → ClassId} {M : Mem} {x0 : Nat} {P : Int32 → Prop} (h : wp_Mod_thrown g M x0 P) : mMet l BIG D vwCl (tysG g) y_Mod_thrown b_Mod_thrown 1 (some .int) rm_Mod_thrown [.ref x0] M (kI fun r M' => M = M' ∧ P r) := by
  refine mMet.of (own := R_Mod) rfl (by decide) rfl (fun p e s m below meth c C hr hlk hnm ls hM hS hl => ?_)
  have C : C_Mod_thrown D g p s m ([.ref x0] : List Value).toArray meth c M := ⟨C, hr, hlk⟩
  unfold wp_Mod_thrown at h
  have hl : lv_has ls 1 [(0, .ref x0)] := hl
  refine lv_aload_n C.1.1 C.1.2.1 d_Mod_thrown_0 rfl (lv_at hl 0 rfl) ?_
  obtain ⟨v1, ev1, h⟩ := h
  refine mg_I C.1 hM ok_Mod (by decide) kw23 ev1 d_Mod_thrown_1 ?_
  exact mr_I C.1 C.2.1 C.2.2 hM hS ⟨_, rfl, rfl, h⟩ d_Mod_thrown_4
theorem d_Mod_raise_0 : decode b_Mod_raise 0 = .ok (.aload_n 0, 1) := by decide +kernel
theorem d_Mod_raise_1 : decode b_Mod_raise 1 = .ok (.iload_n 1, 1) := by decide +kernel
theorem d_Mod_raise_2 : decode b_Mod_raise 2 = .ok (.putfield 63, 3) := by decide +kernel
theorem d_Mod_raise_5 : decode b_Mod_raise 5 = .ok (.iconst 0, 1) := by decide +kernel
theorem d_Mod_raise_6 : decode b_Mod_raise 6 = .ok (.ireturn, 1) := by decide +kernel
abbrev rm_Mod_raise : Room := { frames := 0, cells := 0, slots := 0, locals := 0 }
abbrev C_Mod_raise (D : va_G) (g : Nat → ClassId) (p : Program) (s : State) (m : MethodId) (args : Array Value) (meth : Method) (c : Code) (M0 : Mem) : Prop := Cx p s m args c b_Mod_raise 2 R_Mod BIG D vwCl (tysG g) (mA M0 s.heap.size) ∧ meth.sig.returnType = (some .int) ∧ meth.locks = false
abbrev B_Mod_raise (l : Launch) (D : va_G) (p : Program) (e : Env) (s : State) (m : MethodId) (args : Array Value) (below : List Frame) (meth : Method) (c : Code) (M0 : Mem) (P : Int32 → Mem → Prop) (M : Mem) (pc : Nat) (lv : List (Nat × Value)) (st : List Value) : Prop := Wb p l e rm_Mod_raise s m args below meth c 2 D vwCl M0 (kI fun r M' => P r M') 0 0 M pc lv st
def wp_Mod_raise (g : Nat → ClassId) (M : Mem) (x0 : Nat) (x1 : Int32) (P : Int32 → Mem → Prop) : Prop :=
  ∃ M1 : Mem, pV M 6 x0 0 (.int x1) = some M1 ∧ (P (0 : Int32) M1)
set_option maxHeartbeats 4000000 in
set_option maxRecDepth 100000 in
theorem c_Mod_raise {l : Launch} {D : va_G} {g : Nat → ClassId} {M : Mem} {x0 : Nat} {x1 : Int32} {P : Int32 → Mem → Prop} (h : wp_Mod_raise g M x0 x1 P) : mMet l BIG D vwCl (tysG g) y_Mod_raise b_Mod_raise 2 (some .int) rm_Mod_raise [.ref x0, .int x1] M (kI fun r M' => P r M') := by
  refine mMet.of (own := R_Mod) rfl (by decide) rfl (fun p e s m below meth c C hr hlk hnm ls hM hS hl => ?_)
  have C : C_Mod_raise D g p s m ([.ref x0, .int x1] : List Value).toArray meth c M := ⟨C, hr, hlk⟩
  unfold wp_Mod_raise at h
  have hl : lv_has ls 2 [(0, .ref x0), (1, .int x1)] := hl
  refine lv_aload_n C.1.1 C.1.2.1 d_Mod_raise_0 rfl (lv_at hl 0 rfl) ?_
  refine lv_iload_n C.1.1 C.1.2.1 d_Mod_raise_1 rfl (lv_at hl 1 rfl) ?_
  obtain ⟨M1, eM1, h⟩ := h
  refine mp_V C.1 hM hS ok_Mod (by decide) kw23 rfl rfl rfl eM1 d_Mod_raise_2 (fun H locs hM hS => ?_)
  refine lv_iconst (v := (0 : Int32)) C.1.1 C.1.2.1 d_Mod_raise_5 (by decide) ?_
  exact mr_I C.1 C.2.1 C.2.2 hM hS ⟨_, rfl, h⟩ d_Mod_raise_6
theorem d_Mod_type_0 : decode b_Mod_type 0 = .ok (.aload_n 0, 1) := by decide +kernel
theorem d_Mod_type_1 : decode b_Mod_type 1 = .ok (.iconst 0, 1) := by decide +kernel
theorem d_Mod_type_2 : decode b_Mod_type 2 = .ok (.putfield 63, 3) := by decide +kernel
theorem d_Mod_type_5 : decode b_Mod_type 5 = .ok (.iload_n 3, 1) := by decide +kernel
theorem d_Mod_type_6 : decode b_Mod_type 6 = .ok (.iconst 1, 1) := by decide +kernel
theorem d_Mod_type_7 : decode b_Mod_type 7 = .ok (.if_icmp .lt 20, 3) := by decide +kernel
theorem d_Mod_type_10 : decode b_Mod_type 10 = .ok (.iload_n 3, 1) := by decide +kernel
theorem d_Mod_type_11 : decode b_Mod_type 11 = .ok (.bipush 8, 2) := by decide +kernel
theorem d_Mod_type_13 : decode b_Mod_type 13 = .ok (.if_icmp .gt 14, 3) := by decide +kernel
theorem d_Mod_type_16 : decode b_Mod_type 16 = .ok (.aload_n 0, 1) := by decide +kernel
theorem d_Mod_type_17 : decode b_Mod_type 17 = .ok (.getfield 66, 3) := by decide +kernel
theorem d_Mod_type_20 : decode b_Mod_type 20 = .ok (.iload_n 3, 1) := by decide +kernel
theorem d_Mod_type_21 : decode b_Mod_type 21 = .ok (.iadd, 1) := by decide +kernel
theorem d_Mod_type_22 : decode b_Mod_type 22 = .ok (.bipush 60, 2) := by decide +kernel
theorem d_Mod_type_24 : decode b_Mod_type 24 = .ok (.if_icmp .le 5, 3) := by decide +kernel
theorem d_Mod_type_27 : decode b_Mod_type 27 = .ok (.iconst 0, 1) := by decide +kernel
theorem d_Mod_type_28 : decode b_Mod_type 28 = .ok (.ireturn, 1) := by decide +kernel
theorem d_Mod_type_29 : decode b_Mod_type 29 = .ok (.iconst 0, 1) := by decide +kernel
theorem d_Mod_type_30 : decode b_Mod_type 30 = .ok (.istore 4, 2) := by decide +kernel
theorem d_Mod_type_32 : decode b_Mod_type 32 = .ok (.iload 4, 2) := by decide +kernel
theorem d_Mod_type_34 : decode b_Mod_type 34 = .ok (.iload_n 3, 1) := by decide +kernel
theorem d_Mod_type_35 : decode b_Mod_type 35 = .ok (.if_icmp .ge 39, 3) := by decide +kernel
theorem d_Mod_type_38 : decode b_Mod_type 38 = .ok (.lload_n 1, 1) := by decide +kernel
theorem d_Mod_type_39 : decode b_Mod_type 39 = .ok (.bipush 8, 2) := by decide +kernel
theorem d_Mod_type_41 : decode b_Mod_type 41 = .ok (.iload 4, 2) := by decide +kernel
theorem d_Mod_type_43 : decode b_Mod_type 43 = .ok (.imul, 1) := by decide +kernel
theorem d_Mod_type_44 : decode b_Mod_type 44 = .ok (.lshr, 1) := by decide +kernel
theorem d_Mod_type_45 : decode b_Mod_type 45 = .ok (.ldc2_w 69, 3) := by decide +kernel
theorem d_Mod_type_48 : decode b_Mod_type 48 = .ok (.land, 1) := by decide +kernel
theorem d_Mod_type_49 : decode b_Mod_type 49 = .ok (.l2i, 1) := by decide +kernel
theorem d_Mod_type_50 : decode b_Mod_type 50 = .ok (.istore 5, 2) := by decide +kernel
theorem d_Mod_type_52 : decode b_Mod_type 52 = .ok (.iload 5, 2) := by decide +kernel
theorem d_Mod_type_54 : decode b_Mod_type 54 = .ok (.bipush 33, 2) := by decide +kernel
theorem d_Mod_type_56 : decode b_Mod_type 56 = .ok (.if_icmp .lt 10, 3) := by decide +kernel
theorem d_Mod_type_59 : decode b_Mod_type 59 = .ok (.iload 5, 2) := by decide +kernel
theorem d_Mod_type_61 : decode b_Mod_type 61 = .ok (.bipush 126, 2) := by decide +kernel
theorem d_Mod_type_63 : decode b_Mod_type 63 = .ok (.if_icmp .le 5, 3) := by decide +kernel
theorem d_Mod_type_66 : decode b_Mod_type 66 = .ok (.iconst 0, 1) := by decide +kernel
theorem d_Mod_type_67 : decode b_Mod_type 67 = .ok (.ireturn, 1) := by decide +kernel
theorem d_Mod_type_68 : decode b_Mod_type 68 = .ok (.iinc 4 1, 3) := by decide +kernel
theorem d_Mod_type_71 : decode b_Mod_type 71 = .ok (.goto (-39), 3) := by decide +kernel
theorem d_Mod_type_74 : decode b_Mod_type 74 = .ok (.iload_n 3, 1) := by decide +kernel
theorem d_Mod_type_75 : decode b_Mod_type 75 = .ok (.iconst 1, 1) := by decide +kernel
theorem d_Mod_type_76 : decode b_Mod_type 76 = .ok (.isub, 1) := by decide +kernel
theorem d_Mod_type_77 : decode b_Mod_type 77 = .ok (.istore 4, 2) := by decide +kernel
theorem d_Mod_type_79 : decode b_Mod_type 79 = .ok (.iload 4, 2) := by decide +kernel
theorem d_Mod_type_81 : decode b_Mod_type 81 = .ok (.ifCond .lt 40, 3) := by decide +kernel
theorem d_Mod_type_84 : decode b_Mod_type 84 = .ok (.aload_n 0, 1) := by decide +kernel
theorem d_Mod_type_85 : decode b_Mod_type 85 = .ok (.getfield 7, 3) := by decide +kernel
theorem d_Mod_type_88 : decode b_Mod_type 88 = .ok (.aload_n 0, 1) := by decide +kernel
theorem d_Mod_type_89 : decode b_Mod_type 89 = .ok (.getfield 66, 3) := by decide +kernel
theorem d_Mod_type_92 : decode b_Mod_type 92 = .ok (.lload_n 1, 1) := by decide +kernel
theorem d_Mod_type_93 : decode b_Mod_type 93 = .ok (.bipush 8, 2) := by decide +kernel
theorem d_Mod_type_95 : decode b_Mod_type 95 = .ok (.iload 4, 2) := by decide +kernel
theorem d_Mod_type_97 : decode b_Mod_type 97 = .ok (.imul, 1) := by decide +kernel
theorem d_Mod_type_98 : decode b_Mod_type 98 = .ok (.lshr, 1) := by decide +kernel
theorem d_Mod_type_99 : decode b_Mod_type 99 = .ok (.ldc2_w 69, 3) := by decide +kernel
theorem d_Mod_type_102 : decode b_Mod_type 102 = .ok (.land, 1) := by decide +kernel
theorem d_Mod_type_103 : decode b_Mod_type 103 = .ok (.l2i, 1) := by decide +kernel
theorem d_Mod_type_104 : decode b_Mod_type 104 = .ok (.iastore, 1) := by decide +kernel
theorem d_Mod_type_105 : decode b_Mod_type 105 = .ok (.aload_n 0, 1) := by decide +kernel
theorem d_Mod_type_106 : decode b_Mod_type 106 = .ok (.dup, 1) := by decide +kernel
theorem d_Mod_type_107 : decode b_Mod_type 107 = .ok (.getfield 66, 3) := by decide +kernel
theorem d_Mod_type_110 : decode b_Mod_type 110 = .ok (.iconst 1, 1) := by decide +kernel
theorem d_Mod_type_111 : decode b_Mod_type 111 = .ok (.iadd, 1) := by decide +kernel
theorem d_Mod_type_112 : decode b_Mod_type 112 = .ok (.putfield 66, 3) := by decide +kernel
theorem d_Mod_type_115 : decode b_Mod_type 115 = .ok (.iinc 4 (-1), 3) := by decide +kernel
theorem d_Mod_type_118 : decode b_Mod_type 118 = .ok (.goto (-39), 3) := by decide +kernel
theorem d_Mod_type_121 : decode b_Mod_type 121 = .ok (.iconst 1, 1) := by decide +kernel
theorem d_Mod_type_122 : decode b_Mod_type 122 = .ok (.ireturn, 1) := by decide +kernel
abbrev rm_Mod_type : Room := { frames := 0, cells := 0, slots := 0, locals := 0 }
abbrev C_Mod_type (D : va_G) (g : Nat → ClassId) (p : Program) (s : State) (m : MethodId) (args : Array Value) (meth : Method) (c : Code) (M0 : Mem) : Prop := Cx p s m args c b_Mod_type 6 R_Mod BIG D vwCl (tysG g) (mA M0 s.heap.size) ∧ meth.sig.returnType = (some .boolean) ∧ meth.locks = false
abbrev B_Mod_type (l : Launch) (D : va_G) (p : Program) (e : Env) (s : State) (m : MethodId) (args : Array Value) (below : List Frame) (meth : Method) (c : Code) (M0 : Mem) (P : Int32 → Mem → Prop) (M : Mem) (pc : Nat) (lv : List (Nat × Value)) (st : List Value) : Prop := Wb p l e rm_Mod_type s m args below meth c 6 D vwCl M0 (kI fun r M' => P r M') 0 0 M pc lv st
def wp_Mod_type_b79 (g : Nat → ClassId) (P : Int32 → Mem → Prop) (M : Mem) (x0 : Nat) (x1 : Int64) (x4 : Int32) : Prop :=
  ∃ (I : Int32 → Mem → Prop) (μ : Int32 → Mem → Nat), I x4 M ∧ ∀ (x4 : Int32) (M : Mem), I x4 M →
  (x4 < 0 → (isB (1 : Int32) ∧ P (1 : Int32) M)) ∧ (¬ x4 < 0 → (∃ v2 : Nat, gR M 6 x0 1 = some v2 ∧ (∃ v3 : Int32, gI M 6 x0 2 = some v3 ∧ (∃ M4 : Mem, sI M (g 2) v2 v3 (((x1 >>> (((8 : Int32) * x4).toInt64 &&& 63)) &&& (255 : Int64)).toInt32) = some M4 ∧ (∃ v5 : Int32, gI M4 6 x0 2 = some v5 ∧ (∃ M6 : Mem, pV M4 6 x0 2 (.int (v5 + (1 : Int32))) = some M6 ∧ ((I (x4 + (-1 : Int32)) M6 ∧ μ (x4 + (-1 : Int32)) M6 < μ x4 M))))))))
set_option maxHeartbeats 4000000 in
set_option maxRecDepth 100000 in
theorem t_Mod_type_b79 {l : Launch} {D : va_G} {g : Nat → ClassId} {p : Program} {e : Env} {s : State} {m : MethodId} {args : Array Value} {below : List Frame} {meth : Method} {c : Code} {M0 : Mem} {P : Int32 → Mem → Prop} {M : Mem} {x0 : Nat} {x1 : Int64} {x4 : Int32} (C : C_Mod_type D g p s m args meth c M0) (h : wp_Mod_type_b79 g P M x0 x1 x4 ) : B_Mod_type l D p e s m args below meth c M0 P M 79 [(0, .ref x0), (1, .long x1), (4, .int x4)] [] := by
  unfold wp_Mod_type_b79 at h
  obtain ⟨I, μ, hI, hb⟩ := h
  have key : ∀ (n : Nat) (x4 : Int32) (M : Mem), I x4 M → μ x4 M < n → B_Mod_type l D p e s m args below meth c M0 P M 79 [(0, .ref x0), (1, .long x1), (4, .int x4)] [] := by
    intro n
    induction n with
    | zero => intro x4 M _ hn; exact absurd hn (Nat.not_lt_zero _)
    | succ n ih =>
      intro x4 M hI hn ls H locs hM hS hl
      have h := hb x4 M hI
      refine lv_iload C.1.1 C.1.2.1 d_Mod_type_79 (lv_at hl 2 rfl) ?_
      refine lv_if_lt (tgt := 121) C.1.1 C.1.2.1 d_Mod_type_81 (by decide) (fun c1 => ?_) (fun c1 => ?_)
      · have h := h.1 c1
        refine lv_iconst (v := (1 : Int32)) C.1.1 C.1.2.1 d_Mod_type_121 (by decide) ?_
        exact mr_Z C.1 C.2.1 C.2.2 h.1 hM hS ⟨_, rfl, h.2⟩ d_Mod_type_122
      · have h := h.2 c1
        refine lv_aload_n C.1.1 C.1.2.1 d_Mod_type_84 rfl (lv_at hl 0 rfl) ?_
        obtain ⟨v2, ev2, h⟩ := h
        refine mg_R C.1 hM ok_Mod (by decide) kw6 ev2 d_Mod_type_85 ?_
        refine lv_aload_n C.1.1 C.1.2.1 d_Mod_type_88 rfl (lv_at hl 0 rfl) ?_
        obtain ⟨v3, ev3, h⟩ := h
        refine mg_I C.1 hM ok_Mod (by decide) kw24 ev3 d_Mod_type_89 ?_
        refine lv_lload_n C.1.1 C.1.2.1 d_Mod_type_92 rfl (lv_at hl 1 rfl) ?_
        refine lv_bipush (v := (8 : Int32)) C.1.1 C.1.2.1 d_Mod_type_93 (by decide) ?_
        refine lv_iload C.1.1 C.1.2.1 d_Mod_type_95 (lv_at hl 2 rfl) ?_
        refine lv_imul C.1.1 C.1.2.1 d_Mod_type_97 ?_
        refine lv_lshr (v := x1 >>> (((8 : Int32) * x4).toInt64 &&& 63)) C.1.1 C.1.2.1 d_Mod_type_98 rfl ?_
        refine lv_ldc2 (v := (255 : Int64)) C.1.1 C.1.2.1 C.1.2.2.2.1 (C.1.2.2.2.2.1 _ kw25) d_Mod_type_99 ?_
        refine lv_land C.1.1 C.1.2.1 d_Mod_type_102 ?_
        refine lv_l2i (v := ((x1 >>> (((8 : Int32) * x4).toInt64 &&& 63)) &&& (255 : Int64)).toInt32) C.1.1 C.1.2.1 d_Mod_type_103 rfl ?_
        obtain ⟨M4, eM4, h⟩ := h
        refine ms_I C.1 hM hS 2 rfl eM4 d_Mod_type_104 (fun H locs hM hS => ?_)
        refine lv_aload_n C.1.1 C.1.2.1 d_Mod_type_105 rfl (lv_at hl 0 rfl) ?_
        refine lv_dup C.1.1 C.1.2.1 d_Mod_type_106 rfl ?_
        obtain ⟨v5, ev5, h⟩ := h
        refine mg_I C.1 hM ok_Mod (by decide) kw24 ev5 d_Mod_type_107 ?_
        refine lv_iconst (v := (1 : Int32)) C.1.1 C.1.2.1 d_Mod_type_110 (by decide) ?_
        refine lv_iadd C.1.1 C.1.2.1 d_Mod_type_111 ?_
        obtain ⟨M6, eM6, h⟩ := h
        refine mp_V C.1 hM hS ok_Mod (by decide) kw24 rfl rfl rfl eM6 d_Mod_type_112 (fun H locs hM hS => ?_)
        refine lv_iinc (v := x4 + (-1 : Int32)) (lv' := [(4, .int (x4 + (-1 : Int32))), (0, .ref x0), (1, .long x1)]) C.1.1 C.1.2.1 d_Mod_type_115 hl (k := 2) rfl rfl (by decide) rfl (fun ls hl => ?_)
        refine lv_goto (tgt := 79) C.1.1 C.1.2.1 d_Mod_type_118 (by decide) ?_
        exact ih (x4 + (-1 : Int32)) M6 h.1 (Nat.lt_of_lt_of_le h.2 (Nat.le_of_lt_succ hn)) _ _ _ hM hS (lv_sub hl [1, 2, 0] rfl)
  exact key _ x4 M hI (Nat.lt_succ_self _)
def wp_Mod_type_b66 (g : Nat → ClassId) (P : Int32 → Mem → Prop) (M : Mem) : Prop :=
  isB (0 : Int32) ∧ P (0 : Int32) M
set_option maxHeartbeats 4000000 in
set_option maxRecDepth 100000 in
theorem t_Mod_type_b66 {l : Launch} {D : va_G} {g : Nat → ClassId} {p : Program} {e : Env} {s : State} {m : MethodId} {args : Array Value} {below : List Frame} {meth : Method} {c : Code} {M0 : Mem} {P : Int32 → Mem → Prop} {M : Mem} (C : C_Mod_type D g p s m args meth c M0) (h : wp_Mod_type_b66 g P M ) : B_Mod_type l D p e s m args below meth c M0 P M 66 [] [] := by
  intro ls H locs hM hS hl
  unfold wp_Mod_type_b66 at h
  refine lv_iconst (v := (0 : Int32)) C.1.1 C.1.2.1 d_Mod_type_66 (by decide) ?_
  exact mr_Z C.1 C.2.1 C.2.2 h.1 hM hS ⟨_, rfl, h.2⟩ d_Mod_type_67
def wp_Mod_type_b32 (g : Nat → ClassId) (P : Int32 → Mem → Prop) (M : Mem) (x0 : Nat) (x1 : Int64) (x3 : Int32) (x4 : Int32) : Prop :=
  ∃ (I : Int32 → Prop) (μ : Int32 → Nat), I x4 ∧ ∀ (x4 : Int32), I x4 →
  (x3 ≤ x4 → (wp_Mod_type_b79 g P M x0 x1 (x3 - (1 : Int32)))) ∧ (¬ x3 ≤ x4 → (((((x1 >>> (((8 : Int32) * x4).toInt64 &&& 63)) &&& (255 : Int64)).toInt32) < (33 : Int32) → (wp_Mod_type_b66 g P M)) ∧ (¬ (((x1 >>> (((8 : Int32) * x4).toInt64 &&& 63)) &&& (255 : Int64)).toInt32) < (33 : Int32) → (((((x1 >>> (((8 : Int32) * x4).toInt64 &&& 63)) &&& (255 : Int64)).toInt32) ≤ (126 : Int32) → ((I (x4 + (1 : Int32)) ∧ μ (x4 + (1 : Int32)) < μ x4))) ∧ (¬ (((x1 >>> (((8 : Int32) * x4).toInt64 &&& 63)) &&& (255 : Int64)).toInt32) ≤ (126 : Int32) → (wp_Mod_type_b66 g P M))))))
set_option maxHeartbeats 4000000 in
set_option maxRecDepth 100000 in
theorem t_Mod_type_b32 {l : Launch} {D : va_G} {g : Nat → ClassId} {p : Program} {e : Env} {s : State} {m : MethodId} {args : Array Value} {below : List Frame} {meth : Method} {c : Code} {M0 : Mem} {P : Int32 → Mem → Prop} {M : Mem} {x0 : Nat} {x1 : Int64} {x3 : Int32} {x4 : Int32} (C : C_Mod_type D g p s m args meth c M0) (h : wp_Mod_type_b32 g P M x0 x1 x3 x4 ) : B_Mod_type l D p e s m args below meth c M0 P M 32 [(0, .ref x0), (1, .long x1), (3, .int x3), (4, .int x4)] [] := by
  unfold wp_Mod_type_b32 at h
  obtain ⟨I, μ, hI, hb⟩ := h
  have key : ∀ (n : Nat) (x4 : Int32), I x4 → μ x4 < n → B_Mod_type l D p e s m args below meth c M0 P M 32 [(0, .ref x0), (1, .long x1), (3, .int x3), (4, .int x4)] [] := by
    intro n
    induction n with
    | zero => intro x4 _ hn; exact absurd hn (Nat.not_lt_zero _)
    | succ n ih =>
      intro x4 hI hn ls H locs hM hS hl
      have h := hb x4 hI
      refine lv_iload C.1.1 C.1.2.1 d_Mod_type_32 (lv_at hl 3 rfl) ?_
      refine lv_iload_n C.1.1 C.1.2.1 d_Mod_type_34 rfl (lv_at hl 2 rfl) ?_
      refine lv_icmp_ge (tgt := 74) C.1.1 C.1.2.1 d_Mod_type_35 (by decide) (fun c1 => ?_) (fun c1 => ?_)
      · have h := h.1 c1
        refine lv_iload_n C.1.1 C.1.2.1 d_Mod_type_74 rfl (lv_at hl 2 rfl) ?_
        refine lv_iconst (v := (1 : Int32)) C.1.1 C.1.2.1 d_Mod_type_75 (by decide) ?_
        refine lv_isub C.1.1 C.1.2.1 d_Mod_type_76 ?_
        refine lv_istore (lv' := [(4, .int (x3 - (1 : Int32))), (0, .ref x0), (1, .long x1), (3, .int x3)]) C.1.1 C.1.2.1 d_Mod_type_77 hl (by decide) rfl (fun ls hl => ?_)
        exact t_Mod_type_b79 C h _ _ _ hM hS (lv_sub hl [1, 2, 0] rfl)
      · have h := h.2 c1
        refine lv_lload_n C.1.1 C.1.2.1 d_Mod_type_38 rfl (lv_at hl 1 rfl) ?_
        refine lv_bipush (v := (8 : Int32)) C.1.1 C.1.2.1 d_Mod_type_39 (by decide) ?_
        refine lv_iload C.1.1 C.1.2.1 d_Mod_type_41 (lv_at hl 3 rfl) ?_
        refine lv_imul C.1.1 C.1.2.1 d_Mod_type_43 ?_
        refine lv_lshr (v := x1 >>> (((8 : Int32) * x4).toInt64 &&& 63)) C.1.1 C.1.2.1 d_Mod_type_44 rfl ?_
        refine lv_ldc2 (v := (255 : Int64)) C.1.1 C.1.2.1 C.1.2.2.2.1 (C.1.2.2.2.2.1 _ kw25) d_Mod_type_45 ?_
        refine lv_land C.1.1 C.1.2.1 d_Mod_type_48 ?_
        refine lv_l2i (v := ((x1 >>> (((8 : Int32) * x4).toInt64 &&& 63)) &&& (255 : Int64)).toInt32) C.1.1 C.1.2.1 d_Mod_type_49 rfl ?_
        refine lv_istore (lv' := [(5, .int (((x1 >>> (((8 : Int32) * x4).toInt64 &&& 63)) &&& (255 : Int64)).toInt32)), (0, .ref x0), (1, .long x1), (3, .int x3), (4, .int x4)]) C.1.1 C.1.2.1 d_Mod_type_50 hl (by decide) rfl (fun ls hl => ?_)
        refine lv_iload C.1.1 C.1.2.1 d_Mod_type_52 (lv_at hl 0 rfl) ?_
        refine lv_bipush (v := (33 : Int32)) C.1.1 C.1.2.1 d_Mod_type_54 (by decide) ?_
        refine lv_icmp_lt (tgt := 66) C.1.1 C.1.2.1 d_Mod_type_56 (by decide) (fun c2 => ?_) (fun c2 => ?_)
        · have h := h.1 c2
          exact t_Mod_type_b66 C h _ _ _ hM hS (lv_sub hl [] rfl)
        · have h := h.2 c2
          refine lv_iload C.1.1 C.1.2.1 d_Mod_type_59 (lv_at hl 0 rfl) ?_
          refine lv_bipush (v := (126 : Int32)) C.1.1 C.1.2.1 d_Mod_type_61 (by decide) ?_
          refine lv_icmp_le (tgt := 68) C.1.1 C.1.2.1 d_Mod_type_63 (by decide) (fun c3 => ?_) (fun c3 => ?_)
          · have h := h.1 c3
            refine lv_iinc (v := x4 + (1 : Int32)) (lv' := [(4, .int (x4 + (1 : Int32))), (5, .int (((x1 >>> (((8 : Int32) * x4).toInt64 &&& 63)) &&& (255 : Int64)).toInt32)), (0, .ref x0), (1, .long x1), (3, .int x3)]) C.1.1 C.1.2.1 d_Mod_type_68 hl (k := 4) rfl rfl (by decide) rfl (fun ls hl => ?_)
            refine lv_goto (tgt := 32) C.1.1 C.1.2.1 d_Mod_type_71 (by decide) ?_
            exact ih (x4 + (1 : Int32)) h.1 (Nat.lt_of_lt_of_le h.2 (Nat.le_of_lt_succ hn)) _ _ _ hM hS (lv_sub hl [2, 3, 4, 0] rfl)
          · have h := h.2 c3
            exact t_Mod_type_b66 C h _ _ _ hM hS (lv_sub hl [] rfl)
  exact key _ x4 hI (Nat.lt_succ_self _)
def wp_Mod_type_b27 (g : Nat → ClassId) (P : Int32 → Mem → Prop) (M : Mem) : Prop :=
  isB (0 : Int32) ∧ P (0 : Int32) M
set_option maxHeartbeats 4000000 in
set_option maxRecDepth 100000 in
theorem t_Mod_type_b27 {l : Launch} {D : va_G} {g : Nat → ClassId} {p : Program} {e : Env} {s : State} {m : MethodId} {args : Array Value} {below : List Frame} {meth : Method} {c : Code} {M0 : Mem} {P : Int32 → Mem → Prop} {M : Mem} (C : C_Mod_type D g p s m args meth c M0) (h : wp_Mod_type_b27 g P M ) : B_Mod_type l D p e s m args below meth c M0 P M 27 [] [] := by
  intro ls H locs hM hS hl
  unfold wp_Mod_type_b27 at h
  refine lv_iconst (v := (0 : Int32)) C.1.1 C.1.2.1 d_Mod_type_27 (by decide) ?_
  exact mr_Z C.1 C.2.1 C.2.2 h.1 hM hS ⟨_, rfl, h.2⟩ d_Mod_type_28
def wp_Mod_type (g : Nat → ClassId) (M : Mem) (x0 : Nat) (x1 : Int64) (x3 : Int32) (P : Int32 → Mem → Prop) : Prop :=
  ∃ M1 : Mem, pV M 6 x0 0 (.int (0 : Int32)) = some M1 ∧ ((x3 < (1 : Int32) → (wp_Mod_type_b27 g P M1)) ∧ (¬ x3 < (1 : Int32) → (((8 : Int32) < x3 → (wp_Mod_type_b27 g P M1)) ∧ (¬ (8 : Int32) < x3 → (∃ v4 : Int32, gI M1 6 x0 2 = some v4 ∧ (((v4 + x3) ≤ (60 : Int32) → (wp_Mod_type_b32 g P M1 x0 x1 x3 (0 : Int32))) ∧ (¬ (v4 + x3) ≤ (60 : Int32) → (wp_Mod_type_b27 g P M1))))))))
set_option maxHeartbeats 4000000 in
set_option maxRecDepth 100000 in
theorem c_Mod_type {l : Launch} {D : va_G} {g : Nat → ClassId} {M : Mem} {x0 : Nat} {x1 : Int64} {x3 : Int32} {P : Int32 → Mem → Prop} (h : wp_Mod_type g M x0 x1 x3 P) : mMet l BIG D vwCl (tysG g) y_Mod_type b_Mod_type 6 (some .boolean) rm_Mod_type [.ref x0, .long x1, .int x3] M (kI fun r M' => P r M') := by
  refine mMet.of (own := R_Mod) rfl (by decide) rfl (fun p e s m below meth c C hr hlk hnm ls hM hS hl => ?_)
  have C : C_Mod_type D g p s m ([.ref x0, .long x1, .int x3] : List Value).toArray meth c M := ⟨C, hr, hlk⟩
  unfold wp_Mod_type at h
  have hl : lv_has ls 6 [(0, .ref x0), (1, .long x1), (3, .int x3)] := hl
  refine lv_aload_n C.1.1 C.1.2.1 d_Mod_type_0 rfl (lv_at hl 0 rfl) ?_
  refine lv_iconst (v := (0 : Int32)) C.1.1 C.1.2.1 d_Mod_type_1 (by decide) ?_
  obtain ⟨M1, eM1, h⟩ := h
  refine mp_V C.1 hM hS ok_Mod (by decide) kw23 rfl rfl rfl eM1 d_Mod_type_2 (fun H locs hM hS => ?_)
  refine lv_iload_n C.1.1 C.1.2.1 d_Mod_type_5 rfl (lv_at hl 2 rfl) ?_
  refine lv_iconst (v := (1 : Int32)) C.1.1 C.1.2.1 d_Mod_type_6 (by decide) ?_
  refine lv_icmp_lt (tgt := 27) C.1.1 C.1.2.1 d_Mod_type_7 (by decide) (fun c2 => ?_) (fun c2 => ?_)
  · have h := h.1 c2
    exact t_Mod_type_b27 C h _ _ _ hM hS (lv_sub hl [] rfl)
  · have h := h.2 c2
    refine lv_iload_n C.1.1 C.1.2.1 d_Mod_type_10 rfl (lv_at hl 2 rfl) ?_
    refine lv_bipush (v := (8 : Int32)) C.1.1 C.1.2.1 d_Mod_type_11 (by decide) ?_
    refine lv_icmp_gt (tgt := 27) C.1.1 C.1.2.1 d_Mod_type_13 (by decide) (fun c3 => ?_) (fun c3 => ?_)
    · have h := h.1 c3
      exact t_Mod_type_b27 C h _ _ _ hM hS (lv_sub hl [] rfl)
    · have h := h.2 c3
      refine lv_aload_n C.1.1 C.1.2.1 d_Mod_type_16 rfl (lv_at hl 0 rfl) ?_
      obtain ⟨v4, ev4, h⟩ := h
      refine mg_I C.1 hM ok_Mod (by decide) kw24 ev4 d_Mod_type_17 ?_
      refine lv_iload_n C.1.1 C.1.2.1 d_Mod_type_20 rfl (lv_at hl 2 rfl) ?_
      refine lv_iadd C.1.1 C.1.2.1 d_Mod_type_21 ?_
      refine lv_bipush (v := (60 : Int32)) C.1.1 C.1.2.1 d_Mod_type_22 (by decide) ?_
      refine lv_icmp_le (tgt := 29) C.1.1 C.1.2.1 d_Mod_type_24 (by decide) (fun c5 => ?_) (fun c5 => ?_)
      · have h := h.1 c5
        refine lv_iconst (v := (0 : Int32)) C.1.1 C.1.2.1 d_Mod_type_29 (by decide) ?_
        refine lv_istore (lv' := [(4, .int (0 : Int32)), (0, .ref x0), (1, .long x1), (3, .int x3)]) C.1.1 C.1.2.1 d_Mod_type_30 hl (by decide) rfl (fun ls hl => ?_)
        exact t_Mod_type_b32 C h _ _ _ hM hS (lv_sub hl [1, 2, 3, 0] rfl)
      · have h := h.2 c5
        exact t_Mod_type_b27 C h _ _ _ hM hS (lv_sub hl [] rfl)
theorem d_Mod_isSign_0 : decode b_Mod_isSign 0 = .ok (.iload_n 0, 1) := by decide +kernel
theorem d_Mod_isSign_1 : decode b_Mod_isSign 1 = .ok (.bipush 97, 2) := by decide +kernel
theorem d_Mod_isSign_3 : decode b_Mod_isSign 3 = .ok (.if_icmp .lt 9, 3) := by decide +kernel
theorem d_Mod_isSign_6 : decode b_Mod_isSign 6 = .ok (.iload_n 0, 1) := by decide +kernel
theorem d_Mod_isSign_7 : decode b_Mod_isSign 7 = .ok (.bipush 122, 2) := by decide +kernel
theorem d_Mod_isSign_9 : decode b_Mod_isSign 9 = .ok (.if_icmp .le 15, 3) := by decide +kernel
theorem d_Mod_isSign_12 : decode b_Mod_isSign 12 = .ok (.iload_n 0, 1) := by decide +kernel
theorem d_Mod_isSign_13 : decode b_Mod_isSign 13 = .ok (.bipush 48, 2) := by decide +kernel
theorem d_Mod_isSign_15 : decode b_Mod_isSign 15 = .ok (.if_icmp .lt 13, 3) := by decide +kernel
theorem d_Mod_isSign_18 : decode b_Mod_isSign 18 = .ok (.iload_n 0, 1) := by decide +kernel
theorem d_Mod_isSign_19 : decode b_Mod_isSign 19 = .ok (.bipush 57, 2) := by decide +kernel
theorem d_Mod_isSign_21 : decode b_Mod_isSign 21 = .ok (.if_icmp .gt 7, 3) := by decide +kernel
theorem d_Mod_isSign_24 : decode b_Mod_isSign 24 = .ok (.iconst 1, 1) := by decide +kernel
theorem d_Mod_isSign_25 : decode b_Mod_isSign 25 = .ok (.goto 4, 3) := by decide +kernel
theorem d_Mod_isSign_28 : decode b_Mod_isSign 28 = .ok (.iconst 0, 1) := by decide +kernel
theorem d_Mod_isSign_29 : decode b_Mod_isSign 29 = .ok (.ireturn, 1) := by decide +kernel
abbrev rm_Mod_isSign : Room := { frames := 0, cells := 0, slots := 0, locals := 0 }
abbrev C_Mod_isSign (D : va_G) (g : Nat → ClassId) (p : Program) (s : State) (m : MethodId) (args : Array Value) (meth : Method) (c : Code) (M0 : Mem) : Prop := Cx p s m args c b_Mod_isSign 1 R_Mod BIG D vwCl (tysG g) (mA M0 s.heap.size) ∧ meth.sig.returnType = (some .boolean) ∧ meth.locks = false
abbrev B_Mod_isSign (l : Launch) (D : va_G) (p : Program) (e : Env) (s : State) (m : MethodId) (args : Array Value) (below : List Frame) (meth : Method) (c : Code) (M0 : Mem) (P : Int32 → Prop) (M : Mem) (pc : Nat) (lv : List (Nat × Value)) (st : List Value) : Prop := Wb p l e rm_Mod_isSign s m args below meth c 1 D vwCl M0 (kI fun r M' => M0 = M' ∧ P r) 0 0 M pc lv st
def wp_Mod_isSign_b29 (g : Nat → ClassId) (P : Int32 → Prop) (M : Mem) (t0 : Int32) : Prop :=
  isB t0 ∧ P t0
set_option maxHeartbeats 4000000 in
set_option maxRecDepth 100000 in
theorem t_Mod_isSign_b29 {l : Launch} {D : va_G} {g : Nat → ClassId} {p : Program} {e : Env} {s : State} {m : MethodId} {args : Array Value} {below : List Frame} {meth : Method} {c : Code} {P : Int32 → Prop} {M : Mem} {t0 : Int32} (C : C_Mod_isSign D g p s m args meth c M) (h : wp_Mod_isSign_b29 g P M t0) : B_Mod_isSign l D p e s m args below meth c M P M 29 [] [.int t0] := by
  intro ls H locs hM hS hl
  unfold wp_Mod_isSign_b29 at h
  exact mr_Z C.1 C.2.1 C.2.2 h.1 hM hS ⟨_, rfl, rfl, h.2⟩ d_Mod_isSign_29
def wp_Mod_isSign_b28 (g : Nat → ClassId) (P : Int32 → Prop) (M : Mem) : Prop :=
  wp_Mod_isSign_b29 g P M (0 : Int32)
set_option maxHeartbeats 4000000 in
set_option maxRecDepth 100000 in
theorem t_Mod_isSign_b28 {l : Launch} {D : va_G} {g : Nat → ClassId} {p : Program} {e : Env} {s : State} {m : MethodId} {args : Array Value} {below : List Frame} {meth : Method} {c : Code} {P : Int32 → Prop} {M : Mem} (C : C_Mod_isSign D g p s m args meth c M) (h : wp_Mod_isSign_b28 g P M ) : B_Mod_isSign l D p e s m args below meth c M P M 28 [] [] := by
  intro ls H locs hM hS hl
  unfold wp_Mod_isSign_b28 at h
  refine lv_iconst (v := (0 : Int32)) C.1.1 C.1.2.1 d_Mod_isSign_28 (by decide) ?_
  exact t_Mod_isSign_b29 C h _ _ _ hM hS (lv_sub hl [] rfl)
def wp_Mod_isSign_b24 (g : Nat → ClassId) (P : Int32 → Prop) (M : Mem) : Prop :=
  wp_Mod_isSign_b29 g P M (1 : Int32)
set_option maxHeartbeats 4000000 in
set_option maxRecDepth 100000 in
theorem t_Mod_isSign_b24 {l : Launch} {D : va_G} {g : Nat → ClassId} {p : Program} {e : Env} {s : State} {m : MethodId} {args : Array Value} {below : List Frame} {meth : Method} {c : Code} {P : Int32 → Prop} {M : Mem} (C : C_Mod_isSign D g p s m args meth c M) (h : wp_Mod_isSign_b24 g P M ) : B_Mod_isSign l D p e s m args below meth c M P M 24 [] [] := by
  intro ls H locs hM hS hl
  unfold wp_Mod_isSign_b24 at h
  refine lv_iconst (v := (1 : Int32)) C.1.1 C.1.2.1 d_Mod_isSign_24 (by decide) ?_
  refine lv_goto (tgt := 29) C.1.1 C.1.2.1 d_Mod_isSign_25 (by decide) ?_
  exact t_Mod_isSign_b29 C h _ _ _ hM hS (lv_sub hl [] rfl)
def wp_Mod_isSign_b12 (g : Nat → ClassId) (P : Int32 → Prop) (M : Mem) (x0 : Int32) : Prop :=
  (x0 < (48 : Int32) → (wp_Mod_isSign_b28 g P M)) ∧ (¬ x0 < (48 : Int32) → (((57 : Int32) < x0 → (wp_Mod_isSign_b28 g P M)) ∧ (¬ (57 : Int32) < x0 → (wp_Mod_isSign_b24 g P M))))
set_option maxHeartbeats 4000000 in
set_option maxRecDepth 100000 in
theorem t_Mod_isSign_b12 {l : Launch} {D : va_G} {g : Nat → ClassId} {p : Program} {e : Env} {s : State} {m : MethodId} {args : Array Value} {below : List Frame} {meth : Method} {c : Code} {P : Int32 → Prop} {M : Mem} {x0 : Int32} (C : C_Mod_isSign D g p s m args meth c M) (h : wp_Mod_isSign_b12 g P M x0 ) : B_Mod_isSign l D p e s m args below meth c M P M 12 [(0, .int x0)] [] := by
  intro ls H locs hM hS hl
  unfold wp_Mod_isSign_b12 at h
  refine lv_iload_n C.1.1 C.1.2.1 d_Mod_isSign_12 rfl (lv_at hl 0 rfl) ?_
  refine lv_bipush (v := (48 : Int32)) C.1.1 C.1.2.1 d_Mod_isSign_13 (by decide) ?_
  refine lv_icmp_lt (tgt := 28) C.1.1 C.1.2.1 d_Mod_isSign_15 (by decide) (fun c1 => ?_) (fun c1 => ?_)
  · have h := h.1 c1
    exact t_Mod_isSign_b28 C h _ _ _ hM hS (lv_sub hl [] rfl)
  · have h := h.2 c1
    refine lv_iload_n C.1.1 C.1.2.1 d_Mod_isSign_18 rfl (lv_at hl 0 rfl) ?_
    refine lv_bipush (v := (57 : Int32)) C.1.1 C.1.2.1 d_Mod_isSign_19 (by decide) ?_
    refine lv_icmp_gt (tgt := 28) C.1.1 C.1.2.1 d_Mod_isSign_21 (by decide) (fun c2 => ?_) (fun c2 => ?_)
    · have h := h.1 c2
      exact t_Mod_isSign_b28 C h _ _ _ hM hS (lv_sub hl [] rfl)
    · have h := h.2 c2
      exact t_Mod_isSign_b24 C h _ _ _ hM hS (lv_sub hl [] rfl)
def wp_Mod_isSign (g : Nat → ClassId) (M : Mem) (x0 : Int32) (P : Int32 → Prop) : Prop :=
  (x0 < (97 : Int32) → (wp_Mod_isSign_b12 g P M x0)) ∧ (¬ x0 < (97 : Int32) → ((x0 ≤ (122 : Int32) → (wp_Mod_isSign_b24 g P M)) ∧ (¬ x0 ≤ (122 : Int32) → (wp_Mod_isSign_b12 g P M x0))))
set_option maxHeartbeats 4000000 in
set_option maxRecDepth 100000 in
theorem c_Mod_isSign {l : Launch} {D : va_G} {g : Nat → ClassId} {M : Mem} {x0 : Int32} {P : Int32 → Prop} (h : wp_Mod_isSign g M x0 P) : mMet l BIG D vwCl (tysG g) y_Mod_isSign b_Mod_isSign 1 (some .boolean) rm_Mod_isSign [.int x0] M (kI fun r M' => M = M' ∧ P r) := by
  refine mMet.of (own := R_Mod) rfl (by decide) rfl (fun p e s m below meth c C hr hlk hnm ls hM hS hl => ?_)
  have C : C_Mod_isSign D g p s m ([.int x0] : List Value).toArray meth c M := ⟨C, hr, hlk⟩
  unfold wp_Mod_isSign at h
  have hl : lv_has ls 1 [(0, .int x0)] := hl
  refine lv_iload_n C.1.1 C.1.2.1 d_Mod_isSign_0 rfl (lv_at hl 0 rfl) ?_
  refine lv_bipush (v := (97 : Int32)) C.1.1 C.1.2.1 d_Mod_isSign_1 (by decide) ?_
  refine lv_icmp_lt (tgt := 12) C.1.1 C.1.2.1 d_Mod_isSign_3 (by decide) (fun c1 => ?_) (fun c1 => ?_)
  · have h := h.1 c1
    exact t_Mod_isSign_b12 C h _ _ _ hM hS (lv_sub hl [0] rfl)
  · have h := h.2 c1
    refine lv_iload_n C.1.1 C.1.2.1 d_Mod_isSign_6 rfl (lv_at hl 0 rfl) ?_
    refine lv_bipush (v := (122 : Int32)) C.1.1 C.1.2.1 d_Mod_isSign_7 (by decide) ?_
    refine lv_icmp_le (tgt := 24) C.1.1 C.1.2.1 d_Mod_isSign_9 (by decide) (fun c2 => ?_) (fun c2 => ?_)
    · have h := h.1 c2
      exact t_Mod_isSign_b24 C h _ _ _ hM hS (lv_sub hl [] rfl)
    · have h := h.2 c2
      exact t_Mod_isSign_b12 C h _ _ _ hM hS (lv_sub hl [0] rfl)
