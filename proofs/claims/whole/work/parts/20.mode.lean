theorem d_Mod_fitsKept_0 : decode b_Mod_fitsKept 0 = .ok (.aload_n 0, 1) := by decide +kernel
theorem d_Mod_fitsKept_1 : decode b_Mod_fitsKept 1 = .ok (.iload_n 1, 1) := by decide +kernel
theorem d_Mod_fitsKept_2 : decode b_Mod_fitsKept 2 = .ok (.aload_n 0, 1) := by decide +kernel
theorem d_Mod_fitsKept_3 : decode b_Mod_fitsKept 3 = .ok (.getfield 45, 3) := by decide +kernel
theorem d_Mod_fitsKept_6 : decode b_Mod_fitsKept 6 = .ok (.bipush 6, 2) := by decide +kernel
theorem d_Mod_fitsKept_8 : decode b_Mod_fitsKept 8 = .ok (.iload_n 2, 1) := by decide +kernel
theorem d_Mod_fitsKept_9 : decode b_Mod_fitsKept 9 = .ok (.imul, 1) := by decide +kernel
theorem d_Mod_fitsKept_10 : decode b_Mod_fitsKept 10 = .ok (.aload_n 0, 1) := by decide +kernel
theorem d_Mod_fitsKept_11 : decode b_Mod_fitsKept 11 = .ok (.getfield 48, 3) := by decide +kernel
theorem d_Mod_fitsKept_14 : decode b_Mod_fitsKept 14 = .ok (.iload_n 2, 1) := by decide +kernel
theorem d_Mod_fitsKept_15 : decode b_Mod_fitsKept 15 = .ok (.iaload, 1) := by decide +kernel
theorem d_Mod_fitsKept_16 : decode b_Mod_fitsKept 16 = .ok (.invokevirtual 118, 3) := by decide +kernel
theorem d_Mod_fitsKept_19 : decode b_Mod_fitsKept 19 = .ok (.ireturn, 1) := by decide +kernel
abbrev rm_Mod_fitsKept : Room := { frames := 4, cells := 0, slots := 0, locals := 104 }
abbrev C_Mod_fitsKept (D : va_G) (g : Nat → ClassId) (p : Program) (s : State) (m : MethodId) (args : Array Value) (meth : Method) (c : Code) (M0 : Mem) : Prop := Cx p s m args c b_Mod_fitsKept 3 R_Mod BIG D vwCl (tysG g) (mA M0 s.heap.size) ∧ meth.sig.returnType = (some .boolean) ∧ meth.locks = false
abbrev B_Mod_fitsKept (l : Launch) (D : va_G) (p : Program) (e : Env) (s : State) (m : MethodId) (args : Array Value) (below : List Frame) (meth : Method) (c : Code) (M0 : Mem) (P : Int32 → Prop) (M : Mem) (pc : Nat) (lv : List (Nat × Value)) (st : List Value) : Prop := Wb p l e rm_Mod_fitsKept s m args below meth c 3 D vwCl M0 (kI fun r M' => M0 = M' ∧ P r) 0 0 M pc lv st
def wp_Mod_fitsKept (g : Nat → ClassId) (M : Mem) (x0 : Nat) (x1 : Int32) (x2 : Int32) (P : Int32 → Prop) : Prop :=
  ∃ v1 : Nat, gR M 6 x0 16 = some v1 ∧ (∃ v2 : Nat, gR M 6 x0 17 = some v2 ∧ (∃ v3 : Int32, aI M (g 2) v2 x2 = some v3 ∧ (isO M 6 x0 ∧ (wp_Mod_fits g M x0 x1 v1 ((6 : Int32) * x2) v3 (fun v4 : Int32 => isB v4 ∧ P v4)))))
set_option maxHeartbeats 4000000 in
set_option maxRecDepth 100000 in
theorem c_Mod_fitsKept {l : Launch} {D : va_G} {g : Nat → ClassId} {M : Mem} {x0 : Nat} {x1 : Int32} {x2 : Int32} {P : Int32 → Prop} (h : wp_Mod_fitsKept g M x0 x1 x2 P) : mMet l BIG D vwCl (tysG g) y_Mod_fitsKept b_Mod_fitsKept 3 (some .boolean) rm_Mod_fitsKept [.ref x0, .int x1, .int x2] M (kI fun r M' => M = M' ∧ P r) := by
  refine mMet.of (own := R_Mod) rfl (by decide) rfl (fun p e s m below meth c C hr hlk hnm ls hM hS hl => ?_)
  have C : C_Mod_fitsKept D g p s m ([.ref x0, .int x1, .int x2] : List Value).toArray meth c M := ⟨C, hr, hlk⟩
  unfold wp_Mod_fitsKept at h
  have hl : lv_has ls 3 [(0, .ref x0), (1, .int x1), (2, .int x2)] := hl
  refine lv_aload_n C.1.1 C.1.2.1 d_Mod_fitsKept_0 rfl (lv_at hl 0 rfl) ?_
  refine lv_iload_n C.1.1 C.1.2.1 d_Mod_fitsKept_1 rfl (lv_at hl 1 rfl) ?_
  refine lv_aload_n C.1.1 C.1.2.1 d_Mod_fitsKept_2 rfl (lv_at hl 0 rfl) ?_
  obtain ⟨v1, ev1, h⟩ := h
  refine mg_R C.1 hM ok_Mod (by decide) kw17 ev1 d_Mod_fitsKept_3 ?_
  refine lv_bipush (v := (6 : Int32)) C.1.1 C.1.2.1 d_Mod_fitsKept_6 (by decide) ?_
  refine lv_iload_n C.1.1 C.1.2.1 d_Mod_fitsKept_8 rfl (lv_at hl 2 rfl) ?_
  refine lv_imul C.1.1 C.1.2.1 d_Mod_fitsKept_9 ?_
  refine lv_aload_n C.1.1 C.1.2.1 d_Mod_fitsKept_10 rfl (lv_at hl 0 rfl) ?_
  obtain ⟨v2, ev2, h⟩ := h
  refine mg_R C.1 hM ok_Mod (by decide) kw18 ev2 d_Mod_fitsKept_11 ?_
  refine lv_iload_n C.1.1 C.1.2.1 d_Mod_fitsKept_14 rfl (lv_at hl 2 rfl) ?_
  obtain ⟨v3, ev3, h⟩ := h
  refine ma_I C.1 hM 2 rfl ev3 d_Mod_fitsKept_15 ?_
  obtain ⟨ho, h⟩ := h
  refine mc_V (As := [.int x1, .ref v1, .int ((6 : Int32) * x2), .int v3]) (ci := 6) C.1 hM hS bigGood (c_Mod_fits h) rfl ho kw67 kw69 kw70 kw29 kw68 hd_Mod_fits ⟨by decide, by decide⟩ hl.1 rfl (Nat.le_of_ble_eq_true rfl) d_Mod_fitsKept_16 (mc := 0) (ms := 0) rfl rfl ⟨by decide, by decide⟩ (fun v M' H locs hp hM hS => ?_)
  obtain ⟨v4, rfl, rfl, h⟩ := hp
  exact mr_Z C.1 C.2.1 C.2.2 h.1 hM hS ⟨_, rfl, rfl, h.2⟩ d_Mod_fitsKept_19
theorem d_Mod_about_0 : decode b_Mod_about 0 = .ok (.aload_n 0, 1) := by decide +kernel
theorem d_Mod_about_1 : decode b_Mod_about 1 = .ok (.iconst 0, 1) := by decide +kernel
theorem d_Mod_about_2 : decode b_Mod_about 2 = .ok (.putfield 63, 3) := by decide +kernel
theorem d_Mod_about_5 : decode b_Mod_about 5 = .ok (.aload_n 0, 1) := by decide +kernel
theorem d_Mod_about_6 : decode b_Mod_about 6 = .ok (.iload_n 1, 1) := by decide +kernel
theorem d_Mod_about_7 : decode b_Mod_about 7 = .ok (.invokevirtual 115, 3) := by decide +kernel
theorem d_Mod_about_10 : decode b_Mod_about 10 = .ok (.ifCond .ne 5, 3) := by decide +kernel
theorem d_Mod_about_13 : decode b_Mod_about 13 = .ok (.iconst (-1), 1) := by decide +kernel
theorem d_Mod_about_14 : decode b_Mod_about 14 = .ok (.ireturn, 1) := by decide +kernel
theorem d_Mod_about_15 : decode b_Mod_about 15 = .ok (.iload_n 2, 1) := by decide +kernel
theorem d_Mod_about_16 : decode b_Mod_about 16 = .ok (.tableswitch 93 0 3 #[32, 39, 46, 86], 32) := by decide +kernel
theorem d_Mod_about_48 : decode b_Mod_about 48 = .ok (.aload_n 0, 1) := by decide +kernel
theorem d_Mod_about_49 : decode b_Mod_about 49 = .ok (.getfield 24, 3) := by decide +kernel
theorem d_Mod_about_52 : decode b_Mod_about 52 = .ok (.iload_n 1, 1) := by decide +kernel
theorem d_Mod_about_53 : decode b_Mod_about 53 = .ok (.iaload, 1) := by decide +kernel
theorem d_Mod_about_54 : decode b_Mod_about 54 = .ok (.ireturn, 1) := by decide +kernel
theorem d_Mod_about_55 : decode b_Mod_about 55 = .ok (.aload_n 0, 1) := by decide +kernel
theorem d_Mod_about_56 : decode b_Mod_about 56 = .ok (.getfield 27, 3) := by decide +kernel
theorem d_Mod_about_59 : decode b_Mod_about 59 = .ok (.iload_n 1, 1) := by decide +kernel
theorem d_Mod_about_60 : decode b_Mod_about 60 = .ok (.iaload, 1) := by decide +kernel
theorem d_Mod_about_61 : decode b_Mod_about 61 = .ok (.ireturn, 1) := by decide +kernel
theorem d_Mod_about_62 : decode b_Mod_about 62 = .ok (.iconst 0, 1) := by decide +kernel
theorem d_Mod_about_63 : decode b_Mod_about 63 = .ok (.istore_n 3, 1) := by decide +kernel
theorem d_Mod_about_64 : decode b_Mod_about 64 = .ok (.iconst 0, 1) := by decide +kernel
theorem d_Mod_about_65 : decode b_Mod_about 65 = .ok (.istore 4, 2) := by decide +kernel
theorem d_Mod_about_67 : decode b_Mod_about 67 = .ok (.iload 4, 2) := by decide +kernel
theorem d_Mod_about_69 : decode b_Mod_about 69 = .ok (.aload_n 0, 1) := by decide +kernel
theorem d_Mod_about_70 : decode b_Mod_about 70 = .ok (.getfield 122, 3) := by decide +kernel
theorem d_Mod_about_73 : decode b_Mod_about 73 = .ok (.if_icmp .ge 27, 3) := by decide +kernel
theorem d_Mod_about_76 : decode b_Mod_about 76 = .ok (.iload_n 3, 1) := by decide +kernel
theorem d_Mod_about_77 : decode b_Mod_about 77 = .ok (.aload_n 0, 1) := by decide +kernel
theorem d_Mod_about_78 : decode b_Mod_about 78 = .ok (.iload_n 1, 1) := by decide +kernel
theorem d_Mod_about_79 : decode b_Mod_about 79 = .ok (.iload 4, 2) := by decide +kernel
theorem d_Mod_about_81 : decode b_Mod_about 81 = .ok (.invokevirtual 129, 3) := by decide +kernel
theorem d_Mod_about_84 : decode b_Mod_about 84 = .ok (.ifCond .eq 7, 3) := by decide +kernel
theorem d_Mod_about_87 : decode b_Mod_about 87 = .ok (.iconst 1, 1) := by decide +kernel
theorem d_Mod_about_88 : decode b_Mod_about 88 = .ok (.goto 4, 3) := by decide +kernel
theorem d_Mod_about_91 : decode b_Mod_about 91 = .ok (.iconst 0, 1) := by decide +kernel
theorem d_Mod_about_92 : decode b_Mod_about 92 = .ok (.iadd, 1) := by decide +kernel
theorem d_Mod_about_93 : decode b_Mod_about 93 = .ok (.istore_n 3, 1) := by decide +kernel
theorem d_Mod_about_94 : decode b_Mod_about 94 = .ok (.iinc 4 1, 3) := by decide +kernel
theorem d_Mod_about_97 : decode b_Mod_about 97 = .ok (.goto (-30), 3) := by decide +kernel
theorem d_Mod_about_100 : decode b_Mod_about 100 = .ok (.iload_n 3, 1) := by decide +kernel
theorem d_Mod_about_101 : decode b_Mod_about 101 = .ok (.ireturn, 1) := by decide +kernel
theorem d_Mod_about_102 : decode b_Mod_about 102 = .ok (.aload_n 0, 1) := by decide +kernel
theorem d_Mod_about_103 : decode b_Mod_about 103 = .ok (.getfield 39, 3) := by decide +kernel
theorem d_Mod_about_106 : decode b_Mod_about 106 = .ok (.iload_n 1, 1) := by decide +kernel
theorem d_Mod_about_107 : decode b_Mod_about 107 = .ok (.iaload, 1) := by decide +kernel
theorem d_Mod_about_108 : decode b_Mod_about 108 = .ok (.ireturn, 1) := by decide +kernel
theorem d_Mod_about_109 : decode b_Mod_about 109 = .ok (.iconst (-1), 1) := by decide +kernel
theorem d_Mod_about_110 : decode b_Mod_about 110 = .ok (.ireturn, 1) := by decide +kernel
abbrev rm_Mod_about : Room := { frames := 5, cells := 0, slots := 0, locals := 126 }
abbrev C_Mod_about (D : va_G) (g : Nat → ClassId) (p : Program) (s : State) (m : MethodId) (args : Array Value) (meth : Method) (c : Code) (M0 : Mem) : Prop := Cx p s m args c b_Mod_about 5 R_Mod BIG D vwCl (tysG g) (mA M0 s.heap.size) ∧ meth.sig.returnType = (some .int) ∧ meth.locks = false
abbrev B_Mod_about (l : Launch) (D : va_G) (p : Program) (e : Env) (s : State) (m : MethodId) (args : Array Value) (below : List Frame) (meth : Method) (c : Code) (M0 : Mem) (P : Int32 → Mem → Prop) (M : Mem) (pc : Nat) (lv : List (Nat × Value)) (st : List Value) : Prop := Wb p l e rm_Mod_about s m args below meth c 5 D vwCl M0 (kI fun r M' => P r M') 0 0 M pc lv st
def wp_Mod_about_b92 (g : Nat → ClassId) (P : Int32 → Mem → Prop) (J67 : Int32 → Int32 → Prop) (M : Mem) (x0 : Nat) (x1 : Int32) (x4 : Int32) (t0 : Int32) (t1 : Int32) : Prop :=
  J67 (t0 + t1) (x4 + (1 : Int32))
set_option maxHeartbeats 4000000 in
set_option maxRecDepth 100000 in
theorem t_Mod_about_b92 {l : Launch} {D : va_G} {g : Nat → ClassId} {p : Program} {e : Env} {s : State} {m : MethodId} {args : Array Value} {below : List Frame} {meth : Method} {c : Code} {M0 : Mem} {P : Int32 → Mem → Prop} {J67 : Int32 → Int32 → Prop} {M : Mem} {x0 : Nat} {x1 : Int32} {x4 : Int32} {t0 : Int32} {t1 : Int32} (C : C_Mod_about D g p s m args meth c M0) (h : wp_Mod_about_b92 g P J67 M x0 x1 x4 t0 t1) (kJ67 : ∀ (x3 : Int32) (x4 : Int32), J67 x3 x4 → B_Mod_about l D p e s m args below meth c M0 P M 67 [(0, .ref x0), (1, .int x1), (3, .int x3), (4, .int x4)] []) : B_Mod_about l D p e s m args below meth c M0 P M 92 [(0, .ref x0), (1, .int x1), (4, .int x4)] [.int t1, .int t0] := by
  intro ls H locs hM hS hl
  unfold wp_Mod_about_b92 at h
  refine lv_iadd C.1.1 C.1.2.1 d_Mod_about_92 ?_
  refine lv_istore_n (lv' := [(3, .int (t0 + t1)), (0, .ref x0), (1, .int x1), (4, .int x4)]) C.1.1 C.1.2.1 d_Mod_about_93 rfl hl (by decide) rfl (fun ls hl => ?_)
  refine lv_iinc (v := x4 + (1 : Int32)) (lv' := [(4, .int (x4 + (1 : Int32))), (3, .int (t0 + t1)), (0, .ref x0), (1, .int x1)]) C.1.1 C.1.2.1 d_Mod_about_94 hl (k := 3) rfl rfl (by decide) rfl (fun ls hl => ?_)
  refine lv_goto (tgt := 67) C.1.1 C.1.2.1 d_Mod_about_97 (by decide) ?_
  exact kJ67 (t0 + t1) (x4 + (1 : Int32)) h _ _ _ hM hS (lv_sub hl [2, 3, 1, 0] rfl)
def wp_Mod_about_b67 (g : Nat → ClassId) (P : Int32 → Mem → Prop) (M : Mem) (x0 : Nat) (x1 : Int32) (x3 : Int32) (x4 : Int32) : Prop :=
  ∃ (I : Int32 → Int32 → Prop) (μ : Int32 → Int32 → Nat), I x3 x4 ∧ ∀ (x3 : Int32) (x4 : Int32), I x3 x4 →
  ∃ v1 : Int32, gI M 6 x0 14 = some v1 ∧ ((v1 ≤ x4 → (P x3 M)) ∧ (¬ v1 ≤ x4 → (isO M 6 x0 ∧ (wp_Mod_fitsKept g M x0 x1 x4 (fun v3 : Int32 => (v3 = 0 → (wp_Mod_about_b92 g P (fun y3 y4 => I y3 y4 ∧ μ y3 y4 < μ x3 x4) M x0 x1 x4 x3 (0 : Int32))) ∧ (¬ v3 = 0 → (wp_Mod_about_b92 g P (fun y3 y4 => I y3 y4 ∧ μ y3 y4 < μ x3 x4) M x0 x1 x4 x3 (1 : Int32))))))))
set_option maxHeartbeats 4000000 in
set_option maxRecDepth 100000 in
theorem t_Mod_about_b67 {l : Launch} {D : va_G} {g : Nat → ClassId} {p : Program} {e : Env} {s : State} {m : MethodId} {args : Array Value} {below : List Frame} {meth : Method} {c : Code} {M0 : Mem} {P : Int32 → Mem → Prop} {M : Mem} {x0 : Nat} {x1 : Int32} {x3 : Int32} {x4 : Int32} (C : C_Mod_about D g p s m args meth c M0) (h : wp_Mod_about_b67 g P M x0 x1 x3 x4 ) : B_Mod_about l D p e s m args below meth c M0 P M 67 [(0, .ref x0), (1, .int x1), (3, .int x3), (4, .int x4)] [] := by
  unfold wp_Mod_about_b67 at h
  obtain ⟨I, μ, hI, hb⟩ := h
  have key : ∀ (n : Nat) (x3 : Int32) (x4 : Int32), I x3 x4 → μ x3 x4 < n → B_Mod_about l D p e s m args below meth c M0 P M 67 [(0, .ref x0), (1, .int x1), (3, .int x3), (4, .int x4)] [] := by
    intro n
    induction n with
    | zero => intro x3 x4 _ hn; exact absurd hn (Nat.not_lt_zero _)
    | succ n ih =>
      intro x3 x4 hI hn ls H locs hM hS hl
      have h := hb x3 x4 hI
      refine lv_iload C.1.1 C.1.2.1 d_Mod_about_67 (lv_at hl 3 rfl) ?_
      refine lv_aload_n C.1.1 C.1.2.1 d_Mod_about_69 rfl (lv_at hl 0 rfl) ?_
      obtain ⟨v1, ev1, h⟩ := h
      refine mg_I C.1 hM ok_Mod (by decide) kw71 ev1 d_Mod_about_70 ?_
      refine lv_icmp_ge (tgt := 100) C.1.1 C.1.2.1 d_Mod_about_73 (by decide) (fun c2 => ?_) (fun c2 => ?_)
      · have h := h.1 c2
        refine lv_iload_n C.1.1 C.1.2.1 d_Mod_about_100 rfl (lv_at hl 2 rfl) ?_
        exact mr_I C.1 C.2.1 C.2.2 hM hS ⟨_, rfl, h⟩ d_Mod_about_101
      · have h := h.2 c2
        refine lv_iload_n C.1.1 C.1.2.1 d_Mod_about_76 rfl (lv_at hl 2 rfl) ?_
        refine lv_aload_n C.1.1 C.1.2.1 d_Mod_about_77 rfl (lv_at hl 0 rfl) ?_
        refine lv_iload_n C.1.1 C.1.2.1 d_Mod_about_78 rfl (lv_at hl 1 rfl) ?_
        refine lv_iload C.1.1 C.1.2.1 d_Mod_about_79 (lv_at hl 3 rfl) ?_
        obtain ⟨ho, h⟩ := h
        refine mc_V (As := [.int x1, .int x4]) (ci := 6) C.1 hM hS bigGood (c_Mod_fitsKept h) rfl ho kw76 kw78 kw79 kw29 kw77 hd_Mod_fitsKept ⟨by decide, by decide⟩ hl.1 rfl (Nat.le_of_ble_eq_true rfl) d_Mod_about_81 (mc := 0) (ms := 0) rfl rfl ⟨by decide, by decide⟩ (fun v M' H locs hp hM hS => ?_)
        obtain ⟨v3, rfl, rfl, h⟩ := hp
        refine lv_if_eq (tgt := 91) C.1.1 C.1.2.1 d_Mod_about_84 (by decide) (fun c5 => ?_) (fun c5 => ?_)
        · have h := h.1 c5
          refine lv_iconst (v := (0 : Int32)) C.1.1 C.1.2.1 d_Mod_about_91 (by decide) ?_
          exact t_Mod_about_b92 C h (fun y3 y4 hJ => ih y3 y4 hJ.1 (Nat.lt_of_lt_of_le hJ.2 (Nat.le_of_lt_succ hn))) _ _ _ hM hS (lv_sub hl [0, 1, 3] rfl)
        · have h := h.2 c5
          refine lv_iconst (v := (1 : Int32)) C.1.1 C.1.2.1 d_Mod_about_87 (by decide) ?_
          refine lv_goto (tgt := 92) C.1.1 C.1.2.1 d_Mod_about_88 (by decide) ?_
          exact t_Mod_about_b92 C h (fun y3 y4 hJ => ih y3 y4 hJ.1 (Nat.lt_of_lt_of_le hJ.2 (Nat.le_of_lt_succ hn))) _ _ _ hM hS (lv_sub hl [0, 1, 3] rfl)
  exact key _ x3 x4 hI (Nat.lt_succ_self _)
def wp_Mod_about (g : Nat → ClassId) (M : Mem) (x0 : Nat) (x1 : Int32) (x2 : Int32) (P : Int32 → Mem → Prop) : Prop :=
  ∃ M1 : Mem, pV M 6 x0 0 (.int (0 : Int32)) = some M1 ∧ (isO M1 6 x0 ∧ (wp_Mod_isBound g M1 x0 x1 (fun v2 : Int32 => (v2 = 0 → (P (-1 : Int32) M1)) ∧ (¬ v2 = 0 → ((x2 = 0 → (∃ v6 : Nat, gR M1 6 x0 8 = some v6 ∧ (∃ v7 : Int32, aI M1 (g 2) v6 x1 = some v7 ∧ (P v7 M1)))) ∧ (¬ x2 = 0 → ((x2 = 1 → (∃ v9 : Nat, gR M1 6 x0 9 = some v9 ∧ (∃ v10 : Int32, aI M1 (g 2) v9 x1 = some v10 ∧ (P v10 M1)))) ∧ (¬ x2 = 1 → ((x2 = 2 → (wp_Mod_about_b67 g P M1 x0 x1 (0 : Int32) (0 : Int32))) ∧ (¬ x2 = 2 → ((x2 = 3 → (∃ v13 : Nat, gR M1 6 x0 13 = some v13 ∧ (∃ v14 : Int32, aI M1 (g 2) v13 x1 = some v14 ∧ (P v14 M1)))) ∧ (¬ x2 = 3 → (P (-1 : Int32) M1)))))))))))))
set_option maxHeartbeats 4000000 in
set_option maxRecDepth 100000 in
theorem c_Mod_about {l : Launch} {D : va_G} {g : Nat → ClassId} {M : Mem} {x0 : Nat} {x1 : Int32} {x2 : Int32} {P : Int32 → Mem → Prop} (h : wp_Mod_about g M x0 x1 x2 P) : mMet l BIG D vwCl (tysG g) y_Mod_about b_Mod_about 5 (some .int) rm_Mod_about [.ref x0, .int x1, .int x2] M (kI fun r M' => P r M') := by
  refine mMet.of (own := R_Mod) rfl (by decide) rfl (fun p e s m below meth c C hr hlk hnm ls hM hS hl => ?_)
  have C : C_Mod_about D g p s m ([.ref x0, .int x1, .int x2] : List Value).toArray meth c M := ⟨C, hr, hlk⟩
  unfold wp_Mod_about at h
  have hl : lv_has ls 5 [(0, .ref x0), (1, .int x1), (2, .int x2)] := hl
  refine lv_aload_n C.1.1 C.1.2.1 d_Mod_about_0 rfl (lv_at hl 0 rfl) ?_
  refine lv_iconst (v := (0 : Int32)) C.1.1 C.1.2.1 d_Mod_about_1 (by decide) ?_
  obtain ⟨M1, eM1, h⟩ := h
  refine mp_V C.1 hM hS ok_Mod (by decide) kw23 rfl rfl rfl eM1 d_Mod_about_2 (fun H locs hM hS => ?_)
  refine lv_aload_n C.1.1 C.1.2.1 d_Mod_about_5 rfl (lv_at hl 0 rfl) ?_
  refine lv_iload_n C.1.1 C.1.2.1 d_Mod_about_6 rfl (lv_at hl 1 rfl) ?_
  obtain ⟨ho, h⟩ := h
  refine mc_V (As := [.int x1]) (ci := 6) C.1 hM hS bigGood (c_Mod_isBound h) rfl ho kw63 kw65 kw66 kw29 kw64 hd_Mod_isBound ⟨by decide, by decide⟩ hl.1 rfl (Nat.le_of_ble_eq_true rfl) d_Mod_about_7 (mc := 0) (ms := 0) rfl rfl ⟨by decide, by decide⟩ (fun v M' H locs hp hM hS => ?_)
  obtain ⟨v2, rfl, rfl, h⟩ := hp
  refine lv_if_ne (tgt := 15) C.1.1 C.1.2.1 d_Mod_about_10 (by decide) (fun c4 => ?_) (fun c4 => ?_)
  · have h := h.2 c4
    refine lv_iload_n C.1.1 C.1.2.1 d_Mod_about_15 rfl (lv_at hl 2 rfl) ?_
    by_cases c5 : x2 = 0
    · have h := h.1 c5
      refine lv_tableIn (tgt := 48) C.1.1 C.1.2.1 d_Mod_about_16 (by rw [c5]; decide) (by rw [c5]; decide) (by rw [c5]; rfl) (by decide) ?_
      refine lv_aload_n C.1.1 C.1.2.1 d_Mod_about_48 rfl (lv_at hl 0 rfl) ?_
      obtain ⟨v6, ev6, h⟩ := h
      refine mg_R C.1 hM ok_Mod (by decide) kw1 ev6 d_Mod_about_49 ?_
      refine lv_iload_n C.1.1 C.1.2.1 d_Mod_about_52 rfl (lv_at hl 1 rfl) ?_
      obtain ⟨v7, ev7, h⟩ := h
      refine ma_I C.1 hM 2 rfl ev7 d_Mod_about_53 ?_
      exact mr_I C.1 C.2.1 C.2.2 hM hS ⟨_, rfl, h⟩ d_Mod_about_54
    · have h := h.2 c5
      by_cases c8 : x2 = 1
      · have h := h.1 c8
        refine lv_tableIn (tgt := 55) C.1.1 C.1.2.1 d_Mod_about_16 (by rw [c8]; decide) (by rw [c8]; decide) (by rw [c8]; rfl) (by decide) ?_
        refine lv_aload_n C.1.1 C.1.2.1 d_Mod_about_55 rfl (lv_at hl 0 rfl) ?_
        obtain ⟨v9, ev9, h⟩ := h
        refine mg_R C.1 hM ok_Mod (by decide) kw11 ev9 d_Mod_about_56 ?_
        refine lv_iload_n C.1.1 C.1.2.1 d_Mod_about_59 rfl (lv_at hl 1 rfl) ?_
        obtain ⟨v10, ev10, h⟩ := h
        refine ma_I C.1 hM 2 rfl ev10 d_Mod_about_60 ?_
        exact mr_I C.1 C.2.1 C.2.2 hM hS ⟨_, rfl, h⟩ d_Mod_about_61
      · have h := h.2 c8
        by_cases c11 : x2 = 2
        · have h := h.1 c11
          refine lv_tableIn (tgt := 62) C.1.1 C.1.2.1 d_Mod_about_16 (by rw [c11]; decide) (by rw [c11]; decide) (by rw [c11]; rfl) (by decide) ?_
          refine lv_iconst (v := (0 : Int32)) C.1.1 C.1.2.1 d_Mod_about_62 (by decide) ?_
          refine lv_istore_n (lv' := [(3, .int (0 : Int32)), (0, .ref x0), (1, .int x1), (2, .int x2)]) C.1.1 C.1.2.1 d_Mod_about_63 rfl hl (by decide) rfl (fun ls hl => ?_)
          refine lv_iconst (v := (0 : Int32)) C.1.1 C.1.2.1 d_Mod_about_64 (by decide) ?_
          refine lv_istore (lv' := [(4, .int (0 : Int32)), (3, .int (0 : Int32)), (0, .ref x0), (1, .int x1), (2, .int x2)]) C.1.1 C.1.2.1 d_Mod_about_65 hl (by decide) rfl (fun ls hl => ?_)
          exact t_Mod_about_b67 C h _ _ _ hM hS (lv_sub hl [2, 3, 1, 0] rfl)
        · have h := h.2 c11
          by_cases c12 : x2 = 3
          · have h := h.1 c12
            refine lv_tableIn (tgt := 102) C.1.1 C.1.2.1 d_Mod_about_16 (by rw [c12]; decide) (by rw [c12]; decide) (by rw [c12]; rfl) (by decide) ?_
            refine lv_aload_n C.1.1 C.1.2.1 d_Mod_about_102 rfl (lv_at hl 0 rfl) ?_
            obtain ⟨v13, ev13, h⟩ := h
            refine mg_R C.1 hM ok_Mod (by decide) kw15 ev13 d_Mod_about_103 ?_
            refine lv_iload_n C.1.1 C.1.2.1 d_Mod_about_106 rfl (lv_at hl 1 rfl) ?_
            obtain ⟨v14, ev14, h⟩ := h
            refine ma_I C.1 hM 2 rfl ev14 d_Mod_about_107 ?_
            exact mr_I C.1 C.2.1 C.2.2 hM hS ⟨_, rfl, h⟩ d_Mod_about_108
          · have h := h.2 c12
            have hto : x2.toInt < 0 ∨ 3 < x2.toInt := by
              refine tab_out 0 3 (fun k h1 h2 hk => ?_)
              rcases (show k = 0 ∨ k = 1 ∨ k = 2 ∨ k = 3 by omega) with rfl | rfl | rfl | rfl
              · exact c5 (hk.trans (by decide))
              · exact c8 (hk.trans (by decide))
              · exact c11 (hk.trans (by decide))
              · exact c12 (hk.trans (by decide))
            refine lv_tableOut (tgt := 109) C.1.1 C.1.2.1 d_Mod_about_16 hto (by decide) ?_
            refine lv_iconst (v := (-1 : Int32)) C.1.1 C.1.2.1 d_Mod_about_109 (by decide) ?_
            exact mr_I C.1 C.2.1 C.2.2 hM hS ⟨_, rfl, h⟩ d_Mod_about_110
  · have h := h.1 c4
    refine lv_iconst (v := (-1 : Int32)) C.1.1 C.1.2.1 d_Mod_about_13 (by decide) ?_
    exact mr_I C.1 C.2.1 C.2.2 hM hS ⟨_, rfl, h⟩ d_Mod_about_14
theorem d_Mod_isAhead_0 : decode b_Mod_isAhead 0 = .ok (.iconst 0, 1) := by decide +kernel
theorem d_Mod_isAhead_1 : decode b_Mod_isAhead 1 = .ok (.istore_n 3, 1) := by decide +kernel
theorem d_Mod_isAhead_2 : decode b_Mod_isAhead 2 = .ok (.iload_n 3, 1) := by decide +kernel
theorem d_Mod_isAhead_3 : decode b_Mod_isAhead 3 = .ok (.aload_n 0, 1) := by decide +kernel
theorem d_Mod_isAhead_4 : decode b_Mod_isAhead 4 = .ok (.getfield 54, 3) := by decide +kernel
theorem d_Mod_isAhead_7 : decode b_Mod_isAhead 7 = .ok (.iload_n 1, 1) := by decide +kernel
theorem d_Mod_isAhead_8 : decode b_Mod_isAhead 8 = .ok (.iaload, 1) := by decide +kernel
theorem d_Mod_isAhead_9 : decode b_Mod_isAhead 9 = .ok (.if_icmp .ge 44, 3) := by decide +kernel
theorem d_Mod_isAhead_12 : decode b_Mod_isAhead 12 = .ok (.iload_n 3, 1) := by decide +kernel
theorem d_Mod_isAhead_13 : decode b_Mod_isAhead 13 = .ok (.aload_n 0, 1) := by decide +kernel
theorem d_Mod_isAhead_14 : decode b_Mod_isAhead 14 = .ok (.getfield 54, 3) := by decide +kernel
theorem d_Mod_isAhead_17 : decode b_Mod_isAhead 17 = .ok (.iload_n 2, 1) := by decide +kernel
theorem d_Mod_isAhead_18 : decode b_Mod_isAhead 18 = .ok (.iaload, 1) := by decide +kernel
theorem d_Mod_isAhead_19 : decode b_Mod_isAhead 19 = .ok (.if_icmp .ge 34, 3) := by decide +kernel
theorem d_Mod_isAhead_22 : decode b_Mod_isAhead 22 = .ok (.aload_n 0, 1) := by decide +kernel
theorem d_Mod_isAhead_23 : decode b_Mod_isAhead 23 = .ok (.getfield 51, 3) := by decide +kernel
theorem d_Mod_isAhead_26 : decode b_Mod_isAhead 26 = .ok (.bipush 41, 2) := by decide +kernel
theorem d_Mod_isAhead_28 : decode b_Mod_isAhead 28 = .ok (.iload_n 1, 1) := by decide +kernel
theorem d_Mod_isAhead_29 : decode b_Mod_isAhead 29 = .ok (.imul, 1) := by decide +kernel
theorem d_Mod_isAhead_30 : decode b_Mod_isAhead 30 = .ok (.iload_n 3, 1) := by decide +kernel
theorem d_Mod_isAhead_31 : decode b_Mod_isAhead 31 = .ok (.iadd, 1) := by decide +kernel
theorem d_Mod_isAhead_32 : decode b_Mod_isAhead 32 = .ok (.iaload, 1) := by decide +kernel
theorem d_Mod_isAhead_33 : decode b_Mod_isAhead 33 = .ok (.aload_n 0, 1) := by decide +kernel
theorem d_Mod_isAhead_34 : decode b_Mod_isAhead 34 = .ok (.getfield 51, 3) := by decide +kernel
theorem d_Mod_isAhead_37 : decode b_Mod_isAhead 37 = .ok (.bipush 41, 2) := by decide +kernel
theorem d_Mod_isAhead_39 : decode b_Mod_isAhead 39 = .ok (.iload_n 2, 1) := by decide +kernel
theorem d_Mod_isAhead_40 : decode b_Mod_isAhead 40 = .ok (.imul, 1) := by decide +kernel
theorem d_Mod_isAhead_41 : decode b_Mod_isAhead 41 = .ok (.iload_n 3, 1) := by decide +kernel
theorem d_Mod_isAhead_42 : decode b_Mod_isAhead 42 = .ok (.iadd, 1) := by decide +kernel
theorem d_Mod_isAhead_43 : decode b_Mod_isAhead 43 = .ok (.iaload, 1) := by decide +kernel
theorem d_Mod_isAhead_44 : decode b_Mod_isAhead 44 = .ok (.if_icmp .ne 9, 3) := by decide +kernel
theorem d_Mod_isAhead_47 : decode b_Mod_isAhead 47 = .ok (.iinc 3 1, 3) := by decide +kernel
theorem d_Mod_isAhead_50 : decode b_Mod_isAhead 50 = .ok (.goto (-48), 3) := by decide +kernel
theorem d_Mod_isAhead_53 : decode b_Mod_isAhead 53 = .ok (.iload_n 3, 1) := by decide +kernel
theorem d_Mod_isAhead_54 : decode b_Mod_isAhead 54 = .ok (.aload_n 0, 1) := by decide +kernel
theorem d_Mod_isAhead_55 : decode b_Mod_isAhead 55 = .ok (.getfield 54, 3) := by decide +kernel
theorem d_Mod_isAhead_58 : decode b_Mod_isAhead 58 = .ok (.iload_n 1, 1) := by decide +kernel
theorem d_Mod_isAhead_59 : decode b_Mod_isAhead 59 = .ok (.iaload, 1) := by decide +kernel
theorem d_Mod_isAhead_60 : decode b_Mod_isAhead 60 = .ok (.if_icmp .eq 13, 3) := by decide +kernel
theorem d_Mod_isAhead_63 : decode b_Mod_isAhead 63 = .ok (.iload_n 3, 1) := by decide +kernel
theorem d_Mod_isAhead_64 : decode b_Mod_isAhead 64 = .ok (.aload_n 0, 1) := by decide +kernel
theorem d_Mod_isAhead_65 : decode b_Mod_isAhead 65 = .ok (.getfield 54, 3) := by decide +kernel
theorem d_Mod_isAhead_68 : decode b_Mod_isAhead 68 = .ok (.iload_n 2, 1) := by decide +kernel
theorem d_Mod_isAhead_69 : decode b_Mod_isAhead 69 = .ok (.iaload, 1) := by decide +kernel
theorem d_Mod_isAhead_70 : decode b_Mod_isAhead 70 = .ok (.if_icmp .ne 24, 3) := by decide +kernel
theorem d_Mod_isAhead_73 : decode b_Mod_isAhead 73 = .ok (.aload_n 0, 1) := by decide +kernel
theorem d_Mod_isAhead_74 : decode b_Mod_isAhead 74 = .ok (.getfield 54, 3) := by decide +kernel
theorem d_Mod_isAhead_77 : decode b_Mod_isAhead 77 = .ok (.iload_n 1, 1) := by decide +kernel
theorem d_Mod_isAhead_78 : decode b_Mod_isAhead 78 = .ok (.iaload, 1) := by decide +kernel
theorem d_Mod_isAhead_79 : decode b_Mod_isAhead 79 = .ok (.aload_n 0, 1) := by decide +kernel
theorem d_Mod_isAhead_80 : decode b_Mod_isAhead 80 = .ok (.getfield 54, 3) := by decide +kernel
theorem d_Mod_isAhead_83 : decode b_Mod_isAhead 83 = .ok (.iload_n 2, 1) := by decide +kernel
theorem d_Mod_isAhead_84 : decode b_Mod_isAhead 84 = .ok (.iaload, 1) := by decide +kernel
theorem d_Mod_isAhead_85 : decode b_Mod_isAhead 85 = .ok (.if_icmp .ge 7, 3) := by decide +kernel
theorem d_Mod_isAhead_88 : decode b_Mod_isAhead 88 = .ok (.iconst 1, 1) := by decide +kernel
theorem d_Mod_isAhead_89 : decode b_Mod_isAhead 89 = .ok (.goto 4, 3) := by decide +kernel
theorem d_Mod_isAhead_92 : decode b_Mod_isAhead 92 = .ok (.iconst 0, 1) := by decide +kernel
theorem d_Mod_isAhead_93 : decode b_Mod_isAhead 93 = .ok (.ireturn, 1) := by decide +kernel
theorem d_Mod_isAhead_94 : decode b_Mod_isAhead 94 = .ok (.aload_n 0, 1) := by decide +kernel
theorem d_Mod_isAhead_95 : decode b_Mod_isAhead 95 = .ok (.getfield 51, 3) := by decide +kernel
theorem d_Mod_isAhead_98 : decode b_Mod_isAhead 98 = .ok (.bipush 41, 2) := by decide +kernel
theorem d_Mod_isAhead_100 : decode b_Mod_isAhead 100 = .ok (.iload_n 1, 1) := by decide +kernel
theorem d_Mod_isAhead_101 : decode b_Mod_isAhead 101 = .ok (.imul, 1) := by decide +kernel
theorem d_Mod_isAhead_102 : decode b_Mod_isAhead 102 = .ok (.iload_n 3, 1) := by decide +kernel
theorem d_Mod_isAhead_103 : decode b_Mod_isAhead 103 = .ok (.iadd, 1) := by decide +kernel
theorem d_Mod_isAhead_104 : decode b_Mod_isAhead 104 = .ok (.iaload, 1) := by decide +kernel
theorem d_Mod_isAhead_105 : decode b_Mod_isAhead 105 = .ok (.aload_n 0, 1) := by decide +kernel
theorem d_Mod_isAhead_106 : decode b_Mod_isAhead 106 = .ok (.getfield 51, 3) := by decide +kernel
theorem d_Mod_isAhead_109 : decode b_Mod_isAhead 109 = .ok (.bipush 41, 2) := by decide +kernel
theorem d_Mod_isAhead_111 : decode b_Mod_isAhead 111 = .ok (.iload_n 2, 1) := by decide +kernel
theorem d_Mod_isAhead_112 : decode b_Mod_isAhead 112 = .ok (.imul, 1) := by decide +kernel
theorem d_Mod_isAhead_113 : decode b_Mod_isAhead 113 = .ok (.iload_n 3, 1) := by decide +kernel
theorem d_Mod_isAhead_114 : decode b_Mod_isAhead 114 = .ok (.iadd, 1) := by decide +kernel
theorem d_Mod_isAhead_115 : decode b_Mod_isAhead 115 = .ok (.iaload, 1) := by decide +kernel
theorem d_Mod_isAhead_116 : decode b_Mod_isAhead 116 = .ok (.if_icmp .ge 7, 3) := by decide +kernel
theorem d_Mod_isAhead_119 : decode b_Mod_isAhead 119 = .ok (.iconst 1, 1) := by decide +kernel
theorem d_Mod_isAhead_120 : decode b_Mod_isAhead 120 = .ok (.goto 4, 3) := by decide +kernel
theorem d_Mod_isAhead_123 : decode b_Mod_isAhead 123 = .ok (.iconst 0, 1) := by decide +kernel
theorem d_Mod_isAhead_124 : decode b_Mod_isAhead 124 = .ok (.ireturn, 1) := by decide +kernel
abbrev rm_Mod_isAhead : Room := { frames := 0, cells := 0, slots := 0, locals := 0 }
abbrev C_Mod_isAhead (D : va_G) (g : Nat → ClassId) (p : Program) (s : State) (m : MethodId) (args : Array Value) (meth : Method) (c : Code) (M0 : Mem) : Prop := Cx p s m args c b_Mod_isAhead 4 R_Mod BIG D vwCl (tysG g) (mA M0 s.heap.size) ∧ meth.sig.returnType = (some .boolean) ∧ meth.locks = false
abbrev B_Mod_isAhead (l : Launch) (D : va_G) (p : Program) (e : Env) (s : State) (m : MethodId) (args : Array Value) (below : List Frame) (meth : Method) (c : Code) (M0 : Mem) (P : Int32 → Prop) (M : Mem) (pc : Nat) (lv : List (Nat × Value)) (st : List Value) : Prop := Wb p l e rm_Mod_isAhead s m args below meth c 4 D vwCl M0 (kI fun r M' => M0 = M' ∧ P r) 0 0 M pc lv st
def wp_Mod_isAhead_b124 (g : Nat → ClassId) (P : Int32 → Prop) (M : Mem) (t0 : Int32) : Prop :=
  isB t0 ∧ P t0
set_option maxHeartbeats 4000000 in
set_option maxRecDepth 100000 in
theorem t_Mod_isAhead_b124 {l : Launch} {D : va_G} {g : Nat → ClassId} {p : Program} {e : Env} {s : State} {m : MethodId} {args : Array Value} {below : List Frame} {meth : Method} {c : Code} {P : Int32 → Prop} {M : Mem} {t0 : Int32} (C : C_Mod_isAhead D g p s m args meth c M) (h : wp_Mod_isAhead_b124 g P M t0) : B_Mod_isAhead l D p e s m args below meth c M P M 124 [] [.int t0] := by
  intro ls H locs hM hS hl
  unfold wp_Mod_isAhead_b124 at h
  exact mr_Z C.1 C.2.1 C.2.2 h.1 hM hS ⟨_, rfl, rfl, h.2⟩ d_Mod_isAhead_124
def wp_Mod_isAhead_b93 (g : Nat → ClassId) (P : Int32 → Prop) (M : Mem) (t0 : Int32) : Prop :=
  isB t0 ∧ P t0
set_option maxHeartbeats 4000000 in
set_option maxRecDepth 100000 in
theorem t_Mod_isAhead_b93 {l : Launch} {D : va_G} {g : Nat → ClassId} {p : Program} {e : Env} {s : State} {m : MethodId} {args : Array Value} {below : List Frame} {meth : Method} {c : Code} {P : Int32 → Prop} {M : Mem} {t0 : Int32} (C : C_Mod_isAhead D g p s m args meth c M) (h : wp_Mod_isAhead_b93 g P M t0) : B_Mod_isAhead l D p e s m args below meth c M P M 93 [] [.int t0] := by
  intro ls H locs hM hS hl
  unfold wp_Mod_isAhead_b93 at h
  exact mr_Z C.1 C.2.1 C.2.2 h.1 hM hS ⟨_, rfl, rfl, h.2⟩ d_Mod_isAhead_93
def wp_Mod_isAhead_b73 (g : Nat → ClassId) (P : Int32 → Prop) (M : Mem) (x0 : Nat) (x1 : Int32) (x2 : Int32) : Prop :=
  ∃ v1 : Nat, gR M 6 x0 19 = some v1 ∧ (∃ v2 : Int32, aI M (g 2) v1 x1 = some v2 ∧ (∃ v3 : Nat, gR M 6 x0 19 = some v3 ∧ (∃ v4 : Int32, aI M (g 2) v3 x2 = some v4 ∧ ((v4 ≤ v2 → (wp_Mod_isAhead_b93 g P M (0 : Int32))) ∧ (¬ v4 ≤ v2 → (wp_Mod_isAhead_b93 g P M (1 : Int32)))))))
set_option maxHeartbeats 4000000 in
set_option maxRecDepth 100000 in
theorem t_Mod_isAhead_b73 {l : Launch} {D : va_G} {g : Nat → ClassId} {p : Program} {e : Env} {s : State} {m : MethodId} {args : Array Value} {below : List Frame} {meth : Method} {c : Code} {P : Int32 → Prop} {M : Mem} {x0 : Nat} {x1 : Int32} {x2 : Int32} (C : C_Mod_isAhead D g p s m args meth c M) (h : wp_Mod_isAhead_b73 g P M x0 x1 x2 ) : B_Mod_isAhead l D p e s m args below meth c M P M 73 [(0, .ref x0), (1, .int x1), (2, .int x2)] [] := by
  intro ls H locs hM hS hl
  unfold wp_Mod_isAhead_b73 at h
  refine lv_aload_n C.1.1 C.1.2.1 d_Mod_isAhead_73 rfl (lv_at hl 0 rfl) ?_
  obtain ⟨v1, ev1, h⟩ := h
  refine mg_R C.1 hM ok_Mod (by decide) kw20 ev1 d_Mod_isAhead_74 ?_
  refine lv_iload_n C.1.1 C.1.2.1 d_Mod_isAhead_77 rfl (lv_at hl 1 rfl) ?_
  obtain ⟨v2, ev2, h⟩ := h
  refine ma_I C.1 hM 2 rfl ev2 d_Mod_isAhead_78 ?_
  refine lv_aload_n C.1.1 C.1.2.1 d_Mod_isAhead_79 rfl (lv_at hl 0 rfl) ?_
  obtain ⟨v3, ev3, h⟩ := h
  refine mg_R C.1 hM ok_Mod (by decide) kw20 ev3 d_Mod_isAhead_80 ?_
  refine lv_iload_n C.1.1 C.1.2.1 d_Mod_isAhead_83 rfl (lv_at hl 2 rfl) ?_
  obtain ⟨v4, ev4, h⟩ := h
  refine ma_I C.1 hM 2 rfl ev4 d_Mod_isAhead_84 ?_
  refine lv_icmp_ge (tgt := 92) C.1.1 C.1.2.1 d_Mod_isAhead_85 (by decide) (fun c5 => ?_) (fun c5 => ?_)
  · have h := h.1 c5
    refine lv_iconst (v := (0 : Int32)) C.1.1 C.1.2.1 d_Mod_isAhead_92 (by decide) ?_
    exact t_Mod_isAhead_b93 C h _ _ _ hM hS (lv_sub hl [] rfl)
  · have h := h.2 c5
    refine lv_iconst (v := (1 : Int32)) C.1.1 C.1.2.1 d_Mod_isAhead_88 (by decide) ?_
    refine lv_goto (tgt := 93) C.1.1 C.1.2.1 d_Mod_isAhead_89 (by decide) ?_
    exact t_Mod_isAhead_b93 C h _ _ _ hM hS (lv_sub hl [] rfl)
def wp_Mod_isAhead_b53 (g : Nat → ClassId) (P : Int32 → Prop) (M : Mem) (x0 : Nat) (x1 : Int32) (x2 : Int32) (x3 : Int32) : Prop :=
  ∃ v1 : Nat, gR M 6 x0 19 = some v1 ∧ (∃ v2 : Int32, aI M (g 2) v1 x1 = some v2 ∧ ((x3 = v2 → (wp_Mod_isAhead_b73 g P M x0 x1 x2)) ∧ (¬ x3 = v2 → (∃ v4 : Nat, gR M 6 x0 19 = some v4 ∧ (∃ v5 : Int32, aI M (g 2) v4 x2 = some v5 ∧ ((x3 = v5 → (wp_Mod_isAhead_b73 g P M x0 x1 x2)) ∧ (¬ x3 = v5 → (∃ v7 : Nat, gR M 6 x0 18 = some v7 ∧ (∃ v8 : Int32, aI M (g 2) v7 (((41 : Int32) * x1) + x3) = some v8 ∧ (∃ v9 : Nat, gR M 6 x0 18 = some v9 ∧ (∃ v10 : Int32, aI M (g 2) v9 (((41 : Int32) * x2) + x3) = some v10 ∧ ((v10 ≤ v8 → (wp_Mod_isAhead_b124 g P M (0 : Int32))) ∧ (¬ v10 ≤ v8 → (wp_Mod_isAhead_b124 g P M (1 : Int32)))))))))))))))
set_option maxHeartbeats 4000000 in
set_option maxRecDepth 100000 in
theorem t_Mod_isAhead_b53 {l : Launch} {D : va_G} {g : Nat → ClassId} {p : Program} {e : Env} {s : State} {m : MethodId} {args : Array Value} {below : List Frame} {meth : Method} {c : Code} {P : Int32 → Prop} {M : Mem} {x0 : Nat} {x1 : Int32} {x2 : Int32} {x3 : Int32} (C : C_Mod_isAhead D g p s m args meth c M) (h : wp_Mod_isAhead_b53 g P M x0 x1 x2 x3 ) : B_Mod_isAhead l D p e s m args below meth c M P M 53 [(0, .ref x0), (1, .int x1), (2, .int x2), (3, .int x3)] [] := by
  intro ls H locs hM hS hl
  unfold wp_Mod_isAhead_b53 at h
  refine lv_iload_n C.1.1 C.1.2.1 d_Mod_isAhead_53 rfl (lv_at hl 3 rfl) ?_
  refine lv_aload_n C.1.1 C.1.2.1 d_Mod_isAhead_54 rfl (lv_at hl 0 rfl) ?_
  obtain ⟨v1, ev1, h⟩ := h
  refine mg_R C.1 hM ok_Mod (by decide) kw20 ev1 d_Mod_isAhead_55 ?_
  refine lv_iload_n C.1.1 C.1.2.1 d_Mod_isAhead_58 rfl (lv_at hl 1 rfl) ?_
  obtain ⟨v2, ev2, h⟩ := h
  refine ma_I C.1 hM 2 rfl ev2 d_Mod_isAhead_59 ?_
  refine lv_icmp_eq (tgt := 73) C.1.1 C.1.2.1 d_Mod_isAhead_60 (by decide) (fun c3 => ?_) (fun c3 => ?_)
  · have h := h.1 c3
    exact t_Mod_isAhead_b73 C h _ _ _ hM hS (lv_sub hl [0, 1, 2] rfl)
  · have h := h.2 c3
    refine lv_iload_n C.1.1 C.1.2.1 d_Mod_isAhead_63 rfl (lv_at hl 3 rfl) ?_
    refine lv_aload_n C.1.1 C.1.2.1 d_Mod_isAhead_64 rfl (lv_at hl 0 rfl) ?_
    obtain ⟨v4, ev4, h⟩ := h
    refine mg_R C.1 hM ok_Mod (by decide) kw20 ev4 d_Mod_isAhead_65 ?_
    refine lv_iload_n C.1.1 C.1.2.1 d_Mod_isAhead_68 rfl (lv_at hl 2 rfl) ?_
    obtain ⟨v5, ev5, h⟩ := h
    refine ma_I C.1 hM 2 rfl ev5 d_Mod_isAhead_69 ?_
    refine lv_icmp_ne (tgt := 94) C.1.1 C.1.2.1 d_Mod_isAhead_70 (by decide) (fun c6 => ?_) (fun c6 => ?_)
    · have h := h.2 c6
      refine lv_aload_n C.1.1 C.1.2.1 d_Mod_isAhead_94 rfl (lv_at hl 0 rfl) ?_
      obtain ⟨v7, ev7, h⟩ := h
      refine mg_R C.1 hM ok_Mod (by decide) kw19 ev7 d_Mod_isAhead_95 ?_
      refine lv_bipush (v := (41 : Int32)) C.1.1 C.1.2.1 d_Mod_isAhead_98 (by decide) ?_
      refine lv_iload_n C.1.1 C.1.2.1 d_Mod_isAhead_100 rfl (lv_at hl 1 rfl) ?_
      refine lv_imul C.1.1 C.1.2.1 d_Mod_isAhead_101 ?_
      refine lv_iload_n C.1.1 C.1.2.1 d_Mod_isAhead_102 rfl (lv_at hl 3 rfl) ?_
      refine lv_iadd C.1.1 C.1.2.1 d_Mod_isAhead_103 ?_
      obtain ⟨v8, ev8, h⟩ := h
      refine ma_I C.1 hM 2 rfl ev8 d_Mod_isAhead_104 ?_
      refine lv_aload_n C.1.1 C.1.2.1 d_Mod_isAhead_105 rfl (lv_at hl 0 rfl) ?_
      obtain ⟨v9, ev9, h⟩ := h
      refine mg_R C.1 hM ok_Mod (by decide) kw19 ev9 d_Mod_isAhead_106 ?_
      refine lv_bipush (v := (41 : Int32)) C.1.1 C.1.2.1 d_Mod_isAhead_109 (by decide) ?_
      refine lv_iload_n C.1.1 C.1.2.1 d_Mod_isAhead_111 rfl (lv_at hl 2 rfl) ?_
      refine lv_imul C.1.1 C.1.2.1 d_Mod_isAhead_112 ?_
      refine lv_iload_n C.1.1 C.1.2.1 d_Mod_isAhead_113 rfl (lv_at hl 3 rfl) ?_
      refine lv_iadd C.1.1 C.1.2.1 d_Mod_isAhead_114 ?_
      obtain ⟨v10, ev10, h⟩ := h
      refine ma_I C.1 hM 2 rfl ev10 d_Mod_isAhead_115 ?_
      refine lv_icmp_ge (tgt := 123) C.1.1 C.1.2.1 d_Mod_isAhead_116 (by decide) (fun c11 => ?_) (fun c11 => ?_)
      · have h := h.1 c11
        refine lv_iconst (v := (0 : Int32)) C.1.1 C.1.2.1 d_Mod_isAhead_123 (by decide) ?_
        exact t_Mod_isAhead_b124 C h _ _ _ hM hS (lv_sub hl [] rfl)
      · have h := h.2 c11
        refine lv_iconst (v := (1 : Int32)) C.1.1 C.1.2.1 d_Mod_isAhead_119 (by decide) ?_
        refine lv_goto (tgt := 124) C.1.1 C.1.2.1 d_Mod_isAhead_120 (by decide) ?_
        exact t_Mod_isAhead_b124 C h _ _ _ hM hS (lv_sub hl [] rfl)
    · have h := h.1 c6
      exact t_Mod_isAhead_b73 C h _ _ _ hM hS (lv_sub hl [0, 1, 2] rfl)
def wp_Mod_isAhead_b2 (g : Nat → ClassId) (P : Int32 → Prop) (M : Mem) (x0 : Nat) (x1 : Int32) (x2 : Int32) (x3 : Int32) : Prop :=
  ∃ (I : Int32 → Prop) (μ : Int32 → Nat), I x3 ∧ ∀ (x3 : Int32), I x3 →
  ∃ v1 : Nat, gR M 6 x0 19 = some v1 ∧ (∃ v2 : Int32, aI M (g 2) v1 x1 = some v2 ∧ ((v2 ≤ x3 → (wp_Mod_isAhead_b53 g P M x0 x1 x2 x3)) ∧ (¬ v2 ≤ x3 → (∃ v4 : Nat, gR M 6 x0 19 = some v4 ∧ (∃ v5 : Int32, aI M (g 2) v4 x2 = some v5 ∧ ((v5 ≤ x3 → (wp_Mod_isAhead_b53 g P M x0 x1 x2 x3)) ∧ (¬ v5 ≤ x3 → (∃ v7 : Nat, gR M 6 x0 18 = some v7 ∧ (∃ v8 : Int32, aI M (g 2) v7 (((41 : Int32) * x1) + x3) = some v8 ∧ (∃ v9 : Nat, gR M 6 x0 18 = some v9 ∧ (∃ v10 : Int32, aI M (g 2) v9 (((41 : Int32) * x2) + x3) = some v10 ∧ ((v8 = v10 → ((I (x3 + (1 : Int32)) ∧ μ (x3 + (1 : Int32)) < μ x3))) ∧ (¬ v8 = v10 → (wp_Mod_isAhead_b53 g P M x0 x1 x2 x3))))))))))))))
set_option maxHeartbeats 4000000 in
set_option maxRecDepth 100000 in
theorem t_Mod_isAhead_b2 {l : Launch} {D : va_G} {g : Nat → ClassId} {p : Program} {e : Env} {s : State} {m : MethodId} {args : Array Value} {below : List Frame} {meth : Method} {c : Code} {P : Int32 → Prop} {M : Mem} {x0 : Nat} {x1 : Int32} {x2 : Int32} {x3 : Int32} (C : C_Mod_isAhead D g p s m args meth c M) (h : wp_Mod_isAhead_b2 g P M x0 x1 x2 x3 ) : B_Mod_isAhead l D p e s m args below meth c M P M 2 [(0, .ref x0), (1, .int x1), (2, .int x2), (3, .int x3)] [] := by
  unfold wp_Mod_isAhead_b2 at h
  obtain ⟨I, μ, hI, hb⟩ := h
  have key : ∀ (n : Nat) (x3 : Int32), I x3 → μ x3 < n → B_Mod_isAhead l D p e s m args below meth c M P M 2 [(0, .ref x0), (1, .int x1), (2, .int x2), (3, .int x3)] [] := by
    intro n
    induction n with
    | zero => intro x3 _ hn; exact absurd hn (Nat.not_lt_zero _)
    | succ n ih =>
      intro x3 hI hn ls H locs hM hS hl
      have h := hb x3 hI
      refine lv_iload_n C.1.1 C.1.2.1 d_Mod_isAhead_2 rfl (lv_at hl 3 rfl) ?_
      refine lv_aload_n C.1.1 C.1.2.1 d_Mod_isAhead_3 rfl (lv_at hl 0 rfl) ?_
      obtain ⟨v1, ev1, h⟩ := h
      refine mg_R C.1 hM ok_Mod (by decide) kw20 ev1 d_Mod_isAhead_4 ?_
      refine lv_iload_n C.1.1 C.1.2.1 d_Mod_isAhead_7 rfl (lv_at hl 1 rfl) ?_
      obtain ⟨v2, ev2, h⟩ := h
      refine ma_I C.1 hM 2 rfl ev2 d_Mod_isAhead_8 ?_
      refine lv_icmp_ge (tgt := 53) C.1.1 C.1.2.1 d_Mod_isAhead_9 (by decide) (fun c3 => ?_) (fun c3 => ?_)
      · have h := h.1 c3
        exact t_Mod_isAhead_b53 C h _ _ _ hM hS (lv_sub hl [0, 1, 2, 3] rfl)
      · have h := h.2 c3
        refine lv_iload_n C.1.1 C.1.2.1 d_Mod_isAhead_12 rfl (lv_at hl 3 rfl) ?_
        refine lv_aload_n C.1.1 C.1.2.1 d_Mod_isAhead_13 rfl (lv_at hl 0 rfl) ?_
        obtain ⟨v4, ev4, h⟩ := h
        refine mg_R C.1 hM ok_Mod (by decide) kw20 ev4 d_Mod_isAhead_14 ?_
        refine lv_iload_n C.1.1 C.1.2.1 d_Mod_isAhead_17 rfl (lv_at hl 2 rfl) ?_
        obtain ⟨v5, ev5, h⟩ := h
        refine ma_I C.1 hM 2 rfl ev5 d_Mod_isAhead_18 ?_
        refine lv_icmp_ge (tgt := 53) C.1.1 C.1.2.1 d_Mod_isAhead_19 (by decide) (fun c6 => ?_) (fun c6 => ?_)
        · have h := h.1 c6
          exact t_Mod_isAhead_b53 C h _ _ _ hM hS (lv_sub hl [0, 1, 2, 3] rfl)
        · have h := h.2 c6
          refine lv_aload_n C.1.1 C.1.2.1 d_Mod_isAhead_22 rfl (lv_at hl 0 rfl) ?_
          obtain ⟨v7, ev7, h⟩ := h
          refine mg_R C.1 hM ok_Mod (by decide) kw19 ev7 d_Mod_isAhead_23 ?_
          refine lv_bipush (v := (41 : Int32)) C.1.1 C.1.2.1 d_Mod_isAhead_26 (by decide) ?_
          refine lv_iload_n C.1.1 C.1.2.1 d_Mod_isAhead_28 rfl (lv_at hl 1 rfl) ?_
          refine lv_imul C.1.1 C.1.2.1 d_Mod_isAhead_29 ?_
          refine lv_iload_n C.1.1 C.1.2.1 d_Mod_isAhead_30 rfl (lv_at hl 3 rfl) ?_
          refine lv_iadd C.1.1 C.1.2.1 d_Mod_isAhead_31 ?_
          obtain ⟨v8, ev8, h⟩ := h
          refine ma_I C.1 hM 2 rfl ev8 d_Mod_isAhead_32 ?_
          refine lv_aload_n C.1.1 C.1.2.1 d_Mod_isAhead_33 rfl (lv_at hl 0 rfl) ?_
          obtain ⟨v9, ev9, h⟩ := h
          refine mg_R C.1 hM ok_Mod (by decide) kw19 ev9 d_Mod_isAhead_34 ?_
          refine lv_bipush (v := (41 : Int32)) C.1.1 C.1.2.1 d_Mod_isAhead_37 (by decide) ?_
          refine lv_iload_n C.1.1 C.1.2.1 d_Mod_isAhead_39 rfl (lv_at hl 2 rfl) ?_
          refine lv_imul C.1.1 C.1.2.1 d_Mod_isAhead_40 ?_
          refine lv_iload_n C.1.1 C.1.2.1 d_Mod_isAhead_41 rfl (lv_at hl 3 rfl) ?_
          refine lv_iadd C.1.1 C.1.2.1 d_Mod_isAhead_42 ?_
          obtain ⟨v10, ev10, h⟩ := h
          refine ma_I C.1 hM 2 rfl ev10 d_Mod_isAhead_43 ?_
          refine lv_icmp_ne (tgt := 53) C.1.1 C.1.2.1 d_Mod_isAhead_44 (by decide) (fun c11 => ?_) (fun c11 => ?_)
          · have h := h.2 c11
            exact t_Mod_isAhead_b53 C h _ _ _ hM hS (lv_sub hl [0, 1, 2, 3] rfl)
          · have h := h.1 c11
            refine lv_iinc (v := x3 + (1 : Int32)) (lv' := [(3, .int (x3 + (1 : Int32))), (0, .ref x0), (1, .int x1), (2, .int x2)]) C.1.1 C.1.2.1 d_Mod_isAhead_47 hl (k := 3) rfl rfl (by decide) rfl (fun ls hl => ?_)
            refine lv_goto (tgt := 2) C.1.1 C.1.2.1 d_Mod_isAhead_50 (by decide) ?_
            exact ih (x3 + (1 : Int32)) h.1 (Nat.lt_of_lt_of_le h.2 (Nat.le_of_lt_succ hn)) _ _ _ hM hS (lv_sub hl [1, 2, 3, 0] rfl)
  exact key _ x3 hI (Nat.lt_succ_self _)
def wp_Mod_isAhead (g : Nat → ClassId) (M : Mem) (x0 : Nat) (x1 : Int32) (x2 : Int32) (P : Int32 → Prop) : Prop :=
  wp_Mod_isAhead_b2 g P M x0 x1 x2 (0 : Int32)
set_option maxHeartbeats 4000000 in
set_option maxRecDepth 100000 in
theorem c_Mod_isAhead {l : Launch} {D : va_G} {g : Nat → ClassId} {M : Mem} {x0 : Nat} {x1 : Int32} {x2 : Int32} {P : Int32 → Prop} (h : wp_Mod_isAhead g M x0 x1 x2 P) : mMet l BIG D vwCl (tysG g) y_Mod_isAhead b_Mod_isAhead 4 (some .boolean) rm_Mod_isAhead [.ref x0, .int x1, .int x2] M (kI fun r M' => M = M' ∧ P r) := by
  refine mMet.of (own := R_Mod) rfl (by decide) rfl (fun p e s m below meth c C hr hlk hnm ls hM hS hl => ?_)
  have C : C_Mod_isAhead D g p s m ([.ref x0, .int x1, .int x2] : List Value).toArray meth c M := ⟨C, hr, hlk⟩
  unfold wp_Mod_isAhead at h
  have hl : lv_has ls 4 [(0, .ref x0), (1, .int x1), (2, .int x2)] := hl
  refine lv_iconst (v := (0 : Int32)) C.1.1 C.1.2.1 d_Mod_isAhead_0 (by decide) ?_
  refine lv_istore_n (lv' := [(3, .int (0 : Int32)), (0, .ref x0), (1, .int x1), (2, .int x2)]) C.1.1 C.1.2.1 d_Mod_isAhead_1 rfl hl (by decide) rfl (fun ls hl => ?_)
  exact t_Mod_isAhead_b2 C h _ _ _ hM hS (lv_sub hl [1, 2, 3, 0] rfl)
theorem d_Mod_kept_0 : decode b_Mod_kept 0 = .ok (.aload_n 0, 1) := by decide +kernel
theorem d_Mod_kept_1 : decode b_Mod_kept 1 = .ok (.iconst 1, 1) := by decide +kernel
theorem d_Mod_kept_2 : decode b_Mod_kept 2 = .ok (.putfield 63, 3) := by decide +kernel
theorem d_Mod_kept_5 : decode b_Mod_kept 5 = .ok (.iconst 0, 1) := by decide +kernel
theorem d_Mod_kept_6 : decode b_Mod_kept 6 = .ok (.istore_n 3, 1) := by decide +kernel
theorem d_Mod_kept_7 : decode b_Mod_kept 7 = .ok (.iload_n 3, 1) := by decide +kernel
theorem d_Mod_kept_8 : decode b_Mod_kept 8 = .ok (.aload_n 0, 1) := by decide +kernel
theorem d_Mod_kept_9 : decode b_Mod_kept 9 = .ok (.getfield 122, 3) := by decide +kernel
theorem d_Mod_kept_12 : decode b_Mod_kept 12 = .ok (.if_icmp .ge 100, 3) := by decide +kernel
theorem d_Mod_kept_15 : decode b_Mod_kept 15 = .ok (.aload_n 0, 1) := by decide +kernel
theorem d_Mod_kept_16 : decode b_Mod_kept 16 = .ok (.iload_n 1, 1) := by decide +kernel
theorem d_Mod_kept_17 : decode b_Mod_kept 17 = .ok (.invokevirtual 115, 3) := by decide +kernel
theorem d_Mod_kept_20 : decode b_Mod_kept 20 = .ok (.ifCond .eq 92, 3) := by decide +kernel
theorem d_Mod_kept_23 : decode b_Mod_kept 23 = .ok (.aload_n 0, 1) := by decide +kernel
theorem d_Mod_kept_24 : decode b_Mod_kept 24 = .ok (.iload_n 1, 1) := by decide +kernel
theorem d_Mod_kept_25 : decode b_Mod_kept 25 = .ok (.iload_n 3, 1) := by decide +kernel
theorem d_Mod_kept_26 : decode b_Mod_kept 26 = .ok (.invokevirtual 129, 3) := by decide +kernel
theorem d_Mod_kept_29 : decode b_Mod_kept 29 = .ok (.ifCond .ne 6, 3) := by decide +kernel
theorem d_Mod_kept_32 : decode b_Mod_kept 32 = .ok (.goto 74, 3) := by decide +kernel
theorem d_Mod_kept_35 : decode b_Mod_kept 35 = .ok (.iconst 0, 1) := by decide +kernel
theorem d_Mod_kept_36 : decode b_Mod_kept 36 = .ok (.istore 4, 2) := by decide +kernel
theorem d_Mod_kept_38 : decode b_Mod_kept 38 = .ok (.iconst 0, 1) := by decide +kernel
theorem d_Mod_kept_39 : decode b_Mod_kept 39 = .ok (.istore 5, 2) := by decide +kernel
theorem d_Mod_kept_41 : decode b_Mod_kept 41 = .ok (.iload 5, 2) := by decide +kernel
theorem d_Mod_kept_43 : decode b_Mod_kept 43 = .ok (.aload_n 0, 1) := by decide +kernel
theorem d_Mod_kept_44 : decode b_Mod_kept 44 = .ok (.getfield 122, 3) := by decide +kernel
theorem d_Mod_kept_47 : decode b_Mod_kept 47 = .ok (.if_icmp .ge 38, 3) := by decide +kernel
theorem d_Mod_kept_50 : decode b_Mod_kept 50 = .ok (.iload 5, 2) := by decide +kernel
theorem d_Mod_kept_52 : decode b_Mod_kept 52 = .ok (.iload_n 3, 1) := by decide +kernel
theorem d_Mod_kept_53 : decode b_Mod_kept 53 = .ok (.if_icmp .eq 26, 3) := by decide +kernel
theorem d_Mod_kept_56 : decode b_Mod_kept 56 = .ok (.aload_n 0, 1) := by decide +kernel
theorem d_Mod_kept_57 : decode b_Mod_kept 57 = .ok (.iload_n 1, 1) := by decide +kernel
theorem d_Mod_kept_58 : decode b_Mod_kept 58 = .ok (.iload 5, 2) := by decide +kernel
theorem d_Mod_kept_60 : decode b_Mod_kept 60 = .ok (.invokevirtual 129, 3) := by decide +kernel
theorem d_Mod_kept_63 : decode b_Mod_kept 63 = .ok (.ifCond .eq 16, 3) := by decide +kernel
theorem d_Mod_kept_66 : decode b_Mod_kept 66 = .ok (.aload_n 0, 1) := by decide +kernel
theorem d_Mod_kept_67 : decode b_Mod_kept 67 = .ok (.iload 5, 2) := by decide +kernel
theorem d_Mod_kept_69 : decode b_Mod_kept 69 = .ok (.iload_n 3, 1) := by decide +kernel
theorem d_Mod_kept_70 : decode b_Mod_kept 70 = .ok (.invokevirtual 132, 3) := by decide +kernel
theorem d_Mod_kept_73 : decode b_Mod_kept 73 = .ok (.ifCond .eq 6, 3) := by decide +kernel
theorem d_Mod_kept_76 : decode b_Mod_kept 76 = .ok (.iinc 4 1, 3) := by decide +kernel
theorem d_Mod_kept_79 : decode b_Mod_kept 79 = .ok (.iinc 5 1, 3) := by decide +kernel
theorem d_Mod_kept_82 : decode b_Mod_kept 82 = .ok (.goto (-41), 3) := by decide +kernel
theorem d_Mod_kept_85 : decode b_Mod_kept 85 = .ok (.iload 4, 2) := by decide +kernel
theorem d_Mod_kept_87 : decode b_Mod_kept 87 = .ok (.iload_n 2, 1) := by decide +kernel
theorem d_Mod_kept_88 : decode b_Mod_kept 88 = .ok (.if_icmp .eq 6, 3) := by decide +kernel
theorem d_Mod_kept_91 : decode b_Mod_kept 91 = .ok (.goto 15, 3) := by decide +kernel
theorem d_Mod_kept_94 : decode b_Mod_kept 94 = .ok (.aload_n 0, 1) := by decide +kernel
theorem d_Mod_kept_95 : decode b_Mod_kept 95 = .ok (.iconst 0, 1) := by decide +kernel
theorem d_Mod_kept_96 : decode b_Mod_kept 96 = .ok (.putfield 63, 3) := by decide +kernel
theorem d_Mod_kept_99 : decode b_Mod_kept 99 = .ok (.aload_n 0, 1) := by decide +kernel
theorem d_Mod_kept_100 : decode b_Mod_kept 100 = .ok (.getfield 42, 3) := by decide +kernel
theorem d_Mod_kept_103 : decode b_Mod_kept 103 = .ok (.iload_n 3, 1) := by decide +kernel
theorem d_Mod_kept_104 : decode b_Mod_kept 104 = .ok (.iaload, 1) := by decide +kernel
theorem d_Mod_kept_105 : decode b_Mod_kept 105 = .ok (.ireturn, 1) := by decide +kernel
theorem d_Mod_kept_106 : decode b_Mod_kept 106 = .ok (.iinc 3 1, 3) := by decide +kernel
theorem d_Mod_kept_109 : decode b_Mod_kept 109 = .ok (.goto (-102), 3) := by decide +kernel
theorem d_Mod_kept_112 : decode b_Mod_kept 112 = .ok (.iconst 0, 1) := by decide +kernel
theorem d_Mod_kept_113 : decode b_Mod_kept 113 = .ok (.ireturn, 1) := by decide +kernel
abbrev rm_Mod_kept : Room := { frames := 5, cells := 0, slots := 0, locals := 126 }
abbrev C_Mod_kept (D : va_G) (g : Nat → ClassId) (p : Program) (s : State) (m : MethodId) (args : Array Value) (meth : Method) (c : Code) (M0 : Mem) : Prop := Cx p s m args c b_Mod_kept 6 R_Mod BIG D vwCl (tysG g) (mA M0 s.heap.size) ∧ meth.sig.returnType = (some .int) ∧ meth.locks = false
abbrev B_Mod_kept (l : Launch) (D : va_G) (p : Program) (e : Env) (s : State) (m : MethodId) (args : Array Value) (below : List Frame) (meth : Method) (c : Code) (M0 : Mem) (P : Int32 → Mem → Prop) (M : Mem) (pc : Nat) (lv : List (Nat × Value)) (st : List Value) : Prop := Wb p l e rm_Mod_kept s m args below meth c 6 D vwCl M0 (kI fun r M' => P r M') 0 0 M pc lv st
def wp_Mod_kept_b112 (g : Nat → ClassId) (P : Int32 → Mem → Prop) (M : Mem) : Prop :=
  P (0 : Int32) M
set_option maxHeartbeats 4000000 in
set_option maxRecDepth 100000 in
theorem t_Mod_kept_b112 {l : Launch} {D : va_G} {g : Nat → ClassId} {p : Program} {e : Env} {s : State} {m : MethodId} {args : Array Value} {below : List Frame} {meth : Method} {c : Code} {M0 : Mem} {P : Int32 → Mem → Prop} {M : Mem} (C : C_Mod_kept D g p s m args meth c M0) (h : wp_Mod_kept_b112 g P M ) : B_Mod_kept l D p e s m args below meth c M0 P M 112 [] [] := by
  intro ls H locs hM hS hl
  unfold wp_Mod_kept_b112 at h
  refine lv_iconst (v := (0 : Int32)) C.1.1 C.1.2.1 d_Mod_kept_112 (by decide) ?_
  exact mr_I C.1 C.2.1 C.2.2 hM hS ⟨_, rfl, h⟩ d_Mod_kept_113
def wp_Mod_kept_b106 (g : Nat → ClassId) (P : Int32 → Mem → Prop) (J7 : Int32 → Prop) (M : Mem) (x0 : Nat) (x1 : Int32) (x2 : Int32) (x3 : Int32) : Prop :=
  J7 (x3 + (1 : Int32))
set_option maxHeartbeats 4000000 in
set_option maxRecDepth 100000 in
theorem t_Mod_kept_b106 {l : Launch} {D : va_G} {g : Nat → ClassId} {p : Program} {e : Env} {s : State} {m : MethodId} {args : Array Value} {below : List Frame} {meth : Method} {c : Code} {M0 : Mem} {P : Int32 → Mem → Prop} {J7 : Int32 → Prop} {M : Mem} {x0 : Nat} {x1 : Int32} {x2 : Int32} {x3 : Int32} (C : C_Mod_kept D g p s m args meth c M0) (h : wp_Mod_kept_b106 g P J7 M x0 x1 x2 x3 ) (kJ7 : ∀ (x3 : Int32), J7 x3 → B_Mod_kept l D p e s m args below meth c M0 P M 7 [(0, .ref x0), (1, .int x1), (2, .int x2), (3, .int x3)] []) : B_Mod_kept l D p e s m args below meth c M0 P M 106 [(0, .ref x0), (1, .int x1), (2, .int x2), (3, .int x3)] [] := by
  intro ls H locs hM hS hl
  unfold wp_Mod_kept_b106 at h
  refine lv_iinc (v := x3 + (1 : Int32)) (lv' := [(3, .int (x3 + (1 : Int32))), (0, .ref x0), (1, .int x1), (2, .int x2)]) C.1.1 C.1.2.1 d_Mod_kept_106 hl (k := 3) rfl rfl (by decide) rfl (fun ls hl => ?_)
  refine lv_goto (tgt := 7) C.1.1 C.1.2.1 d_Mod_kept_109 (by decide) ?_
  exact kJ7 (x3 + (1 : Int32)) h _ _ _ hM hS (lv_sub hl [1, 2, 3, 0] rfl)
def wp_Mod_kept_b79 (g : Nat → ClassId) (P : Int32 → Mem → Prop) (J7 : Int32 → Prop) (J41 : Int32 → Int32 → Prop) (M : Mem) (x0 : Nat) (x1 : Int32) (x2 : Int32) (x3 : Int32) (x4 : Int32) (x5 : Int32) : Prop :=
  J41 x4 (x5 + (1 : Int32))
set_option maxHeartbeats 4000000 in
set_option maxRecDepth 100000 in
theorem t_Mod_kept_b79 {l : Launch} {D : va_G} {g : Nat → ClassId} {p : Program} {e : Env} {s : State} {m : MethodId} {args : Array Value} {below : List Frame} {meth : Method} {c : Code} {M0 : Mem} {P : Int32 → Mem → Prop} {J7 : Int32 → Prop} {J41 : Int32 → Int32 → Prop} {M : Mem} {x0 : Nat} {x1 : Int32} {x2 : Int32} {x3 : Int32} {x4 : Int32} {x5 : Int32} (C : C_Mod_kept D g p s m args meth c M0) (h : wp_Mod_kept_b79 g P J7 J41 M x0 x1 x2 x3 x4 x5 ) (kJ7 : ∀ (x3 : Int32), J7 x3 → B_Mod_kept l D p e s m args below meth c M0 P M 7 [(0, .ref x0), (1, .int x1), (2, .int x2), (3, .int x3)] []) (kJ41 : ∀ (x4 : Int32) (x5 : Int32), J41 x4 x5 → B_Mod_kept l D p e s m args below meth c M0 P M 41 [(0, .ref x0), (1, .int x1), (2, .int x2), (3, .int x3), (4, .int x4), (5, .int x5)] []) : B_Mod_kept l D p e s m args below meth c M0 P M 79 [(0, .ref x0), (1, .int x1), (2, .int x2), (3, .int x3), (4, .int x4), (5, .int x5)] [] := by
  intro ls H locs hM hS hl
  unfold wp_Mod_kept_b79 at h
  refine lv_iinc (v := x5 + (1 : Int32)) (lv' := [(5, .int (x5 + (1 : Int32))), (0, .ref x0), (1, .int x1), (2, .int x2), (3, .int x3), (4, .int x4)]) C.1.1 C.1.2.1 d_Mod_kept_79 hl (k := 5) rfl rfl (by decide) rfl (fun ls hl => ?_)
  refine lv_goto (tgt := 41) C.1.1 C.1.2.1 d_Mod_kept_82 (by decide) ?_
  exact kJ41 x4 (x5 + (1 : Int32)) h _ _ _ hM hS (lv_sub hl [1, 2, 3, 4, 5, 0] rfl)
def wp_Mod_kept_b41 (g : Nat → ClassId) (P : Int32 → Mem → Prop) (J7 : Int32 → Prop) (M : Mem) (x0 : Nat) (x1 : Int32) (x2 : Int32) (x3 : Int32) (x4 : Int32) (x5 : Int32) : Prop :=
  ∃ (I : Int32 → Int32 → Prop) (μ : Int32 → Int32 → Nat), I x4 x5 ∧ ∀ (x4 : Int32) (x5 : Int32), I x4 x5 →
  ∃ v1 : Int32, gI M 6 x0 14 = some v1 ∧ ((v1 ≤ x5 → ((x4 = x2 → (∃ M4 : Mem, pV M 6 x0 0 (.int (0 : Int32)) = some M4 ∧ (∃ v5 : Nat, gR M4 6 x0 15 = some v5 ∧ (∃ v6 : Int32, aI M4 (g 2) v5 x3 = some v6 ∧ (P v6 M4))))) ∧ (¬ x4 = x2 → (wp_Mod_kept_b106 g P J7 M x0 x1 x2 x3)))) ∧ (¬ v1 ≤ x5 → ((x5 = x3 → (wp_Mod_kept_b79 g P J7 (fun y4 y5 => I y4 y5 ∧ μ y4 y5 < μ x4 x5) M x0 x1 x2 x3 x4 x5)) ∧ (¬ x5 = x3 → (isO M 6 x0 ∧ (wp_Mod_fitsKept g M x0 x1 x5 (fun v8 : Int32 => (v8 = 0 → (wp_Mod_kept_b79 g P J7 (fun y4 y5 => I y4 y5 ∧ μ y4 y5 < μ x4 x5) M x0 x1 x2 x3 x4 x5)) ∧ (¬ v8 = 0 → (isO M 6 x0 ∧ (wp_Mod_isAhead g M x0 x5 x3 (fun v11 : Int32 => (v11 = 0 → (wp_Mod_kept_b79 g P J7 (fun y4 y5 => I y4 y5 ∧ μ y4 y5 < μ x4 x5) M x0 x1 x2 x3 x4 x5)) ∧ (¬ v11 = 0 → (wp_Mod_kept_b79 g P J7 (fun y4 y5 => I y4 y5 ∧ μ y4 y5 < μ x4 x5) M x0 x1 x2 x3 (x4 + (1 : Int32)) x5)))))))))))))
set_option maxHeartbeats 4000000 in
set_option maxRecDepth 100000 in
theorem t_Mod_kept_b41 {l : Launch} {D : va_G} {g : Nat → ClassId} {p : Program} {e : Env} {s : State} {m : MethodId} {args : Array Value} {below : List Frame} {meth : Method} {c : Code} {M0 : Mem} {P : Int32 → Mem → Prop} {J7 : Int32 → Prop} {M : Mem} {x0 : Nat} {x1 : Int32} {x2 : Int32} {x3 : Int32} {x4 : Int32} {x5 : Int32} (C : C_Mod_kept D g p s m args meth c M0) (h : wp_Mod_kept_b41 g P J7 M x0 x1 x2 x3 x4 x5 ) (kJ7 : ∀ (x3 : Int32), J7 x3 → B_Mod_kept l D p e s m args below meth c M0 P M 7 [(0, .ref x0), (1, .int x1), (2, .int x2), (3, .int x3)] []) : B_Mod_kept l D p e s m args below meth c M0 P M 41 [(0, .ref x0), (1, .int x1), (2, .int x2), (3, .int x3), (4, .int x4), (5, .int x5)] [] := by
  unfold wp_Mod_kept_b41 at h
  obtain ⟨I, μ, hI, hb⟩ := h
  have key : ∀ (n : Nat) (x4 : Int32) (x5 : Int32), I x4 x5 → μ x4 x5 < n → B_Mod_kept l D p e s m args below meth c M0 P M 41 [(0, .ref x0), (1, .int x1), (2, .int x2), (3, .int x3), (4, .int x4), (5, .int x5)] [] := by
    intro n
    induction n with
    | zero => intro x4 x5 _ hn; exact absurd hn (Nat.not_lt_zero _)
    | succ n ih =>
      intro x4 x5 hI hn ls H locs hM hS hl
      have h := hb x4 x5 hI
      refine lv_iload C.1.1 C.1.2.1 d_Mod_kept_41 (lv_at hl 5 rfl) ?_
      refine lv_aload_n C.1.1 C.1.2.1 d_Mod_kept_43 rfl (lv_at hl 0 rfl) ?_
      obtain ⟨v1, ev1, h⟩ := h
      refine mg_I C.1 hM ok_Mod (by decide) kw71 ev1 d_Mod_kept_44 ?_
      refine lv_icmp_ge (tgt := 85) C.1.1 C.1.2.1 d_Mod_kept_47 (by decide) (fun c2 => ?_) (fun c2 => ?_)
      · have h := h.1 c2
        refine lv_iload C.1.1 C.1.2.1 d_Mod_kept_85 (lv_at hl 4 rfl) ?_
        refine lv_iload_n C.1.1 C.1.2.1 d_Mod_kept_87 rfl (lv_at hl 2 rfl) ?_
        refine lv_icmp_eq (tgt := 94) C.1.1 C.1.2.1 d_Mod_kept_88 (by decide) (fun c3 => ?_) (fun c3 => ?_)
        · have h := h.1 c3
          refine lv_aload_n C.1.1 C.1.2.1 d_Mod_kept_94 rfl (lv_at hl 0 rfl) ?_
          refine lv_iconst (v := (0 : Int32)) C.1.1 C.1.2.1 d_Mod_kept_95 (by decide) ?_
          obtain ⟨M4, eM4, h⟩ := h
          refine mp_V C.1 hM hS ok_Mod (by decide) kw23 rfl rfl rfl eM4 d_Mod_kept_96 (fun H locs hM hS => ?_)
          refine lv_aload_n C.1.1 C.1.2.1 d_Mod_kept_99 rfl (lv_at hl 0 rfl) ?_
          obtain ⟨v5, ev5, h⟩ := h
          refine mg_R C.1 hM ok_Mod (by decide) kw16 ev5 d_Mod_kept_100 ?_
          refine lv_iload_n C.1.1 C.1.2.1 d_Mod_kept_103 rfl (lv_at hl 3 rfl) ?_
          obtain ⟨v6, ev6, h⟩ := h
          refine ma_I C.1 hM 2 rfl ev6 d_Mod_kept_104 ?_
          exact mr_I C.1 C.2.1 C.2.2 hM hS ⟨_, rfl, h⟩ d_Mod_kept_105
        · have h := h.2 c3
          refine lv_goto (tgt := 106) C.1.1 C.1.2.1 d_Mod_kept_91 (by decide) ?_
          exact t_Mod_kept_b106 C h kJ7 _ _ _ hM hS (lv_sub hl [0, 1, 2, 3] rfl)
      · have h := h.2 c2
        refine lv_iload C.1.1 C.1.2.1 d_Mod_kept_50 (lv_at hl 5 rfl) ?_
        refine lv_iload_n C.1.1 C.1.2.1 d_Mod_kept_52 rfl (lv_at hl 3 rfl) ?_
        refine lv_icmp_eq (tgt := 79) C.1.1 C.1.2.1 d_Mod_kept_53 (by decide) (fun c7 => ?_) (fun c7 => ?_)
        · have h := h.1 c7
          exact t_Mod_kept_b79 C h kJ7 (fun y4 y5 hJ => ih y4 y5 hJ.1 (Nat.lt_of_lt_of_le hJ.2 (Nat.le_of_lt_succ hn))) _ _ _ hM hS (lv_sub hl [0, 1, 2, 3, 4, 5] rfl)
        · have h := h.2 c7
          refine lv_aload_n C.1.1 C.1.2.1 d_Mod_kept_56 rfl (lv_at hl 0 rfl) ?_
          refine lv_iload_n C.1.1 C.1.2.1 d_Mod_kept_57 rfl (lv_at hl 1 rfl) ?_
          refine lv_iload C.1.1 C.1.2.1 d_Mod_kept_58 (lv_at hl 5 rfl) ?_
          obtain ⟨ho, h⟩ := h
          refine mc_V (As := [.int x1, .int x5]) (ci := 6) C.1 hM hS bigGood (c_Mod_fitsKept h) rfl ho kw76 kw78 kw79 kw29 kw77 hd_Mod_fitsKept ⟨by decide, by decide⟩ hl.1 rfl (Nat.le_of_ble_eq_true rfl) d_Mod_kept_60 (mc := 0) (ms := 0) rfl rfl ⟨by decide, by decide⟩ (fun v M' H locs hp hM hS => ?_)
          obtain ⟨v8, rfl, rfl, h⟩ := hp
          refine lv_if_eq (tgt := 79) C.1.1 C.1.2.1 d_Mod_kept_63 (by decide) (fun c10 => ?_) (fun c10 => ?_)
          · have h := h.1 c10
            exact t_Mod_kept_b79 C h kJ7 (fun y4 y5 hJ => ih y4 y5 hJ.1 (Nat.lt_of_lt_of_le hJ.2 (Nat.le_of_lt_succ hn))) _ _ _ hM hS (lv_sub hl [0, 1, 2, 3, 4, 5] rfl)
          · have h := h.2 c10
            refine lv_aload_n C.1.1 C.1.2.1 d_Mod_kept_66 rfl (lv_at hl 0 rfl) ?_
            refine lv_iload C.1.1 C.1.2.1 d_Mod_kept_67 (lv_at hl 5 rfl) ?_
            refine lv_iload_n C.1.1 C.1.2.1 d_Mod_kept_69 rfl (lv_at hl 3 rfl) ?_
            obtain ⟨ho, h⟩ := h
            refine mc_V (As := [.int x5, .int x3]) (ci := 6) C.1 hM hS bigGood (c_Mod_isAhead h) rfl ho kw80 kw82 kw83 kw29 kw81 hd_Mod_isAhead ⟨by decide, by decide⟩ hl.1 rfl (Nat.le_of_ble_eq_true rfl) d_Mod_kept_70 (mc := 0) (ms := 0) rfl rfl ⟨by decide, by decide⟩ (fun v M' H locs hp hM hS => ?_)
            obtain ⟨v11, rfl, rfl, h⟩ := hp
            refine lv_if_eq (tgt := 79) C.1.1 C.1.2.1 d_Mod_kept_73 (by decide) (fun c13 => ?_) (fun c13 => ?_)
            · have h := h.1 c13
              exact t_Mod_kept_b79 C h kJ7 (fun y4 y5 hJ => ih y4 y5 hJ.1 (Nat.lt_of_lt_of_le hJ.2 (Nat.le_of_lt_succ hn))) _ _ _ hM hS (lv_sub hl [0, 1, 2, 3, 4, 5] rfl)
            · have h := h.2 c13
              refine lv_iinc (v := x4 + (1 : Int32)) (lv' := [(4, .int (x4 + (1 : Int32))), (0, .ref x0), (1, .int x1), (2, .int x2), (3, .int x3), (5, .int x5)]) C.1.1 C.1.2.1 d_Mod_kept_76 hl (k := 4) rfl rfl (by decide) rfl (fun ls hl => ?_)
              exact t_Mod_kept_b79 C h kJ7 (fun y4 y5 hJ => ih y4 y5 hJ.1 (Nat.lt_of_lt_of_le hJ.2 (Nat.le_of_lt_succ hn))) _ _ _ hM hS (lv_sub hl [1, 2, 3, 4, 0, 5] rfl)
  exact key _ x4 x5 hI (Nat.lt_succ_self _)
def wp_Mod_kept_b7 (g : Nat → ClassId) (P : Int32 → Mem → Prop) (M : Mem) (x0 : Nat) (x1 : Int32) (x2 : Int32) (x3 : Int32) : Prop :=
  ∃ (I : Int32 → Prop) (μ : Int32 → Nat), I x3 ∧ ∀ (x3 : Int32), I x3 →
  ∃ v1 : Int32, gI M 6 x0 14 = some v1 ∧ ((v1 ≤ x3 → (wp_Mod_kept_b112 g P M)) ∧ (¬ v1 ≤ x3 → (isO M 6 x0 ∧ (wp_Mod_isBound g M x0 x1 (fun v3 : Int32 => (v3 = 0 → (wp_Mod_kept_b112 g P M)) ∧ (¬ v3 = 0 → (isO M 6 x0 ∧ (wp_Mod_fitsKept g M x0 x1 x3 (fun v6 : Int32 => (v6 = 0 → (wp_Mod_kept_b106 g P (fun y3 => I y3 ∧ μ y3 < μ x3) M x0 x1 x2 x3)) ∧ (¬ v6 = 0 → (wp_Mod_kept_b41 g P (fun y3 => I y3 ∧ μ y3 < μ x3) M x0 x1 x2 x3 (0 : Int32) (0 : Int32))))))))))))
set_option maxHeartbeats 4000000 in
set_option maxRecDepth 100000 in
theorem t_Mod_kept_b7 {l : Launch} {D : va_G} {g : Nat → ClassId} {p : Program} {e : Env} {s : State} {m : MethodId} {args : Array Value} {below : List Frame} {meth : Method} {c : Code} {M0 : Mem} {P : Int32 → Mem → Prop} {M : Mem} {x0 : Nat} {x1 : Int32} {x2 : Int32} {x3 : Int32} (C : C_Mod_kept D g p s m args meth c M0) (h : wp_Mod_kept_b7 g P M x0 x1 x2 x3 ) : B_Mod_kept l D p e s m args below meth c M0 P M 7 [(0, .ref x0), (1, .int x1), (2, .int x2), (3, .int x3)] [] := by
  unfold wp_Mod_kept_b7 at h
  obtain ⟨I, μ, hI, hb⟩ := h
  have key : ∀ (n : Nat) (x3 : Int32), I x3 → μ x3 < n → B_Mod_kept l D p e s m args below meth c M0 P M 7 [(0, .ref x0), (1, .int x1), (2, .int x2), (3, .int x3)] [] := by
    intro n
    induction n with
    | zero => intro x3 _ hn; exact absurd hn (Nat.not_lt_zero _)
    | succ n ih =>
      intro x3 hI hn ls H locs hM hS hl
      have h := hb x3 hI
      refine lv_iload_n C.1.1 C.1.2.1 d_Mod_kept_7 rfl (lv_at hl 3 rfl) ?_
      refine lv_aload_n C.1.1 C.1.2.1 d_Mod_kept_8 rfl (lv_at hl 0 rfl) ?_
      obtain ⟨v1, ev1, h⟩ := h
      refine mg_I C.1 hM ok_Mod (by decide) kw71 ev1 d_Mod_kept_9 ?_
      refine lv_icmp_ge (tgt := 112) C.1.1 C.1.2.1 d_Mod_kept_12 (by decide) (fun c2 => ?_) (fun c2 => ?_)
      · have h := h.1 c2
        exact t_Mod_kept_b112 C h _ _ _ hM hS (lv_sub hl [] rfl)
      · have h := h.2 c2
        refine lv_aload_n C.1.1 C.1.2.1 d_Mod_kept_15 rfl (lv_at hl 0 rfl) ?_
        refine lv_iload_n C.1.1 C.1.2.1 d_Mod_kept_16 rfl (lv_at hl 1 rfl) ?_
        obtain ⟨ho, h⟩ := h
        refine mc_V (As := [.int x1]) (ci := 6) C.1 hM hS bigGood (c_Mod_isBound h) rfl ho kw63 kw65 kw66 kw29 kw64 hd_Mod_isBound ⟨by decide, by decide⟩ hl.1 rfl (Nat.le_of_ble_eq_true rfl) d_Mod_kept_17 (mc := 0) (ms := 0) rfl rfl ⟨by decide, by decide⟩ (fun v M' H locs hp hM hS => ?_)
        obtain ⟨v3, rfl, rfl, h⟩ := hp
        refine lv_if_eq (tgt := 112) C.1.1 C.1.2.1 d_Mod_kept_20 (by decide) (fun c5 => ?_) (fun c5 => ?_)
        · have h := h.1 c5
          exact t_Mod_kept_b112 C h _ _ _ hM hS (lv_sub hl [] rfl)
        · have h := h.2 c5
          refine lv_aload_n C.1.1 C.1.2.1 d_Mod_kept_23 rfl (lv_at hl 0 rfl) ?_
          refine lv_iload_n C.1.1 C.1.2.1 d_Mod_kept_24 rfl (lv_at hl 1 rfl) ?_
          refine lv_iload_n C.1.1 C.1.2.1 d_Mod_kept_25 rfl (lv_at hl 3 rfl) ?_
          obtain ⟨ho, h⟩ := h
          refine mc_V (As := [.int x1, .int x3]) (ci := 6) C.1 hM hS bigGood (c_Mod_fitsKept h) rfl ho kw76 kw78 kw79 kw29 kw77 hd_Mod_fitsKept ⟨by decide, by decide⟩ hl.1 rfl (Nat.le_of_ble_eq_true rfl) d_Mod_kept_26 (mc := 0) (ms := 0) rfl rfl ⟨by decide, by decide⟩ (fun v M' H locs hp hM hS => ?_)
          obtain ⟨v6, rfl, rfl, h⟩ := hp
          refine lv_if_ne (tgt := 35) C.1.1 C.1.2.1 d_Mod_kept_29 (by decide) (fun c8 => ?_) (fun c8 => ?_)
          · have h := h.2 c8
            refine lv_iconst (v := (0 : Int32)) C.1.1 C.1.2.1 d_Mod_kept_35 (by decide) ?_
            refine lv_istore (lv' := [(4, .int (0 : Int32)), (0, .ref x0), (1, .int x1), (2, .int x2), (3, .int x3)]) C.1.1 C.1.2.1 d_Mod_kept_36 hl (by decide) rfl (fun ls hl => ?_)
            refine lv_iconst (v := (0 : Int32)) C.1.1 C.1.2.1 d_Mod_kept_38 (by decide) ?_
            refine lv_istore (lv' := [(5, .int (0 : Int32)), (4, .int (0 : Int32)), (0, .ref x0), (1, .int x1), (2, .int x2), (3, .int x3)]) C.1.1 C.1.2.1 d_Mod_kept_39 hl (by decide) rfl (fun ls hl => ?_)
            exact t_Mod_kept_b41 C h (fun y3 hJ => ih y3 hJ.1 (Nat.lt_of_lt_of_le hJ.2 (Nat.le_of_lt_succ hn))) _ _ _ hM hS (lv_sub hl [2, 3, 4, 5, 1, 0] rfl)
          · have h := h.1 c8
            refine lv_goto (tgt := 106) C.1.1 C.1.2.1 d_Mod_kept_32 (by decide) ?_
            exact t_Mod_kept_b106 C h (fun y3 hJ => ih y3 hJ.1 (Nat.lt_of_lt_of_le hJ.2 (Nat.le_of_lt_succ hn))) _ _ _ hM hS (lv_sub hl [0, 1, 2, 3] rfl)
  exact key _ x3 hI (Nat.lt_succ_self _)
def wp_Mod_kept (g : Nat → ClassId) (M : Mem) (x0 : Nat) (x1 : Int32) (x2 : Int32) (P : Int32 → Mem → Prop) : Prop :=
  ∃ M1 : Mem, pV M 6 x0 0 (.int (1 : Int32)) = some M1 ∧ (wp_Mod_kept_b7 g P M1 x0 x1 x2 (0 : Int32))
set_option maxHeartbeats 4000000 in
set_option maxRecDepth 100000 in
theorem c_Mod_kept {l : Launch} {D : va_G} {g : Nat → ClassId} {M : Mem} {x0 : Nat} {x1 : Int32} {x2 : Int32} {P : Int32 → Mem → Prop} (h : wp_Mod_kept g M x0 x1 x2 P) : mMet l BIG D vwCl (tysG g) y_Mod_kept b_Mod_kept 6 (some .int) rm_Mod_kept [.ref x0, .int x1, .int x2] M (kI fun r M' => P r M') := by
  refine mMet.of (own := R_Mod) rfl (by decide) rfl (fun p e s m below meth c C hr hlk hnm ls hM hS hl => ?_)
  have C : C_Mod_kept D g p s m ([.ref x0, .int x1, .int x2] : List Value).toArray meth c M := ⟨C, hr, hlk⟩
  unfold wp_Mod_kept at h
  have hl : lv_has ls 6 [(0, .ref x0), (1, .int x1), (2, .int x2)] := hl
  refine lv_aload_n C.1.1 C.1.2.1 d_Mod_kept_0 rfl (lv_at hl 0 rfl) ?_
  refine lv_iconst (v := (1 : Int32)) C.1.1 C.1.2.1 d_Mod_kept_1 (by decide) ?_
  obtain ⟨M1, eM1, h⟩ := h
  refine mp_V C.1 hM hS ok_Mod (by decide) kw23 rfl rfl rfl eM1 d_Mod_kept_2 (fun H locs hM hS => ?_)
  refine lv_iconst (v := (0 : Int32)) C.1.1 C.1.2.1 d_Mod_kept_5 (by decide) ?_
  refine lv_istore_n (lv' := [(3, .int (0 : Int32)), (0, .ref x0), (1, .int x1), (2, .int x2)]) C.1.1 C.1.2.1 d_Mod_kept_6 rfl hl (by decide) rfl (fun ls hl => ?_)
  exact t_Mod_kept_b7 C h _ _ _ hM hS (lv_sub hl [1, 2, 3, 0] rfl)
theorem d_Mod_sign_0 : decode b_Mod_sign 0 = .ok (.aload_n 0, 1) := by decide +kernel
theorem d_Mod_sign_1 : decode b_Mod_sign 1 = .ok (.iconst 0, 1) := by decide +kernel
theorem d_Mod_sign_2 : decode b_Mod_sign 2 = .ok (.putfield 63, 3) := by decide +kernel
theorem d_Mod_sign_5 : decode b_Mod_sign 5 = .ok (.aload_n 0, 1) := by decide +kernel
theorem d_Mod_sign_6 : decode b_Mod_sign 6 = .ok (.iload_n 1, 1) := by decide +kernel
theorem d_Mod_sign_7 : decode b_Mod_sign 7 = .ok (.invokevirtual 115, 3) := by decide +kernel
theorem d_Mod_sign_10 : decode b_Mod_sign 10 = .ok (.ifCond .eq 31, 3) := by decide +kernel
theorem d_Mod_sign_13 : decode b_Mod_sign 13 = .ok (.iload_n 2, 1) := by decide +kernel
theorem d_Mod_sign_14 : decode b_Mod_sign 14 = .ok (.ifCond .lt 27, 3) := by decide +kernel
theorem d_Mod_sign_17 : decode b_Mod_sign 17 = .ok (.iload_n 2, 1) := by decide +kernel
theorem d_Mod_sign_18 : decode b_Mod_sign 18 = .ok (.aload_n 0, 1) := by decide +kernel
theorem d_Mod_sign_19 : decode b_Mod_sign 19 = .ok (.getfield 39, 3) := by decide +kernel
theorem d_Mod_sign_22 : decode b_Mod_sign 22 = .ok (.iload_n 1, 1) := by decide +kernel
theorem d_Mod_sign_23 : decode b_Mod_sign 23 = .ok (.iaload, 1) := by decide +kernel
theorem d_Mod_sign_24 : decode b_Mod_sign 24 = .ok (.if_icmp .ge 17, 3) := by decide +kernel
theorem d_Mod_sign_27 : decode b_Mod_sign 27 = .ok (.aload_n 0, 1) := by decide +kernel
theorem d_Mod_sign_28 : decode b_Mod_sign 28 = .ok (.getfield 36, 3) := by decide +kernel
theorem d_Mod_sign_31 : decode b_Mod_sign 31 = .ok (.bipush 41, 2) := by decide +kernel
theorem d_Mod_sign_33 : decode b_Mod_sign 33 = .ok (.iload_n 1, 1) := by decide +kernel
theorem d_Mod_sign_34 : decode b_Mod_sign 34 = .ok (.imul, 1) := by decide +kernel
theorem d_Mod_sign_35 : decode b_Mod_sign 35 = .ok (.iload_n 2, 1) := by decide +kernel
theorem d_Mod_sign_36 : decode b_Mod_sign 36 = .ok (.iadd, 1) := by decide +kernel
theorem d_Mod_sign_37 : decode b_Mod_sign 37 = .ok (.iaload, 1) := by decide +kernel
theorem d_Mod_sign_38 : decode b_Mod_sign 38 = .ok (.goto 4, 3) := by decide +kernel
theorem d_Mod_sign_41 : decode b_Mod_sign 41 = .ok (.iconst (-1), 1) := by decide +kernel
theorem d_Mod_sign_42 : decode b_Mod_sign 42 = .ok (.ireturn, 1) := by decide +kernel
abbrev rm_Mod_sign : Room := { frames := 2, cells := 0, slots := 0, locals := 41 }
abbrev C_Mod_sign (D : va_G) (g : Nat → ClassId) (p : Program) (s : State) (m : MethodId) (args : Array Value) (meth : Method) (c : Code) (M0 : Mem) : Prop := Cx p s m args c b_Mod_sign 3 R_Mod BIG D vwCl (tysG g) (mA M0 s.heap.size) ∧ meth.sig.returnType = (some .int) ∧ meth.locks = false
abbrev B_Mod_sign (l : Launch) (D : va_G) (p : Program) (e : Env) (s : State) (m : MethodId) (args : Array Value) (below : List Frame) (meth : Method) (c : Code) (M0 : Mem) (P : Int32 → Mem → Prop) (M : Mem) (pc : Nat) (lv : List (Nat × Value)) (st : List Value) : Prop := Wb p l e rm_Mod_sign s m args below meth c 3 D vwCl M0 (kI fun r M' => P r M') 0 0 M pc lv st
def wp_Mod_sign_b42 (g : Nat → ClassId) (P : Int32 → Mem → Prop) (M : Mem) (t0 : Int32) : Prop :=
  P t0 M
set_option maxHeartbeats 4000000 in
set_option maxRecDepth 100000 in
theorem t_Mod_sign_b42 {l : Launch} {D : va_G} {g : Nat → ClassId} {p : Program} {e : Env} {s : State} {m : MethodId} {args : Array Value} {below : List Frame} {meth : Method} {c : Code} {M0 : Mem} {P : Int32 → Mem → Prop} {M : Mem} {t0 : Int32} (C : C_Mod_sign D g p s m args meth c M0) (h : wp_Mod_sign_b42 g P M t0) : B_Mod_sign l D p e s m args below meth c M0 P M 42 [] [.int t0] := by
  intro ls H locs hM hS hl
  unfold wp_Mod_sign_b42 at h
  exact mr_I C.1 C.2.1 C.2.2 hM hS ⟨_, rfl, h⟩ d_Mod_sign_42
def wp_Mod_sign_b41 (g : Nat → ClassId) (P : Int32 → Mem → Prop) (M : Mem) : Prop :=
  wp_Mod_sign_b42 g P M (-1 : Int32)
set_option maxHeartbeats 4000000 in
set_option maxRecDepth 100000 in
theorem t_Mod_sign_b41 {l : Launch} {D : va_G} {g : Nat → ClassId} {p : Program} {e : Env} {s : State} {m : MethodId} {args : Array Value} {below : List Frame} {meth : Method} {c : Code} {M0 : Mem} {P : Int32 → Mem → Prop} {M : Mem} (C : C_Mod_sign D g p s m args meth c M0) (h : wp_Mod_sign_b41 g P M ) : B_Mod_sign l D p e s m args below meth c M0 P M 41 [] [] := by
  intro ls H locs hM hS hl
  unfold wp_Mod_sign_b41 at h
  refine lv_iconst (v := (-1 : Int32)) C.1.1 C.1.2.1 d_Mod_sign_41 (by decide) ?_
  exact t_Mod_sign_b42 C h _ _ _ hM hS (lv_sub hl [] rfl)
def wp_Mod_sign (g : Nat → ClassId) (M : Mem) (x0 : Nat) (x1 : Int32) (x2 : Int32) (P : Int32 → Mem → Prop) : Prop :=
  ∃ M1 : Mem, pV M 6 x0 0 (.int (0 : Int32)) = some M1 ∧ (isO M1 6 x0 ∧ (wp_Mod_isBound g M1 x0 x1 (fun v2 : Int32 => (v2 = 0 → (wp_Mod_sign_b41 g P M1)) ∧ (¬ v2 = 0 → ((x2 < 0 → (wp_Mod_sign_b41 g P M1)) ∧ (¬ x2 < 0 → (∃ v6 : Nat, gR M1 6 x0 13 = some v6 ∧ (∃ v7 : Int32, aI M1 (g 2) v6 x1 = some v7 ∧ ((v7 ≤ x2 → (wp_Mod_sign_b41 g P M1)) ∧ (¬ v7 ≤ x2 → (∃ v9 : Nat, gR M1 6 x0 12 = some v9 ∧ (∃ v10 : Int32, aI M1 (g 2) v9 (((41 : Int32) * x1) + x2) = some v10 ∧ (wp_Mod_sign_b42 g P M1 v10)))))))))))))
set_option maxHeartbeats 4000000 in
set_option maxRecDepth 100000 in
theorem c_Mod_sign {l : Launch} {D : va_G} {g : Nat → ClassId} {M : Mem} {x0 : Nat} {x1 : Int32} {x2 : Int32} {P : Int32 → Mem → Prop} (h : wp_Mod_sign g M x0 x1 x2 P) : mMet l BIG D vwCl (tysG g) y_Mod_sign b_Mod_sign 3 (some .int) rm_Mod_sign [.ref x0, .int x1, .int x2] M (kI fun r M' => P r M') := by
  refine mMet.of (own := R_Mod) rfl (by decide) rfl (fun p e s m below meth c C hr hlk hnm ls hM hS hl => ?_)
  have C : C_Mod_sign D g p s m ([.ref x0, .int x1, .int x2] : List Value).toArray meth c M := ⟨C, hr, hlk⟩
  unfold wp_Mod_sign at h
  have hl : lv_has ls 3 [(0, .ref x0), (1, .int x1), (2, .int x2)] := hl
  refine lv_aload_n C.1.1 C.1.2.1 d_Mod_sign_0 rfl (lv_at hl 0 rfl) ?_
  refine lv_iconst (v := (0 : Int32)) C.1.1 C.1.2.1 d_Mod_sign_1 (by decide) ?_
  obtain ⟨M1, eM1, h⟩ := h
  refine mp_V C.1 hM hS ok_Mod (by decide) kw23 rfl rfl rfl eM1 d_Mod_sign_2 (fun H locs hM hS => ?_)
  refine lv_aload_n C.1.1 C.1.2.1 d_Mod_sign_5 rfl (lv_at hl 0 rfl) ?_
  refine lv_iload_n C.1.1 C.1.2.1 d_Mod_sign_6 rfl (lv_at hl 1 rfl) ?_
  obtain ⟨ho, h⟩ := h
  refine mc_V (As := [.int x1]) (ci := 6) C.1 hM hS bigGood (c_Mod_isBound h) rfl ho kw63 kw65 kw66 kw29 kw64 hd_Mod_isBound ⟨by decide, by decide⟩ hl.1 rfl (Nat.le_of_ble_eq_true rfl) d_Mod_sign_7 (mc := 0) (ms := 0) rfl rfl ⟨by decide, by decide⟩ (fun v M' H locs hp hM hS => ?_)
  obtain ⟨v2, rfl, rfl, h⟩ := hp
  refine lv_if_eq (tgt := 41) C.1.1 C.1.2.1 d_Mod_sign_10 (by decide) (fun c4 => ?_) (fun c4 => ?_)
  · have h := h.1 c4
    exact t_Mod_sign_b41 C h _ _ _ hM hS (lv_sub hl [] rfl)
  · have h := h.2 c4
    refine lv_iload_n C.1.1 C.1.2.1 d_Mod_sign_13 rfl (lv_at hl 2 rfl) ?_
    refine lv_if_lt (tgt := 41) C.1.1 C.1.2.1 d_Mod_sign_14 (by decide) (fun c5 => ?_) (fun c5 => ?_)
    · have h := h.1 c5
      exact t_Mod_sign_b41 C h _ _ _ hM hS (lv_sub hl [] rfl)
    · have h := h.2 c5
      refine lv_iload_n C.1.1 C.1.2.1 d_Mod_sign_17 rfl (lv_at hl 2 rfl) ?_
      refine lv_aload_n C.1.1 C.1.2.1 d_Mod_sign_18 rfl (lv_at hl 0 rfl) ?_
      obtain ⟨v6, ev6, h⟩ := h
      refine mg_R C.1 hM ok_Mod (by decide) kw15 ev6 d_Mod_sign_19 ?_
      refine lv_iload_n C.1.1 C.1.2.1 d_Mod_sign_22 rfl (lv_at hl 1 rfl) ?_
      obtain ⟨v7, ev7, h⟩ := h
      refine ma_I C.1 hM 2 rfl ev7 d_Mod_sign_23 ?_
      refine lv_icmp_ge (tgt := 41) C.1.1 C.1.2.1 d_Mod_sign_24 (by decide) (fun c8 => ?_) (fun c8 => ?_)
      · have h := h.1 c8
        exact t_Mod_sign_b41 C h _ _ _ hM hS (lv_sub hl [] rfl)
      · have h := h.2 c8
        refine lv_aload_n C.1.1 C.1.2.1 d_Mod_sign_27 rfl (lv_at hl 0 rfl) ?_
        obtain ⟨v9, ev9, h⟩ := h
        refine mg_R C.1 hM ok_Mod (by decide) kw14 ev9 d_Mod_sign_28 ?_
        refine lv_bipush (v := (41 : Int32)) C.1.1 C.1.2.1 d_Mod_sign_31 (by decide) ?_
        refine lv_iload_n C.1.1 C.1.2.1 d_Mod_sign_33 rfl (lv_at hl 1 rfl) ?_
        refine lv_imul C.1.1 C.1.2.1 d_Mod_sign_34 ?_
        refine lv_iload_n C.1.1 C.1.2.1 d_Mod_sign_35 rfl (lv_at hl 2 rfl) ?_
        refine lv_iadd C.1.1 C.1.2.1 d_Mod_sign_36 ?_
        obtain ⟨v10, ev10, h⟩ := h
        refine ma_I C.1 hM 2 rfl ev10 d_Mod_sign_37 ?_
        refine lv_goto (tgt := 42) C.1.1 C.1.2.1 d_Mod_sign_38 (by decide) ?_
        exact t_Mod_sign_b42 C h _ _ _ hM hS (lv_sub hl [] rfl)
