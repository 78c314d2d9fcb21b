theorem d_Desk_isWithin_0 : decode b_Desk_isWithin 0 = .ok (.aload_n 0, 1) := by decide +kernel
theorem d_Desk_isWithin_1 : decode b_Desk_isWithin 1 = .ok (.iload_n 1, 1) := by decide +kernel
theorem d_Desk_isWithin_2 : decode b_Desk_isWithin 2 = .ok (.iload_n 2, 1) := by decide +kernel
theorem d_Desk_isWithin_3 : decode b_Desk_isWithin 3 = .ok (.iconst 0, 1) := by decide +kernel
theorem d_Desk_isWithin_4 : decode b_Desk_isWithin 4 = .ok (.invokevirtual 147, 3) := by decide +kernel
theorem d_Desk_isWithin_7 : decode b_Desk_isWithin 7 = .ok (.ifCond .ne 7, 3) := by decide +kernel
theorem d_Desk_isWithin_10 : decode b_Desk_isWithin 10 = .ok (.iconst 1, 1) := by decide +kernel
theorem d_Desk_isWithin_11 : decode b_Desk_isWithin 11 = .ok (.goto 4, 3) := by decide +kernel
theorem d_Desk_isWithin_14 : decode b_Desk_isWithin 14 = .ok (.iconst 0, 1) := by decide +kernel
theorem d_Desk_isWithin_15 : decode b_Desk_isWithin 15 = .ok (.ireturn, 1) := by decide +kernel
abbrev rm_Desk_isWithin : Room := { frames := 4, cells := 0, slots := 0, locals := 103 }
abbrev C_Desk_isWithin (D : va_G) (g : Nat → ClassId) (p : Program) (s : State) (m : MethodId) (args : Array Value) (meth : Method) (c : Code) (M0 : Mem) : Prop := Cx p s m args c b_Desk_isWithin 3 R_Desk BIG D vwCl (tysG g) (mA M0 s.heap.size) ∧ meth.sig.returnType = (some .boolean) ∧ meth.locks = false
abbrev B_Desk_isWithin (l : Launch) (D : va_G) (p : Program) (e : Env) (s : State) (m : MethodId) (args : Array Value) (below : List Frame) (meth : Method) (c : Code) (M0 : Mem) (P : Int32 → Mem → Prop) (M : Mem) (pc : Nat) (lv : List (Nat × Value)) (st : List Value) : Prop := Wb p l e rm_Desk_isWithin s m args below meth c 3 D vwCl M0 (kI fun r M' => P r M') 0 0 M pc lv st
def wp_Desk_isWithin_b15 (g : Nat → ClassId) (P : Int32 → Mem → Prop) (M : Mem) (t0 : Int32) : Prop :=
  isB t0 ∧ P t0 M
set_option maxHeartbeats 4000000 in
set_option maxRecDepth 100000 in
theorem t_Desk_isWithin_b15 {l : Launch} {D : va_G} {g : Nat → ClassId} {p : Program} {e : Env} {s : State} {m : MethodId} {args : Array Value} {below : List Frame} {meth : Method} {c : Code} {M0 : Mem} {P : Int32 → Mem → Prop} {M : Mem} {t0 : Int32} (C : C_Desk_isWithin D g p s m args meth c M0) (h : wp_Desk_isWithin_b15 g P M t0) : B_Desk_isWithin l D p e s m args below meth c M0 P M 15 [] [.int t0] := by
  intro ls H locs hM hS hl
  unfold wp_Desk_isWithin_b15 at h
  exact mr_Z C.1 C.2.1 C.2.2 h.1 hM hS ⟨_, rfl, h.2⟩ d_Desk_isWithin_15
def wp_Desk_isWithin (g : Nat → ClassId) (M : Mem) (x0 : Nat) (x1 : Int32) (x2 : Int32) (P : Int32 → Mem → Prop) : Prop :=
  isO M 0 x0 ∧ (wp_Desk_fewestWords g M x0 x1 x2 (0 : Int32) (fun (v1 : Int32) (M2 : Mem) => (v1 = 0 → (wp_Desk_isWithin_b15 g P M2 (1 : Int32))) ∧ (¬ v1 = 0 → (wp_Desk_isWithin_b15 g P M2 (0 : Int32)))))
set_option maxHeartbeats 4000000 in
set_option maxRecDepth 100000 in
theorem c_Desk_isWithin {l : Launch} {D : va_G} {g : Nat → ClassId} {M : Mem} {x0 : Nat} {x1 : Int32} {x2 : Int32} {P : Int32 → Mem → Prop} (h : wp_Desk_isWithin g M x0 x1 x2 P) : mMet l BIG D vwCl (tysG g) y_Desk_isWithin b_Desk_isWithin 3 (some .boolean) rm_Desk_isWithin [.ref x0, .int x1, .int x2] M (kI fun r M' => P r M') := by
  refine mMet.of (own := R_Desk) rfl (by decide) rfl (fun p e s m below meth c C hr hlk hnm ls hM hS hl => ?_)
  have C : C_Desk_isWithin D g p s m ([.ref x0, .int x1, .int x2] : List Value).toArray meth c M := ⟨C, hr, hlk⟩
  unfold wp_Desk_isWithin at h
  have hl : lv_has ls 3 [(0, .ref x0), (1, .int x1), (2, .int x2)] := hl
  refine lv_aload_n C.1.1 C.1.2.1 d_Desk_isWithin_0 rfl (lv_at hl 0 rfl) ?_
  refine lv_iload_n C.1.1 C.1.2.1 d_Desk_isWithin_1 rfl (lv_at hl 1 rfl) ?_
  refine lv_iload_n C.1.1 C.1.2.1 d_Desk_isWithin_2 rfl (lv_at hl 2 rfl) ?_
  refine lv_iconst (v := (0 : Int32)) C.1.1 C.1.2.1 d_Desk_isWithin_3 (by decide) ?_
  obtain ⟨ho, h⟩ := h
  refine mc_V (As := [.int x1, .int x2, .int (0 : Int32)]) (ci := 0) C.1 hM hS bigGood (c_Desk_fewestWords h) rfl ho kw333 kw335 kw336 kw123 kw334 hd_Desk_fewestWords ⟨by decide, by decide⟩ hl.1 rfl (Nat.le_of_ble_eq_true rfl) d_Desk_isWithin_4 (mc := 0) (ms := 0) rfl rfl ⟨by decide, by decide⟩ (fun v M2 H locs hp hM hS => ?_)
  obtain ⟨v1, rfl, h⟩ := hp
  refine lv_if_ne (tgt := 14) C.1.1 C.1.2.1 d_Desk_isWithin_7 (by decide) (fun c3 => ?_) (fun c3 => ?_)
  · have h := h.2 c3
    refine lv_iconst (v := (0 : Int32)) C.1.1 C.1.2.1 d_Desk_isWithin_14 (by decide) ?_
    exact t_Desk_isWithin_b15 C h _ _ _ hM hS (lv_sub hl [] rfl)
  · have h := h.1 c3
    refine lv_iconst (v := (1 : Int32)) C.1.1 C.1.2.1 d_Desk_isWithin_10 (by decide) ?_
    refine lv_goto (tgt := 15) C.1.1 C.1.2.1 d_Desk_isWithin_11 (by decide) ?_
    exact t_Desk_isWithin_b15 C h _ _ _ hM hS (lv_sub hl [] rfl)
theorem d_Desk_both_0 : decode b_Desk_both 0 = .ok (.aload_n 0, 1) := by decide +kernel
theorem d_Desk_both_1 : decode b_Desk_both 1 = .ok (.iload_n 1, 1) := by decide +kernel
theorem d_Desk_both_2 : decode b_Desk_both 2 = .ok (.iload_n 2, 1) := by decide +kernel
theorem d_Desk_both_3 : decode b_Desk_both 3 = .ok (.iconst 1, 1) := by decide +kernel
theorem d_Desk_both_4 : decode b_Desk_both 4 = .ok (.invokevirtual 147, 3) := by decide +kernel
theorem d_Desk_both_7 : decode b_Desk_both 7 = .ok (.ireturn, 1) := by decide +kernel
abbrev rm_Desk_both : Room := { frames := 4, cells := 0, slots := 0, locals := 103 }
abbrev C_Desk_both (D : va_G) (g : Nat → ClassId) (p : Program) (s : State) (m : MethodId) (args : Array Value) (meth : Method) (c : Code) (M0 : Mem) : Prop := Cx p s m args c b_Desk_both 3 R_Desk BIG D vwCl (tysG g) (mA M0 s.heap.size) ∧ meth.sig.returnType = (some .int) ∧ meth.locks = false
abbrev B_Desk_both (l : Launch) (D : va_G) (p : Program) (e : Env) (s : State) (m : MethodId) (args : Array Value) (below : List Frame) (meth : Method) (c : Code) (M0 : Mem) (P : Int32 → Mem → Prop) (M : Mem) (pc : Nat) (lv : List (Nat × Value)) (st : List Value) : Prop := Wb p l e rm_Desk_both s m args below meth c 3 D vwCl M0 (kI fun r M' => P r M') 0 0 M pc lv st
def wp_Desk_both (g : Nat → ClassId) (M : Mem) (x0 : Nat) (x1 : Int32) (x2 : Int32) (P : Int32 → Mem → Prop) : Prop :=
  isO M 0 x0 ∧ (wp_Desk_fewestWords g M x0 x1 x2 (1 : Int32) (fun (v1 : Int32) (M2 : Mem) => P v1 M2))
set_option maxHeartbeats 4000000 in
set_option maxRecDepth 100000 in
theorem c_Desk_both {l : Launch} {D : va_G} {g : Nat → ClassId} {M : Mem} {x0 : Nat} {x1 : Int32} {x2 : Int32} {P : Int32 → Mem → Prop} (h : wp_Desk_both g M x0 x1 x2 P) : mMet l BIG D vwCl (tysG g) y_Desk_both b_Desk_both 3 (some .int) rm_Desk_both [.ref x0, .int x1, .int x2] M (kI fun r M' => P r M') := by
  refine mMet.of (own := R_Desk) rfl (by decide) rfl (fun p e s m below meth c C hr hlk hnm ls hM hS hl => ?_)
  have C : C_Desk_both D g p s m ([.ref x0, .int x1, .int x2] : List Value).toArray meth c M := ⟨C, hr, hlk⟩
  unfold wp_Desk_both at h
  have hl : lv_has ls 3 [(0, .ref x0), (1, .int x1), (2, .int x2)] := hl
  refine lv_aload_n C.1.1 C.1.2.1 d_Desk_both_0 rfl (lv_at hl 0 rfl) ?_
  refine lv_iload_n C.1.1 C.1.2.1 d_Desk_both_1 rfl (lv_at hl 1 rfl) ?_
  refine lv_iload_n C.1.1 C.1.2.1 d_Desk_both_2 rfl (lv_at hl 2 rfl) ?_
  refine lv_iconst (v := (1 : Int32)) C.1.1 C.1.2.1 d_Desk_both_3 (by decide) ?_
  obtain ⟨ho, h⟩ := h
  refine mc_V (As := [.int x1, .int x2, .int (1 : Int32)]) (ci := 0) C.1 hM hS bigGood (c_Desk_fewestWords h) rfl ho kw333 kw335 kw336 kw123 kw334 hd_Desk_fewestWords ⟨by decide, by decide⟩ hl.1 rfl (Nat.le_of_ble_eq_true rfl) d_Desk_both_4 (mc := 0) (ms := 0) rfl rfl ⟨by decide, by decide⟩ (fun v M2 H locs hp hM hS => ?_)
  obtain ⟨v1, rfl, h⟩ := hp
  exact mr_I C.1 C.2.1 C.2.2 hM hS ⟨_, rfl, h⟩ d_Desk_both_7
theorem d_Desk_only_0 : decode b_Desk_only 0 = .ok (.aload_n 0, 1) := by decide +kernel
theorem d_Desk_only_1 : decode b_Desk_only 1 = .ok (.iload_n 1, 1) := by decide +kernel
theorem d_Desk_only_2 : decode b_Desk_only 2 = .ok (.iload_n 2, 1) := by decide +kernel
theorem d_Desk_only_3 : decode b_Desk_only 3 = .ok (.iconst 0, 1) := by decide +kernel
theorem d_Desk_only_4 : decode b_Desk_only 4 = .ok (.invokevirtual 147, 3) := by decide +kernel
theorem d_Desk_only_7 : decode b_Desk_only 7 = .ok (.ireturn, 1) := by decide +kernel
abbrev rm_Desk_only : Room := { frames := 4, cells := 0, slots := 0, locals := 103 }
abbrev C_Desk_only (D : va_G) (g : Nat → ClassId) (p : Program) (s : State) (m : MethodId) (args : Array Value) (meth : Method) (c : Code) (M0 : Mem) : Prop := Cx p s m args c b_Desk_only 3 R_Desk BIG D vwCl (tysG g) (mA M0 s.heap.size) ∧ meth.sig.returnType = (some .int) ∧ meth.locks = false
abbrev B_Desk_only (l : Launch) (D : va_G) (p : Program) (e : Env) (s : State) (m : MethodId) (args : Array Value) (below : List Frame) (meth : Method) (c : Code) (M0 : Mem) (P : Int32 → Mem → Prop) (M : Mem) (pc : Nat) (lv : List (Nat × Value)) (st : List Value) : Prop := Wb p l e rm_Desk_only s m args below meth c 3 D vwCl M0 (kI fun r M' => P r M') 0 0 M pc lv st
def wp_Desk_only (g : Nat → ClassId) (M : Mem) (x0 : Nat) (x1 : Int32) (x2 : Int32) (P : Int32 → Mem → Prop) : Prop :=
  isO M 0 x0 ∧ (wp_Desk_fewestWords g M x0 x1 x2 (0 : Int32) (fun (v1 : Int32) (M2 : Mem) => P v1 M2))
set_option maxHeartbeats 4000000 in
set_option maxRecDepth 100000 in
theorem c_Desk_only {l : Launch} {D : va_G} {g : Nat → ClassId} {M : Mem} {x0 : Nat} {x1 : Int32} {x2 : Int32} {P : Int32 → Mem → Prop} (h : wp_Desk_only g M x0 x1 x2 P) : mMet l BIG D vwCl (tysG g) y_Desk_only b_Desk_only 3 (some .int) rm_Desk_only [.ref x0, .int x1, .int x2] M (kI fun r M' => P r M') := by
  refine mMet.of (own := R_Desk) rfl (by decide) rfl (fun p e s m below meth c C hr hlk hnm ls hM hS hl => ?_)
  have C : C_Desk_only D g p s m ([.ref x0, .int x1, .int x2] : List Value).toArray meth c M := ⟨C, hr, hlk⟩
  unfold wp_Desk_only at h
  have hl : lv_has ls 3 [(0, .ref x0), (1, .int x1), (2, .int x2)] := hl
  refine lv_aload_n C.1.1 C.1.2.1 d_Desk_only_0 rfl (lv_at hl 0 rfl) ?_
  refine lv_iload_n C.1.1 C.1.2.1 d_Desk_only_1 rfl (lv_at hl 1 rfl) ?_
  refine lv_iload_n C.1.1 C.1.2.1 d_Desk_only_2 rfl (lv_at hl 2 rfl) ?_
  refine lv_iconst (v := (0 : Int32)) C.1.1 C.1.2.1 d_Desk_only_3 (by decide) ?_
  obtain ⟨ho, h⟩ := h
  refine mc_V (As := [.int x1, .int x2, .int (0 : Int32)]) (ci := 0) C.1 hM hS bigGood (c_Desk_fewestWords h) rfl ho kw333 kw335 kw336 kw123 kw334 hd_Desk_fewestWords ⟨by decide, by decide⟩ hl.1 rfl (Nat.le_of_ble_eq_true rfl) d_Desk_only_4 (mc := 0) (ms := 0) rfl rfl ⟨by decide, by decide⟩ (fun v M2 H locs hp hM hS => ?_)
  obtain ⟨v1, rfl, h⟩ := hp
  exact mr_I C.1 C.2.1 C.2.2 hM hS ⟨_, rfl, h⟩ d_Desk_only_7
theorem d_Desk_isSpare_0 : decode b_Desk_isSpare 0 = .ok (.iconst 0, 1) := by decide +kernel
theorem d_Desk_isSpare_1 : decode b_Desk_isSpare 1 = .ok (.istore_n 3, 1) := by decide +kernel
theorem d_Desk_isSpare_2 : decode b_Desk_isSpare 2 = .ok (.iload_n 3, 1) := by decide +kernel
theorem d_Desk_isSpare_3 : decode b_Desk_isSpare 3 = .ok (.aload_n 0, 1) := by decide +kernel
theorem d_Desk_isSpare_4 : decode b_Desk_isSpare 4 = .ok (.getfield 21, 3) := by decide +kernel
theorem d_Desk_isSpare_7 : decode b_Desk_isSpare 7 = .ok (.arraylength, 1) := by decide +kernel
theorem d_Desk_isSpare_8 : decode b_Desk_isSpare 8 = .ok (.if_icmp .ge 52, 3) := by decide +kernel
theorem d_Desk_isSpare_11 : decode b_Desk_isSpare 11 = .ok (.iload_n 3, 1) := by decide +kernel
theorem d_Desk_isSpare_12 : decode b_Desk_isSpare 12 = .ok (.iload_n 1, 1) := by decide +kernel
theorem d_Desk_isSpare_13 : decode b_Desk_isSpare 13 = .ok (.if_icmp .eq 41, 3) := by decide +kernel
theorem d_Desk_isSpare_16 : decode b_Desk_isSpare 16 = .ok (.aload_n 0, 1) := by decide +kernel
theorem d_Desk_isSpare_17 : decode b_Desk_isSpare 17 = .ok (.getfield 21, 3) := by decide +kernel
theorem d_Desk_isSpare_20 : decode b_Desk_isSpare 20 = .ok (.iload_n 3, 1) := by decide +kernel
theorem d_Desk_isSpare_21 : decode b_Desk_isSpare 21 = .ok (.aaload, 1) := by decide +kernel
theorem d_Desk_isSpare_22 : decode b_Desk_isSpare 22 = .ok (.invokevirtual 107, 3) := by decide +kernel
theorem d_Desk_isSpare_25 : decode b_Desk_isSpare 25 = .ok (.iload_n 2, 1) := by decide +kernel
theorem d_Desk_isSpare_26 : decode b_Desk_isSpare 26 = .ok (.if_icmp .ne 28, 3) := by decide +kernel
theorem d_Desk_isSpare_29 : decode b_Desk_isSpare 29 = .ok (.aload_n 0, 1) := by decide +kernel
theorem d_Desk_isSpare_30 : decode b_Desk_isSpare 30 = .ok (.iload_n 1, 1) := by decide +kernel
theorem d_Desk_isSpare_31 : decode b_Desk_isSpare 31 = .ok (.iload_n 3, 1) := by decide +kernel
theorem d_Desk_isSpare_32 : decode b_Desk_isSpare 32 = .ok (.invokevirtual 169, 3) := by decide +kernel
theorem d_Desk_isSpare_35 : decode b_Desk_isSpare 35 = .ok (.ifCond .eq 19, 3) := by decide +kernel
theorem d_Desk_isSpare_38 : decode b_Desk_isSpare 38 = .ok (.iload_n 3, 1) := by decide +kernel
theorem d_Desk_isSpare_39 : decode b_Desk_isSpare 39 = .ok (.iload_n 1, 1) := by decide +kernel
theorem d_Desk_isSpare_40 : decode b_Desk_isSpare 40 = .ok (.if_icmp .lt 12, 3) := by decide +kernel
theorem d_Desk_isSpare_43 : decode b_Desk_isSpare 43 = .ok (.aload_n 0, 1) := by decide +kernel
theorem d_Desk_isSpare_44 : decode b_Desk_isSpare 44 = .ok (.iload_n 3, 1) := by decide +kernel
theorem d_Desk_isSpare_45 : decode b_Desk_isSpare 45 = .ok (.iload_n 1, 1) := by decide +kernel
theorem d_Desk_isSpare_46 : decode b_Desk_isSpare 46 = .ok (.invokevirtual 169, 3) := by decide +kernel
theorem d_Desk_isSpare_49 : decode b_Desk_isSpare 49 = .ok (.ifCond .ne 5, 3) := by decide +kernel
theorem d_Desk_isSpare_52 : decode b_Desk_isSpare 52 = .ok (.iconst 1, 1) := by decide +kernel
theorem d_Desk_isSpare_53 : decode b_Desk_isSpare 53 = .ok (.ireturn, 1) := by decide +kernel
theorem d_Desk_isSpare_54 : decode b_Desk_isSpare 54 = .ok (.iinc 3 1, 3) := by decide +kernel
theorem d_Desk_isSpare_57 : decode b_Desk_isSpare 57 = .ok (.goto (-55), 3) := by decide +kernel
theorem d_Desk_isSpare_60 : decode b_Desk_isSpare 60 = .ok (.iconst 0, 1) := by decide +kernel
theorem d_Desk_isSpare_61 : decode b_Desk_isSpare 61 = .ok (.ireturn, 1) := by decide +kernel
abbrev rm_Desk_isSpare : Room := { frames := 5, cells := 0, slots := 0, locals := 125 }
abbrev C_Desk_isSpare (D : va_G) (g : Nat → ClassId) (p : Program) (s : State) (m : MethodId) (args : Array Value) (meth : Method) (c : Code) (M0 : Mem) : Prop := Cx p s m args c b_Desk_isSpare 4 R_Desk BIG D vwCl (tysG g) (mA M0 s.heap.size) ∧ meth.sig.returnType = (some .boolean) ∧ meth.locks = false
abbrev B_Desk_isSpare (l : Launch) (D : va_G) (p : Program) (e : Env) (s : State) (m : MethodId) (args : Array Value) (below : List Frame) (meth : Method) (c : Code) (M0 : Mem) (P : Int32 → Mem → Prop) (M : Mem) (pc : Nat) (lv : List (Nat × Value)) (st : List Value) : Prop := Wb p l e rm_Desk_isSpare s m args below meth c 4 D vwCl M0 (kI fun r M' => P r M') 0 0 M pc lv st
def wp_Desk_isSpare_b54 (g : Nat → ClassId) (P : Int32 → Mem → Prop) (J2 : Int32 → Mem → Prop) (M : Mem) (x0 : Nat) (x1 : Int32) (x2 : Int32) (x3 : Int32) : Prop :=
  J2 (x3 + (1 : Int32)) M
set_option maxHeartbeats 4000000 in
set_option maxRecDepth 100000 in
theorem t_Desk_isSpare_b54 {l : Launch} {D : va_G} {g : Nat → ClassId} {p : Program} {e : Env} {s : State} {m : MethodId} {args : Array Value} {below : List Frame} {meth : Method} {c : Code} {M0 : Mem} {P : Int32 → Mem → Prop} {J2 : Int32 → Mem → Prop} {M : Mem} {x0 : Nat} {x1 : Int32} {x2 : Int32} {x3 : Int32} (C : C_Desk_isSpare D g p s m args meth c M0) (h : wp_Desk_isSpare_b54 g P J2 M x0 x1 x2 x3 ) (kJ2 : ∀ (x3 : Int32) (M : Mem), J2 x3 M → B_Desk_isSpare l D p e s m args below meth c M0 P M 2 [(0, .ref x0), (1, .int x1), (2, .int x2), (3, .int x3)] []) : B_Desk_isSpare l D p e s m args below meth c M0 P M 54 [(0, .ref x0), (1, .int x1), (2, .int x2), (3, .int x3)] [] := by
  intro ls H locs hM hS hl
  unfold wp_Desk_isSpare_b54 at h
  refine lv_iinc (v := x3 + (1 : Int32)) (lv' := [(3, .int (x3 + (1 : Int32))), (0, .ref x0), (1, .int x1), (2, .int x2)]) C.1.1 C.1.2.1 d_Desk_isSpare_54 hl (k := 3) rfl rfl (by decide) rfl (fun ls hl => ?_)
  refine lv_goto (tgt := 2) C.1.1 C.1.2.1 d_Desk_isSpare_57 (by decide) ?_
  exact kJ2 (x3 + (1 : Int32)) M h _ _ _ hM hS (lv_sub hl [1, 2, 3, 0] rfl)
def wp_Desk_isSpare_b52 (g : Nat → ClassId) (P : Int32 → Mem → Prop) (M : Mem) : Prop :=
  isB (1 : Int32) ∧ P (1 : Int32) M
set_option maxHeartbeats 4000000 in
set_option maxRecDepth 100000 in
theorem t_Desk_isSpare_b52 {l : Launch} {D : va_G} {g : Nat → ClassId} {p : Program} {e : Env} {s : State} {m : MethodId} {args : Array Value} {below : List Frame} {meth : Method} {c : Code} {M0 : Mem} {P : Int32 → Mem → Prop} {M : Mem} (C : C_Desk_isSpare D g p s m args meth c M0) (h : wp_Desk_isSpare_b52 g P M ) : B_Desk_isSpare l D p e s m args below meth c M0 P M 52 [] [] := by
  intro ls H locs hM hS hl
  unfold wp_Desk_isSpare_b52 at h
  refine lv_iconst (v := (1 : Int32)) C.1.1 C.1.2.1 d_Desk_isSpare_52 (by decide) ?_
  exact mr_Z C.1 C.2.1 C.2.2 h.1 hM hS ⟨_, rfl, h.2⟩ d_Desk_isSpare_53
def wp_Desk_isSpare_b2 (g : Nat → ClassId) (P : Int32 → Mem → Prop) (M : Mem) (x0 : Nat) (x1 : Int32) (x2 : Int32) (x3 : Int32) : Prop :=
  ∃ (I : Int32 → Mem → Prop) (μ : Int32 → Mem → Nat), I x3 M ∧ ∀ (x3 : Int32) (M : Mem), I x3 M →
  ∃ v1 : Nat, gR M 0 x0 2 = some v1 ∧ (∃ n2 : Nat, aN M (g 3) v1 = some n2 ∧ (((nI n2) ≤ x3 → (isB (0 : Int32) ∧ P (0 : Int32) M)) ∧ (¬ (nI n2) ≤ x3 → ((x3 = x1 → (wp_Desk_isSpare_b54 g P (fun y3 N => I y3 N ∧ μ y3 N < μ x3 M) M x0 x1 x2 x3)) ∧ (¬ x3 = x1 → (∃ v5 : Nat, gR M 0 x0 2 = some v5 ∧ (∃ v6 : Nat, aQ M (g 3) v5 x3 = some (some v6) ∧ (isO M 2 v6 ∧ (wp_Bnd_queue g M v6 (fun v7 : Int32 => (v7 = x2 → (isO M 0 x0 ∧ (wp_Desk_isWithin g M x0 x1 x3 (fun (v10 : Int32) (M11 : Mem) => (v10 = 0 → (wp_Desk_isSpare_b54 g P (fun y3 N => I y3 N ∧ μ y3 N < μ x3 M) M11 x0 x1 x2 x3)) ∧ (¬ v10 = 0 → ((x3 < x1 → (wp_Desk_isSpare_b52 g P M11)) ∧ (¬ x3 < x1 → (isO M11 0 x0 ∧ (wp_Desk_isWithin g M11 x0 x3 x1 (fun (v14 : Int32) (M15 : Mem) => (v14 = 0 → (wp_Desk_isSpare_b52 g P M15)) ∧ (¬ v14 = 0 → (wp_Desk_isSpare_b54 g P (fun y3 N => I y3 N ∧ μ y3 N < μ x3 M) M15 x0 x1 x2 x3)))))))))))) ∧ (¬ v7 = x2 → (wp_Desk_isSpare_b54 g P (fun y3 N => I y3 N ∧ μ y3 N < μ x3 M) M x0 x1 x2 x3))))))))))))
set_option maxHeartbeats 4000000 in
set_option maxRecDepth 100000 in
theorem t_Desk_isSpare_b2 {l : Launch} {D : va_G} {g : Nat → ClassId} {p : Program} {e : Env} {s : State} {m : MethodId} {args : Array Value} {below : List Frame} {meth : Method} {c : Code} {M0 : Mem} {P : Int32 → Mem → Prop} {M : Mem} {x0 : Nat} {x1 : Int32} {x2 : Int32} {x3 : Int32} (C : C_Desk_isSpare D g p s m args meth c M0) (h : wp_Desk_isSpare_b2 g P M x0 x1 x2 x3 ) : B_Desk_isSpare l D p e s m args below meth c M0 P M 2 [(0, .ref x0), (1, .int x1), (2, .int x2), (3, .int x3)] [] := by
  unfold wp_Desk_isSpare_b2 at h
  obtain ⟨I, μ, hI, hb⟩ := h
  have key : ∀ (n : Nat) (x3 : Int32) (M : Mem), I x3 M → μ x3 M < n → B_Desk_isSpare l D p e s m args below meth c M0 P M 2 [(0, .ref x0), (1, .int x1), (2, .int x2), (3, .int x3)] [] := by
    intro n
    induction n with
    | zero => intro x3 M _ hn; exact absurd hn (Nat.not_lt_zero _)
    | succ n ih =>
      intro x3 M hI hn ls H locs hM hS hl
      have h := hb x3 M hI
      refine lv_iload_n C.1.1 C.1.2.1 d_Desk_isSpare_2 rfl (lv_at hl 3 rfl) ?_
      refine lv_aload_n C.1.1 C.1.2.1 d_Desk_isSpare_3 rfl (lv_at hl 0 rfl) ?_
      obtain ⟨v1, ev1, h⟩ := h
      refine mg_R C.1 hM ok_Desk (by decide) kw133 ev1 d_Desk_isSpare_4 ?_
      obtain ⟨n2, en2, h⟩ := h
      refine ma_N C.1 hM 3 rfl en2 d_Desk_isSpare_7 ?_
      refine lv_icmp_ge (tgt := 60) C.1.1 C.1.2.1 d_Desk_isSpare_8 (by decide) (fun c3 => ?_) (fun c3 => ?_)
      · have h := h.1 c3
        refine lv_iconst (v := (0 : Int32)) C.1.1 C.1.2.1 d_Desk_isSpare_60 (by decide) ?_
        exact mr_Z C.1 C.2.1 C.2.2 h.1 hM hS ⟨_, rfl, h.2⟩ d_Desk_isSpare_61
      · have h := h.2 c3
        refine lv_iload_n C.1.1 C.1.2.1 d_Desk_isSpare_11 rfl (lv_at hl 3 rfl) ?_
        refine lv_iload_n C.1.1 C.1.2.1 d_Desk_isSpare_12 rfl (lv_at hl 1 rfl) ?_
        refine lv_icmp_eq (tgt := 54) C.1.1 C.1.2.1 d_Desk_isSpare_13 (by decide) (fun c4 => ?_) (fun c4 => ?_)
        · have h := h.1 c4
          exact t_Desk_isSpare_b54 C h (fun y3 N hJ => ih y3 N hJ.1 (Nat.lt_of_lt_of_le hJ.2 (Nat.le_of_lt_succ hn))) _ _ _ hM hS (lv_sub hl [0, 1, 2, 3] rfl)
        · have h := h.2 c4
          refine lv_aload_n C.1.1 C.1.2.1 d_Desk_isSpare_16 rfl (lv_at hl 0 rfl) ?_
          obtain ⟨v5, ev5, h⟩ := h
          refine mg_R C.1 hM ok_Desk (by decide) kw133 ev5 d_Desk_isSpare_17 ?_
          refine lv_iload_n C.1.1 C.1.2.1 d_Desk_isSpare_20 rfl (lv_at hl 3 rfl) ?_
          obtain ⟨v6, ev6, h⟩ := h
          refine ma_R C.1 hM 3 rfl ev6 d_Desk_isSpare_21 ?_
          obtain ⟨ho, h⟩ := h
          refine mc_V (As := []) (ci := 2) C.1 hM hS bigGood (c_Bnd_queue h) rfl ho kw300 kw302 kw303 kw136 kw301 hd_Bnd_queue ⟨by decide, by decide⟩ hl.1 rfl (Nat.le_of_ble_eq_true rfl) d_Desk_isSpare_22 (mc := 0) (ms := 0) rfl rfl ⟨by decide, by decide⟩ (fun v M' H locs hp hM hS => ?_)
          obtain ⟨v7, rfl, rfl, h⟩ := hp
          refine lv_iload_n C.1.1 C.1.2.1 d_Desk_isSpare_25 rfl (lv_at hl 2 rfl) ?_
          refine lv_icmp_ne (tgt := 54) C.1.1 C.1.2.1 d_Desk_isSpare_26 (by decide) (fun c9 => ?_) (fun c9 => ?_)
          · have h := h.2 c9
            exact t_Desk_isSpare_b54 C h (fun y3 N hJ => ih y3 N hJ.1 (Nat.lt_of_lt_of_le hJ.2 (Nat.le_of_lt_succ hn))) _ _ _ hM hS (lv_sub hl [0, 1, 2, 3] rfl)
          · have h := h.1 c9
            refine lv_aload_n C.1.1 C.1.2.1 d_Desk_isSpare_29 rfl (lv_at hl 0 rfl) ?_
            refine lv_iload_n C.1.1 C.1.2.1 d_Desk_isSpare_30 rfl (lv_at hl 1 rfl) ?_
            refine lv_iload_n C.1.1 C.1.2.1 d_Desk_isSpare_31 rfl (lv_at hl 3 rfl) ?_
            obtain ⟨ho, h⟩ := h
            refine mc_V (As := [.int x1, .int x3]) (ci := 0) C.1 hM hS bigGood (c_Desk_isWithin h) rfl ho kw380 kw382 kw383 kw123 kw381 hd_Desk_isWithin ⟨by decide, by decide⟩ hl.1 rfl (Nat.le_of_ble_eq_true rfl) d_Desk_isSpare_32 (mc := 0) (ms := 0) rfl rfl ⟨by decide, by decide⟩ (fun v M11 H locs hp hM hS => ?_)
            obtain ⟨v10, rfl, h⟩ := hp
            refine lv_if_eq (tgt := 54) C.1.1 C.1.2.1 d_Desk_isSpare_35 (by decide) (fun c12 => ?_) (fun c12 => ?_)
            · have h := h.1 c12
              exact t_Desk_isSpare_b54 C h (fun y3 N hJ => ih y3 N hJ.1 (Nat.lt_of_lt_of_le hJ.2 (Nat.le_of_lt_succ hn))) _ _ _ hM hS (lv_sub hl [0, 1, 2, 3] rfl)
            · have h := h.2 c12
              refine lv_iload_n C.1.1 C.1.2.1 d_Desk_isSpare_38 rfl (lv_at hl 3 rfl) ?_
              refine lv_iload_n C.1.1 C.1.2.1 d_Desk_isSpare_39 rfl (lv_at hl 1 rfl) ?_
              refine lv_icmp_lt (tgt := 52) C.1.1 C.1.2.1 d_Desk_isSpare_40 (by decide) (fun c13 => ?_) (fun c13 => ?_)
              · have h := h.1 c13
                exact t_Desk_isSpare_b52 C h _ _ _ hM hS (lv_sub hl [] rfl)
              · have h := h.2 c13
                refine lv_aload_n C.1.1 C.1.2.1 d_Desk_isSpare_43 rfl (lv_at hl 0 rfl) ?_
                refine lv_iload_n C.1.1 C.1.2.1 d_Desk_isSpare_44 rfl (lv_at hl 3 rfl) ?_
                refine lv_iload_n C.1.1 C.1.2.1 d_Desk_isSpare_45 rfl (lv_at hl 1 rfl) ?_
                obtain ⟨ho, h⟩ := h
                refine mc_V (As := [.int x3, .int x1]) (ci := 0) C.1 hM hS bigGood (c_Desk_isWithin h) rfl ho kw380 kw382 kw383 kw123 kw381 hd_Desk_isWithin ⟨by decide, by decide⟩ hl.1 rfl (Nat.le_of_ble_eq_true rfl) d_Desk_isSpare_46 (mc := 0) (ms := 0) rfl rfl ⟨by decide, by decide⟩ (fun v M15 H locs hp hM hS => ?_)
                obtain ⟨v14, rfl, h⟩ := hp
                refine lv_if_ne (tgt := 54) C.1.1 C.1.2.1 d_Desk_isSpare_49 (by decide) (fun c16 => ?_) (fun c16 => ?_)
                · have h := h.2 c16
                  exact t_Desk_isSpare_b54 C h (fun y3 N hJ => ih y3 N hJ.1 (Nat.lt_of_lt_of_le hJ.2 (Nat.le_of_lt_succ hn))) _ _ _ hM hS (lv_sub hl [0, 1, 2, 3] rfl)
                · have h := h.1 c16
                  exact t_Desk_isSpare_b52 C h _ _ _ hM hS (lv_sub hl [] rfl)
  exact key _ x3 M hI (Nat.lt_succ_self _)
def wp_Desk_isSpare (g : Nat → ClassId) (M : Mem) (x0 : Nat) (x1 : Int32) (x2 : Int32) (P : Int32 → Mem → Prop) : Prop :=
  wp_Desk_isSpare_b2 g P M x0 x1 x2 (0 : Int32)
set_option maxHeartbeats 4000000 in
set_option maxRecDepth 100000 in
theorem c_Desk_isSpare {l : Launch} {D : va_G} {g : Nat → ClassId} {M : Mem} {x0 : Nat} {x1 : Int32} {x2 : Int32} {P : Int32 → Mem → Prop} (h : wp_Desk_isSpare g M x0 x1 x2 P) : mMet l BIG D vwCl (tysG g) y_Desk_isSpare b_Desk_isSpare 4 (some .boolean) rm_Desk_isSpare [.ref x0, .int x1, .int x2] M (kI fun r M' => P r M') := by
  refine mMet.of (own := R_Desk) rfl (by decide) rfl (fun p e s m below meth c C hr hlk hnm ls hM hS hl => ?_)
  have C : C_Desk_isSpare D g p s m ([.ref x0, .int x1, .int x2] : List Value).toArray meth c M := ⟨C, hr, hlk⟩
  unfold wp_Desk_isSpare at h
  have hl : lv_has ls 4 [(0, .ref x0), (1, .int x1), (2, .int x2)] := hl
  refine lv_iconst (v := (0 : Int32)) C.1.1 C.1.2.1 d_Desk_isSpare_0 (by decide) ?_
  refine lv_istore_n (lv' := [(3, .int (0 : Int32)), (0, .ref x0), (1, .int x1), (2, .int x2)]) C.1.1 C.1.2.1 d_Desk_isSpare_1 rfl hl (by decide) rfl (fun ls hl => ?_)
  exact t_Desk_isSpare_b2 C h _ _ _ hM hS (lv_sub hl [1, 2, 3, 0] rfl)
theorem d_Desk_spare_0 : decode b_Desk_spare 0 = .ok (.iload_n 1, 1) := by decide +kernel
theorem d_Desk_spare_1 : decode b_Desk_spare 1 = .ok (.invokestatic 60, 3) := by decide +kernel
theorem d_Desk_spare_4 : decode b_Desk_spare 4 = .ok (.ifCond .ne 5, 3) := by decide +kernel
theorem d_Desk_spare_7 : decode b_Desk_spare 7 = .ok (.iconst 0, 1) := by decide +kernel
theorem d_Desk_spare_8 : decode b_Desk_spare 8 = .ok (.ireturn, 1) := by decide +kernel
theorem d_Desk_spare_9 : decode b_Desk_spare 9 = .ok (.iconst 0, 1) := by decide +kernel
theorem d_Desk_spare_10 : decode b_Desk_spare 10 = .ok (.istore_n 2, 1) := by decide +kernel
theorem d_Desk_spare_11 : decode b_Desk_spare 11 = .ok (.iconst 0, 1) := by decide +kernel
theorem d_Desk_spare_12 : decode b_Desk_spare 12 = .ok (.istore_n 3, 1) := by decide +kernel
theorem d_Desk_spare_13 : decode b_Desk_spare 13 = .ok (.iload_n 3, 1) := by decide +kernel
theorem d_Desk_spare_14 : decode b_Desk_spare 14 = .ok (.aload_n 0, 1) := by decide +kernel
theorem d_Desk_spare_15 : decode b_Desk_spare 15 = .ok (.getfield 21, 3) := by decide +kernel
theorem d_Desk_spare_18 : decode b_Desk_spare 18 = .ok (.arraylength, 1) := by decide +kernel
theorem d_Desk_spare_19 : decode b_Desk_spare 19 = .ok (.if_icmp .ge 37, 3) := by decide +kernel
theorem d_Desk_spare_22 : decode b_Desk_spare 22 = .ok (.aload_n 0, 1) := by decide +kernel
theorem d_Desk_spare_23 : decode b_Desk_spare 23 = .ok (.getfield 21, 3) := by decide +kernel
theorem d_Desk_spare_26 : decode b_Desk_spare 26 = .ok (.iload_n 3, 1) := by decide +kernel
theorem d_Desk_spare_27 : decode b_Desk_spare 27 = .ok (.aaload, 1) := by decide +kernel
theorem d_Desk_spare_28 : decode b_Desk_spare 28 = .ok (.invokevirtual 107, 3) := by decide +kernel
theorem d_Desk_spare_31 : decode b_Desk_spare 31 = .ok (.iload_n 1, 1) := by decide +kernel
theorem d_Desk_spare_32 : decode b_Desk_spare 32 = .ok (.if_icmp .ne 18, 3) := by decide +kernel
theorem d_Desk_spare_35 : decode b_Desk_spare 35 = .ok (.aload_n 0, 1) := by decide +kernel
theorem d_Desk_spare_36 : decode b_Desk_spare 36 = .ok (.iload_n 3, 1) := by decide +kernel
theorem d_Desk_spare_37 : decode b_Desk_spare 37 = .ok (.iload_n 1, 1) := by decide +kernel
theorem d_Desk_spare_38 : decode b_Desk_spare 38 = .ok (.invokevirtual 151, 3) := by decide +kernel
theorem d_Desk_spare_41 : decode b_Desk_spare 41 = .ok (.ifCond .eq 9, 3) := by decide +kernel
theorem d_Desk_spare_44 : decode b_Desk_spare 44 = .ok (.iload_n 2, 1) := by decide +kernel
theorem d_Desk_spare_45 : decode b_Desk_spare 45 = .ok (.iconst 1, 1) := by decide +kernel
theorem d_Desk_spare_46 : decode b_Desk_spare 46 = .ok (.iload_n 3, 1) := by decide +kernel
theorem d_Desk_spare_47 : decode b_Desk_spare 47 = .ok (.ishl, 1) := by decide +kernel
theorem d_Desk_spare_48 : decode b_Desk_spare 48 = .ok (.ior, 1) := by decide +kernel
theorem d_Desk_spare_49 : decode b_Desk_spare 49 = .ok (.istore_n 2, 1) := by decide +kernel
theorem d_Desk_spare_50 : decode b_Desk_spare 50 = .ok (.iinc 3 1, 3) := by decide +kernel
theorem d_Desk_spare_53 : decode b_Desk_spare 53 = .ok (.goto (-40), 3) := by decide +kernel
theorem d_Desk_spare_56 : decode b_Desk_spare 56 = .ok (.iload_n 2, 1) := by decide +kernel
theorem d_Desk_spare_57 : decode b_Desk_spare 57 = .ok (.ireturn, 1) := by decide +kernel
abbrev rm_Desk_spare : Room := { frames := 6, cells := 0, slots := 0, locals := 148 }
abbrev C_Desk_spare (D : va_G) (g : Nat → ClassId) (p : Program) (s : State) (m : MethodId) (args : Array Value) (meth : Method) (c : Code) (M0 : Mem) : Prop := Cx p s m args c b_Desk_spare 4 R_Desk BIG D vwCl (tysG g) (mA M0 s.heap.size) ∧ meth.sig.returnType = (some .int) ∧ meth.locks = false
abbrev B_Desk_spare (l : Launch) (D : va_G) (p : Program) (e : Env) (s : State) (m : MethodId) (args : Array Value) (below : List Frame) (meth : Method) (c : Code) (M0 : Mem) (P : Int32 → Mem → Prop) (M : Mem) (pc : Nat) (lv : List (Nat × Value)) (st : List Value) : Prop := Wb p l e rm_Desk_spare s m args below meth c 4 D vwCl M0 (kI fun r M' => P r M') 0 0 M pc lv st
def wp_Desk_spare_b50 (g : Nat → ClassId) (P : Int32 → Mem → Prop) (J13 : Int32 → Int32 → Mem → Prop) (M : Mem) (x0 : Nat) (x1 : Int32) (x2 : Int32) (x3 : Int32) : Prop :=
  J13 x2 (x3 + (1 : Int32)) M
set_option maxHeartbeats 4000000 in
set_option maxRecDepth 100000 in
theorem t_Desk_spare_b50 {l : Launch} {D : va_G} {g : Nat → ClassId} {p : Program} {e : Env} {s : State} {m : MethodId} {args : Array Value} {below : List Frame} {meth : Method} {c : Code} {M0 : Mem} {P : Int32 → Mem → Prop} {J13 : Int32 → Int32 → Mem → Prop} {M : Mem} {x0 : Nat} {x1 : Int32} {x2 : Int32} {x3 : Int32} (C : C_Desk_spare D g p s m args meth c M0) (h : wp_Desk_spare_b50 g P J13 M x0 x1 x2 x3 ) (kJ13 : ∀ (x2 : Int32) (x3 : Int32) (M : Mem), J13 x2 x3 M → B_Desk_spare l D p e s m args below meth c M0 P M 13 [(0, .ref x0), (1, .int x1), (2, .int x2), (3, .int x3)] []) : B_Desk_spare l D p e s m args below meth c M0 P M 50 [(0, .ref x0), (1, .int x1), (2, .int x2), (3, .int x3)] [] := by
  intro ls H locs hM hS hl
  unfold wp_Desk_spare_b50 at h
  refine lv_iinc (v := x3 + (1 : Int32)) (lv' := [(3, .int (x3 + (1 : Int32))), (0, .ref x0), (1, .int x1), (2, .int x2)]) C.1.1 C.1.2.1 d_Desk_spare_50 hl (k := 3) rfl rfl (by decide) rfl (fun ls hl => ?_)
  refine lv_goto (tgt := 13) C.1.1 C.1.2.1 d_Desk_spare_53 (by decide) ?_
  exact kJ13 x2 (x3 + (1 : Int32)) M h _ _ _ hM hS (lv_sub hl [1, 2, 3, 0] rfl)
def wp_Desk_spare_b13 (g : Nat → ClassId) (P : Int32 → Mem → Prop) (M : Mem) (x0 : Nat) (x1 : Int32) (x2 : Int32) (x3 : Int32) : Prop :=
  ∃ (I : Int32 → Int32 → Mem → Prop) (μ : Int32 → Int32 → Mem → Nat), I x2 x3 M ∧ ∀ (x2 : Int32) (x3 : Int32) (M : Mem), I x2 x3 M →
  ∃ v1 : Nat, gR M 0 x0 2 = some v1 ∧ (∃ n2 : Nat, aN M (g 3) v1 = some n2 ∧ (((nI n2) ≤ x3 → (P x2 M)) ∧ (¬ (nI n2) ≤ x3 → (∃ v4 : Nat, gR M 0 x0 2 = some v4 ∧ (∃ v5 : Nat, aQ M (g 3) v4 x3 = some (some v5) ∧ (isO M 2 v5 ∧ (wp_Bnd_queue g M v5 (fun v6 : Int32 => (v6 = x1 → (isO M 0 x0 ∧ (wp_Desk_isSpare g M x0 x3 x1 (fun (v9 : Int32) (M10 : Mem) => (v9 = 0 → (wp_Desk_spare_b50 g P (fun y2 y3 N => I y2 y3 N ∧ μ y2 y3 N < μ x2 x3 M) M10 x0 x1 x2 x3)) ∧ (¬ v9 = 0 → (wp_Desk_spare_b50 g P (fun y2 y3 N => I y2 y3 N ∧ μ y2 y3 N < μ x2 x3 M) M10 x0 x1 (x2 ||| ((1 : Int32) <<< (x3 &&& 31))) x3)))))) ∧ (¬ v6 = x1 → (wp_Desk_spare_b50 g P (fun y2 y3 N => I y2 y3 N ∧ μ y2 y3 N < μ x2 x3 M) M x0 x1 x2 x3))))))))))
set_option maxHeartbeats 4000000 in
set_option maxRecDepth 100000 in
theorem t_Desk_spare_b13 {l : Launch} {D : va_G} {g : Nat → ClassId} {p : Program} {e : Env} {s : State} {m : MethodId} {args : Array Value} {below : List Frame} {meth : Method} {c : Code} {M0 : Mem} {P : Int32 → Mem → Prop} {M : Mem} {x0 : Nat} {x1 : Int32} {x2 : Int32} {x3 : Int32} (C : C_Desk_spare D g p s m args meth c M0) (h : wp_Desk_spare_b13 g P M x0 x1 x2 x3 ) : B_Desk_spare l D p e s m args below meth c M0 P M 13 [(0, .ref x0), (1, .int x1), (2, .int x2), (3, .int x3)] [] := by
  unfold wp_Desk_spare_b13 at h
  obtain ⟨I, μ, hI, hb⟩ := h
  have key : ∀ (n : Nat) (x2 : Int32) (x3 : Int32) (M : Mem), I x2 x3 M → μ x2 x3 M < n → B_Desk_spare l D p e s m args below meth c M0 P M 13 [(0, .ref x0), (1, .int x1), (2, .int x2), (3, .int x3)] [] := by
    intro n
    induction n with
    | zero => intro x2 x3 M _ hn; exact absurd hn (Nat.not_lt_zero _)
    | succ n ih =>
      intro x2 x3 M hI hn ls H locs hM hS hl
      have h := hb x2 x3 M hI
      refine lv_iload_n C.1.1 C.1.2.1 d_Desk_spare_13 rfl (lv_at hl 3 rfl) ?_
      refine lv_aload_n C.1.1 C.1.2.1 d_Desk_spare_14 rfl (lv_at hl 0 rfl) ?_
      obtain ⟨v1, ev1, h⟩ := h
      refine mg_R C.1 hM ok_Desk (by decide) kw133 ev1 d_Desk_spare_15 ?_
      obtain ⟨n2, en2, h⟩ := h
      refine ma_N C.1 hM 3 rfl en2 d_Desk_spare_18 ?_
      refine lv_icmp_ge (tgt := 56) C.1.1 C.1.2.1 d_Desk_spare_19 (by decide) (fun c3 => ?_) (fun c3 => ?_)
      · have h := h.1 c3
        refine lv_iload_n C.1.1 C.1.2.1 d_Desk_spare_56 rfl (lv_at hl 2 rfl) ?_
        exact mr_I C.1 C.2.1 C.2.2 hM hS ⟨_, rfl, h⟩ d_Desk_spare_57
      · have h := h.2 c3
        refine lv_aload_n C.1.1 C.1.2.1 d_Desk_spare_22 rfl (lv_at hl 0 rfl) ?_
        obtain ⟨v4, ev4, h⟩ := h
        refine mg_R C.1 hM ok_Desk (by decide) kw133 ev4 d_Desk_spare_23 ?_
        refine lv_iload_n C.1.1 C.1.2.1 d_Desk_spare_26 rfl (lv_at hl 3 rfl) ?_
        obtain ⟨v5, ev5, h⟩ := h
        refine ma_R C.1 hM 3 rfl ev5 d_Desk_spare_27 ?_
        obtain ⟨ho, h⟩ := h
        refine mc_V (As := []) (ci := 2) C.1 hM hS bigGood (c_Bnd_queue h) rfl ho kw300 kw302 kw303 kw136 kw301 hd_Bnd_queue ⟨by decide, by decide⟩ hl.1 rfl (Nat.le_of_ble_eq_true rfl) d_Desk_spare_28 (mc := 0) (ms := 0) rfl rfl ⟨by decide, by decide⟩ (fun v M' H locs hp hM hS => ?_)
        obtain ⟨v6, rfl, rfl, h⟩ := hp
        refine lv_iload_n C.1.1 C.1.2.1 d_Desk_spare_31 rfl (lv_at hl 1 rfl) ?_
        refine lv_icmp_ne (tgt := 50) C.1.1 C.1.2.1 d_Desk_spare_32 (by decide) (fun c8 => ?_) (fun c8 => ?_)
        · have h := h.2 c8
          exact t_Desk_spare_b50 C h (fun y2 y3 N hJ => ih y2 y3 N hJ.1 (Nat.lt_of_lt_of_le hJ.2 (Nat.le_of_lt_succ hn))) _ _ _ hM hS (lv_sub hl [0, 1, 2, 3] rfl)
        · have h := h.1 c8
          refine lv_aload_n C.1.1 C.1.2.1 d_Desk_spare_35 rfl (lv_at hl 0 rfl) ?_
          refine lv_iload_n C.1.1 C.1.2.1 d_Desk_spare_36 rfl (lv_at hl 3 rfl) ?_
          refine lv_iload_n C.1.1 C.1.2.1 d_Desk_spare_37 rfl (lv_at hl 1 rfl) ?_
          obtain ⟨ho, h⟩ := h
          refine mc_V (As := [.int x3, .int x1]) (ci := 0) C.1 hM hS bigGood (c_Desk_isSpare h) rfl ho kw402 kw404 kw405 kw123 kw403 hd_Desk_isSpare ⟨by decide, by decide⟩ hl.1 rfl (Nat.le_of_ble_eq_true rfl) d_Desk_spare_38 (mc := 0) (ms := 0) rfl rfl ⟨by decide, by decide⟩ (fun v M10 H locs hp hM hS => ?_)
          obtain ⟨v9, rfl, h⟩ := hp
          refine lv_if_eq (tgt := 50) C.1.1 C.1.2.1 d_Desk_spare_41 (by decide) (fun c11 => ?_) (fun c11 => ?_)
          · have h := h.1 c11
            exact t_Desk_spare_b50 C h (fun y2 y3 N hJ => ih y2 y3 N hJ.1 (Nat.lt_of_lt_of_le hJ.2 (Nat.le_of_lt_succ hn))) _ _ _ hM hS (lv_sub hl [0, 1, 2, 3] rfl)
          · have h := h.2 c11
            refine lv_iload_n C.1.1 C.1.2.1 d_Desk_spare_44 rfl (lv_at hl 2 rfl) ?_
            refine lv_iconst (v := (1 : Int32)) C.1.1 C.1.2.1 d_Desk_spare_45 (by decide) ?_
            refine lv_iload_n C.1.1 C.1.2.1 d_Desk_spare_46 rfl (lv_at hl 3 rfl) ?_
            refine lv_ishl C.1.1 C.1.2.1 d_Desk_spare_47 ?_
            refine lv_ior C.1.1 C.1.2.1 d_Desk_spare_48 ?_
            refine lv_istore_n (lv' := [(2, .int (x2 ||| ((1 : Int32) <<< (x3 &&& 31)))), (0, .ref x0), (1, .int x1), (3, .int x3)]) C.1.1 C.1.2.1 d_Desk_spare_49 rfl hl (by decide) rfl (fun ls hl => ?_)
            exact t_Desk_spare_b50 C h (fun y2 y3 N hJ => ih y2 y3 N hJ.1 (Nat.lt_of_lt_of_le hJ.2 (Nat.le_of_lt_succ hn))) _ _ _ hM hS (lv_sub hl [1, 2, 0, 3] rfl)
  exact key _ x2 x3 M hI (Nat.lt_succ_self _)
def wp_Desk_spare (g : Nat → ClassId) (M : Mem) (x0 : Nat) (x1 : Int32) (P : Int32 → Mem → Prop) : Prop :=
  wp_Desk_isQueue g M x1 (fun v1 : Int32 => (v1 = 0 → (P (0 : Int32) M)) ∧ (¬ v1 = 0 → (wp_Desk_spare_b13 g P M x0 x1 (0 : Int32) (0 : Int32))))
set_option maxHeartbeats 4000000 in
set_option maxRecDepth 100000 in
theorem c_Desk_spare {l : Launch} {D : va_G} {g : Nat → ClassId} {M : Mem} {x0 : Nat} {x1 : Int32} {P : Int32 → Mem → Prop} (h : wp_Desk_spare g M x0 x1 P) : mMet l BIG D vwCl (tysG g) y_Desk_spare b_Desk_spare 4 (some .int) rm_Desk_spare [.ref x0, .int x1] M (kI fun r M' => P r M') := by
  refine mMet.of (own := R_Desk) rfl (by decide) rfl (fun p e s m below meth c C hr hlk hnm ls hM hS hl => ?_)
  have C : C_Desk_spare D g p s m ([.ref x0, .int x1] : List Value).toArray meth c M := ⟨C, hr, hlk⟩
  unfold wp_Desk_spare at h
  have hl : lv_has ls 4 [(0, .ref x0), (1, .int x1)] := hl
  refine lv_iload_n C.1.1 C.1.2.1 d_Desk_spare_0 rfl (lv_at hl 1 rfl) ?_
  refine mc_S (As := [.int x1]) C.1 hM hS bigGood (c_Desk_isQueue h) kw352 kw354 kw123 kw353 hd_Desk_isQueue ⟨by decide, by decide⟩ hl.1 rfl (Nat.le_of_ble_eq_true rfl) d_Desk_spare_1 (mc := 0) (ms := 0) rfl rfl ⟨by decide, by decide⟩ (fun v M' H locs hp hM hS => ?_)
  obtain ⟨v1, rfl, rfl, h⟩ := hp
  refine lv_if_ne (tgt := 9) C.1.1 C.1.2.1 d_Desk_spare_4 (by decide) (fun c3 => ?_) (fun c3 => ?_)
  · have h := h.2 c3
    refine lv_iconst (v := (0 : Int32)) C.1.1 C.1.2.1 d_Desk_spare_9 (by decide) ?_
    refine lv_istore_n (lv' := [(2, .int (0 : Int32)), (0, .ref x0), (1, .int x1)]) C.1.1 C.1.2.1 d_Desk_spare_10 rfl hl (by decide) rfl (fun ls hl => ?_)
    refine lv_iconst (v := (0 : Int32)) C.1.1 C.1.2.1 d_Desk_spare_11 (by decide) ?_
    refine lv_istore_n (lv' := [(3, .int (0 : Int32)), (2, .int (0 : Int32)), (0, .ref x0), (1, .int x1)]) C.1.1 C.1.2.1 d_Desk_spare_12 rfl hl (by decide) rfl (fun ls hl => ?_)
    exact t_Desk_spare_b13 C h _ _ _ hM hS (lv_sub hl [2, 3, 1, 0] rfl)
  · have h := h.1 c3
    refine lv_iconst (v := (0 : Int32)) C.1.1 C.1.2.1 d_Desk_spare_7 (by decide) ?_
    exact mr_I C.1 C.2.1 C.2.2 hM hS ⟨_, rfl, h⟩ d_Desk_spare_8
