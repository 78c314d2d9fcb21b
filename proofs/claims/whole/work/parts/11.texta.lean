theorem d_Text_init_0 : decode b_Text_init 0 = .ok (.aload_n 0, 1) := by decide +kernel
theorem d_Text_init_1 : decode b_Text_init 1 = .ok (.invokespecial 3, 3) := by decide +kernel
theorem d_Text_init_4 : decode b_Text_init 4 = .ok (.aload_n 0, 1) := by decide +kernel
theorem d_Text_init_5 : decode b_Text_init 5 = .ok (.bipush 60, 2) := by decide +kernel
theorem d_Text_init_7 : decode b_Text_init 7 = .ok (.newarray .byte, 2) := by decide +kernel
theorem d_Text_init_9 : decode b_Text_init 9 = .ok (.putfield 9, 3) := by decide +kernel
theorem d_Text_init_12 : decode b_Text_init 12 = .ok (.aload_n 0, 1) := by decide +kernel
theorem d_Text_init_13 : decode b_Text_init 13 = .ok (.bipush 6, 2) := by decide +kernel
theorem d_Text_init_15 : decode b_Text_init 15 = .ok (.newarray .long, 2) := by decide +kernel
theorem d_Text_init_17 : decode b_Text_init 17 = .ok (.putfield 15, 3) := by decide +kernel
theorem d_Text_init_20 : decode b_Text_init 20 = .ok (.aload_n 0, 1) := by decide +kernel
theorem d_Text_init_21 : decode b_Text_init 21 = .ok (.iconst 0, 1) := by decide +kernel
theorem d_Text_init_22 : decode b_Text_init 22 = .ok (.putfield 19, 3) := by decide +kernel
theorem d_Text_init_25 : decode b_Text_init 25 = .ok (.aload_n 0, 1) := by decide +kernel
theorem d_Text_init_26 : decode b_Text_init 26 = .ok (.iconst 0, 1) := by decide +kernel
theorem d_Text_init_27 : decode b_Text_init 27 = .ok (.putfield 23, 3) := by decide +kernel
theorem d_Text_init_30 : decode b_Text_init 30 = .ok (.return_, 1) := by decide +kernel
abbrev rm_Text_init : Room := { frames := 1, cells := 2, slots := 66, locals := 20 }
abbrev C_Text_init (D : va_G) (g : Nat → ClassId) (p : Program) (s : State) (m : MethodId) (args : Array Value) (meth : Method) (c : Code) (M0 : Mem) : Prop := Cx p s m args c b_Text_init 1 R_Text BIG D vwCl (tysG g) (mA M0 s.heap.size) ∧ meth.sig.returnType = none ∧ meth.locks = false ∧ meth.name = "<init>"
abbrev B_Text_init (l : Launch) (D : va_G) (p : Program) (e : Env) (s : State) (m : MethodId) (args : Array Value) (below : List Frame) (meth : Method) (c : Code) (M0 : Mem) (P : Mem → Prop) (cn sn : Nat) (M : Mem) (pc : Nat) (lv : List (Nat × Value)) (st : List Value) : Prop := Wb p l e rm_Text_init s m args below meth c 1 D vwCl M0 (kV fun M' => P M') cn sn M pc lv st
def wp_Text_init (g : Nat → ClassId) (M : Mem) (x0 : Nat) (P : Mem → Prop) : Prop :=
  ∀ (q1 : Nat) (M2 : Mem), M q1 = none → M2 = mup M q1 (.inl (g 0, (60, .inl (fun _ => 0)))) → (∃ M3 : Mem, pV M2 1 x0 0 (.ref q1) = some M3 ∧ (∀ (q4 : Nat) (M5 : Mem), M3 q4 = none → M5 = mup M3 q4 (.inl (g 1, (6, .inr (.inl (fun _ => 0))))) → (∃ M6 : Mem, pV M5 1 x0 1 (.ref q4) = some M6 ∧ (∃ M7 : Mem, pV M6 1 x0 2 (.int (0 : Int32)) = some M7 ∧ (∃ M8 : Mem, pV M7 1 x0 3 (.int (0 : Int32)) = some M8 ∧ (P M8))))))
set_option maxHeartbeats 4000000 in
set_option maxRecDepth 100000 in
theorem c_Text_init {l : Launch} {D : va_G} {g : Nat → ClassId} {M : Mem} {x0 : Nat} {P : Mem → Prop} (h : wp_Text_init g M x0 P) : mMet l BIG D vwCl (tysG g) y_Text_init b_Text_init 1 none rm_Text_init [.ref x0] M (kV fun M' => P M') := by
  refine mMet.of (own := R_Text) rfl (by decide) rfl (fun p e s m below meth c C hr hlk hnm ls hM hS hl => ?_)
  have C : C_Text_init D g p s m ([.ref x0] : List Value).toArray meth c M := ⟨C, hr, hlk, hnm⟩
  have hcn : 0 + 2 ≤ 2 := by decide
  have hsn : 0 + 66 ≤ 66 := by decide
  unfold wp_Text_init at h
  have hl : lv_has ls 1 [(0, .ref x0)] := hl
  refine lv_aload_n C.1.1 C.1.2.1 d_Text_init_0 rfl (lv_at hl 0 rfl) ?_
  refine m_objInit C.1 kw99 kw3 kw4 hl.1 d_Text_init_1 (by decide) (by decide) (Nat.le_of_ble_eq_true rfl) ?_
  refine lv_aload_n C.1.1 C.1.2.1 d_Text_init_4 rfl (lv_at hl 0 rfl) ?_
  refine lv_bipush (v := (60 : Int32)) C.1.1 C.1.2.1 d_Text_init_5 (by decide) ?_
  refine mn_A (atype := .byte) (a0 := (60, .inl (fun _ => 0))) (N' := 60) C.1 hM hS (ty := .byte) rfl kw100 0 rfl (fun _ => rfl) (by decide) (by decide) (by decide) (show _ ≤ (2 : Nat) by omega) (show _ ≤ (66 : Nat) by omega) d_Text_init_7 (fun q1 H hq1 hM hS => ?_)
  obtain ⟨M2, eM2⟩ : ∃ N : Mem, N = mup M q1 (.inl (g 0, (60, .inl (fun _ => 0)))) := ⟨_, rfl⟩
  rw [← eM2] at hM
  have h := h q1 M2 hq1 eM2
  obtain ⟨M3, eM3, h⟩ := h
  refine mp_F C.1 hM hS C.2.2.2 ok_Text (by decide) kw101 rfl rfl rfl rfl eM3 d_Text_init_9 (fun H locs hM hS => ?_)
  refine lv_aload_n C.1.1 C.1.2.1 d_Text_init_12 rfl (lv_at hl 0 rfl) ?_
  refine lv_bipush (v := (6 : Int32)) C.1.1 C.1.2.1 d_Text_init_13 (by decide) ?_
  refine mn_A (atype := .long) (a0 := (6, .inr (.inl (fun _ => 0)))) (N' := 6) C.1 hM hS (ty := .long) rfl kw8 1 rfl (fun _ => rfl) (by decide) (by decide) (by decide) (show _ ≤ (2 : Nat) by omega) (show _ ≤ (66 : Nat) by omega) d_Text_init_15 (fun q4 H hq4 hM hS => ?_)
  obtain ⟨M5, eM5⟩ : ∃ N : Mem, N = mup M3 q4 (.inl (g 1, (6, .inr (.inl (fun _ => 0))))) := ⟨_, rfl⟩
  rw [← eM5] at hM
  have h := h q4 M5 hq4 eM5
  obtain ⟨M6, eM6, h⟩ := h
  refine mp_F C.1 hM hS C.2.2.2 ok_Text (by decide) kw102 rfl rfl rfl rfl eM6 d_Text_init_17 (fun H locs hM hS => ?_)
  refine lv_aload_n C.1.1 C.1.2.1 d_Text_init_20 rfl (lv_at hl 0 rfl) ?_
  refine lv_iconst (v := (0 : Int32)) C.1.1 C.1.2.1 d_Text_init_21 (by decide) ?_
  obtain ⟨M7, eM7, h⟩ := h
  refine mp_V C.1 hM hS ok_Text (by decide) kw103 rfl rfl rfl eM7 d_Text_init_22 (fun H locs hM hS => ?_)
  refine lv_aload_n C.1.1 C.1.2.1 d_Text_init_25 rfl (lv_at hl 0 rfl) ?_
  refine lv_iconst (v := (0 : Int32)) C.1.1 C.1.2.1 d_Text_init_26 (by decide) ?_
  obtain ⟨M8, eM8, h⟩ := h
  refine mp_V C.1 hM hS ok_Text (by decide) kw104 rfl rfl rfl eM8 d_Text_init_27 (fun H locs hM hS => ?_)
  refine W.widen (k := 2) (n := 66) (show _ ≤ (2 : Nat) by omega) (show _ ≤ (66 : Nat) by omega) ?_
  exact mr_V C.1 C.2.1 C.2.2.1 hM hS ⟨rfl, h⟩ d_Text_init_30
theorem d_Text_length_0 : decode b_Text_length 0 = .ok (.aload_n 0, 1) := by decide +kernel
theorem d_Text_length_1 : decode b_Text_length 1 = .ok (.getfield 19, 3) := by decide +kernel
theorem d_Text_length_4 : decode b_Text_length 4 = .ok (.ireturn, 1) := by decide +kernel
abbrev rm_Text_length : Room := { frames := 0, cells := 0, slots := 0, locals := 0 }
abbrev C_Text_length (D : va_G) (g : Nat → ClassId) (p : Program) (s : State) (m : MethodId) (args : Array Value) (meth : Method) (c : Code) (M0 : Mem) : Prop := Cx p s m args c b_Text_length 1 R_Text BIG D vwCl (tysG g) (mA M0 s.heap.size) ∧ meth.sig.returnType = (some .int) ∧ meth.locks = false
abbrev B_Text_length (l : Launch) (D : va_G) (p : Program) (e : Env) (s : State) (m : MethodId) (args : Array Value) (below : List Frame) (meth : Method) (c : Code) (M0 : Mem) (P : Int32 → Prop) (M : Mem) (pc : Nat) (lv : List (Nat × Value)) (st : List Value) : Prop := Wb p l e rm_Text_length s m args below meth c 1 D vwCl M0 (kI fun r M' => M0 = M' ∧ P r) 0 0 M pc lv st
def wp_Text_length (g : Nat → ClassId) (M : Mem) (x0 : Nat) (P : Int32 → Prop) : Prop :=
  ∃ v1 : Int32, gI M 1 x0 2 = some v1 ∧ (P v1)
set_option maxHeartbeats 4000000 in
set_option maxRecDepth 100000 in
theorem c_Text_length {l : Launch} {D : va_G} {g : Nat → ClassId} {M : Mem} {x0 : Nat} {P : Int32 → Prop} (h : wp_Text_length g M x0 P) : mMet l BIG D vwCl (tysG g) y_Text_length b_Text_length 1 (some .int) rm_Text_length [.ref x0] M (kI fun r M' => M = M' ∧ P r) := by
  refine mMet.of (own := R_Text) rfl (by decide) rfl (fun p e s m below meth c C hr hlk hnm ls hM hS hl => ?_)
  have C : C_Text_length D g p s m ([.ref x0] : List Value).toArray meth c M := ⟨C, hr, hlk⟩
  unfold wp_Text_length at h
  have hl : lv_has ls 1 [(0, .ref x0)] := hl
  refine lv_aload_n C.1.1 C.1.2.1 d_Text_length_0 rfl (lv_at hl 0 rfl) ?_
  obtain ⟨v1, ev1, h⟩ := h
  refine mg_I C.1 hM ok_Text (by decide) kw103 ev1 d_Text_length_1 ?_
  exact mr_I C.1 C.2.1 C.2.2 hM hS ⟨_, rfl, rfl, h⟩ d_Text_length_4
theorem d_Text_partCount_0 : decode b_Text_partCount 0 = .ok (.aload_n 0, 1) := by decide +kernel
theorem d_Text_partCount_1 : decode b_Text_partCount 1 = .ok (.getfield 23, 3) := by decide +kernel
theorem d_Text_partCount_4 : decode b_Text_partCount 4 = .ok (.ireturn, 1) := by decide +kernel
abbrev rm_Text_partCount : Room := { frames := 0, cells := 0, slots := 0, locals := 0 }
abbrev C_Text_partCount (D : va_G) (g : Nat → ClassId) (p : Program) (s : State) (m : MethodId) (args : Array Value) (meth : Method) (c : Code) (M0 : Mem) : Prop := Cx p s m args c b_Text_partCount 1 R_Text BIG D vwCl (tysG g) (mA M0 s.heap.size) ∧ meth.sig.returnType = (some .int) ∧ meth.locks = false
abbrev B_Text_partCount (l : Launch) (D : va_G) (p : Program) (e : Env) (s : State) (m : MethodId) (args : Array Value) (below : List Frame) (meth : Method) (c : Code) (M0 : Mem) (P : Int32 → Prop) (M : Mem) (pc : Nat) (lv : List (Nat × Value)) (st : List Value) : Prop := Wb p l e rm_Text_partCount s m args below meth c 1 D vwCl M0 (kI fun r M' => M0 = M' ∧ P r) 0 0 M pc lv st
def wp_Text_partCount (g : Nat → ClassId) (M : Mem) (x0 : Nat) (P : Int32 → Prop) : Prop :=
  ∃ v1 : Int32, gI M 1 x0 3 = some v1 ∧ (P v1)
set_option maxHeartbeats 4000000 in
set_option maxRecDepth 100000 in
theorem c_Text_partCount {l : Launch} {D : va_G} {g : Nat → ClassId} {M : Mem} {x0 : Nat} {P : Int32 → Prop} (h : wp_Text_partCount g M x0 P) : mMet l BIG D vwCl (tysG g) y_Text_partCount b_Text_partCount 1 (some .int) rm_Text_partCount [.ref x0] M (kI fun r M' => M = M' ∧ P r) := by
  refine mMet.of (own := R_Text) rfl (by decide) rfl (fun p e s m below meth c C hr hlk hnm ls hM hS hl => ?_)
  have C : C_Text_partCount D g p s m ([.ref x0] : List Value).toArray meth c M := ⟨C, hr, hlk⟩
  unfold wp_Text_partCount at h
  have hl : lv_has ls 1 [(0, .ref x0)] := hl
  refine lv_aload_n C.1.1 C.1.2.1 d_Text_partCount_0 rfl (lv_at hl 0 rfl) ?_
  obtain ⟨v1, ev1, h⟩ := h
  refine mg_I C.1 hM ok_Text (by decide) kw104 ev1 d_Text_partCount_1 ?_
  exact mr_I C.1 C.2.1 C.2.2 hM hS ⟨_, rfl, rfl, h⟩ d_Text_partCount_4
theorem d_Text_signAt_0 : decode b_Text_signAt 0 = .ok (.iload_n 1, 1) := by decide +kernel
theorem d_Text_signAt_1 : decode b_Text_signAt 1 = .ok (.ifCond .lt 29, 3) := by decide +kernel
theorem d_Text_signAt_4 : decode b_Text_signAt 4 = .ok (.iload_n 1, 1) := by decide +kernel
theorem d_Text_signAt_5 : decode b_Text_signAt 5 = .ok (.aload_n 0, 1) := by decide +kernel
theorem d_Text_signAt_6 : decode b_Text_signAt 6 = .ok (.getfield 19, 3) := by decide +kernel
theorem d_Text_signAt_9 : decode b_Text_signAt 9 = .ok (.if_icmp .ge 21, 3) := by decide +kernel
theorem d_Text_signAt_12 : decode b_Text_signAt 12 = .ok (.iload_n 1, 1) := by decide +kernel
theorem d_Text_signAt_13 : decode b_Text_signAt 13 = .ok (.aload_n 0, 1) := by decide +kernel
theorem d_Text_signAt_14 : decode b_Text_signAt 14 = .ok (.getfield 9, 3) := by decide +kernel
theorem d_Text_signAt_17 : decode b_Text_signAt 17 = .ok (.arraylength, 1) := by decide +kernel
theorem d_Text_signAt_18 : decode b_Text_signAt 18 = .ok (.if_icmp .ge 12, 3) := by decide +kernel
theorem d_Text_signAt_21 : decode b_Text_signAt 21 = .ok (.aload_n 0, 1) := by decide +kernel
theorem d_Text_signAt_22 : decode b_Text_signAt 22 = .ok (.getfield 9, 3) := by decide +kernel
theorem d_Text_signAt_25 : decode b_Text_signAt 25 = .ok (.iload_n 1, 1) := by decide +kernel
theorem d_Text_signAt_26 : decode b_Text_signAt 26 = .ok (.baload, 1) := by decide +kernel
theorem d_Text_signAt_27 : decode b_Text_signAt 27 = .ok (.goto 4, 3) := by decide +kernel
theorem d_Text_signAt_30 : decode b_Text_signAt 30 = .ok (.iconst (-1), 1) := by decide +kernel
theorem d_Text_signAt_31 : decode b_Text_signAt 31 = .ok (.ireturn, 1) := by decide +kernel
abbrev rm_Text_signAt : Room := { frames := 0, cells := 0, slots := 0, locals := 0 }
abbrev C_Text_signAt (D : va_G) (g : Nat → ClassId) (p : Program) (s : State) (m : MethodId) (args : Array Value) (meth : Method) (c : Code) (M0 : Mem) : Prop := Cx p s m args c b_Text_signAt 2 R_Text BIG D vwCl (tysG g) (mA M0 s.heap.size) ∧ meth.sig.returnType = (some .int) ∧ meth.locks = false
abbrev B_Text_signAt (l : Launch) (D : va_G) (p : Program) (e : Env) (s : State) (m : MethodId) (args : Array Value) (below : List Frame) (meth : Method) (c : Code) (M0 : Mem) (P : Int32 → Prop) (M : Mem) (pc : Nat) (lv : List (Nat × Value)) (st : List Value) : Prop := Wb p l e rm_Text_signAt s m args below meth c 2 D vwCl M0 (kI fun r M' => M0 = M' ∧ P r) 0 0 M pc lv st
def wp_Text_signAt_b31 (g : Nat → ClassId) (P : Int32 → Prop) (M : Mem) (t0 : Int32) : Prop :=
  P t0
set_option maxHeartbeats 4000000 in
set_option maxRecDepth 100000 in
theorem t_Text_signAt_b31 {l : Launch} {D : va_G} {g : Nat → ClassId} {p : Program} {e : Env} {s : State} {m : MethodId} {args : Array Value} {below : List Frame} {meth : Method} {c : Code} {P : Int32 → Prop} {M : Mem} {t0 : Int32} (C : C_Text_signAt D g p s m args meth c M) (h : wp_Text_signAt_b31 g P M t0) : B_Text_signAt l D p e s m args below meth c M P M 31 [] [.int t0] := by
  intro ls H locs hM hS hl
  unfold wp_Text_signAt_b31 at h
  exact mr_I C.1 C.2.1 C.2.2 hM hS ⟨_, rfl, rfl, h⟩ d_Text_signAt_31
def wp_Text_signAt_b30 (g : Nat → ClassId) (P : Int32 → Prop) (M : Mem) : Prop :=
  wp_Text_signAt_b31 g P M (-1 : Int32)
set_option maxHeartbeats 4000000 in
set_option maxRecDepth 100000 in
theorem t_Text_signAt_b30 {l : Launch} {D : va_G} {g : Nat → ClassId} {p : Program} {e : Env} {s : State} {m : MethodId} {args : Array Value} {below : List Frame} {meth : Method} {c : Code} {P : Int32 → Prop} {M : Mem} (C : C_Text_signAt D g p s m args meth c M) (h : wp_Text_signAt_b30 g P M ) : B_Text_signAt l D p e s m args below meth c M P M 30 [] [] := by
  intro ls H locs hM hS hl
  unfold wp_Text_signAt_b30 at h
  refine lv_iconst (v := (-1 : Int32)) C.1.1 C.1.2.1 d_Text_signAt_30 (by decide) ?_
  exact t_Text_signAt_b31 C h _ _ _ hM hS (lv_sub hl [] rfl)
def wp_Text_signAt (g : Nat → ClassId) (M : Mem) (x0 : Nat) (x1 : Int32) (P : Int32 → Prop) : Prop :=
  (x1 < 0 → (wp_Text_signAt_b30 g P M)) ∧ (¬ x1 < 0 → (∃ v2 : Int32, gI M 1 x0 2 = some v2 ∧ ((v2 ≤ x1 → (wp_Text_signAt_b30 g P M)) ∧ (¬ v2 ≤ x1 → (∃ v4 : Nat, gR M 1 x0 0 = some v4 ∧ (∃ n5 : Nat, aN M (g 0) v4 = some n5 ∧ (((nI n5) ≤ x1 → (wp_Text_signAt_b30 g P M)) ∧ (¬ (nI n5) ≤ x1 → (∃ v7 : Nat, gR M 1 x0 0 = some v7 ∧ (∃ v8 : Int32, aI M (g 0) v7 x1 = some v8 ∧ (wp_Text_signAt_b31 g P M v8)))))))))))
set_option maxHeartbeats 4000000 in
set_option maxRecDepth 100000 in
theorem c_Text_signAt {l : Launch} {D : va_G} {g : Nat → ClassId} {M : Mem} {x0 : Nat} {x1 : Int32} {P : Int32 → Prop} (h : wp_Text_signAt g M x0 x1 P) : mMet l BIG D vwCl (tysG g) y_Text_signAt b_Text_signAt 2 (some .int) rm_Text_signAt [.ref x0, .int x1] M (kI fun r M' => M = M' ∧ P r) := by
  refine mMet.of (own := R_Text) rfl (by decide) rfl (fun p e s m below meth c C hr hlk hnm ls hM hS hl => ?_)
  have C : C_Text_signAt D g p s m ([.ref x0, .int x1] : List Value).toArray meth c M := ⟨C, hr, hlk⟩
  unfold wp_Text_signAt at h
  have hl : lv_has ls 2 [(0, .ref x0), (1, .int x1)] := hl
  refine lv_iload_n C.1.1 C.1.2.1 d_Text_signAt_0 rfl (lv_at hl 1 rfl) ?_
  refine lv_if_lt (tgt := 30) C.1.1 C.1.2.1 d_Text_signAt_1 (by decide) (fun c1 => ?_) (fun c1 => ?_)
  · have h := h.1 c1
    exact t_Text_signAt_b30 C h _ _ _ hM hS (lv_sub hl [] rfl)
  · have h := h.2 c1
    refine lv_iload_n C.1.1 C.1.2.1 d_Text_signAt_4 rfl (lv_at hl 1 rfl) ?_
    refine lv_aload_n C.1.1 C.1.2.1 d_Text_signAt_5 rfl (lv_at hl 0 rfl) ?_
    obtain ⟨v2, ev2, h⟩ := h
    refine mg_I C.1 hM ok_Text (by decide) kw103 ev2 d_Text_signAt_6 ?_
    refine lv_icmp_ge (tgt := 30) C.1.1 C.1.2.1 d_Text_signAt_9 (by decide) (fun c3 => ?_) (fun c3 => ?_)
    · have h := h.1 c3
      exact t_Text_signAt_b30 C h _ _ _ hM hS (lv_sub hl [] rfl)
    · have h := h.2 c3
      refine lv_iload_n C.1.1 C.1.2.1 d_Text_signAt_12 rfl (lv_at hl 1 rfl) ?_
      refine lv_aload_n C.1.1 C.1.2.1 d_Text_signAt_13 rfl (lv_at hl 0 rfl) ?_
      obtain ⟨v4, ev4, h⟩ := h
      refine mg_R C.1 hM ok_Text (by decide) kw101 ev4 d_Text_signAt_14 ?_
      obtain ⟨n5, en5, h⟩ := h
      refine ma_N C.1 hM 0 rfl en5 d_Text_signAt_17 ?_
      refine lv_icmp_ge (tgt := 30) C.1.1 C.1.2.1 d_Text_signAt_18 (by decide) (fun c6 => ?_) (fun c6 => ?_)
      · have h := h.1 c6
        exact t_Text_signAt_b30 C h _ _ _ hM hS (lv_sub hl [] rfl)
      · have h := h.2 c6
        refine lv_aload_n C.1.1 C.1.2.1 d_Text_signAt_21 rfl (lv_at hl 0 rfl) ?_
        obtain ⟨v7, ev7, h⟩ := h
        refine mg_R C.1 hM ok_Text (by decide) kw101 ev7 d_Text_signAt_22 ?_
        refine lv_iload_n C.1.1 C.1.2.1 d_Text_signAt_25 rfl (lv_at hl 1 rfl) ?_
        obtain ⟨v8, ev8, h⟩ := h
        refine ma_B C.1 hM 0 rfl ev8 d_Text_signAt_26 ?_
        refine lv_goto (tgt := 31) C.1.1 C.1.2.1 d_Text_signAt_27 (by decide) ?_
        exact t_Text_signAt_b31 C h _ _ _ hM hS (lv_sub hl [] rfl)
theorem d_Text_partAt_0 : decode b_Text_partAt 0 = .ok (.iload_n 1, 1) := by decide +kernel
theorem d_Text_partAt_1 : decode b_Text_partAt 1 = .ok (.ifCond .lt 29, 3) := by decide +kernel
theorem d_Text_partAt_4 : decode b_Text_partAt 4 = .ok (.iload_n 1, 1) := by decide +kernel
theorem d_Text_partAt_5 : decode b_Text_partAt 5 = .ok (.aload_n 0, 1) := by decide +kernel
theorem d_Text_partAt_6 : decode b_Text_partAt 6 = .ok (.getfield 23, 3) := by decide +kernel
theorem d_Text_partAt_9 : decode b_Text_partAt 9 = .ok (.if_icmp .ge 21, 3) := by decide +kernel
theorem d_Text_partAt_12 : decode b_Text_partAt 12 = .ok (.iload_n 1, 1) := by decide +kernel
theorem d_Text_partAt_13 : decode b_Text_partAt 13 = .ok (.aload_n 0, 1) := by decide +kernel
theorem d_Text_partAt_14 : decode b_Text_partAt 14 = .ok (.getfield 15, 3) := by decide +kernel
theorem d_Text_partAt_17 : decode b_Text_partAt 17 = .ok (.arraylength, 1) := by decide +kernel
theorem d_Text_partAt_18 : decode b_Text_partAt 18 = .ok (.if_icmp .ge 12, 3) := by decide +kernel
theorem d_Text_partAt_21 : decode b_Text_partAt 21 = .ok (.aload_n 0, 1) := by decide +kernel
theorem d_Text_partAt_22 : decode b_Text_partAt 22 = .ok (.getfield 15, 3) := by decide +kernel
theorem d_Text_partAt_25 : decode b_Text_partAt 25 = .ok (.iload_n 1, 1) := by decide +kernel
theorem d_Text_partAt_26 : decode b_Text_partAt 26 = .ok (.laload, 1) := by decide +kernel
theorem d_Text_partAt_27 : decode b_Text_partAt 27 = .ok (.goto 4, 3) := by decide +kernel
theorem d_Text_partAt_30 : decode b_Text_partAt 30 = .ok (.lconst 0, 1) := by decide +kernel
theorem d_Text_partAt_31 : decode b_Text_partAt 31 = .ok (.lreturn, 1) := by decide +kernel
abbrev rm_Text_partAt : Room := { frames := 0, cells := 0, slots := 0, locals := 0 }
abbrev C_Text_partAt (D : va_G) (g : Nat → ClassId) (p : Program) (s : State) (m : MethodId) (args : Array Value) (meth : Method) (c : Code) (M0 : Mem) : Prop := Cx p s m args c b_Text_partAt 2 R_Text BIG D vwCl (tysG g) (mA M0 s.heap.size) ∧ meth.sig.returnType = (some .long) ∧ meth.locks = false
abbrev B_Text_partAt (l : Launch) (D : va_G) (p : Program) (e : Env) (s : State) (m : MethodId) (args : Array Value) (below : List Frame) (meth : Method) (c : Code) (M0 : Mem) (P : Int64 → Prop) (M : Mem) (pc : Nat) (lv : List (Nat × Value)) (st : List Value) : Prop := Wb p l e rm_Text_partAt s m args below meth c 2 D vwCl M0 (kL fun r M' => M0 = M' ∧ P r) 0 0 M pc lv st
def wp_Text_partAt_b31 (g : Nat → ClassId) (P : Int64 → Prop) (M : Mem) (t0 : Int64) : Prop :=
  P t0
set_option maxHeartbeats 4000000 in
set_option maxRecDepth 100000 in
theorem t_Text_partAt_b31 {l : Launch} {D : va_G} {g : Nat → ClassId} {p : Program} {e : Env} {s : State} {m : MethodId} {args : Array Value} {below : List Frame} {meth : Method} {c : Code} {P : Int64 → Prop} {M : Mem} {t0 : Int64} (C : C_Text_partAt D g p s m args meth c M) (h : wp_Text_partAt_b31 g P M t0) : B_Text_partAt l D p e s m args below meth c M P M 31 [] [.long t0] := by
  intro ls H locs hM hS hl
  unfold wp_Text_partAt_b31 at h
  exact mr_L C.1 C.2.1 C.2.2 hM hS ⟨_, rfl, rfl, h⟩ d_Text_partAt_31
def wp_Text_partAt_b30 (g : Nat → ClassId) (P : Int64 → Prop) (M : Mem) : Prop :=
  wp_Text_partAt_b31 g P M (0 : Int64)
set_option maxHeartbeats 4000000 in
set_option maxRecDepth 100000 in
theorem t_Text_partAt_b30 {l : Launch} {D : va_G} {g : Nat → ClassId} {p : Program} {e : Env} {s : State} {m : MethodId} {args : Array Value} {below : List Frame} {meth : Method} {c : Code} {P : Int64 → Prop} {M : Mem} (C : C_Text_partAt D g p s m args meth c M) (h : wp_Text_partAt_b30 g P M ) : B_Text_partAt l D p e s m args below meth c M P M 30 [] [] := by
  intro ls H locs hM hS hl
  unfold wp_Text_partAt_b30 at h
  refine lv_lconst (v := (0 : Int64)) C.1.1 C.1.2.1 d_Text_partAt_30 (by decide) ?_
  exact t_Text_partAt_b31 C h _ _ _ hM hS (lv_sub hl [] rfl)
def wp_Text_partAt (g : Nat → ClassId) (M : Mem) (x0 : Nat) (x1 : Int32) (P : Int64 → Prop) : Prop :=
  (x1 < 0 → (wp_Text_partAt_b30 g P M)) ∧ (¬ x1 < 0 → (∃ v2 : Int32, gI M 1 x0 3 = some v2 ∧ ((v2 ≤ x1 → (wp_Text_partAt_b30 g P M)) ∧ (¬ v2 ≤ x1 → (∃ v4 : Nat, gR M 1 x0 1 = some v4 ∧ (∃ n5 : Nat, aN M (g 1) v4 = some n5 ∧ (((nI n5) ≤ x1 → (wp_Text_partAt_b30 g P M)) ∧ (¬ (nI n5) ≤ x1 → (∃ v7 : Nat, gR M 1 x0 1 = some v7 ∧ (∃ v8 : Int64, aL M (g 1) v7 x1 = some v8 ∧ (wp_Text_partAt_b31 g P M v8)))))))))))
set_option maxHeartbeats 4000000 in
set_option maxRecDepth 100000 in
theorem c_Text_partAt {l : Launch} {D : va_G} {g : Nat → ClassId} {M : Mem} {x0 : Nat} {x1 : Int32} {P : Int64 → Prop} (h : wp_Text_partAt g M x0 x1 P) : mMet l BIG D vwCl (tysG g) y_Text_partAt b_Text_partAt 2 (some .long) rm_Text_partAt [.ref x0, .int x1] M (kL fun r M' => M = M' ∧ P r) := by
  refine mMet.of (own := R_Text) rfl (by decide) rfl (fun p e s m below meth c C hr hlk hnm ls hM hS hl => ?_)
  have C : C_Text_partAt D g p s m ([.ref x0, .int x1] : List Value).toArray meth c M := ⟨C, hr, hlk⟩
  unfold wp_Text_partAt at h
  have hl : lv_has ls 2 [(0, .ref x0), (1, .int x1)] := hl
  refine lv_iload_n C.1.1 C.1.2.1 d_Text_partAt_0 rfl (lv_at hl 1 rfl) ?_
  refine lv_if_lt (tgt := 30) C.1.1 C.1.2.1 d_Text_partAt_1 (by decide) (fun c1 => ?_) (fun c1 => ?_)
  · have h := h.1 c1
    exact t_Text_partAt_b30 C h _ _ _ hM hS (lv_sub hl [] rfl)
  · have h := h.2 c1
    refine lv_iload_n C.1.1 C.1.2.1 d_Text_partAt_4 rfl (lv_at hl 1 rfl) ?_
    refine lv_aload_n C.1.1 C.1.2.1 d_Text_partAt_5 rfl (lv_at hl 0 rfl) ?_
    obtain ⟨v2, ev2, h⟩ := h
    refine mg_I C.1 hM ok_Text (by decide) kw104 ev2 d_Text_partAt_6 ?_
    refine lv_icmp_ge (tgt := 30) C.1.1 C.1.2.1 d_Text_partAt_9 (by decide) (fun c3 => ?_) (fun c3 => ?_)
    · have h := h.1 c3
      exact t_Text_partAt_b30 C h _ _ _ hM hS (lv_sub hl [] rfl)
    · have h := h.2 c3
      refine lv_iload_n C.1.1 C.1.2.1 d_Text_partAt_12 rfl (lv_at hl 1 rfl) ?_
      refine lv_aload_n C.1.1 C.1.2.1 d_Text_partAt_13 rfl (lv_at hl 0 rfl) ?_
      obtain ⟨v4, ev4, h⟩ := h
      refine mg_R C.1 hM ok_Text (by decide) kw102 ev4 d_Text_partAt_14 ?_
      obtain ⟨n5, en5, h⟩ := h
      refine ma_N C.1 hM 1 rfl en5 d_Text_partAt_17 ?_
      refine lv_icmp_ge (tgt := 30) C.1.1 C.1.2.1 d_Text_partAt_18 (by decide) (fun c6 => ?_) (fun c6 => ?_)
      · have h := h.1 c6
        exact t_Text_partAt_b30 C h _ _ _ hM hS (lv_sub hl [] rfl)
      · have h := h.2 c6
        refine lv_aload_n C.1.1 C.1.2.1 d_Text_partAt_21 rfl (lv_at hl 0 rfl) ?_
        obtain ⟨v7, ev7, h⟩ := h
        refine mg_R C.1 hM ok_Text (by decide) kw102 ev7 d_Text_partAt_22 ?_
        refine lv_iload_n C.1.1 C.1.2.1 d_Text_partAt_25 rfl (lv_at hl 1 rfl) ?_
        obtain ⟨v8, ev8, h⟩ := h
        refine ma_L C.1 hM 1 rfl ev8 d_Text_partAt_26 ?_
        refine lv_goto (tgt := 31) C.1.1 C.1.2.1 d_Text_partAt_27 (by decide) ?_
        exact t_Text_partAt_b31 C h _ _ _ hM hS (lv_sub hl [] rfl)
theorem d_Text_add_0 : decode b_Text_add 0 = .ok (.aload_n 0, 1) := by decide +kernel
theorem d_Text_add_1 : decode b_Text_add 1 = .ok (.getfield 19, 3) := by decide +kernel
theorem d_Text_add_4 : decode b_Text_add 4 = .ok (.aload_n 0, 1) := by decide +kernel
theorem d_Text_add_5 : decode b_Text_add 5 = .ok (.getfield 9, 3) := by decide +kernel
theorem d_Text_add_8 : decode b_Text_add 8 = .ok (.arraylength, 1) := by decide +kernel
theorem d_Text_add_9 : decode b_Text_add 9 = .ok (.if_icmp .ge 24, 3) := by decide +kernel
theorem d_Text_add_12 : decode b_Text_add 12 = .ok (.aload_n 0, 1) := by decide +kernel
theorem d_Text_add_13 : decode b_Text_add 13 = .ok (.getfield 9, 3) := by decide +kernel
theorem d_Text_add_16 : decode b_Text_add 16 = .ok (.aload_n 0, 1) := by decide +kernel
theorem d_Text_add_17 : decode b_Text_add 17 = .ok (.getfield 19, 3) := by decide +kernel
theorem d_Text_add_20 : decode b_Text_add 20 = .ok (.iload_n 1, 1) := by decide +kernel
theorem d_Text_add_21 : decode b_Text_add 21 = .ok (.i2b, 1) := by decide +kernel
theorem d_Text_add_22 : decode b_Text_add 22 = .ok (.bastore, 1) := by decide +kernel
theorem d_Text_add_23 : decode b_Text_add 23 = .ok (.aload_n 0, 1) := by decide +kernel
theorem d_Text_add_24 : decode b_Text_add 24 = .ok (.dup, 1) := by decide +kernel
theorem d_Text_add_25 : decode b_Text_add 25 = .ok (.getfield 19, 3) := by decide +kernel
theorem d_Text_add_28 : decode b_Text_add 28 = .ok (.iconst 1, 1) := by decide +kernel
theorem d_Text_add_29 : decode b_Text_add 29 = .ok (.iadd, 1) := by decide +kernel
theorem d_Text_add_30 : decode b_Text_add 30 = .ok (.putfield 19, 3) := by decide +kernel
theorem d_Text_add_33 : decode b_Text_add 33 = .ok (.return_, 1) := by decide +kernel
abbrev rm_Text_add : Room := { frames := 0, cells := 0, slots := 0, locals := 0 }
abbrev C_Text_add (D : va_G) (g : Nat → ClassId) (p : Program) (s : State) (m : MethodId) (args : Array Value) (meth : Method) (c : Code) (M0 : Mem) : Prop := Cx p s m args c b_Text_add 2 R_Text BIG D vwCl (tysG g) (mA M0 s.heap.size) ∧ meth.sig.returnType = none ∧ meth.locks = false
abbrev B_Text_add (l : Launch) (D : va_G) (p : Program) (e : Env) (s : State) (m : MethodId) (args : Array Value) (below : List Frame) (meth : Method) (c : Code) (M0 : Mem) (P : Mem → Prop) (M : Mem) (pc : Nat) (lv : List (Nat × Value)) (st : List Value) : Prop := Wb p l e rm_Text_add s m args below meth c 2 D vwCl M0 (kV fun M' => P M') 0 0 M pc lv st
def wp_Text_add_b33 (g : Nat → ClassId) (P : Mem → Prop) (M : Mem) : Prop :=
  P M
set_option maxHeartbeats 4000000 in
set_option maxRecDepth 100000 in
theorem t_Text_add_b33 {l : Launch} {D : va_G} {g : Nat → ClassId} {p : Program} {e : Env} {s : State} {m : MethodId} {args : Array Value} {below : List Frame} {meth : Method} {c : Code} {M0 : Mem} {P : Mem → Prop} {M : Mem} (C : C_Text_add D g p s m args meth c M0) (h : wp_Text_add_b33 g P M ) : B_Text_add l D p e s m args below meth c M0 P M 33 [] [] := by
  intro ls H locs hM hS hl
  unfold wp_Text_add_b33 at h
  exact mr_V C.1 C.2.1 C.2.2 hM hS ⟨rfl, h⟩ d_Text_add_33
def wp_Text_add (g : Nat → ClassId) (M : Mem) (x0 : Nat) (x1 : Int32) (P : Mem → Prop) : Prop :=
  ∃ v1 : Int32, gI M 1 x0 2 = some v1 ∧ (∃ v2 : Nat, gR M 1 x0 0 = some v2 ∧ (∃ n3 : Nat, aN M (g 0) v2 = some n3 ∧ (((nI n3) ≤ v1 → (wp_Text_add_b33 g P M)) ∧ (¬ (nI n3) ≤ v1 → (∃ v5 : Nat, gR M 1 x0 0 = some v5 ∧ (∃ v6 : Int32, gI M 1 x0 2 = some v6 ∧ (∃ M7 : Mem, sI M (g 0) v5 v6 (vp_nar .byte x1.toInt8.toInt32) = some M7 ∧ (∃ v8 : Int32, gI M7 1 x0 2 = some v8 ∧ (∃ M9 : Mem, pV M7 1 x0 2 (.int (v8 + (1 : Int32))) = some M9 ∧ (wp_Text_add_b33 g P M9))))))))))
set_option maxHeartbeats 4000000 in
set_option maxRecDepth 100000 in
theorem c_Text_add {l : Launch} {D : va_G} {g : Nat → ClassId} {M : Mem} {x0 : Nat} {x1 : Int32} {P : Mem → Prop} (h : wp_Text_add g M x0 x1 P) : mMet l BIG D vwCl (tysG g) y_Text_add b_Text_add 2 none rm_Text_add [.ref x0, .int x1] M (kV fun M' => P M') := by
  refine mMet.of (own := R_Text) rfl (by decide) rfl (fun p e s m below meth c C hr hlk hnm ls hM hS hl => ?_)
  have C : C_Text_add D g p s m ([.ref x0, .int x1] : List Value).toArray meth c M := ⟨C, hr, hlk⟩
  unfold wp_Text_add at h
  have hl : lv_has ls 2 [(0, .ref x0), (1, .int x1)] := hl
  refine lv_aload_n C.1.1 C.1.2.1 d_Text_add_0 rfl (lv_at hl 0 rfl) ?_
  obtain ⟨v1, ev1, h⟩ := h
  refine mg_I C.1 hM ok_Text (by decide) kw103 ev1 d_Text_add_1 ?_
  refine lv_aload_n C.1.1 C.1.2.1 d_Text_add_4 rfl (lv_at hl 0 rfl) ?_
  obtain ⟨v2, ev2, h⟩ := h
  refine mg_R C.1 hM ok_Text (by decide) kw101 ev2 d_Text_add_5 ?_
  obtain ⟨n3, en3, h⟩ := h
  refine ma_N C.1 hM 0 rfl en3 d_Text_add_8 ?_
  refine lv_icmp_ge (tgt := 33) C.1.1 C.1.2.1 d_Text_add_9 (by decide) (fun c4 => ?_) (fun c4 => ?_)
  · have h := h.1 c4
    exact t_Text_add_b33 C h _ _ _ hM hS (lv_sub hl [] rfl)
  · have h := h.2 c4
    refine lv_aload_n C.1.1 C.1.2.1 d_Text_add_12 rfl (lv_at hl 0 rfl) ?_
    obtain ⟨v5, ev5, h⟩ := h
    refine mg_R C.1 hM ok_Text (by decide) kw101 ev5 d_Text_add_13 ?_
    refine lv_aload_n C.1.1 C.1.2.1 d_Text_add_16 rfl (lv_at hl 0 rfl) ?_
    obtain ⟨v6, ev6, h⟩ := h
    refine mg_I C.1 hM ok_Text (by decide) kw103 ev6 d_Text_add_17 ?_
    refine lv_iload_n C.1.1 C.1.2.1 d_Text_add_20 rfl (lv_at hl 1 rfl) ?_
    refine lv_i2b (v := x1.toInt8.toInt32) C.1.1 C.1.2.1 d_Text_add_21 rfl ?_
    obtain ⟨M7, eM7, h⟩ := h
    refine ms_B C.1 hM hS 0 rfl eM7 d_Text_add_22 (fun H locs hM hS => ?_)
    refine lv_aload_n C.1.1 C.1.2.1 d_Text_add_23 rfl (lv_at hl 0 rfl) ?_
    refine lv_dup C.1.1 C.1.2.1 d_Text_add_24 rfl ?_
    obtain ⟨v8, ev8, h⟩ := h
    refine mg_I C.1 hM ok_Text (by decide) kw103 ev8 d_Text_add_25 ?_
    refine lv_iconst (v := (1 : Int32)) C.1.1 C.1.2.1 d_Text_add_28 (by decide) ?_
    refine lv_iadd C.1.1 C.1.2.1 d_Text_add_29 ?_
    obtain ⟨M9, eM9, h⟩ := h
    refine mp_V C.1 hM hS ok_Text (by decide) kw103 rfl rfl rfl eM9 d_Text_add_30 (fun H locs hM hS => ?_)
    exact t_Text_add_b33 C h _ _ _ hM hS (lv_sub hl [] rfl)
theorem d_Text_clear_0 : decode b_Text_clear 0 = .ok (.aload_n 0, 1) := by decide +kernel
theorem d_Text_clear_1 : decode b_Text_clear 1 = .ok (.iconst 0, 1) := by decide +kernel
theorem d_Text_clear_2 : decode b_Text_clear 2 = .ok (.putfield 19, 3) := by decide +kernel
theorem d_Text_clear_5 : decode b_Text_clear 5 = .ok (.aload_n 0, 1) := by decide +kernel
theorem d_Text_clear_6 : decode b_Text_clear 6 = .ok (.iconst 0, 1) := by decide +kernel
theorem d_Text_clear_7 : decode b_Text_clear 7 = .ok (.putfield 23, 3) := by decide +kernel
theorem d_Text_clear_10 : decode b_Text_clear 10 = .ok (.return_, 1) := by decide +kernel
abbrev rm_Text_clear : Room := { frames := 0, cells := 0, slots := 0, locals := 0 }
abbrev C_Text_clear (D : va_G) (g : Nat → ClassId) (p : Program) (s : State) (m : MethodId) (args : Array Value) (meth : Method) (c : Code) (M0 : Mem) : Prop := Cx p s m args c b_Text_clear 1 R_Text BIG D vwCl (tysG g) (mA M0 s.heap.size) ∧ meth.sig.returnType = none ∧ meth.locks = false
abbrev B_Text_clear (l : Launch) (D : va_G) (p : Program) (e : Env) (s : State) (m : MethodId) (args : Array Value) (below : List Frame) (meth : Method) (c : Code) (M0 : Mem) (P : Mem → Prop) (M : Mem) (pc : Nat) (lv : List (Nat × Value)) (st : List Value) : Prop := Wb p l e rm_Text_clear s m args below meth c 1 D vwCl M0 (kV fun M' => P M') 0 0 M pc lv st
def wp_Text_clear (g : Nat → ClassId) (M : Mem) (x0 : Nat) (P : Mem → Prop) : Prop :=
  ∃ M1 : Mem, pV M 1 x0 2 (.int (0 : Int32)) = some M1 ∧ (∃ M2 : Mem, pV M1 1 x0 3 (.int (0 : Int32)) = some M2 ∧ (P M2))
set_option maxHeartbeats 4000000 in
set_option maxRecDepth 100000 in
theorem c_Text_clear {l : Launch} {D : va_G} {g : Nat → ClassId} {M : Mem} {x0 : Nat} {P : Mem → Prop} (h : wp_Text_clear g M x0 P) : mMet l BIG D vwCl (tysG g) y_Text_clear b_Text_clear 1 none rm_Text_clear [.ref x0] M (kV fun M' => P M') := by
  refine mMet.of (own := R_Text) rfl (by decide) rfl (fun p e s m below meth c C hr hlk hnm ls hM hS hl => ?_)
  have C : C_Text_clear D g p s m ([.ref x0] : List Value).toArray meth c M := ⟨C, hr, hlk⟩
  unfold wp_Text_clear at h
  have hl : lv_has ls 1 [(0, .ref x0)] := hl
  refine lv_aload_n C.1.1 C.1.2.1 d_Text_clear_0 rfl (lv_at hl 0 rfl) ?_
  refine lv_iconst (v := (0 : Int32)) C.1.1 C.1.2.1 d_Text_clear_1 (by decide) ?_
  obtain ⟨M1, eM1, h⟩ := h
  refine mp_V C.1 hM hS ok_Text (by decide) kw103 rfl rfl rfl eM1 d_Text_clear_2 (fun H locs hM hS => ?_)
  refine lv_aload_n C.1.1 C.1.2.1 d_Text_clear_5 rfl (lv_at hl 0 rfl) ?_
  refine lv_iconst (v := (0 : Int32)) C.1.1 C.1.2.1 d_Text_clear_6 (by decide) ?_
  obtain ⟨M2, eM2, h⟩ := h
  refine mp_V C.1 hM hS ok_Text (by decide) kw104 rfl rfl rfl eM2 d_Text_clear_7 (fun H locs hM hS => ?_)
  exact mr_V C.1 C.2.1 C.2.2 hM hS ⟨rfl, h⟩ d_Text_clear_10
theorem d_Text_compareSigns_0 : decode b_Text_compareSigns 0 = .ok (.aload_n 0, 1) := by decide +kernel
theorem d_Text_compareSigns_1 : decode b_Text_compareSigns 1 = .ok (.getfield 19, 3) := by decide +kernel
theorem d_Text_compareSigns_4 : decode b_Text_compareSigns 4 = .ok (.aload_n 1, 1) := by decide +kernel
theorem d_Text_compareSigns_5 : decode b_Text_compareSigns 5 = .ok (.getfield 19, 3) := by decide +kernel
theorem d_Text_compareSigns_8 : decode b_Text_compareSigns 8 = .ok (.invokestatic 53, 3) := by decide +kernel
theorem d_Text_compareSigns_11 : decode b_Text_compareSigns 11 = .ok (.istore_n 2, 1) := by decide +kernel
theorem d_Text_compareSigns_12 : decode b_Text_compareSigns 12 = .ok (.iconst 0, 1) := by decide +kernel
theorem d_Text_compareSigns_13 : decode b_Text_compareSigns 13 = .ok (.istore_n 3, 1) := by decide +kernel
theorem d_Text_compareSigns_14 : decode b_Text_compareSigns 14 = .ok (.iload_n 3, 1) := by decide +kernel
theorem d_Text_compareSigns_15 : decode b_Text_compareSigns 15 = .ok (.iload_n 2, 1) := by decide +kernel
theorem d_Text_compareSigns_16 : decode b_Text_compareSigns 16 = .ok (.if_icmp .ge 30, 3) := by decide +kernel
theorem d_Text_compareSigns_19 : decode b_Text_compareSigns 19 = .ok (.aload_n 0, 1) := by decide +kernel
theorem d_Text_compareSigns_20 : decode b_Text_compareSigns 20 = .ok (.iload_n 3, 1) := by decide +kernel
theorem d_Text_compareSigns_21 : decode b_Text_compareSigns 21 = .ok (.invokevirtual 29, 3) := by decide +kernel
theorem d_Text_compareSigns_24 : decode b_Text_compareSigns 24 = .ok (.aload_n 1, 1) := by decide +kernel
theorem d_Text_compareSigns_25 : decode b_Text_compareSigns 25 = .ok (.iload_n 3, 1) := by decide +kernel
theorem d_Text_compareSigns_26 : decode b_Text_compareSigns 26 = .ok (.invokevirtual 29, 3) := by decide +kernel
theorem d_Text_compareSigns_29 : decode b_Text_compareSigns 29 = .ok (.isub, 1) := by decide +kernel
theorem d_Text_compareSigns_30 : decode b_Text_compareSigns 30 = .ok (.istore 4, 2) := by decide +kernel
theorem d_Text_compareSigns_32 : decode b_Text_compareSigns 32 = .ok (.iload 4, 2) := by decide +kernel
theorem d_Text_compareSigns_34 : decode b_Text_compareSigns 34 = .ok (.ifCond .eq 6, 3) := by decide +kernel
theorem d_Text_compareSigns_37 : decode b_Text_compareSigns 37 = .ok (.iload 4, 2) := by decide +kernel
theorem d_Text_compareSigns_39 : decode b_Text_compareSigns 39 = .ok (.ireturn, 1) := by decide +kernel
theorem d_Text_compareSigns_40 : decode b_Text_compareSigns 40 = .ok (.iinc 3 1, 3) := by decide +kernel
theorem d_Text_compareSigns_43 : decode b_Text_compareSigns 43 = .ok (.goto (-29), 3) := by decide +kernel
theorem d_Text_compareSigns_46 : decode b_Text_compareSigns 46 = .ok (.aload_n 0, 1) := by decide +kernel
theorem d_Text_compareSigns_47 : decode b_Text_compareSigns 47 = .ok (.getfield 19, 3) := by decide +kernel
theorem d_Text_compareSigns_50 : decode b_Text_compareSigns 50 = .ok (.aload_n 1, 1) := by decide +kernel
theorem d_Text_compareSigns_51 : decode b_Text_compareSigns 51 = .ok (.getfield 19, 3) := by decide +kernel
theorem d_Text_compareSigns_54 : decode b_Text_compareSigns 54 = .ok (.isub, 1) := by decide +kernel
theorem d_Text_compareSigns_55 : decode b_Text_compareSigns 55 = .ok (.ireturn, 1) := by decide +kernel
abbrev rm_Text_compareSigns : Room := { frames := 2, cells := 0, slots := 0, locals := 40 }
abbrev C_Text_compareSigns (D : va_G) (g : Nat → ClassId) (p : Program) (s : State) (m : MethodId) (args : Array Value) (meth : Method) (c : Code) (M0 : Mem) : Prop := Cx p s m args c b_Text_compareSigns 5 R_Text BIG D vwCl (tysG g) (mA M0 s.heap.size) ∧ meth.sig.returnType = (some .int) ∧ meth.locks = false
abbrev B_Text_compareSigns (l : Launch) (D : va_G) (p : Program) (e : Env) (s : State) (m : MethodId) (args : Array Value) (below : List Frame) (meth : Method) (c : Code) (M0 : Mem) (P : Int32 → Prop) (M : Mem) (pc : Nat) (lv : List (Nat × Value)) (st : List Value) : Prop := Wb p l e rm_Text_compareSigns s m args below meth c 5 D vwCl M0 (kI fun r M' => M0 = M' ∧ P r) 0 0 M pc lv st
def wp_Text_compareSigns_b14 (g : Nat → ClassId) (P : Int32 → Prop) (M : Mem) (x0 : Nat) (x1 : Nat) (x2 : Int32) (x3 : Int32) : Prop :=
  ∃ (I : Int32 → Prop) (μ : Int32 → Nat), I x3 ∧ ∀ (x3 : Int32), I x3 →
  (x2 ≤ x3 → (∃ v2 : Int32, gI M 1 x0 2 = some v2 ∧ (∃ v3 : Int32, gI M 1 x1 2 = some v3 ∧ (P (v2 - v3))))) ∧ (¬ x2 ≤ x3 → (isO M 1 x0 ∧ (wp_Text_signAt g M x0 x3 (fun v4 : Int32 => isO M 1 x1 ∧ (wp_Text_signAt g M x1 x3 (fun v6 : Int32 => ((v4 - v6) = 0 → ((I (x3 + (1 : Int32)) ∧ μ (x3 + (1 : Int32)) < μ x3))) ∧ (¬ (v4 - v6) = 0 → (P (v4 - v6)))))))))
set_option maxHeartbeats 4000000 in
set_option maxRecDepth 100000 in
theorem t_Text_compareSigns_b14 {l : Launch} {D : va_G} {g : Nat → ClassId} {p : Program} {e : Env} {s : State} {m : MethodId} {args : Array Value} {below : List Frame} {meth : Method} {c : Code} {P : Int32 → Prop} {M : Mem} {x0 : Nat} {x1 : Nat} {x2 : Int32} {x3 : Int32} (C : C_Text_compareSigns D g p s m args meth c M) (h : wp_Text_compareSigns_b14 g P M x0 x1 x2 x3 ) : B_Text_compareSigns l D p e s m args below meth c M P M 14 [(0, .ref x0), (1, .ref x1), (2, .int x2), (3, .int x3)] [] := by
  unfold wp_Text_compareSigns_b14 at h
  obtain ⟨I, μ, hI, hb⟩ := h
  have key : ∀ (n : Nat) (x3 : Int32), I x3 → μ x3 < n → B_Text_compareSigns l D p e s m args below meth c M P M 14 [(0, .ref x0), (1, .ref x1), (2, .int x2), (3, .int x3)] [] := by
    intro n
    induction n with
    | zero => intro x3 _ hn; exact absurd hn (Nat.not_lt_zero _)
    | succ n ih =>
      intro x3 hI hn ls H locs hM hS hl
      have h := hb x3 hI
      refine lv_iload_n C.1.1 C.1.2.1 d_Text_compareSigns_14 rfl (lv_at hl 3 rfl) ?_
      refine lv_iload_n C.1.1 C.1.2.1 d_Text_compareSigns_15 rfl (lv_at hl 2 rfl) ?_
      refine lv_icmp_ge (tgt := 46) C.1.1 C.1.2.1 d_Text_compareSigns_16 (by decide) (fun c1 => ?_) (fun c1 => ?_)
      · have h := h.1 c1
        refine lv_aload_n C.1.1 C.1.2.1 d_Text_compareSigns_46 rfl (lv_at hl 0 rfl) ?_
        obtain ⟨v2, ev2, h⟩ := h
        refine mg_I C.1 hM ok_Text (by decide) kw103 ev2 d_Text_compareSigns_47 ?_
        refine lv_aload_n C.1.1 C.1.2.1 d_Text_compareSigns_50 rfl (lv_at hl 1 rfl) ?_
        obtain ⟨v3, ev3, h⟩ := h
        refine mg_I C.1 hM ok_Text (by decide) kw103 ev3 d_Text_compareSigns_51 ?_
        refine lv_isub C.1.1 C.1.2.1 d_Text_compareSigns_54 ?_
        exact mr_I C.1 C.2.1 C.2.2 hM hS ⟨_, rfl, rfl, h⟩ d_Text_compareSigns_55
      · have h := h.2 c1
        refine lv_aload_n C.1.1 C.1.2.1 d_Text_compareSigns_19 rfl (lv_at hl 0 rfl) ?_
        refine lv_iload_n C.1.1 C.1.2.1 d_Text_compareSigns_20 rfl (lv_at hl 3 rfl) ?_
        obtain ⟨ho, h⟩ := h
        refine mc_V (As := [.int x3]) (ci := 1) C.1 hM hS bigGood (c_Text_signAt h) rfl ho kw105 kw108 kw109 kw107 kw106 hd_Text_signAt ⟨by decide, by decide⟩ hl.1 rfl (Nat.le_of_ble_eq_true rfl) d_Text_compareSigns_21 (mc := 0) (ms := 0) rfl rfl ⟨by decide, by decide⟩ (fun v M' H locs hp hM hS => ?_)
        obtain ⟨v4, rfl, rfl, h⟩ := hp
        refine lv_aload_n C.1.1 C.1.2.1 d_Text_compareSigns_24 rfl (lv_at hl 1 rfl) ?_
        refine lv_iload_n C.1.1 C.1.2.1 d_Text_compareSigns_25 rfl (lv_at hl 3 rfl) ?_
        obtain ⟨ho, h⟩ := h
        refine mc_V (As := [.int x3]) (ci := 1) C.1 hM hS bigGood (c_Text_signAt h) rfl ho kw105 kw108 kw109 kw107 kw106 hd_Text_signAt ⟨by decide, by decide⟩ hl.1 rfl (Nat.le_of_ble_eq_true rfl) d_Text_compareSigns_26 (mc := 0) (ms := 0) rfl rfl ⟨by decide, by decide⟩ (fun v M' H locs hp hM hS => ?_)
        obtain ⟨v6, rfl, rfl, h⟩ := hp
        refine lv_isub C.1.1 C.1.2.1 d_Text_compareSigns_29 ?_
        refine lv_istore (lv' := [(4, .int (v4 - v6)), (0, .ref x0), (1, .ref x1), (2, .int x2), (3, .int x3)]) C.1.1 C.1.2.1 d_Text_compareSigns_30 hl (by decide) rfl (fun ls hl => ?_)
        refine lv_iload C.1.1 C.1.2.1 d_Text_compareSigns_32 (lv_at hl 0 rfl) ?_
        refine lv_if_eq (tgt := 40) C.1.1 C.1.2.1 d_Text_compareSigns_34 (by decide) (fun c8 => ?_) (fun c8 => ?_)
        · have h := h.1 c8
          refine lv_iinc (v := x3 + (1 : Int32)) (lv' := [(3, .int (x3 + (1 : Int32))), (4, .int (v4 - v6)), (0, .ref x0), (1, .ref x1), (2, .int x2)]) C.1.1 C.1.2.1 d_Text_compareSigns_40 hl (k := 4) rfl rfl (by decide) rfl (fun ls hl => ?_)
          refine lv_goto (tgt := 14) C.1.1 C.1.2.1 d_Text_compareSigns_43 (by decide) ?_
          exact ih (x3 + (1 : Int32)) h.1 (Nat.lt_of_lt_of_le h.2 (Nat.le_of_lt_succ hn)) _ _ _ hM hS (lv_sub hl [2, 3, 4, 0] rfl)
        · have h := h.2 c8
          refine lv_iload C.1.1 C.1.2.1 d_Text_compareSigns_37 (lv_at hl 0 rfl) ?_
          exact mr_I C.1 C.2.1 C.2.2 hM hS ⟨_, rfl, rfl, h⟩ d_Text_compareSigns_39
  exact key _ x3 hI (Nat.lt_succ_self _)
def wp_Text_compareSigns (g : Nat → ClassId) (M : Mem) (x0 : Nat) (x1 : Nat) (P : Int32 → Prop) : Prop :=
  ∃ v1 : Int32, gI M 1 x0 2 = some v1 ∧ (∃ v2 : Int32, gI M 1 x1 2 = some v2 ∧ (wp_Text_compareSigns_b14 g P M x0 x1 (m_minF v1 v2) (0 : Int32)))
set_option maxHeartbeats 4000000 in
set_option maxRecDepth 100000 in
theorem c_Text_compareSigns {l : Launch} {D : va_G} {g : Nat → ClassId} {M : Mem} {x0 : Nat} {x1 : Nat} {P : Int32 → Prop} (h : wp_Text_compareSigns g M x0 x1 P) : mMet l BIG D vwCl (tysG g) y_Text_compareSigns b_Text_compareSigns 5 (some .int) rm_Text_compareSigns [.ref x0, .ref x1] M (kI fun r M' => M = M' ∧ P r) := by
  refine mMet.of (own := R_Text) rfl (by decide) rfl (fun p e s m below meth c C hr hlk hnm ls hM hS hl => ?_)
  have C : C_Text_compareSigns D g p s m ([.ref x0, .ref x1] : List Value).toArray meth c M := ⟨C, hr, hlk⟩
  unfold wp_Text_compareSigns at h
  have hl : lv_has ls 5 [(0, .ref x0), (1, .ref x1)] := hl
  refine lv_aload_n C.1.1 C.1.2.1 d_Text_compareSigns_0 rfl (lv_at hl 0 rfl) ?_
  obtain ⟨v1, ev1, h⟩ := h
  refine mg_I C.1 hM ok_Text (by decide) kw103 ev1 d_Text_compareSigns_1 ?_
  refine lv_aload_n C.1.1 C.1.2.1 d_Text_compareSigns_4 rfl (lv_at hl 1 rfl) ?_
  obtain ⟨v2, ev2, h⟩ := h
  refine mg_I C.1 hM ok_Text (by decide) kw103 ev2 d_Text_compareSigns_5 ?_
  refine m_min C.1 kw110 kw111 kw112 kw113 hl.1 d_Text_compareSigns_8 (by decide) (by decide) (Nat.le_of_ble_eq_true rfl) (by decide) (by decide) ?_
  refine lv_istore_n (lv' := [(2, .int (m_minF v1 v2)), (0, .ref x0), (1, .ref x1)]) C.1.1 C.1.2.1 d_Text_compareSigns_11 rfl hl (by decide) rfl (fun ls hl => ?_)
  refine lv_iconst (v := (0 : Int32)) C.1.1 C.1.2.1 d_Text_compareSigns_12 (by decide) ?_
  refine lv_istore_n (lv' := [(3, .int (0 : Int32)), (2, .int (m_minF v1 v2)), (0, .ref x0), (1, .ref x1)]) C.1.1 C.1.2.1 d_Text_compareSigns_13 rfl hl (by decide) rfl (fun ls hl => ?_)
  exact t_Text_compareSigns_b14 C h _ _ _ hM hS (lv_sub hl [2, 3, 1, 0] rfl)
theorem d_Text_startPlaces_0 : decode b_Text_startPlaces 0 = .ok (.iconst 1, 1) := by decide +kernel
theorem d_Text_startPlaces_1 : decode b_Text_startPlaces 1 = .ok (.istore_n 1, 1) := by decide +kernel
theorem d_Text_startPlaces_2 : decode b_Text_startPlaces 2 = .ok (.iconst 0, 1) := by decide +kernel
theorem d_Text_startPlaces_3 : decode b_Text_startPlaces 3 = .ok (.istore_n 2, 1) := by decide +kernel
theorem d_Text_startPlaces_4 : decode b_Text_startPlaces 4 = .ok (.iload_n 2, 1) := by decide +kernel
theorem d_Text_startPlaces_5 : decode b_Text_startPlaces 5 = .ok (.aload_n 0, 1) := by decide +kernel
theorem d_Text_startPlaces_6 : decode b_Text_startPlaces 6 = .ok (.getfield 23, 3) := by decide +kernel
theorem d_Text_startPlaces_9 : decode b_Text_startPlaces 9 = .ok (.if_icmp .ge 27, 3) := by decide +kernel
theorem d_Text_startPlaces_12 : decode b_Text_startPlaces 12 = .ok (.aload_n 0, 1) := by decide +kernel
theorem d_Text_startPlaces_13 : decode b_Text_startPlaces 13 = .ok (.iload_n 2, 1) := by decide +kernel
theorem d_Text_startPlaces_14 : decode b_Text_startPlaces 14 = .ok (.invokevirtual 37, 3) := by decide +kernel
theorem d_Text_startPlaces_17 : decode b_Text_startPlaces 17 = .ok (.ldc2_w 70, 3) := by decide +kernel
theorem d_Text_startPlaces_20 : decode b_Text_startPlaces 20 = .ok (.lcmp, 1) := by decide +kernel
theorem d_Text_startPlaces_21 : decode b_Text_startPlaces 21 = .ok (.ifCond .ne 15, 3) := by decide +kernel
theorem d_Text_startPlaces_24 : decode b_Text_startPlaces 24 = .ok (.iload_n 1, 1) := by decide +kernel
theorem d_Text_startPlaces_25 : decode b_Text_startPlaces 25 = .ok (.iconst 2, 1) := by decide +kernel
theorem d_Text_startPlaces_26 : decode b_Text_startPlaces 26 = .ok (.iload_n 2, 1) := by decide +kernel
theorem d_Text_startPlaces_27 : decode b_Text_startPlaces 27 = .ok (.ishl, 1) := by decide +kernel
theorem d_Text_startPlaces_28 : decode b_Text_startPlaces 28 = .ok (.ior, 1) := by decide +kernel
theorem d_Text_startPlaces_29 : decode b_Text_startPlaces 29 = .ok (.istore_n 1, 1) := by decide +kernel
theorem d_Text_startPlaces_30 : decode b_Text_startPlaces 30 = .ok (.iinc 2 1, 3) := by decide +kernel
theorem d_Text_startPlaces_33 : decode b_Text_startPlaces 33 = .ok (.goto (-29), 3) := by decide +kernel
theorem d_Text_startPlaces_36 : decode b_Text_startPlaces 36 = .ok (.iload_n 1, 1) := by decide +kernel
theorem d_Text_startPlaces_37 : decode b_Text_startPlaces 37 = .ok (.ireturn, 1) := by decide +kernel
abbrev rm_Text_startPlaces : Room := { frames := 1, cells := 0, slots := 0, locals := 21 }
abbrev C_Text_startPlaces (D : va_G) (g : Nat → ClassId) (p : Program) (s : State) (m : MethodId) (args : Array Value) (meth : Method) (c : Code) (M0 : Mem) : Prop := Cx p s m args c b_Text_startPlaces 3 R_Text BIG D vwCl (tysG g) (mA M0 s.heap.size) ∧ meth.sig.returnType = (some .int) ∧ meth.locks = false
abbrev B_Text_startPlaces (l : Launch) (D : va_G) (p : Program) (e : Env) (s : State) (m : MethodId) (args : Array Value) (below : List Frame) (meth : Method) (c : Code) (M0 : Mem) (P : Int32 → Prop) (M : Mem) (pc : Nat) (lv : List (Nat × Value)) (st : List Value) : Prop := Wb p l e rm_Text_startPlaces s m args below meth c 3 D vwCl M0 (kI fun r M' => M0 = M' ∧ P r) 0 0 M pc lv st
def wp_Text_startPlaces_b36 (g : Nat → ClassId) (P : Int32 → Prop) (M : Mem) (x1 : Int32) : Prop :=
  P x1
set_option maxHeartbeats 4000000 in
set_option maxRecDepth 100000 in
theorem t_Text_startPlaces_b36 {l : Launch} {D : va_G} {g : Nat → ClassId} {p : Program} {e : Env} {s : State} {m : MethodId} {args : Array Value} {below : List Frame} {meth : Method} {c : Code} {P : Int32 → Prop} {M : Mem} {x1 : Int32} (C : C_Text_startPlaces D g p s m args meth c M) (h : wp_Text_startPlaces_b36 g P M x1 ) : B_Text_startPlaces l D p e s m args below meth c M P M 36 [(1, .int x1)] [] := by
  intro ls H locs hM hS hl
  unfold wp_Text_startPlaces_b36 at h
  refine lv_iload_n C.1.1 C.1.2.1 d_Text_startPlaces_36 rfl (lv_at hl 0 rfl) ?_
  exact mr_I C.1 C.2.1 C.2.2 hM hS ⟨_, rfl, rfl, h⟩ d_Text_startPlaces_37
def wp_Text_startPlaces_b4 (g : Nat → ClassId) (P : Int32 → Prop) (M : Mem) (x0 : Nat) (x1 : Int32) (x2 : Int32) : Prop :=
  ∃ (I : Int32 → Int32 → Prop) (μ : Int32 → Int32 → Nat), I x1 x2 ∧ ∀ (x1 : Int32) (x2 : Int32), I x1 x2 →
  ∃ v1 : Int32, gI M 1 x0 3 = some v1 ∧ ((v1 ≤ x2 → (wp_Text_startPlaces_b36 g P M x1)) ∧ (¬ v1 ≤ x2 → (isO M 1 x0 ∧ (wp_Text_partAt g M x0 x2 (fun v3 : Int64 => ((lg_cmp v3 (35 : Int64)) = 0 → ((I (x1 ||| ((2 : Int32) <<< (x2 &&& 31))) (x2 + (1 : Int32)) ∧ μ (x1 ||| ((2 : Int32) <<< (x2 &&& 31))) (x2 + (1 : Int32)) < μ x1 x2))) ∧ (¬ (lg_cmp v3 (35 : Int64)) = 0 → (wp_Text_startPlaces_b36 g P M x1)))))))
set_option maxHeartbeats 4000000 in
set_option maxRecDepth 100000 in
theorem t_Text_startPlaces_b4 {l : Launch} {D : va_G} {g : Nat → ClassId} {p : Program} {e : Env} {s : State} {m : MethodId} {args : Array Value} {below : List Frame} {meth : Method} {c : Code} {P : Int32 → Prop} {M : Mem} {x0 : Nat} {x1 : Int32} {x2 : Int32} (C : C_Text_startPlaces D g p s m args meth c M) (h : wp_Text_startPlaces_b4 g P M x0 x1 x2 ) : B_Text_startPlaces l D p e s m args below meth c M P M 4 [(0, .ref x0), (1, .int x1), (2, .int x2)] [] := by
  unfold wp_Text_startPlaces_b4 at h
  obtain ⟨I, μ, hI, hb⟩ := h
  have key : ∀ (n : Nat) (x1 : Int32) (x2 : Int32), I x1 x2 → μ x1 x2 < n → B_Text_startPlaces l D p e s m args below meth c M P M 4 [(0, .ref x0), (1, .int x1), (2, .int x2)] [] := by
    intro n
    induction n with
    | zero => intro x1 x2 _ hn; exact absurd hn (Nat.not_lt_zero _)
    | succ n ih =>
      intro x1 x2 hI hn ls H locs hM hS hl
      have h := hb x1 x2 hI
      refine lv_iload_n C.1.1 C.1.2.1 d_Text_startPlaces_4 rfl (lv_at hl 2 rfl) ?_
      refine lv_aload_n C.1.1 C.1.2.1 d_Text_startPlaces_5 rfl (lv_at hl 0 rfl) ?_
      obtain ⟨v1, ev1, h⟩ := h
      refine mg_I C.1 hM ok_Text (by decide) kw104 ev1 d_Text_startPlaces_6 ?_
      refine lv_icmp_ge (tgt := 36) C.1.1 C.1.2.1 d_Text_startPlaces_9 (by decide) (fun c2 => ?_) (fun c2 => ?_)
      · have h := h.1 c2
        exact t_Text_startPlaces_b36 C h _ _ _ hM hS (lv_sub hl [1] rfl)
      · have h := h.2 c2
        refine lv_aload_n C.1.1 C.1.2.1 d_Text_startPlaces_12 rfl (lv_at hl 0 rfl) ?_
        refine lv_iload_n C.1.1 C.1.2.1 d_Text_startPlaces_13 rfl (lv_at hl 2 rfl) ?_
        obtain ⟨ho, h⟩ := h
        refine mc_V (As := [.int x2]) (ci := 1) C.1 hM hS bigGood (c_Text_partAt h) rfl ho kw114 kw116 kw117 kw107 kw115 hd_Text_partAt ⟨by decide, by decide⟩ hl.1 rfl (Nat.le_of_ble_eq_true rfl) d_Text_startPlaces_14 (mc := 0) (ms := 0) rfl rfl ⟨by decide, by decide⟩ (fun v M' H locs hp hM hS => ?_)
        obtain ⟨v3, rfl, rfl, h⟩ := hp
        refine lv_ldc2 (v := (35 : Int64)) C.1.1 C.1.2.1 C.1.2.2.2.1 (C.1.2.2.2.2.1 _ kw118) d_Text_startPlaces_17 ?_
        refine W.lcmp C.1.1 C.1.2.1 d_Text_startPlaces_20 ?_
        refine lv_if_ne (tgt := 36) C.1.1 C.1.2.1 d_Text_startPlaces_21 (by decide) (fun c5 => ?_) (fun c5 => ?_)
        · have h := h.2 c5
          exact t_Text_startPlaces_b36 C h _ _ _ hM hS (lv_sub hl [1] rfl)
        · have h := h.1 c5
          refine lv_iload_n C.1.1 C.1.2.1 d_Text_startPlaces_24 rfl (lv_at hl 1 rfl) ?_
          refine lv_iconst (v := (2 : Int32)) C.1.1 C.1.2.1 d_Text_startPlaces_25 (by decide) ?_
          refine lv_iload_n C.1.1 C.1.2.1 d_Text_startPlaces_26 rfl (lv_at hl 2 rfl) ?_
          refine lv_ishl C.1.1 C.1.2.1 d_Text_startPlaces_27 ?_
          refine lv_ior C.1.1 C.1.2.1 d_Text_startPlaces_28 ?_
          refine lv_istore_n (lv' := [(1, .int (x1 ||| ((2 : Int32) <<< (x2 &&& 31)))), (0, .ref x0), (2, .int x2)]) C.1.1 C.1.2.1 d_Text_startPlaces_29 rfl hl (by decide) rfl (fun ls hl => ?_)
          refine lv_iinc (v := x2 + (1 : Int32)) (lv' := [(2, .int (x2 + (1 : Int32))), (1, .int (x1 ||| ((2 : Int32) <<< (x2 &&& 31)))), (0, .ref x0)]) C.1.1 C.1.2.1 d_Text_startPlaces_30 hl (k := 2) rfl rfl (by decide) rfl (fun ls hl => ?_)
          refine lv_goto (tgt := 4) C.1.1 C.1.2.1 d_Text_startPlaces_33 (by decide) ?_
          exact ih (x1 ||| ((2 : Int32) <<< (x2 &&& 31))) (x2 + (1 : Int32)) h.1 (Nat.lt_of_lt_of_le h.2 (Nat.le_of_lt_succ hn)) _ _ _ hM hS (lv_sub hl [2, 1, 0] rfl)
  exact key _ x1 x2 hI (Nat.lt_succ_self _)
def wp_Text_startPlaces (g : Nat → ClassId) (M : Mem) (x0 : Nat) (P : Int32 → Prop) : Prop :=
  wp_Text_startPlaces_b4 g P M x0 (1 : Int32) (0 : Int32)
set_option maxHeartbeats 4000000 in
set_option maxRecDepth 100000 in
theorem c_Text_startPlaces {l : Launch} {D : va_G} {g : Nat → ClassId} {M : Mem} {x0 : Nat} {P : Int32 → Prop} (h : wp_Text_startPlaces g M x0 P) : mMet l BIG D vwCl (tysG g) y_Text_startPlaces b_Text_startPlaces 3 (some .int) rm_Text_startPlaces [.ref x0] M (kI fun r M' => M = M' ∧ P r) := by
  refine mMet.of (own := R_Text) rfl (by decide) rfl (fun p e s m below meth c C hr hlk hnm ls hM hS hl => ?_)
  have C : C_Text_startPlaces D g p s m ([.ref x0] : List Value).toArray meth c M := ⟨C, hr, hlk⟩
  unfold wp_Text_startPlaces at h
  have hl : lv_has ls 3 [(0, .ref x0)] := hl
  refine lv_iconst (v := (1 : Int32)) C.1.1 C.1.2.1 d_Text_startPlaces_0 (by decide) ?_
  refine lv_istore_n (lv' := [(1, .int (1 : Int32)), (0, .ref x0)]) C.1.1 C.1.2.1 d_Text_startPlaces_1 rfl hl (by decide) rfl (fun ls hl => ?_)
  refine lv_iconst (v := (0 : Int32)) C.1.1 C.1.2.1 d_Text_startPlaces_2 (by decide) ?_
  refine lv_istore_n (lv' := [(2, .int (0 : Int32)), (1, .int (1 : Int32)), (0, .ref x0)]) C.1.1 C.1.2.1 d_Text_startPlaces_3 rfl hl (by decide) rfl (fun ls hl => ?_)
  exact t_Text_startPlaces_b4 C h _ _ _ hM hS (lv_sub hl [2, 1, 0] rfl)
theorem d_Text_placesBehind_0 : decode b_Text_placesBehind 0 = .ok (.iconst 0, 1) := by decide +kernel
theorem d_Text_placesBehind_1 : decode b_Text_placesBehind 1 = .ok (.istore 4, 2) := by decide +kernel
theorem d_Text_placesBehind_3 : decode b_Text_placesBehind 3 = .ok (.iconst 0, 1) := by decide +kernel
theorem d_Text_placesBehind_4 : decode b_Text_placesBehind 4 = .ok (.istore 5, 2) := by decide +kernel
theorem d_Text_placesBehind_6 : decode b_Text_placesBehind 6 = .ok (.iload 5, 2) := by decide +kernel
theorem d_Text_placesBehind_8 : decode b_Text_placesBehind 8 = .ok (.aload_n 0, 1) := by decide +kernel
theorem d_Text_placesBehind_9 : decode b_Text_placesBehind 9 = .ok (.getfield 23, 3) := by decide +kernel
theorem d_Text_placesBehind_12 : decode b_Text_placesBehind 12 = .ok (.if_icmp .ge 103, 3) := by decide +kernel
theorem d_Text_placesBehind_15 : decode b_Text_placesBehind 15 = .ok (.aload_n 0, 1) := by decide +kernel
theorem d_Text_placesBehind_16 : decode b_Text_placesBehind 16 = .ok (.iload 5, 2) := by decide +kernel
theorem d_Text_placesBehind_18 : decode b_Text_placesBehind 18 = .ok (.invokevirtual 37, 3) := by decide +kernel
theorem d_Text_placesBehind_21 : decode b_Text_placesBehind 21 = .ok (.lstore 6, 2) := by decide +kernel
theorem d_Text_placesBehind_23 : decode b_Text_placesBehind 23 = .ok (.iload_n 1, 1) := by decide +kernel
theorem d_Text_placesBehind_24 : decode b_Text_placesBehind 24 = .ok (.iload 5, 2) := by decide +kernel
theorem d_Text_placesBehind_26 : decode b_Text_placesBehind 26 = .ok (.ishr, 1) := by decide +kernel
theorem d_Text_placesBehind_27 : decode b_Text_placesBehind 27 = .ok (.iconst 1, 1) := by decide +kernel
theorem d_Text_placesBehind_28 : decode b_Text_placesBehind 28 = .ok (.iand, 1) := by decide +kernel
theorem d_Text_placesBehind_29 : decode b_Text_placesBehind 29 = .ok (.ifCond .eq 7, 3) := by decide +kernel
theorem d_Text_placesBehind_32 : decode b_Text_placesBehind 32 = .ok (.iconst 1, 1) := by decide +kernel
theorem d_Text_placesBehind_33 : decode b_Text_placesBehind 33 = .ok (.goto 4, 3) := by decide +kernel
theorem d_Text_placesBehind_36 : decode b_Text_placesBehind 36 = .ok (.iconst 0, 1) := by decide +kernel
theorem d_Text_placesBehind_37 : decode b_Text_placesBehind 37 = .ok (.istore 8, 2) := by decide +kernel
theorem d_Text_placesBehind_39 : decode b_Text_placesBehind 39 = .ok (.lload 6, 2) := by decide +kernel
theorem d_Text_placesBehind_41 : decode b_Text_placesBehind 41 = .ok (.ldc2_w 70, 3) := by decide +kernel
theorem d_Text_placesBehind_44 : decode b_Text_placesBehind 44 = .ok (.lcmp, 1) := by decide +kernel
theorem d_Text_placesBehind_45 : decode b_Text_placesBehind 45 = .ok (.ifCond .ne 34, 3) := by decide +kernel
theorem d_Text_placesBehind_48 : decode b_Text_placesBehind 48 = .ok (.iload 8, 2) := by decide +kernel
theorem d_Text_placesBehind_50 : decode b_Text_placesBehind 50 = .ok (.ifCond .eq 12, 3) := by decide +kernel
theorem d_Text_placesBehind_53 : decode b_Text_placesBehind 53 = .ok (.iload 4, 2) := by decide +kernel
theorem d_Text_placesBehind_55 : decode b_Text_placesBehind 55 = .ok (.iconst 1, 1) := by decide +kernel
theorem d_Text_placesBehind_56 : decode b_Text_placesBehind 56 = .ok (.iload 5, 2) := by decide +kernel
theorem d_Text_placesBehind_58 : decode b_Text_placesBehind 58 = .ok (.ishl, 1) := by decide +kernel
theorem d_Text_placesBehind_59 : decode b_Text_placesBehind 59 = .ok (.ior, 1) := by decide +kernel
theorem d_Text_placesBehind_60 : decode b_Text_placesBehind 60 = .ok (.istore 4, 2) := by decide +kernel
theorem d_Text_placesBehind_62 : decode b_Text_placesBehind 62 = .ok (.iload 4, 2) := by decide +kernel
theorem d_Text_placesBehind_64 : decode b_Text_placesBehind 64 = .ok (.iload 4, 2) := by decide +kernel
theorem d_Text_placesBehind_66 : decode b_Text_placesBehind 66 = .ok (.iconst 1, 1) := by decide +kernel
theorem d_Text_placesBehind_67 : decode b_Text_placesBehind 67 = .ok (.iload 5, 2) := by decide +kernel
theorem d_Text_placesBehind_69 : decode b_Text_placesBehind 69 = .ok (.ishl, 1) := by decide +kernel
theorem d_Text_placesBehind_70 : decode b_Text_placesBehind 70 = .ok (.iand, 1) := by decide +kernel
theorem d_Text_placesBehind_71 : decode b_Text_placesBehind 71 = .ok (.iconst 1, 1) := by decide +kernel
theorem d_Text_placesBehind_72 : decode b_Text_placesBehind 72 = .ok (.ishl, 1) := by decide +kernel
theorem d_Text_placesBehind_73 : decode b_Text_placesBehind 73 = .ok (.ior, 1) := by decide +kernel
theorem d_Text_placesBehind_74 : decode b_Text_placesBehind 74 = .ok (.istore 4, 2) := by decide +kernel
theorem d_Text_placesBehind_76 : decode b_Text_placesBehind 76 = .ok (.goto 33, 3) := by decide +kernel
theorem d_Text_placesBehind_79 : decode b_Text_placesBehind 79 = .ok (.iload 8, 2) := by decide +kernel
theorem d_Text_placesBehind_81 : decode b_Text_placesBehind 81 = .ok (.ifCond .eq 28, 3) := by decide +kernel
theorem d_Text_placesBehind_84 : decode b_Text_placesBehind 84 = .ok (.lload 6, 2) := by decide +kernel
theorem d_Text_placesBehind_86 : decode b_Text_placesBehind 86 = .ok (.ldc2_w 72, 3) := by decide +kernel
theorem d_Text_placesBehind_89 : decode b_Text_placesBehind 89 = .ok (.lcmp, 1) := by decide +kernel
theorem d_Text_placesBehind_90 : decode b_Text_placesBehind 90 = .ok (.ifCond .eq 10, 3) := by decide +kernel
theorem d_Text_placesBehind_93 : decode b_Text_placesBehind 93 = .ok (.lload 6, 2) := by decide +kernel
theorem d_Text_placesBehind_95 : decode b_Text_placesBehind 95 = .ok (.lload_n 2, 1) := by decide +kernel
theorem d_Text_placesBehind_96 : decode b_Text_placesBehind 96 = .ok (.lcmp, 1) := by decide +kernel
theorem d_Text_placesBehind_97 : decode b_Text_placesBehind 97 = .ok (.ifCond .ne 12, 3) := by decide +kernel
theorem d_Text_placesBehind_100 : decode b_Text_placesBehind 100 = .ok (.iload 4, 2) := by decide +kernel
theorem d_Text_placesBehind_102 : decode b_Text_placesBehind 102 = .ok (.iconst 2, 1) := by decide +kernel
theorem d_Text_placesBehind_103 : decode b_Text_placesBehind 103 = .ok (.iload 5, 2) := by decide +kernel
theorem d_Text_placesBehind_105 : decode b_Text_placesBehind 105 = .ok (.ishl, 1) := by decide +kernel
theorem d_Text_placesBehind_106 : decode b_Text_placesBehind 106 = .ok (.ior, 1) := by decide +kernel
theorem d_Text_placesBehind_107 : decode b_Text_placesBehind 107 = .ok (.istore 4, 2) := by decide +kernel
theorem d_Text_placesBehind_109 : decode b_Text_placesBehind 109 = .ok (.iinc 5 1, 3) := by decide +kernel
theorem d_Text_placesBehind_112 : decode b_Text_placesBehind 112 = .ok (.goto (-106), 3) := by decide +kernel
theorem d_Text_placesBehind_115 : decode b_Text_placesBehind 115 = .ok (.iload 4, 2) := by decide +kernel
theorem d_Text_placesBehind_117 : decode b_Text_placesBehind 117 = .ok (.ireturn, 1) := by decide +kernel
abbrev rm_Text_placesBehind : Room := { frames := 1, cells := 0, slots := 0, locals := 21 }
abbrev C_Text_placesBehind (D : va_G) (g : Nat → ClassId) (p : Program) (s : State) (m : MethodId) (args : Array Value) (meth : Method) (c : Code) (M0 : Mem) : Prop := Cx p s m args c b_Text_placesBehind 9 R_Text BIG D vwCl (tysG g) (mA M0 s.heap.size) ∧ meth.sig.returnType = (some .int) ∧ meth.locks = false
abbrev B_Text_placesBehind (l : Launch) (D : va_G) (p : Program) (e : Env) (s : State) (m : MethodId) (args : Array Value) (below : List Frame) (meth : Method) (c : Code) (M0 : Mem) (P : Int32 → Prop) (M : Mem) (pc : Nat) (lv : List (Nat × Value)) (st : List Value) : Prop := Wb p l e rm_Text_placesBehind s m args below meth c 9 D vwCl M0 (kI fun r M' => M0 = M' ∧ P r) 0 0 M pc lv st
def wp_Text_placesBehind_b109 (g : Nat → ClassId) (P : Int32 → Prop) (J6 : Int32 → Int32 → Prop) (M : Mem) (x0 : Nat) (x1 : Int32) (x2 : Int64) (x4 : Int32) (x5 : Int32) : Prop :=
  J6 x4 (x5 + (1 : Int32))
set_option maxHeartbeats 4000000 in
set_option maxRecDepth 100000 in
theorem t_Text_placesBehind_b109 {l : Launch} {D : va_G} {g : Nat → ClassId} {p : Program} {e : Env} {s : State} {m : MethodId} {args : Array Value} {below : List Frame} {meth : Method} {c : Code} {P : Int32 → Prop} {J6 : Int32 → Int32 → Prop} {M : Mem} {x0 : Nat} {x1 : Int32} {x2 : Int64} {x4 : Int32} {x5 : Int32} (C : C_Text_placesBehind D g p s m args meth c M) (h : wp_Text_placesBehind_b109 g P J6 M x0 x1 x2 x4 x5 ) (kJ6 : ∀ (x4 : Int32) (x5 : Int32), J6 x4 x5 → B_Text_placesBehind l D p e s m args below meth c M P M 6 [(0, .ref x0), (1, .int x1), (2, .long x2), (4, .int x4), (5, .int x5)] []) : B_Text_placesBehind l D p e s m args below meth c M P M 109 [(0, .ref x0), (1, .int x1), (2, .long x2), (4, .int x4), (5, .int x5)] [] := by
  intro ls H locs hM hS hl
  unfold wp_Text_placesBehind_b109 at h
  refine lv_iinc (v := x5 + (1 : Int32)) (lv' := [(5, .int (x5 + (1 : Int32))), (0, .ref x0), (1, .int x1), (2, .long x2), (4, .int x4)]) C.1.1 C.1.2.1 d_Text_placesBehind_109 hl (k := 4) rfl rfl (by decide) rfl (fun ls hl => ?_)
  refine lv_goto (tgt := 6) C.1.1 C.1.2.1 d_Text_placesBehind_112 (by decide) ?_
  exact kJ6 x4 (x5 + (1 : Int32)) h _ _ _ hM hS (lv_sub hl [1, 2, 3, 4, 0] rfl)
def wp_Text_placesBehind_b100 (g : Nat → ClassId) (P : Int32 → Prop) (J6 : Int32 → Int32 → Prop) (M : Mem) (x0 : Nat) (x1 : Int32) (x2 : Int64) (x4 : Int32) (x5 : Int32) : Prop :=
  wp_Text_placesBehind_b109 g P J6 M x0 x1 x2 (x4 ||| ((2 : Int32) <<< (x5 &&& 31))) x5
set_option maxHeartbeats 4000000 in
set_option maxRecDepth 100000 in
theorem t_Text_placesBehind_b100 {l : Launch} {D : va_G} {g : Nat → ClassId} {p : Program} {e : Env} {s : State} {m : MethodId} {args : Array Value} {below : List Frame} {meth : Method} {c : Code} {P : Int32 → Prop} {J6 : Int32 → Int32 → Prop} {M : Mem} {x0 : Nat} {x1 : Int32} {x2 : Int64} {x4 : Int32} {x5 : Int32} (C : C_Text_placesBehind D g p s m args meth c M) (h : wp_Text_placesBehind_b100 g P J6 M x0 x1 x2 x4 x5 ) (kJ6 : ∀ (x4 : Int32) (x5 : Int32), J6 x4 x5 → B_Text_placesBehind l D p e s m args below meth c M P M 6 [(0, .ref x0), (1, .int x1), (2, .long x2), (4, .int x4), (5, .int x5)] []) : B_Text_placesBehind l D p e s m args below meth c M P M 100 [(0, .ref x0), (1, .int x1), (2, .long x2), (4, .int x4), (5, .int x5)] [] := by
  intro ls H locs hM hS hl
  unfold wp_Text_placesBehind_b100 at h
  refine lv_iload C.1.1 C.1.2.1 d_Text_placesBehind_100 (lv_at hl 3 rfl) ?_
  refine lv_iconst (v := (2 : Int32)) C.1.1 C.1.2.1 d_Text_placesBehind_102 (by decide) ?_
  refine lv_iload C.1.1 C.1.2.1 d_Text_placesBehind_103 (lv_at hl 4 rfl) ?_
  refine lv_ishl C.1.1 C.1.2.1 d_Text_placesBehind_105 ?_
  refine lv_ior C.1.1 C.1.2.1 d_Text_placesBehind_106 ?_
  refine lv_istore (lv' := [(4, .int (x4 ||| ((2 : Int32) <<< (x5 &&& 31)))), (0, .ref x0), (1, .int x1), (2, .long x2), (5, .int x5)]) C.1.1 C.1.2.1 d_Text_placesBehind_107 hl (by decide) rfl (fun ls hl => ?_)
  exact t_Text_placesBehind_b109 C h kJ6 _ _ _ hM hS (lv_sub hl [1, 2, 3, 0, 4] rfl)
def wp_Text_placesBehind_b62 (g : Nat → ClassId) (P : Int32 → Prop) (J6 : Int32 → Int32 → Prop) (M : Mem) (x0 : Nat) (x1 : Int32) (x2 : Int64) (x4 : Int32) (x5 : Int32) : Prop :=
  wp_Text_placesBehind_b109 g P J6 M x0 x1 x2 (x4 ||| ((x4 &&& ((1 : Int32) <<< (x5 &&& 31))) <<< ((1 : Int32) &&& 31))) x5
set_option maxHeartbeats 4000000 in
set_option maxRecDepth 100000 in
theorem t_Text_placesBehind_b62 {l : Launch} {D : va_G} {g : Nat → ClassId} {p : Program} {e : Env} {s : State} {m : MethodId} {args : Array Value} {below : List Frame} {meth : Method} {c : Code} {P : Int32 → Prop} {J6 : Int32 → Int32 → Prop} {M : Mem} {x0 : Nat} {x1 : Int32} {x2 : Int64} {x4 : Int32} {x5 : Int32} (C : C_Text_placesBehind D g p s m args meth c M) (h : wp_Text_placesBehind_b62 g P J6 M x0 x1 x2 x4 x5 ) (kJ6 : ∀ (x4 : Int32) (x5 : Int32), J6 x4 x5 → B_Text_placesBehind l D p e s m args below meth c M P M 6 [(0, .ref x0), (1, .int x1), (2, .long x2), (4, .int x4), (5, .int x5)] []) : B_Text_placesBehind l D p e s m args below meth c M P M 62 [(0, .ref x0), (1, .int x1), (2, .long x2), (4, .int x4), (5, .int x5)] [] := by
  intro ls H locs hM hS hl
  unfold wp_Text_placesBehind_b62 at h
  refine lv_iload C.1.1 C.1.2.1 d_Text_placesBehind_62 (lv_at hl 3 rfl) ?_
  refine lv_iload C.1.1 C.1.2.1 d_Text_placesBehind_64 (lv_at hl 3 rfl) ?_
  refine lv_iconst (v := (1 : Int32)) C.1.1 C.1.2.1 d_Text_placesBehind_66 (by decide) ?_
  refine lv_iload C.1.1 C.1.2.1 d_Text_placesBehind_67 (lv_at hl 4 rfl) ?_
  refine lv_ishl C.1.1 C.1.2.1 d_Text_placesBehind_69 ?_
  refine lv_iand C.1.1 C.1.2.1 d_Text_placesBehind_70 ?_
  refine lv_iconst (v := (1 : Int32)) C.1.1 C.1.2.1 d_Text_placesBehind_71 (by decide) ?_
  refine lv_ishl C.1.1 C.1.2.1 d_Text_placesBehind_72 ?_
  refine lv_ior C.1.1 C.1.2.1 d_Text_placesBehind_73 ?_
  refine lv_istore (lv' := [(4, .int (x4 ||| ((x4 &&& ((1 : Int32) <<< (x5 &&& 31))) <<< ((1 : Int32) &&& 31)))), (0, .ref x0), (1, .int x1), (2, .long x2), (5, .int x5)]) C.1.1 C.1.2.1 d_Text_placesBehind_74 hl (by decide) rfl (fun ls hl => ?_)
  refine lv_goto (tgt := 109) C.1.1 C.1.2.1 d_Text_placesBehind_76 (by decide) ?_
  exact t_Text_placesBehind_b109 C h kJ6 _ _ _ hM hS (lv_sub hl [1, 2, 3, 0, 4] rfl)
def wp_Text_placesBehind_b37 (g : Nat → ClassId) (P : Int32 → Prop) (J6 : Int32 → Int32 → Prop) (M : Mem) (x0 : Nat) (x1 : Int32) (x2 : Int64) (x4 : Int32) (x5 : Int32) (x6 : Int64) (t0 : Int32) : Prop :=
  ((lg_cmp x6 (35 : Int64)) = 0 → ((t0 = 0 → (wp_Text_placesBehind_b62 g P J6 M x0 x1 x2 x4 x5)) ∧ (¬ t0 = 0 → (wp_Text_placesBehind_b62 g P J6 M x0 x1 x2 (x4 ||| ((1 : Int32) <<< (x5 &&& 31))) x5)))) ∧ (¬ (lg_cmp x6 (35 : Int64)) = 0 → ((t0 = 0 → (wp_Text_placesBehind_b109 g P J6 M x0 x1 x2 x4 x5)) ∧ (¬ t0 = 0 → (((lg_cmp x6 (42 : Int64)) = 0 → (wp_Text_placesBehind_b100 g P J6 M x0 x1 x2 x4 x5)) ∧ (¬ (lg_cmp x6 (42 : Int64)) = 0 → (((lg_cmp x6 x2) = 0 → (wp_Text_placesBehind_b100 g P J6 M x0 x1 x2 x4 x5)) ∧ (¬ (lg_cmp x6 x2) = 0 → (wp_Text_placesBehind_b109 g P J6 M x0 x1 x2 x4 x5))))))))
set_option maxHeartbeats 4000000 in
set_option maxRecDepth 100000 in
theorem t_Text_placesBehind_b37 {l : Launch} {D : va_G} {g : Nat → ClassId} {p : Program} {e : Env} {s : State} {m : MethodId} {args : Array Value} {below : List Frame} {meth : Method} {c : Code} {P : Int32 → Prop} {J6 : Int32 → Int32 → Prop} {M : Mem} {x0 : Nat} {x1 : Int32} {x2 : Int64} {x4 : Int32} {x5 : Int32} {x6 : Int64} {t0 : Int32} (C : C_Text_placesBehind D g p s m args meth c M) (h : wp_Text_placesBehind_b37 g P J6 M x0 x1 x2 x4 x5 x6 t0) (kJ6 : ∀ (x4 : Int32) (x5 : Int32), J6 x4 x5 → B_Text_placesBehind l D p e s m args below meth c M P M 6 [(0, .ref x0), (1, .int x1), (2, .long x2), (4, .int x4), (5, .int x5)] []) : B_Text_placesBehind l D p e s m args below meth c M P M 37 [(0, .ref x0), (1, .int x1), (2, .long x2), (4, .int x4), (5, .int x5), (6, .long x6)] [.int t0] := by
  intro ls H locs hM hS hl
  unfold wp_Text_placesBehind_b37 at h
  refine lv_istore (lv' := [(8, .int t0), (0, .ref x0), (1, .int x1), (2, .long x2), (4, .int x4), (5, .int x5), (6, .long x6)]) C.1.1 C.1.2.1 d_Text_placesBehind_37 hl (by decide) rfl (fun ls hl => ?_)
  refine lv_lload C.1.1 C.1.2.1 d_Text_placesBehind_39 (lv_at hl 6 rfl) ?_
  refine lv_ldc2 (v := (35 : Int64)) C.1.1 C.1.2.1 C.1.2.2.2.1 (C.1.2.2.2.2.1 _ kw118) d_Text_placesBehind_41 ?_
  refine W.lcmp C.1.1 C.1.2.1 d_Text_placesBehind_44 ?_
  refine lv_if_ne (tgt := 79) C.1.1 C.1.2.1 d_Text_placesBehind_45 (by decide) (fun c1 => ?_) (fun c1 => ?_)
  · have h := h.2 c1
    refine lv_iload C.1.1 C.1.2.1 d_Text_placesBehind_79 (lv_at hl 0 rfl) ?_
    refine lv_if_eq (tgt := 109) C.1.1 C.1.2.1 d_Text_placesBehind_81 (by decide) (fun c2 => ?_) (fun c2 => ?_)
    · have h := h.1 c2
      exact t_Text_placesBehind_b109 C h kJ6 _ _ _ hM hS (lv_sub hl [1, 2, 3, 4, 5] rfl)
    · have h := h.2 c2
      refine lv_lload C.1.1 C.1.2.1 d_Text_placesBehind_84 (lv_at hl 6 rfl) ?_
      refine lv_ldc2 (v := (42 : Int64)) C.1.1 C.1.2.1 C.1.2.2.2.1 (C.1.2.2.2.2.1 _ kw119) d_Text_placesBehind_86 ?_
      refine W.lcmp C.1.1 C.1.2.1 d_Text_placesBehind_89 ?_
      refine lv_if_eq (tgt := 100) C.1.1 C.1.2.1 d_Text_placesBehind_90 (by decide) (fun c3 => ?_) (fun c3 => ?_)
      · have h := h.1 c3
        exact t_Text_placesBehind_b100 C h kJ6 _ _ _ hM hS (lv_sub hl [1, 2, 3, 4, 5] rfl)
      · have h := h.2 c3
        refine lv_lload C.1.1 C.1.2.1 d_Text_placesBehind_93 (lv_at hl 6 rfl) ?_
        refine lv_lload_n C.1.1 C.1.2.1 d_Text_placesBehind_95 rfl (lv_at hl 3 rfl) ?_
        refine W.lcmp C.1.1 C.1.2.1 d_Text_placesBehind_96 ?_
        refine lv_if_ne (tgt := 109) C.1.1 C.1.2.1 d_Text_placesBehind_97 (by decide) (fun c4 => ?_) (fun c4 => ?_)
        · have h := h.2 c4
          exact t_Text_placesBehind_b109 C h kJ6 _ _ _ hM hS (lv_sub hl [1, 2, 3, 4, 5] rfl)
        · have h := h.1 c4
          exact t_Text_placesBehind_b100 C h kJ6 _ _ _ hM hS (lv_sub hl [1, 2, 3, 4, 5] rfl)
  · have h := h.1 c1
    refine lv_iload C.1.1 C.1.2.1 d_Text_placesBehind_48 (lv_at hl 0 rfl) ?_
    refine lv_if_eq (tgt := 62) C.1.1 C.1.2.1 d_Text_placesBehind_50 (by decide) (fun c5 => ?_) (fun c5 => ?_)
    · have h := h.1 c5
      exact t_Text_placesBehind_b62 C h kJ6 _ _ _ hM hS (lv_sub hl [1, 2, 3, 4, 5] rfl)
    · have h := h.2 c5
      refine lv_iload C.1.1 C.1.2.1 d_Text_placesBehind_53 (lv_at hl 4 rfl) ?_
      refine lv_iconst (v := (1 : Int32)) C.1.1 C.1.2.1 d_Text_placesBehind_55 (by decide) ?_
      refine lv_iload C.1.1 C.1.2.1 d_Text_placesBehind_56 (lv_at hl 5 rfl) ?_
      refine lv_ishl C.1.1 C.1.2.1 d_Text_placesBehind_58 ?_
      refine lv_ior C.1.1 C.1.2.1 d_Text_placesBehind_59 ?_
      refine lv_istore (lv' := [(4, .int (x4 ||| ((1 : Int32) <<< (x5 &&& 31)))), (8, .int t0), (0, .ref x0), (1, .int x1), (2, .long x2), (5, .int x5), (6, .long x6)]) C.1.1 C.1.2.1 d_Text_placesBehind_60 hl (by decide) rfl (fun ls hl => ?_)
      exact t_Text_placesBehind_b62 C h kJ6 _ _ _ hM hS (lv_sub hl [2, 3, 4, 0, 5] rfl)
def wp_Text_placesBehind_b6 (g : Nat → ClassId) (P : Int32 → Prop) (M : Mem) (x0 : Nat) (x1 : Int32) (x2 : Int64) (x4 : Int32) (x5 : Int32) : Prop :=
  ∃ (I : Int32 → Int32 → Prop) (μ : Int32 → Int32 → Nat), I x4 x5 ∧ ∀ (x4 : Int32) (x5 : Int32), I x4 x5 →
  ∃ v1 : Int32, gI M 1 x0 3 = some v1 ∧ ((v1 ≤ x5 → (P x4)) ∧ (¬ v1 ≤ x5 → (isO M 1 x0 ∧ (wp_Text_partAt g M x0 x5 (fun v3 : Int64 => (((x1 >>> (x5 &&& 31)) &&& (1 : Int32)) = 0 → (wp_Text_placesBehind_b37 g P (fun y4 y5 => I y4 y5 ∧ μ y4 y5 < μ x4 x5) M x0 x1 x2 x4 x5 v3 (0 : Int32))) ∧ (¬ ((x1 >>> (x5 &&& 31)) &&& (1 : Int32)) = 0 → (wp_Text_placesBehind_b37 g P (fun y4 y5 => I y4 y5 ∧ μ y4 y5 < μ x4 x5) M x0 x1 x2 x4 x5 v3 (1 : Int32))))))))
set_option maxHeartbeats 4000000 in
set_option maxRecDepth 100000 in
theorem t_Text_placesBehind_b6 {l : Launch} {D : va_G} {g : Nat → ClassId} {p : Program} {e : Env} {s : State} {m : MethodId} {args : Array Value} {below : List Frame} {meth : Method} {c : Code} {P : Int32 → Prop} {M : Mem} {x0 : Nat} {x1 : Int32} {x2 : Int64} {x4 : Int32} {x5 : Int32} (C : C_Text_placesBehind D g p s m args meth c M) (h : wp_Text_placesBehind_b6 g P M x0 x1 x2 x4 x5 ) : B_Text_placesBehind l D p e s m args below meth c M P M 6 [(0, .ref x0), (1, .int x1), (2, .long x2), (4, .int x4), (5, .int x5)] [] := by
  unfold wp_Text_placesBehind_b6 at h
  obtain ⟨I, μ, hI, hb⟩ := h
  have key : ∀ (n : Nat) (x4 : Int32) (x5 : Int32), I x4 x5 → μ x4 x5 < n → B_Text_placesBehind l D p e s m args below meth c M P M 6 [(0, .ref x0), (1, .int x1), (2, .long x2), (4, .int x4), (5, .int x5)] [] := by
    intro n
    induction n with
    | zero => intro x4 x5 _ hn; exact absurd hn (Nat.not_lt_zero _)
    | succ n ih =>
      intro x4 x5 hI hn ls H locs hM hS hl
      have h := hb x4 x5 hI
      refine lv_iload C.1.1 C.1.2.1 d_Text_placesBehind_6 (lv_at hl 4 rfl) ?_
      refine lv_aload_n C.1.1 C.1.2.1 d_Text_placesBehind_8 rfl (lv_at hl 0 rfl) ?_
      obtain ⟨v1, ev1, h⟩ := h
      refine mg_I C.1 hM ok_Text (by decide) kw104 ev1 d_Text_placesBehind_9 ?_
      refine lv_icmp_ge (tgt := 115) C.1.1 C.1.2.1 d_Text_placesBehind_12 (by decide) (fun c2 => ?_) (fun c2 => ?_)
      · have h := h.1 c2
        refine lv_iload C.1.1 C.1.2.1 d_Text_placesBehind_115 (lv_at hl 3 rfl) ?_
        exact mr_I C.1 C.2.1 C.2.2 hM hS ⟨_, rfl, rfl, h⟩ d_Text_placesBehind_117
      · have h := h.2 c2
        refine lv_aload_n C.1.1 C.1.2.1 d_Text_placesBehind_15 rfl (lv_at hl 0 rfl) ?_
        refine lv_iload C.1.1 C.1.2.1 d_Text_placesBehind_16 (lv_at hl 4 rfl) ?_
        obtain ⟨ho, h⟩ := h
        refine mc_V (As := [.int x5]) (ci := 1) C.1 hM hS bigGood (c_Text_partAt h) rfl ho kw114 kw116 kw117 kw107 kw115 hd_Text_partAt ⟨by decide, by decide⟩ hl.1 rfl (Nat.le_of_ble_eq_true rfl) d_Text_placesBehind_18 (mc := 0) (ms := 0) rfl rfl ⟨by decide, by decide⟩ (fun v M' H locs hp hM hS => ?_)
        obtain ⟨v3, rfl, rfl, h⟩ := hp
        refine lv_lstore (lv' := [(6, .long v3), (0, .ref x0), (1, .int x1), (2, .long x2), (4, .int x4), (5, .int x5)]) C.1.1 C.1.2.1 d_Text_placesBehind_21 hl (by decide) rfl (fun ls hl => ?_)
        refine lv_iload_n C.1.1 C.1.2.1 d_Text_placesBehind_23 rfl (lv_at hl 2 rfl) ?_
        refine lv_iload C.1.1 C.1.2.1 d_Text_placesBehind_24 (lv_at hl 5 rfl) ?_
        refine lv_ishr C.1.1 C.1.2.1 d_Text_placesBehind_26 ?_
        refine lv_iconst (v := (1 : Int32)) C.1.1 C.1.2.1 d_Text_placesBehind_27 (by decide) ?_
        refine lv_iand C.1.1 C.1.2.1 d_Text_placesBehind_28 ?_
        refine lv_if_eq (tgt := 36) C.1.1 C.1.2.1 d_Text_placesBehind_29 (by decide) (fun c5 => ?_) (fun c5 => ?_)
        · have h := h.1 c5
          refine lv_iconst (v := (0 : Int32)) C.1.1 C.1.2.1 d_Text_placesBehind_36 (by decide) ?_
          exact t_Text_placesBehind_b37 C h (fun y4 y5 hJ => ih y4 y5 hJ.1 (Nat.lt_of_lt_of_le hJ.2 (Nat.le_of_lt_succ hn))) _ _ _ hM hS (lv_sub hl [1, 2, 3, 4, 5, 0] rfl)
        · have h := h.2 c5
          refine lv_iconst (v := (1 : Int32)) C.1.1 C.1.2.1 d_Text_placesBehind_32 (by decide) ?_
          refine lv_goto (tgt := 37) C.1.1 C.1.2.1 d_Text_placesBehind_33 (by decide) ?_
          exact t_Text_placesBehind_b37 C h (fun y4 y5 hJ => ih y4 y5 hJ.1 (Nat.lt_of_lt_of_le hJ.2 (Nat.le_of_lt_succ hn))) _ _ _ hM hS (lv_sub hl [1, 2, 3, 4, 5, 0] rfl)
  exact key _ x4 x5 hI (Nat.lt_succ_self _)
def wp_Text_placesBehind (g : Nat → ClassId) (M : Mem) (x0 : Nat) (x1 : Int32) (x2 : Int64) (P : Int32 → Prop) : Prop :=
  wp_Text_placesBehind_b6 g P M x0 x1 x2 (0 : Int32) (0 : Int32)
set_option maxHeartbeats 4000000 in
set_option maxRecDepth 100000 in
theorem c_Text_placesBehind {l : Launch} {D : va_G} {g : Nat → ClassId} {M : Mem} {x0 : Nat} {x1 : Int32} {x2 : Int64} {P : Int32 → Prop} (h : wp_Text_placesBehind g M x0 x1 x2 P) : mMet l BIG D vwCl (tysG g) y_Text_placesBehind b_Text_placesBehind 9 (some .int) rm_Text_placesBehind [.ref x0, .int x1, .long x2] M (kI fun r M' => M = M' ∧ P r) := by
  refine mMet.of (own := R_Text) rfl (by decide) rfl (fun p e s m below meth c C hr hlk hnm ls hM hS hl => ?_)
  have C : C_Text_placesBehind D g p s m ([.ref x0, .int x1, .long x2] : List Value).toArray meth c M := ⟨C, hr, hlk⟩
  unfold wp_Text_placesBehind at h
  have hl : lv_has ls 9 [(0, .ref x0), (1, .int x1), (2, .long x2)] := hl
  refine lv_iconst (v := (0 : Int32)) C.1.1 C.1.2.1 d_Text_placesBehind_0 (by decide) ?_
  refine lv_istore (lv' := [(4, .int (0 : Int32)), (0, .ref x0), (1, .int x1), (2, .long x2)]) C.1.1 C.1.2.1 d_Text_placesBehind_1 hl (by decide) rfl (fun ls hl => ?_)
  refine lv_iconst (v := (0 : Int32)) C.1.1 C.1.2.1 d_Text_placesBehind_3 (by decide) ?_
  refine lv_istore (lv' := [(5, .int (0 : Int32)), (4, .int (0 : Int32)), (0, .ref x0), (1, .int x1), (2, .long x2)]) C.1.1 C.1.2.1 d_Text_placesBehind_4 hl (by decide) rfl (fun ls hl => ?_)
  exact t_Text_placesBehind_b6 C h _ _ _ hM hS (lv_sub hl [2, 3, 4, 1, 0] rfl)
theorem d_Text_hasEnd_0 : decode b_Text_hasEnd 0 = .ok (.iload_n 1, 1) := by decide +kernel
theorem d_Text_hasEnd_1 : decode b_Text_hasEnd 1 = .ok (.aload_n 0, 1) := by decide +kernel
theorem d_Text_hasEnd_2 : decode b_Text_hasEnd 2 = .ok (.getfield 23, 3) := by decide +kernel
theorem d_Text_hasEnd_5 : decode b_Text_hasEnd 5 = .ok (.ishr, 1) := by decide +kernel
theorem d_Text_hasEnd_6 : decode b_Text_hasEnd 6 = .ok (.iconst 1, 1) := by decide +kernel
theorem d_Text_hasEnd_7 : decode b_Text_hasEnd 7 = .ok (.iand, 1) := by decide +kernel
theorem d_Text_hasEnd_8 : decode b_Text_hasEnd 8 = .ok (.ifCond .eq 7, 3) := by decide +kernel
theorem d_Text_hasEnd_11 : decode b_Text_hasEnd 11 = .ok (.iconst 1, 1) := by decide +kernel
theorem d_Text_hasEnd_12 : decode b_Text_hasEnd 12 = .ok (.goto 4, 3) := by decide +kernel
theorem d_Text_hasEnd_15 : decode b_Text_hasEnd 15 = .ok (.iconst 0, 1) := by decide +kernel
theorem d_Text_hasEnd_16 : decode b_Text_hasEnd 16 = .ok (.ireturn, 1) := by decide +kernel
abbrev rm_Text_hasEnd : Room := { frames := 0, cells := 0, slots := 0, locals := 0 }
abbrev C_Text_hasEnd (D : va_G) (g : Nat → ClassId) (p : Program) (s : State) (m : MethodId) (args : Array Value) (meth : Method) (c : Code) (M0 : Mem) : Prop := Cx p s m args c b_Text_hasEnd 2 R_Text BIG D vwCl (tysG g) (mA M0 s.heap.size) ∧ meth.sig.returnType = (some .boolean) ∧ meth.locks = false
abbrev B_Text_hasEnd (l : Launch) (D : va_G) (p : Program) (e : Env) (s : State) (m : MethodId) (args : Array Value) (below : List Frame) (meth : Method) (c : Code) (M0 : Mem) (P : Int32 → Prop) (M : Mem) (pc : Nat) (lv : List (Nat × Value)) (st : List Value) : Prop := Wb p l e rm_Text_hasEnd s m args below meth c 2 D vwCl M0 (kI fun r M' => M0 = M' ∧ P r) 0 0 M pc lv st
def wp_Text_hasEnd_b16 (g : Nat → ClassId) (P : Int32 → Prop) (M : Mem) (t0 : Int32) : Prop :=
  isB t0 ∧ P t0
set_option maxHeartbeats 4000000 in
set_option maxRecDepth 100000 in
theorem t_Text_hasEnd_b16 {l : Launch} {D : va_G} {g : Nat → ClassId} {p : Program} {e : Env} {s : State} {m : MethodId} {args : Array Value} {below : List Frame} {meth : Method} {c : Code} {P : Int32 → Prop} {M : Mem} {t0 : Int32} (C : C_Text_hasEnd D g p s m args meth c M) (h : wp_Text_hasEnd_b16 g P M t0) : B_Text_hasEnd l D p e s m args below meth c M P M 16 [] [.int t0] := by
  intro ls H locs hM hS hl
  unfold wp_Text_hasEnd_b16 at h
  exact mr_Z C.1 C.2.1 C.2.2 h.1 hM hS ⟨_, rfl, rfl, h.2⟩ d_Text_hasEnd_16
def wp_Text_hasEnd (g : Nat → ClassId) (M : Mem) (x0 : Nat) (x1 : Int32) (P : Int32 → Prop) : Prop :=
  ∃ v1 : Int32, gI M 1 x0 3 = some v1 ∧ ((((x1 >>> (v1 &&& 31)) &&& (1 : Int32)) = 0 → (wp_Text_hasEnd_b16 g P M (0 : Int32))) ∧ (¬ ((x1 >>> (v1 &&& 31)) &&& (1 : Int32)) = 0 → (wp_Text_hasEnd_b16 g P M (1 : Int32))))
set_option maxHeartbeats 4000000 in
set_option maxRecDepth 100000 in
theorem c_Text_hasEnd {l : Launch} {D : va_G} {g : Nat → ClassId} {M : Mem} {x0 : Nat} {x1 : Int32} {P : Int32 → Prop} (h : wp_Text_hasEnd g M x0 x1 P) : mMet l BIG D vwCl (tysG g) y_Text_hasEnd b_Text_hasEnd 2 (some .boolean) rm_Text_hasEnd [.ref x0, .int x1] M (kI fun r M' => M = M' ∧ P r) := by
  refine mMet.of (own := R_Text) rfl (by decide) rfl (fun p e s m below meth c C hr hlk hnm ls hM hS hl => ?_)
  have C : C_Text_hasEnd D g p s m ([.ref x0, .int x1] : List Value).toArray meth c M := ⟨C, hr, hlk⟩
  unfold wp_Text_hasEnd at h
  have hl : lv_has ls 2 [(0, .ref x0), (1, .int x1)] := hl
  refine lv_iload_n C.1.1 C.1.2.1 d_Text_hasEnd_0 rfl (lv_at hl 1 rfl) ?_
  refine lv_aload_n C.1.1 C.1.2.1 d_Text_hasEnd_1 rfl (lv_at hl 0 rfl) ?_
  obtain ⟨v1, ev1, h⟩ := h
  refine mg_I C.1 hM ok_Text (by decide) kw104 ev1 d_Text_hasEnd_2 ?_
  refine lv_ishr C.1.1 C.1.2.1 d_Text_hasEnd_5 ?_
  refine lv_iconst (v := (1 : Int32)) C.1.1 C.1.2.1 d_Text_hasEnd_6 (by decide) ?_
  refine lv_iand C.1.1 C.1.2.1 d_Text_hasEnd_7 ?_
  refine lv_if_eq (tgt := 15) C.1.1 C.1.2.1 d_Text_hasEnd_8 (by decide) (fun c2 => ?_) (fun c2 => ?_)
  · have h := h.1 c2
    refine lv_iconst (v := (0 : Int32)) C.1.1 C.1.2.1 d_Text_hasEnd_15 (by decide) ?_
    exact t_Text_hasEnd_b16 C h _ _ _ hM hS (lv_sub hl [] rfl)
  · have h := h.2 c2
    refine lv_iconst (v := (1 : Int32)) C.1.1 C.1.2.1 d_Text_hasEnd_11 (by decide) ?_
    refine lv_goto (tgt := 16) C.1.1 C.1.2.1 d_Text_hasEnd_12 (by decide) ?_
    exact t_Text_hasEnd_b16 C h _ _ _ hM hS (lv_sub hl [] rfl)
theorem d_Text_addPart_0 : decode b_Text_addPart 0 = .ok (.aload_n 0, 1) := by decide +kernel
theorem d_Text_addPart_1 : decode b_Text_addPart 1 = .ok (.getfield 23, 3) := by decide +kernel
theorem d_Text_addPart_4 : decode b_Text_addPart 4 = .ok (.aload_n 0, 1) := by decide +kernel
theorem d_Text_addPart_5 : decode b_Text_addPart 5 = .ok (.getfield 15, 3) := by decide +kernel
theorem d_Text_addPart_8 : decode b_Text_addPart 8 = .ok (.arraylength, 1) := by decide +kernel
theorem d_Text_addPart_9 : decode b_Text_addPart 9 = .ok (.if_icmp .ge 23, 3) := by decide +kernel
theorem d_Text_addPart_12 : decode b_Text_addPart 12 = .ok (.aload_n 0, 1) := by decide +kernel
theorem d_Text_addPart_13 : decode b_Text_addPart 13 = .ok (.getfield 15, 3) := by decide +kernel
theorem d_Text_addPart_16 : decode b_Text_addPart 16 = .ok (.aload_n 0, 1) := by decide +kernel
theorem d_Text_addPart_17 : decode b_Text_addPart 17 = .ok (.getfield 23, 3) := by decide +kernel
theorem d_Text_addPart_20 : decode b_Text_addPart 20 = .ok (.lload_n 1, 1) := by decide +kernel
theorem d_Text_addPart_21 : decode b_Text_addPart 21 = .ok (.lastore, 1) := by decide +kernel
theorem d_Text_addPart_22 : decode b_Text_addPart 22 = .ok (.aload_n 0, 1) := by decide +kernel
theorem d_Text_addPart_23 : decode b_Text_addPart 23 = .ok (.dup, 1) := by decide +kernel
theorem d_Text_addPart_24 : decode b_Text_addPart 24 = .ok (.getfield 23, 3) := by decide +kernel
theorem d_Text_addPart_27 : decode b_Text_addPart 27 = .ok (.iconst 1, 1) := by decide +kernel
theorem d_Text_addPart_28 : decode b_Text_addPart 28 = .ok (.iadd, 1) := by decide +kernel
theorem d_Text_addPart_29 : decode b_Text_addPart 29 = .ok (.putfield 23, 3) := by decide +kernel
theorem d_Text_addPart_32 : decode b_Text_addPart 32 = .ok (.return_, 1) := by decide +kernel
abbrev rm_Text_addPart : Room := { frames := 0, cells := 0, slots := 0, locals := 0 }
abbrev C_Text_addPart (D : va_G) (g : Nat → ClassId) (p : Program) (s : State) (m : MethodId) (args : Array Value) (meth : Method) (c : Code) (M0 : Mem) : Prop := Cx p s m args c b_Text_addPart 3 R_Text BIG D vwCl (tysG g) (mA M0 s.heap.size) ∧ meth.sig.returnType = none ∧ meth.locks = false
abbrev B_Text_addPart (l : Launch) (D : va_G) (p : Program) (e : Env) (s : State) (m : MethodId) (args : Array Value) (below : List Frame) (meth : Method) (c : Code) (M0 : Mem) (P : Mem → Prop) (M : Mem) (pc : Nat) (lv : List (Nat × Value)) (st : List Value) : Prop := Wb p l e rm_Text_addPart s m args below meth c 3 D vwCl M0 (kV fun M' => P M') 0 0 M pc lv st
def wp_Text_addPart_b32 (g : Nat → ClassId) (P : Mem → Prop) (M : Mem) : Prop :=
  P M
set_option maxHeartbeats 4000000 in
set_option maxRecDepth 100000 in
theorem t_Text_addPart_b32 {l : Launch} {D : va_G} {g : Nat → ClassId} {p : Program} {e : Env} {s : State} {m : MethodId} {args : Array Value} {below : List Frame} {meth : Method} {c : Code} {M0 : Mem} {P : Mem → Prop} {M : Mem} (C : C_Text_addPart D g p s m args meth c M0) (h : wp_Text_addPart_b32 g P M ) : B_Text_addPart l D p e s m args below meth c M0 P M 32 [] [] := by
  intro ls H locs hM hS hl
  unfold wp_Text_addPart_b32 at h
  exact mr_V C.1 C.2.1 C.2.2 hM hS ⟨rfl, h⟩ d_Text_addPart_32
def wp_Text_addPart (g : Nat → ClassId) (M : Mem) (x0 : Nat) (x1 : Int64) (P : Mem → Prop) : Prop :=
  ∃ v1 : Int32, gI M 1 x0 3 = some v1 ∧ (∃ v2 : Nat, gR M 1 x0 1 = some v2 ∧ (∃ n3 : Nat, aN M (g 1) v2 = some n3 ∧ (((nI n3) ≤ v1 → (wp_Text_addPart_b32 g P M)) ∧ (¬ (nI n3) ≤ v1 → (∃ v5 : Nat, gR M 1 x0 1 = some v5 ∧ (∃ v6 : Int32, gI M 1 x0 3 = some v6 ∧ (∃ M7 : Mem, sL M (g 1) v5 v6 x1 = some M7 ∧ (∃ v8 : Int32, gI M7 1 x0 3 = some v8 ∧ (∃ M9 : Mem, pV M7 1 x0 3 (.int (v8 + (1 : Int32))) = some M9 ∧ (wp_Text_addPart_b32 g P M9))))))))))
set_option maxHeartbeats 4000000 in
set_option maxRecDepth 100000 in
theorem c_Text_addPart {l : Launch} {D : va_G} {g : Nat → ClassId} {M : Mem} {x0 : Nat} {x1 : Int64} {P : Mem → Prop} (h : wp_Text_addPart g M x0 x1 P) : mMet l BIG D vwCl (tysG g) y_Text_addPart b_Text_addPart 3 none rm_Text_addPart [.ref x0, .long x1] M (kV fun M' => P M') := by
  refine mMet.of (own := R_Text) rfl (by decide) rfl (fun p e s m below meth c C hr hlk hnm ls hM hS hl => ?_)
  have C : C_Text_addPart D g p s m ([.ref x0, .long x1] : List Value).toArray meth c M := ⟨C, hr, hlk⟩
  unfold wp_Text_addPart at h
  have hl : lv_has ls 3 [(0, .ref x0), (1, .long x1)] := hl
  refine lv_aload_n C.1.1 C.1.2.1 d_Text_addPart_0 rfl (lv_at hl 0 rfl) ?_
  obtain ⟨v1, ev1, h⟩ := h
  refine mg_I C.1 hM ok_Text (by decide) kw104 ev1 d_Text_addPart_1 ?_
  refine lv_aload_n C.1.1 C.1.2.1 d_Text_addPart_4 rfl (lv_at hl 0 rfl) ?_
  obtain ⟨v2, ev2, h⟩ := h
  refine mg_R C.1 hM ok_Text (by decide) kw102 ev2 d_Text_addPart_5 ?_
  obtain ⟨n3, en3, h⟩ := h
  refine ma_N C.1 hM 1 rfl en3 d_Text_addPart_8 ?_
  refine lv_icmp_ge (tgt := 32) C.1.1 C.1.2.1 d_Text_addPart_9 (by decide) (fun c4 => ?_) (fun c4 => ?_)
  · have h := h.1 c4
    exact t_Text_addPart_b32 C h _ _ _ hM hS (lv_sub hl [] rfl)
  · have h := h.2 c4
    refine lv_aload_n C.1.1 C.1.2.1 d_Text_addPart_12 rfl (lv_at hl 0 rfl) ?_
    obtain ⟨v5, ev5, h⟩ := h
    refine mg_R C.1 hM ok_Text (by decide) kw102 ev5 d_Text_addPart_13 ?_
    refine lv_aload_n C.1.1 C.1.2.1 d_Text_addPart_16 rfl (lv_at hl 0 rfl) ?_
    obtain ⟨v6, ev6, h⟩ := h
    refine mg_I C.1 hM ok_Text (by decide) kw104 ev6 d_Text_addPart_17 ?_
    refine lv_lload_n C.1.1 C.1.2.1 d_Text_addPart_20 rfl (lv_at hl 1 rfl) ?_
    obtain ⟨M7, eM7, h⟩ := h
    refine ms_L C.1 hM hS 1 rfl eM7 d_Text_addPart_21 (fun H locs hM hS => ?_)
    refine lv_aload_n C.1.1 C.1.2.1 d_Text_addPart_22 rfl (lv_at hl 0 rfl) ?_
    refine lv_dup C.1.1 C.1.2.1 d_Text_addPart_23 rfl ?_
    obtain ⟨v8, ev8, h⟩ := h
    refine mg_I C.1 hM ok_Text (by decide) kw104 ev8 d_Text_addPart_24 ?_
    refine lv_iconst (v := (1 : Int32)) C.1.1 C.1.2.1 d_Text_addPart_27 (by decide) ?_
    refine lv_iadd C.1.1 C.1.2.1 d_Text_addPart_28 ?_
    obtain ⟨M9, eM9, h⟩ := h
    refine mp_V C.1 hM hS ok_Text (by decide) kw104 rfl rfl rfl eM9 d_Text_addPart_29 (fun H locs hM hS => ?_)
    exact t_Text_addPart_b32 C h _ _ _ hM hS (lv_sub hl [] rfl)
theorem d_Text_isWild_0 : decode b_Text_isWild 0 = .ok (.iload_n 0, 1) := by decide +kernel
theorem d_Text_isWild_1 : decode b_Text_isWild 1 = .ok (.bipush 42, 2) := by decide +kernel
theorem d_Text_isWild_3 : decode b_Text_isWild 3 = .ok (.if_icmp .eq 9, 3) := by decide +kernel
theorem d_Text_isWild_6 : decode b_Text_isWild 6 = .ok (.iload_n 0, 1) := by decide +kernel
theorem d_Text_isWild_7 : decode b_Text_isWild 7 = .ok (.bipush 35, 2) := by decide +kernel
theorem d_Text_isWild_9 : decode b_Text_isWild 9 = .ok (.if_icmp .ne 7, 3) := by decide +kernel
theorem d_Text_isWild_12 : decode b_Text_isWild 12 = .ok (.iconst 1, 1) := by decide +kernel
theorem d_Text_isWild_13 : decode b_Text_isWild 13 = .ok (.goto 4, 3) := by decide +kernel
theorem d_Text_isWild_16 : decode b_Text_isWild 16 = .ok (.iconst 0, 1) := by decide +kernel
theorem d_Text_isWild_17 : decode b_Text_isWild 17 = .ok (.ireturn, 1) := by decide +kernel
abbrev rm_Text_isWild : Room := { frames := 0, cells := 0, slots := 0, locals := 0 }
abbrev C_Text_isWild (D : va_G) (g : Nat → ClassId) (p : Program) (s : State) (m : MethodId) (args : Array Value) (meth : Method) (c : Code) (M0 : Mem) : Prop := Cx p s m args c b_Text_isWild 1 R_Text BIG D vwCl (tysG g) (mA M0 s.heap.size) ∧ meth.sig.returnType = (some .boolean) ∧ meth.locks = false
abbrev B_Text_isWild (l : Launch) (D : va_G) (p : Program) (e : Env) (s : State) (m : MethodId) (args : Array Value) (below : List Frame) (meth : Method) (c : Code) (M0 : Mem) (P : Int32 → Prop) (M : Mem) (pc : Nat) (lv : List (Nat × Value)) (st : List Value) : Prop := Wb p l e rm_Text_isWild s m args below meth c 1 D vwCl M0 (kI fun r M' => M0 = M' ∧ P r) 0 0 M pc lv st
def wp_Text_isWild_b17 (g : Nat → ClassId) (P : Int32 → Prop) (M : Mem) (t0 : Int32) : Prop :=
  isB t0 ∧ P t0
set_option maxHeartbeats 4000000 in
set_option maxRecDepth 100000 in
theorem t_Text_isWild_b17 {l : Launch} {D : va_G} {g : Nat → ClassId} {p : Program} {e : Env} {s : State} {m : MethodId} {args : Array Value} {below : List Frame} {meth : Method} {c : Code} {P : Int32 → Prop} {M : Mem} {t0 : Int32} (C : C_Text_isWild D g p s m args meth c M) (h : wp_Text_isWild_b17 g P M t0) : B_Text_isWild l D p e s m args below meth c M P M 17 [] [.int t0] := by
  intro ls H locs hM hS hl
  unfold wp_Text_isWild_b17 at h
  exact mr_Z C.1 C.2.1 C.2.2 h.1 hM hS ⟨_, rfl, rfl, h.2⟩ d_Text_isWild_17
def wp_Text_isWild_b12 (g : Nat → ClassId) (P : Int32 → Prop) (M : Mem) : Prop :=
  wp_Text_isWild_b17 g P M (1 : Int32)
set_option maxHeartbeats 4000000 in
set_option maxRecDepth 100000 in
theorem t_Text_isWild_b12 {l : Launch} {D : va_G} {g : Nat → ClassId} {p : Program} {e : Env} {s : State} {m : MethodId} {args : Array Value} {below : List Frame} {meth : Method} {c : Code} {P : Int32 → Prop} {M : Mem} (C : C_Text_isWild D g p s m args meth c M) (h : wp_Text_isWild_b12 g P M ) : B_Text_isWild l D p e s m args below meth c M P M 12 [] [] := by
  intro ls H locs hM hS hl
  unfold wp_Text_isWild_b12 at h
  refine lv_iconst (v := (1 : Int32)) C.1.1 C.1.2.1 d_Text_isWild_12 (by decide) ?_
  refine lv_goto (tgt := 17) C.1.1 C.1.2.1 d_Text_isWild_13 (by decide) ?_
  exact t_Text_isWild_b17 C h _ _ _ hM hS (lv_sub hl [] rfl)
def wp_Text_isWild (g : Nat → ClassId) (M : Mem) (x0 : Int32) (P : Int32 → Prop) : Prop :=
  (x0 = (42 : Int32) → (wp_Text_isWild_b12 g P M)) ∧ (¬ x0 = (42 : Int32) → ((x0 = (35 : Int32) → (wp_Text_isWild_b12 g P M)) ∧ (¬ x0 = (35 : Int32) → (wp_Text_isWild_b17 g P M (0 : Int32)))))
set_option maxHeartbeats 4000000 in
set_option maxRecDepth 100000 in
theorem c_Text_isWild {l : Launch} {D : va_G} {g : Nat → ClassId} {M : Mem} {x0 : Int32} {P : Int32 → Prop} (h : wp_Text_isWild g M x0 P) : mMet l BIG D vwCl (tysG g) y_Text_isWild b_Text_isWild 1 (some .boolean) rm_Text_isWild [.int x0] M (kI fun r M' => M = M' ∧ P r) := by
  refine mMet.of (own := R_Text) rfl (by decide) rfl (fun p e s m below meth c C hr hlk hnm ls hM hS hl => ?_)
  have C : C_Text_isWild D g p s m ([.int x0] : List Value).toArray meth c M := ⟨C, hr, hlk⟩
  unfold wp_Text_isWild at h
  have hl : lv_has ls 1 [(0, .int x0)] := hl
  refine lv_iload_n C.1.1 C.1.2.1 d_Text_isWild_0 rfl (lv_at hl 0 rfl) ?_
  refine lv_bipush (v := (42 : Int32)) C.1.1 C.1.2.1 d_Text_isWild_1 (by decide) ?_
  refine lv_icmp_eq (tgt := 12) C.1.1 C.1.2.1 d_Text_isWild_3 (by decide) (fun c1 => ?_) (fun c1 => ?_)
  · have h := h.1 c1
    exact t_Text_isWild_b12 C h _ _ _ hM hS (lv_sub hl [] rfl)
  · have h := h.2 c1
    refine lv_iload_n C.1.1 C.1.2.1 d_Text_isWild_6 rfl (lv_at hl 0 rfl) ?_
    refine lv_bipush (v := (35 : Int32)) C.1.1 C.1.2.1 d_Text_isWild_7 (by decide) ?_
    refine lv_icmp_ne (tgt := 16) C.1.1 C.1.2.1 d_Text_isWild_9 (by decide) (fun c2 => ?_) (fun c2 => ?_)
    · have h := h.2 c2
      refine lv_iconst (v := (0 : Int32)) C.1.1 C.1.2.1 d_Text_isWild_16 (by decide) ?_
      exact t_Text_isWild_b17 C h _ _ _ hM hS (lv_sub hl [] rfl)
    · have h := h.1 c2
      exact t_Text_isWild_b12 C h _ _ _ hM hS (lv_sub hl [] rfl)
