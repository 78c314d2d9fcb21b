theorem d_Shelf_size_0 : decode b_Shelf_size 0 = .ok (.aload_n 0, 1) := by decide +kernel
theorem d_Shelf_size_1 : decode b_Shelf_size 1 = .ok (.getfield 18, 3) := by decide +kernel
theorem d_Shelf_size_4 : decode b_Shelf_size 4 = .ok (.ireturn, 1) := by decide +kernel
abbrev rm_Shelf_size : Room := { frames := 0, cells := 0, slots := 0, locals := 0 }
abbrev C_Shelf_size (D : va_G) (g : Nat → ClassId) (p : Program) (s : State) (m : MethodId) (args : Array Value) (meth : Method) (c : Code) (M0 : Mem) : Prop := Cx p s m args c b_Shelf_size 1 R_Shelf BIG D vwCl (tysG g) (mA M0 s.heap.size) ∧ meth.sig.returnType = (some .int) ∧ meth.locks = false
abbrev B_Shelf_size (l : Launch) (D : va_G) (p : Program) (e : Env) (s : State) (m : MethodId) (args : Array Value) (below : List Frame) (meth : Method) (c : Code) (M0 : Mem) (P : Int32 → Prop) (M : Mem) (pc : Nat) (lv : List (Nat × Value)) (st : List Value) : Prop := Wb p l e rm_Shelf_size s m args below meth c 1 D vwCl M0 (kI fun r M' => M0 = M' ∧ P r) 0 0 M pc lv st
def wp_Shelf_size (g : Nat → ClassId) (M : Mem) (x0 : Nat) (P : Int32 → Prop) : Prop :=
  ∃ v1 : Int32, gI M 4 x0 1 = some v1 ∧ (P v1)
set_option maxHeartbeats 4000000 in
set_option maxRecDepth 100000 in
theorem c_Shelf_size {l : Launch} {D : va_G} {g : Nat → ClassId} {M : Mem} {x0 : Nat} {P : Int32 → Prop} (h : wp_Shelf_size g M x0 P) : mMet l BIG D vwCl (tysG g) y_Shelf_size b_Shelf_size 1 (some .int) rm_Shelf_size [.ref x0] M (kI fun r M' => M = M' ∧ P r) := by
  refine mMet.of (own := R_Shelf) rfl (by decide) rfl (fun p e s m below meth c C hr hlk hnm ls hM hS hl => ?_)
  have C : C_Shelf_size D g p s m ([.ref x0] : List Value).toArray meth c M := ⟨C, hr, hlk⟩
  unfold wp_Shelf_size at h
  have hl : lv_has ls 1 [(0, .ref x0)] := hl
  refine lv_aload_n C.1.1 C.1.2.1 d_Shelf_size_0 rfl (lv_at hl 0 rfl) ?_
  obtain ⟨v1, ev1, h⟩ := h
  refine mg_I C.1 hM ok_Shelf (by decide) kw97 ev1 d_Shelf_size_1 ?_
  exact mr_I C.1 C.2.1 C.2.2 hM hS ⟨_, rfl, rfl, h⟩ d_Shelf_size_4
theorem d_Shelf_isPlace_0 : decode b_Shelf_isPlace 0 = .ok (.iload_n 1, 1) := by decide +kernel
theorem d_Shelf_isPlace_1 : decode b_Shelf_isPlace 1 = .ok (.ifCond .lt 16, 3) := by decide +kernel
theorem d_Shelf_isPlace_4 : decode b_Shelf_isPlace 4 = .ok (.iload_n 1, 1) := by decide +kernel
theorem d_Shelf_isPlace_5 : decode b_Shelf_isPlace 5 = .ok (.aload_n 0, 1) := by decide +kernel
theorem d_Shelf_isPlace_6 : decode b_Shelf_isPlace 6 = .ok (.getfield 11, 3) := by decide +kernel
theorem d_Shelf_isPlace_9 : decode b_Shelf_isPlace 9 = .ok (.arraylength, 1) := by decide +kernel
theorem d_Shelf_isPlace_10 : decode b_Shelf_isPlace 10 = .ok (.if_icmp .ge 7, 3) := by decide +kernel
theorem d_Shelf_isPlace_13 : decode b_Shelf_isPlace 13 = .ok (.iconst 1, 1) := by decide +kernel
theorem d_Shelf_isPlace_14 : decode b_Shelf_isPlace 14 = .ok (.goto 4, 3) := by decide +kernel
theorem d_Shelf_isPlace_17 : decode b_Shelf_isPlace 17 = .ok (.iconst 0, 1) := by decide +kernel
theorem d_Shelf_isPlace_18 : decode b_Shelf_isPlace 18 = .ok (.ireturn, 1) := by decide +kernel
abbrev rm_Shelf_isPlace : Room := { frames := 0, cells := 0, slots := 0, locals := 0 }
abbrev C_Shelf_isPlace (D : va_G) (g : Nat → ClassId) (p : Program) (s : State) (m : MethodId) (args : Array Value) (meth : Method) (c : Code) (M0 : Mem) : Prop := Cx p s m args c b_Shelf_isPlace 2 R_Shelf BIG D vwCl (tysG g) (mA M0 s.heap.size) ∧ meth.sig.returnType = (some .boolean) ∧ meth.locks = false
abbrev B_Shelf_isPlace (l : Launch) (D : va_G) (p : Program) (e : Env) (s : State) (m : MethodId) (args : Array Value) (below : List Frame) (meth : Method) (c : Code) (M0 : Mem) (P : Int32 → Prop) (M : Mem) (pc : Nat) (lv : List (Nat × Value)) (st : List Value) : Prop := Wb p l e rm_Shelf_isPlace s m args below meth c 2 D vwCl M0 (kI fun r M' => M0 = M' ∧ P r) 0 0 M pc lv st
def wp_Shelf_isPlace_b18 (g : Nat → ClassId) (P : Int32 → Prop) (M : Mem) (t0 : Int32) : Prop :=
  isB t0 ∧ P t0
set_option maxHeartbeats 4000000 in
set_option maxRecDepth 100000 in
theorem t_Shelf_isPlace_b18 {l : Launch} {D : va_G} {g : Nat → ClassId} {p : Program} {e : Env} {s : State} {m : MethodId} {args : Array Value} {below : List Frame} {meth : Method} {c : Code} {P : Int32 → Prop} {M : Mem} {t0 : Int32} (C : C_Shelf_isPlace D g p s m args meth c M) (h : wp_Shelf_isPlace_b18 g P M t0) : B_Shelf_isPlace l D p e s m args below meth c M P M 18 [] [.int t0] := by
  intro ls H locs hM hS hl
  unfold wp_Shelf_isPlace_b18 at h
  exact mr_Z C.1 C.2.1 C.2.2 h.1 hM hS ⟨_, rfl, rfl, h.2⟩ d_Shelf_isPlace_18
def wp_Shelf_isPlace_b17 (g : Nat → ClassId) (P : Int32 → Prop) (M : Mem) : Prop :=
  wp_Shelf_isPlace_b18 g P M (0 : Int32)
set_option maxHeartbeats 4000000 in
set_option maxRecDepth 100000 in
theorem t_Shelf_isPlace_b17 {l : Launch} {D : va_G} {g : Nat → ClassId} {p : Program} {e : Env} {s : State} {m : MethodId} {args : Array Value} {below : List Frame} {meth : Method} {c : Code} {P : Int32 → Prop} {M : Mem} (C : C_Shelf_isPlace D g p s m args meth c M) (h : wp_Shelf_isPlace_b17 g P M ) : B_Shelf_isPlace l D p e s m args below meth c M P M 17 [] [] := by
  intro ls H locs hM hS hl
  unfold wp_Shelf_isPlace_b17 at h
  refine lv_iconst (v := (0 : Int32)) C.1.1 C.1.2.1 d_Shelf_isPlace_17 (by decide) ?_
  exact t_Shelf_isPlace_b18 C h _ _ _ hM hS (lv_sub hl [] rfl)
def wp_Shelf_isPlace (g : Nat → ClassId) (M : Mem) (x0 : Nat) (x1 : Int32) (P : Int32 → Prop) : Prop :=
  (x1 < 0 → (wp_Shelf_isPlace_b17 g P M)) ∧ (¬ x1 < 0 → (∃ v2 : Nat, gR M 4 x0 0 = some v2 ∧ (∃ n3 : Nat, aN M (g 4) v2 = some n3 ∧ (((nI n3) ≤ x1 → (wp_Shelf_isPlace_b17 g P M)) ∧ (¬ (nI n3) ≤ x1 → (wp_Shelf_isPlace_b18 g P M (1 : Int32)))))))
set_option maxHeartbeats 4000000 in
set_option maxRecDepth 100000 in
theorem c_Shelf_isPlace {l : Launch} {D : va_G} {g : Nat → ClassId} {M : Mem} {x0 : Nat} {x1 : Int32} {P : Int32 → Prop} (h : wp_Shelf_isPlace g M x0 x1 P) : mMet l BIG D vwCl (tysG g) y_Shelf_isPlace b_Shelf_isPlace 2 (some .boolean) rm_Shelf_isPlace [.ref x0, .int x1] M (kI fun r M' => M = M' ∧ P r) := by
  refine mMet.of (own := R_Shelf) rfl (by decide) rfl (fun p e s m below meth c C hr hlk hnm ls hM hS hl => ?_)
  have C : C_Shelf_isPlace D g p s m ([.ref x0, .int x1] : List Value).toArray meth c M := ⟨C, hr, hlk⟩
  unfold wp_Shelf_isPlace at h
  have hl : lv_has ls 2 [(0, .ref x0), (1, .int x1)] := hl
  refine lv_iload_n C.1.1 C.1.2.1 d_Shelf_isPlace_0 rfl (lv_at hl 1 rfl) ?_
  refine lv_if_lt (tgt := 17) C.1.1 C.1.2.1 d_Shelf_isPlace_1 (by decide) (fun c1 => ?_) (fun c1 => ?_)
  · have h := h.1 c1
    exact t_Shelf_isPlace_b17 C h _ _ _ hM hS (lv_sub hl [] rfl)
  · have h := h.2 c1
    refine lv_iload_n C.1.1 C.1.2.1 d_Shelf_isPlace_4 rfl (lv_at hl 1 rfl) ?_
    refine lv_aload_n C.1.1 C.1.2.1 d_Shelf_isPlace_5 rfl (lv_at hl 0 rfl) ?_
    obtain ⟨v2, ev2, h⟩ := h
    refine mg_R C.1 hM ok_Shelf (by decide) kw98 ev2 d_Shelf_isPlace_6 ?_
    obtain ⟨n3, en3, h⟩ := h
    refine ma_N C.1 hM 4 rfl en3 d_Shelf_isPlace_9 ?_
    refine lv_icmp_ge (tgt := 17) C.1.1 C.1.2.1 d_Shelf_isPlace_10 (by decide) (fun c4 => ?_) (fun c4 => ?_)
    · have h := h.1 c4
      exact t_Shelf_isPlace_b17 C h _ _ _ hM hS (lv_sub hl [] rfl)
    · have h := h.2 c4
      refine lv_iconst (v := (1 : Int32)) C.1.1 C.1.2.1 d_Shelf_isPlace_13 (by decide) ?_
      refine lv_goto (tgt := 18) C.1.1 C.1.2.1 d_Shelf_isPlace_14 (by decide) ?_
      exact t_Shelf_isPlace_b18 C h _ _ _ hM hS (lv_sub hl [] rfl)
theorem d_Shelf_init_0 : decode b_Shelf_init 0 = .ok (.aload_n 0, 1) := by decide +kernel
theorem d_Shelf_init_1 : decode b_Shelf_init 1 = .ok (.invokespecial 3, 3) := by decide +kernel
theorem d_Shelf_init_4 : decode b_Shelf_init 4 = .ok (.aload_n 0, 1) := by decide +kernel
theorem d_Shelf_init_5 : decode b_Shelf_init 5 = .ok (.bipush 20, 2) := by decide +kernel
theorem d_Shelf_init_7 : decode b_Shelf_init 7 = .ok (.anewarray 9, 3) := by decide +kernel
theorem d_Shelf_init_10 : decode b_Shelf_init 10 = .ok (.putfield 11, 3) := by decide +kernel
theorem d_Shelf_init_13 : decode b_Shelf_init 13 = .ok (.iconst 0, 1) := by decide +kernel
theorem d_Shelf_init_14 : decode b_Shelf_init 14 = .ok (.istore_n 1, 1) := by decide +kernel
theorem d_Shelf_init_15 : decode b_Shelf_init 15 = .ok (.iload_n 1, 1) := by decide +kernel
theorem d_Shelf_init_16 : decode b_Shelf_init 16 = .ok (.aload_n 0, 1) := by decide +kernel
theorem d_Shelf_init_17 : decode b_Shelf_init 17 = .ok (.getfield 11, 3) := by decide +kernel
theorem d_Shelf_init_20 : decode b_Shelf_init 20 = .ok (.arraylength, 1) := by decide +kernel
theorem d_Shelf_init_21 : decode b_Shelf_init 21 = .ok (.if_icmp .ge 22, 3) := by decide +kernel
theorem d_Shelf_init_24 : decode b_Shelf_init 24 = .ok (.aload_n 0, 1) := by decide +kernel
theorem d_Shelf_init_25 : decode b_Shelf_init 25 = .ok (.getfield 11, 3) := by decide +kernel
theorem d_Shelf_init_28 : decode b_Shelf_init 28 = .ok (.iload_n 1, 1) := by decide +kernel
theorem d_Shelf_init_29 : decode b_Shelf_init 29 = .ok (.new 9, 3) := by decide +kernel
theorem d_Shelf_init_32 : decode b_Shelf_init 32 = .ok (.dup, 1) := by decide +kernel
theorem d_Shelf_init_33 : decode b_Shelf_init 33 = .ok (.invokespecial 17, 3) := by decide +kernel
theorem d_Shelf_init_36 : decode b_Shelf_init 36 = .ok (.aastore, 1) := by decide +kernel
theorem d_Shelf_init_37 : decode b_Shelf_init 37 = .ok (.iinc 1 1, 3) := by decide +kernel
theorem d_Shelf_init_40 : decode b_Shelf_init 40 = .ok (.goto (-25), 3) := by decide +kernel
theorem d_Shelf_init_43 : decode b_Shelf_init 43 = .ok (.aload_n 0, 1) := by decide +kernel
theorem d_Shelf_init_44 : decode b_Shelf_init 44 = .ok (.iconst 0, 1) := by decide +kernel
theorem d_Shelf_init_45 : decode b_Shelf_init 45 = .ok (.putfield 18, 3) := by decide +kernel
theorem d_Shelf_init_48 : decode b_Shelf_init 48 = .ok (.return_, 1) := by decide +kernel
abbrev rm_Shelf_init : Room := { frames := 3, cells := 85, slots := 1532, locals := 60 }
abbrev C_Shelf_init (D : va_G) (g : Nat → ClassId) (p : Program) (s : State) (m : MethodId) (args : Array Value) (meth : Method) (c : Code) (M0 : Mem) : Prop := Cx p s m args c b_Shelf_init 2 R_Shelf BIG D vwCl (tysG g) (mA M0 s.heap.size) ∧ meth.sig.returnType = none ∧ meth.locks = false ∧ meth.name = "<init>"
abbrev B_Shelf_init (l : Launch) (D : va_G) (p : Program) (e : Env) (s : State) (m : MethodId) (args : Array Value) (below : List Frame) (meth : Method) (c : Code) (M0 : Mem) (P : Mem → Prop) (cn sn : Nat) (M : Mem) (pc : Nat) (lv : List (Nat × Value)) (st : List Value) : Prop := Wb p l e rm_Shelf_init s m args below meth c 2 D vwCl M0 (kV fun M' => P M') cn sn M pc lv st
def wp_Shelf_init_b15 (g : Nat → ClassId) (P : Mem → Prop) (M : Mem) (x0 : Nat) (x1 : Int32) : Prop :=
  ∃ (I : Int32 → Mem → Prop) (μ : Int32 → Mem → Nat), μ x1 M ≤ 20 ∧ I x1 M ∧ ∀ (x1 : Int32) (M : Mem), I x1 M →
  ∃ v1 : Nat, gR M 4 x0 0 = some v1 ∧ (∃ n2 : Nat, aN M (g 4) v1 = some n2 ∧ (((nI n2) ≤ x1 → (∃ M4 : Mem, pV M 4 x0 1 (.int (0 : Int32)) = some M4 ∧ (P M4))) ∧ (¬ (nI n2) ≤ x1 → (∃ v5 : Nat, gR M 4 x0 0 = some v5 ∧ (∀ (q6 : Nat) (M7 : Mem), M q6 = none → M7 = mup M q6 (.inr (3, [.null, .int 0])) → (wp_Kt_init g M7 q6 (fun (M9 : Mem) => isO M9 3 q6 ∧ (∃ M10 : Mem, sR M9 (g 4) v5 x1 q6 = some M10 ∧ ((I (x1 + (1 : Int32)) M10 ∧ μ (x1 + (1 : Int32)) M10 < μ x1 M))))))))))
set_option maxHeartbeats 4000000 in
set_option maxRecDepth 100000 in
theorem t_Shelf_init_b15 {l : Launch} {D : va_G} {g : Nat → ClassId} {p : Program} {e : Env} {s : State} {m : MethodId} {args : Array Value} {below : List Frame} {meth : Method} {c : Code} {M0 : Mem} {P : Mem → Prop} {M : Mem} {x0 : Nat} {x1 : Int32} (C : C_Shelf_init D g p s m args meth c M0) (h : wp_Shelf_init_b15 g P M x0 x1 ) {cn sn : Nat} (hcn : cn + 84 ≤ 85) (hsn : sn + 1512 ≤ 1532) : B_Shelf_init l D p e s m args below meth c M0 P cn sn M 15 [(0, .ref x0), (1, .int x1)] [] := by
  unfold wp_Shelf_init_b15 at h
  obtain ⟨I, μ, hmK, hI, hb⟩ := h
  have key : ∀ (n : Nat) (cn sn : Nat) (x1 : Int32) (M : Mem), I x1 M → μ x1 M < n → cn + 4 * μ x1 M + 4 ≤ 85 → sn + 72 * μ x1 M + 72 ≤ 1532 → B_Shelf_init l D p e s m args below meth c M0 P cn sn M 15 [(0, .ref x0), (1, .int x1)] [] := by
    intro n
    induction n with
    | zero => intro cn sn x1 M _ hn; exact absurd hn (Nat.not_lt_zero _)
    | succ n ih =>
      intro cn sn x1 M hI hn hcn hsn ls H locs hM hS hl
      have h := hb x1 M hI
      refine lv_iload_n C.1.1 C.1.2.1 d_Shelf_init_15 rfl (lv_at hl 1 rfl) ?_
      refine lv_aload_n C.1.1 C.1.2.1 d_Shelf_init_16 rfl (lv_at hl 0 rfl) ?_
      obtain ⟨v1, ev1, h⟩ := h
      refine mg_R C.1 hM ok_Shelf (by decide) kw98 ev1 d_Shelf_init_17 ?_
      obtain ⟨n2, en2, h⟩ := h
      refine ma_N C.1 hM 4 rfl en2 d_Shelf_init_20 ?_
      refine lv_icmp_ge (tgt := 43) C.1.1 C.1.2.1 d_Shelf_init_21 (by decide) (fun c3 => ?_) (fun c3 => ?_)
      · have h := h.1 c3
        refine lv_aload_n C.1.1 C.1.2.1 d_Shelf_init_43 rfl (lv_at hl 0 rfl) ?_
        refine lv_iconst (v := (0 : Int32)) C.1.1 C.1.2.1 d_Shelf_init_44 (by decide) ?_
        obtain ⟨M4, eM4, h⟩ := h
        refine mp_V C.1 hM hS ok_Shelf (by decide) kw97 rfl rfl rfl eM4 d_Shelf_init_45 (fun H locs hM hS => ?_)
        refine W.widen (k := 85) (n := 1532) (show _ ≤ (85 : Nat) by omega) (show _ ≤ (1532 : Nat) by omega) ?_
        exact mr_V C.1 C.2.1 C.2.2.1 hM hS ⟨rfl, h⟩ d_Shelf_init_48
      · have h := h.2 c3
        refine lv_aload_n C.1.1 C.1.2.1 d_Shelf_init_24 rfl (lv_at hl 0 rfl) ?_
        obtain ⟨v5, ev5, h⟩ := h
        refine mg_R C.1 hM ok_Shelf (by decide) kw98 ev5 d_Shelf_init_25 ?_
        refine lv_iload_n C.1.1 C.1.2.1 d_Shelf_init_28 rfl (lv_at hl 1 rfl) ?_
        refine mn_O (fs := [.null, .int 0]) C.1 hM hS ok_Kt kw171 kw172 kw173 (fun j hj => by rcases (show j = 0 ∨ j = 1 by omega) with rfl | rfl <;> rfl) (show _ ≤ (85 : Nat) by omega) (show _ ≤ (1532 : Nat) by omega) d_Shelf_init_29 (fun q6 H hq6 hM hS => ?_)
        obtain ⟨M7, eM7⟩ : ∃ N : Mem, N = mup M q6 (.inr (3, [.null, .int 0])) := ⟨_, rfl⟩
        rw [← eM7] at hM
        have h := h q6 M7 hq6 eM7
        refine lv_dup C.1.1 C.1.2.1 d_Shelf_init_32 rfl ?_
        refine mc_I (As := []) C.1 hM hS bigGood (c_Kt_init h) rfl kw174 kw176 kw173 kw175 hd_Kt_init ⟨by decide, by decide⟩ hl.1 rfl (Nat.le_of_ble_eq_true rfl) d_Shelf_init_33 (mc := 3) (ms := 70) rfl rfl ⟨show _ ≤ (85 : Nat) by omega, show _ ≤ (1532 : Nat) by omega⟩ (fun v M9 H locs hp hM hS => ?_)
        obtain ⟨rfl, h⟩ := hp
        obtain ⟨ho, h⟩ := h
        obtain ⟨M10, eM10, h⟩ := h
        refine ms_R C.1 hM hS 4 rfl rfl ho eM10 d_Shelf_init_36 (fun H locs hM hS => ?_)
        refine lv_iinc (v := x1 + (1 : Int32)) (lv' := [(1, .int (x1 + (1 : Int32))), (0, .ref x0)]) C.1.1 C.1.2.1 d_Shelf_init_37 hl (k := 1) rfl rfl (by decide) rfl (fun ls hl => ?_)
        refine lv_goto (tgt := 15) C.1.1 C.1.2.1 d_Shelf_init_40 (by decide) ?_
        have hmu := h.2
        exact ih _ _ (x1 + (1 : Int32)) M10 h.1 (Nat.lt_of_lt_of_le h.2 (Nat.le_of_lt_succ hn)) (show _ ≤ (85 : Nat) by omega) (show _ ≤ (1532 : Nat) by omega) _ _ _ hM hS (lv_sub hl [1, 0] rfl)
  exact key _ _ _ x1 M hI (Nat.lt_succ_self _) (show _ ≤ (85 : Nat) by omega) (show _ ≤ (1532 : Nat) by omega)
def wp_Shelf_init (g : Nat → ClassId) (M : Mem) (x0 : Nat) (P : Mem → Prop) : Prop :=
  ∀ (q1 : Nat) (M2 : Mem), M q1 = none → M2 = mup M q1 (.inl (g 4, (20, .inr (.inr (.inr (.inr (fun _ => none))))))) → (∃ M3 : Mem, pV M2 4 x0 0 (.ref q1) = some M3 ∧ (wp_Shelf_init_b15 g P M3 x0 (0 : Int32)))
set_option maxHeartbeats 4000000 in
set_option maxRecDepth 100000 in
theorem c_Shelf_init {l : Launch} {D : va_G} {g : Nat → ClassId} {M : Mem} {x0 : Nat} {P : Mem → Prop} (h : wp_Shelf_init g M x0 P) : mMet l BIG D vwCl (tysG g) y_Shelf_init b_Shelf_init 2 none rm_Shelf_init [.ref x0] M (kV fun M' => P M') := by
  refine mMet.of (own := R_Shelf) rfl (by decide) rfl (fun p e s m below meth c C hr hlk hnm ls hM hS hl => ?_)
  have C : C_Shelf_init D g p s m ([.ref x0] : List Value).toArray meth c M := ⟨C, hr, hlk, hnm⟩
  have hcn : 0 + 85 ≤ 85 := by decide
  have hsn : 0 + 1532 ≤ 1532 := by decide
  unfold wp_Shelf_init at h
  have hl : lv_has ls 2 [(0, .ref x0)] := hl
  refine lv_aload_n C.1.1 C.1.2.1 d_Shelf_init_0 rfl (lv_at hl 0 rfl) ?_
  refine m_objInit C.1 kw177 kw3 kw4 hl.1 d_Shelf_init_1 (by decide) (by decide) (Nat.le_of_ble_eq_true rfl) ?_
  refine lv_aload_n C.1.1 C.1.2.1 d_Shelf_init_4 rfl (lv_at hl 0 rfl) ?_
  refine lv_bipush (v := (20 : Int32)) C.1.1 C.1.2.1 d_Shelf_init_5 (by decide) ?_
  refine mn_Q (N' := 20) C.1 hM hS kw171 C.1.2.2.2.2.2.2.2.2 4 rfl (by decide) (by decide) (by decide) (show _ ≤ (85 : Nat) by omega) (show _ ≤ (1532 : Nat) by omega) d_Shelf_init_7 (fun q1 H hq1 hM hS => ?_)
  obtain ⟨M2, eM2⟩ : ∃ N : Mem, N = mup M q1 (.inl (g 4, (20, .inr (.inr (.inr (.inr (fun _ => none))))))) := ⟨_, rfl⟩
  rw [← eM2] at hM
  have h := h q1 M2 hq1 eM2
  obtain ⟨M3, eM3, h⟩ := h
  refine mp_F C.1 hM hS C.2.2.2 ok_Shelf (by decide) kw98 rfl rfl rfl rfl eM3 d_Shelf_init_10 (fun H locs hM hS => ?_)
  refine lv_iconst (v := (0 : Int32)) C.1.1 C.1.2.1 d_Shelf_init_13 (by decide) ?_
  refine lv_istore_n (lv' := [(1, .int (0 : Int32)), (0, .ref x0)]) C.1.1 C.1.2.1 d_Shelf_init_14 rfl hl (by decide) rfl (fun ls hl => ?_)
  exact t_Shelf_init_b15 C h (show _ ≤ (85 : Nat) by omega) (show _ ≤ (1532 : Nat) by omega) _ _ _ hM hS (lv_sub hl [1, 0] rfl)
theorem d_Shelf_placeFor_0 : decode b_Shelf_placeFor 0 = .ok (.iconst 0, 1) := by decide +kernel
theorem d_Shelf_placeFor_1 : decode b_Shelf_placeFor 1 = .ok (.istore_n 2, 1) := by decide +kernel
theorem d_Shelf_placeFor_2 : decode b_Shelf_placeFor 2 = .ok (.iload_n 2, 1) := by decide +kernel
theorem d_Shelf_placeFor_3 : decode b_Shelf_placeFor 3 = .ok (.aload_n 0, 1) := by decide +kernel
theorem d_Shelf_placeFor_4 : decode b_Shelf_placeFor 4 = .ok (.getfield 18, 3) := by decide +kernel
theorem d_Shelf_placeFor_7 : decode b_Shelf_placeFor 7 = .ok (.if_icmp .ge 34, 3) := by decide +kernel
theorem d_Shelf_placeFor_10 : decode b_Shelf_placeFor 10 = .ok (.iload_n 2, 1) := by decide +kernel
theorem d_Shelf_placeFor_11 : decode b_Shelf_placeFor 11 = .ok (.aload_n 0, 1) := by decide +kernel
theorem d_Shelf_placeFor_12 : decode b_Shelf_placeFor 12 = .ok (.getfield 11, 3) := by decide +kernel
theorem d_Shelf_placeFor_15 : decode b_Shelf_placeFor 15 = .ok (.arraylength, 1) := by decide +kernel
theorem d_Shelf_placeFor_16 : decode b_Shelf_placeFor 16 = .ok (.if_icmp .ge 25, 3) := by decide +kernel
theorem d_Shelf_placeFor_19 : decode b_Shelf_placeFor 19 = .ok (.aload_n 0, 1) := by decide +kernel
theorem d_Shelf_placeFor_20 : decode b_Shelf_placeFor 20 = .ok (.getfield 11, 3) := by decide +kernel
theorem d_Shelf_placeFor_23 : decode b_Shelf_placeFor 23 = .ok (.iload_n 2, 1) := by decide +kernel
theorem d_Shelf_placeFor_24 : decode b_Shelf_placeFor 24 = .ok (.aaload, 1) := by decide +kernel
theorem d_Shelf_placeFor_25 : decode b_Shelf_placeFor 25 = .ok (.invokevirtual 42, 3) := by decide +kernel
theorem d_Shelf_placeFor_28 : decode b_Shelf_placeFor 28 = .ok (.aload_n 1, 1) := by decide +kernel
theorem d_Shelf_placeFor_29 : decode b_Shelf_placeFor 29 = .ok (.invokevirtual 52, 3) := by decide +kernel
theorem d_Shelf_placeFor_32 : decode b_Shelf_placeFor 32 = .ok (.ifCond .ge 9, 3) := by decide +kernel
theorem d_Shelf_placeFor_35 : decode b_Shelf_placeFor 35 = .ok (.iinc 2 1, 3) := by decide +kernel
theorem d_Shelf_placeFor_38 : decode b_Shelf_placeFor 38 = .ok (.goto (-36), 3) := by decide +kernel
theorem d_Shelf_placeFor_41 : decode b_Shelf_placeFor 41 = .ok (.iload_n 2, 1) := by decide +kernel
theorem d_Shelf_placeFor_42 : decode b_Shelf_placeFor 42 = .ok (.ireturn, 1) := by decide +kernel
abbrev rm_Shelf_placeFor : Room := { frames := 3, cells := 0, slots := 0, locals := 64 }
abbrev C_Shelf_placeFor (D : va_G) (g : Nat → ClassId) (p : Program) (s : State) (m : MethodId) (args : Array Value) (meth : Method) (c : Code) (M0 : Mem) : Prop := Cx p s m args c b_Shelf_placeFor 3 R_Shelf BIG D vwCl (tysG g) (mA M0 s.heap.size) ∧ meth.sig.returnType = (some .int) ∧ meth.locks = false
abbrev B_Shelf_placeFor (l : Launch) (D : va_G) (p : Program) (e : Env) (s : State) (m : MethodId) (args : Array Value) (below : List Frame) (meth : Method) (c : Code) (M0 : Mem) (P : Int32 → Prop) (M : Mem) (pc : Nat) (lv : List (Nat × Value)) (st : List Value) : Prop := Wb p l e rm_Shelf_placeFor s m args below meth c 3 D vwCl M0 (kI fun r M' => M0 = M' ∧ P r) 0 0 M pc lv st
def wp_Shelf_placeFor_b41 (g : Nat → ClassId) (P : Int32 → Prop) (M : Mem) (x2 : Int32) : Prop :=
  P x2
set_option maxHeartbeats 4000000 in
set_option maxRecDepth 100000 in
theorem t_Shelf_placeFor_b41 {l : Launch} {D : va_G} {g : Nat → ClassId} {p : Program} {e : Env} {s : State} {m : MethodId} {args : Array Value} {below : List Frame} {meth : Method} {c : Code} {P : Int32 → Prop} {M : Mem} {x2 : Int32} (C : C_Shelf_placeFor D g p s m args meth c M) (h : wp_Shelf_placeFor_b41 g P M x2 ) : B_Shelf_placeFor l D p e s m args below meth c M P M 41 [(2, .int x2)] [] := by
  intro ls H locs hM hS hl
  unfold wp_Shelf_placeFor_b41 at h
  refine lv_iload_n C.1.1 C.1.2.1 d_Shelf_placeFor_41 rfl (lv_at hl 0 rfl) ?_
  exact mr_I C.1 C.2.1 C.2.2 hM hS ⟨_, rfl, rfl, h⟩ d_Shelf_placeFor_42
def wp_Shelf_placeFor_b2 (g : Nat → ClassId) (P : Int32 → Prop) (M : Mem) (x0 : Nat) (x1 : Nat) (x2 : Int32) : Prop :=
  ∃ (I : Int32 → Prop) (μ : Int32 → Nat), I x2 ∧ ∀ (x2 : Int32), I x2 →
  ∃ v1 : Int32, gI M 4 x0 1 = some v1 ∧ ((v1 ≤ x2 → (wp_Shelf_placeFor_b41 g P M x2)) ∧ (¬ v1 ≤ x2 → (∃ v3 : Nat, gR M 4 x0 0 = some v3 ∧ (∃ n4 : Nat, aN M (g 4) v3 = some n4 ∧ (((nI n4) ≤ x2 → (wp_Shelf_placeFor_b41 g P M x2)) ∧ (¬ (nI n4) ≤ x2 → (∃ v6 : Nat, gR M 4 x0 0 = some v6 ∧ (∃ v7 : Nat, aQ M (g 4) v6 x2 = some (some v7) ∧ (isO M 3 v7 ∧ (wp_Kt_text g M v7 (fun v8 : Nat => isO M 1 v8 ∧ (wp_Text_compareSigns g M v8 x1 (fun v10 : Int32 => (0 ≤ v10 → (wp_Shelf_placeFor_b41 g P M x2)) ∧ (¬ 0 ≤ v10 → ((I (x2 + (1 : Int32)) ∧ μ (x2 + (1 : Int32)) < μ x2))))))))))))))))
set_option maxHeartbeats 4000000 in
set_option maxRecDepth 100000 in
theorem t_Shelf_placeFor_b2 {l : Launch} {D : va_G} {g : Nat → ClassId} {p : Program} {e : Env} {s : State} {m : MethodId} {args : Array Value} {below : List Frame} {meth : Method} {c : Code} {P : Int32 → Prop} {M : Mem} {x0 : Nat} {x1 : Nat} {x2 : Int32} (C : C_Shelf_placeFor D g p s m args meth c M) (h : wp_Shelf_placeFor_b2 g P M x0 x1 x2 ) : B_Shelf_placeFor l D p e s m args below meth c M P M 2 [(0, .ref x0), (1, .ref x1), (2, .int x2)] [] := by
  unfold wp_Shelf_placeFor_b2 at h
  obtain ⟨I, μ, hI, hb⟩ := h
  have key : ∀ (n : Nat) (x2 : Int32), I x2 → μ x2 < n → B_Shelf_placeFor l D p e s m args below meth c M P M 2 [(0, .ref x0), (1, .ref x1), (2, .int x2)] [] := by
    intro n
    induction n with
    | zero => intro x2 _ hn; exact absurd hn (Nat.not_lt_zero _)
    | succ n ih =>
      intro x2 hI hn ls H locs hM hS hl
      have h := hb x2 hI
      refine lv_iload_n C.1.1 C.1.2.1 d_Shelf_placeFor_2 rfl (lv_at hl 2 rfl) ?_
      refine lv_aload_n C.1.1 C.1.2.1 d_Shelf_placeFor_3 rfl (lv_at hl 0 rfl) ?_
      obtain ⟨v1, ev1, h⟩ := h
      refine mg_I C.1 hM ok_Shelf (by decide) kw97 ev1 d_Shelf_placeFor_4 ?_
      refine lv_icmp_ge (tgt := 41) C.1.1 C.1.2.1 d_Shelf_placeFor_7 (by decide) (fun c2 => ?_) (fun c2 => ?_)
      · have h := h.1 c2
        exact t_Shelf_placeFor_b41 C h _ _ _ hM hS (lv_sub hl [2] rfl)
      · have h := h.2 c2
        refine lv_iload_n C.1.1 C.1.2.1 d_Shelf_placeFor_10 rfl (lv_at hl 2 rfl) ?_
        refine lv_aload_n C.1.1 C.1.2.1 d_Shelf_placeFor_11 rfl (lv_at hl 0 rfl) ?_
        obtain ⟨v3, ev3, h⟩ := h
        refine mg_R C.1 hM ok_Shelf (by decide) kw98 ev3 d_Shelf_placeFor_12 ?_
        obtain ⟨n4, en4, h⟩ := h
        refine ma_N C.1 hM 4 rfl en4 d_Shelf_placeFor_15 ?_
        refine lv_icmp_ge (tgt := 41) C.1.1 C.1.2.1 d_Shelf_placeFor_16 (by decide) (fun c5 => ?_) (fun c5 => ?_)
        · have h := h.1 c5
          exact t_Shelf_placeFor_b41 C h _ _ _ hM hS (lv_sub hl [2] rfl)
        · have h := h.2 c5
          refine lv_aload_n C.1.1 C.1.2.1 d_Shelf_placeFor_19 rfl (lv_at hl 0 rfl) ?_
          obtain ⟨v6, ev6, h⟩ := h
          refine mg_R C.1 hM ok_Shelf (by decide) kw98 ev6 d_Shelf_placeFor_20 ?_
          refine lv_iload_n C.1.1 C.1.2.1 d_Shelf_placeFor_23 rfl (lv_at hl 2 rfl) ?_
          obtain ⟨v7, ev7, h⟩ := h
          refine ma_R C.1 hM 4 rfl ev7 d_Shelf_placeFor_24 ?_
          obtain ⟨ho, h⟩ := h
          refine mc_V (As := []) (ci := 3) C.1 hM hS bigGood (c_Kt_text h) rfl ho kw178 kw180 kw181 kw173 kw179 hd_Kt_text ⟨by decide, by decide⟩ hl.1 rfl (Nat.le_of_ble_eq_true rfl) d_Shelf_placeFor_25 (mc := 0) (ms := 0) rfl rfl ⟨by decide, by decide⟩ (fun v M' H locs hp hM hS => ?_)
          obtain ⟨v8, rfl, rfl, h⟩ := hp
          refine lv_aload_n C.1.1 C.1.2.1 d_Shelf_placeFor_28 rfl (lv_at hl 1 rfl) ?_
          obtain ⟨ho, h⟩ := h
          refine mc_V (As := [.ref x1]) (ci := 1) C.1 hM hS bigGood (c_Text_compareSigns h) rfl ho kw182 kw184 kw185 kw107 kw183 hd_Text_compareSigns ⟨by decide, by decide⟩ hl.1 rfl (Nat.le_of_ble_eq_true rfl) d_Shelf_placeFor_29 (mc := 0) (ms := 0) rfl rfl ⟨by decide, by decide⟩ (fun v M' H locs hp hM hS => ?_)
          obtain ⟨v10, rfl, rfl, h⟩ := hp
          refine lv_if_ge (tgt := 41) C.1.1 C.1.2.1 d_Shelf_placeFor_32 (by decide) (fun c12 => ?_) (fun c12 => ?_)
          · have h := h.1 c12
            exact t_Shelf_placeFor_b41 C h _ _ _ hM hS (lv_sub hl [2] rfl)
          · have h := h.2 c12
            refine lv_iinc (v := x2 + (1 : Int32)) (lv' := [(2, .int (x2 + (1 : Int32))), (0, .ref x0), (1, .ref x1)]) C.1.1 C.1.2.1 d_Shelf_placeFor_35 hl (k := 2) rfl rfl (by decide) rfl (fun ls hl => ?_)
            refine lv_goto (tgt := 2) C.1.1 C.1.2.1 d_Shelf_placeFor_38 (by decide) ?_
            exact ih (x2 + (1 : Int32)) h.1 (Nat.lt_of_lt_of_le h.2 (Nat.le_of_lt_succ hn)) _ _ _ hM hS (lv_sub hl [1, 2, 0] rfl)
  exact key _ x2 hI (Nat.lt_succ_self _)
def wp_Shelf_placeFor (g : Nat → ClassId) (M : Mem) (x0 : Nat) (x1 : Nat) (P : Int32 → Prop) : Prop :=
  wp_Shelf_placeFor_b2 g P M x0 x1 (0 : Int32)
set_option maxHeartbeats 4000000 in
set_option maxRecDepth 100000 in
theorem c_Shelf_placeFor {l : Launch} {D : va_G} {g : Nat → ClassId} {M : Mem} {x0 : Nat} {x1 : Nat} {P : Int32 → Prop} (h : wp_Shelf_placeFor g M x0 x1 P) : mMet l BIG D vwCl (tysG g) y_Shelf_placeFor b_Shelf_placeFor 3 (some .int) rm_Shelf_placeFor [.ref x0, .ref x1] M (kI fun r M' => M = M' ∧ P r) := by
  refine mMet.of (own := R_Shelf) rfl (by decide) rfl (fun p e s m below meth c C hr hlk hnm ls hM hS hl => ?_)
  have C : C_Shelf_placeFor D g p s m ([.ref x0, .ref x1] : List Value).toArray meth c M := ⟨C, hr, hlk⟩
  unfold wp_Shelf_placeFor at h
  have hl : lv_has ls 3 [(0, .ref x0), (1, .ref x1)] := hl
  refine lv_iconst (v := (0 : Int32)) C.1.1 C.1.2.1 d_Shelf_placeFor_0 (by decide) ?_
  refine lv_istore_n (lv' := [(2, .int (0 : Int32)), (0, .ref x0), (1, .ref x1)]) C.1.1 C.1.2.1 d_Shelf_placeFor_1 rfl hl (by decide) rfl (fun ls hl => ?_)
  exact t_Shelf_placeFor_b2 C h _ _ _ hM hS (lv_sub hl [1, 2, 0] rfl)
theorem d_Shelf_isAt_0 : decode b_Shelf_isAt 0 = .ok (.iload_n 1, 1) := by decide +kernel
theorem d_Shelf_isAt_1 : decode b_Shelf_isAt 1 = .ok (.aload_n 0, 1) := by decide +kernel
theorem d_Shelf_isAt_2 : decode b_Shelf_isAt 2 = .ok (.getfield 18, 3) := by decide +kernel
theorem d_Shelf_isAt_5 : decode b_Shelf_isAt 5 = .ok (.if_icmp .ge 32, 3) := by decide +kernel
theorem d_Shelf_isAt_8 : decode b_Shelf_isAt 8 = .ok (.iload_n 1, 1) := by decide +kernel
theorem d_Shelf_isAt_9 : decode b_Shelf_isAt 9 = .ok (.aload_n 0, 1) := by decide +kernel
theorem d_Shelf_isAt_10 : decode b_Shelf_isAt 10 = .ok (.getfield 11, 3) := by decide +kernel
theorem d_Shelf_isAt_13 : decode b_Shelf_isAt 13 = .ok (.arraylength, 1) := by decide +kernel
theorem d_Shelf_isAt_14 : decode b_Shelf_isAt 14 = .ok (.if_icmp .ge 23, 3) := by decide +kernel
theorem d_Shelf_isAt_17 : decode b_Shelf_isAt 17 = .ok (.aload_n 0, 1) := by decide +kernel
theorem d_Shelf_isAt_18 : decode b_Shelf_isAt 18 = .ok (.getfield 11, 3) := by decide +kernel
theorem d_Shelf_isAt_21 : decode b_Shelf_isAt 21 = .ok (.iload_n 1, 1) := by decide +kernel
theorem d_Shelf_isAt_22 : decode b_Shelf_isAt 22 = .ok (.aaload, 1) := by decide +kernel
theorem d_Shelf_isAt_23 : decode b_Shelf_isAt 23 = .ok (.invokevirtual 42, 3) := by decide +kernel
theorem d_Shelf_isAt_26 : decode b_Shelf_isAt 26 = .ok (.aload_n 2, 1) := by decide +kernel
theorem d_Shelf_isAt_27 : decode b_Shelf_isAt 27 = .ok (.invokevirtual 52, 3) := by decide +kernel
theorem d_Shelf_isAt_30 : decode b_Shelf_isAt 30 = .ok (.ifCond .ne 7, 3) := by decide +kernel
theorem d_Shelf_isAt_33 : decode b_Shelf_isAt 33 = .ok (.iconst 1, 1) := by decide +kernel
theorem d_Shelf_isAt_34 : decode b_Shelf_isAt 34 = .ok (.goto 4, 3) := by decide +kernel
theorem d_Shelf_isAt_37 : decode b_Shelf_isAt 37 = .ok (.iconst 0, 1) := by decide +kernel
theorem d_Shelf_isAt_38 : decode b_Shelf_isAt 38 = .ok (.ireturn, 1) := by decide +kernel
abbrev rm_Shelf_isAt : Room := { frames := 3, cells := 0, slots := 0, locals := 64 }
abbrev C_Shelf_isAt (D : va_G) (g : Nat → ClassId) (p : Program) (s : State) (m : MethodId) (args : Array Value) (meth : Method) (c : Code) (M0 : Mem) : Prop := Cx p s m args c b_Shelf_isAt 3 R_Shelf BIG D vwCl (tysG g) (mA M0 s.heap.size) ∧ meth.sig.returnType = (some .boolean) ∧ meth.locks = false
abbrev B_Shelf_isAt (l : Launch) (D : va_G) (p : Program) (e : Env) (s : State) (m : MethodId) (args : Array Value) (below : List Frame) (meth : Method) (c : Code) (M0 : Mem) (P : Int32 → Prop) (M : Mem) (pc : Nat) (lv : List (Nat × Value)) (st : List Value) : Prop := Wb p l e rm_Shelf_isAt s m args below meth c 3 D vwCl M0 (kI fun r M' => M0 = M' ∧ P r) 0 0 M pc lv st
def wp_Shelf_isAt_b38 (g : Nat → ClassId) (P : Int32 → Prop) (M : Mem) (t0 : Int32) : Prop :=
  isB t0 ∧ P t0
set_option maxHeartbeats 4000000 in
set_option maxRecDepth 100000 in
theorem t_Shelf_isAt_b38 {l : Launch} {D : va_G} {g : Nat → ClassId} {p : Program} {e : Env} {s : State} {m : MethodId} {args : Array Value} {below : List Frame} {meth : Method} {c : Code} {P : Int32 → Prop} {M : Mem} {t0 : Int32} (C : C_Shelf_isAt D g p s m args meth c M) (h : wp_Shelf_isAt_b38 g P M t0) : B_Shelf_isAt l D p e s m args below meth c M P M 38 [] [.int t0] := by
  intro ls H locs hM hS hl
  unfold wp_Shelf_isAt_b38 at h
  exact mr_Z C.1 C.2.1 C.2.2 h.1 hM hS ⟨_, rfl, rfl, h.2⟩ d_Shelf_isAt_38
def wp_Shelf_isAt_b37 (g : Nat → ClassId) (P : Int32 → Prop) (M : Mem) : Prop :=
  wp_Shelf_isAt_b38 g P M (0 : Int32)
set_option maxHeartbeats 4000000 in
set_option maxRecDepth 100000 in
theorem t_Shelf_isAt_b37 {l : Launch} {D : va_G} {g : Nat → ClassId} {p : Program} {e : Env} {s : State} {m : MethodId} {args : Array Value} {below : List Frame} {meth : Method} {c : Code} {P : Int32 → Prop} {M : Mem} (C : C_Shelf_isAt D g p s m args meth c M) (h : wp_Shelf_isAt_b37 g P M ) : B_Shelf_isAt l D p e s m args below meth c M P M 37 [] [] := by
  intro ls H locs hM hS hl
  unfold wp_Shelf_isAt_b37 at h
  refine lv_iconst (v := (0 : Int32)) C.1.1 C.1.2.1 d_Shelf_isAt_37 (by decide) ?_
  exact t_Shelf_isAt_b38 C h _ _ _ hM hS (lv_sub hl [] rfl)
def wp_Shelf_isAt (g : Nat → ClassId) (M : Mem) (x0 : Nat) (x1 : Int32) (x2 : Nat) (P : Int32 → Prop) : Prop :=
  ∃ v1 : Int32, gI M 4 x0 1 = some v1 ∧ ((v1 ≤ x1 → (wp_Shelf_isAt_b37 g P M)) ∧ (¬ v1 ≤ x1 → (∃ v3 : Nat, gR M 4 x0 0 = some v3 ∧ (∃ n4 : Nat, aN M (g 4) v3 = some n4 ∧ (((nI n4) ≤ x1 → (wp_Shelf_isAt_b37 g P M)) ∧ (¬ (nI n4) ≤ x1 → (∃ v6 : Nat, gR M 4 x0 0 = some v6 ∧ (∃ v7 : Nat, aQ M (g 4) v6 x1 = some (some v7) ∧ (isO M 3 v7 ∧ (wp_Kt_text g M v7 (fun v8 : Nat => isO M 1 v8 ∧ (wp_Text_compareSigns g M v8 x2 (fun v10 : Int32 => (v10 = 0 → (wp_Shelf_isAt_b38 g P M (1 : Int32))) ∧ (¬ v10 = 0 → (wp_Shelf_isAt_b37 g P M)))))))))))))))
set_option maxHeartbeats 4000000 in
set_option maxRecDepth 100000 in
theorem c_Shelf_isAt {l : Launch} {D : va_G} {g : Nat → ClassId} {M : Mem} {x0 : Nat} {x1 : Int32} {x2 : Nat} {P : Int32 → Prop} (h : wp_Shelf_isAt g M x0 x1 x2 P) : mMet l BIG D vwCl (tysG g) y_Shelf_isAt b_Shelf_isAt 3 (some .boolean) rm_Shelf_isAt [.ref x0, .int x1, .ref x2] M (kI fun r M' => M = M' ∧ P r) := by
  refine mMet.of (own := R_Shelf) rfl (by decide) rfl (fun p e s m below meth c C hr hlk hnm ls hM hS hl => ?_)
  have C : C_Shelf_isAt D g p s m ([.ref x0, .int x1, .ref x2] : List Value).toArray meth c M := ⟨C, hr, hlk⟩
  unfold wp_Shelf_isAt at h
  have hl : lv_has ls 3 [(0, .ref x0), (1, .int x1), (2, .ref x2)] := hl
  refine lv_iload_n C.1.1 C.1.2.1 d_Shelf_isAt_0 rfl (lv_at hl 1 rfl) ?_
  refine lv_aload_n C.1.1 C.1.2.1 d_Shelf_isAt_1 rfl (lv_at hl 0 rfl) ?_
  obtain ⟨v1, ev1, h⟩ := h
  refine mg_I C.1 hM ok_Shelf (by decide) kw97 ev1 d_Shelf_isAt_2 ?_
  refine lv_icmp_ge (tgt := 37) C.1.1 C.1.2.1 d_Shelf_isAt_5 (by decide) (fun c2 => ?_) (fun c2 => ?_)
  · have h := h.1 c2
    exact t_Shelf_isAt_b37 C h _ _ _ hM hS (lv_sub hl [] rfl)
  · have h := h.2 c2
    refine lv_iload_n C.1.1 C.1.2.1 d_Shelf_isAt_8 rfl (lv_at hl 1 rfl) ?_
    refine lv_aload_n C.1.1 C.1.2.1 d_Shelf_isAt_9 rfl (lv_at hl 0 rfl) ?_
    obtain ⟨v3, ev3, h⟩ := h
    refine mg_R C.1 hM ok_Shelf (by decide) kw98 ev3 d_Shelf_isAt_10 ?_
    obtain ⟨n4, en4, h⟩ := h
    refine ma_N C.1 hM 4 rfl en4 d_Shelf_isAt_13 ?_
    refine lv_icmp_ge (tgt := 37) C.1.1 C.1.2.1 d_Shelf_isAt_14 (by decide) (fun c5 => ?_) (fun c5 => ?_)
    · have h := h.1 c5
      exact t_Shelf_isAt_b37 C h _ _ _ hM hS (lv_sub hl [] rfl)
    · have h := h.2 c5
      refine lv_aload_n C.1.1 C.1.2.1 d_Shelf_isAt_17 rfl (lv_at hl 0 rfl) ?_
      obtain ⟨v6, ev6, h⟩ := h
      refine mg_R C.1 hM ok_Shelf (by decide) kw98 ev6 d_Shelf_isAt_18 ?_
      refine lv_iload_n C.1.1 C.1.2.1 d_Shelf_isAt_21 rfl (lv_at hl 1 rfl) ?_
      obtain ⟨v7, ev7, h⟩ := h
      refine ma_R C.1 hM 4 rfl ev7 d_Shelf_isAt_22 ?_
      obtain ⟨ho, h⟩ := h
      refine mc_V (As := []) (ci := 3) C.1 hM hS bigGood (c_Kt_text h) rfl ho kw178 kw180 kw181 kw173 kw179 hd_Kt_text ⟨by decide, by decide⟩ hl.1 rfl (Nat.le_of_ble_eq_true rfl) d_Shelf_isAt_23 (mc := 0) (ms := 0) rfl rfl ⟨by decide, by decide⟩ (fun v M' H locs hp hM hS => ?_)
      obtain ⟨v8, rfl, rfl, h⟩ := hp
      refine lv_aload_n C.1.1 C.1.2.1 d_Shelf_isAt_26 rfl (lv_at hl 2 rfl) ?_
      obtain ⟨ho, h⟩ := h
      refine mc_V (As := [.ref x2]) (ci := 1) C.1 hM hS bigGood (c_Text_compareSigns h) rfl ho kw182 kw184 kw185 kw107 kw183 hd_Text_compareSigns ⟨by decide, by decide⟩ hl.1 rfl (Nat.le_of_ble_eq_true rfl) d_Shelf_isAt_27 (mc := 0) (ms := 0) rfl rfl ⟨by decide, by decide⟩ (fun v M' H locs hp hM hS => ?_)
      obtain ⟨v10, rfl, rfl, h⟩ := hp
      refine lv_if_ne (tgt := 37) C.1.1 C.1.2.1 d_Shelf_isAt_30 (by decide) (fun c12 => ?_) (fun c12 => ?_)
      · have h := h.2 c12
        exact t_Shelf_isAt_b37 C h _ _ _ hM hS (lv_sub hl [] rfl)
      · have h := h.1 c12
        refine lv_iconst (v := (1 : Int32)) C.1.1 C.1.2.1 d_Shelf_isAt_33 (by decide) ?_
        refine lv_goto (tgt := 38) C.1.1 C.1.2.1 d_Shelf_isAt_34 (by decide) ?_
        exact t_Shelf_isAt_b38 C h _ _ _ hM hS (lv_sub hl [] rfl)
theorem d_Shelf_move_0 : decode b_Shelf_move 0 = .ok (.aload_n 0, 1) := by decide +kernel
theorem d_Shelf_move_1 : decode b_Shelf_move 1 = .ok (.iload_n 1, 1) := by decide +kernel
theorem d_Shelf_move_2 : decode b_Shelf_move 2 = .ok (.invokevirtual 55, 3) := by decide +kernel
theorem d_Shelf_move_5 : decode b_Shelf_move 5 = .ok (.ifCond .eq 11, 3) := by decide +kernel
theorem d_Shelf_move_8 : decode b_Shelf_move 8 = .ok (.aload_n 0, 1) := by decide +kernel
theorem d_Shelf_move_9 : decode b_Shelf_move 9 = .ok (.iload_n 2, 1) := by decide +kernel
theorem d_Shelf_move_10 : decode b_Shelf_move 10 = .ok (.invokevirtual 55, 3) := by decide +kernel
theorem d_Shelf_move_13 : decode b_Shelf_move 13 = .ok (.ifCond .ne 4, 3) := by decide +kernel
theorem d_Shelf_move_16 : decode b_Shelf_move 16 = .ok (.return_, 1) := by decide +kernel
theorem d_Shelf_move_17 : decode b_Shelf_move 17 = .ok (.aload_n 0, 1) := by decide +kernel
theorem d_Shelf_move_18 : decode b_Shelf_move 18 = .ok (.getfield 11, 3) := by decide +kernel
theorem d_Shelf_move_21 : decode b_Shelf_move 21 = .ok (.iload_n 1, 1) := by decide +kernel
theorem d_Shelf_move_22 : decode b_Shelf_move 22 = .ok (.aaload, 1) := by decide +kernel
theorem d_Shelf_move_23 : decode b_Shelf_move 23 = .ok (.astore_n 3, 1) := by decide +kernel
theorem d_Shelf_move_24 : decode b_Shelf_move 24 = .ok (.iload_n 1, 1) := by decide +kernel
theorem d_Shelf_move_25 : decode b_Shelf_move 25 = .ok (.istore 4, 2) := by decide +kernel
theorem d_Shelf_move_27 : decode b_Shelf_move 27 = .ok (.iload 4, 2) := by decide +kernel
theorem d_Shelf_move_29 : decode b_Shelf_move 29 = .ok (.iload_n 2, 1) := by decide +kernel
theorem d_Shelf_move_30 : decode b_Shelf_move 30 = .ok (.if_icmp .ge 25, 3) := by decide +kernel
theorem d_Shelf_move_33 : decode b_Shelf_move 33 = .ok (.aload_n 0, 1) := by decide +kernel
theorem d_Shelf_move_34 : decode b_Shelf_move 34 = .ok (.getfield 11, 3) := by decide +kernel
theorem d_Shelf_move_37 : decode b_Shelf_move 37 = .ok (.iload 4, 2) := by decide +kernel
theorem d_Shelf_move_39 : decode b_Shelf_move 39 = .ok (.aload_n 0, 1) := by decide +kernel
theorem d_Shelf_move_40 : decode b_Shelf_move 40 = .ok (.getfield 11, 3) := by decide +kernel
theorem d_Shelf_move_43 : decode b_Shelf_move 43 = .ok (.iload 4, 2) := by decide +kernel
theorem d_Shelf_move_45 : decode b_Shelf_move 45 = .ok (.iconst 1, 1) := by decide +kernel
theorem d_Shelf_move_46 : decode b_Shelf_move 46 = .ok (.iadd, 1) := by decide +kernel
theorem d_Shelf_move_47 : decode b_Shelf_move 47 = .ok (.aaload, 1) := by decide +kernel
theorem d_Shelf_move_48 : decode b_Shelf_move 48 = .ok (.aastore, 1) := by decide +kernel
theorem d_Shelf_move_49 : decode b_Shelf_move 49 = .ok (.iinc 4 1, 3) := by decide +kernel
theorem d_Shelf_move_52 : decode b_Shelf_move 52 = .ok (.goto (-25), 3) := by decide +kernel
theorem d_Shelf_move_55 : decode b_Shelf_move 55 = .ok (.iload_n 1, 1) := by decide +kernel
theorem d_Shelf_move_56 : decode b_Shelf_move 56 = .ok (.istore 4, 2) := by decide +kernel
theorem d_Shelf_move_58 : decode b_Shelf_move 58 = .ok (.iload 4, 2) := by decide +kernel
theorem d_Shelf_move_60 : decode b_Shelf_move 60 = .ok (.iload_n 2, 1) := by decide +kernel
theorem d_Shelf_move_61 : decode b_Shelf_move 61 = .ok (.if_icmp .le 25, 3) := by decide +kernel
theorem d_Shelf_move_64 : decode b_Shelf_move 64 = .ok (.aload_n 0, 1) := by decide +kernel
theorem d_Shelf_move_65 : decode b_Shelf_move 65 = .ok (.getfield 11, 3) := by decide +kernel
theorem d_Shelf_move_68 : decode b_Shelf_move 68 = .ok (.iload 4, 2) := by decide +kernel
theorem d_Shelf_move_70 : decode b_Shelf_move 70 = .ok (.aload_n 0, 1) := by decide +kernel
theorem d_Shelf_move_71 : decode b_Shelf_move 71 = .ok (.getfield 11, 3) := by decide +kernel
theorem d_Shelf_move_74 : decode b_Shelf_move 74 = .ok (.iload 4, 2) := by decide +kernel
theorem d_Shelf_move_76 : decode b_Shelf_move 76 = .ok (.iconst 1, 1) := by decide +kernel
theorem d_Shelf_move_77 : decode b_Shelf_move 77 = .ok (.isub, 1) := by decide +kernel
theorem d_Shelf_move_78 : decode b_Shelf_move 78 = .ok (.aaload, 1) := by decide +kernel
theorem d_Shelf_move_79 : decode b_Shelf_move 79 = .ok (.aastore, 1) := by decide +kernel
theorem d_Shelf_move_80 : decode b_Shelf_move 80 = .ok (.iinc 4 (-1), 3) := by decide +kernel
theorem d_Shelf_move_83 : decode b_Shelf_move 83 = .ok (.goto (-25), 3) := by decide +kernel
theorem d_Shelf_move_86 : decode b_Shelf_move 86 = .ok (.aload_n 0, 1) := by decide +kernel
theorem d_Shelf_move_87 : decode b_Shelf_move 87 = .ok (.getfield 11, 3) := by decide +kernel
theorem d_Shelf_move_90 : decode b_Shelf_move 90 = .ok (.iload_n 2, 1) := by decide +kernel
theorem d_Shelf_move_91 : decode b_Shelf_move 91 = .ok (.aload_n 3, 1) := by decide +kernel
theorem d_Shelf_move_92 : decode b_Shelf_move 92 = .ok (.aastore, 1) := by decide +kernel
theorem d_Shelf_move_93 : decode b_Shelf_move 93 = .ok (.return_, 1) := by decide +kernel
abbrev rm_Shelf_move : Room := { frames := 1, cells := 0, slots := 0, locals := 21 }
abbrev C_Shelf_move (D : va_G) (g : Nat → ClassId) (p : Program) (s : State) (m : MethodId) (args : Array Value) (meth : Method) (c : Code) (M0 : Mem) : Prop := Cx p s m args c b_Shelf_move 5 R_Shelf BIG D vwCl (tysG g) (mA M0 s.heap.size) ∧ meth.sig.returnType = none ∧ meth.locks = false
abbrev B_Shelf_move (l : Launch) (D : va_G) (p : Program) (e : Env) (s : State) (m : MethodId) (args : Array Value) (below : List Frame) (meth : Method) (c : Code) (M0 : Mem) (P : Mem → Prop) (M : Mem) (pc : Nat) (lv : List (Nat × Value)) (st : List Value) : Prop := Wb p l e rm_Shelf_move s m args below meth c 5 D vwCl M0 (kV fun M' => P M') 0 0 M pc lv st
def wp_Shelf_move_b58 (g : Nat → ClassId) (P : Mem → Prop) (M : Mem) (x0 : Nat) (x2 : Int32) (x3 : Nat) (x4 : Int32) : Prop :=
  ∃ (I : Int32 → Mem → Prop) (μ : Int32 → Mem → Nat), I x4 M ∧ ∀ (x4 : Int32) (M : Mem), I x4 M →
  (x4 ≤ x2 → (∃ v2 : Nat, gR M 4 x0 0 = some v2 ∧ (isO M 3 x3 ∧ (∃ M3 : Mem, sR M (g 4) v2 x2 x3 = some M3 ∧ (P M3))))) ∧ (¬ x4 ≤ x2 → (∃ v4 : Nat, gR M 4 x0 0 = some v4 ∧ (∃ v5 : Nat, gR M 4 x0 0 = some v5 ∧ (∃ v6 : Nat, aQ M (g 4) v5 (x4 - (1 : Int32)) = some (some v6) ∧ (isO M 3 v6 ∧ (∃ M7 : Mem, sR M (g 4) v4 x4 v6 = some M7 ∧ ((I (x4 + (-1 : Int32)) M7 ∧ μ (x4 + (-1 : Int32)) M7 < μ x4 M))))))))
set_option maxHeartbeats 4000000 in
set_option maxRecDepth 100000 in
theorem t_Shelf_move_b58 {l : Launch} {D : va_G} {g : Nat → ClassId} {p : Program} {e : Env} {s : State} {m : MethodId} {args : Array Value} {below : List Frame} {meth : Method} {c : Code} {M0 : Mem} {P : Mem → Prop} {M : Mem} {x0 : Nat} {x2 : Int32} {x3 : Nat} {x4 : Int32} (C : C_Shelf_move D g p s m args meth c M0) (h : wp_Shelf_move_b58 g P M x0 x2 x3 x4 ) : B_Shelf_move l D p e s m args below meth c M0 P M 58 [(0, .ref x0), (2, .int x2), (3, .ref x3), (4, .int x4)] [] := by
  unfold wp_Shelf_move_b58 at h
  obtain ⟨I, μ, hI, hb⟩ := h
  have key : ∀ (n : Nat) (x4 : Int32) (M : Mem), I x4 M → μ x4 M < n → B_Shelf_move l D p e s m args below meth c M0 P M 58 [(0, .ref x0), (2, .int x2), (3, .ref x3), (4, .int x4)] [] := by
    intro n
    induction n with
    | zero => intro x4 M _ hn; exact absurd hn (Nat.not_lt_zero _)
    | succ n ih =>
      intro x4 M hI hn ls H locs hM hS hl
      have h := hb x4 M hI
      refine lv_iload C.1.1 C.1.2.1 d_Shelf_move_58 (lv_at hl 3 rfl) ?_
      refine lv_iload_n C.1.1 C.1.2.1 d_Shelf_move_60 rfl (lv_at hl 1 rfl) ?_
      refine lv_icmp_le (tgt := 86) C.1.1 C.1.2.1 d_Shelf_move_61 (by decide) (fun c1 => ?_) (fun c1 => ?_)
      · have h := h.1 c1
        refine lv_aload_n C.1.1 C.1.2.1 d_Shelf_move_86 rfl (lv_at hl 0 rfl) ?_
        obtain ⟨v2, ev2, h⟩ := h
        refine mg_R C.1 hM ok_Shelf (by decide) kw98 ev2 d_Shelf_move_87 ?_
        refine lv_iload_n C.1.1 C.1.2.1 d_Shelf_move_90 rfl (lv_at hl 1 rfl) ?_
        refine lv_aload_n C.1.1 C.1.2.1 d_Shelf_move_91 rfl (lv_at hl 2 rfl) ?_
        obtain ⟨ho, h⟩ := h
        obtain ⟨M3, eM3, h⟩ := h
        refine ms_R C.1 hM hS 4 rfl rfl ho eM3 d_Shelf_move_92 (fun H locs hM hS => ?_)
        exact mr_V C.1 C.2.1 C.2.2 hM hS ⟨rfl, h⟩ d_Shelf_move_93
      · have h := h.2 c1
        refine lv_aload_n C.1.1 C.1.2.1 d_Shelf_move_64 rfl (lv_at hl 0 rfl) ?_
        obtain ⟨v4, ev4, h⟩ := h
        refine mg_R C.1 hM ok_Shelf (by decide) kw98 ev4 d_Shelf_move_65 ?_
        refine lv_iload C.1.1 C.1.2.1 d_Shelf_move_68 (lv_at hl 3 rfl) ?_
        refine lv_aload_n C.1.1 C.1.2.1 d_Shelf_move_70 rfl (lv_at hl 0 rfl) ?_
        obtain ⟨v5, ev5, h⟩ := h
        refine mg_R C.1 hM ok_Shelf (by decide) kw98 ev5 d_Shelf_move_71 ?_
        refine lv_iload C.1.1 C.1.2.1 d_Shelf_move_74 (lv_at hl 3 rfl) ?_
        refine lv_iconst (v := (1 : Int32)) C.1.1 C.1.2.1 d_Shelf_move_76 (by decide) ?_
        refine lv_isub C.1.1 C.1.2.1 d_Shelf_move_77 ?_
        obtain ⟨v6, ev6, h⟩ := h
        refine ma_R C.1 hM 4 rfl ev6 d_Shelf_move_78 ?_
        obtain ⟨ho, h⟩ := h
        obtain ⟨M7, eM7, h⟩ := h
        refine ms_R C.1 hM hS 4 rfl rfl ho eM7 d_Shelf_move_79 (fun H locs hM hS => ?_)
        refine lv_iinc (v := x4 + (-1 : Int32)) (lv' := [(4, .int (x4 + (-1 : Int32))), (0, .ref x0), (2, .int x2), (3, .ref x3)]) C.1.1 C.1.2.1 d_Shelf_move_80 hl (k := 3) rfl rfl (by decide) rfl (fun ls hl => ?_)
        refine lv_goto (tgt := 58) C.1.1 C.1.2.1 d_Shelf_move_83 (by decide) ?_
        exact ih (x4 + (-1 : Int32)) M7 h.1 (Nat.lt_of_lt_of_le h.2 (Nat.le_of_lt_succ hn)) _ _ _ hM hS (lv_sub hl [1, 2, 3, 0] rfl)
  exact key _ x4 M hI (Nat.lt_succ_self _)
def wp_Shelf_move_b27 (g : Nat → ClassId) (P : Mem → Prop) (M : Mem) (x0 : Nat) (x1 : Int32) (x2 : Int32) (x3 : Nat) (x4 : Int32) : Prop :=
  ∃ (I : Int32 → Mem → Prop) (μ : Int32 → Mem → Nat), I x4 M ∧ ∀ (x4 : Int32) (M : Mem), I x4 M →
  (x2 ≤ x4 → (wp_Shelf_move_b58 g P M x0 x2 x3 x1)) ∧ (¬ x2 ≤ x4 → (∃ v2 : Nat, gR M 4 x0 0 = some v2 ∧ (∃ v3 : Nat, gR M 4 x0 0 = some v3 ∧ (∃ v4 : Nat, aQ M (g 4) v3 (x4 + (1 : Int32)) = some (some v4) ∧ (isO M 3 v4 ∧ (∃ M5 : Mem, sR M (g 4) v2 x4 v4 = some M5 ∧ ((I (x4 + (1 : Int32)) M5 ∧ μ (x4 + (1 : Int32)) M5 < μ x4 M))))))))
set_option maxHeartbeats 4000000 in
set_option maxRecDepth 100000 in
theorem t_Shelf_move_b27 {l : Launch} {D : va_G} {g : Nat → ClassId} {p : Program} {e : Env} {s : State} {m : MethodId} {args : Array Value} {below : List Frame} {meth : Method} {c : Code} {M0 : Mem} {P : Mem → Prop} {M : Mem} {x0 : Nat} {x1 : Int32} {x2 : Int32} {x3 : Nat} {x4 : Int32} (C : C_Shelf_move D g p s m args meth c M0) (h : wp_Shelf_move_b27 g P M x0 x1 x2 x3 x4 ) : B_Shelf_move l D p e s m args below meth c M0 P M 27 [(0, .ref x0), (1, .int x1), (2, .int x2), (3, .ref x3), (4, .int x4)] [] := by
  unfold wp_Shelf_move_b27 at h
  obtain ⟨I, μ, hI, hb⟩ := h
  have key : ∀ (n : Nat) (x4 : Int32) (M : Mem), I x4 M → μ x4 M < n → B_Shelf_move l D p e s m args below meth c M0 P M 27 [(0, .ref x0), (1, .int x1), (2, .int x2), (3, .ref x3), (4, .int x4)] [] := by
    intro n
    induction n with
    | zero => intro x4 M _ hn; exact absurd hn (Nat.not_lt_zero _)
    | succ n ih =>
      intro x4 M hI hn ls H locs hM hS hl
      have h := hb x4 M hI
      refine lv_iload C.1.1 C.1.2.1 d_Shelf_move_27 (lv_at hl 4 rfl) ?_
      refine lv_iload_n C.1.1 C.1.2.1 d_Shelf_move_29 rfl (lv_at hl 2 rfl) ?_
      refine lv_icmp_ge (tgt := 55) C.1.1 C.1.2.1 d_Shelf_move_30 (by decide) (fun c1 => ?_) (fun c1 => ?_)
      · have h := h.1 c1
        refine lv_iload_n C.1.1 C.1.2.1 d_Shelf_move_55 rfl (lv_at hl 1 rfl) ?_
        refine lv_istore (lv' := [(4, .int x1), (0, .ref x0), (1, .int x1), (2, .int x2), (3, .ref x3)]) C.1.1 C.1.2.1 d_Shelf_move_56 hl (by decide) rfl (fun ls hl => ?_)
        exact t_Shelf_move_b58 C h _ _ _ hM hS (lv_sub hl [1, 3, 4, 0] rfl)
      · have h := h.2 c1
        refine lv_aload_n C.1.1 C.1.2.1 d_Shelf_move_33 rfl (lv_at hl 0 rfl) ?_
        obtain ⟨v2, ev2, h⟩ := h
        refine mg_R C.1 hM ok_Shelf (by decide) kw98 ev2 d_Shelf_move_34 ?_
        refine lv_iload C.1.1 C.1.2.1 d_Shelf_move_37 (lv_at hl 4 rfl) ?_
        refine lv_aload_n C.1.1 C.1.2.1 d_Shelf_move_39 rfl (lv_at hl 0 rfl) ?_
        obtain ⟨v3, ev3, h⟩ := h
        refine mg_R C.1 hM ok_Shelf (by decide) kw98 ev3 d_Shelf_move_40 ?_
        refine lv_iload C.1.1 C.1.2.1 d_Shelf_move_43 (lv_at hl 4 rfl) ?_
        refine lv_iconst (v := (1 : Int32)) C.1.1 C.1.2.1 d_Shelf_move_45 (by decide) ?_
        refine lv_iadd C.1.1 C.1.2.1 d_Shelf_move_46 ?_
        obtain ⟨v4, ev4, h⟩ := h
        refine ma_R C.1 hM 4 rfl ev4 d_Shelf_move_47 ?_
        obtain ⟨ho, h⟩ := h
        obtain ⟨M5, eM5, h⟩ := h
        refine ms_R C.1 hM hS 4 rfl rfl ho eM5 d_Shelf_move_48 (fun H locs hM hS => ?_)
        refine lv_iinc (v := x4 + (1 : Int32)) (lv' := [(4, .int (x4 + (1 : Int32))), (0, .ref x0), (1, .int x1), (2, .int x2), (3, .ref x3)]) C.1.1 C.1.2.1 d_Shelf_move_49 hl (k := 4) rfl rfl (by decide) rfl (fun ls hl => ?_)
        refine lv_goto (tgt := 27) C.1.1 C.1.2.1 d_Shelf_move_52 (by decide) ?_
        exact ih (x4 + (1 : Int32)) M5 h.1 (Nat.lt_of_lt_of_le h.2 (Nat.le_of_lt_succ hn)) _ _ _ hM hS (lv_sub hl [1, 2, 3, 4, 0] rfl)
  exact key _ x4 M hI (Nat.lt_succ_self _)
def wp_Shelf_move_b16 (g : Nat → ClassId) (P : Mem → Prop) (M : Mem) : Prop :=
  P M
set_option maxHeartbeats 4000000 in
set_option maxRecDepth 100000 in
theorem t_Shelf_move_b16 {l : Launch} {D : va_G} {g : Nat → ClassId} {p : Program} {e : Env} {s : State} {m : MethodId} {args : Array Value} {below : List Frame} {meth : Method} {c : Code} {M0 : Mem} {P : Mem → Prop} {M : Mem} (C : C_Shelf_move D g p s m args meth c M0) (h : wp_Shelf_move_b16 g P M ) : B_Shelf_move l D p e s m args below meth c M0 P M 16 [] [] := by
  intro ls H locs hM hS hl
  unfold wp_Shelf_move_b16 at h
  exact mr_V C.1 C.2.1 C.2.2 hM hS ⟨rfl, h⟩ d_Shelf_move_16
def wp_Shelf_move (g : Nat → ClassId) (M : Mem) (x0 : Nat) (x1 : Int32) (x2 : Int32) (P : Mem → Prop) : Prop :=
  isO M 4 x0 ∧ (wp_Shelf_isPlace g M x0 x1 (fun v1 : Int32 => (v1 = 0 → (wp_Shelf_move_b16 g P M)) ∧ (¬ v1 = 0 → (isO M 4 x0 ∧ (wp_Shelf_isPlace g M x0 x2 (fun v4 : Int32 => (v4 = 0 → (wp_Shelf_move_b16 g P M)) ∧ (¬ v4 = 0 → (∃ v7 : Nat, gR M 4 x0 0 = some v7 ∧ (∃ v8 : Nat, aQ M (g 4) v7 x1 = some (some v8) ∧ (wp_Shelf_move_b27 g P M x0 x1 x2 v8 x1))))))))))
set_option maxHeartbeats 4000000 in
set_option maxRecDepth 100000 in
theorem c_Shelf_move {l : Launch} {D : va_G} {g : Nat → ClassId} {M : Mem} {x0 : Nat} {x1 : Int32} {x2 : Int32} {P : Mem → Prop} (h : wp_Shelf_move g M x0 x1 x2 P) : mMet l BIG D vwCl (tysG g) y_Shelf_move b_Shelf_move 5 none rm_Shelf_move [.ref x0, .int x1, .int x2] M (kV fun M' => P M') := by
  refine mMet.of (own := R_Shelf) rfl (by decide) rfl (fun p e s m below meth c C hr hlk hnm ls hM hS hl => ?_)
  have C : C_Shelf_move D g p s m ([.ref x0, .int x1, .int x2] : List Value).toArray meth c M := ⟨C, hr, hlk⟩
  unfold wp_Shelf_move at h
  have hl : lv_has ls 5 [(0, .ref x0), (1, .int x1), (2, .int x2)] := hl
  refine lv_aload_n C.1.1 C.1.2.1 d_Shelf_move_0 rfl (lv_at hl 0 rfl) ?_
  refine lv_iload_n C.1.1 C.1.2.1 d_Shelf_move_1 rfl (lv_at hl 1 rfl) ?_
  obtain ⟨ho, h⟩ := h
  refine mc_V (As := [.int x1]) (ci := 4) C.1 hM hS bigGood (c_Shelf_isPlace h) rfl ho kw186 kw189 kw190 kw188 kw187 hd_Shelf_isPlace ⟨by decide, by decide⟩ hl.1 rfl (Nat.le_of_ble_eq_true rfl) d_Shelf_move_2 (mc := 0) (ms := 0) rfl rfl ⟨by decide, by decide⟩ (fun v M' H locs hp hM hS => ?_)
  obtain ⟨v1, rfl, rfl, h⟩ := hp
  refine lv_if_eq (tgt := 16) C.1.1 C.1.2.1 d_Shelf_move_5 (by decide) (fun c3 => ?_) (fun c3 => ?_)
  · have h := h.1 c3
    exact t_Shelf_move_b16 C h _ _ _ hM hS (lv_sub hl [] rfl)
  · have h := h.2 c3
    refine lv_aload_n C.1.1 C.1.2.1 d_Shelf_move_8 rfl (lv_at hl 0 rfl) ?_
    refine lv_iload_n C.1.1 C.1.2.1 d_Shelf_move_9 rfl (lv_at hl 2 rfl) ?_
    obtain ⟨ho, h⟩ := h
    refine mc_V (As := [.int x2]) (ci := 4) C.1 hM hS bigGood (c_Shelf_isPlace h) rfl ho kw186 kw189 kw190 kw188 kw187 hd_Shelf_isPlace ⟨by decide, by decide⟩ hl.1 rfl (Nat.le_of_ble_eq_true rfl) d_Shelf_move_10 (mc := 0) (ms := 0) rfl rfl ⟨by decide, by decide⟩ (fun v M' H locs hp hM hS => ?_)
    obtain ⟨v4, rfl, rfl, h⟩ := hp
    refine lv_if_ne (tgt := 17) C.1.1 C.1.2.1 d_Shelf_move_13 (by decide) (fun c6 => ?_) (fun c6 => ?_)
    · have h := h.2 c6
      refine lv_aload_n C.1.1 C.1.2.1 d_Shelf_move_17 rfl (lv_at hl 0 rfl) ?_
      obtain ⟨v7, ev7, h⟩ := h
      refine mg_R C.1 hM ok_Shelf (by decide) kw98 ev7 d_Shelf_move_18 ?_
      refine lv_iload_n C.1.1 C.1.2.1 d_Shelf_move_21 rfl (lv_at hl 1 rfl) ?_
      obtain ⟨v8, ev8, h⟩ := h
      refine ma_R C.1 hM 4 rfl ev8 d_Shelf_move_22 ?_
      refine lv_astore_n (lv' := [(3, .ref v8), (0, .ref x0), (1, .int x1), (2, .int x2)]) C.1.1 C.1.2.1 d_Shelf_move_23 rfl hl (by decide) rfl (fun ls hl => ?_)
      refine lv_iload_n C.1.1 C.1.2.1 d_Shelf_move_24 rfl (lv_at hl 2 rfl) ?_
      refine lv_istore (lv' := [(4, .int x1), (3, .ref v8), (0, .ref x0), (1, .int x1), (2, .int x2)]) C.1.1 C.1.2.1 d_Shelf_move_25 hl (by decide) rfl (fun ls hl => ?_)
      exact t_Shelf_move_b27 C h _ _ _ hM hS (lv_sub hl [2, 3, 4, 1, 0] rfl)
    · have h := h.1 c6
      exact t_Shelf_move_b16 C h _ _ _ hM hS (lv_sub hl [] rfl)
theorem d_Shelf_put_0 : decode b_Shelf_put 0 = .ok (.aload_n 0, 1) := by decide +kernel
theorem d_Shelf_put_1 : decode b_Shelf_put 1 = .ok (.aload_n 1, 1) := by decide +kernel
theorem d_Shelf_put_2 : decode b_Shelf_put 2 = .ok (.invokevirtual 22, 3) := by decide +kernel
theorem d_Shelf_put_5 : decode b_Shelf_put 5 = .ok (.istore_n 3, 1) := by decide +kernel
theorem d_Shelf_put_6 : decode b_Shelf_put 6 = .ok (.aload_n 0, 1) := by decide +kernel
theorem d_Shelf_put_7 : decode b_Shelf_put 7 = .ok (.iload_n 3, 1) := by decide +kernel
theorem d_Shelf_put_8 : decode b_Shelf_put 8 = .ok (.aload_n 1, 1) := by decide +kernel
theorem d_Shelf_put_9 : decode b_Shelf_put 9 = .ok (.invokevirtual 26, 3) := by decide +kernel
theorem d_Shelf_put_12 : decode b_Shelf_put 12 = .ok (.ifCond .ne 7, 3) := by decide +kernel
theorem d_Shelf_put_15 : decode b_Shelf_put 15 = .ok (.iconst 1, 1) := by decide +kernel
theorem d_Shelf_put_16 : decode b_Shelf_put 16 = .ok (.goto 4, 3) := by decide +kernel
theorem d_Shelf_put_19 : decode b_Shelf_put 19 = .ok (.iconst 0, 1) := by decide +kernel
theorem d_Shelf_put_20 : decode b_Shelf_put 20 = .ok (.istore 4, 2) := by decide +kernel
theorem d_Shelf_put_22 : decode b_Shelf_put 22 = .ok (.iload_n 3, 1) := by decide +kernel
theorem d_Shelf_put_23 : decode b_Shelf_put 23 = .ok (.aload_n 0, 1) := by decide +kernel
theorem d_Shelf_put_24 : decode b_Shelf_put 24 = .ok (.getfield 11, 3) := by decide +kernel
theorem d_Shelf_put_27 : decode b_Shelf_put 27 = .ok (.arraylength, 1) := by decide +kernel
theorem d_Shelf_put_28 : decode b_Shelf_put 28 = .ok (.if_icmp .ge 20, 3) := by decide +kernel
theorem d_Shelf_put_31 : decode b_Shelf_put 31 = .ok (.iload 4, 2) := by decide +kernel
theorem d_Shelf_put_33 : decode b_Shelf_put 33 = .ok (.ifCond .eq 17, 3) := by decide +kernel
theorem d_Shelf_put_36 : decode b_Shelf_put 36 = .ok (.aload_n 0, 1) := by decide +kernel
theorem d_Shelf_put_37 : decode b_Shelf_put 37 = .ok (.getfield 18, 3) := by decide +kernel
theorem d_Shelf_put_40 : decode b_Shelf_put 40 = .ok (.aload_n 0, 1) := by decide +kernel
theorem d_Shelf_put_41 : decode b_Shelf_put 41 = .ok (.getfield 11, 3) := by decide +kernel
theorem d_Shelf_put_44 : decode b_Shelf_put 44 = .ok (.arraylength, 1) := by decide +kernel
theorem d_Shelf_put_45 : decode b_Shelf_put 45 = .ok (.if_icmp .lt 5, 3) := by decide +kernel
theorem d_Shelf_put_48 : decode b_Shelf_put 48 = .ok (.iconst 0, 1) := by decide +kernel
theorem d_Shelf_put_49 : decode b_Shelf_put 49 = .ok (.ireturn, 1) := by decide +kernel
theorem d_Shelf_put_50 : decode b_Shelf_put 50 = .ok (.iload 4, 2) := by decide +kernel
theorem d_Shelf_put_52 : decode b_Shelf_put 52 = .ok (.ifCond .eq 34, 3) := by decide +kernel
theorem d_Shelf_put_55 : decode b_Shelf_put 55 = .ok (.aload_n 0, 1) := by decide +kernel
theorem d_Shelf_put_56 : decode b_Shelf_put 56 = .ok (.dup, 1) := by decide +kernel
theorem d_Shelf_put_57 : decode b_Shelf_put 57 = .ok (.getfield 18, 3) := by decide +kernel
theorem d_Shelf_put_60 : decode b_Shelf_put 60 = .ok (.iconst 1, 1) := by decide +kernel
theorem d_Shelf_put_61 : decode b_Shelf_put 61 = .ok (.iadd, 1) := by decide +kernel
theorem d_Shelf_put_62 : decode b_Shelf_put 62 = .ok (.putfield 18, 3) := by decide +kernel
theorem d_Shelf_put_65 : decode b_Shelf_put 65 = .ok (.aload_n 0, 1) := by decide +kernel
theorem d_Shelf_put_66 : decode b_Shelf_put 66 = .ok (.aload_n 0, 1) := by decide +kernel
theorem d_Shelf_put_67 : decode b_Shelf_put 67 = .ok (.getfield 18, 3) := by decide +kernel
theorem d_Shelf_put_70 : decode b_Shelf_put 70 = .ok (.iconst 1, 1) := by decide +kernel
theorem d_Shelf_put_71 : decode b_Shelf_put 71 = .ok (.isub, 1) := by decide +kernel
theorem d_Shelf_put_72 : decode b_Shelf_put 72 = .ok (.iload_n 3, 1) := by decide +kernel
theorem d_Shelf_put_73 : decode b_Shelf_put 73 = .ok (.invokevirtual 30, 3) := by decide +kernel
theorem d_Shelf_put_76 : decode b_Shelf_put 76 = .ok (.aload_n 0, 1) := by decide +kernel
theorem d_Shelf_put_77 : decode b_Shelf_put 77 = .ok (.getfield 11, 3) := by decide +kernel
theorem d_Shelf_put_80 : decode b_Shelf_put 80 = .ok (.iload_n 3, 1) := by decide +kernel
theorem d_Shelf_put_81 : decode b_Shelf_put 81 = .ok (.aaload, 1) := by decide +kernel
theorem d_Shelf_put_82 : decode b_Shelf_put 82 = .ok (.aload_n 1, 1) := by decide +kernel
theorem d_Shelf_put_83 : decode b_Shelf_put 83 = .ok (.invokevirtual 34, 3) := by decide +kernel
theorem d_Shelf_put_86 : decode b_Shelf_put 86 = .ok (.aload_n 0, 1) := by decide +kernel
theorem d_Shelf_put_87 : decode b_Shelf_put 87 = .ok (.getfield 11, 3) := by decide +kernel
theorem d_Shelf_put_90 : decode b_Shelf_put 90 = .ok (.iload_n 3, 1) := by decide +kernel
theorem d_Shelf_put_91 : decode b_Shelf_put 91 = .ok (.aaload, 1) := by decide +kernel
theorem d_Shelf_put_92 : decode b_Shelf_put 92 = .ok (.iload_n 2, 1) := by decide +kernel
theorem d_Shelf_put_93 : decode b_Shelf_put 93 = .ok (.invokevirtual 38, 3) := by decide +kernel
theorem d_Shelf_put_96 : decode b_Shelf_put 96 = .ok (.iconst 1, 1) := by decide +kernel
theorem d_Shelf_put_97 : decode b_Shelf_put 97 = .ok (.ireturn, 1) := by decide +kernel
abbrev rm_Shelf_put : Room := { frames := 4, cells := 0, slots := 0, locals := 86 }
abbrev C_Shelf_put (D : va_G) (g : Nat → ClassId) (p : Program) (s : State) (m : MethodId) (args : Array Value) (meth : Method) (c : Code) (M0 : Mem) : Prop := Cx p s m args c b_Shelf_put 5 R_Shelf BIG D vwCl (tysG g) (mA M0 s.heap.size) ∧ meth.sig.returnType = (some .boolean) ∧ meth.locks = false
abbrev B_Shelf_put (l : Launch) (D : va_G) (p : Program) (e : Env) (s : State) (m : MethodId) (args : Array Value) (below : List Frame) (meth : Method) (c : Code) (M0 : Mem) (P : Int32 → Mem → Prop) (M : Mem) (pc : Nat) (lv : List (Nat × Value)) (st : List Value) : Prop := Wb p l e rm_Shelf_put s m args below meth c 5 D vwCl M0 (kI fun r M' => P r M') 0 0 M pc lv st
def wp_Shelf_put_b86 (g : Nat → ClassId) (P : Int32 → Mem → Prop) (M : Mem) (x0 : Nat) (x2 : Int32) (x3 : Int32) : Prop :=
  ∃ v1 : Nat, gR M 4 x0 0 = some v1 ∧ (∃ v2 : Nat, aQ M (g 4) v1 x3 = some (some v2) ∧ (isO M 3 v2 ∧ (wp_Kt_setValue g M v2 x2 (fun (M4 : Mem) => isB (1 : Int32) ∧ P (1 : Int32) M4))))
set_option maxHeartbeats 4000000 in
set_option maxRecDepth 100000 in
theorem t_Shelf_put_b86 {l : Launch} {D : va_G} {g : Nat → ClassId} {p : Program} {e : Env} {s : State} {m : MethodId} {args : Array Value} {below : List Frame} {meth : Method} {c : Code} {M0 : Mem} {P : Int32 → Mem → Prop} {M : Mem} {x0 : Nat} {x2 : Int32} {x3 : Int32} (C : C_Shelf_put D g p s m args meth c M0) (h : wp_Shelf_put_b86 g P M x0 x2 x3 ) : B_Shelf_put l D p e s m args below meth c M0 P M 86 [(0, .ref x0), (2, .int x2), (3, .int x3)] [] := by
  intro ls H locs hM hS hl
  unfold wp_Shelf_put_b86 at h
  refine lv_aload_n C.1.1 C.1.2.1 d_Shelf_put_86 rfl (lv_at hl 0 rfl) ?_
  obtain ⟨v1, ev1, h⟩ := h
  refine mg_R C.1 hM ok_Shelf (by decide) kw98 ev1 d_Shelf_put_87 ?_
  refine lv_iload_n C.1.1 C.1.2.1 d_Shelf_put_90 rfl (lv_at hl 2 rfl) ?_
  obtain ⟨v2, ev2, h⟩ := h
  refine ma_R C.1 hM 4 rfl ev2 d_Shelf_put_91 ?_
  refine lv_iload_n C.1.1 C.1.2.1 d_Shelf_put_92 rfl (lv_at hl 1 rfl) ?_
  obtain ⟨ho, h⟩ := h
  refine mc_V (As := [.int x2]) (ci := 3) C.1 hM hS bigGood (c_Kt_setValue h) rfl ho kw272 kw274 kw275 kw173 kw273 hd_Kt_setValue ⟨by decide, by decide⟩ hl.1 rfl (Nat.le_of_ble_eq_true rfl) d_Shelf_put_93 (mc := 0) (ms := 0) rfl rfl ⟨by decide, by decide⟩ (fun v M4 H locs hp hM hS => ?_)
  obtain ⟨rfl, h⟩ := hp
  refine lv_iconst (v := (1 : Int32)) C.1.1 C.1.2.1 d_Shelf_put_96 (by decide) ?_
  exact mr_Z C.1 C.2.1 C.2.2 h.1 hM hS ⟨_, rfl, h.2⟩ d_Shelf_put_97
def wp_Shelf_put_b50 (g : Nat → ClassId) (P : Int32 → Mem → Prop) (M : Mem) (x0 : Nat) (x1 : Nat) (x2 : Int32) (x3 : Int32) (x4 : Int32) : Prop :=
  (x4 = 0 → (wp_Shelf_put_b86 g P M x0 x2 x3)) ∧ (¬ x4 = 0 → (∃ v2 : Int32, gI M 4 x0 1 = some v2 ∧ (∃ M3 : Mem, pV M 4 x0 1 (.int (v2 + (1 : Int32))) = some M3 ∧ (∃ v4 : Int32, gI M3 4 x0 1 = some v4 ∧ (isO M3 4 x0 ∧ (wp_Shelf_move g M3 x0 (v4 - (1 : Int32)) x3 (fun (M6 : Mem) => ∃ v7 : Nat, gR M6 4 x0 0 = some v7 ∧ (∃ v8 : Nat, aQ M6 (g 4) v7 x3 = some (some v8) ∧ (isO M6 3 v8 ∧ (wp_Kt_setText g M6 v8 x1 (fun (M10 : Mem) => wp_Shelf_put_b86 g P M10 x0 x2 x3)))))))))))
set_option maxHeartbeats 4000000 in
set_option maxRecDepth 100000 in
theorem t_Shelf_put_b50 {l : Launch} {D : va_G} {g : Nat → ClassId} {p : Program} {e : Env} {s : State} {m : MethodId} {args : Array Value} {below : List Frame} {meth : Method} {c : Code} {M0 : Mem} {P : Int32 → Mem → Prop} {M : Mem} {x0 : Nat} {x1 : Nat} {x2 : Int32} {x3 : Int32} {x4 : Int32} (C : C_Shelf_put D g p s m args meth c M0) (h : wp_Shelf_put_b50 g P M x0 x1 x2 x3 x4 ) : B_Shelf_put l D p e s m args below meth c M0 P M 50 [(0, .ref x0), (1, .ref x1), (2, .int x2), (3, .int x3), (4, .int x4)] [] := by
  intro ls H locs hM hS hl
  unfold wp_Shelf_put_b50 at h
  refine lv_iload C.1.1 C.1.2.1 d_Shelf_put_50 (lv_at hl 4 rfl) ?_
  refine lv_if_eq (tgt := 86) C.1.1 C.1.2.1 d_Shelf_put_52 (by decide) (fun c1 => ?_) (fun c1 => ?_)
  · have h := h.1 c1
    exact t_Shelf_put_b86 C h _ _ _ hM hS (lv_sub hl [0, 2, 3] rfl)
  · have h := h.2 c1
    refine lv_aload_n C.1.1 C.1.2.1 d_Shelf_put_55 rfl (lv_at hl 0 rfl) ?_
    refine lv_dup C.1.1 C.1.2.1 d_Shelf_put_56 rfl ?_
    obtain ⟨v2, ev2, h⟩ := h
    refine mg_I C.1 hM ok_Shelf (by decide) kw97 ev2 d_Shelf_put_57 ?_
    refine lv_iconst (v := (1 : Int32)) C.1.1 C.1.2.1 d_Shelf_put_60 (by decide) ?_
    refine lv_iadd C.1.1 C.1.2.1 d_Shelf_put_61 ?_
    obtain ⟨M3, eM3, h⟩ := h
    refine mp_V C.1 hM hS ok_Shelf (by decide) kw97 rfl rfl rfl eM3 d_Shelf_put_62 (fun H locs hM hS => ?_)
    refine lv_aload_n C.1.1 C.1.2.1 d_Shelf_put_65 rfl (lv_at hl 0 rfl) ?_
    refine lv_aload_n C.1.1 C.1.2.1 d_Shelf_put_66 rfl (lv_at hl 0 rfl) ?_
    obtain ⟨v4, ev4, h⟩ := h
    refine mg_I C.1 hM ok_Shelf (by decide) kw97 ev4 d_Shelf_put_67 ?_
    refine lv_iconst (v := (1 : Int32)) C.1.1 C.1.2.1 d_Shelf_put_70 (by decide) ?_
    refine lv_isub C.1.1 C.1.2.1 d_Shelf_put_71 ?_
    refine lv_iload_n C.1.1 C.1.2.1 d_Shelf_put_72 rfl (lv_at hl 3 rfl) ?_
    obtain ⟨ho, h⟩ := h
    refine mc_V (As := [.int (v4 - (1 : Int32)), .int x3]) (ci := 4) C.1 hM hS bigGood (c_Shelf_move h) rfl ho kw276 kw278 kw279 kw188 kw277 hd_Shelf_move ⟨by decide, by decide⟩ hl.1 rfl (Nat.le_of_ble_eq_true rfl) d_Shelf_put_73 (mc := 0) (ms := 0) rfl rfl ⟨by decide, by decide⟩ (fun v M6 H locs hp hM hS => ?_)
    obtain ⟨rfl, h⟩ := hp
    refine lv_aload_n C.1.1 C.1.2.1 d_Shelf_put_76 rfl (lv_at hl 0 rfl) ?_
    obtain ⟨v7, ev7, h⟩ := h
    refine mg_R C.1 hM ok_Shelf (by decide) kw98 ev7 d_Shelf_put_77 ?_
    refine lv_iload_n C.1.1 C.1.2.1 d_Shelf_put_80 rfl (lv_at hl 3 rfl) ?_
    obtain ⟨v8, ev8, h⟩ := h
    refine ma_R C.1 hM 4 rfl ev8 d_Shelf_put_81 ?_
    refine lv_aload_n C.1.1 C.1.2.1 d_Shelf_put_82 rfl (lv_at hl 1 rfl) ?_
    obtain ⟨ho, h⟩ := h
    refine mc_V (As := [.ref x1]) (ci := 3) C.1 hM hS bigGood (c_Kt_setText h) rfl ho kw280 kw282 kw283 kw173 kw281 hd_Kt_setText ⟨by decide, by decide⟩ hl.1 rfl (Nat.le_of_ble_eq_true rfl) d_Shelf_put_83 (mc := 0) (ms := 0) rfl rfl ⟨by decide, by decide⟩ (fun v M10 H locs hp hM hS => ?_)
    obtain ⟨rfl, h⟩ := hp
    exact t_Shelf_put_b86 C h _ _ _ hM hS (lv_sub hl [0, 2, 3] rfl)
def wp_Shelf_put_b48 (g : Nat → ClassId) (P : Int32 → Mem → Prop) (M : Mem) : Prop :=
  isB (0 : Int32) ∧ P (0 : Int32) M
set_option maxHeartbeats 4000000 in
set_option maxRecDepth 100000 in
theorem t_Shelf_put_b48 {l : Launch} {D : va_G} {g : Nat → ClassId} {p : Program} {e : Env} {s : State} {m : MethodId} {args : Array Value} {below : List Frame} {meth : Method} {c : Code} {M0 : Mem} {P : Int32 → Mem → Prop} {M : Mem} (C : C_Shelf_put D g p s m args meth c M0) (h : wp_Shelf_put_b48 g P M ) : B_Shelf_put l D p e s m args below meth c M0 P M 48 [] [] := by
  intro ls H locs hM hS hl
  unfold wp_Shelf_put_b48 at h
  refine lv_iconst (v := (0 : Int32)) C.1.1 C.1.2.1 d_Shelf_put_48 (by decide) ?_
  exact mr_Z C.1 C.2.1 C.2.2 h.1 hM hS ⟨_, rfl, h.2⟩ d_Shelf_put_49
def wp_Shelf_put_b20 (g : Nat → ClassId) (P : Int32 → Mem → Prop) (M : Mem) (x0 : Nat) (x1 : Nat) (x2 : Int32) (x3 : Int32) (t0 : Int32) : Prop :=
  ∃ v1 : Nat, gR M 4 x0 0 = some v1 ∧ (∃ n2 : Nat, aN M (g 4) v1 = some n2 ∧ (((nI n2) ≤ x3 → (wp_Shelf_put_b48 g P M)) ∧ (¬ (nI n2) ≤ x3 → ((t0 = 0 → (wp_Shelf_put_b50 g P M x0 x1 x2 x3 t0)) ∧ (¬ t0 = 0 → (∃ v5 : Int32, gI M 4 x0 1 = some v5 ∧ (∃ v6 : Nat, gR M 4 x0 0 = some v6 ∧ (∃ n7 : Nat, aN M (g 4) v6 = some n7 ∧ ((v5 < (nI n7) → (wp_Shelf_put_b50 g P M x0 x1 x2 x3 t0)) ∧ (¬ v5 < (nI n7) → (wp_Shelf_put_b48 g P M)))))))))))
set_option maxHeartbeats 4000000 in
set_option maxRecDepth 100000 in
theorem t_Shelf_put_b20 {l : Launch} {D : va_G} {g : Nat → ClassId} {p : Program} {e : Env} {s : State} {m : MethodId} {args : Array Value} {below : List Frame} {meth : Method} {c : Code} {M0 : Mem} {P : Int32 → Mem → Prop} {M : Mem} {x0 : Nat} {x1 : Nat} {x2 : Int32} {x3 : Int32} {t0 : Int32} (C : C_Shelf_put D g p s m args meth c M0) (h : wp_Shelf_put_b20 g P M x0 x1 x2 x3 t0) : B_Shelf_put l D p e s m args below meth c M0 P M 20 [(0, .ref x0), (1, .ref x1), (2, .int x2), (3, .int x3)] [.int t0] := by
  intro ls H locs hM hS hl
  unfold wp_Shelf_put_b20 at h
  refine lv_istore (lv' := [(4, .int t0), (0, .ref x0), (1, .ref x1), (2, .int x2), (3, .int x3)]) C.1.1 C.1.2.1 d_Shelf_put_20 hl (by decide) rfl (fun ls hl => ?_)
  refine lv_iload_n C.1.1 C.1.2.1 d_Shelf_put_22 rfl (lv_at hl 4 rfl) ?_
  refine lv_aload_n C.1.1 C.1.2.1 d_Shelf_put_23 rfl (lv_at hl 1 rfl) ?_
  obtain ⟨v1, ev1, h⟩ := h
  refine mg_R C.1 hM ok_Shelf (by decide) kw98 ev1 d_Shelf_put_24 ?_
  obtain ⟨n2, en2, h⟩ := h
  refine ma_N C.1 hM 4 rfl en2 d_Shelf_put_27 ?_
  refine lv_icmp_ge (tgt := 48) C.1.1 C.1.2.1 d_Shelf_put_28 (by decide) (fun c3 => ?_) (fun c3 => ?_)
  · have h := h.1 c3
    exact t_Shelf_put_b48 C h _ _ _ hM hS (lv_sub hl [] rfl)
  · have h := h.2 c3
    refine lv_iload C.1.1 C.1.2.1 d_Shelf_put_31 (lv_at hl 0 rfl) ?_
    refine lv_if_eq (tgt := 50) C.1.1 C.1.2.1 d_Shelf_put_33 (by decide) (fun c4 => ?_) (fun c4 => ?_)
    · have h := h.1 c4
      exact t_Shelf_put_b50 C h _ _ _ hM hS (lv_sub hl [1, 2, 3, 4, 0] rfl)
    · have h := h.2 c4
      refine lv_aload_n C.1.1 C.1.2.1 d_Shelf_put_36 rfl (lv_at hl 1 rfl) ?_
      obtain ⟨v5, ev5, h⟩ := h
      refine mg_I C.1 hM ok_Shelf (by decide) kw97 ev5 d_Shelf_put_37 ?_
      refine lv_aload_n C.1.1 C.1.2.1 d_Shelf_put_40 rfl (lv_at hl 1 rfl) ?_
      obtain ⟨v6, ev6, h⟩ := h
      refine mg_R C.1 hM ok_Shelf (by decide) kw98 ev6 d_Shelf_put_41 ?_
      obtain ⟨n7, en7, h⟩ := h
      refine ma_N C.1 hM 4 rfl en7 d_Shelf_put_44 ?_
      refine lv_icmp_lt (tgt := 50) C.1.1 C.1.2.1 d_Shelf_put_45 (by decide) (fun c8 => ?_) (fun c8 => ?_)
      · have h := h.1 c8
        exact t_Shelf_put_b50 C h _ _ _ hM hS (lv_sub hl [1, 2, 3, 4, 0] rfl)
      · have h := h.2 c8
        exact t_Shelf_put_b48 C h _ _ _ hM hS (lv_sub hl [] rfl)
def wp_Shelf_put (g : Nat → ClassId) (M : Mem) (x0 : Nat) (x1 : Nat) (x2 : Int32) (P : Int32 → Mem → Prop) : Prop :=
  isO M 4 x0 ∧ (wp_Shelf_placeFor g M x0 x1 (fun v1 : Int32 => isO M 4 x0 ∧ (wp_Shelf_isAt g M x0 v1 x1 (fun v3 : Int32 => (v3 = 0 → (wp_Shelf_put_b20 g P M x0 x1 x2 v1 (1 : Int32))) ∧ (¬ v3 = 0 → (wp_Shelf_put_b20 g P M x0 x1 x2 v1 (0 : Int32)))))))
set_option maxHeartbeats 4000000 in
set_option maxRecDepth 100000 in
theorem c_Shelf_put {l : Launch} {D : va_G} {g : Nat → ClassId} {M : Mem} {x0 : Nat} {x1 : Nat} {x2 : Int32} {P : Int32 → Mem → Prop} (h : wp_Shelf_put g M x0 x1 x2 P) : mMet l BIG D vwCl (tysG g) y_Shelf_put b_Shelf_put 5 (some .boolean) rm_Shelf_put [.ref x0, .ref x1, .int x2] M (kI fun r M' => P r M') := by
  refine mMet.of (own := R_Shelf) rfl (by decide) rfl (fun p e s m below meth c C hr hlk hnm ls hM hS hl => ?_)
  have C : C_Shelf_put D g p s m ([.ref x0, .ref x1, .int x2] : List Value).toArray meth c M := ⟨C, hr, hlk⟩
  unfold wp_Shelf_put at h
  have hl : lv_has ls 5 [(0, .ref x0), (1, .ref x1), (2, .int x2)] := hl
  refine lv_aload_n C.1.1 C.1.2.1 d_Shelf_put_0 rfl (lv_at hl 0 rfl) ?_
  refine lv_aload_n C.1.1 C.1.2.1 d_Shelf_put_1 rfl (lv_at hl 1 rfl) ?_
  obtain ⟨ho, h⟩ := h
  refine mc_V (As := [.ref x1]) (ci := 4) C.1 hM hS bigGood (c_Shelf_placeFor h) rfl ho kw284 kw286 kw287 kw188 kw285 hd_Shelf_placeFor ⟨by decide, by decide⟩ hl.1 rfl (Nat.le_of_ble_eq_true rfl) d_Shelf_put_2 (mc := 0) (ms := 0) rfl rfl ⟨by decide, by decide⟩ (fun v M' H locs hp hM hS => ?_)
  obtain ⟨v1, rfl, rfl, h⟩ := hp
  refine lv_istore_n (lv' := [(3, .int v1), (0, .ref x0), (1, .ref x1), (2, .int x2)]) C.1.1 C.1.2.1 d_Shelf_put_5 rfl hl (by decide) rfl (fun ls hl => ?_)
  refine lv_aload_n C.1.1 C.1.2.1 d_Shelf_put_6 rfl (lv_at hl 1 rfl) ?_
  refine lv_iload_n C.1.1 C.1.2.1 d_Shelf_put_7 rfl (lv_at hl 0 rfl) ?_
  refine lv_aload_n C.1.1 C.1.2.1 d_Shelf_put_8 rfl (lv_at hl 2 rfl) ?_
  obtain ⟨ho, h⟩ := h
  refine mc_V (As := [.int v1, .ref x1]) (ci := 4) C.1 hM hS bigGood (c_Shelf_isAt h) rfl ho kw288 kw290 kw291 kw188 kw289 hd_Shelf_isAt ⟨by decide, by decide⟩ hl.1 rfl (Nat.le_of_ble_eq_true rfl) d_Shelf_put_9 (mc := 0) (ms := 0) rfl rfl ⟨by decide, by decide⟩ (fun v M' H locs hp hM hS => ?_)
  obtain ⟨v3, rfl, rfl, h⟩ := hp
  refine lv_if_ne (tgt := 19) C.1.1 C.1.2.1 d_Shelf_put_12 (by decide) (fun c5 => ?_) (fun c5 => ?_)
  · have h := h.2 c5
    refine lv_iconst (v := (0 : Int32)) C.1.1 C.1.2.1 d_Shelf_put_19 (by decide) ?_
    exact t_Shelf_put_b20 C h _ _ _ hM hS (lv_sub hl [1, 2, 3, 0] rfl)
  · have h := h.1 c5
    refine lv_iconst (v := (1 : Int32)) C.1.1 C.1.2.1 d_Shelf_put_15 (by decide) ?_
    refine lv_goto (tgt := 20) C.1.1 C.1.2.1 d_Shelf_put_16 (by decide) ?_
    exact t_Shelf_put_b20 C h _ _ _ hM hS (lv_sub hl [1, 2, 3, 0] rfl)
theorem d_Shelf_drop_0 : decode b_Shelf_drop 0 = .ok (.aload_n 0, 1) := by decide +kernel
theorem d_Shelf_drop_1 : decode b_Shelf_drop 1 = .ok (.aload_n 1, 1) := by decide +kernel
theorem d_Shelf_drop_2 : decode b_Shelf_drop 2 = .ok (.invokevirtual 22, 3) := by decide +kernel
theorem d_Shelf_drop_5 : decode b_Shelf_drop 5 = .ok (.istore_n 2, 1) := by decide +kernel
theorem d_Shelf_drop_6 : decode b_Shelf_drop 6 = .ok (.aload_n 0, 1) := by decide +kernel
theorem d_Shelf_drop_7 : decode b_Shelf_drop 7 = .ok (.iload_n 2, 1) := by decide +kernel
theorem d_Shelf_drop_8 : decode b_Shelf_drop 8 = .ok (.aload_n 1, 1) := by decide +kernel
theorem d_Shelf_drop_9 : decode b_Shelf_drop 9 = .ok (.invokevirtual 26, 3) := by decide +kernel
theorem d_Shelf_drop_12 : decode b_Shelf_drop 12 = .ok (.ifCond .ne 5, 3) := by decide +kernel
theorem d_Shelf_drop_15 : decode b_Shelf_drop 15 = .ok (.iconst 0, 1) := by decide +kernel
theorem d_Shelf_drop_16 : decode b_Shelf_drop 16 = .ok (.ireturn, 1) := by decide +kernel
theorem d_Shelf_drop_17 : decode b_Shelf_drop 17 = .ok (.aload_n 0, 1) := by decide +kernel
theorem d_Shelf_drop_18 : decode b_Shelf_drop 18 = .ok (.iload_n 2, 1) := by decide +kernel
theorem d_Shelf_drop_19 : decode b_Shelf_drop 19 = .ok (.aload_n 0, 1) := by decide +kernel
theorem d_Shelf_drop_20 : decode b_Shelf_drop 20 = .ok (.getfield 18, 3) := by decide +kernel
theorem d_Shelf_drop_23 : decode b_Shelf_drop 23 = .ok (.iconst 1, 1) := by decide +kernel
theorem d_Shelf_drop_24 : decode b_Shelf_drop 24 = .ok (.isub, 1) := by decide +kernel
theorem d_Shelf_drop_25 : decode b_Shelf_drop 25 = .ok (.invokevirtual 30, 3) := by decide +kernel
theorem d_Shelf_drop_28 : decode b_Shelf_drop 28 = .ok (.aload_n 0, 1) := by decide +kernel
theorem d_Shelf_drop_29 : decode b_Shelf_drop 29 = .ok (.dup, 1) := by decide +kernel
theorem d_Shelf_drop_30 : decode b_Shelf_drop 30 = .ok (.getfield 18, 3) := by decide +kernel
theorem d_Shelf_drop_33 : decode b_Shelf_drop 33 = .ok (.iconst 1, 1) := by decide +kernel
theorem d_Shelf_drop_34 : decode b_Shelf_drop 34 = .ok (.isub, 1) := by decide +kernel
theorem d_Shelf_drop_35 : decode b_Shelf_drop 35 = .ok (.putfield 18, 3) := by decide +kernel
theorem d_Shelf_drop_38 : decode b_Shelf_drop 38 = .ok (.iconst 1, 1) := by decide +kernel
theorem d_Shelf_drop_39 : decode b_Shelf_drop 39 = .ok (.ireturn, 1) := by decide +kernel
abbrev rm_Shelf_drop : Room := { frames := 4, cells := 0, slots := 0, locals := 86 }
abbrev C_Shelf_drop (D : va_G) (g : Nat → ClassId) (p : Program) (s : State) (m : MethodId) (args : Array Value) (meth : Method) (c : Code) (M0 : Mem) : Prop := Cx p s m args c b_Shelf_drop 3 R_Shelf BIG D vwCl (tysG g) (mA M0 s.heap.size) ∧ meth.sig.returnType = (some .boolean) ∧ meth.locks = false
abbrev B_Shelf_drop (l : Launch) (D : va_G) (p : Program) (e : Env) (s : State) (m : MethodId) (args : Array Value) (below : List Frame) (meth : Method) (c : Code) (M0 : Mem) (P : Int32 → Mem → Prop) (M : Mem) (pc : Nat) (lv : List (Nat × Value)) (st : List Value) : Prop := Wb p l e rm_Shelf_drop s m args below meth c 3 D vwCl M0 (kI fun r M' => P r M') 0 0 M pc lv st
def wp_Shelf_drop (g : Nat → ClassId) (M : Mem) (x0 : Nat) (x1 : Nat) (P : Int32 → Mem → Prop) : Prop :=
  isO M 4 x0 ∧ (wp_Shelf_placeFor g M x0 x1 (fun v1 : Int32 => isO M 4 x0 ∧ (wp_Shelf_isAt g M x0 v1 x1 (fun v3 : Int32 => (v3 = 0 → (isB (0 : Int32) ∧ P (0 : Int32) M)) ∧ (¬ v3 = 0 → (∃ v6 : Int32, gI M 4 x0 1 = some v6 ∧ (isO M 4 x0 ∧ (wp_Shelf_move g M x0 v1 (v6 - (1 : Int32)) (fun (M8 : Mem) => ∃ v9 : Int32, gI M8 4 x0 1 = some v9 ∧ (∃ M10 : Mem, pV M8 4 x0 1 (.int (v9 - (1 : Int32))) = some M10 ∧ (isB (1 : Int32) ∧ P (1 : Int32) M10)))))))))))
set_option maxHeartbeats 4000000 in
set_option maxRecDepth 100000 in
theorem c_Shelf_drop {l : Launch} {D : va_G} {g : Nat → ClassId} {M : Mem} {x0 : Nat} {x1 : Nat} {P : Int32 → Mem → Prop} (h : wp_Shelf_drop g M x0 x1 P) : mMet l BIG D vwCl (tysG g) y_Shelf_drop b_Shelf_drop 3 (some .boolean) rm_Shelf_drop [.ref x0, .ref x1] M (kI fun r M' => P r M') := by
  refine mMet.of (own := R_Shelf) rfl (by decide) rfl (fun p e s m below meth c C hr hlk hnm ls hM hS hl => ?_)
  have C : C_Shelf_drop D g p s m ([.ref x0, .ref x1] : List Value).toArray meth c M := ⟨C, hr, hlk⟩
  unfold wp_Shelf_drop at h
  have hl : lv_has ls 3 [(0, .ref x0), (1, .ref x1)] := hl
  refine lv_aload_n C.1.1 C.1.2.1 d_Shelf_drop_0 rfl (lv_at hl 0 rfl) ?_
  refine lv_aload_n C.1.1 C.1.2.1 d_Shelf_drop_1 rfl (lv_at hl 1 rfl) ?_
  obtain ⟨ho, h⟩ := h
  refine mc_V (As := [.ref x1]) (ci := 4) C.1 hM hS bigGood (c_Shelf_placeFor h) rfl ho kw284 kw286 kw287 kw188 kw285 hd_Shelf_placeFor ⟨by decide, by decide⟩ hl.1 rfl (Nat.le_of_ble_eq_true rfl) d_Shelf_drop_2 (mc := 0) (ms := 0) rfl rfl ⟨by decide, by decide⟩ (fun v M' H locs hp hM hS => ?_)
  obtain ⟨v1, rfl, rfl, h⟩ := hp
  refine lv_istore_n (lv' := [(2, .int v1), (0, .ref x0), (1, .ref x1)]) C.1.1 C.1.2.1 d_Shelf_drop_5 rfl hl (by decide) rfl (fun ls hl => ?_)
  refine lv_aload_n C.1.1 C.1.2.1 d_Shelf_drop_6 rfl (lv_at hl 1 rfl) ?_
  refine lv_iload_n C.1.1 C.1.2.1 d_Shelf_drop_7 rfl (lv_at hl 0 rfl) ?_
  refine lv_aload_n C.1.1 C.1.2.1 d_Shelf_drop_8 rfl (lv_at hl 2 rfl) ?_
  obtain ⟨ho, h⟩ := h
  refine mc_V (As := [.int v1, .ref x1]) (ci := 4) C.1 hM hS bigGood (c_Shelf_isAt h) rfl ho kw288 kw290 kw291 kw188 kw289 hd_Shelf_isAt ⟨by decide, by decide⟩ hl.1 rfl (Nat.le_of_ble_eq_true rfl) d_Shelf_drop_9 (mc := 0) (ms := 0) rfl rfl ⟨by decide, by decide⟩ (fun v M' H locs hp hM hS => ?_)
  obtain ⟨v3, rfl, rfl, h⟩ := hp
  refine lv_if_ne (tgt := 17) C.1.1 C.1.2.1 d_Shelf_drop_12 (by decide) (fun c5 => ?_) (fun c5 => ?_)
  · have h := h.2 c5
    refine lv_aload_n C.1.1 C.1.2.1 d_Shelf_drop_17 rfl (lv_at hl 1 rfl) ?_
    refine lv_iload_n C.1.1 C.1.2.1 d_Shelf_drop_18 rfl (lv_at hl 0 rfl) ?_
    refine lv_aload_n C.1.1 C.1.2.1 d_Shelf_drop_19 rfl (lv_at hl 1 rfl) ?_
    obtain ⟨v6, ev6, h⟩ := h
    refine mg_I C.1 hM ok_Shelf (by decide) kw97 ev6 d_Shelf_drop_20 ?_
    refine lv_iconst (v := (1 : Int32)) C.1.1 C.1.2.1 d_Shelf_drop_23 (by decide) ?_
    refine lv_isub C.1.1 C.1.2.1 d_Shelf_drop_24 ?_
    obtain ⟨ho, h⟩ := h
    refine mc_V (As := [.int v1, .int (v6 - (1 : Int32))]) (ci := 4) C.1 hM hS bigGood (c_Shelf_move h) rfl ho kw276 kw278 kw279 kw188 kw277 hd_Shelf_move ⟨by decide, by decide⟩ hl.1 rfl (Nat.le_of_ble_eq_true rfl) d_Shelf_drop_25 (mc := 0) (ms := 0) rfl rfl ⟨by decide, by decide⟩ (fun v M8 H locs hp hM hS => ?_)
    obtain ⟨rfl, h⟩ := hp
    refine lv_aload_n C.1.1 C.1.2.1 d_Shelf_drop_28 rfl (lv_at hl 1 rfl) ?_
    refine lv_dup C.1.1 C.1.2.1 d_Shelf_drop_29 rfl ?_
    obtain ⟨v9, ev9, h⟩ := h
    refine mg_I C.1 hM ok_Shelf (by decide) kw97 ev9 d_Shelf_drop_30 ?_
    refine lv_iconst (v := (1 : Int32)) C.1.1 C.1.2.1 d_Shelf_drop_33 (by decide) ?_
    refine lv_isub C.1.1 C.1.2.1 d_Shelf_drop_34 ?_
    obtain ⟨M10, eM10, h⟩ := h
    refine mp_V C.1 hM hS ok_Shelf (by decide) kw97 rfl rfl rfl eM10 d_Shelf_drop_35 (fun H locs hM hS => ?_)
    refine lv_iconst (v := (1 : Int32)) C.1.1 C.1.2.1 d_Shelf_drop_38 (by decide) ?_
    exact mr_Z C.1 C.2.1 C.2.2 h.1 hM hS ⟨_, rfl, h.2⟩ d_Shelf_drop_39
  · have h := h.1 c5
    refine lv_iconst (v := (0 : Int32)) C.1.1 C.1.2.1 d_Shelf_drop_15 (by decide) ?_
    exact mr_Z C.1 C.2.1 C.2.2 h.1 hM hS ⟨_, rfl, h.2⟩ d_Shelf_drop_16
theorem d_Shelf_countTakenBy_0 : decode b_Shelf_countTakenBy 0 = .ok (.iconst 0, 1) := by decide +kernel
theorem d_Shelf_countTakenBy_1 : decode b_Shelf_countTakenBy 1 = .ok (.istore_n 2, 1) := by decide +kernel
theorem d_Shelf_countTakenBy_2 : decode b_Shelf_countTakenBy 2 = .ok (.iconst 0, 1) := by decide +kernel
theorem d_Shelf_countTakenBy_3 : decode b_Shelf_countTakenBy 3 = .ok (.istore_n 3, 1) := by decide +kernel
theorem d_Shelf_countTakenBy_4 : decode b_Shelf_countTakenBy 4 = .ok (.iload_n 3, 1) := by decide +kernel
theorem d_Shelf_countTakenBy_5 : decode b_Shelf_countTakenBy 5 = .ok (.aload_n 0, 1) := by decide +kernel
theorem d_Shelf_countTakenBy_6 : decode b_Shelf_countTakenBy 6 = .ok (.getfield 18, 3) := by decide +kernel
theorem d_Shelf_countTakenBy_9 : decode b_Shelf_countTakenBy 9 = .ok (.if_icmp .ge 37, 3) := by decide +kernel
theorem d_Shelf_countTakenBy_12 : decode b_Shelf_countTakenBy 12 = .ok (.iload_n 3, 1) := by decide +kernel
theorem d_Shelf_countTakenBy_13 : decode b_Shelf_countTakenBy 13 = .ok (.aload_n 0, 1) := by decide +kernel
theorem d_Shelf_countTakenBy_14 : decode b_Shelf_countTakenBy 14 = .ok (.getfield 11, 3) := by decide +kernel
theorem d_Shelf_countTakenBy_17 : decode b_Shelf_countTakenBy 17 = .ok (.arraylength, 1) := by decide +kernel
theorem d_Shelf_countTakenBy_18 : decode b_Shelf_countTakenBy 18 = .ok (.if_icmp .ge 28, 3) := by decide +kernel
theorem d_Shelf_countTakenBy_21 : decode b_Shelf_countTakenBy 21 = .ok (.aload_n 1, 1) := by decide +kernel
theorem d_Shelf_countTakenBy_22 : decode b_Shelf_countTakenBy 22 = .ok (.aload_n 0, 1) := by decide +kernel
theorem d_Shelf_countTakenBy_23 : decode b_Shelf_countTakenBy 23 = .ok (.getfield 11, 3) := by decide +kernel
theorem d_Shelf_countTakenBy_26 : decode b_Shelf_countTakenBy 26 = .ok (.iload_n 3, 1) := by decide +kernel
theorem d_Shelf_countTakenBy_27 : decode b_Shelf_countTakenBy 27 = .ok (.aaload, 1) := by decide +kernel
theorem d_Shelf_countTakenBy_28 : decode b_Shelf_countTakenBy 28 = .ok (.invokevirtual 42, 3) := by decide +kernel
theorem d_Shelf_countTakenBy_31 : decode b_Shelf_countTakenBy 31 = .ok (.invokevirtual 46, 3) := by decide +kernel
theorem d_Shelf_countTakenBy_34 : decode b_Shelf_countTakenBy 34 = .ok (.ifCond .eq 6, 3) := by decide +kernel
theorem d_Shelf_countTakenBy_37 : decode b_Shelf_countTakenBy 37 = .ok (.iinc 2 1, 3) := by decide +kernel
theorem d_Shelf_countTakenBy_40 : decode b_Shelf_countTakenBy 40 = .ok (.iinc 3 1, 3) := by decide +kernel
theorem d_Shelf_countTakenBy_43 : decode b_Shelf_countTakenBy 43 = .ok (.goto (-39), 3) := by decide +kernel
theorem d_Shelf_countTakenBy_46 : decode b_Shelf_countTakenBy 46 = .ok (.iload_n 2, 1) := by decide +kernel
theorem d_Shelf_countTakenBy_47 : decode b_Shelf_countTakenBy 47 = .ok (.ireturn, 1) := by decide +kernel
abbrev rm_Shelf_countTakenBy : Room := { frames := 3, cells := 0, slots := 0, locals := 72 }
abbrev C_Shelf_countTakenBy (D : va_G) (g : Nat → ClassId) (p : Program) (s : State) (m : MethodId) (args : Array Value) (meth : Method) (c : Code) (M0 : Mem) : Prop := Cx p s m args c b_Shelf_countTakenBy 4 R_Shelf BIG D vwCl (tysG g) (mA M0 s.heap.size) ∧ meth.sig.returnType = (some .int) ∧ meth.locks = false
abbrev B_Shelf_countTakenBy (l : Launch) (D : va_G) (p : Program) (e : Env) (s : State) (m : MethodId) (args : Array Value) (below : List Frame) (meth : Method) (c : Code) (M0 : Mem) (P : Int32 → Prop) (M : Mem) (pc : Nat) (lv : List (Nat × Value)) (st : List Value) : Prop := Wb p l e rm_Shelf_countTakenBy s m args below meth c 4 D vwCl M0 (kI fun r M' => M0 = M' ∧ P r) 0 0 M pc lv st
def wp_Shelf_countTakenBy_b46 (g : Nat → ClassId) (P : Int32 → Prop) (M : Mem) (x2 : Int32) : Prop :=
  P x2
set_option maxHeartbeats 4000000 in
set_option maxRecDepth 100000 in
theorem t_Shelf_countTakenBy_b46 {l : Launch} {D : va_G} {g : Nat → ClassId} {p : Program} {e : Env} {s : State} {m : MethodId} {args : Array Value} {below : List Frame} {meth : Method} {c : Code} {P : Int32 → Prop} {M : Mem} {x2 : Int32} (C : C_Shelf_countTakenBy D g p s m args meth c M) (h : wp_Shelf_countTakenBy_b46 g P M x2 ) : B_Shelf_countTakenBy l D p e s m args below meth c M P M 46 [(2, .int x2)] [] := by
  intro ls H locs hM hS hl
  unfold wp_Shelf_countTakenBy_b46 at h
  refine lv_iload_n C.1.1 C.1.2.1 d_Shelf_countTakenBy_46 rfl (lv_at hl 0 rfl) ?_
  exact mr_I C.1 C.2.1 C.2.2 hM hS ⟨_, rfl, rfl, h⟩ d_Shelf_countTakenBy_47
def wp_Shelf_countTakenBy_b40 (g : Nat → ClassId) (P : Int32 → Prop) (J4 : Int32 → Int32 → Prop) (M : Mem) (x0 : Nat) (x1 : Nat) (x2 : Int32) (x3 : Int32) : Prop :=
  J4 x2 (x3 + (1 : Int32))
set_option maxHeartbeats 4000000 in
set_option maxRecDepth 100000 in
theorem t_Shelf_countTakenBy_b40 {l : Launch} {D : va_G} {g : Nat → ClassId} {p : Program} {e : Env} {s : State} {m : MethodId} {args : Array Value} {below : List Frame} {meth : Method} {c : Code} {P : Int32 → Prop} {J4 : Int32 → Int32 → Prop} {M : Mem} {x0 : Nat} {x1 : Nat} {x2 : Int32} {x3 : Int32} (C : C_Shelf_countTakenBy D g p s m args meth c M) (h : wp_Shelf_countTakenBy_b40 g P J4 M x0 x1 x2 x3 ) (kJ4 : ∀ (x2 : Int32) (x3 : Int32), J4 x2 x3 → B_Shelf_countTakenBy l D p e s m args below meth c M P M 4 [(0, .ref x0), (1, .ref x1), (2, .int x2), (3, .int x3)] []) : B_Shelf_countTakenBy l D p e s m args below meth c M P M 40 [(0, .ref x0), (1, .ref x1), (2, .int x2), (3, .int x3)] [] := by
  intro ls H locs hM hS hl
  unfold wp_Shelf_countTakenBy_b40 at h
  refine lv_iinc (v := x3 + (1 : Int32)) (lv' := [(3, .int (x3 + (1 : Int32))), (0, .ref x0), (1, .ref x1), (2, .int x2)]) C.1.1 C.1.2.1 d_Shelf_countTakenBy_40 hl (k := 3) rfl rfl (by decide) rfl (fun ls hl => ?_)
  refine lv_goto (tgt := 4) C.1.1 C.1.2.1 d_Shelf_countTakenBy_43 (by decide) ?_
  exact kJ4 x2 (x3 + (1 : Int32)) h _ _ _ hM hS (lv_sub hl [1, 2, 3, 0] rfl)
def wp_Shelf_countTakenBy_b4 (g : Nat → ClassId) (P : Int32 → Prop) (M : Mem) (x0 : Nat) (x1 : Nat) (x2 : Int32) (x3 : Int32) : Prop :=
  ∃ (I : Int32 → Int32 → Prop) (μ : Int32 → Int32 → Nat), I x2 x3 ∧ ∀ (x2 : Int32) (x3 : Int32), I x2 x3 →
  ∃ v1 : Int32, gI M 4 x0 1 = some v1 ∧ ((v1 ≤ x3 → (wp_Shelf_countTakenBy_b46 g P M x2)) ∧ (¬ v1 ≤ x3 → (∃ v3 : Nat, gR M 4 x0 0 = some v3 ∧ (∃ n4 : Nat, aN M (g 4) v3 = some n4 ∧ (((nI n4) ≤ x3 → (wp_Shelf_countTakenBy_b46 g P M x2)) ∧ (¬ (nI n4) ≤ x3 → (∃ v6 : Nat, gR M 4 x0 0 = some v6 ∧ (∃ v7 : Nat, aQ M (g 4) v6 x3 = some (some v7) ∧ (isO M 3 v7 ∧ (wp_Kt_text g M v7 (fun v8 : Nat => isO M 1 x1 ∧ (wp_Text_takes g M x1 v8 (fun v10 : Int32 => (v10 = 0 → (wp_Shelf_countTakenBy_b40 g P (fun y2 y3 => I y2 y3 ∧ μ y2 y3 < μ x2 x3) M x0 x1 x2 x3)) ∧ (¬ v10 = 0 → (wp_Shelf_countTakenBy_b40 g P (fun y2 y3 => I y2 y3 ∧ μ y2 y3 < μ x2 x3) M x0 x1 (x2 + (1 : Int32)) x3)))))))))))))))
set_option maxHeartbeats 4000000 in
set_option maxRecDepth 100000 in
theorem t_Shelf_countTakenBy_b4 {l : Launch} {D : va_G} {g : Nat → ClassId} {p : Program} {e : Env} {s : State} {m : MethodId} {args : Array Value} {below : List Frame} {meth : Method} {c : Code} {P : Int32 → Prop} {M : Mem} {x0 : Nat} {x1 : Nat} {x2 : Int32} {x3 : Int32} (C : C_Shelf_countTakenBy D g p s m args meth c M) (h : wp_Shelf_countTakenBy_b4 g P M x0 x1 x2 x3 ) : B_Shelf_countTakenBy l D p e s m args below meth c M P M 4 [(0, .ref x0), (1, .ref x1), (2, .int x2), (3, .int x3)] [] := by
  unfold wp_Shelf_countTakenBy_b4 at h
  obtain ⟨I, μ, hI, hb⟩ := h
  have key : ∀ (n : Nat) (x2 : Int32) (x3 : Int32), I x2 x3 → μ x2 x3 < n → B_Shelf_countTakenBy l D p e s m args below meth c M P M 4 [(0, .ref x0), (1, .ref x1), (2, .int x2), (3, .int x3)] [] := by
    intro n
    induction n with
    | zero => intro x2 x3 _ hn; exact absurd hn (Nat.not_lt_zero _)
    | succ n ih =>
      intro x2 x3 hI hn ls H locs hM hS hl
      have h := hb x2 x3 hI
      refine lv_iload_n C.1.1 C.1.2.1 d_Shelf_countTakenBy_4 rfl (lv_at hl 3 rfl) ?_
      refine lv_aload_n C.1.1 C.1.2.1 d_Shelf_countTakenBy_5 rfl (lv_at hl 0 rfl) ?_
      obtain ⟨v1, ev1, h⟩ := h
      refine mg_I C.1 hM ok_Shelf (by decide) kw97 ev1 d_Shelf_countTakenBy_6 ?_
      refine lv_icmp_ge (tgt := 46) C.1.1 C.1.2.1 d_Shelf_countTakenBy_9 (by decide) (fun c2 => ?_) (fun c2 => ?_)
      · have h := h.1 c2
        exact t_Shelf_countTakenBy_b46 C h _ _ _ hM hS (lv_sub hl [2] rfl)
      · have h := h.2 c2
        refine lv_iload_n C.1.1 C.1.2.1 d_Shelf_countTakenBy_12 rfl (lv_at hl 3 rfl) ?_
        refine lv_aload_n C.1.1 C.1.2.1 d_Shelf_countTakenBy_13 rfl (lv_at hl 0 rfl) ?_
        obtain ⟨v3, ev3, h⟩ := h
        refine mg_R C.1 hM ok_Shelf (by decide) kw98 ev3 d_Shelf_countTakenBy_14 ?_
        obtain ⟨n4, en4, h⟩ := h
        refine ma_N C.1 hM 4 rfl en4 d_Shelf_countTakenBy_17 ?_
        refine lv_icmp_ge (tgt := 46) C.1.1 C.1.2.1 d_Shelf_countTakenBy_18 (by decide) (fun c5 => ?_) (fun c5 => ?_)
        · have h := h.1 c5
          exact t_Shelf_countTakenBy_b46 C h _ _ _ hM hS (lv_sub hl [2] rfl)
        · have h := h.2 c5
          refine lv_aload_n C.1.1 C.1.2.1 d_Shelf_countTakenBy_21 rfl (lv_at hl 1 rfl) ?_
          refine lv_aload_n C.1.1 C.1.2.1 d_Shelf_countTakenBy_22 rfl (lv_at hl 0 rfl) ?_
          obtain ⟨v6, ev6, h⟩ := h
          refine mg_R C.1 hM ok_Shelf (by decide) kw98 ev6 d_Shelf_countTakenBy_23 ?_
          refine lv_iload_n C.1.1 C.1.2.1 d_Shelf_countTakenBy_26 rfl (lv_at hl 3 rfl) ?_
          obtain ⟨v7, ev7, h⟩ := h
          refine ma_R C.1 hM 4 rfl ev7 d_Shelf_countTakenBy_27 ?_
          obtain ⟨ho, h⟩ := h
          refine mc_V (As := []) (ci := 3) C.1 hM hS bigGood (c_Kt_text h) rfl ho kw178 kw180 kw181 kw173 kw179 hd_Kt_text ⟨by decide, by decide⟩ hl.1 rfl (Nat.le_of_ble_eq_true rfl) d_Shelf_countTakenBy_28 (mc := 0) (ms := 0) rfl rfl ⟨by decide, by decide⟩ (fun v M' H locs hp hM hS => ?_)
          obtain ⟨v8, rfl, rfl, h⟩ := hp
          obtain ⟨ho, h⟩ := h
          refine mc_V (As := [.ref v8]) (ci := 1) C.1 hM hS bigGood (c_Text_takes h) rfl ho kw292 kw294 kw295 kw107 kw293 hd_Text_takes ⟨by decide, by decide⟩ hl.1 rfl (Nat.le_of_ble_eq_true rfl) d_Shelf_countTakenBy_31 (mc := 0) (ms := 0) rfl rfl ⟨by decide, by decide⟩ (fun v M' H locs hp hM hS => ?_)
          obtain ⟨v10, rfl, rfl, h⟩ := hp
          refine lv_if_eq (tgt := 40) C.1.1 C.1.2.1 d_Shelf_countTakenBy_34 (by decide) (fun c12 => ?_) (fun c12 => ?_)
          · have h := h.1 c12
            exact t_Shelf_countTakenBy_b40 C h (fun y2 y3 hJ => ih y2 y3 hJ.1 (Nat.lt_of_lt_of_le hJ.2 (Nat.le_of_lt_succ hn))) _ _ _ hM hS (lv_sub hl [0, 1, 2, 3] rfl)
          · have h := h.2 c12
            refine lv_iinc (v := x2 + (1 : Int32)) (lv' := [(2, .int (x2 + (1 : Int32))), (0, .ref x0), (1, .ref x1), (3, .int x3)]) C.1.1 C.1.2.1 d_Shelf_countTakenBy_37 hl (k := 2) rfl rfl (by decide) rfl (fun ls hl => ?_)
            exact t_Shelf_countTakenBy_b40 C h (fun y2 y3 hJ => ih y2 y3 hJ.1 (Nat.lt_of_lt_of_le hJ.2 (Nat.le_of_lt_succ hn))) _ _ _ hM hS (lv_sub hl [1, 2, 0, 3] rfl)
  exact key _ x2 x3 hI (Nat.lt_succ_self _)
def wp_Shelf_countTakenBy (g : Nat → ClassId) (M : Mem) (x0 : Nat) (x1 : Nat) (P : Int32 → Prop) : Prop :=
  wp_Shelf_countTakenBy_b4 g P M x0 x1 (0 : Int32) (0 : Int32)
set_option maxHeartbeats 4000000 in
set_option maxRecDepth 100000 in
theorem c_Shelf_countTakenBy {l : Launch} {D : va_G} {g : Nat → ClassId} {M : Mem} {x0 : Nat} {x1 : Nat} {P : Int32 → Prop} (h : wp_Shelf_countTakenBy g M x0 x1 P) : mMet l BIG D vwCl (tysG g) y_Shelf_countTakenBy b_Shelf_countTakenBy 4 (some .int) rm_Shelf_countTakenBy [.ref x0, .ref x1] M (kI fun r M' => M = M' ∧ P r) := by
  refine mMet.of (own := R_Shelf) rfl (by decide) rfl (fun p e s m below meth c C hr hlk hnm ls hM hS hl => ?_)
  have C : C_Shelf_countTakenBy D g p s m ([.ref x0, .ref x1] : List Value).toArray meth c M := ⟨C, hr, hlk⟩
  unfold wp_Shelf_countTakenBy at h
  have hl : lv_has ls 4 [(0, .ref x0), (1, .ref x1)] := hl
  refine lv_iconst (v := (0 : Int32)) C.1.1 C.1.2.1 d_Shelf_countTakenBy_0 (by decide) ?_
  refine lv_istore_n (lv' := [(2, .int (0 : Int32)), (0, .ref x0), (1, .ref x1)]) C.1.1 C.1.2.1 d_Shelf_countTakenBy_1 rfl hl (by decide) rfl (fun ls hl => ?_)
  refine lv_iconst (v := (0 : Int32)) C.1.1 C.1.2.1 d_Shelf_countTakenBy_2 (by decide) ?_
  refine lv_istore_n (lv' := [(3, .int (0 : Int32)), (2, .int (0 : Int32)), (0, .ref x0), (1, .ref x1)]) C.1.1 C.1.2.1 d_Shelf_countTakenBy_3 rfl hl (by decide) rfl (fun ls hl => ?_)
  exact t_Shelf_countTakenBy_b4 C h _ _ _ hM hS (lv_sub hl [2, 3, 1, 0] rfl)
