theorem d_Mod_found_0 : decode b_Mod_found 0 = .ok (.iconst 0, 1) := by decide +kernel
theorem d_Mod_found_1 : decode b_Mod_found 1 = .ok (.istore_n 1, 1) := by decide +kernel
theorem d_Mod_found_2 : decode b_Mod_found 2 = .ok (.iload_n 1, 1) := by decide +kernel
theorem d_Mod_found_3 : decode b_Mod_found 3 = .ok (.aload_n 0, 1) := by decide +kernel
theorem d_Mod_found_4 : decode b_Mod_found 4 = .ok (.getfield 122, 3) := by decide +kernel
theorem d_Mod_found_7 : decode b_Mod_found 7 = .ok (.if_icmp .ge 81, 3) := by decide +kernel
theorem d_Mod_found_10 : decode b_Mod_found 10 = .ok (.aload_n 0, 1) := by decide +kernel
theorem d_Mod_found_11 : decode b_Mod_found 11 = .ok (.getfield 48, 3) := by decide +kernel
theorem d_Mod_found_14 : decode b_Mod_found 14 = .ok (.iload_n 1, 1) := by decide +kernel
theorem d_Mod_found_15 : decode b_Mod_found 15 = .ok (.iaload, 1) := by decide +kernel
theorem d_Mod_found_16 : decode b_Mod_found 16 = .ok (.aload_n 0, 1) := by decide +kernel
theorem d_Mod_found_17 : decode b_Mod_found 17 = .ok (.getfield 71, 3) := by decide +kernel
theorem d_Mod_found_20 : decode b_Mod_found 20 = .ok (.if_icmp .ne 7, 3) := by decide +kernel
theorem d_Mod_found_23 : decode b_Mod_found 23 = .ok (.iconst 1, 1) := by decide +kernel
theorem d_Mod_found_24 : decode b_Mod_found 24 = .ok (.goto 4, 3) := by decide +kernel
theorem d_Mod_found_27 : decode b_Mod_found 27 = .ok (.iconst 0, 1) := by decide +kernel
theorem d_Mod_found_28 : decode b_Mod_found 28 = .ok (.istore_n 2, 1) := by decide +kernel
theorem d_Mod_found_29 : decode b_Mod_found 29 = .ok (.iconst 0, 1) := by decide +kernel
theorem d_Mod_found_30 : decode b_Mod_found 30 = .ok (.istore_n 3, 1) := by decide +kernel
theorem d_Mod_found_31 : decode b_Mod_found 31 = .ok (.iload_n 3, 1) := by decide +kernel
theorem d_Mod_found_32 : decode b_Mod_found 32 = .ok (.aload_n 0, 1) := by decide +kernel
theorem d_Mod_found_33 : decode b_Mod_found 33 = .ok (.getfield 71, 3) := by decide +kernel
theorem d_Mod_found_36 : decode b_Mod_found 36 = .ok (.if_icmp .ge 40, 3) := by decide +kernel
theorem d_Mod_found_39 : decode b_Mod_found 39 = .ok (.iload_n 2, 1) := by decide +kernel
theorem d_Mod_found_40 : decode b_Mod_found 40 = .ok (.ifCond .eq 36, 3) := by decide +kernel
theorem d_Mod_found_43 : decode b_Mod_found 43 = .ok (.aload_n 0, 1) := by decide +kernel
theorem d_Mod_found_44 : decode b_Mod_found 44 = .ok (.getfield 45, 3) := by decide +kernel
theorem d_Mod_found_47 : decode b_Mod_found 47 = .ok (.bipush 6, 2) := by decide +kernel
theorem d_Mod_found_49 : decode b_Mod_found 49 = .ok (.iload_n 1, 1) := by decide +kernel
theorem d_Mod_found_50 : decode b_Mod_found 50 = .ok (.imul, 1) := by decide +kernel
theorem d_Mod_found_51 : decode b_Mod_found 51 = .ok (.iload_n 3, 1) := by decide +kernel
theorem d_Mod_found_52 : decode b_Mod_found 52 = .ok (.iadd, 1) := by decide +kernel
theorem d_Mod_found_53 : decode b_Mod_found 53 = .ok (.laload, 1) := by decide +kernel
theorem d_Mod_found_54 : decode b_Mod_found 54 = .ok (.aload_n 0, 1) := by decide +kernel
theorem d_Mod_found_55 : decode b_Mod_found 55 = .ok (.getfield 17, 3) := by decide +kernel
theorem d_Mod_found_58 : decode b_Mod_found 58 = .ok (.iload_n 3, 1) := by decide +kernel
theorem d_Mod_found_59 : decode b_Mod_found 59 = .ok (.laload, 1) := by decide +kernel
theorem d_Mod_found_60 : decode b_Mod_found 60 = .ok (.lcmp, 1) := by decide +kernel
theorem d_Mod_found_61 : decode b_Mod_found 61 = .ok (.ifCond .ne 7, 3) := by decide +kernel
theorem d_Mod_found_64 : decode b_Mod_found 64 = .ok (.iconst 1, 1) := by decide +kernel
theorem d_Mod_found_65 : decode b_Mod_found 65 = .ok (.goto 4, 3) := by decide +kernel
theorem d_Mod_found_68 : decode b_Mod_found 68 = .ok (.iconst 0, 1) := by decide +kernel
theorem d_Mod_found_69 : decode b_Mod_found 69 = .ok (.istore_n 2, 1) := by decide +kernel
theorem d_Mod_found_70 : decode b_Mod_found 70 = .ok (.iinc 3 1, 3) := by decide +kernel
theorem d_Mod_found_73 : decode b_Mod_found 73 = .ok (.goto (-42), 3) := by decide +kernel
theorem d_Mod_found_76 : decode b_Mod_found 76 = .ok (.iload_n 2, 1) := by decide +kernel
theorem d_Mod_found_77 : decode b_Mod_found 77 = .ok (.ifCond .eq 5, 3) := by decide +kernel
theorem d_Mod_found_80 : decode b_Mod_found 80 = .ok (.iload_n 1, 1) := by decide +kernel
theorem d_Mod_found_81 : decode b_Mod_found 81 = .ok (.ireturn, 1) := by decide +kernel
theorem d_Mod_found_82 : decode b_Mod_found 82 = .ok (.iinc 1 1, 3) := by decide +kernel
theorem d_Mod_found_85 : decode b_Mod_found 85 = .ok (.goto (-83), 3) := by decide +kernel
theorem d_Mod_found_88 : decode b_Mod_found 88 = .ok (.iconst (-1), 1) := by decide +kernel
theorem d_Mod_found_89 : decode b_Mod_found 89 = .ok (.ireturn, 1) := by decide +kernel
abbrev rm_Mod_found : Room := { frames := 0, cells := 0, slots := 0, locals := 0 }
abbrev C_Mod_found (D : va_G) (g : Nat → ClassId) (p : Program) (s : State) (m : MethodId) (args : Array Value) (meth : Method) (c : Code) (M0 : Mem) : Prop := Cx p s m args c b_Mod_found 4 R_Mod BIG D vwCl (tysG g) (mA M0 s.heap.size) ∧ meth.sig.returnType = (some .int) ∧ meth.locks = false
abbrev B_Mod_found (l : Launch) (D : va_G) (p : Program) (e : Env) (s : State) (m : MethodId) (args : Array Value) (below : List Frame) (meth : Method) (c : Code) (M0 : Mem) (P : Int32 → Prop) (M : Mem) (pc : Nat) (lv : List (Nat × Value)) (st : List Value) : Prop := Wb p l e rm_Mod_found s m args below meth c 4 D vwCl M0 (kI fun r M' => M0 = M' ∧ P r) 0 0 M pc lv st
def wp_Mod_found_b76 (g : Nat → ClassId) (P : Int32 → Prop) (J2 : Int32 → Prop) (M : Mem) (x0 : Nat) (x1 : Int32) (x2 : Int32) : Prop :=
  (x2 = 0 → (J2 (x1 + (1 : Int32)))) ∧ (¬ x2 = 0 → (P x1))
set_option maxHeartbeats 4000000 in
set_option maxRecDepth 100000 in
theorem t_Mod_found_b76 {l : Launch} {D : va_G} {g : Nat → ClassId} {p : Program} {e : Env} {s : State} {m : MethodId} {args : Array Value} {below : List Frame} {meth : Method} {c : Code} {P : Int32 → Prop} {J2 : Int32 → Prop} {M : Mem} {x0 : Nat} {x1 : Int32} {x2 : Int32} (C : C_Mod_found D g p s m args meth c M) (h : wp_Mod_found_b76 g P J2 M x0 x1 x2 ) (kJ2 : ∀ (x1 : Int32), J2 x1 → B_Mod_found l D p e s m args below meth c M P M 2 [(0, .ref x0), (1, .int x1)] []) : B_Mod_found l D p e s m args below meth c M P M 76 [(0, .ref x0), (1, .int x1), (2, .int x2)] [] := by
  intro ls H locs hM hS hl
  unfold wp_Mod_found_b76 at h
  refine lv_iload_n C.1.1 C.1.2.1 d_Mod_found_76 rfl (lv_at hl 2 rfl) ?_
  refine lv_if_eq (tgt := 82) C.1.1 C.1.2.1 d_Mod_found_77 (by decide) (fun c1 => ?_) (fun c1 => ?_)
  · have h := h.1 c1
    refine lv_iinc (v := x1 + (1 : Int32)) (lv' := [(1, .int (x1 + (1 : Int32))), (0, .ref x0), (2, .int x2)]) C.1.1 C.1.2.1 d_Mod_found_82 hl (k := 1) rfl rfl (by decide) rfl (fun ls hl => ?_)
    refine lv_goto (tgt := 2) C.1.1 C.1.2.1 d_Mod_found_85 (by decide) ?_
    exact kJ2 (x1 + (1 : Int32)) h _ _ _ hM hS (lv_sub hl [1, 0] rfl)
  · have h := h.2 c1
    refine lv_iload_n C.1.1 C.1.2.1 d_Mod_found_80 rfl (lv_at hl 1 rfl) ?_
    exact mr_I C.1 C.2.1 C.2.2 hM hS ⟨_, rfl, rfl, h⟩ d_Mod_found_81
def wp_Mod_found_b69 (g : Nat → ClassId) (P : Int32 → Prop) (J2 : Int32 → Prop) (J31 : Int32 → Int32 → Prop) (M : Mem) (x0 : Nat) (x1 : Int32) (x3 : Int32) (t0 : Int32) : Prop :=
  J31 t0 (x3 + (1 : Int32))
set_option maxHeartbeats 4000000 in
set_option maxRecDepth 100000 in
theorem t_Mod_found_b69 {l : Launch} {D : va_G} {g : Nat → ClassId} {p : Program} {e : Env} {s : State} {m : MethodId} {args : Array Value} {below : List Frame} {meth : Method} {c : Code} {P : Int32 → Prop} {J2 : Int32 → Prop} {J31 : Int32 → Int32 → Prop} {M : Mem} {x0 : Nat} {x1 : Int32} {x3 : Int32} {t0 : Int32} (C : C_Mod_found D g p s m args meth c M) (h : wp_Mod_found_b69 g P J2 J31 M x0 x1 x3 t0) (kJ2 : ∀ (x1 : Int32), J2 x1 → B_Mod_found l D p e s m args below meth c M P M 2 [(0, .ref x0), (1, .int x1)] []) (kJ31 : ∀ (x2 : Int32) (x3 : Int32), J31 x2 x3 → B_Mod_found l D p e s m args below meth c M P M 31 [(0, .ref x0), (1, .int x1), (2, .int x2), (3, .int x3)] []) : B_Mod_found l D p e s m args below meth c M P M 69 [(0, .ref x0), (1, .int x1), (3, .int x3)] [.int t0] := by
  intro ls H locs hM hS hl
  unfold wp_Mod_found_b69 at h
  refine lv_istore_n (lv' := [(2, .int t0), (0, .ref x0), (1, .int x1), (3, .int x3)]) C.1.1 C.1.2.1 d_Mod_found_69 rfl hl (by decide) rfl (fun ls hl => ?_)
  refine lv_iinc (v := x3 + (1 : Int32)) (lv' := [(3, .int (x3 + (1 : Int32))), (2, .int t0), (0, .ref x0), (1, .int x1)]) C.1.1 C.1.2.1 d_Mod_found_70 hl (k := 3) rfl rfl (by decide) rfl (fun ls hl => ?_)
  refine lv_goto (tgt := 31) C.1.1 C.1.2.1 d_Mod_found_73 (by decide) ?_
  exact kJ31 t0 (x3 + (1 : Int32)) h _ _ _ hM hS (lv_sub hl [2, 3, 1, 0] rfl)
def wp_Mod_found_b31 (g : Nat → ClassId) (P : Int32 → Prop) (J2 : Int32 → Prop) (M : Mem) (x0 : Nat) (x1 : Int32) (x2 : Int32) (x3 : Int32) : Prop :=
  ∃ (I : Int32 → Int32 → Prop) (μ : Int32 → Int32 → Nat), I x2 x3 ∧ ∀ (x2 : Int32) (x3 : Int32), I x2 x3 →
  ∃ v1 : Int32, gI M 6 x0 5 = some v1 ∧ ((v1 ≤ x3 → (wp_Mod_found_b76 g P J2 M x0 x1 x2)) ∧ (¬ v1 ≤ x3 → ((x2 = 0 → (wp_Mod_found_b76 g P J2 M x0 x1 x2)) ∧ (¬ x2 = 0 → (∃ v4 : Nat, gR M 6 x0 16 = some v4 ∧ (∃ v5 : Int64, aL M (g 1) v4 (((6 : Int32) * x1) + x3) = some v5 ∧ (∃ v6 : Nat, gR M 6 x0 4 = some v6 ∧ (∃ v7 : Int64, aL M (g 1) v6 x3 = some v7 ∧ (((lg_cmp v5 v7) = 0 → (wp_Mod_found_b69 g P J2 (fun y2 y3 => I y2 y3 ∧ μ y2 y3 < μ x2 x3) M x0 x1 x3 (1 : Int32))) ∧ (¬ (lg_cmp v5 v7) = 0 → (wp_Mod_found_b69 g P J2 (fun y2 y3 => I y2 y3 ∧ μ y2 y3 < μ x2 x3) M x0 x1 x3 (0 : Int32))))))))))))
set_option maxHeartbeats 4000000 in
set_option maxRecDepth 100000 in
theorem t_Mod_found_b31 {l : Launch} {D : va_G} {g : Nat → ClassId} {p : Program} {e : Env} {s : State} {m : MethodId} {args : Array Value} {below : List Frame} {meth : Method} {c : Code} {P : Int32 → Prop} {J2 : Int32 → Prop} {M : Mem} {x0 : Nat} {x1 : Int32} {x2 : Int32} {x3 : Int32} (C : C_Mod_found D g p s m args meth c M) (h : wp_Mod_found_b31 g P J2 M x0 x1 x2 x3 ) (kJ2 : ∀ (x1 : Int32), J2 x1 → B_Mod_found l D p e s m args below meth c M P M 2 [(0, .ref x0), (1, .int x1)] []) : B_Mod_found l D p e s m args below meth c M P M 31 [(0, .ref x0), (1, .int x1), (2, .int x2), (3, .int x3)] [] := by
  unfold wp_Mod_found_b31 at h
  obtain ⟨I, μ, hI, hb⟩ := h
  have key : ∀ (n : Nat) (x2 : Int32) (x3 : Int32), I x2 x3 → μ x2 x3 < n → B_Mod_found l D p e s m args below meth c M P M 31 [(0, .ref x0), (1, .int x1), (2, .int x2), (3, .int x3)] [] := by
    intro n
    induction n with
    | zero => intro x2 x3 _ hn; exact absurd hn (Nat.not_lt_zero _)
    | succ n ih =>
      intro x2 x3 hI hn ls H locs hM hS hl
      have h := hb x2 x3 hI
      refine lv_iload_n C.1.1 C.1.2.1 d_Mod_found_31 rfl (lv_at hl 3 rfl) ?_
      refine lv_aload_n C.1.1 C.1.2.1 d_Mod_found_32 rfl (lv_at hl 0 rfl) ?_
      obtain ⟨v1, ev1, h⟩ := h
      refine mg_I C.1 hM ok_Mod (by decide) kw26 ev1 d_Mod_found_33 ?_
      refine lv_icmp_ge (tgt := 76) C.1.1 C.1.2.1 d_Mod_found_36 (by decide) (fun c2 => ?_) (fun c2 => ?_)
      · have h := h.1 c2
        exact t_Mod_found_b76 C h kJ2 _ _ _ hM hS (lv_sub hl [0, 1, 2] rfl)
      · have h := h.2 c2
        refine lv_iload_n C.1.1 C.1.2.1 d_Mod_found_39 rfl (lv_at hl 2 rfl) ?_
        refine lv_if_eq (tgt := 76) C.1.1 C.1.2.1 d_Mod_found_40 (by decide) (fun c3 => ?_) (fun c3 => ?_)
        · have h := h.1 c3
          exact t_Mod_found_b76 C h kJ2 _ _ _ hM hS (lv_sub hl [0, 1, 2] rfl)
        · have h := h.2 c3
          refine lv_aload_n C.1.1 C.1.2.1 d_Mod_found_43 rfl (lv_at hl 0 rfl) ?_
          obtain ⟨v4, ev4, h⟩ := h
          refine mg_R C.1 hM ok_Mod (by decide) kw17 ev4 d_Mod_found_44 ?_
          refine lv_bipush (v := (6 : Int32)) C.1.1 C.1.2.1 d_Mod_found_47 (by decide) ?_
          refine lv_iload_n C.1.1 C.1.2.1 d_Mod_found_49 rfl (lv_at hl 1 rfl) ?_
          refine lv_imul C.1.1 C.1.2.1 d_Mod_found_50 ?_
          refine lv_iload_n C.1.1 C.1.2.1 d_Mod_found_51 rfl (lv_at hl 3 rfl) ?_
          refine lv_iadd C.1.1 C.1.2.1 d_Mod_found_52 ?_
          obtain ⟨v5, ev5, h⟩ := h
          refine ma_L C.1 hM 1 rfl ev5 d_Mod_found_53 ?_
          refine lv_aload_n C.1.1 C.1.2.1 d_Mod_found_54 rfl (lv_at hl 0 rfl) ?_
          obtain ⟨v6, ev6, h⟩ := h
          refine mg_R C.1 hM ok_Mod (by decide) kw9 ev6 d_Mod_found_55 ?_
          refine lv_iload_n C.1.1 C.1.2.1 d_Mod_found_58 rfl (lv_at hl 3 rfl) ?_
          obtain ⟨v7, ev7, h⟩ := h
          refine ma_L C.1 hM 1 rfl ev7 d_Mod_found_59 ?_
          refine W.lcmp C.1.1 C.1.2.1 d_Mod_found_60 ?_
          refine lv_if_ne (tgt := 68) C.1.1 C.1.2.1 d_Mod_found_61 (by decide) (fun c8 => ?_) (fun c8 => ?_)
          · have h := h.2 c8
            refine lv_iconst (v := (0 : Int32)) C.1.1 C.1.2.1 d_Mod_found_68 (by decide) ?_
            exact t_Mod_found_b69 C h kJ2 (fun y2 y3 hJ => ih y2 y3 hJ.1 (Nat.lt_of_lt_of_le hJ.2 (Nat.le_of_lt_succ hn))) _ _ _ hM hS (lv_sub hl [0, 1, 3] rfl)
          · have h := h.1 c8
            refine lv_iconst (v := (1 : Int32)) C.1.1 C.1.2.1 d_Mod_found_64 (by decide) ?_
            refine lv_goto (tgt := 69) C.1.1 C.1.2.1 d_Mod_found_65 (by decide) ?_
            exact t_Mod_found_b69 C h kJ2 (fun y2 y3 hJ => ih y2 y3 hJ.1 (Nat.lt_of_lt_of_le hJ.2 (Nat.le_of_lt_succ hn))) _ _ _ hM hS (lv_sub hl [0, 1, 3] rfl)
  exact key _ x2 x3 hI (Nat.lt_succ_self _)
def wp_Mod_found_b28 (g : Nat → ClassId) (P : Int32 → Prop) (J2 : Int32 → Prop) (M : Mem) (x0 : Nat) (x1 : Int32) (t0 : Int32) : Prop :=
  wp_Mod_found_b31 g P J2 M x0 x1 t0 (0 : Int32)
set_option maxHeartbeats 4000000 in
set_option maxRecDepth 100000 in
theorem t_Mod_found_b28 {l : Launch} {D : va_G} {g : Nat → ClassId} {p : Program} {e : Env} {s : State} {m : MethodId} {args : Array Value} {below : List Frame} {meth : Method} {c : Code} {P : Int32 → Prop} {J2 : Int32 → Prop} {M : Mem} {x0 : Nat} {x1 : Int32} {t0 : Int32} (C : C_Mod_found D g p s m args meth c M) (h : wp_Mod_found_b28 g P J2 M x0 x1 t0) (kJ2 : ∀ (x1 : Int32), J2 x1 → B_Mod_found l D p e s m args below meth c M P M 2 [(0, .ref x0), (1, .int x1)] []) : B_Mod_found l D p e s m args below meth c M P M 28 [(0, .ref x0), (1, .int x1)] [.int t0] := by
  intro ls H locs hM hS hl
  unfold wp_Mod_found_b28 at h
  refine lv_istore_n (lv' := [(2, .int t0), (0, .ref x0), (1, .int x1)]) C.1.1 C.1.2.1 d_Mod_found_28 rfl hl (by decide) rfl (fun ls hl => ?_)
  refine lv_iconst (v := (0 : Int32)) C.1.1 C.1.2.1 d_Mod_found_29 (by decide) ?_
  refine lv_istore_n (lv' := [(3, .int (0 : Int32)), (2, .int t0), (0, .ref x0), (1, .int x1)]) C.1.1 C.1.2.1 d_Mod_found_30 rfl hl (by decide) rfl (fun ls hl => ?_)
  exact t_Mod_found_b31 C h kJ2 _ _ _ hM hS (lv_sub hl [2, 3, 1, 0] rfl)
def wp_Mod_found_b2 (g : Nat → ClassId) (P : Int32 → Prop) (M : Mem) (x0 : Nat) (x1 : Int32) : Prop :=
  ∃ (I : Int32 → Prop) (μ : Int32 → Nat), I x1 ∧ ∀ (x1 : Int32), I x1 →
  ∃ v1 : Int32, gI M 6 x0 14 = some v1 ∧ ((v1 ≤ x1 → (P (-1 : Int32))) ∧ (¬ v1 ≤ x1 → (∃ v3 : Nat, gR M 6 x0 17 = some v3 ∧ (∃ v4 : Int32, aI M (g 2) v3 x1 = some v4 ∧ (∃ v5 : Int32, gI M 6 x0 5 = some v5 ∧ ((v4 = v5 → (wp_Mod_found_b28 g P (fun y1 => I y1 ∧ μ y1 < μ x1) M x0 x1 (1 : Int32))) ∧ (¬ v4 = v5 → (wp_Mod_found_b28 g P (fun y1 => I y1 ∧ μ y1 < μ x1) M x0 x1 (0 : Int32)))))))))
set_option maxHeartbeats 4000000 in
set_option maxRecDepth 100000 in
theorem t_Mod_found_b2 {l : Launch} {D : va_G} {g : Nat → ClassId} {p : Program} {e : Env} {s : State} {m : MethodId} {args : Array Value} {below : List Frame} {meth : Method} {c : Code} {P : Int32 → Prop} {M : Mem} {x0 : Nat} {x1 : Int32} (C : C_Mod_found D g p s m args meth c M) (h : wp_Mod_found_b2 g P M x0 x1 ) : B_Mod_found l D p e s m args below meth c M P M 2 [(0, .ref x0), (1, .int x1)] [] := by
  unfold wp_Mod_found_b2 at h
  obtain ⟨I, μ, hI, hb⟩ := h
  have key : ∀ (n : Nat) (x1 : Int32), I x1 → μ x1 < n → B_Mod_found l D p e s m args below meth c M P M 2 [(0, .ref x0), (1, .int x1)] [] := by
    intro n
    induction n with
    | zero => intro x1 _ hn; exact absurd hn (Nat.not_lt_zero _)
    | succ n ih =>
      intro x1 hI hn ls H locs hM hS hl
      have h := hb x1 hI
      refine lv_iload_n C.1.1 C.1.2.1 d_Mod_found_2 rfl (lv_at hl 1 rfl) ?_
      refine lv_aload_n C.1.1 C.1.2.1 d_Mod_found_3 rfl (lv_at hl 0 rfl) ?_
      obtain ⟨v1, ev1, h⟩ := h
      refine mg_I C.1 hM ok_Mod (by decide) kw71 ev1 d_Mod_found_4 ?_
      refine lv_icmp_ge (tgt := 88) C.1.1 C.1.2.1 d_Mod_found_7 (by decide) (fun c2 => ?_) (fun c2 => ?_)
      · have h := h.1 c2
        refine lv_iconst (v := (-1 : Int32)) C.1.1 C.1.2.1 d_Mod_found_88 (by decide) ?_
        exact mr_I C.1 C.2.1 C.2.2 hM hS ⟨_, rfl, rfl, h⟩ d_Mod_found_89
      · have h := h.2 c2
        refine lv_aload_n C.1.1 C.1.2.1 d_Mod_found_10 rfl (lv_at hl 0 rfl) ?_
        obtain ⟨v3, ev3, h⟩ := h
        refine mg_R C.1 hM ok_Mod (by decide) kw18 ev3 d_Mod_found_11 ?_
        refine lv_iload_n C.1.1 C.1.2.1 d_Mod_found_14 rfl (lv_at hl 1 rfl) ?_
        obtain ⟨v4, ev4, h⟩ := h
        refine ma_I C.1 hM 2 rfl ev4 d_Mod_found_15 ?_
        refine lv_aload_n C.1.1 C.1.2.1 d_Mod_found_16 rfl (lv_at hl 0 rfl) ?_
        obtain ⟨v5, ev5, h⟩ := h
        refine mg_I C.1 hM ok_Mod (by decide) kw26 ev5 d_Mod_found_17 ?_
        refine lv_icmp_ne (tgt := 27) C.1.1 C.1.2.1 d_Mod_found_20 (by decide) (fun c6 => ?_) (fun c6 => ?_)
        · have h := h.2 c6
          refine lv_iconst (v := (0 : Int32)) C.1.1 C.1.2.1 d_Mod_found_27 (by decide) ?_
          exact t_Mod_found_b28 C h (fun y1 hJ => ih y1 hJ.1 (Nat.lt_of_lt_of_le hJ.2 (Nat.le_of_lt_succ hn))) _ _ _ hM hS (lv_sub hl [0, 1] rfl)
        · have h := h.1 c6
          refine lv_iconst (v := (1 : Int32)) C.1.1 C.1.2.1 d_Mod_found_23 (by decide) ?_
          refine lv_goto (tgt := 28) C.1.1 C.1.2.1 d_Mod_found_24 (by decide) ?_
          exact t_Mod_found_b28 C h (fun y1 hJ => ih y1 hJ.1 (Nat.lt_of_lt_of_le hJ.2 (Nat.le_of_lt_succ hn))) _ _ _ hM hS (lv_sub hl [0, 1] rfl)
  exact key _ x1 hI (Nat.lt_succ_self _)
def wp_Mod_found (g : Nat → ClassId) (M : Mem) (x0 : Nat) (P : Int32 → Prop) : Prop :=
  wp_Mod_found_b2 g P M x0 (0 : Int32)
set_option maxHeartbeats 4000000 in
set_option maxRecDepth 100000 in
theorem c_Mod_found {l : Launch} {D : va_G} {g : Nat → ClassId} {M : Mem} {x0 : Nat} {P : Int32 → Prop} (h : wp_Mod_found g M x0 P) : mMet l BIG D vwCl (tysG g) y_Mod_found b_Mod_found 4 (some .int) rm_Mod_found [.ref x0] M (kI fun r M' => M = M' ∧ P r) := by
  refine mMet.of (own := R_Mod) rfl (by decide) rfl (fun p e s m below meth c C hr hlk hnm ls hM hS hl => ?_)
  have C : C_Mod_found D g p s m ([.ref x0] : List Value).toArray meth c M := ⟨C, hr, hlk⟩
  unfold wp_Mod_found at h
  have hl : lv_has ls 4 [(0, .ref x0)] := hl
  refine lv_iconst (v := (0 : Int32)) C.1.1 C.1.2.1 d_Mod_found_0 (by decide) ?_
  refine lv_istore_n (lv' := [(1, .int (0 : Int32)), (0, .ref x0)]) C.1.1 C.1.2.1 d_Mod_found_1 rfl hl (by decide) rfl (fun ls hl => ?_)
  exact t_Mod_found_b2 C h _ _ _ hM hS (lv_sub hl [1, 0] rfl)
theorem d_Mod_keep_0 : decode b_Mod_keep 0 = .ok (.aload_n 0, 1) := by decide +kernel
theorem d_Mod_keep_1 : decode b_Mod_keep 1 = .ok (.iconst 0, 1) := by decide +kernel
theorem d_Mod_keep_2 : decode b_Mod_keep 2 = .ok (.invokevirtual 108, 3) := by decide +kernel
theorem d_Mod_keep_5 : decode b_Mod_keep 5 = .ok (.ifCond .ne 9, 3) := by decide +kernel
theorem d_Mod_keep_8 : decode b_Mod_keep 8 = .ok (.aload_n 0, 1) := by decide +kernel
theorem d_Mod_keep_9 : decode b_Mod_keep 9 = .ok (.iconst 1, 1) := by decide +kernel
theorem d_Mod_keep_10 : decode b_Mod_keep 10 = .ok (.invokevirtual 112, 3) := by decide +kernel
theorem d_Mod_keep_13 : decode b_Mod_keep 13 = .ok (.ireturn, 1) := by decide +kernel
theorem d_Mod_keep_14 : decode b_Mod_keep 14 = .ok (.aload_n 0, 1) := by decide +kernel
theorem d_Mod_keep_15 : decode b_Mod_keep 15 = .ok (.invokevirtual 125, 3) := by decide +kernel
theorem d_Mod_keep_18 : decode b_Mod_keep 18 = .ok (.istore_n 2, 1) := by decide +kernel
theorem d_Mod_keep_19 : decode b_Mod_keep 19 = .ok (.iload_n 2, 1) := by decide +kernel
theorem d_Mod_keep_20 : decode b_Mod_keep 20 = .ok (.iconst (-1), 1) := by decide +kernel
theorem d_Mod_keep_21 : decode b_Mod_keep 21 = .ok (.if_icmp .ne 18, 3) := by decide +kernel
theorem d_Mod_keep_24 : decode b_Mod_keep 24 = .ok (.aload_n 0, 1) := by decide +kernel
theorem d_Mod_keep_25 : decode b_Mod_keep 25 = .ok (.getfield 122, 3) := by decide +kernel
theorem d_Mod_keep_28 : decode b_Mod_keep 28 = .ok (.bipush 20, 2) := by decide +kernel
theorem d_Mod_keep_30 : decode b_Mod_keep 30 = .ok (.if_icmp .ne 9, 3) := by decide +kernel
theorem d_Mod_keep_33 : decode b_Mod_keep 33 = .ok (.aload_n 0, 1) := by decide +kernel
theorem d_Mod_keep_34 : decode b_Mod_keep 34 = .ok (.iconst 2, 1) := by decide +kernel
theorem d_Mod_keep_35 : decode b_Mod_keep 35 = .ok (.invokevirtual 112, 3) := by decide +kernel
theorem d_Mod_keep_38 : decode b_Mod_keep 38 = .ok (.ireturn, 1) := by decide +kernel
theorem d_Mod_keep_39 : decode b_Mod_keep 39 = .ok (.aload_n 0, 1) := by decide +kernel
theorem d_Mod_keep_40 : decode b_Mod_keep 40 = .ok (.iconst 0, 1) := by decide +kernel
theorem d_Mod_keep_41 : decode b_Mod_keep 41 = .ok (.putfield 63, 3) := by decide +kernel
theorem d_Mod_keep_44 : decode b_Mod_keep 44 = .ok (.iload_n 2, 1) := by decide +kernel
theorem d_Mod_keep_45 : decode b_Mod_keep 45 = .ok (.iconst (-1), 1) := by decide +kernel
theorem d_Mod_keep_46 : decode b_Mod_keep 46 = .ok (.if_icmp .ne 104, 3) := by decide +kernel
theorem d_Mod_keep_49 : decode b_Mod_keep 49 = .ok (.aload_n 0, 1) := by decide +kernel
theorem d_Mod_keep_50 : decode b_Mod_keep 50 = .ok (.getfield 122, 3) := by decide +kernel
theorem d_Mod_keep_53 : decode b_Mod_keep 53 = .ok (.istore_n 2, 1) := by decide +kernel
theorem d_Mod_keep_54 : decode b_Mod_keep 54 = .ok (.aload_n 0, 1) := by decide +kernel
theorem d_Mod_keep_55 : decode b_Mod_keep 55 = .ok (.dup, 1) := by decide +kernel
theorem d_Mod_keep_56 : decode b_Mod_keep 56 = .ok (.getfield 122, 3) := by decide +kernel
theorem d_Mod_keep_59 : decode b_Mod_keep 59 = .ok (.iconst 1, 1) := by decide +kernel
theorem d_Mod_keep_60 : decode b_Mod_keep 60 = .ok (.iadd, 1) := by decide +kernel
theorem d_Mod_keep_61 : decode b_Mod_keep 61 = .ok (.putfield 122, 3) := by decide +kernel
theorem d_Mod_keep_64 : decode b_Mod_keep 64 = .ok (.aload_n 0, 1) := by decide +kernel
theorem d_Mod_keep_65 : decode b_Mod_keep 65 = .ok (.getfield 48, 3) := by decide +kernel
theorem d_Mod_keep_68 : decode b_Mod_keep 68 = .ok (.iload_n 2, 1) := by decide +kernel
theorem d_Mod_keep_69 : decode b_Mod_keep 69 = .ok (.aload_n 0, 1) := by decide +kernel
theorem d_Mod_keep_70 : decode b_Mod_keep 70 = .ok (.getfield 71, 3) := by decide +kernel
theorem d_Mod_keep_73 : decode b_Mod_keep 73 = .ok (.iastore, 1) := by decide +kernel
theorem d_Mod_keep_74 : decode b_Mod_keep 74 = .ok (.aload_n 0, 1) := by decide +kernel
theorem d_Mod_keep_75 : decode b_Mod_keep 75 = .ok (.getfield 54, 3) := by decide +kernel
theorem d_Mod_keep_78 : decode b_Mod_keep 78 = .ok (.iload_n 2, 1) := by decide +kernel
theorem d_Mod_keep_79 : decode b_Mod_keep 79 = .ok (.aload_n 0, 1) := by decide +kernel
theorem d_Mod_keep_80 : decode b_Mod_keep 80 = .ok (.getfield 82, 3) := by decide +kernel
theorem d_Mod_keep_83 : decode b_Mod_keep 83 = .ok (.iastore, 1) := by decide +kernel
theorem d_Mod_keep_84 : decode b_Mod_keep 84 = .ok (.iconst 0, 1) := by decide +kernel
theorem d_Mod_keep_85 : decode b_Mod_keep 85 = .ok (.istore_n 3, 1) := by decide +kernel
theorem d_Mod_keep_86 : decode b_Mod_keep 86 = .ok (.iload_n 3, 1) := by decide +kernel
theorem d_Mod_keep_87 : decode b_Mod_keep 87 = .ok (.aload_n 0, 1) := by decide +kernel
theorem d_Mod_keep_88 : decode b_Mod_keep 88 = .ok (.getfield 71, 3) := by decide +kernel
theorem d_Mod_keep_91 : decode b_Mod_keep 91 = .ok (.if_icmp .ge 26, 3) := by decide +kernel
theorem d_Mod_keep_94 : decode b_Mod_keep 94 = .ok (.aload_n 0, 1) := by decide +kernel
theorem d_Mod_keep_95 : decode b_Mod_keep 95 = .ok (.getfield 45, 3) := by decide +kernel
theorem d_Mod_keep_98 : decode b_Mod_keep 98 = .ok (.bipush 6, 2) := by decide +kernel
theorem d_Mod_keep_100 : decode b_Mod_keep 100 = .ok (.iload_n 2, 1) := by decide +kernel
theorem d_Mod_keep_101 : decode b_Mod_keep 101 = .ok (.imul, 1) := by decide +kernel
theorem d_Mod_keep_102 : decode b_Mod_keep 102 = .ok (.iload_n 3, 1) := by decide +kernel
theorem d_Mod_keep_103 : decode b_Mod_keep 103 = .ok (.iadd, 1) := by decide +kernel
theorem d_Mod_keep_104 : decode b_Mod_keep 104 = .ok (.aload_n 0, 1) := by decide +kernel
theorem d_Mod_keep_105 : decode b_Mod_keep 105 = .ok (.getfield 17, 3) := by decide +kernel
theorem d_Mod_keep_108 : decode b_Mod_keep 108 = .ok (.iload_n 3, 1) := by decide +kernel
theorem d_Mod_keep_109 : decode b_Mod_keep 109 = .ok (.laload, 1) := by decide +kernel
theorem d_Mod_keep_110 : decode b_Mod_keep 110 = .ok (.lastore, 1) := by decide +kernel
theorem d_Mod_keep_111 : decode b_Mod_keep 111 = .ok (.iinc 3 1, 3) := by decide +kernel
theorem d_Mod_keep_114 : decode b_Mod_keep 114 = .ok (.goto (-28), 3) := by decide +kernel
theorem d_Mod_keep_117 : decode b_Mod_keep 117 = .ok (.iconst 0, 1) := by decide +kernel
theorem d_Mod_keep_118 : decode b_Mod_keep 118 = .ok (.istore_n 3, 1) := by decide +kernel
theorem d_Mod_keep_119 : decode b_Mod_keep 119 = .ok (.iload_n 3, 1) := by decide +kernel
theorem d_Mod_keep_120 : decode b_Mod_keep 120 = .ok (.aload_n 0, 1) := by decide +kernel
theorem d_Mod_keep_121 : decode b_Mod_keep 121 = .ok (.getfield 82, 3) := by decide +kernel
theorem d_Mod_keep_124 : decode b_Mod_keep 124 = .ok (.if_icmp .ge 26, 3) := by decide +kernel
theorem d_Mod_keep_127 : decode b_Mod_keep 127 = .ok (.aload_n 0, 1) := by decide +kernel
theorem d_Mod_keep_128 : decode b_Mod_keep 128 = .ok (.getfield 51, 3) := by decide +kernel
theorem d_Mod_keep_131 : decode b_Mod_keep 131 = .ok (.bipush 41, 2) := by decide +kernel
theorem d_Mod_keep_133 : decode b_Mod_keep 133 = .ok (.iload_n 2, 1) := by decide +kernel
theorem d_Mod_keep_134 : decode b_Mod_keep 134 = .ok (.imul, 1) := by decide +kernel
theorem d_Mod_keep_135 : decode b_Mod_keep 135 = .ok (.iload_n 3, 1) := by decide +kernel
theorem d_Mod_keep_136 : decode b_Mod_keep 136 = .ok (.iadd, 1) := by decide +kernel
theorem d_Mod_keep_137 : decode b_Mod_keep 137 = .ok (.aload_n 0, 1) := by decide +kernel
theorem d_Mod_keep_138 : decode b_Mod_keep 138 = .ok (.getfield 21, 3) := by decide +kernel
theorem d_Mod_keep_141 : decode b_Mod_keep 141 = .ok (.iload_n 3, 1) := by decide +kernel
theorem d_Mod_keep_142 : decode b_Mod_keep 142 = .ok (.iaload, 1) := by decide +kernel
theorem d_Mod_keep_143 : decode b_Mod_keep 143 = .ok (.iastore, 1) := by decide +kernel
theorem d_Mod_keep_144 : decode b_Mod_keep 144 = .ok (.iinc 3 1, 3) := by decide +kernel
theorem d_Mod_keep_147 : decode b_Mod_keep 147 = .ok (.goto (-28), 3) := by decide +kernel
theorem d_Mod_keep_150 : decode b_Mod_keep 150 = .ok (.aload_n 0, 1) := by decide +kernel
theorem d_Mod_keep_151 : decode b_Mod_keep 151 = .ok (.getfield 42, 3) := by decide +kernel
theorem d_Mod_keep_154 : decode b_Mod_keep 154 = .ok (.iload_n 2, 1) := by decide +kernel
theorem d_Mod_keep_155 : decode b_Mod_keep 155 = .ok (.iload_n 1, 1) := by decide +kernel
theorem d_Mod_keep_156 : decode b_Mod_keep 156 = .ok (.iastore, 1) := by decide +kernel
theorem d_Mod_keep_157 : decode b_Mod_keep 157 = .ok (.aload_n 0, 1) := by decide +kernel
theorem d_Mod_keep_158 : decode b_Mod_keep 158 = .ok (.getfield 122, 3) := by decide +kernel
theorem d_Mod_keep_161 : decode b_Mod_keep 161 = .ok (.ireturn, 1) := by decide +kernel
abbrev rm_Mod_keep : Room := { frames := 2, cells := 0, slots := 0, locals := 47 }
abbrev C_Mod_keep (D : va_G) (g : Nat → ClassId) (p : Program) (s : State) (m : MethodId) (args : Array Value) (meth : Method) (c : Code) (M0 : Mem) : Prop := Cx p s m args c b_Mod_keep 4 R_Mod BIG D vwCl (tysG g) (mA M0 s.heap.size) ∧ meth.sig.returnType = (some .int) ∧ meth.locks = false
abbrev B_Mod_keep (l : Launch) (D : va_G) (p : Program) (e : Env) (s : State) (m : MethodId) (args : Array Value) (below : List Frame) (meth : Method) (c : Code) (M0 : Mem) (P : Int32 → Mem → Prop) (M : Mem) (pc : Nat) (lv : List (Nat × Value)) (st : List Value) : Prop := Wb p l e rm_Mod_keep s m args below meth c 4 D vwCl M0 (kI fun r M' => P r M') 0 0 M pc lv st
def wp_Mod_keep_b150 (g : Nat → ClassId) (P : Int32 → Mem → Prop) (M : Mem) (x0 : Nat) (x1 : Int32) (x2 : Int32) : Prop :=
  ∃ v1 : Nat, gR M 6 x0 15 = some v1 ∧ (∃ M2 : Mem, sI M (g 2) v1 x2 x1 = some M2 ∧ (∃ v3 : Int32, gI M2 6 x0 14 = some v3 ∧ (P v3 M2)))
set_option maxHeartbeats 4000000 in
set_option maxRecDepth 100000 in
theorem t_Mod_keep_b150 {l : Launch} {D : va_G} {g : Nat → ClassId} {p : Program} {e : Env} {s : State} {m : MethodId} {args : Array Value} {below : List Frame} {meth : Method} {c : Code} {M0 : Mem} {P : Int32 → Mem → Prop} {M : Mem} {x0 : Nat} {x1 : Int32} {x2 : Int32} (C : C_Mod_keep D g p s m args meth c M0) (h : wp_Mod_keep_b150 g P M x0 x1 x2 ) : B_Mod_keep l D p e s m args below meth c M0 P M 150 [(0, .ref x0), (1, .int x1), (2, .int x2)] [] := by
  intro ls H locs hM hS hl
  unfold wp_Mod_keep_b150 at h
  refine lv_aload_n C.1.1 C.1.2.1 d_Mod_keep_150 rfl (lv_at hl 0 rfl) ?_
  obtain ⟨v1, ev1, h⟩ := h
  refine mg_R C.1 hM ok_Mod (by decide) kw16 ev1 d_Mod_keep_151 ?_
  refine lv_iload_n C.1.1 C.1.2.1 d_Mod_keep_154 rfl (lv_at hl 2 rfl) ?_
  refine lv_iload_n C.1.1 C.1.2.1 d_Mod_keep_155 rfl (lv_at hl 1 rfl) ?_
  obtain ⟨M2, eM2, h⟩ := h
  refine ms_I C.1 hM hS 2 rfl eM2 d_Mod_keep_156 (fun H locs hM hS => ?_)
  refine lv_aload_n C.1.1 C.1.2.1 d_Mod_keep_157 rfl (lv_at hl 0 rfl) ?_
  obtain ⟨v3, ev3, h⟩ := h
  refine mg_I C.1 hM ok_Mod (by decide) kw71 ev3 d_Mod_keep_158 ?_
  exact mr_I C.1 C.2.1 C.2.2 hM hS ⟨_, rfl, h⟩ d_Mod_keep_161
def wp_Mod_keep_b119 (g : Nat → ClassId) (P : Int32 → Mem → Prop) (M : Mem) (x0 : Nat) (x1 : Int32) (x2 : Int32) (x3 : Int32) : Prop :=
  ∃ (I : Int32 → Mem → Prop) (μ : Int32 → Mem → Nat), I x3 M ∧ ∀ (x3 : Int32) (M : Mem), I x3 M →
  ∃ v1 : Int32, gI M 6 x0 6 = some v1 ∧ ((v1 ≤ x3 → (wp_Mod_keep_b150 g P M x0 x1 x2)) ∧ (¬ v1 ≤ x3 → (∃ v3 : Nat, gR M 6 x0 18 = some v3 ∧ (∃ v4 : Nat, gR M 6 x0 7 = some v4 ∧ (∃ v5 : Int32, aI M (g 2) v4 x3 = some v5 ∧ (∃ M6 : Mem, sI M (g 2) v3 (((41 : Int32) * x2) + x3) v5 = some M6 ∧ ((I (x3 + (1 : Int32)) M6 ∧ μ (x3 + (1 : Int32)) M6 < μ x3 M))))))))
set_option maxHeartbeats 4000000 in
set_option maxRecDepth 100000 in
theorem t_Mod_keep_b119 {l : Launch} {D : va_G} {g : Nat → ClassId} {p : Program} {e : Env} {s : State} {m : MethodId} {args : Array Value} {below : List Frame} {meth : Method} {c : Code} {M0 : Mem} {P : Int32 → Mem → Prop} {M : Mem} {x0 : Nat} {x1 : Int32} {x2 : Int32} {x3 : Int32} (C : C_Mod_keep D g p s m args meth c M0) (h : wp_Mod_keep_b119 g P M x0 x1 x2 x3 ) : B_Mod_keep l D p e s m args below meth c M0 P M 119 [(0, .ref x0), (1, .int x1), (2, .int x2), (3, .int x3)] [] := by
  unfold wp_Mod_keep_b119 at h
  obtain ⟨I, μ, hI, hb⟩ := h
  have key : ∀ (n : Nat) (x3 : Int32) (M : Mem), I x3 M → μ x3 M < n → B_Mod_keep l D p e s m args below meth c M0 P M 119 [(0, .ref x0), (1, .int x1), (2, .int x2), (3, .int x3)] [] := by
    intro n
    induction n with
    | zero => intro x3 M _ hn; exact absurd hn (Nat.not_lt_zero _)
    | succ n ih =>
      intro x3 M hI hn ls H locs hM hS hl
      have h := hb x3 M hI
      refine lv_iload_n C.1.1 C.1.2.1 d_Mod_keep_119 rfl (lv_at hl 3 rfl) ?_
      refine lv_aload_n C.1.1 C.1.2.1 d_Mod_keep_120 rfl (lv_at hl 0 rfl) ?_
      obtain ⟨v1, ev1, h⟩ := h
      refine mg_I C.1 hM ok_Mod (by decide) kw33 ev1 d_Mod_keep_121 ?_
      refine lv_icmp_ge (tgt := 150) C.1.1 C.1.2.1 d_Mod_keep_124 (by decide) (fun c2 => ?_) (fun c2 => ?_)
      · have h := h.1 c2
        exact t_Mod_keep_b150 C h _ _ _ hM hS (lv_sub hl [0, 1, 2] rfl)
      · have h := h.2 c2
        refine lv_aload_n C.1.1 C.1.2.1 d_Mod_keep_127 rfl (lv_at hl 0 rfl) ?_
        obtain ⟨v3, ev3, h⟩ := h
        refine mg_R C.1 hM ok_Mod (by decide) kw19 ev3 d_Mod_keep_128 ?_
        refine lv_bipush (v := (41 : Int32)) C.1.1 C.1.2.1 d_Mod_keep_131 (by decide) ?_
        refine lv_iload_n C.1.1 C.1.2.1 d_Mod_keep_133 rfl (lv_at hl 2 rfl) ?_
        refine lv_imul C.1.1 C.1.2.1 d_Mod_keep_134 ?_
        refine lv_iload_n C.1.1 C.1.2.1 d_Mod_keep_135 rfl (lv_at hl 3 rfl) ?_
        refine lv_iadd C.1.1 C.1.2.1 d_Mod_keep_136 ?_
        refine lv_aload_n C.1.1 C.1.2.1 d_Mod_keep_137 rfl (lv_at hl 0 rfl) ?_
        obtain ⟨v4, ev4, h⟩ := h
        refine mg_R C.1 hM ok_Mod (by decide) kw10 ev4 d_Mod_keep_138 ?_
        refine lv_iload_n C.1.1 C.1.2.1 d_Mod_keep_141 rfl (lv_at hl 3 rfl) ?_
        obtain ⟨v5, ev5, h⟩ := h
        refine ma_I C.1 hM 2 rfl ev5 d_Mod_keep_142 ?_
        obtain ⟨M6, eM6, h⟩ := h
        refine ms_I C.1 hM hS 2 rfl eM6 d_Mod_keep_143 (fun H locs hM hS => ?_)
        refine lv_iinc (v := x3 + (1 : Int32)) (lv' := [(3, .int (x3 + (1 : Int32))), (0, .ref x0), (1, .int x1), (2, .int x2)]) C.1.1 C.1.2.1 d_Mod_keep_144 hl (k := 3) rfl rfl (by decide) rfl (fun ls hl => ?_)
        refine lv_goto (tgt := 119) C.1.1 C.1.2.1 d_Mod_keep_147 (by decide) ?_
        exact ih (x3 + (1 : Int32)) M6 h.1 (Nat.lt_of_lt_of_le h.2 (Nat.le_of_lt_succ hn)) _ _ _ hM hS (lv_sub hl [1, 2, 3, 0] rfl)
  exact key _ x3 M hI (Nat.lt_succ_self _)
def wp_Mod_keep_b86 (g : Nat → ClassId) (P : Int32 → Mem → Prop) (M : Mem) (x0 : Nat) (x1 : Int32) (x2 : Int32) (x3 : Int32) : Prop :=
  ∃ (I : Int32 → Mem → Prop) (μ : Int32 → Mem → Nat), I x3 M ∧ ∀ (x3 : Int32) (M : Mem), I x3 M →
  ∃ v1 : Int32, gI M 6 x0 5 = some v1 ∧ ((v1 ≤ x3 → (wp_Mod_keep_b119 g P M x0 x1 x2 (0 : Int32))) ∧ (¬ v1 ≤ x3 → (∃ v3 : Nat, gR M 6 x0 16 = some v3 ∧ (∃ v4 : Nat, gR M 6 x0 4 = some v4 ∧ (∃ v5 : Int64, aL M (g 1) v4 x3 = some v5 ∧ (∃ M6 : Mem, sL M (g 1) v3 (((6 : Int32) * x2) + x3) v5 = some M6 ∧ ((I (x3 + (1 : Int32)) M6 ∧ μ (x3 + (1 : Int32)) M6 < μ x3 M))))))))
set_option maxHeartbeats 4000000 in
set_option maxRecDepth 100000 in
theorem t_Mod_keep_b86 {l : Launch} {D : va_G} {g : Nat → ClassId} {p : Program} {e : Env} {s : State} {m : MethodId} {args : Array Value} {below : List Frame} {meth : Method} {c : Code} {M0 : Mem} {P : Int32 → Mem → Prop} {M : Mem} {x0 : Nat} {x1 : Int32} {x2 : Int32} {x3 : Int32} (C : C_Mod_keep D g p s m args meth c M0) (h : wp_Mod_keep_b86 g P M x0 x1 x2 x3 ) : B_Mod_keep l D p e s m args below meth c M0 P M 86 [(0, .ref x0), (1, .int x1), (2, .int x2), (3, .int x3)] [] := by
  unfold wp_Mod_keep_b86 at h
  obtain ⟨I, μ, hI, hb⟩ := h
  have key : ∀ (n : Nat) (x3 : Int32) (M : Mem), I x3 M → μ x3 M < n → B_Mod_keep l D p e s m args below meth c M0 P M 86 [(0, .ref x0), (1, .int x1), (2, .int x2), (3, .int x3)] [] := by
    intro n
    induction n with
    | zero => intro x3 M _ hn; exact absurd hn (Nat.not_lt_zero _)
    | succ n ih =>
      intro x3 M hI hn ls H locs hM hS hl
      have h := hb x3 M hI
      refine lv_iload_n C.1.1 C.1.2.1 d_Mod_keep_86 rfl (lv_at hl 3 rfl) ?_
      refine lv_aload_n C.1.1 C.1.2.1 d_Mod_keep_87 rfl (lv_at hl 0 rfl) ?_
      obtain ⟨v1, ev1, h⟩ := h
      refine mg_I C.1 hM ok_Mod (by decide) kw26 ev1 d_Mod_keep_88 ?_
      refine lv_icmp_ge (tgt := 117) C.1.1 C.1.2.1 d_Mod_keep_91 (by decide) (fun c2 => ?_) (fun c2 => ?_)
      · have h := h.1 c2
        refine lv_iconst (v := (0 : Int32)) C.1.1 C.1.2.1 d_Mod_keep_117 (by decide) ?_
        refine lv_istore_n (lv' := [(3, .int (0 : Int32)), (0, .ref x0), (1, .int x1), (2, .int x2)]) C.1.1 C.1.2.1 d_Mod_keep_118 rfl hl (by decide) rfl (fun ls hl => ?_)
        exact t_Mod_keep_b119 C h _ _ _ hM hS (lv_sub hl [1, 2, 3, 0] rfl)
      · have h := h.2 c2
        refine lv_aload_n C.1.1 C.1.2.1 d_Mod_keep_94 rfl (lv_at hl 0 rfl) ?_
        obtain ⟨v3, ev3, h⟩ := h
        refine mg_R C.1 hM ok_Mod (by decide) kw17 ev3 d_Mod_keep_95 ?_
        refine lv_bipush (v := (6 : Int32)) C.1.1 C.1.2.1 d_Mod_keep_98 (by decide) ?_
        refine lv_iload_n C.1.1 C.1.2.1 d_Mod_keep_100 rfl (lv_at hl 2 rfl) ?_
        refine lv_imul C.1.1 C.1.2.1 d_Mod_keep_101 ?_
        refine lv_iload_n C.1.1 C.1.2.1 d_Mod_keep_102 rfl (lv_at hl 3 rfl) ?_
        refine lv_iadd C.1.1 C.1.2.1 d_Mod_keep_103 ?_
        refine lv_aload_n C.1.1 C.1.2.1 d_Mod_keep_104 rfl (lv_at hl 0 rfl) ?_
        obtain ⟨v4, ev4, h⟩ := h
        refine mg_R C.1 hM ok_Mod (by decide) kw9 ev4 d_Mod_keep_105 ?_
        refine lv_iload_n C.1.1 C.1.2.1 d_Mod_keep_108 rfl (lv_at hl 3 rfl) ?_
        obtain ⟨v5, ev5, h⟩ := h
        refine ma_L C.1 hM 1 rfl ev5 d_Mod_keep_109 ?_
        obtain ⟨M6, eM6, h⟩ := h
        refine ms_L C.1 hM hS 1 rfl eM6 d_Mod_keep_110 (fun H locs hM hS => ?_)
        refine lv_iinc (v := x3 + (1 : Int32)) (lv' := [(3, .int (x3 + (1 : Int32))), (0, .ref x0), (1, .int x1), (2, .int x2)]) C.1.1 C.1.2.1 d_Mod_keep_111 hl (k := 3) rfl rfl (by decide) rfl (fun ls hl => ?_)
        refine lv_goto (tgt := 86) C.1.1 C.1.2.1 d_Mod_keep_114 (by decide) ?_
        exact ih (x3 + (1 : Int32)) M6 h.1 (Nat.lt_of_lt_of_le h.2 (Nat.le_of_lt_succ hn)) _ _ _ hM hS (lv_sub hl [1, 2, 3, 0] rfl)
  exact key _ x3 M hI (Nat.lt_succ_self _)
def wp_Mod_keep_b39 (g : Nat → ClassId) (P : Int32 → Mem → Prop) (M : Mem) (x0 : Nat) (x1 : Int32) (x2 : Int32) : Prop :=
  ∃ M1 : Mem, pV M 6 x0 0 (.int (0 : Int32)) = some M1 ∧ ((x2 = (-1 : Int32) → (∃ v3 : Int32, gI M1 6 x0 14 = some v3 ∧ (∃ v4 : Int32, gI M1 6 x0 14 = some v4 ∧ (∃ M5 : Mem, pV M1 6 x0 14 (.int (v4 + (1 : Int32))) = some M5 ∧ (∃ v6 : Nat, gR M5 6 x0 17 = some v6 ∧ (∃ v7 : Int32, gI M5 6 x0 5 = some v7 ∧ (∃ M8 : Mem, sI M5 (g 2) v6 v3 v7 = some M8 ∧ (∃ v9 : Nat, gR M8 6 x0 19 = some v9 ∧ (∃ v10 : Int32, gI M8 6 x0 6 = some v10 ∧ (∃ M11 : Mem, sI M8 (g 2) v9 v3 v10 = some M11 ∧ (wp_Mod_keep_b86 g P M11 x0 x1 v3 (0 : Int32)))))))))))) ∧ (¬ x2 = (-1 : Int32) → (wp_Mod_keep_b150 g P M1 x0 x1 x2)))
set_option maxHeartbeats 4000000 in
set_option maxRecDepth 100000 in
theorem t_Mod_keep_b39 {l : Launch} {D : va_G} {g : Nat → ClassId} {p : Program} {e : Env} {s : State} {m : MethodId} {args : Array Value} {below : List Frame} {meth : Method} {c : Code} {M0 : Mem} {P : Int32 → Mem → Prop} {M : Mem} {x0 : Nat} {x1 : Int32} {x2 : Int32} (C : C_Mod_keep D g p s m args meth c M0) (h : wp_Mod_keep_b39 g P M x0 x1 x2 ) : B_Mod_keep l D p e s m args below meth c M0 P M 39 [(0, .ref x0), (1, .int x1), (2, .int x2)] [] := by
  intro ls H locs hM hS hl
  unfold wp_Mod_keep_b39 at h
  refine lv_aload_n C.1.1 C.1.2.1 d_Mod_keep_39 rfl (lv_at hl 0 rfl) ?_
  refine lv_iconst (v := (0 : Int32)) C.1.1 C.1.2.1 d_Mod_keep_40 (by decide) ?_
  obtain ⟨M1, eM1, h⟩ := h
  refine mp_V C.1 hM hS ok_Mod (by decide) kw23 rfl rfl rfl eM1 d_Mod_keep_41 (fun H locs hM hS => ?_)
  refine lv_iload_n C.1.1 C.1.2.1 d_Mod_keep_44 rfl (lv_at hl 2 rfl) ?_
  refine lv_iconst (v := (-1 : Int32)) C.1.1 C.1.2.1 d_Mod_keep_45 (by decide) ?_
  refine lv_icmp_ne (tgt := 150) C.1.1 C.1.2.1 d_Mod_keep_46 (by decide) (fun c2 => ?_) (fun c2 => ?_)
  · have h := h.2 c2
    exact t_Mod_keep_b150 C h _ _ _ hM hS (lv_sub hl [0, 1, 2] rfl)
  · have h := h.1 c2
    refine lv_aload_n C.1.1 C.1.2.1 d_Mod_keep_49 rfl (lv_at hl 0 rfl) ?_
    obtain ⟨v3, ev3, h⟩ := h
    refine mg_I C.1 hM ok_Mod (by decide) kw71 ev3 d_Mod_keep_50 ?_
    refine lv_istore_n (lv' := [(2, .int v3), (0, .ref x0), (1, .int x1)]) C.1.1 C.1.2.1 d_Mod_keep_53 rfl hl (by decide) rfl (fun ls hl => ?_)
    refine lv_aload_n C.1.1 C.1.2.1 d_Mod_keep_54 rfl (lv_at hl 1 rfl) ?_
    refine lv_dup C.1.1 C.1.2.1 d_Mod_keep_55 rfl ?_
    obtain ⟨v4, ev4, h⟩ := h
    refine mg_I C.1 hM ok_Mod (by decide) kw71 ev4 d_Mod_keep_56 ?_
    refine lv_iconst (v := (1 : Int32)) C.1.1 C.1.2.1 d_Mod_keep_59 (by decide) ?_
    refine lv_iadd C.1.1 C.1.2.1 d_Mod_keep_60 ?_
    obtain ⟨M5, eM5, h⟩ := h
    refine mp_V C.1 hM hS ok_Mod (by decide) kw71 rfl rfl rfl eM5 d_Mod_keep_61 (fun H locs hM hS => ?_)
    refine lv_aload_n C.1.1 C.1.2.1 d_Mod_keep_64 rfl (lv_at hl 1 rfl) ?_
    obtain ⟨v6, ev6, h⟩ := h
    refine mg_R C.1 hM ok_Mod (by decide) kw18 ev6 d_Mod_keep_65 ?_
    refine lv_iload_n C.1.1 C.1.2.1 d_Mod_keep_68 rfl (lv_at hl 0 rfl) ?_
    refine lv_aload_n C.1.1 C.1.2.1 d_Mod_keep_69 rfl (lv_at hl 1 rfl) ?_
    obtain ⟨v7, ev7, h⟩ := h
    refine mg_I C.1 hM ok_Mod (by decide) kw26 ev7 d_Mod_keep_70 ?_
    obtain ⟨M8, eM8, h⟩ := h
    refine ms_I C.1 hM hS 2 rfl eM8 d_Mod_keep_73 (fun H locs hM hS => ?_)
    refine lv_aload_n C.1.1 C.1.2.1 d_Mod_keep_74 rfl (lv_at hl 1 rfl) ?_
    obtain ⟨v9, ev9, h⟩ := h
    refine mg_R C.1 hM ok_Mod (by decide) kw20 ev9 d_Mod_keep_75 ?_
    refine lv_iload_n C.1.1 C.1.2.1 d_Mod_keep_78 rfl (lv_at hl 0 rfl) ?_
    refine lv_aload_n C.1.1 C.1.2.1 d_Mod_keep_79 rfl (lv_at hl 1 rfl) ?_
    obtain ⟨v10, ev10, h⟩ := h
    refine mg_I C.1 hM ok_Mod (by decide) kw33 ev10 d_Mod_keep_80 ?_
    obtain ⟨M11, eM11, h⟩ := h
    refine ms_I C.1 hM hS 2 rfl eM11 d_Mod_keep_83 (fun H locs hM hS => ?_)
    refine lv_iconst (v := (0 : Int32)) C.1.1 C.1.2.1 d_Mod_keep_84 (by decide) ?_
    refine lv_istore_n (lv' := [(3, .int (0 : Int32)), (2, .int v3), (0, .ref x0), (1, .int x1)]) C.1.1 C.1.2.1 d_Mod_keep_85 rfl hl (by decide) rfl (fun ls hl => ?_)
    exact t_Mod_keep_b86 C h _ _ _ hM hS (lv_sub hl [2, 3, 1, 0] rfl)
def wp_Mod_keep (g : Nat → ClassId) (M : Mem) (x0 : Nat) (x1 : Int32) (P : Int32 → Mem → Prop) : Prop :=
  isO M 6 x0 ∧ (wp_Mod_reads g M x0 (0 : Int32) (fun (v1 : Int32) (M2 : Mem) => (v1 = 0 → (isO M2 6 x0 ∧ (wp_Mod_raise g M2 x0 (1 : Int32) (fun (v11 : Int32) (M12 : Mem) => P v11 M12)))) ∧ (¬ v1 = 0 → (isO M2 6 x0 ∧ (wp_Mod_found g M2 x0 (fun v4 : Int32 => (v4 = (-1 : Int32) → (∃ v7 : Int32, gI M2 6 x0 14 = some v7 ∧ ((v7 = (20 : Int32) → (isO M2 6 x0 ∧ (wp_Mod_raise g M2 x0 (2 : Int32) (fun (v9 : Int32) (M10 : Mem) => P v9 M10)))) ∧ (¬ v7 = (20 : Int32) → (wp_Mod_keep_b39 g P M2 x0 x1 v4))))) ∧ (¬ v4 = (-1 : Int32) → (wp_Mod_keep_b39 g P M2 x0 x1 v4))))))))
set_option maxHeartbeats 4000000 in
set_option maxRecDepth 100000 in
theorem c_Mod_keep {l : Launch} {D : va_G} {g : Nat → ClassId} {M : Mem} {x0 : Nat} {x1 : Int32} {P : Int32 → Mem → Prop} (h : wp_Mod_keep g M x0 x1 P) : mMet l BIG D vwCl (tysG g) y_Mod_keep b_Mod_keep 4 (some .int) rm_Mod_keep [.ref x0, .int x1] M (kI fun r M' => P r M') := by
  refine mMet.of (own := R_Mod) rfl (by decide) rfl (fun p e s m below meth c C hr hlk hnm ls hM hS hl => ?_)
  have C : C_Mod_keep D g p s m ([.ref x0, .int x1] : List Value).toArray meth c M := ⟨C, hr, hlk⟩
  unfold wp_Mod_keep at h
  have hl : lv_has ls 4 [(0, .ref x0), (1, .int x1)] := hl
  refine lv_aload_n C.1.1 C.1.2.1 d_Mod_keep_0 rfl (lv_at hl 0 rfl) ?_
  refine lv_iconst (v := (0 : Int32)) C.1.1 C.1.2.1 d_Mod_keep_1 (by decide) ?_
  obtain ⟨ho, h⟩ := h
  refine mc_V (As := [.int (0 : Int32)]) (ci := 6) C.1 hM hS bigGood (c_Mod_reads h) rfl ho kw59 kw61 kw62 kw29 kw60 hd_Mod_reads ⟨by decide, by decide⟩ hl.1 rfl (Nat.le_of_ble_eq_true rfl) d_Mod_keep_2 (mc := 0) (ms := 0) rfl rfl ⟨by decide, by decide⟩ (fun v M2 H locs hp hM hS => ?_)
  obtain ⟨v1, rfl, h⟩ := hp
  refine lv_if_ne (tgt := 14) C.1.1 C.1.2.1 d_Mod_keep_5 (by decide) (fun c3 => ?_) (fun c3 => ?_)
  · have h := h.2 c3
    refine lv_aload_n C.1.1 C.1.2.1 d_Mod_keep_14 rfl (lv_at hl 0 rfl) ?_
    obtain ⟨ho, h⟩ := h
    refine mc_V (As := []) (ci := 6) C.1 hM hS bigGood (c_Mod_found h) rfl ho kw72 kw74 kw75 kw29 kw73 hd_Mod_found ⟨by decide, by decide⟩ hl.1 rfl (Nat.le_of_ble_eq_true rfl) d_Mod_keep_15 (mc := 0) (ms := 0) rfl rfl ⟨by decide, by decide⟩ (fun v M' H locs hp hM hS => ?_)
    obtain ⟨v4, rfl, rfl, h⟩ := hp
    refine lv_istore_n (lv' := [(2, .int v4), (0, .ref x0), (1, .int x1)]) C.1.1 C.1.2.1 d_Mod_keep_18 rfl hl (by decide) rfl (fun ls hl => ?_)
    refine lv_iload_n C.1.1 C.1.2.1 d_Mod_keep_19 rfl (lv_at hl 0 rfl) ?_
    refine lv_iconst (v := (-1 : Int32)) C.1.1 C.1.2.1 d_Mod_keep_20 (by decide) ?_
    refine lv_icmp_ne (tgt := 39) C.1.1 C.1.2.1 d_Mod_keep_21 (by decide) (fun c6 => ?_) (fun c6 => ?_)
    · have h := h.2 c6
      exact t_Mod_keep_b39 C h _ _ _ hM hS (lv_sub hl [1, 2, 0] rfl)
    · have h := h.1 c6
      refine lv_aload_n C.1.1 C.1.2.1 d_Mod_keep_24 rfl (lv_at hl 1 rfl) ?_
      obtain ⟨v7, ev7, h⟩ := h
      refine mg_I C.1 hM ok_Mod (by decide) kw71 ev7 d_Mod_keep_25 ?_
      refine lv_bipush (v := (20 : Int32)) C.1.1 C.1.2.1 d_Mod_keep_28 (by decide) ?_
      refine lv_icmp_ne (tgt := 39) C.1.1 C.1.2.1 d_Mod_keep_30 (by decide) (fun c8 => ?_) (fun c8 => ?_)
      · have h := h.2 c8
        exact t_Mod_keep_b39 C h _ _ _ hM hS (lv_sub hl [1, 2, 0] rfl)
      · have h := h.1 c8
        refine lv_aload_n C.1.1 C.1.2.1 d_Mod_keep_33 rfl (lv_at hl 1 rfl) ?_
        refine lv_iconst (v := (2 : Int32)) C.1.1 C.1.2.1 d_Mod_keep_34 (by decide) ?_
        obtain ⟨ho, h⟩ := h
        refine mc_V (As := [.int (2 : Int32)]) (ci := 6) C.1 hM hS bigGood (c_Mod_raise h) rfl ho kw55 kw57 kw58 kw29 kw56 hd_Mod_raise ⟨by decide, by decide⟩ hl.1 rfl (Nat.le_of_ble_eq_true rfl) d_Mod_keep_35 (mc := 0) (ms := 0) rfl rfl ⟨by decide, by decide⟩ (fun v M10 H locs hp hM hS => ?_)
        obtain ⟨v9, rfl, h⟩ := hp
        exact mr_I C.1 C.2.1 C.2.2 hM hS ⟨_, rfl, h⟩ d_Mod_keep_38
  · have h := h.1 c3
    refine lv_aload_n C.1.1 C.1.2.1 d_Mod_keep_8 rfl (lv_at hl 0 rfl) ?_
    refine lv_iconst (v := (1 : Int32)) C.1.1 C.1.2.1 d_Mod_keep_9 (by decide) ?_
    obtain ⟨ho, h⟩ := h
    refine mc_V (As := [.int (1 : Int32)]) (ci := 6) C.1 hM hS bigGood (c_Mod_raise h) rfl ho kw55 kw57 kw58 kw29 kw56 hd_Mod_raise ⟨by decide, by decide⟩ hl.1 rfl (Nat.le_of_ble_eq_true rfl) d_Mod_keep_10 (mc := 0) (ms := 0) rfl rfl ⟨by decide, by decide⟩ (fun v M12 H locs hp hM hS => ?_)
    obtain ⟨v11, rfl, h⟩ := hp
    exact mr_I C.1 C.2.1 C.2.2 hM hS ⟨_, rfl, h⟩ d_Mod_keep_13
theorem d_Mod_lose_0 : decode b_Mod_lose 0 = .ok (.aload_n 0, 1) := by decide +kernel
theorem d_Mod_lose_1 : decode b_Mod_lose 1 = .ok (.iconst 0, 1) := by decide +kernel
theorem d_Mod_lose_2 : decode b_Mod_lose 2 = .ok (.invokevirtual 108, 3) := by decide +kernel
theorem d_Mod_lose_5 : decode b_Mod_lose 5 = .ok (.ifCond .ne 11, 3) := by decide +kernel
theorem d_Mod_lose_8 : decode b_Mod_lose 8 = .ok (.aload_n 0, 1) := by decide +kernel
theorem d_Mod_lose_9 : decode b_Mod_lose 9 = .ok (.iconst 1, 1) := by decide +kernel
theorem d_Mod_lose_10 : decode b_Mod_lose 10 = .ok (.invokevirtual 112, 3) := by decide +kernel
theorem d_Mod_lose_13 : decode b_Mod_lose 13 = .ok (.istore_n 1, 1) := by decide +kernel
theorem d_Mod_lose_14 : decode b_Mod_lose 14 = .ok (.iconst 0, 1) := by decide +kernel
theorem d_Mod_lose_15 : decode b_Mod_lose 15 = .ok (.ireturn, 1) := by decide +kernel
theorem d_Mod_lose_16 : decode b_Mod_lose 16 = .ok (.aload_n 0, 1) := by decide +kernel
theorem d_Mod_lose_17 : decode b_Mod_lose 17 = .ok (.iconst 0, 1) := by decide +kernel
theorem d_Mod_lose_18 : decode b_Mod_lose 18 = .ok (.putfield 63, 3) := by decide +kernel
theorem d_Mod_lose_21 : decode b_Mod_lose 21 = .ok (.aload_n 0, 1) := by decide +kernel
theorem d_Mod_lose_22 : decode b_Mod_lose 22 = .ok (.invokevirtual 125, 3) := by decide +kernel
theorem d_Mod_lose_25 : decode b_Mod_lose 25 = .ok (.istore_n 1, 1) := by decide +kernel
theorem d_Mod_lose_26 : decode b_Mod_lose 26 = .ok (.iload_n 1, 1) := by decide +kernel
theorem d_Mod_lose_27 : decode b_Mod_lose 27 = .ok (.iconst (-1), 1) := by decide +kernel
theorem d_Mod_lose_28 : decode b_Mod_lose 28 = .ok (.if_icmp .ne 5, 3) := by decide +kernel
theorem d_Mod_lose_31 : decode b_Mod_lose 31 = .ok (.iconst 0, 1) := by decide +kernel
theorem d_Mod_lose_32 : decode b_Mod_lose 32 = .ok (.ireturn, 1) := by decide +kernel
theorem d_Mod_lose_33 : decode b_Mod_lose 33 = .ok (.aload_n 0, 1) := by decide +kernel
theorem d_Mod_lose_34 : decode b_Mod_lose 34 = .ok (.dup, 1) := by decide +kernel
theorem d_Mod_lose_35 : decode b_Mod_lose 35 = .ok (.getfield 122, 3) := by decide +kernel
theorem d_Mod_lose_38 : decode b_Mod_lose 38 = .ok (.iconst 1, 1) := by decide +kernel
theorem d_Mod_lose_39 : decode b_Mod_lose 39 = .ok (.isub, 1) := by decide +kernel
theorem d_Mod_lose_40 : decode b_Mod_lose 40 = .ok (.putfield 122, 3) := by decide +kernel
theorem d_Mod_lose_43 : decode b_Mod_lose 43 = .ok (.aload_n 0, 1) := by decide +kernel
theorem d_Mod_lose_44 : decode b_Mod_lose 44 = .ok (.getfield 42, 3) := by decide +kernel
theorem d_Mod_lose_47 : decode b_Mod_lose 47 = .ok (.iload_n 1, 1) := by decide +kernel
theorem d_Mod_lose_48 : decode b_Mod_lose 48 = .ok (.aload_n 0, 1) := by decide +kernel
theorem d_Mod_lose_49 : decode b_Mod_lose 49 = .ok (.getfield 42, 3) := by decide +kernel
theorem d_Mod_lose_52 : decode b_Mod_lose 52 = .ok (.aload_n 0, 1) := by decide +kernel
theorem d_Mod_lose_53 : decode b_Mod_lose 53 = .ok (.getfield 122, 3) := by decide +kernel
theorem d_Mod_lose_56 : decode b_Mod_lose 56 = .ok (.iaload, 1) := by decide +kernel
theorem d_Mod_lose_57 : decode b_Mod_lose 57 = .ok (.iastore, 1) := by decide +kernel
theorem d_Mod_lose_58 : decode b_Mod_lose 58 = .ok (.aload_n 0, 1) := by decide +kernel
theorem d_Mod_lose_59 : decode b_Mod_lose 59 = .ok (.getfield 48, 3) := by decide +kernel
theorem d_Mod_lose_62 : decode b_Mod_lose 62 = .ok (.iload_n 1, 1) := by decide +kernel
theorem d_Mod_lose_63 : decode b_Mod_lose 63 = .ok (.aload_n 0, 1) := by decide +kernel
theorem d_Mod_lose_64 : decode b_Mod_lose 64 = .ok (.getfield 48, 3) := by decide +kernel
theorem d_Mod_lose_67 : decode b_Mod_lose 67 = .ok (.aload_n 0, 1) := by decide +kernel
theorem d_Mod_lose_68 : decode b_Mod_lose 68 = .ok (.getfield 122, 3) := by decide +kernel
theorem d_Mod_lose_71 : decode b_Mod_lose 71 = .ok (.iaload, 1) := by decide +kernel
theorem d_Mod_lose_72 : decode b_Mod_lose 72 = .ok (.iastore, 1) := by decide +kernel
theorem d_Mod_lose_73 : decode b_Mod_lose 73 = .ok (.aload_n 0, 1) := by decide +kernel
theorem d_Mod_lose_74 : decode b_Mod_lose 74 = .ok (.getfield 54, 3) := by decide +kernel
theorem d_Mod_lose_77 : decode b_Mod_lose 77 = .ok (.iload_n 1, 1) := by decide +kernel
theorem d_Mod_lose_78 : decode b_Mod_lose 78 = .ok (.aload_n 0, 1) := by decide +kernel
theorem d_Mod_lose_79 : decode b_Mod_lose 79 = .ok (.getfield 54, 3) := by decide +kernel
theorem d_Mod_lose_82 : decode b_Mod_lose 82 = .ok (.aload_n 0, 1) := by decide +kernel
theorem d_Mod_lose_83 : decode b_Mod_lose 83 = .ok (.getfield 122, 3) := by decide +kernel
theorem d_Mod_lose_86 : decode b_Mod_lose 86 = .ok (.iaload, 1) := by decide +kernel
theorem d_Mod_lose_87 : decode b_Mod_lose 87 = .ok (.iastore, 1) := by decide +kernel
theorem d_Mod_lose_88 : decode b_Mod_lose 88 = .ok (.iconst 0, 1) := by decide +kernel
theorem d_Mod_lose_89 : decode b_Mod_lose 89 = .ok (.istore_n 2, 1) := by decide +kernel
theorem d_Mod_lose_90 : decode b_Mod_lose 90 = .ok (.iload_n 2, 1) := by decide +kernel
theorem d_Mod_lose_91 : decode b_Mod_lose 91 = .ok (.bipush 6, 2) := by decide +kernel
theorem d_Mod_lose_93 : decode b_Mod_lose 93 = .ok (.if_icmp .ge 34, 3) := by decide +kernel
theorem d_Mod_lose_96 : decode b_Mod_lose 96 = .ok (.aload_n 0, 1) := by decide +kernel
theorem d_Mod_lose_97 : decode b_Mod_lose 97 = .ok (.getfield 45, 3) := by decide +kernel
theorem d_Mod_lose_100 : decode b_Mod_lose 100 = .ok (.bipush 6, 2) := by decide +kernel
theorem d_Mod_lose_102 : decode b_Mod_lose 102 = .ok (.iload_n 1, 1) := by decide +kernel
theorem d_Mod_lose_103 : decode b_Mod_lose 103 = .ok (.imul, 1) := by decide +kernel
theorem d_Mod_lose_104 : decode b_Mod_lose 104 = .ok (.iload_n 2, 1) := by decide +kernel
theorem d_Mod_lose_105 : decode b_Mod_lose 105 = .ok (.iadd, 1) := by decide +kernel
theorem d_Mod_lose_106 : decode b_Mod_lose 106 = .ok (.aload_n 0, 1) := by decide +kernel
theorem d_Mod_lose_107 : decode b_Mod_lose 107 = .ok (.getfield 45, 3) := by decide +kernel
theorem d_Mod_lose_110 : decode b_Mod_lose 110 = .ok (.bipush 6, 2) := by decide +kernel
theorem d_Mod_lose_112 : decode b_Mod_lose 112 = .ok (.aload_n 0, 1) := by decide +kernel
theorem d_Mod_lose_113 : decode b_Mod_lose 113 = .ok (.getfield 122, 3) := by decide +kernel
theorem d_Mod_lose_116 : decode b_Mod_lose 116 = .ok (.imul, 1) := by decide +kernel
theorem d_Mod_lose_117 : decode b_Mod_lose 117 = .ok (.iload_n 2, 1) := by decide +kernel
theorem d_Mod_lose_118 : decode b_Mod_lose 118 = .ok (.iadd, 1) := by decide +kernel
theorem d_Mod_lose_119 : decode b_Mod_lose 119 = .ok (.laload, 1) := by decide +kernel
theorem d_Mod_lose_120 : decode b_Mod_lose 120 = .ok (.lastore, 1) := by decide +kernel
theorem d_Mod_lose_121 : decode b_Mod_lose 121 = .ok (.iinc 2 1, 3) := by decide +kernel
theorem d_Mod_lose_124 : decode b_Mod_lose 124 = .ok (.goto (-34), 3) := by decide +kernel
theorem d_Mod_lose_127 : decode b_Mod_lose 127 = .ok (.iconst 0, 1) := by decide +kernel
theorem d_Mod_lose_128 : decode b_Mod_lose 128 = .ok (.istore_n 2, 1) := by decide +kernel
theorem d_Mod_lose_129 : decode b_Mod_lose 129 = .ok (.iload_n 2, 1) := by decide +kernel
theorem d_Mod_lose_130 : decode b_Mod_lose 130 = .ok (.bipush 41, 2) := by decide +kernel
theorem d_Mod_lose_132 : decode b_Mod_lose 132 = .ok (.if_icmp .ge 34, 3) := by decide +kernel
theorem d_Mod_lose_135 : decode b_Mod_lose 135 = .ok (.aload_n 0, 1) := by decide +kernel
theorem d_Mod_lose_136 : decode b_Mod_lose 136 = .ok (.getfield 51, 3) := by decide +kernel
theorem d_Mod_lose_139 : decode b_Mod_lose 139 = .ok (.bipush 41, 2) := by decide +kernel
theorem d_Mod_lose_141 : decode b_Mod_lose 141 = .ok (.iload_n 1, 1) := by decide +kernel
theorem d_Mod_lose_142 : decode b_Mod_lose 142 = .ok (.imul, 1) := by decide +kernel
theorem d_Mod_lose_143 : decode b_Mod_lose 143 = .ok (.iload_n 2, 1) := by decide +kernel
theorem d_Mod_lose_144 : decode b_Mod_lose 144 = .ok (.iadd, 1) := by decide +kernel
theorem d_Mod_lose_145 : decode b_Mod_lose 145 = .ok (.aload_n 0, 1) := by decide +kernel
theorem d_Mod_lose_146 : decode b_Mod_lose 146 = .ok (.getfield 51, 3) := by decide +kernel
theorem d_Mod_lose_149 : decode b_Mod_lose 149 = .ok (.bipush 41, 2) := by decide +kernel
theorem d_Mod_lose_151 : decode b_Mod_lose 151 = .ok (.aload_n 0, 1) := by decide +kernel
theorem d_Mod_lose_152 : decode b_Mod_lose 152 = .ok (.getfield 122, 3) := by decide +kernel
theorem d_Mod_lose_155 : decode b_Mod_lose 155 = .ok (.imul, 1) := by decide +kernel
theorem d_Mod_lose_156 : decode b_Mod_lose 156 = .ok (.iload_n 2, 1) := by decide +kernel
theorem d_Mod_lose_157 : decode b_Mod_lose 157 = .ok (.iadd, 1) := by decide +kernel
theorem d_Mod_lose_158 : decode b_Mod_lose 158 = .ok (.iaload, 1) := by decide +kernel
theorem d_Mod_lose_159 : decode b_Mod_lose 159 = .ok (.iastore, 1) := by decide +kernel
theorem d_Mod_lose_160 : decode b_Mod_lose 160 = .ok (.iinc 2 1, 3) := by decide +kernel
theorem d_Mod_lose_163 : decode b_Mod_lose 163 = .ok (.goto (-34), 3) := by decide +kernel
theorem d_Mod_lose_166 : decode b_Mod_lose 166 = .ok (.iconst 1, 1) := by decide +kernel
theorem d_Mod_lose_167 : decode b_Mod_lose 167 = .ok (.ireturn, 1) := by decide +kernel
abbrev rm_Mod_lose : Room := { frames := 2, cells := 0, slots := 0, locals := 47 }
abbrev C_Mod_lose (D : va_G) (g : Nat → ClassId) (p : Program) (s : State) (m : MethodId) (args : Array Value) (meth : Method) (c : Code) (M0 : Mem) : Prop := Cx p s m args c b_Mod_lose 3 R_Mod BIG D vwCl (tysG g) (mA M0 s.heap.size) ∧ meth.sig.returnType = (some .boolean) ∧ meth.locks = false
abbrev B_Mod_lose (l : Launch) (D : va_G) (p : Program) (e : Env) (s : State) (m : MethodId) (args : Array Value) (below : List Frame) (meth : Method) (c : Code) (M0 : Mem) (P : Int32 → Mem → Prop) (M : Mem) (pc : Nat) (lv : List (Nat × Value)) (st : List Value) : Prop := Wb p l e rm_Mod_lose s m args below meth c 3 D vwCl M0 (kI fun r M' => P r M') 0 0 M pc lv st
def wp_Mod_lose_b129 (g : Nat → ClassId) (P : Int32 → Mem → Prop) (M : Mem) (x0 : Nat) (x1 : Int32) (x2 : Int32) : Prop :=
  ∃ (I : Int32 → Mem → Prop) (μ : Int32 → Mem → Nat), I x2 M ∧ ∀ (x2 : Int32) (M : Mem), I x2 M →
  ((41 : Int32) ≤ x2 → (isB (1 : Int32) ∧ P (1 : Int32) M)) ∧ (¬ (41 : Int32) ≤ x2 → (∃ v2 : Nat, gR M 6 x0 18 = some v2 ∧ (∃ v3 : Nat, gR M 6 x0 18 = some v3 ∧ (∃ v4 : Int32, gI M 6 x0 14 = some v4 ∧ (∃ v5 : Int32, aI M (g 2) v3 (((41 : Int32) * v4) + x2) = some v5 ∧ (∃ M6 : Mem, sI M (g 2) v2 (((41 : Int32) * x1) + x2) v5 = some M6 ∧ ((I (x2 + (1 : Int32)) M6 ∧ μ (x2 + (1 : Int32)) M6 < μ x2 M))))))))
set_option maxHeartbeats 4000000 in
set_option maxRecDepth 100000 in
theorem t_Mod_lose_b129 {l : Launch} {D : va_G} {g : Nat → ClassId} {p : Program} {e : Env} {s : State} {m : MethodId} {args : Array Value} {below : List Frame} {meth : Method} {c : Code} {M0 : Mem} {P : Int32 → Mem → Prop} {M : Mem} {x0 : Nat} {x1 : Int32} {x2 : Int32} (C : C_Mod_lose D g p s m args meth c M0) (h : wp_Mod_lose_b129 g P M x0 x1 x2 ) : B_Mod_lose l D p e s m args below meth c M0 P M 129 [(0, .ref x0), (1, .int x1), (2, .int x2)] [] := by
  unfold wp_Mod_lose_b129 at h
  obtain ⟨I, μ, hI, hb⟩ := h
  have key : ∀ (n : Nat) (x2 : Int32) (M : Mem), I x2 M → μ x2 M < n → B_Mod_lose l D p e s m args below meth c M0 P M 129 [(0, .ref x0), (1, .int x1), (2, .int x2)] [] := by
    intro n
    induction n with
    | zero => intro x2 M _ hn; exact absurd hn (Nat.not_lt_zero _)
    | succ n ih =>
      intro x2 M hI hn ls H locs hM hS hl
      have h := hb x2 M hI
      refine lv_iload_n C.1.1 C.1.2.1 d_Mod_lose_129 rfl (lv_at hl 2 rfl) ?_
      refine lv_bipush (v := (41 : Int32)) C.1.1 C.1.2.1 d_Mod_lose_130 (by decide) ?_
      refine lv_icmp_ge (tgt := 166) C.1.1 C.1.2.1 d_Mod_lose_132 (by decide) (fun c1 => ?_) (fun c1 => ?_)
      · have h := h.1 c1
        refine lv_iconst (v := (1 : Int32)) C.1.1 C.1.2.1 d_Mod_lose_166 (by decide) ?_
        exact mr_Z C.1 C.2.1 C.2.2 h.1 hM hS ⟨_, rfl, h.2⟩ d_Mod_lose_167
      · have h := h.2 c1
        refine lv_aload_n C.1.1 C.1.2.1 d_Mod_lose_135 rfl (lv_at hl 0 rfl) ?_
        obtain ⟨v2, ev2, h⟩ := h
        refine mg_R C.1 hM ok_Mod (by decide) kw19 ev2 d_Mod_lose_136 ?_
        refine lv_bipush (v := (41 : Int32)) C.1.1 C.1.2.1 d_Mod_lose_139 (by decide) ?_
        refine lv_iload_n C.1.1 C.1.2.1 d_Mod_lose_141 rfl (lv_at hl 1 rfl) ?_
        refine lv_imul C.1.1 C.1.2.1 d_Mod_lose_142 ?_
        refine lv_iload_n C.1.1 C.1.2.1 d_Mod_lose_143 rfl (lv_at hl 2 rfl) ?_
        refine lv_iadd C.1.1 C.1.2.1 d_Mod_lose_144 ?_
        refine lv_aload_n C.1.1 C.1.2.1 d_Mod_lose_145 rfl (lv_at hl 0 rfl) ?_
        obtain ⟨v3, ev3, h⟩ := h
        refine mg_R C.1 hM ok_Mod (by decide) kw19 ev3 d_Mod_lose_146 ?_
        refine lv_bipush (v := (41 : Int32)) C.1.1 C.1.2.1 d_Mod_lose_149 (by decide) ?_
        refine lv_aload_n C.1.1 C.1.2.1 d_Mod_lose_151 rfl (lv_at hl 0 rfl) ?_
        obtain ⟨v4, ev4, h⟩ := h
        refine mg_I C.1 hM ok_Mod (by decide) kw71 ev4 d_Mod_lose_152 ?_
        refine lv_imul C.1.1 C.1.2.1 d_Mod_lose_155 ?_
        refine lv_iload_n C.1.1 C.1.2.1 d_Mod_lose_156 rfl (lv_at hl 2 rfl) ?_
        refine lv_iadd C.1.1 C.1.2.1 d_Mod_lose_157 ?_
        obtain ⟨v5, ev5, h⟩ := h
        refine ma_I C.1 hM 2 rfl ev5 d_Mod_lose_158 ?_
        obtain ⟨M6, eM6, h⟩ := h
        refine ms_I C.1 hM hS 2 rfl eM6 d_Mod_lose_159 (fun H locs hM hS => ?_)
        refine lv_iinc (v := x2 + (1 : Int32)) (lv' := [(2, .int (x2 + (1 : Int32))), (0, .ref x0), (1, .int x1)]) C.1.1 C.1.2.1 d_Mod_lose_160 hl (k := 2) rfl rfl (by decide) rfl (fun ls hl => ?_)
        refine lv_goto (tgt := 129) C.1.1 C.1.2.1 d_Mod_lose_163 (by decide) ?_
        exact ih (x2 + (1 : Int32)) M6 h.1 (Nat.lt_of_lt_of_le h.2 (Nat.le_of_lt_succ hn)) _ _ _ hM hS (lv_sub hl [1, 2, 0] rfl)
  exact key _ x2 M hI (Nat.lt_succ_self _)
def wp_Mod_lose_b90 (g : Nat → ClassId) (P : Int32 → Mem → Prop) (M : Mem) (x0 : Nat) (x1 : Int32) (x2 : Int32) : Prop :=
  ∃ (I : Int32 → Mem → Prop) (μ : Int32 → Mem → Nat), I x2 M ∧ ∀ (x2 : Int32) (M : Mem), I x2 M →
  ((6 : Int32) ≤ x2 → (wp_Mod_lose_b129 g P M x0 x1 (0 : Int32))) ∧ (¬ (6 : Int32) ≤ x2 → (∃ v2 : Nat, gR M 6 x0 16 = some v2 ∧ (∃ v3 : Nat, gR M 6 x0 16 = some v3 ∧ (∃ v4 : Int32, gI M 6 x0 14 = some v4 ∧ (∃ v5 : Int64, aL M (g 1) v3 (((6 : Int32) * v4) + x2) = some v5 ∧ (∃ M6 : Mem, sL M (g 1) v2 (((6 : Int32) * x1) + x2) v5 = some M6 ∧ ((I (x2 + (1 : Int32)) M6 ∧ μ (x2 + (1 : Int32)) M6 < μ x2 M))))))))
set_option maxHeartbeats 4000000 in
set_option maxRecDepth 100000 in
theorem t_Mod_lose_b90 {l : Launch} {D : va_G} {g : Nat → ClassId} {p : Program} {e : Env} {s : State} {m : MethodId} {args : Array Value} {below : List Frame} {meth : Method} {c : Code} {M0 : Mem} {P : Int32 → Mem → Prop} {M : Mem} {x0 : Nat} {x1 : Int32} {x2 : Int32} (C : C_Mod_lose D g p s m args meth c M0) (h : wp_Mod_lose_b90 g P M x0 x1 x2 ) : B_Mod_lose l D p e s m args below meth c M0 P M 90 [(0, .ref x0), (1, .int x1), (2, .int x2)] [] := by
  unfold wp_Mod_lose_b90 at h
  obtain ⟨I, μ, hI, hb⟩ := h
  have key : ∀ (n : Nat) (x2 : Int32) (M : Mem), I x2 M → μ x2 M < n → B_Mod_lose l D p e s m args below meth c M0 P M 90 [(0, .ref x0), (1, .int x1), (2, .int x2)] [] := by
    intro n
    induction n with
    | zero => intro x2 M _ hn; exact absurd hn (Nat.not_lt_zero _)
    | succ n ih =>
      intro x2 M hI hn ls H locs hM hS hl
      have h := hb x2 M hI
      refine lv_iload_n C.1.1 C.1.2.1 d_Mod_lose_90 rfl (lv_at hl 2 rfl) ?_
      refine lv_bipush (v := (6 : Int32)) C.1.1 C.1.2.1 d_Mod_lose_91 (by decide) ?_
      refine lv_icmp_ge (tgt := 127) C.1.1 C.1.2.1 d_Mod_lose_93 (by decide) (fun c1 => ?_) (fun c1 => ?_)
      · have h := h.1 c1
        refine lv_iconst (v := (0 : Int32)) C.1.1 C.1.2.1 d_Mod_lose_127 (by decide) ?_
        refine lv_istore_n (lv' := [(2, .int (0 : Int32)), (0, .ref x0), (1, .int x1)]) C.1.1 C.1.2.1 d_Mod_lose_128 rfl hl (by decide) rfl (fun ls hl => ?_)
        exact t_Mod_lose_b129 C h _ _ _ hM hS (lv_sub hl [1, 2, 0] rfl)
      · have h := h.2 c1
        refine lv_aload_n C.1.1 C.1.2.1 d_Mod_lose_96 rfl (lv_at hl 0 rfl) ?_
        obtain ⟨v2, ev2, h⟩ := h
        refine mg_R C.1 hM ok_Mod (by decide) kw17 ev2 d_Mod_lose_97 ?_
        refine lv_bipush (v := (6 : Int32)) C.1.1 C.1.2.1 d_Mod_lose_100 (by decide) ?_
        refine lv_iload_n C.1.1 C.1.2.1 d_Mod_lose_102 rfl (lv_at hl 1 rfl) ?_
        refine lv_imul C.1.1 C.1.2.1 d_Mod_lose_103 ?_
        refine lv_iload_n C.1.1 C.1.2.1 d_Mod_lose_104 rfl (lv_at hl 2 rfl) ?_
        refine lv_iadd C.1.1 C.1.2.1 d_Mod_lose_105 ?_
        refine lv_aload_n C.1.1 C.1.2.1 d_Mod_lose_106 rfl (lv_at hl 0 rfl) ?_
        obtain ⟨v3, ev3, h⟩ := h
        refine mg_R C.1 hM ok_Mod (by decide) kw17 ev3 d_Mod_lose_107 ?_
        refine lv_bipush (v := (6 : Int32)) C.1.1 C.1.2.1 d_Mod_lose_110 (by decide) ?_
        refine lv_aload_n C.1.1 C.1.2.1 d_Mod_lose_112 rfl (lv_at hl 0 rfl) ?_
        obtain ⟨v4, ev4, h⟩ := h
        refine mg_I C.1 hM ok_Mod (by decide) kw71 ev4 d_Mod_lose_113 ?_
        refine lv_imul C.1.1 C.1.2.1 d_Mod_lose_116 ?_
        refine lv_iload_n C.1.1 C.1.2.1 d_Mod_lose_117 rfl (lv_at hl 2 rfl) ?_
        refine lv_iadd C.1.1 C.1.2.1 d_Mod_lose_118 ?_
        obtain ⟨v5, ev5, h⟩ := h
        refine ma_L C.1 hM 1 rfl ev5 d_Mod_lose_119 ?_
        obtain ⟨M6, eM6, h⟩ := h
        refine ms_L C.1 hM hS 1 rfl eM6 d_Mod_lose_120 (fun H locs hM hS => ?_)
        refine lv_iinc (v := x2 + (1 : Int32)) (lv' := [(2, .int (x2 + (1 : Int32))), (0, .ref x0), (1, .int x1)]) C.1.1 C.1.2.1 d_Mod_lose_121 hl (k := 2) rfl rfl (by decide) rfl (fun ls hl => ?_)
        refine lv_goto (tgt := 90) C.1.1 C.1.2.1 d_Mod_lose_124 (by decide) ?_
        exact ih (x2 + (1 : Int32)) M6 h.1 (Nat.lt_of_lt_of_le h.2 (Nat.le_of_lt_succ hn)) _ _ _ hM hS (lv_sub hl [1, 2, 0] rfl)
  exact key _ x2 M hI (Nat.lt_succ_self _)
def wp_Mod_lose (g : Nat → ClassId) (M : Mem) (x0 : Nat) (P : Int32 → Mem → Prop) : Prop :=
  isO M 6 x0 ∧ (wp_Mod_reads g M x0 (0 : Int32) (fun (v1 : Int32) (M2 : Mem) => (v1 = 0 → (isO M2 6 x0 ∧ (wp_Mod_raise g M2 x0 (1 : Int32) (fun (v25 : Int32) (M26 : Mem) => isB (0 : Int32) ∧ P (0 : Int32) M26)))) ∧ (¬ v1 = 0 → (∃ M4 : Mem, pV M2 6 x0 0 (.int (0 : Int32)) = some M4 ∧ (isO M4 6 x0 ∧ (wp_Mod_found g M4 x0 (fun v5 : Int32 => (v5 = (-1 : Int32) → (isB (0 : Int32) ∧ P (0 : Int32) M4)) ∧ (¬ v5 = (-1 : Int32) → (∃ v8 : Int32, gI M4 6 x0 14 = some v8 ∧ (∃ M9 : Mem, pV M4 6 x0 14 (.int (v8 - (1 : Int32))) = some M9 ∧ (∃ v10 : Nat, gR M9 6 x0 15 = some v10 ∧ (∃ v11 : Nat, gR M9 6 x0 15 = some v11 ∧ (∃ v12 : Int32, gI M9 6 x0 14 = some v12 ∧ (∃ v13 : Int32, aI M9 (g 2) v11 v12 = some v13 ∧ (∃ M14 : Mem, sI M9 (g 2) v10 v5 v13 = some M14 ∧ (∃ v15 : Nat, gR M14 6 x0 17 = some v15 ∧ (∃ v16 : Nat, gR M14 6 x0 17 = some v16 ∧ (∃ v17 : Int32, gI M14 6 x0 14 = some v17 ∧ (∃ v18 : Int32, aI M14 (g 2) v16 v17 = some v18 ∧ (∃ M19 : Mem, sI M14 (g 2) v15 v5 v18 = some M19 ∧ (∃ v20 : Nat, gR M19 6 x0 19 = some v20 ∧ (∃ v21 : Nat, gR M19 6 x0 19 = some v21 ∧ (∃ v22 : Int32, gI M19 6 x0 14 = some v22 ∧ (∃ v23 : Int32, aI M19 (g 2) v21 v22 = some v23 ∧ (∃ M24 : Mem, sI M19 (g 2) v20 v5 v23 = some M24 ∧ (wp_Mod_lose_b90 g P M24 x0 v5 (0 : Int32)))))))))))))))))))))))))))
set_option maxHeartbeats 4000000 in
set_option maxRecDepth 100000 in
theorem c_Mod_lose {l : Launch} {D : va_G} {g : Nat → ClassId} {M : Mem} {x0 : Nat} {P : Int32 → Mem → Prop} (h : wp_Mod_lose g M x0 P) : mMet l BIG D vwCl (tysG g) y_Mod_lose b_Mod_lose 3 (some .boolean) rm_Mod_lose [.ref x0] M (kI fun r M' => P r M') := by
  refine mMet.of (own := R_Mod) rfl (by decide) rfl (fun p e s m below meth c C hr hlk hnm ls hM hS hl => ?_)
  have C : C_Mod_lose D g p s m ([.ref x0] : List Value).toArray meth c M := ⟨C, hr, hlk⟩
  unfold wp_Mod_lose at h
  have hl : lv_has ls 3 [(0, .ref x0)] := hl
  refine lv_aload_n C.1.1 C.1.2.1 d_Mod_lose_0 rfl (lv_at hl 0 rfl) ?_
  refine lv_iconst (v := (0 : Int32)) C.1.1 C.1.2.1 d_Mod_lose_1 (by decide) ?_
  obtain ⟨ho, h⟩ := h
  refine mc_V (As := [.int (0 : Int32)]) (ci := 6) C.1 hM hS bigGood (c_Mod_reads h) rfl ho kw59 kw61 kw62 kw29 kw60 hd_Mod_reads ⟨by decide, by decide⟩ hl.1 rfl (Nat.le_of_ble_eq_true rfl) d_Mod_lose_2 (mc := 0) (ms := 0) rfl rfl ⟨by decide, by decide⟩ (fun v M2 H locs hp hM hS => ?_)
  obtain ⟨v1, rfl, h⟩ := hp
  refine lv_if_ne (tgt := 16) C.1.1 C.1.2.1 d_Mod_lose_5 (by decide) (fun c3 => ?_) (fun c3 => ?_)
  · have h := h.2 c3
    refine lv_aload_n C.1.1 C.1.2.1 d_Mod_lose_16 rfl (lv_at hl 0 rfl) ?_
    refine lv_iconst (v := (0 : Int32)) C.1.1 C.1.2.1 d_Mod_lose_17 (by decide) ?_
    obtain ⟨M4, eM4, h⟩ := h
    refine mp_V C.1 hM hS ok_Mod (by decide) kw23 rfl rfl rfl eM4 d_Mod_lose_18 (fun H locs hM hS => ?_)
    refine lv_aload_n C.1.1 C.1.2.1 d_Mod_lose_21 rfl (lv_at hl 0 rfl) ?_
    obtain ⟨ho, h⟩ := h
    refine mc_V (As := []) (ci := 6) C.1 hM hS bigGood (c_Mod_found h) rfl ho kw72 kw74 kw75 kw29 kw73 hd_Mod_found ⟨by decide, by decide⟩ hl.1 rfl (Nat.le_of_ble_eq_true rfl) d_Mod_lose_22 (mc := 0) (ms := 0) rfl rfl ⟨by decide, by decide⟩ (fun v M' H locs hp hM hS => ?_)
    obtain ⟨v5, rfl, rfl, h⟩ := hp
    refine lv_istore_n (lv' := [(1, .int v5), (0, .ref x0)]) C.1.1 C.1.2.1 d_Mod_lose_25 rfl hl (by decide) rfl (fun ls hl => ?_)
    refine lv_iload_n C.1.1 C.1.2.1 d_Mod_lose_26 rfl (lv_at hl 0 rfl) ?_
    refine lv_iconst (v := (-1 : Int32)) C.1.1 C.1.2.1 d_Mod_lose_27 (by decide) ?_
    refine lv_icmp_ne (tgt := 33) C.1.1 C.1.2.1 d_Mod_lose_28 (by decide) (fun c7 => ?_) (fun c7 => ?_)
    · have h := h.2 c7
      refine lv_aload_n C.1.1 C.1.2.1 d_Mod_lose_33 rfl (lv_at hl 1 rfl) ?_
      refine lv_dup C.1.1 C.1.2.1 d_Mod_lose_34 rfl ?_
      obtain ⟨v8, ev8, h⟩ := h
      refine mg_I C.1 hM ok_Mod (by decide) kw71 ev8 d_Mod_lose_35 ?_
      refine lv_iconst (v := (1 : Int32)) C.1.1 C.1.2.1 d_Mod_lose_38 (by decide) ?_
      refine lv_isub C.1.1 C.1.2.1 d_Mod_lose_39 ?_
      obtain ⟨M9, eM9, h⟩ := h
      refine mp_V C.1 hM hS ok_Mod (by decide) kw71 rfl rfl rfl eM9 d_Mod_lose_40 (fun H locs hM hS => ?_)
      refine lv_aload_n C.1.1 C.1.2.1 d_Mod_lose_43 rfl (lv_at hl 1 rfl) ?_
      obtain ⟨v10, ev10, h⟩ := h
      refine mg_R C.1 hM ok_Mod (by decide) kw16 ev10 d_Mod_lose_44 ?_
      refine lv_iload_n C.1.1 C.1.2.1 d_Mod_lose_47 rfl (lv_at hl 0 rfl) ?_
      refine lv_aload_n C.1.1 C.1.2.1 d_Mod_lose_48 rfl (lv_at hl 1 rfl) ?_
      obtain ⟨v11, ev11, h⟩ := h
      refine mg_R C.1 hM ok_Mod (by decide) kw16 ev11 d_Mod_lose_49 ?_
      refine lv_aload_n C.1.1 C.1.2.1 d_Mod_lose_52 rfl (lv_at hl 1 rfl) ?_
      obtain ⟨v12, ev12, h⟩ := h
      refine mg_I C.1 hM ok_Mod (by decide) kw71 ev12 d_Mod_lose_53 ?_
      obtain ⟨v13, ev13, h⟩ := h
      refine ma_I C.1 hM 2 rfl ev13 d_Mod_lose_56 ?_
      obtain ⟨M14, eM14, h⟩ := h
      refine ms_I C.1 hM hS 2 rfl eM14 d_Mod_lose_57 (fun H locs hM hS => ?_)
      refine lv_aload_n C.1.1 C.1.2.1 d_Mod_lose_58 rfl (lv_at hl 1 rfl) ?_
      obtain ⟨v15, ev15, h⟩ := h
      refine mg_R C.1 hM ok_Mod (by decide) kw18 ev15 d_Mod_lose_59 ?_
      refine lv_iload_n C.1.1 C.1.2.1 d_Mod_lose_62 rfl (lv_at hl 0 rfl) ?_
      refine lv_aload_n C.1.1 C.1.2.1 d_Mod_lose_63 rfl (lv_at hl 1 rfl) ?_
      obtain ⟨v16, ev16, h⟩ := h
      refine mg_R C.1 hM ok_Mod (by decide) kw18 ev16 d_Mod_lose_64 ?_
      refine lv_aload_n C.1.1 C.1.2.1 d_Mod_lose_67 rfl (lv_at hl 1 rfl) ?_
      obtain ⟨v17, ev17, h⟩ := h
      refine mg_I C.1 hM ok_Mod (by decide) kw71 ev17 d_Mod_lose_68 ?_
      obtain ⟨v18, ev18, h⟩ := h
      refine ma_I C.1 hM 2 rfl ev18 d_Mod_lose_71 ?_
      obtain ⟨M19, eM19, h⟩ := h
      refine ms_I C.1 hM hS 2 rfl eM19 d_Mod_lose_72 (fun H locs hM hS => ?_)
      refine lv_aload_n C.1.1 C.1.2.1 d_Mod_lose_73 rfl (lv_at hl 1 rfl) ?_
      obtain ⟨v20, ev20, h⟩ := h
      refine mg_R C.1 hM ok_Mod (by decide) kw20 ev20 d_Mod_lose_74 ?_
      refine lv_iload_n C.1.1 C.1.2.1 d_Mod_lose_77 rfl (lv_at hl 0 rfl) ?_
      refine lv_aload_n C.1.1 C.1.2.1 d_Mod_lose_78 rfl (lv_at hl 1 rfl) ?_
      obtain ⟨v21, ev21, h⟩ := h
      refine mg_R C.1 hM ok_Mod (by decide) kw20 ev21 d_Mod_lose_79 ?_
      refine lv_aload_n C.1.1 C.1.2.1 d_Mod_lose_82 rfl (lv_at hl 1 rfl) ?_
      obtain ⟨v22, ev22, h⟩ := h
      refine mg_I C.1 hM ok_Mod (by decide) kw71 ev22 d_Mod_lose_83 ?_
      obtain ⟨v23, ev23, h⟩ := h
      refine ma_I C.1 hM 2 rfl ev23 d_Mod_lose_86 ?_
      obtain ⟨M24, eM24, h⟩ := h
      refine ms_I C.1 hM hS 2 rfl eM24 d_Mod_lose_87 (fun H locs hM hS => ?_)
      refine lv_iconst (v := (0 : Int32)) C.1.1 C.1.2.1 d_Mod_lose_88 (by decide) ?_
      refine lv_istore_n (lv' := [(2, .int (0 : Int32)), (1, .int v5), (0, .ref x0)]) C.1.1 C.1.2.1 d_Mod_lose_89 rfl hl (by decide) rfl (fun ls hl => ?_)
      exact t_Mod_lose_b90 C h _ _ _ hM hS (lv_sub hl [2, 1, 0] rfl)
    · have h := h.1 c7
      refine lv_iconst (v := (0 : Int32)) C.1.1 C.1.2.1 d_Mod_lose_31 (by decide) ?_
      exact mr_Z C.1 C.2.1 C.2.2 h.1 hM hS ⟨_, rfl, h.2⟩ d_Mod_lose_32
  · have h := h.1 c3
    refine lv_aload_n C.1.1 C.1.2.1 d_Mod_lose_8 rfl (lv_at hl 0 rfl) ?_
    refine lv_iconst (v := (1 : Int32)) C.1.1 C.1.2.1 d_Mod_lose_9 (by decide) ?_
    obtain ⟨ho, h⟩ := h
    refine mc_V (As := [.int (1 : Int32)]) (ci := 6) C.1 hM hS bigGood (c_Mod_raise h) rfl ho kw55 kw57 kw58 kw29 kw56 hd_Mod_raise ⟨by decide, by decide⟩ hl.1 rfl (Nat.le_of_ble_eq_true rfl) d_Mod_lose_10 (mc := 0) (ms := 0) rfl rfl ⟨by decide, by decide⟩ (fun v M26 H locs hp hM hS => ?_)
    obtain ⟨v25, rfl, h⟩ := hp
    refine lv_istore_n (lv' := [(1, .int v25), (0, .ref x0)]) C.1.1 C.1.2.1 d_Mod_lose_13 rfl hl (by decide) rfl (fun ls hl => ?_)
    refine lv_iconst (v := (0 : Int32)) C.1.1 C.1.2.1 d_Mod_lose_14 (by decide) ?_
    exact mr_Z C.1 C.2.1 C.2.2 h.1 hM hS ⟨_, rfl, h.2⟩ d_Mod_lose_15
