theorem d_Shelf_takenBy_0 : decode b_Shelf_takenBy 0 = .ok (.iconst 0, 1) := by decide +kernel
theorem d_Shelf_takenBy_1 : decode b_Shelf_takenBy 1 = .ok (.istore_n 3, 1) := by decide +kernel
theorem d_Shelf_takenBy_2 : decode b_Shelf_takenBy 2 = .ok (.iconst 0, 1) := by decide +kernel
theorem d_Shelf_takenBy_3 : decode b_Shelf_takenBy 3 = .ok (.istore 4, 2) := by decide +kernel
theorem d_Shelf_takenBy_5 : decode b_Shelf_takenBy 5 = .ok (.iload 4, 2) := by decide +kernel
theorem d_Shelf_takenBy_7 : decode b_Shelf_takenBy 7 = .ok (.aload_n 0, 1) := by decide +kernel
theorem d_Shelf_takenBy_8 : decode b_Shelf_takenBy 8 = .ok (.getfield 18, 3) := by decide +kernel
theorem d_Shelf_takenBy_11 : decode b_Shelf_takenBy 11 = .ok (.if_icmp .ge 52, 3) := by decide +kernel
theorem d_Shelf_takenBy_14 : decode b_Shelf_takenBy 14 = .ok (.iload 4, 2) := by decide +kernel
theorem d_Shelf_takenBy_16 : decode b_Shelf_takenBy 16 = .ok (.aload_n 0, 1) := by decide +kernel
theorem d_Shelf_takenBy_17 : decode b_Shelf_takenBy 17 = .ok (.getfield 11, 3) := by decide +kernel
theorem d_Shelf_takenBy_20 : decode b_Shelf_takenBy 20 = .ok (.arraylength, 1) := by decide +kernel
theorem d_Shelf_takenBy_21 : decode b_Shelf_takenBy 21 = .ok (.if_icmp .ge 42, 3) := by decide +kernel
theorem d_Shelf_takenBy_24 : decode b_Shelf_takenBy 24 = .ok (.aload_n 1, 1) := by decide +kernel
theorem d_Shelf_takenBy_25 : decode b_Shelf_takenBy 25 = .ok (.aload_n 0, 1) := by decide +kernel
theorem d_Shelf_takenBy_26 : decode b_Shelf_takenBy 26 = .ok (.getfield 11, 3) := by decide +kernel
theorem d_Shelf_takenBy_29 : decode b_Shelf_takenBy 29 = .ok (.iload 4, 2) := by decide +kernel
theorem d_Shelf_takenBy_31 : decode b_Shelf_takenBy 31 = .ok (.aaload, 1) := by decide +kernel
theorem d_Shelf_takenBy_32 : decode b_Shelf_takenBy 32 = .ok (.invokevirtual 42, 3) := by decide +kernel
theorem d_Shelf_takenBy_35 : decode b_Shelf_takenBy 35 = .ok (.invokevirtual 46, 3) := by decide +kernel
theorem d_Shelf_takenBy_38 : decode b_Shelf_takenBy 38 = .ok (.ifCond .eq 19, 3) := by decide +kernel
theorem d_Shelf_takenBy_41 : decode b_Shelf_takenBy 41 = .ok (.iload_n 3, 1) := by decide +kernel
theorem d_Shelf_takenBy_42 : decode b_Shelf_takenBy 42 = .ok (.iload_n 2, 1) := by decide +kernel
theorem d_Shelf_takenBy_43 : decode b_Shelf_takenBy 43 = .ok (.if_icmp .ne 11, 3) := by decide +kernel
theorem d_Shelf_takenBy_46 : decode b_Shelf_takenBy 46 = .ok (.aload_n 0, 1) := by decide +kernel
theorem d_Shelf_takenBy_47 : decode b_Shelf_takenBy 47 = .ok (.getfield 11, 3) := by decide +kernel
theorem d_Shelf_takenBy_50 : decode b_Shelf_takenBy 50 = .ok (.iload 4, 2) := by decide +kernel
theorem d_Shelf_takenBy_52 : decode b_Shelf_takenBy 52 = .ok (.aaload, 1) := by decide +kernel
theorem d_Shelf_takenBy_53 : decode b_Shelf_takenBy 53 = .ok (.areturn, 1) := by decide +kernel
theorem d_Shelf_takenBy_54 : decode b_Shelf_takenBy 54 = .ok (.iinc 3 1, 3) := by decide +kernel
theorem d_Shelf_takenBy_57 : decode b_Shelf_takenBy 57 = .ok (.iinc 4 1, 3) := by decide +kernel
theorem d_Shelf_takenBy_60 : decode b_Shelf_takenBy 60 = .ok (.goto (-55), 3) := by decide +kernel
theorem d_Shelf_takenBy_63 : decode b_Shelf_takenBy 63 = .ok (.aconst_null, 1) := by decide +kernel
theorem d_Shelf_takenBy_64 : decode b_Shelf_takenBy 64 = .ok (.areturn, 1) := by decide +kernel
abbrev rm_Shelf_takenBy : Room := { frames := 3, cells := 0, slots := 0, locals := 72 }
abbrev C_Shelf_takenBy (D : va_G) (g : Nat → ClassId) (p : Program) (s : State) (m : MethodId) (args : Array Value) (meth : Method) (c : Code) (M0 : Mem) : Prop := Cx p s m args c b_Shelf_takenBy 5 R_Shelf BIG D vwCl (tysG g) (mA M0 s.heap.size) ∧ meth.sig.returnType = (some (.object "TopicDesk$KeptTopic")) ∧ meth.locks = false
abbrev B_Shelf_takenBy (l : Launch) (D : va_G) (p : Program) (e : Env) (s : State) (m : MethodId) (args : Array Value) (below : List Frame) (meth : Method) (c : Code) (M0 : Mem) (P : Option Nat → Prop) (M : Mem) (pc : Nat) (lv : List (Nat × Value)) (st : List Value) : Prop := Wb p l e rm_Shelf_takenBy s m args below meth c 5 D vwCl M0 (kQ fun r M' => M0 = M' ∧ P r) 0 0 M pc lv st
def wp_Shelf_takenBy_b63 (g : Nat → ClassId) (P : Option Nat → Prop) (M : Mem) : Prop :=
  P none
set_option maxHeartbeats 4000000 in
set_option maxRecDepth 100000 in
theorem t_Shelf_takenBy_b63 {l : Launch} {D : va_G} {g : Nat → ClassId} {p : Program} {e : Env} {s : State} {m : MethodId} {args : Array Value} {below : List Frame} {meth : Method} {c : Code} {P : Option Nat → Prop} {M : Mem} (C : C_Shelf_takenBy D g p s m args meth c M) (h : wp_Shelf_takenBy_b63 g P M ) : B_Shelf_takenBy l D p e s m args below meth c M P M 63 [] [] := by
  intro ls H locs hM hS hl
  unfold wp_Shelf_takenBy_b63 at h
  refine lv_null C.1.1 C.1.2.1 d_Shelf_takenBy_63 ?_
  exact mr_Q (v := none) C.1 C.2.1 C.2.2 (Or.inl ⟨_, rfl⟩) hM hS ⟨_, rfl, rfl, h⟩ d_Shelf_takenBy_64
def wp_Shelf_takenBy_b57 (g : Nat → ClassId) (P : Option Nat → Prop) (J5 : Int32 → Int32 → Prop) (M : Mem) (x0 : Nat) (x1 : Nat) (x2 : Int32) (x3 : Int32) (x4 : Int32) : Prop :=
  J5 x3 (x4 + (1 : Int32))
set_option maxHeartbeats 4000000 in
set_option maxRecDepth 100000 in
theorem t_Shelf_takenBy_b57 {l : Launch} {D : va_G} {g : Nat → ClassId} {p : Program} {e : Env} {s : State} {m : MethodId} {args : Array Value} {below : List Frame} {meth : Method} {c : Code} {P : Option Nat → Prop} {J5 : Int32 → Int32 → Prop} {M : Mem} {x0 : Nat} {x1 : Nat} {x2 : Int32} {x3 : Int32} {x4 : Int32} (C : C_Shelf_takenBy D g p s m args meth c M) (h : wp_Shelf_takenBy_b57 g P J5 M x0 x1 x2 x3 x4 ) (kJ5 : ∀ (x3 : Int32) (x4 : Int32), J5 x3 x4 → B_Shelf_takenBy l D p e s m args below meth c M P M 5 [(0, .ref x0), (1, .ref x1), (2, .int x2), (3, .int x3), (4, .int x4)] []) : B_Shelf_takenBy l D p e s m args below meth c M P M 57 [(0, .ref x0), (1, .ref x1), (2, .int x2), (3, .int x3), (4, .int x4)] [] := by
  intro ls H locs hM hS hl
  unfold wp_Shelf_takenBy_b57 at h
  refine lv_iinc (v := x4 + (1 : Int32)) (lv' := [(4, .int (x4 + (1 : Int32))), (0, .ref x0), (1, .ref x1), (2, .int x2), (3, .int x3)]) C.1.1 C.1.2.1 d_Shelf_takenBy_57 hl (k := 4) rfl rfl (by decide) rfl (fun ls hl => ?_)
  refine lv_goto (tgt := 5) C.1.1 C.1.2.1 d_Shelf_takenBy_60 (by decide) ?_
  exact kJ5 x3 (x4 + (1 : Int32)) h _ _ _ hM hS (lv_sub hl [1, 2, 3, 4, 0] rfl)
def wp_Shelf_takenBy_b5 (g : Nat → ClassId) (P : Option Nat → Prop) (M : Mem) (x0 : Nat) (x1 : Nat) (x2 : Int32) (x3 : Int32) (x4 : Int32) : Prop :=
  ∃ (I : Int32 → Int32 → Prop) (μ : Int32 → Int32 → Nat), I x3 x4 ∧ ∀ (x3 : Int32) (x4 : Int32), I x3 x4 →
  ∃ v1 : Int32, gI M 4 x0 1 = some v1 ∧ ((v1 ≤ x4 → (wp_Shelf_takenBy_b63 g P M)) ∧ (¬ v1 ≤ x4 → (∃ v3 : Nat, gR M 4 x0 0 = some v3 ∧ (∃ n4 : Nat, aN M (g 4) v3 = some n4 ∧ (((nI n4) ≤ x4 → (wp_Shelf_takenBy_b63 g P M)) ∧ (¬ (nI n4) ≤ x4 → (∃ v6 : Nat, gR M 4 x0 0 = some v6 ∧ (∃ v7 : Nat, aQ M (g 4) v6 x4 = some (some v7) ∧ (isO M 3 v7 ∧ (wp_Kt_text g M v7 (fun v8 : Nat => isO M 1 x1 ∧ (wp_Text_takes g M x1 v8 (fun v10 : Int32 => (v10 = 0 → (wp_Shelf_takenBy_b57 g P (fun y3 y4 => I y3 y4 ∧ μ y3 y4 < μ x3 x4) M x0 x1 x2 x3 x4)) ∧ (¬ v10 = 0 → ((x3 = x2 → (∃ v14 : Nat, gR M 4 x0 0 = some v14 ∧ (∃ v15 : Nat, aQ M (g 4) v14 x4 = some (some v15) ∧ (P (some v15))))) ∧ (¬ x3 = x2 → (wp_Shelf_takenBy_b57 g P (fun y3 y4 => I y3 y4 ∧ μ y3 y4 < μ x3 x4) M x0 x1 x2 (x3 + (1 : Int32)) x4)))))))))))))))))
set_option maxHeartbeats 4000000 in
set_option maxRecDepth 100000 in
theorem t_Shelf_takenBy_b5 {l : Launch} {D : va_G} {g : Nat → ClassId} {p : Program} {e : Env} {s : State} {m : MethodId} {args : Array Value} {below : List Frame} {meth : Method} {c : Code} {P : Option Nat → Prop} {M : Mem} {x0 : Nat} {x1 : Nat} {x2 : Int32} {x3 : Int32} {x4 : Int32} (C : C_Shelf_takenBy D g p s m args meth c M) (h : wp_Shelf_takenBy_b5 g P M x0 x1 x2 x3 x4 ) : B_Shelf_takenBy l D p e s m args below meth c M P M 5 [(0, .ref x0), (1, .ref x1), (2, .int x2), (3, .int x3), (4, .int x4)] [] := by
  unfold wp_Shelf_takenBy_b5 at h
  obtain ⟨I, μ, hI, hb⟩ := h
  have key : ∀ (n : Nat) (x3 : Int32) (x4 : Int32), I x3 x4 → μ x3 x4 < n → B_Shelf_takenBy l D p e s m args below meth c M P M 5 [(0, .ref x0), (1, .ref x1), (2, .int x2), (3, .int x3), (4, .int x4)] [] := by
    intro n
    induction n with
    | zero => intro x3 x4 _ hn; exact absurd hn (Nat.not_lt_zero _)
    | succ n ih =>
      intro x3 x4 hI hn ls H locs hM hS hl
      have h := hb x3 x4 hI
      refine lv_iload C.1.1 C.1.2.1 d_Shelf_takenBy_5 (lv_at hl 4 rfl) ?_
      refine lv_aload_n C.1.1 C.1.2.1 d_Shelf_takenBy_7 rfl (lv_at hl 0 rfl) ?_
      obtain ⟨v1, ev1, h⟩ := h
      refine mg_I C.1 hM ok_Shelf (by decide) kw97 ev1 d_Shelf_takenBy_8 ?_
      refine lv_icmp_ge (tgt := 63) C.1.1 C.1.2.1 d_Shelf_takenBy_11 (by decide) (fun c2 => ?_) (fun c2 => ?_)
      · have h := h.1 c2
        exact t_Shelf_takenBy_b63 C h _ _ _ hM hS (lv_sub hl [] rfl)
      · have h := h.2 c2
        refine lv_iload C.1.1 C.1.2.1 d_Shelf_takenBy_14 (lv_at hl 4 rfl) ?_
        refine lv_aload_n C.1.1 C.1.2.1 d_Shelf_takenBy_16 rfl (lv_at hl 0 rfl) ?_
        obtain ⟨v3, ev3, h⟩ := h
        refine mg_R C.1 hM ok_Shelf (by decide) kw98 ev3 d_Shelf_takenBy_17 ?_
        obtain ⟨n4, en4, h⟩ := h
        refine ma_N C.1 hM 4 rfl en4 d_Shelf_takenBy_20 ?_
        refine lv_icmp_ge (tgt := 63) C.1.1 C.1.2.1 d_Shelf_takenBy_21 (by decide) (fun c5 => ?_) (fun c5 => ?_)
        · have h := h.1 c5
          exact t_Shelf_takenBy_b63 C h _ _ _ hM hS (lv_sub hl [] rfl)
        · have h := h.2 c5
          refine lv_aload_n C.1.1 C.1.2.1 d_Shelf_takenBy_24 rfl (lv_at hl 1 rfl) ?_
          refine lv_aload_n C.1.1 C.1.2.1 d_Shelf_takenBy_25 rfl (lv_at hl 0 rfl) ?_
          obtain ⟨v6, ev6, h⟩ := h
          refine mg_R C.1 hM ok_Shelf (by decide) kw98 ev6 d_Shelf_takenBy_26 ?_
          refine lv_iload C.1.1 C.1.2.1 d_Shelf_takenBy_29 (lv_at hl 4 rfl) ?_
          obtain ⟨v7, ev7, h⟩ := h
          refine ma_R C.1 hM 4 rfl ev7 d_Shelf_takenBy_31 ?_
          obtain ⟨ho, h⟩ := h
          refine mc_V (As := []) (ci := 3) C.1 hM hS bigGood (c_Kt_text h) rfl ho kw178 kw180 kw181 kw173 kw179 hd_Kt_text ⟨by decide, by decide⟩ hl.1 rfl (Nat.le_of_ble_eq_true rfl) d_Shelf_takenBy_32 (mc := 0) (ms := 0) rfl rfl ⟨by decide, by decide⟩ (fun v M' H locs hp hM hS => ?_)
          obtain ⟨v8, rfl, rfl, h⟩ := hp
          obtain ⟨ho, h⟩ := h
          refine mc_V (As := [.ref v8]) (ci := 1) C.1 hM hS bigGood (c_Text_takes h) rfl ho kw292 kw294 kw295 kw107 kw293 hd_Text_takes ⟨by decide, by decide⟩ hl.1 rfl (Nat.le_of_ble_eq_true rfl) d_Shelf_takenBy_35 (mc := 0) (ms := 0) rfl rfl ⟨by decide, by decide⟩ (fun v M' H locs hp hM hS => ?_)
          obtain ⟨v10, rfl, rfl, h⟩ := hp
          refine lv_if_eq (tgt := 57) C.1.1 C.1.2.1 d_Shelf_takenBy_38 (by decide) (fun c12 => ?_) (fun c12 => ?_)
          · have h := h.1 c12
            exact t_Shelf_takenBy_b57 C h (fun y3 y4 hJ => ih y3 y4 hJ.1 (Nat.lt_of_lt_of_le hJ.2 (Nat.le_of_lt_succ hn))) _ _ _ hM hS (lv_sub hl [0, 1, 2, 3, 4] rfl)
          · have h := h.2 c12
            refine lv_iload_n C.1.1 C.1.2.1 d_Shelf_takenBy_41 rfl (lv_at hl 3 rfl) ?_
            refine lv_iload_n C.1.1 C.1.2.1 d_Shelf_takenBy_42 rfl (lv_at hl 2 rfl) ?_
            refine lv_icmp_ne (tgt := 54) C.1.1 C.1.2.1 d_Shelf_takenBy_43 (by decide) (fun c13 => ?_) (fun c13 => ?_)
            · have h := h.2 c13
              refine lv_iinc (v := x3 + (1 : Int32)) (lv' := [(3, .int (x3 + (1 : Int32))), (0, .ref x0), (1, .ref x1), (2, .int x2), (4, .int x4)]) C.1.1 C.1.2.1 d_Shelf_takenBy_54 hl (k := 3) rfl rfl (by decide) rfl (fun ls hl => ?_)
              exact t_Shelf_takenBy_b57 C h (fun y3 y4 hJ => ih y3 y4 hJ.1 (Nat.lt_of_lt_of_le hJ.2 (Nat.le_of_lt_succ hn))) _ _ _ hM hS (lv_sub hl [1, 2, 3, 0, 4] rfl)
            · have h := h.1 c13
              refine lv_aload_n C.1.1 C.1.2.1 d_Shelf_takenBy_46 rfl (lv_at hl 0 rfl) ?_
              obtain ⟨v14, ev14, h⟩ := h
              refine mg_R C.1 hM ok_Shelf (by decide) kw98 ev14 d_Shelf_takenBy_47 ?_
              refine lv_iload C.1.1 C.1.2.1 d_Shelf_takenBy_50 (lv_at hl 4 rfl) ?_
              obtain ⟨v15, ev15, h⟩ := h
              refine ma_R C.1 hM 4 rfl ev15 d_Shelf_takenBy_52 ?_
              exact mr_Q (v := (some v15)) C.1 C.2.1 C.2.2 (Or.inl ⟨_, rfl⟩) hM hS ⟨_, rfl, rfl, h⟩ d_Shelf_takenBy_53
  exact key _ x3 x4 hI (Nat.lt_succ_self _)
def wp_Shelf_takenBy (g : Nat → ClassId) (M : Mem) (x0 : Nat) (x1 : Nat) (x2 : Int32) (P : Option Nat → Prop) : Prop :=
  wp_Shelf_takenBy_b5 g P M x0 x1 x2 (0 : Int32) (0 : Int32)
set_option maxHeartbeats 4000000 in
set_option maxRecDepth 100000 in
theorem c_Shelf_takenBy {l : Launch} {D : va_G} {g : Nat → ClassId} {M : Mem} {x0 : Nat} {x1 : Nat} {x2 : Int32} {P : Option Nat → Prop} (h : wp_Shelf_takenBy g M x0 x1 x2 P) : mMet l BIG D vwCl (tysG g) y_Shelf_takenBy b_Shelf_takenBy 5 (some (.object "TopicDesk$KeptTopic")) rm_Shelf_takenBy [.ref x0, .ref x1, .int x2] M (kQ fun r M' => M = M' ∧ P r) := by
  refine mMet.of (own := R_Shelf) rfl (by decide) rfl (fun p e s m below meth c C hr hlk hnm ls hM hS hl => ?_)
  have C : C_Shelf_takenBy D g p s m ([.ref x0, .ref x1, .int x2] : List Value).toArray meth c M := ⟨C, hr, hlk⟩
  unfold wp_Shelf_takenBy at h
  have hl : lv_has ls 5 [(0, .ref x0), (1, .ref x1), (2, .int x2)] := hl
  refine lv_iconst (v := (0 : Int32)) C.1.1 C.1.2.1 d_Shelf_takenBy_0 (by decide) ?_
  refine lv_istore_n (lv' := [(3, .int (0 : Int32)), (0, .ref x0), (1, .ref x1), (2, .int x2)]) C.1.1 C.1.2.1 d_Shelf_takenBy_1 rfl hl (by decide) rfl (fun ls hl => ?_)
  refine lv_iconst (v := (0 : Int32)) C.1.1 C.1.2.1 d_Shelf_takenBy_2 (by decide) ?_
  refine lv_istore (lv' := [(4, .int (0 : Int32)), (3, .int (0 : Int32)), (0, .ref x0), (1, .ref x1), (2, .int x2)]) C.1.1 C.1.2.1 d_Shelf_takenBy_3 hl (by decide) rfl (fun ls hl => ?_)
  exact t_Shelf_takenBy_b5 C h _ _ _ hM hS (lv_sub hl [2, 3, 4, 1, 0] rfl)
