theorem d_Mod_isEnd_0 : decode b_Mod_isEnd 0 = .ok (.iload_n 2, 1) := by decide +kernel
theorem d_Mod_isEnd_1 : decode b_Mod_isEnd 1 = .ok (.aload_n 0, 1) := by decide +kernel
theorem d_Mod_isEnd_2 : decode b_Mod_isEnd 2 = .ok (.getfield 33, 3) := by decide +kernel
theorem d_Mod_isEnd_5 : decode b_Mod_isEnd 5 = .ok (.iload_n 1, 1) := by decide +kernel
theorem d_Mod_isEnd_6 : decode b_Mod_isEnd 6 = .ok (.iaload, 1) := by decide +kernel
theorem d_Mod_isEnd_7 : decode b_Mod_isEnd 7 = .ok (.ishr, 1) := by decide +kernel
theorem d_Mod_isEnd_8 : decode b_Mod_isEnd 8 = .ok (.iconst 1, 1) := by decide +kernel
theorem d_Mod_isEnd_9 : decode b_Mod_isEnd 9 = .ok (.iand, 1) := by decide +kernel
theorem d_Mod_isEnd_10 : decode b_Mod_isEnd 10 = .ok (.iconst 1, 1) := by decide +kernel
theorem d_Mod_isEnd_11 : decode b_Mod_isEnd 11 = .ok (.if_icmp .ne 7, 3) := by decide +kernel
theorem d_Mod_isEnd_14 : decode b_Mod_isEnd 14 = .ok (.iconst 1, 1) := by decide +kernel
theorem d_Mod_isEnd_15 : decode b_Mod_isEnd 15 = .ok (.goto 4, 3) := by decide +kernel
theorem d_Mod_isEnd_18 : decode b_Mod_isEnd 18 = .ok (.iconst 0, 1) := by decide +kernel
theorem d_Mod_isEnd_19 : decode b_Mod_isEnd 19 = .ok (.ireturn, 1) := by decide +kernel
abbrev rm_Mod_isEnd : Room := { frames := 0, cells := 0, slots := 0, locals := 0 }
abbrev C_Mod_isEnd (D : va_G) (g : Nat → ClassId) (p : Program) (s : State) (m : MethodId) (args : Array Value) (meth : Method) (c : Code) (M0 : Mem) : Prop := Cx p s m args c b_Mod_isEnd 3 R_Mod BIG D vwCl (tysG g) (mA M0 s.heap.size) ∧ meth.sig.returnType = (some .boolean) ∧ meth.locks = false
abbrev B_Mod_isEnd (l : Launch) (D : va_G) (p : Program) (e : Env) (s : State) (m : MethodId) (args : Array Value) (below : List Frame) (meth : Method) (c : Code) (M0 : Mem) (P : Int32 → Prop) (M : Mem) (pc : Nat) (lv : List (Nat × Value)) (st : List Value) : Prop := Wb p l e rm_Mod_isEnd s m args below meth c 3 D vwCl M0 (kI fun r M' => M0 = M' ∧ P r) 0 0 M pc lv st
def wp_Mod_isEnd_b19 (g : Nat → ClassId) (P : Int32 → Prop) (M : Mem) (t0 : Int32) : Prop :=
  isB t0 ∧ P t0
set_option maxHeartbeats 4000000 in
set_option maxRecDepth 100000 in
theorem t_Mod_isEnd_b19 {l : Launch} {D : va_G} {g : Nat → ClassId} {p : Program} {e : Env} {s : State} {m : MethodId} {args : Array Value} {below : List Frame} {meth : Method} {c : Code} {P : Int32 → Prop} {M : Mem} {t0 : Int32} (C : C_Mod_isEnd D g p s m args meth c M) (h : wp_Mod_isEnd_b19 g P M t0) : B_Mod_isEnd l D p e s m args below meth c M P M 19 [] [.int t0] := by
  intro ls H locs hM hS hl
  unfold wp_Mod_isEnd_b19 at h
  exact mr_Z C.1 C.2.1 C.2.2 h.1 hM hS ⟨_, rfl, rfl, h.2⟩ d_Mod_isEnd_19
def wp_Mod_isEnd (g : Nat → ClassId) (M : Mem) (x0 : Nat) (x1 : Int32) (x2 : Int32) (P : Int32 → Prop) : Prop :=
  ∃ v1 : Nat, gR M 6 x0 11 = some v1 ∧ (∃ v2 : Int32, aI M (g 2) v1 x1 = some v2 ∧ ((((x2 >>> (v2 &&& 31)) &&& (1 : Int32)) = (1 : Int32) → (wp_Mod_isEnd_b19 g P M (1 : Int32))) ∧ (¬ ((x2 >>> (v2 &&& 31)) &&& (1 : Int32)) = (1 : Int32) → (wp_Mod_isEnd_b19 g P M (0 : Int32)))))
set_option maxHeartbeats 4000000 in
set_option maxRecDepth 100000 in
theorem c_Mod_isEnd {l : Launch} {D : va_G} {g : Nat → ClassId} {M : Mem} {x0 : Nat} {x1 : Int32} {x2 : Int32} {P : Int32 → Prop} (h : wp_Mod_isEnd g M x0 x1 x2 P) : mMet l BIG D vwCl (tysG g) y_Mod_isEnd b_Mod_isEnd 3 (some .boolean) rm_Mod_isEnd [.ref x0, .int x1, .int x2] M (kI fun r M' => M = M' ∧ P r) := by
  refine mMet.of (own := R_Mod) rfl (by decide) rfl (fun p e s m below meth c C hr hlk hnm ls hM hS hl => ?_)
  have C : C_Mod_isEnd D g p s m ([.ref x0, .int x1, .int x2] : List Value).toArray meth c M := ⟨C, hr, hlk⟩
  unfold wp_Mod_isEnd at h
  have hl : lv_has ls 3 [(0, .ref x0), (1, .int x1), (2, .int x2)] := hl
  refine lv_iload_n C.1.1 C.1.2.1 d_Mod_isEnd_0 rfl (lv_at hl 2 rfl) ?_
  refine lv_aload_n C.1.1 C.1.2.1 d_Mod_isEnd_1 rfl (lv_at hl 0 rfl) ?_
  obtain ⟨v1, ev1, h⟩ := h
  refine mg_R C.1 hM ok_Mod (by decide) kw13 ev1 d_Mod_isEnd_2 ?_
  refine lv_iload_n C.1.1 C.1.2.1 d_Mod_isEnd_5 rfl (lv_at hl 1 rfl) ?_
  obtain ⟨v2, ev2, h⟩ := h
  refine ma_I C.1 hM 2 rfl ev2 d_Mod_isEnd_6 ?_
  refine lv_ishr C.1.1 C.1.2.1 d_Mod_isEnd_7 ?_
  refine lv_iconst (v := (1 : Int32)) C.1.1 C.1.2.1 d_Mod_isEnd_8 (by decide) ?_
  refine lv_iand C.1.1 C.1.2.1 d_Mod_isEnd_9 ?_
  refine lv_iconst (v := (1 : Int32)) C.1.1 C.1.2.1 d_Mod_isEnd_10 (by decide) ?_
  refine lv_icmp_ne (tgt := 18) C.1.1 C.1.2.1 d_Mod_isEnd_11 (by decide) (fun c3 => ?_) (fun c3 => ?_)
  · have h := h.2 c3
    refine lv_iconst (v := (0 : Int32)) C.1.1 C.1.2.1 d_Mod_isEnd_18 (by decide) ?_
    exact t_Mod_isEnd_b19 C h _ _ _ hM hS (lv_sub hl [] rfl)
  · have h := h.1 c3
    refine lv_iconst (v := (1 : Int32)) C.1.1 C.1.2.1 d_Mod_isEnd_14 (by decide) ?_
    refine lv_goto (tgt := 19) C.1.1 C.1.2.1 d_Mod_isEnd_15 (by decide) ?_
    exact t_Mod_isEnd_b19 C h _ _ _ hM hS (lv_sub hl [] rfl)
theorem d_Mod_fits_0 : decode b_Mod_fits 0 = .ok (.aload_n 0, 1) := by decide +kernel
theorem d_Mod_fits_1 : decode b_Mod_fits 1 = .ok (.iload_n 1, 1) := by decide +kernel
theorem d_Mod_fits_2 : decode b_Mod_fits 2 = .ok (.invokevirtual 93, 3) := by decide +kernel
theorem d_Mod_fits_5 : decode b_Mod_fits 5 = .ok (.istore 5, 2) := by decide +kernel
theorem d_Mod_fits_7 : decode b_Mod_fits 7 = .ok (.iconst 0, 1) := by decide +kernel
theorem d_Mod_fits_8 : decode b_Mod_fits 8 = .ok (.istore 6, 2) := by decide +kernel
theorem d_Mod_fits_10 : decode b_Mod_fits 10 = .ok (.iload 6, 2) := by decide +kernel
theorem d_Mod_fits_12 : decode b_Mod_fits 12 = .ok (.iload 4, 2) := by decide +kernel
theorem d_Mod_fits_14 : decode b_Mod_fits 14 = .ok (.if_icmp .ge 24, 3) := by decide +kernel
theorem d_Mod_fits_17 : decode b_Mod_fits 17 = .ok (.aload_n 0, 1) := by decide +kernel
theorem d_Mod_fits_18 : decode b_Mod_fits 18 = .ok (.iload_n 1, 1) := by decide +kernel
theorem d_Mod_fits_19 : decode b_Mod_fits 19 = .ok (.iload 5, 2) := by decide +kernel
theorem d_Mod_fits_21 : decode b_Mod_fits 21 = .ok (.aload_n 2, 1) := by decide +kernel
theorem d_Mod_fits_22 : decode b_Mod_fits 22 = .ok (.iload_n 3, 1) := by decide +kernel
theorem d_Mod_fits_23 : decode b_Mod_fits 23 = .ok (.iload 6, 2) := by decide +kernel
theorem d_Mod_fits_25 : decode b_Mod_fits 25 = .ok (.iadd, 1) := by decide +kernel
theorem d_Mod_fits_26 : decode b_Mod_fits 26 = .ok (.laload, 1) := by decide +kernel
theorem d_Mod_fits_27 : decode b_Mod_fits 27 = .ok (.invokevirtual 97, 3) := by decide +kernel
theorem d_Mod_fits_30 : decode b_Mod_fits 30 = .ok (.istore 5, 2) := by decide +kernel
theorem d_Mod_fits_32 : decode b_Mod_fits 32 = .ok (.iinc 6 1, 3) := by decide +kernel
theorem d_Mod_fits_35 : decode b_Mod_fits 35 = .ok (.goto (-25), 3) := by decide +kernel
theorem d_Mod_fits_38 : decode b_Mod_fits 38 = .ok (.aload_n 0, 1) := by decide +kernel
theorem d_Mod_fits_39 : decode b_Mod_fits 39 = .ok (.iload_n 1, 1) := by decide +kernel
theorem d_Mod_fits_40 : decode b_Mod_fits 40 = .ok (.iload 5, 2) := by decide +kernel
theorem d_Mod_fits_42 : decode b_Mod_fits 42 = .ok (.invokevirtual 101, 3) := by decide +kernel
theorem d_Mod_fits_45 : decode b_Mod_fits 45 = .ok (.ireturn, 1) := by decide +kernel
abbrev rm_Mod_fits : Room := { frames := 3, cells := 0, slots := 0, locals := 78 }
abbrev C_Mod_fits (D : va_G) (g : Nat → ClassId) (p : Program) (s : State) (m : MethodId) (args : Array Value) (meth : Method) (c : Code) (M0 : Mem) : Prop := Cx p s m args c b_Mod_fits 7 R_Mod BIG D vwCl (tysG g) (mA M0 s.heap.size) ∧ meth.sig.returnType = (some .boolean) ∧ meth.locks = false
abbrev B_Mod_fits (l : Launch) (D : va_G) (p : Program) (e : Env) (s : State) (m : MethodId) (args : Array Value) (below : List Frame) (meth : Method) (c : Code) (M0 : Mem) (P : Int32 → Prop) (M : Mem) (pc : Nat) (lv : List (Nat × Value)) (st : List Value) : Prop := Wb p l e rm_Mod_fits s m args below meth c 7 D vwCl M0 (kI fun r M' => M0 = M' ∧ P r) 0 0 M pc lv st
def wp_Mod_fits_b10 (g : Nat → ClassId) (P : Int32 → Prop) (M : Mem) (x0 : Nat) (x1 : Int32) (x2 : Nat) (x3 : Int32) (x4 : Int32) (x5 : Int32) (x6 : Int32) : Prop :=
  ∃ (I : Int32 → Int32 → Prop) (μ : Int32 → Int32 → Nat), I x5 x6 ∧ ∀ (x5 : Int32) (x6 : Int32), I x5 x6 →
  (x4 ≤ x6 → (isO M 6 x0 ∧ (wp_Mod_isEnd g M x0 x1 x5 (fun v2 : Int32 => isB v2 ∧ P v2)))) ∧ (¬ x4 ≤ x6 → (∃ v4 : Int64, aL M (g 1) x2 (x3 + x6) = some v4 ∧ (isO M 6 x0 ∧ (wp_Mod_moved g M x0 x1 x5 v4 (fun v5 : Int32 => (I v5 (x6 + (1 : Int32)) ∧ μ v5 (x6 + (1 : Int32)) < μ x5 x6))))))
set_option maxHeartbeats 4000000 in
set_option maxRecDepth 100000 in
theorem t_Mod_fits_b10 {l : Launch} {D : va_G} {g : Nat → ClassId} {p : Program} {e : Env} {s : State} {m : MethodId} {args : Array Value} {below : List Frame} {meth : Method} {c : Code} {P : Int32 → Prop} {M : Mem} {x0 : Nat} {x1 : Int32} {x2 : Nat} {x3 : Int32} {x4 : Int32} {x5 : Int32} {x6 : Int32} (C : C_Mod_fits D g p s m args meth c M) (h : wp_Mod_fits_b10 g P M x0 x1 x2 x3 x4 x5 x6 ) : B_Mod_fits l D p e s m args below meth c M P M 10 [(0, .ref x0), (1, .int x1), (2, .ref x2), (3, .int x3), (4, .int x4), (5, .int x5), (6, .int x6)] [] := by
  unfold wp_Mod_fits_b10 at h
  obtain ⟨I, μ, hI, hb⟩ := h
  have key : ∀ (n : Nat) (x5 : Int32) (x6 : Int32), I x5 x6 → μ x5 x6 < n → B_Mod_fits l D p e s m args below meth c M P M 10 [(0, .ref x0), (1, .int x1), (2, .ref x2), (3, .int x3), (4, .int x4), (5, .int x5), (6, .int x6)] [] := by
    intro n
    induction n with
    | zero => intro x5 x6 _ hn; exact absurd hn (Nat.not_lt_zero _)
    | succ n ih =>
      intro x5 x6 hI hn ls H locs hM hS hl
      have h := hb x5 x6 hI
      refine lv_iload C.1.1 C.1.2.1 d_Mod_fits_10 (lv_at hl 6 rfl) ?_
      refine lv_iload C.1.1 C.1.2.1 d_Mod_fits_12 (lv_at hl 4 rfl) ?_
      refine lv_icmp_ge (tgt := 38) C.1.1 C.1.2.1 d_Mod_fits_14 (by decide) (fun c1 => ?_) (fun c1 => ?_)
      · have h := h.1 c1
        refine lv_aload_n C.1.1 C.1.2.1 d_Mod_fits_38 rfl (lv_at hl 0 rfl) ?_
        refine lv_iload_n C.1.1 C.1.2.1 d_Mod_fits_39 rfl (lv_at hl 1 rfl) ?_
        refine lv_iload C.1.1 C.1.2.1 d_Mod_fits_40 (lv_at hl 5 rfl) ?_
        obtain ⟨ho, h⟩ := h
        refine mc_V (As := [.int x1, .int x5]) (ci := 6) C.1 hM hS bigGood (c_Mod_isEnd h) rfl ho kw40 kw42 kw43 kw29 kw41 hd_Mod_isEnd ⟨by decide, by decide⟩ hl.1 rfl (Nat.le_of_ble_eq_true rfl) d_Mod_fits_42 (mc := 0) (ms := 0) rfl rfl ⟨by decide, by decide⟩ (fun v M' H locs hp hM hS => ?_)
        obtain ⟨v2, rfl, rfl, h⟩ := hp
        exact mr_Z C.1 C.2.1 C.2.2 h.1 hM hS ⟨_, rfl, rfl, h.2⟩ d_Mod_fits_45
      · have h := h.2 c1
        refine lv_aload_n C.1.1 C.1.2.1 d_Mod_fits_17 rfl (lv_at hl 0 rfl) ?_
        refine lv_iload_n C.1.1 C.1.2.1 d_Mod_fits_18 rfl (lv_at hl 1 rfl) ?_
        refine lv_iload C.1.1 C.1.2.1 d_Mod_fits_19 (lv_at hl 5 rfl) ?_
        refine lv_aload_n C.1.1 C.1.2.1 d_Mod_fits_21 rfl (lv_at hl 2 rfl) ?_
        refine lv_iload_n C.1.1 C.1.2.1 d_Mod_fits_22 rfl (lv_at hl 3 rfl) ?_
        refine lv_iload C.1.1 C.1.2.1 d_Mod_fits_23 (lv_at hl 6 rfl) ?_
        refine lv_iadd C.1.1 C.1.2.1 d_Mod_fits_25 ?_
        obtain ⟨v4, ev4, h⟩ := h
        refine ma_L C.1 hM 1 rfl ev4 d_Mod_fits_26 ?_
        obtain ⟨ho, h⟩ := h
        refine mc_V (As := [.int x1, .int x5, .long v4]) (ci := 6) C.1 hM hS bigGood (c_Mod_moved h) rfl ho kw44 kw46 kw47 kw29 kw45 hd_Mod_moved ⟨by decide, by decide⟩ hl.1 rfl (Nat.le_of_ble_eq_true rfl) d_Mod_fits_27 (mc := 0) (ms := 0) rfl rfl ⟨by decide, by decide⟩ (fun v M' H locs hp hM hS => ?_)
        obtain ⟨v5, rfl, rfl, h⟩ := hp
        refine lv_istore (lv' := [(5, .int v5), (0, .ref x0), (1, .int x1), (2, .ref x2), (3, .int x3), (4, .int x4), (6, .int x6)]) C.1.1 C.1.2.1 d_Mod_fits_30 hl (by decide) rfl (fun ls hl => ?_)
        refine lv_iinc (v := x6 + (1 : Int32)) (lv' := [(6, .int (x6 + (1 : Int32))), (5, .int v5), (0, .ref x0), (1, .int x1), (2, .ref x2), (3, .int x3), (4, .int x4)]) C.1.1 C.1.2.1 d_Mod_fits_32 hl (k := 6) rfl rfl (by decide) rfl (fun ls hl => ?_)
        refine lv_goto (tgt := 10) C.1.1 C.1.2.1 d_Mod_fits_35 (by decide) ?_
        exact ih v5 (x6 + (1 : Int32)) h.1 (Nat.lt_of_lt_of_le h.2 (Nat.le_of_lt_succ hn)) _ _ _ hM hS (lv_sub hl [2, 3, 4, 5, 6, 1, 0] rfl)
  exact key _ x5 x6 hI (Nat.lt_succ_self _)
def wp_Mod_fits (g : Nat → ClassId) (M : Mem) (x0 : Nat) (x1 : Int32) (x2 : Nat) (x3 : Int32) (x4 : Int32) (P : Int32 → Prop) : Prop :=
  isO M 6 x0 ∧ (wp_Mod_first g M x0 x1 (fun v1 : Int32 => wp_Mod_fits_b10 g P M x0 x1 x2 x3 x4 v1 (0 : Int32)))
set_option maxHeartbeats 4000000 in
set_option maxRecDepth 100000 in
theorem c_Mod_fits {l : Launch} {D : va_G} {g : Nat → ClassId} {M : Mem} {x0 : Nat} {x1 : Int32} {x2 : Nat} {x3 : Int32} {x4 : Int32} {P : Int32 → Prop} (h : wp_Mod_fits g M x0 x1 x2 x3 x4 P) : mMet l BIG D vwCl (tysG g) y_Mod_fits b_Mod_fits 7 (some .boolean) rm_Mod_fits [.ref x0, .int x1, .ref x2, .int x3, .int x4] M (kI fun r M' => M = M' ∧ P r) := by
  refine mMet.of (own := R_Mod) rfl (by decide) rfl (fun p e s m below meth c C hr hlk hnm ls hM hS hl => ?_)
  have C : C_Mod_fits D g p s m ([.ref x0, .int x1, .ref x2, .int x3, .int x4] : List Value).toArray meth c M := ⟨C, hr, hlk⟩
  unfold wp_Mod_fits at h
  have hl : lv_has ls 7 [(0, .ref x0), (1, .int x1), (2, .ref x2), (3, .int x3), (4, .int x4)] := hl
  refine lv_aload_n C.1.1 C.1.2.1 d_Mod_fits_0 rfl (lv_at hl 0 rfl) ?_
  refine lv_iload_n C.1.1 C.1.2.1 d_Mod_fits_1 rfl (lv_at hl 1 rfl) ?_
  obtain ⟨ho, h⟩ := h
  refine mc_V (As := [.int x1]) (ci := 6) C.1 hM hS bigGood (c_Mod_first h) rfl ho kw48 kw50 kw51 kw29 kw49 hd_Mod_first ⟨by decide, by decide⟩ hl.1 rfl (Nat.le_of_ble_eq_true rfl) d_Mod_fits_2 (mc := 0) (ms := 0) rfl rfl ⟨by decide, by decide⟩ (fun v M' H locs hp hM hS => ?_)
  obtain ⟨v1, rfl, rfl, h⟩ := hp
  refine lv_istore (lv' := [(5, .int v1), (0, .ref x0), (1, .int x1), (2, .ref x2), (3, .int x3), (4, .int x4)]) C.1.1 C.1.2.1 d_Mod_fits_5 hl (by decide) rfl (fun ls hl => ?_)
  refine lv_iconst (v := (0 : Int32)) C.1.1 C.1.2.1 d_Mod_fits_7 (by decide) ?_
  refine lv_istore (lv' := [(6, .int (0 : Int32)), (5, .int v1), (0, .ref x0), (1, .int x1), (2, .ref x2), (3, .int x3), (4, .int x4)]) C.1.1 C.1.2.1 d_Mod_fits_8 hl (by decide) rfl (fun ls hl => ?_)
  exact t_Mod_fits_b10 C h _ _ _ hM hS (lv_sub hl [2, 3, 4, 5, 6, 1, 0] rfl)
theorem d_Mod_isBinding_0 : decode b_Mod_isBinding 0 = .ok (.iload_n 0, 1) := by decide +kernel
theorem d_Mod_isBinding_1 : decode b_Mod_isBinding 1 = .ok (.ifCond .lt 13, 3) := by decide +kernel
theorem d_Mod_isBinding_4 : decode b_Mod_isBinding 4 = .ok (.iload_n 0, 1) := by decide +kernel
theorem d_Mod_isBinding_5 : decode b_Mod_isBinding 5 = .ok (.bipush 24, 2) := by decide +kernel
theorem d_Mod_isBinding_7 : decode b_Mod_isBinding 7 = .ok (.if_icmp .ge 7, 3) := by decide +kernel
theorem d_Mod_isBinding_10 : decode b_Mod_isBinding 10 = .ok (.iconst 1, 1) := by decide +kernel
theorem d_Mod_isBinding_11 : decode b_Mod_isBinding 11 = .ok (.goto 4, 3) := by decide +kernel
theorem d_Mod_isBinding_14 : decode b_Mod_isBinding 14 = .ok (.iconst 0, 1) := by decide +kernel
theorem d_Mod_isBinding_15 : decode b_Mod_isBinding 15 = .ok (.ireturn, 1) := by decide +kernel
abbrev rm_Mod_isBinding : Room := { frames := 0, cells := 0, slots := 0, locals := 0 }
abbrev C_Mod_isBinding (D : va_G) (g : Nat → ClassId) (p : Program) (s : State) (m : MethodId) (args : Array Value) (meth : Method) (c : Code) (M0 : Mem) : Prop := Cx p s m args c b_Mod_isBinding 1 R_Mod BIG D vwCl (tysG g) (mA M0 s.heap.size) ∧ meth.sig.returnType = (some .boolean) ∧ meth.locks = false
abbrev B_Mod_isBinding (l : Launch) (D : va_G) (p : Program) (e : Env) (s : State) (m : MethodId) (args : Array Value) (below : List Frame) (meth : Method) (c : Code) (M0 : Mem) (P : Int32 → Prop) (M : Mem) (pc : Nat) (lv : List (Nat × Value)) (st : List Value) : Prop := Wb p l e rm_Mod_isBinding s m args below meth c 1 D vwCl M0 (kI fun r M' => M0 = M' ∧ P r) 0 0 M pc lv st
def wp_Mod_isBinding_b15 (g : Nat → ClassId) (P : Int32 → Prop) (M : Mem) (t0 : Int32) : Prop :=
  isB t0 ∧ P t0
set_option maxHeartbeats 4000000 in
set_option maxRecDepth 100000 in
theorem t_Mod_isBinding_b15 {l : Launch} {D : va_G} {g : Nat → ClassId} {p : Program} {e : Env} {s : State} {m : MethodId} {args : Array Value} {below : List Frame} {meth : Method} {c : Code} {P : Int32 → Prop} {M : Mem} {t0 : Int32} (C : C_Mod_isBinding D g p s m args meth c M) (h : wp_Mod_isBinding_b15 g P M t0) : B_Mod_isBinding l D p e s m args below meth c M P M 15 [] [.int t0] := by
  intro ls H locs hM hS hl
  unfold wp_Mod_isBinding_b15 at h
  exact mr_Z C.1 C.2.1 C.2.2 h.1 hM hS ⟨_, rfl, rfl, h.2⟩ d_Mod_isBinding_15
def wp_Mod_isBinding_b14 (g : Nat → ClassId) (P : Int32 → Prop) (M : Mem) : Prop :=
  wp_Mod_isBinding_b15 g P M (0 : Int32)
set_option maxHeartbeats 4000000 in
set_option maxRecDepth 100000 in
theorem t_Mod_isBinding_b14 {l : Launch} {D : va_G} {g : Nat → ClassId} {p : Program} {e : Env} {s : State} {m : MethodId} {args : Array Value} {below : List Frame} {meth : Method} {c : Code} {P : Int32 → Prop} {M : Mem} (C : C_Mod_isBinding D g p s m args meth c M) (h : wp_Mod_isBinding_b14 g P M ) : B_Mod_isBinding l D p e s m args below meth c M P M 14 [] [] := by
  intro ls H locs hM hS hl
  unfold wp_Mod_isBinding_b14 at h
  refine lv_iconst (v := (0 : Int32)) C.1.1 C.1.2.1 d_Mod_isBinding_14 (by decide) ?_
  exact t_Mod_isBinding_b15 C h _ _ _ hM hS (lv_sub hl [] rfl)
def wp_Mod_isBinding (g : Nat → ClassId) (M : Mem) (x0 : Int32) (P : Int32 → Prop) : Prop :=
  (x0 < 0 → (wp_Mod_isBinding_b14 g P M)) ∧ (¬ x0 < 0 → (((24 : Int32) ≤ x0 → (wp_Mod_isBinding_b14 g P M)) ∧ (¬ (24 : Int32) ≤ x0 → (wp_Mod_isBinding_b15 g P M (1 : Int32)))))
set_option maxHeartbeats 4000000 in
set_option maxRecDepth 100000 in
theorem c_Mod_isBinding {l : Launch} {D : va_G} {g : Nat → ClassId} {M : Mem} {x0 : Int32} {P : Int32 → Prop} (h : wp_Mod_isBinding g M x0 P) : mMet l BIG D vwCl (tysG g) y_Mod_isBinding b_Mod_isBinding 1 (some .boolean) rm_Mod_isBinding [.int x0] M (kI fun r M' => M = M' ∧ P r) := by
  refine mMet.of (own := R_Mod) rfl (by decide) rfl (fun p e s m below meth c C hr hlk hnm ls hM hS hl => ?_)
  have C : C_Mod_isBinding D g p s m ([.int x0] : List Value).toArray meth c M := ⟨C, hr, hlk⟩
  unfold wp_Mod_isBinding at h
  have hl : lv_has ls 1 [(0, .int x0)] := hl
  refine lv_iload_n C.1.1 C.1.2.1 d_Mod_isBinding_0 rfl (lv_at hl 0 rfl) ?_
  refine lv_if_lt (tgt := 14) C.1.1 C.1.2.1 d_Mod_isBinding_1 (by decide) (fun c1 => ?_) (fun c1 => ?_)
  · have h := h.1 c1
    exact t_Mod_isBinding_b14 C h _ _ _ hM hS (lv_sub hl [] rfl)
  · have h := h.2 c1
    refine lv_iload_n C.1.1 C.1.2.1 d_Mod_isBinding_4 rfl (lv_at hl 0 rfl) ?_
    refine lv_bipush (v := (24 : Int32)) C.1.1 C.1.2.1 d_Mod_isBinding_5 (by decide) ?_
    refine lv_icmp_ge (tgt := 14) C.1.1 C.1.2.1 d_Mod_isBinding_7 (by decide) (fun c2 => ?_) (fun c2 => ?_)
    · have h := h.1 c2
      exact t_Mod_isBinding_b14 C h _ _ _ hM hS (lv_sub hl [] rfl)
    · have h := h.2 c2
      refine lv_iconst (v := (1 : Int32)) C.1.1 C.1.2.1 d_Mod_isBinding_10 (by decide) ?_
      refine lv_goto (tgt := 15) C.1.1 C.1.2.1 d_Mod_isBinding_11 (by decide) ?_
      exact t_Mod_isBinding_b15 C h _ _ _ hM hS (lv_sub hl [] rfl)
theorem d_Mod_isBound_0 : decode b_Mod_isBound 0 = .ok (.iload_n 1, 1) := by decide +kernel
theorem d_Mod_isBound_1 : decode b_Mod_isBound 1 = .ok (.invokestatic 105, 3) := by decide +kernel
theorem d_Mod_isBound_4 : decode b_Mod_isBound 4 = .ok (.ifCond .eq 17, 3) := by decide +kernel
theorem d_Mod_isBound_7 : decode b_Mod_isBound 7 = .ok (.aload_n 0, 1) := by decide +kernel
theorem d_Mod_isBound_8 : decode b_Mod_isBound 8 = .ok (.getfield 24, 3) := by decide +kernel
theorem d_Mod_isBound_11 : decode b_Mod_isBound 11 = .ok (.iload_n 1, 1) := by decide +kernel
theorem d_Mod_isBound_12 : decode b_Mod_isBound 12 = .ok (.iaload, 1) := by decide +kernel
theorem d_Mod_isBound_13 : decode b_Mod_isBound 13 = .ok (.iconst (-1), 1) := by decide +kernel
theorem d_Mod_isBound_14 : decode b_Mod_isBound 14 = .ok (.if_icmp .eq 7, 3) := by decide +kernel
theorem d_Mod_isBound_17 : decode b_Mod_isBound 17 = .ok (.iconst 1, 1) := by decide +kernel
theorem d_Mod_isBound_18 : decode b_Mod_isBound 18 = .ok (.goto 4, 3) := by decide +kernel
theorem d_Mod_isBound_21 : decode b_Mod_isBound 21 = .ok (.iconst 0, 1) := by decide +kernel
theorem d_Mod_isBound_22 : decode b_Mod_isBound 22 = .ok (.ireturn, 1) := by decide +kernel
abbrev rm_Mod_isBound : Room := { frames := 1, cells := 0, slots := 0, locals := 20 }
abbrev C_Mod_isBound (D : va_G) (g : Nat → ClassId) (p : Program) (s : State) (m : MethodId) (args : Array Value) (meth : Method) (c : Code) (M0 : Mem) : Prop := Cx p s m args c b_Mod_isBound 2 R_Mod BIG D vwCl (tysG g) (mA M0 s.heap.size) ∧ meth.sig.returnType = (some .boolean) ∧ meth.locks = false
abbrev B_Mod_isBound (l : Launch) (D : va_G) (p : Program) (e : Env) (s : State) (m : MethodId) (args : Array Value) (below : List Frame) (meth : Method) (c : Code) (M0 : Mem) (P : Int32 → Prop) (M : Mem) (pc : Nat) (lv : List (Nat × Value)) (st : List Value) : Prop := Wb p l e rm_Mod_isBound s m args below meth c 2 D vwCl M0 (kI fun r M' => M0 = M' ∧ P r) 0 0 M pc lv st
def wp_Mod_isBound_b22 (g : Nat → ClassId) (P : Int32 → Prop) (M : Mem) (t0 : Int32) : Prop :=
  isB t0 ∧ P t0
set_option maxHeartbeats 4000000 in
set_option maxRecDepth 100000 in
theorem t_Mod_isBound_b22 {l : Launch} {D : va_G} {g : Nat → ClassId} {p : Program} {e : Env} {s : State} {m : MethodId} {args : Array Value} {below : List Frame} {meth : Method} {c : Code} {P : Int32 → Prop} {M : Mem} {t0 : Int32} (C : C_Mod_isBound D g p s m args meth c M) (h : wp_Mod_isBound_b22 g P M t0) : B_Mod_isBound l D p e s m args below meth c M P M 22 [] [.int t0] := by
  intro ls H locs hM hS hl
  unfold wp_Mod_isBound_b22 at h
  exact mr_Z C.1 C.2.1 C.2.2 h.1 hM hS ⟨_, rfl, rfl, h.2⟩ d_Mod_isBound_22
def wp_Mod_isBound_b21 (g : Nat → ClassId) (P : Int32 → Prop) (M : Mem) : Prop :=
  wp_Mod_isBound_b22 g P M (0 : Int32)
set_option maxHeartbeats 4000000 in
set_option maxRecDepth 100000 in
theorem t_Mod_isBound_b21 {l : Launch} {D : va_G} {g : Nat → ClassId} {p : Program} {e : Env} {s : State} {m : MethodId} {args : Array Value} {below : List Frame} {meth : Method} {c : Code} {P : Int32 → Prop} {M : Mem} (C : C_Mod_isBound D g p s m args meth c M) (h : wp_Mod_isBound_b21 g P M ) : B_Mod_isBound l D p e s m args below meth c M P M 21 [] [] := by
  intro ls H locs hM hS hl
  unfold wp_Mod_isBound_b21 at h
  refine lv_iconst (v := (0 : Int32)) C.1.1 C.1.2.1 d_Mod_isBound_21 (by decide) ?_
  exact t_Mod_isBound_b22 C h _ _ _ hM hS (lv_sub hl [] rfl)
def wp_Mod_isBound (g : Nat → ClassId) (M : Mem) (x0 : Nat) (x1 : Int32) (P : Int32 → Prop) : Prop :=
  wp_Mod_isBinding g M x1 (fun v1 : Int32 => (v1 = 0 → (wp_Mod_isBound_b21 g P M)) ∧ (¬ v1 = 0 → (∃ v4 : Nat, gR M 6 x0 8 = some v4 ∧ (∃ v5 : Int32, aI M (g 2) v4 x1 = some v5 ∧ ((v5 = (-1 : Int32) → (wp_Mod_isBound_b21 g P M)) ∧ (¬ v5 = (-1 : Int32) → (wp_Mod_isBound_b22 g P M (1 : Int32))))))))
set_option maxHeartbeats 4000000 in
set_option maxRecDepth 100000 in
theorem c_Mod_isBound {l : Launch} {D : va_G} {g : Nat → ClassId} {M : Mem} {x0 : Nat} {x1 : Int32} {P : Int32 → Prop} (h : wp_Mod_isBound g M x0 x1 P) : mMet l BIG D vwCl (tysG g) y_Mod_isBound b_Mod_isBound 2 (some .boolean) rm_Mod_isBound [.ref x0, .int x1] M (kI fun r M' => M = M' ∧ P r) := by
  refine mMet.of (own := R_Mod) rfl (by decide) rfl (fun p e s m below meth c C hr hlk hnm ls hM hS hl => ?_)
  have C : C_Mod_isBound D g p s m ([.ref x0, .int x1] : List Value).toArray meth c M := ⟨C, hr, hlk⟩
  unfold wp_Mod_isBound at h
  have hl : lv_has ls 2 [(0, .ref x0), (1, .int x1)] := hl
  refine lv_iload_n C.1.1 C.1.2.1 d_Mod_isBound_0 rfl (lv_at hl 1 rfl) ?_
  refine mc_S (As := [.int x1]) C.1 hM hS bigGood (c_Mod_isBinding h) kw52 kw54 kw29 kw53 hd_Mod_isBinding ⟨by decide, by decide⟩ hl.1 rfl (Nat.le_of_ble_eq_true rfl) d_Mod_isBound_1 (mc := 0) (ms := 0) rfl rfl ⟨by decide, by decide⟩ (fun v M' H locs hp hM hS => ?_)
  obtain ⟨v1, rfl, rfl, h⟩ := hp
  refine lv_if_eq (tgt := 21) C.1.1 C.1.2.1 d_Mod_isBound_4 (by decide) (fun c3 => ?_) (fun c3 => ?_)
  · have h := h.1 c3
    exact t_Mod_isBound_b21 C h _ _ _ hM hS (lv_sub hl [] rfl)
  · have h := h.2 c3
    refine lv_aload_n C.1.1 C.1.2.1 d_Mod_isBound_7 rfl (lv_at hl 0 rfl) ?_
    obtain ⟨v4, ev4, h⟩ := h
    refine mg_R C.1 hM ok_Mod (by decide) kw1 ev4 d_Mod_isBound_8 ?_
    refine lv_iload_n C.1.1 C.1.2.1 d_Mod_isBound_11 rfl (lv_at hl 1 rfl) ?_
    obtain ⟨v5, ev5, h⟩ := h
    refine ma_I C.1 hM 2 rfl ev5 d_Mod_isBound_12 ?_
    refine lv_iconst (v := (-1 : Int32)) C.1.1 C.1.2.1 d_Mod_isBound_13 (by decide) ?_
    refine lv_icmp_eq (tgt := 21) C.1.1 C.1.2.1 d_Mod_isBound_14 (by decide) (fun c6 => ?_) (fun c6 => ?_)
    · have h := h.1 c6
      exact t_Mod_isBound_b21 C h _ _ _ hM hS (lv_sub hl [] rfl)
    · have h := h.2 c6
      refine lv_iconst (v := (1 : Int32)) C.1.1 C.1.2.1 d_Mod_isBound_17 (by decide) ?_
      refine lv_goto (tgt := 22) C.1.1 C.1.2.1 d_Mod_isBound_18 (by decide) ?_
      exact t_Mod_isBound_b22 C h _ _ _ hM hS (lv_sub hl [] rfl)
theorem d_Mod_bind_0 : decode b_Mod_bind 0 = .ok (.aload_n 0, 1) := by decide +kernel
theorem d_Mod_bind_1 : decode b_Mod_bind 1 = .ok (.iconst 1, 1) := by decide +kernel
theorem d_Mod_bind_2 : decode b_Mod_bind 2 = .ok (.invokevirtual 108, 3) := by decide +kernel
theorem d_Mod_bind_5 : decode b_Mod_bind 5 = .ok (.istore_n 2, 1) := by decide +kernel
theorem d_Mod_bind_6 : decode b_Mod_bind 6 = .ok (.iload_n 2, 1) := by decide +kernel
theorem d_Mod_bind_7 : decode b_Mod_bind 7 = .ok (.ifCond .eq 13, 3) := by decide +kernel
theorem d_Mod_bind_10 : decode b_Mod_bind 10 = .ok (.iload_n 1, 1) := by decide +kernel
theorem d_Mod_bind_11 : decode b_Mod_bind 11 = .ok (.ifCond .lt 9, 3) := by decide +kernel
theorem d_Mod_bind_14 : decode b_Mod_bind 14 = .ok (.iload_n 1, 1) := by decide +kernel
theorem d_Mod_bind_15 : decode b_Mod_bind 15 = .ok (.bipush 16, 2) := by decide +kernel
theorem d_Mod_bind_17 : decode b_Mod_bind 17 = .ok (.if_icmp .lt 9, 3) := by decide +kernel
theorem d_Mod_bind_20 : decode b_Mod_bind 20 = .ok (.aload_n 0, 1) := by decide +kernel
theorem d_Mod_bind_21 : decode b_Mod_bind 21 = .ok (.iconst 1, 1) := by decide +kernel
theorem d_Mod_bind_22 : decode b_Mod_bind 22 = .ok (.invokevirtual 112, 3) := by decide +kernel
theorem d_Mod_bind_25 : decode b_Mod_bind 25 = .ok (.ireturn, 1) := by decide +kernel
theorem d_Mod_bind_26 : decode b_Mod_bind 26 = .ok (.iconst 0, 1) := by decide +kernel
theorem d_Mod_bind_27 : decode b_Mod_bind 27 = .ok (.istore_n 3, 1) := by decide +kernel
theorem d_Mod_bind_28 : decode b_Mod_bind 28 = .ok (.iload_n 3, 1) := by decide +kernel
theorem d_Mod_bind_29 : decode b_Mod_bind 29 = .ok (.bipush 24, 2) := by decide +kernel
theorem d_Mod_bind_31 : decode b_Mod_bind 31 = .ok (.if_icmp .ge 19, 3) := by decide +kernel
theorem d_Mod_bind_34 : decode b_Mod_bind 34 = .ok (.aload_n 0, 1) := by decide +kernel
theorem d_Mod_bind_35 : decode b_Mod_bind 35 = .ok (.getfield 24, 3) := by decide +kernel
theorem d_Mod_bind_38 : decode b_Mod_bind 38 = .ok (.iload_n 3, 1) := by decide +kernel
theorem d_Mod_bind_39 : decode b_Mod_bind 39 = .ok (.iaload, 1) := by decide +kernel
theorem d_Mod_bind_40 : decode b_Mod_bind 40 = .ok (.iconst (-1), 1) := by decide +kernel
theorem d_Mod_bind_41 : decode b_Mod_bind 41 = .ok (.if_icmp .eq 9, 3) := by decide +kernel
theorem d_Mod_bind_44 : decode b_Mod_bind 44 = .ok (.iinc 3 1, 3) := by decide +kernel
theorem d_Mod_bind_47 : decode b_Mod_bind 47 = .ok (.goto (-19), 3) := by decide +kernel
theorem d_Mod_bind_50 : decode b_Mod_bind 50 = .ok (.iload_n 3, 1) := by decide +kernel
theorem d_Mod_bind_51 : decode b_Mod_bind 51 = .ok (.bipush 24, 2) := by decide +kernel
theorem d_Mod_bind_53 : decode b_Mod_bind 53 = .ok (.if_icmp .ne 9, 3) := by decide +kernel
theorem d_Mod_bind_56 : decode b_Mod_bind 56 = .ok (.aload_n 0, 1) := by decide +kernel
theorem d_Mod_bind_57 : decode b_Mod_bind 57 = .ok (.iconst 2, 1) := by decide +kernel
theorem d_Mod_bind_58 : decode b_Mod_bind 58 = .ok (.invokevirtual 112, 3) := by decide +kernel
theorem d_Mod_bind_61 : decode b_Mod_bind 61 = .ok (.ireturn, 1) := by decide +kernel
theorem d_Mod_bind_62 : decode b_Mod_bind 62 = .ok (.aload_n 0, 1) := by decide +kernel
theorem d_Mod_bind_63 : decode b_Mod_bind 63 = .ok (.iconst 0, 1) := by decide +kernel
theorem d_Mod_bind_64 : decode b_Mod_bind 64 = .ok (.putfield 63, 3) := by decide +kernel
theorem d_Mod_bind_67 : decode b_Mod_bind 67 = .ok (.aload_n 0, 1) := by decide +kernel
theorem d_Mod_bind_68 : decode b_Mod_bind 68 = .ok (.getfield 24, 3) := by decide +kernel
theorem d_Mod_bind_71 : decode b_Mod_bind 71 = .ok (.iload_n 3, 1) := by decide +kernel
theorem d_Mod_bind_72 : decode b_Mod_bind 72 = .ok (.iload_n 1, 1) := by decide +kernel
theorem d_Mod_bind_73 : decode b_Mod_bind 73 = .ok (.iastore, 1) := by decide +kernel
theorem d_Mod_bind_74 : decode b_Mod_bind 74 = .ok (.aload_n 0, 1) := by decide +kernel
theorem d_Mod_bind_75 : decode b_Mod_bind 75 = .ok (.getfield 27, 3) := by decide +kernel
theorem d_Mod_bind_78 : decode b_Mod_bind 78 = .ok (.iload_n 3, 1) := by decide +kernel
theorem d_Mod_bind_79 : decode b_Mod_bind 79 = .ok (.iconst 0, 1) := by decide +kernel
theorem d_Mod_bind_80 : decode b_Mod_bind 80 = .ok (.iastore, 1) := by decide +kernel
theorem d_Mod_bind_81 : decode b_Mod_bind 81 = .ok (.aload_n 0, 1) := by decide +kernel
theorem d_Mod_bind_82 : decode b_Mod_bind 82 = .ok (.getfield 33, 3) := by decide +kernel
theorem d_Mod_bind_85 : decode b_Mod_bind 85 = .ok (.iload_n 3, 1) := by decide +kernel
theorem d_Mod_bind_86 : decode b_Mod_bind 86 = .ok (.aload_n 0, 1) := by decide +kernel
theorem d_Mod_bind_87 : decode b_Mod_bind 87 = .ok (.getfield 71, 3) := by decide +kernel
theorem d_Mod_bind_90 : decode b_Mod_bind 90 = .ok (.iastore, 1) := by decide +kernel
theorem d_Mod_bind_91 : decode b_Mod_bind 91 = .ok (.aload_n 0, 1) := by decide +kernel
theorem d_Mod_bind_92 : decode b_Mod_bind 92 = .ok (.getfield 39, 3) := by decide +kernel
theorem d_Mod_bind_95 : decode b_Mod_bind 95 = .ok (.iload_n 3, 1) := by decide +kernel
theorem d_Mod_bind_96 : decode b_Mod_bind 96 = .ok (.aload_n 0, 1) := by decide +kernel
theorem d_Mod_bind_97 : decode b_Mod_bind 97 = .ok (.getfield 82, 3) := by decide +kernel
theorem d_Mod_bind_100 : decode b_Mod_bind 100 = .ok (.iastore, 1) := by decide +kernel
theorem d_Mod_bind_101 : decode b_Mod_bind 101 = .ok (.iconst 0, 1) := by decide +kernel
theorem d_Mod_bind_102 : decode b_Mod_bind 102 = .ok (.istore 4, 2) := by decide +kernel
theorem d_Mod_bind_104 : decode b_Mod_bind 104 = .ok (.iload 4, 2) := by decide +kernel
theorem d_Mod_bind_106 : decode b_Mod_bind 106 = .ok (.aload_n 0, 1) := by decide +kernel
theorem d_Mod_bind_107 : decode b_Mod_bind 107 = .ok (.getfield 71, 3) := by decide +kernel
theorem d_Mod_bind_110 : decode b_Mod_bind 110 = .ok (.if_icmp .ge 28, 3) := by decide +kernel
theorem d_Mod_bind_113 : decode b_Mod_bind 113 = .ok (.aload_n 0, 1) := by decide +kernel
theorem d_Mod_bind_114 : decode b_Mod_bind 114 = .ok (.getfield 30, 3) := by decide +kernel
theorem d_Mod_bind_117 : decode b_Mod_bind 117 = .ok (.bipush 6, 2) := by decide +kernel
theorem d_Mod_bind_119 : decode b_Mod_bind 119 = .ok (.iload_n 3, 1) := by decide +kernel
theorem d_Mod_bind_120 : decode b_Mod_bind 120 = .ok (.imul, 1) := by decide +kernel
theorem d_Mod_bind_121 : decode b_Mod_bind 121 = .ok (.iload 4, 2) := by decide +kernel
theorem d_Mod_bind_123 : decode b_Mod_bind 123 = .ok (.iadd, 1) := by decide +kernel
theorem d_Mod_bind_124 : decode b_Mod_bind 124 = .ok (.aload_n 0, 1) := by decide +kernel
theorem d_Mod_bind_125 : decode b_Mod_bind 125 = .ok (.getfield 17, 3) := by decide +kernel
theorem d_Mod_bind_128 : decode b_Mod_bind 128 = .ok (.iload 4, 2) := by decide +kernel
theorem d_Mod_bind_130 : decode b_Mod_bind 130 = .ok (.laload, 1) := by decide +kernel
theorem d_Mod_bind_131 : decode b_Mod_bind 131 = .ok (.lastore, 1) := by decide +kernel
theorem d_Mod_bind_132 : decode b_Mod_bind 132 = .ok (.iinc 4 1, 3) := by decide +kernel
theorem d_Mod_bind_135 : decode b_Mod_bind 135 = .ok (.goto (-31), 3) := by decide +kernel
theorem d_Mod_bind_138 : decode b_Mod_bind 138 = .ok (.iconst 0, 1) := by decide +kernel
theorem d_Mod_bind_139 : decode b_Mod_bind 139 = .ok (.istore 4, 2) := by decide +kernel
theorem d_Mod_bind_141 : decode b_Mod_bind 141 = .ok (.iload 4, 2) := by decide +kernel
theorem d_Mod_bind_143 : decode b_Mod_bind 143 = .ok (.aload_n 0, 1) := by decide +kernel
theorem d_Mod_bind_144 : decode b_Mod_bind 144 = .ok (.getfield 82, 3) := by decide +kernel
theorem d_Mod_bind_147 : decode b_Mod_bind 147 = .ok (.if_icmp .ge 28, 3) := by decide +kernel
theorem d_Mod_bind_150 : decode b_Mod_bind 150 = .ok (.aload_n 0, 1) := by decide +kernel
theorem d_Mod_bind_151 : decode b_Mod_bind 151 = .ok (.getfield 36, 3) := by decide +kernel
theorem d_Mod_bind_154 : decode b_Mod_bind 154 = .ok (.bipush 41, 2) := by decide +kernel
theorem d_Mod_bind_156 : decode b_Mod_bind 156 = .ok (.iload_n 3, 1) := by decide +kernel
theorem d_Mod_bind_157 : decode b_Mod_bind 157 = .ok (.imul, 1) := by decide +kernel
theorem d_Mod_bind_158 : decode b_Mod_bind 158 = .ok (.iload 4, 2) := by decide +kernel
theorem d_Mod_bind_160 : decode b_Mod_bind 160 = .ok (.iadd, 1) := by decide +kernel
theorem d_Mod_bind_161 : decode b_Mod_bind 161 = .ok (.aload_n 0, 1) := by decide +kernel
theorem d_Mod_bind_162 : decode b_Mod_bind 162 = .ok (.getfield 21, 3) := by decide +kernel
theorem d_Mod_bind_165 : decode b_Mod_bind 165 = .ok (.iload 4, 2) := by decide +kernel
theorem d_Mod_bind_167 : decode b_Mod_bind 167 = .ok (.iaload, 1) := by decide +kernel
theorem d_Mod_bind_168 : decode b_Mod_bind 168 = .ok (.iastore, 1) := by decide +kernel
theorem d_Mod_bind_169 : decode b_Mod_bind 169 = .ok (.iinc 4 1, 3) := by decide +kernel
theorem d_Mod_bind_172 : decode b_Mod_bind 172 = .ok (.goto (-31), 3) := by decide +kernel
theorem d_Mod_bind_175 : decode b_Mod_bind 175 = .ok (.iload_n 3, 1) := by decide +kernel
theorem d_Mod_bind_176 : decode b_Mod_bind 176 = .ok (.ireturn, 1) := by decide +kernel
abbrev rm_Mod_bind : Room := { frames := 2, cells := 0, slots := 0, locals := 47 }
abbrev C_Mod_bind (D : va_G) (g : Nat → ClassId) (p : Program) (s : State) (m : MethodId) (args : Array Value) (meth : Method) (c : Code) (M0 : Mem) : Prop := Cx p s m args c b_Mod_bind 5 R_Mod BIG D vwCl (tysG g) (mA M0 s.heap.size) ∧ meth.sig.returnType = (some .int) ∧ meth.locks = false
abbrev B_Mod_bind (l : Launch) (D : va_G) (p : Program) (e : Env) (s : State) (m : MethodId) (args : Array Value) (below : List Frame) (meth : Method) (c : Code) (M0 : Mem) (P : Int32 → Mem → Prop) (M : Mem) (pc : Nat) (lv : List (Nat × Value)) (st : List Value) : Prop := Wb p l e rm_Mod_bind s m args below meth c 5 D vwCl M0 (kI fun r M' => P r M') 0 0 M pc lv st
def wp_Mod_bind_b141 (g : Nat → ClassId) (P : Int32 → Mem → Prop) (M : Mem) (x0 : Nat) (x3 : Int32) (x4 : Int32) : Prop :=
  ∃ (I : Int32 → Mem → Prop) (μ : Int32 → Mem → Nat), I x4 M ∧ ∀ (x4 : Int32) (M : Mem), I x4 M →
  ∃ v1 : Int32, gI M 6 x0 6 = some v1 ∧ ((v1 ≤ x4 → (P x3 M)) ∧ (¬ v1 ≤ x4 → (∃ v3 : Nat, gR M 6 x0 12 = some v3 ∧ (∃ v4 : Nat, gR M 6 x0 7 = some v4 ∧ (∃ v5 : Int32, aI M (g 2) v4 x4 = some v5 ∧ (∃ M6 : Mem, sI M (g 2) v3 (((41 : Int32) * x3) + x4) v5 = some M6 ∧ ((I (x4 + (1 : Int32)) M6 ∧ μ (x4 + (1 : Int32)) M6 < μ x4 M))))))))
set_option maxHeartbeats 4000000 in
set_option maxRecDepth 100000 in
theorem t_Mod_bind_b141 {l : Launch} {D : va_G} {g : Nat → ClassId} {p : Program} {e : Env} {s : State} {m : MethodId} {args : Array Value} {below : List Frame} {meth : Method} {c : Code} {M0 : Mem} {P : Int32 → Mem → Prop} {M : Mem} {x0 : Nat} {x3 : Int32} {x4 : Int32} (C : C_Mod_bind D g p s m args meth c M0) (h : wp_Mod_bind_b141 g P M x0 x3 x4 ) : B_Mod_bind l D p e s m args below meth c M0 P M 141 [(0, .ref x0), (3, .int x3), (4, .int x4)] [] := by
  unfold wp_Mod_bind_b141 at h
  obtain ⟨I, μ, hI, hb⟩ := h
  have key : ∀ (n : Nat) (x4 : Int32) (M : Mem), I x4 M → μ x4 M < n → B_Mod_bind l D p e s m args below meth c M0 P M 141 [(0, .ref x0), (3, .int x3), (4, .int x4)] [] := by
    intro n
    induction n with
    | zero => intro x4 M _ hn; exact absurd hn (Nat.not_lt_zero _)
    | succ n ih =>
      intro x4 M hI hn ls H locs hM hS hl
      have h := hb x4 M hI
      refine lv_iload C.1.1 C.1.2.1 d_Mod_bind_141 (lv_at hl 2 rfl) ?_
      refine lv_aload_n C.1.1 C.1.2.1 d_Mod_bind_143 rfl (lv_at hl 0 rfl) ?_
      obtain ⟨v1, ev1, h⟩ := h
      refine mg_I C.1 hM ok_Mod (by decide) kw33 ev1 d_Mod_bind_144 ?_
      refine lv_icmp_ge (tgt := 175) C.1.1 C.1.2.1 d_Mod_bind_147 (by decide) (fun c2 => ?_) (fun c2 => ?_)
      · have h := h.1 c2
        refine lv_iload_n C.1.1 C.1.2.1 d_Mod_bind_175 rfl (lv_at hl 1 rfl) ?_
        exact mr_I C.1 C.2.1 C.2.2 hM hS ⟨_, rfl, h⟩ d_Mod_bind_176
      · have h := h.2 c2
        refine lv_aload_n C.1.1 C.1.2.1 d_Mod_bind_150 rfl (lv_at hl 0 rfl) ?_
        obtain ⟨v3, ev3, h⟩ := h
        refine mg_R C.1 hM ok_Mod (by decide) kw14 ev3 d_Mod_bind_151 ?_
        refine lv_bipush (v := (41 : Int32)) C.1.1 C.1.2.1 d_Mod_bind_154 (by decide) ?_
        refine lv_iload_n C.1.1 C.1.2.1 d_Mod_bind_156 rfl (lv_at hl 1 rfl) ?_
        refine lv_imul C.1.1 C.1.2.1 d_Mod_bind_157 ?_
        refine lv_iload C.1.1 C.1.2.1 d_Mod_bind_158 (lv_at hl 2 rfl) ?_
        refine lv_iadd C.1.1 C.1.2.1 d_Mod_bind_160 ?_
        refine lv_aload_n C.1.1 C.1.2.1 d_Mod_bind_161 rfl (lv_at hl 0 rfl) ?_
        obtain ⟨v4, ev4, h⟩ := h
        refine mg_R C.1 hM ok_Mod (by decide) kw10 ev4 d_Mod_bind_162 ?_
        refine lv_iload C.1.1 C.1.2.1 d_Mod_bind_165 (lv_at hl 2 rfl) ?_
        obtain ⟨v5, ev5, h⟩ := h
        refine ma_I C.1 hM 2 rfl ev5 d_Mod_bind_167 ?_
        obtain ⟨M6, eM6, h⟩ := h
        refine ms_I C.1 hM hS 2 rfl eM6 d_Mod_bind_168 (fun H locs hM hS => ?_)
        refine lv_iinc (v := x4 + (1 : Int32)) (lv' := [(4, .int (x4 + (1 : Int32))), (0, .ref x0), (3, .int x3)]) C.1.1 C.1.2.1 d_Mod_bind_169 hl (k := 2) rfl rfl (by decide) rfl (fun ls hl => ?_)
        refine lv_goto (tgt := 141) C.1.1 C.1.2.1 d_Mod_bind_172 (by decide) ?_
        exact ih (x4 + (1 : Int32)) M6 h.1 (Nat.lt_of_lt_of_le h.2 (Nat.le_of_lt_succ hn)) _ _ _ hM hS (lv_sub hl [1, 2, 0] rfl)
  exact key _ x4 M hI (Nat.lt_succ_self _)
def wp_Mod_bind_b104 (g : Nat → ClassId) (P : Int32 → Mem → Prop) (M : Mem) (x0 : Nat) (x3 : Int32) (x4 : Int32) : Prop :=
  ∃ (I : Int32 → Mem → Prop) (μ : Int32 → Mem → Nat), I x4 M ∧ ∀ (x4 : Int32) (M : Mem), I x4 M →
  ∃ v1 : Int32, gI M 6 x0 5 = some v1 ∧ ((v1 ≤ x4 → (wp_Mod_bind_b141 g P M x0 x3 (0 : Int32))) ∧ (¬ v1 ≤ x4 → (∃ v3 : Nat, gR M 6 x0 10 = some v3 ∧ (∃ v4 : Nat, gR M 6 x0 4 = some v4 ∧ (∃ v5 : Int64, aL M (g 1) v4 x4 = some v5 ∧ (∃ M6 : Mem, sL M (g 1) v3 (((6 : Int32) * x3) + x4) v5 = some M6 ∧ ((I (x4 + (1 : Int32)) M6 ∧ μ (x4 + (1 : Int32)) M6 < μ x4 M))))))))
set_option maxHeartbeats 4000000 in
set_option maxRecDepth 100000 in
theorem t_Mod_bind_b104 {l : Launch} {D : va_G} {g : Nat → ClassId} {p : Program} {e : Env} {s : State} {m : MethodId} {args : Array Value} {below : List Frame} {meth : Method} {c : Code} {M0 : Mem} {P : Int32 → Mem → Prop} {M : Mem} {x0 : Nat} {x3 : Int32} {x4 : Int32} (C : C_Mod_bind D g p s m args meth c M0) (h : wp_Mod_bind_b104 g P M x0 x3 x4 ) : B_Mod_bind l D p e s m args below meth c M0 P M 104 [(0, .ref x0), (3, .int x3), (4, .int x4)] [] := by
  unfold wp_Mod_bind_b104 at h
  obtain ⟨I, μ, hI, hb⟩ := h
  have key : ∀ (n : Nat) (x4 : Int32) (M : Mem), I x4 M → μ x4 M < n → B_Mod_bind l D p e s m args below meth c M0 P M 104 [(0, .ref x0), (3, .int x3), (4, .int x4)] [] := by
    intro n
    induction n with
    | zero => intro x4 M _ hn; exact absurd hn (Nat.not_lt_zero _)
    | succ n ih =>
      intro x4 M hI hn ls H locs hM hS hl
      have h := hb x4 M hI
      refine lv_iload C.1.1 C.1.2.1 d_Mod_bind_104 (lv_at hl 2 rfl) ?_
      refine lv_aload_n C.1.1 C.1.2.1 d_Mod_bind_106 rfl (lv_at hl 0 rfl) ?_
      obtain ⟨v1, ev1, h⟩ := h
      refine mg_I C.1 hM ok_Mod (by decide) kw26 ev1 d_Mod_bind_107 ?_
      refine lv_icmp_ge (tgt := 138) C.1.1 C.1.2.1 d_Mod_bind_110 (by decide) (fun c2 => ?_) (fun c2 => ?_)
      · have h := h.1 c2
        refine lv_iconst (v := (0 : Int32)) C.1.1 C.1.2.1 d_Mod_bind_138 (by decide) ?_
        refine lv_istore (lv' := [(4, .int (0 : Int32)), (0, .ref x0), (3, .int x3)]) C.1.1 C.1.2.1 d_Mod_bind_139 hl (by decide) rfl (fun ls hl => ?_)
        exact t_Mod_bind_b141 C h _ _ _ hM hS (lv_sub hl [1, 2, 0] rfl)
      · have h := h.2 c2
        refine lv_aload_n C.1.1 C.1.2.1 d_Mod_bind_113 rfl (lv_at hl 0 rfl) ?_
        obtain ⟨v3, ev3, h⟩ := h
        refine mg_R C.1 hM ok_Mod (by decide) kw12 ev3 d_Mod_bind_114 ?_
        refine lv_bipush (v := (6 : Int32)) C.1.1 C.1.2.1 d_Mod_bind_117 (by decide) ?_
        refine lv_iload_n C.1.1 C.1.2.1 d_Mod_bind_119 rfl (lv_at hl 1 rfl) ?_
        refine lv_imul C.1.1 C.1.2.1 d_Mod_bind_120 ?_
        refine lv_iload C.1.1 C.1.2.1 d_Mod_bind_121 (lv_at hl 2 rfl) ?_
        refine lv_iadd C.1.1 C.1.2.1 d_Mod_bind_123 ?_
        refine lv_aload_n C.1.1 C.1.2.1 d_Mod_bind_124 rfl (lv_at hl 0 rfl) ?_
        obtain ⟨v4, ev4, h⟩ := h
        refine mg_R C.1 hM ok_Mod (by decide) kw9 ev4 d_Mod_bind_125 ?_
        refine lv_iload C.1.1 C.1.2.1 d_Mod_bind_128 (lv_at hl 2 rfl) ?_
        obtain ⟨v5, ev5, h⟩ := h
        refine ma_L C.1 hM 1 rfl ev5 d_Mod_bind_130 ?_
        obtain ⟨M6, eM6, h⟩ := h
        refine ms_L C.1 hM hS 1 rfl eM6 d_Mod_bind_131 (fun H locs hM hS => ?_)
        refine lv_iinc (v := x4 + (1 : Int32)) (lv' := [(4, .int (x4 + (1 : Int32))), (0, .ref x0), (3, .int x3)]) C.1.1 C.1.2.1 d_Mod_bind_132 hl (k := 2) rfl rfl (by decide) rfl (fun ls hl => ?_)
        refine lv_goto (tgt := 104) C.1.1 C.1.2.1 d_Mod_bind_135 (by decide) ?_
        exact ih (x4 + (1 : Int32)) M6 h.1 (Nat.lt_of_lt_of_le h.2 (Nat.le_of_lt_succ hn)) _ _ _ hM hS (lv_sub hl [1, 2, 0] rfl)
  exact key _ x4 M hI (Nat.lt_succ_self _)
def wp_Mod_bind_b50 (g : Nat → ClassId) (P : Int32 → Mem → Prop) (M : Mem) (x0 : Nat) (x1 : Int32) (x3 : Int32) : Prop :=
  (x3 = (24 : Int32) → (isO M 6 x0 ∧ (wp_Mod_raise g M x0 (2 : Int32) (fun (v13 : Int32) (M14 : Mem) => P v13 M14)))) ∧ (¬ x3 = (24 : Int32) → (∃ M2 : Mem, pV M 6 x0 0 (.int (0 : Int32)) = some M2 ∧ (∃ v3 : Nat, gR M2 6 x0 8 = some v3 ∧ (∃ M4 : Mem, sI M2 (g 2) v3 x3 x1 = some M4 ∧ (∃ v5 : Nat, gR M4 6 x0 9 = some v5 ∧ (∃ M6 : Mem, sI M4 (g 2) v5 x3 (0 : Int32) = some M6 ∧ (∃ v7 : Nat, gR M6 6 x0 11 = some v7 ∧ (∃ v8 : Int32, gI M6 6 x0 5 = some v8 ∧ (∃ M9 : Mem, sI M6 (g 2) v7 x3 v8 = some M9 ∧ (∃ v10 : Nat, gR M9 6 x0 13 = some v10 ∧ (∃ v11 : Int32, gI M9 6 x0 6 = some v11 ∧ (∃ M12 : Mem, sI M9 (g 2) v10 x3 v11 = some M12 ∧ (wp_Mod_bind_b104 g P M12 x0 x3 (0 : Int32))))))))))))))
set_option maxHeartbeats 4000000 in
set_option maxRecDepth 100000 in
theorem t_Mod_bind_b50 {l : Launch} {D : va_G} {g : Nat → ClassId} {p : Program} {e : Env} {s : State} {m : MethodId} {args : Array Value} {below : List Frame} {meth : Method} {c : Code} {M0 : Mem} {P : Int32 → Mem → Prop} {M : Mem} {x0 : Nat} {x1 : Int32} {x3 : Int32} (C : C_Mod_bind D g p s m args meth c M0) (h : wp_Mod_bind_b50 g P M x0 x1 x3 ) : B_Mod_bind l D p e s m args below meth c M0 P M 50 [(0, .ref x0), (1, .int x1), (3, .int x3)] [] := by
  intro ls H locs hM hS hl
  unfold wp_Mod_bind_b50 at h
  refine lv_iload_n C.1.1 C.1.2.1 d_Mod_bind_50 rfl (lv_at hl 2 rfl) ?_
  refine lv_bipush (v := (24 : Int32)) C.1.1 C.1.2.1 d_Mod_bind_51 (by decide) ?_
  refine lv_icmp_ne (tgt := 62) C.1.1 C.1.2.1 d_Mod_bind_53 (by decide) (fun c1 => ?_) (fun c1 => ?_)
  · have h := h.2 c1
    refine lv_aload_n C.1.1 C.1.2.1 d_Mod_bind_62 rfl (lv_at hl 0 rfl) ?_
    refine lv_iconst (v := (0 : Int32)) C.1.1 C.1.2.1 d_Mod_bind_63 (by decide) ?_
    obtain ⟨M2, eM2, h⟩ := h
    refine mp_V C.1 hM hS ok_Mod (by decide) kw23 rfl rfl rfl eM2 d_Mod_bind_64 (fun H locs hM hS => ?_)
    refine lv_aload_n C.1.1 C.1.2.1 d_Mod_bind_67 rfl (lv_at hl 0 rfl) ?_
    obtain ⟨v3, ev3, h⟩ := h
    refine mg_R C.1 hM ok_Mod (by decide) kw1 ev3 d_Mod_bind_68 ?_
    refine lv_iload_n C.1.1 C.1.2.1 d_Mod_bind_71 rfl (lv_at hl 2 rfl) ?_
    refine lv_iload_n C.1.1 C.1.2.1 d_Mod_bind_72 rfl (lv_at hl 1 rfl) ?_
    obtain ⟨M4, eM4, h⟩ := h
    refine ms_I C.1 hM hS 2 rfl eM4 d_Mod_bind_73 (fun H locs hM hS => ?_)
    refine lv_aload_n C.1.1 C.1.2.1 d_Mod_bind_74 rfl (lv_at hl 0 rfl) ?_
    obtain ⟨v5, ev5, h⟩ := h
    refine mg_R C.1 hM ok_Mod (by decide) kw11 ev5 d_Mod_bind_75 ?_
    refine lv_iload_n C.1.1 C.1.2.1 d_Mod_bind_78 rfl (lv_at hl 2 rfl) ?_
    refine lv_iconst (v := (0 : Int32)) C.1.1 C.1.2.1 d_Mod_bind_79 (by decide) ?_
    obtain ⟨M6, eM6, h⟩ := h
    refine ms_I C.1 hM hS 2 rfl eM6 d_Mod_bind_80 (fun H locs hM hS => ?_)
    refine lv_aload_n C.1.1 C.1.2.1 d_Mod_bind_81 rfl (lv_at hl 0 rfl) ?_
    obtain ⟨v7, ev7, h⟩ := h
    refine mg_R C.1 hM ok_Mod (by decide) kw13 ev7 d_Mod_bind_82 ?_
    refine lv_iload_n C.1.1 C.1.2.1 d_Mod_bind_85 rfl (lv_at hl 2 rfl) ?_
    refine lv_aload_n C.1.1 C.1.2.1 d_Mod_bind_86 rfl (lv_at hl 0 rfl) ?_
    obtain ⟨v8, ev8, h⟩ := h
    refine mg_I C.1 hM ok_Mod (by decide) kw26 ev8 d_Mod_bind_87 ?_
    obtain ⟨M9, eM9, h⟩ := h
    refine ms_I C.1 hM hS 2 rfl eM9 d_Mod_bind_90 (fun H locs hM hS => ?_)
    refine lv_aload_n C.1.1 C.1.2.1 d_Mod_bind_91 rfl (lv_at hl 0 rfl) ?_
    obtain ⟨v10, ev10, h⟩ := h
    refine mg_R C.1 hM ok_Mod (by decide) kw15 ev10 d_Mod_bind_92 ?_
    refine lv_iload_n C.1.1 C.1.2.1 d_Mod_bind_95 rfl (lv_at hl 2 rfl) ?_
    refine lv_aload_n C.1.1 C.1.2.1 d_Mod_bind_96 rfl (lv_at hl 0 rfl) ?_
    obtain ⟨v11, ev11, h⟩ := h
    refine mg_I C.1 hM ok_Mod (by decide) kw33 ev11 d_Mod_bind_97 ?_
    obtain ⟨M12, eM12, h⟩ := h
    refine ms_I C.1 hM hS 2 rfl eM12 d_Mod_bind_100 (fun H locs hM hS => ?_)
    refine lv_iconst (v := (0 : Int32)) C.1.1 C.1.2.1 d_Mod_bind_101 (by decide) ?_
    refine lv_istore (lv' := [(4, .int (0 : Int32)), (0, .ref x0), (1, .int x1), (3, .int x3)]) C.1.1 C.1.2.1 d_Mod_bind_102 hl (by decide) rfl (fun ls hl => ?_)
    exact t_Mod_bind_b104 C h _ _ _ hM hS (lv_sub hl [1, 3, 0] rfl)
  · have h := h.1 c1
    refine lv_aload_n C.1.1 C.1.2.1 d_Mod_bind_56 rfl (lv_at hl 0 rfl) ?_
    refine lv_iconst (v := (2 : Int32)) C.1.1 C.1.2.1 d_Mod_bind_57 (by decide) ?_
    obtain ⟨ho, h⟩ := h
    refine mc_V (As := [.int (2 : Int32)]) (ci := 6) C.1 hM hS bigGood (c_Mod_raise h) rfl ho kw55 kw57 kw58 kw29 kw56 hd_Mod_raise ⟨by decide, by decide⟩ hl.1 rfl (Nat.le_of_ble_eq_true rfl) d_Mod_bind_58 (mc := 0) (ms := 0) rfl rfl ⟨by decide, by decide⟩ (fun v M14 H locs hp hM hS => ?_)
    obtain ⟨v13, rfl, h⟩ := hp
    exact mr_I C.1 C.2.1 C.2.2 hM hS ⟨_, rfl, h⟩ d_Mod_bind_61
def wp_Mod_bind_b28 (g : Nat → ClassId) (P : Int32 → Mem → Prop) (M : Mem) (x0 : Nat) (x1 : Int32) (x3 : Int32) : Prop :=
  ∃ (I : Int32 → Prop) (μ : Int32 → Nat), I x3 ∧ ∀ (x3 : Int32), I x3 →
  ((24 : Int32) ≤ x3 → (wp_Mod_bind_b50 g P M x0 x1 x3)) ∧ (¬ (24 : Int32) ≤ x3 → (∃ v2 : Nat, gR M 6 x0 8 = some v2 ∧ (∃ v3 : Int32, aI M (g 2) v2 x3 = some v3 ∧ ((v3 = (-1 : Int32) → (wp_Mod_bind_b50 g P M x0 x1 x3)) ∧ (¬ v3 = (-1 : Int32) → ((I (x3 + (1 : Int32)) ∧ μ (x3 + (1 : Int32)) < μ x3)))))))
set_option maxHeartbeats 4000000 in
set_option maxRecDepth 100000 in
theorem t_Mod_bind_b28 {l : Launch} {D : va_G} {g : Nat → ClassId} {p : Program} {e : Env} {s : State} {m : MethodId} {args : Array Value} {below : List Frame} {meth : Method} {c : Code} {M0 : Mem} {P : Int32 → Mem → Prop} {M : Mem} {x0 : Nat} {x1 : Int32} {x3 : Int32} (C : C_Mod_bind D g p s m args meth c M0) (h : wp_Mod_bind_b28 g P M x0 x1 x3 ) : B_Mod_bind l D p e s m args below meth c M0 P M 28 [(0, .ref x0), (1, .int x1), (3, .int x3)] [] := by
  unfold wp_Mod_bind_b28 at h
  obtain ⟨I, μ, hI, hb⟩ := h
  have key : ∀ (n : Nat) (x3 : Int32), I x3 → μ x3 < n → B_Mod_bind l D p e s m args below meth c M0 P M 28 [(0, .ref x0), (1, .int x1), (3, .int x3)] [] := by
    intro n
    induction n with
    | zero => intro x3 _ hn; exact absurd hn (Nat.not_lt_zero _)
    | succ n ih =>
      intro x3 hI hn ls H locs hM hS hl
      have h := hb x3 hI
      refine lv_iload_n C.1.1 C.1.2.1 d_Mod_bind_28 rfl (lv_at hl 2 rfl) ?_
      refine lv_bipush (v := (24 : Int32)) C.1.1 C.1.2.1 d_Mod_bind_29 (by decide) ?_
      refine lv_icmp_ge (tgt := 50) C.1.1 C.1.2.1 d_Mod_bind_31 (by decide) (fun c1 => ?_) (fun c1 => ?_)
      · have h := h.1 c1
        exact t_Mod_bind_b50 C h _ _ _ hM hS (lv_sub hl [0, 1, 2] rfl)
      · have h := h.2 c1
        refine lv_aload_n C.1.1 C.1.2.1 d_Mod_bind_34 rfl (lv_at hl 0 rfl) ?_
        obtain ⟨v2, ev2, h⟩ := h
        refine mg_R C.1 hM ok_Mod (by decide) kw1 ev2 d_Mod_bind_35 ?_
        refine lv_iload_n C.1.1 C.1.2.1 d_Mod_bind_38 rfl (lv_at hl 2 rfl) ?_
        obtain ⟨v3, ev3, h⟩ := h
        refine ma_I C.1 hM 2 rfl ev3 d_Mod_bind_39 ?_
        refine lv_iconst (v := (-1 : Int32)) C.1.1 C.1.2.1 d_Mod_bind_40 (by decide) ?_
        refine lv_icmp_eq (tgt := 50) C.1.1 C.1.2.1 d_Mod_bind_41 (by decide) (fun c4 => ?_) (fun c4 => ?_)
        · have h := h.1 c4
          exact t_Mod_bind_b50 C h _ _ _ hM hS (lv_sub hl [0, 1, 2] rfl)
        · have h := h.2 c4
          refine lv_iinc (v := x3 + (1 : Int32)) (lv' := [(3, .int (x3 + (1 : Int32))), (0, .ref x0), (1, .int x1)]) C.1.1 C.1.2.1 d_Mod_bind_44 hl (k := 2) rfl rfl (by decide) rfl (fun ls hl => ?_)
          refine lv_goto (tgt := 28) C.1.1 C.1.2.1 d_Mod_bind_47 (by decide) ?_
          exact ih (x3 + (1 : Int32)) h.1 (Nat.lt_of_lt_of_le h.2 (Nat.le_of_lt_succ hn)) _ _ _ hM hS (lv_sub hl [1, 2, 0] rfl)
  exact key _ x3 hI (Nat.lt_succ_self _)
def wp_Mod_bind_b20 (g : Nat → ClassId) (P : Int32 → Mem → Prop) (M : Mem) (x0 : Nat) : Prop :=
  isO M 6 x0 ∧ (wp_Mod_raise g M x0 (1 : Int32) (fun (v1 : Int32) (M2 : Mem) => P v1 M2))
set_option maxHeartbeats 4000000 in
set_option maxRecDepth 100000 in
theorem t_Mod_bind_b20 {l : Launch} {D : va_G} {g : Nat → ClassId} {p : Program} {e : Env} {s : State} {m : MethodId} {args : Array Value} {below : List Frame} {meth : Method} {c : Code} {M0 : Mem} {P : Int32 → Mem → Prop} {M : Mem} {x0 : Nat} (C : C_Mod_bind D g p s m args meth c M0) (h : wp_Mod_bind_b20 g P M x0 ) : B_Mod_bind l D p e s m args below meth c M0 P M 20 [(0, .ref x0)] [] := by
  intro ls H locs hM hS hl
  unfold wp_Mod_bind_b20 at h
  refine lv_aload_n C.1.1 C.1.2.1 d_Mod_bind_20 rfl (lv_at hl 0 rfl) ?_
  refine lv_iconst (v := (1 : Int32)) C.1.1 C.1.2.1 d_Mod_bind_21 (by decide) ?_
  obtain ⟨ho, h⟩ := h
  refine mc_V (As := [.int (1 : Int32)]) (ci := 6) C.1 hM hS bigGood (c_Mod_raise h) rfl ho kw55 kw57 kw58 kw29 kw56 hd_Mod_raise ⟨by decide, by decide⟩ hl.1 rfl (Nat.le_of_ble_eq_true rfl) d_Mod_bind_22 (mc := 0) (ms := 0) rfl rfl ⟨by decide, by decide⟩ (fun v M2 H locs hp hM hS => ?_)
  obtain ⟨v1, rfl, h⟩ := hp
  exact mr_I C.1 C.2.1 C.2.2 hM hS ⟨_, rfl, h⟩ d_Mod_bind_25
def wp_Mod_bind (g : Nat → ClassId) (M : Mem) (x0 : Nat) (x1 : Int32) (P : Int32 → Mem → Prop) : Prop :=
  isO M 6 x0 ∧ (wp_Mod_reads g M x0 (1 : Int32) (fun (v1 : Int32) (M2 : Mem) => (v1 = 0 → (wp_Mod_bind_b20 g P M2 x0)) ∧ (¬ v1 = 0 → ((x1 < 0 → (wp_Mod_bind_b20 g P M2 x0)) ∧ (¬ x1 < 0 → ((x1 < (16 : Int32) → (wp_Mod_bind_b28 g P M2 x0 x1 (0 : Int32))) ∧ (¬ x1 < (16 : Int32) → (wp_Mod_bind_b20 g P M2 x0))))))))
set_option maxHeartbeats 4000000 in
set_option maxRecDepth 100000 in
theorem c_Mod_bind {l : Launch} {D : va_G} {g : Nat → ClassId} {M : Mem} {x0 : Nat} {x1 : Int32} {P : Int32 → Mem → Prop} (h : wp_Mod_bind g M x0 x1 P) : mMet l BIG D vwCl (tysG g) y_Mod_bind b_Mod_bind 5 (some .int) rm_Mod_bind [.ref x0, .int x1] M (kI fun r M' => P r M') := by
  refine mMet.of (own := R_Mod) rfl (by decide) rfl (fun p e s m below meth c C hr hlk hnm ls hM hS hl => ?_)
  have C : C_Mod_bind D g p s m ([.ref x0, .int x1] : List Value).toArray meth c M := ⟨C, hr, hlk⟩
  unfold wp_Mod_bind at h
  have hl : lv_has ls 5 [(0, .ref x0), (1, .int x1)] := hl
  refine lv_aload_n C.1.1 C.1.2.1 d_Mod_bind_0 rfl (lv_at hl 0 rfl) ?_
  refine lv_iconst (v := (1 : Int32)) C.1.1 C.1.2.1 d_Mod_bind_1 (by decide) ?_
  obtain ⟨ho, h⟩ := h
  refine mc_V (As := [.int (1 : Int32)]) (ci := 6) C.1 hM hS bigGood (c_Mod_reads h) rfl ho kw59 kw61 kw62 kw29 kw60 hd_Mod_reads ⟨by decide, by decide⟩ hl.1 rfl (Nat.le_of_ble_eq_true rfl) d_Mod_bind_2 (mc := 0) (ms := 0) rfl rfl ⟨by decide, by decide⟩ (fun v M2 H locs hp hM hS => ?_)
  obtain ⟨v1, rfl, h⟩ := hp
  refine lv_istore_n (lv' := [(2, .int v1), (0, .ref x0), (1, .int x1)]) C.1.1 C.1.2.1 d_Mod_bind_5 rfl hl (by decide) rfl (fun ls hl => ?_)
  refine lv_iload_n C.1.1 C.1.2.1 d_Mod_bind_6 rfl (lv_at hl 0 rfl) ?_
  refine lv_if_eq (tgt := 20) C.1.1 C.1.2.1 d_Mod_bind_7 (by decide) (fun c3 => ?_) (fun c3 => ?_)
  · have h := h.1 c3
    exact t_Mod_bind_b20 C h _ _ _ hM hS (lv_sub hl [1] rfl)
  · have h := h.2 c3
    refine lv_iload_n C.1.1 C.1.2.1 d_Mod_bind_10 rfl (lv_at hl 2 rfl) ?_
    refine lv_if_lt (tgt := 20) C.1.1 C.1.2.1 d_Mod_bind_11 (by decide) (fun c4 => ?_) (fun c4 => ?_)
    · have h := h.1 c4
      exact t_Mod_bind_b20 C h _ _ _ hM hS (lv_sub hl [1] rfl)
    · have h := h.2 c4
      refine lv_iload_n C.1.1 C.1.2.1 d_Mod_bind_14 rfl (lv_at hl 2 rfl) ?_
      refine lv_bipush (v := (16 : Int32)) C.1.1 C.1.2.1 d_Mod_bind_15 (by decide) ?_
      refine lv_icmp_lt (tgt := 26) C.1.1 C.1.2.1 d_Mod_bind_17 (by decide) (fun c5 => ?_) (fun c5 => ?_)
      · have h := h.1 c5
        refine lv_iconst (v := (0 : Int32)) C.1.1 C.1.2.1 d_Mod_bind_26 (by decide) ?_
        refine lv_istore_n (lv' := [(3, .int (0 : Int32)), (2, .int v1), (0, .ref x0), (1, .int x1)]) C.1.1 C.1.2.1 d_Mod_bind_27 rfl hl (by decide) rfl (fun ls hl => ?_)
        exact t_Mod_bind_b28 C h _ _ _ hM hS (lv_sub hl [2, 3, 0] rfl)
      · have h := h.2 c5
        exact t_Mod_bind_b20 C h _ _ _ hM hS (lv_sub hl [1] rfl)
theorem d_Mod_fault_0 : decode b_Mod_fault 0 = .ok (.aload_n 0, 1) := by decide +kernel
theorem d_Mod_fault_1 : decode b_Mod_fault 1 = .ok (.iconst 0, 1) := by decide +kernel
theorem d_Mod_fault_2 : decode b_Mod_fault 2 = .ok (.putfield 63, 3) := by decide +kernel
theorem d_Mod_fault_5 : decode b_Mod_fault 5 = .ok (.aload_n 0, 1) := by decide +kernel
theorem d_Mod_fault_6 : decode b_Mod_fault 6 = .ok (.getfield 13, 3) := by decide +kernel
theorem d_Mod_fault_9 : decode b_Mod_fault 9 = .ok (.ireturn, 1) := by decide +kernel
abbrev rm_Mod_fault : Room := { frames := 0, cells := 0, slots := 0, locals := 0 }
abbrev C_Mod_fault (D : va_G) (g : Nat → ClassId) (p : Program) (s : State) (m : MethodId) (args : Array Value) (meth : Method) (c : Code) (M0 : Mem) : Prop := Cx p s m args c b_Mod_fault 1 R_Mod BIG D vwCl (tysG g) (mA M0 s.heap.size) ∧ meth.sig.returnType = (some .int) ∧ meth.locks = false
abbrev B_Mod_fault (l : Launch) (D : va_G) (p : Program) (e : Env) (s : State) (m : MethodId) (args : Array Value) (below : List Frame) (meth : Method) (c : Code) (M0 : Mem) (P : Int32 → Mem → Prop) (M : Mem) (pc : Nat) (lv : List (Nat × Value)) (st : List Value) : Prop := Wb p l e rm_Mod_fault s m args below meth c 1 D vwCl M0 (kI fun r M' => P r M') 0 0 M pc lv st
def wp_Mod_fault (g : Nat → ClassId) (M : Mem) (x0 : Nat) (P : Int32 → Mem → Prop) : Prop :=
  ∃ M1 : Mem, pV M 6 x0 0 (.int (0 : Int32)) = some M1 ∧ (∃ v2 : Int32, gI M1 6 x0 3 = some v2 ∧ (P v2 M1))
set_option maxHeartbeats 4000000 in
set_option maxRecDepth 100000 in
theorem c_Mod_fault {l : Launch} {D : va_G} {g : Nat → ClassId} {M : Mem} {x0 : Nat} {P : Int32 → Mem → Prop} (h : wp_Mod_fault g M x0 P) : mMet l BIG D vwCl (tysG g) y_Mod_fault b_Mod_fault 1 (some .int) rm_Mod_fault [.ref x0] M (kI fun r M' => P r M') := by
  refine mMet.of (own := R_Mod) rfl (by decide) rfl (fun p e s m below meth c C hr hlk hnm ls hM hS hl => ?_)
  have C : C_Mod_fault D g p s m ([.ref x0] : List Value).toArray meth c M := ⟨C, hr, hlk⟩
  unfold wp_Mod_fault at h
  have hl : lv_has ls 1 [(0, .ref x0)] := hl
  refine lv_aload_n C.1.1 C.1.2.1 d_Mod_fault_0 rfl (lv_at hl 0 rfl) ?_
  refine lv_iconst (v := (0 : Int32)) C.1.1 C.1.2.1 d_Mod_fault_1 (by decide) ?_
  obtain ⟨M1, eM1, h⟩ := h
  refine mp_V C.1 hM hS ok_Mod (by decide) kw23 rfl rfl rfl eM1 d_Mod_fault_2 (fun H locs hM hS => ?_)
  refine lv_aload_n C.1.1 C.1.2.1 d_Mod_fault_5 rfl (lv_at hl 0 rfl) ?_
  obtain ⟨v2, ev2, h⟩ := h
  refine mg_I C.1 hM ok_Mod (by decide) kw7 ev2 d_Mod_fault_6 ?_
  exact mr_I C.1 C.2.1 C.2.2 hM hS ⟨_, rfl, h⟩ d_Mod_fault_9
theorem d_Mod_free_0 : decode b_Mod_free 0 = .ok (.aload_n 0, 1) := by decide +kernel
theorem d_Mod_free_1 : decode b_Mod_free 1 = .ok (.iconst 0, 1) := by decide +kernel
theorem d_Mod_free_2 : decode b_Mod_free 2 = .ok (.putfield 63, 3) := by decide +kernel
theorem d_Mod_free_5 : decode b_Mod_free 5 = .ok (.aload_n 0, 1) := by decide +kernel
theorem d_Mod_free_6 : decode b_Mod_free 6 = .ok (.iload_n 1, 1) := by decide +kernel
theorem d_Mod_free_7 : decode b_Mod_free 7 = .ok (.invokevirtual 115, 3) := by decide +kernel
theorem d_Mod_free_10 : decode b_Mod_free 10 = .ok (.ifCond .ne 5, 3) := by decide +kernel
theorem d_Mod_free_13 : decode b_Mod_free 13 = .ok (.iconst 0, 1) := by decide +kernel
theorem d_Mod_free_14 : decode b_Mod_free 14 = .ok (.ireturn, 1) := by decide +kernel
theorem d_Mod_free_15 : decode b_Mod_free 15 = .ok (.aload_n 0, 1) := by decide +kernel
theorem d_Mod_free_16 : decode b_Mod_free 16 = .ok (.getfield 24, 3) := by decide +kernel
theorem d_Mod_free_19 : decode b_Mod_free 19 = .ok (.iload_n 1, 1) := by decide +kernel
theorem d_Mod_free_20 : decode b_Mod_free 20 = .ok (.iconst (-1), 1) := by decide +kernel
theorem d_Mod_free_21 : decode b_Mod_free 21 = .ok (.iastore, 1) := by decide +kernel
theorem d_Mod_free_22 : decode b_Mod_free 22 = .ok (.iconst 1, 1) := by decide +kernel
theorem d_Mod_free_23 : decode b_Mod_free 23 = .ok (.ireturn, 1) := by decide +kernel
abbrev rm_Mod_free : Room := { frames := 2, cells := 0, slots := 0, locals := 41 }
abbrev C_Mod_free (D : va_G) (g : Nat → ClassId) (p : Program) (s : State) (m : MethodId) (args : Array Value) (meth : Method) (c : Code) (M0 : Mem) : Prop := Cx p s m args c b_Mod_free 2 R_Mod BIG D vwCl (tysG g) (mA M0 s.heap.size) ∧ meth.sig.returnType = (some .boolean) ∧ meth.locks = false
abbrev B_Mod_free (l : Launch) (D : va_G) (p : Program) (e : Env) (s : State) (m : MethodId) (args : Array Value) (below : List Frame) (meth : Method) (c : Code) (M0 : Mem) (P : Int32 → Mem → Prop) (M : Mem) (pc : Nat) (lv : List (Nat × Value)) (st : List Value) : Prop := Wb p l e rm_Mod_free s m args below meth c 2 D vwCl M0 (kI fun r M' => P r M') 0 0 M pc lv st
def wp_Mod_free (g : Nat → ClassId) (M : Mem) (x0 : Nat) (x1 : Int32) (P : Int32 → Mem → Prop) : Prop :=
  ∃ M1 : Mem, pV M 6 x0 0 (.int (0 : Int32)) = some M1 ∧ (isO M1 6 x0 ∧ (wp_Mod_isBound g M1 x0 x1 (fun v2 : Int32 => (v2 = 0 → (isB (0 : Int32) ∧ P (0 : Int32) M1)) ∧ (¬ v2 = 0 → (∃ v5 : Nat, gR M1 6 x0 8 = some v5 ∧ (∃ M6 : Mem, sI M1 (g 2) v5 x1 (-1 : Int32) = some M6 ∧ (isB (1 : Int32) ∧ P (1 : Int32) M6)))))))
set_option maxHeartbeats 4000000 in
set_option maxRecDepth 100000 in
theorem c_Mod_free {l : Launch} {D : va_G} {g : Nat → ClassId} {M : Mem} {x0 : Nat} {x1 : Int32} {P : Int32 → Mem → Prop} (h : wp_Mod_free g M x0 x1 P) : mMet l BIG D vwCl (tysG g) y_Mod_free b_Mod_free 2 (some .boolean) rm_Mod_free [.ref x0, .int x1] M (kI fun r M' => P r M') := by
  refine mMet.of (own := R_Mod) rfl (by decide) rfl (fun p e s m below meth c C hr hlk hnm ls hM hS hl => ?_)
  have C : C_Mod_free D g p s m ([.ref x0, .int x1] : List Value).toArray meth c M := ⟨C, hr, hlk⟩
  unfold wp_Mod_free at h
  have hl : lv_has ls 2 [(0, .ref x0), (1, .int x1)] := hl
  refine lv_aload_n C.1.1 C.1.2.1 d_Mod_free_0 rfl (lv_at hl 0 rfl) ?_
  refine lv_iconst (v := (0 : Int32)) C.1.1 C.1.2.1 d_Mod_free_1 (by decide) ?_
  obtain ⟨M1, eM1, h⟩ := h
  refine mp_V C.1 hM hS ok_Mod (by decide) kw23 rfl rfl rfl eM1 d_Mod_free_2 (fun H locs hM hS => ?_)
  refine lv_aload_n C.1.1 C.1.2.1 d_Mod_free_5 rfl (lv_at hl 0 rfl) ?_
  refine lv_iload_n C.1.1 C.1.2.1 d_Mod_free_6 rfl (lv_at hl 1 rfl) ?_
  obtain ⟨ho, h⟩ := h
  refine mc_V (As := [.int x1]) (ci := 6) C.1 hM hS bigGood (c_Mod_isBound h) rfl ho kw63 kw65 kw66 kw29 kw64 hd_Mod_isBound ⟨by decide, by decide⟩ hl.1 rfl (Nat.le_of_ble_eq_true rfl) d_Mod_free_7 (mc := 0) (ms := 0) rfl rfl ⟨by decide, by decide⟩ (fun v M' H locs hp hM hS => ?_)
  obtain ⟨v2, rfl, rfl, h⟩ := hp
  refine lv_if_ne (tgt := 15) C.1.1 C.1.2.1 d_Mod_free_10 (by decide) (fun c4 => ?_) (fun c4 => ?_)
  · have h := h.2 c4
    refine lv_aload_n C.1.1 C.1.2.1 d_Mod_free_15 rfl (lv_at hl 0 rfl) ?_
    obtain ⟨v5, ev5, h⟩ := h
    refine mg_R C.1 hM ok_Mod (by decide) kw1 ev5 d_Mod_free_16 ?_
    refine lv_iload_n C.1.1 C.1.2.1 d_Mod_free_19 rfl (lv_at hl 1 rfl) ?_
    refine lv_iconst (v := (-1 : Int32)) C.1.1 C.1.2.1 d_Mod_free_20 (by decide) ?_
    obtain ⟨M6, eM6, h⟩ := h
    refine ms_I C.1 hM hS 2 rfl eM6 d_Mod_free_21 (fun H locs hM hS => ?_)
    refine lv_iconst (v := (1 : Int32)) C.1.1 C.1.2.1 d_Mod_free_22 (by decide) ?_
    exact mr_Z C.1 C.2.1 C.2.2 h.1 hM hS ⟨_, rfl, h.2⟩ d_Mod_free_23
  · have h := h.1 c4
    refine lv_iconst (v := (0 : Int32)) C.1.1 C.1.2.1 d_Mod_free_13 (by decide) ?_
    exact mr_Z C.1 C.2.1 C.2.2 h.1 hM hS ⟨_, rfl, h.2⟩ d_Mod_free_14
theorem d_Mod_route_0 : decode b_Mod_route 0 = .ok (.aload_n 0, 1) := by decide +kernel
theorem d_Mod_route_1 : decode b_Mod_route 1 = .ok (.iconst 0, 1) := by decide +kernel
theorem d_Mod_route_2 : decode b_Mod_route 2 = .ok (.invokevirtual 108, 3) := by decide +kernel
theorem d_Mod_route_5 : decode b_Mod_route 5 = .ok (.ifCond .ne 9, 3) := by decide +kernel
theorem d_Mod_route_8 : decode b_Mod_route 8 = .ok (.aload_n 0, 1) := by decide +kernel
theorem d_Mod_route_9 : decode b_Mod_route 9 = .ok (.iconst 1, 1) := by decide +kernel
theorem d_Mod_route_10 : decode b_Mod_route 10 = .ok (.invokevirtual 112, 3) := by decide +kernel
theorem d_Mod_route_13 : decode b_Mod_route 13 = .ok (.ireturn, 1) := by decide +kernel
theorem d_Mod_route_14 : decode b_Mod_route 14 = .ok (.aload_n 0, 1) := by decide +kernel
theorem d_Mod_route_15 : decode b_Mod_route 15 = .ok (.iconst 0, 1) := by decide +kernel
theorem d_Mod_route_16 : decode b_Mod_route 16 = .ok (.putfield 63, 3) := by decide +kernel
theorem d_Mod_route_19 : decode b_Mod_route 19 = .ok (.iconst 0, 1) := by decide +kernel
theorem d_Mod_route_20 : decode b_Mod_route 20 = .ok (.istore_n 1, 1) := by decide +kernel
theorem d_Mod_route_21 : decode b_Mod_route 21 = .ok (.iconst 0, 1) := by decide +kernel
theorem d_Mod_route_22 : decode b_Mod_route 22 = .ok (.istore_n 2, 1) := by decide +kernel
theorem d_Mod_route_23 : decode b_Mod_route 23 = .ok (.iload_n 2, 1) := by decide +kernel
theorem d_Mod_route_24 : decode b_Mod_route 24 = .ok (.bipush 24, 2) := by decide +kernel
theorem d_Mod_route_26 : decode b_Mod_route 26 = .ok (.if_icmp .ge 60, 3) := by decide +kernel
theorem d_Mod_route_29 : decode b_Mod_route 29 = .ok (.aload_n 0, 1) := by decide +kernel
theorem d_Mod_route_30 : decode b_Mod_route 30 = .ok (.getfield 24, 3) := by decide +kernel
theorem d_Mod_route_33 : decode b_Mod_route 33 = .ok (.iload_n 2, 1) := by decide +kernel
theorem d_Mod_route_34 : decode b_Mod_route 34 = .ok (.iaload, 1) := by decide +kernel
theorem d_Mod_route_35 : decode b_Mod_route 35 = .ok (.iconst (-1), 1) := by decide +kernel
theorem d_Mod_route_36 : decode b_Mod_route 36 = .ok (.if_icmp .eq 44, 3) := by decide +kernel
theorem d_Mod_route_39 : decode b_Mod_route 39 = .ok (.aload_n 0, 1) := by decide +kernel
theorem d_Mod_route_40 : decode b_Mod_route 40 = .ok (.iload_n 2, 1) := by decide +kernel
theorem d_Mod_route_41 : decode b_Mod_route 41 = .ok (.aload_n 0, 1) := by decide +kernel
theorem d_Mod_route_42 : decode b_Mod_route 42 = .ok (.getfield 17, 3) := by decide +kernel
theorem d_Mod_route_45 : decode b_Mod_route 45 = .ok (.iconst 0, 1) := by decide +kernel
theorem d_Mod_route_46 : decode b_Mod_route 46 = .ok (.aload_n 0, 1) := by decide +kernel
theorem d_Mod_route_47 : decode b_Mod_route 47 = .ok (.getfield 71, 3) := by decide +kernel
theorem d_Mod_route_50 : decode b_Mod_route 50 = .ok (.invokevirtual 118, 3) := by decide +kernel
theorem d_Mod_route_53 : decode b_Mod_route 53 = .ok (.ifCond .ne 6, 3) := by decide +kernel
theorem d_Mod_route_56 : decode b_Mod_route 56 = .ok (.goto 24, 3) := by decide +kernel
theorem d_Mod_route_59 : decode b_Mod_route 59 = .ok (.aload_n 0, 1) := by decide +kernel
theorem d_Mod_route_60 : decode b_Mod_route 60 = .ok (.getfield 27, 3) := by decide +kernel
theorem d_Mod_route_63 : decode b_Mod_route 63 = .ok (.iload_n 2, 1) := by decide +kernel
theorem d_Mod_route_64 : decode b_Mod_route 64 = .ok (.dup2, 1) := by decide +kernel
theorem d_Mod_route_65 : decode b_Mod_route 65 = .ok (.iaload, 1) := by decide +kernel
theorem d_Mod_route_66 : decode b_Mod_route 66 = .ok (.iconst 1, 1) := by decide +kernel
theorem d_Mod_route_67 : decode b_Mod_route 67 = .ok (.iadd, 1) := by decide +kernel
theorem d_Mod_route_68 : decode b_Mod_route 68 = .ok (.iastore, 1) := by decide +kernel
theorem d_Mod_route_69 : decode b_Mod_route 69 = .ok (.iload_n 1, 1) := by decide +kernel
theorem d_Mod_route_70 : decode b_Mod_route 70 = .ok (.iconst 1, 1) := by decide +kernel
theorem d_Mod_route_71 : decode b_Mod_route 71 = .ok (.aload_n 0, 1) := by decide +kernel
theorem d_Mod_route_72 : decode b_Mod_route 72 = .ok (.getfield 24, 3) := by decide +kernel
theorem d_Mod_route_75 : decode b_Mod_route 75 = .ok (.iload_n 2, 1) := by decide +kernel
theorem d_Mod_route_76 : decode b_Mod_route 76 = .ok (.iaload, 1) := by decide +kernel
theorem d_Mod_route_77 : decode b_Mod_route 77 = .ok (.ishl, 1) := by decide +kernel
theorem d_Mod_route_78 : decode b_Mod_route 78 = .ok (.ior, 1) := by decide +kernel
theorem d_Mod_route_79 : decode b_Mod_route 79 = .ok (.istore_n 1, 1) := by decide +kernel
theorem d_Mod_route_80 : decode b_Mod_route 80 = .ok (.iinc 2 1, 3) := by decide +kernel
theorem d_Mod_route_83 : decode b_Mod_route 83 = .ok (.goto (-60), 3) := by decide +kernel
theorem d_Mod_route_86 : decode b_Mod_route 86 = .ok (.iload_n 1, 1) := by decide +kernel
theorem d_Mod_route_87 : decode b_Mod_route 87 = .ok (.ireturn, 1) := by decide +kernel
abbrev rm_Mod_route : Room := { frames := 4, cells := 0, slots := 0, locals := 104 }
abbrev C_Mod_route (D : va_G) (g : Nat → ClassId) (p : Program) (s : State) (m : MethodId) (args : Array Value) (meth : Method) (c : Code) (M0 : Mem) : Prop := Cx p s m args c b_Mod_route 3 R_Mod BIG D vwCl (tysG g) (mA M0 s.heap.size) ∧ meth.sig.returnType = (some .int) ∧ meth.locks = false
abbrev B_Mod_route (l : Launch) (D : va_G) (p : Program) (e : Env) (s : State) (m : MethodId) (args : Array Value) (below : List Frame) (meth : Method) (c : Code) (M0 : Mem) (P : Int32 → Mem → Prop) (M : Mem) (pc : Nat) (lv : List (Nat × Value)) (st : List Value) : Prop := Wb p l e rm_Mod_route s m args below meth c 3 D vwCl M0 (kI fun r M' => P r M') 0 0 M pc lv st
def wp_Mod_route_b80 (g : Nat → ClassId) (P : Int32 → Mem → Prop) (J23 : Int32 → Int32 → Mem → Prop) (M : Mem) (x0 : Nat) (x1 : Int32) (x2 : Int32) : Prop :=
  J23 x1 (x2 + (1 : Int32)) M
set_option maxHeartbeats 4000000 in
set_option maxRecDepth 100000 in
theorem t_Mod_route_b80 {l : Launch} {D : va_G} {g : Nat → ClassId} {p : Program} {e : Env} {s : State} {m : MethodId} {args : Array Value} {below : List Frame} {meth : Method} {c : Code} {M0 : Mem} {P : Int32 → Mem → Prop} {J23 : Int32 → Int32 → Mem → Prop} {M : Mem} {x0 : Nat} {x1 : Int32} {x2 : Int32} (C : C_Mod_route D g p s m args meth c M0) (h : wp_Mod_route_b80 g P J23 M x0 x1 x2 ) (kJ23 : ∀ (x1 : Int32) (x2 : Int32) (M : Mem), J23 x1 x2 M → B_Mod_route l D p e s m args below meth c M0 P M 23 [(0, .ref x0), (1, .int x1), (2, .int x2)] []) : B_Mod_route l D p e s m args below meth c M0 P M 80 [(0, .ref x0), (1, .int x1), (2, .int x2)] [] := by
  intro ls H locs hM hS hl
  unfold wp_Mod_route_b80 at h
  refine lv_iinc (v := x2 + (1 : Int32)) (lv' := [(2, .int (x2 + (1 : Int32))), (0, .ref x0), (1, .int x1)]) C.1.1 C.1.2.1 d_Mod_route_80 hl (k := 2) rfl rfl (by decide) rfl (fun ls hl => ?_)
  refine lv_goto (tgt := 23) C.1.1 C.1.2.1 d_Mod_route_83 (by decide) ?_
  exact kJ23 x1 (x2 + (1 : Int32)) M h _ _ _ hM hS (lv_sub hl [1, 2, 0] rfl)
def wp_Mod_route_b23 (g : Nat → ClassId) (P : Int32 → Mem → Prop) (M : Mem) (x0 : Nat) (x1 : Int32) (x2 : Int32) : Prop :=
  ∃ (I : Int32 → Int32 → Mem → Prop) (μ : Int32 → Int32 → Mem → Nat), I x1 x2 M ∧ ∀ (x1 : Int32) (x2 : Int32) (M : Mem), I x1 x2 M →
  ((24 : Int32) ≤ x2 → (P x1 M)) ∧ (¬ (24 : Int32) ≤ x2 → (∃ v2 : Nat, gR M 6 x0 8 = some v2 ∧ (∃ v3 : Int32, aI M (g 2) v2 x2 = some v3 ∧ ((v3 = (-1 : Int32) → (wp_Mod_route_b80 g P (fun y1 y2 N => I y1 y2 N ∧ μ y1 y2 N < μ x1 x2 M) M x0 x1 x2)) ∧ (¬ v3 = (-1 : Int32) → (∃ v5 : Nat, gR M 6 x0 4 = some v5 ∧ (∃ v6 : Int32, gI M 6 x0 5 = some v6 ∧ (isO M 6 x0 ∧ (wp_Mod_fits g M x0 x2 v5 (0 : Int32) v6 (fun v7 : Int32 => (v7 = 0 → (wp_Mod_route_b80 g P (fun y1 y2 N => I y1 y2 N ∧ μ y1 y2 N < μ x1 x2 M) M x0 x1 x2)) ∧ (¬ v7 = 0 → (∃ v10 : Nat, gR M 6 x0 9 = some v10 ∧ (∃ v11 : Int32, aI M (g 2) v10 x2 = some v11 ∧ (∃ M12 : Mem, sI M (g 2) v10 x2 (v11 + (1 : Int32)) = some M12 ∧ (∃ v13 : Nat, gR M12 6 x0 8 = some v13 ∧ (∃ v14 : Int32, aI M12 (g 2) v13 x2 = some v14 ∧ (wp_Mod_route_b80 g P (fun y1 y2 N => I y1 y2 N ∧ μ y1 y2 N < μ x1 x2 M) M12 x0 (x1 ||| ((1 : Int32) <<< (v14 &&& 31))) x2)))))))))))))))))
set_option maxHeartbeats 4000000 in
set_option maxRecDepth 100000 in
theorem t_Mod_route_b23 {l : Launch} {D : va_G} {g : Nat → ClassId} {p : Program} {e : Env} {s : State} {m : MethodId} {args : Array Value} {below : List Frame} {meth : Method} {c : Code} {M0 : Mem} {P : Int32 → Mem → Prop} {M : Mem} {x0 : Nat} {x1 : Int32} {x2 : Int32} (C : C_Mod_route D g p s m args meth c M0) (h : wp_Mod_route_b23 g P M x0 x1 x2 ) : B_Mod_route l D p e s m args below meth c M0 P M 23 [(0, .ref x0), (1, .int x1), (2, .int x2)] [] := by
  unfold wp_Mod_route_b23 at h
  obtain ⟨I, μ, hI, hb⟩ := h
  have key : ∀ (n : Nat) (x1 : Int32) (x2 : Int32) (M : Mem), I x1 x2 M → μ x1 x2 M < n → B_Mod_route l D p e s m args below meth c M0 P M 23 [(0, .ref x0), (1, .int x1), (2, .int x2)] [] := by
    intro n
    induction n with
    | zero => intro x1 x2 M _ hn; exact absurd hn (Nat.not_lt_zero _)
    | succ n ih =>
      intro x1 x2 M hI hn ls H locs hM hS hl
      have h := hb x1 x2 M hI
      refine lv_iload_n C.1.1 C.1.2.1 d_Mod_route_23 rfl (lv_at hl 2 rfl) ?_
      refine lv_bipush (v := (24 : Int32)) C.1.1 C.1.2.1 d_Mod_route_24 (by decide) ?_
      refine lv_icmp_ge (tgt := 86) C.1.1 C.1.2.1 d_Mod_route_26 (by decide) (fun c1 => ?_) (fun c1 => ?_)
      · have h := h.1 c1
        refine lv_iload_n C.1.1 C.1.2.1 d_Mod_route_86 rfl (lv_at hl 1 rfl) ?_
        exact mr_I C.1 C.2.1 C.2.2 hM hS ⟨_, rfl, h⟩ d_Mod_route_87
      · have h := h.2 c1
        refine lv_aload_n C.1.1 C.1.2.1 d_Mod_route_29 rfl (lv_at hl 0 rfl) ?_
        obtain ⟨v2, ev2, h⟩ := h
        refine mg_R C.1 hM ok_Mod (by decide) kw1 ev2 d_Mod_route_30 ?_
        refine lv_iload_n C.1.1 C.1.2.1 d_Mod_route_33 rfl (lv_at hl 2 rfl) ?_
        obtain ⟨v3, ev3, h⟩ := h
        refine ma_I C.1 hM 2 rfl ev3 d_Mod_route_34 ?_
        refine lv_iconst (v := (-1 : Int32)) C.1.1 C.1.2.1 d_Mod_route_35 (by decide) ?_
        refine lv_icmp_eq (tgt := 80) C.1.1 C.1.2.1 d_Mod_route_36 (by decide) (fun c4 => ?_) (fun c4 => ?_)
        · have h := h.1 c4
          exact t_Mod_route_b80 C h (fun y1 y2 N hJ => ih y1 y2 N hJ.1 (Nat.lt_of_lt_of_le hJ.2 (Nat.le_of_lt_succ hn))) _ _ _ hM hS (lv_sub hl [0, 1, 2] rfl)
        · have h := h.2 c4
          refine lv_aload_n C.1.1 C.1.2.1 d_Mod_route_39 rfl (lv_at hl 0 rfl) ?_
          refine lv_iload_n C.1.1 C.1.2.1 d_Mod_route_40 rfl (lv_at hl 2 rfl) ?_
          refine lv_aload_n C.1.1 C.1.2.1 d_Mod_route_41 rfl (lv_at hl 0 rfl) ?_
          obtain ⟨v5, ev5, h⟩ := h
          refine mg_R C.1 hM ok_Mod (by decide) kw9 ev5 d_Mod_route_42 ?_
          refine lv_iconst (v := (0 : Int32)) C.1.1 C.1.2.1 d_Mod_route_45 (by decide) ?_
          refine lv_aload_n C.1.1 C.1.2.1 d_Mod_route_46 rfl (lv_at hl 0 rfl) ?_
          obtain ⟨v6, ev6, h⟩ := h
          refine mg_I C.1 hM ok_Mod (by decide) kw26 ev6 d_Mod_route_47 ?_
          obtain ⟨ho, h⟩ := h
          refine mc_V (As := [.int x2, .ref v5, .int (0 : Int32), .int v6]) (ci := 6) C.1 hM hS bigGood (c_Mod_fits h) rfl ho kw67 kw69 kw70 kw29 kw68 hd_Mod_fits ⟨by decide, by decide⟩ hl.1 rfl (Nat.le_of_ble_eq_true rfl) d_Mod_route_50 (mc := 0) (ms := 0) rfl rfl ⟨by decide, by decide⟩ (fun v M' H locs hp hM hS => ?_)
          obtain ⟨v7, rfl, rfl, h⟩ := hp
          refine lv_if_ne (tgt := 59) C.1.1 C.1.2.1 d_Mod_route_53 (by decide) (fun c9 => ?_) (fun c9 => ?_)
          · have h := h.2 c9
            refine lv_aload_n C.1.1 C.1.2.1 d_Mod_route_59 rfl (lv_at hl 0 rfl) ?_
            obtain ⟨v10, ev10, h⟩ := h
            refine mg_R C.1 hM ok_Mod (by decide) kw11 ev10 d_Mod_route_60 ?_
            refine lv_iload_n C.1.1 C.1.2.1 d_Mod_route_63 rfl (lv_at hl 2 rfl) ?_
            refine lv_dup2_11 C.1.1 C.1.2.1 d_Mod_route_64 rfl rfl ?_
            obtain ⟨v11, ev11, h⟩ := h
            refine ma_I C.1 hM 2 rfl ev11 d_Mod_route_65 ?_
            refine lv_iconst (v := (1 : Int32)) C.1.1 C.1.2.1 d_Mod_route_66 (by decide) ?_
            refine lv_iadd C.1.1 C.1.2.1 d_Mod_route_67 ?_
            obtain ⟨M12, eM12, h⟩ := h
            refine ms_I C.1 hM hS 2 rfl eM12 d_Mod_route_68 (fun H locs hM hS => ?_)
            refine lv_iload_n C.1.1 C.1.2.1 d_Mod_route_69 rfl (lv_at hl 1 rfl) ?_
            refine lv_iconst (v := (1 : Int32)) C.1.1 C.1.2.1 d_Mod_route_70 (by decide) ?_
            refine lv_aload_n C.1.1 C.1.2.1 d_Mod_route_71 rfl (lv_at hl 0 rfl) ?_
            obtain ⟨v13, ev13, h⟩ := h
            refine mg_R C.1 hM ok_Mod (by decide) kw1 ev13 d_Mod_route_72 ?_
            refine lv_iload_n C.1.1 C.1.2.1 d_Mod_route_75 rfl (lv_at hl 2 rfl) ?_
            obtain ⟨v14, ev14, h⟩ := h
            refine ma_I C.1 hM 2 rfl ev14 d_Mod_route_76 ?_
            refine lv_ishl C.1.1 C.1.2.1 d_Mod_route_77 ?_
            refine lv_ior C.1.1 C.1.2.1 d_Mod_route_78 ?_
            refine lv_istore_n (lv' := [(1, .int (x1 ||| ((1 : Int32) <<< (v14 &&& 31)))), (0, .ref x0), (2, .int x2)]) C.1.1 C.1.2.1 d_Mod_route_79 rfl hl (by decide) rfl (fun ls hl => ?_)
            exact t_Mod_route_b80 C h (fun y1 y2 N hJ => ih y1 y2 N hJ.1 (Nat.lt_of_lt_of_le hJ.2 (Nat.le_of_lt_succ hn))) _ _ _ hM hS (lv_sub hl [1, 0, 2] rfl)
          · have h := h.1 c9
            refine lv_goto (tgt := 80) C.1.1 C.1.2.1 d_Mod_route_56 (by decide) ?_
            exact t_Mod_route_b80 C h (fun y1 y2 N hJ => ih y1 y2 N hJ.1 (Nat.lt_of_lt_of_le hJ.2 (Nat.le_of_lt_succ hn))) _ _ _ hM hS (lv_sub hl [0, 1, 2] rfl)
  exact key _ x1 x2 M hI (Nat.lt_succ_self _)
def wp_Mod_route (g : Nat → ClassId) (M : Mem) (x0 : Nat) (P : Int32 → Mem → Prop) : Prop :=
  isO M 6 x0 ∧ (wp_Mod_reads g M x0 (0 : Int32) (fun (v1 : Int32) (M2 : Mem) => (v1 = 0 → (isO M2 6 x0 ∧ (wp_Mod_raise g M2 x0 (1 : Int32) (fun (v5 : Int32) (M6 : Mem) => P v5 M6)))) ∧ (¬ v1 = 0 → (∃ M4 : Mem, pV M2 6 x0 0 (.int (0 : Int32)) = some M4 ∧ (wp_Mod_route_b23 g P M4 x0 (0 : Int32) (0 : Int32))))))
set_option maxHeartbeats 4000000 in
set_option maxRecDepth 100000 in
theorem c_Mod_route {l : Launch} {D : va_G} {g : Nat → ClassId} {M : Mem} {x0 : Nat} {P : Int32 → Mem → Prop} (h : wp_Mod_route g M x0 P) : mMet l BIG D vwCl (tysG g) y_Mod_route b_Mod_route 3 (some .int) rm_Mod_route [.ref x0] M (kI fun r M' => P r M') := by
  refine mMet.of (own := R_Mod) rfl (by decide) rfl (fun p e s m below meth c C hr hlk hnm ls hM hS hl => ?_)
  have C : C_Mod_route D g p s m ([.ref x0] : List Value).toArray meth c M := ⟨C, hr, hlk⟩
  unfold wp_Mod_route at h
  have hl : lv_has ls 3 [(0, .ref x0)] := hl
  refine lv_aload_n C.1.1 C.1.2.1 d_Mod_route_0 rfl (lv_at hl 0 rfl) ?_
  refine lv_iconst (v := (0 : Int32)) C.1.1 C.1.2.1 d_Mod_route_1 (by decide) ?_
  obtain ⟨ho, h⟩ := h
  refine mc_V (As := [.int (0 : Int32)]) (ci := 6) C.1 hM hS bigGood (c_Mod_reads h) rfl ho kw59 kw61 kw62 kw29 kw60 hd_Mod_reads ⟨by decide, by decide⟩ hl.1 rfl (Nat.le_of_ble_eq_true rfl) d_Mod_route_2 (mc := 0) (ms := 0) rfl rfl ⟨by decide, by decide⟩ (fun v M2 H locs hp hM hS => ?_)
  obtain ⟨v1, rfl, h⟩ := hp
  refine lv_if_ne (tgt := 14) C.1.1 C.1.2.1 d_Mod_route_5 (by decide) (fun c3 => ?_) (fun c3 => ?_)
  · have h := h.2 c3
    refine lv_aload_n C.1.1 C.1.2.1 d_Mod_route_14 rfl (lv_at hl 0 rfl) ?_
    refine lv_iconst (v := (0 : Int32)) C.1.1 C.1.2.1 d_Mod_route_15 (by decide) ?_
    obtain ⟨M4, eM4, h⟩ := h
    refine mp_V C.1 hM hS ok_Mod (by decide) kw23 rfl rfl rfl eM4 d_Mod_route_16 (fun H locs hM hS => ?_)
    refine lv_iconst (v := (0 : Int32)) C.1.1 C.1.2.1 d_Mod_route_19 (by decide) ?_
    refine lv_istore_n (lv' := [(1, .int (0 : Int32)), (0, .ref x0)]) C.1.1 C.1.2.1 d_Mod_route_20 rfl hl (by decide) rfl (fun ls hl => ?_)
    refine lv_iconst (v := (0 : Int32)) C.1.1 C.1.2.1 d_Mod_route_21 (by decide) ?_
    refine lv_istore_n (lv' := [(2, .int (0 : Int32)), (1, .int (0 : Int32)), (0, .ref x0)]) C.1.1 C.1.2.1 d_Mod_route_22 rfl hl (by decide) rfl (fun ls hl => ?_)
    exact t_Mod_route_b23 C h _ _ _ hM hS (lv_sub hl [2, 1, 0] rfl)
  · have h := h.1 c3
    refine lv_aload_n C.1.1 C.1.2.1 d_Mod_route_8 rfl (lv_at hl 0 rfl) ?_
    refine lv_iconst (v := (1 : Int32)) C.1.1 C.1.2.1 d_Mod_route_9 (by decide) ?_
    obtain ⟨ho, h⟩ := h
    refine mc_V (As := [.int (1 : Int32)]) (ci := 6) C.1 hM hS bigGood (c_Mod_raise h) rfl ho kw55 kw57 kw58 kw29 kw56 hd_Mod_raise ⟨by decide, by decide⟩ hl.1 rfl (Nat.le_of_ble_eq_true rfl) d_Mod_route_10 (mc := 0) (ms := 0) rfl rfl ⟨by decide, by decide⟩ (fun v M6 H locs hp hM hS => ?_)
    obtain ⟨v5, rfl, h⟩ := hp
    exact mr_I C.1 C.2.1 C.2.2 hM hS ⟨_, rfl, h⟩ d_Mod_route_13
