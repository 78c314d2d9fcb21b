theorem d_Desk_kept_0 : decode b_Desk_kept 0 = .ok (.aload_n 0, 1) := by decide +kernel
theorem d_Desk_kept_1 : decode b_Desk_kept 1 = .ok (.iload_n 1, 1) := by decide +kernel
theorem d_Desk_kept_2 : decode b_Desk_kept 2 = .ok (.invokevirtual 83, 3) := by decide +kernel
theorem d_Desk_kept_5 : decode b_Desk_kept 5 = .ok (.astore_n 3, 1) := by decide +kernel
theorem d_Desk_kept_6 : decode b_Desk_kept 6 = .ok (.aload_n 3, 1) := by decide +kernel
theorem d_Desk_kept_7 : decode b_Desk_kept 7 = .ok (.ifnonnull 7, 3) := by decide +kernel
theorem d_Desk_kept_10 : decode b_Desk_kept 10 = .ok (.aconst_null, 1) := by decide +kernel
theorem d_Desk_kept_11 : decode b_Desk_kept 11 = .ok (.goto 15, 3) := by decide +kernel
theorem d_Desk_kept_14 : decode b_Desk_kept 14 = .ok (.aload_n 0, 1) := by decide +kernel
theorem d_Desk_kept_15 : decode b_Desk_kept 15 = .ok (.getfield 29, 3) := by decide +kernel
theorem d_Desk_kept_18 : decode b_Desk_kept 18 = .ok (.aload_n 3, 1) := by decide +kernel
theorem d_Desk_kept_19 : decode b_Desk_kept 19 = .ok (.invokevirtual 96, 3) := by decide +kernel
theorem d_Desk_kept_22 : decode b_Desk_kept 22 = .ok (.iload_n 2, 1) := by decide +kernel
theorem d_Desk_kept_23 : decode b_Desk_kept 23 = .ok (.invokevirtual 129, 3) := by decide +kernel
theorem d_Desk_kept_26 : decode b_Desk_kept 26 = .ok (.astore 4, 2) := by decide +kernel
theorem d_Desk_kept_28 : decode b_Desk_kept 28 = .ok (.aload 4, 2) := by decide +kernel
theorem d_Desk_kept_30 : decode b_Desk_kept 30 = .ok (.ifnonnull 13, 3) := by decide +kernel
theorem d_Desk_kept_33 : decode b_Desk_kept 33 = .ok (.new 133, 3) := by decide +kernel
theorem d_Desk_kept_36 : decode b_Desk_kept 36 = .ok (.dup, 1) := by decide +kernel
theorem d_Desk_kept_37 : decode b_Desk_kept 37 = .ok (.ldc 135, 2) := by decide +kernel
theorem d_Desk_kept_39 : decode b_Desk_kept 39 = .ok (.invokespecial 137, 3) := by decide +kernel
theorem d_Desk_kept_42 : decode b_Desk_kept 42 = .ok (.athrow, 1) := by decide +kernel
theorem d_Desk_kept_43 : decode b_Desk_kept 43 = .ok (.aload 4, 2) := by decide +kernel
theorem d_Desk_kept_45 : decode b_Desk_kept 45 = .ok (.invokevirtual 138, 3) := by decide +kernel
theorem d_Desk_kept_48 : decode b_Desk_kept 48 = .ok (.ireturn, 1) := by decide +kernel
abbrev rm_Desk_kept : Room := { frames := 6, cells := 1, slots := 6, locals := 96 }
abbrev C_Desk_kept (l : Launch) (D : va_G) (g : Nat → ClassId) (p : Program) (s : State) (m : MethodId) (args : Array Value) (meth : Method) (c : Code) (M0 : Mem) : Prop := Cx p s m args c b_Desk_kept 5 R_Desk BIG D vwCl (tysG g) (mA M0 s.heap.size) ∧ meth.sig.returnType = (some .int) ∧ CT l D vwCl s c meth M0
abbrev B_Desk_kept (l : Launch) (D : va_G) (p : Program) (e : Env) (s : State) (m : MethodId) (args : Array Value) (below : List Frame) (meth : Method) (c : Code) (M0 : Mem) (P : Int32 → Mem → Prop) (PT : Nat → Mem → Prop) (M : Mem) (pc : Nat) (lv : List (Nat × Value)) (st : List Value) : Prop := WbT p l e rm_Desk_kept s m args below meth c 5 D vwCl M0 (kI fun r M' => P r M') PT 0 0 M pc lv st
def wp_Desk_kept_b26 (g : Nat → ClassId) (P : Int32 → Mem → Prop) (PT : Nat → Mem → Prop) (M : Mem) (t0 : Option Nat) : Prop :=
  (t0 = none → (PT 3 M)) ∧ (∀ a1 : Nat, t0 = some a1 → (isO M 3 a1 ∧ (wp_Kt_value g M a1 (fun v2 : Int32 => P v2 M))))
set_option maxHeartbeats 4000000 in
set_option maxRecDepth 100000 in
theorem t_Desk_kept_b26 {l : Launch} {D : va_G} {g : Nat → ClassId} {p : Program} {e : Env} {s : State} {m : MethodId} {args : Array Value} {below : List Frame} {meth : Method} {c : Code} {M0 : Mem} {P : Int32 → Mem → Prop} {PT : Nat → Mem → Prop} {M : Mem} {t0 : Option Nat} (C : C_Desk_kept l D g p s m args meth c M0) (h : wp_Desk_kept_b26 g P PT M t0) : B_Desk_kept l D p e s m args below meth c M0 P PT M 26 [] [va_rf t0] := by
  intro ls H locs hM hS hl
  unfold wp_Desk_kept_b26 at h
  refine lq_astore (lv' := [(4, va_rf t0)]) C.1.1 C.1.2.1 d_Desk_kept_26 hl (by decide) rfl (fun ls hl => ?_)
  refine lq_aload C.1.1 C.1.2.1 d_Desk_kept_28 (lv_at hl 0 rfl) ?_
  rcases t0 with _ | a1
  · have h := h.1 rfl
    refine lv_ifnonnullN C.1.1 C.1.2.1 d_Desk_kept_30 ?_
    exact m_throw (k := 3) (rx := xr_3) C.1 C.2.2.1 C.2.2.2.1 C.2.2.2.2.1 C.2.2.2.2.2.1 C.2.2.2.2.2.2 hM hS xr_3_0 xr_3_1 xr_3_2 xr_3_5 kw312 kw313 kw314 at_137 thrS_135 (by decide) (by decide) (by decide) hl.1 d_Desk_kept_33 d_Desk_kept_36 d_Desk_kept_37 d_Desk_kept_39 d_Desk_kept_42 (by decide) (by decide) (by decide) (by decide) h
  · have h := h.2 a1 rfl
    refine lv_ifnonnull (tgt := 43) C.1.1 C.1.2.1 d_Desk_kept_30 (by decide) ?_
    refine lv_aload C.1.1 C.1.2.1 d_Desk_kept_43 (lv_at hl 0 rfl) ?_
    obtain ⟨ho, h⟩ := h
    refine mc_V (As := []) (ci := 3) C.1 hM hS bigGood (c_Kt_value h) rfl ho kw315 kw317 kw318 kw173 kw316 hd_Kt_value ⟨by decide, by decide⟩ hl.1 rfl (Nat.le_of_ble_eq_true rfl) d_Desk_kept_45 (mc := 0) (ms := 0) rfl rfl ⟨by decide, by decide⟩ (fun v M' H locs hp hM hS => ?_)
    obtain ⟨v2, rfl, rfl, h⟩ := hp
    refine W.widen (k := 1) (n := 6) (by decide) (by decide) ?_
    exact W.mono (mr_I C.1 C.2.1 C.2.2.2.2.2.1 hM hS ⟨_, rfl, h⟩ d_Desk_kept_48) (fun _ h => MQ.toT h)
def wp_Desk_kept (g : Nat → ClassId) (M : Mem) (x0 : Nat) (x1 : Int32) (x2 : Int32) (P : Int32 → Mem → Prop) (PT : Nat → Mem → Prop) : Prop :=
  isO M 0 x0 ∧ (wp_Desk_boundAt g M x0 x1 (fun v1 : Option Nat => (v1 = none → (wp_Desk_kept_b26 g P PT M none)) ∧ (∀ a3 : Nat, v1 = some a3 → (∃ v4 : Nat, gR M 0 x0 3 = some v4 ∧ (isO M 2 a3 ∧ (wp_Bnd_pattern g M a3 (fun v5 : Nat => isO M 4 v4 ∧ (wp_Shelf_takenBy g M v4 v5 x2 (fun v7 : Option Nat => wp_Desk_kept_b26 g P PT M v7)))))))))
set_option maxHeartbeats 4000000 in
set_option maxRecDepth 100000 in
theorem c_Desk_kept {l : Launch} (hfl : l.flags = pinnedFlags ++ [noTraceFlag]) {D : va_G} {g : Nat → ClassId} {M : Mem} {x0 : Nat} {x1 : Int32} {x2 : Int32} {P : Int32 → Mem → Prop} {PT : Nat → Mem → Prop} (h : wp_Desk_kept g M x0 x1 x2 P PT) : mMetT l BIG D vwCl (tysG g) y_Desk_kept b_Desk_kept 5 (some .int) rm_Desk_kept [.ref x0, .int x1, .int x2] M (kI fun r M' => P r M') PT := by
  refine mMetT.of (own := R_Desk) hfl rfl (by decide) rfl (fun p e s m below meth c C hr hCT ls hM hS hl => ?_)
  have C : C_Desk_kept l D g p s m ([.ref x0, .int x1, .int x2] : List Value).toArray meth c M := ⟨C, hr, hCT⟩
  unfold wp_Desk_kept at h
  have hl : lv_has ls 5 [(0, .ref x0), (1, .int x1), (2, .int x2)] := hl
  refine lv_aload_n C.1.1 C.1.2.1 d_Desk_kept_0 rfl (lv_at hl 0 rfl) ?_
  refine lv_iload_n C.1.1 C.1.2.1 d_Desk_kept_1 rfl (lv_at hl 1 rfl) ?_
  obtain ⟨ho, h⟩ := h
  refine mc_V (As := [.int x1]) (ci := 0) C.1 hM hS bigGood (c_Desk_boundAt h) rfl ho kw239 kw241 kw242 kw123 kw240 hd_Desk_boundAt ⟨by decide, by decide⟩ hl.1 rfl (Nat.le_of_ble_eq_true rfl) d_Desk_kept_2 (mc := 0) (ms := 0) rfl rfl ⟨by decide, by decide⟩ (fun v M' H locs hp hM hS => ?_)
  obtain ⟨v1, rfl, rfl, h⟩ := hp
  refine lq_astore_n (lv' := [(3, va_rf v1), (0, .ref x0), (1, .int x1), (2, .int x2)]) C.1.1 C.1.2.1 d_Desk_kept_5 rfl hl (by decide) rfl (fun ls hl => ?_)
  refine lq_aload_n C.1.1 C.1.2.1 d_Desk_kept_6 rfl (lv_at hl 0 rfl) ?_
  rcases v1 with _ | a3
  · have h := h.1 rfl
    refine lv_ifnonnullN C.1.1 C.1.2.1 d_Desk_kept_7 ?_
    refine lv_null C.1.1 C.1.2.1 d_Desk_kept_10 ?_
    refine lv_goto (tgt := 26) C.1.1 C.1.2.1 d_Desk_kept_11 (by decide) ?_
    exact t_Desk_kept_b26 C h _ _ _ hM hS (lv_sub hl [] rfl)
  · have h := h.2 a3 rfl
    refine lv_ifnonnull (tgt := 14) C.1.1 C.1.2.1 d_Desk_kept_7 (by decide) ?_
    refine lv_aload_n C.1.1 C.1.2.1 d_Desk_kept_14 rfl (lv_at hl 1 rfl) ?_
    obtain ⟨v4, ev4, h⟩ := h
    refine mg_R C.1 hM ok_Desk (by decide) kw223 ev4 d_Desk_kept_15 ?_
    refine lv_aload_n C.1.1 C.1.2.1 d_Desk_kept_18 rfl (lv_at hl 0 rfl) ?_
    obtain ⟨ho, h⟩ := h
    refine mc_V (As := []) (ci := 2) C.1 hM hS bigGood (c_Bnd_pattern h) rfl ho kw247 kw249 kw250 kw136 kw248 hd_Bnd_pattern ⟨by decide, by decide⟩ hl.1 rfl (Nat.le_of_ble_eq_true rfl) d_Desk_kept_19 (mc := 0) (ms := 0) rfl rfl ⟨by decide, by decide⟩ (fun v M' H locs hp hM hS => ?_)
    obtain ⟨v5, rfl, rfl, h⟩ := hp
    refine lv_iload_n C.1.1 C.1.2.1 d_Desk_kept_22 rfl (lv_at hl 3 rfl) ?_
    obtain ⟨ho, h⟩ := h
    refine mc_V (As := [.ref v5, .int x2]) (ci := 4) C.1 hM hS bigGood (c_Shelf_takenBy h) rfl ho kw319 kw321 kw322 kw188 kw320 hd_Shelf_takenBy ⟨by decide, by decide⟩ hl.1 rfl (Nat.le_of_ble_eq_true rfl) d_Desk_kept_23 (mc := 0) (ms := 0) rfl rfl ⟨by decide, by decide⟩ (fun v M' H locs hp hM hS => ?_)
    obtain ⟨v7, rfl, rfl, h⟩ := hp
    exact t_Desk_kept_b26 C h _ _ _ hM hS (lv_sub hl [] rfl)
theorem d_Desk_bind_0 : decode b_Desk_bind 0 = .ok (.aload_n 0, 1) := by decide +kernel
theorem d_Desk_bind_1 : decode b_Desk_bind 1 = .ok (.iconst 1, 1) := by decide +kernel
theorem d_Desk_bind_2 : decode b_Desk_bind 2 = .ok (.invokevirtual 56, 3) := by decide +kernel
theorem d_Desk_bind_5 : decode b_Desk_bind 5 = .ok (.istore_n 2, 1) := by decide +kernel
theorem d_Desk_bind_6 : decode b_Desk_bind 6 = .ok (.iload_n 2, 1) := by decide +kernel
theorem d_Desk_bind_7 : decode b_Desk_bind 7 = .ok (.ifCond .eq 10, 3) := by decide +kernel
theorem d_Desk_bind_10 : decode b_Desk_bind 10 = .ok (.iload_n 1, 1) := by decide +kernel
theorem d_Desk_bind_11 : decode b_Desk_bind 11 = .ok (.invokestatic 60, 3) := by decide +kernel
theorem d_Desk_bind_14 : decode b_Desk_bind 14 = .ok (.ifCond .ne 13, 3) := by decide +kernel
theorem d_Desk_bind_17 : decode b_Desk_bind 17 = .ok (.new 64, 3) := by decide +kernel
theorem d_Desk_bind_20 : decode b_Desk_bind 20 = .ok (.dup, 1) := by decide +kernel
theorem d_Desk_bind_21 : decode b_Desk_bind 21 = .ok (.ldc 66, 2) := by decide +kernel
theorem d_Desk_bind_23 : decode b_Desk_bind 23 = .ok (.invokespecial 68, 3) := by decide +kernel
theorem d_Desk_bind_26 : decode b_Desk_bind 26 = .ok (.athrow, 1) := by decide +kernel
theorem d_Desk_bind_27 : decode b_Desk_bind 27 = .ok (.aload_n 0, 1) := by decide +kernel
theorem d_Desk_bind_28 : decode b_Desk_bind 28 = .ok (.invokevirtual 71, 3) := by decide +kernel
theorem d_Desk_bind_31 : decode b_Desk_bind 31 = .ok (.istore_n 3, 1) := by decide +kernel
theorem d_Desk_bind_32 : decode b_Desk_bind 32 = .ok (.iload_n 3, 1) := by decide +kernel
theorem d_Desk_bind_33 : decode b_Desk_bind 33 = .ok (.ifCond .lt 12, 3) := by decide +kernel
theorem d_Desk_bind_36 : decode b_Desk_bind 36 = .ok (.iload_n 3, 1) := by decide +kernel
theorem d_Desk_bind_37 : decode b_Desk_bind 37 = .ok (.aload_n 0, 1) := by decide +kernel
theorem d_Desk_bind_38 : decode b_Desk_bind 38 = .ok (.getfield 21, 3) := by decide +kernel
theorem d_Desk_bind_41 : decode b_Desk_bind 41 = .ok (.arraylength, 1) := by decide +kernel
theorem d_Desk_bind_42 : decode b_Desk_bind 42 = .ok (.if_icmp .lt 13, 3) := by decide +kernel
theorem d_Desk_bind_45 : decode b_Desk_bind 45 = .ok (.new 74, 3) := by decide +kernel
theorem d_Desk_bind_48 : decode b_Desk_bind 48 = .ok (.dup, 1) := by decide +kernel
theorem d_Desk_bind_49 : decode b_Desk_bind 49 = .ok (.ldc 76, 2) := by decide +kernel
theorem d_Desk_bind_51 : decode b_Desk_bind 51 = .ok (.invokespecial 78, 3) := by decide +kernel
theorem d_Desk_bind_54 : decode b_Desk_bind 54 = .ok (.athrow, 1) := by decide +kernel
theorem d_Desk_bind_55 : decode b_Desk_bind 55 = .ok (.aload_n 0, 1) := by decide +kernel
theorem d_Desk_bind_56 : decode b_Desk_bind 56 = .ok (.getfield 21, 3) := by decide +kernel
theorem d_Desk_bind_59 : decode b_Desk_bind 59 = .ok (.iload_n 3, 1) := by decide +kernel
theorem d_Desk_bind_60 : decode b_Desk_bind 60 = .ok (.aaload, 1) := by decide +kernel
theorem d_Desk_bind_61 : decode b_Desk_bind 61 = .ok (.aload_n 0, 1) := by decide +kernel
theorem d_Desk_bind_62 : decode b_Desk_bind 62 = .ok (.getfield 16, 3) := by decide +kernel
theorem d_Desk_bind_65 : decode b_Desk_bind 65 = .ok (.iload_n 1, 1) := by decide +kernel
theorem d_Desk_bind_66 : decode b_Desk_bind 66 = .ok (.invokevirtual 79, 3) := by decide +kernel
theorem d_Desk_bind_69 : decode b_Desk_bind 69 = .ok (.iload_n 3, 1) := by decide +kernel
theorem d_Desk_bind_70 : decode b_Desk_bind 70 = .ok (.ireturn, 1) := by decide +kernel
abbrev rm_Desk_bind : Room := { frames := 6, cells := 1, slots := 6, locals := 90 }
abbrev C_Desk_bind (l : Launch) (D : va_G) (g : Nat → ClassId) (p : Program) (s : State) (m : MethodId) (args : Array Value) (meth : Method) (c : Code) (M0 : Mem) : Prop := Cx p s m args c b_Desk_bind 4 R_Desk BIG D vwCl (tysG g) (mA M0 s.heap.size) ∧ meth.sig.returnType = (some .int) ∧ CT l D vwCl s c meth M0
abbrev B_Desk_bind (l : Launch) (D : va_G) (p : Program) (e : Env) (s : State) (m : MethodId) (args : Array Value) (below : List Frame) (meth : Method) (c : Code) (M0 : Mem) (P : Int32 → Mem → Prop) (PT : Nat → Mem → Prop) (M : Mem) (pc : Nat) (lv : List (Nat × Value)) (st : List Value) : Prop := WbT p l e rm_Desk_bind s m args below meth c 4 D vwCl M0 (kI fun r M' => P r M') PT 0 0 M pc lv st
def wp_Desk_bind_b45 (g : Nat → ClassId) (P : Int32 → Mem → Prop) (PT : Nat → Mem → Prop) (M : Mem) : Prop :=
  PT 2 M
set_option maxHeartbeats 4000000 in
set_option maxRecDepth 100000 in
theorem t_Desk_bind_b45 {l : Launch} {D : va_G} {g : Nat → ClassId} {p : Program} {e : Env} {s : State} {m : MethodId} {args : Array Value} {below : List Frame} {meth : Method} {c : Code} {M0 : Mem} {P : Int32 → Mem → Prop} {PT : Nat → Mem → Prop} {M : Mem} (C : C_Desk_bind l D g p s m args meth c M0) (h : wp_Desk_bind_b45 g P PT M ) : B_Desk_bind l D p e s m args below meth c M0 P PT M 45 [] [] := by
  intro ls H locs hM hS hl
  unfold wp_Desk_bind_b45 at h
  exact m_throw (k := 2) (rx := xr_2) C.1 C.2.2.1 C.2.2.2.1 C.2.2.2.2.1 C.2.2.2.2.2.1 C.2.2.2.2.2.2 hM hS xr_2_0 xr_2_1 xr_2_2 xr_2_5 kw342 kw343 kw344 at_78 thrS_76 (by decide) (by decide) (by decide) hl.1 d_Desk_bind_45 d_Desk_bind_48 d_Desk_bind_49 d_Desk_bind_51 d_Desk_bind_54 (by decide) (by decide) (by decide) (by decide) h
def wp_Desk_bind_b17 (g : Nat → ClassId) (P : Int32 → Mem → Prop) (PT : Nat → Mem → Prop) (M : Mem) : Prop :=
  PT 1 M
set_option maxHeartbeats 4000000 in
set_option maxRecDepth 100000 in
theorem t_Desk_bind_b17 {l : Launch} {D : va_G} {g : Nat → ClassId} {p : Program} {e : Env} {s : State} {m : MethodId} {args : Array Value} {below : List Frame} {meth : Method} {c : Code} {M0 : Mem} {P : Int32 → Mem → Prop} {PT : Nat → Mem → Prop} {M : Mem} (C : C_Desk_bind l D g p s m args meth c M0) (h : wp_Desk_bind_b17 g P PT M ) : B_Desk_bind l D p e s m args below meth c M0 P PT M 17 [] [] := by
  intro ls H locs hM hS hl
  unfold wp_Desk_bind_b17 at h
  exact m_throw (k := 1) (rx := xr_1) C.1 C.2.2.1 C.2.2.2.1 C.2.2.2.2.1 C.2.2.2.2.2.1 C.2.2.2.2.2.2 hM hS xr_1_0 xr_1_1 xr_1_2 xr_1_5 kw345 kw346 kw347 at_68 thrS_66 (by decide) (by decide) (by decide) hl.1 d_Desk_bind_17 d_Desk_bind_20 d_Desk_bind_21 d_Desk_bind_23 d_Desk_bind_26 (by decide) (by decide) (by decide) (by decide) h
def wp_Desk_bind (g : Nat → ClassId) (M : Mem) (x0 : Nat) (x1 : Int32) (P : Int32 → Mem → Prop) (PT : Nat → Mem → Prop) : Prop :=
  isO M 0 x0 ∧ (wp_Desk_takeTape g M x0 (1 : Int32) (fun (v1 : Int32) (M2 : Mem) => (v1 = 0 → (wp_Desk_bind_b17 g P PT M2)) ∧ (¬ v1 = 0 → (wp_Desk_isQueue g M2 x1 (fun v4 : Int32 => (v4 = 0 → (wp_Desk_bind_b17 g P PT M2)) ∧ (¬ v4 = 0 → (isO M2 0 x0 ∧ (wp_Desk_leastFreeBinding g M2 x0 (fun v7 : Int32 => (v7 < 0 → (wp_Desk_bind_b45 g P PT M2)) ∧ (¬ v7 < 0 → (∃ v10 : Nat, gR M2 0 x0 2 = some v10 ∧ (∃ n11 : Nat, aN M2 (g 3) v10 = some n11 ∧ ((v7 < (nI n11) → (∃ v13 : Nat, gR M2 0 x0 2 = some v13 ∧ (∃ v14 : Nat, aQ M2 (g 3) v13 v7 = some (some v14) ∧ (∃ v15 : Nat, gR M2 0 x0 1 = some v15 ∧ (isO M2 2 v14 ∧ (wp_Bnd_tie g M2 v14 v15 x1 (fun (M17 : Mem) => P v7 M17))))))) ∧ (¬ v7 < (nI n11) → (wp_Desk_bind_b45 g P PT M2)))))))))))))))
set_option maxHeartbeats 4000000 in
set_option maxRecDepth 100000 in
theorem c_Desk_bind {l : Launch} (hfl : l.flags = pinnedFlags ++ [noTraceFlag]) {D : va_G} {g : Nat → ClassId} {M : Mem} {x0 : Nat} {x1 : Int32} {P : Int32 → Mem → Prop} {PT : Nat → Mem → Prop} (h : wp_Desk_bind g M x0 x1 P PT) : mMetT l BIG D vwCl (tysG g) y_Desk_bind b_Desk_bind 4 (some .int) rm_Desk_bind [.ref x0, .int x1] M (kI fun r M' => P r M') PT := by
  refine mMetT.of (own := R_Desk) hfl rfl (by decide) rfl (fun p e s m below meth c C hr hCT ls hM hS hl => ?_)
  have C : C_Desk_bind l D g p s m ([.ref x0, .int x1] : List Value).toArray meth c M := ⟨C, hr, hCT⟩
  unfold wp_Desk_bind at h
  have hl : lv_has ls 4 [(0, .ref x0), (1, .int x1)] := hl
  refine lv_aload_n C.1.1 C.1.2.1 d_Desk_bind_0 rfl (lv_at hl 0 rfl) ?_
  refine lv_iconst (v := (1 : Int32)) C.1.1 C.1.2.1 d_Desk_bind_1 (by decide) ?_
  obtain ⟨ho, h⟩ := h
  refine mc_V (As := [.int (1 : Int32)]) (ci := 0) C.1 hM hS bigGood (c_Desk_takeTape h) rfl ho kw348 kw350 kw351 kw123 kw349 hd_Desk_takeTape ⟨by decide, by decide⟩ hl.1 rfl (Nat.le_of_ble_eq_true rfl) d_Desk_bind_2 (mc := 0) (ms := 0) rfl rfl ⟨by decide, by decide⟩ (fun v M2 H locs hp hM hS => ?_)
  obtain ⟨v1, rfl, h⟩ := hp
  refine lv_istore_n (lv' := [(2, .int v1), (0, .ref x0), (1, .int x1)]) C.1.1 C.1.2.1 d_Desk_bind_5 rfl hl (by decide) rfl (fun ls hl => ?_)
  refine lv_iload_n C.1.1 C.1.2.1 d_Desk_bind_6 rfl (lv_at hl 0 rfl) ?_
  refine lv_if_eq (tgt := 17) C.1.1 C.1.2.1 d_Desk_bind_7 (by decide) (fun c3 => ?_) (fun c3 => ?_)
  · have h := h.1 c3
    exact t_Desk_bind_b17 C h _ _ _ hM hS (lv_sub hl [] rfl)
  · have h := h.2 c3
    refine lv_iload_n C.1.1 C.1.2.1 d_Desk_bind_10 rfl (lv_at hl 2 rfl) ?_
    refine mc_S (As := [.int x1]) C.1 hM hS bigGood (c_Desk_isQueue h) kw352 kw354 kw123 kw353 hd_Desk_isQueue ⟨by decide, by decide⟩ hl.1 rfl (Nat.le_of_ble_eq_true rfl) d_Desk_bind_11 (mc := 0) (ms := 0) rfl rfl ⟨by decide, by decide⟩ (fun v M' H locs hp hM hS => ?_)
    obtain ⟨v4, rfl, rfl, h⟩ := hp
    refine lv_if_ne (tgt := 27) C.1.1 C.1.2.1 d_Desk_bind_14 (by decide) (fun c6 => ?_) (fun c6 => ?_)
    · have h := h.2 c6
      refine lv_aload_n C.1.1 C.1.2.1 d_Desk_bind_27 rfl (lv_at hl 1 rfl) ?_
      obtain ⟨ho, h⟩ := h
      refine mc_V (As := []) (ci := 0) C.1 hM hS bigGood (c_Desk_leastFreeBinding h) rfl ho kw355 kw357 kw358 kw123 kw356 hd_Desk_leastFreeBinding ⟨by decide, by decide⟩ hl.1 rfl (Nat.le_of_ble_eq_true rfl) d_Desk_bind_28 (mc := 0) (ms := 0) rfl rfl ⟨by decide, by decide⟩ (fun v M' H locs hp hM hS => ?_)
      obtain ⟨v7, rfl, rfl, h⟩ := hp
      refine lv_istore_n (lv' := [(3, .int v7), (2, .int v1), (0, .ref x0), (1, .int x1)]) C.1.1 C.1.2.1 d_Desk_bind_31 rfl hl (by decide) rfl (fun ls hl => ?_)
      refine lv_iload_n C.1.1 C.1.2.1 d_Desk_bind_32 rfl (lv_at hl 0 rfl) ?_
      refine lv_if_lt (tgt := 45) C.1.1 C.1.2.1 d_Desk_bind_33 (by decide) (fun c9 => ?_) (fun c9 => ?_)
      · have h := h.1 c9
        exact t_Desk_bind_b45 C h _ _ _ hM hS (lv_sub hl [] rfl)
      · have h := h.2 c9
        refine lv_iload_n C.1.1 C.1.2.1 d_Desk_bind_36 rfl (lv_at hl 0 rfl) ?_
        refine lv_aload_n C.1.1 C.1.2.1 d_Desk_bind_37 rfl (lv_at hl 2 rfl) ?_
        obtain ⟨v10, ev10, h⟩ := h
        refine mg_R C.1 hM ok_Desk (by decide) kw133 ev10 d_Desk_bind_38 ?_
        obtain ⟨n11, en11, h⟩ := h
        refine ma_N C.1 hM 3 rfl en11 d_Desk_bind_41 ?_
        refine lv_icmp_lt (tgt := 55) C.1.1 C.1.2.1 d_Desk_bind_42 (by decide) (fun c12 => ?_) (fun c12 => ?_)
        · have h := h.1 c12
          refine lv_aload_n C.1.1 C.1.2.1 d_Desk_bind_55 rfl (lv_at hl 2 rfl) ?_
          obtain ⟨v13, ev13, h⟩ := h
          refine mg_R C.1 hM ok_Desk (by decide) kw133 ev13 d_Desk_bind_56 ?_
          refine lv_iload_n C.1.1 C.1.2.1 d_Desk_bind_59 rfl (lv_at hl 0 rfl) ?_
          obtain ⟨v14, ev14, h⟩ := h
          refine ma_R C.1 hM 3 rfl ev14 d_Desk_bind_60 ?_
          refine lv_aload_n C.1.1 C.1.2.1 d_Desk_bind_61 rfl (lv_at hl 2 rfl) ?_
          obtain ⟨v15, ev15, h⟩ := h
          refine mg_R C.1 hM ok_Desk (by decide) kw238 ev15 d_Desk_bind_62 ?_
          refine lv_iload_n C.1.1 C.1.2.1 d_Desk_bind_65 rfl (lv_at hl 3 rfl) ?_
          obtain ⟨ho, h⟩ := h
          refine mc_V (As := [.ref v15, .int x1]) (ci := 2) C.1 hM hS bigGood (c_Bnd_tie h) rfl ho kw359 kw361 kw362 kw136 kw360 hd_Bnd_tie ⟨by decide, by decide⟩ hl.1 rfl (Nat.le_of_ble_eq_true rfl) d_Desk_bind_66 (mc := 0) (ms := 0) rfl rfl ⟨by decide, by decide⟩ (fun v M17 H locs hp hM hS => ?_)
          obtain ⟨rfl, h⟩ := hp
          refine lv_iload_n C.1.1 C.1.2.1 d_Desk_bind_69 rfl (lv_at hl 0 rfl) ?_
          refine W.widen (k := 1) (n := 6) (by decide) (by decide) ?_
          exact W.mono (mr_I C.1 C.2.1 C.2.2.2.2.2.1 hM hS ⟨_, rfl, h⟩ d_Desk_bind_70) (fun _ h => MQ.toT h)
        · have h := h.2 c12
          exact t_Desk_bind_b45 C h _ _ _ hM hS (lv_sub hl [] rfl)
    · have h := h.1 c6
      exact t_Desk_bind_b17 C h _ _ _ hM hS (lv_sub hl [] rfl)
theorem d_Desk_route_0 : decode b_Desk_route 0 = .ok (.aload_n 0, 1) := by decide +kernel
theorem d_Desk_route_1 : decode b_Desk_route 1 = .ok (.iconst 0, 1) := by decide +kernel
theorem d_Desk_route_2 : decode b_Desk_route 2 = .ok (.invokevirtual 56, 3) := by decide +kernel
theorem d_Desk_route_5 : decode b_Desk_route 5 = .ok (.ifCond .ne 13, 3) := by decide +kernel
theorem d_Desk_route_8 : decode b_Desk_route 8 = .ok (.new 64, 3) := by decide +kernel
theorem d_Desk_route_11 : decode b_Desk_route 11 = .ok (.dup, 1) := by decide +kernel
theorem d_Desk_route_12 : decode b_Desk_route 12 = .ok (.ldc 90, 2) := by decide +kernel
theorem d_Desk_route_14 : decode b_Desk_route 14 = .ok (.invokespecial 68, 3) := by decide +kernel
theorem d_Desk_route_17 : decode b_Desk_route 17 = .ok (.athrow, 1) := by decide +kernel
theorem d_Desk_route_18 : decode b_Desk_route 18 = .ok (.iconst 0, 1) := by decide +kernel
theorem d_Desk_route_19 : decode b_Desk_route 19 = .ok (.istore_n 1, 1) := by decide +kernel
theorem d_Desk_route_20 : decode b_Desk_route 20 = .ok (.iconst 0, 1) := by decide +kernel
theorem d_Desk_route_21 : decode b_Desk_route 21 = .ok (.istore_n 2, 1) := by decide +kernel
theorem d_Desk_route_22 : decode b_Desk_route 22 = .ok (.iload_n 2, 1) := by decide +kernel
theorem d_Desk_route_23 : decode b_Desk_route 23 = .ok (.aload_n 0, 1) := by decide +kernel
theorem d_Desk_route_24 : decode b_Desk_route 24 = .ok (.getfield 21, 3) := by decide +kernel
theorem d_Desk_route_27 : decode b_Desk_route 27 = .ok (.arraylength, 1) := by decide +kernel
theorem d_Desk_route_28 : decode b_Desk_route 28 = .ok (.if_icmp .ge 50, 3) := by decide +kernel
theorem d_Desk_route_31 : decode b_Desk_route 31 = .ok (.aload_n 0, 1) := by decide +kernel
theorem d_Desk_route_32 : decode b_Desk_route 32 = .ok (.getfield 21, 3) := by decide +kernel
theorem d_Desk_route_35 : decode b_Desk_route 35 = .ok (.iload_n 2, 1) := by decide +kernel
theorem d_Desk_route_36 : decode b_Desk_route 36 = .ok (.aaload, 1) := by decide +kernel
theorem d_Desk_route_37 : decode b_Desk_route 37 = .ok (.astore_n 3, 1) := by decide +kernel
theorem d_Desk_route_38 : decode b_Desk_route 38 = .ok (.aload_n 3, 1) := by decide +kernel
theorem d_Desk_route_39 : decode b_Desk_route 39 = .ok (.invokevirtual 92, 3) := by decide +kernel
theorem d_Desk_route_42 : decode b_Desk_route 42 = .ok (.ifCond .eq 30, 3) := by decide +kernel
theorem d_Desk_route_45 : decode b_Desk_route 45 = .ok (.aload_n 3, 1) := by decide +kernel
theorem d_Desk_route_46 : decode b_Desk_route 46 = .ok (.invokevirtual 96, 3) := by decide +kernel
theorem d_Desk_route_49 : decode b_Desk_route 49 = .ok (.aload_n 0, 1) := by decide +kernel
theorem d_Desk_route_50 : decode b_Desk_route 50 = .ok (.getfield 16, 3) := by decide +kernel
theorem d_Desk_route_53 : decode b_Desk_route 53 = .ok (.invokevirtual 100, 3) := by decide +kernel
theorem d_Desk_route_56 : decode b_Desk_route 56 = .ok (.ifCond .eq 16, 3) := by decide +kernel
theorem d_Desk_route_59 : decode b_Desk_route 59 = .ok (.aload_n 3, 1) := by decide +kernel
theorem d_Desk_route_60 : decode b_Desk_route 60 = .ok (.invokevirtual 104, 3) := by decide +kernel
theorem d_Desk_route_63 : decode b_Desk_route 63 = .ok (.iload_n 1, 1) := by decide +kernel
theorem d_Desk_route_64 : decode b_Desk_route 64 = .ok (.iconst 1, 1) := by decide +kernel
theorem d_Desk_route_65 : decode b_Desk_route 65 = .ok (.aload_n 3, 1) := by decide +kernel
theorem d_Desk_route_66 : decode b_Desk_route 66 = .ok (.invokevirtual 107, 3) := by decide +kernel
theorem d_Desk_route_69 : decode b_Desk_route 69 = .ok (.ishl, 1) := by decide +kernel
theorem d_Desk_route_70 : decode b_Desk_route 70 = .ok (.ior, 1) := by decide +kernel
theorem d_Desk_route_71 : decode b_Desk_route 71 = .ok (.istore_n 1, 1) := by decide +kernel
theorem d_Desk_route_72 : decode b_Desk_route 72 = .ok (.iinc 2 1, 3) := by decide +kernel
theorem d_Desk_route_75 : decode b_Desk_route 75 = .ok (.goto (-53), 3) := by decide +kernel
theorem d_Desk_route_78 : decode b_Desk_route 78 = .ok (.iload_n 1, 1) := by decide +kernel
theorem d_Desk_route_79 : decode b_Desk_route 79 = .ok (.ireturn, 1) := by decide +kernel
abbrev rm_Desk_route : Room := { frames := 6, cells := 1, slots := 6, locals := 90 }
abbrev C_Desk_route (l : Launch) (D : va_G) (g : Nat → ClassId) (p : Program) (s : State) (m : MethodId) (args : Array Value) (meth : Method) (c : Code) (M0 : Mem) : Prop := Cx p s m args c b_Desk_route 4 R_Desk BIG D vwCl (tysG g) (mA M0 s.heap.size) ∧ meth.sig.returnType = (some .int) ∧ CT l D vwCl s c meth M0
abbrev B_Desk_route (l : Launch) (D : va_G) (p : Program) (e : Env) (s : State) (m : MethodId) (args : Array Value) (below : List Frame) (meth : Method) (c : Code) (M0 : Mem) (P : Int32 → Mem → Prop) (PT : Nat → Mem → Prop) (M : Mem) (pc : Nat) (lv : List (Nat × Value)) (st : List Value) : Prop := WbT p l e rm_Desk_route s m args below meth c 4 D vwCl M0 (kI fun r M' => P r M') PT 0 0 M pc lv st
def wp_Desk_route_b72 (g : Nat → ClassId) (P : Int32 → Mem → Prop) (PT : Nat → Mem → Prop) (J22 : Int32 → Int32 → Mem → Prop) (M : Mem) (x0 : Nat) (x1 : Int32) (x2 : Int32) : Prop :=
  J22 x1 (x2 + (1 : Int32)) M
set_option maxHeartbeats 4000000 in
set_option maxRecDepth 100000 in
theorem t_Desk_route_b72 {l : Launch} {D : va_G} {g : Nat → ClassId} {p : Program} {e : Env} {s : State} {m : MethodId} {args : Array Value} {below : List Frame} {meth : Method} {c : Code} {M0 : Mem} {P : Int32 → Mem → Prop} {PT : Nat → Mem → Prop} {J22 : Int32 → Int32 → Mem → Prop} {M : Mem} {x0 : Nat} {x1 : Int32} {x2 : Int32} (C : C_Desk_route l D g p s m args meth c M0) (h : wp_Desk_route_b72 g P PT J22 M x0 x1 x2 ) (kJ22 : ∀ (x1 : Int32) (x2 : Int32) (M : Mem), J22 x1 x2 M → B_Desk_route l D p e s m args below meth c M0 P PT M 22 [(0, .ref x0), (1, .int x1), (2, .int x2)] []) : B_Desk_route l D p e s m args below meth c M0 P PT M 72 [(0, .ref x0), (1, .int x1), (2, .int x2)] [] := by
  intro ls H locs hM hS hl
  unfold wp_Desk_route_b72 at h
  refine lv_iinc (v := x2 + (1 : Int32)) (lv' := [(2, .int (x2 + (1 : Int32))), (0, .ref x0), (1, .int x1)]) C.1.1 C.1.2.1 d_Desk_route_72 hl (k := 2) rfl rfl (by decide) rfl (fun ls hl => ?_)
  refine lv_goto (tgt := 22) C.1.1 C.1.2.1 d_Desk_route_75 (by decide) ?_
  exact kJ22 x1 (x2 + (1 : Int32)) M h _ _ _ hM hS (lv_sub hl [1, 2, 0] rfl)
def wp_Desk_route_b22 (g : Nat → ClassId) (P : Int32 → Mem → Prop) (PT : Nat → Mem → Prop) (M : Mem) (x0 : Nat) (x1 : Int32) (x2 : Int32) : Prop :=
  ∃ (I : Int32 → Int32 → Mem → Prop) (μ : Int32 → Int32 → Mem → Nat), I x1 x2 M ∧ ∀ (x1 : Int32) (x2 : Int32) (M : Mem), I x1 x2 M →
  ∃ v1 : Nat, gR M 0 x0 2 = some v1 ∧ (∃ n2 : Nat, aN M (g 3) v1 = some n2 ∧ (((nI n2) ≤ x2 → (P x1 M)) ∧ (¬ (nI n2) ≤ x2 → (∃ v4 : Nat, gR M 0 x0 2 = some v4 ∧ (∃ v5 : Nat, aQ M (g 3) v4 x2 = some (some v5) ∧ (isO M 2 v5 ∧ (wp_Bnd_isBound g M v5 (fun v6 : Int32 => (v6 = 0 → (wp_Desk_route_b72 g P PT (fun y1 y2 N => I y1 y2 N ∧ μ y1 y2 N < μ x1 x2 M) M x0 x1 x2)) ∧ (¬ v6 = 0 → (isO M 2 v5 ∧ (wp_Bnd_pattern g M v5 (fun v9 : Nat => ∃ v11 : Nat, gR M 0 x0 1 = some v11 ∧ (isO M 1 v9 ∧ (wp_Text_takes g M v9 v11 (fun v12 : Int32 => (v12 = 0 → (wp_Desk_route_b72 g P PT (fun y1 y2 N => I y1 y2 N ∧ μ y1 y2 N < μ x1 x2 M) M x0 x1 x2)) ∧ (¬ v12 = 0 → (isO M 2 v5 ∧ (wp_Bnd_countRouted g M v5 (fun (M16 : Mem) => isO M16 2 v5 ∧ (wp_Bnd_queue g M16 v5 (fun v17 : Int32 => wp_Desk_route_b72 g P PT (fun y1 y2 N => I y1 y2 N ∧ μ y1 y2 N < μ x1 x2 M) M16 x0 (x1 ||| ((1 : Int32) <<< (v17 &&& 31))) x2)))))))))))))))))))))
set_option maxHeartbeats 4000000 in
set_option maxRecDepth 100000 in
theorem t_Desk_route_b22 {l : Launch} {D : va_G} {g : Nat → ClassId} {p : Program} {e : Env} {s : State} {m : MethodId} {args : Array Value} {below : List Frame} {meth : Method} {c : Code} {M0 : Mem} {P : Int32 → Mem → Prop} {PT : Nat → Mem → Prop} {M : Mem} {x0 : Nat} {x1 : Int32} {x2 : Int32} (C : C_Desk_route l D g p s m args meth c M0) (h : wp_Desk_route_b22 g P PT M x0 x1 x2 ) : B_Desk_route l D p e s m args below meth c M0 P PT M 22 [(0, .ref x0), (1, .int x1), (2, .int x2)] [] := by
  unfold wp_Desk_route_b22 at h
  obtain ⟨I, μ, hI, hb⟩ := h
  have key : ∀ (n : Nat) (x1 : Int32) (x2 : Int32) (M : Mem), I x1 x2 M → μ x1 x2 M < n → B_Desk_route l D p e s m args below meth c M0 P PT M 22 [(0, .ref x0), (1, .int x1), (2, .int x2)] [] := by
    intro n
    induction n with
    | zero => intro x1 x2 M _ hn; exact absurd hn (Nat.not_lt_zero _)
    | succ n ih =>
      intro x1 x2 M hI hn ls H locs hM hS hl
      have h := hb x1 x2 M hI
      refine lv_iload_n C.1.1 C.1.2.1 d_Desk_route_22 rfl (lv_at hl 2 rfl) ?_
      refine lv_aload_n C.1.1 C.1.2.1 d_Desk_route_23 rfl (lv_at hl 0 rfl) ?_
      obtain ⟨v1, ev1, h⟩ := h
      refine mg_R C.1 hM ok_Desk (by decide) kw133 ev1 d_Desk_route_24 ?_
      obtain ⟨n2, en2, h⟩ := h
      refine ma_N C.1 hM 3 rfl en2 d_Desk_route_27 ?_
      refine lv_icmp_ge (tgt := 78) C.1.1 C.1.2.1 d_Desk_route_28 (by decide) (fun c3 => ?_) (fun c3 => ?_)
      · have h := h.1 c3
        refine lv_iload_n C.1.1 C.1.2.1 d_Desk_route_78 rfl (lv_at hl 1 rfl) ?_
        refine W.widen (k := 1) (n := 6) (by decide) (by decide) ?_
        exact W.mono (mr_I C.1 C.2.1 C.2.2.2.2.2.1 hM hS ⟨_, rfl, h⟩ d_Desk_route_79) (fun _ h => MQ.toT h)
      · have h := h.2 c3
        refine lv_aload_n C.1.1 C.1.2.1 d_Desk_route_31 rfl (lv_at hl 0 rfl) ?_
        obtain ⟨v4, ev4, h⟩ := h
        refine mg_R C.1 hM ok_Desk (by decide) kw133 ev4 d_Desk_route_32 ?_
        refine lv_iload_n C.1.1 C.1.2.1 d_Desk_route_35 rfl (lv_at hl 2 rfl) ?_
        obtain ⟨v5, ev5, h⟩ := h
        refine ma_R C.1 hM 3 rfl ev5 d_Desk_route_36 ?_
        refine lv_astore_n (lv' := [(3, .ref v5), (0, .ref x0), (1, .int x1), (2, .int x2)]) C.1.1 C.1.2.1 d_Desk_route_37 rfl hl (by decide) rfl (fun ls hl => ?_)
        refine lv_aload_n C.1.1 C.1.2.1 d_Desk_route_38 rfl (lv_at hl 0 rfl) ?_
        obtain ⟨ho, h⟩ := h
        refine mc_V (As := []) (ci := 2) C.1 hM hS bigGood (c_Bnd_isBound h) rfl ho kw134 kw137 kw138 kw136 kw135 hd_Bnd_isBound ⟨by decide, by decide⟩ hl.1 rfl (Nat.le_of_ble_eq_true rfl) d_Desk_route_39 (mc := 0) (ms := 0) rfl rfl ⟨by decide, by decide⟩ (fun v M' H locs hp hM hS => ?_)
        obtain ⟨v6, rfl, rfl, h⟩ := hp
        refine lv_if_eq (tgt := 72) C.1.1 C.1.2.1 d_Desk_route_42 (by decide) (fun c8 => ?_) (fun c8 => ?_)
        · have h := h.1 c8
          exact t_Desk_route_b72 C h (fun y1 y2 N hJ => ih y1 y2 N hJ.1 (Nat.lt_of_lt_of_le hJ.2 (Nat.le_of_lt_succ hn))) _ _ _ hM hS (lv_sub hl [1, 2, 3] rfl)
        · have h := h.2 c8
          refine lv_aload_n C.1.1 C.1.2.1 d_Desk_route_45 rfl (lv_at hl 0 rfl) ?_
          obtain ⟨ho, h⟩ := h
          refine mc_V (As := []) (ci := 2) C.1 hM hS bigGood (c_Bnd_pattern h) rfl ho kw247 kw249 kw250 kw136 kw248 hd_Bnd_pattern ⟨by decide, by decide⟩ hl.1 rfl (Nat.le_of_ble_eq_true rfl) d_Desk_route_46 (mc := 0) (ms := 0) rfl rfl ⟨by decide, by decide⟩ (fun v M' H locs hp hM hS => ?_)
          obtain ⟨v9, rfl, rfl, h⟩ := hp
          refine lv_aload_n C.1.1 C.1.2.1 d_Desk_route_49 rfl (lv_at hl 1 rfl) ?_
          obtain ⟨v11, ev11, h⟩ := h
          refine mg_R C.1 hM ok_Desk (by decide) kw238 ev11 d_Desk_route_50 ?_
          obtain ⟨ho, h⟩ := h
          refine mc_V (As := [.ref v11]) (ci := 1) C.1 hM hS bigGood (c_Text_takes h) rfl ho kw363 kw294 kw295 kw107 kw293 hd_Text_takes ⟨by decide, by decide⟩ hl.1 rfl (Nat.le_of_ble_eq_true rfl) d_Desk_route_53 (mc := 0) (ms := 0) rfl rfl ⟨by decide, by decide⟩ (fun v M' H locs hp hM hS => ?_)
          obtain ⟨v12, rfl, rfl, h⟩ := hp
          refine lv_if_eq (tgt := 72) C.1.1 C.1.2.1 d_Desk_route_56 (by decide) (fun c14 => ?_) (fun c14 => ?_)
          · have h := h.1 c14
            exact t_Desk_route_b72 C h (fun y1 y2 N hJ => ih y1 y2 N hJ.1 (Nat.lt_of_lt_of_le hJ.2 (Nat.le_of_lt_succ hn))) _ _ _ hM hS (lv_sub hl [1, 2, 3] rfl)
          · have h := h.2 c14
            refine lv_aload_n C.1.1 C.1.2.1 d_Desk_route_59 rfl (lv_at hl 0 rfl) ?_
            obtain ⟨ho, h⟩ := h
            refine mc_V (As := []) (ci := 2) C.1 hM hS bigGood (c_Bnd_countRouted h) rfl ho kw364 kw366 kw367 kw136 kw365 hd_Bnd_countRouted ⟨by decide, by decide⟩ hl.1 rfl (Nat.le_of_ble_eq_true rfl) d_Desk_route_60 (mc := 0) (ms := 0) rfl rfl ⟨by decide, by decide⟩ (fun v M16 H locs hp hM hS => ?_)
            obtain ⟨rfl, h⟩ := hp
            refine lv_iload_n C.1.1 C.1.2.1 d_Desk_route_63 rfl (lv_at hl 2 rfl) ?_
            refine lv_iconst (v := (1 : Int32)) C.1.1 C.1.2.1 d_Desk_route_64 (by decide) ?_
            refine lv_aload_n C.1.1 C.1.2.1 d_Desk_route_65 rfl (lv_at hl 0 rfl) ?_
            obtain ⟨ho, h⟩ := h
            refine mc_V (As := []) (ci := 2) C.1 hM hS bigGood (c_Bnd_queue h) rfl ho kw300 kw302 kw303 kw136 kw301 hd_Bnd_queue ⟨by decide, by decide⟩ hl.1 rfl (Nat.le_of_ble_eq_true rfl) d_Desk_route_66 (mc := 0) (ms := 0) rfl rfl ⟨by decide, by decide⟩ (fun v M' H locs hp hM hS => ?_)
            obtain ⟨v17, rfl, rfl, h⟩ := hp
            refine lv_ishl C.1.1 C.1.2.1 d_Desk_route_69 ?_
            refine lv_ior C.1.1 C.1.2.1 d_Desk_route_70 ?_
            refine lv_istore_n (lv' := [(1, .int (x1 ||| ((1 : Int32) <<< (v17 &&& 31)))), (3, .ref v5), (0, .ref x0), (2, .int x2)]) C.1.1 C.1.2.1 d_Desk_route_71 rfl hl (by decide) rfl (fun ls hl => ?_)
            exact t_Desk_route_b72 C h (fun y1 y2 N hJ => ih y1 y2 N hJ.1 (Nat.lt_of_lt_of_le hJ.2 (Nat.le_of_lt_succ hn))) _ _ _ hM hS (lv_sub hl [2, 0, 3] rfl)
  exact key _ x1 x2 M hI (Nat.lt_succ_self _)
def wp_Desk_route (g : Nat → ClassId) (M : Mem) (x0 : Nat) (P : Int32 → Mem → Prop) (PT : Nat → Mem → Prop) : Prop :=
  isO M 0 x0 ∧ (wp_Desk_takeTape g M x0 (0 : Int32) (fun (v1 : Int32) (M2 : Mem) => (v1 = 0 → (PT 1 M2)) ∧ (¬ v1 = 0 → (wp_Desk_route_b22 g P PT M2 x0 (0 : Int32) (0 : Int32)))))
set_option maxHeartbeats 4000000 in
set_option maxRecDepth 100000 in
theorem c_Desk_route {l : Launch} (hfl : l.flags = pinnedFlags ++ [noTraceFlag]) {D : va_G} {g : Nat → ClassId} {M : Mem} {x0 : Nat} {P : Int32 → Mem → Prop} {PT : Nat → Mem → Prop} (h : wp_Desk_route g M x0 P PT) : mMetT l BIG D vwCl (tysG g) y_Desk_route b_Desk_route 4 (some .int) rm_Desk_route [.ref x0] M (kI fun r M' => P r M') PT := by
  refine mMetT.of (own := R_Desk) hfl rfl (by decide) rfl (fun p e s m below meth c C hr hCT ls hM hS hl => ?_)
  have C : C_Desk_route l D g p s m ([.ref x0] : List Value).toArray meth c M := ⟨C, hr, hCT⟩
  unfold wp_Desk_route at h
  have hl : lv_has ls 4 [(0, .ref x0)] := hl
  refine lv_aload_n C.1.1 C.1.2.1 d_Desk_route_0 rfl (lv_at hl 0 rfl) ?_
  refine lv_iconst (v := (0 : Int32)) C.1.1 C.1.2.1 d_Desk_route_1 (by decide) ?_
  obtain ⟨ho, h⟩ := h
  refine mc_V (As := [.int (0 : Int32)]) (ci := 0) C.1 hM hS bigGood (c_Desk_takeTape h) rfl ho kw348 kw350 kw351 kw123 kw349 hd_Desk_takeTape ⟨by decide, by decide⟩ hl.1 rfl (Nat.le_of_ble_eq_true rfl) d_Desk_route_2 (mc := 0) (ms := 0) rfl rfl ⟨by decide, by decide⟩ (fun v M2 H locs hp hM hS => ?_)
  obtain ⟨v1, rfl, h⟩ := hp
  refine lv_if_ne (tgt := 18) C.1.1 C.1.2.1 d_Desk_route_5 (by decide) (fun c3 => ?_) (fun c3 => ?_)
  · have h := h.2 c3
    refine lv_iconst (v := (0 : Int32)) C.1.1 C.1.2.1 d_Desk_route_18 (by decide) ?_
    refine lv_istore_n (lv' := [(1, .int (0 : Int32)), (0, .ref x0)]) C.1.1 C.1.2.1 d_Desk_route_19 rfl hl (by decide) rfl (fun ls hl => ?_)
    refine lv_iconst (v := (0 : Int32)) C.1.1 C.1.2.1 d_Desk_route_20 (by decide) ?_
    refine lv_istore_n (lv' := [(2, .int (0 : Int32)), (1, .int (0 : Int32)), (0, .ref x0)]) C.1.1 C.1.2.1 d_Desk_route_21 rfl hl (by decide) rfl (fun ls hl => ?_)
    exact t_Desk_route_b22 C h _ _ _ hM hS (lv_sub hl [2, 1, 0] rfl)
  · have h := h.1 c3
    exact m_throw (k := 1) (rx := xr_1) C.1 C.2.2.1 C.2.2.2.1 C.2.2.2.2.1 C.2.2.2.2.2.1 C.2.2.2.2.2.2 hM hS xr_1_0 xr_1_1 xr_1_2 xr_1_5 kw345 kw346 kw347 at_68 thrS_90 (by decide) (by decide) (by decide) hl.1 d_Desk_route_8 d_Desk_route_11 d_Desk_route_12 d_Desk_route_14 d_Desk_route_17 (by decide) (by decide) (by decide) (by decide) h
theorem d_Desk_keep_0 : decode b_Desk_keep 0 = .ok (.aload_n 0, 1) := by decide +kernel
theorem d_Desk_keep_1 : decode b_Desk_keep 1 = .ok (.iconst 0, 1) := by decide +kernel
theorem d_Desk_keep_2 : decode b_Desk_keep 2 = .ok (.invokevirtual 56, 3) := by decide +kernel
theorem d_Desk_keep_5 : decode b_Desk_keep 5 = .ok (.ifCond .ne 13, 3) := by decide +kernel
theorem d_Desk_keep_8 : decode b_Desk_keep 8 = .ok (.new 64, 3) := by decide +kernel
theorem d_Desk_keep_11 : decode b_Desk_keep 11 = .ok (.dup, 1) := by decide +kernel
theorem d_Desk_keep_12 : decode b_Desk_keep 12 = .ok (.ldc 90, 2) := by decide +kernel
theorem d_Desk_keep_14 : decode b_Desk_keep 14 = .ok (.invokespecial 68, 3) := by decide +kernel
theorem d_Desk_keep_17 : decode b_Desk_keep 17 = .ok (.athrow, 1) := by decide +kernel
theorem d_Desk_keep_18 : decode b_Desk_keep 18 = .ok (.aload_n 0, 1) := by decide +kernel
theorem d_Desk_keep_19 : decode b_Desk_keep 19 = .ok (.getfield 29, 3) := by decide +kernel
theorem d_Desk_keep_22 : decode b_Desk_keep 22 = .ok (.aload_n 0, 1) := by decide +kernel
theorem d_Desk_keep_23 : decode b_Desk_keep 23 = .ok (.getfield 16, 3) := by decide +kernel
theorem d_Desk_keep_26 : decode b_Desk_keep 26 = .ok (.iload_n 1, 1) := by decide +kernel
theorem d_Desk_keep_27 : decode b_Desk_keep 27 = .ok (.invokevirtual 110, 3) := by decide +kernel
theorem d_Desk_keep_30 : decode b_Desk_keep 30 = .ok (.ifCond .ne 13, 3) := by decide +kernel
theorem d_Desk_keep_33 : decode b_Desk_keep 33 = .ok (.new 74, 3) := by decide +kernel
theorem d_Desk_keep_36 : decode b_Desk_keep 36 = .ok (.dup, 1) := by decide +kernel
theorem d_Desk_keep_37 : decode b_Desk_keep 37 = .ok (.ldc 114, 2) := by decide +kernel
theorem d_Desk_keep_39 : decode b_Desk_keep 39 = .ok (.invokespecial 78, 3) := by decide +kernel
theorem d_Desk_keep_42 : decode b_Desk_keep 42 = .ok (.athrow, 1) := by decide +kernel
theorem d_Desk_keep_43 : decode b_Desk_keep 43 = .ok (.aload_n 0, 1) := by decide +kernel
theorem d_Desk_keep_44 : decode b_Desk_keep 44 = .ok (.getfield 29, 3) := by decide +kernel
theorem d_Desk_keep_47 : decode b_Desk_keep 47 = .ok (.invokevirtual 116, 3) := by decide +kernel
theorem d_Desk_keep_50 : decode b_Desk_keep 50 = .ok (.ireturn, 1) := by decide +kernel
abbrev rm_Desk_keep : Room := { frames := 6, cells := 1, slots := 6, locals := 110 }
abbrev C_Desk_keep (l : Launch) (D : va_G) (g : Nat → ClassId) (p : Program) (s : State) (m : MethodId) (args : Array Value) (meth : Method) (c : Code) (M0 : Mem) : Prop := Cx p s m args c b_Desk_keep 2 R_Desk BIG D vwCl (tysG g) (mA M0 s.heap.size) ∧ meth.sig.returnType = (some .int) ∧ CT l D vwCl s c meth M0
abbrev B_Desk_keep (l : Launch) (D : va_G) (p : Program) (e : Env) (s : State) (m : MethodId) (args : Array Value) (below : List Frame) (meth : Method) (c : Code) (M0 : Mem) (P : Int32 → Mem → Prop) (PT : Nat → Mem → Prop) (M : Mem) (pc : Nat) (lv : List (Nat × Value)) (st : List Value) : Prop := WbT p l e rm_Desk_keep s m args below meth c 2 D vwCl M0 (kI fun r M' => P r M') PT 0 0 M pc lv st
def wp_Desk_keep (g : Nat → ClassId) (M : Mem) (x0 : Nat) (x1 : Int32) (P : Int32 → Mem → Prop) (PT : Nat → Mem → Prop) : Prop :=
  isO M 0 x0 ∧ (wp_Desk_takeTape g M x0 (0 : Int32) (fun (v1 : Int32) (M2 : Mem) => (v1 = 0 → (PT 1 M2)) ∧ (¬ v1 = 0 → (∃ v4 : Nat, gR M2 0 x0 3 = some v4 ∧ (∃ v5 : Nat, gR M2 0 x0 1 = some v5 ∧ (isO M2 4 v4 ∧ (wp_Shelf_put g M2 v4 v5 x1 (fun (v6 : Int32) (M7 : Mem) => (v6 = 0 → (PT 2 M7)) ∧ (¬ v6 = 0 → (∃ v9 : Nat, gR M7 0 x0 3 = some v9 ∧ (isO M7 4 v9 ∧ (wp_Shelf_size g M7 v9 (fun v10 : Int32 => P v10 M7)))))))))))))
set_option maxHeartbeats 4000000 in
set_option maxRecDepth 100000 in
theorem c_Desk_keep {l : Launch} (hfl : l.flags = pinnedFlags ++ [noTraceFlag]) {D : va_G} {g : Nat → ClassId} {M : Mem} {x0 : Nat} {x1 : Int32} {P : Int32 → Mem → Prop} {PT : Nat → Mem → Prop} (h : wp_Desk_keep g M x0 x1 P PT) : mMetT l BIG D vwCl (tysG g) y_Desk_keep b_Desk_keep 2 (some .int) rm_Desk_keep [.ref x0, .int x1] M (kI fun r M' => P r M') PT := by
  refine mMetT.of (own := R_Desk) hfl rfl (by decide) rfl (fun p e s m below meth c C hr hCT ls hM hS hl => ?_)
  have C : C_Desk_keep l D g p s m ([.ref x0, .int x1] : List Value).toArray meth c M := ⟨C, hr, hCT⟩
  unfold wp_Desk_keep at h
  have hl : lv_has ls 2 [(0, .ref x0), (1, .int x1)] := hl
  refine lv_aload_n C.1.1 C.1.2.1 d_Desk_keep_0 rfl (lv_at hl 0 rfl) ?_
  refine lv_iconst (v := (0 : Int32)) C.1.1 C.1.2.1 d_Desk_keep_1 (by decide) ?_
  obtain ⟨ho, h⟩ := h
  refine mc_V (As := [.int (0 : Int32)]) (ci := 0) C.1 hM hS bigGood (c_Desk_takeTape h) rfl ho kw348 kw350 kw351 kw123 kw349 hd_Desk_takeTape ⟨by decide, by decide⟩ hl.1 rfl (Nat.le_of_ble_eq_true rfl) d_Desk_keep_2 (mc := 0) (ms := 0) rfl rfl ⟨by decide, by decide⟩ (fun v M2 H locs hp hM hS => ?_)
  obtain ⟨v1, rfl, h⟩ := hp
  refine lv_if_ne (tgt := 18) C.1.1 C.1.2.1 d_Desk_keep_5 (by decide) (fun c3 => ?_) (fun c3 => ?_)
  · have h := h.2 c3
    refine lv_aload_n C.1.1 C.1.2.1 d_Desk_keep_18 rfl (lv_at hl 0 rfl) ?_
    obtain ⟨v4, ev4, h⟩ := h
    refine mg_R C.1 hM ok_Desk (by decide) kw223 ev4 d_Desk_keep_19 ?_
    refine lv_aload_n C.1.1 C.1.2.1 d_Desk_keep_22 rfl (lv_at hl 0 rfl) ?_
    obtain ⟨v5, ev5, h⟩ := h
    refine mg_R C.1 hM ok_Desk (by decide) kw238 ev5 d_Desk_keep_23 ?_
    refine lv_iload_n C.1.1 C.1.2.1 d_Desk_keep_26 rfl (lv_at hl 1 rfl) ?_
    obtain ⟨ho, h⟩ := h
    refine mc_V (As := [.ref v5, .int x1]) (ci := 4) C.1 hM hS bigGood (c_Shelf_put h) rfl ho kw368 kw370 kw371 kw188 kw369 hd_Shelf_put ⟨by decide, by decide⟩ hl.1 rfl (Nat.le_of_ble_eq_true rfl) d_Desk_keep_27 (mc := 0) (ms := 0) rfl rfl ⟨by decide, by decide⟩ (fun v M7 H locs hp hM hS => ?_)
    obtain ⟨v6, rfl, h⟩ := hp
    refine lv_if_ne (tgt := 43) C.1.1 C.1.2.1 d_Desk_keep_30 (by decide) (fun c8 => ?_) (fun c8 => ?_)
    · have h := h.2 c8
      refine lv_aload_n C.1.1 C.1.2.1 d_Desk_keep_43 rfl (lv_at hl 0 rfl) ?_
      obtain ⟨v9, ev9, h⟩ := h
      refine mg_R C.1 hM ok_Desk (by decide) kw223 ev9 d_Desk_keep_44 ?_
      obtain ⟨ho, h⟩ := h
      refine mc_V (As := []) (ci := 4) C.1 hM hS bigGood (c_Shelf_size h) rfl ho kw372 kw374 kw375 kw188 kw373 hd_Shelf_size ⟨by decide, by decide⟩ hl.1 rfl (Nat.le_of_ble_eq_true rfl) d_Desk_keep_47 (mc := 0) (ms := 0) rfl rfl ⟨by decide, by decide⟩ (fun v M' H locs hp hM hS => ?_)
      obtain ⟨v10, rfl, rfl, h⟩ := hp
      refine W.widen (k := 1) (n := 6) (by decide) (by decide) ?_
      exact W.mono (mr_I C.1 C.2.1 C.2.2.2.2.2.1 hM hS ⟨_, rfl, h⟩ d_Desk_keep_50) (fun _ h => MQ.toT h)
    · have h := h.1 c8
      exact m_throw (k := 2) (rx := xr_2) C.1 C.2.2.1 C.2.2.2.1 C.2.2.2.2.1 C.2.2.2.2.2.1 C.2.2.2.2.2.2 hM hS xr_2_0 xr_2_1 xr_2_2 xr_2_5 kw342 kw343 kw344 at_78 thrS_114 (by decide) (by decide) (by decide) hl.1 d_Desk_keep_33 d_Desk_keep_36 d_Desk_keep_37 d_Desk_keep_39 d_Desk_keep_42 (by decide) (by decide) (by decide) (by decide) h
  · have h := h.1 c3
    exact m_throw (k := 1) (rx := xr_1) C.1 C.2.2.1 C.2.2.2.1 C.2.2.2.2.1 C.2.2.2.2.2.1 C.2.2.2.2.2.2 hM hS xr_1_0 xr_1_1 xr_1_2 xr_1_5 kw345 kw346 kw347 at_68 thrS_90 (by decide) (by decide) (by decide) hl.1 d_Desk_keep_8 d_Desk_keep_11 d_Desk_keep_12 d_Desk_keep_14 d_Desk_keep_17 (by decide) (by decide) (by decide) (by decide) h
theorem d_Desk_lose_0 : decode b_Desk_lose 0 = .ok (.aload_n 0, 1) := by decide +kernel
theorem d_Desk_lose_1 : decode b_Desk_lose 1 = .ok (.iconst 0, 1) := by decide +kernel
theorem d_Desk_lose_2 : decode b_Desk_lose 2 = .ok (.invokevirtual 56, 3) := by decide +kernel
theorem d_Desk_lose_5 : decode b_Desk_lose 5 = .ok (.ifCond .ne 13, 3) := by decide +kernel
theorem d_Desk_lose_8 : decode b_Desk_lose 8 = .ok (.new 64, 3) := by decide +kernel
theorem d_Desk_lose_11 : decode b_Desk_lose 11 = .ok (.dup, 1) := by decide +kernel
theorem d_Desk_lose_12 : decode b_Desk_lose 12 = .ok (.ldc 90, 2) := by decide +kernel
theorem d_Desk_lose_14 : decode b_Desk_lose 14 = .ok (.invokespecial 68, 3) := by decide +kernel
theorem d_Desk_lose_17 : decode b_Desk_lose 17 = .ok (.athrow, 1) := by decide +kernel
theorem d_Desk_lose_18 : decode b_Desk_lose 18 = .ok (.aload_n 0, 1) := by decide +kernel
theorem d_Desk_lose_19 : decode b_Desk_lose 19 = .ok (.getfield 29, 3) := by decide +kernel
theorem d_Desk_lose_22 : decode b_Desk_lose 22 = .ok (.aload_n 0, 1) := by decide +kernel
theorem d_Desk_lose_23 : decode b_Desk_lose 23 = .ok (.getfield 16, 3) := by decide +kernel
theorem d_Desk_lose_26 : decode b_Desk_lose 26 = .ok (.invokevirtual 119, 3) := by decide +kernel
theorem d_Desk_lose_29 : decode b_Desk_lose 29 = .ok (.ireturn, 1) := by decide +kernel
abbrev rm_Desk_lose : Room := { frames := 6, cells := 1, slots := 6, locals := 108 }
abbrev C_Desk_lose (l : Launch) (D : va_G) (g : Nat → ClassId) (p : Program) (s : State) (m : MethodId) (args : Array Value) (meth : Method) (c : Code) (M0 : Mem) : Prop := Cx p s m args c b_Desk_lose 1 R_Desk BIG D vwCl (tysG g) (mA M0 s.heap.size) ∧ meth.sig.returnType = (some .boolean) ∧ CT l D vwCl s c meth M0
abbrev B_Desk_lose (l : Launch) (D : va_G) (p : Program) (e : Env) (s : State) (m : MethodId) (args : Array Value) (below : List Frame) (meth : Method) (c : Code) (M0 : Mem) (P : Int32 → Mem → Prop) (PT : Nat → Mem → Prop) (M : Mem) (pc : Nat) (lv : List (Nat × Value)) (st : List Value) : Prop := WbT p l e rm_Desk_lose s m args below meth c 1 D vwCl M0 (kI fun r M' => P r M') PT 0 0 M pc lv st
def wp_Desk_lose (g : Nat → ClassId) (M : Mem) (x0 : Nat) (P : Int32 → Mem → Prop) (PT : Nat → Mem → Prop) : Prop :=
  isO M 0 x0 ∧ (wp_Desk_takeTape g M x0 (0 : Int32) (fun (v1 : Int32) (M2 : Mem) => (v1 = 0 → (PT 1 M2)) ∧ (¬ v1 = 0 → (∃ v4 : Nat, gR M2 0 x0 3 = some v4 ∧ (∃ v5 : Nat, gR M2 0 x0 1 = some v5 ∧ (isO M2 4 v4 ∧ (wp_Shelf_drop g M2 v4 v5 (fun (v6 : Int32) (M7 : Mem) => isB v6 ∧ P v6 M7))))))))
set_option maxHeartbeats 4000000 in
set_option maxRecDepth 100000 in
theorem c_Desk_lose {l : Launch} (hfl : l.flags = pinnedFlags ++ [noTraceFlag]) {D : va_G} {g : Nat → ClassId} {M : Mem} {x0 : Nat} {P : Int32 → Mem → Prop} {PT : Nat → Mem → Prop} (h : wp_Desk_lose g M x0 P PT) : mMetT l BIG D vwCl (tysG g) y_Desk_lose b_Desk_lose 1 (some .boolean) rm_Desk_lose [.ref x0] M (kI fun r M' => P r M') PT := by
  refine mMetT.of (own := R_Desk) hfl rfl (by decide) rfl (fun p e s m below meth c C hr hCT ls hM hS hl => ?_)
  have C : C_Desk_lose l D g p s m ([.ref x0] : List Value).toArray meth c M := ⟨C, hr, hCT⟩
  unfold wp_Desk_lose at h
  have hl : lv_has ls 1 [(0, .ref x0)] := hl
  refine lv_aload_n C.1.1 C.1.2.1 d_Desk_lose_0 rfl (lv_at hl 0 rfl) ?_
  refine lv_iconst (v := (0 : Int32)) C.1.1 C.1.2.1 d_Desk_lose_1 (by decide) ?_
  obtain ⟨ho, h⟩ := h
  refine mc_V (As := [.int (0 : Int32)]) (ci := 0) C.1 hM hS bigGood (c_Desk_takeTape h) rfl ho kw348 kw350 kw351 kw123 kw349 hd_Desk_takeTape ⟨by decide, by decide⟩ hl.1 rfl (Nat.le_of_ble_eq_true rfl) d_Desk_lose_2 (mc := 0) (ms := 0) rfl rfl ⟨by decide, by decide⟩ (fun v M2 H locs hp hM hS => ?_)
  obtain ⟨v1, rfl, h⟩ := hp
  refine lv_if_ne (tgt := 18) C.1.1 C.1.2.1 d_Desk_lose_5 (by decide) (fun c3 => ?_) (fun c3 => ?_)
  · have h := h.2 c3
    refine lv_aload_n C.1.1 C.1.2.1 d_Desk_lose_18 rfl (lv_at hl 0 rfl) ?_
    obtain ⟨v4, ev4, h⟩ := h
    refine mg_R C.1 hM ok_Desk (by decide) kw223 ev4 d_Desk_lose_19 ?_
    refine lv_aload_n C.1.1 C.1.2.1 d_Desk_lose_22 rfl (lv_at hl 0 rfl) ?_
    obtain ⟨v5, ev5, h⟩ := h
    refine mg_R C.1 hM ok_Desk (by decide) kw238 ev5 d_Desk_lose_23 ?_
    obtain ⟨ho, h⟩ := h
    refine mc_V (As := [.ref v5]) (ci := 4) C.1 hM hS bigGood (c_Shelf_drop h) rfl ho kw376 kw378 kw379 kw188 kw377 hd_Shelf_drop ⟨by decide, by decide⟩ hl.1 rfl (Nat.le_of_ble_eq_true rfl) d_Desk_lose_26 (mc := 0) (ms := 0) rfl rfl ⟨by decide, by decide⟩ (fun v M7 H locs hp hM hS => ?_)
    obtain ⟨v6, rfl, h⟩ := hp
    refine W.widen (k := 1) (n := 6) (by decide) (by decide) ?_
    exact W.mono (mr_Z C.1 C.2.1 C.2.2.2.2.2.1 h.1 hM hS ⟨_, rfl, h.2⟩ d_Desk_lose_29) (fun _ h => MQ.toT h)
  · have h := h.1 c3
    exact m_throw (k := 1) (rx := xr_1) C.1 C.2.2.1 C.2.2.2.1 C.2.2.2.2.1 C.2.2.2.2.2.1 C.2.2.2.2.2.2 hM hS xr_1_0 xr_1_1 xr_1_2 xr_1_5 kw345 kw346 kw347 at_68 thrS_90 (by decide) (by decide) (by decide) hl.1 d_Desk_lose_8 d_Desk_lose_11 d_Desk_lose_12 d_Desk_lose_14 d_Desk_lose_17 (by decide) (by decide) (by decide) (by decide) h
