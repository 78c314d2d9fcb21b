theorem d_Law_kept_0 : decode b_Law_kept 0 = .ok (.aload_n 3, 1) := by decide +kernel
theorem d_Law_kept_1 : decode b_Law_kept 1 = .ok (.iconst 0, 1) := by decide +kernel
theorem d_Law_kept_2 : decode b_Law_kept 2 = .ok (.aload_n 0, 1) := by decide +kernel
theorem d_Law_kept_3 : decode b_Law_kept 3 = .ok (.iload_n 1, 1) := by decide +kernel
theorem d_Law_kept_4 : decode b_Law_kept 4 = .ok (.iload_n 2, 1) := by decide +kernel
theorem d_Law_kept_5 : decode b_Law_kept 5 = .ok (.invokevirtual 28, 3) := by decide +kernel
theorem d_Law_kept_8 : decode b_Law_kept 8 = .ok (.i2l, 1) := by decide +kernel
theorem d_Law_kept_9 : decode b_Law_kept 9 = .ok (.lastore, 1) := by decide +kernel
theorem d_Law_kept_10 : decode b_Law_kept 10 = .ok (.goto 7, 3) := by decide +kernel
theorem d_Law_kept_13 : decode b_Law_kept 13 = .ok (.astore 4, 2) := by decide +kernel
theorem d_Law_kept_15 : decode b_Law_kept 15 = .ok (.iconst 1, 1) := by decide +kernel
theorem d_Law_kept_16 : decode b_Law_kept 16 = .ok (.ireturn, 1) := by decide +kernel
theorem d_Law_kept_17 : decode b_Law_kept 17 = .ok (.iconst 0, 1) := by decide +kernel
theorem d_Law_kept_18 : decode b_Law_kept 18 = .ok (.ireturn, 1) := by decide +kernel
abbrev rm_Law_kept : Room := { frames := 7, cells := 1, slots := 6, locals := 120 }
abbrev C_Law_kept (D : va_G) (g : Nat → ClassId) (p : Program) (s : State) (m : MethodId) (args : Array Value) (meth : Method) (c : Code) (M0 : Mem) : Prop := Cx p s m args c b_Law_kept 5 R_Law BIG D vwCl (tysG g) (mA M0 s.heap.size) ∧ meth.sig.returnType = (some .int) ∧ CH D vwCl s c meth M0 [(0, 10, 13, 32)]
abbrev B_Law_kept (l : Launch) (D : va_G) (p : Program) (e : Env) (s : State) (m : MethodId) (args : Array Value) (below : List Frame) (meth : Method) (c : Code) (M0 : Mem) (P : Int32 → Mem → Prop) (cn sn : Nat) (M : Mem) (pc : Nat) (lv : List (Nat × Value)) (st : List Value) : Prop := Wb p l e rm_Law_kept s m args below meth c 5 D vwCl M0 (kI fun r M' => P r M') cn sn M pc lv st
def wp_Law_kept (g : Nat → ClassId) (M : Mem) (x0 : Nat) (x1 : Int32) (x2 : Int32) (x3 : Nat) (P : Int32 → Mem → Prop) : Prop :=
  isO M 0 x0 ∧ (wp_Desk_kept g M x0 x1 x2 (fun (v1 : Int32) (M2 : Mem) => ∃ M5 : Mem, sL M2 (g 1) x3 (0 : Int32) v1.toInt64 = some M5 ∧ (P (0 : Int32) M5)) (fun (k3 : Nat) (M2 : Mem) => (k3 = 3 → (P (1 : Int32) M2)) ∧ (¬ k3 = 3 → (False))))
set_option maxHeartbeats 4000000 in
set_option maxRecDepth 100000 in
theorem c_Law_kept {l : Launch} (hfl : l.flags = pinnedFlags ++ [noTraceFlag]) {D : va_G} {g : Nat → ClassId} {M : Mem} {x0 : Nat} {x1 : Int32} {x2 : Int32} {x3 : Nat} {P : Int32 → Mem → Prop} (h : wp_Law_kept g M x0 x1 x2 x3 P) : mMetH l BIG D vwCl (tysG g) y_Law_kept b_Law_kept 5 (some .int) [(0, 10, 13, 32)] rm_Law_kept [.ref x0, .int x1, .int x2, .ref x3] M (kI fun r M' => P r M') := by
  refine mMetH.of (own := R_Law) rfl (by decide) rfl (fun p e s m below meth c C hr hCT ls hM hS hl => ?_)
  have C : C_Law_kept D g p s m ([.ref x0, .int x1, .int x2, .ref x3] : List Value).toArray meth c M := ⟨C, hr, hCT⟩
  have hcn : 0 + 1 ≤ 1 := by decide
  have hsn : 0 + 6 ≤ 6 := by decide
  unfold wp_Law_kept at h
  have hl : lv_has ls 5 [(0, .ref x0), (1, .int x1), (2, .int x2), (3, .ref x3)] := hl
  refine lv_aload_n C.1.1 C.1.2.1 d_Law_kept_0 rfl (lv_at hl 3 rfl) ?_
  refine lv_iconst (v := (0 : Int32)) C.1.1 C.1.2.1 d_Law_kept_1 (by decide) ?_
  refine lv_aload_n C.1.1 C.1.2.1 d_Law_kept_2 rfl (lv_at hl 0 rfl) ?_
  refine lv_iload_n C.1.1 C.1.2.1 d_Law_kept_3 rfl (lv_at hl 1 rfl) ?_
  refine lv_iload_n C.1.1 C.1.2.1 d_Law_kept_4 rfl (lv_at hl 2 rfl) ?_
  obtain ⟨ho, h⟩ := h
  refine mcT_V (As := [.int x1, .int x2]) (ci := 0) C.1 hM hS bigGood C.2.2.2.1 C.2.2.2.2.1 (c_Desk_kept hfl h) rfl ho kw337 kw339 kw340 kw123 kw338 hd_Desk_kept ⟨by decide, by decide⟩ hl.1 rfl (Nat.le_of_ble_eq_true rfl) d_Law_kept_5 (mc := 1) (ms := 6) rfl rfl ⟨show _ ≤ (1 : Nat) by omega, show _ ≤ (6 : Nat) by omega⟩ (fun v M2 H locs hp hM hS => ?_) (fun k3 a4 M2 H locs ce hp hM hS hce hcc hcv T' hT' X => ?_)
  · obtain ⟨v1, rfl, h⟩ := hp
    refine lv_i2l (v := v1.toInt64) C.1.1 C.1.2.1 d_Law_kept_8 rfl ?_
    obtain ⟨M5, eM5, h⟩ := h
    refine ms_L C.1 hM hS 1 rfl eM5 d_Law_kept_9 (fun H locs hM hS => ?_)
    refine lv_goto (tgt := 17) C.1.1 C.1.2.1 d_Law_kept_10 (by decide) ?_
    refine lv_iconst (v := (0 : Int32)) C.1.1 C.1.2.1 d_Law_kept_17 (by decide) ?_
    refine W.widen (k := 1) (n := 6) (show _ ≤ (1 : Nat) by omega) (show _ ≤ (6 : Nat) by omega) ?_
    exact mr_I C.1 C.2.1 C.2.2.1 hM hS ⟨_, rfl, h⟩ d_Law_kept_18
  · have h := hp
    by_cases c6 : k3 = 3
    · have hq := h.1 c6
      subst c6
      subst hT'
      have h := hq
      refine m_catch1 (k := 3) X C.1 C.2.2.2.1 C.2.2.2.2.2 (by decide) (by decide) kw341 (by decide) hce hcc hcv ?_
      refine lv_astore (lv' := [(4, .ref a4), (0, .ref x0), (1, .int x1), (2, .int x2), (3, .ref x3)]) C.1.1 C.1.2.1 d_Law_kept_13 hl (by decide) rfl (fun ls hl => ?_)
      refine lv_iconst (v := (1 : Int32)) C.1.1 C.1.2.1 d_Law_kept_15 (by decide) ?_
      refine W.widen (k := 1) (n := 6) (show _ ≤ (1 : Nat) by omega) (show _ ≤ (6 : Nat) by omega) ?_
      exact mr_I C.1 C.2.1 C.2.2.1 hM hS ⟨_, rfl, h⟩ d_Law_kept_16
    · have h := h.2 c6
      exact h.elim
theorem d_Law_bind_0 : decode b_Law_bind 0 = .ok (.aload_n 2, 1) := by decide +kernel
theorem d_Law_bind_1 : decode b_Law_bind 1 = .ok (.iconst 0, 1) := by decide +kernel
theorem d_Law_bind_2 : decode b_Law_bind 2 = .ok (.aload_n 0, 1) := by decide +kernel
theorem d_Law_bind_3 : decode b_Law_bind 3 = .ok (.iload_n 1, 1) := by decide +kernel
theorem d_Law_bind_4 : decode b_Law_bind 4 = .ok (.invokevirtual 7, 3) := by decide +kernel
theorem d_Law_bind_7 : decode b_Law_bind 7 = .ok (.i2l, 1) := by decide +kernel
theorem d_Law_bind_8 : decode b_Law_bind 8 = .ok (.lastore, 1) := by decide +kernel
theorem d_Law_bind_9 : decode b_Law_bind 9 = .ok (.goto 9, 3) := by decide +kernel
theorem d_Law_bind_12 : decode b_Law_bind 12 = .ok (.astore_n 3, 1) := by decide +kernel
theorem d_Law_bind_13 : decode b_Law_bind 13 = .ok (.iconst 1, 1) := by decide +kernel
theorem d_Law_bind_14 : decode b_Law_bind 14 = .ok (.ireturn, 1) := by decide +kernel
theorem d_Law_bind_15 : decode b_Law_bind 15 = .ok (.astore_n 3, 1) := by decide +kernel
theorem d_Law_bind_16 : decode b_Law_bind 16 = .ok (.iconst 2, 1) := by decide +kernel
theorem d_Law_bind_17 : decode b_Law_bind 17 = .ok (.ireturn, 1) := by decide +kernel
theorem d_Law_bind_18 : decode b_Law_bind 18 = .ok (.iconst 0, 1) := by decide +kernel
theorem d_Law_bind_19 : decode b_Law_bind 19 = .ok (.ireturn, 1) := by decide +kernel
abbrev rm_Law_bind : Room := { frames := 7, cells := 1, slots := 6, locals := 113 }
abbrev C_Law_bind (D : va_G) (g : Nat → ClassId) (p : Program) (s : State) (m : MethodId) (args : Array Value) (meth : Method) (c : Code) (M0 : Mem) : Prop := Cx p s m args c b_Law_bind 4 R_Law BIG D vwCl (tysG g) (mA M0 s.heap.size) ∧ meth.sig.returnType = (some .int) ∧ CH D vwCl s c meth M0 [(0, 9, 12, 13), (0, 9, 15, 15)]
abbrev B_Law_bind (l : Launch) (D : va_G) (p : Program) (e : Env) (s : State) (m : MethodId) (args : Array Value) (below : List Frame) (meth : Method) (c : Code) (M0 : Mem) (P : Int32 → Mem → Prop) (cn sn : Nat) (M : Mem) (pc : Nat) (lv : List (Nat × Value)) (st : List Value) : Prop := Wb p l e rm_Law_bind s m args below meth c 4 D vwCl M0 (kI fun r M' => P r M') cn sn M pc lv st
def wp_Law_bind (g : Nat → ClassId) (M : Mem) (x0 : Nat) (x1 : Int32) (x2 : Nat) (P : Int32 → Mem → Prop) : Prop :=
  isO M 0 x0 ∧ (wp_Desk_bind g M x0 x1 (fun (v1 : Int32) (M2 : Mem) => ∃ M5 : Mem, sL M2 (g 1) x2 (0 : Int32) v1.toInt64 = some M5 ∧ (P (0 : Int32) M5)) (fun (k3 : Nat) (M2 : Mem) => (k3 = 1 → (P (1 : Int32) M2)) ∧ (¬ k3 = 1 → ((k3 = 2 → (P (2 : Int32) M2)) ∧ (¬ k3 = 2 → (False))))))
set_option maxHeartbeats 4000000 in
set_option maxRecDepth 100000 in
theorem c_Law_bind {l : Launch} (hfl : l.flags = pinnedFlags ++ [noTraceFlag]) {D : va_G} {g : Nat → ClassId} {M : Mem} {x0 : Nat} {x1 : Int32} {x2 : Nat} {P : Int32 → Mem → Prop} (h : wp_Law_bind g M x0 x1 x2 P) : mMetH l BIG D vwCl (tysG g) y_Law_bind b_Law_bind 4 (some .int) [(0, 9, 12, 13), (0, 9, 15, 15)] rm_Law_bind [.ref x0, .int x1, .ref x2] M (kI fun r M' => P r M') := by
  refine mMetH.of (own := R_Law) rfl (by decide) rfl (fun p e s m below meth c C hr hCT ls hM hS hl => ?_)
  have C : C_Law_bind D g p s m ([.ref x0, .int x1, .ref x2] : List Value).toArray meth c M := ⟨C, hr, hCT⟩
  have hcn : 0 + 1 ≤ 1 := by decide
  have hsn : 0 + 6 ≤ 6 := by decide
  unfold wp_Law_bind at h
  have hl : lv_has ls 4 [(0, .ref x0), (1, .int x1), (2, .ref x2)] := hl
  refine lv_aload_n C.1.1 C.1.2.1 d_Law_bind_0 rfl (lv_at hl 2 rfl) ?_
  refine lv_iconst (v := (0 : Int32)) C.1.1 C.1.2.1 d_Law_bind_1 (by decide) ?_
  refine lv_aload_n C.1.1 C.1.2.1 d_Law_bind_2 rfl (lv_at hl 0 rfl) ?_
  refine lv_iload_n C.1.1 C.1.2.1 d_Law_bind_3 rfl (lv_at hl 1 rfl) ?_
  obtain ⟨ho, h⟩ := h
  refine mcT_V (As := [.int x1]) (ci := 0) C.1 hM hS bigGood C.2.2.2.1 C.2.2.2.2.1 (c_Desk_bind hfl h) rfl ho kw384 kw386 kw387 kw123 kw385 hd_Desk_bind ⟨by decide, by decide⟩ hl.1 rfl (Nat.le_of_ble_eq_true rfl) d_Law_bind_4 (mc := 1) (ms := 6) rfl rfl ⟨show _ ≤ (1 : Nat) by omega, show _ ≤ (6 : Nat) by omega⟩ (fun v M2 H locs hp hM hS => ?_) (fun k3 a4 M2 H locs ce hp hM hS hce hcc hcv T' hT' X => ?_)
  · obtain ⟨v1, rfl, h⟩ := hp
    refine lv_i2l (v := v1.toInt64) C.1.1 C.1.2.1 d_Law_bind_7 rfl ?_
    obtain ⟨M5, eM5, h⟩ := h
    refine ms_L C.1 hM hS 1 rfl eM5 d_Law_bind_8 (fun H locs hM hS => ?_)
    refine lv_goto (tgt := 18) C.1.1 C.1.2.1 d_Law_bind_9 (by decide) ?_
    refine lv_iconst (v := (0 : Int32)) C.1.1 C.1.2.1 d_Law_bind_18 (by decide) ?_
    refine W.widen (k := 1) (n := 6) (show _ ≤ (1 : Nat) by omega) (show _ ≤ (6 : Nat) by omega) ?_
    exact mr_I C.1 C.2.1 C.2.2.1 hM hS ⟨_, rfl, h⟩ d_Law_bind_19
  · have h := hp
    by_cases c6 : k3 = 1
    · have hq := h.1 c6
      subst c6
      subst hT'
      have h := hq
      refine m_catch1 (k := 1) X C.1 C.2.2.2.1 C.2.2.2.2.2 (by decide) (by decide) kw388 (by decide) hce hcc hcv ?_
      refine lv_astore_n (lv' := [(3, .ref a4), (0, .ref x0), (1, .int x1), (2, .ref x2)]) C.1.1 C.1.2.1 d_Law_bind_12 rfl hl (by decide) rfl (fun ls hl => ?_)
      refine lv_iconst (v := (1 : Int32)) C.1.1 C.1.2.1 d_Law_bind_13 (by decide) ?_
      refine W.widen (k := 1) (n := 6) (show _ ≤ (1 : Nat) by omega) (show _ ≤ (6 : Nat) by omega) ?_
      exact mr_I C.1 C.2.1 C.2.2.1 hM hS ⟨_, rfl, h⟩ d_Law_bind_14
    · have h := h.2 c6
      by_cases c7 : k3 = 2
      · have hq := h.1 c7
        subst c7
        subst hT'
        have h := hq
        refine m_catch2 (j := 1) (k := 2) X C.1 C.2.2.2.1 C.2.2.2.2.2 (by decide) (by decide) (by decide) (by decide) kw388 kw389 (by decide) (by decide) hce hcc hcv ?_
        refine lv_astore_n (lv' := [(3, .ref a4), (0, .ref x0), (1, .int x1), (2, .ref x2)]) C.1.1 C.1.2.1 d_Law_bind_15 rfl hl (by decide) rfl (fun ls hl => ?_)
        refine lv_iconst (v := (2 : Int32)) C.1.1 C.1.2.1 d_Law_bind_16 (by decide) ?_
        refine W.widen (k := 1) (n := 6) (show _ ≤ (1 : Nat) by omega) (show _ ≤ (6 : Nat) by omega) ?_
        exact mr_I C.1 C.2.1 C.2.2.1 hM hS ⟨_, rfl, h⟩ d_Law_bind_17
      · have h := h.2 c7
        exact h.elim
theorem d_Law_route_0 : decode b_Law_route 0 = .ok (.aload_n 1, 1) := by decide +kernel
theorem d_Law_route_1 : decode b_Law_route 1 = .ok (.iconst 0, 1) := by decide +kernel
theorem d_Law_route_2 : decode b_Law_route 2 = .ok (.aload_n 0, 1) := by decide +kernel
theorem d_Law_route_3 : decode b_Law_route 3 = .ok (.invokevirtual 17, 3) := by decide +kernel
theorem d_Law_route_6 : decode b_Law_route 6 = .ok (.i2l, 1) := by decide +kernel
theorem d_Law_route_7 : decode b_Law_route 7 = .ok (.lastore, 1) := by decide +kernel
theorem d_Law_route_8 : decode b_Law_route 8 = .ok (.goto 6, 3) := by decide +kernel
theorem d_Law_route_11 : decode b_Law_route 11 = .ok (.astore_n 2, 1) := by decide +kernel
theorem d_Law_route_12 : decode b_Law_route 12 = .ok (.iconst 1, 1) := by decide +kernel
theorem d_Law_route_13 : decode b_Law_route 13 = .ok (.ireturn, 1) := by decide +kernel
theorem d_Law_route_14 : decode b_Law_route 14 = .ok (.iconst 0, 1) := by decide +kernel
theorem d_Law_route_15 : decode b_Law_route 15 = .ok (.ireturn, 1) := by decide +kernel
abbrev rm_Law_route : Room := { frames := 7, cells := 1, slots := 6, locals := 113 }
abbrev C_Law_route (D : va_G) (g : Nat → ClassId) (p : Program) (s : State) (m : MethodId) (args : Array Value) (meth : Method) (c : Code) (M0 : Mem) : Prop := Cx p s m args c b_Law_route 3 R_Law BIG D vwCl (tysG g) (mA M0 s.heap.size) ∧ meth.sig.returnType = (some .int) ∧ CH D vwCl s c meth M0 [(0, 8, 11, 13)]
abbrev B_Law_route (l : Launch) (D : va_G) (p : Program) (e : Env) (s : State) (m : MethodId) (args : Array Value) (below : List Frame) (meth : Method) (c : Code) (M0 : Mem) (P : Int32 → Mem → Prop) (cn sn : Nat) (M : Mem) (pc : Nat) (lv : List (Nat × Value)) (st : List Value) : Prop := Wb p l e rm_Law_route s m args below meth c 3 D vwCl M0 (kI fun r M' => P r M') cn sn M pc lv st
def wp_Law_route (g : Nat → ClassId) (M : Mem) (x0 : Nat) (x1 : Nat) (P : Int32 → Mem → Prop) : Prop :=
  isO M 0 x0 ∧ (wp_Desk_route g M x0 (fun (v1 : Int32) (M2 : Mem) => ∃ M5 : Mem, sL M2 (g 1) x1 (0 : Int32) v1.toInt64 = some M5 ∧ (P (0 : Int32) M5)) (fun (k3 : Nat) (M2 : Mem) => (k3 = 1 → (P (1 : Int32) M2)) ∧ (¬ k3 = 1 → (False))))
set_option maxHeartbeats 4000000 in
set_option maxRecDepth 100000 in
theorem c_Law_route {l : Launch} (hfl : l.flags = pinnedFlags ++ [noTraceFlag]) {D : va_G} {g : Nat → ClassId} {M : Mem} {x0 : Nat} {x1 : Nat} {P : Int32 → Mem → Prop} (h : wp_Law_route g M x0 x1 P) : mMetH l BIG D vwCl (tysG g) y_Law_route b_Law_route 3 (some .int) [(0, 8, 11, 13)] rm_Law_route [.ref x0, .ref x1] M (kI fun r M' => P r M') := by
  refine mMetH.of (own := R_Law) rfl (by decide) rfl (fun p e s m below meth c C hr hCT ls hM hS hl => ?_)
  have C : C_Law_route D g p s m ([.ref x0, .ref x1] : List Value).toArray meth c M := ⟨C, hr, hCT⟩
  have hcn : 0 + 1 ≤ 1 := by decide
  have hsn : 0 + 6 ≤ 6 := by decide
  unfold wp_Law_route at h
  have hl : lv_has ls 3 [(0, .ref x0), (1, .ref x1)] := hl
  refine lv_aload_n C.1.1 C.1.2.1 d_Law_route_0 rfl (lv_at hl 1 rfl) ?_
  refine lv_iconst (v := (0 : Int32)) C.1.1 C.1.2.1 d_Law_route_1 (by decide) ?_
  refine lv_aload_n C.1.1 C.1.2.1 d_Law_route_2 rfl (lv_at hl 0 rfl) ?_
  obtain ⟨ho, h⟩ := h
  refine mcT_V (As := []) (ci := 0) C.1 hM hS bigGood C.2.2.2.1 C.2.2.2.2.1 (c_Desk_route hfl h) rfl ho kw390 kw392 kw393 kw123 kw391 hd_Desk_route ⟨by decide, by decide⟩ hl.1 rfl (Nat.le_of_ble_eq_true rfl) d_Law_route_3 (mc := 1) (ms := 6) rfl rfl ⟨show _ ≤ (1 : Nat) by omega, show _ ≤ (6 : Nat) by omega⟩ (fun v M2 H locs hp hM hS => ?_) (fun k3 a4 M2 H locs ce hp hM hS hce hcc hcv T' hT' X => ?_)
  · obtain ⟨v1, rfl, h⟩ := hp
    refine lv_i2l (v := v1.toInt64) C.1.1 C.1.2.1 d_Law_route_6 rfl ?_
    obtain ⟨M5, eM5, h⟩ := h
    refine ms_L C.1 hM hS 1 rfl eM5 d_Law_route_7 (fun H locs hM hS => ?_)
    refine lv_goto (tgt := 14) C.1.1 C.1.2.1 d_Law_route_8 (by decide) ?_
    refine lv_iconst (v := (0 : Int32)) C.1.1 C.1.2.1 d_Law_route_14 (by decide) ?_
    refine W.widen (k := 1) (n := 6) (show _ ≤ (1 : Nat) by omega) (show _ ≤ (6 : Nat) by omega) ?_
    exact mr_I C.1 C.2.1 C.2.2.1 hM hS ⟨_, rfl, h⟩ d_Law_route_15
  · have h := hp
    by_cases c6 : k3 = 1
    · have hq := h.1 c6
      subst c6
      subst hT'
      have h := hq
      refine m_catch1 (k := 1) X C.1 C.2.2.2.1 C.2.2.2.2.2 (by decide) (by decide) kw388 (by decide) hce hcc hcv ?_
      refine lv_astore_n (lv' := [(2, .ref a4), (0, .ref x0), (1, .ref x1)]) C.1.1 C.1.2.1 d_Law_route_11 rfl hl (by decide) rfl (fun ls hl => ?_)
      refine lv_iconst (v := (1 : Int32)) C.1.1 C.1.2.1 d_Law_route_12 (by decide) ?_
      refine W.widen (k := 1) (n := 6) (show _ ≤ (1 : Nat) by omega) (show _ ≤ (6 : Nat) by omega) ?_
      exact mr_I C.1 C.2.1 C.2.2.1 hM hS ⟨_, rfl, h⟩ d_Law_route_13
    · have h := h.2 c6
      exact h.elim
theorem d_Law_keep_0 : decode b_Law_keep 0 = .ok (.aload_n 2, 1) := by decide +kernel
theorem d_Law_keep_1 : decode b_Law_keep 1 = .ok (.iconst 0, 1) := by decide +kernel
theorem d_Law_keep_2 : decode b_Law_keep 2 = .ok (.aload_n 0, 1) := by decide +kernel
theorem d_Law_keep_3 : decode b_Law_keep 3 = .ok (.iload_n 1, 1) := by decide +kernel
theorem d_Law_keep_4 : decode b_Law_keep 4 = .ok (.invokevirtual 21, 3) := by decide +kernel
theorem d_Law_keep_7 : decode b_Law_keep 7 = .ok (.i2l, 1) := by decide +kernel
theorem d_Law_keep_8 : decode b_Law_keep 8 = .ok (.lastore, 1) := by decide +kernel
theorem d_Law_keep_9 : decode b_Law_keep 9 = .ok (.goto 9, 3) := by decide +kernel
theorem d_Law_keep_12 : decode b_Law_keep 12 = .ok (.astore_n 3, 1) := by decide +kernel
theorem d_Law_keep_13 : decode b_Law_keep 13 = .ok (.iconst 1, 1) := by decide +kernel
theorem d_Law_keep_14 : decode b_Law_keep 14 = .ok (.ireturn, 1) := by decide +kernel
theorem d_Law_keep_15 : decode b_Law_keep 15 = .ok (.astore_n 3, 1) := by decide +kernel
theorem d_Law_keep_16 : decode b_Law_keep 16 = .ok (.iconst 2, 1) := by decide +kernel
theorem d_Law_keep_17 : decode b_Law_keep 17 = .ok (.ireturn, 1) := by decide +kernel
theorem d_Law_keep_18 : decode b_Law_keep 18 = .ok (.iconst 0, 1) := by decide +kernel
theorem d_Law_keep_19 : decode b_Law_keep 19 = .ok (.ireturn, 1) := by decide +kernel
abbrev rm_Law_keep : Room := { frames := 7, cells := 1, slots := 6, locals := 131 }
abbrev C_Law_keep (D : va_G) (g : Nat → ClassId) (p : Program) (s : State) (m : MethodId) (args : Array Value) (meth : Method) (c : Code) (M0 : Mem) : Prop := Cx p s m args c b_Law_keep 4 R_Law BIG D vwCl (tysG g) (mA M0 s.heap.size) ∧ meth.sig.returnType = (some .int) ∧ CH D vwCl s c meth M0 [(0, 9, 12, 13), (0, 9, 15, 15)]
abbrev B_Law_keep (l : Launch) (D : va_G) (p : Program) (e : Env) (s : State) (m : MethodId) (args : Array Value) (below : List Frame) (meth : Method) (c : Code) (M0 : Mem) (P : Int32 → Mem → Prop) (cn sn : Nat) (M : Mem) (pc : Nat) (lv : List (Nat × Value)) (st : List Value) : Prop := Wb p l e rm_Law_keep s m args below meth c 4 D vwCl M0 (kI fun r M' => P r M') cn sn M pc lv st
def wp_Law_keep (g : Nat → ClassId) (M : Mem) (x0 : Nat) (x1 : Int32) (x2 : Nat) (P : Int32 → Mem → Prop) : Prop :=
  isO M 0 x0 ∧ (wp_Desk_keep g M x0 x1 (fun (v1 : Int32) (M2 : Mem) => ∃ M5 : Mem, sL M2 (g 1) x2 (0 : Int32) v1.toInt64 = some M5 ∧ (P (0 : Int32) M5)) (fun (k3 : Nat) (M2 : Mem) => (k3 = 1 → (P (1 : Int32) M2)) ∧ (¬ k3 = 1 → ((k3 = 2 → (P (2 : Int32) M2)) ∧ (¬ k3 = 2 → (False))))))
set_option maxHeartbeats 4000000 in
set_option maxRecDepth 100000 in
theorem c_Law_keep {l : Launch} (hfl : l.flags = pinnedFlags ++ [noTraceFlag]) {D : va_G} {g : Nat → ClassId} {M : Mem} {x0 : Nat} {x1 : Int32} {x2 : Nat} {P : Int32 → Mem → Prop} (h : wp_Law_keep g M x0 x1 x2 P) : mMetH l BIG D vwCl (tysG g) y_Law_keep b_Law_keep 4 (some .int) [(0, 9, 12, 13), (0, 9, 15, 15)] rm_Law_keep [.ref x0, .int x1, .ref x2] M (kI fun r M' => P r M') := by
  refine mMetH.of (own := R_Law) rfl (by decide) rfl (fun p e s m below meth c C hr hCT ls hM hS hl => ?_)
  have C : C_Law_keep D g p s m ([.ref x0, .int x1, .ref x2] : List Value).toArray meth c M := ⟨C, hr, hCT⟩
  have hcn : 0 + 1 ≤ 1 := by decide
  have hsn : 0 + 6 ≤ 6 := by decide
  unfold wp_Law_keep at h
  have hl : lv_has ls 4 [(0, .ref x0), (1, .int x1), (2, .ref x2)] := hl
  refine lv_aload_n C.1.1 C.1.2.1 d_Law_keep_0 rfl (lv_at hl 2 rfl) ?_
  refine lv_iconst (v := (0 : Int32)) C.1.1 C.1.2.1 d_Law_keep_1 (by decide) ?_
  refine lv_aload_n C.1.1 C.1.2.1 d_Law_keep_2 rfl (lv_at hl 0 rfl) ?_
  refine lv_iload_n C.1.1 C.1.2.1 d_Law_keep_3 rfl (lv_at hl 1 rfl) ?_
  obtain ⟨ho, h⟩ := h
  refine mcT_V (As := [.int x1]) (ci := 0) C.1 hM hS bigGood C.2.2.2.1 C.2.2.2.2.1 (c_Desk_keep hfl h) rfl ho kw394 kw396 kw397 kw123 kw395 hd_Desk_keep ⟨by decide, by decide⟩ hl.1 rfl (Nat.le_of_ble_eq_true rfl) d_Law_keep_4 (mc := 1) (ms := 6) rfl rfl ⟨show _ ≤ (1 : Nat) by omega, show _ ≤ (6 : Nat) by omega⟩ (fun v M2 H locs hp hM hS => ?_) (fun k3 a4 M2 H locs ce hp hM hS hce hcc hcv T' hT' X => ?_)
  · obtain ⟨v1, rfl, h⟩ := hp
    refine lv_i2l (v := v1.toInt64) C.1.1 C.1.2.1 d_Law_keep_7 rfl ?_
    obtain ⟨M5, eM5, h⟩ := h
    refine ms_L C.1 hM hS 1 rfl eM5 d_Law_keep_8 (fun H locs hM hS => ?_)
    refine lv_goto (tgt := 18) C.1.1 C.1.2.1 d_Law_keep_9 (by decide) ?_
    refine lv_iconst (v := (0 : Int32)) C.1.1 C.1.2.1 d_Law_keep_18 (by decide) ?_
    refine W.widen (k := 1) (n := 6) (show _ ≤ (1 : Nat) by omega) (show _ ≤ (6 : Nat) by omega) ?_
    exact mr_I C.1 C.2.1 C.2.2.1 hM hS ⟨_, rfl, h⟩ d_Law_keep_19
  · have h := hp
    by_cases c6 : k3 = 1
    · have hq := h.1 c6
      subst c6
      subst hT'
      have h := hq
      refine m_catch1 (k := 1) X C.1 C.2.2.2.1 C.2.2.2.2.2 (by decide) (by decide) kw388 (by decide) hce hcc hcv ?_
      refine lv_astore_n (lv' := [(3, .ref a4), (0, .ref x0), (1, .int x1), (2, .ref x2)]) C.1.1 C.1.2.1 d_Law_keep_12 rfl hl (by decide) rfl (fun ls hl => ?_)
      refine lv_iconst (v := (1 : Int32)) C.1.1 C.1.2.1 d_Law_keep_13 (by decide) ?_
      refine W.widen (k := 1) (n := 6) (show _ ≤ (1 : Nat) by omega) (show _ ≤ (6 : Nat) by omega) ?_
      exact mr_I C.1 C.2.1 C.2.2.1 hM hS ⟨_, rfl, h⟩ d_Law_keep_14
    · have h := h.2 c6
      by_cases c7 : k3 = 2
      · have hq := h.1 c7
        subst c7
        subst hT'
        have h := hq
        refine m_catch2 (j := 1) (k := 2) X C.1 C.2.2.2.1 C.2.2.2.2.2 (by decide) (by decide) (by decide) (by decide) kw388 kw389 (by decide) (by decide) hce hcc hcv ?_
        refine lv_astore_n (lv' := [(3, .ref a4), (0, .ref x0), (1, .int x1), (2, .ref x2)]) C.1.1 C.1.2.1 d_Law_keep_15 rfl hl (by decide) rfl (fun ls hl => ?_)
        refine lv_iconst (v := (2 : Int32)) C.1.1 C.1.2.1 d_Law_keep_16 (by decide) ?_
        refine W.widen (k := 1) (n := 6) (show _ ≤ (1 : Nat) by omega) (show _ ≤ (6 : Nat) by omega) ?_
        exact mr_I C.1 C.2.1 C.2.2.1 hM hS ⟨_, rfl, h⟩ d_Law_keep_17
      · have h := h.2 c7
        exact h.elim
theorem d_Law_lose_0 : decode b_Law_lose 0 = .ok (.aload_n 1, 1) := by decide +kernel
theorem d_Law_lose_1 : decode b_Law_lose 1 = .ok (.iconst 0, 1) := by decide +kernel
theorem d_Law_lose_2 : decode b_Law_lose 2 = .ok (.aload_n 0, 1) := by decide +kernel
theorem d_Law_lose_3 : decode b_Law_lose 3 = .ok (.invokevirtual 24, 3) := by decide +kernel
theorem d_Law_lose_6 : decode b_Law_lose 6 = .ok (.ifCond .eq 7, 3) := by decide +kernel
theorem d_Law_lose_9 : decode b_Law_lose 9 = .ok (.lconst 1, 1) := by decide +kernel
theorem d_Law_lose_10 : decode b_Law_lose 10 = .ok (.goto 4, 3) := by decide +kernel
theorem d_Law_lose_13 : decode b_Law_lose 13 = .ok (.lconst 0, 1) := by decide +kernel
theorem d_Law_lose_14 : decode b_Law_lose 14 = .ok (.lastore, 1) := by decide +kernel
theorem d_Law_lose_15 : decode b_Law_lose 15 = .ok (.goto 6, 3) := by decide +kernel
theorem d_Law_lose_18 : decode b_Law_lose 18 = .ok (.astore_n 2, 1) := by decide +kernel
theorem d_Law_lose_19 : decode b_Law_lose 19 = .ok (.iconst 1, 1) := by decide +kernel
theorem d_Law_lose_20 : decode b_Law_lose 20 = .ok (.ireturn, 1) := by decide +kernel
theorem d_Law_lose_21 : decode b_Law_lose 21 = .ok (.iconst 0, 1) := by decide +kernel
theorem d_Law_lose_22 : decode b_Law_lose 22 = .ok (.ireturn, 1) := by decide +kernel
abbrev rm_Law_lose : Room := { frames := 7, cells := 1, slots := 6, locals := 128 }
abbrev C_Law_lose (D : va_G) (g : Nat → ClassId) (p : Program) (s : State) (m : MethodId) (args : Array Value) (meth : Method) (c : Code) (M0 : Mem) : Prop := Cx p s m args c b_Law_lose 3 R_Law BIG D vwCl (tysG g) (mA M0 s.heap.size) ∧ meth.sig.returnType = (some .int) ∧ CH D vwCl s c meth M0 [(0, 15, 18, 13)]
abbrev B_Law_lose (l : Launch) (D : va_G) (p : Program) (e : Env) (s : State) (m : MethodId) (args : Array Value) (below : List Frame) (meth : Method) (c : Code) (M0 : Mem) (P : Int32 → Mem → Prop) (cn sn : Nat) (M : Mem) (pc : Nat) (lv : List (Nat × Value)) (st : List Value) : Prop := Wb p l e rm_Law_lose s m args below meth c 3 D vwCl M0 (kI fun r M' => P r M') cn sn M pc lv st
def wp_Law_lose_b14 (g : Nat → ClassId) (P : Int32 → Mem → Prop) (M : Mem) (t0 : Nat) (t1 : Int32) (t2 : Int64) : Prop :=
  ∃ M1 : Mem, sL M (g 1) t0 t1 t2 = some M1 ∧ (P (0 : Int32) M1)
set_option maxHeartbeats 4000000 in
set_option maxRecDepth 100000 in
theorem t_Law_lose_b14 {l : Launch} {D : va_G} {g : Nat → ClassId} {p : Program} {e : Env} {s : State} {m : MethodId} {args : Array Value} {below : List Frame} {meth : Method} {c : Code} {M0 : Mem} {P : Int32 → Mem → Prop} {M : Mem} {t0 : Nat} {t1 : Int32} {t2 : Int64} (C : C_Law_lose D g p s m args meth c M0) (h : wp_Law_lose_b14 g P M t0 t1 t2) {cn sn : Nat} (hcn : cn + 0 ≤ 1) (hsn : sn + 0 ≤ 6) : B_Law_lose l D p e s m args below meth c M0 P cn sn M 14 [] [.long t2, .int t1, .ref t0] := by
  intro ls H locs hM hS hl
  unfold wp_Law_lose_b14 at h
  obtain ⟨M1, eM1, h⟩ := h
  refine ms_L C.1 hM hS 1 rfl eM1 d_Law_lose_14 (fun H locs hM hS => ?_)
  refine lv_goto (tgt := 21) C.1.1 C.1.2.1 d_Law_lose_15 (by decide) ?_
  refine lv_iconst (v := (0 : Int32)) C.1.1 C.1.2.1 d_Law_lose_21 (by decide) ?_
  refine W.widen (k := 1) (n := 6) (show _ ≤ (1 : Nat) by omega) (show _ ≤ (6 : Nat) by omega) ?_
  exact mr_I C.1 C.2.1 C.2.2.1 hM hS ⟨_, rfl, h⟩ d_Law_lose_22
def wp_Law_lose (g : Nat → ClassId) (M : Mem) (x0 : Nat) (x1 : Nat) (P : Int32 → Mem → Prop) : Prop :=
  isO M 0 x0 ∧ (wp_Desk_lose g M x0 (fun (v1 : Int32) (M2 : Mem) => (v1 = 0 → (wp_Law_lose_b14 g P M2 x1 (0 : Int32) (0 : Int64))) ∧ (¬ v1 = 0 → (wp_Law_lose_b14 g P M2 x1 (0 : Int32) (1 : Int64)))) (fun (k3 : Nat) (M2 : Mem) => (k3 = 1 → (P (1 : Int32) M2)) ∧ (¬ k3 = 1 → (False))))
set_option maxHeartbeats 4000000 in
set_option maxRecDepth 100000 in
theorem c_Law_lose {l : Launch} (hfl : l.flags = pinnedFlags ++ [noTraceFlag]) {D : va_G} {g : Nat → ClassId} {M : Mem} {x0 : Nat} {x1 : Nat} {P : Int32 → Mem → Prop} (h : wp_Law_lose g M x0 x1 P) : mMetH l BIG D vwCl (tysG g) y_Law_lose b_Law_lose 3 (some .int) [(0, 15, 18, 13)] rm_Law_lose [.ref x0, .ref x1] M (kI fun r M' => P r M') := by
  refine mMetH.of (own := R_Law) rfl (by decide) rfl (fun p e s m below meth c C hr hCT ls hM hS hl => ?_)
  have C : C_Law_lose D g p s m ([.ref x0, .ref x1] : List Value).toArray meth c M := ⟨C, hr, hCT⟩
  have hcn : 0 + 1 ≤ 1 := by decide
  have hsn : 0 + 6 ≤ 6 := by decide
  unfold wp_Law_lose at h
  have hl : lv_has ls 3 [(0, .ref x0), (1, .ref x1)] := hl
  refine lv_aload_n C.1.1 C.1.2.1 d_Law_lose_0 rfl (lv_at hl 1 rfl) ?_
  refine lv_iconst (v := (0 : Int32)) C.1.1 C.1.2.1 d_Law_lose_1 (by decide) ?_
  refine lv_aload_n C.1.1 C.1.2.1 d_Law_lose_2 rfl (lv_at hl 0 rfl) ?_
  obtain ⟨ho, h⟩ := h
  refine mcT_V (As := []) (ci := 0) C.1 hM hS bigGood C.2.2.2.1 C.2.2.2.2.1 (c_Desk_lose hfl h) rfl ho kw398 kw400 kw401 kw123 kw399 hd_Desk_lose ⟨by decide, by decide⟩ hl.1 rfl (Nat.le_of_ble_eq_true rfl) d_Law_lose_3 (mc := 1) (ms := 6) rfl rfl ⟨show _ ≤ (1 : Nat) by omega, show _ ≤ (6 : Nat) by omega⟩ (fun v M2 H locs hp hM hS => ?_) (fun k3 a4 M2 H locs ce hp hM hS hce hcc hcv T' hT' X => ?_)
  · obtain ⟨v1, rfl, h⟩ := hp
    refine lv_if_eq (tgt := 13) C.1.1 C.1.2.1 d_Law_lose_6 (by decide) (fun c5 => ?_) (fun c5 => ?_)
    · have h := h.1 c5
      refine lv_lconst (v := (0 : Int64)) C.1.1 C.1.2.1 d_Law_lose_13 (by decide) ?_
      exact t_Law_lose_b14 C h (show _ ≤ (1 : Nat) by omega) (show _ ≤ (6 : Nat) by omega) _ _ _ hM hS (lv_sub hl [] rfl)
    · have h := h.2 c5
      refine lv_lconst (v := (1 : Int64)) C.1.1 C.1.2.1 d_Law_lose_9 (by decide) ?_
      refine lv_goto (tgt := 14) C.1.1 C.1.2.1 d_Law_lose_10 (by decide) ?_
      exact t_Law_lose_b14 C h (show _ ≤ (1 : Nat) by omega) (show _ ≤ (6 : Nat) by omega) _ _ _ hM hS (lv_sub hl [] rfl)
  · have h := hp
    by_cases c6 : k3 = 1
    · have hq := h.1 c6
      subst c6
      subst hT'
      have h := hq
      refine m_catch1 (k := 1) X C.1 C.2.2.2.1 C.2.2.2.2.2 (by decide) (by decide) kw388 (by decide) hce hcc hcv ?_
      refine lv_astore_n (lv' := [(2, .ref a4), (0, .ref x0), (1, .ref x1)]) C.1.1 C.1.2.1 d_Law_lose_18 rfl hl (by decide) rfl (fun ls hl => ?_)
      refine lv_iconst (v := (1 : Int32)) C.1.1 C.1.2.1 d_Law_lose_19 (by decide) ?_
      refine W.widen (k := 1) (n := 6) (show _ ≤ (1 : Nat) by omega) (show _ ≤ (6 : Nat) by omega) ?_
      exact mr_I C.1 C.2.1 C.2.2.1 hM hS ⟨_, rfl, h⟩ d_Law_lose_20
    · have h := h.2 c6
      exact h.elim
