theorem d_Bnd_isBound_0 : decode b_Bnd_isBound 0 = .ok (.aload_n 0, 1) := by decide +kernel
theorem d_Bnd_isBound_1 : decode b_Bnd_isBound 1 = .ok (.getfield 18, 3) := by decide +kernel
theorem d_Bnd_isBound_4 : decode b_Bnd_isBound 4 = .ok (.iconst (-1), 1) := by decide +kernel
theorem d_Bnd_isBound_5 : decode b_Bnd_isBound 5 = .ok (.if_icmp .eq 7, 3) := by decide +kernel
theorem d_Bnd_isBound_8 : decode b_Bnd_isBound 8 = .ok (.iconst 1, 1) := by decide +kernel
theorem d_Bnd_isBound_9 : decode b_Bnd_isBound 9 = .ok (.goto 4, 3) := by decide +kernel
theorem d_Bnd_isBound_12 : decode b_Bnd_isBound 12 = .ok (.iconst 0, 1) := by decide +kernel
theorem d_Bnd_isBound_13 : decode b_Bnd_isBound 13 = .ok (.ireturn, 1) := by decide +kernel
abbrev rm_Bnd_isBound : Room := { frames := 0, cells := 0, slots := 0, locals := 0 }
abbrev C_Bnd_isBound (D : va_G) (g : Nat → ClassId) (p : Program) (s : State) (m : MethodId) (args : Array Value) (meth : Method) (c : Code) (M0 : Mem) : Prop := Cx p s m args c b_Bnd_isBound 1 R_Bnd BIG D vwCl (tysG g) (mA M0 s.heap.size) ∧ meth.sig.returnType = (some .boolean) ∧ meth.locks = false
abbrev B_Bnd_isBound (l : Launch) (D : va_G) (p : Program) (e : Env) (s : State) (m : MethodId) (args : Array Value) (below : List Frame) (meth : Method) (c : Code) (M0 : Mem) (P : Int32 → Prop) (M : Mem) (pc : Nat) (lv : List (Nat × Value)) (st : List Value) : Prop := Wb p l e rm_Bnd_isBound s m args below meth c 1 D vwCl M0 (kI fun r M' => M0 = M' ∧ P r) 0 0 M pc lv st
def wp_Bnd_isBound_b13 (g : Nat → ClassId) (P : Int32 → Prop) (M : Mem) (t0 : Int32) : Prop :=
  isB t0 ∧ P t0
set_option maxHeartbeats 4000000 in
set_option maxRecDepth 100000 in
theorem t_Bnd_isBound_b13 {l : Launch} {D : va_G} {g : Nat → ClassId} {p : Program} {e : Env} {s : State} {m : MethodId} {args : Array Value} {below : List Frame} {meth : Method} {c : Code} {P : Int32 → Prop} {M : Mem} {t0 : Int32} (C : C_Bnd_isBound D g p s m args meth c M) (h : wp_Bnd_isBound_b13 g P M t0) : B_Bnd_isBound l D p e s m args below meth c M P M 13 [] [.int t0] := by
  intro ls H locs hM hS hl
  unfold wp_Bnd_isBound_b13 at h
  exact mr_Z C.1 C.2.1 C.2.2 h.1 hM hS ⟨_, rfl, rfl, h.2⟩ d_Bnd_isBound_13
def wp_Bnd_isBound (g : Nat → ClassId) (M : Mem) (x0 : Nat) (P : Int32 → Prop) : Prop :=
  ∃ v1 : Int32, gI M 2 x0 1 = some v1 ∧ ((v1 = (-1 : Int32) → (wp_Bnd_isBound_b13 g P M (0 : Int32))) ∧ (¬ v1 = (-1 : Int32) → (wp_Bnd_isBound_b13 g P M (1 : Int32))))
set_option maxHeartbeats 4000000 in
set_option maxRecDepth 100000 in
theorem c_Bnd_isBound {l : Launch} {D : va_G} {g : Nat → ClassId} {M : Mem} {x0 : Nat} {P : Int32 → Prop} (h : wp_Bnd_isBound g M x0 P) : mMet l BIG D vwCl (tysG g) y_Bnd_isBound b_Bnd_isBound 1 (some .boolean) rm_Bnd_isBound [.ref x0] M (kI fun r M' => M = M' ∧ P r) := by
  refine mMet.of (own := R_Bnd) rfl (by decide) rfl (fun p e s m below meth c C hr hlk hnm ls hM hS hl => ?_)
  have C : C_Bnd_isBound D g p s m ([.ref x0] : List Value).toArray meth c M := ⟨C, hr, hlk⟩
  unfold wp_Bnd_isBound at h
  have hl : lv_has ls 1 [(0, .ref x0)] := hl
  refine lv_aload_n C.1.1 C.1.2.1 d_Bnd_isBound_0 rfl (lv_at hl 0 rfl) ?_
  obtain ⟨v1, ev1, h⟩ := h
  refine mg_I C.1 hM ok_Bnd (by decide) kw84 ev1 d_Bnd_isBound_1 ?_
  refine lv_iconst (v := (-1 : Int32)) C.1.1 C.1.2.1 d_Bnd_isBound_4 (by decide) ?_
  refine lv_icmp_eq (tgt := 12) C.1.1 C.1.2.1 d_Bnd_isBound_5 (by decide) (fun c2 => ?_) (fun c2 => ?_)
  · have h := h.1 c2
    refine lv_iconst (v := (0 : Int32)) C.1.1 C.1.2.1 d_Bnd_isBound_12 (by decide) ?_
    exact t_Bnd_isBound_b13 C h _ _ _ hM hS (lv_sub hl [] rfl)
  · have h := h.2 c2
    refine lv_iconst (v := (1 : Int32)) C.1.1 C.1.2.1 d_Bnd_isBound_8 (by decide) ?_
    refine lv_goto (tgt := 13) C.1.1 C.1.2.1 d_Bnd_isBound_9 (by decide) ?_
    exact t_Bnd_isBound_b13 C h _ _ _ hM hS (lv_sub hl [] rfl)
theorem d_Bnd_pattern_0 : decode b_Bnd_pattern 0 = .ok (.aload_n 0, 1) := by decide +kernel
theorem d_Bnd_pattern_1 : decode b_Bnd_pattern 1 = .ok (.getfield 12, 3) := by decide +kernel
theorem d_Bnd_pattern_4 : decode b_Bnd_pattern 4 = .ok (.areturn, 1) := by decide +kernel
abbrev rm_Bnd_pattern : Room := { frames := 0, cells := 0, slots := 0, locals := 0 }
abbrev C_Bnd_pattern (D : va_G) (g : Nat → ClassId) (p : Program) (s : State) (m : MethodId) (args : Array Value) (meth : Method) (c : Code) (M0 : Mem) : Prop := Cx p s m args c b_Bnd_pattern 1 R_Bnd BIG D vwCl (tysG g) (mA M0 s.heap.size) ∧ meth.sig.returnType = (some (.object "TopicDesk$Text")) ∧ meth.locks = false
abbrev B_Bnd_pattern (l : Launch) (D : va_G) (p : Program) (e : Env) (s : State) (m : MethodId) (args : Array Value) (below : List Frame) (meth : Method) (c : Code) (M0 : Mem) (P : Nat → Prop) (M : Mem) (pc : Nat) (lv : List (Nat × Value)) (st : List Value) : Prop := Wb p l e rm_Bnd_pattern s m args below meth c 1 D vwCl M0 (kR fun r M' => M0 = M' ∧ P r) 0 0 M pc lv st
def wp_Bnd_pattern (g : Nat → ClassId) (M : Mem) (x0 : Nat) (P : Nat → Prop) : Prop :=
  ∃ v1 : Nat, gR M 2 x0 0 = some v1 ∧ (P v1)
set_option maxHeartbeats 4000000 in
set_option maxRecDepth 100000 in
theorem c_Bnd_pattern {l : Launch} {D : va_G} {g : Nat → ClassId} {M : Mem} {x0 : Nat} {P : Nat → Prop} (h : wp_Bnd_pattern g M x0 P) : mMet l BIG D vwCl (tysG g) y_Bnd_pattern b_Bnd_pattern 1 (some (.object "TopicDesk$Text")) rm_Bnd_pattern [.ref x0] M (kR fun r M' => M = M' ∧ P r) := by
  refine mMet.of (own := R_Bnd) rfl (by decide) rfl (fun p e s m below meth c C hr hlk hnm ls hM hS hl => ?_)
  have C : C_Bnd_pattern D g p s m ([.ref x0] : List Value).toArray meth c M := ⟨C, hr, hlk⟩
  unfold wp_Bnd_pattern at h
  have hl : lv_has ls 1 [(0, .ref x0)] := hl
  refine lv_aload_n C.1.1 C.1.2.1 d_Bnd_pattern_0 rfl (lv_at hl 0 rfl) ?_
  obtain ⟨v1, ev1, h⟩ := h
  refine mg_R C.1 hM ok_Bnd (by decide) kw85 ev1 d_Bnd_pattern_1 ?_
  exact mr_R (v := v1) C.1 C.2.1 C.2.2 (Or.inl ⟨_, rfl⟩) hM hS ⟨_, rfl, rfl, h⟩ d_Bnd_pattern_4
theorem d_Bnd_queue_0 : decode b_Bnd_queue 0 = .ok (.aload_n 0, 1) := by decide +kernel
theorem d_Bnd_queue_1 : decode b_Bnd_queue 1 = .ok (.getfield 18, 3) := by decide +kernel
theorem d_Bnd_queue_4 : decode b_Bnd_queue 4 = .ok (.ireturn, 1) := by decide +kernel
abbrev rm_Bnd_queue : Room := { frames := 0, cells := 0, slots := 0, locals := 0 }
abbrev C_Bnd_queue (D : va_G) (g : Nat → ClassId) (p : Program) (s : State) (m : MethodId) (args : Array Value) (meth : Method) (c : Code) (M0 : Mem) : Prop := Cx p s m args c b_Bnd_queue 1 R_Bnd BIG D vwCl (tysG g) (mA M0 s.heap.size) ∧ meth.sig.returnType = (some .int) ∧ meth.locks = false
abbrev B_Bnd_queue (l : Launch) (D : va_G) (p : Program) (e : Env) (s : State) (m : MethodId) (args : Array Value) (below : List Frame) (meth : Method) (c : Code) (M0 : Mem) (P : Int32 → Prop) (M : Mem) (pc : Nat) (lv : List (Nat × Value)) (st : List Value) : Prop := Wb p l e rm_Bnd_queue s m args below meth c 1 D vwCl M0 (kI fun r M' => M0 = M' ∧ P r) 0 0 M pc lv st
def wp_Bnd_queue (g : Nat → ClassId) (M : Mem) (x0 : Nat) (P : Int32 → Prop) : Prop :=
  ∃ v1 : Int32, gI M 2 x0 1 = some v1 ∧ (P v1)
set_option maxHeartbeats 4000000 in
set_option maxRecDepth 100000 in
theorem c_Bnd_queue {l : Launch} {D : va_G} {g : Nat → ClassId} {M : Mem} {x0 : Nat} {P : Int32 → Prop} (h : wp_Bnd_queue g M x0 P) : mMet l BIG D vwCl (tysG g) y_Bnd_queue b_Bnd_queue 1 (some .int) rm_Bnd_queue [.ref x0] M (kI fun r M' => M = M' ∧ P r) := by
  refine mMet.of (own := R_Bnd) rfl (by decide) rfl (fun p e s m below meth c C hr hlk hnm ls hM hS hl => ?_)
  have C : C_Bnd_queue D g p s m ([.ref x0] : List Value).toArray meth c M := ⟨C, hr, hlk⟩
  unfold wp_Bnd_queue at h
  have hl : lv_has ls 1 [(0, .ref x0)] := hl
  refine lv_aload_n C.1.1 C.1.2.1 d_Bnd_queue_0 rfl (lv_at hl 0 rfl) ?_
  obtain ⟨v1, ev1, h⟩ := h
  refine mg_I C.1 hM ok_Bnd (by decide) kw84 ev1 d_Bnd_queue_1 ?_
  exact mr_I C.1 C.2.1 C.2.2 hM hS ⟨_, rfl, rfl, h⟩ d_Bnd_queue_4
theorem d_Bnd_routed_0 : decode b_Bnd_routed 0 = .ok (.aload_n 0, 1) := by decide +kernel
theorem d_Bnd_routed_1 : decode b_Bnd_routed 1 = .ok (.getfield 22, 3) := by decide +kernel
theorem d_Bnd_routed_4 : decode b_Bnd_routed 4 = .ok (.ireturn, 1) := by decide +kernel
abbrev rm_Bnd_routed : Room := { frames := 0, cells := 0, slots := 0, locals := 0 }
abbrev C_Bnd_routed (D : va_G) (g : Nat → ClassId) (p : Program) (s : State) (m : MethodId) (args : Array Value) (meth : Method) (c : Code) (M0 : Mem) : Prop := Cx p s m args c b_Bnd_routed 1 R_Bnd BIG D vwCl (tysG g) (mA M0 s.heap.size) ∧ meth.sig.returnType = (some .int) ∧ meth.locks = false
abbrev B_Bnd_routed (l : Launch) (D : va_G) (p : Program) (e : Env) (s : State) (m : MethodId) (args : Array Value) (below : List Frame) (meth : Method) (c : Code) (M0 : Mem) (P : Int32 → Prop) (M : Mem) (pc : Nat) (lv : List (Nat × Value)) (st : List Value) : Prop := Wb p l e rm_Bnd_routed s m args below meth c 1 D vwCl M0 (kI fun r M' => M0 = M' ∧ P r) 0 0 M pc lv st
def wp_Bnd_routed (g : Nat → ClassId) (M : Mem) (x0 : Nat) (P : Int32 → Prop) : Prop :=
  ∃ v1 : Int32, gI M 2 x0 2 = some v1 ∧ (P v1)
set_option maxHeartbeats 4000000 in
set_option maxRecDepth 100000 in
theorem c_Bnd_routed {l : Launch} {D : va_G} {g : Nat → ClassId} {M : Mem} {x0 : Nat} {P : Int32 → Prop} (h : wp_Bnd_routed g M x0 P) : mMet l BIG D vwCl (tysG g) y_Bnd_routed b_Bnd_routed 1 (some .int) rm_Bnd_routed [.ref x0] M (kI fun r M' => M = M' ∧ P r) := by
  refine mMet.of (own := R_Bnd) rfl (by decide) rfl (fun p e s m below meth c C hr hlk hnm ls hM hS hl => ?_)
  have C : C_Bnd_routed D g p s m ([.ref x0] : List Value).toArray meth c M := ⟨C, hr, hlk⟩
  unfold wp_Bnd_routed at h
  have hl : lv_has ls 1 [(0, .ref x0)] := hl
  refine lv_aload_n C.1.1 C.1.2.1 d_Bnd_routed_0 rfl (lv_at hl 0 rfl) ?_
  obtain ⟨v1, ev1, h⟩ := h
  refine mg_I C.1 hM ok_Bnd (by decide) kw86 ev1 d_Bnd_routed_1 ?_
  exact mr_I C.1 C.2.1 C.2.2 hM hS ⟨_, rfl, rfl, h⟩ d_Bnd_routed_4
theorem d_Bnd_untie_0 : decode b_Bnd_untie 0 = .ok (.aload_n 0, 1) := by decide +kernel
theorem d_Bnd_untie_1 : decode b_Bnd_untie 1 = .ok (.iconst (-1), 1) := by decide +kernel
theorem d_Bnd_untie_2 : decode b_Bnd_untie 2 = .ok (.putfield 18, 3) := by decide +kernel
theorem d_Bnd_untie_5 : decode b_Bnd_untie 5 = .ok (.return_, 1) := by decide +kernel
abbrev rm_Bnd_untie : Room := { frames := 0, cells := 0, slots := 0, locals := 0 }
abbrev C_Bnd_untie (D : va_G) (g : Nat → ClassId) (p : Program) (s : State) (m : MethodId) (args : Array Value) (meth : Method) (c : Code) (M0 : Mem) : Prop := Cx p s m args c b_Bnd_untie 1 R_Bnd BIG D vwCl (tysG g) (mA M0 s.heap.size) ∧ meth.sig.returnType = none ∧ meth.locks = false
abbrev B_Bnd_untie (l : Launch) (D : va_G) (p : Program) (e : Env) (s : State) (m : MethodId) (args : Array Value) (below : List Frame) (meth : Method) (c : Code) (M0 : Mem) (P : Mem → Prop) (M : Mem) (pc : Nat) (lv : List (Nat × Value)) (st : List Value) : Prop := Wb p l e rm_Bnd_untie s m args below meth c 1 D vwCl M0 (kV fun M' => P M') 0 0 M pc lv st
def wp_Bnd_untie (g : Nat → ClassId) (M : Mem) (x0 : Nat) (P : Mem → Prop) : Prop :=
  ∃ M1 : Mem, pV M 2 x0 1 (.int (-1 : Int32)) = some M1 ∧ (P M1)
set_option maxHeartbeats 4000000 in
set_option maxRecDepth 100000 in
theorem c_Bnd_untie {l : Launch} {D : va_G} {g : Nat → ClassId} {M : Mem} {x0 : Nat} {P : Mem → Prop} (h : wp_Bnd_untie g M x0 P) : mMet l BIG D vwCl (tysG g) y_Bnd_untie b_Bnd_untie 1 none rm_Bnd_untie [.ref x0] M (kV fun M' => P M') := by
  refine mMet.of (own := R_Bnd) rfl (by decide) rfl (fun p e s m below meth c C hr hlk hnm ls hM hS hl => ?_)
  have C : C_Bnd_untie D g p s m ([.ref x0] : List Value).toArray meth c M := ⟨C, hr, hlk⟩
  unfold wp_Bnd_untie at h
  have hl : lv_has ls 1 [(0, .ref x0)] := hl
  refine lv_aload_n C.1.1 C.1.2.1 d_Bnd_untie_0 rfl (lv_at hl 0 rfl) ?_
  refine lv_iconst (v := (-1 : Int32)) C.1.1 C.1.2.1 d_Bnd_untie_1 (by decide) ?_
  obtain ⟨M1, eM1, h⟩ := h
  refine mp_V C.1 hM hS ok_Bnd (by decide) kw84 rfl rfl rfl eM1 d_Bnd_untie_2 (fun H locs hM hS => ?_)
  exact mr_V C.1 C.2.1 C.2.2 hM hS ⟨rfl, h⟩ d_Bnd_untie_5
theorem d_Bnd_countRouted_0 : decode b_Bnd_countRouted 0 = .ok (.aload_n 0, 1) := by decide +kernel
theorem d_Bnd_countRouted_1 : decode b_Bnd_countRouted 1 = .ok (.dup, 1) := by decide +kernel
theorem d_Bnd_countRouted_2 : decode b_Bnd_countRouted 2 = .ok (.getfield 22, 3) := by decide +kernel
theorem d_Bnd_countRouted_5 : decode b_Bnd_countRouted 5 = .ok (.iconst 1, 1) := by decide +kernel
theorem d_Bnd_countRouted_6 : decode b_Bnd_countRouted 6 = .ok (.iadd, 1) := by decide +kernel
theorem d_Bnd_countRouted_7 : decode b_Bnd_countRouted 7 = .ok (.putfield 22, 3) := by decide +kernel
theorem d_Bnd_countRouted_10 : decode b_Bnd_countRouted 10 = .ok (.return_, 1) := by decide +kernel
abbrev rm_Bnd_countRouted : Room := { frames := 0, cells := 0, slots := 0, locals := 0 }
abbrev C_Bnd_countRouted (D : va_G) (g : Nat → ClassId) (p : Program) (s : State) (m : MethodId) (args : Array Value) (meth : Method) (c : Code) (M0 : Mem) : Prop := Cx p s m args c b_Bnd_countRouted 1 R_Bnd BIG D vwCl (tysG g) (mA M0 s.heap.size) ∧ meth.sig.returnType = none ∧ meth.locks = false
abbrev B_Bnd_countRouted (l : Launch) (D : va_G) (p : Program) (e : Env) (s : State) (m : MethodId) (args : Array Value) (below : List Frame) (meth : Method) (c : Code) (M0 : Mem) (P : Mem → Prop) (M : Mem) (pc : Nat) (lv : List (Nat × Value)) (st : List Value) : Prop := Wb p l e rm_Bnd_countRouted s m args below meth c 1 D vwCl M0 (kV fun M' => P M') 0 0 M pc lv st
def wp_Bnd_countRouted (g : Nat → ClassId) (M : Mem) (x0 : Nat) (P : Mem → Prop) : Prop :=
  ∃ v1 : Int32, gI M 2 x0 2 = some v1 ∧ (∃ M2 : Mem, pV M 2 x0 2 (.int (v1 + (1 : Int32))) = some M2 ∧ (P M2))
set_option maxHeartbeats 4000000 in
set_option maxRecDepth 100000 in
theorem c_Bnd_countRouted {l : Launch} {D : va_G} {g : Nat → ClassId} {M : Mem} {x0 : Nat} {P : Mem → Prop} (h : wp_Bnd_countRouted g M x0 P) : mMet l BIG D vwCl (tysG g) y_Bnd_countRouted b_Bnd_countRouted 1 none rm_Bnd_countRouted [.ref x0] M (kV fun M' => P M') := by
  refine mMet.of (own := R_Bnd) rfl (by decide) rfl (fun p e s m below meth c C hr hlk hnm ls hM hS hl => ?_)
  have C : C_Bnd_countRouted D g p s m ([.ref x0] : List Value).toArray meth c M := ⟨C, hr, hlk⟩
  unfold wp_Bnd_countRouted at h
  have hl : lv_has ls 1 [(0, .ref x0)] := hl
  refine lv_aload_n C.1.1 C.1.2.1 d_Bnd_countRouted_0 rfl (lv_at hl 0 rfl) ?_
  refine lv_dup C.1.1 C.1.2.1 d_Bnd_countRouted_1 rfl ?_
  obtain ⟨v1, ev1, h⟩ := h
  refine mg_I C.1 hM ok_Bnd (by decide) kw86 ev1 d_Bnd_countRouted_2 ?_
  refine lv_iconst (v := (1 : Int32)) C.1.1 C.1.2.1 d_Bnd_countRouted_5 (by decide) ?_
  refine lv_iadd C.1.1 C.1.2.1 d_Bnd_countRouted_6 ?_
  obtain ⟨M2, eM2, h⟩ := h
  refine mp_V C.1 hM hS ok_Bnd (by decide) kw86 rfl rfl rfl eM2 d_Bnd_countRouted_7 (fun H locs hM hS => ?_)
  exact mr_V C.1 C.2.1 C.2.2 hM hS ⟨rfl, h⟩ d_Bnd_countRouted_10
theorem d_Kt_text_0 : decode b_Kt_text 0 = .ok (.aload_n 0, 1) := by decide +kernel
theorem d_Kt_text_1 : decode b_Kt_text 1 = .ok (.getfield 10, 3) := by decide +kernel
theorem d_Kt_text_4 : decode b_Kt_text 4 = .ok (.areturn, 1) := by decide +kernel
abbrev rm_Kt_text : Room := { frames := 0, cells := 0, slots := 0, locals := 0 }
abbrev C_Kt_text (D : va_G) (g : Nat → ClassId) (p : Program) (s : State) (m : MethodId) (args : Array Value) (meth : Method) (c : Code) (M0 : Mem) : Prop := Cx p s m args c b_Kt_text 1 R_Kt BIG D vwCl (tysG g) (mA M0 s.heap.size) ∧ meth.sig.returnType = (some (.object "TopicDesk$Text")) ∧ meth.locks = false
abbrev B_Kt_text (l : Launch) (D : va_G) (p : Program) (e : Env) (s : State) (m : MethodId) (args : Array Value) (below : List Frame) (meth : Method) (c : Code) (M0 : Mem) (P : Nat → Prop) (M : Mem) (pc : Nat) (lv : List (Nat × Value)) (st : List Value) : Prop := Wb p l e rm_Kt_text s m args below meth c 1 D vwCl M0 (kR fun r M' => M0 = M' ∧ P r) 0 0 M pc lv st
def wp_Kt_text (g : Nat → ClassId) (M : Mem) (x0 : Nat) (P : Nat → Prop) : Prop :=
  ∃ v1 : Nat, gR M 3 x0 0 = some v1 ∧ (P v1)
set_option maxHeartbeats 4000000 in
set_option maxRecDepth 100000 in
theorem c_Kt_text {l : Launch} {D : va_G} {g : Nat → ClassId} {M : Mem} {x0 : Nat} {P : Nat → Prop} (h : wp_Kt_text g M x0 P) : mMet l BIG D vwCl (tysG g) y_Kt_text b_Kt_text 1 (some (.object "TopicDesk$Text")) rm_Kt_text [.ref x0] M (kR fun r M' => M = M' ∧ P r) := by
  refine mMet.of (own := R_Kt) rfl (by decide) rfl (fun p e s m below meth c C hr hlk hnm ls hM hS hl => ?_)
  have C : C_Kt_text D g p s m ([.ref x0] : List Value).toArray meth c M := ⟨C, hr, hlk⟩
  unfold wp_Kt_text at h
  have hl : lv_has ls 1 [(0, .ref x0)] := hl
  refine lv_aload_n C.1.1 C.1.2.1 d_Kt_text_0 rfl (lv_at hl 0 rfl) ?_
  obtain ⟨v1, ev1, h⟩ := h
  refine mg_R C.1 hM ok_Kt (by decide) kw87 ev1 d_Kt_text_1 ?_
  exact mr_R (v := v1) C.1 C.2.1 C.2.2 (Or.inl ⟨_, rfl⟩) hM hS ⟨_, rfl, rfl, h⟩ d_Kt_text_4
theorem d_Kt_value_0 : decode b_Kt_value 0 = .ok (.aload_n 0, 1) := by decide +kernel
theorem d_Kt_value_1 : decode b_Kt_value 1 = .ok (.getfield 16, 3) := by decide +kernel
theorem d_Kt_value_4 : decode b_Kt_value 4 = .ok (.ireturn, 1) := by decide +kernel
abbrev rm_Kt_value : Room := { frames := 0, cells := 0, slots := 0, locals := 0 }
abbrev C_Kt_value (D : va_G) (g : Nat → ClassId) (p : Program) (s : State) (m : MethodId) (args : Array Value) (meth : Method) (c : Code) (M0 : Mem) : Prop := Cx p s m args c b_Kt_value 1 R_Kt BIG D vwCl (tysG g) (mA M0 s.heap.size) ∧ meth.sig.returnType = (some .int) ∧ meth.locks = false
abbrev B_Kt_value (l : Launch) (D : va_G) (p : Program) (e : Env) (s : State) (m : MethodId) (args : Array Value) (below : List Frame) (meth : Method) (c : Code) (M0 : Mem) (P : Int32 → Prop) (M : Mem) (pc : Nat) (lv : List (Nat × Value)) (st : List Value) : Prop := Wb p l e rm_Kt_value s m args below meth c 1 D vwCl M0 (kI fun r M' => M0 = M' ∧ P r) 0 0 M pc lv st
def wp_Kt_value (g : Nat → ClassId) (M : Mem) (x0 : Nat) (P : Int32 → Prop) : Prop :=
  ∃ v1 : Int32, gI M 3 x0 1 = some v1 ∧ (P v1)
set_option maxHeartbeats 4000000 in
set_option maxRecDepth 100000 in
theorem c_Kt_value {l : Launch} {D : va_G} {g : Nat → ClassId} {M : Mem} {x0 : Nat} {P : Int32 → Prop} (h : wp_Kt_value g M x0 P) : mMet l BIG D vwCl (tysG g) y_Kt_value b_Kt_value 1 (some .int) rm_Kt_value [.ref x0] M (kI fun r M' => M = M' ∧ P r) := by
  refine mMet.of (own := R_Kt) rfl (by decide) rfl (fun p e s m below meth c C hr hlk hnm ls hM hS hl => ?_)
  have C : C_Kt_value D g p s m ([.ref x0] : List Value).toArray meth c M := ⟨C, hr, hlk⟩
  unfold wp_Kt_value at h
  have hl : lv_has ls 1 [(0, .ref x0)] := hl
  refine lv_aload_n C.1.1 C.1.2.1 d_Kt_value_0 rfl (lv_at hl 0 rfl) ?_
  obtain ⟨v1, ev1, h⟩ := h
  refine mg_I C.1 hM ok_Kt (by decide) kw88 ev1 d_Kt_value_1 ?_
  exact mr_I C.1 C.2.1 C.2.2 hM hS ⟨_, rfl, rfl, h⟩ d_Kt_value_4
theorem d_Kt_setValue_0 : decode b_Kt_setValue 0 = .ok (.aload_n 0, 1) := by decide +kernel
theorem d_Kt_setValue_1 : decode b_Kt_setValue 1 = .ok (.iload_n 1, 1) := by decide +kernel
theorem d_Kt_setValue_2 : decode b_Kt_setValue 2 = .ok (.putfield 16, 3) := by decide +kernel
theorem d_Kt_setValue_5 : decode b_Kt_setValue 5 = .ok (.return_, 1) := by decide +kernel
abbrev rm_Kt_setValue : Room := { frames := 0, cells := 0, slots := 0, locals := 0 }
abbrev C_Kt_setValue (D : va_G) (g : Nat → ClassId) (p : Program) (s : State) (m : MethodId) (args : Array Value) (meth : Method) (c : Code) (M0 : Mem) : Prop := Cx p s m args c b_Kt_setValue 2 R_Kt BIG D vwCl (tysG g) (mA M0 s.heap.size) ∧ meth.sig.returnType = none ∧ meth.locks = false
abbrev B_Kt_setValue (l : Launch) (D : va_G) (p : Program) (e : Env) (s : State) (m : MethodId) (args : Array Value) (below : List Frame) (meth : Method) (c : Code) (M0 : Mem) (P : Mem → Prop) (M : Mem) (pc : Nat) (lv : List (Nat × Value)) (st : List Value) : Prop := Wb p l e rm_Kt_setValue s m args below meth c 2 D vwCl M0 (kV fun M' => P M') 0 0 M pc lv st
def wp_Kt_setValue (g : Nat → ClassId) (M : Mem) (x0 : Nat) (x1 : Int32) (P : Mem → Prop) : Prop :=
  ∃ M1 : Mem, pV M 3 x0 1 (.int x1) = some M1 ∧ (P M1)
set_option maxHeartbeats 4000000 in
set_option maxRecDepth 100000 in
theorem c_Kt_setValue {l : Launch} {D : va_G} {g : Nat → ClassId} {M : Mem} {x0 : Nat} {x1 : Int32} {P : Mem → Prop} (h : wp_Kt_setValue g M x0 x1 P) : mMet l BIG D vwCl (tysG g) y_Kt_setValue b_Kt_setValue 2 none rm_Kt_setValue [.ref x0, .int x1] M (kV fun M' => P M') := by
  refine mMet.of (own := R_Kt) rfl (by decide) rfl (fun p e s m below meth c C hr hlk hnm ls hM hS hl => ?_)
  have C : C_Kt_setValue D g p s m ([.ref x0, .int x1] : List Value).toArray meth c M := ⟨C, hr, hlk⟩
  unfold wp_Kt_setValue at h
  have hl : lv_has ls 2 [(0, .ref x0), (1, .int x1)] := hl
  refine lv_aload_n C.1.1 C.1.2.1 d_Kt_setValue_0 rfl (lv_at hl 0 rfl) ?_
  refine lv_iload_n C.1.1 C.1.2.1 d_Kt_setValue_1 rfl (lv_at hl 1 rfl) ?_
  obtain ⟨M1, eM1, h⟩ := h
  refine mp_V C.1 hM hS ok_Kt (by decide) kw88 rfl rfl rfl eM1 d_Kt_setValue_2 (fun H locs hM hS => ?_)
  exact mr_V C.1 C.2.1 C.2.2 hM hS ⟨rfl, h⟩ d_Kt_setValue_5
theorem d_Bnd_init_0 : decode b_Bnd_init 0 = .ok (.aload_n 0, 1) := by decide +kernel
theorem d_Bnd_init_1 : decode b_Bnd_init 1 = .ok (.invokespecial 3, 3) := by decide +kernel
theorem d_Bnd_init_4 : decode b_Bnd_init 4 = .ok (.aload_n 0, 1) := by decide +kernel
theorem d_Bnd_init_5 : decode b_Bnd_init 5 = .ok (.new 9, 3) := by decide +kernel
theorem d_Bnd_init_8 : decode b_Bnd_init 8 = .ok (.dup, 1) := by decide +kernel
theorem d_Bnd_init_9 : decode b_Bnd_init 9 = .ok (.invokespecial 11, 3) := by decide +kernel
theorem d_Bnd_init_12 : decode b_Bnd_init 12 = .ok (.putfield 12, 3) := by decide +kernel
theorem d_Bnd_init_15 : decode b_Bnd_init 15 = .ok (.aload_n 0, 1) := by decide +kernel
theorem d_Bnd_init_16 : decode b_Bnd_init 16 = .ok (.iconst (-1), 1) := by decide +kernel
theorem d_Bnd_init_17 : decode b_Bnd_init 17 = .ok (.putfield 18, 3) := by decide +kernel
theorem d_Bnd_init_20 : decode b_Bnd_init 20 = .ok (.aload_n 0, 1) := by decide +kernel
theorem d_Bnd_init_21 : decode b_Bnd_init 21 = .ok (.iconst 0, 1) := by decide +kernel
theorem d_Bnd_init_22 : decode b_Bnd_init 22 = .ok (.putfield 22, 3) := by decide +kernel
theorem d_Bnd_init_25 : decode b_Bnd_init 25 = .ok (.return_, 1) := by decide +kernel
abbrev rm_Bnd_init : Room := { frames := 2, cells := 3, slots := 70, locals := 40 }
abbrev C_Bnd_init (D : va_G) (g : Nat → ClassId) (p : Program) (s : State) (m : MethodId) (args : Array Value) (meth : Method) (c : Code) (M0 : Mem) : Prop := Cx p s m args c b_Bnd_init 1 R_Bnd BIG D vwCl (tysG g) (mA M0 s.heap.size) ∧ meth.sig.returnType = none ∧ meth.locks = false ∧ meth.name = "<init>"
abbrev B_Bnd_init (l : Launch) (D : va_G) (p : Program) (e : Env) (s : State) (m : MethodId) (args : Array Value) (below : List Frame) (meth : Method) (c : Code) (M0 : Mem) (P : Mem → Prop) (cn sn : Nat) (M : Mem) (pc : Nat) (lv : List (Nat × Value)) (st : List Value) : Prop := Wb p l e rm_Bnd_init s m args below meth c 1 D vwCl M0 (kV fun M' => P M') cn sn M pc lv st
def wp_Bnd_init (g : Nat → ClassId) (M : Mem) (x0 : Nat) (P : Mem → Prop) : Prop :=
  ∀ (q1 : Nat) (M2 : Mem), M q1 = none → M2 = mup M q1 (.inr (1, [.null, .null, .int 0, .int 0])) → (wp_Text_init g M2 q1 (fun (M4 : Mem) => ∃ M5 : Mem, pV M4 2 x0 0 (.ref q1) = some M5 ∧ (∃ M6 : Mem, pV M5 2 x0 1 (.int (-1 : Int32)) = some M6 ∧ (∃ M7 : Mem, pV M6 2 x0 2 (.int (0 : Int32)) = some M7 ∧ (P M7)))))
set_option maxHeartbeats 4000000 in
set_option maxRecDepth 100000 in
theorem c_Bnd_init {l : Launch} {D : va_G} {g : Nat → ClassId} {M : Mem} {x0 : Nat} {P : Mem → Prop} (h : wp_Bnd_init g M x0 P) : mMet l BIG D vwCl (tysG g) y_Bnd_init b_Bnd_init 1 none rm_Bnd_init [.ref x0] M (kV fun M' => P M') := by
  refine mMet.of (own := R_Bnd) rfl (by decide) rfl (fun p e s m below meth c C hr hlk hnm ls hM hS hl => ?_)
  have C : C_Bnd_init D g p s m ([.ref x0] : List Value).toArray meth c M := ⟨C, hr, hlk, hnm⟩
  have hcn : 0 + 3 ≤ 3 := by decide
  have hsn : 0 + 70 ≤ 70 := by decide
  unfold wp_Bnd_init at h
  have hl : lv_has ls 1 [(0, .ref x0)] := hl
  refine lv_aload_n C.1.1 C.1.2.1 d_Bnd_init_0 rfl (lv_at hl 0 rfl) ?_
  refine m_objInit C.1 kw148 kw3 kw4 hl.1 d_Bnd_init_1 (by decide) (by decide) (Nat.le_of_ble_eq_true rfl) ?_
  refine lv_aload_n C.1.1 C.1.2.1 d_Bnd_init_4 rfl (lv_at hl 0 rfl) ?_
  refine mn_O (fs := [.null, .null, .int 0, .int 0]) C.1 hM hS ok_Text kw149 kw150 kw107 (fun j hj => by rcases (show j = 0 ∨ j = 1 ∨ j = 2 ∨ j = 3 by omega) with rfl | rfl | rfl | rfl <;> rfl) (show _ ≤ (3 : Nat) by omega) (show _ ≤ (70 : Nat) by omega) d_Bnd_init_5 (fun q1 H hq1 hM hS => ?_)
  obtain ⟨M2, eM2⟩ : ∃ N : Mem, N = mup M q1 (.inr (1, [.null, .null, .int 0, .int 0])) := ⟨_, rfl⟩
  rw [← eM2] at hM
  have h := h q1 M2 hq1 eM2
  refine lv_dup C.1.1 C.1.2.1 d_Bnd_init_8 rfl ?_
  refine mc_I (As := []) C.1 hM hS bigGood (c_Text_init h) rfl kw151 kw153 kw107 kw152 hd_Text_init ⟨by decide, by decide⟩ hl.1 rfl (Nat.le_of_ble_eq_true rfl) d_Bnd_init_9 (mc := 2) (ms := 66) rfl rfl ⟨show _ ≤ (3 : Nat) by omega, show _ ≤ (70 : Nat) by omega⟩ (fun v M4 H locs hp hM hS => ?_)
  obtain ⟨rfl, h⟩ := hp
  obtain ⟨M5, eM5, h⟩ := h
  refine mp_F C.1 hM hS C.2.2.2 ok_Bnd (by decide) kw85 rfl rfl rfl rfl eM5 d_Bnd_init_12 (fun H locs hM hS => ?_)
  refine lv_aload_n C.1.1 C.1.2.1 d_Bnd_init_15 rfl (lv_at hl 0 rfl) ?_
  refine lv_iconst (v := (-1 : Int32)) C.1.1 C.1.2.1 d_Bnd_init_16 (by decide) ?_
  obtain ⟨M6, eM6, h⟩ := h
  refine mp_V C.1 hM hS ok_Bnd (by decide) kw84 rfl rfl rfl eM6 d_Bnd_init_17 (fun H locs hM hS => ?_)
  refine lv_aload_n C.1.1 C.1.2.1 d_Bnd_init_20 rfl (lv_at hl 0 rfl) ?_
  refine lv_iconst (v := (0 : Int32)) C.1.1 C.1.2.1 d_Bnd_init_21 (by decide) ?_
  obtain ⟨M7, eM7, h⟩ := h
  refine mp_V C.1 hM hS ok_Bnd (by decide) kw86 rfl rfl rfl eM7 d_Bnd_init_22 (fun H locs hM hS => ?_)
  refine W.widen (k := 3) (n := 70) (show _ ≤ (3 : Nat) by omega) (show _ ≤ (70 : Nat) by omega) ?_
  exact mr_V C.1 C.2.1 C.2.2.1 hM hS ⟨rfl, h⟩ d_Bnd_init_25
theorem d_Kt_init_0 : decode b_Kt_init 0 = .ok (.aload_n 0, 1) := by decide +kernel
theorem d_Kt_init_1 : decode b_Kt_init 1 = .ok (.invokespecial 1, 3) := by decide +kernel
theorem d_Kt_init_4 : decode b_Kt_init 4 = .ok (.aload_n 0, 1) := by decide +kernel
theorem d_Kt_init_5 : decode b_Kt_init 5 = .ok (.new 7, 3) := by decide +kernel
theorem d_Kt_init_8 : decode b_Kt_init 8 = .ok (.dup, 1) := by decide +kernel
theorem d_Kt_init_9 : decode b_Kt_init 9 = .ok (.invokespecial 9, 3) := by decide +kernel
theorem d_Kt_init_12 : decode b_Kt_init 12 = .ok (.putfield 10, 3) := by decide +kernel
theorem d_Kt_init_15 : decode b_Kt_init 15 = .ok (.aload_n 0, 1) := by decide +kernel
theorem d_Kt_init_16 : decode b_Kt_init 16 = .ok (.iconst 0, 1) := by decide +kernel
theorem d_Kt_init_17 : decode b_Kt_init 17 = .ok (.putfield 16, 3) := by decide +kernel
theorem d_Kt_init_20 : decode b_Kt_init 20 = .ok (.return_, 1) := by decide +kernel
abbrev rm_Kt_init : Room := { frames := 2, cells := 3, slots := 70, locals := 40 }
abbrev C_Kt_init (D : va_G) (g : Nat → ClassId) (p : Program) (s : State) (m : MethodId) (args : Array Value) (meth : Method) (c : Code) (M0 : Mem) : Prop := Cx p s m args c b_Kt_init 1 R_Kt BIG D vwCl (tysG g) (mA M0 s.heap.size) ∧ meth.sig.returnType = none ∧ meth.locks = false ∧ meth.name = "<init>"
abbrev B_Kt_init (l : Launch) (D : va_G) (p : Program) (e : Env) (s : State) (m : MethodId) (args : Array Value) (below : List Frame) (meth : Method) (c : Code) (M0 : Mem) (P : Mem → Prop) (cn sn : Nat) (M : Mem) (pc : Nat) (lv : List (Nat × Value)) (st : List Value) : Prop := Wb p l e rm_Kt_init s m args below meth c 1 D vwCl M0 (kV fun M' => P M') cn sn M pc lv st
def wp_Kt_init (g : Nat → ClassId) (M : Mem) (x0 : Nat) (P : Mem → Prop) : Prop :=
  ∀ (q1 : Nat) (M2 : Mem), M q1 = none → M2 = mup M q1 (.inr (1, [.null, .null, .int 0, .int 0])) → (wp_Text_init g M2 q1 (fun (M4 : Mem) => ∃ M5 : Mem, pV M4 3 x0 0 (.ref q1) = some M5 ∧ (∃ M6 : Mem, pV M5 3 x0 1 (.int (0 : Int32)) = some M6 ∧ (P M6))))
set_option maxHeartbeats 4000000 in
set_option maxRecDepth 100000 in
theorem c_Kt_init {l : Launch} {D : va_G} {g : Nat → ClassId} {M : Mem} {x0 : Nat} {P : Mem → Prop} (h : wp_Kt_init g M x0 P) : mMet l BIG D vwCl (tysG g) y_Kt_init b_Kt_init 1 none rm_Kt_init [.ref x0] M (kV fun M' => P M') := by
  refine mMet.of (own := R_Kt) rfl (by decide) rfl (fun p e s m below meth c C hr hlk hnm ls hM hS hl => ?_)
  have C : C_Kt_init D g p s m ([.ref x0] : List Value).toArray meth c M := ⟨C, hr, hlk, hnm⟩
  have hcn : 0 + 3 ≤ 3 := by decide
  have hsn : 0 + 70 ≤ 70 := by decide
  unfold wp_Kt_init at h
  have hl : lv_has ls 1 [(0, .ref x0)] := hl
  refine lv_aload_n C.1.1 C.1.2.1 d_Kt_init_0 rfl (lv_at hl 0 rfl) ?_
  refine m_objInit C.1 kw154 kw3 kw4 hl.1 d_Kt_init_1 (by decide) (by decide) (Nat.le_of_ble_eq_true rfl) ?_
  refine lv_aload_n C.1.1 C.1.2.1 d_Kt_init_4 rfl (lv_at hl 0 rfl) ?_
  refine mn_O (fs := [.null, .null, .int 0, .int 0]) C.1 hM hS ok_Text kw155 kw150 kw107 (fun j hj => by rcases (show j = 0 ∨ j = 1 ∨ j = 2 ∨ j = 3 by omega) with rfl | rfl | rfl | rfl <;> rfl) (show _ ≤ (3 : Nat) by omega) (show _ ≤ (70 : Nat) by omega) d_Kt_init_5 (fun q1 H hq1 hM hS => ?_)
  obtain ⟨M2, eM2⟩ : ∃ N : Mem, N = mup M q1 (.inr (1, [.null, .null, .int 0, .int 0])) := ⟨_, rfl⟩
  rw [← eM2] at hM
  have h := h q1 M2 hq1 eM2
  refine lv_dup C.1.1 C.1.2.1 d_Kt_init_8 rfl ?_
  refine mc_I (As := []) C.1 hM hS bigGood (c_Text_init h) rfl kw156 kw153 kw107 kw152 hd_Text_init ⟨by decide, by decide⟩ hl.1 rfl (Nat.le_of_ble_eq_true rfl) d_Kt_init_9 (mc := 2) (ms := 66) rfl rfl ⟨show _ ≤ (3 : Nat) by omega, show _ ≤ (70 : Nat) by omega⟩ (fun v M4 H locs hp hM hS => ?_)
  obtain ⟨rfl, h⟩ := hp
  obtain ⟨M5, eM5, h⟩ := h
  refine mp_F C.1 hM hS C.2.2.2 ok_Kt (by decide) kw87 rfl rfl rfl rfl eM5 d_Kt_init_12 (fun H locs hM hS => ?_)
  refine lv_aload_n C.1.1 C.1.2.1 d_Kt_init_15 rfl (lv_at hl 0 rfl) ?_
  refine lv_iconst (v := (0 : Int32)) C.1.1 C.1.2.1 d_Kt_init_16 (by decide) ?_
  obtain ⟨M6, eM6, h⟩ := h
  refine mp_V C.1 hM hS ok_Kt (by decide) kw88 rfl rfl rfl eM6 d_Kt_init_17 (fun H locs hM hS => ?_)
  refine W.widen (k := 3) (n := 70) (show _ ≤ (3 : Nat) by omega) (show _ ≤ (70 : Nat) by omega) ?_
  exact mr_V C.1 C.2.1 C.2.2.1 hM hS ⟨rfl, h⟩ d_Kt_init_20
theorem d_Bnd_tie_0 : decode b_Bnd_tie 0 = .ok (.aload_n 0, 1) := by decide +kernel
theorem d_Bnd_tie_1 : decode b_Bnd_tie 1 = .ok (.getfield 12, 3) := by decide +kernel
theorem d_Bnd_tie_4 : decode b_Bnd_tie 4 = .ok (.aload_n 1, 1) := by decide +kernel
theorem d_Bnd_tie_5 : decode b_Bnd_tie 5 = .ok (.invokevirtual 25, 3) := by decide +kernel
theorem d_Bnd_tie_8 : decode b_Bnd_tie 8 = .ok (.aload_n 0, 1) := by decide +kernel
theorem d_Bnd_tie_9 : decode b_Bnd_tie 9 = .ok (.iload_n 2, 1) := by decide +kernel
theorem d_Bnd_tie_10 : decode b_Bnd_tie 10 = .ok (.putfield 18, 3) := by decide +kernel
theorem d_Bnd_tie_13 : decode b_Bnd_tie 13 = .ok (.aload_n 0, 1) := by decide +kernel
theorem d_Bnd_tie_14 : decode b_Bnd_tie 14 = .ok (.iconst 0, 1) := by decide +kernel
theorem d_Bnd_tie_15 : decode b_Bnd_tie 15 = .ok (.putfield 22, 3) := by decide +kernel
theorem d_Bnd_tie_18 : decode b_Bnd_tie 18 = .ok (.return_, 1) := by decide +kernel
abbrev rm_Bnd_tie : Room := { frames := 2, cells := 0, slots := 0, locals := 44 }
abbrev C_Bnd_tie (D : va_G) (g : Nat → ClassId) (p : Program) (s : State) (m : MethodId) (args : Array Value) (meth : Method) (c : Code) (M0 : Mem) : Prop := Cx p s m args c b_Bnd_tie 3 R_Bnd BIG D vwCl (tysG g) (mA M0 s.heap.size) ∧ meth.sig.returnType = none ∧ meth.locks = false
abbrev B_Bnd_tie (l : Launch) (D : va_G) (p : Program) (e : Env) (s : State) (m : MethodId) (args : Array Value) (below : List Frame) (meth : Method) (c : Code) (M0 : Mem) (P : Mem → Prop) (M : Mem) (pc : Nat) (lv : List (Nat × Value)) (st : List Value) : Prop := Wb p l e rm_Bnd_tie s m args below meth c 3 D vwCl M0 (kV fun M' => P M') 0 0 M pc lv st
def wp_Bnd_tie (g : Nat → ClassId) (M : Mem) (x0 : Nat) (x1 : Nat) (x2 : Int32) (P : Mem → Prop) : Prop :=
  ∃ v1 : Nat, gR M 2 x0 0 = some v1 ∧ (isO M 1 v1 ∧ (wp_Text_copy g M v1 x1 (fun (M3 : Mem) => ∃ M4 : Mem, pV M3 2 x0 1 (.int x2) = some M4 ∧ (∃ M5 : Mem, pV M4 2 x0 2 (.int (0 : Int32)) = some M5 ∧ (P M5)))))
set_option maxHeartbeats 4000000 in
set_option maxRecDepth 100000 in
theorem c_Bnd_tie {l : Launch} {D : va_G} {g : Nat → ClassId} {M : Mem} {x0 : Nat} {x1 : Nat} {x2 : Int32} {P : Mem → Prop} (h : wp_Bnd_tie g M x0 x1 x2 P) : mMet l BIG D vwCl (tysG g) y_Bnd_tie b_Bnd_tie 3 none rm_Bnd_tie [.ref x0, .ref x1, .int x2] M (kV fun M' => P M') := by
  refine mMet.of (own := R_Bnd) rfl (by decide) rfl (fun p e s m below meth c C hr hlk hnm ls hM hS hl => ?_)
  have C : C_Bnd_tie D g p s m ([.ref x0, .ref x1, .int x2] : List Value).toArray meth c M := ⟨C, hr, hlk⟩
  unfold wp_Bnd_tie at h
  have hl : lv_has ls 3 [(0, .ref x0), (1, .ref x1), (2, .int x2)] := hl
  refine lv_aload_n C.1.1 C.1.2.1 d_Bnd_tie_0 rfl (lv_at hl 0 rfl) ?_
  obtain ⟨v1, ev1, h⟩ := h
  refine mg_R C.1 hM ok_Bnd (by decide) kw85 ev1 d_Bnd_tie_1 ?_
  refine lv_aload_n C.1.1 C.1.2.1 d_Bnd_tie_4 rfl (lv_at hl 1 rfl) ?_
  obtain ⟨ho, h⟩ := h
  refine mc_V (As := [.ref x1]) (ci := 1) C.1 hM hS bigGood (c_Text_copy h) rfl ho kw252 kw254 kw255 kw107 kw253 hd_Text_copy ⟨by decide, by decide⟩ hl.1 rfl (Nat.le_of_ble_eq_true rfl) d_Bnd_tie_5 (mc := 0) (ms := 0) rfl rfl ⟨by decide, by decide⟩ (fun v M3 H locs hp hM hS => ?_)
  obtain ⟨rfl, h⟩ := hp
  refine lv_aload_n C.1.1 C.1.2.1 d_Bnd_tie_8 rfl (lv_at hl 0 rfl) ?_
  refine lv_iload_n C.1.1 C.1.2.1 d_Bnd_tie_9 rfl (lv_at hl 2 rfl) ?_
  obtain ⟨M4, eM4, h⟩ := h
  refine mp_V C.1 hM hS ok_Bnd (by decide) kw84 rfl rfl rfl eM4 d_Bnd_tie_10 (fun H locs hM hS => ?_)
  refine lv_aload_n C.1.1 C.1.2.1 d_Bnd_tie_13 rfl (lv_at hl 0 rfl) ?_
  refine lv_iconst (v := (0 : Int32)) C.1.1 C.1.2.1 d_Bnd_tie_14 (by decide) ?_
  obtain ⟨M5, eM5, h⟩ := h
  refine mp_V C.1 hM hS ok_Bnd (by decide) kw86 rfl rfl rfl eM5 d_Bnd_tie_15 (fun H locs hM hS => ?_)
  exact mr_V C.1 C.2.1 C.2.2 hM hS ⟨rfl, h⟩ d_Bnd_tie_18
theorem d_Kt_setText_0 : decode b_Kt_setText 0 = .ok (.aload_n 0, 1) := by decide +kernel
theorem d_Kt_setText_1 : decode b_Kt_setText 1 = .ok (.getfield 10, 3) := by decide +kernel
theorem d_Kt_setText_4 : decode b_Kt_setText 4 = .ok (.aload_n 1, 1) := by decide +kernel
theorem d_Kt_setText_5 : decode b_Kt_setText 5 = .ok (.invokevirtual 20, 3) := by decide +kernel
theorem d_Kt_setText_8 : decode b_Kt_setText 8 = .ok (.return_, 1) := by decide +kernel
abbrev rm_Kt_setText : Room := { frames := 2, cells := 0, slots := 0, locals := 44 }
abbrev C_Kt_setText (D : va_G) (g : Nat → ClassId) (p : Program) (s : State) (m : MethodId) (args : Array Value) (meth : Method) (c : Code) (M0 : Mem) : Prop := Cx p s m args c b_Kt_setText 2 R_Kt BIG D vwCl (tysG g) (mA M0 s.heap.size) ∧ meth.sig.returnType = none ∧ meth.locks = false
abbrev B_Kt_setText (l : Launch) (D : va_G) (p : Program) (e : Env) (s : State) (m : MethodId) (args : Array Value) (below : List Frame) (meth : Method) (c : Code) (M0 : Mem) (P : Mem → Prop) (M : Mem) (pc : Nat) (lv : List (Nat × Value)) (st : List Value) : Prop := Wb p l e rm_Kt_setText s m args below meth c 2 D vwCl M0 (kV fun M' => P M') 0 0 M pc lv st
def wp_Kt_setText (g : Nat → ClassId) (M : Mem) (x0 : Nat) (x1 : Nat) (P : Mem → Prop) : Prop :=
  ∃ v1 : Nat, gR M 3 x0 0 = some v1 ∧ (isO M 1 v1 ∧ (wp_Text_copy g M v1 x1 (fun (M3 : Mem) => P M3)))
set_option maxHeartbeats 4000000 in
set_option maxRecDepth 100000 in
theorem c_Kt_setText {l : Launch} {D : va_G} {g : Nat → ClassId} {M : Mem} {x0 : Nat} {x1 : Nat} {P : Mem → Prop} (h : wp_Kt_setText g M x0 x1 P) : mMet l BIG D vwCl (tysG g) y_Kt_setText b_Kt_setText 2 none rm_Kt_setText [.ref x0, .ref x1] M (kV fun M' => P M') := by
  refine mMet.of (own := R_Kt) rfl (by decide) rfl (fun p e s m below meth c C hr hlk hnm ls hM hS hl => ?_)
  have C : C_Kt_setText D g p s m ([.ref x0, .ref x1] : List Value).toArray meth c M := ⟨C, hr, hlk⟩
  unfold wp_Kt_setText at h
  have hl : lv_has ls 2 [(0, .ref x0), (1, .ref x1)] := hl
  refine lv_aload_n C.1.1 C.1.2.1 d_Kt_setText_0 rfl (lv_at hl 0 rfl) ?_
  obtain ⟨v1, ev1, h⟩ := h
  refine mg_R C.1 hM ok_Kt (by decide) kw87 ev1 d_Kt_setText_1 ?_
  refine lv_aload_n C.1.1 C.1.2.1 d_Kt_setText_4 rfl (lv_at hl 1 rfl) ?_
  obtain ⟨ho, h⟩ := h
  refine mc_V (As := [.ref x1]) (ci := 1) C.1 hM hS bigGood (c_Text_copy h) rfl ho kw256 kw254 kw255 kw107 kw253 hd_Text_copy ⟨by decide, by decide⟩ hl.1 rfl (Nat.le_of_ble_eq_true rfl) d_Kt_setText_5 (mc := 0) (ms := 0) rfl rfl ⟨by decide, by decide⟩ (fun v M3 H locs hp hM hS => ?_)
  obtain ⟨rfl, h⟩ := hp
  exact mr_V C.1 C.2.1 C.2.2 hM hS ⟨rfl, h⟩ d_Kt_setText_8
