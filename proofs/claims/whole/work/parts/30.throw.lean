/-! methods that throw: the start's words that a throw needs, how they move along; the walk taken up anew at the state that it has come to -/
def stK (u U : State) : Prop := ∀ (a : Nat) (cell : Cell), u.heap[a]? = some cell → cell.vm.isStatics = true → U.heap[a]? = some cell
theorem th_cast {u U : State} {A A' : Array Value} (hv : u.vm.Alike U.vm) {c t : String} (h : (Cond.castable c t).before A u = true) : (Cond.castable c t).before A' U = true := by
  have h1 : (Cond.castable c t).before A (u.setVm U.vm) = true := by rw [Cond.castable_setVm hv]; exact h
  exact h1
theorem th_ncast {u U : State} {A A' : Array Value} (hv : u.vm.Alike U.vm) {c t : String} (h : (Cond.not (.castable c t)).before A u = true) : (Cond.not (.castable c t)).before A' U = true := by
  simp only [Cond.before, Cond.holds, Cond.value] at h ⊢
  simp only [hv.findClass, hv.assignable]
  exact h
theorem th_decl {u U : State} {A A' : Array Value} (hv : u.vm.Alike U.vm) {y : MethodName} (h : (Cond.declares y).before A u = true) : (Cond.declares y).before A' U = true := by
  have h1 : (Cond.declares y).before A (u.setVm U.vm) = true := by rw [Cond.declares_setVm hv]; exact h
  exact h1
theorem th_lays {u U : State} {A A' : Array Value} (hv : u.vm.Alike U.vm) (hk : stK u U) {c n d : String} (h : (Cond.laysStatic c n d).before A u = true) : (Cond.laysStatic c n d).before A' U = true := by
  obtain ⟨c1, k, i, f, a, cell, h1, h2, h3, h4, h5, h6, h7, h8, h9⟩ := Cond.laysStatic_spec h
  obtain ⟨k', hf', he⟩ := State.fieldFound?_setVm hv h2
  exact Cond.laysStatic_of (s := U) (by rw [hv.findClass]; exact h1) hf' h3 (by rw [he]; exact h4) (hk a cell h5 h6) h6 h7 h8 (by rw [he]; exact h9)
theorem th_isRef {u U : State} {A A' : Array Value} (hv : u.vm.Alike U.vm) (hk : stK u U) {c n d : String} (hl : (Cond.laysStatic c n d).before A u = true) (h : (Cond.isRef (.static c n d)).before A u = true) : (Cond.isRef (.static c n d)).before A' U = true := by
  obtain ⟨c1, k, i, f, a, cell, h1, h2, h3, h4, h5, h6, h7, h8, h9⟩ := Cond.laysStatic_spec hl
  obtain ⟨k', hf', he⟩ := State.fieldFound?_setVm hv h2
  have hfU : U.fieldFound? c n d = some (c1, k', i, f) := hf'
  obtain ⟨w, hw⟩ := Cond.staticRefV h2 h3 h4 h5 h6 h
  have e1 : (Term.static c n d).eval A' U none [] U = some w.v := by
    simp [Term.eval, State.fieldNamed?, hfU, h3, show k'.statics = some a by rw [he]; exact h4, hk a cell h5 h6, h6, hw]
  simp only [Cond.before, Cond.holds, Cond.value, e1]
  obtain ⟨v, ok⟩ := w
  cases v <;> first | rfl | cases ok
/-- the words of a throw that no list of good words holds, and the texts -/
def thrB : List Cond := [.laysStatic "java/lang/Throwable" "UNASSIGNED_STACK" "[Ljava/lang/StackTraceElement;", .laysStatic "java/lang/Throwable" "SUPPRESSED_SENTINEL" "Ljava/util/List;",
  .declares ⟨"java/lang/RuntimeException", "<init>", "(Ljava/lang/String;)V"⟩, .declares ⟨"java/lang/Exception", "<init>", "(Ljava/lang/String;)V"⟩, .declares ⟨"java/lang/Throwable", "<init>", "(Ljava/lang/String;)V"⟩,
  .castable "java/lang/IllegalArgumentException" "java/lang/IllegalArgumentException", .castable "java/lang/IllegalStateException" "java/lang/IllegalStateException", .castable "java/util/NoSuchElementException" "java/util/NoSuchElementException",
  .isRef (.static "java/lang/Throwable" "UNASSIGNED_STACK" "[Ljava/lang/StackTraceElement;"), .isRef (.static "java/lang/Throwable" "SUPPRESSED_SENTINEL" "Ljava/util/List;"), .not (.castable "java/lang/IllegalStateException" "java/lang/IllegalArgumentException")]
def thrS : List (Nat × String) := [(66, "no pattern, or no such queue"), (76, "no binding is free"), (90, "no topic"), (114, "no more topics can be kept"), (135, "no such kept topic, or no such binding")]
def mT (U : State) : Prop := (∀ w ∈ thrB, ∀ A : Array Value, w.before A U = true) ∧ ∀ q ∈ thrS, ∃ a : Nat, vk_R R_Desk q.1 q.2 a U
theorem mT.move {u U : State} (hW : u.WarmedH U.vm) (hk : stK u U) (h : mT u) : mT U := by
  have hv := hW.alike
  obtain ⟨h1, h2⟩ := h
  refine ⟨?_, fun q hq => ?_⟩
  · simp only [thrB, List.forall_mem_cons] at h1 ⊢
    obtain ⟨a1, a2, a3, a4, a5, a6, a7, a8, a9, a10, a11, -⟩ := h1
    exact ⟨fun _ => th_lays hv hk (a1 #[]), fun _ => th_lays hv hk (a2 #[]), fun _ => th_decl hv (a3 #[]), fun _ => th_decl hv (a4 #[]), fun _ => th_decl hv (a5 #[]), fun _ => th_cast hv (a6 #[]), fun _ => th_cast hv (a7 #[]), fun _ => th_cast hv (a8 #[]), fun _ => th_isRef hv hk (a1 #[]) (a9 #[]), fun _ => th_isRef hv hk (a2 #[]) (a10 #[]), fun _ => th_ncast hv (a11 #[]), fun _ h => absurd h List.not_mem_nil⟩
  · obtain ⟨a, ha⟩ := h2 q hq
    exact ⟨a, ha.warm hW⟩
theorem mT.same {u U : State} (hv : U.vm = u.vm) (hh : U.heap = u.heap) (h : mT u) : mT U := by
  refine mT.move (u := u) ?_ (fun a cell h1 _ => by rw [hh]; exact h1) h
  rw [hv]
  exact State.WarmedH.refl u
section REBASE
variable {p : Program} {l : Launch} {e : Env} {R : Room} {s : State} {m : MethodId} {args : Array Value} {below : List Frame} {meth : Method} {c : Code} {T : State} {locs : List Loc} {cells slots : Nat}
theorem st_rebase (X : Stand p l e R s m args below meth c T locs cells slots) {k n : Nat} (hk : cells + k ≤ R.cells) (hn : slots + n ≤ R.slots) :
    Stand p l e { frames := R.frames, cells := k, slots := n, locals := R.locals } (T.setFrames (.invoking m args :: below)) m args below meth c T [] 0 0 := by
  obtain ⟨g₀, hfr⟩ := X.frames_eq
  have hcur : T.cur < T.threads.size := State.cur_lt_of_frames hfr
  have hf2 : (T.setFrames (.invoking m args :: below)).frames = .invoking m args :: below := State.frames_setFrames _ hcur
  obtain ⟨t, ht, -⟩ := State.frames_cons hfr
  have hal := X.warmed.alike
  have hin : (T.setFrames (.invoking m args :: below)).localsInUse = s.localsInUse := by
    unfold State.localsInUse
    rw [hf2, X.frames]
    show _ + ((((T.vm.method? m).bind _).map _).getD 0 + 11) = _
    rw [hal.method?]
  refine ⟨X.admits, X.cas, X.clock, hf2, ?_, ?_, ?_, X.code, X.here, X.tail, State.WarmedH.refl _, ?_, ?_, ?_⟩
  · have hr := X.room
    simp only [State.hasRoom, Bool.and_eq_true, decide_eq_true_eq] at hr ⊢
    rw [hin, hf2, State.stackLimits_setFrames, State.stackBytes_setFrames, X.limits, X.bytes]
    rw [X.frames] at hr
    exact ⟨⟨⟨⟨hr.1.1.1.1, hr.1.1.1.2⟩, X.cellsAbove hk⟩, X.slotsAbove hn⟩, X.book⟩
  · have hh := X.hears
    cases below with
    | nil => simpa [State.hears, hal.method?] using hh
    | cons f r => cases f <;> simpa [State.hears, State.code?_eq, hal.method?] using hh
  · show T.vm.method? m = some meth
    rw [hal.method?]; exact X.method
  · rw [State.stackLimits_setFrames]
  · rw [State.stackBytes_setFrames]
  · obtain ⟨t2, ht2, -⟩ := State.frames_cons hf2
    have h := (State.sameButNew.refl _ ht2).setFrames T.frames (State.cur_lt_of_frames hf2)
    rw [State.setFrames_setFrames, State.setFrames_self ht] at h
    exact h
end REBASE
/-- which exception -/
def xcls : Nat → String := fun k => if k = 1 then "java/lang/IllegalArgumentException" else if k = 2 then "java/lang/IllegalStateException" else "java/util/NoSuchElementException"
def MQT (below : List Frame) (Qc : Array Value → State → Outcome → State → Prop) (a : Array Value) (s : State) (mc ms : Nat) (free : Addr → Prop) : State → Prop := fun t =>
  ∃ o, t.status = .running ∧ Ended t below o ∧ Qc a s o t ∧ ∃ L, (s.WarmedH t.vm ∧ s.sameButNew ({ t with vm := s.vm } : State) L mc ms) ∧ ∀ q ∈ L, free q.base
/-- what a thrown object is: a cell of its class -/
def thrown (st t : State) (k a : Nat) : Prop := ∃ ce : Cell, t.heap[a]? = some ce ∧ st.vm.findClass (xcls k) = some ce.cls ∧ ce.vm = .none
def mQT (D : va_G) (cl : List vw_C) (post : Option Value → Mem → Prop) (postT : Nat → Mem → Prop) (M : Mem) (sz : Nat) : Array Value → State → Outcome → State → Prop := fun _ st oc t =>
  ((∃ (v : Option Value) (M' : Mem), oc = .returned v ∧ post v M' ∧ mW D cl (mA M sz) M' t.heap) ∨ ∃ (a k : Nat) (M' : Mem), oc = .threw a ∧ postT k M' ∧ mW D cl (mA M sz) M' t.heap ∧ thrown st t k a) ∧ va_F (mA M sz) st t
theorem W.mono {p : Program} {l : Launch} {e : Env} {R : Room} {s : State} {m : MethodId} {args : Array Value} {below : List Frame} {meth : Method} {c : Code} {H : Heap} {locs : List Loc} {cells slots : Nat} {Q Q' : State → Prop} {g : JFrame} (h : W p l e R s m args below meth c H locs cells slots Q g) (hq : ∀ t, Q t → Q' t) : W p l e R s m args below meth c H locs cells slots Q' g := by
  intro T hT X
  obtain ⟨t, a, b⟩ := h T hT X
  exact ⟨t, a, hq t b⟩
theorem MQ.toT {below : List Frame} {D : va_G} {cl : List vw_C} {post : Option Value → Mem → Prop} {postT : Nat → Mem → Prop} {M : Mem} {sz : Nat} {a : Array Value} {s : State} {mc ms : Nat} {free : Addr → Prop} {t : State} (h : MQ below (mQ D cl post M sz) a s mc ms free t) : MQT below (mQT D cl post postT M sz) a s mc ms free t := by
  obtain ⟨o, h1, h2, ⟨h3, h4⟩, L, ⟨-, h5, h6⟩, h7⟩ := h
  exact ⟨o, h1, h2, ⟨Or.inl h3, h4⟩, L, ⟨h5, h6⟩, h7⟩
theorem mW.keep {D : va_G} {cl : List vw_C} {A : Nat → Prop} {M : Mem} {H H1 : Heap} (h : mW D cl A M H) (hk : ∀ q : Nat, q < H.size → H1[q]? = H[q]?) : mW D cl A M H1 := by
  obtain ⟨ws, h1, h2, h3⟩ := h
  exact ⟨ws, h1, h2.kept (fun k q hq => hk q.1 (h2 k q hq).lt), h3⟩
theorem mW.lt {D : va_G} {cl : List vw_C} {A : Nat → Prop} {M : Mem} {H : Heap} (h : mW D cl A M H) {q : Nat} {e : va_E} (hq : M q = some e) : q < H.size := by
  obtain ⟨ws, h1, h2, h3⟩ := h
  obtain ⟨k, hk⟩ := (h1 q e).mp hq
  exact (h2 k _ hk).lt
/-- a cell of statics is no cell of the memory -/
theorem mW.notS {D : va_G} {cl : List vw_C} {A : Nat → Prop} {M : Mem} {H : Heap} (h : mW D cl A M H) {q : Nat} {e : va_E} (hq : M q = some e) {cell : Cell} (hc : H[q]? = some cell) : cell.vm.isStatics = false := by
  obtain ⟨ws, h1, h2, h3⟩ := h
  obtain ⟨k, hk⟩ := (h1 q e).mp hq
  have ha := h2 k _ hk
  cases e with
  | inl x =>
    have h4 : H[q]? = some (vp_cell x.1 x.2) := ha
    rw [hc] at h4
    obtain ⟨cA, n, f | f | f | f | f⟩ := x <;> (cases Option.some.inj h4; rfl)
  | inr o =>
    obtain ⟨r, -, cell', q1, -, q3, -⟩ := ha
    rw [hc] at q1
    cases Option.some.inj q1
    rw [q3]; rfl
theorem stK_of {D : va_G} {cl : List vw_C} {M0 : Mem} {u U : State} {H : Heap} {locs : List Loc} (hM0 : mW D cl (mA M0 u.heap.size) M0 u.heap) (hS : va_S (mA M0 u.heap.size) u.heap H locs) (hU : U.heap = H) : stK u U := by
  intro a cell hc hs
  have hlt : a < u.heap.size := (Array.getElem?_eq_some_iff.mp hc).1
  rw [hU, hS.2.1 a hlt ?_]
  · exact hc
  · rintro (⟨e, he⟩ | hz)
    · rw [hM0.notS he hc] at hs; cases hs
    · omega
