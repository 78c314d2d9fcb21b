/-! a call that may throw; where a thrown object is caught -/
section MCT
variable {p : Program} {l : Launch} {e : Env} {R : Room} {s : State} {m : MethodId} {args : Array Value} {below : List Frame} {meth : Method} {c : Code} {H : Heap} {locs : List Loc} {cells slots : Nat} {Q : State → Prop}
variable {cc : ByteArray} {nL pc : Nat} {own : String} {Ts : List Cond} {ls : Array Slot} {st0 rest : List Value} {D : va_G} {cl : List vw_C} {tys : List (ClassId × FieldType)} {M M0 : Mem} {a : Nat}
variable {y : MethodName} {bytes : ByteArray} {maxL index : Nat} {ret : Option FieldType} {rm : Room} {As : List Value} {post : Option Value → Mem → Prop} {postT : Nat → Mem → Prop} {b : Nat}
set_option maxHeartbeats 4000000 in
theorem mcT_V (C : Cx p s m args c cc nL own Ts D cl tys (mA M0 s.heap.size)) (hM : mW D cl (mA M0 s.heap.size) M H) (hS : va_S (mA M0 s.heap.size) s.heap H locs) (hg : goodAll Ts) (hT : mT s) (hM0 : mW D cl (mA M0 s.heap.size) M0 s.heap) (hc : mMetT l Ts D cl tys y bytes maxL ret rm (.ref b :: As) M post postT)
    {ci N : Nat} {T : u_T} (hcl : cl[ci]? = some (y.cls, T, N)) (ho : isO M ci b) (k1 : Cond.methodLink own index y ∈ Ts) (k2 : Cond.instanceMethod y ∈ Ts) (k3 : Cond.selects y.cls y y ∈ Ts) (k4 : Cond.initialized y.cls ∈ Ts) (k5 : Cond.code y bytes maxL ret ∈ Ts)
    (hd : y.cls ≠ "java/lang/invoke/MethodHandle" ∧ y.cls ≠ "java/lang/invoke/VarHandle" ∧ (parseMethodDescriptor y.desc).map (fun d => d.parameters.length) = some As.length) (hR : rm.frames + 1 ≤ R.frames ∧ 8 + (maxL + 11) + rm.locals ≤ R.locals) (hsz : ls.size = nL) (hst : st0 = As.reverse ++ .ref b :: rest) (hW : (rest.map fun v => v.category).sum ≤ 8) (hdg : decode cc pc = .ok (.invokevirtual index, 3)) {mc ms : Nat} (hmc : rm.cells = mc) (hms : rm.slots = ms) (hf : cells + mc ≤ R.cells ∧ slots + ms ≤ R.slots)
    (kk : ∀ (v : Option Value) (M' : Mem) (H1 : Heap) (locs1 : List Loc), post v M' → mW D cl (mA M0 s.heap.size) M' H1 → va_S (mA M0 s.heap.size) s.heap H1 locs1 → W p l e R s m args below meth c H1 locs1 (cells + mc) (slots + ms) Q (F0 m (pc + 3) ls (v.toList ++ rest)))
    (kT : ∀ (k a : Nat) (M' : Mem) (H1 : Heap) (locs1 : List Loc) (ce : Cell), postT k M' → mW D cl (mA M0 s.heap.size) M' H1 → va_S (mA M0 s.heap.size) s.heap H1 locs1 → H1[a]? = some ce → s.vm.findClass (xcls k) = some ce.cls → ce.vm = .none → ∀ T' : State, T'.heap = H1 → Stand p l e R s m args below meth c T' locs1 (cells + mc) (slots + ms) → ∃ t, Steps p.tables e below ((T'.setTop (F0 m pc ls rest)).pushFrame (.throwing a)) t ∧ Q t) :
    W p l e R s m args below meth c H locs cells slots Q (F0 m pc ls st0) := by
  subst hst
  subst hmc
  subst hms
  obtain ⟨hx, hb, hml, hown, hts, hK, hA, hX⟩ := C
  have hfr : ∀ q, mA M H.size q → mA M0 s.heap.size q := by
    intro q hq
    rcases hq with ⟨e0, he0⟩ | hq
    · exact hM.inA he0
    · exact Or.inr (Nat.le_trans hS.1 hq)
  obtain ⟨cellB, hcB, hoB, hclB⟩ : ∃ cell : Cell, H[b]? = some cell ∧ cell.vm.isStatics = false ∧ s.vm.findClass y.cls = some cell.cls := by
    obtain ⟨fs, ho⟩ := ho
    obtain ⟨ws, hr, hP, hD⟩ := hM
    obtain ⟨q0, hq⟩ := (hr b _).mp ho
    exact va_recv hK hP (ci := ci) (q0 := q0) hcl hq
  intro T hTH X
  obtain ⟨mk, methM, hnamed, hmethM, hstM, habM⟩ := Cond.instanceMethod_spec (hts _ k2)
  obtain ⟨methM', cM, hmethM', hcM, -, hlM, -, -, -, hsigM⟩ := Cond.code_spec hnamed (hts _ k5)
  cases hmethM.symm.trans hmethM'
  obtain ⟨c2, r2, m2, q1, q2, q3, q4, kP, hkP, hkPi⟩ := Cond.selects_spec (hts _ k3)
  cases hclB.symm.trans q1
  cases (State.methodFound?_of_named hnamed ⟨hd.1, hd.2.1⟩).symm.trans q2
  cases hnamed.symm.trans q3
  have hselP : selectMethod e.platform s.vm cellB.cls mk = .method mk := by rw [Launch.admits_selectMethod X.admits]; exact q4
  have hlen : As.length = methM.sig.parameters.length := by
    have h2 := hd.2.2
    rw [hsigM] at h2
    exact (Option.some.inj h2).symm
  obtain ⟨vm₁, X₁, hstep₁⟩ := X.invokevirtual hx hown (hts _ k1) hnamed hmethM hstM hkP hkPi ⟨hd.1, hd.2.1⟩ (a := b) (cell := cellB) (by rw [hTH]; exact hcB)
    (fun z h => by rw [h] at hoB; cases hoB) hselP hmethM habM hkP hkPi (g := F0 m pc ls (As.reverse ++ .ref b :: rest)) rfl (argsL := As) (rest := rest) hlen rfl (by rw [hb]; exact hdg)
  have hWU : s.WarmedH vm₁ := X₁.warmed
  have hwU : ∀ w ∈ Ts, ∀ a' : Array Value, w.before a' (T.setVm vm₁) = true := fun w hw a' => word_at (U := T.setVm vm₁) hWU (hg w hw) (hts w hw)
  have hn : (T.setVm vm₁).methodNamed? y = some mk := X₁.named hnamed
  obtain ⟨methY, cY, hmY, hcY, -, hlY, -, -, -, -⟩ := Cond.code_spec hn (hwU _ k5 #[])
  obtain ⟨kY, hkY, -⟩ := className_of_methodNamed hn
  have hinitY : kY.init = .initialized := Cond.initialized_spec (findClass_of_methodNamed hn) hkY (hwU _ k4 #[])
  have hdc : decode c.code (F0 m pc ls rest).pc = .ok (.invokevirtual index, 3) := by rw [hb]; exact hdg
  have hpre : (headSpec (.code y bytes maxL ret :: Ts) rm).pre.before (Value.ref b :: As).toArray (T.setVm vm₁) = true := atoms_intro fun w hw => by
    rcases List.mem_cons.mp hw with h | h
    · rw [h]; exact hwU _ k5 _
    · exact hwU _ h _
  have happ : (headSpec (.code y bytes maxL ret :: Ts) rm).appliesLoose y e.platform ((T.setVm vm₁).calling (F0 m pc ls rest) mk (Value.ref b :: As).toArray) = true :=
    Spec.appliesLoose_calling (g := F0 m pc ls rest) X₁.here hdc hn hkY hinitY
      (X₁.room_calling (g := F0 m pc ls rest) (R' := rm) (by rw [hml]; exact hsz) hmY hcY hR.1 (by rw [hlY]; have := lv_room (m := m) (pc := pc) (ls := ls) (rest := rest) hW; have h3 : 2 * (F0 m pc ls rest).monitorRoom + ((F0 m pc ls rest).stack.map fun v => v.category).sum ≤ 8 := this; omega) hf.1 hf.2) hpre
  have hfrm : ((T.setVm vm₁).setTop (F0 m pc ls rest)).frames = [.java (F0 m pc ls rest)] ++ below := by
    rw [State.frames_setTop' (F0 m pc ls rest) X₁.here.top, X₁.tail]; rfl
  have hTU : mT ((T.setVm vm₁).calling (F0 m pc ls rest) mk (Value.ref b :: As).toArray) := by
    have h1 : mT (T.setVm vm₁) := hT.move hWU (stK_of hM0 hS hTH)
    exact mT.same (u := T.setVm vm₁) rfl rfl h1
  have hP : mPcT D cl tys (.ref b :: As) M H.size (Value.ref b :: As).toArray ((T.setVm vm₁).calling (F0 m pc ls rest) mk (Value.ref b :: As).toArray) :=
    ⟨mPc_blind _ _ _ _ ⟨rfl, by rw [← hTH]; rfl, by show mW D cl _ M T.heap; rw [hTH]; exact hM.weaken (fun _ _ => trivial), va_K.moved (u := s) (U := T.setVm vm₁) hWU.alike hK, mX.warm (U := T.setVm vm₁) hWU hX⟩, hTU⟩
  obtain ⟨o, s₂, hsteps, -, hend, ⟨hq, hF⟩, L, ⟨hWs, hsm⟩, hL⟩ := Steps.callFree (hc H.size) p X.admits X.cas X.clock (acts := []) hfrm happ hP trivial
  rw [hfrm] at hend
  have hS2 : ∀ T' : State, s₂.heap = T'.heap → va_S (mA M0 s.heap.size) s.heap T'.heap (locs ++ L) := by
    intro T' hh
    have hz : H.size ≤ s₂.heap.size := by have h1 := hF.1; rw [← hTH]; exact h1
    refine ⟨by rw [← hh]; exact Nat.le_trans hS.1 hz, fun q h1 h2 => ?_, fun q hq' => ?_⟩
    · rw [← hh]
      have h3 : s₂.heap[q]? = T.heap[q]? := hF.2 q (by show q < T.heap.size; rw [hTH]; exact Nat.lt_of_lt_of_le h1 hS.1) (fun z => h2 (hfr q z))
      rw [h3, hTH]
      exact hS.2.1 q h1 h2
    · rcases List.mem_append.mp hq' with h | h
      · exact hS.2.2 q h
      · exact hfr _ (hL q h)
  rcases hq with ⟨v, M', rfl, hp, hMW⟩ | ⟨a0, k, M', rfl, hp, hMW, ce, hce, hcc, hcv⟩
  · obtain ⟨T', X', -, -, ht⟩ := X₁.outOf (g := F0 m pc ls rest) rfl hdc hend hWs hsm
    have hh : s₂.heap = T'.heap := by rw [ht]; rfl
    obtain ⟨t2, a1, b1⟩ := kk v M' T'.heap (locs ++ L) hp (by rw [← hh]; exact hMW.weaken hfr) (hS2 T' hh) T' rfl X'
    refine ⟨t2, hstep₁ _ fun acts => ?_, b1⟩
    rw [doInvoke_state]
    refine hsteps.trans ?_
    rw [ht]
    exact a1
  · obtain ⟨T', X', -, -, ht⟩ := X₁.outOfThrown (g := F0 m pc ls rest) rfl hend hWs hsm
    have hh : s₂.heap = T'.heap := by rw [ht, throwing_heap]
    obtain ⟨t2, a1, b1⟩ := kT k a0 M' T'.heap (locs ++ L) ce hp (by rw [← hh]; exact hMW.weaken hfr) (hS2 T' hh) (by rw [← hh]; exact hce) (by
      have h4 : ((T.setVm vm₁).calling (F0 m pc ls rest) mk (Value.ref b :: As).toArray).vm.findClass (xcls k) = some ce.cls := hcc
      have h5 : vm₁.findClass (xcls k) = some ce.cls := h4
      rw [hWU.alike.findClass] at h5
      exact h5) hcv T' rfl X'
    refine ⟨t2, hstep₁ _ fun acts => ?_, b1⟩
    rw [doInvoke_state]
    refine hsteps.trans ?_
    rw [ht]
    exact a1
end MCT
/-! the search for a handler: an entry that covers the place, its class linked by the way -/
section FND
variable {Q : Handler → Pre} {E : CtlPost} {e : Env} {d : Bool} {acts : List Action} {s : State} {f : JFrame} {a : Addr}
theorem fh_step {x : ExceptionTableEntry} {t : List ExceptionTableEntry} {c : ClassId} {cell : Cell} (hx : covers x f.pc = true) (h0 : x.catchType ≠ 0) (hl : s.vm.ClassLinks e.platform f.method.cls x.catchType c) (hcell : s.heap[a]? = some cell) (hobj : ∀ k, cell.vm ≠ .statics k) (hk : ∃ k, s.vm.classes[cell.cls]? = some k) (hc : ∃ k, s.vm.classes[c]? = some k) {r : Bool} (hr : s.vm.assignable cell.cls c = r) :
    wp (findHandler.go f a (x :: t)) Q E e d acts s ↔ if r = true then Q (.found x.handlerPc) d acts (s.setVm (s.vm.noted f.method.cls x.catchType (.cls c))) else wp (findHandler.go f a t) Q E e d acts (s.setVm (s.vm.noted f.method.cls x.catchType (.cls c))) := by
  simp only [covers] at hx
  obtain ⟨o1, o2⟩ := (resolveClass_links e.toSetting hl).op (op := VmOp.resolveClass f.method.cls x.catchType) rfl
  have hal : s.vm.Alike (s.vm.noted f.method.cls x.catchType (.cls c)) := (Vm.Alike.refl s.vm).noted _ _ _
  obtain ⟨k1, hk1⟩ := hk
  obtain ⟨k2, hk2⟩ := hc
  obtain ⟨k1', hk1', -⟩ := hal.2.2 _ _ hk1
  obtain ⟨k2', hk2', -⟩ := hal.2.2 _ _ hk2
  have hr' : (s.vm.noted f.method.cls x.catchType (.cls c)).assignable cell.cls c = r := by rw [hal.assignable]; exact hr
  cases r <;> simp [findHandler.go, hx, h0, o1, o2, hcell, hobj, hk1', hk2', hr', VmOp.dirties, VmOp.acts]
/-- the search ends at pc, with the tables v -/
def Fnd (e : Env) (s : State) (f : JFrame) (a : Addr) (pc : Nat) (v : Vm) : Prop := ∀ (Q : Handler → Pre) (E : CtlPost) (d : Bool) (acts : List Action), wp (findHandler f a) Q E e d acts s ↔ Q (.found pc) d acts (s.setVm v)
theorem Fnd.steps {tb : Tables} {s target : State} {g : JFrame} {c : Code} {below : List Frame} (h : At s g.method c below) {pc : Nat} {v : Vm} (hf : Fnd e ((s.setTop g).pushFrame (.throwing a)) g a pc v) (hrest : Steps tb e below ((s.setVm v).setTop { g with pc := pc, stack := [.ref a] }) target) : Steps tb e below ((s.setTop g).pushFrame (.throwing a)) target := by
  obtain ⟨hgo, hw⟩ := h.throwing a
  have hone : (stepThrowing e ((s.setTop g).pushFrame (.throwing a)) a (.java g :: s.frames.tail)).1 = (((s.setTop g).pushFrame (.throwing a)).setVm v).setFrames (.java { g with pc := pc, stack := [.ref a] } :: s.frames.tail) := by
    simp only [stepThrowing, searchFrame, vmDo]
    generalize hr : Sem.go _ e false [] _ = res
    obtain ⟨as, rfl, ha⟩ := Sem.eq_ok_of hr (a := Handler.found pc) (s' := ((s.setTop g).pushFrame (.throwing a)).setVm v) (acts' := []) (by simp [hf _ _ _ _])
    rfl
  refine Steps.head hgo hw ?_
  rw [stepThread_throwing (frames_entered h.top _), hone]
  obtain ⟨g₀, hg⟩ := Option.isSome_iff_exists.mp h.top
  obtain ⟨r, hr⟩ := State.topJava?_eq_some.mp hg
  have hr' : (s.setVm v).frames = .java g₀ :: r := hr
  rw [State.setTop_of_frames _ hr'] at hrest
  have e1 : (((s.setTop g).pushFrame (.throwing a)).setVm v).setFrames (.java { g with pc := pc, stack := [.ref a] } :: s.frames.tail) = (s.setVm v).setFrames (.java { g with pc := pc, stack := [.ref a] } :: r) := by
    rw [hr, List.tail_cons, State.pushFrame, State.setTop_of_frames _ hr]
    show (((s.setFrames _).setVm v).setFrames _).setFrames _ = _
    rw [State.setFrames_setFrames]
    show ((s.setVm v).setFrames _).setFrames _ = _
    rw [State.setFrames_setFrames]
  rw [e1]
  exact hrest
end FND
