/-! a method with handlers: its contract, the static call of it -/
def mMetH (l : Launch) (Ts : List Cond) (D : va_G) (cl : List vw_C) (tys : List (ClassId × FieldType)) (y : MethodName) (bytes : ByteArray) (maxL : Nat) (ret : Option FieldType) (hh : List (Nat × Nat × Nat × Nat)) (rm : Room) (av : List Value) (M : Mem) (post : Option Value → Mem → Prop) : Prop :=
  ∀ sz : Nat, Met l y (.codeWith y bytes maxL ret hh :: Ts) rm (mPcT D cl tys av M sz) (mQ D cl post M sz) rm.cells rm.slots (mA M sz)
def CH (D : va_G) (cl : List vw_C) (s : State) (c : Code) (meth : Method) (M0 : Mem) (hh : List (Nat × Nat × Nat × Nat)) : Prop := meth.locks = false ∧ mT s ∧ mW D cl (mA M0 s.heap.size) M0 s.heap ∧ c.exceptionTable.toList.map (fun h => (h.startPc, h.endPc, h.handlerPc, h.catchType)) = hh
set_option maxHeartbeats 4000000 in
theorem mMetH.of {l : Launch} {Ts : List Cond} {D : va_G} {cl : List vw_C} {tys : List (ClassId × FieldType)} {y : MethodName} {bytes : ByteArray} {maxL : Nat} {ret : Option FieldType} {hh : List (Nat × Nat × Nat × Nat)} {rm : Room} {av : List Value} {M : Mem} {post : Option Value → Mem → Prop} {own : String} (ho : y.cls = own) (hy : plainName y.cls = true) (hlen : Nat.ble (lg_sl av).length maxL = true)
    (body : ∀ (p : Program) (e : Env) (s : State) (m : MethodId) (below : List Frame) (meth : Method) (c : Code), Cx p s m av.toArray c bytes maxL own Ts D cl tys (mA M s.heap.size) → meth.sig.returnType = ret → CH D cl s c meth M hh → ∀ ls : Array Slot, mW D cl (mA M s.heap.size) M s.heap → va_S (mA M s.heap.size) s.heap s.heap [] → lv_has ls maxL (lv_args 0 av) →
      W p l e rm s m av.toArray below meth c s.heap [] 0 0 (MQ below (mQ D cl post M s.heap.size) av.toArray s rm.cells rm.slots (mA M s.heap.size)) (F0 m 0 ls [])) : mMetH l Ts D cl tys y bytes maxL ret hh rm av M post := by
  subst ho
  intro sz
  refine va_MetW (cc := bytes) (maxL := maxL) (ret := ret) (hh := hh) hy rfl ?_
  intro p e s m args below meth c s₁ B hml hv
  obtain ⟨⟨rfl, hsz, hM, hK, hX⟩, hT⟩ := hv
  subst hsz
  have hl := lv_entry av (n := maxL) (Nat.le_of_ble_eq_true hlen)
  have hw := atoms_spec (ws := .codeWith y bytes maxL ret hh :: Ts) B.pre
  have htab : c.exceptionTable.toList.map (fun h => (h.startPc, h.endPc, h.handlerPc, h.catchType)) = hh := by
    obtain ⟨m9, meth9, c9, hn9, h1, h2, -, -, h3, -⟩ := Cond.codeWith_spec (hw _ List.mem_cons_self)
    cases hn9.symm.trans B.named
    cases h1.symm.trans B.method
    cases h2.symm.trans (Stand.of_body B).code
    exact h3
  rw [lg_entry_eq]
  exact body p e s m below meth c ⟨B.exec, B.bytes, hml, findClass_of_methodNamed B.named, fun w hw' => hw w (List.mem_cons_of_mem _ hw'), hK, fun q z => Or.inr z, hX⟩ B.returns ⟨B.notSynchronized, hT, hM.self _, htab⟩ _ (hM.self _) va_S.rf hl
section MCH
variable {p : Program} {l : Launch} {e : Env} {R : Room} {s : State} {m : MethodId} {args : Array Value} {below : List Frame} {meth : Method} {c : Code} {H : Heap} {locs : List Loc} {cells slots : Nat} {Q : State → Prop}
variable {cc : ByteArray} {nL pc : Nat} {own : String} {Ts : List Cond} {ls : Array Slot} {st0 rest : List Value} {D : va_G} {cl : List vw_C} {tys : List (ClassId × FieldType)} {M M0 : Mem}
variable {y : MethodName} {bytes : ByteArray} {maxL index : Nat} {ret : Option FieldType} {hh : List (Nat × Nat × Nat × Nat)} {rm : Room} {As : List Value} {post : Option Value → Mem → Prop}
set_option maxHeartbeats 4000000 in
theorem mcH_S (C : Cx p s m args c cc nL own Ts D cl tys (mA M0 s.heap.size)) (hM : mW D cl (mA M0 s.heap.size) M H) (hS : va_S (mA M0 s.heap.size) s.heap H locs) (hg : goodAll Ts) (hT : mT s) (hM0 : mW D cl (mA M0 s.heap.size) M0 s.heap) (hc : mMetH l Ts D cl tys y bytes maxL ret hh rm As M post)
    (k1 : Cond.methodLink own index y ∈ Ts) (k2 : Cond.static y ∈ Ts) (k4 : Cond.initialized y.cls ∈ Ts) (k5 : Cond.codeWith y bytes maxL ret hh ∈ Ts)
    (hd : y.cls ≠ "java/lang/invoke/MethodHandle" ∧ y.cls ≠ "java/lang/invoke/VarHandle" ∧ (parseMethodDescriptor y.desc).map (fun d => d.parameters.length) = some As.length) (hR : rm.frames + 1 ≤ R.frames ∧ 8 + (maxL + 11) + rm.locals ≤ R.locals) (hsz : ls.size = nL) (hst : st0 = As.reverse ++ rest) (hW : (rest.map fun v => v.category).sum ≤ 8) (hdg : decode cc pc = .ok (.invokestatic index, 3)) {mc ms : Nat} (hmc : rm.cells = mc) (hms : rm.slots = ms) (hf : cells + mc ≤ R.cells ∧ slots + ms ≤ R.slots)
    (kk : ∀ (v : Option Value) (M' : Mem) (H1 : Heap) (locs1 : List Loc), post v M' → mW D cl (mA M0 s.heap.size) M' H1 → va_S (mA M0 s.heap.size) s.heap H1 locs1 → W p l e R s m args below meth c H1 locs1 (cells + mc) (slots + ms) Q (F0 m (pc + 3) ls (v.toList ++ rest))) : W p l e R s m args below meth c H locs cells slots Q (F0 m pc ls st0) := by
  subst hst
  subst hmc
  subst hms
  have C' := C
  obtain ⟨hx, hb, hml, hown, hts, hK, hA, hX⟩ := C
  have hblind : FrameBlind (mPcT D cl tys As M H.size) := fun a U g mk q => ⟨mPc_blind _ _ _ _ q.1, mT.same (u := U) rfl rfl q.2⟩
  have hgd : GoodIn Ts (.codeWith y bytes maxL ret hh :: Ts) := fun w hw => by
    rcases List.mem_cons.mp hw with h | h
    · rw [h]; exact ⟨k5, hg _ k5⟩
    · exact ⟨h, hg _ h⟩
  have hB : Back l R p e below s args y 3 8 (PreOf R rm.cells rm.slots (mPcT D cl tys As M H.size)) (PostOf (mQ D cl post M H.size) rm.cells rm.slots (mA M H.size)) :=
    va_backW (hc H.size) hblind rfl rfl hR.1 hR.2 (pay_in hts hgd) List.mem_cons_self (fun a' U hWU => word_at hWU (hg _ k4) (hts _ k4))
  refine mcall (aa := As.toArray) C' hM hS ?_ kk
  intro T hTH X
  obtain ⟨mk, methM, cM, hnamed, hmethM, hcM, -, hlM, -, -, -, hsigM⟩ := Cond.codeWith_spec (hts _ k5)
  have hstatic : methM.isStatic = true := Cond.static_spec hnamed hmethM (hts _ k2)
  obtain ⟨kP, hkP, -⟩ := className_of_methodNamed hnamed
  have hinitP : kP.init = .initialized := Cond.initialized_spec (findClass_of_methodNamed hnamed) hkP (hts _ k4)
  have hlen : As.length = methM.sig.parameters.length := by
    have h2 := hd.2.2
    rw [hsigM] at h2
    exact (Option.some.inj h2).symm
  obtain ⟨vm₁, X₁, hstep₁⟩ := X.invokestatic hx hown (hts _ k1) hnamed hmethM hstatic hkP hinitP ⟨hd.1, hd.2.1⟩ (g := F0 m pc ls (As.reverse ++ rest)) rfl (argsL := As) (rest := rest) hlen rfl (by rw [hb]; exact hdg)
  have hWU : s.WarmedH vm₁ := X₁.warmed
  obtain ⟨v, B, X', ⟨g', mk', t, L, e1, e2, hq, h1, hL, h2, h3⟩, hsteps⟩ := hB m meth c ⟨T.setVm vm₁, locs, cells, slots⟩ (F0 m pc ls rest) (.invokestatic index) mk As.toArray X₁ rfl (by rw [hml]; exact hsz) (by rw [hb]; exact hdg) (lv_room hW) (X₁.named hnamed)
    ⟨hf.1, hf.2, ⟨rfl, by show T.heap.size = H.size; rw [hTH], by show mW D cl _ M T.heap; rw [hTH]; exact hM.weaken (fun _ _ => trivial), va_K.moved (u := s) (U := T.setVm vm₁) hWU.alike hK, mX.warm (U := T.setVm vm₁) hWU hX⟩, hT.move (U := T.setVm vm₁) hWU (stK_of hM0 hS hTH)⟩
  obtain ⟨U', l2, c2, s2⟩ := B
  dsimp only [Pt.U, Pt.locs, Pt.cells, Pt.slots] at X' e1 e2 h1 h2 h3 hsteps
  subst h1; subst h2; subst h3
  exact ⟨v, (T.setVm vm₁).calling g' mk' As.toArray, t, U', L, hTH, X', hL, e1, e2, hq, fun target h => hstep₁ _ fun acts => by rw [doInvoke_state]; exact hsteps.trans h⟩
end MCH
