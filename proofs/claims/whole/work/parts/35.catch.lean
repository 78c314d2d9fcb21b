/-! caught by the first entry; by the second, past the first -/
section CATCH
variable {p : Program} {l : Launch} {e : Env} {R : Room} {s : State} {m : MethodId} {args : Array Value} {below : List Frame} {meth : Method} {c : Code} {T : State} {locs : List Loc} {cells slots : Nat} {Q : State → Prop}
variable {cc : ByteArray} {nL pc : Nat} {own : String} {Ts : List Cond} {ls : Array Slot} {rest : List Value} {D : va_G} {cl : List vw_C} {tys : List (ClassId × FieldType)} {A : Nat → Prop} {a : Nat}
/-- an entry's class, linked, at the state where the walk stands -/
theorem ct_link (X : Stand p l e R s m args below meth c T locs cells slots) (hown : s.vm.findClass own = some m.cls) {t1 k : Nat} (hlk : (Cond.classLink own t1 (xcls k)).before args s = true) {v : Vm} (hWv : s.WarmedH v) {cX : ClassId} (hcX : s.vm.findClass (xcls k) = some cX) :
    v.ClassLinks e.platform m.cls t1 cX ∧ s.WarmedH (v.noted m.cls t1 (.cls cX)) ∧ ∃ kt, v.classes[cX]? = some kt := by
  have hpl : e.platform.magicAccessors = ({} : Platform).magicAccessors := by rw [X.admits.platform]
  obtain ⟨c', hc', hcl⟩ := Cond.classLink_spec hown hlk e.platform hpl
  obtain rfl : cX = c' := Option.some.inj (hcX.symm.trans hc')
  obtain ⟨dk, _, _, kt, hd, _, _, _, _, hkt, _, hopen⟩ := hcl.here
  obtain ⟨kt', hkt', -⟩ := hWv.alike.2.2 _ _ hkt
  exact ⟨hWv.classLinks hcl, hWv.noted hd hopen (State.rightAt_cls hcl), kt', hkt'⟩
set_option maxHeartbeats 1000000 in
theorem m_catch1 (X : Stand p l e R s m args below meth c T locs cells slots) (C : Cx p s m args c cc nL own Ts D cl tys A) (hT : mT s) {s1 e1 h1 t1 : Nat} {hr : List (Nat × Nat × Nat × Nat)} (htab : c.exceptionTable.toList.map (fun h => (h.startPc, h.endPc, h.handlerPc, h.catchType)) = (s1, e1, h1, t1) :: hr) (hcov : s1 ≤ pc ∧ pc < e1) (ht0 : t1 ≠ 0)
    {k : Nat} (hlk : Cond.classLink own t1 (xcls k) ∈ Ts) (hself : Cond.castable (xcls k) (xcls k) ∈ thrB) {ce : Cell} (hce : T.heap[a]? = some ce) (hcc : s.vm.findClass (xcls k) = some ce.cls) (hcv : ce.vm = .none)
    (kW : W p l e R s m args below meth c T.heap locs cells slots Q (F0 m h1 ls [.ref a])) : ∃ t, Steps p.tables e below ((T.setTop (F0 m pc ls rest)).pushFrame (.throwing a)) t ∧ Q t := by
  obtain ⟨hx, hb, hml, hown, hts, hK, hA, hX⟩ := C
  cases htl : c.exceptionTable.toList with
  | nil => rw [htl] at htab; cases htab
  | cons x r =>
    rw [htl, List.map_cons] at htab
    injection htab with e1' e2'
    injection e1' with q1 e3'
    injection e3' with q2 e4'
    injection e4' with q3 q4
    obtain ⟨L1, W1, kt, hkt⟩ := ct_link X hown (hts _ hlk) X.warmed hcc
    obtain ⟨c3, c4, hc3, hc4, hasg⟩ := Cond.castable_spec (hT.1 _ hself #[])
    obtain rfl : c3 = ce.cls := Option.some.inj (hc3.symm.trans hcc)
    obtain rfl : c4 = ce.cls := Option.some.inj (hc4.symm.trans hcc)
    have hasT : T.vm.assignable ce.cls ce.cls = true := by rw [X.warmed.alike.assignable]; exact hasg
    have hf : Fnd e ((T.setTop (F0 m pc ls rest)).pushFrame (.throwing a)) (F0 m pc ls rest) a h1 (T.vm.noted m.cls t1 (.cls ce.cls)) := by
      intro Q E d acts
      rw [W.findHandler_eq (meth := meth) (code := c) X.method' X.code, htl, fh_step (f := F0 m pc ls rest) (e := e) (s := (T.setTop (F0 m pc ls rest)).pushFrame (.throwing a)) (x := x) (c := ce.cls) (cell := ce) (by simp [covers, q1, q2, hcov.1, hcov.2]) (by rw [q4]; exact ht0) (by rw [q4]; exact L1) hce (fun k => by rw [hcv]; exact fun h => by cases h) ⟨kt, hkt⟩ ⟨kt, hkt⟩ hasT, if_pos rfl, q3, q4]
      rfl
    obtain ⟨t, a1, b1⟩ := kW (T.setVm (T.vm.noted m.cls t1 (.cls ce.cls))) rfl (X.noted W1)
    exact ⟨t, Fnd.steps X.here hf a1, b1⟩
set_option maxHeartbeats 1000000 in
theorem m_catch2 (X : Stand p l e R s m args below meth c T locs cells slots) (C : Cx p s m args c cc nL own Ts D cl tys A) (hT : mT s) {s1 e1 h1 t1 s2 e2 h2 t2 : Nat} {hr : List (Nat × Nat × Nat × Nat)} (htab : c.exceptionTable.toList.map (fun h => (h.startPc, h.endPc, h.handlerPc, h.catchType)) = (s1, e1, h1, t1) :: (s2, e2, h2, t2) :: hr) (hcov : s1 ≤ pc ∧ pc < e1) (hcov2 : s2 ≤ pc ∧ pc < e2) (ht0 : t1 ≠ 0) (ht2 : t2 ≠ 0)
    {j k : Nat} (hlj : Cond.classLink own t1 (xcls j) ∈ Ts) (hlk : Cond.classLink own t2 (xcls k) ∈ Ts) (hself : Cond.castable (xcls k) (xcls k) ∈ thrB) (hno : Cond.not (.castable (xcls k) (xcls j)) ∈ thrB) {ce : Cell} (hce : T.heap[a]? = some ce) (hcc : s.vm.findClass (xcls k) = some ce.cls) (hcv : ce.vm = .none)
    (kW : W p l e R s m args below meth c T.heap locs cells slots Q (F0 m h2 ls [.ref a])) : ∃ t, Steps p.tables e below ((T.setTop (F0 m pc ls rest)).pushFrame (.throwing a)) t ∧ Q t := by
  obtain ⟨hx, hb, hml, hown, hts, hK, hA, hX⟩ := C
  obtain ⟨cJ, hcj, -⟩ := Cond.classLink_spec hown (hts _ hlj) e.platform (by rw [X.admits.platform])
  cases htl : c.exceptionTable.toList with
  | nil => rw [htl] at htab; cases htab
  | cons x r =>
    cases hr2 : r with
    | nil => rw [htl, hr2] at htab; cases htab
    | cons x2 r2 =>
      rw [htl, hr2, List.map_cons, List.map_cons] at htab
      injection htab with e1' e2'
      injection e1' with q1 e3'
      injection e3' with q2 e4'
      injection e4' with q3 q4
      injection e2' with e5' e6'
      injection e5' with p1 e7'
      injection e7' with p2 e8'
      injection e8' with p3 p4
      obtain ⟨L1, W1, kj, hkj⟩ := ct_link X hown (hts _ hlj) X.warmed hcj
      obtain ⟨L2, W2, kt, hkt⟩ := ct_link X hown (hts _ hlk) W1 hcc
      obtain ⟨_, -, kt0, hkt0⟩ := ct_link X hown (hts _ hlk) X.warmed hcc
      obtain ⟨c3, c4, hc3, hc4, hasg⟩ := Cond.castable_spec (hT.1 _ hself #[])
      obtain rfl : c3 = ce.cls := Option.some.inj (hc3.symm.trans hcc)
      obtain rfl : c4 = ce.cls := Option.some.inj (hc4.symm.trans hcc)
      have hno1 : s.vm.assignable ce.cls cJ = false := by
        have hv := Cond.holds_not_iff.mp (hT.1 _ hno #[])
        simp only [Cond.value, hcc, hcj] at hv
        exact Option.some.inj hv
      have hnoT : T.vm.assignable ce.cls cJ = false := by rw [X.warmed.alike.assignable]; exact hno1
      have hasT : (T.vm.noted m.cls t1 (.cls cJ)).assignable ce.cls ce.cls = true := by rw [W1.alike.assignable]; exact hasg
      have hobj : ∀ k, ce.vm ≠ .statics k := fun k => by rw [hcv]; exact fun h => by cases h
      have hf : Fnd e ((T.setTop (F0 m pc ls rest)).pushFrame (.throwing a)) (F0 m pc ls rest) a h2 ((T.vm.noted m.cls t1 (.cls cJ)).noted m.cls t2 (.cls ce.cls)) := by
        intro Q E d acts
        rw [W.findHandler_eq (meth := meth) (code := c) X.method' X.code, htl, hr2, fh_step (f := F0 m pc ls rest) (e := e) (s := (T.setTop (F0 m pc ls rest)).pushFrame (.throwing a)) (x := x) (c := cJ) (cell := ce) (by simp [covers, q1, q2, hcov.1, hcov.2]) (by rw [q4]; exact ht0) (by rw [q4]; exact L1) hce hobj ⟨kt0, hkt0⟩ ⟨kj, hkj⟩ hnoT, if_neg (by decide), q4]
        refine (fh_step (Q := Q) (E := E) (d := d) (acts := acts) (t := r2) (f := F0 m pc ls rest) (e := e) (s := ((T.setTop (F0 m pc ls rest)).pushFrame (.throwing a)).setVm (T.vm.noted m.cls t1 (.cls cJ))) (x := x2) (c := ce.cls) (cell := ce) (by simp [covers, p1, p2, hcov2.1, hcov2.2]) (by rw [p4]; exact ht2) (by rw [p4]; exact L2) hce hobj ⟨kt, hkt⟩ ⟨kt, hkt⟩ hasT).trans ?_
        rw [if_pos rfl, p3, p4]
        rfl
      obtain ⟨t, a1, b1⟩ := kW (T.setVm ((T.vm.noted m.cls t1 (.cls cJ)).noted m.cls t2 (.cls ce.cls))) rfl (X.noted W2)
      exact ⟨t, Fnd.steps X.here hf a1, b1⟩
end CATCH
