/-! 'throw new X("..")': the constructor with its chain, then athrow; all of the heap but the thrown object stays -/
/-- the words for it: X's own constructor (its bytes rx call Y's by the entry ix), the chain above Y, Throwable's, the slots -/
def xAtoms (own : String) (ic : Nat) (X : String) (ix : Nat) (rx : ByteArray) (Y : String) (names : List String) : List Cond :=
  (Bundle.throwableAtoms ++ Bundle.throwableSAtoms) ++ (Bundle.passSAtoms X Y ix rx ++ Bundle.chainSAtoms Y names) ++
  [.methodLink own ic (Bundle.initS X), .instantiable X 6, .selects X Bundle.tFill0 Bundle.tFill0, .selects X Bundle.tFill Bundle.tFill,
   .lays X Bundle.tN "cause" "Ljava/lang/Throwable;", .lays X Bundle.tN "stackTrace" Bundle.steD, .lays X Bundle.tN "suppressedExceptions" Bundle.listD, .lays X Bundle.tN "detailMessage" "Ljava/lang/String;", .lays X Bundle.tN "backtrace" "Ljava/lang/Object;",
   .isRef (.static Bundle.tN "UNASSIGNED_STACK" Bundle.steD), .isRef (.static Bundle.tN "SUPPRESSED_SENTINEL" Bundle.listD),
   .fieldLink Bundle.tN 198 Bundle.tN "backtrace" "Ljava/lang/Object;", .lays Bundle.tN Bundle.tN "backtrace" "Ljava/lang/Object;"]
theorem xa_l {own : String} {ic : Nat} {X : String} {ix : Nat} {rx : ByteArray} {Y : String} {names : List String} {w : Cond} (h : w ∈ Bundle.throwableAtoms ++ Bundle.throwableSAtoms) : w ∈ xAtoms own ic X ix rx Y names := List.mem_append_left _ (List.mem_append_left _ h)
theorem xa_m {own : String} {ic : Nat} {X : String} {ix : Nat} {rx : ByteArray} {Y : String} {names : List String} {w : Cond} (h : w ∈ Bundle.passSAtoms X Y ix rx ++ Bundle.chainSAtoms Y names) : w ∈ xAtoms own ic X ix rx Y names := List.mem_append_left _ (List.mem_append_right _ h)
theorem xa_r {own : String} {ic : Nat} {X : String} {ix : Nat} {rx : ByteArray} {Y : String} {names : List String} {w : Cond} (i : Nat) (h : ([.methodLink own ic (Bundle.initS X), .instantiable X 6, .selects X Bundle.tFill0 Bundle.tFill0, .selects X Bundle.tFill Bundle.tFill,
   .lays X Bundle.tN "cause" "Ljava/lang/Throwable;", .lays X Bundle.tN "stackTrace" Bundle.steD, .lays X Bundle.tN "suppressedExceptions" Bundle.listD, .lays X Bundle.tN "detailMessage" "Ljava/lang/String;", .lays X Bundle.tN "backtrace" "Ljava/lang/Object;",
   .isRef (.static Bundle.tN "UNASSIGNED_STACK" Bundle.steD), .isRef (.static Bundle.tN "SUPPRESSED_SENTINEL" Bundle.listD),
   .fieldLink Bundle.tN 198 Bundle.tN "backtrace" "Ljava/lang/Object;", .lays Bundle.tN Bundle.tN "backtrace" "Ljava/lang/Object;"] : List Cond)[i]? = some w) : w ∈ xAtoms own ic X ix rx Y names := List.mem_append_right _ (List.mem_of_getElem? h)
section STHROW
variable {p : Program} {l : Launch} {e : Env} {R : Room} {s : State} {m₀ : MethodId} {args : Array Value} {below : List Frame} {meth : Method} {c : Code} {W : State} {locs : List Loc} {cells slots : Nat}
set_option maxHeartbeats 4000000 in
theorem st_throw (X : Stand p l e R s m₀ args below meth c W locs cells slots) (hexec : p.tables.exec = Jvm.exec) (htr : e.platform.stackTraces = false) {own cls Y : String} {names : List String} {ic ix : Nat} {rx : ByteArray}
    (r0 : decode rx 0 = .ok (.aload_n 0, 1)) (r1 : decode rx 1 = .ok (.aload_n 1, 1)) (r2 : decode rx 2 = .ok (.invokespecial ix, 3)) (r5 : decode rx 5 = .ok (.return_, 1))
    (hown : s.vm.findClass own = some m₀.cls) (hcls : Bundle.fit cls = true) (hY : Bundle.fit Y = true) (hnames : ∀ n ∈ names, Bundle.fit n = true) (h : ∀ w ∈ xAtoms own ic cls ix rx Y names, w.before args s = true)
    (hlocs : ∀ x ∈ locs, ∀ cell, s.heap[x.base]? = some cell → cell.vm.isStatics = false)
    {a : Addr} {cX : ClassId} {kX : Class} (hfX : s.vm.findClass cls = some cX) (hkX : s.vm.classes[cX]? = some kX) (hcell : W.heap[a]? = some (freshCell cX kX)) (hnew : s.heap.size ≤ a) {msg : Value} (hmsg : msg.isRef = true)
    {g : JFrame} (hg : g.method = m₀) (hsize : g.locals.size = c.maxLocals) (hlocked : g.locked = none) (hentered : g.entered = []) {rest : List Value} (hstack : g.stack = msg :: .ref a :: .ref a :: rest)
    (d6 : decode c.code g.pc = .ok (.invokespecial ic, 3)) (d9 : decode c.code (g.pc + 3) = .ok (.athrow, 1)) (hout : ∀ x ∈ c.exceptionTable.toList, covers x (g.pc + 3) = false)
    (hRf : names.length + 4 < R.frames) (hRl : 2 * g.monitorRoom + ((Value.ref a :: rest).map fun v => v.category).sum + (13 * (names.length + 2) + 42) ≤ R.locals) (hlk : meth.locks = false) :
    ∃ U : State, Steps p.tables e below (W.setTop g) U ∧ U.status = .running ∧ Ended U below (.threw a) ∧ s.WarmedH U.vm ∧ s.sameButNew ({ U with vm := s.vm } : State) locs cells slots ∧ (∀ q : Nat, q ≠ a → U.heap[q]? = W.heap[q]?) ∧ U.heap.size = W.heap.size ∧ ∃ ce : Cell, U.heap[a]? = some ce ∧ ce.cls = cX ∧ ce.vm = .none := by
  have f1 : e.platform.frameOwnsMonitors = true := by rw [X.admits.platform]
  have f2 : e.platform.finalization = false := by rw [X.admits.platform]
  have f3 : e.platform.magicAccessors = ({} : Platform).magicAccessors := by rw [X.admits.platform]
  have hw : ∀ w, w ∈ xAtoms own ic cls ix rx Y names → w.holds args s none s [] = true := fun w hq => h w hq
  -- Throwable's parts, the chain's parts
  obtain ⟨T, Z0, L, -, B⟩ := ThrowableC.of_atoms (args := args) f1 f2 f3 (fun w hq => h w (xa_l (List.mem_append_left _ hq)))
  obtain ⟨Z, M, LZ, LM, hZ⟩ := Init0T.ofS_atoms (args := args) f3 L B (fun w hq => h w (xa_l (List.mem_append_right _ hq)))
  obtain ⟨P2, Ps, hlen, L2, hLs, hm2, hlink2, hlinks⟩ := Bundle.chainS (args := args) f3 hZ names Y hY hnames (fun w hq => h w (xa_m (List.mem_append_right _ hq)))
  obtain ⟨P1, L1, hm1, hs1⟩ := PassC.ofS_atoms (args := args) (s := s) f3 (X := cls) (Y := Y) (Bundle.fit_spec hcls).1 (Bundle.fit_spec hY).2 r0 r1 r2 r5 (fun w hq => h w (xa_m (List.mem_append_left _ hq)))
  have hsup : P1.sup = P2.m := Option.some.inj (hs1.symm.trans hm2)
  -- the class of the object
  have hf1 : s.vm.findClass cls = some P1.m.cls := findClass_of_methodNamed hm1
  obtain rfl : cX = P1.m.cls := Option.some.inj (hfX.symm.trans hf1)
  obtain ⟨c1, k1, hc1, hk1, hord, -, -, -⟩ := Cond.instantiable_spec (hw (.instantiable cls 6) (xa_r 1 rfl))
  obtain rfl : c1 = P1.m.cls := Option.some.inj (hc1.symm.trans hf1)
  obtain rfl : k1 = kX := Option.some.inj (hk1.symm.trans hkX)
  have sel : ∀ {x : MethodName} {r : MethodId}, s.methodNamed? x = some r → (x.cls ≠ "java/lang/invoke/MethodHandle" ∧ x.cls ≠ "java/lang/invoke/VarHandle") → (Cond.selects cls x x).holds args s none s [] = true → selectMethod e.platform s.vm P1.m.cls r = .method r := by
    intro x r hn hne hsel
    obtain ⟨c2, q2, m2, e1, e2, e3, e4, -⟩ := Cond.selects_spec hsel
    obtain rfl : c2 = P1.m.cls := Option.some.inj (e1.symm.trans hf1)
    obtain rfl : q2 = r := Option.some.inj (e2.symm.trans (State.methodFound?_of_named hn hne))
    obtain rfl : m2 = q2 := Option.some.inj (e3.symm.trans hn)
    rw [Launch.admits_selectMethod X.admits]; exact e4
  have sel0 := sel B.fill0 (by decide) (hw (.selects cls Bundle.tFill0 Bundle.tFill0) (xa_r 2 rfl))
  have selF := sel B.fill (by decide) (hw (.selects cls Bundle.tFill Bundle.tFill) (xa_r 3 rfl))
  -- Throwable's statics: nothing has written there
  obtain ⟨cS0, hcS0, hisS⟩ := B.statics
  obtain ⟨u0, hu0⟩ := Cond.staticRefV B.unassigned L.unassignedStatic L.statics hcS0 hisS (hw (.isRef (.static Bundle.tN "UNASSIGNED_STACK" Bundle.steD)) (xa_r 9 rfl))
  obtain ⟨sen, hsen⟩ := Cond.staticRefV B.sentinel L.sentinelStatic L.statics hcS0 hisS (hw (.isRef (.static Bundle.tN "SUPPRESSED_SENTINEL" Bundle.listD)) (xa_r 10 rfl))
  obtain ⟨cS, hcS, heS, -, hkS⟩ := X.same.2.2.2.2.2 T.aS cS0 hcS0
  have offS : ∀ i, (⟨T.aS, i⟩ : Loc) ∉ locs := fun i hm => by have h1 := hlocs _ hm cS0 hcS0; rw [hisS] at h1; cases h1
  have hcSW : W.heap[T.aS]? = some cS := hcS
  have knS : cS.vm ≠ .unknown := by
    rw [heS]
    intro hu
    rw [show cS0.vm = .unknown from hu] at hisS
    cases hisS
  have neS : T.aS ≠ a := Nat.ne_of_lt (Nat.lt_of_lt_of_le (Array.getElem?_eq_some_iff.mp hcS0).1 hnew)
  -- the slots of the object's class
  obtain ⟨iM, hfM⟩ := B.msg
  obtain ⟨tyC, dC, eC, nC⟩ := Cond.laysAt hf1 hkX B.cause (hw (.lays cls Bundle.tN "cause" "Ljava/lang/Throwable;") (xa_r 4 rfl))
  obtain ⟨tyS, dS, eS, nS⟩ := Cond.laysAt hf1 hkX B.stack (hw (.lays cls Bundle.tN "stackTrace" Bundle.steD) (xa_r 5 rfl))
  obtain ⟨tyP, dP, eP, nP⟩ := Cond.laysAt hf1 hkX B.supp (hw (.lays cls Bundle.tN "suppressedExceptions" Bundle.listD) (xa_r 6 rfl))
  obtain ⟨tyM, dM, eM, nM⟩ := Cond.laysAt hf1 hkX hfM (hw (.lays cls Bundle.tN "detailMessage" "Ljava/lang/String;") (xa_r 7 rfl))
  obtain ⟨ciB, iB, fB, kB1, kB2, kB3, stB, -, nmB, tB, ffB⟩ := Cond.ownField (t := .object "java/lang/Object") B.found L.cls (by decide +kernel) (hw (.fieldLink Bundle.tN 198 Bundle.tN "backtrace" "Ljava/lang/Object;") (xa_r 11 rfl)) (hw (.lays Bundle.tN Bundle.tN "backtrace" "Ljava/lang/Object;") (xa_r 12 rfl)) e.platform f3
  obtain ⟨tyB, dB, eB, nB⟩ := Cond.laysAt hf1 hkX ffB (hw (.lays cls Bundle.tN "backtrace" "Ljava/lang/Object;") (xa_r 8 rfl))
  have bC := Cond.laysApart eB eC nB nC (by rw [nmB, B.causeName]; decide)
  have bS := Cond.laysApart eB eS nB nS (by rw [nmB, B.stackName]; decide)
  have bP := Cond.laysApart eB eP nB nP (by rw [nmB, B.suppName]; decide)
  have hskip : SkipFacts T e.platform s (fun u => u) u0 ((preparedCellV T.toThrowableT (freshCell P1.m.cls k1) a u0 sen).withEntry W.cur) := by
    refine ⟨{ ci198 := ciB, i198 := iB, fBack := fB }, ⟨kB1, kB2, kB3, stB⟩, ?_, fun _ _ => rfl⟩
    have h1 := fresh_default (c := P1.m.cls) tyB
    rw [tB] at h1
    simpa [preparedCellV, Cell.setSlot, Cell.withEntry, Array.getElem?_setIfInBounds, bC, bS, bP, bC.symm, bS.symm, bP.symm, defaultValue] using h1
  -- the call, the constructor, athrow
  obtain ⟨tm, mC, cdC, kC, v1, hn1, -, -, -, -, -, -, -, hW1, go1⟩ := Steps.initColdS (tb := p.tables) (e := e) (below := below) (s := s) (U := W) X.here hexec X.warmed f3 hown (t := Bundle.initS cls) rfl rfl (Bundle.fit_spec hcls).2
    (hw (.methodLink own ic (Bundle.initS cls)) (xa_r 0 rfl)) (h (.instanceMethod (Bundle.initS cls)) (xa_m (List.mem_append_left _ (by simp [Bundle.passSAtoms])))) (bytes := rx) (maxL := 2) (h (.code (Bundle.initS cls) rx 2 none) (xa_m (List.mem_append_left _ (by simp [Bundle.passSAtoms]))))
    (f := g) hg (a := a) (msg := msg) (rest := .ref a :: rest) hstack d6
  obtain rfl : tm = P1.m := Option.some.inj (hn1.symm.trans hm1)
  have X1 := X.noted hW1
  obtain ⟨v2, X2, go2⟩ := X1.ctorMessageOffV hexec (g := { g with stack := .ref a :: rest }) hg hsize T L Z LZ M LM (P1 :: P2 :: Ps)
    (fun P hP => by
      rcases List.mem_cons.mp hP with rfl | hP
      · exact L1
      · rcases List.mem_cons.mp hP with rfl | hP
        · exact L2
        · exact hLs P hP) ⟨hsup, hlink2, hlinks⟩ (u0 := u0) (sen := sen) (self := a) hmsg (cell := freshCell P1.m.cls k1) (cellS := cS)
    hcell (fun _ => by simp) (by simp) rfl rfl sel0 selF hcSW neS knS (by rw [hkS _ (offS _)]; exact hu0) (by rw [hkS _ (offS _)]; exact hsen)
    (Takes.of_laid hkX hord tyC (by rw [B.causeType]; rfl)) (Takes.of_laid hkX hord tyS (by rw [B.stackType]; exact fits_refV_array _ u0)) (Takes.of_laid hkX hord tyP (by rw [B.suppType]; exact fits_refV_object _ sen))
    (Takes.of_laid hkX hord tyM (by rw [B.msgType]; exact fits_refV_object _ ⟨msg, hmsg⟩)) B.objLocals hskip htr [] d6
    (by simp only [List.length_cons, hlen]; omega) (by simp only [List.length_cons, hlen]; exact hRl)
  obtain ⟨walk, hrun, hend, hWU, hsame⟩ := X2.athrowLeaves hexec (g := { g with stack := .ref a :: rest, pc := g.pc + 3 }) hg hlocked hentered hout (a := a) (rest := rest) rfl d9 hlk
  have hlt : a < W.heap.size := (Array.getElem?_eq_some_iff.mp hcell).1
  have hA := heapAt_setCell_self (s := (W.setVm v1).setVm v2) (plainBareV T.toThrowableT (freshCell P1.m.cls k1) a u0 sen msg) hlt
  refine ⟨_, ?_, hrun, hend, hWU, State.sameButNew.drop_fresh hsame (fun x hx => ?_), fun q hq => ?_, ?_, _, hA, rfl, rfl⟩
  · exact go1 _ (fun acts => by rw [doInvoke_state]; exact go2 _ walk)
  · simp only [List.mem_cons, List.not_mem_nil, or_false] at hx
    rcases hx with rfl | rfl | rfl | rfl | rfl <;> exact hnew
  · show ((W.setVm v1).setVm v2).setCell a _ |>.heap[q]? = _
    simp [State.setCell, Array.getElem?_setIfInBounds, Ne.symm hq]
  · show (((W.setVm v1).setVm v2).setCell a _).heap.size = _
    simp [State.setCell]
end STHROW
set_option maxHeartbeats 4000000 in
/-- the five instructions in one row -/
theorem m_throw {p : Program} {l : Launch} {e : Env} {R : Room} {s : State} {m : MethodId} {args : Array Value} {below : List Frame} {meth : Method} {c : Code} {H : Heap} {locs : List Loc} {cells slots : Nat} {cc : ByteArray} {nL pc : Nat} {Ts : List Cond} {ls : Array Slot} {D : va_G} {cl : List vw_C} {tys : List (ClassId × FieldType)} {M0 M : Mem} {post : Option Value → Mem → Prop} {postT : Nat → Mem → Prop}
    {k ic iN iS ix : Nat} {rx : ByteArray} {tx Y : String} {names : List String} (C : Cx p s m args c cc nL R_Desk Ts D cl tys (mA M0 s.heap.size)) (hT : mT s) (hfl : l.flags = pinnedFlags ++ [noTraceFlag]) (hnh : c.exceptionTable.isEmpty = true) (hlk : meth.locks = false) (hM0 : mW D cl (mA M0 s.heap.size) M0 s.heap) (hM : mW D cl (mA M0 s.heap.size) M H) (hS : va_S (mA M0 s.heap.size) s.heap H locs)
    (r0 : decode rx 0 = .ok (.aload_n 0, 1)) (r1 : decode rx 1 = .ok (.aload_n 1, 1)) (r2 : decode rx 2 = .ok (.invokespecial ix, 3)) (r5 : decode rx 5 = .ok (.return_, 1))
    (hcl : Cond.classLink R_Desk iN (xcls k) ∈ Ts) (hinst : Cond.instantiable (xcls k) 6 ∈ Ts) (hini : Cond.initialized (xcls k) ∈ Ts) (hat : ∀ w ∈ xAtoms R_Desk ic (xcls k) ix rx Y names, w ∈ Ts ∨ w ∈ thrB) (hstr : (iS, tx) ∈ thrS) (hfit : Bundle.fit (xcls k) = true) (hY : Bundle.fit Y = true) (hnames : ∀ n ∈ names, Bundle.fit n = true)
    (hsz : ls.size = nL) (d0 : decode cc pc = .ok (.new iN, 3)) (d3 : decode cc (pc + 3) = .ok (.dup, 1)) (d4 : decode cc (pc + 4) = .ok (.ldc iS, 2)) (d6 : decode cc (pc + 6) = .ok (.invokespecial ic, 3)) (d9 : decode cc (pc + 9) = .ok (.athrow, 1))
    (hc1 : cells + 1 ≤ R.cells) (hs6 : slots + 6 ≤ R.slots) (hfr : names.length + 4 < R.frames) (hlo : 13 * (names.length + 2) + 43 ≤ R.locals) (hp : postT k M) :
    W p l e R s m args below meth c H locs cells slots (MQT below (mQT D cl post postT M0 s.heap.size) args s R.cells R.slots (mA M0 s.heap.size)) (F0 m pc ls []) := by
  obtain ⟨hx, hb, hml, hown, hts, hK, hA, hX⟩ := C
  refine W.newc hx hb hown (hts _ hcl) (hts _ hinst) (hts _ hini) rfl d0 hc1 hs6 (fun cC kC h1 h2 h3 h4 => ?_)
  show W p l e _ s m args below meth c _ locs (cells + 1) (slots + 6) _ (F0 m (pc + 3) ls [.ref H.size])
  refine lv_dup hx hb d3 rfl ?_
  obtain ⟨q, hq⟩ := hT.2 _ hstr
  refine va_ldcS hx hb hown hq d4 ?_
  intro T₃ hT3 X₃
  have htr : e.platform.stackTraces = false := Launch.traces_off hfl X₃.admits
  have hcell : T₃.heap[H.size]? = some (freshCell cC kC) := by rw [hT3]; simp
  obtain ⟨U, st, hrun, hend, hWU, hsame, hkeep, hszU, ce, hce, hcc, hcv⟩ := st_throw X₃ hx htr r0 r1 r2 r5 hown hfit hY hnames (fun w hw => by
      rcases hat w hw with h | h
      · exact hts w h
      · exact hT.1 w h args) (fun y hy cell hc => by
      rcases hS.2.2 y hy with ⟨e0, he0⟩ | hz
      · exact hM0.notS he0 hc
      · exact absurd (Array.getElem?_eq_some_iff.mp hc).1 (Nat.not_lt.mpr hz)) h1 h2 hcell hS.1 (msg := .ref q) rfl (g := F0 m (pc + 4 + 2) ls [.ref q, .ref H.size, .ref H.size]) rfl (by rw [hml]; exact hsz) rfl rfl (rest := []) rfl (by rw [hb]; exact d6) (by rw [hb]; exact d9) (fun y hy => by
      have h0 : c.exceptionTable = #[] := Array.isEmpty_iff.mp hnh
      rw [h0] at hy
      exact absurd hy List.not_mem_nil) hfr (by show 2 * 0 + (1 + 0) + _ ≤ R.locals; omega) hlk
  have hkp : ∀ y : Nat, y < H.size → U.heap[y]? = H[y]? := by
    intro y hy
    rw [hkeep y (Nat.ne_of_lt hy), hT3, Array.getElem?_push, if_neg (Nat.ne_of_lt hy)]
  have hszH : H.size ≤ U.heap.size := by rw [hszU, hT3, Array.size_push]; exact Nat.le_succ _
  exact ⟨U, st, .threw H.size, hrun, hend, ⟨Or.inr ⟨H.size, k, M, rfl, hp, hM.keep hkp, ce, hce, by rw [hcc]; exact h1, hcv⟩, Nat.le_trans hS.1 hszH, fun y h8 h9 => (hkp y (Nat.lt_of_lt_of_le h8 hS.1)).trans (hS.2.1 y h8 h9)⟩, locs, ⟨hWU, hsame.mono hc1 hs6⟩, hS.2.2⟩
def mPcT (D : va_G) (cl : List vw_C) (tys : List (ClassId × FieldType)) (av : List Value) (M : Mem) (sz : Nat) : Array Value → State → Prop := fun a U => mPc D cl tys av M sz a U ∧ mT U
def mMetT (l : Launch) (Ts : List Cond) (D : va_G) (cl : List vw_C) (tys : List (ClassId × FieldType)) (y : MethodName) (bytes : ByteArray) (maxL : Nat) (ret : Option FieldType) (rm : Room) (av : List Value) (M : Mem) (post : Option Value → Mem → Prop) (postT : Nat → Mem → Prop) : Prop :=
  ∀ sz : Nat, MetFree l y (headSpec (.code y bytes maxL ret :: Ts) rm) (mPcT D cl tys av M sz) (fun _ _ _ _ _ => True) (fun a st o t => mQT D cl post postT M sz a st o t ∧ ∃ L, (st.WarmedH t.vm ∧ st.sameButNew ({ t with vm := st.vm } : State) L rm.cells rm.slots) ∧ ∀ q ∈ L, mA M sz q.base)
def WbT (p : Program) (l : Launch) (e : Env) (R : Room) (s : State) (m : MethodId) (args : Array Value) (below : List Frame) (meth : Method) (c : Code) (nL : Nat) (D : va_G) (cl : List vw_C) (M0 : Mem) (post : Option Value → Mem → Prop) (postT : Nat → Mem → Prop) (cells slots : Nat) (M : Mem) (pc : Nat) (lv : List (Nat × Value)) (st : List Value) : Prop :=
  ∀ (ls : Array Slot) (H : Heap) (locs : List Loc), mW D cl (mA M0 s.heap.size) M H → va_S (mA M0 s.heap.size) s.heap H locs → lv_has ls nL lv → W p l e R s m args below meth c H locs cells slots (MQT below (mQT D cl post postT M0 s.heap.size) args s R.cells R.slots (mA M0 s.heap.size)) (F0 m pc ls st)
/-- what a throwing method's walk has beside its words -/
def CT (l : Launch) (D : va_G) (cl : List vw_C) (s : State) (c : Code) (meth : Method) (M0 : Mem) : Prop := mT s ∧ l.flags = pinnedFlags ++ [noTraceFlag] ∧ c.exceptionTable.isEmpty = true ∧ meth.locks = false ∧ mW D cl (mA M0 s.heap.size) M0 s.heap
set_option maxHeartbeats 4000000 in
theorem mMetT.of {l : Launch} {Ts : List Cond} {D : va_G} {cl : List vw_C} {tys : List (ClassId × FieldType)} {y : MethodName} {bytes : ByteArray} {maxL : Nat} {ret : Option FieldType} {rm : Room} {av : List Value} {M : Mem} {post : Option Value → Mem → Prop} {postT : Nat → Mem → Prop} {own : String} (hfl : l.flags = pinnedFlags ++ [noTraceFlag]) (ho : y.cls = own) (hy : plainName y.cls = true) (hlen : Nat.ble (lg_sl av).length maxL = true)
    (body : ∀ (p : Program) (e : Env) (s : State) (m : MethodId) (below : List Frame) (meth : Method) (c : Code), Cx p s m av.toArray c bytes maxL own Ts D cl tys (mA M s.heap.size) → meth.sig.returnType = ret → CT l D cl s c meth M → ∀ ls : Array Slot, mW D cl (mA M s.heap.size) M s.heap → va_S (mA M s.heap.size) s.heap s.heap [] → lv_has ls maxL (lv_args 0 av) →
      W p l e rm s m av.toArray below meth c s.heap [] 0 0 (MQT below (mQT D cl post postT M s.heap.size) av.toArray s rm.cells rm.slots (mA M s.heap.size)) (F0 m 0 ls [])) : mMetT l Ts D cl tys y bytes maxL ret rm av M post postT := by
  subst ho
  intro sz
  refine MetFree.of_bodyS (code := bytes) (maxLocals := maxL) (ret := ret) hy ?_ ?_
  · intro args s m h hn
    obtain ⟨meth, c, h1, h2, h3, h4, h5, h6, -, -⟩ := Cond.code_spec hn (atoms_spec (ws := .code y bytes maxL ret :: Ts) h _ List.mem_cons_self)
    exact ⟨meth, c, h1, h2, h3, h4, h5, h6⟩
  · intro p e s m args below meth c s₁ B hml hP _
    obtain ⟨⟨rfl, hsz, hM, hK, hX⟩, hT⟩ := hP
    subst hsz
    have hh0 : s₁.heap = s.heap := by rw [B.state]; rfl
    have hl := lv_entry av (n := maxL) (Nat.le_of_ble_eq_true hlen)
    have hw := atoms_spec (ws := .code y bytes maxL ret :: Ts) B.pre
    have K := body p e s m below meth c ⟨B.exec, B.bytes, hml, findClass_of_methodNamed B.named, fun w hw' => hw w (List.mem_cons_of_mem _ hw'), hK, fun q z => Or.inr z, hX⟩ B.returns ⟨hT, hfl, B.noHandlers (hw _ List.mem_cons_self), B.notSynchronized, hM.self _⟩ _ (hM.self _) va_S.rf hl
    rw [← lg_entry_eq] at K
    obtain ⟨t, a1, o, b1, b2, b3, b4⟩ := K s₁ hh0 (Stand.of_body B)
    exact ⟨t, o, a1, b1, b2, b3, b4⟩
