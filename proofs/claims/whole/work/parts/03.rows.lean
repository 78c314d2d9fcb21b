/-! rows over a memory -/
def Cx (p : Program) (s : State) (m : MethodId) (args : Array Value) (c : Code) (cc : ByteArray) (nL : Nat) (own : String) (Ts : List Cond) (D : va_G) (cl : List vw_C) (tys : List (ClassId × FieldType)) (A : Nat → Prop) : Prop :=
  p.tables.exec = Jvm.exec ∧ c.code = cc ∧ c.maxLocals = nL ∧ s.vm.findClass own = some m.cls ∧ (∀ w ∈ Ts, w.before args s = true) ∧ va_K D cl tys s ∧ (∀ q, s.heap.size ≤ q → A q) ∧ mX s
def clsOk (cl : List vw_C) (Ts : List Cond) (ci : Nat) (Cn : String) (T : u_T) (N : Nat) (ty0 : Nat → FieldType) : Prop :=
  cl[ci]? = some (Cn, T, N) ∧ (∀ w ∈ u_ws Cn T N, w ∈ Ts) ∧ (∀ k, k < N → parseFieldDescriptor (T k).2.2.1 = some (ty0 k)) ∧ ∀ a, a < N → ∀ b, b < N → a ≠ b → (T a).2.1 ≠ (T b).2.1
theorem RA_inj {U : State} {c1 c2 : ClassId} {ty : FieldType} (h1 : va_RA U c1 ty) (h2 : va_RA U c2 ty) : c1 = c2 := by
  cases ty with
  | object C =>
    obtain ⟨_, _, _, _, _, a⟩ := h1
    obtain ⟨_, _, _, _, _, b⟩ := h2
    exact Option.some.inj (a.symm.trans b)
  | _ => exact Option.some.inj ((show U.vm.findClass _ = some c1 from h1).symm.trans (show U.vm.findClass _ = some c2 from h2))
section MROWS
variable {p : Program} {l : Launch} {e : Env} {R : Room} {s : State} {m : MethodId} {args : Array Value} {below : List Frame} {meth : Method} {c : Code} {H : Heap} {locs : List Loc} {cells slots : Nat} {Q : State → Prop}
variable {cc : ByteArray} {nL pc : Nat} {own : String} {Ts : List Cond} {ls : Array Slot} {rest : List Value} {D : va_G} {cl : List vw_C} {tys : List (ClassId × FieldType)} {A : Nat → Prop} {M M' : Mem} {a : Nat}
theorem mg_V (C : Cx p s m args c cc nL own Ts D cl tys A) (hM : mW D cl A M H) {ci N k index : Nat} {Cn : String} {T : u_T} {ty0 : Nat → FieldType} (hc : clsOk cl Ts ci Cn T N ty0) (hk : k < N) (hlk : Cond.fieldLink own index (T k).1 (T k).2.1 (T k).2.2.1 ∈ Ts) {v : Value} (h : gV M ci a k = some v) (hdg : decode cc pc = .ok (.getfield index, 3))
    (kk : W p l e R s m args below meth c H locs cells slots Q (F0 m (pc + 3) ls (v :: rest))) : W p l e R s m args below meth c H locs cells slots Q (F0 m pc ls (.ref a :: rest)) := by
  obtain ⟨hx, hb, hml, hown, hts, hK, hA, hX⟩ := C
  obtain ⟨ws, hr, hP, hD⟩ := hM
  obtain ⟨fs, he, hv⟩ := gV_spec h
  obtain ⟨q0, hq⟩ := (hr a _).mp he
  exact va_get hx hb hts hc.2.1 hown hK hP q0 hq hc.1 k hk (hts _ hlk) (fun _ z => z) hv hdg kk
theorem mg_I (C : Cx p s m args c cc nL own Ts D cl tys A) (hM : mW D cl A M H) {ci N k index : Nat} {Cn : String} {T : u_T} {ty0 : Nat → FieldType} (hc : clsOk cl Ts ci Cn T N ty0) (hk : k < N) (hlk : Cond.fieldLink own index (T k).1 (T k).2.1 (T k).2.2.1 ∈ Ts) {x : Int32} (h : gI M ci a k = some x) (hdg : decode cc pc = .ok (.getfield index, 3))
    (kk : W p l e R s m args below meth c H locs cells slots Q (F0 m (pc + 3) ls (.int x :: rest))) : W p l e R s m args below meth c H locs cells slots Q (F0 m pc ls (.ref a :: rest)) := mg_V C hM hc hk hlk (gI_spec h) hdg kk
theorem mg_L (C : Cx p s m args c cc nL own Ts D cl tys A) (hM : mW D cl A M H) {ci N k index : Nat} {Cn : String} {T : u_T} {ty0 : Nat → FieldType} (hc : clsOk cl Ts ci Cn T N ty0) (hk : k < N) (hlk : Cond.fieldLink own index (T k).1 (T k).2.1 (T k).2.2.1 ∈ Ts) {x : Int64} (h : gL M ci a k = some x) (hdg : decode cc pc = .ok (.getfield index, 3))
    (kk : W p l e R s m args below meth c H locs cells slots Q (F0 m (pc + 3) ls (.long x :: rest))) : W p l e R s m args below meth c H locs cells slots Q (F0 m pc ls (.ref a :: rest)) := mg_V C hM hc hk hlk (gL_spec h) hdg kk
theorem mg_R (C : Cx p s m args c cc nL own Ts D cl tys A) (hM : mW D cl A M H) {ci N k index : Nat} {Cn : String} {T : u_T} {ty0 : Nat → FieldType} (hc : clsOk cl Ts ci Cn T N ty0) (hk : k < N) (hlk : Cond.fieldLink own index (T k).1 (T k).2.1 (T k).2.2.1 ∈ Ts) {x : Nat} (h : gR M ci a k = some x) (hdg : decode cc pc = .ok (.getfield index, 3))
    (kk : W p l e R s m args below meth c H locs cells slots Q (F0 m (pc + 3) ls (.ref x :: rest))) : W p l e R s m args below meth c H locs cells slots Q (F0 m pc ls (.ref a :: rest)) := mg_V C hM hc hk hlk (gR_spec h) hdg kk
theorem mp_V (C : Cx p s m args c cc nL own Ts D cl tys A) (hM : mW D cl A M H) (hS : va_S A s.heap H locs) {ci N k index : Nat} {Cn : String} {T : u_T} {ty0 : Nat → FieldType} (hc : clsOk cl Ts ci Cn T N ty0) (hk : k < N) (hlk : Cond.fieldLink own index (T k).1 (T k).2.1 (T k).2.2.1 ∈ Ts) (hfin : (T k).2.2.2 = false) {v : Value} (hn : narrow (ty0 k) v = v) (hfit : fits (ty0 k) v = true) (h : pV M ci a k v = some M') (hdg : decode cc pc = .ok (.putfield index, 3))
    (kk : ∀ (H1 : Heap) (locs1 : List Loc), mW D cl A M' H1 → va_S A s.heap H1 locs1 → W p l e R s m args below meth c H1 locs1 cells slots Q (F0 m (pc + 3) ls rest)) : W p l e R s m args below meth c H locs cells slots Q (F0 m pc ls (v :: .ref a :: rest)) := by
  obtain ⟨hx, hb, hml, hown, hts, hK, hA, hX⟩ := C
  obtain ⟨ws, hr, hP, hD⟩ := hM
  obtain ⟨fs, he, hkl, rfl⟩ := pV_spec h
  obtain ⟨q0, hq⟩ := (hr a _).mp he
  exact va_put hx hb hts hc.2.1 ty0 hc.2.2.1 hc.2.2.2 hown hK hP hD hS q0 hq hc.1 k hk (hts _ hlk) (fun _ z => z) hfin (hc.2.2.1 k hk) hn hfit hkl hdg (fun H1 locs1 hP1 hD1 hS1 => kk H1 locs1 ⟨_, hr.set hD hq, hP1, hD1⟩ hS1)
theorem mp_F (C : Cx p s m args c cc nL own Ts D cl tys A) (hM : mW D cl A M H) (hS : va_S A s.heap H locs) (hin2 : meth.name = "<init>") {ci N k index : Nat} {Cn : String} {T : u_T} {ty0 : Nat → FieldType} (hc : clsOk cl Ts ci Cn T N ty0) (hk : k < N) (hlk : Cond.fieldLink own index (T k).1 (T k).2.1 (T k).2.2.1 ∈ Ts) (hfin : (T k).2.2.2 = true) (hdecl : (T k).1 = own) {v : Value} (hn : narrow (ty0 k) v = v) (hfit : fits (ty0 k) v = true) (h : pV M ci a k v = some M') (hdg : decode cc pc = .ok (.putfield index, 3))
    (kk : ∀ (H1 : Heap) (locs1 : List Loc), mW D cl A M' H1 → va_S A s.heap H1 locs1 → W p l e R s m args below meth c H1 locs1 cells slots Q (F0 m (pc + 3) ls rest)) : W p l e R s m args below meth c H locs cells slots Q (F0 m pc ls (v :: .ref a :: rest)) := by
  obtain ⟨hx, hb, hml, hown, hts, hK, hA, hX⟩ := C
  obtain ⟨ws, hr, hP, hD⟩ := hM
  obtain ⟨fs, he, hkl, rfl⟩ := pV_spec h
  obtain ⟨q0, hq⟩ := (hr a _).mp he
  exact va_putF hx hb hts hc.2.1 ty0 hc.2.2.1 hc.2.2.2 hown hK hP hD hS q0 hq hc.1 k hk (hts _ hlk) (fun _ z => z) hfin hin2 hdecl (hc.2.2.1 k hk) hn hfit hkl hdg (fun H1 locs1 hP1 hD1 hS1 => kk H1 locs1 ⟨_, hr.set hD hq, hP1, hD1⟩ hS1)
theorem ma_I (C : Cx p s m args c cc nL own Ts D cl tys A) (hM : mW D cl A M H) {cA : ClassId} (t0 : Nat) (ht : tys[t0]? = some (cA, .int)) {i x : Int32} (h : aI M cA a i = some x) (hdg : decode cc pc = .ok (.iaload, 1))
    (kk : W p l e R s m args below meth c H locs cells slots Q (F0 m (pc + 1) ls (.int x :: rest))) : W p l e R s m args below meth c H locs cells slots Q (F0 m pc ls (.int i :: .ref a :: rest)) := by
  obtain ⟨hx, hb, hml, hown, hts, hK, hA, hX⟩ := C
  obtain ⟨ws, hr, hP, hD⟩ := hM
  obtain ⟨n, f, he, hin, rfl⟩ := aI_spec h
  obtain ⟨q0, hq⟩ := (hr a _).mp he
  exact va_iald hx hb hK hP q0 t0 hq ht hin hdg kk
theorem ma_B (C : Cx p s m args c cc nL own Ts D cl tys A) (hM : mW D cl A M H) {cA : ClassId} (t0 : Nat) (ht : tys[t0]? = some (cA, .byte)) {i x : Int32} (h : aI M cA a i = some x) (hdg : decode cc pc = .ok (.baload, 1))
    (kk : W p l e R s m args below meth c H locs cells slots Q (F0 m (pc + 1) ls (.int x :: rest))) : W p l e R s m args below meth c H locs cells slots Q (F0 m pc ls (.int i :: .ref a :: rest)) := by
  obtain ⟨hx, hb, hml, hown, hts, hK, hA, hX⟩ := C
  obtain ⟨ws, hr, hP, hD⟩ := hM
  obtain ⟨n, f, he, hin, rfl⟩ := aI_spec h
  obtain ⟨q0, hq⟩ := (hr a _).mp he
  exact va_bald hx hb hK hP q0 t0 hq ht hin hdg kk
theorem ma_Z (C : Cx p s m args c cc nL own Ts D cl tys A) (hM : mW D cl A M H) {cA : ClassId} (t0 : Nat) (ht : tys[t0]? = some (cA, .boolean)) {i x : Int32} (h : aI M cA a i = some x) (hdg : decode cc pc = .ok (.baload, 1))
    (kk : W p l e R s m args below meth c H locs cells slots Q (F0 m (pc + 1) ls (.int x :: rest))) : W p l e R s m args below meth c H locs cells slots Q (F0 m pc ls (.int i :: .ref a :: rest)) := by
  obtain ⟨hx, hb, hml, hown, hts, hK, hA, hX⟩ := C
  obtain ⟨ws, hr, hP, hD⟩ := hM
  obtain ⟨n, f, he, hin, rfl⟩ := aI_spec h
  obtain ⟨q0, hq⟩ := (hr a _).mp he
  exact va_zald hx hb hK hP q0 t0 hq ht hin hdg kk
theorem ma_L (C : Cx p s m args c cc nL own Ts D cl tys A) (hM : mW D cl A M H) {cA : ClassId} (t0 : Nat) (ht : tys[t0]? = some (cA, .long)) {i : Int32} {x : Int64} (h : aL M cA a i = some x) (hdg : decode cc pc = .ok (.laload, 1))
    (kk : W p l e R s m args below meth c H locs cells slots Q (F0 m (pc + 1) ls (.long x :: rest))) : W p l e R s m args below meth c H locs cells slots Q (F0 m pc ls (.int i :: .ref a :: rest)) := by
  obtain ⟨hx, hb, hml, hown, hts, hK, hA, hX⟩ := C
  obtain ⟨ws, hr, hP, hD⟩ := hM
  obtain ⟨n, f, he, hin, rfl⟩ := aL_spec h
  obtain ⟨q0, hq⟩ := (hr a _).mp he
  exact va_lald hx hb hK hP q0 t0 hq ht hin hdg kk
theorem ma_R (C : Cx p s m args c cc nL own Ts D cl tys A) (hM : mW D cl A M H) {cA : ClassId} {E : String} (t0 : Nat) (ht : tys[t0]? = some (cA, .object E)) {i : Int32} {x : Nat} (h : aQ M cA a i = some (some x)) (hdg : decode cc pc = .ok (.aaload, 1))
    (kk : W p l e R s m args below meth c H locs cells slots Q (F0 m (pc + 1) ls (.ref x :: rest))) : W p l e R s m args below meth c H locs cells slots Q (F0 m pc ls (.int i :: .ref a :: rest)) := by
  obtain ⟨hx, hb, hml, hown, hts, hK, hA, hX⟩ := C
  obtain ⟨ws, hr, hP, hD⟩ := hM
  obtain ⟨n, f, he, hin, hf⟩ := aQ_spec h
  obtain ⟨q0, hq⟩ := (hr a _).mp he
  exact va_aldq hx hb hK hP q0 t0 hq ht hin hdg (by rw [hf]; exact kk)
theorem ma_N (C : Cx p s m args c cc nL own Ts D cl tys A) (hM : mW D cl A M H) {cA : ClassId} {ty : FieldType} {n : Nat} (t0 : Nat) (ht : tys[t0]? = some (cA, ty)) (h : aN M cA a = some n) (hdg : decode cc pc = .ok (.arraylength, 1))
    (kk : W p l e R s m args below meth c H locs cells slots Q (F0 m (pc + 1) ls (.int (nI n) :: rest))) : W p l e R s m args below meth c H locs cells slots Q (F0 m pc ls (.ref a :: rest)) := by
  obtain ⟨hx, hb, hml, hown, hts, hK, hA, hX⟩ := C
  obtain ⟨ws, hr, hP, hD⟩ := hM
  obtain ⟨f, he⟩ := aN_spec h
  obtain ⟨q0, hq⟩ := (hr a _).mp he
  exact va_alen hx hb hK hP q0 t0 hq ht rfl hdg kk
theorem ms_I (C : Cx p s m args c cc nL own Ts D cl tys A) (hM : mW D cl A M H) (hS : va_S A s.heap H locs) {cA : ClassId} (t0 : Nat) (ht : tys[t0]? = some (cA, .int)) {i x : Int32} (h : sI M cA a i x = some M') (hdg : decode cc pc = .ok (.iastore, 1))
    (kk : ∀ (H1 : Heap) (locs1 : List Loc), mW D cl A M' H1 → va_S A s.heap H1 locs1 → W p l e R s m args below meth c H1 locs1 cells slots Q (F0 m (pc + 1) ls rest)) : W p l e R s m args below meth c H locs cells slots Q (F0 m pc ls (.int x :: .int i :: .ref a :: rest)) := by
  obtain ⟨hx, hb, hml, hown, hts, hK, hA, hX⟩ := C
  obtain ⟨ws, hr, hP, hD⟩ := hM
  obtain ⟨n, f, he, hin, rfl⟩ := sI_spec h
  obtain ⟨q0, hq⟩ := (hr a _).mp he
  exact va_iast hx hb hK hP hD hS q0 t0 hq ht hin hdg (fun H1 locs1 hP1 hD1 hS1 => kk H1 locs1 ⟨_, hr.set hD hq, hP1, hD1⟩ hS1)
theorem ms_B (C : Cx p s m args c cc nL own Ts D cl tys A) (hM : mW D cl A M H) (hS : va_S A s.heap H locs) {cA : ClassId} (t0 : Nat) (ht : tys[t0]? = some (cA, .byte)) {i x : Int32} (h : sI M cA a i (vp_nar .byte x) = some M') (hdg : decode cc pc = .ok (.bastore, 1))
    (kk : ∀ (H1 : Heap) (locs1 : List Loc), mW D cl A M' H1 → va_S A s.heap H1 locs1 → W p l e R s m args below meth c H1 locs1 cells slots Q (F0 m (pc + 1) ls rest)) : W p l e R s m args below meth c H locs cells slots Q (F0 m pc ls (.int x :: .int i :: .ref a :: rest)) := by
  obtain ⟨hx, hb, hml, hown, hts, hK, hA, hX⟩ := C
  obtain ⟨ws, hr, hP, hD⟩ := hM
  obtain ⟨n, f, he, hin, rfl⟩ := sI_spec h
  obtain ⟨q0, hq⟩ := (hr a _).mp he
  exact va_bast hx hb hK hP hD hS q0 t0 hq ht hin hdg (fun H1 locs1 hP1 hD1 hS1 => kk H1 locs1 ⟨_, hr.set hD hq, hP1, hD1⟩ hS1)
theorem ms_Z (C : Cx p s m args c cc nL own Ts D cl tys A) (hM : mW D cl A M H) (hS : va_S A s.heap H locs) {cA : ClassId} (t0 : Nat) (ht : tys[t0]? = some (cA, .boolean)) {i x : Int32} (h : sI M cA a i (vp_nar .boolean x) = some M') (hdg : decode cc pc = .ok (.bastore, 1))
    (kk : ∀ (H1 : Heap) (locs1 : List Loc), mW D cl A M' H1 → va_S A s.heap H1 locs1 → W p l e R s m args below meth c H1 locs1 cells slots Q (F0 m (pc + 1) ls rest)) : W p l e R s m args below meth c H locs cells slots Q (F0 m pc ls (.int x :: .int i :: .ref a :: rest)) := by
  obtain ⟨hx, hb, hml, hown, hts, hK, hA, hX⟩ := C
  obtain ⟨ws, hr, hP, hD⟩ := hM
  obtain ⟨n, f, he, hin, rfl⟩ := sI_spec h
  obtain ⟨q0, hq⟩ := (hr a _).mp he
  exact va_zast hx hb hK hP hD hS q0 t0 hq ht hin hdg (fun H1 locs1 hP1 hD1 hS1 => kk H1 locs1 ⟨_, hr.set hD hq, hP1, hD1⟩ hS1)
theorem ms_L (C : Cx p s m args c cc nL own Ts D cl tys A) (hM : mW D cl A M H) (hS : va_S A s.heap H locs) {cA : ClassId} (t0 : Nat) (ht : tys[t0]? = some (cA, .long)) {i : Int32} {x : Int64} (h : sL M cA a i x = some M') (hdg : decode cc pc = .ok (.lastore, 1))
    (kk : ∀ (H1 : Heap) (locs1 : List Loc), mW D cl A M' H1 → va_S A s.heap H1 locs1 → W p l e R s m args below meth c H1 locs1 cells slots Q (F0 m (pc + 1) ls rest)) : W p l e R s m args below meth c H locs cells slots Q (F0 m pc ls (.long x :: .int i :: .ref a :: rest)) := by
  obtain ⟨hx, hb, hml, hown, hts, hK, hA, hX⟩ := C
  obtain ⟨ws, hr, hP, hD⟩ := hM
  obtain ⟨n, f, he, hin, rfl⟩ := sL_spec h
  obtain ⟨q0, hq⟩ := (hr a _).mp he
  exact va_last hx hb hK hP hD hS q0 t0 hq ht hin hdg (fun H1 locs1 hP1 hD1 hS1 => kk H1 locs1 ⟨_, hr.set hD hq, hP1, hD1⟩ hS1)
theorem ms_R (C : Cx p s m args c cc nL own Ts D cl tys A) (hM : mW D cl A M H) (hS : va_S A s.heap H locs) {cA : ClassId} {r : vw_C} {ci v : Nat} (t0 : Nat) (ht : tys[t0]? = some (cA, .object r.1)) (hc : cl[ci]? = some r) (ho : isO M ci v) {i : Int32} (h : sR M cA a i v = some M') (hdg : decode cc pc = .ok (.aastore, 1))
    (kk : ∀ (H1 : Heap) (locs1 : List Loc), mW D cl A M' H1 → va_S A s.heap H1 locs1 → W p l e R s m args below meth c H1 locs1 cells slots Q (F0 m (pc + 1) ls rest)) : W p l e R s m args below meth c H locs cells slots Q (F0 m pc ls (.ref v :: .int i :: .ref a :: rest)) := by
  obtain ⟨hx, hb, hml, hown, hts, hK, hA, hX⟩ := C
  obtain ⟨ws, hr, hP, hD⟩ := hM
  obtain ⟨n, f, he, hin, rfl⟩ := sR_spec h
  obtain ⟨q0, hq⟩ := (hr a _).mp he
  obtain ⟨fs, hv⟩ := ho
  obtain ⟨qk, hqk⟩ := (hr v _).mp hv
  exact va_astq hx hb hK hP hD hS q0 t0 qk ci hq ht hqk hc hin hdg (fun H1 locs1 hP1 hD1 hS1 => kk H1 locs1 ⟨_, hr.set hD hq, hP1, hD1⟩ hS1)
theorem mn_O (C : Cx p s m args c cc nL own Ts D cl tys A) (hM : mW D cl A M H) (hS : va_S A s.heap H locs) {ci N index : Nat} {Cn : String} {T : u_T} {ty0 : Nat → FieldType} (hc : clsOk cl Ts ci Cn T N ty0) (hlk : Cond.classLink own index Cn ∈ Ts) (hinst : Cond.instantiable Cn N ∈ Ts) (hini : Cond.initialized Cn ∈ Ts) {fs : List Value} (hfs : ∀ j, j < N → defaultValue (ty0 j) = vp_V fs j) (hcells : cells + 1 ≤ R.cells) (hslots : slots + N ≤ R.slots) (hdg : decode cc pc = .ok (.new index, 3))
    (kk : ∀ (q : Nat) (H1 : Heap), M q = none → mW D cl A (mup M q (.inr (ci, fs))) H1 → va_S A s.heap H1 locs → W p l e R s m args below meth c H1 locs (cells + 1) (slots + N) Q (F0 m (pc + 3) ls (.ref q :: rest))) : W p l e R s m args below meth c H locs cells slots Q (F0 m pc ls rest) := by
  obtain ⟨hx, hb, hml, hown, hts, hK, hA, hX⟩ := C
  obtain ⟨ws, hr, hP, hD⟩ := hM
  exact va_new hx hb hts hc.2.1 ty0 hc.2.2.1 hown (hts _ hlk) (hts _ hinst) (hts _ hini) hK hP hD hS hA hc.1 hfs hcells hslots hdg (fun q H1 hP1 hD1 hS1 => kk q H1 (hr.fresh hD1) ⟨_, hr.push (hr.fresh hD1), hP1, hD1⟩ hS1)
theorem mn_A (C : Cx p s m args c cc nL own Ts D cl tys A) (hM : mW D cl A M H) (hS : va_S A s.heap H locs) {atype : ArrayType} {ty : FieldType} (hty : newarray.typeOf atype = ty) (harr : Cond.arrayClass (newarray.typeOf atype) ∈ Ts) {cA : ClassId} (t0 : Nat) (ht : tys[t0]? = some (cA, ty)) {n : Int32} {N' : Nat} {a0 : vp_A} (ha : ∀ cA : ClassId, vp_cell cA a0 = arrV cA N' (fun _ => defaultValue ty)) (hn : ¬ n < 0) (hN : n.toNatClampNeg = N') (hbytes : N' * componentBytes ty ≤ 536870912) (hcells : cells + 1 ≤ R.cells) (hslots : slots + N' ≤ R.slots) (hdg : decode cc pc = .ok (.newarray atype, 2))
    (kk : ∀ (q : Nat) (H1 : Heap), M q = none → mW D cl A (mup M q (.inl (cA, a0))) H1 → va_S A s.heap H1 locs → W p l e R s m args below meth c H1 locs (cells + 1) (slots + N') Q (F0 m (pc + 2) ls (.ref q :: rest))) : W p l e R s m args below meth c H locs cells slots Q (F0 m pc ls (.int n :: rest)) := by
  obtain ⟨hx, hb, hml, hown, hts, hK, hA, hX⟩ := C
  obtain ⟨ws, hr, hP, hD⟩ := hM
  refine va_newa hx hb (hts _ harr) hty hK hP hD hS hA ha hn hN hbytes hcells hslots hdg (fun q cA' H1 hK1 hP1 hD1 hS1 => ?_)
  have he : cA' = cA := by
    have h1 := (hK1.2 tys.length (cA', ty) (by rw [List.getElem?_append_right (Nat.le_refl _), Nat.sub_self]; rfl)).2
    exact RA_inj h1 (hK.2 t0 _ ht).2
  subst he
  exact kk q H1 (hr.fresh hD1) ⟨_, hr.push (hr.fresh hD1), hP1, hD1⟩ hS1
theorem mn_Q (C : Cx p s m args c cc nL own Ts D cl tys A) (hM : mW D cl A M H) (hS : va_S A s.heap H locs) {E : String} {index : Nat} (hlk : Cond.classLink own index E ∈ Ts) (hover : va_AO E s) {cA : ClassId} (t0 : Nat) (ht : tys[t0]? = some (cA, .object E)) {n : Int32} {N' : Nat} (hn : ¬ n < 0) (hN : n.toNatClampNeg = N') (hbytes : N' * 4 ≤ 536870912) (hcells : cells + 1 ≤ R.cells) (hslots : slots + N' ≤ R.slots) (hdg : decode cc pc = .ok (.anewarray index, 3))
    (kk : ∀ (q : Nat) (H1 : Heap), M q = none → mW D cl A (mup M q (.inl (cA, N', .inr (.inr (.inr (.inr (fun _ => none))))))) H1 → va_S A s.heap H1 locs → W p l e R s m args below meth c H1 locs (cells + 1) (slots + N') Q (F0 m (pc + 3) ls (.ref q :: rest))) : W p l e R s m args below meth c H locs cells slots Q (F0 m pc ls (.int n :: rest)) := by
  obtain ⟨hx, hb, hml, hown, hts, hK, hA, hX⟩ := C
  obtain ⟨ws, hr, hP, hD⟩ := hM
  refine va_newq hx hb hown (hts _ hlk) hover hK hP hD hS hA hn hN hbytes hcells hslots hdg (fun q cA' H1 hK1 hP1 hD1 hS1 => ?_)
  have he : cA' = cA := by
    have h1 := (hK1.2 tys.length (cA', .object E) (by rw [List.getElem?_append_right (Nat.le_refl _), Nat.sub_self]; rfl)).2
    exact RA_inj h1 (hK.2 t0 _ ht).2
  subst he
  exact kk q H1 (hr.fresh hD1) ⟨_, hr.push (hr.fresh hD1), hP1, hD1⟩ hS1
end MROWS
/-! contracts over a memory -/
def mPc (D : va_G) (cl : List vw_C) (tys : List (ClassId × FieldType)) (av : List Value) (M : Mem) (sz : Nat) : Array Value → State → Prop := va_Pc av (fun U => U.heap.size = sz ∧ mW D cl (fun _ => True) M U.heap ∧ va_K D cl tys U ∧ mX U)
def mQ (D : va_G) (cl : List vw_C) (post : Option Value → Mem → Prop) (M : Mem) (sz : Nat) : Array Value → State → Outcome → State → Prop := fun _ st oc t => (∃ (v : Option Value) (M' : Mem), oc = .returned v ∧ post v M' ∧ mW D cl (mA M sz) M' t.heap) ∧ va_F (mA M sz) st t
def kI (P : Int32 → Mem → Prop) : Option Value → Mem → Prop := fun v M => ∃ r : Int32, v = some (.int r) ∧ P r M
def kL (P : Int64 → Mem → Prop) : Option Value → Mem → Prop := fun v M => ∃ r : Int64, v = some (.long r) ∧ P r M
def kQ (P : Option Nat → Mem → Prop) : Option Value → Mem → Prop := fun v M => ∃ r : Option Nat, v = some (va_rf r) ∧ P r M
def kR (P : Nat → Mem → Prop) : Option Value → Mem → Prop := fun v M => ∃ r : Nat, v = some (.ref r) ∧ P r M
def kV (P : Mem → Prop) : Option Value → Mem → Prop := fun v M => v = none ∧ P M
/-- a method's contract at a memory and arguments: it returns, with 'post' of the answer and the new memory -/
def mMet (l : Launch) (Ts : List Cond) (D : va_G) (cl : List vw_C) (tys : List (ClassId × FieldType)) (y : MethodName) (bytes : ByteArray) (maxL : Nat) (ret : Option FieldType) (rm : Room) (av : List Value) (M : Mem) (post : Option Value → Mem → Prop) : Prop :=
  ∀ sz : Nat, Met l y (.code y bytes maxL ret :: Ts) rm (mPc D cl tys av M sz) (mQ D cl post M sz) rm.cells rm.slots (mA M sz)
def goodAll (Ts : List Cond) : Prop := ∀ w ∈ Ts, (w.onTables && w.keeps) = true ∨ ∃ ty, w = .arrayClass ty
theorem good_cons {Ts : List Cond} (hg : goodAll Ts) {y : MethodName} {bytes : ByteArray} {maxL : Nat} {ret : Option FieldType} (hc : Cond.code y bytes maxL ret ∈ Ts) : GoodIn Ts (.code y bytes maxL ret :: Ts) := by
  intro w hw
  rcases List.mem_cons.mp hw with h | h
  · rw [h]; exact ⟨hc, hg _ hc⟩
  · exact ⟨h, hg _ h⟩
theorem mPc_blind {D : va_G} {cl : List vw_C} {tys : List (ClassId × FieldType)} {av : List Value} {M : Mem} {sz : Nat} : FrameBlind (mPc D cl tys av M sz) := by
  intro a U g mk q
  obtain ⟨q0, q1, qP, qK, qX⟩ := q
  exact ⟨q0, q1, qP, va_K.moved (u := U) (U := U.calling g mk a) (Vm.Alike.refl U.vm) qK, mX.calling qX⟩
section MCALLS
variable {p : Program} {l : Launch} {e : Env} {R : Room} {s : State} {m : MethodId} {args : Array Value} {below : List Frame} {meth : Method} {c : Code} {H : Heap} {locs : List Loc} {cells slots : Nat} {Q : State → Prop}
variable {cc : ByteArray} {nL pc : Nat} {own : String} {Ts : List Cond} {ls : Array Slot} {st0 rest : List Value} {D : va_G} {cl : List vw_C} {tys : List (ClassId × FieldType)} {A : Nat → Prop} {M : Mem} {a : Nat}
theorem mcall {post : Option Value → Mem → Prop} {mc ms : Nat} {aa : Array Value} (C : Cx p s m args c cc nL own Ts D cl tys A) (hM : mW D cl A M H) (hS : va_S A s.heap H locs)
    (hr : va_Run p l e R s m args below meth c H locs cells slots mc ms (F0 m pc ls st0) rest (mQ D cl post M H.size aa) (mA M H.size))
    (kk : ∀ (v : Option Value) (M' : Mem) (H1 : Heap) (locs1 : List Loc), post v M' → mW D cl A M' H1 → va_S A s.heap H1 locs1 → W p l e R s m args below meth c H1 locs1 (cells + mc) (slots + ms) Q (F0 m (pc + 3) ls (v.toList ++ rest))) : W p l e R s m args below meth c H locs cells slots Q (F0 m pc ls st0) := by
  have hf : ∀ q, mA M H.size q → A q := by
    intro q hq
    rcases hq with ⟨e, he⟩ | hq
    · exact hM.inA he
    · exact C.2.2.2.2.2.2.1 q (Nat.le_trans hS.1 hq)
  intro T hT X
  obtain ⟨v, st₀, t, T', L, h0, X', hL, e1, e2, ⟨⟨v', M', hv, hp, hW⟩, hz, hk⟩, st⟩ := hr T hT X
  cases hv
  rw [h0] at hz hk
  rw [← e1] at hz hk hW
  obtain ⟨t2, a1, b1⟩ := kk v M' T'.heap (locs ++ L) hp (hW.weaken hf)
    ⟨Nat.le_trans hS.1 hz, fun q h1 h2 => (hk q (Nat.lt_of_lt_of_le h1 hS.1) (fun z => h2 (hf q z))).trans (hS.2.1 q h1 h2), fun q hq => by
      rcases List.mem_append.mp hq with h | h
      · exact hS.2.2 q h
      · exact hf _ (hL q h)⟩ T' rfl X'
  exact ⟨t2, st t2 a1, b1⟩
variable {y : MethodName} {bytes : ByteArray} {maxL index : Nat} {ret : Option FieldType} {rm : Room} {As : List Value} {post : Option Value → Mem → Prop} {b : Nat}
theorem mc_V (C : Cx p s m args c cc nL own Ts D cl tys A) (hM : mW D cl A M H) (hS : va_S A s.heap H locs) (hg : goodAll Ts) (hc : mMet l Ts D cl tys y bytes maxL ret rm (.ref b :: As) M post)
    {ci N : Nat} {T : u_T} (hcl : cl[ci]? = some (y.cls, T, N)) (ho : isO M ci b) (k1 : Cond.methodLink own index y ∈ Ts) (k2 : Cond.instanceMethod y ∈ Ts) (k3 : Cond.selects y.cls y y ∈ Ts) (k4 : Cond.initialized y.cls ∈ Ts) (k5 : Cond.code y bytes maxL ret ∈ Ts)
    (hd : y.cls ≠ "java/lang/invoke/MethodHandle" ∧ y.cls ≠ "java/lang/invoke/VarHandle" ∧ (parseMethodDescriptor y.desc).map (fun d => d.parameters.length) = some As.length) (hR : rm.frames + 1 ≤ R.frames ∧ 8 + (maxL + 11) + rm.locals ≤ R.locals) (hsz : ls.size = nL) (hst : st0 = As.reverse ++ .ref b :: rest) (hW : (rest.map fun v => v.category).sum ≤ 8) (hdg : decode cc pc = .ok (.invokevirtual index, 3)) {mc ms : Nat} (hmc : rm.cells = mc) (hms : rm.slots = ms) (hf : cells + mc ≤ R.cells ∧ slots + ms ≤ R.slots)
    (kk : ∀ (v : Option Value) (M' : Mem) (H1 : Heap) (locs1 : List Loc), post v M' → mW D cl A M' H1 → va_S A s.heap H1 locs1 → W p l e R s m args below meth c H1 locs1 (cells + mc) (slots + ms) Q (F0 m (pc + 3) ls (v.toList ++ rest))) : W p l e R s m args below meth c H locs cells slots Q (F0 m pc ls st0) := by
  subst hst
  subst hmc
  subst hms
  have hts := C.2.2.2.2.1
  have hK := C.2.2.2.2.2.1
  refine mcall C hM hS (va_runV (As := As) (rest := rest) (C := y.cls) ⟨C.1, C.2.1, C.2.2.1, C.2.2.2.1, hts⟩ (hc H.size) ⟨callB_of As.length hts (good_cons hg k5) rfl rfl rfl (hts _ k4) (hts _ k1) hd hR, hts _ k2, hts _ k3⟩ ⟨mPc_blind, ?_, fun U hU hW => ⟨rfl, by rw [hU], by rw [hU]; exact hM.weaken (fun _ _ => trivial), va_K.moved hW.alike hK, mX.warm hW C.2.2.2.2.2.2.2⟩⟩ rfl rfl hsz rfl (lv_room hW) hdg hf) kk
  obtain ⟨fs, ho⟩ := ho
  obtain ⟨ws, hr, hP, hD⟩ := hM
  obtain ⟨q0, hq⟩ := (hr b _).mp ho
  exact va_recv hK hP (ci := ci) (q0 := q0) hcl hq
theorem mc_S (C : Cx p s m args c cc nL own Ts D cl tys A) (hM : mW D cl A M H) (hS : va_S A s.heap H locs) (hg : goodAll Ts) (hc : mMet l Ts D cl tys y bytes maxL ret rm As M post)
    (k1 : Cond.methodLink own index y ∈ Ts) (k2 : Cond.static y ∈ Ts) (k4 : Cond.initialized y.cls ∈ Ts) (k5 : Cond.code y bytes maxL ret ∈ Ts)
    (hd : y.cls ≠ "java/lang/invoke/MethodHandle" ∧ y.cls ≠ "java/lang/invoke/VarHandle" ∧ (parseMethodDescriptor y.desc).map (fun d => d.parameters.length) = some As.length) (hR : rm.frames + 1 ≤ R.frames ∧ 8 + (maxL + 11) + rm.locals ≤ R.locals) (hsz : ls.size = nL) (hst : st0 = As.reverse ++ rest) (hW : (rest.map fun v => v.category).sum ≤ 8) (hdg : decode cc pc = .ok (.invokestatic index, 3)) {mc ms : Nat} (hmc : rm.cells = mc) (hms : rm.slots = ms) (hf : cells + mc ≤ R.cells ∧ slots + ms ≤ R.slots)
    (kk : ∀ (v : Option Value) (M' : Mem) (H1 : Heap) (locs1 : List Loc), post v M' → mW D cl A M' H1 → va_S A s.heap H1 locs1 → W p l e R s m args below meth c H1 locs1 (cells + mc) (slots + ms) Q (F0 m (pc + 3) ls (v.toList ++ rest))) : W p l e R s m args below meth c H locs cells slots Q (F0 m pc ls st0) := by
  subst hst
  subst hmc
  subst hms
  have hts := C.2.2.2.2.1
  have hK := C.2.2.2.2.2.1
  exact mcall C hM hS (va_runS (As := As) (rest := rest) ⟨C.1, C.2.1, C.2.2.1, C.2.2.2.1, hts⟩ (hc H.size) ⟨callB_of As.length hts (good_cons hg k5) rfl rfl rfl (hts _ k4) (hts _ k1) hd hR, hts _ k2⟩ ⟨mPc_blind, fun U hU hW => ⟨rfl, by rw [hU], by rw [hU]; exact hM.weaken (fun _ _ => trivial), va_K.moved hW.alike hK, mX.warm hW C.2.2.2.2.2.2.2⟩⟩ rfl rfl hsz rfl (lv_room hW) hdg hf) kk
theorem mc_I (C : Cx p s m args c cc nL own Ts D cl tys A) (hM : mW D cl A M H) (hS : va_S A s.heap H locs) (hg : goodAll Ts) (hc : mMet l Ts D cl tys y bytes maxL none rm (.ref b :: As) M post)
    (hy1 : y.name = "<init>") (k1 : Cond.methodLink own index y ∈ Ts) (k2 : Cond.instanceMethod y ∈ Ts) (k4 : Cond.initialized y.cls ∈ Ts) (k5 : Cond.code y bytes maxL none ∈ Ts)
    (hd : y.cls ≠ "java/lang/invoke/MethodHandle" ∧ y.cls ≠ "java/lang/invoke/VarHandle" ∧ (parseMethodDescriptor y.desc).map (fun d => d.parameters.length) = some As.length) (hR : rm.frames + 1 ≤ R.frames ∧ 8 + (maxL + 11) + rm.locals ≤ R.locals) (hsz : ls.size = nL) (hst : st0 = As.reverse ++ .ref b :: rest) (hW : (rest.map fun v => v.category).sum ≤ 8) (hdg : decode cc pc = .ok (.invokespecial index, 3)) {mc ms : Nat} (hmc : rm.cells = mc) (hms : rm.slots = ms) (hf : cells + mc ≤ R.cells ∧ slots + ms ≤ R.slots)
    (kk : ∀ (v : Option Value) (M' : Mem) (H1 : Heap) (locs1 : List Loc), post v M' → mW D cl A M' H1 → va_S A s.heap H1 locs1 → W p l e R s m args below meth c H1 locs1 (cells + mc) (slots + ms) Q (F0 m (pc + 3) ls (v.toList ++ rest))) : W p l e R s m args below meth c H locs cells slots Q (F0 m pc ls st0) := by
  subst hst
  subst hmc
  subst hms
  have hts := C.2.2.2.2.1
  have hK := C.2.2.2.2.2.1
  exact mcall C hM hS (va_runI (As := As) (rest := rest) ⟨C.1, C.2.1, C.2.2.1, C.2.2.2.1, hts⟩ (hc H.size) ⟨callB_of As.length hts (good_cons hg k5) rfl rfl rfl (hts _ k4) (hts _ k1) hd hR, hy1, hts _ k2⟩ ⟨mPc_blind, fun U hU hW => ⟨rfl, by rw [hU], by rw [hU]; exact hM.weaken (fun _ _ => trivial), va_K.moved hW.alike hK, mX.warm hW C.2.2.2.2.2.2.2⟩⟩ rfl rfl hsz rfl (lv_room hW) hdg hf) kk
end MCALLS
