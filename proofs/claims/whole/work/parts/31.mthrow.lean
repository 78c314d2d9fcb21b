/-! 'throw new X("..")' as one row; a throwing method's contract -/
set_option maxHeartbeats 4000000 in
theorem m_throw {p : Program} {l : Launch} {e : Env} {R : Room} {s : State} {m : MethodId} {args : Array Value} {below : List Frame} {meth : Method} {c : Code} {H : Heap} {locs : List Loc} {cells slots : Nat} {cc : ByteArray} {nL pc : Nat} {Ts : List Cond} {ls : Array Slot} {D : va_G} {cl : List vw_C} {tys : List (ClassId × FieldType)} {M0 M : Mem} {post : Option Value → Mem → Prop} {postT : Nat → Mem → Prop}
    {k ic iN iS : Nat} {tx : String} {names : List String} (C : Cx p s m args c cc nL R_Desk Ts D cl tys (mA M0 s.heap.size)) (hg : goodAll Ts) (hT : mT s) (hfl : l.flags = pinnedFlags ++ [noTraceFlag]) (hnh : c.exceptionTable.isEmpty = true) (hlk : meth.locks = false) (hM0 : mW D cl (mA M0 s.heap.size) M0 s.heap) (hM : mW D cl (mA M0 s.heap.size) M H) (hS : va_S (mA M0 s.heap.size) s.heap H locs)
    (hcl : Cond.classLink R_Desk iN (xcls k) ∈ Ts) (hinst : Cond.instantiable (xcls k) 6 ∈ Ts) (hini : Cond.initialized (xcls k) ∈ Ts) (hat : ∀ w ∈ Bundle.ownAtoms R_Desk ic (xcls k) names, w ∈ Ts ∨ w ∈ thrB) (hstr : (iS, tx) ∈ thrS) (hfit : Bundle.fit (xcls k) = true) (hnames : ∀ n ∈ names, Bundle.fit n = true)
    (hsz : ls.size = nL) (d0 : decode cc pc = .ok (.new iN, 3)) (d3 : decode cc (pc + 3) = .ok (.dup, 1)) (d4 : decode cc (pc + 4) = .ok (.ldc iS, 2)) (d6 : decode cc (pc + 6) = .ok (.invokespecial ic, 3)) (d9 : decode cc (pc + 9) = .ok (.athrow, 1))
    (hc1 : cells + 1 ≤ R.cells) (hs6 : slots + 6 ≤ R.slots) (hfr : names.length + 3 < R.frames) (hlo : 13 * (names.length + 1) + 43 ≤ R.locals) (hp : postT k M) :
    W p l e R s m args below meth c H locs cells slots (MQT below (mQT D cl post postT M0 s.heap.size) args s R.cells R.slots (mA M0 s.heap.size)) (F0 m pc ls []) := by
  obtain ⟨hx, hb, hml, hown', hts, hK, hA, hX⟩ := C
  intro T hTH X
  have X₂ := st_rebase X hc1 hs6
  have hsame0 := X.same.setFrames (.invoking m args :: below) X.cur
  generalize hs2 : T.setFrames (.invoking m args :: below) = s₂ at X₂
  have hh2 : s₂.heap = H := by rw [← hs2]; exact hTH
  have hv2 : s₂.vm = T.vm := by rw [← hs2]; rfl
  have hW2 : s.WarmedH s₂.vm := by rw [hv2]; exact X.warmed
  have hsame1 : s.sameButNew (s₂.setVm s.vm) locs cells slots := by rw [← hs2]; exact hsame0
  have hT2 : mT s₂ := hT.move hW2 (stK_of hM0 hS hh2)
  have hts2 : ∀ w ∈ Ts, w.before args s₂ = true := fun w hw => word_at hW2 (hg w hw) (hts w hw)
  have hown2 : s₂.vm.findClass R_Desk = some m.cls := by rw [hW2.alike.findClass]; exact hown'
  have htr : e.platform.stackTraces = false := Launch.traces_off hfl X.admits
  have key : W p l e { frames := R.frames, cells := 1, slots := 6, locals := R.locals } s₂ m args below meth c H [] 0 0 (MQT below (mQT D cl post postT M0 s.heap.size) args s R.cells R.slots (mA M0 s.heap.size)) (F0 m pc ls []) := by
    refine W.newc hx hb hown2 (hts2 _ hcl) (hts2 _ hinst) (hts2 _ hini) rfl d0 (Nat.le_refl _) (Nat.le_refl _) (fun cC kC h1 h2 h3 h4 => ?_)
    show W p l e _ s₂ m args below meth c _ [] (0 + 1) (0 + 6) _ (F0 m (pc + 3) ls [.ref H.size])
    refine lv_dup hx hb d3 rfl ?_
    obtain ⟨q, hq⟩ := hT2.2 _ hstr
    refine va_ldcS hx hb hown2 hq d4 ?_
    intro T₃ hT3 X₃
    have hcell : T₃.heap[H.size]? = some (freshCell cC kC) := by rw [hT3]; simp
    obtain ⟨U, st, hrun, hend, hWU, hsame, ce, hce, hown3⟩ := X₃.ctorThrowS hx htr hown2 hfit hnames (fun w hw => by
        rcases hat w hw with h | h
        · exact hts2 w h
        · exact hT2.1 w h) (fun y hy => absurd hy List.not_mem_nil) h1 h2 hcell (by rw [hh2]; exact Nat.le_refl _) (msg := .ref q) rfl (g := F0 m (pc + 4 + 2) ls [.ref q, .ref H.size, .ref H.size]) rfl (by rw [hml]; exact hsz) rfl rfl (rest := []) rfl (by rw [hb]; exact d6) (by rw [hb]; exact d9) (fun y hy => by
        have h0 : c.exceptionTable = #[] := Array.isEmpty_iff.mp hnh
        rw [h0] at hy
        exact absurd hy List.not_mem_nil) hfr (by show 2 * 0 + (1 + 0) + _ ≤ R.locals; omega) hlk
    have hkeep : ∀ y : Nat, y < H.size → U.heap[y]? = H[y]? := by
      intro y hy
      obtain ⟨cy, hcy⟩ : ∃ cy, H[y]? = some cy := ⟨_, Array.getElem?_eq_getElem hy⟩
      have h5 : ({ U with vm := s₂.vm } : State).heap[y]? = some cy := State.sameButNew.kept_nil hsame (by rw [hh2]; exact hcy)
      exact (show U.heap[y]? = some cy from h5).trans hcy.symm
    have hszU : H.size ≤ U.heap.size := by
      have h7 := hsame.2.1
      rw [hh2] at h7
      exact h7
    refine ⟨U, st, .threw H.size, hrun, hend, ⟨Or.inr ⟨H.size, k, M, rfl, hp, hM.keep hkeep, ce, hce, ?_, hown3.vm⟩, Nat.le_trans hS.1 hszU, fun y h8 h9 => (hkeep y (Nat.lt_of_lt_of_le h8 hS.1)).trans (hS.2.1 y h8 h9)⟩, locs, ⟨State.WarmedH.trans hW2 hWU, ?_⟩, hS.2.2⟩
    · have h10 := hown3.cls
      rw [hW2.alike.findClass] at h10
      exact h10
    · have h11 := hsame1.trans (hsame.setVm s.vm)
      rw [List.append_nil] at h11
      exact h11.mono hc1 hs6
  exact key T hTH X₂
