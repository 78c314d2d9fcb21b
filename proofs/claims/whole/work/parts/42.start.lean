theorem in_Desk : Cond.instantiable R_Desk 6 ∈ BIG := List.mem_filter.mpr ⟨List.mem_of_getElem? (i := 46) (by decide +kernel), rfl⟩
theorem in_Text : Cond.instantiable R_Text 4 ∈ BIG := List.mem_filter.mpr ⟨List.mem_of_getElem? (i := 54) (by decide +kernel), rfl⟩
theorem in_Bnd : Cond.instantiable R_Bnd 3 ∈ BIG := List.mem_filter.mpr ⟨List.mem_of_getElem? (i := 76) (by decide +kernel), rfl⟩
theorem in_Kt : Cond.instantiable R_Kt 2 ∈ BIG := List.mem_filter.mpr ⟨List.mem_of_getElem? (i := 101) (by decide +kernel), rfl⟩
theorem in_Shelf : Cond.instantiable R_Shelf 2 ∈ BIG := List.mem_filter.mpr ⟨List.mem_of_getElem? (i := 94) (by decide +kernel), rfl⟩
theorem in_Rs : Cond.instantiable R_Rs 5 ∈ BIG := List.mem_filter.mpr ⟨List.mem_of_getElem? (i := 123) (by decide +kernel), rfl⟩
theorem in_Mod : Cond.instantiable R_Mod 23 ∈ BIG := List.mem_filter.mpr ⟨List.mem_of_getElem? (i := 552) (by decide +kernel), rfl⟩
theorem ac_0 : Cond.arrayClass .byte ∈ lw_tbl := List.mem_of_getElem? (i := 72) (by decide +kernel)
theorem ac_1 : Cond.arrayClass .long ∈ lw_tbl := List.mem_of_getElem? (i := 73) (by decide +kernel)
theorem ac_2 : Cond.arrayClass .int ∈ lw_tbl := List.mem_of_getElem? (i := 144) (by decide +kernel)
theorem ac_3 : Cond.arrayOver (.object "TopicDesk$Binding") ∈ lw_tbl := List.mem_of_getElem? (i := 75) (by decide +kernel)
theorem ac_4 : Cond.arrayOver (.object "TopicDesk$KeptTopic") ∈ lw_tbl := List.mem_of_getElem? (i := 100) (by decide +kernel)
theorem tb_0 : Cond.laysStatic "java/lang/Throwable" "UNASSIGNED_STACK" "[Ljava/lang/StackTraceElement;" ∈ lw_tbl := List.mem_of_getElem? (i := 382) (by decide +kernel)
theorem tb_1 : Cond.laysStatic "java/lang/Throwable" "SUPPRESSED_SENTINEL" "Ljava/util/List;" ∈ lw_tbl := List.mem_of_getElem? (i := 384) (by decide +kernel)
theorem tb_2 : Cond.declares ⟨"java/lang/RuntimeException", "<init>", "(Ljava/lang/String;)V"⟩ ∈ lw_tbl := List.mem_of_getElem? (i := 359) (by decide +kernel)
theorem tb_3 : Cond.declares ⟨"java/lang/Exception", "<init>", "(Ljava/lang/String;)V"⟩ ∈ lw_tbl := List.mem_of_getElem? (i := 361) (by decide +kernel)
theorem tb_4 : Cond.declares ⟨"java/lang/Throwable", "<init>", "(Ljava/lang/String;)V"⟩ ∈ lw_tbl := List.mem_of_getElem? (i := 363) (by decide +kernel)
theorem tb_5 : Cond.castable "java/lang/IllegalArgumentException" "java/lang/IllegalArgumentException" ∈ lw_tbl := List.mem_of_getElem? (i := 357) (by decide +kernel)
theorem tb_6 : Cond.castable "java/lang/IllegalStateException" "java/lang/IllegalStateException" ∈ lw_tbl := List.mem_of_getElem? (i := 428) (by decide +kernel)
theorem tb_7 : Cond.castable "java/util/NoSuchElementException" "java/util/NoSuchElementException" ∈ lw_tbl := List.mem_of_getElem? (i := 533) (by decide +kernel)
theorem sr_66 : Cond.stringRef R_Desk 66 "no pattern, or no such queue" ∈ lw_tbl := List.mem_of_getElem? (i := 396) (by decide +kernel)
theorem sr_76 : Cond.stringRef R_Desk 76 "no binding is free" ∈ lw_tbl := List.mem_of_getElem? (i := 435) (by decide +kernel)
theorem sr_90 : Cond.stringRef R_Desk 90 "no topic" ∈ lw_tbl := List.mem_of_getElem? (i := 454) (by decide +kernel)
theorem sr_114 : Cond.stringRef R_Desk 114 "no more topics can be kept" ∈ lw_tbl := List.mem_of_getElem? (i := 503) (by decide +kernel)
theorem sr_135 : Cond.stringRef R_Desk 135 "no such kept topic, or no such binding" ∈ lw_tbl := List.mem_of_getElem? (i := 540) (by decide +kernel)
theorem th_str {b : Nat} {s : State} {k : Nat} {tx : String} (h : (Cond.stringRef R_Desk k tx).before #[Value.ref b] s = true) (h2 : (Cond.exactly (.string "TopicDesk" k) "java/lang/String").before #[Value.ref b] s = true) : ∃ a : Nat, vk_R R_Desk k tx a s := by
  obtain ⟨a, -, -, -, ha, -⟩ := Cond.exactly_spec h2
  exact ⟨a, vk_R.of (A := #[Value.ref b]) h ha⟩
theorem mT_start {b : Nat} {s : State} (hts : ∀ w ∈ lw_tbl, w.before #[Value.ref b] s = true) (hgv : (Jvm.Cond.and given_1 narrow_1).before #[Value.ref b] s = true) : mT s := by
  have hs := flat_of_before _ hgv
  have hv := Vm.Alike.refl s.vm
  have hk : stK s s := fun _ _ h _ => h
  have i1 : (Cond.isRef (.static "java/lang/Throwable" "UNASSIGNED_STACK" "[Ljava/lang/StackTraceElement;")).before #[Value.ref b] s = true := hs _ (by decide +kernel)
  have i2 : (Cond.isRef (.static "java/lang/Throwable" "SUPPRESSED_SENTINEL" "Ljava/util/List;")).before #[Value.ref b] s = true := hs _ (by decide +kernel)
  have i3 : (Cond.not (.castable "java/lang/IllegalStateException" "java/lang/IllegalArgumentException")).before #[Value.ref b] s = true := hs _ (by decide +kernel)
  refine ⟨?_, ?_⟩
  · simp only [thrB, List.forall_mem_cons]
    exact ⟨fun _ => th_lays hv hk (hts _ tb_0), fun _ => th_lays hv hk (hts _ tb_1), fun _ => th_decl hv (hts _ tb_2), fun _ => th_decl hv (hts _ tb_3), fun _ => th_decl hv (hts _ tb_4), fun _ => th_cast hv (hts _ tb_5), fun _ => th_cast hv (hts _ tb_6), fun _ => th_cast hv (hts _ tb_7), fun _ => th_isRef hv hk (hts _ tb_0) i1, fun _ => th_isRef hv hk (hts _ tb_1) i2, fun _ => th_ncast hv i3, fun _ h => absurd h List.not_mem_nil⟩
  · simp only [thrS, List.forall_mem_cons]
    exact ⟨th_str (hts _ sr_66) (hs _ (by decide +kernel)), th_str (hts _ sr_76) (hs _ (by decide +kernel)), th_str (hts _ sr_90) (hs _ (by decide +kernel)), th_str (hts _ sr_114) (hs _ (by decide +kernel)), th_str (hts _ sr_135) (hs _ (by decide +kernel)), fun _ h => absurd h List.not_mem_nil⟩
theorem K_start {b : Nat} {s : State} (hts : ∀ w ∈ lw_tbl, w.before #[Value.ref b] s = true) : ∃ (D : va_G) (g : Nat → ClassId), va_K D vwCl (tysG g) s := by
  have htsB : ∀ w ∈ BIG, w.before #[Value.ref b] s = true := fun w hw => hts w (List.mem_filter.mp hw).1
  obtain ⟨c0, i0, K0⟩ := u_known (C := R_Desk) (T := F_Desk) (N := 6) (n := 6) htsB ok_Desk.2.1 (htsB _ in_Desk)
  obtain ⟨c1, i1, K1⟩ := u_known (C := R_Text) (T := F_Text) (N := 4) (n := 4) htsB ok_Text.2.1 (htsB _ in_Text)
  obtain ⟨c2, i2, K2⟩ := u_known (C := R_Bnd) (T := F_Bnd) (N := 3) (n := 3) htsB ok_Bnd.2.1 (htsB _ in_Bnd)
  obtain ⟨c3, i3, K3⟩ := u_known (C := R_Kt) (T := F_Kt) (N := 2) (n := 2) htsB ok_Kt.2.1 (htsB _ in_Kt)
  obtain ⟨c4, i4, K4⟩ := u_known (C := R_Shelf) (T := F_Shelf) (N := 2) (n := 2) htsB ok_Shelf.2.1 (htsB _ in_Shelf)
  obtain ⟨c5, i5, K5⟩ := u_known (C := R_Rs) (T := F_Rs) (N := 5) (n := 5) htsB ok_Rs.2.1 (htsB _ in_Rs)
  obtain ⟨c6, i6, K6⟩ := u_known (C := R_Mod) (T := F_Mod) (N := 23) (n := 23) htsB ok_Mod.2.1 (htsB _ in_Mod)
  obtain ⟨a0, k0, q0, f0, e0, r0⟩ := Cond.arrayClass_spec (hts _ ac_0)
  obtain ⟨a1, k1, q1, f1, e1, r1⟩ := Cond.arrayClass_spec (hts _ ac_1)
  obtain ⟨a2, k2, q2, f2, e2, r2⟩ := Cond.arrayClass_spec (hts _ ac_2)
  obtain ⟨q3, a3, k3, f3, -, e3, r3, z3⟩ := Cond.arrayOver_spec (hts _ ac_3)
  obtain ⟨q4, a4, k4, f4, -, e4, r4, z4⟩ := Cond.arrayOver_spec (hts _ ac_4)
  refine ⟨(fun k => ([c0, c1, c2, c3, c4, c5, c6] : List ClassId).getD k c0, fun k => ([i0, i1, i2, i3, i4, i5, i6] : List (Nat → Nat)).getD k i0), fun k => ([a0, a1, a2, a3, a4] : List ClassId).getD k a0, fun k q h => ?_, fun k q h => ?_⟩
  · match k, h with
    | 0, h => cases h; exact K0
    | 1, h => cases h; exact K1
    | 2, h => cases h; exact K2
    | 3, h => cases h; exact K3
    | 4, h => cases h; exact K4
    | 5, h => cases h; exact K5
    | 6, h => cases h; exact K6
    | k + 7, h => cases h
  · match k, h with
    | 0, h => cases h; exact ⟨fun n z => ⟨fun k h => (by cases h), k0, e0, q0, r0⟩, f0⟩
    | 1, h => cases h; exact ⟨fun n z => ⟨fun k h => (by cases h), k1, e1, q1, r1⟩, f1⟩
    | 2, h => cases h; exact ⟨fun n z => ⟨fun k h => (by cases h), k2, e2, q2, r2⟩, f2⟩
    | 3, h => cases h; exact ⟨fun n z => ⟨fun k h => (by cases h), k3, e3, q3, r3⟩, k3, q3, e3, r3, f3, z3⟩
    | 4, h => cases h; exact ⟨fun n z => ⟨fun k h => (by cases h), k4, e4, q4, r4⟩, k4, q4, e4, r4, f4, z4⟩
    | k + 5, h => cases h
set_option maxHeartbeats 4000000 in
/-- THE LAW, from its entry: what is left is its predicate, over memories alone -/
theorem whole_of (hpure : ∀ (g : Nat → ClassId) (b L : Nat) (xs : Nat → Int32), L ≤ 2048 → wp_Law_law g b L xs m0) {p : Program} {e : Env} {s : State} {m : MethodId} {below : List Frame} {meth : Method} {c : Code} (l : Launch) (hfl : l.flags = pinnedFlags ++ [noTraceFlag]) {b L : Nat} {xs : Nat → Int32} (hL : L ≤ 2048) (C0 : lw_At p s m meth c b L xs) : W p l e room_1 s m #[Value.ref b] below meth c s.heap [] 0 0 (lw_Z below #[Value.ref b] s) (entryFrame m ([Value.ref b] : List Value).toArray 7) := by
  obtain ⟨hx, hb, hr, hml, hown, hts, hX, hbl, hlocks, hgv⟩ := C0
  obtain ⟨D, g, hK⟩ := K_start hts
  have hl := lv_entry ([.ref b]) (n := 7) (Nat.le_of_ble_eq_true rfl)
  rw [lg_entry_eq]
  have C : C_Law_law l D g p s m meth c b L xs := ⟨⟨hx, hb, hml, hown, fun w hw => hts w (List.mem_filter.mp hw).1, hK, fun q h => Or.inr h, ⟨va_AO.of (hts _ ac_3), va_AO.of (hts _ ac_4)⟩⟩, hr, hlocks, mT_start hts hgv, hfl, hX, hbl⟩
  exact c_Law_law C (hpure g b L xs hL) _ _ _ m0_W va_S.rf hl
