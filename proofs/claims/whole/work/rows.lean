section
-- ===== PART A: goes FIRST, ahead of the names: the tables' words, and 'selects' of the private methods out of them =====
/-- a private method of a class that the tables say can be made, by its rows of tables_1 -/
def lw_okq (q : MethodName × Nat) : Prop := (q.1.cls ≠ "java/lang/invoke/MethodHandle" ∧ q.1.cls ≠ "java/lang/invoke/VarHandle") ∧ Cond.instantiable q.1.cls q.2 ∈ tables_1 ∧ Cond.privateMethod q.1 ∈ tables_1 ∧ Cond.instanceMethod q.1 ∈ tables_1
theorem lw_p0 : lw_okq (⟨"TopicDesk", "boundAt", "(I)LTopicDesk$Binding;"⟩, 6) := ⟨⟨by decide +kernel, by decide +kernel⟩, List.mem_of_getElem? (i := 17) (by decide +kernel), List.mem_of_getElem? (i := 159) (by decide +kernel), List.mem_of_getElem? (i := 160) (by decide +kernel)⟩
theorem lw_p1 : lw_okq (⟨"TopicDesk", "fewestWords", "(IIZ)I"⟩, 6) := ⟨⟨by decide +kernel, by decide +kernel⟩, List.mem_of_getElem? (i := 17) (by decide +kernel), List.mem_of_getElem? (i := 229) (by decide +kernel), List.mem_of_getElem? (i := 230) (by decide +kernel)⟩
theorem lw_p2 : lw_okq (⟨"TopicDesk$RowSearch", "collectWords", "(LTopicDesk$Text;LTopicDesk$Text;)V"⟩, 5) := ⟨⟨by decide +kernel, by decide +kernel⟩, List.mem_of_getElem? (i := 94) (by decide +kernel), List.mem_of_getElem? (i := 237) (by decide +kernel), List.mem_of_getElem? (i := 238) (by decide +kernel)⟩
theorem lw_p3 : lw_okq (⟨"TopicDesk$RowSearch", "addWord", "(J)V"⟩, 5) := ⟨⟨by decide +kernel, by decide +kernel⟩, List.mem_of_getElem? (i := 94) (by decide +kernel), List.mem_of_getElem? (i := 241) (by decide +kernel), List.mem_of_getElem? (i := 242) (by decide +kernel)⟩
theorem lw_p4 : lw_okq (⟨"TopicDesk$RowSearch", "addStates", "(III)V"⟩, 5) := ⟨⟨by decide +kernel, by decide +kernel⟩, List.mem_of_getElem? (i := 94) (by decide +kernel), List.mem_of_getElem? (i := 256) (by decide +kernel), List.mem_of_getElem? (i := 257) (by decide +kernel)⟩
theorem lw_p5 : lw_okq (⟨"TopicDesk$RowSearch", "addState", "(II)V"⟩, 5) := ⟨⟨by decide +kernel, by decide +kernel⟩, List.mem_of_getElem? (i := 94) (by decide +kernel), List.mem_of_getElem? (i := 260) (by decide +kernel), List.mem_of_getElem? (i := 261) (by decide +kernel)⟩
theorem lw_p6 : lw_okq (⟨"TopicDesk", "isSpare", "(II)Z"⟩, 6) := ⟨⟨by decide +kernel, by decide +kernel⟩, List.mem_of_getElem? (i := 17) (by decide +kernel), List.mem_of_getElem? (i := 277) (by decide +kernel), List.mem_of_getElem? (i := 278) (by decide +kernel)⟩
theorem lw_p7 : lw_okq (⟨"TopicDesk", "isWithin", "(II)Z"⟩, 6) := ⟨⟨by decide +kernel, by decide +kernel⟩, List.mem_of_getElem? (i := 17) (by decide +kernel), List.mem_of_getElem? (i := 281) (by decide +kernel), List.mem_of_getElem? (i := 282) (by decide +kernel)⟩
theorem lw_p8 : lw_okq (⟨"TopicDesk", "takeTape", "(Z)Z"⟩, 6) := ⟨⟨by decide +kernel, by decide +kernel⟩, List.mem_of_getElem? (i := 17) (by decide +kernel), List.mem_of_getElem? (i := 294) (by decide +kernel), List.mem_of_getElem? (i := 295) (by decide +kernel)⟩
theorem lw_p9 : lw_okq (⟨"TopicDesk$Text", "addPart", "(J)V"⟩, 4) := ⟨⟨by decide +kernel, by decide +kernel⟩, List.mem_of_getElem? (i := 25) (by decide +kernel), List.mem_of_getElem? (i := 308) (by decide +kernel), List.mem_of_getElem? (i := 309) (by decide +kernel)⟩
theorem lw_p10 : lw_okq (⟨"TopicDesk$Text", "canStand", "(IIZ)Z"⟩, 4) := ⟨⟨by decide +kernel, by decide +kernel⟩, List.mem_of_getElem? (i := 25) (by decide +kernel), List.mem_of_getElem? (i := 317) (by decide +kernel), List.mem_of_getElem? (i := 318) (by decide +kernel)⟩
theorem lw_p11 : lw_okq (⟨"java/lang/Throwable", "fillInStackTrace", "(I)Ljava/lang/Throwable;"⟩, 6) := ⟨⟨by decide +kernel, by decide +kernel⟩, List.mem_of_getElem? (i := 365) (by decide +kernel), List.mem_of_getElem? (i := 363) (by decide +kernel), List.mem_of_getElem? (i := 364) (by decide +kernel)⟩
theorem lw_p12 : lw_okq (⟨"TopicDesk", "leastFreeBinding", "()I"⟩, 6) := ⟨⟨by decide +kernel, by decide +kernel⟩, List.mem_of_getElem? (i := 17) (by decide +kernel), List.mem_of_getElem? (i := 394) (by decide +kernel), List.mem_of_getElem? (i := 395) (by decide +kernel)⟩
theorem lw_p13 : lw_okq (⟨"TopicDesk$Shelf", "placeFor", "(LTopicDesk$Text;)I"⟩, 2) := ⟨⟨by decide +kernel, by decide +kernel⟩, List.mem_of_getElem? (i := 65) (by decide +kernel), List.mem_of_getElem? (i := 443) (by decide +kernel), List.mem_of_getElem? (i := 444) (by decide +kernel)⟩
theorem lw_p14 : lw_okq (⟨"TopicDesk$Shelf", "isAt", "(ILTopicDesk$Text;)Z"⟩, 2) := ⟨⟨by decide +kernel, by decide +kernel⟩, List.mem_of_getElem? (i := 65) (by decide +kernel), List.mem_of_getElem? (i := 454) (by decide +kernel), List.mem_of_getElem? (i := 455) (by decide +kernel)⟩
theorem lw_p15 : lw_okq (⟨"TopicDesk$Shelf", "move", "(II)V"⟩, 2) := ⟨⟨by decide +kernel, by decide +kernel⟩, List.mem_of_getElem? (i := 65) (by decide +kernel), List.mem_of_getElem? (i := 458) (by decide +kernel), List.mem_of_getElem? (i := 459) (by decide +kernel)⟩
def lw_privs_1 : List (MethodName × Nat) := [(⟨"TopicDesk", "boundAt", "(I)LTopicDesk$Binding;"⟩, 6), (⟨"TopicDesk", "fewestWords", "(IIZ)I"⟩, 6), (⟨"TopicDesk$RowSearch", "collectWords", "(LTopicDesk$Text;LTopicDesk$Text;)V"⟩, 5), (⟨"TopicDesk$RowSearch", "addWord", "(J)V"⟩, 5), (⟨"TopicDesk$RowSearch", "addStates", "(III)V"⟩, 5), (⟨"TopicDesk$RowSearch", "addState", "(II)V"⟩, 5), (⟨"TopicDesk", "isSpare", "(II)Z"⟩, 6), (⟨"TopicDesk", "isWithin", "(II)Z"⟩, 6), (⟨"TopicDesk", "takeTape", "(Z)Z"⟩, 6), (⟨"TopicDesk$Text", "addPart", "(J)V"⟩, 4), (⟨"TopicDesk$Text", "canStand", "(IIZ)Z"⟩, 4), (⟨"java/lang/Throwable", "fillInStackTrace", "(I)Ljava/lang/Throwable;"⟩, 6), (⟨"TopicDesk", "leastFreeBinding", "()I"⟩, 6), (⟨"TopicDesk$Shelf", "placeFor", "(LTopicDesk$Text;)I"⟩, 2), (⟨"TopicDesk$Shelf", "isAt", "(ILTopicDesk$Text;)Z"⟩, 2), (⟨"TopicDesk$Shelf", "move", "(II)V"⟩, 2)]
theorem lw_r1 : ∀ q ∈ lw_privs_1, lw_okq q := List.forall_mem_cons.mpr ⟨lw_p0, List.forall_mem_cons.mpr ⟨lw_p1, List.forall_mem_cons.mpr ⟨lw_p2, List.forall_mem_cons.mpr ⟨lw_p3, List.forall_mem_cons.mpr ⟨lw_p4, List.forall_mem_cons.mpr ⟨lw_p5, List.forall_mem_cons.mpr ⟨lw_p6, List.forall_mem_cons.mpr ⟨lw_p7, List.forall_mem_cons.mpr ⟨lw_p8, List.forall_mem_cons.mpr ⟨lw_p9, List.forall_mem_cons.mpr ⟨lw_p10, List.forall_mem_cons.mpr ⟨lw_p11, List.forall_mem_cons.mpr ⟨lw_p12, List.forall_mem_cons.mpr ⟨lw_p13, List.forall_mem_cons.mpr ⟨lw_p14, List.forall_mem_cons.mpr ⟨lw_p15, fun _ h => absurd h List.not_mem_nil⟩⟩⟩⟩⟩⟩⟩⟩⟩⟩⟩⟩⟩⟩⟩⟩
theorem lw_p16 : lw_okq (⟨"TopicDeskModel", "reads", "(Z)Z"⟩, 23) := ⟨⟨by decide +kernel, by decide +kernel⟩, List.mem_of_getElem? (i := 519) (by decide +kernel), List.mem_of_getElem? (i := 608) (by decide +kernel), List.mem_of_getElem? (i := 609) (by decide +kernel)⟩
theorem lw_p17 : lw_okq (⟨"TopicDeskModel", "raise", "(I)I"⟩, 23) := ⟨⟨by decide +kernel, by decide +kernel⟩, List.mem_of_getElem? (i := 519) (by decide +kernel), List.mem_of_getElem? (i := 617) (by decide +kernel), List.mem_of_getElem? (i := 618) (by decide +kernel)⟩
theorem lw_p18 : lw_okq (⟨"TopicDeskModel", "isBound", "(I)Z"⟩, 23) := ⟨⟨by decide +kernel, by decide +kernel⟩, List.mem_of_getElem? (i := 519) (by decide +kernel), List.mem_of_getElem? (i := 629) (by decide +kernel), List.mem_of_getElem? (i := 630) (by decide +kernel)⟩
theorem lw_p19 : lw_okq (⟨"TopicDeskModel", "fits", "(I[JII)Z"⟩, 23) := ⟨⟨by decide +kernel, by decide +kernel⟩, List.mem_of_getElem? (i := 519) (by decide +kernel), List.mem_of_getElem? (i := 640) (by decide +kernel), List.mem_of_getElem? (i := 641) (by decide +kernel)⟩
theorem lw_p20 : lw_okq (⟨"TopicDeskModel", "first", "(I)I"⟩, 23) := ⟨⟨by decide +kernel, by decide +kernel⟩, List.mem_of_getElem? (i := 519) (by decide +kernel), List.mem_of_getElem? (i := 644) (by decide +kernel), List.mem_of_getElem? (i := 645) (by decide +kernel)⟩
theorem lw_p21 : lw_okq (⟨"TopicDeskModel", "moved", "(IIJ)I"⟩, 23) := ⟨⟨by decide +kernel, by decide +kernel⟩, List.mem_of_getElem? (i := 519) (by decide +kernel), List.mem_of_getElem? (i := 651) (by decide +kernel), List.mem_of_getElem? (i := 652) (by decide +kernel)⟩
theorem lw_p22 : lw_okq (⟨"TopicDeskModel", "isEnd", "(II)Z"⟩, 23) := ⟨⟨by decide +kernel, by decide +kernel⟩, List.mem_of_getElem? (i := 519) (by decide +kernel), List.mem_of_getElem? (i := 658) (by decide +kernel), List.mem_of_getElem? (i := 659) (by decide +kernel)⟩
theorem lw_p23 : lw_okq (⟨"TopicDeskModel", "found", "()I"⟩, 23) := ⟨⟨by decide +kernel, by decide +kernel⟩, List.mem_of_getElem? (i := 519) (by decide +kernel), List.mem_of_getElem? (i := 666) (by decide +kernel), List.mem_of_getElem? (i := 667) (by decide +kernel)⟩
theorem lw_p24 : lw_okq (⟨"TopicDeskModel", "fitsKept", "(II)Z"⟩, 23) := ⟨⟨by decide +kernel, by decide +kernel⟩, List.mem_of_getElem? (i := 519) (by decide +kernel), List.mem_of_getElem? (i := 678) (by decide +kernel), List.mem_of_getElem? (i := 679) (by decide +kernel)⟩
theorem lw_p25 : lw_okq (⟨"TopicDeskModel", "isAhead", "(II)Z"⟩, 23) := ⟨⟨by decide +kernel, by decide +kernel⟩, List.mem_of_getElem? (i := 519) (by decide +kernel), List.mem_of_getElem? (i := 686) (by decide +kernel), List.mem_of_getElem? (i := 687) (by decide +kernel)⟩
theorem lw_p26 : lw_okq (⟨"TopicDeskModel", "fewest", "(IIZ)I"⟩, 23) := ⟨⟨by decide +kernel, by decide +kernel⟩, List.mem_of_getElem? (i := 519) (by decide +kernel), List.mem_of_getElem? (i := 698) (by decide +kernel), List.mem_of_getElem? (i := 699) (by decide +kernel)⟩
theorem lw_p27 : lw_okq (⟨"TopicDeskModel", "wordOf", "(III)J"⟩, 23) := ⟨⟨by decide +kernel, by decide +kernel⟩, List.mem_of_getElem? (i := 519) (by decide +kernel), List.mem_of_getElem? (i := 702) (by decide +kernel), List.mem_of_getElem? (i := 703) (by decide +kernel)⟩
def lw_privs_2 : List (MethodName × Nat) := [(⟨"TopicDeskModel", "reads", "(Z)Z"⟩, 23), (⟨"TopicDeskModel", "raise", "(I)I"⟩, 23), (⟨"TopicDeskModel", "isBound", "(I)Z"⟩, 23), (⟨"TopicDeskModel", "fits", "(I[JII)Z"⟩, 23), (⟨"TopicDeskModel", "first", "(I)I"⟩, 23), (⟨"TopicDeskModel", "moved", "(IIJ)I"⟩, 23), (⟨"TopicDeskModel", "isEnd", "(II)Z"⟩, 23), (⟨"TopicDeskModel", "found", "()I"⟩, 23), (⟨"TopicDeskModel", "fitsKept", "(II)Z"⟩, 23), (⟨"TopicDeskModel", "isAhead", "(II)Z"⟩, 23), (⟨"TopicDeskModel", "fewest", "(IIZ)I"⟩, 23), (⟨"TopicDeskModel", "wordOf", "(III)J"⟩, 23)]
theorem lw_r2 : ∀ q ∈ lw_privs_2, lw_okq q := List.forall_mem_cons.mpr ⟨lw_p16, List.forall_mem_cons.mpr ⟨lw_p17, List.forall_mem_cons.mpr ⟨lw_p18, List.forall_mem_cons.mpr ⟨lw_p19, List.forall_mem_cons.mpr ⟨lw_p20, List.forall_mem_cons.mpr ⟨lw_p21, List.forall_mem_cons.mpr ⟨lw_p22, List.forall_mem_cons.mpr ⟨lw_p23, List.forall_mem_cons.mpr ⟨lw_p24, List.forall_mem_cons.mpr ⟨lw_p25, List.forall_mem_cons.mpr ⟨lw_p26, List.forall_mem_cons.mpr ⟨lw_p27, fun _ h => absurd h List.not_mem_nil⟩⟩⟩⟩⟩⟩⟩⟩⟩⟩⟩⟩
def lw_privs : List (MethodName × Nat) := lw_privs_1 ++ (lw_privs_2)
def lw_tbl : List Cond := k2_sels lw_privs ++ tables_1
theorem lw_privs_ok : ∀ q ∈ lw_privs, lw_okq q := by
  show ∀ q ∈ lw_privs_1 ++ (lw_privs_2), lw_okq q
  exact List.forall_mem_append.mpr ⟨lw_r1, lw_r2⟩
-- ===== names =====
def R_Desk : String := "TopicDesk"
def R_Text : String := "TopicDesk$Text"
def R_Bnd : String := "TopicDesk$Binding"
def R_Kt : String := "TopicDesk$KeptTopic"
def R_Shelf : String := "TopicDesk$Shelf"
def R_Rs : String := "TopicDesk$RowSearch"
def R_Mod : String := "TopicDeskModel"
def R_Arr : String := "java/util/Arrays"
def R_Law : String := "TopicDeskLaw"
def F_Desk : u_T := fun k => match k with
  | 0 => ("TopicDesk", "tape", "LTopicDesk$Text;", true)
  | 1 => ("TopicDesk", "taken", "LTopicDesk$Text;", true)
  | 2 => ("TopicDesk", "bindings", "[LTopicDesk$Binding;", true)
  | 3 => ("TopicDesk", "shelf", "LTopicDesk$Shelf;", true)
  | 4 => ("TopicDesk", "search", "LTopicDesk$RowSearch;", true)
  | _ => ("TopicDesk", "latestFault", "I", false)
def t_Desk : Nat → FieldType := fun k => match k with
  | 0 => .object "TopicDesk$Text"
  | 1 => .object "TopicDesk$Text"
  | 2 => .array (.object "TopicDesk$Binding")
  | 3 => .object "TopicDesk$Shelf"
  | 4 => .object "TopicDesk$RowSearch"
  | _ => .int
def F_Text : u_T := fun k => match k with
  | 0 => ("TopicDesk$Text", "signs", "[B", true)
  | 1 => ("TopicDesk$Text", "parts", "[J", true)
  | 2 => ("TopicDesk$Text", "length", "I", false)
  | _ => ("TopicDesk$Text", "partCount", "I", false)
def t_Text : Nat → FieldType := fun k => match k with
  | 0 => .array .byte
  | 1 => .array .long
  | 2 => .int
  | _ => .int
def F_Bnd : u_T := fun k => match k with
  | 0 => ("TopicDesk$Binding", "pattern", "LTopicDesk$Text;", true)
  | 1 => ("TopicDesk$Binding", "queue", "I", false)
  | _ => ("TopicDesk$Binding", "routed", "I", false)
def t_Bnd : Nat → FieldType := fun k => match k with
  | 0 => .object "TopicDesk$Text"
  | 1 => .int
  | _ => .int
def F_Kt : u_T := fun k => match k with
  | 0 => ("TopicDesk$KeptTopic", "text", "LTopicDesk$Text;", true)
  | _ => ("TopicDesk$KeptTopic", "value", "I", false)
def t_Kt : Nat → FieldType := fun k => match k with
  | 0 => .object "TopicDesk$Text"
  | _ => .int
def F_Shelf : u_T := fun k => match k with
  | 0 => ("TopicDesk$Shelf", "topics", "[LTopicDesk$KeptTopic;", true)
  | _ => ("TopicDesk$Shelf", "size", "I", false)
def t_Shelf : Nat → FieldType := fun k => match k with
  | 0 => .array (.object "TopicDesk$KeptTopic")
  | _ => .int
def F_Rs : u_T := fun k => match k with
  | 0 => ("TopicDesk$RowSearch", "waiting", "[I", true)
  | 1 => ("TopicDesk$RowSearch", "seen", "[J", true)
  | 2 => ("TopicDesk$RowSearch", "words", "[J", true)
  | 3 => ("TopicDesk$RowSearch", "waitingCount", "I", false)
  | _ => ("TopicDesk$RowSearch", "wordCount", "I", false)
def t_Rs : Nat → FieldType := fun k => match k with
  | 0 => .array .int
  | 1 => .array .long
  | 2 => .array .long
  | 3 => .int
  | _ => .int
def F_Mod : u_T := fun k => match k with
  | 0 => ("TopicDeskModel", "thrown", "I", false)
  | 1 => ("TopicDeskModel", "tape", "[I", true)
  | 2 => ("TopicDeskModel", "taped", "I", false)
  | 3 => ("TopicDeskModel", "fault", "I", false)
  | 4 => ("TopicDeskModel", "parts", "[J", true)
  | 5 => ("TopicDeskModel", "partMany", "I", false)
  | 6 => ("TopicDeskModel", "readLong", "I", false)
  | 7 => ("TopicDeskModel", "readText", "[I", true)
  | 8 => ("TopicDeskModel", "queue", "[I", true)
  | 9 => ("TopicDeskModel", "hits", "[I", true)
  | 10 => ("TopicDeskModel", "bound", "[J", true)
  | 11 => ("TopicDeskModel", "boundMany", "[I", true)
  | 12 => ("TopicDeskModel", "boundText", "[I", true)
  | 13 => ("TopicDeskModel", "boundLong", "[I", true)
  | 14 => ("TopicDeskModel", "keptMany", "I", false)
  | 15 => ("TopicDeskModel", "values", "[I", true)
  | 16 => ("TopicDeskModel", "topics", "[J", true)
  | 17 => ("TopicDeskModel", "topicMany", "[I", true)
  | 18 => ("TopicDeskModel", "topicText", "[I", true)
  | 19 => ("TopicDeskModel", "topicLong", "[I", true)
  | 20 => ("TopicDeskModel", "seen", "[I", true)
  | 21 => ("TopicDeskModel", "round", "I", false)
  | _ => ("TopicDeskModel", "row", "[I", true)
def t_Mod : Nat → FieldType := fun k => match k with
  | 0 => .int
  | 1 => .array .int
  | 2 => .int
  | 3 => .int
  | 4 => .array .long
  | 5 => .int
  | 6 => .int
  | 7 => .array .int
  | 8 => .array .int
  | 9 => .array .int
  | 10 => .array .long
  | 11 => .array .int
  | 12 => .array .int
  | 13 => .array .int
  | 14 => .int
  | 15 => .array .int
  | 16 => .array .long
  | 17 => .array .int
  | 18 => .array .int
  | 19 => .array .int
  | 20 => .array .int
  | 21 => .int
  | _ => .array .int
abbrev vwCl : List vw_C := [(R_Desk, F_Desk, 6), (R_Text, F_Text, 4), (R_Bnd, F_Bnd, 3), (R_Kt, F_Kt, 2), (R_Shelf, F_Shelf, 2), (R_Rs, F_Rs, 5), (R_Mod, F_Mod, 23)]
def BIG : List Cond := lw_tbl.filter goodWord
/-- what else of the tables a call hands on -/
def mX (U : State) : Prop := va_AO R_Bnd U ∧ va_AO R_Kt U
theorem mX.warm {s U : State} (hW : s.WarmedH U.vm) (h : mX s) : mX U := ⟨h.1.moved hW.alike, h.2.moved hW.alike⟩
theorem mX.calling {U : State} {g : JFrame} {mk : MethodId} {a : Array Value} (h : mX U) : mX (U.calling g mk a) := ⟨h.1.moved (Vm.Alike.refl U.vm), h.2.moved (Vm.Alike.refl U.vm)⟩
abbrev tysG (g : Nat → ClassId) : List (ClassId × FieldType) := [(g 0, .byte), (g 1, .long), (g 2, .int), (g 3, .object "TopicDesk$Binding"), (g 4, .object "TopicDesk$KeptTopic")]
end
section
/-! A memory as a function: what the world holds at an address. Rows over it, out of the kit's rows over lists. -/
abbrev Mem : Type := Nat → Option va_E
def mup (M : Mem) (a : Nat) (e : va_E) : Mem := fun q => if q = a then some e else M q
theorem mup_self {M : Mem} {a : Nat} {e : va_E} : mup M a e a = some e := by simp [mup]
theorem mup_ne {M : Mem} {a b : Nat} {e : va_E} (h : b ≠ a) : mup M a e b = M b := by simp [mup, h]
def mRep (M : Mem) (ws : va_W) : Prop := ∀ (a : Nat) (e : va_E), M a = some e ↔ ∃ k : Nat, ws[k]? = some (a, e)
def mW (D : va_G) (cl : List vw_C) (A : Nat → Prop) (M : Mem) (H : Heap) : Prop := ∃ ws : va_W, mRep M ws ∧ va_P D cl ws H ∧ va_D A ws
def mA (M : Mem) (sz : Nat) : Nat → Prop := fun q => (∃ e : va_E, M q = some e) ∨ sz ≤ q
theorem mA_of {M : Mem} {ws : va_W} (h : mRep M ws) {sz q : Nat} (hq : va_A ws sz q) : mA M sz q := by
  rcases hq with ⟨k, e, hk⟩ | hq
  · exact Or.inl ⟨e, (h q e).mpr ⟨k, hk⟩⟩
  · exact Or.inr hq
theorem mRep.set {A : Nat → Prop} {M : Mem} {ws : va_W} (h : mRep M ws) (hD : va_D A ws) {k a : Nat} {e e' : va_E} (hk : ws[k]? = some (a, e)) : mRep (mup M a e') (ws.set k (a, e')) := by
  have hl := (List.getElem?_eq_some_iff.mp hk).1
  intro q x
  by_cases hq : q = a
  · subst hq
    rw [mup_self]
    constructor
    · intro hx
      exact ⟨k, by rw [List.getElem?_set_self hl, Option.some.inj hx]⟩
    · rintro ⟨j, hj⟩
      by_cases hjk : j = k
      · subst hjk
        rw [List.getElem?_set_self hl] at hj
        exact congrArg some (congrArg Prod.snd (Option.some.inj hj))
      · rw [List.getElem?_set_ne (Ne.symm hjk)] at hj
        exact absurd (hD.1 j k _ _ hj hk rfl) hjk
  · rw [mup_ne hq, h q x]
    constructor
    · rintro ⟨j, hj⟩
      have hjk : j ≠ k := fun z => hq (by subst z; rw [hk] at hj; exact (congrArg Prod.fst (Option.some.inj hj)).symm)
      exact ⟨j, by rw [List.getElem?_set_ne (Ne.symm hjk)]; exact hj⟩
    · rintro ⟨j, hj⟩
      by_cases hjk : j = k
      · subst hjk
        rw [List.getElem?_set_self hl] at hj
        exact absurd (congrArg Prod.fst (Option.some.inj hj)).symm hq
      · rw [List.getElem?_set_ne (Ne.symm hjk)] at hj
        exact ⟨j, hj⟩
theorem mRep.fresh {A : Nat → Prop} {M : Mem} {ws : va_W} (h : mRep M ws) {q : Nat} {e : va_E} (hD : va_D A (ws ++ [(q, e)])) : M q = none := by
  cases hM : M q with
  | none => rfl
  | some x =>
    obtain ⟨k, hk⟩ := (h q x).mp hM
    have hl := (List.getElem?_eq_some_iff.mp hk).1
    have h1 : (ws ++ [(q, e)])[k]? = some (q, x) := by rw [List.getElem?_append_left hl]; exact hk
    have h2 : (ws ++ [(q, e)])[ws.length]? = some (q, e) := by rw [List.getElem?_append_right (Nat.le_refl _), Nat.sub_self]; rfl
    have := hD.1 k ws.length _ _ h1 h2 rfl
    omega
theorem mRep.push {M : Mem} {ws : va_W} (h : mRep M ws) {q : Nat} {e : va_E} (hq : M q = none) : mRep (mup M q e) (ws ++ [(q, e)]) := by
  intro b x
  have h2 : (ws ++ [(q, e)])[ws.length]? = some (q, e) := by rw [List.getElem?_append_right (Nat.le_refl _), Nat.sub_self]; rfl
  have key : ∀ k : Nat, (ws ++ [(q, e)])[k]? = some (b, x) → ws[k]? = some (b, x) ∨ (q, e) = (b, x) := by
    intro k hk
    rcases List.mem_append.mp (List.mem_of_getElem? hk) with hm | hm
    · by_cases hl : k < ws.length
      · rw [List.getElem?_append_left hl] at hk; exact Or.inl hk
      · rw [List.getElem?_append_right (by omega)] at hk
        exact Or.inr (List.mem_singleton.mp (List.mem_of_getElem? hk)).symm
    · exact Or.inr (List.mem_singleton.mp hm).symm
  by_cases hb : b = q
  · subst hb
    rw [mup_self]
    constructor
    · intro hx
      exact ⟨ws.length, by rw [h2, Option.some.inj hx]⟩
    · rintro ⟨k, hk⟩
      rcases key k hk with h3 | h3
      · have := (h b x).mpr ⟨k, h3⟩
        rw [hq] at this
        cases this
      · exact congrArg some (congrArg Prod.snd h3)
  · rw [mup_ne hb, h b x]
    constructor
    · rintro ⟨k, hk⟩
      have hl := (List.getElem?_eq_some_iff.mp hk).1
      exact ⟨k, by rw [List.getElem?_append_left hl]; exact hk⟩
    · rintro ⟨k, hk⟩
      rcases key k hk with h3 | h3
      · exact ⟨k, h3⟩
      · exact absurd (congrArg Prod.fst h3).symm hb
theorem mW.weaken {D : va_G} {cl : List vw_C} {A B : Nat → Prop} {M : Mem} {H : Heap} (h : mW D cl A M H) (hAB : ∀ q, A q → B q) : mW D cl B M H := by
  obtain ⟨ws, h1, h2, h3⟩ := h
  exact ⟨ws, h1, h2, h3.weaken (fun _ _ _ z => hAB _ z)⟩
theorem mW.self {D : va_G} {cl : List vw_C} {A : Nat → Prop} {M : Mem} {H : Heap} (h : mW D cl A M H) (sz : Nat) : mW D cl (mA M sz) M H := by
  obtain ⟨ws, h1, h2, h3⟩ := h
  exact ⟨ws, h1, h2, (h3.self (sz := sz)).weaken (fun _ _ _ z => mA_of h1 z)⟩
theorem mW.inA {D : va_G} {cl : List vw_C} {A : Nat → Prop} {M : Mem} {H : Heap} (h : mW D cl A M H) {q : Nat} {e : va_E} (hq : M q = some e) : A q := by
  obtain ⟨ws, h1, h2, h3⟩ := h
  obtain ⟨k, hk⟩ := (h1 q e).mp hq
  exact h3.2 k _ hk
/-! reads and writes, as partial functions -/
def gV (M : Mem) (ci a k : Nat) : Option Value := match M a with
  | some (.inr (c, fs)) => if c = ci then fs[k]? else none
  | _ => none
def gI (M : Mem) (ci a k : Nat) : Option Int32 := match gV M ci a k with
  | some (.int x) => some x
  | _ => none
def gL (M : Mem) (ci a k : Nat) : Option Int64 := match gV M ci a k with
  | some (.long x) => some x
  | _ => none
def gR (M : Mem) (ci a k : Nat) : Option Nat := match gV M ci a k with
  | some (.ref x) => some x
  | _ => none
def pV (M : Mem) (ci a k : Nat) (v : Value) : Option Mem := match M a with
  | some (.inr (c, fs)) => if c = ci ∧ k < fs.length then some (mup M a (.inr (ci, fs.set k v))) else none
  | _ => none
def isO (M : Mem) (ci a : Nat) : Prop := ∃ fs : List Value, M a = some (.inr (ci, fs))
def aN (M : Mem) (cA : ClassId) (a : Nat) : Option Nat := match M a with
  | some (.inl (c, n, _)) => if c = cA then some n else none
  | _ => none
def aI (M : Mem) (cA : ClassId) (a : Nat) (i : Int32) : Option Int32 := match M a with
  | some (.inl (c, n, .inl f)) => if c = cA ∧ ¬ (i < 0 ∨ n ≤ i.toNatClampNeg) then some (f i.toNatClampNeg) else none
  | _ => none
def aL (M : Mem) (cA : ClassId) (a : Nat) (i : Int32) : Option Int64 := match M a with
  | some (.inl (c, n, .inr (.inl f))) => if c = cA ∧ ¬ (i < 0 ∨ n ≤ i.toNatClampNeg) then some (f i.toNatClampNeg) else none
  | _ => none
def aQ (M : Mem) (cA : ClassId) (a : Nat) (i : Int32) : Option (Option Nat) := match M a with
  | some (.inl (c, n, .inr (.inr (.inr (.inr f))))) => if c = cA ∧ ¬ (i < 0 ∨ n ≤ i.toNatClampNeg) then some (f i.toNatClampNeg) else none
  | _ => none
def sI (M : Mem) (cA : ClassId) (a : Nat) (i x : Int32) : Option Mem := match M a with
  | some (.inl (c, n, .inl f)) => if c = cA ∧ ¬ (i < 0 ∨ n ≤ i.toNatClampNeg) then some (mup M a (.inl (cA, n, .inl (upd f i.toNatClampNeg x)))) else none
  | _ => none
def sL (M : Mem) (cA : ClassId) (a : Nat) (i : Int32) (x : Int64) : Option Mem := match M a with
  | some (.inl (c, n, .inr (.inl f))) => if c = cA ∧ ¬ (i < 0 ∨ n ≤ i.toNatClampNeg) then some (mup M a (.inl (cA, n, .inr (.inl (vp_updL f i.toNatClampNeg x))))) else none
  | _ => none
def sR (M : Mem) (cA : ClassId) (a : Nat) (i : Int32) (v : Nat) : Option Mem := match M a with
  | some (.inl (c, n, .inr (.inr (.inr (.inr f))))) => if c = cA ∧ ¬ (i < 0 ∨ n ≤ i.toNatClampNeg) then some (mup M a (.inl (cA, n, .inr (.inr (.inr (.inr (va_up f i.toNatClampNeg (some v)))))))) else none
  | _ => none
theorem gV_spec {M : Mem} {ci a k : Nat} {v : Value} (h : gV M ci a k = some v) : ∃ fs : List Value, M a = some (.inr (ci, fs)) ∧ fs[k]? = some v := by
  unfold gV at h
  split at h
  · rename_i c fs he
    split at h
    · rename_i hc; subst hc; exact ⟨fs, he, h⟩
    · cases h
  · cases h
theorem gI_spec {M : Mem} {ci a k : Nat} {x : Int32} (h : gI M ci a k = some x) : gV M ci a k = some (.int x) := by
  unfold gI at h
  split at h
  · rename_i y he; cases h; exact he
  · cases h
theorem gL_spec {M : Mem} {ci a k : Nat} {x : Int64} (h : gL M ci a k = some x) : gV M ci a k = some (.long x) := by
  unfold gL at h
  split at h
  · rename_i y he; cases h; exact he
  · cases h
theorem gR_spec {M : Mem} {ci a k : Nat} {x : Nat} (h : gR M ci a k = some x) : gV M ci a k = some (.ref x) := by
  unfold gR at h
  split at h
  · rename_i y he; cases h; exact he
  · cases h
theorem pV_spec {M M' : Mem} {ci a k : Nat} {v : Value} (h : pV M ci a k v = some M') : ∃ fs : List Value, M a = some (.inr (ci, fs)) ∧ k < fs.length ∧ M' = mup M a (.inr (ci, fs.set k v)) := by
  unfold pV at h
  split at h
  · rename_i c fs he
    split at h
    · rename_i hc; obtain ⟨rfl, hk⟩ := hc; cases h; exact ⟨fs, he, hk, rfl⟩
    · cases h
  · cases h
theorem aN_spec {M : Mem} {cA : ClassId} {a n : Nat} (h : aN M cA a = some n) : ∃ f, M a = some (.inl (cA, n, f)) := by
  unfold aN at h
  split at h
  · rename_i c n' f he
    split at h
    · rename_i hc; subst hc; cases h; exact ⟨f, he⟩
    · cases h
  · cases h
theorem aI_spec {M : Mem} {cA : ClassId} {a : Nat} {i x : Int32} (h : aI M cA a i = some x) : ∃ (n : Nat) (f : Nat → Int32), M a = some (.inl (cA, n, .inl f)) ∧ vp_in i n ∧ f i.toNatClampNeg = x := by
  unfold aI at h
  split at h
  · rename_i c n f he
    split at h
    · rename_i hc; obtain ⟨rfl, hk⟩ := hc; cases h; exact ⟨n, f, he, hk, rfl⟩
    · cases h
  · cases h
theorem aL_spec {M : Mem} {cA : ClassId} {a : Nat} {i : Int32} {x : Int64} (h : aL M cA a i = some x) : ∃ (n : Nat) (f : Nat → Int64), M a = some (.inl (cA, n, .inr (.inl f))) ∧ vp_in i n ∧ f i.toNatClampNeg = x := by
  unfold aL at h
  split at h
  · rename_i c n f he
    split at h
    · rename_i hc; obtain ⟨rfl, hk⟩ := hc; cases h; exact ⟨n, f, he, hk, rfl⟩
    · cases h
  · cases h
theorem aQ_spec {M : Mem} {cA : ClassId} {a : Nat} {i : Int32} {x : Option Nat} (h : aQ M cA a i = some x) : ∃ (n : Nat) (f : Nat → Option Nat), M a = some (.inl (cA, n, .inr (.inr (.inr (.inr f))))) ∧ vp_in i n ∧ f i.toNatClampNeg = x := by
  unfold aQ at h
  split at h
  · rename_i c n f he
    split at h
    · rename_i hc; obtain ⟨rfl, hk⟩ := hc; cases h; exact ⟨n, f, he, hk, rfl⟩
    · cases h
  · cases h
theorem sI_spec {M M' : Mem} {cA : ClassId} {a : Nat} {i x : Int32} (h : sI M cA a i x = some M') : ∃ (n : Nat) (f : Nat → Int32), M a = some (.inl (cA, n, .inl f)) ∧ vp_in i n ∧ M' = mup M a (.inl (cA, n, .inl (upd f i.toNatClampNeg x))) := by
  unfold sI at h
  split at h
  · rename_i c n f he
    split at h
    · rename_i hc; obtain ⟨rfl, hk⟩ := hc; cases h; exact ⟨n, f, he, hk, rfl⟩
    · cases h
  · cases h
theorem sL_spec {M M' : Mem} {cA : ClassId} {a : Nat} {i : Int32} {x : Int64} (h : sL M cA a i x = some M') : ∃ (n : Nat) (f : Nat → Int64), M a = some (.inl (cA, n, .inr (.inl f))) ∧ vp_in i n ∧ M' = mup M a (.inl (cA, n, .inr (.inl (vp_updL f i.toNatClampNeg x)))) := by
  unfold sL at h
  split at h
  · rename_i c n f he
    split at h
    · rename_i hc; obtain ⟨rfl, hk⟩ := hc; cases h; exact ⟨n, f, he, hk, rfl⟩
    · cases h
  · cases h
theorem sR_spec {M M' : Mem} {cA : ClassId} {a v : Nat} {i : Int32} (h : sR M cA a i v = some M') : ∃ (n : Nat) (f : Nat → Option Nat), M a = some (.inl (cA, n, .inr (.inr (.inr (.inr f))))) ∧ vp_in i n ∧ M' = mup M a (.inl (cA, n, .inr (.inr (.inr (.inr (va_up f i.toNatClampNeg (some v))))))) := by
  unfold sR at h
  split at h
  · rename_i c n f he
    split at h
    · rename_i hc; obtain ⟨rfl, hk⟩ := hc; cases h; exact ⟨n, f, he, hk, rfl⟩
    · cases h
  · cases h
end
section
/-! rows over a memory -/
def Cx (p : Program) (s : State) (m : MethodId) (args : Array Value) (c : Code) (cc : ByteArray) (nL : Nat) (own : String) (Ts : List Cond) (D : va_G) (cl : List vw_C) (tys : List (ClassId × FieldType)) (A : Nat → Prop) : Prop :=
  p.tables.exec = Jvm.exec ∧ c.code = cc ∧ c.maxLocals = nL ∧ s.vm.findClass own = some m.cls ∧ (∀ w ∈ Ts, w.before args s = true) ∧ va_K D cl tys s ∧ (∀ q, s.heap.size ≤ q → A q) ∧ mX s
def clsOk (cl : List vw_C) (Ts : List Cond) (ci : Nat) (Cn : String) (T : u_T) (N : Nat) (ty0 : Nat → FieldType) : Prop :=
  cl[ci]? = some (Cn, T, N) ∧ (∀ w ∈ u_ws Cn T N, w ∈ Ts) ∧ (∀ k, k < N → parseFieldDescriptor (T k).2.2.1 = some (ty0 k)) ∧ ∀ a, a < N → ∀ b, b < N → a ≠ b → (T a).2.1 ≠ (T b).2.1
theorem RA_inj {U : State} {c1 c2 : ClassId} {ty : FieldType} (h1 : va_RA U c1 ty) (h2 : va_RA U c2 ty) : c1 = c2 := by
  cases ty with
  | object C =>
    obtain ⟨_, _, _, _, _, a⟩ := h1
    obtain ⟨_, _, _, _, _, b⟩ := h2
    exact Option.some.inj (a.symm.trans b)
  | _ => exact Option.some.inj ((show U.vm.findClass _ = some c1 from h1).symm.trans (show U.vm.findClass _ = some c2 from h2))
section MROWS
variable {p : Program} {l : Launch} {e : Env} {R : Room} {s : State} {m : MethodId} {args : Array Value} {below : List Frame} {meth : Method} {c : Code} {H : Heap} {locs : List Loc} {cells slots : Nat} {Q : State → Prop}
variable {cc : ByteArray} {nL pc : Nat} {own : String} {Ts : List Cond} {ls : Array Slot} {rest : List Value} {D : va_G} {cl : List vw_C} {tys : List (ClassId × FieldType)} {A : Nat → Prop} {M M' : Mem} {a : Nat}
theorem mg_V (C : Cx p s m args c cc nL own Ts D cl tys A) (hM : mW D cl A M H) {ci N k index : Nat} {Cn : String} {T : u_T} {ty0 : Nat → FieldType} (hc : clsOk cl Ts ci Cn T N ty0) (hk : k < N) (hlk : Cond.fieldLink own index (T k).1 (T k).2.1 (T k).2.2.1 ∈ Ts) {v : Value} (h : gV M ci a k = some v) (hdg : decode cc pc = .ok (.getfield index, 3))
    (kk : W p l e R s m args below meth c H locs cells slots Q (F0 m (pc + 3) ls (v :: rest))) : W p l e R s m args below meth c H locs cells slots Q (F0 m pc ls (.ref a :: rest)) := by
  obtain ⟨hx, hb, hml, hown, hts, hK, hA, hX⟩ := C
  obtain ⟨ws, hr, hP, hD⟩ := hM
  obtain ⟨fs, he, hv⟩ := gV_spec h
  obtain ⟨q0, hq⟩ := (hr a _).mp he
  exact va_get hx hb hts hc.2.1 hown hK hP q0 hq hc.1 k hk (hts _ hlk) (fun _ z => z) hv hdg kk
theorem mg_I (C : Cx p s m args c cc nL own Ts D cl tys A) (hM : mW D cl A M H) {ci N k index : Nat} {Cn : String} {T : u_T} {ty0 : Nat → FieldType} (hc : clsOk cl Ts ci Cn T N ty0) (hk : k < N) (hlk : Cond.fieldLink own index (T k).1 (T k).2.1 (T k).2.2.1 ∈ Ts) {x : Int32} (h : gI M ci a k = some x) (hdg : decode cc pc = .ok (.getfield index, 3))
    (kk : W p l e R s m args below meth c H locs cells slots Q (F0 m (pc + 3) ls (.int x :: rest))) : W p l e R s m args below meth c H locs cells slots Q (F0 m pc ls (.ref a :: rest)) := mg_V C hM hc hk hlk (gI_spec h) hdg kk
theorem mg_L (C : Cx p s m args c cc nL own Ts D cl tys A) (hM : mW D cl A M H) {ci N k index : Nat} {Cn : String} {T : u_T} {ty0 : Nat → FieldType} (hc : clsOk cl Ts ci Cn T N ty0) (hk : k < N) (hlk : Cond.fieldLink own index (T k).1 (T k).2.1 (T k).2.2.1 ∈ Ts) {x : Int64} (h : gL M ci a k = some x) (hdg : decode cc pc = .ok (.getfield index, 3))
    (kk : W p l e R s m args below meth c H locs cells slots Q (F0 m (pc + 3) ls (.long x :: rest))) : W p l e R s m args below meth c H locs cells slots Q (F0 m pc ls (.ref a :: rest)) := mg_V C hM hc hk hlk (gL_spec h) hdg kk
theorem mg_R (C : Cx p s m args c cc nL own Ts D cl tys A) (hM : mW D cl A M H) {ci N k index : Nat} {Cn : String} {T : u_T} {ty0 : Nat → FieldType} (hc : clsOk cl Ts ci Cn T N ty0) (hk : k < N) (hlk : Cond.fieldLink own index (T k).1 (T k).2.1 (T k).2.2.1 ∈ Ts) {x : Nat} (h : gR M ci a k = some x) (hdg : decode cc pc = .ok (.getfield index, 3))
    (kk : W p l e R s m args below meth c H locs cells slots Q (F0 m (pc + 3) ls (.ref x :: rest))) : W p l e R s m args below meth c H locs cells slots Q (F0 m pc ls (.ref a :: rest)) := mg_V C hM hc hk hlk (gR_spec h) hdg kk
theorem mp_V (C : Cx p s m args c cc nL own Ts D cl tys A) (hM : mW D cl A M H) (hS : va_S A s.heap H locs) {ci N k index : Nat} {Cn : String} {T : u_T} {ty0 : Nat → FieldType} (hc : clsOk cl Ts ci Cn T N ty0) (hk : k < N) (hlk : Cond.fieldLink own index (T k).1 (T k).2.1 (T k).2.2.1 ∈ Ts) (hfin : (T k).2.2.2 = false) {v : Value} (hn : narrow (ty0 k) v = v) (hfit : fits (ty0 k) v = true) (h : pV M ci a k v = some M') (hdg : decode cc pc = .ok (.putfield index, 3))
    (kk : ∀ (H1 : Heap) (locs1 : List Loc), mW D cl A M' H1 → va_S A s.heap H1 locs1 → W p l e R s m args below meth c H1 locs1 cells slots Q (F0 m (pc + 3) ls rest)) : W p l e R s m args below meth c H locs cells slots Q (F0 m pc ls (v :: .ref a :: rest)) := by
  obtain ⟨hx, hb, hml, hown, hts, hK, hA, hX⟩ := C
  obtain ⟨ws, hr, hP, hD⟩ := hM
  obtain ⟨fs, he, hkl, rfl⟩ := pV_spec h
  obtain ⟨q0, hq⟩ := (hr a _).mp he
  exact va_put hx hb hts hc.2.1 ty0 hc.2.2.1 hc.2.2.2 hown hK hP hD hS q0 hq hc.1 k hk (hts _ hlk) (fun _ z => z) hfin (hc.2.2.1 k hk) hn hfit hkl hdg (fun H1 locs1 hP1 hD1 hS1 => kk H1 locs1 ⟨_, hr.set hD hq, hP1, hD1⟩ hS1)
theorem mp_F (C : Cx p s m args c cc nL own Ts D cl tys A) (hM : mW D cl A M H) (hS : va_S A s.heap H locs) (hin2 : meth.name = "<init>") {ci N k index : Nat} {Cn : String} {T : u_T} {ty0 : Nat → FieldType} (hc : clsOk cl Ts ci Cn T N ty0) (hk : k < N) (hlk : Cond.fieldLink own index (T k).1 (T k).2.1 (T k).2.2.1 ∈ Ts) (hfin : (T k).2.2.2 = true) (hdecl : (T k).1 = own) {v : Value} (hn : narrow (ty0 k) v = v) (hfit : fits (ty0 k) v = true) (h : pV M ci a k v = some M') (hdg : decode cc pc = .ok (.putfield index, 3))
    (kk : ∀ (H1 : Heap) (locs1 : List Loc), mW D cl A M' H1 → va_S A s.heap H1 locs1 → W p l e R s m args below meth c H1 locs1 cells slots Q (F0 m (pc + 3) ls rest)) : W p l e R s m args below meth c H locs cells slots Q (F0 m pc ls (v :: .ref a :: rest)) := by
  obtain ⟨hx, hb, hml, hown, hts, hK, hA, hX⟩ := C
  obtain ⟨ws, hr, hP, hD⟩ := hM
  obtain ⟨fs, he, hkl, rfl⟩ := pV_spec h
  obtain ⟨q0, hq⟩ := (hr a _).mp he
  exact va_putF hx hb hts hc.2.1 ty0 hc.2.2.1 hc.2.2.2 hown hK hP hD hS q0 hq hc.1 k hk (hts _ hlk) (fun _ z => z) hfin hin2 hdecl (hc.2.2.1 k hk) hn hfit hkl hdg (fun H1 locs1 hP1 hD1 hS1 => kk H1 locs1 ⟨_, hr.set hD hq, hP1, hD1⟩ hS1)
theorem ma_I (C : Cx p s m args c cc nL own Ts D cl tys A) (hM : mW D cl A M H) {cA : ClassId} (t0 : Nat) (ht : tys[t0]? = some (cA, .int)) {i x : Int32} (h : aI M cA a i = some x) (hdg : decode cc pc = .ok (.iaload, 1))
    (kk : W p l e R s m args below meth c H locs cells slots Q (F0 m (pc + 1) ls (.int x :: rest))) : W p l e R s m args below meth c H locs cells slots Q (F0 m pc ls (.int i :: .ref a :: rest)) := by
  obtain ⟨hx, hb, hml, hown, hts, hK, hA, hX⟩ := C
  obtain ⟨ws, hr, hP, hD⟩ := hM
  obtain ⟨n, f, he, hin, rfl⟩ := aI_spec h
  obtain ⟨q0, hq⟩ := (hr a _).mp he
  exact va_iald hx hb hK hP q0 t0 hq ht hin hdg kk
theorem ma_B (C : Cx p s m args c cc nL own Ts D cl tys A) (hM : mW D cl A M H) {cA : ClassId} (t0 : Nat) (ht : tys[t0]? = some (cA, .byte)) {i x : Int32} (h : aI M cA a i = some x) (hdg : decode cc pc = .ok (.baload, 1))
    (kk : W p l e R s m args below meth c H locs cells slots Q (F0 m (pc + 1) ls (.int x :: rest))) : W p l e R s m args below meth c H locs cells slots Q (F0 m pc ls (.int i :: .ref a :: rest)) := by
  obtain ⟨hx, hb, hml, hown, hts, hK, hA, hX⟩ := C
  obtain ⟨ws, hr, hP, hD⟩ := hM
  obtain ⟨n, f, he, hin, rfl⟩ := aI_spec h
  obtain ⟨q0, hq⟩ := (hr a _).mp he
  exact va_bald hx hb hK hP q0 t0 hq ht hin hdg kk
theorem ma_Z (C : Cx p s m args c cc nL own Ts D cl tys A) (hM : mW D cl A M H) {cA : ClassId} (t0 : Nat) (ht : tys[t0]? = some (cA, .boolean)) {i x : Int32} (h : aI M cA a i = some x) (hdg : decode cc pc = .ok (.baload, 1))
    (kk : W p l e R s m args below meth c H locs cells slots Q (F0 m (pc + 1) ls (.int x :: rest))) : W p l e R s m args below meth c H locs cells slots Q (F0 m pc ls (.int i :: .ref a :: rest)) := by
  obtain ⟨hx, hb, hml, hown, hts, hK, hA, hX⟩ := C
  obtain ⟨ws, hr, hP, hD⟩ := hM
  obtain ⟨n, f, he, hin, rfl⟩ := aI_spec h
  obtain ⟨q0, hq⟩ := (hr a _).mp he
  exact va_zald hx hb hK hP q0 t0 hq ht hin hdg kk
theorem ma_L (C : Cx p s m args c cc nL own Ts D cl tys A) (hM : mW D cl A M H) {cA : ClassId} (t0 : Nat) (ht : tys[t0]? = some (cA, .long)) {i : Int32} {x : Int64} (h : aL M cA a i = some x) (hdg : decode cc pc = .ok (.laload, 1))
    (kk : W p l e R s m args below meth c H locs cells slots Q (F0 m (pc + 1) ls (.long x :: rest))) : W p l e R s m args below meth c H locs cells slots Q (F0 m pc ls (.int i :: .ref a :: rest)) := by
  obtain ⟨hx, hb, hml, hown, hts, hK, hA, hX⟩ := C
  obtain ⟨ws, hr, hP, hD⟩ := hM
  obtain ⟨n, f, he, hin, rfl⟩ := aL_spec h
  obtain ⟨q0, hq⟩ := (hr a _).mp he
  exact va_lald hx hb hK hP q0 t0 hq ht hin hdg kk
theorem ma_R (C : Cx p s m args c cc nL own Ts D cl tys A) (hM : mW D cl A M H) {cA : ClassId} {E : String} (t0 : Nat) (ht : tys[t0]? = some (cA, .object E)) {i : Int32} {x : Nat} (h : aQ M cA a i = some (some x)) (hdg : decode cc pc = .ok (.aaload, 1))
    (kk : W p l e R s m args below meth c H locs cells slots Q (F0 m (pc + 1) ls (.ref x :: rest))) : W p l e R s m args below meth c H locs cells slots Q (F0 m pc ls (.int i :: .ref a :: rest)) := by
  obtain ⟨hx, hb, hml, hown, hts, hK, hA, hX⟩ := C
  obtain ⟨ws, hr, hP, hD⟩ := hM
  obtain ⟨n, f, he, hin, hf⟩ := aQ_spec h
  obtain ⟨q0, hq⟩ := (hr a _).mp he
  exact va_aldq hx hb hK hP q0 t0 hq ht hin hdg (by rw [hf]; exact kk)
theorem ma_N (C : Cx p s m args c cc nL own Ts D cl tys A) (hM : mW D cl A M H) {cA : ClassId} {ty : FieldType} {n : Nat} (t0 : Nat) (ht : tys[t0]? = some (cA, ty)) (h : aN M cA a = some n) (hdg : decode cc pc = .ok (.arraylength, 1))
    (kk : W p l e R s m args below meth c H locs cells slots Q (F0 m (pc + 1) ls (.int (nI n) :: rest))) : W p l e R s m args below meth c H locs cells slots Q (F0 m pc ls (.ref a :: rest)) := by
  obtain ⟨hx, hb, hml, hown, hts, hK, hA, hX⟩ := C
  obtain ⟨ws, hr, hP, hD⟩ := hM
  obtain ⟨f, he⟩ := aN_spec h
  obtain ⟨q0, hq⟩ := (hr a _).mp he
  exact va_alen hx hb hK hP q0 t0 hq ht rfl hdg kk
theorem ms_I (C : Cx p s m args c cc nL own Ts D cl tys A) (hM : mW D cl A M H) (hS : va_S A s.heap H locs) {cA : ClassId} (t0 : Nat) (ht : tys[t0]? = some (cA, .int)) {i x : Int32} (h : sI M cA a i x = some M') (hdg : decode cc pc = .ok (.iastore, 1))
    (kk : ∀ (H1 : Heap) (locs1 : List Loc), mW D cl A M' H1 → va_S A s.heap H1 locs1 → W p l e R s m args below meth c H1 locs1 cells slots Q (F0 m (pc + 1) ls rest)) : W p l e R s m args below meth c H locs cells slots Q (F0 m pc ls (.int x :: .int i :: .ref a :: rest)) := by
  obtain ⟨hx, hb, hml, hown, hts, hK, hA, hX⟩ := C
  obtain ⟨ws, hr, hP, hD⟩ := hM
  obtain ⟨n, f, he, hin, rfl⟩ := sI_spec h
  obtain ⟨q0, hq⟩ := (hr a _).mp he
  exact va_iast hx hb hK hP hD hS q0 t0 hq ht hin hdg (fun H1 locs1 hP1 hD1 hS1 => kk H1 locs1 ⟨_, hr.set hD hq, hP1, hD1⟩ hS1)
theorem ms_B (C : Cx p s m args c cc nL own Ts D cl tys A) (hM : mW D cl A M H) (hS : va_S A s.heap H locs) {cA : ClassId} (t0 : Nat) (ht : tys[t0]? = some (cA, .byte)) {i x : Int32} (h : sI M cA a i (vp_nar .byte x) = some M') (hdg : decode cc pc = .ok (.bastore, 1))
    (kk : ∀ (H1 : Heap) (locs1 : List Loc), mW D cl A M' H1 → va_S A s.heap H1 locs1 → W p l e R s m args below meth c H1 locs1 cells slots Q (F0 m (pc + 1) ls rest)) : W p l e R s m args below meth c H locs cells slots Q (F0 m pc ls (.int x :: .int i :: .ref a :: rest)) := by
  obtain ⟨hx, hb, hml, hown, hts, hK, hA, hX⟩ := C
  obtain ⟨ws, hr, hP, hD⟩ := hM
  obtain ⟨n, f, he, hin, rfl⟩ := sI_spec h
  obtain ⟨q0, hq⟩ := (hr a _).mp he
  exact va_bast hx hb hK hP hD hS q0 t0 hq ht hin hdg (fun H1 locs1 hP1 hD1 hS1 => kk H1 locs1 ⟨_, hr.set hD hq, hP1, hD1⟩ hS1)
theorem ms_Z (C : Cx p s m args c cc nL own Ts D cl tys A) (hM : mW D cl A M H) (hS : va_S A s.heap H locs) {cA : ClassId} (t0 : Nat) (ht : tys[t0]? = some (cA, .boolean)) {i x : Int32} (h : sI M cA a i (vp_nar .boolean x) = some M') (hdg : decode cc pc = .ok (.bastore, 1))
    (kk : ∀ (H1 : Heap) (locs1 : List Loc), mW D cl A M' H1 → va_S A s.heap H1 locs1 → W p l e R s m args below meth c H1 locs1 cells slots Q (F0 m (pc + 1) ls rest)) : W p l e R s m args below meth c H locs cells slots Q (F0 m pc ls (.int x :: .int i :: .ref a :: rest)) := by
  obtain ⟨hx, hb, hml, hown, hts, hK, hA, hX⟩ := C
  obtain ⟨ws, hr, hP, hD⟩ := hM
  obtain ⟨n, f, he, hin, rfl⟩ := sI_spec h
  obtain ⟨q0, hq⟩ := (hr a _).mp he
  exact va_zast hx hb hK hP hD hS q0 t0 hq ht hin hdg (fun H1 locs1 hP1 hD1 hS1 => kk H1 locs1 ⟨_, hr.set hD hq, hP1, hD1⟩ hS1)
theorem ms_L (C : Cx p s m args c cc nL own Ts D cl tys A) (hM : mW D cl A M H) (hS : va_S A s.heap H locs) {cA : ClassId} (t0 : Nat) (ht : tys[t0]? = some (cA, .long)) {i : Int32} {x : Int64} (h : sL M cA a i x = some M') (hdg : decode cc pc = .ok (.lastore, 1))
    (kk : ∀ (H1 : Heap) (locs1 : List Loc), mW D cl A M' H1 → va_S A s.heap H1 locs1 → W p l e R s m args below meth c H1 locs1 cells slots Q (F0 m (pc + 1) ls rest)) : W p l e R s m args below meth c H locs cells slots Q (F0 m pc ls (.long x :: .int i :: .ref a :: rest)) := by
  obtain ⟨hx, hb, hml, hown, hts, hK, hA, hX⟩ := C
  obtain ⟨ws, hr, hP, hD⟩ := hM
  obtain ⟨n, f, he, hin, rfl⟩ := sL_spec h
  obtain ⟨q0, hq⟩ := (hr a _).mp he
  exact va_last hx hb hK hP hD hS q0 t0 hq ht hin hdg (fun H1 locs1 hP1 hD1 hS1 => kk H1 locs1 ⟨_, hr.set hD hq, hP1, hD1⟩ hS1)
theorem ms_R (C : Cx p s m args c cc nL own Ts D cl tys A) (hM : mW D cl A M H) (hS : va_S A s.heap H locs) {cA : ClassId} {r : vw_C} {ci v : Nat} (t0 : Nat) (ht : tys[t0]? = some (cA, .object r.1)) (hc : cl[ci]? = some r) (ho : isO M ci v) {i : Int32} (h : sR M cA a i v = some M') (hdg : decode cc pc = .ok (.aastore, 1))
    (kk : ∀ (H1 : Heap) (locs1 : List Loc), mW D cl A M' H1 → va_S A s.heap H1 locs1 → W p l e R s m args below meth c H1 locs1 cells slots Q (F0 m (pc + 1) ls rest)) : W p l e R s m args below meth c H locs cells slots Q (F0 m pc ls (.ref v :: .int i :: .ref a :: rest)) := by
  obtain ⟨hx, hb, hml, hown, hts, hK, hA, hX⟩ := C
  obtain ⟨ws, hr, hP, hD⟩ := hM
  obtain ⟨n, f, he, hin, rfl⟩ := sR_spec h
  obtain ⟨q0, hq⟩ := (hr a _).mp he
  obtain ⟨fs, hv⟩ := ho
  obtain ⟨qk, hqk⟩ := (hr v _).mp hv
  exact va_astq hx hb hK hP hD hS q0 t0 qk ci hq ht hqk hc hin hdg (fun H1 locs1 hP1 hD1 hS1 => kk H1 locs1 ⟨_, hr.set hD hq, hP1, hD1⟩ hS1)
theorem mn_O (C : Cx p s m args c cc nL own Ts D cl tys A) (hM : mW D cl A M H) (hS : va_S A s.heap H locs) {ci N index : Nat} {Cn : String} {T : u_T} {ty0 : Nat → FieldType} (hc : clsOk cl Ts ci Cn T N ty0) (hlk : Cond.classLink own index Cn ∈ Ts) (hinst : Cond.instantiable Cn N ∈ Ts) (hini : Cond.initialized Cn ∈ Ts) {fs : List Value} (hfs : ∀ j, j < N → defaultValue (ty0 j) = vp_V fs j) (hcells : cells + 1 ≤ R.cells) (hslots : slots + N ≤ R.slots) (hdg : decode cc pc = .ok (.new index, 3))
    (kk : ∀ (q : Nat) (H1 : Heap), M q = none → mW D cl A (mup M q (.inr (ci, fs))) H1 → va_S A s.heap H1 locs → W p l e R s m args below meth c H1 locs (cells + 1) (slots + N) Q (F0 m (pc + 3) ls (.ref q :: rest))) : W p l e R s m args below meth c H locs cells slots Q (F0 m pc ls rest) := by
  obtain ⟨hx, hb, hml, hown, hts, hK, hA, hX⟩ := C
  obtain ⟨ws, hr, hP, hD⟩ := hM
  exact va_new hx hb hts hc.2.1 ty0 hc.2.2.1 hown (hts _ hlk) (hts _ hinst) (hts _ hini) hK hP hD hS hA hc.1 hfs hcells hslots hdg (fun q H1 hP1 hD1 hS1 => kk q H1 (hr.fresh hD1) ⟨_, hr.push (hr.fresh hD1), hP1, hD1⟩ hS1)
theorem mn_A (C : Cx p s m args c cc nL own Ts D cl tys A) (hM : mW D cl A M H) (hS : va_S A s.heap H locs) {atype : ArrayType} {ty : FieldType} (hty : newarray.typeOf atype = ty) (harr : Cond.arrayClass (newarray.typeOf atype) ∈ Ts) {cA : ClassId} (t0 : Nat) (ht : tys[t0]? = some (cA, ty)) {n : Int32} {N' : Nat} {a0 : vp_A} (ha : ∀ cA : ClassId, vp_cell cA a0 = arrV cA N' (fun _ => defaultValue ty)) (hn : ¬ n < 0) (hN : n.toNatClampNeg = N') (hbytes : N' * componentBytes ty ≤ 536870912) (hcells : cells + 1 ≤ R.cells) (hslots : slots + N' ≤ R.slots) (hdg : decode cc pc = .ok (.newarray atype, 2))
    (kk : ∀ (q : Nat) (H1 : Heap), M q = none → mW D cl A (mup M q (.inl (cA, a0))) H1 → va_S A s.heap H1 locs → W p l e R s m args below meth c H1 locs (cells + 1) (slots + N') Q (F0 m (pc + 2) ls (.ref q :: rest))) : W p l e R s m args below meth c H locs cells slots Q (F0 m pc ls (.int n :: rest)) := by
  obtain ⟨hx, hb, hml, hown, hts, hK, hA, hX⟩ := C
  obtain ⟨ws, hr, hP, hD⟩ := hM
  refine va_newa hx hb (hts _ harr) hty hK hP hD hS hA ha hn hN hbytes hcells hslots hdg (fun q cA' H1 hK1 hP1 hD1 hS1 => ?_)
  have he : cA' = cA := by
    have h1 := (hK1.2 tys.length (cA', ty) (by rw [List.getElem?_append_right (Nat.le_refl _), Nat.sub_self]; rfl)).2
    exact RA_inj h1 (hK.2 t0 _ ht).2
  subst he
  exact kk q H1 (hr.fresh hD1) ⟨_, hr.push (hr.fresh hD1), hP1, hD1⟩ hS1
theorem mn_Q (C : Cx p s m args c cc nL own Ts D cl tys A) (hM : mW D cl A M H) (hS : va_S A s.heap H locs) {E : String} {index : Nat} (hlk : Cond.classLink own index E ∈ Ts) (hover : va_AO E s) {cA : ClassId} (t0 : Nat) (ht : tys[t0]? = some (cA, .object E)) {n : Int32} {N' : Nat} (hn : ¬ n < 0) (hN : n.toNatClampNeg = N') (hbytes : N' * 4 ≤ 536870912) (hcells : cells + 1 ≤ R.cells) (hslots : slots + N' ≤ R.slots) (hdg : decode cc pc = .ok (.anewarray index, 3))
    (kk : ∀ (q : Nat) (H1 : Heap), M q = none → mW D cl A (mup M q (.inl (cA, N', .inr (.inr (.inr (.inr (fun _ => none))))))) H1 → va_S A s.heap H1 locs → W p l e R s m args below meth c H1 locs (cells + 1) (slots + N') Q (F0 m (pc + 3) ls (.ref q :: rest))) : W p l e R s m args below meth c H locs cells slots Q (F0 m pc ls (.int n :: rest)) := by
  obtain ⟨hx, hb, hml, hown, hts, hK, hA, hX⟩ := C
  obtain ⟨ws, hr, hP, hD⟩ := hM
  refine va_newq hx hb hown (hts _ hlk) hover hK hP hD hS hA hn hN hbytes hcells hslots hdg (fun q cA' H1 hK1 hP1 hD1 hS1 => ?_)
  have he : cA' = cA := by
    have h1 := (hK1.2 tys.length (cA', .object E) (by rw [List.getElem?_append_right (Nat.le_refl _), Nat.sub_self]; rfl)).2
    exact RA_inj h1 (hK.2 t0 _ ht).2
  subst he
  exact kk q H1 (hr.fresh hD1) ⟨_, hr.push (hr.fresh hD1), hP1, hD1⟩ hS1
end MROWS
/-! contracts over a memory -/
def mPc (D : va_G) (cl : List vw_C) (tys : List (ClassId × FieldType)) (av : List Value) (M : Mem) (sz : Nat) : Array Value → State → Prop := va_Pc av (fun U => U.heap.size = sz ∧ mW D cl (fun _ => True) M U.heap ∧ va_K D cl tys U ∧ mX U)
def mQ (D : va_G) (cl : List vw_C) (post : Option Value → Mem → Prop) (M : Mem) (sz : Nat) : Array Value → State → Outcome → State → Prop := fun _ st oc t => (∃ (v : Option Value) (M' : Mem), oc = .returned v ∧ post v M' ∧ mW D cl (mA M sz) M' t.heap) ∧ va_F (mA M sz) st t
def kI (P : Int32 → Mem → Prop) : Option Value → Mem → Prop := fun v M => ∃ r : Int32, v = some (.int r) ∧ P r M
def kL (P : Int64 → Mem → Prop) : Option Value → Mem → Prop := fun v M => ∃ r : Int64, v = some (.long r) ∧ P r M
def kQ (P : Option Nat → Mem → Prop) : Option Value → Mem → Prop := fun v M => ∃ r : Option Nat, v = some (va_rf r) ∧ P r M
def kR (P : Nat → Mem → Prop) : Option Value → Mem → Prop := fun v M => ∃ r : Nat, v = some (.ref r) ∧ P r M
def kV (P : Mem → Prop) : Option Value → Mem → Prop := fun v M => v = none ∧ P M
/-- a method's contract at a memory and arguments: it returns, with 'post' of the answer and the new memory -/
def mMet (l : Launch) (Ts : List Cond) (D : va_G) (cl : List vw_C) (tys : List (ClassId × FieldType)) (y : MethodName) (bytes : ByteArray) (maxL : Nat) (ret : Option FieldType) (rm : Room) (av : List Value) (M : Mem) (post : Option Value → Mem → Prop) : Prop :=
  ∀ sz : Nat, Met l y (.code y bytes maxL ret :: Ts) rm (mPc D cl tys av M sz) (mQ D cl post M sz) rm.cells rm.slots (mA M sz)
def goodAll (Ts : List Cond) : Prop := ∀ w ∈ Ts, (w.onTables && w.keeps) = true ∨ ∃ ty, w = .arrayClass ty
theorem good_cons {Ts : List Cond} (hg : goodAll Ts) {y : MethodName} {bytes : ByteArray} {maxL : Nat} {ret : Option FieldType} (hc : Cond.code y bytes maxL ret ∈ Ts) : GoodIn Ts (.code y bytes maxL ret :: Ts) := by
  intro w hw
  rcases List.mem_cons.mp hw with h | h
  · rw [h]; exact ⟨hc, hg _ hc⟩
  · exact ⟨h, hg _ h⟩
theorem mPc_blind {D : va_G} {cl : List vw_C} {tys : List (ClassId × FieldType)} {av : List Value} {M : Mem} {sz : Nat} : FrameBlind (mPc D cl tys av M sz) := by
  intro a U g mk q
  obtain ⟨q0, q1, qP, qK, qX⟩ := q
  exact ⟨q0, q1, qP, va_K.moved (u := U) (U := U.calling g mk a) (Vm.Alike.refl U.vm) qK, mX.calling qX⟩
section MCALLS
variable {p : Program} {l : Launch} {e : Env} {R : Room} {s : State} {m : MethodId} {args : Array Value} {below : List Frame} {meth : Method} {c : Code} {H : Heap} {locs : List Loc} {cells slots : Nat} {Q : State → Prop}
variable {cc : ByteArray} {nL pc : Nat} {own : String} {Ts : List Cond} {ls : Array Slot} {st0 rest : List Value} {D : va_G} {cl : List vw_C} {tys : List (ClassId × FieldType)} {A : Nat → Prop} {M : Mem} {a : Nat}
theorem mcall {post : Option Value → Mem → Prop} {mc ms : Nat} {aa : Array Value} (C : Cx p s m args c cc nL own Ts D cl tys A) (hM : mW D cl A M H) (hS : va_S A s.heap H locs)
    (hr : va_Run p l e R s m args below meth c H locs cells slots mc ms (F0 m pc ls st0) rest (mQ D cl post M H.size aa) (mA M H.size))
    (kk : ∀ (v : Option Value) (M' : Mem) (H1 : Heap) (locs1 : List Loc), post v M' → mW D cl A M' H1 → va_S A s.heap H1 locs1 → W p l e R s m args below meth c H1 locs1 (cells + mc) (slots + ms) Q (F0 m (pc + 3) ls (v.toList ++ rest))) : W p l e R s m args below meth c H locs cells slots Q (F0 m pc ls st0) := by
  have hf : ∀ q, mA M H.size q → A q := by
    intro q hq
    rcases hq with ⟨e, he⟩ | hq
    · exact hM.inA he
    · exact C.2.2.2.2.2.2.1 q (Nat.le_trans hS.1 hq)
  intro T hT X
  obtain ⟨v, st₀, t, T', L, h0, X', hL, e1, e2, ⟨⟨v', M', hv, hp, hW⟩, hz, hk⟩, st⟩ := hr T hT X
  cases hv
  rw [h0] at hz hk
  rw [← e1] at hz hk hW
  obtain ⟨t2, a1, b1⟩ := kk v M' T'.heap (locs ++ L) hp (hW.weaken hf)
    ⟨Nat.le_trans hS.1 hz, fun q h1 h2 => (hk q (Nat.lt_of_lt_of_le h1 hS.1) (fun z => h2 (hf q z))).trans (hS.2.1 q h1 h2), fun q hq => by
      rcases List.mem_append.mp hq with h | h
      · exact hS.2.2 q h
      · exact hf _ (hL q h)⟩ T' rfl X'
  exact ⟨t2, st t2 a1, b1⟩
variable {y : MethodName} {bytes : ByteArray} {maxL index : Nat} {ret : Option FieldType} {rm : Room} {As : List Value} {post : Option Value → Mem → Prop} {b : Nat}
theorem mc_V (C : Cx p s m args c cc nL own Ts D cl tys A) (hM : mW D cl A M H) (hS : va_S A s.heap H locs) (hg : goodAll Ts) (hc : mMet l Ts D cl tys y bytes maxL ret rm (.ref b :: As) M post)
    {ci N : Nat} {T : u_T} (hcl : cl[ci]? = some (y.cls, T, N)) (ho : isO M ci b) (k1 : Cond.methodLink own index y ∈ Ts) (k2 : Cond.instanceMethod y ∈ Ts) (k3 : Cond.selects y.cls y y ∈ Ts) (k4 : Cond.initialized y.cls ∈ Ts) (k5 : Cond.code y bytes maxL ret ∈ Ts)
    (hd : y.cls ≠ "java/lang/invoke/MethodHandle" ∧ y.cls ≠ "java/lang/invoke/VarHandle" ∧ (parseMethodDescriptor y.desc).map (fun d => d.parameters.length) = some As.length) (hR : rm.frames + 1 ≤ R.frames ∧ 8 + (maxL + 11) + rm.locals ≤ R.locals) (hsz : ls.size = nL) (hst : st0 = As.reverse ++ .ref b :: rest) (hW : (rest.map fun v => v.category).sum ≤ 8) (hdg : decode cc pc = .ok (.invokevirtual index, 3)) (hf : cells + rm.cells ≤ R.cells ∧ slots + rm.slots ≤ R.slots)
    (kk : ∀ (v : Option Value) (M' : Mem) (H1 : Heap) (locs1 : List Loc), post v M' → mW D cl A M' H1 → va_S A s.heap H1 locs1 → W p l e R s m args below meth c H1 locs1 (cells + rm.cells) (slots + rm.slots) Q (F0 m (pc + 3) ls (v.toList ++ rest))) : W p l e R s m args below meth c H locs cells slots Q (F0 m pc ls st0) := by
  subst hst
  have hts := C.2.2.2.2.1
  have hK := C.2.2.2.2.2.1
  refine mcall C hM hS (va_runV (As := As) (rest := rest) (C := y.cls) ⟨C.1, C.2.1, C.2.2.1, C.2.2.2.1, hts⟩ (hc H.size) ⟨callB_of As.length hts (good_cons hg k5) rfl rfl rfl (hts _ k4) (hts _ k1) hd hR, hts _ k2, hts _ k3⟩ ⟨mPc_blind, ?_, fun U hU hW => ⟨rfl, by rw [hU], by rw [hU]; exact hM.weaken (fun _ _ => trivial), va_K.moved hW.alike hK, mX.warm hW C.2.2.2.2.2.2.2⟩⟩ rfl rfl hsz rfl (lv_room hW) hdg hf) kk
  obtain ⟨fs, ho⟩ := ho
  obtain ⟨ws, hr, hP, hD⟩ := hM
  obtain ⟨q0, hq⟩ := (hr b _).mp ho
  exact va_recv hK hP (ci := ci) (q0 := q0) hcl hq
theorem mc_S (C : Cx p s m args c cc nL own Ts D cl tys A) (hM : mW D cl A M H) (hS : va_S A s.heap H locs) (hg : goodAll Ts) (hc : mMet l Ts D cl tys y bytes maxL ret rm As M post)
    (k1 : Cond.methodLink own index y ∈ Ts) (k2 : Cond.static y ∈ Ts) (k4 : Cond.initialized y.cls ∈ Ts) (k5 : Cond.code y bytes maxL ret ∈ Ts)
    (hd : y.cls ≠ "java/lang/invoke/MethodHandle" ∧ y.cls ≠ "java/lang/invoke/VarHandle" ∧ (parseMethodDescriptor y.desc).map (fun d => d.parameters.length) = some As.length) (hR : rm.frames + 1 ≤ R.frames ∧ 8 + (maxL + 11) + rm.locals ≤ R.locals) (hsz : ls.size = nL) (hst : st0 = As.reverse ++ rest) (hW : (rest.map fun v => v.category).sum ≤ 8) (hdg : decode cc pc = .ok (.invokestatic index, 3)) (hf : cells + rm.cells ≤ R.cells ∧ slots + rm.slots ≤ R.slots)
    (kk : ∀ (v : Option Value) (M' : Mem) (H1 : Heap) (locs1 : List Loc), post v M' → mW D cl A M' H1 → va_S A s.heap H1 locs1 → W p l e R s m args below meth c H1 locs1 (cells + rm.cells) (slots + rm.slots) Q (F0 m (pc + 3) ls (v.toList ++ rest))) : W p l e R s m args below meth c H locs cells slots Q (F0 m pc ls st0) := by
  subst hst
  have hts := C.2.2.2.2.1
  have hK := C.2.2.2.2.2.1
  exact mcall C hM hS (va_runS (As := As) (rest := rest) ⟨C.1, C.2.1, C.2.2.1, C.2.2.2.1, hts⟩ (hc H.size) ⟨callB_of As.length hts (good_cons hg k5) rfl rfl rfl (hts _ k4) (hts _ k1) hd hR, hts _ k2⟩ ⟨mPc_blind, fun U hU hW => ⟨rfl, by rw [hU], by rw [hU]; exact hM.weaken (fun _ _ => trivial), va_K.moved hW.alike hK, mX.warm hW C.2.2.2.2.2.2.2⟩⟩ rfl rfl hsz rfl (lv_room hW) hdg hf) kk
theorem mc_I (C : Cx p s m args c cc nL own Ts D cl tys A) (hM : mW D cl A M H) (hS : va_S A s.heap H locs) (hg : goodAll Ts) (hc : mMet l Ts D cl tys y bytes maxL none rm (.ref b :: As) M post)
    (hy1 : y.name = "<init>") (k1 : Cond.methodLink own index y ∈ Ts) (k2 : Cond.instanceMethod y ∈ Ts) (k4 : Cond.initialized y.cls ∈ Ts) (k5 : Cond.code y bytes maxL none ∈ Ts)
    (hd : y.cls ≠ "java/lang/invoke/MethodHandle" ∧ y.cls ≠ "java/lang/invoke/VarHandle" ∧ (parseMethodDescriptor y.desc).map (fun d => d.parameters.length) = some As.length) (hR : rm.frames + 1 ≤ R.frames ∧ 8 + (maxL + 11) + rm.locals ≤ R.locals) (hsz : ls.size = nL) (hst : st0 = As.reverse ++ .ref b :: rest) (hW : (rest.map fun v => v.category).sum ≤ 8) (hdg : decode cc pc = .ok (.invokespecial index, 3)) (hf : cells + rm.cells ≤ R.cells ∧ slots + rm.slots ≤ R.slots)
    (kk : ∀ (v : Option Value) (M' : Mem) (H1 : Heap) (locs1 : List Loc), post v M' → mW D cl A M' H1 → va_S A s.heap H1 locs1 → W p l e R s m args below meth c H1 locs1 (cells + rm.cells) (slots + rm.slots) Q (F0 m (pc + 3) ls (v.toList ++ rest))) : W p l e R s m args below meth c H locs cells slots Q (F0 m pc ls st0) := by
  subst hst
  have hts := C.2.2.2.2.1
  have hK := C.2.2.2.2.2.1
  exact mcall C hM hS (va_runI (As := As) (rest := rest) ⟨C.1, C.2.1, C.2.2.1, C.2.2.2.1, hts⟩ (hc H.size) ⟨callB_of As.length hts (good_cons hg k5) rfl rfl rfl (hts _ k4) (hts _ k1) hd hR, hy1, hts _ k2⟩ ⟨mPc_blind, fun U hU hW => ⟨rfl, by rw [hU], by rw [hU]; exact hM.weaken (fun _ _ => trivial), va_K.moved hW.alike hK, mX.warm hW C.2.2.2.2.2.2.2⟩⟩ rfl rfl hsz rfl (lv_room hW) hdg hf) kk
end MCALLS
end
section
/-! a method's body: its start, its ends, what is the same everywhere -/
def Wb (p : Program) (l : Launch) (e : Env) (R : Room) (s : State) (m : MethodId) (args : Array Value) (below : List Frame) (meth : Method) (c : Code) (nL : Nat) (D : va_G) (cl : List vw_C) (M0 : Mem) (post : Option Value → Mem → Prop) (cells slots : Nat) (M : Mem) (pc : Nat) (lv : List (Nat × Value)) (st : List Value) : Prop :=
  ∀ (ls : Array Slot) (H : Heap) (locs : List Loc), mW D cl (mA M0 s.heap.size) M H → va_S (mA M0 s.heap.size) s.heap H locs → lv_has ls nL lv → W p l e R s m args below meth c H locs cells slots (MQ below (mQ D cl post M0 s.heap.size) args s R.cells R.slots (mA M0 s.heap.size)) (F0 m pc ls st)
set_option maxHeartbeats 4000000 in
theorem mMet.of {l : Launch} {Ts : List Cond} {D : va_G} {cl : List vw_C} {tys : List (ClassId × FieldType)} {y : MethodName} {bytes : ByteArray} {maxL : Nat} {ret : Option FieldType} {rm : Room} {av : List Value} {M : Mem} {post : Option Value → Mem → Prop} {own : String} (ho : y.cls = own) (hy : plainName y.cls = true) (hlen : Nat.ble (lg_sl av).length maxL = true)
    (body : ∀ (p : Program) (e : Env) (s : State) (m : MethodId) (below : List Frame) (meth : Method) (c : Code), Cx p s m av.toArray c bytes maxL own Ts D cl tys (mA M s.heap.size) → meth.sig.returnType = ret → meth.locks = false → meth.name = y.name → ∀ ls : Array Slot, mW D cl (mA M s.heap.size) M s.heap → va_S (mA M s.heap.size) s.heap s.heap [] → lv_has ls maxL (lv_args 0 av) →
      W p l e rm s m av.toArray below meth c s.heap [] 0 0 (MQ below (mQ D cl post M s.heap.size) av.toArray s rm.cells rm.slots (mA M s.heap.size)) (F0 m 0 ls [])) : mMet l Ts D cl tys y bytes maxL ret rm av M post := by
  subst ho
  intro sz
  refine Met.ofW (cc := bytes) (maxL := maxL) (ret := ret) hy rfl ?_
  intro p e s m args below meth c s₁ B hml hv
  obtain ⟨rfl, hsz, hM, hK, hX⟩ := hv
  subst hsz
  have hl := lv_entry av (n := maxL) (Nat.le_of_ble_eq_true hlen)
  rw [lg_entry_eq]
  exact body p e s m below meth c ⟨B.exec, B.bytes, hml, findClass_of_methodNamed B.named, fun w hw => atoms_spec (ws := .code y bytes maxL ret :: Ts) B.pre w (List.mem_cons_of_mem _ hw), hK, fun q z => Or.inr z, hX⟩ B.returns B.notSynchronized (name_of_methodNamed B.named B.method).1 _ (hM.self _) va_S.rf hl
def isB (x : Int32) : Prop := narrow .boolean (.int x) = .int x
theorem isB_0 : isB 0 := by unfold isB; decide
theorem isB_1 : isB 1 := by unfold isB; decide
def m_minF (x y : Int32) : Int32 := if y < x then y else x
theorem i32_of {x : Int32} {n : Int} (h : x.toInt = n) : x = Int32.ofInt n := by
  rw [← h, Int32.ofInt_toInt]
theorem tab_out {x : Int32} (lo hi : Int) (h : ∀ k : Int, lo ≤ k → k ≤ hi → ¬ x = Int32.ofInt k) : x.toInt < lo ∨ hi < x.toInt := by
  by_cases h1 : x.toInt < lo
  · exact Or.inl h1
  · by_cases h2 : hi < x.toInt
    · exact Or.inr h2
    · exact absurd (i32_of rfl) (h x.toInt (by omega) (by omega))
section MBODY
variable {p : Program} {l : Launch} {e : Env} {R : Room} {s : State} {m : MethodId} {args : Array Value} {below : List Frame} {meth : Method} {c : Code} {H : Heap} {locs : List Loc} {cells slots : Nat} {Q : State → Prop}
variable {cc : ByteArray} {nL pc : Nat} {own : String} {Ts : List Cond} {ls : Array Slot} {rest : List Value} {D : va_G} {cl : List vw_C} {tys : List (ClassId × FieldType)} {A : Nat → Prop} {M0 M : Mem} {post : Option Value → Mem → Prop}
theorem mr_I (C : Cx p s m args c cc nL own Ts D cl tys (mA M0 s.heap.size)) (hr : meth.sig.returnType = some .int) (hlk : meth.locks = false) (hM : mW D cl (mA M0 s.heap.size) M H) (hS : va_S (mA M0 s.heap.size) s.heap H locs) {v : Int32} (hp : post (some (.int v)) M) (hdg : decode cc pc = .ok (.ireturn, 1)) : W p l e R s m args below meth c H locs cells slots (MQ below (mQ D cl post M0 s.heap.size) args s cells slots (mA M0 s.heap.size)) (F0 m pc ls [.int v]) :=
  W.iret C.1 C.2.1 hr (fun t ht _ => ⟨⟨_, M, rfl, hp, by rw [ht]; exact hM⟩, hS.F ht⟩) hS.2.2 hdg hlk
theorem mr_Z (C : Cx p s m args c cc nL own Ts D cl tys (mA M0 s.heap.size)) (hr : meth.sig.returnType = some .boolean) (hlk : meth.locks = false) {v : Int32} (hn : isB v) (hM : mW D cl (mA M0 s.heap.size) M H) (hS : va_S (mA M0 s.heap.size) s.heap H locs) (hp : post (some (.int v)) M) (hdg : decode cc pc = .ok (.ireturn, 1)) : W p l e R s m args below meth c H locs cells slots (MQ below (mQ D cl post M0 s.heap.size) args s cells slots (mA M0 s.heap.size)) (F0 m pc ls [.int v]) :=
  W.zret C.1 C.2.1 hr hn (fun t ht _ => ⟨⟨_, M, rfl, hp, by rw [ht]; exact hM⟩, hS.F ht⟩) hS.2.2 hdg hlk
theorem mr_L (C : Cx p s m args c cc nL own Ts D cl tys (mA M0 s.heap.size)) (hr : meth.sig.returnType = some .long) (hlk : meth.locks = false) (hM : mW D cl (mA M0 s.heap.size) M H) (hS : va_S (mA M0 s.heap.size) s.heap H locs) {v : Int64} (hp : post (some (.long v)) M) (hdg : decode cc pc = .ok (.lreturn, 1)) : W p l e R s m args below meth c H locs cells slots (MQ below (mQ D cl post M0 s.heap.size) args s cells slots (mA M0 s.heap.size)) (F0 m pc ls [.long v]) :=
  W.lret C.1 C.2.1 hr (fun t ht _ => ⟨⟨_, M, rfl, hp, by rw [ht]; exact hM⟩, hS.F ht⟩) hS.2.2 hdg hlk
theorem mr_V (C : Cx p s m args c cc nL own Ts D cl tys (mA M0 s.heap.size)) (hr : meth.sig.returnType = none) (hlk : meth.locks = false) (hM : mW D cl (mA M0 s.heap.size) M H) (hS : va_S (mA M0 s.heap.size) s.heap H locs) (hp : post none M) (hdg : decode cc pc = .ok (.return_, 1)) : W p l e R s m args below meth c H locs cells slots (MQ below (mQ D cl post M0 s.heap.size) args s cells slots (mA M0 s.heap.size)) (F0 m pc ls []) :=
  W.vret C.1 C.2.1 hr (fun t ht _ => ⟨⟨_, M, rfl, hp, by rw [ht]; exact hM⟩, hS.F ht⟩) hS.2.2 hdg hlk
theorem mr_R (C : Cx p s m args c cc nL own Ts D cl tys (mA M0 s.heap.size)) {rt : FieldType} (hr : meth.sig.returnType = some rt) (hlk : meth.locks = false) (hrt : (∃ n, rt = .object n) ∨ ∃ t, rt = .array t) (hM : mW D cl (mA M0 s.heap.size) M H) (hS : va_S (mA M0 s.heap.size) s.heap H locs) {v : Nat} (hp : post (some (.ref v)) M) (hdg : decode cc pc = .ok (.areturn, 1)) : W p l e R s m args below meth c H locs cells slots (MQ below (mQ D cl post M0 s.heap.size) args s cells slots (mA M0 s.heap.size)) (F0 m pc ls [.ref v]) :=
  W.aret C.1 C.2.1 hr hrt (Or.inr ⟨v, rfl⟩) (fun t ht _ => ⟨⟨_, M, rfl, hp, by rw [ht]; exact hM⟩, hS.F ht⟩) hS.2.2 hdg hlk
theorem mr_Q (C : Cx p s m args c cc nL own Ts D cl tys (mA M0 s.heap.size)) {rt : FieldType} (hr : meth.sig.returnType = some rt) (hlk : meth.locks = false) (hrt : (∃ n, rt = .object n) ∨ ∃ t, rt = .array t) (hM : mW D cl (mA M0 s.heap.size) M H) (hS : va_S (mA M0 s.heap.size) s.heap H locs) {v : Option Nat} (hp : post (some (va_rf v)) M) (hdg : decode cc pc = .ok (.areturn, 1)) : W p l e R s m args below meth c H locs cells slots (MQ below (mQ D cl post M0 s.heap.size) args s cells slots (mA M0 s.heap.size)) (F0 m pc ls [va_rf v]) :=
  W.aret C.1 C.2.1 hr hrt (va_rf_or v) (fun t ht _ => ⟨⟨_, M, rfl, hp, by rw [ht]; exact hM⟩, hS.F ht⟩) hS.2.2 hdg hlk
theorem lq_aload_n (hexec : p.tables.exec = Jvm.exec) (hb : c.code = cc) {k : Fin 4} {i : Nat} {x : Option Nat} (hdg : decode cc pc = .ok (.aload_n k, 1)) (hi : (k : Nat) = i) (hl : ls[i]? = some (.val (va_rf x)))
    (kk : W p l e R s m args below meth c H locs cells slots Q (F0 m (pc + 1) ls (va_rf x :: rest))) : W p l e R s m args below meth c H locs cells slots Q (F0 m pc ls rest) := by
  cases x with
  | none => exact lv_aload_nN hexec hb hdg hi hl kk
  | some x => exact lv_aload_n hexec hb hdg hi hl kk
theorem lq_aload (hexec : p.tables.exec = Jvm.exec) (hb : c.code = cc) {i : Nat} {x : Option Nat} (hdg : decode cc pc = .ok (.aload i, 2)) (hl : ls[i]? = some (.val (va_rf x)))
    (kk : W p l e R s m args below meth c H locs cells slots Q (F0 m (pc + 2) ls (va_rf x :: rest))) : W p l e R s m args below meth c H locs cells slots Q (F0 m pc ls rest) := by
  cases x with
  | none => exact lv_aloadN hexec hb hdg hl kk
  | some x => exact lv_aload hexec hb hdg hl kk
theorem lq_astore_n (hexec : p.tables.exec = Jvm.exec) (hb : c.code = cc) {k : Fin 4} {i nL : Nat} {x : Option Nat} {lv lv' : List (Nat × Value)} (hdg : decode cc pc = .ok (.astore_n k, 1)) (hi : (k : Nat) = i) (h : lv_has ls nL lv) (hn : i < nL) (hl : (i, va_rf x) :: lv.filter (fun q => !(q.1 == i) && !(q.1 + 1 == i && q.2.category == 2)) = lv')
    (kk : ∀ ls' : Array Slot, lv_has ls' nL lv' → W p l e R s m args below meth c H locs cells slots Q (F0 m (pc + 1) ls' rest)) : W p l e R s m args below meth c H locs cells slots Q (F0 m pc ls (va_rf x :: rest)) := by
  cases x with
  | none => exact lv_astore_nN hexec hb hdg hi h hn hl kk
  | some x => exact lv_astore_n hexec hb hdg hi h hn hl kk
theorem lq_astore (hexec : p.tables.exec = Jvm.exec) (hb : c.code = cc) {i nL : Nat} {x : Option Nat} {lv lv' : List (Nat × Value)} (hdg : decode cc pc = .ok (.astore i, 2)) (h : lv_has ls nL lv) (hn : i < nL) (hl : (i, va_rf x) :: lv.filter (fun q => !(q.1 == i) && !(q.1 + 1 == i && q.2.category == 2)) = lv')
    (kk : ∀ ls' : Array Slot, lv_has ls' nL lv' → W p l e R s m args below meth c H locs cells slots Q (F0 m (pc + 2) ls' rest)) : W p l e R s m args below meth c H locs cells slots Q (F0 m pc ls (va_rf x :: rest)) := by
  cases x with
  | none => exact lv_astoreN hexec hb hdg h hn hl kk
  | some x => exact lv_astore hexec hb hdg h hn hl kk
theorem m_objInit (C : Cx p s m args c cc nL own Ts D cl tys A) {idx a : Nat} (k1 : Cond.methodLink own idx objectInit ∈ Ts) (k2 : Cond.instanceMethod objectInit ∈ Ts) (k3 : Cond.code objectInit ⟨#[0xb1]⟩ 1 none ∈ Ts) (hsz : ls.size = nL) (hdg : decode cc pc = .ok (.invokespecial idx, 3)) (hf : 1 ≤ R.frames) (hlo : 20 ≤ R.locals) (hW : (rest.map fun v => v.category).sum ≤ 8)
    (kk : W p l e R s m args below meth c H locs cells slots Q (F0 m (pc + 3) ls rest)) : W p l e R s m args below meth c H locs cells slots Q (F0 m pc ls (.ref a :: rest)) := by
  have hts := C.2.2.2.2.1
  refine W.objInit C.1 C.2.1 C.2.2.2.1 (hts _ k1) (hts _ k2) (hts _ k3) rfl (by rw [C.2.2.1]; exact hsz) rfl hdg hf ?_ kk
  show 2 * 0 + _ + 12 ≤ R.locals
  omega
theorem m_min (C : Cx p s m args c cc nL own Ts D cl tys A) {idx : Nat} (k1 : Cond.methodLink own idx Lib.Math.min.name ∈ Ts) (k2 : Cond.static Lib.Math.min.name ∈ Ts) (k3 : Cond.initialized "java/lang/Math" ∈ Ts) (k4 : Cond.code Lib.Math.min.name Lib.Math.min.code 2 (some .int) ∈ Ts) (hsz : ls.size = nL) (hdg : decode cc pc = .ok (.invokestatic idx, 3)) (hf : 1 ≤ R.frames) (hlo : 21 ≤ R.locals) (hW : (rest.map fun v => v.category).sum ≤ 8) (hc : cells ≤ R.cells) (hs : slots ≤ R.slots) {x y : Int32}
    (kk : W p l e R s m args below meth c H locs cells slots Q (F0 m (pc + 3) ls (.int (m_minF x y) :: rest))) : W p l e R s m args below meth c H locs cells slots Q (F0 m pc ls (.int y :: .int x :: rest)) := by
  have hts := C.2.2.2.2.1
  exact va_mmin C.1 C.2.1 (by rw [C.2.2.1]; exact hsz.symm) C.2.2.2.1 (hts _ k1) (hts _ k2) (hts _ k3) (hts _ k4) hf (by omega) hc hs hdg kk
end MBODY
end
