section
-- ===== PART A: goes FIRST, ahead of the names: the tables' words, and 'selects' of the private methods out of them =====
/-- a private method of a class that the tables say can be made, by its rows of tables_1 -/
def lw_okq (q : MethodName × Nat) : Prop := (q.1.cls ≠ "java/lang/invoke/MethodHandle" ∧ q.1.cls ≠ "java/lang/invoke/VarHandle") ∧ Cond.instantiable q.1.cls q.2 ∈ tables_1 ∧ Cond.privateMethod q.1 ∈ tables_1 ∧ Cond.instanceMethod q.1 ∈ tables_1
theorem lw_p0 : lw_okq (⟨"TopicDesk", "boundAt", "(I)LTopicDesk$Binding;"⟩, 6) := ⟨⟨by decide +kernel, by decide +kernel⟩, List.mem_of_getElem? (i := 17) (by decide +kernel), List.mem_of_getElem? (i := 159) (by decide +kernel), List.mem_of_getElem? (i := 160) (by decide +kernel)⟩
theorem lw_p1 : lw_okq (⟨"TopicDesk", "fewestWords", "(IIZ)I"⟩, 6) := ⟨⟨by decide +kernel, by decide +kernel⟩, List.mem_of_getElem? (i := 17) (by decide +kernel), List.mem_of_getElem? (i := 229) (by decide +kernel), List.mem_of_getElem? (i := 230) (by decide +kernel)⟩
theorem lw_p2 : lw_okq (⟨"TopicDesk$RowSearch", "collectWords", "(LTopicDesk$Text;LTopicDesk$Text;)V"⟩, 5) := ⟨⟨by decide +kernel, by decide +kernel⟩, List.mem_of_getElem? (i := 94) (by decide +kernel), List.mem_of_getElem? (i := 237) (by decide +kernel), List.mem_of_getElem? (i := 238) (by decide +kernel)⟩
theorem lw_p3 : lw_okq (⟨"TopicDesk$RowSearch", "addWord", "(J)V"⟩, 5) := ⟨⟨by decide +kernel, by decide +kernel⟩, List.mem_of_getElem? (i := 94) (by decide +kernel), List.mem_of_getElem? (i := 241) (by decide +kernel), List.mem_of_getElem? (i := 242) (by decide +kernel)⟩
theorem lw_p4 : lw_okq (⟨"TopicDesk$RowSearch", "addStates", "(III)V"⟩, 5) := ⟨⟨by decide +kernel, by decide +kernel⟩, List.mem_of_getElem? (i := 94) (by decide +kernel), List.mem_of_getElem? (i := 256) (by decide +kernel), List.mem_of_getElem? (i := 257) (by decide +kernel)⟩
theorem lw_p5 : lw_okq (⟨"TopicDesk$RowSearch", "addState", "(II)V"⟩, 5) := ⟨⟨by decide +kernel, by decide +kernel⟩, List.mem_of_getElem? (i := 94) (by decide +kernel), List.mem_of_getElem? (i := 260) (by decide +kernel), List.mem_of_getElem? (i := 261) (by decide +kernel)⟩
theorem lw_p6 : lw_okq (⟨"TopicDesk", "isSpare", "(II)Z"⟩, 6) := ⟨⟨by decide +kernel, by decide +kernel⟩, List.mem_of_getElem? (i := 17) (by decide +kernel), List.mem_of_getElem? (i := 277) (by decide +kernel), List.mem_of_getElem? (i := 278) (by decide +kernel)⟩
theorem lw_p7 : lw_okq (⟨"TopicDesk", "isWithin", "(II)Z"⟩, 6) := ⟨⟨by decide +kernel, by decide +kernel⟩, List.mem_of_getElem? (i := 17) (by decide +kernel), List.mem_of_getElem? (i := 281) (by decide +kernel), List.mem_of_getElem? (i := 282) (by decide +kernel)⟩
theorem lw_p8 : lw_okq (⟨"TopicDesk", "takeTape", "(Z)Z"⟩, 6) := ⟨⟨by decide +kernel, by decide +kernel⟩, List.mem_of_getElem? (i := 17) (by decide +kernel), List.mem_of_getElem? (i := 294) (by decide +kernel), List.mem_of_getElem? (i := 295) (by decide +kernel)⟩
theorem lw_p9 : lw_okq (⟨"TopicDesk$Text", "addPart", "(J)V"⟩, 4) := ⟨⟨by decide +kernel, by decide +kernel⟩, List.mem_of_getElem? (i := 25) (by decide +kernel), List.mem_of_getElem? (i := 308) (by decide +kernel), List.mem_of_getElem? (i := 309) (by decide +kernel)⟩
theorem lw_p10 : lw_okq (⟨"TopicDesk$Text", "canStand", "(IIZ)Z"⟩, 4) := ⟨⟨by decide +kernel, by decide +kernel⟩, List.mem_of_getElem? (i := 25) (by decide +kernel), List.mem_of_getElem? (i := 317) (by decide +kernel), List.mem_of_getElem? (i := 318) (by decide +kernel)⟩
theorem lw_p11 : lw_okq (⟨"java/lang/Throwable", "fillInStackTrace", "(I)Ljava/lang/Throwable;"⟩, 6) := ⟨⟨by decide +kernel, by decide +kernel⟩, List.mem_of_getElem? (i := 365) (by decide +kernel), List.mem_of_getElem? (i := 363) (by decide +kernel), List.mem_of_getElem? (i := 364) (by decide +kernel)⟩
theorem lw_p12 : lw_okq (⟨"TopicDesk", "leastFreeBinding", "()I"⟩, 6) := ⟨⟨by decide +kernel, by decide +kernel⟩, List.mem_of_getElem? (i := 17) (by decide +kernel), List.mem_of_getElem? (i := 394) (by decide +kernel), List.mem_of_getElem? (i := 395) (by decide +kernel)⟩
theorem lw_p13 : lw_okq (⟨"TopicDesk$Shelf", "placeFor", "(LTopicDesk$Text;)I"⟩, 2) := ⟨⟨by decide +kernel, by decide +kernel⟩, List.mem_of_getElem? (i := 65) (by decide +kernel), List.mem_of_getElem? (i := 443) (by decide +kernel), List.mem_of_getElem? (i := 444) (by decide +kernel)⟩
theorem lw_p14 : lw_okq (⟨"TopicDesk$Shelf", "isAt", "(ILTopicDesk$Text;)Z"⟩, 2) := ⟨⟨by decide +kernel, by decide +kernel⟩, List.mem_of_getElem? (i := 65) (by decide +kernel), List.mem_of_getElem? (i := 454) (by decide +kernel), List.mem_of_getElem? (i := 455) (by decide +kernel)⟩
theorem lw_p15 : lw_okq (⟨"TopicDesk$Shelf", "move", "(II)V"⟩, 2) := ⟨⟨by decide +kernel, by decide +kernel⟩, List.mem_of_getElem? (i := 65) (by decide +kernel), List.mem_of_getElem? (i := 458) (by decide +kernel), List.mem_of_getElem? (i := 459) (by decide +kernel)⟩
def lw_privs_1 : List (MethodName × Nat) := [(⟨"TopicDesk", "boundAt", "(I)LTopicDesk$Binding;"⟩, 6), (⟨"TopicDesk", "fewestWords", "(IIZ)I"⟩, 6), (⟨"TopicDesk$RowSearch", "collectWords", "(LTopicDesk$Text;LTopicDesk$Text;)V"⟩, 5), (⟨"TopicDesk$RowSearch", "addWord", "(J)V"⟩, 5), (⟨"TopicDesk$RowSearch", "addStates", "(III)V"⟩, 5), (⟨"TopicDesk$RowSearch", "addState", "(II)V"⟩, 5), (⟨"TopicDesk", "isSpare", "(II)Z"⟩, 6), (⟨"TopicDesk", "isWithin", "(II)Z"⟩, 6), (⟨"TopicDesk", "takeTape", "(Z)Z"⟩, 6), (⟨"TopicDesk$Text", "addPart", "(J)V"⟩, 4), (⟨"TopicDesk$Text", "canStand", "(IIZ)Z"⟩, 4), (⟨"java/lang/Throwable", "fillInStackTrace", "(I)Ljava/lang/Throwable;"⟩, 6), (⟨"TopicDesk", "leastFreeBinding", "()I"⟩, 6), (⟨"TopicDesk$Shelf", "placeFor", "(LTopicDesk$Text;)I"⟩, 2), (⟨"TopicDesk$Shelf", "isAt", "(ILTopicDesk$Text;)Z"⟩, 2), (⟨"TopicDesk$Shelf", "move", "(II)V"⟩, 2)]
theorem lw_r1 : ∀ q ∈ lw_privs_1, lw_okq q := List.forall_mem_cons.mpr ⟨lw_p0, List.forall_mem_cons.mpr ⟨lw_p1, List.forall_mem_cons.mpr ⟨lw_p2, List.forall_mem_cons.mpr ⟨lw_p3, List.forall_mem_cons.mpr ⟨lw_p4, List.forall_mem_cons.mpr ⟨lw_p5, List.forall_mem_cons.mpr ⟨lw_p6, List.forall_mem_cons.mpr ⟨lw_p7, List.forall_mem_cons.mpr ⟨lw_p8, List.forall_mem_cons.mpr ⟨lw_p9, List.forall_mem_cons.mpr ⟨lw_p10, List.forall_mem_cons.mpr ⟨lw_p11, List.forall_mem_cons.mpr ⟨lw_p12, List.forall_mem_cons.mpr ⟨lw_p13, List.forall_mem_cons.mpr ⟨lw_p14, List.forall_mem_cons.mpr ⟨lw_p15, fun _ h => absurd h List.not_mem_nil⟩⟩⟩⟩⟩⟩⟩⟩⟩⟩⟩⟩⟩⟩⟩⟩
theorem lw_p16 : lw_okq (⟨"TopicDeskModel", "reads", "(Z)Z"⟩, 23) := ⟨⟨by decide +kernel, by decide +kernel⟩, List.mem_of_getElem? (i := 519) (by decide +kernel), List.mem_of_getElem? (i := 608) (by decide +kernel), List.mem_of_getElem? (i := 609) (by decide +kernel)⟩
theorem lw_p17 : lw_okq (⟨"TopicDeskModel", "raise", "(I)I"⟩, 23) := ⟨⟨by decide +kernel, by decide +kernel⟩, List.mem_of_getElem? (i := 519) (by decide +kernel), List.mem_of_getElem? (i := 617) (by decide +kernel), List.mem_of_getElem? (i := 618) (by decide +kernel)⟩
theorem lw_p18 : lw_okq (⟨"TopicDeskModel", "isBound", "(I)Z"⟩, 23) := ⟨⟨by decide +kernel, by decide +kernel⟩, List.mem_of_getElem? (i := 519) (by decide +kernel), List.mem_of_getElem? (i := 629) (by decide +kernel), List.mem_of_getElem? (i := 630) (by decide +kernel)⟩
theorem lw_p19 : lw_okq (⟨"TopicDeskModel", "fits", "(I[JII)Z"⟩, 23) := ⟨⟨by decide +kernel, by decide +kernel⟩, List.mem_of_getElem? (i := 519) (by decide +kernel), List.mem_of_getElem? (i := 640) (by decide +kernel), List.mem_of_getElem? (i := 641) (by decide +kernel)⟩
theorem lw_p20 : lw_okq (⟨"TopicDeskModel", "first", "(I)I"⟩, 23) := ⟨⟨by decide +kernel, by decide +kernel⟩, List.mem_of_getElem? (i := 519) (by decide +kernel), List.mem_of_getElem? (i := 644) (by decide +kernel), List.mem_of_getElem? (i := 645) (by decide +kernel)⟩
theorem lw_p21 : lw_okq (⟨"TopicDeskModel", "moved", "(IIJ)I"⟩, 23) := ⟨⟨by decide +kernel, by decide +kernel⟩, List.mem_of_getElem? (i := 519) (by decide +kernel), List.mem_of_getElem? (i := 651) (by decide +kernel), List.mem_of_getElem? (i := 652) (by decide +kernel)⟩
theorem lw_p22 : lw_okq (⟨"TopicDeskModel", "isEnd", "(II)Z"⟩, 23) := ⟨⟨by decide +kernel, by decide +kernel⟩, List.mem_of_getElem? (i := 519) (by decide +kernel), List.mem_of_getElem? (i := 658) (by decide +kernel), List.mem_of_getElem? (i := 659) (by decide +kernel)⟩
theorem lw_p23 : lw_okq (⟨"TopicDeskModel", "found", "()I"⟩, 23) := ⟨⟨by decide +kernel, by decide +kernel⟩, List.mem_of_getElem? (i := 519) (by decide +kernel), List.mem_of_getElem? (i := 666) (by decide +kernel), List.mem_of_getElem? (i := 667) (by decide +kernel)⟩
theorem lw_p24 : lw_okq (⟨"TopicDeskModel", "fitsKept", "(II)Z"⟩, 23) := ⟨⟨by decide +kernel, by decide +kernel⟩, List.mem_of_getElem? (i := 519) (by decide +kernel), List.mem_of_getElem? (i := 678) (by decide +kernel), List.mem_of_getElem? (i := 679) (by decide +kernel)⟩
theorem lw_p25 : lw_okq (⟨"TopicDeskModel", "isAhead", "(II)Z"⟩, 23) := ⟨⟨by decide +kernel, by decide +kernel⟩, List.mem_of_getElem? (i := 519) (by decide +kernel), List.mem_of_getElem? (i := 686) (by decide +kernel), List.mem_of_getElem? (i := 687) (by decide +kernel)⟩
theorem lw_p26 : lw_okq (⟨"TopicDeskModel", "fewest", "(IIZ)I"⟩, 23) := ⟨⟨by decide +kernel, by decide +kernel⟩, List.mem_of_getElem? (i := 519) (by decide +kernel), List.mem_of_getElem? (i := 698) (by decide +kernel), List.mem_of_getElem? (i := 699) (by decide +kernel)⟩
theorem lw_p27 : lw_okq (⟨"TopicDeskModel", "wordOf", "(III)J"⟩, 23) := ⟨⟨by decide +kernel, by decide +kernel⟩, List.mem_of_getElem? (i := 519) (by decide +kernel), List.mem_of_getElem? (i := 702) (by decide +kernel), List.mem_of_getElem? (i := 703) (by decide +kernel)⟩
def lw_privs_2 : List (MethodName × Nat) := [(⟨"TopicDeskModel", "reads", "(Z)Z"⟩, 23), (⟨"TopicDeskModel", "raise", "(I)I"⟩, 23), (⟨"TopicDeskModel", "isBound", "(I)Z"⟩, 23), (⟨"TopicDeskModel", "fits", "(I[JII)Z"⟩, 23), (⟨"TopicDeskModel", "first", "(I)I"⟩, 23), (⟨"TopicDeskModel", "moved", "(IIJ)I"⟩, 23), (⟨"TopicDeskModel", "isEnd", "(II)Z"⟩, 23), (⟨"TopicDeskModel", "found", "()I"⟩, 23), (⟨"TopicDeskModel", "fitsKept", "(II)Z"⟩, 23), (⟨"TopicDeskModel", "isAhead", "(II)Z"⟩, 23), (⟨"TopicDeskModel", "fewest", "(IIZ)I"⟩, 23), (⟨"TopicDeskModel", "wordOf", "(III)J"⟩, 23)]
theorem lw_r2 : ∀ q ∈ lw_privs_2, lw_okq q := List.forall_mem_cons.mpr ⟨lw_p16, List.forall_mem_cons.mpr ⟨lw_p17, List.forall_mem_cons.mpr ⟨lw_p18, List.forall_mem_cons.mpr ⟨lw_p19, List.forall_mem_cons.mpr ⟨lw_p20, List.forall_mem_cons.mpr ⟨lw_p21, List.forall_mem_cons.mpr ⟨lw_p22, List.forall_mem_cons.mpr ⟨lw_p23, List.forall_mem_cons.mpr ⟨lw_p24, List.forall_mem_cons.mpr ⟨lw_p25, List.forall_mem_cons.mpr ⟨lw_p26, List.forall_mem_cons.mpr ⟨lw_p27, fun _ h => absurd h List.not_mem_nil⟩⟩⟩⟩⟩⟩⟩⟩⟩⟩⟩⟩
def lw_privs : List (MethodName × Nat) := lw_privs_1 ++ (lw_privs_2)
def lw_tbl : List Cond := k2_sels lw_privs ++ tables_1
theorem lw_privs_ok : ∀ q ∈ lw_privs, lw_okq q := by
  show ∀ q ∈ lw_privs_1 ++ (lw_privs_2), lw_okq q
  exact List.forall_mem_append.mpr ⟨lw_r1, lw_r2⟩
-- ===== names =====
def R_Desk : String := "TopicDesk"
def R_Text : String := "TopicDesk$Text"
def R_Bnd : String := "TopicDesk$Binding"
def R_Kt : String := "TopicDesk$KeptTopic"
def R_Shelf : String := "TopicDesk$Shelf"
def R_Rs : String := "TopicDesk$RowSearch"
def R_Mod : String := "TopicDeskModel"
def R_Arr : String := "java/util/Arrays"
def R_Law : String := "TopicDeskLaw"
def F_Desk : u_T := fun k => match k with
  | 0 => ("TopicDesk", "tape", "LTopicDesk$Text;", true)
  | 1 => ("TopicDesk", "taken", "LTopicDesk$Text;", true)
  | 2 => ("TopicDesk", "bindings", "[LTopicDesk$Binding;", true)
  | 3 => ("TopicDesk", "shelf", "LTopicDesk$Shelf;", true)
  | 4 => ("TopicDesk", "search", "LTopicDesk$RowSearch;", true)
  | _ => ("TopicDesk", "latestFault", "I", false)
def t_Desk : Nat → FieldType := fun k => match k with
  | 0 => .object "TopicDesk$Text"
  | 1 => .object "TopicDesk$Text"
  | 2 => .array (.object "TopicDesk$Binding")
  | 3 => .object "TopicDesk$Shelf"
  | 4 => .object "TopicDesk$RowSearch"
  | _ => .int
def F_Text : u_T := fun k => match k with
  | 0 => ("TopicDesk$Text", "signs", "[B", true)
  | 1 => ("TopicDesk$Text", "parts", "[J", true)
  | 2 => ("TopicDesk$Text", "length", "I", false)
  | _ => ("TopicDesk$Text", "partCount", "I", false)
def t_Text : Nat → FieldType := fun k => match k with
  | 0 => .array .byte
  | 1 => .array .long
  | 2 => .int
  | _ => .int
def F_Bnd : u_T := fun k => match k with
  | 0 => ("TopicDesk$Binding", "pattern", "LTopicDesk$Text;", true)
  | 1 => ("TopicDesk$Binding", "queue", "I", false)
  | _ => ("TopicDesk$Binding", "routed", "I", false)
def t_Bnd : Nat → FieldType := fun k => match k with
  | 0 => .object "TopicDesk$Text"
  | 1 => .int
  | _ => .int
def F_Kt : u_T := fun k => match k with
  | 0 => ("TopicDesk$KeptTopic", "text", "LTopicDesk$Text;", true)
  | _ => ("TopicDesk$KeptTopic", "value", "I", false)
def t_Kt : Nat → FieldType := fun k => match k with
  | 0 => .object "TopicDesk$Text"
  | _ => .int
def F_Shelf : u_T := fun k => match k with
  | 0 => ("TopicDesk$Shelf", "topics", "[LTopicDesk$KeptTopic;", true)
  | _ => ("TopicDesk$Shelf", "size", "I", false)
def t_Shelf : Nat → FieldType := fun k => match k with
  | 0 => .array (.object "TopicDesk$KeptTopic")
  | _ => .int
def F_Rs : u_T := fun k => match k with
  | 0 => ("TopicDesk$RowSearch", "waiting", "[I", true)
  | 1 => ("TopicDesk$RowSearch", "seen", "[J", true)
  | 2 => ("TopicDesk$RowSearch", "words", "[J", true)
  | 3 => ("TopicDesk$RowSearch", "waitingCount", "I", false)
  | _ => ("TopicDesk$RowSearch", "wordCount", "I", false)
def t_Rs : Nat → FieldType := fun k => match k with
  | 0 => .array .int
  | 1 => .array .long
  | 2 => .array .long
  | 3 => .int
  | _ => .int
def F_Mod : u_T := fun k => match k with
  | 0 => ("TopicDeskModel", "thrown", "I", false)
  | 1 => ("TopicDeskModel", "tape", "[I", true)
  | 2 => ("TopicDeskModel", "taped", "I", false)
  | 3 => ("TopicDeskModel", "fault", "I", false)
  | 4 => ("TopicDeskModel", "parts", "[J", true)
  | 5 => ("TopicDeskModel", "partMany", "I", false)
  | 6 => ("TopicDeskModel", "readLong", "I", false)
  | 7 => ("TopicDeskModel", "readText", "[I", true)
  | 8 => ("TopicDeskModel", "queue", "[I", true)
  | 9 => ("TopicDeskModel", "hits", "[I", true)
  | 10 => ("TopicDeskModel", "bound", "[J", true)
  | 11 => ("TopicDeskModel", "boundMany", "[I", true)
  | 12 => ("TopicDeskModel", "boundText", "[I", true)
  | 13 => ("TopicDeskModel", "boundLong", "[I", true)
  | 14 => ("TopicDeskModel", "keptMany", "I", false)
  | 15 => ("TopicDeskModel", "values", "[I", true)
  | 16 => ("TopicDeskModel", "topics", "[J", true)
  | 17 => ("TopicDeskModel", "topicMany", "[I", true)
  | 18 => ("TopicDeskModel", "topicText", "[I", true)
  | 19 => ("TopicDeskModel", "topicLong", "[I", true)
  | 20 => ("TopicDeskModel", "seen", "[I", true)
  | 21 => ("TopicDeskModel", "round", "I", false)
  | _ => ("TopicDeskModel", "row", "[I", true)
def t_Mod : Nat → FieldType := fun k => match k with
  | 0 => .int
  | 1 => .array .int
  | 2 => .int
  | 3 => .int
  | 4 => .array .long
  | 5 => .int
  | 6 => .int
  | 7 => .array .int
  | 8 => .array .int
  | 9 => .array .int
  | 10 => .array .long
  | 11 => .array .int
  | 12 => .array .int
  | 13 => .array .int
  | 14 => .int
  | 15 => .array .int
  | 16 => .array .long
  | 17 => .array .int
  | 18 => .array .int
  | 19 => .array .int
  | 20 => .array .int
  | 21 => .int
  | _ => .array .int
abbrev vwCl : List vw_C := [(R_Desk, F_Desk, 6), (R_Text, F_Text, 4), (R_Bnd, F_Bnd, 3), (R_Kt, F_Kt, 2), (R_Shelf, F_Shelf, 2), (R_Rs, F_Rs, 5), (R_Mod, F_Mod, 23)]
def BIG : List Cond := lw_tbl.filter goodWord
/-- what else of the tables a call hands on -/
def mX (U : State) : Prop := va_AO R_Bnd U ∧ va_AO R_Kt U
theorem mX.warm {s U : State} (hW : s.WarmedH U.vm) (h : mX s) : mX U := ⟨h.1.moved hW.alike, h.2.moved hW.alike⟩
theorem mX.calling {U : State} {g : JFrame} {mk : MethodId} {a : Array Value} (h : mX U) : mX (U.calling g mk a) := ⟨h.1.moved (Vm.Alike.refl U.vm), h.2.moved (Vm.Alike.refl U.vm)⟩
abbrev tysG (g : Nat → ClassId) : List (ClassId × FieldType) := [(g 0, .byte), (g 1, .long), (g 2, .int), (g 3, .object "TopicDesk$Binding"), (g 4, .object "TopicDesk$KeptTopic")]
end
section
/-! A memory as a function: what the world holds at an address. Rows over it, out of the kit's rows over lists. -/
abbrev Mem : Type := Nat → Option va_E
def mup (M : Mem) (a : Nat) (e : va_E) : Mem := fun q => if q = a then some e else M q
theorem mup_self {M : Mem} {a : Nat} {e : va_E} : mup M a e a = some e := by simp [mup]
theorem mup_ne {M : Mem} {a b : Nat} {e : va_E} (h : b ≠ a) : mup M a e b = M b := by simp [mup, h]
def mRep (M : Mem) (ws : va_W) : Prop := ∀ (a : Nat) (e : va_E), M a = some e ↔ ∃ k : Nat, ws[k]? = some (a, e)
def mW (D : va_G) (cl : List vw_C) (A : Nat → Prop) (M : Mem) (H : Heap) : Prop := ∃ ws : va_W, mRep M ws ∧ va_P D cl ws H ∧ va_D A ws
def mA (M : Mem) (sz : Nat) : Nat → Prop := fun q => (∃ e : va_E, M q = some e) ∨ sz ≤ q
theorem mA_of {M : Mem} {ws : va_W} (h : mRep M ws) {sz q : Nat} (hq : va_A ws sz q) : mA M sz q := by
  rcases hq with ⟨k, e, hk⟩ | hq
  · exact Or.inl ⟨e, (h q e).mpr ⟨k, hk⟩⟩
  · exact Or.inr hq
theorem mRep.set {A : Nat → Prop} {M : Mem} {ws : va_W} (h : mRep M ws) (hD : va_D A ws) {k a : Nat} {e e' : va_E} (hk : ws[k]? = some (a, e)) : mRep (mup M a e') (ws.set k (a, e')) := by
  have hl := (List.getElem?_eq_some_iff.mp hk).1
  intro q x
  by_cases hq : q = a
  · subst hq
    rw [mup_self]
    constructor
    · intro hx
      exact ⟨k, by rw [List.getElem?_set_self hl, Option.some.inj hx]⟩
    · rintro ⟨j, hj⟩
      by_cases hjk : j = k
      · subst hjk
        rw [List.getElem?_set_self hl] at hj
        exact congrArg some (congrArg Prod.snd (Option.some.inj hj))
      · rw [List.getElem?_set_ne (Ne.symm hjk)] at hj
        exact absurd (hD.1 j k _ _ hj hk rfl) hjk
  · rw [mup_ne hq, h q x]
    constructor
    · rintro ⟨j, hj⟩
      have hjk : j ≠ k := fun z => hq (by subst z; rw [hk] at hj; exact (congrArg Prod.fst (Option.some.inj hj)).symm)
      exact ⟨j, by rw [List.getElem?_set_ne (Ne.symm hjk)]; exact hj⟩
    · rintro ⟨j, hj⟩
      by_cases hjk : j = k
      · subst hjk
        rw [List.getElem?_set_self hl] at hj
        exact absurd (congrArg Prod.fst (Option.some.inj hj)).symm hq
      · rw [List.getElem?_set_ne (Ne.symm hjk)] at hj
        exact ⟨j, hj⟩
theorem mRep.fresh {A : Nat → Prop} {M : Mem} {ws : va_W} (h : mRep M ws) {q : Nat} {e : va_E} (hD : va_D A (ws ++ [(q, e)])) : M q = none := by
  cases hM : M q with
  | none => rfl
  | some x =>
    obtain ⟨k, hk⟩ := (h q x).mp hM
    have hl := (List.getElem?_eq_some_iff.mp hk).1
    have h1 : (ws ++ [(q, e)])[k]? = some (q, x) := by rw [List.getElem?_append_left hl]; exact hk
    have h2 : (ws ++ [(q, e)])[ws.length]? = some (q, e) := by rw [List.getElem?_append_right (Nat.le_refl _), Nat.sub_self]; rfl
    have := hD.1 k ws.length _ _ h1 h2 rfl
    omega
theorem mRep.push {M : Mem} {ws : va_W} (h : mRep M ws) {q : Nat} {e : va_E} (hq : M q = none) : mRep (mup M q e) (ws ++ [(q, e)]) := by
  intro b x
  have h2 : (ws ++ [(q, e)])[ws.length]? = some (q, e) := by rw [List.getElem?_append_right (Nat.le_refl _), Nat.sub_self]; rfl
  have key : ∀ k : Nat, (ws ++ [(q, e)])[k]? = some (b, x) → ws[k]? = some (b, x) ∨ (q, e) = (b, x) := by
    intro k hk
    rcases List.mem_append.mp (List.mem_of_getElem? hk) with hm | hm
    · by_cases hl : k < ws.length
      · rw [List.getElem?_append_left hl] at hk; exact Or.inl hk
      · rw [List.getElem?_append_right (by omega)] at hk
        exact Or.inr (List.mem_singleton.mp (List.mem_of_getElem? hk)).symm
    · exact Or.inr (List.mem_singleton.mp hm).symm
  by_cases hb : b = q
  · subst hb
    rw [mup_self]
    constructor
    · intro hx
      exact ⟨ws.length, by rw [h2, Option.some.inj hx]⟩
    · rintro ⟨k, hk⟩
      rcases key k hk with h3 | h3
      · have := (h b x).mpr ⟨k, h3⟩
        rw [hq] at this
        cases this
      · exact congrArg some (congrArg Prod.snd h3)
  · rw [mup_ne hb, h b x]
    constructor
    · rintro ⟨k, hk⟩
      have hl := (List.getElem?_eq_some_iff.mp hk).1
      exact ⟨k, by rw [List.getElem?_append_left hl]; exact hk⟩
    · rintro ⟨k, hk⟩
      rcases key k hk with h3 | h3
      · exact ⟨k, h3⟩
      · exact absurd (congrArg Prod.fst h3).symm hb
theorem mW.weaken {D : va_G} {cl : List vw_C} {A B : Nat → Prop} {M : Mem} {H : Heap} (h : mW D cl A M H) (hAB : ∀ q, A q → B q) : mW D cl B M H := by
  obtain ⟨ws, h1, h2, h3⟩ := h
  exact ⟨ws, h1, h2, h3.weaken (fun _ _ _ z => hAB _ z)⟩
theorem mW.self {D : va_G} {cl : List vw_C} {A : Nat → Prop} {M : Mem} {H : Heap} (h : mW D cl A M H) (sz : Nat) : mW D cl (mA M sz) M H := by
  obtain ⟨ws, h1, h2, h3⟩ := h
  exact ⟨ws, h1, h2, (h3.self (sz := sz)).weaken (fun _ _ _ z => mA_of h1 z)⟩
theorem mW.inA {D : va_G} {cl : List vw_C} {A : Nat → Prop} {M : Mem} {H : Heap} (h : mW D cl A M H) {q : Nat} {e : va_E} (hq : M q = some e) : A q := by
  obtain ⟨ws, h1, h2, h3⟩ := h
  obtain ⟨k, hk⟩ := (h1 q e).mp hq
  exact h3.2 k _ hk
/-! reads and writes, as partial functions -/
def gV (M : Mem) (ci a k : Nat) : Option Value := match M a with
  | some (.inr (c, fs)) => if c = ci then fs[k]? else none
  | _ => none
def gI (M : Mem) (ci a k : Nat) : Option Int32 := match gV M ci a k with
  | some (.int x) => some x
  | _ => none
def gL (M : Mem) (ci a k : Nat) : Option Int64 := match gV M ci a k with
  | some (.long x) => some x
  | _ => none
def gR (M : Mem) (ci a k : Nat) : Option Nat := match gV M ci a k with
  | some (.ref x) => some x
  | _ => none
def pV (M : Mem) (ci a k : Nat) (v : Value) : Option Mem := match M a with
  | some (.inr (c, fs)) => if c = ci ∧ k < fs.length then some (mup M a (.inr (ci, fs.set k v))) else none
  | _ => none
def isO (M : Mem) (ci a : Nat) : Prop := ∃ fs : List Value, M a = some (.inr (ci, fs))
def aN (M : Mem) (cA : ClassId) (a : Nat) : Option Nat := match M a with
  | some (.inl (c, n, _)) => if c = cA then some n else none
  | _ => none
def aI (M : Mem) (cA : ClassId) (a : Nat) (i : Int32) : Option Int32 := match M a with
  | some (.inl (c, n, .inl f)) => if c = cA ∧ ¬ (i < 0 ∨ n ≤ i.toNatClampNeg) then some (f i.toNatClampNeg) else none
  | _ => none
def aL (M : Mem) (cA : ClassId) (a : Nat) (i : Int32) : Option Int64 := match M a with
  | some (.inl (c, n, .inr (.inl f))) => if c = cA ∧ ¬ (i < 0 ∨ n ≤ i.toNatClampNeg) then some (f i.toNatClampNeg) else none
  | _ => none
def aQ (M : Mem) (cA : ClassId) (a : Nat) (i : Int32) : Option (Option Nat) := match M a with
  | some (.inl (c, n, .inr (.inr (.inr (.inr f))))) => if c = cA ∧ ¬ (i < 0 ∨ n ≤ i.toNatClampNeg) then some (f i.toNatClampNeg) else none
  | _ => none
def sI (M : Mem) (cA : ClassId) (a : Nat) (i x : Int32) : Option Mem := match M a with
  | some (.inl (c, n, .inl f)) => if c = cA ∧ ¬ (i < 0 ∨ n ≤ i.toNatClampNeg) then some (mup M a (.inl (cA, n, .inl (upd f i.toNatClampNeg x)))) else none
  | _ => none
def sL (M : Mem) (cA : ClassId) (a : Nat) (i : Int32) (x : Int64) : Option Mem := match M a with
  | some (.inl (c, n, .inr (.inl f))) => if c = cA ∧ ¬ (i < 0 ∨ n ≤ i.toNatClampNeg) then some (mup M a (.inl (cA, n, .inr (.inl (vp_updL f i.toNatClampNeg x))))) else none
  | _ => none
def sR (M : Mem) (cA : ClassId) (a : Nat) (i : Int32) (v : Nat) : Option Mem := match M a with
  | some (.inl (c, n, .inr (.inr (.inr (.inr f))))) => if c = cA ∧ ¬ (i < 0 ∨ n ≤ i.toNatClampNeg) then some (mup M a (.inl (cA, n, .inr (.inr (.inr (.inr (va_up f i.toNatClampNeg (some v)))))))) else none
  | _ => none
theorem gV_spec {M : Mem} {ci a k : Nat} {v : Value} (h : gV M ci a k = some v) : ∃ fs : List Value, M a = some (.inr (ci, fs)) ∧ fs[k]? = some v := by
  unfold gV at h
  split at h
  · rename_i c fs he
    split at h
    · rename_i hc; subst hc; exact ⟨fs, he, h⟩
    · cases h
  · cases h
theorem gI_spec {M : Mem} {ci a k : Nat} {x : Int32} (h : gI M ci a k = some x) : gV M ci a k = some (.int x) := by
  unfold gI at h
  split at h
  · rename_i y he; cases h; exact he
  · cases h
theorem gL_spec {M : Mem} {ci a k : Nat} {x : Int64} (h : gL M ci a k = some x) : gV M ci a k = some (.long x) := by
  unfold gL at h
  split at h
  · rename_i y he; cases h; exact he
  · cases h
theorem gR_spec {M : Mem} {ci a k : Nat} {x : Nat} (h : gR M ci a k = some x) : gV M ci a k = some (.ref x) := by
  unfold gR at h
  split at h
  · rename_i y he; cases h; exact he
  · cases h
theorem pV_spec {M M' : Mem} {ci a k : Nat} {v : Value} (h : pV M ci a k v = some M') : ∃ fs : List Value, M a = some (.inr (ci, fs)) ∧ k < fs.length ∧ M' = mup M a (.inr (ci, fs.set k v)) := by
  unfold pV at h
  split at h
  · rename_i c fs he
    split at h
    · rename_i hc; obtain ⟨rfl, hk⟩ := hc; cases h; exact ⟨fs, he, hk, rfl⟩
    · cases h
  · cases h
theorem aN_spec {M : Mem} {cA : ClassId} {a n : Nat} (h : aN M cA a = some n) : ∃ f, M a = some (.inl (cA, n, f)) := by
  unfold aN at h
  split at h
  · rename_i c n' f he
    split at h
    · rename_i hc; subst hc; cases h; exact ⟨f, he⟩
    · cases h
  · cases h
theorem aI_spec {M : Mem} {cA : ClassId} {a : Nat} {i x : Int32} (h : aI M cA a i = some x) : ∃ (n : Nat) (f : Nat → Int32), M a = some (.inl (cA, n, .inl f)) ∧ vp_in i n ∧ f i.toNatClampNeg = x := by
  unfold aI at h
  split at h
  · rename_i c n f he
    split at h
    · rename_i hc; obtain ⟨rfl, hk⟩ := hc; cases h; exact ⟨n, f, he, hk, rfl⟩
    · cases h
  · cases h
theorem aL_spec {M : Mem} {cA : ClassId} {a : Nat} {i : Int32} {x : Int64} (h : aL M cA a i = some x) : ∃ (n : Nat) (f : Nat → Int64), M a = some (.inl (cA, n, .inr (.inl f))) ∧ vp_in i n ∧ f i.toNatClampNeg = x := by
  unfold aL at h
  split at h
  · rename_i c n f he
    split at h
    · rename_i hc; obtain ⟨rfl, hk⟩ := hc; cases h; exact ⟨n, f, he, hk, rfl⟩
    · cases h
  · cases h
theorem aQ_spec {M : Mem} {cA : ClassId} {a : Nat} {i : Int32} {x : Option Nat} (h : aQ M cA a i = some x) : ∃ (n : Nat) (f : Nat → Option Nat), M a = some (.inl (cA, n, .inr (.inr (.inr (.inr f))))) ∧ vp_in i n ∧ f i.toNatClampNeg = x := by
  unfold aQ at h
  split at h
  · rename_i c n f he
    split at h
    · rename_i hc; obtain ⟨rfl, hk⟩ := hc; cases h; exact ⟨n, f, he, hk, rfl⟩
    · cases h
  · cases h
theorem sI_spec {M M' : Mem} {cA : ClassId} {a : Nat} {i x : Int32} (h : sI M cA a i x = some M') : ∃ (n : Nat) (f : Nat → Int32), M a = some (.inl (cA, n, .inl f)) ∧ vp_in i n ∧ M' = mup M a (.inl (cA, n, .inl (upd f i.toNatClampNeg x))) := by
  unfold sI at h
  split at h
  · rename_i c n f he
    split at h
    · rename_i hc; obtain ⟨rfl, hk⟩ := hc; cases h; exact ⟨n, f, he, hk, rfl⟩
    · cases h
  · cases h
theorem sL_spec {M M' : Mem} {cA : ClassId} {a : Nat} {i : Int32} {x : Int64} (h : sL M cA a i x = some M') : ∃ (n : Nat) (f : Nat → Int64), M a = some (.inl (cA, n, .inr (.inl f))) ∧ vp_in i n ∧ M' = mup M a (.inl (cA, n, .inr (.inl (vp_updL f i.toNatClampNeg x)))) := by
  unfold sL at h
  split at h
  · rename_i c n f he
    split at h
    · rename_i hc; obtain ⟨rfl, hk⟩ := hc; cases h; exact ⟨n, f, he, hk, rfl⟩
    · cases h
  · cases h
theorem sR_spec {M M' : Mem} {cA : ClassId} {a v : Nat} {i : Int32} (h : sR M cA a i v = some M') : ∃ (n : Nat) (f : Nat → Option Nat), M a = some (.inl (cA, n, .inr (.inr (.inr (.inr f))))) ∧ vp_in i n ∧ M' = mup M a (.inl (cA, n, .inr (.inr (.inr (.inr (va_up f i.toNatClampNeg (some v))))))) := by
  unfold sR at h
  split at h
  · rename_i c n f he
    split at h
    · rename_i hc; obtain ⟨rfl, hk⟩ := hc; cases h; exact ⟨n, f, he, hk, rfl⟩
    · cases h
  · cases h
end
section
/-! rows over a memory -/
def Cx (p : Program) (s : State) (m : MethodId) (args : Array Value) (c : Code) (cc : ByteArray) (nL : Nat) (own : String) (Ts : List Cond) (D : va_G) (cl : List vw_C) (tys : List (ClassId × FieldType)) (A : Nat → Prop) : Prop :=
  p.tables.exec = Jvm.exec ∧ c.code = cc ∧ c.maxLocals = nL ∧ s.vm.findClass own = some m.cls ∧ (∀ w ∈ Ts, w.before args s = true) ∧ va_K D cl tys s ∧ (∀ q, s.heap.size ≤ q → A q) ∧ mX s
def clsOk (cl : List vw_C) (Ts : List Cond) (ci : Nat) (Cn : String) (T : u_T) (N : Nat) (ty0 : Nat → FieldType) : Prop :=
  cl[ci]? = some (Cn, T, N) ∧ (∀ w ∈ u_ws Cn T N, w ∈ Ts) ∧ (∀ k, k < N → parseFieldDescriptor (T k).2.2.1 = some (ty0 k)) ∧ ∀ a, a < N → ∀ b, b < N → a ≠ b → (T a).2.1 ≠ (T b).2.1
theorem RA_inj {U : State} {c1 c2 : ClassId} {ty : FieldType} (h1 : va_RA U c1 ty) (h2 : va_RA U c2 ty) : c1 = c2 := by
  cases ty with
  | object C =>
    obtain ⟨_, _, _, _, _, a⟩ := h1
    obtain ⟨_, _, _, _, _, b⟩ := h2
    exact Option.some.inj (a.symm.trans b)
  | _ => exact Option.some.inj ((show U.vm.findClass _ = some c1 from h1).symm.trans (show U.vm.findClass _ = some c2 from h2))
section MROWS
variable {p : Program} {l : Launch} {e : Env} {R : Room} {s : State} {m : MethodId} {args : Array Value} {below : List Frame} {meth : Method} {c : Code} {H : Heap} {locs : List Loc} {cells slots : Nat} {Q : State → Prop}
variable {cc : ByteArray} {nL pc : Nat} {own : String} {Ts : List Cond} {ls : Array Slot} {rest : List Value} {D : va_G} {cl : List vw_C} {tys : List (ClassId × FieldType)} {A : Nat → Prop} {M M' : Mem} {a : Nat}
theorem mg_V (C : Cx p s m args c cc nL own Ts D cl tys A) (hM : mW D cl A M H) {ci N k index : Nat} {Cn : String} {T : u_T} {ty0 : Nat → FieldType} (hc : clsOk cl Ts ci Cn T N ty0) (hk : k < N) (hlk : Cond.fieldLink own index (T k).1 (T k).2.1 (T k).2.2.1 ∈ Ts) {v : Value} (h : gV M ci a k = some v) (hdg : decode cc pc = .ok (.getfield index, 3))
    (kk : W p l e R s m args below meth c H locs cells slots Q (F0 m (pc + 3) ls (v :: rest))) : W p l e R s m args below meth c H locs cells slots Q (F0 m pc ls (.ref a :: rest)) := by
  obtain ⟨hx, hb, hml, hown, hts, hK, hA, hX⟩ := C
  obtain ⟨ws, hr, hP, hD⟩ := hM
  obtain ⟨fs, he, hv⟩ := gV_spec h
  obtain ⟨q0, hq⟩ := (hr a _).mp he
  exact va_get hx hb hts hc.2.1 hown hK hP q0 hq hc.1 k hk (hts _ hlk) (fun _ z => z) hv hdg kk
theorem mg_I (C : Cx p s m args c cc nL own Ts D cl tys A) (hM : mW D cl A M H) {ci N k index : Nat} {Cn : String} {T : u_T} {ty0 : Nat → FieldType} (hc : clsOk cl Ts ci Cn T N ty0) (hk : k < N) (hlk : Cond.fieldLink own index (T k).1 (T k).2.1 (T k).2.2.1 ∈ Ts) {x : Int32} (h : gI M ci a k = some x) (hdg : decode cc pc = .ok (.getfield index, 3))
    (kk : W p l e R s m args below meth c H locs cells slots Q (F0 m (pc + 3) ls (.int x :: rest))) : W p l e R s m args below meth c H locs cells slots Q (F0 m pc ls (.ref a :: rest)) := mg_V C hM hc hk hlk (gI_spec h) hdg kk
theorem mg_L (C : Cx p s m args c cc nL own Ts D cl tys A) (hM : mW D cl A M H) {ci N k index : Nat} {Cn : String} {T : u_T} {ty0 : Nat → FieldType} (hc : clsOk cl Ts ci Cn T N ty0) (hk : k < N) (hlk : Cond.fieldLink own index (T k).1 (T k).2.1 (T k).2.2.1 ∈ Ts) {x : Int64} (h : gL M ci a k = some x) (hdg : decode cc pc = .ok (.getfield index, 3))
    (kk : W p l e R s m args below meth c H locs cells slots Q (F0 m (pc + 3) ls (.long x :: rest))) : W p l e R s m args below meth c H locs cells slots Q (F0 m pc ls (.ref a :: rest)) := mg_V C hM hc hk hlk (gL_spec h) hdg kk
theorem mg_R (C : Cx p s m args c cc nL own Ts D cl tys A) (hM : mW D cl A M H) {ci N k index : Nat} {Cn : String} {T : u_T} {ty0 : Nat → FieldType} (hc : clsOk cl Ts ci Cn T N ty0) (hk : k < N) (hlk : Cond.fieldLink own index (T k).1 (T k).2.1 (T k).2.2.1 ∈ Ts) {x : Nat} (h : gR M ci a k = some x) (hdg : decode cc pc = .ok (.getfield index, 3))
    (kk : W p l e R s m args below meth c H locs cells slots Q (F0 m (pc + 3) ls (.ref x :: rest))) : W p l e R s m args below meth c H locs cells slots Q (F0 m pc ls (.ref a :: rest)) := mg_V C hM hc hk hlk (gR_spec h) hdg kk
theorem mp_V (C : Cx p s m args c cc nL own Ts D cl tys A) (hM : mW D cl A M H) (hS : va_S A s.heap H locs) {ci N k index : Nat} {Cn : String} {T : u_T} {ty0 : Nat → FieldType} (hc : clsOk cl Ts ci Cn T N ty0) (hk : k < N) (hlk : Cond.fieldLink own index (T k).1 (T k).2.1 (T k).2.2.1 ∈ Ts) (hfin : (T k).2.2.2 = false) {v : Value} (hn : narrow (ty0 k) v = v) (hfit : fits (ty0 k) v = true) (h : pV M ci a k v = some M') (hdg : decode cc pc = .ok (.putfield index, 3))
    (kk : ∀ (H1 : Heap) (locs1 : List Loc), mW D cl A M' H1 → va_S A s.heap H1 locs1 → W p l e R s m args below meth c H1 locs1 cells slots Q (F0 m (pc + 3) ls rest)) : W p l e R s m args below meth c H locs cells slots Q (F0 m pc ls (v :: .ref a :: rest)) := by
  obtain ⟨hx, hb, hml, hown, hts, hK, hA, hX⟩ := C
  obtain ⟨ws, hr, hP, hD⟩ := hM
  obtain ⟨fs, he, hkl, rfl⟩ := pV_spec h
  obtain ⟨q0, hq⟩ := (hr a _).mp he
  exact va_put hx hb hts hc.2.1 ty0 hc.2.2.1 hc.2.2.2 hown hK hP hD hS q0 hq hc.1 k hk (hts _ hlk) (fun _ z => z) hfin (hc.2.2.1 k hk) hn hfit hkl hdg (fun H1 locs1 hP1 hD1 hS1 => kk H1 locs1 ⟨_, hr.set hD hq, hP1, hD1⟩ hS1)
theorem mp_F (C : Cx p s m args c cc nL own Ts D cl tys A) (hM : mW D cl A M H) (hS : va_S A s.heap H locs) (hin2 : meth.name = "<init>") {ci N k index : Nat} {Cn : String} {T : u_T} {ty0 : Nat → FieldType} (hc : clsOk cl Ts ci Cn T N ty0) (hk : k < N) (hlk : Cond.fieldLink own index (T k).1 (T k).2.1 (T k).2.2.1 ∈ Ts) (hfin : (T k).2.2.2 = true) (hdecl : (T k).1 = own) {v : Value} (hn : narrow (ty0 k) v = v) (hfit : fits (ty0 k) v = true) (h : pV M ci a k v = some M') (hdg : decode cc pc = .ok (.putfield index, 3))
    (kk : ∀ (H1 : Heap) (locs1 : List Loc), mW D cl A M' H1 → va_S A s.heap H1 locs1 → W p l e R s m args below meth c H1 locs1 cells slots Q (F0 m (pc + 3) ls rest)) : W p l e R s m args below meth c H locs cells slots Q (F0 m pc ls (v :: .ref a :: rest)) := by
  obtain ⟨hx, hb, hml, hown, hts, hK, hA, hX⟩ := C
  obtain ⟨ws, hr, hP, hD⟩ := hM
  obtain ⟨fs, he, hkl, rfl⟩ := pV_spec h
  obtain ⟨q0, hq⟩ := (hr a _).mp he
  exact va_putF hx hb hts hc.2.1 ty0 hc.2.2.1 hc.2.2.2 hown hK hP hD hS q0 hq hc.1 k hk (hts _ hlk) (fun _ z => z) hfin hin2 hdecl (hc.2.2.1 k hk) hn hfit hkl hdg (fun H1 locs1 hP1 hD1 hS1 => kk H1 locs1 ⟨_, hr.set hD hq, hP1, hD1⟩ hS1)
theorem ma_I (C : Cx p s m args c cc nL own Ts D cl tys A) (hM : mW D cl A M H) {cA : ClassId} (t0 : Nat) (ht : tys[t0]? = some (cA, .int)) {i x : Int32} (h : aI M cA a i = some x) (hdg : decode cc pc = .ok (.iaload, 1))
    (kk : W p l e R s m args below meth c H locs cells slots Q (F0 m (pc + 1) ls (.int x :: rest))) : W p l e R s m args below meth c H locs cells slots Q (F0 m pc ls (.int i :: .ref a :: rest)) := by
  obtain ⟨hx, hb, hml, hown, hts, hK, hA, hX⟩ := C
  obtain ⟨ws, hr, hP, hD⟩ := hM
  obtain ⟨n, f, he, hin, rfl⟩ := aI_spec h
  obtain ⟨q0, hq⟩ := (hr a _).mp he
  exact va_iald hx hb hK hP q0 t0 hq ht hin hdg kk
theorem ma_B (C : Cx p s m args c cc nL own Ts D cl tys A) (hM : mW D cl A M H) {cA : ClassId} (t0 : Nat) (ht : tys[t0]? = some (cA, .byte)) {i x : Int32} (h : aI M cA a i = some x) (hdg : decode cc pc = .ok (.baload, 1))
    (kk : W p l e R s m args below meth c H locs cells slots Q (F0 m (pc + 1) ls (.int x :: rest))) : W p l e R s m args below meth c H locs cells slots Q (F0 m pc ls (.int i :: .ref a :: rest)) := by
  obtain ⟨hx, hb, hml, hown, hts, hK, hA, hX⟩ := C
  obtain ⟨ws, hr, hP, hD⟩ := hM
  obtain ⟨n, f, he, hin, rfl⟩ := aI_spec h
  obtain ⟨q0, hq⟩ := (hr a _).mp he
  exact va_bald hx hb hK hP q0 t0 hq ht hin hdg kk
theorem ma_Z (C : Cx p s m args c cc nL own Ts D cl tys A) (hM : mW D cl A M H) {cA : ClassId} (t0 : Nat) (ht : tys[t0]? = some (cA, .boolean)) {i x : Int32} (h : aI M cA a i = some x) (hdg : decode cc pc = .ok (.baload, 1))
    (kk : W p l e R s m args below meth c H locs cells slots Q (F0 m (pc + 1) ls (.int x :: rest))) : W p l e R s m args below meth c H locs cells slots Q (F0 m pc ls (.int i :: .ref a :: rest)) := by
  obtain ⟨hx, hb, hml, hown, hts, hK, hA, hX⟩ := C
  obtain ⟨ws, hr, hP, hD⟩ := hM
  obtain ⟨n, f, he, hin, rfl⟩ := aI_spec h
  obtain ⟨q0, hq⟩ := (hr a _).mp he
  exact va_zald hx hb hK hP q0 t0 hq ht hin hdg kk
theorem ma_L (C : Cx p s m args c cc nL own Ts D cl tys A) (hM : mW D cl A M H) {cA : ClassId} (t0 : Nat) (ht : tys[t0]? = some (cA, .long)) {i : Int32} {x : Int64} (h : aL M cA a i = some x) (hdg : decode cc pc = .ok (.laload, 1))
    (kk : W p l e R s m args below meth c H locs cells slots Q (F0 m (pc + 1) ls (.long x :: rest))) : W p l e R s m args below meth c H locs cells slots Q (F0 m pc ls (.int i :: .ref a :: rest)) := by
  obtain ⟨hx, hb, hml, hown, hts, hK, hA, hX⟩ := C
  obtain ⟨ws, hr, hP, hD⟩ := hM
  obtain ⟨n, f, he, hin, rfl⟩ := aL_spec h
  obtain ⟨q0, hq⟩ := (hr a _).mp he
  exact va_lald hx hb hK hP q0 t0 hq ht hin hdg kk
theorem ma_R (C : Cx p s m args c cc nL own Ts D cl tys A) (hM : mW D cl A M H) {cA : ClassId} {E : String} (t0 : Nat) (ht : tys[t0]? = some (cA, .object E)) {i : Int32} {x : Nat} (h : aQ M cA a i = some (some x)) (hdg : decode cc pc = .ok (.aaload, 1))
    (kk : W p l e R s m args below meth c H locs cells slots Q (F0 m (pc + 1) ls (.ref x :: rest))) : W p l e R s m args below meth c H locs cells slots Q (F0 m pc ls (.int i :: .ref a :: rest)) := by
  obtain ⟨hx, hb, hml, hown, hts, hK, hA, hX⟩ := C
  obtain ⟨ws, hr, hP, hD⟩ := hM
  obtain ⟨n, f, he, hin, hf⟩ := aQ_spec h
  obtain ⟨q0, hq⟩ := (hr a _).mp he
  exact va_aldq hx hb hK hP q0 t0 hq ht hin hdg (by rw [hf]; exact kk)
theorem ma_N (C : Cx p s m args c cc nL own Ts D cl tys A) (hM : mW D cl A M H) {cA : ClassId} {ty : FieldType} {n : Nat} (t0 : Nat) (ht : tys[t0]? = some (cA, ty)) (h : aN M cA a = some n) (hdg : decode cc pc = .ok (.arraylength, 1))
    (kk : W p l e R s m args below meth c H locs cells slots Q (F0 m (pc + 1) ls (.int (nI n) :: rest))) : W p l e R s m args below meth c H locs cells slots Q (F0 m pc ls (.ref a :: rest)) := by
  obtain ⟨hx, hb, hml, hown, hts, hK, hA, hX⟩ := C
  obtain ⟨ws, hr, hP, hD⟩ := hM
  obtain ⟨f, he⟩ := aN_spec h
  obtain ⟨q0, hq⟩ := (hr a _).mp he
  exact va_alen hx hb hK hP q0 t0 hq ht rfl hdg kk
theorem ms_I (C : Cx p s m args c cc nL own Ts D cl tys A) (hM : mW D cl A M H) (hS : va_S A s.heap H locs) {cA : ClassId} (t0 : Nat) (ht : tys[t0]? = some (cA, .int)) {i x : Int32} (h : sI M cA a i x = some M') (hdg : decode cc pc = .ok (.iastore, 1))
    (kk : ∀ (H1 : Heap) (locs1 : List Loc), mW D cl A M' H1 → va_S A s.heap H1 locs1 → W p l e R s m args below meth c H1 locs1 cells slots Q (F0 m (pc + 1) ls rest)) : W p l e R s m args below meth c H locs cells slots Q (F0 m pc ls (.int x :: .int i :: .ref a :: rest)) := by
  obtain ⟨hx, hb, hml, hown, hts, hK, hA, hX⟩ := C
  obtain ⟨ws, hr, hP, hD⟩ := hM
  obtain ⟨n, f, he, hin, rfl⟩ := sI_spec h
  obtain ⟨q0, hq⟩ := (hr a _).mp he
  exact va_iast hx hb hK hP hD hS q0 t0 hq ht hin hdg (fun H1 locs1 hP1 hD1 hS1 => kk H1 locs1 ⟨_, hr.set hD hq, hP1, hD1⟩ hS1)
theorem ms_B (C : Cx p s m args c cc nL own Ts D cl tys A) (hM : mW D cl A M H) (hS : va_S A s.heap H locs) {cA : ClassId} (t0 : Nat) (ht : tys[t0]? = some (cA, .byte)) {i x : Int32} (h : sI M cA a i (vp_nar .byte x) = some M') (hdg : decode cc pc = .ok (.bastore, 1))
    (kk : ∀ (H1 : Heap) (locs1 : List Loc), mW D cl A M' H1 → va_S A s.heap H1 locs1 → W p l e R s m args below meth c H1 locs1 cells slots Q (F0 m (pc + 1) ls rest)) : W p l e R s m args below meth c H locs cells slots Q (F0 m pc ls (.int x :: .int i :: .ref a :: rest)) := by
  obtain ⟨hx, hb, hml, hown, hts, hK, hA, hX⟩ := C
  obtain ⟨ws, hr, hP, hD⟩ := hM
  obtain ⟨n, f, he, hin, rfl⟩ := sI_spec h
  obtain ⟨q0, hq⟩ := (hr a _).mp he
  exact va_bast hx hb hK hP hD hS q0 t0 hq ht hin hdg (fun H1 locs1 hP1 hD1 hS1 => kk H1 locs1 ⟨_, hr.set hD hq, hP1, hD1⟩ hS1)
theorem ms_Z (C : Cx p s m args c cc nL own Ts D cl tys A) (hM : mW D cl A M H) (hS : va_S A s.heap H locs) {cA : ClassId} (t0 : Nat) (ht : tys[t0]? = some (cA, .boolean)) {i x : Int32} (h : sI M cA a i (vp_nar .boolean x) = some M') (hdg : decode cc pc = .ok (.bastore, 1))
    (kk : ∀ (H1 : Heap) (locs1 : List Loc), mW D cl A M' H1 → va_S A s.heap H1 locs1 → W p l e R s m args below meth c H1 locs1 cells slots Q (F0 m (pc + 1) ls rest)) : W p l e R s m args below meth c H locs cells slots Q (F0 m pc ls (.int x :: .int i :: .ref a :: rest)) := by
  obtain ⟨hx, hb, hml, hown, hts, hK, hA, hX⟩ := C
  obtain ⟨ws, hr, hP, hD⟩ := hM
  obtain ⟨n, f, he, hin, rfl⟩ := sI_spec h
  obtain ⟨q0, hq⟩ := (hr a _).mp he
  exact va_zast hx hb hK hP hD hS q0 t0 hq ht hin hdg (fun H1 locs1 hP1 hD1 hS1 => kk H1 locs1 ⟨_, hr.set hD hq, hP1, hD1⟩ hS1)
theorem ms_L (C : Cx p s m args c cc nL own Ts D cl tys A) (hM : mW D cl A M H) (hS : va_S A s.heap H locs) {cA : ClassId} (t0 : Nat) (ht : tys[t0]? = some (cA, .long)) {i : Int32} {x : Int64} (h : sL M cA a i x = some M') (hdg : decode cc pc = .ok (.lastore, 1))
    (kk : ∀ (H1 : Heap) (locs1 : List Loc), mW D cl A M' H1 → va_S A s.heap H1 locs1 → W p l e R s m args below meth c H1 locs1 cells slots Q (F0 m (pc + 1) ls rest)) : W p l e R s m args below meth c H locs cells slots Q (F0 m pc ls (.long x :: .int i :: .ref a :: rest)) := by
  obtain ⟨hx, hb, hml, hown, hts, hK, hA, hX⟩ := C
  obtain ⟨ws, hr, hP, hD⟩ := hM
  obtain ⟨n, f, he, hin, rfl⟩ := sL_spec h
  obtain ⟨q0, hq⟩ := (hr a _).mp he
  exact va_last hx hb hK hP hD hS q0 t0 hq ht hin hdg (fun H1 locs1 hP1 hD1 hS1 => kk H1 locs1 ⟨_, hr.set hD hq, hP1, hD1⟩ hS1)
theorem ms_R (C : Cx p s m args c cc nL own Ts D cl tys A) (hM : mW D cl A M H) (hS : va_S A s.heap H locs) {cA : ClassId} {r : vw_C} {ci v : Nat} (t0 : Nat) (ht : tys[t0]? = some (cA, .object r.1)) (hc : cl[ci]? = some r) (ho : isO M ci v) {i : Int32} (h : sR M cA a i v = some M') (hdg : decode cc pc = .ok (.aastore, 1))
    (kk : ∀ (H1 : Heap) (locs1 : List Loc), mW D cl A M' H1 → va_S A s.heap H1 locs1 → W p l e R s m args below meth c H1 locs1 cells slots Q (F0 m (pc + 1) ls rest)) : W p l e R s m args below meth c H locs cells slots Q (F0 m pc ls (.ref v :: .int i :: .ref a :: rest)) := by
  obtain ⟨hx, hb, hml, hown, hts, hK, hA, hX⟩ := C
  obtain ⟨ws, hr, hP, hD⟩ := hM
  obtain ⟨n, f, he, hin, rfl⟩ := sR_spec h
  obtain ⟨q0, hq⟩ := (hr a _).mp he
  obtain ⟨fs, hv⟩ := ho
  obtain ⟨qk, hqk⟩ := (hr v _).mp hv
  exact va_astq hx hb hK hP hD hS q0 t0 qk ci hq ht hqk hc hin hdg (fun H1 locs1 hP1 hD1 hS1 => kk H1 locs1 ⟨_, hr.set hD hq, hP1, hD1⟩ hS1)
theorem mn_O (C : Cx p s m args c cc nL own Ts D cl tys A) (hM : mW D cl A M H) (hS : va_S A s.heap H locs) {ci N index : Nat} {Cn : String} {T : u_T} {ty0 : Nat → FieldType} (hc : clsOk cl Ts ci Cn T N ty0) (hlk : Cond.classLink own index Cn ∈ Ts) (hinst : Cond.instantiable Cn N ∈ Ts) (hini : Cond.initialized Cn ∈ Ts) {fs : List Value} (hfs : ∀ j, j < N → defaultValue (ty0 j) = vp_V fs j) (hcells : cells + 1 ≤ R.cells) (hslots : slots + N ≤ R.slots) (hdg : decode cc pc = .ok (.new index, 3))
    (kk : ∀ (q : Nat) (H1 : Heap), M q = none → mW D cl A (mup M q (.inr (ci, fs))) H1 → va_S A s.heap H1 locs → W p l e R s m args below meth c H1 locs (cells + 1) (slots + N) Q (F0 m (pc + 3) ls (.ref q :: rest))) : W p l e R s m args below meth c H locs cells slots Q (F0 m pc ls rest) := by
  obtain ⟨hx, hb, hml, hown, hts, hK, hA, hX⟩ := C
  obtain ⟨ws, hr, hP, hD⟩ := hM
  exact va_new hx hb hts hc.2.1 ty0 hc.2.2.1 hown (hts _ hlk) (hts _ hinst) (hts _ hini) hK hP hD hS hA hc.1 hfs hcells hslots hdg (fun q H1 hP1 hD1 hS1 => kk q H1 (hr.fresh hD1) ⟨_, hr.push (hr.fresh hD1), hP1, hD1⟩ hS1)
theorem mn_A (C : Cx p s m args c cc nL own Ts D cl tys A) (hM : mW D cl A M H) (hS : va_S A s.heap H locs) {atype : ArrayType} {ty : FieldType} (hty : newarray.typeOf atype = ty) (harr : Cond.arrayClass (newarray.typeOf atype) ∈ Ts) {cA : ClassId} (t0 : Nat) (ht : tys[t0]? = some (cA, ty)) {n : Int32} {N' : Nat} {a0 : vp_A} (ha : ∀ cA : ClassId, vp_cell cA a0 = arrV cA N' (fun _ => defaultValue ty)) (hn : ¬ n < 0) (hN : n.toNatClampNeg = N') (hbytes : N' * componentBytes ty ≤ 536870912) (hcells : cells + 1 ≤ R.cells) (hslots : slots + N' ≤ R.slots) (hdg : decode cc pc = .ok (.newarray atype, 2))
    (kk : ∀ (q : Nat) (H1 : Heap), M q = none → mW D cl A (mup M q (.inl (cA, a0))) H1 → va_S A s.heap H1 locs → W p l e R s m args below meth c H1 locs (cells + 1) (slots + N') Q (F0 m (pc + 2) ls (.ref q :: rest))) : W p l e R s m args below meth c H locs cells slots Q (F0 m pc ls (.int n :: rest)) := by
  obtain ⟨hx, hb, hml, hown, hts, hK, hA, hX⟩ := C
  obtain ⟨ws, hr, hP, hD⟩ := hM
  refine va_newa hx hb (hts _ harr) hty hK hP hD hS hA ha hn hN hbytes hcells hslots hdg (fun q cA' H1 hK1 hP1 hD1 hS1 => ?_)
  have he : cA' = cA := by
    have h1 := (hK1.2 tys.length (cA', ty) (by rw [List.getElem?_append_right (Nat.le_refl _), Nat.sub_self]; rfl)).2
    exact RA_inj h1 (hK.2 t0 _ ht).2
  subst he
  exact kk q H1 (hr.fresh hD1) ⟨_, hr.push (hr.fresh hD1), hP1, hD1⟩ hS1
theorem mn_Q (C : Cx p s m args c cc nL own Ts D cl tys A) (hM : mW D cl A M H) (hS : va_S A s.heap H locs) {E : String} {index : Nat} (hlk : Cond.classLink own index E ∈ Ts) (hover : va_AO E s) {cA : ClassId} (t0 : Nat) (ht : tys[t0]? = some (cA, .object E)) {n : Int32} {N' : Nat} (hn : ¬ n < 0) (hN : n.toNatClampNeg = N') (hbytes : N' * 4 ≤ 536870912) (hcells : cells + 1 ≤ R.cells) (hslots : slots + N' ≤ R.slots) (hdg : decode cc pc = .ok (.anewarray index, 3))
    (kk : ∀ (q : Nat) (H1 : Heap), M q = none → mW D cl A (mup M q (.inl (cA, N', .inr (.inr (.inr (.inr (fun _ => none))))))) H1 → va_S A s.heap H1 locs → W p l e R s m args below meth c H1 locs (cells + 1) (slots + N') Q (F0 m (pc + 3) ls (.ref q :: rest))) : W p l e R s m args below meth c H locs cells slots Q (F0 m pc ls (.int n :: rest)) := by
  obtain ⟨hx, hb, hml, hown, hts, hK, hA, hX⟩ := C
  obtain ⟨ws, hr, hP, hD⟩ := hM
  refine va_newq hx hb hown (hts _ hlk) hover hK hP hD hS hA hn hN hbytes hcells hslots hdg (fun q cA' H1 hK1 hP1 hD1 hS1 => ?_)
  have he : cA' = cA := by
    have h1 := (hK1.2 tys.length (cA', .object E) (by rw [List.getElem?_append_right (Nat.le_refl _), Nat.sub_self]; rfl)).2
    exact RA_inj h1 (hK.2 t0 _ ht).2
  subst he
  exact kk q H1 (hr.fresh hD1) ⟨_, hr.push (hr.fresh hD1), hP1, hD1⟩ hS1
end MROWS
/-! contracts over a memory -/
def mPc (D : va_G) (cl : List vw_C) (tys : List (ClassId × FieldType)) (av : List Value) (M : Mem) (sz : Nat) : Array Value → State → Prop := va_Pc av (fun U => U.heap.size = sz ∧ mW D cl (fun _ => True) M U.heap ∧ va_K D cl tys U ∧ mX U)
def mQ (D : va_G) (cl : List vw_C) (post : Option Value → Mem → Prop) (M : Mem) (sz : Nat) : Array Value → State → Outcome → State → Prop := fun _ st oc t => (∃ (v : Option Value) (M' : Mem), oc = .returned v ∧ post v M' ∧ mW D cl (mA M sz) M' t.heap) ∧ va_F (mA M sz) st t
def kI (P : Int32 → Mem → Prop) : Option Value → Mem → Prop := fun v M => ∃ r : Int32, v = some (.int r) ∧ P r M
def kL (P : Int64 → Mem → Prop) : Option Value → Mem → Prop := fun v M => ∃ r : Int64, v = some (.long r) ∧ P r M
def kQ (P : Option Nat → Mem → Prop) : Option Value → Mem → Prop := fun v M => ∃ r : Option Nat, v = some (va_rf r) ∧ P r M
def kR (P : Nat → Mem → Prop) : Option Value → Mem → Prop := fun v M => ∃ r : Nat, v = some (.ref r) ∧ P r M
def kV (P : Mem → Prop) : Option Value → Mem → Prop := fun v M => v = none ∧ P M
/-- a method's contract at a memory and arguments: it returns, with 'post' of the answer and the new memory -/
def mMet (l : Launch) (Ts : List Cond) (D : va_G) (cl : List vw_C) (tys : List (ClassId × FieldType)) (y : MethodName) (bytes : ByteArray) (maxL : Nat) (ret : Option FieldType) (rm : Room) (av : List Value) (M : Mem) (post : Option Value → Mem → Prop) : Prop :=
  ∀ sz : Nat, Met l y (.code y bytes maxL ret :: Ts) rm (mPc D cl tys av M sz) (mQ D cl post M sz) rm.cells rm.slots (mA M sz)
def goodAll (Ts : List Cond) : Prop := ∀ w ∈ Ts, (w.onTables && w.keeps) = true ∨ ∃ ty, w = .arrayClass ty
theorem good_cons {Ts : List Cond} (hg : goodAll Ts) {y : MethodName} {bytes : ByteArray} {maxL : Nat} {ret : Option FieldType} (hc : Cond.code y bytes maxL ret ∈ Ts) : GoodIn Ts (.code y bytes maxL ret :: Ts) := by
  intro w hw
  rcases List.mem_cons.mp hw with h | h
  · rw [h]; exact ⟨hc, hg _ hc⟩
  · exact ⟨h, hg _ h⟩
theorem mPc_blind {D : va_G} {cl : List vw_C} {tys : List (ClassId × FieldType)} {av : List Value} {M : Mem} {sz : Nat} : FrameBlind (mPc D cl tys av M sz) := by
  intro a U g mk q
  obtain ⟨q0, q1, qP, qK, qX⟩ := q
  exact ⟨q0, q1, qP, va_K.moved (u := U) (U := U.calling g mk a) (Vm.Alike.refl U.vm) qK, mX.calling qX⟩
section MCALLS
variable {p : Program} {l : Launch} {e : Env} {R : Room} {s : State} {m : MethodId} {args : Array Value} {below : List Frame} {meth : Method} {c : Code} {H : Heap} {locs : List Loc} {cells slots : Nat} {Q : State → Prop}
variable {cc : ByteArray} {nL pc : Nat} {own : String} {Ts : List Cond} {ls : Array Slot} {st0 rest : List Value} {D : va_G} {cl : List vw_C} {tys : List (ClassId × FieldType)} {A : Nat → Prop} {M : Mem} {a : Nat}
theorem mcall {post : Option Value → Mem → Prop} {mc ms : Nat} {aa : Array Value} (C : Cx p s m args c cc nL own Ts D cl tys A) (hM : mW D cl A M H) (hS : va_S A s.heap H locs)
    (hr : va_Run p l e R s m args below meth c H locs cells slots mc ms (F0 m pc ls st0) rest (mQ D cl post M H.size aa) (mA M H.size))
    (kk : ∀ (v : Option Value) (M' : Mem) (H1 : Heap) (locs1 : List Loc), post v M' → mW D cl A M' H1 → va_S A s.heap H1 locs1 → W p l e R s m args below meth c H1 locs1 (cells + mc) (slots + ms) Q (F0 m (pc + 3) ls (v.toList ++ rest))) : W p l e R s m args below meth c H locs cells slots Q (F0 m pc ls st0) := by
  have hf : ∀ q, mA M H.size q → A q := by
    intro q hq
    rcases hq with ⟨e, he⟩ | hq
    · exact hM.inA he
    · exact C.2.2.2.2.2.2.1 q (Nat.le_trans hS.1 hq)
  intro T hT X
  obtain ⟨v, st₀, t, T', L, h0, X', hL, e1, e2, ⟨⟨v', M', hv, hp, hW⟩, hz, hk⟩, st⟩ := hr T hT X
  cases hv
  rw [h0] at hz hk
  rw [← e1] at hz hk hW
  obtain ⟨t2, a1, b1⟩ := kk v M' T'.heap (locs ++ L) hp (hW.weaken hf)
    ⟨Nat.le_trans hS.1 hz, fun q h1 h2 => (hk q (Nat.lt_of_lt_of_le h1 hS.1) (fun z => h2 (hf q z))).trans (hS.2.1 q h1 h2), fun q hq => by
      rcases List.mem_append.mp hq with h | h
      · exact hS.2.2 q h
      · exact hf _ (hL q h)⟩ T' rfl X'
  exact ⟨t2, st t2 a1, b1⟩
variable {y : MethodName} {bytes : ByteArray} {maxL index : Nat} {ret : Option FieldType} {rm : Room} {As : List Value} {post : Option Value → Mem → Prop} {b : Nat}
theorem mc_V (C : Cx p s m args c cc nL own Ts D cl tys A) (hM : mW D cl A M H) (hS : va_S A s.heap H locs) (hg : goodAll Ts) (hc : mMet l Ts D cl tys y bytes maxL ret rm (.ref b :: As) M post)
    {ci N : Nat} {T : u_T} (hcl : cl[ci]? = some (y.cls, T, N)) (ho : isO M ci b) (k1 : Cond.methodLink own index y ∈ Ts) (k2 : Cond.instanceMethod y ∈ Ts) (k3 : Cond.selects y.cls y y ∈ Ts) (k4 : Cond.initialized y.cls ∈ Ts) (k5 : Cond.code y bytes maxL ret ∈ Ts)
    (hd : y.cls ≠ "java/lang/invoke/MethodHandle" ∧ y.cls ≠ "java/lang/invoke/VarHandle" ∧ (parseMethodDescriptor y.desc).map (fun d => d.parameters.length) = some As.length) (hR : rm.frames + 1 ≤ R.frames ∧ 8 + (maxL + 11) + rm.locals ≤ R.locals) (hsz : ls.size = nL) (hst : st0 = As.reverse ++ .ref b :: rest) (hW : (rest.map fun v => v.category).sum ≤ 8) (hdg : decode cc pc = .ok (.invokevirtual index, 3)) (hf : cells + rm.cells ≤ R.cells ∧ slots + rm.slots ≤ R.slots)
    (kk : ∀ (v : Option Value) (M' : Mem) (H1 : Heap) (locs1 : List Loc), post v M' → mW D cl A M' H1 → va_S A s.heap H1 locs1 → W p l e R s m args below meth c H1 locs1 (cells + rm.cells) (slots + rm.slots) Q (F0 m (pc + 3) ls (v.toList ++ rest))) : W p l e R s m args below meth c H locs cells slots Q (F0 m pc ls st0) := by
  subst hst
  have hts := C.2.2.2.2.1
  have hK := C.2.2.2.2.2.1
  refine mcall C hM hS (va_runV (As := As) (rest := rest) (C := y.cls) ⟨C.1, C.2.1, C.2.2.1, C.2.2.2.1, hts⟩ (hc H.size) ⟨callB_of As.length hts (good_cons hg k5) rfl rfl rfl (hts _ k4) (hts _ k1) hd hR, hts _ k2, hts _ k3⟩ ⟨mPc_blind, ?_, fun U hU hW => ⟨rfl, by rw [hU], by rw [hU]; exact hM.weaken (fun _ _ => trivial), va_K.moved hW.alike hK, mX.warm hW C.2.2.2.2.2.2.2⟩⟩ rfl rfl hsz rfl (lv_room hW) hdg hf) kk
  obtain ⟨fs, ho⟩ := ho
  obtain ⟨ws, hr, hP, hD⟩ := hM
  obtain ⟨q0, hq⟩ := (hr b _).mp ho
  exact va_recv hK hP (ci := ci) (q0 := q0) hcl hq
theorem mc_S (C : Cx p s m args c cc nL own Ts D cl tys A) (hM : mW D cl A M H) (hS : va_S A s.heap H locs) (hg : goodAll Ts) (hc : mMet l Ts D cl tys y bytes maxL ret rm As M post)
    (k1 : Cond.methodLink own index y ∈ Ts) (k2 : Cond.static y ∈ Ts) (k4 : Cond.initialized y.cls ∈ Ts) (k5 : Cond.code y bytes maxL ret ∈ Ts)
    (hd : y.cls ≠ "java/lang/invoke/MethodHandle" ∧ y.cls ≠ "java/lang/invoke/VarHandle" ∧ (parseMethodDescriptor y.desc).map (fun d => d.parameters.length) = some As.length) (hR : rm.frames + 1 ≤ R.frames ∧ 8 + (maxL + 11) + rm.locals ≤ R.locals) (hsz : ls.size = nL) (hst : st0 = As.reverse ++ rest) (hW : (rest.map fun v => v.category).sum ≤ 8) (hdg : decode cc pc = .ok (.invokestatic index, 3)) (hf : cells + rm.cells ≤ R.cells ∧ slots + rm.slots ≤ R.slots)
    (kk : ∀ (v : Option Value) (M' : Mem) (H1 : Heap) (locs1 : List Loc), post v M' → mW D cl A M' H1 → va_S A s.heap H1 locs1 → W p l e R s m args below meth c H1 locs1 (cells + rm.cells) (slots + rm.slots) Q (F0 m (pc + 3) ls (v.toList ++ rest))) : W p l e R s m args below meth c H locs cells slots Q (F0 m pc ls st0) := by
  subst hst
  have hts := C.2.2.2.2.1
  have hK := C.2.2.2.2.2.1
  exact mcall C hM hS (va_runS (As := As) (rest := rest) ⟨C.1, C.2.1, C.2.2.1, C.2.2.2.1, hts⟩ (hc H.size) ⟨callB_of As.length hts (good_cons hg k5) rfl rfl rfl (hts _ k4) (hts _ k1) hd hR, hts _ k2⟩ ⟨mPc_blind, fun U hU hW => ⟨rfl, by rw [hU], by rw [hU]; exact hM.weaken (fun _ _ => trivial), va_K.moved hW.alike hK, mX.warm hW C.2.2.2.2.2.2.2⟩⟩ rfl rfl hsz rfl (lv_room hW) hdg hf) kk
theorem mc_I (C : Cx p s m args c cc nL own Ts D cl tys A) (hM : mW D cl A M H) (hS : va_S A s.heap H locs) (hg : goodAll Ts) (hc : mMet l Ts D cl tys y bytes maxL none rm (.ref b :: As) M post)
    (hy1 : y.name = "<init>") (k1 : Cond.methodLink own index y ∈ Ts) (k2 : Cond.instanceMethod y ∈ Ts) (k4 : Cond.initialized y.cls ∈ Ts) (k5 : Cond.code y bytes maxL none ∈ Ts)
    (hd : y.cls ≠ "java/lang/invoke/MethodHandle" ∧ y.cls ≠ "java/lang/invoke/VarHandle" ∧ (parseMethodDescriptor y.desc).map (fun d => d.parameters.length) = some As.length) (hR : rm.frames + 1 ≤ R.frames ∧ 8 + (maxL + 11) + rm.locals ≤ R.locals) (hsz : ls.size = nL) (hst : st0 = As.reverse ++ .ref b :: rest) (hW : (rest.map fun v => v.category).sum ≤ 8) (hdg : decode cc pc = .ok (.invokespecial index, 3)) (hf : cells + rm.cells ≤ R.cells ∧ slots + rm.slots ≤ R.slots)
    (kk : ∀ (v : Option Value) (M' : Mem) (H1 : Heap) (locs1 : List Loc), post v M' → mW D cl A M' H1 → va_S A s.heap H1 locs1 → W p l e R s m args below meth c H1 locs1 (cells + rm.cells) (slots + rm.slots) Q (F0 m (pc + 3) ls (v.toList ++ rest))) : W p l e R s m args below meth c H locs cells slots Q (F0 m pc ls st0) := by
  subst hst
  have hts := C.2.2.2.2.1
  have hK := C.2.2.2.2.2.1
  exact mcall C hM hS (va_runI (As := As) (rest := rest) ⟨C.1, C.2.1, C.2.2.1, C.2.2.2.1, hts⟩ (hc H.size) ⟨callB_of As.length hts (good_cons hg k5) rfl rfl rfl (hts _ k4) (hts _ k1) hd hR, hy1, hts _ k2⟩ ⟨mPc_blind, fun U hU hW => ⟨rfl, by rw [hU], by rw [hU]; exact hM.weaken (fun _ _ => trivial), va_K.moved hW.alike hK, mX.warm hW C.2.2.2.2.2.2.2⟩⟩ rfl rfl hsz rfl (lv_room hW) hdg hf) kk
end MCALLS
end
section
/-! a method's body: its start, its ends, what is the same everywhere -/
def Wb (p : Program) (l : Launch) (e : Env) (R : Room) (s : State) (m : MethodId) (args : Array Value) (below : List Frame) (meth : Method) (c : Code) (nL : Nat) (D : va_G) (cl : List vw_C) (M0 : Mem) (post : Option Value → Mem → Prop) (cells slots : Nat) (M : Mem) (pc : Nat) (lv : List (Nat × Value)) (st : List Value) : Prop :=
  ∀ (ls : Array Slot) (H : Heap) (locs : List Loc), mW D cl (mA M0 s.heap.size) M H → va_S (mA M0 s.heap.size) s.heap H locs → lv_has ls nL lv → W p l e R s m args below meth c H locs cells slots (MQ below (mQ D cl post M0 s.heap.size) args s R.cells R.slots (mA M0 s.heap.size)) (F0 m pc ls st)
set_option maxHeartbeats 4000000 in
theorem mMet.of {l : Launch} {Ts : List Cond} {D : va_G} {cl : List vw_C} {tys : List (ClassId × FieldType)} {y : MethodName} {bytes : ByteArray} {maxL : Nat} {ret : Option FieldType} {rm : Room} {av : List Value} {M : Mem} {post : Option Value → Mem → Prop} {own : String} (ho : y.cls = own) (hy : plainName y.cls = true) (hlen : Nat.ble (lg_sl av).length maxL = true)
    (body : ∀ (p : Program) (e : Env) (s : State) (m : MethodId) (below : List Frame) (meth : Method) (c : Code), Cx p s m av.toArray c bytes maxL own Ts D cl tys (mA M s.heap.size) → meth.sig.returnType = ret → meth.locks = false → meth.name = y.name → ∀ ls : Array Slot, mW D cl (mA M s.heap.size) M s.heap → va_S (mA M s.heap.size) s.heap s.heap [] → lv_has ls maxL (lv_args 0 av) →
      W p l e rm s m av.toArray below meth c s.heap [] 0 0 (MQ below (mQ D cl post M s.heap.size) av.toArray s rm.cells rm.slots (mA M s.heap.size)) (F0 m 0 ls [])) : mMet l Ts D cl tys y bytes maxL ret rm av M post := by
  subst ho
  intro sz
  refine Met.ofW (cc := bytes) (maxL := maxL) (ret := ret) hy rfl ?_
  intro p e s m args below meth c s₁ B hml hv
  obtain ⟨rfl, hsz, hM, hK, hX⟩ := hv
  subst hsz
  have hl := lv_entry av (n := maxL) (Nat.le_of_ble_eq_true hlen)
  rw [lg_entry_eq]
  exact body p e s m below meth c ⟨B.exec, B.bytes, hml, findClass_of_methodNamed B.named, fun w hw => atoms_spec (ws := .code y bytes maxL ret :: Ts) B.pre w (List.mem_cons_of_mem _ hw), hK, fun q z => Or.inr z, hX⟩ B.returns B.notSynchronized (name_of_methodNamed B.named B.method).1 _ (hM.self _) va_S.rf hl
def isB (x : Int32) : Prop := narrow .boolean (.int x) = .int x
theorem isB_0 : isB 0 := by unfold isB; decide
theorem isB_1 : isB 1 := by unfold isB; decide
def m_minF (x y : Int32) : Int32 := if y < x then y else x
theorem i32_of {x : Int32} {n : Int} (h : x.toInt = n) : x = Int32.ofInt n := by
  rw [← h, Int32.ofInt_toInt]
theorem tab_out {x : Int32} (lo hi : Int) (h : ∀ k : Int, lo ≤ k → k ≤ hi → ¬ x = Int32.ofInt k) : x.toInt < lo ∨ hi < x.toInt := by
  by_cases h1 : x.toInt < lo
  · exact Or.inl h1
  · by_cases h2 : hi < x.toInt
    · exact Or.inr h2
    · exact absurd (i32_of rfl) (h x.toInt (by omega) (by omega))
section MBODY
variable {p : Program} {l : Launch} {e : Env} {R : Room} {s : State} {m : MethodId} {args : Array Value} {below : List Frame} {meth : Method} {c : Code} {H : Heap} {locs : List Loc} {cells slots : Nat} {Q : State → Prop}
variable {cc : ByteArray} {nL pc : Nat} {own : String} {Ts : List Cond} {ls : Array Slot} {rest : List Value} {D : va_G} {cl : List vw_C} {tys : List (ClassId × FieldType)} {A : Nat → Prop} {M0 M : Mem} {post : Option Value → Mem → Prop}
theorem mr_I (C : Cx p s m args c cc nL own Ts D cl tys (mA M0 s.heap.size)) (hr : meth.sig.returnType = some .int) (hlk : meth.locks = false) (hM : mW D cl (mA M0 s.heap.size) M H) (hS : va_S (mA M0 s.heap.size) s.heap H locs) {v : Int32} (hp : post (some (.int v)) M) (hdg : decode cc pc = .ok (.ireturn, 1)) : W p l e R s m args below meth c H locs cells slots (MQ below (mQ D cl post M0 s.heap.size) args s cells slots (mA M0 s.heap.size)) (F0 m pc ls [.int v]) :=
  W.iret C.1 C.2.1 hr (fun t ht _ => ⟨⟨_, M, rfl, hp, by rw [ht]; exact hM⟩, hS.F ht⟩) hS.2.2 hdg hlk
theorem mr_Z (C : Cx p s m args c cc nL own Ts D cl tys (mA M0 s.heap.size)) (hr : meth.sig.returnType = some .boolean) (hlk : meth.locks = false) {v : Int32} (hn : isB v) (hM : mW D cl (mA M0 s.heap.size) M H) (hS : va_S (mA M0 s.heap.size) s.heap H locs) (hp : post (some (.int v)) M) (hdg : decode cc pc = .ok (.ireturn, 1)) : W p l e R s m args below meth c H locs cells slots (MQ below (mQ D cl post M0 s.heap.size) args s cells slots (mA M0 s.heap.size)) (F0 m pc ls [.int v]) :=
  W.zret C.1 C.2.1 hr hn (fun t ht _ => ⟨⟨_, M, rfl, hp, by rw [ht]; exact hM⟩, hS.F ht⟩) hS.2.2 hdg hlk
theorem mr_L (C : Cx p s m args c cc nL own Ts D cl tys (mA M0 s.heap.size)) (hr : meth.sig.returnType = some .long) (hlk : meth.locks = false) (hM : mW D cl (mA M0 s.heap.size) M H) (hS : va_S (mA M0 s.heap.size) s.heap H locs) {v : Int64} (hp : post (some (.long v)) M) (hdg : decode cc pc = .ok (.lreturn, 1)) : W p l e R s m args below meth c H locs cells slots (MQ below (mQ D cl post M0 s.heap.size) args s cells slots (mA M0 s.heap.size)) (F0 m pc ls [.long v]) :=
  W.lret C.1 C.2.1 hr (fun t ht _ => ⟨⟨_, M, rfl, hp, by rw [ht]; exact hM⟩, hS.F ht⟩) hS.2.2 hdg hlk
theorem mr_V (C : Cx p s m args c cc nL own Ts D cl tys (mA M0 s.heap.size)) (hr : meth.sig.returnType = none) (hlk : meth.locks = false) (hM : mW D cl (mA M0 s.heap.size) M H) (hS : va_S (mA M0 s.heap.size) s.heap H locs) (hp : post none M) (hdg : decode cc pc = .ok (.return_, 1)) : W p l e R s m args below meth c H locs cells slots (MQ below (mQ D cl post M0 s.heap.size) args s cells slots (mA M0 s.heap.size)) (F0 m pc ls []) :=
  W.vret C.1 C.2.1 hr (fun t ht _ => ⟨⟨_, M, rfl, hp, by rw [ht]; exact hM⟩, hS.F ht⟩) hS.2.2 hdg hlk
theorem mr_R (C : Cx p s m args c cc nL own Ts D cl tys (mA M0 s.heap.size)) {rt : FieldType} (hr : meth.sig.returnType = some rt) (hlk : meth.locks = false) (hrt : (∃ n, rt = .object n) ∨ ∃ t, rt = .array t) (hM : mW D cl (mA M0 s.heap.size) M H) (hS : va_S (mA M0 s.heap.size) s.heap H locs) {v : Nat} (hp : post (some (.ref v)) M) (hdg : decode cc pc = .ok (.areturn, 1)) : W p l e R s m args below meth c H locs cells slots (MQ below (mQ D cl post M0 s.heap.size) args s cells slots (mA M0 s.heap.size)) (F0 m pc ls [.ref v]) :=
  W.aret C.1 C.2.1 hr hrt (Or.inr ⟨v, rfl⟩) (fun t ht _ => ⟨⟨_, M, rfl, hp, by rw [ht]; exact hM⟩, hS.F ht⟩) hS.2.2 hdg hlk
theorem mr_Q (C : Cx p s m args c cc nL own Ts D cl tys (mA M0 s.heap.size)) {rt : FieldType} (hr : meth.sig.returnType = some rt) (hlk : meth.locks = false) (hrt : (∃ n, rt = .object n) ∨ ∃ t, rt = .array t) (hM : mW D cl (mA M0 s.heap.size) M H) (hS : va_S (mA M0 s.heap.size) s.heap H locs) {v : Option Nat} (hp : post (some (va_rf v)) M) (hdg : decode cc pc = .ok (.areturn, 1)) : W p l e R s m args below meth c H locs cells slots (MQ below (mQ D cl post M0 s.heap.size) args s cells slots (mA M0 s.heap.size)) (F0 m pc ls [va_rf v]) :=
  W.aret C.1 C.2.1 hr hrt (va_rf_or v) (fun t ht _ => ⟨⟨_, M, rfl, hp, by rw [ht]; exact hM⟩, hS.F ht⟩) hS.2.2 hdg hlk
theorem lq_aload_n (hexec : p.tables.exec = Jvm.exec) (hb : c.code = cc) {k : Fin 4} {i : Nat} {x : Option Nat} (hdg : decode cc pc = .ok (.aload_n k, 1)) (hi : (k : Nat) = i) (hl : ls[i]? = some (.val (va_rf x)))
    (kk : W p l e R s m args below meth c H locs cells slots Q (F0 m (pc + 1) ls (va_rf x :: rest))) : W p l e R s m args below meth c H locs cells slots Q (F0 m pc ls rest) := by
  cases x with
  | none => exact lv_aload_nN hexec hb hdg hi hl kk
  | some x => exact lv_aload_n hexec hb hdg hi hl kk
theorem lq_aload (hexec : p.tables.exec = Jvm.exec) (hb : c.code = cc) {i : Nat} {x : Option Nat} (hdg : decode cc pc = .ok (.aload i, 2)) (hl : ls[i]? = some (.val (va_rf x)))
    (kk : W p l e R s m args below meth c H locs cells slots Q (F0 m (pc + 2) ls (va_rf x :: rest))) : W p l e R s m args below meth c H locs cells slots Q (F0 m pc ls rest) := by
  cases x with
  | none => exact lv_aloadN hexec hb hdg hl kk
  | some x => exact lv_aload hexec hb hdg hl kk
theorem lq_astore_n (hexec : p.tables.exec = Jvm.exec) (hb : c.code = cc) {k : Fin 4} {i nL : Nat} {x : Option Nat} {lv lv' : List (Nat × Value)} (hdg : decode cc pc = .ok (.astore_n k, 1)) (hi : (k : Nat) = i) (h : lv_has ls nL lv) (hn : i < nL) (hl : (i, va_rf x) :: lv.filter (fun q => !(q.1 == i) && !(q.1 + 1 == i && q.2.category == 2)) = lv')
    (kk : ∀ ls' : Array Slot, lv_has ls' nL lv' → W p l e R s m args below meth c H locs cells slots Q (F0 m (pc + 1) ls' rest)) : W p l e R s m args below meth c H locs cells slots Q (F0 m pc ls (va_rf x :: rest)) := by
  cases x with
  | none => exact lv_astore_nN hexec hb hdg hi h hn hl kk
  | some x => exact lv_astore_n hexec hb hdg hi h hn hl kk
theorem lq_astore (hexec : p.tables.exec = Jvm.exec) (hb : c.code = cc) {i nL : Nat} {x : Option Nat} {lv lv' : List (Nat × Value)} (hdg : decode cc pc = .ok (.astore i, 2)) (h : lv_has ls nL lv) (hn : i < nL) (hl : (i, va_rf x) :: lv.filter (fun q => !(q.1 == i) && !(q.1 + 1 == i && q.2.category == 2)) = lv')
    (kk : ∀ ls' : Array Slot, lv_has ls' nL lv' → W p l e R s m args below meth c H locs cells slots Q (F0 m (pc + 2) ls' rest)) : W p l e R s m args below meth c H locs cells slots Q (F0 m pc ls (va_rf x :: rest)) := by
  cases x with
  | none => exact lv_astoreN hexec hb hdg h hn hl kk
  | some x => exact lv_astore hexec hb hdg h hn hl kk
theorem m_objInit (C : Cx p s m args c cc nL own Ts D cl tys A) {idx a : Nat} (k1 : Cond.methodLink own idx objectInit ∈ Ts) (k2 : Cond.instanceMethod objectInit ∈ Ts) (k3 : Cond.code objectInit ⟨#[0xb1]⟩ 1 none ∈ Ts) (hsz : ls.size = nL) (hdg : decode cc pc = .ok (.invokespecial idx, 3)) (hf : 1 ≤ R.frames) (hlo : 20 ≤ R.locals) (hW : (rest.map fun v => v.category).sum ≤ 8)
    (kk : W p l e R s m args below meth c H locs cells slots Q (F0 m (pc + 3) ls rest)) : W p l e R s m args below meth c H locs cells slots Q (F0 m pc ls (.ref a :: rest)) := by
  have hts := C.2.2.2.2.1
  refine W.objInit C.1 C.2.1 C.2.2.2.1 (hts _ k1) (hts _ k2) (hts _ k3) rfl (by rw [C.2.2.1]; exact hsz) rfl hdg hf ?_ kk
  show 2 * 0 + _ + 12 ≤ R.locals
  omega
theorem m_min (C : Cx p s m args c cc nL own Ts D cl tys A) {idx : Nat} (k1 : Cond.methodLink own idx Lib.Math.min.name ∈ Ts) (k2 : Cond.static Lib.Math.min.name ∈ Ts) (k3 : Cond.initialized "java/lang/Math" ∈ Ts) (k4 : Cond.code Lib.Math.min.name Lib.Math.min.code 2 (some .int) ∈ Ts) (hsz : ls.size = nL) (hdg : decode cc pc = .ok (.invokestatic idx, 3)) (hf : 1 ≤ R.frames) (hlo : 21 ≤ R.locals) (hW : (rest.map fun v => v.category).sum ≤ 8) (hc : cells ≤ R.cells) (hs : slots ≤ R.slots) {x y : Int32}
    (kk : W p l e R s m args below meth c H locs cells slots Q (F0 m (pc + 3) ls (.int (m_minF x y) :: rest))) : W p l e R s m args below meth c H locs cells slots Q (F0 m pc ls (.int y :: .int x :: rest)) := by
  have hts := C.2.2.2.2.1
  exact va_mmin C.1 C.2.1 (by rw [C.2.2.1]; exact hsz.symm) C.2.2.2.1 (hts _ k1) (hts _ k2) (hts _ k3) (hts _ k4) hf (by omega) hc hs hdg kk
end MBODY
end
section
abbrev b_Desk_init : ByteArray := prog_1_method_1_code
def y_Desk_init : MethodName := ⟨R_Desk, "<init>", "()V"⟩
abbrev b_Desk_type : ByteArray := prog_1_method_2_code
def y_Desk_type : MethodName := ⟨R_Desk, "type", "(JI)Z"⟩
abbrev b_Desk_bind : ByteArray := prog_1_method_3_code
def y_Desk_bind : MethodName := ⟨R_Desk, "bind", "(I)I"⟩
abbrev b_Desk_fault : ByteArray := prog_1_method_4_code
def y_Desk_fault : MethodName := ⟨R_Desk, "fault", "()I"⟩
abbrev b_Desk_free : ByteArray := prog_1_method_5_code
def y_Desk_free : MethodName := ⟨R_Desk, "free", "(I)Z"⟩
abbrev b_Desk_route : ByteArray := prog_1_method_6_code
def y_Desk_route : MethodName := ⟨R_Desk, "route", "()I"⟩
abbrev b_Desk_keep : ByteArray := prog_1_method_7_code
def y_Desk_keep : MethodName := ⟨R_Desk, "keep", "(I)I"⟩
abbrev b_Desk_lose : ByteArray := prog_1_method_8_code
def y_Desk_lose : MethodName := ⟨R_Desk, "lose", "()Z"⟩
abbrev b_Desk_about : ByteArray := prog_1_method_9_code
def y_Desk_about : MethodName := ⟨R_Desk, "about", "(II)I"⟩
abbrev b_Desk_kept : ByteArray := prog_1_method_10_code
def y_Desk_kept : MethodName := ⟨R_Desk, "kept", "(II)I"⟩
abbrev b_Desk_sign : ByteArray := prog_1_method_11_code
def y_Desk_sign : MethodName := ⟨R_Desk, "sign", "(II)I"⟩
abbrev b_Desk_both : ByteArray := prog_1_method_12_code
def y_Desk_both : MethodName := ⟨R_Desk, "both", "(II)I"⟩
abbrev b_Desk_only : ByteArray := prog_1_method_13_code
def y_Desk_only : MethodName := ⟨R_Desk, "only", "(II)I"⟩
abbrev b_Desk_spare : ByteArray := prog_1_method_14_code
def y_Desk_spare : MethodName := ⟨R_Desk, "spare", "(I)I"⟩
abbrev b_Desk_byteOf : ByteArray := prog_1_method_15_code
def y_Desk_byteOf : MethodName := ⟨R_Desk, "byteOf", "(JI)I"⟩
abbrev b_Desk_isQueue : ByteArray := prog_1_method_16_code
def y_Desk_isQueue : MethodName := ⟨R_Desk, "isQueue", "(I)Z"⟩
abbrev b_Desk_takeTape : ByteArray := prog_1_method_17_code
def y_Desk_takeTape : MethodName := ⟨R_Desk, "takeTape", "(Z)Z"⟩
abbrev b_Desk_leastFreeBinding : ByteArray := prog_1_method_18_code
def y_Desk_leastFreeBinding : MethodName := ⟨R_Desk, "leastFreeBinding", "()I"⟩
abbrev b_Desk_boundAt : ByteArray := prog_1_method_19_code
def y_Desk_boundAt : MethodName := ⟨R_Desk, "boundAt", "(I)LTopicDesk$Binding;"⟩
abbrev b_Desk_fewestWords : ByteArray := prog_1_method_20_code
def y_Desk_fewestWords : MethodName := ⟨R_Desk, "fewestWords", "(IIZ)I"⟩
abbrev b_Desk_isSpare : ByteArray := prog_1_method_21_code
def y_Desk_isSpare : MethodName := ⟨R_Desk, "isSpare", "(II)Z"⟩
abbrev b_Desk_isWithin : ByteArray := prog_1_method_22_code
def y_Desk_isWithin : MethodName := ⟨R_Desk, "isWithin", "(II)Z"⟩
abbrev b_Mod_init : ByteArray := prog_8_method_1_code
def y_Mod_init : MethodName := ⟨R_Mod, "<init>", "()V"⟩
abbrev b_Mod_thrown : ByteArray := prog_8_method_2_code
def y_Mod_thrown : MethodName := ⟨R_Mod, "thrown", "()I"⟩
abbrev b_Mod_raise : ByteArray := prog_8_method_3_code
def y_Mod_raise : MethodName := ⟨R_Mod, "raise", "(I)I"⟩
abbrev b_Mod_type : ByteArray := prog_8_method_4_code
def y_Mod_type : MethodName := ⟨R_Mod, "type", "(JI)Z"⟩
abbrev b_Mod_isSign : ByteArray := prog_8_method_5_code
def y_Mod_isSign : MethodName := ⟨R_Mod, "isSign", "(I)Z"⟩
abbrev b_Mod_reads : ByteArray := prog_8_method_6_code
def y_Mod_reads : MethodName := ⟨R_Mod, "reads", "(Z)Z"⟩
abbrev b_Mod_spread : ByteArray := prog_8_method_7_code
def y_Mod_spread : MethodName := ⟨R_Mod, "spread", "([JIII)I"⟩
abbrev b_Mod_move : ByteArray := prog_8_method_8_code
def y_Mod_move : MethodName := ⟨R_Mod, "move", "([JIIIJ)I"⟩
abbrev b_Mod_moved : ByteArray := prog_8_method_9_code
def y_Mod_moved : MethodName := ⟨R_Mod, "moved", "(IIJ)I"⟩
abbrev b_Mod_first : ByteArray := prog_8_method_10_code
def y_Mod_first : MethodName := ⟨R_Mod, "first", "(I)I"⟩
abbrev b_Mod_isEnd : ByteArray := prog_8_method_11_code
def y_Mod_isEnd : MethodName := ⟨R_Mod, "isEnd", "(II)Z"⟩
abbrev b_Mod_fits : ByteArray := prog_8_method_12_code
def y_Mod_fits : MethodName := ⟨R_Mod, "fits", "(I[JII)Z"⟩
abbrev b_Mod_isBinding : ByteArray := prog_8_method_13_code
def y_Mod_isBinding : MethodName := ⟨R_Mod, "isBinding", "(I)Z"⟩
abbrev b_Mod_isBound : ByteArray := prog_8_method_14_code
def y_Mod_isBound : MethodName := ⟨R_Mod, "isBound", "(I)Z"⟩
abbrev b_Mod_bind : ByteArray := prog_8_method_15_code
def y_Mod_bind : MethodName := ⟨R_Mod, "bind", "(I)I"⟩
abbrev b_Mod_fault : ByteArray := prog_8_method_16_code
def y_Mod_fault : MethodName := ⟨R_Mod, "fault", "()I"⟩
abbrev b_Mod_free : ByteArray := prog_8_method_17_code
def y_Mod_free : MethodName := ⟨R_Mod, "free", "(I)Z"⟩
abbrev b_Mod_route : ByteArray := prog_8_method_18_code
def y_Mod_route : MethodName := ⟨R_Mod, "route", "()I"⟩
abbrev b_Mod_found : ByteArray := prog_8_method_19_code
def y_Mod_found : MethodName := ⟨R_Mod, "found", "()I"⟩
abbrev b_Mod_keep : ByteArray := prog_8_method_20_code
def y_Mod_keep : MethodName := ⟨R_Mod, "keep", "(I)I"⟩
abbrev b_Mod_lose : ByteArray := prog_8_method_21_code
def y_Mod_lose : MethodName := ⟨R_Mod, "lose", "()Z"⟩
abbrev b_Mod_fitsKept : ByteArray := prog_8_method_22_code
def y_Mod_fitsKept : MethodName := ⟨R_Mod, "fitsKept", "(II)Z"⟩
abbrev b_Mod_about : ByteArray := prog_8_method_23_code
def y_Mod_about : MethodName := ⟨R_Mod, "about", "(II)I"⟩
abbrev b_Mod_isAhead : ByteArray := prog_8_method_24_code
def y_Mod_isAhead : MethodName := ⟨R_Mod, "isAhead", "(II)Z"⟩
abbrev b_Mod_kept : ByteArray := prog_8_method_25_code
def y_Mod_kept : MethodName := ⟨R_Mod, "kept", "(II)I"⟩
abbrev b_Mod_sign : ByteArray := prog_8_method_26_code
def y_Mod_sign : MethodName := ⟨R_Mod, "sign", "(II)I"⟩
abbrev b_Mod_fewest : ByteArray := prog_8_method_27_code
def y_Mod_fewest : MethodName := ⟨R_Mod, "fewest", "(IIZ)I"⟩
abbrev b_Mod_wordOf : ByteArray := prog_8_method_28_code
def y_Mod_wordOf : MethodName := ⟨R_Mod, "wordOf", "(III)J"⟩
abbrev b_Mod_both : ByteArray := prog_8_method_29_code
def y_Mod_both : MethodName := ⟨R_Mod, "both", "(II)I"⟩
abbrev b_Mod_only : ByteArray := prog_8_method_30_code
def y_Mod_only : MethodName := ⟨R_Mod, "only", "(II)I"⟩
abbrev b_Mod_spare : ByteArray := prog_8_method_31_code
def y_Mod_spare : MethodName := ⟨R_Mod, "spare", "(I)I"⟩
abbrev b_Bnd_init : ByteArray := prog_2_method_1_code
def y_Bnd_init : MethodName := ⟨R_Bnd, "<init>", "()V"⟩
abbrev b_Bnd_isBound : ByteArray := prog_2_method_2_code
def y_Bnd_isBound : MethodName := ⟨R_Bnd, "isBound", "()Z"⟩
abbrev b_Bnd_pattern : ByteArray := prog_2_method_3_code
def y_Bnd_pattern : MethodName := ⟨R_Bnd, "pattern", "()LTopicDesk$Text;"⟩
abbrev b_Bnd_queue : ByteArray := prog_2_method_4_code
def y_Bnd_queue : MethodName := ⟨R_Bnd, "queue", "()I"⟩
abbrev b_Bnd_routed : ByteArray := prog_2_method_5_code
def y_Bnd_routed : MethodName := ⟨R_Bnd, "routed", "()I"⟩
abbrev b_Bnd_tie : ByteArray := prog_2_method_6_code
def y_Bnd_tie : MethodName := ⟨R_Bnd, "tie", "(LTopicDesk$Text;I)V"⟩
abbrev b_Bnd_untie : ByteArray := prog_2_method_7_code
def y_Bnd_untie : MethodName := ⟨R_Bnd, "untie", "()V"⟩
abbrev b_Bnd_countRouted : ByteArray := prog_2_method_8_code
def y_Bnd_countRouted : MethodName := ⟨R_Bnd, "countRouted", "()V"⟩
abbrev b_Kt_init : ByteArray := prog_3_method_1_code
def y_Kt_init : MethodName := ⟨R_Kt, "<init>", "()V"⟩
abbrev b_Kt_text : ByteArray := prog_3_method_2_code
def y_Kt_text : MethodName := ⟨R_Kt, "text", "()LTopicDesk$Text;"⟩
abbrev b_Kt_value : ByteArray := prog_3_method_3_code
def y_Kt_value : MethodName := ⟨R_Kt, "value", "()I"⟩
abbrev b_Kt_setText : ByteArray := prog_3_method_4_code
def y_Kt_setText : MethodName := ⟨R_Kt, "setText", "(LTopicDesk$Text;)V"⟩
abbrev b_Kt_setValue : ByteArray := prog_3_method_5_code
def y_Kt_setValue : MethodName := ⟨R_Kt, "setValue", "(I)V"⟩
abbrev b_Rs_init : ByteArray := prog_4_method_1_code
def y_Rs_init : MethodName := ⟨R_Rs, "<init>", "()V"⟩
abbrev b_Rs_fewestWords : ByteArray := prog_4_method_2_code
def y_Rs_fewestWords : MethodName := ⟨R_Rs, "fewestWords", "(LTopicDesk$Text;LTopicDesk$Text;Z)I"⟩
abbrev b_Rs_collectWords : ByteArray := prog_4_method_3_code
def y_Rs_collectWords : MethodName := ⟨R_Rs, "collectWords", "(LTopicDesk$Text;LTopicDesk$Text;)V"⟩
abbrev b_Rs_addWord : ByteArray := prog_4_method_4_code
def y_Rs_addWord : MethodName := ⟨R_Rs, "addWord", "(J)V"⟩
abbrev b_Rs_addStates : ByteArray := prog_4_method_5_code
def y_Rs_addStates : MethodName := ⟨R_Rs, "addStates", "(III)V"⟩
abbrev b_Rs_addState : ByteArray := prog_4_method_6_code
def y_Rs_addState : MethodName := ⟨R_Rs, "addState", "(II)V"⟩
abbrev b_Shelf_init : ByteArray := prog_5_method_1_code
def y_Shelf_init : MethodName := ⟨R_Shelf, "<init>", "()V"⟩
abbrev b_Shelf_size : ByteArray := prog_5_method_2_code
def y_Shelf_size : MethodName := ⟨R_Shelf, "size", "()I"⟩
abbrev b_Shelf_put : ByteArray := prog_5_method_3_code
def y_Shelf_put : MethodName := ⟨R_Shelf, "put", "(LTopicDesk$Text;I)Z"⟩
abbrev b_Shelf_drop : ByteArray := prog_5_method_4_code
def y_Shelf_drop : MethodName := ⟨R_Shelf, "drop", "(LTopicDesk$Text;)Z"⟩
abbrev b_Shelf_countTakenBy : ByteArray := prog_5_method_5_code
def y_Shelf_countTakenBy : MethodName := ⟨R_Shelf, "countTakenBy", "(LTopicDesk$Text;)I"⟩
abbrev b_Shelf_takenBy : ByteArray := prog_5_method_6_code
def y_Shelf_takenBy : MethodName := ⟨R_Shelf, "takenBy", "(LTopicDesk$Text;I)LTopicDesk$KeptTopic;"⟩
abbrev b_Shelf_placeFor : ByteArray := prog_5_method_7_code
def y_Shelf_placeFor : MethodName := ⟨R_Shelf, "placeFor", "(LTopicDesk$Text;)I"⟩
abbrev b_Shelf_isAt : ByteArray := prog_5_method_8_code
def y_Shelf_isAt : MethodName := ⟨R_Shelf, "isAt", "(ILTopicDesk$Text;)Z"⟩
abbrev b_Shelf_move : ByteArray := prog_5_method_9_code
def y_Shelf_move : MethodName := ⟨R_Shelf, "move", "(II)V"⟩
abbrev b_Text_init : ByteArray := prog_6_method_1_code
def y_Text_init : MethodName := ⟨R_Text, "<init>", "()V"⟩
abbrev b_Text_length : ByteArray := prog_6_method_2_code
def y_Text_length : MethodName := ⟨R_Text, "length", "()I"⟩
abbrev b_Text_partCount : ByteArray := prog_6_method_3_code
def y_Text_partCount : MethodName := ⟨R_Text, "partCount", "()I"⟩
abbrev b_Text_signAt : ByteArray := prog_6_method_4_code
def y_Text_signAt : MethodName := ⟨R_Text, "signAt", "(I)I"⟩
abbrev b_Text_partAt : ByteArray := prog_6_method_5_code
def y_Text_partAt : MethodName := ⟨R_Text, "partAt", "(I)J"⟩
abbrev b_Text_add : ByteArray := prog_6_method_6_code
def y_Text_add : MethodName := ⟨R_Text, "add", "(I)V"⟩
abbrev b_Text_clear : ByteArray := prog_6_method_7_code
def y_Text_clear : MethodName := ⟨R_Text, "clear", "()V"⟩
abbrev b_Text_copy : ByteArray := prog_6_method_8_code
def y_Text_copy : MethodName := ⟨R_Text, "copy", "(LTopicDesk$Text;)V"⟩
abbrev b_Text_read : ByteArray := prog_6_method_9_code
def y_Text_read : MethodName := ⟨R_Text, "read", "(Z)I"⟩
abbrev b_Text_compareSigns : ByteArray := prog_6_method_10_code
def y_Text_compareSigns : MethodName := ⟨R_Text, "compareSigns", "(LTopicDesk$Text;)I"⟩
abbrev b_Text_takes : ByteArray := prog_6_method_11_code
def y_Text_takes : MethodName := ⟨R_Text, "takes", "(LTopicDesk$Text;)Z"⟩
abbrev b_Text_startPlaces : ByteArray := prog_6_method_12_code
def y_Text_startPlaces : MethodName := ⟨R_Text, "startPlaces", "()I"⟩
abbrev b_Text_placesBehind : ByteArray := prog_6_method_13_code
def y_Text_placesBehind : MethodName := ⟨R_Text, "placesBehind", "(IJ)I"⟩
abbrev b_Text_hasEnd : ByteArray := prog_6_method_14_code
def y_Text_hasEnd : MethodName := ⟨R_Text, "hasEnd", "(I)Z"⟩
abbrev b_Text_addPart : ByteArray := prog_6_method_15_code
def y_Text_addPart : MethodName := ⟨R_Text, "addPart", "(J)V"⟩
abbrev b_Text_canStand : ByteArray := prog_6_method_16_code
def y_Text_canStand : MethodName := ⟨R_Text, "canStand", "(IIZ)Z"⟩
abbrev b_Text_isWild : ByteArray := prog_6_method_17_code
def y_Text_isWild : MethodName := ⟨R_Text, "isWild", "(I)Z"⟩
abbrev b_Text_isWordSign : ByteArray := prog_6_method_18_code
def y_Text_isWordSign : MethodName := ⟨R_Text, "isWordSign", "(I)Z"⟩
abbrev b_Law_bind : ByteArray := method_3_code
def y_Law_bind : MethodName := ⟨R_Law, "bind", "(LTopicDesk;I[J)I"⟩
abbrev b_Law_route : ByteArray := method_4_code
def y_Law_route : MethodName := ⟨R_Law, "route", "(LTopicDesk;[J)I"⟩
abbrev b_Law_keep : ByteArray := method_5_code
def y_Law_keep : MethodName := ⟨R_Law, "keep", "(LTopicDesk;I[J)I"⟩
abbrev b_Law_lose : ByteArray := method_6_code
def y_Law_lose : MethodName := ⟨R_Law, "lose", "(LTopicDesk;[J)I"⟩
abbrev b_Law_kept : ByteArray := method_7_code
def y_Law_kept : MethodName := ⟨R_Law, "kept", "(LTopicDesk;II[J)I"⟩
abbrev b_Arr_fill : ByteArray := prog_16_method_101_code
def y_Arr_fill : MethodName := ⟨R_Arr, "fill", "([JJ)V"⟩
theorem ok_Desk : clsOk vwCl BIG 0 R_Desk F_Desk 6 t_Desk := ⟨rfl, by decide +kernel, by decide +kernel, by decide +kernel⟩
theorem ok_Text : clsOk vwCl BIG 1 R_Text F_Text 4 t_Text := ⟨rfl, by decide +kernel, by decide +kernel, by decide +kernel⟩
theorem ok_Bnd : clsOk vwCl BIG 2 R_Bnd F_Bnd 3 t_Bnd := ⟨rfl, by decide +kernel, by decide +kernel, by decide +kernel⟩
theorem ok_Kt : clsOk vwCl BIG 3 R_Kt F_Kt 2 t_Kt := ⟨rfl, by decide +kernel, by decide +kernel, by decide +kernel⟩
theorem ok_Shelf : clsOk vwCl BIG 4 R_Shelf F_Shelf 2 t_Shelf := ⟨rfl, by decide +kernel, by decide +kernel, by decide +kernel⟩
theorem ok_Rs : clsOk vwCl BIG 5 R_Rs F_Rs 5 t_Rs := ⟨rfl, by decide +kernel, by decide +kernel, by decide +kernel⟩
theorem ok_Mod : clsOk vwCl BIG 6 R_Mod F_Mod 23 t_Mod := ⟨rfl, by decide +kernel, by decide +kernel, by decide +kernel⟩
theorem bigGood : goodAll BIG := fun w hw => good_of_word (List.mem_filter.mp hw).2
theorem kw0 : Cond.fieldLink R_Desk 40 "TopicDesk" "latestFault" "I" ∈ BIG := List.mem_filter.mpr ⟨List.mem_of_getElem? (i := 149) (by decide +kernel), rfl⟩
theorem kw1 : Cond.fieldLink R_Mod 24 "TopicDeskModel" "queue" "[I" ∈ BIG := List.mem_filter.mpr ⟨List.mem_of_getElem? (i := 560) (by decide +kernel), rfl⟩
theorem kw2 : Cond.methodLink R_Mod 1 objectInit ∈ BIG := List.mem_filter.mpr ⟨List.mem_of_getElem? (i := 551) (by decide +kernel), rfl⟩
theorem kw3 : Cond.instanceMethod objectInit ∈ BIG := List.mem_filter.mpr ⟨List.mem_of_getElem? (i := 50) (by decide +kernel), rfl⟩
theorem kw4 : Cond.code objectInit ⟨#[0xb1]⟩ 1 none ∈ BIG := List.mem_filter.mpr ⟨List.mem_of_getElem? (i := 51) (by decide +kernel), rfl⟩
theorem kw5 : Cond.arrayClass .int ∈ BIG := List.mem_filter.mpr ⟨List.mem_of_getElem? (i := 143) (by decide +kernel), rfl⟩
theorem kw6 : Cond.fieldLink R_Mod 7 "TopicDeskModel" "tape" "[I" ∈ BIG := List.mem_filter.mpr ⟨List.mem_of_getElem? (i := 553) (by decide +kernel), rfl⟩
theorem kw7 : Cond.fieldLink R_Mod 13 "TopicDeskModel" "fault" "I" ∈ BIG := List.mem_filter.mpr ⟨List.mem_of_getElem? (i := 555) (by decide +kernel), rfl⟩
theorem kw8 : Cond.arrayClass .long ∈ BIG := List.mem_filter.mpr ⟨List.mem_of_getElem? (i := 72) (by decide +kernel), rfl⟩
theorem kw9 : Cond.fieldLink R_Mod 17 "TopicDeskModel" "parts" "[J" ∈ BIG := List.mem_filter.mpr ⟨List.mem_of_getElem? (i := 556) (by decide +kernel), rfl⟩
theorem kw10 : Cond.fieldLink R_Mod 21 "TopicDeskModel" "readText" "[I" ∈ BIG := List.mem_filter.mpr ⟨List.mem_of_getElem? (i := 559) (by decide +kernel), rfl⟩
theorem kw11 : Cond.fieldLink R_Mod 27 "TopicDeskModel" "hits" "[I" ∈ BIG := List.mem_filter.mpr ⟨List.mem_of_getElem? (i := 561) (by decide +kernel), rfl⟩
theorem kw12 : Cond.fieldLink R_Mod 30 "TopicDeskModel" "bound" "[J" ∈ BIG := List.mem_filter.mpr ⟨List.mem_of_getElem? (i := 562) (by decide +kernel), rfl⟩
theorem kw13 : Cond.fieldLink R_Mod 33 "TopicDeskModel" "boundMany" "[I" ∈ BIG := List.mem_filter.mpr ⟨List.mem_of_getElem? (i := 563) (by decide +kernel), rfl⟩
theorem kw14 : Cond.fieldLink R_Mod 36 "TopicDeskModel" "boundText" "[I" ∈ BIG := List.mem_filter.mpr ⟨List.mem_of_getElem? (i := 564) (by decide +kernel), rfl⟩
theorem kw15 : Cond.fieldLink R_Mod 39 "TopicDeskModel" "boundLong" "[I" ∈ BIG := List.mem_filter.mpr ⟨List.mem_of_getElem? (i := 565) (by decide +kernel), rfl⟩
theorem kw16 : Cond.fieldLink R_Mod 42 "TopicDeskModel" "values" "[I" ∈ BIG := List.mem_filter.mpr ⟨List.mem_of_getElem? (i := 567) (by decide +kernel), rfl⟩
theorem kw17 : Cond.fieldLink R_Mod 45 "TopicDeskModel" "topics" "[J" ∈ BIG := List.mem_filter.mpr ⟨List.mem_of_getElem? (i := 568) (by decide +kernel), rfl⟩
theorem kw18 : Cond.fieldLink R_Mod 48 "TopicDeskModel" "topicMany" "[I" ∈ BIG := List.mem_filter.mpr ⟨List.mem_of_getElem? (i := 569) (by decide +kernel), rfl⟩
theorem kw19 : Cond.fieldLink R_Mod 51 "TopicDeskModel" "topicText" "[I" ∈ BIG := List.mem_filter.mpr ⟨List.mem_of_getElem? (i := 570) (by decide +kernel), rfl⟩
theorem kw20 : Cond.fieldLink R_Mod 54 "TopicDeskModel" "topicLong" "[I" ∈ BIG := List.mem_filter.mpr ⟨List.mem_of_getElem? (i := 571) (by decide +kernel), rfl⟩
theorem kw21 : Cond.fieldLink R_Mod 57 "TopicDeskModel" "seen" "[I" ∈ BIG := List.mem_filter.mpr ⟨List.mem_of_getElem? (i := 572) (by decide +kernel), rfl⟩
theorem kw22 : Cond.fieldLink R_Mod 60 "TopicDeskModel" "row" "[I" ∈ BIG := List.mem_filter.mpr ⟨List.mem_of_getElem? (i := 574) (by decide +kernel), rfl⟩
theorem kw23 : Cond.fieldLink R_Mod 63 "TopicDeskModel" "thrown" "I" ∈ BIG := List.mem_filter.mpr ⟨List.mem_of_getElem? (i := 552) (by decide +kernel), rfl⟩
theorem kw24 : Cond.fieldLink R_Mod 66 "TopicDeskModel" "taped" "I" ∈ BIG := List.mem_filter.mpr ⟨List.mem_of_getElem? (i := 554) (by decide +kernel), rfl⟩
theorem kw25 : Cond.constantLong R_Mod 69 (255 : Int64) ∈ BIG := List.mem_filter.mpr ⟨List.mem_of_getElem? (i := 630) (by decide +kernel), rfl⟩
theorem kw26 : Cond.fieldLink R_Mod 71 "TopicDeskModel" "partMany" "I" ∈ BIG := List.mem_filter.mpr ⟨List.mem_of_getElem? (i := 557) (by decide +kernel), rfl⟩
theorem kw27 : Cond.methodLink R_Mod 78 y_Mod_isSign ∈ BIG := List.mem_filter.mpr ⟨List.mem_of_getElem? (i := 641) (by decide +kernel), rfl⟩
theorem kw28 : Cond.code y_Mod_isSign b_Mod_isSign 1 (some .boolean) ∈ BIG := List.mem_filter.mpr ⟨List.mem_of_getElem? (i := 643) (by decide +kernel), rfl⟩
theorem kw29 : Cond.initialized R_Mod ∈ BIG := List.mem_filter.mpr ⟨List.mem_of_getElem? (i := 35) (by decide +kernel), rfl⟩
theorem kw30 : Cond.static y_Mod_isSign ∈ BIG := List.mem_filter.mpr ⟨List.mem_of_getElem? (i := 642) (by decide +kernel), rfl⟩
theorem kw31 : Cond.constantLong R_Mod 76 (-2 : Int64) ∈ BIG := List.mem_filter.mpr ⟨List.mem_of_getElem? (i := 640) (by decide +kernel), rfl⟩
theorem kw32 : Cond.constantLong R_Mod 74 (-1 : Int64) ∈ BIG := List.mem_filter.mpr ⟨List.mem_of_getElem? (i := 639) (by decide +kernel), rfl⟩
theorem kw33 : Cond.fieldLink R_Mod 82 "TopicDeskModel" "readLong" "I" ∈ BIG := List.mem_filter.mpr ⟨List.mem_of_getElem? (i := 558) (by decide +kernel), rfl⟩
theorem kw34 : Cond.methodLink R_Mod 85 y_Mod_spread ∈ BIG := List.mem_filter.mpr ⟨List.mem_of_getElem? (i := 675) (by decide +kernel), rfl⟩
theorem kw35 : Cond.code y_Mod_spread b_Mod_spread 6 (some .int) ∈ BIG := List.mem_filter.mpr ⟨List.mem_of_getElem? (i := 677) (by decide +kernel), rfl⟩
theorem kw36 : Cond.static y_Mod_spread ∈ BIG := List.mem_filter.mpr ⟨List.mem_of_getElem? (i := 676) (by decide +kernel), rfl⟩
theorem kw37 : Cond.methodLink R_Mod 89 y_Mod_move ∈ BIG := List.mem_filter.mpr ⟨List.mem_of_getElem? (i := 682) (by decide +kernel), rfl⟩
theorem kw38 : Cond.code y_Mod_move b_Mod_move 10 (some .int) ∈ BIG := List.mem_filter.mpr ⟨List.mem_of_getElem? (i := 684) (by decide +kernel), rfl⟩
theorem kw39 : Cond.static y_Mod_move ∈ BIG := List.mem_filter.mpr ⟨List.mem_of_getElem? (i := 683) (by decide +kernel), rfl⟩
theorem kw40 : Cond.methodLink R_Mod 101 y_Mod_isEnd ∈ BIG := List.mem_filter.mpr ⟨List.mem_of_getElem? (i := 685) (by decide +kernel), rfl⟩
theorem kw41 : Cond.code y_Mod_isEnd b_Mod_isEnd 3 (some .boolean) ∈ BIG := List.mem_filter.mpr ⟨List.mem_of_getElem? (i := 688) (by decide +kernel), rfl⟩
theorem kw42 : Cond.instanceMethod y_Mod_isEnd ∈ BIG := List.mem_filter.mpr ⟨List.mem_of_getElem? (i := 687) (by decide +kernel), rfl⟩
theorem kw43 : Cond.selects R_Mod y_Mod_isEnd y_Mod_isEnd ∈ BIG := List.mem_filter.mpr ⟨List.mem_of_getElem? (i := 22) (by decide +kernel), rfl⟩
theorem kw44 : Cond.methodLink R_Mod 97 y_Mod_moved ∈ BIG := List.mem_filter.mpr ⟨List.mem_of_getElem? (i := 678) (by decide +kernel), rfl⟩
theorem kw45 : Cond.code y_Mod_moved b_Mod_moved 5 (some .int) ∈ BIG := List.mem_filter.mpr ⟨List.mem_of_getElem? (i := 681) (by decide +kernel), rfl⟩
theorem kw46 : Cond.instanceMethod y_Mod_moved ∈ BIG := List.mem_filter.mpr ⟨List.mem_of_getElem? (i := 680) (by decide +kernel), rfl⟩
theorem kw47 : Cond.selects R_Mod y_Mod_moved y_Mod_moved ∈ BIG := List.mem_filter.mpr ⟨List.mem_of_getElem? (i := 21) (by decide +kernel), rfl⟩
theorem kw48 : Cond.methodLink R_Mod 93 y_Mod_first ∈ BIG := List.mem_filter.mpr ⟨List.mem_of_getElem? (i := 671) (by decide +kernel), rfl⟩
theorem kw49 : Cond.code y_Mod_first b_Mod_first 2 (some .int) ∈ BIG := List.mem_filter.mpr ⟨List.mem_of_getElem? (i := 674) (by decide +kernel), rfl⟩
theorem kw50 : Cond.instanceMethod y_Mod_first ∈ BIG := List.mem_filter.mpr ⟨List.mem_of_getElem? (i := 673) (by decide +kernel), rfl⟩
theorem kw51 : Cond.selects R_Mod y_Mod_first y_Mod_first ∈ BIG := List.mem_filter.mpr ⟨List.mem_of_getElem? (i := 20) (by decide +kernel), rfl⟩
theorem kw52 : Cond.methodLink R_Mod 105 y_Mod_isBinding ∈ BIG := List.mem_filter.mpr ⟨List.mem_of_getElem? (i := 660) (by decide +kernel), rfl⟩
theorem kw53 : Cond.code y_Mod_isBinding b_Mod_isBinding 1 (some .boolean) ∈ BIG := List.mem_filter.mpr ⟨List.mem_of_getElem? (i := 662) (by decide +kernel), rfl⟩
theorem kw54 : Cond.static y_Mod_isBinding ∈ BIG := List.mem_filter.mpr ⟨List.mem_of_getElem? (i := 661) (by decide +kernel), rfl⟩
theorem kw55 : Cond.methodLink R_Mod 112 y_Mod_raise ∈ BIG := List.mem_filter.mpr ⟨List.mem_of_getElem? (i := 644) (by decide +kernel), rfl⟩
theorem kw56 : Cond.code y_Mod_raise b_Mod_raise 2 (some .int) ∈ BIG := List.mem_filter.mpr ⟨List.mem_of_getElem? (i := 647) (by decide +kernel), rfl⟩
theorem kw57 : Cond.instanceMethod y_Mod_raise ∈ BIG := List.mem_filter.mpr ⟨List.mem_of_getElem? (i := 646) (by decide +kernel), rfl⟩
theorem kw58 : Cond.selects R_Mod y_Mod_raise y_Mod_raise ∈ BIG := List.mem_filter.mpr ⟨List.mem_of_getElem? (i := 17) (by decide +kernel), rfl⟩
theorem kw59 : Cond.methodLink R_Mod 108 y_Mod_reads ∈ BIG := List.mem_filter.mpr ⟨List.mem_of_getElem? (i := 635) (by decide +kernel), rfl⟩
theorem kw60 : Cond.code y_Mod_reads b_Mod_reads 8 (some .boolean) ∈ BIG := List.mem_filter.mpr ⟨List.mem_of_getElem? (i := 638) (by decide +kernel), rfl⟩
theorem kw61 : Cond.instanceMethod y_Mod_reads ∈ BIG := List.mem_filter.mpr ⟨List.mem_of_getElem? (i := 637) (by decide +kernel), rfl⟩
theorem kw62 : Cond.selects R_Mod y_Mod_reads y_Mod_reads ∈ BIG := List.mem_filter.mpr ⟨List.mem_of_getElem? (i := 16) (by decide +kernel), rfl⟩
theorem kw63 : Cond.methodLink R_Mod 115 y_Mod_isBound ∈ BIG := List.mem_filter.mpr ⟨List.mem_of_getElem? (i := 656) (by decide +kernel), rfl⟩
theorem kw64 : Cond.code y_Mod_isBound b_Mod_isBound 2 (some .boolean) ∈ BIG := List.mem_filter.mpr ⟨List.mem_of_getElem? (i := 659) (by decide +kernel), rfl⟩
theorem kw65 : Cond.instanceMethod y_Mod_isBound ∈ BIG := List.mem_filter.mpr ⟨List.mem_of_getElem? (i := 658) (by decide +kernel), rfl⟩
theorem kw66 : Cond.selects R_Mod y_Mod_isBound y_Mod_isBound ∈ BIG := List.mem_filter.mpr ⟨List.mem_of_getElem? (i := 18) (by decide +kernel), rfl⟩
theorem kw67 : Cond.methodLink R_Mod 118 y_Mod_fits ∈ BIG := List.mem_filter.mpr ⟨List.mem_of_getElem? (i := 667) (by decide +kernel), rfl⟩
theorem kw68 : Cond.code y_Mod_fits b_Mod_fits 7 (some .boolean) ∈ BIG := List.mem_filter.mpr ⟨List.mem_of_getElem? (i := 670) (by decide +kernel), rfl⟩
theorem kw69 : Cond.instanceMethod y_Mod_fits ∈ BIG := List.mem_filter.mpr ⟨List.mem_of_getElem? (i := 669) (by decide +kernel), rfl⟩
theorem kw70 : Cond.selects R_Mod y_Mod_fits y_Mod_fits ∈ BIG := List.mem_filter.mpr ⟨List.mem_of_getElem? (i := 19) (by decide +kernel), rfl⟩
theorem kw71 : Cond.fieldLink R_Mod 122 "TopicDeskModel" "keptMany" "I" ∈ BIG := List.mem_filter.mpr ⟨List.mem_of_getElem? (i := 566) (by decide +kernel), rfl⟩
theorem kw72 : Cond.methodLink R_Mod 125 y_Mod_found ∈ BIG := List.mem_filter.mpr ⟨List.mem_of_getElem? (i := 693) (by decide +kernel), rfl⟩
theorem kw73 : Cond.code y_Mod_found b_Mod_found 4 (some .int) ∈ BIG := List.mem_filter.mpr ⟨List.mem_of_getElem? (i := 696) (by decide +kernel), rfl⟩
theorem kw74 : Cond.instanceMethod y_Mod_found ∈ BIG := List.mem_filter.mpr ⟨List.mem_of_getElem? (i := 695) (by decide +kernel), rfl⟩
theorem kw75 : Cond.selects R_Mod y_Mod_found y_Mod_found ∈ BIG := List.mem_filter.mpr ⟨List.mem_of_getElem? (i := 23) (by decide +kernel), rfl⟩
theorem kw76 : Cond.methodLink R_Mod 129 y_Mod_fitsKept ∈ BIG := List.mem_filter.mpr ⟨List.mem_of_getElem? (i := 705) (by decide +kernel), rfl⟩
theorem kw77 : Cond.code y_Mod_fitsKept b_Mod_fitsKept 3 (some .boolean) ∈ BIG := List.mem_filter.mpr ⟨List.mem_of_getElem? (i := 708) (by decide +kernel), rfl⟩
theorem kw78 : Cond.instanceMethod y_Mod_fitsKept ∈ BIG := List.mem_filter.mpr ⟨List.mem_of_getElem? (i := 707) (by decide +kernel), rfl⟩
theorem kw79 : Cond.selects R_Mod y_Mod_fitsKept y_Mod_fitsKept ∈ BIG := List.mem_filter.mpr ⟨List.mem_of_getElem? (i := 24) (by decide +kernel), rfl⟩
theorem kw80 : Cond.methodLink R_Mod 132 y_Mod_isAhead ∈ BIG := List.mem_filter.mpr ⟨List.mem_of_getElem? (i := 713) (by decide +kernel), rfl⟩
theorem kw81 : Cond.code y_Mod_isAhead b_Mod_isAhead 4 (some .boolean) ∈ BIG := List.mem_filter.mpr ⟨List.mem_of_getElem? (i := 716) (by decide +kernel), rfl⟩
theorem kw82 : Cond.instanceMethod y_Mod_isAhead ∈ BIG := List.mem_filter.mpr ⟨List.mem_of_getElem? (i := 715) (by decide +kernel), rfl⟩
theorem kw83 : Cond.selects R_Mod y_Mod_isAhead y_Mod_isAhead ∈ BIG := List.mem_filter.mpr ⟨List.mem_of_getElem? (i := 25) (by decide +kernel), rfl⟩
theorem kw84 : Cond.fieldLink R_Bnd 18 "TopicDesk$Binding" "queue" "I" ∈ BIG := List.mem_filter.mpr ⟨List.mem_of_getElem? (i := 83) (by decide +kernel), rfl⟩
theorem kw85 : Cond.fieldLink R_Bnd 12 "TopicDesk$Binding" "pattern" "LTopicDesk$Text;" ∈ BIG := List.mem_filter.mpr ⟨List.mem_of_getElem? (i := 82) (by decide +kernel), rfl⟩
theorem kw86 : Cond.fieldLink R_Bnd 22 "TopicDesk$Binding" "routed" "I" ∈ BIG := List.mem_filter.mpr ⟨List.mem_of_getElem? (i := 84) (by decide +kernel), rfl⟩
theorem kw87 : Cond.fieldLink R_Kt 10 "TopicDesk$KeptTopic" "text" "LTopicDesk$Text;" ∈ BIG := List.mem_filter.mpr ⟨List.mem_of_getElem? (i := 107) (by decide +kernel), rfl⟩
theorem kw88 : Cond.fieldLink R_Kt 16 "TopicDesk$KeptTopic" "value" "I" ∈ BIG := List.mem_filter.mpr ⟨List.mem_of_getElem? (i := 108) (by decide +kernel), rfl⟩
theorem kw89 : Cond.methodLink R_Rs 5 objectInit ∈ BIG := List.mem_filter.mpr ⟨List.mem_of_getElem? (i := 126) (by decide +kernel), rfl⟩
theorem kw90 : Cond.fieldLink R_Rs 11 "TopicDesk$RowSearch" "waiting" "[I" ∈ BIG := List.mem_filter.mpr ⟨List.mem_of_getElem? (i := 127) (by decide +kernel), rfl⟩
theorem kw91 : Cond.fieldLink R_Rs 15 "TopicDesk$RowSearch" "seen" "[J" ∈ BIG := List.mem_filter.mpr ⟨List.mem_of_getElem? (i := 128) (by decide +kernel), rfl⟩
theorem kw92 : Cond.fieldLink R_Rs 19 "TopicDesk$RowSearch" "words" "[J" ∈ BIG := List.mem_filter.mpr ⟨List.mem_of_getElem? (i := 129) (by decide +kernel), rfl⟩
theorem kw93 : Cond.fieldLink R_Rs 22 "TopicDesk$RowSearch" "waitingCount" "I" ∈ BIG := List.mem_filter.mpr ⟨List.mem_of_getElem? (i := 130) (by decide +kernel), rfl⟩
theorem kw94 : Cond.fieldLink R_Rs 26 "TopicDesk$RowSearch" "wordCount" "I" ∈ BIG := List.mem_filter.mpr ⟨List.mem_of_getElem? (i := 131) (by decide +kernel), rfl⟩
theorem kw95 : Cond.constantLong R_Rs 68 (42 : Int64) ∈ BIG := List.mem_filter.mpr ⟨List.mem_of_getElem? (i := 272) (by decide +kernel), rfl⟩
theorem kw96 : Cond.constantLong R_Rs 70 (35 : Int64) ∈ BIG := List.mem_filter.mpr ⟨List.mem_of_getElem? (i := 273) (by decide +kernel), rfl⟩
theorem kw97 : Cond.fieldLink R_Shelf 18 "TopicDesk$Shelf" "size" "I" ∈ BIG := List.mem_filter.mpr ⟨List.mem_of_getElem? (i := 115) (by decide +kernel), rfl⟩
theorem kw98 : Cond.fieldLink R_Shelf 11 "TopicDesk$Shelf" "topics" "[LTopicDesk$KeptTopic;" ∈ BIG := List.mem_filter.mpr ⟨List.mem_of_getElem? (i := 114) (by decide +kernel), rfl⟩
theorem kw99 : Cond.methodLink R_Text 3 objectInit ∈ BIG := List.mem_filter.mpr ⟨List.mem_of_getElem? (i := 57) (by decide +kernel), rfl⟩
theorem kw100 : Cond.arrayClass .byte ∈ BIG := List.mem_filter.mpr ⟨List.mem_of_getElem? (i := 71) (by decide +kernel), rfl⟩
theorem kw101 : Cond.fieldLink R_Text 9 "TopicDesk$Text" "signs" "[B" ∈ BIG := List.mem_filter.mpr ⟨List.mem_of_getElem? (i := 58) (by decide +kernel), rfl⟩
theorem kw102 : Cond.fieldLink R_Text 15 "TopicDesk$Text" "parts" "[J" ∈ BIG := List.mem_filter.mpr ⟨List.mem_of_getElem? (i := 59) (by decide +kernel), rfl⟩
theorem kw103 : Cond.fieldLink R_Text 19 "TopicDesk$Text" "length" "I" ∈ BIG := List.mem_filter.mpr ⟨List.mem_of_getElem? (i := 60) (by decide +kernel), rfl⟩
theorem kw104 : Cond.fieldLink R_Text 23 "TopicDesk$Text" "partCount" "I" ∈ BIG := List.mem_filter.mpr ⟨List.mem_of_getElem? (i := 61) (by decide +kernel), rfl⟩
theorem kw105 : Cond.methodLink R_Text 29 y_Text_signAt ∈ BIG := List.mem_filter.mpr ⟨List.mem_of_getElem? (i := 333) (by decide +kernel), rfl⟩
theorem kw106 : Cond.code y_Text_signAt b_Text_signAt 2 (some .int) ∈ BIG := List.mem_filter.mpr ⟨List.mem_of_getElem? (i := 251) (by decide +kernel), rfl⟩
theorem kw107 : Cond.initialized R_Text ∈ BIG := List.mem_filter.mpr ⟨List.mem_of_getElem? (i := 30) (by decide +kernel), rfl⟩
theorem kw108 : Cond.instanceMethod y_Text_signAt ∈ BIG := List.mem_filter.mpr ⟨List.mem_of_getElem? (i := 249) (by decide +kernel), rfl⟩
theorem kw109 : Cond.selects R_Text y_Text_signAt y_Text_signAt ∈ BIG := List.mem_filter.mpr ⟨List.mem_of_getElem? (i := 250) (by decide +kernel), rfl⟩
theorem kw110 : Cond.methodLink R_Text 53 Lib.Math.min.name ∈ BIG := List.mem_filter.mpr ⟨List.mem_of_getElem? (i := 478) (by decide +kernel), rfl⟩
theorem kw111 : Cond.static Lib.Math.min.name ∈ BIG := List.mem_filter.mpr ⟨List.mem_of_getElem? (i := 479) (by decide +kernel), rfl⟩
theorem kw112 : Cond.initialized "java/lang/Math" ∈ BIG := List.mem_filter.mpr ⟨List.mem_of_getElem? (i := 41) (by decide +kernel), rfl⟩
theorem kw113 : Cond.code Lib.Math.min.name Lib.Math.min.code 2 (some .int) ∈ BIG := List.mem_filter.mpr ⟨List.mem_of_getElem? (i := 480) (by decide +kernel), rfl⟩
theorem kw114 : Cond.methodLink R_Text 37 y_Text_partAt ∈ BIG := List.mem_filter.mpr ⟨List.mem_of_getElem? (i := 230) (by decide +kernel), rfl⟩
theorem kw115 : Cond.code y_Text_partAt b_Text_partAt 2 (some .long) ∈ BIG := List.mem_filter.mpr ⟨List.mem_of_getElem? (i := 233) (by decide +kernel), rfl⟩
theorem kw116 : Cond.instanceMethod y_Text_partAt ∈ BIG := List.mem_filter.mpr ⟨List.mem_of_getElem? (i := 231) (by decide +kernel), rfl⟩
theorem kw117 : Cond.selects R_Text y_Text_partAt y_Text_partAt ∈ BIG := List.mem_filter.mpr ⟨List.mem_of_getElem? (i := 232) (by decide +kernel), rfl⟩
theorem kw118 : Cond.constantLong R_Text 70 (35 : Int64) ∈ BIG := List.mem_filter.mpr ⟨List.mem_of_getElem? (i := 234) (by decide +kernel), rfl⟩
theorem kw119 : Cond.constantLong R_Text 72 (42 : Int64) ∈ BIG := List.mem_filter.mpr ⟨List.mem_of_getElem? (i := 239) (by decide +kernel), rfl⟩
theorem kw120 : Cond.fieldLink R_Desk 10 "TopicDesk" "tape" "LTopicDesk$Text;" ∈ BIG := List.mem_filter.mpr ⟨List.mem_of_getElem? (i := 144) (by decide +kernel), rfl⟩
theorem kw121 : Cond.methodLink R_Desk 48 y_Desk_byteOf ∈ BIG := List.mem_filter.mpr ⟨List.mem_of_getElem? (i := 171) (by decide +kernel), rfl⟩
theorem kw122 : Cond.code y_Desk_byteOf b_Desk_byteOf 3 (some .int) ∈ BIG := List.mem_filter.mpr ⟨List.mem_of_getElem? (i := 173) (by decide +kernel), rfl⟩
theorem kw123 : Cond.initialized R_Desk ∈ BIG := List.mem_filter.mpr ⟨List.mem_of_getElem? (i := 29) (by decide +kernel), rfl⟩
theorem kw124 : Cond.static y_Desk_byteOf ∈ BIG := List.mem_filter.mpr ⟨List.mem_of_getElem? (i := 172) (by decide +kernel), rfl⟩
theorem kw125 : Cond.methodLink R_Desk 52 y_Text_add ∈ BIG := List.mem_filter.mpr ⟨List.mem_of_getElem? (i := 174) (by decide +kernel), rfl⟩
theorem kw126 : Cond.code y_Text_add b_Text_add 2 none ∈ BIG := List.mem_filter.mpr ⟨List.mem_of_getElem? (i := 177) (by decide +kernel), rfl⟩
theorem kw127 : Cond.instanceMethod y_Text_add ∈ BIG := List.mem_filter.mpr ⟨List.mem_of_getElem? (i := 175) (by decide +kernel), rfl⟩
theorem kw128 : Cond.selects R_Text y_Text_add y_Text_add ∈ BIG := List.mem_filter.mpr ⟨List.mem_of_getElem? (i := 176) (by decide +kernel), rfl⟩
theorem kw129 : Cond.methodLink R_Desk 44 y_Text_length ∈ BIG := List.mem_filter.mpr ⟨List.mem_of_getElem? (i := 167) (by decide +kernel), rfl⟩
theorem kw130 : Cond.code y_Text_length b_Text_length 1 (some .int) ∈ BIG := List.mem_filter.mpr ⟨List.mem_of_getElem? (i := 170) (by decide +kernel), rfl⟩
theorem kw131 : Cond.instanceMethod y_Text_length ∈ BIG := List.mem_filter.mpr ⟨List.mem_of_getElem? (i := 168) (by decide +kernel), rfl⟩
theorem kw132 : Cond.selects R_Text y_Text_length y_Text_length ∈ BIG := List.mem_filter.mpr ⟨List.mem_of_getElem? (i := 169) (by decide +kernel), rfl⟩
theorem kw133 : Cond.fieldLink R_Desk 21 "TopicDesk" "bindings" "[LTopicDesk$Binding;" ∈ BIG := List.mem_filter.mpr ⟨List.mem_of_getElem? (i := 146) (by decide +kernel), rfl⟩
theorem kw134 : Cond.methodLink R_Desk 92 y_Bnd_isBound ∈ BIG := List.mem_filter.mpr ⟨List.mem_of_getElem? (i := 190) (by decide +kernel), rfl⟩
theorem kw135 : Cond.code y_Bnd_isBound b_Bnd_isBound 1 (some .boolean) ∈ BIG := List.mem_filter.mpr ⟨List.mem_of_getElem? (i := 193) (by decide +kernel), rfl⟩
theorem kw136 : Cond.initialized R_Bnd ∈ BIG := List.mem_filter.mpr ⟨List.mem_of_getElem? (i := 31) (by decide +kernel), rfl⟩
theorem kw137 : Cond.instanceMethod y_Bnd_isBound ∈ BIG := List.mem_filter.mpr ⟨List.mem_of_getElem? (i := 191) (by decide +kernel), rfl⟩
theorem kw138 : Cond.selects R_Bnd y_Bnd_isBound y_Bnd_isBound ∈ BIG := List.mem_filter.mpr ⟨List.mem_of_getElem? (i := 192) (by decide +kernel), rfl⟩
theorem kw139 : Cond.fieldLink R_Mod 135 "TopicDeskModel" "round" "I" ∈ BIG := List.mem_filter.mpr ⟨List.mem_of_getElem? (i := 573) (by decide +kernel), rfl⟩
theorem kw140 : Cond.methodLink R_Mod 138 y_Mod_wordOf ∈ BIG := List.mem_filter.mpr ⟨List.mem_of_getElem? (i := 729) (by decide +kernel), rfl⟩
theorem kw141 : Cond.code y_Mod_wordOf b_Mod_wordOf 5 (some .long) ∈ BIG := List.mem_filter.mpr ⟨List.mem_of_getElem? (i := 732) (by decide +kernel), rfl⟩
theorem kw142 : Cond.instanceMethod y_Mod_wordOf ∈ BIG := List.mem_filter.mpr ⟨List.mem_of_getElem? (i := 731) (by decide +kernel), rfl⟩
theorem kw143 : Cond.selects R_Mod y_Mod_wordOf y_Mod_wordOf ∈ BIG := List.mem_filter.mpr ⟨List.mem_of_getElem? (i := 27) (by decide +kernel), rfl⟩
theorem kw144 : Cond.methodLink R_Mod 142 y_Mod_fewest ∈ BIG := List.mem_filter.mpr ⟨List.mem_of_getElem? (i := 725) (by decide +kernel), rfl⟩
theorem kw145 : Cond.code y_Mod_fewest b_Mod_fewest 13 (some .int) ∈ BIG := List.mem_filter.mpr ⟨List.mem_of_getElem? (i := 728) (by decide +kernel), rfl⟩
theorem kw146 : Cond.instanceMethod y_Mod_fewest ∈ BIG := List.mem_filter.mpr ⟨List.mem_of_getElem? (i := 727) (by decide +kernel), rfl⟩
theorem kw147 : Cond.selects R_Mod y_Mod_fewest y_Mod_fewest ∈ BIG := List.mem_filter.mpr ⟨List.mem_of_getElem? (i := 26) (by decide +kernel), rfl⟩
theorem kw148 : Cond.methodLink R_Bnd 3 objectInit ∈ BIG := List.mem_filter.mpr ⟨List.mem_of_getElem? (i := 79) (by decide +kernel), rfl⟩
theorem kw149 : Cond.classLink R_Bnd 9 R_Text ∈ BIG := List.mem_filter.mpr ⟨List.mem_of_getElem? (i := 80) (by decide +kernel), rfl⟩
theorem kw150 : Cond.instantiable R_Text 4 ∈ BIG := List.mem_filter.mpr ⟨List.mem_of_getElem? (i := 53) (by decide +kernel), rfl⟩
theorem kw151 : Cond.methodLink R_Bnd 11 y_Text_init ∈ BIG := List.mem_filter.mpr ⟨List.mem_of_getElem? (i := 81) (by decide +kernel), rfl⟩
theorem kw152 : Cond.code y_Text_init b_Text_init 1 none ∈ BIG := List.mem_filter.mpr ⟨List.mem_of_getElem? (i := 56) (by decide +kernel), rfl⟩
theorem kw153 : Cond.instanceMethod y_Text_init ∈ BIG := List.mem_filter.mpr ⟨List.mem_of_getElem? (i := 55) (by decide +kernel), rfl⟩
theorem kw154 : Cond.methodLink R_Kt 1 objectInit ∈ BIG := List.mem_filter.mpr ⟨List.mem_of_getElem? (i := 104) (by decide +kernel), rfl⟩
theorem kw155 : Cond.classLink R_Kt 7 R_Text ∈ BIG := List.mem_filter.mpr ⟨List.mem_of_getElem? (i := 105) (by decide +kernel), rfl⟩
theorem kw156 : Cond.methodLink R_Kt 9 y_Text_init ∈ BIG := List.mem_filter.mpr ⟨List.mem_of_getElem? (i := 106) (by decide +kernel), rfl⟩
theorem kw157 : Cond.methodLink R_Rs 61 y_Text_partCount ∈ BIG := List.mem_filter.mpr ⟨List.mem_of_getElem? (i := 274) (by decide +kernel), rfl⟩
theorem kw158 : Cond.code y_Text_partCount b_Text_partCount 1 (some .int) ∈ BIG := List.mem_filter.mpr ⟨List.mem_of_getElem? (i := 277) (by decide +kernel), rfl⟩
theorem kw159 : Cond.instanceMethod y_Text_partCount ∈ BIG := List.mem_filter.mpr ⟨List.mem_of_getElem? (i := 275) (by decide +kernel), rfl⟩
theorem kw160 : Cond.selects R_Text y_Text_partCount y_Text_partCount ∈ BIG := List.mem_filter.mpr ⟨List.mem_of_getElem? (i := 276) (by decide +kernel), rfl⟩
theorem kw161 : Cond.methodLink R_Rs 64 y_Text_partAt ∈ BIG := List.mem_filter.mpr ⟨List.mem_of_getElem? (i := 278) (by decide +kernel), rfl⟩
theorem kw162 : Cond.methodLink R_Rs 57 y_Rs_addWord ∈ BIG := List.mem_filter.mpr ⟨List.mem_of_getElem? (i := 268) (by decide +kernel), rfl⟩
theorem kw163 : Cond.code y_Rs_addWord b_Rs_addWord 5 none ∈ BIG := List.mem_filter.mpr ⟨List.mem_of_getElem? (i := 271) (by decide +kernel), rfl⟩
theorem kw164 : Cond.initialized R_Rs ∈ BIG := List.mem_filter.mpr ⟨List.mem_of_getElem? (i := 34) (by decide +kernel), rfl⟩
theorem kw165 : Cond.instanceMethod y_Rs_addWord ∈ BIG := List.mem_filter.mpr ⟨List.mem_of_getElem? (i := 270) (by decide +kernel), rfl⟩
theorem kw166 : Cond.selects R_Rs y_Rs_addWord y_Rs_addWord ∈ BIG := List.mem_filter.mpr ⟨List.mem_of_getElem? (i := 3) (by decide +kernel), rfl⟩
theorem kw167 : Cond.methodLink R_Rs 72 y_Rs_addState ∈ BIG := List.mem_filter.mpr ⟨List.mem_of_getElem? (i := 287) (by decide +kernel), rfl⟩
theorem kw168 : Cond.code y_Rs_addState b_Rs_addState 6 none ∈ BIG := List.mem_filter.mpr ⟨List.mem_of_getElem? (i := 290) (by decide +kernel), rfl⟩
theorem kw169 : Cond.instanceMethod y_Rs_addState ∈ BIG := List.mem_filter.mpr ⟨List.mem_of_getElem? (i := 289) (by decide +kernel), rfl⟩
theorem kw170 : Cond.selects R_Rs y_Rs_addState y_Rs_addState ∈ BIG := List.mem_filter.mpr ⟨List.mem_of_getElem? (i := 5) (by decide +kernel), rfl⟩
theorem kw171 : Cond.classLink R_Shelf 9 R_Kt ∈ BIG := List.mem_filter.mpr ⟨List.mem_of_getElem? (i := 98) (by decide +kernel), rfl⟩
theorem kw172 : Cond.instantiable R_Kt 2 ∈ BIG := List.mem_filter.mpr ⟨List.mem_of_getElem? (i := 100) (by decide +kernel), rfl⟩
theorem kw173 : Cond.initialized R_Kt ∈ BIG := List.mem_filter.mpr ⟨List.mem_of_getElem? (i := 33) (by decide +kernel), rfl⟩
theorem kw174 : Cond.methodLink R_Shelf 17 y_Kt_init ∈ BIG := List.mem_filter.mpr ⟨List.mem_of_getElem? (i := 101) (by decide +kernel), rfl⟩
theorem kw175 : Cond.code y_Kt_init b_Kt_init 1 none ∈ BIG := List.mem_filter.mpr ⟨List.mem_of_getElem? (i := 103) (by decide +kernel), rfl⟩
theorem kw176 : Cond.instanceMethod y_Kt_init ∈ BIG := List.mem_filter.mpr ⟨List.mem_of_getElem? (i := 102) (by decide +kernel), rfl⟩
theorem kw177 : Cond.methodLink R_Shelf 3 objectInit ∈ BIG := List.mem_filter.mpr ⟨List.mem_of_getElem? (i := 97) (by decide +kernel), rfl⟩
theorem kw178 : Cond.methodLink R_Shelf 42 y_Kt_text ∈ BIG := List.mem_filter.mpr ⟨List.mem_of_getElem? (i := 218) (by decide +kernel), rfl⟩
theorem kw179 : Cond.code y_Kt_text b_Kt_text 1 (some (.object "TopicDesk$Text")) ∈ BIG := List.mem_filter.mpr ⟨List.mem_of_getElem? (i := 221) (by decide +kernel), rfl⟩
theorem kw180 : Cond.instanceMethod y_Kt_text ∈ BIG := List.mem_filter.mpr ⟨List.mem_of_getElem? (i := 219) (by decide +kernel), rfl⟩
theorem kw181 : Cond.selects R_Kt y_Kt_text y_Kt_text ∈ BIG := List.mem_filter.mpr ⟨List.mem_of_getElem? (i := 220) (by decide +kernel), rfl⟩
theorem kw182 : Cond.methodLink R_Shelf 52 y_Text_compareSigns ∈ BIG := List.mem_filter.mpr ⟨List.mem_of_getElem? (i := 474) (by decide +kernel), rfl⟩
theorem kw183 : Cond.code y_Text_compareSigns b_Text_compareSigns 5 (some .int) ∈ BIG := List.mem_filter.mpr ⟨List.mem_of_getElem? (i := 477) (by decide +kernel), rfl⟩
theorem kw184 : Cond.instanceMethod y_Text_compareSigns ∈ BIG := List.mem_filter.mpr ⟨List.mem_of_getElem? (i := 475) (by decide +kernel), rfl⟩
theorem kw185 : Cond.selects R_Text y_Text_compareSigns y_Text_compareSigns ∈ BIG := List.mem_filter.mpr ⟨List.mem_of_getElem? (i := 476) (by decide +kernel), rfl⟩
theorem kw186 : Cond.methodLink R_Text 41 y_Text_addPart ∈ BIG := List.mem_filter.mpr ⟨List.mem_of_getElem? (i := 335) (by decide +kernel), rfl⟩
theorem kw187 : Cond.code y_Text_addPart b_Text_addPart 3 none ∈ BIG := List.mem_filter.mpr ⟨List.mem_of_getElem? (i := 338) (by decide +kernel), rfl⟩
theorem kw188 : Cond.instanceMethod y_Text_addPart ∈ BIG := List.mem_filter.mpr ⟨List.mem_of_getElem? (i := 337) (by decide +kernel), rfl⟩
theorem kw189 : Cond.selects R_Text y_Text_addPart y_Text_addPart ∈ BIG := List.mem_filter.mpr ⟨List.mem_of_getElem? (i := 9) (by decide +kernel), rfl⟩
theorem kw190 : Cond.methodLink R_Text 33 y_Text_add ∈ BIG := List.mem_filter.mpr ⟨List.mem_of_getElem? (i := 334) (by decide +kernel), rfl⟩
theorem kw191 : Cond.methodLink R_Text 26 y_Text_clear ∈ BIG := List.mem_filter.mpr ⟨List.mem_of_getElem? (i := 329) (by decide +kernel), rfl⟩
theorem kw192 : Cond.code y_Text_clear b_Text_clear 1 none ∈ BIG := List.mem_filter.mpr ⟨List.mem_of_getElem? (i := 332) (by decide +kernel), rfl⟩
theorem kw193 : Cond.instanceMethod y_Text_clear ∈ BIG := List.mem_filter.mpr ⟨List.mem_of_getElem? (i := 330) (by decide +kernel), rfl⟩
theorem kw194 : Cond.selects R_Text y_Text_clear y_Text_clear ∈ BIG := List.mem_filter.mpr ⟨List.mem_of_getElem? (i := 331) (by decide +kernel), rfl⟩
theorem kw195 : Cond.methodLink R_Text 67 y_Text_hasEnd ∈ BIG := List.mem_filter.mpr ⟨List.mem_of_getElem? (i := 240) (by decide +kernel), rfl⟩
theorem kw196 : Cond.code y_Text_hasEnd b_Text_hasEnd 2 (some .boolean) ∈ BIG := List.mem_filter.mpr ⟨List.mem_of_getElem? (i := 243) (by decide +kernel), rfl⟩
theorem kw197 : Cond.instanceMethod y_Text_hasEnd ∈ BIG := List.mem_filter.mpr ⟨List.mem_of_getElem? (i := 241) (by decide +kernel), rfl⟩
theorem kw198 : Cond.selects R_Text y_Text_hasEnd y_Text_hasEnd ∈ BIG := List.mem_filter.mpr ⟨List.mem_of_getElem? (i := 242) (by decide +kernel), rfl⟩
theorem kw199 : Cond.methodLink R_Text 63 y_Text_placesBehind ∈ BIG := List.mem_filter.mpr ⟨List.mem_of_getElem? (i := 235) (by decide +kernel), rfl⟩
theorem kw200 : Cond.code y_Text_placesBehind b_Text_placesBehind 9 (some .int) ∈ BIG := List.mem_filter.mpr ⟨List.mem_of_getElem? (i := 238) (by decide +kernel), rfl⟩
theorem kw201 : Cond.instanceMethod y_Text_placesBehind ∈ BIG := List.mem_filter.mpr ⟨List.mem_of_getElem? (i := 236) (by decide +kernel), rfl⟩
theorem kw202 : Cond.selects R_Text y_Text_placesBehind y_Text_placesBehind ∈ BIG := List.mem_filter.mpr ⟨List.mem_of_getElem? (i := 237) (by decide +kernel), rfl⟩
theorem kw203 : Cond.methodLink R_Text 59 y_Text_startPlaces ∈ BIG := List.mem_filter.mpr ⟨List.mem_of_getElem? (i := 226) (by decide +kernel), rfl⟩
theorem kw204 : Cond.code y_Text_startPlaces b_Text_startPlaces 3 (some .int) ∈ BIG := List.mem_filter.mpr ⟨List.mem_of_getElem? (i := 229) (by decide +kernel), rfl⟩
theorem kw205 : Cond.instanceMethod y_Text_startPlaces ∈ BIG := List.mem_filter.mpr ⟨List.mem_of_getElem? (i := 227) (by decide +kernel), rfl⟩
theorem kw206 : Cond.selects R_Text y_Text_startPlaces y_Text_startPlaces ∈ BIG := List.mem_filter.mpr ⟨List.mem_of_getElem? (i := 228) (by decide +kernel), rfl⟩
theorem kw207 : Cond.methodLink R_Text 49 y_Text_isWild ∈ BIG := List.mem_filter.mpr ⟨List.mem_of_getElem? (i := 348) (by decide +kernel), rfl⟩
theorem kw208 : Cond.code y_Text_isWild b_Text_isWild 1 (some .boolean) ∈ BIG := List.mem_filter.mpr ⟨List.mem_of_getElem? (i := 350) (by decide +kernel), rfl⟩
theorem kw209 : Cond.static y_Text_isWild ∈ BIG := List.mem_filter.mpr ⟨List.mem_of_getElem? (i := 349) (by decide +kernel), rfl⟩
theorem kw210 : Cond.methodLink R_Text 74 y_Text_isWordSign ∈ BIG := List.mem_filter.mpr ⟨List.mem_of_getElem? (i := 351) (by decide +kernel), rfl⟩
theorem kw211 : Cond.code y_Text_isWordSign b_Text_isWordSign 1 (some .boolean) ∈ BIG := List.mem_filter.mpr ⟨List.mem_of_getElem? (i := 353) (by decide +kernel), rfl⟩
theorem kw212 : Cond.static y_Text_isWordSign ∈ BIG := List.mem_filter.mpr ⟨List.mem_of_getElem? (i := 352) (by decide +kernel), rfl⟩
theorem kw213 : Cond.classLink R_Desk 26 R_Shelf ∈ BIG := List.mem_filter.mpr ⟨List.mem_of_getElem? (i := 92) (by decide +kernel), rfl⟩
theorem kw214 : Cond.instantiable R_Shelf 2 ∈ BIG := List.mem_filter.mpr ⟨List.mem_of_getElem? (i := 93) (by decide +kernel), rfl⟩
theorem kw215 : Cond.initialized R_Shelf ∈ BIG := List.mem_filter.mpr ⟨List.mem_of_getElem? (i := 32) (by decide +kernel), rfl⟩
theorem kw216 : Cond.methodLink R_Desk 28 y_Shelf_init ∈ BIG := List.mem_filter.mpr ⟨List.mem_of_getElem? (i := 94) (by decide +kernel), rfl⟩
theorem kw217 : Cond.code y_Shelf_init b_Shelf_init 2 none ∈ BIG := List.mem_filter.mpr ⟨List.mem_of_getElem? (i := 96) (by decide +kernel), rfl⟩
theorem kw218 : Cond.instanceMethod y_Shelf_init ∈ BIG := List.mem_filter.mpr ⟨List.mem_of_getElem? (i := 95) (by decide +kernel), rfl⟩
theorem kw219 : Cond.fieldLink R_Desk 29 "TopicDesk" "shelf" "LTopicDesk$Shelf;" ∈ BIG := List.mem_filter.mpr ⟨List.mem_of_getElem? (i := 147) (by decide +kernel), rfl⟩
theorem kw220 : Cond.classLink R_Desk 33 R_Rs ∈ BIG := List.mem_filter.mpr ⟨List.mem_of_getElem? (i := 121) (by decide +kernel), rfl⟩
theorem kw221 : Cond.instantiable R_Rs 5 ∈ BIG := List.mem_filter.mpr ⟨List.mem_of_getElem? (i := 122) (by decide +kernel), rfl⟩
theorem kw222 : Cond.methodLink R_Desk 35 y_Rs_init ∈ BIG := List.mem_filter.mpr ⟨List.mem_of_getElem? (i := 123) (by decide +kernel), rfl⟩
theorem kw223 : Cond.code y_Rs_init b_Rs_init 1 none ∈ BIG := List.mem_filter.mpr ⟨List.mem_of_getElem? (i := 125) (by decide +kernel), rfl⟩
theorem kw224 : Cond.instanceMethod y_Rs_init ∈ BIG := List.mem_filter.mpr ⟨List.mem_of_getElem? (i := 124) (by decide +kernel), rfl⟩
theorem kw225 : Cond.fieldLink R_Desk 36 "TopicDesk" "search" "LTopicDesk$RowSearch;" ∈ BIG := List.mem_filter.mpr ⟨List.mem_of_getElem? (i := 148) (by decide +kernel), rfl⟩
theorem kw226 : Cond.classLink R_Desk 19 R_Bnd ∈ BIG := List.mem_filter.mpr ⟨List.mem_of_getElem? (i := 73) (by decide +kernel), rfl⟩
theorem kw227 : Cond.instantiable R_Bnd 3 ∈ BIG := List.mem_filter.mpr ⟨List.mem_of_getElem? (i := 75) (by decide +kernel), rfl⟩
theorem kw228 : Cond.methodLink R_Desk 25 y_Bnd_init ∈ BIG := List.mem_filter.mpr ⟨List.mem_of_getElem? (i := 76) (by decide +kernel), rfl⟩
theorem kw229 : Cond.code y_Bnd_init b_Bnd_init 1 none ∈ BIG := List.mem_filter.mpr ⟨List.mem_of_getElem? (i := 78) (by decide +kernel), rfl⟩
theorem kw230 : Cond.instanceMethod y_Bnd_init ∈ BIG := List.mem_filter.mpr ⟨List.mem_of_getElem? (i := 77) (by decide +kernel), rfl⟩
theorem kw231 : Cond.methodLink R_Desk 1 objectInit ∈ BIG := List.mem_filter.mpr ⟨List.mem_of_getElem? (i := 49) (by decide +kernel), rfl⟩
theorem kw232 : Cond.classLink R_Desk 7 R_Text ∈ BIG := List.mem_filter.mpr ⟨List.mem_of_getElem? (i := 52) (by decide +kernel), rfl⟩
theorem kw233 : Cond.methodLink R_Desk 9 y_Text_init ∈ BIG := List.mem_filter.mpr ⟨List.mem_of_getElem? (i := 54) (by decide +kernel), rfl⟩
theorem kw234 : Cond.fieldLink R_Desk 16 "TopicDesk" "taken" "LTopicDesk$Text;" ∈ BIG := List.mem_filter.mpr ⟨List.mem_of_getElem? (i := 145) (by decide +kernel), rfl⟩
theorem kw235 : Cond.methodLink R_Desk 83 y_Desk_boundAt ∈ BIG := List.mem_filter.mpr ⟨List.mem_of_getElem? (i := 186) (by decide +kernel), rfl⟩
theorem kw236 : Cond.code y_Desk_boundAt b_Desk_boundAt 2 (some (.object "TopicDesk$Binding")) ∈ BIG := List.mem_filter.mpr ⟨List.mem_of_getElem? (i := 189) (by decide +kernel), rfl⟩
theorem kw237 : Cond.instanceMethod y_Desk_boundAt ∈ BIG := List.mem_filter.mpr ⟨List.mem_of_getElem? (i := 188) (by decide +kernel), rfl⟩
theorem kw238 : Cond.selects R_Desk y_Desk_boundAt y_Desk_boundAt ∈ BIG := List.mem_filter.mpr ⟨List.mem_of_getElem? (i := 0) (by decide +kernel), rfl⟩
theorem kw239 : Cond.methodLink R_Desk 87 y_Bnd_untie ∈ BIG := List.mem_filter.mpr ⟨List.mem_of_getElem? (i := 194) (by decide +kernel), rfl⟩
theorem kw240 : Cond.code y_Bnd_untie b_Bnd_untie 1 none ∈ BIG := List.mem_filter.mpr ⟨List.mem_of_getElem? (i := 197) (by decide +kernel), rfl⟩
theorem kw241 : Cond.instanceMethod y_Bnd_untie ∈ BIG := List.mem_filter.mpr ⟨List.mem_of_getElem? (i := 195) (by decide +kernel), rfl⟩
theorem kw242 : Cond.selects R_Bnd y_Bnd_untie y_Bnd_untie ∈ BIG := List.mem_filter.mpr ⟨List.mem_of_getElem? (i := 196) (by decide +kernel), rfl⟩
theorem kw243 : Cond.methodLink R_Desk 96 y_Bnd_pattern ∈ BIG := List.mem_filter.mpr ⟨List.mem_of_getElem? (i := 210) (by decide +kernel), rfl⟩
theorem kw244 : Cond.code y_Bnd_pattern b_Bnd_pattern 1 (some (.object "TopicDesk$Text")) ∈ BIG := List.mem_filter.mpr ⟨List.mem_of_getElem? (i := 213) (by decide +kernel), rfl⟩
theorem kw245 : Cond.instanceMethod y_Bnd_pattern ∈ BIG := List.mem_filter.mpr ⟨List.mem_of_getElem? (i := 211) (by decide +kernel), rfl⟩
theorem kw246 : Cond.selects R_Bnd y_Bnd_pattern y_Bnd_pattern ∈ BIG := List.mem_filter.mpr ⟨List.mem_of_getElem? (i := 212) (by decide +kernel), rfl⟩
theorem kw247 : Cond.methodLink R_Desk 143 y_Text_signAt ∈ BIG := List.mem_filter.mpr ⟨List.mem_of_getElem? (i := 248) (by decide +kernel), rfl⟩
theorem kw248 : Cond.methodLink R_Bnd 25 y_Text_copy ∈ BIG := List.mem_filter.mpr ⟨List.mem_of_getElem? (i := 445) (by decide +kernel), rfl⟩
theorem kw249 : Cond.code y_Text_copy b_Text_copy 3 none ∈ BIG := List.mem_filter.mpr ⟨List.mem_of_getElem? (i := 328) (by decide +kernel), rfl⟩
theorem kw250 : Cond.instanceMethod y_Text_copy ∈ BIG := List.mem_filter.mpr ⟨List.mem_of_getElem? (i := 326) (by decide +kernel), rfl⟩
theorem kw251 : Cond.selects R_Text y_Text_copy y_Text_copy ∈ BIG := List.mem_filter.mpr ⟨List.mem_of_getElem? (i := 327) (by decide +kernel), rfl⟩
theorem kw252 : Cond.methodLink R_Kt 20 y_Text_copy ∈ BIG := List.mem_filter.mpr ⟨List.mem_of_getElem? (i := 493) (by decide +kernel), rfl⟩
theorem kw253 : Cond.methodLink R_Rs 45 y_Rs_addStates ∈ BIG := List.mem_filter.mpr ⟨List.mem_of_getElem? (i := 283) (by decide +kernel), rfl⟩
theorem kw254 : Cond.code y_Rs_addStates b_Rs_addStates 5 none ∈ BIG := List.mem_filter.mpr ⟨List.mem_of_getElem? (i := 286) (by decide +kernel), rfl⟩
theorem kw255 : Cond.instanceMethod y_Rs_addStates ∈ BIG := List.mem_filter.mpr ⟨List.mem_of_getElem? (i := 285) (by decide +kernel), rfl⟩
theorem kw256 : Cond.selects R_Rs y_Rs_addStates y_Rs_addStates ∈ BIG := List.mem_filter.mpr ⟨List.mem_of_getElem? (i := 4) (by decide +kernel), rfl⟩
theorem kw257 : Cond.methodLink R_Rs 49 y_Text_placesBehind ∈ BIG := List.mem_filter.mpr ⟨List.mem_of_getElem? (i := 291) (by decide +kernel), rfl⟩
theorem kw258 : Cond.methodLink R_Rs 53 y_Text_hasEnd ∈ BIG := List.mem_filter.mpr ⟨List.mem_of_getElem? (i := 292) (by decide +kernel), rfl⟩
theorem kw259 : Cond.methodLink R_Rs 29 y_Rs_collectWords ∈ BIG := List.mem_filter.mpr ⟨List.mem_of_getElem? (i := 264) (by decide +kernel), rfl⟩
theorem kw260 : Cond.code y_Rs_collectWords b_Rs_collectWords 4 none ∈ BIG := List.mem_filter.mpr ⟨List.mem_of_getElem? (i := 267) (by decide +kernel), rfl⟩
theorem kw261 : Cond.instanceMethod y_Rs_collectWords ∈ BIG := List.mem_filter.mpr ⟨List.mem_of_getElem? (i := 266) (by decide +kernel), rfl⟩
theorem kw262 : Cond.selects R_Rs y_Rs_collectWords y_Rs_collectWords ∈ BIG := List.mem_filter.mpr ⟨List.mem_of_getElem? (i := 2) (by decide +kernel), rfl⟩
theorem kw263 : Cond.methodLink R_Rs 33 y_Arr_fill ∈ BIG := List.mem_filter.mpr ⟨List.mem_of_getElem? (i := 279) (by decide +kernel), rfl⟩
theorem kw264 : Cond.code y_Arr_fill b_Arr_fill 5 none ∈ BIG := List.mem_filter.mpr ⟨List.mem_of_getElem? (i := 281) (by decide +kernel), rfl⟩
theorem kw265 : Cond.initialized R_Arr ∈ BIG := List.mem_filter.mpr ⟨List.mem_of_getElem? (i := 43) (by decide +kernel), rfl⟩
theorem kw266 : Cond.static y_Arr_fill ∈ BIG := List.mem_filter.mpr ⟨List.mem_of_getElem? (i := 280) (by decide +kernel), rfl⟩
theorem kw267 : Cond.methodLink R_Rs 39 y_Text_startPlaces ∈ BIG := List.mem_filter.mpr ⟨List.mem_of_getElem? (i := 282) (by decide +kernel), rfl⟩
theorem kw268 : Cond.methodLink R_Shelf 38 y_Kt_setValue ∈ BIG := List.mem_filter.mpr ⟨List.mem_of_getElem? (i := 494) (by decide +kernel), rfl⟩
theorem kw269 : Cond.code y_Kt_setValue b_Kt_setValue 2 none ∈ BIG := List.mem_filter.mpr ⟨List.mem_of_getElem? (i := 497) (by decide +kernel), rfl⟩
theorem kw270 : Cond.instanceMethod y_Kt_setValue ∈ BIG := List.mem_filter.mpr ⟨List.mem_of_getElem? (i := 495) (by decide +kernel), rfl⟩
theorem kw271 : Cond.selects R_Kt y_Kt_setValue y_Kt_setValue ∈ BIG := List.mem_filter.mpr ⟨List.mem_of_getElem? (i := 496) (by decide +kernel), rfl⟩
theorem kw272 : Cond.methodLink R_Shelf 22 y_Shelf_placeFor ∈ BIG := List.mem_filter.mpr ⟨List.mem_of_getElem? (i := 470) (by decide +kernel), rfl⟩
theorem kw273 : Cond.code y_Shelf_placeFor b_Shelf_placeFor 3 (some .int) ∈ BIG := List.mem_filter.mpr ⟨List.mem_of_getElem? (i := 473) (by decide +kernel), rfl⟩
theorem kw274 : Cond.instanceMethod y_Shelf_placeFor ∈ BIG := List.mem_filter.mpr ⟨List.mem_of_getElem? (i := 472) (by decide +kernel), rfl⟩
theorem kw275 : Cond.selects R_Shelf y_Shelf_placeFor y_Shelf_placeFor ∈ BIG := List.mem_filter.mpr ⟨List.mem_of_getElem? (i := 13) (by decide +kernel), rfl⟩
theorem kw276 : Cond.methodLink R_Shelf 26 y_Shelf_isAt ∈ BIG := List.mem_filter.mpr ⟨List.mem_of_getElem? (i := 481) (by decide +kernel), rfl⟩
theorem kw277 : Cond.code y_Shelf_isAt b_Shelf_isAt 3 (some .boolean) ∈ BIG := List.mem_filter.mpr ⟨List.mem_of_getElem? (i := 484) (by decide +kernel), rfl⟩
theorem kw278 : Cond.instanceMethod y_Shelf_isAt ∈ BIG := List.mem_filter.mpr ⟨List.mem_of_getElem? (i := 483) (by decide +kernel), rfl⟩
theorem kw279 : Cond.selects R_Shelf y_Shelf_isAt y_Shelf_isAt ∈ BIG := List.mem_filter.mpr ⟨List.mem_of_getElem? (i := 14) (by decide +kernel), rfl⟩
theorem kw280 : Cond.methodLink R_Shelf 30 y_Shelf_move ∈ BIG := List.mem_filter.mpr ⟨List.mem_of_getElem? (i := 485) (by decide +kernel), rfl⟩
theorem kw281 : Cond.code y_Shelf_move b_Shelf_move 5 none ∈ BIG := List.mem_filter.mpr ⟨List.mem_of_getElem? (i := 488) (by decide +kernel), rfl⟩
theorem kw282 : Cond.instanceMethod y_Shelf_move ∈ BIG := List.mem_filter.mpr ⟨List.mem_of_getElem? (i := 487) (by decide +kernel), rfl⟩
theorem kw283 : Cond.selects R_Shelf y_Shelf_move y_Shelf_move ∈ BIG := List.mem_filter.mpr ⟨List.mem_of_getElem? (i := 15) (by decide +kernel), rfl⟩
theorem kw284 : Cond.methodLink R_Shelf 34 y_Kt_setText ∈ BIG := List.mem_filter.mpr ⟨List.mem_of_getElem? (i := 489) (by decide +kernel), rfl⟩
theorem kw285 : Cond.code y_Kt_setText b_Kt_setText 2 none ∈ BIG := List.mem_filter.mpr ⟨List.mem_of_getElem? (i := 492) (by decide +kernel), rfl⟩
theorem kw286 : Cond.instanceMethod y_Kt_setText ∈ BIG := List.mem_filter.mpr ⟨List.mem_of_getElem? (i := 490) (by decide +kernel), rfl⟩
theorem kw287 : Cond.selects R_Kt y_Kt_setText y_Kt_setText ∈ BIG := List.mem_filter.mpr ⟨List.mem_of_getElem? (i := 491) (by decide +kernel), rfl⟩
theorem kw288 : Cond.methodLink R_Shelf 46 y_Text_takes ∈ BIG := List.mem_filter.mpr ⟨List.mem_of_getElem? (i := 222) (by decide +kernel), rfl⟩
theorem kw289 : Cond.code y_Text_takes b_Text_takes 4 (some .boolean) ∈ BIG := List.mem_filter.mpr ⟨List.mem_of_getElem? (i := 225) (by decide +kernel), rfl⟩
theorem kw290 : Cond.instanceMethod y_Text_takes ∈ BIG := List.mem_filter.mpr ⟨List.mem_of_getElem? (i := 223) (by decide +kernel), rfl⟩
theorem kw291 : Cond.selects R_Text y_Text_takes y_Text_takes ∈ BIG := List.mem_filter.mpr ⟨List.mem_of_getElem? (i := 224) (by decide +kernel), rfl⟩
theorem kw292 : Cond.methodLink R_Text 45 y_Text_canStand ∈ BIG := List.mem_filter.mpr ⟨List.mem_of_getElem? (i := 344) (by decide +kernel), rfl⟩
theorem kw293 : Cond.code y_Text_canStand b_Text_canStand 4 (some .boolean) ∈ BIG := List.mem_filter.mpr ⟨List.mem_of_getElem? (i := 347) (by decide +kernel), rfl⟩
theorem kw294 : Cond.instanceMethod y_Text_canStand ∈ BIG := List.mem_filter.mpr ⟨List.mem_of_getElem? (i := 346) (by decide +kernel), rfl⟩
theorem kw295 : Cond.selects R_Text y_Text_canStand y_Text_canStand ∈ BIG := List.mem_filter.mpr ⟨List.mem_of_getElem? (i := 10) (by decide +kernel), rfl⟩
theorem kw296 : Cond.methodLink R_Desk 107 y_Bnd_queue ∈ BIG := List.mem_filter.mpr ⟨List.mem_of_getElem? (i := 202) (by decide +kernel), rfl⟩
theorem kw297 : Cond.code y_Bnd_queue b_Bnd_queue 1 (some .int) ∈ BIG := List.mem_filter.mpr ⟨List.mem_of_getElem? (i := 205) (by decide +kernel), rfl⟩
theorem kw298 : Cond.instanceMethod y_Bnd_queue ∈ BIG := List.mem_filter.mpr ⟨List.mem_of_getElem? (i := 203) (by decide +kernel), rfl⟩
theorem kw299 : Cond.selects R_Bnd y_Bnd_queue y_Bnd_queue ∈ BIG := List.mem_filter.mpr ⟨List.mem_of_getElem? (i := 204) (by decide +kernel), rfl⟩
theorem kw300 : Cond.methodLink R_Desk 122 y_Bnd_routed ∈ BIG := List.mem_filter.mpr ⟨List.mem_of_getElem? (i := 206) (by decide +kernel), rfl⟩
theorem kw301 : Cond.code y_Bnd_routed b_Bnd_routed 1 (some .int) ∈ BIG := List.mem_filter.mpr ⟨List.mem_of_getElem? (i := 209) (by decide +kernel), rfl⟩
theorem kw302 : Cond.instanceMethod y_Bnd_routed ∈ BIG := List.mem_filter.mpr ⟨List.mem_of_getElem? (i := 207) (by decide +kernel), rfl⟩
theorem kw303 : Cond.selects R_Bnd y_Bnd_routed y_Bnd_routed ∈ BIG := List.mem_filter.mpr ⟨List.mem_of_getElem? (i := 208) (by decide +kernel), rfl⟩
theorem kw304 : Cond.methodLink R_Desk 125 y_Shelf_countTakenBy ∈ BIG := List.mem_filter.mpr ⟨List.mem_of_getElem? (i := 214) (by decide +kernel), rfl⟩
theorem kw305 : Cond.code y_Shelf_countTakenBy b_Shelf_countTakenBy 4 (some .int) ∈ BIG := List.mem_filter.mpr ⟨List.mem_of_getElem? (i := 217) (by decide +kernel), rfl⟩
theorem kw306 : Cond.instanceMethod y_Shelf_countTakenBy ∈ BIG := List.mem_filter.mpr ⟨List.mem_of_getElem? (i := 215) (by decide +kernel), rfl⟩
theorem kw307 : Cond.selects R_Shelf y_Shelf_countTakenBy y_Shelf_countTakenBy ∈ BIG := List.mem_filter.mpr ⟨List.mem_of_getElem? (i := 216) (by decide +kernel), rfl⟩
theorem kw308 : Cond.methodLink R_Desk 155 y_Text_copy ∈ BIG := List.mem_filter.mpr ⟨List.mem_of_getElem? (i := 325) (by decide +kernel), rfl⟩
theorem kw309 : Cond.methodLink R_Desk 159 y_Text_clear ∈ BIG := List.mem_filter.mpr ⟨List.mem_of_getElem? (i := 339) (by decide +kernel), rfl⟩
theorem kw310 : Cond.methodLink R_Desk 162 y_Text_read ∈ BIG := List.mem_filter.mpr ⟨List.mem_of_getElem? (i := 340) (by decide +kernel), rfl⟩
theorem kw311 : Cond.code y_Text_read b_Text_read 7 (some .int) ∈ BIG := List.mem_filter.mpr ⟨List.mem_of_getElem? (i := 343) (by decide +kernel), rfl⟩
theorem kw312 : Cond.instanceMethod y_Text_read ∈ BIG := List.mem_filter.mpr ⟨List.mem_of_getElem? (i := 341) (by decide +kernel), rfl⟩
theorem kw313 : Cond.selects R_Text y_Text_read y_Text_read ∈ BIG := List.mem_filter.mpr ⟨List.mem_of_getElem? (i := 342) (by decide +kernel), rfl⟩
theorem kw314 : Cond.methodLink R_Desk 166 y_Rs_fewestWords ∈ BIG := List.mem_filter.mpr ⟨List.mem_of_getElem? (i := 260) (by decide +kernel), rfl⟩
theorem kw315 : Cond.code y_Rs_fewestWords b_Rs_fewestWords 10 (some .int) ∈ BIG := List.mem_filter.mpr ⟨List.mem_of_getElem? (i := 263) (by decide +kernel), rfl⟩
theorem kw316 : Cond.instanceMethod y_Rs_fewestWords ∈ BIG := List.mem_filter.mpr ⟨List.mem_of_getElem? (i := 261) (by decide +kernel), rfl⟩
theorem kw317 : Cond.selects R_Rs y_Rs_fewestWords y_Rs_fewestWords ∈ BIG := List.mem_filter.mpr ⟨List.mem_of_getElem? (i := 262) (by decide +kernel), rfl⟩
theorem kw318 : Cond.methodLink R_Desk 147 y_Desk_fewestWords ∈ BIG := List.mem_filter.mpr ⟨List.mem_of_getElem? (i := 256) (by decide +kernel), rfl⟩
theorem kw319 : Cond.code y_Desk_fewestWords b_Desk_fewestWords 6 (some .int) ∈ BIG := List.mem_filter.mpr ⟨List.mem_of_getElem? (i := 259) (by decide +kernel), rfl⟩
theorem kw320 : Cond.instanceMethod y_Desk_fewestWords ∈ BIG := List.mem_filter.mpr ⟨List.mem_of_getElem? (i := 258) (by decide +kernel), rfl⟩
theorem kw321 : Cond.selects R_Desk y_Desk_fewestWords y_Desk_fewestWords ∈ BIG := List.mem_filter.mpr ⟨List.mem_of_getElem? (i := 1) (by decide +kernel), rfl⟩
theorem kw322 : Cond.methodLink R_Desk 169 y_Desk_isWithin ∈ BIG := List.mem_filter.mpr ⟨List.mem_of_getElem? (i := 308) (by decide +kernel), rfl⟩
theorem kw323 : Cond.code y_Desk_isWithin b_Desk_isWithin 3 (some .boolean) ∈ BIG := List.mem_filter.mpr ⟨List.mem_of_getElem? (i := 311) (by decide +kernel), rfl⟩
theorem kw324 : Cond.instanceMethod y_Desk_isWithin ∈ BIG := List.mem_filter.mpr ⟨List.mem_of_getElem? (i := 310) (by decide +kernel), rfl⟩
theorem kw325 : Cond.selects R_Desk y_Desk_isWithin y_Desk_isWithin ∈ BIG := List.mem_filter.mpr ⟨List.mem_of_getElem? (i := 7) (by decide +kernel), rfl⟩
theorem kw326 : Cond.methodLink R_Desk 151 y_Desk_isSpare ∈ BIG := List.mem_filter.mpr ⟨List.mem_of_getElem? (i := 304) (by decide +kernel), rfl⟩
theorem kw327 : Cond.code y_Desk_isSpare b_Desk_isSpare 4 (some .boolean) ∈ BIG := List.mem_filter.mpr ⟨List.mem_of_getElem? (i := 307) (by decide +kernel), rfl⟩
theorem kw328 : Cond.instanceMethod y_Desk_isSpare ∈ BIG := List.mem_filter.mpr ⟨List.mem_of_getElem? (i := 306) (by decide +kernel), rfl⟩
theorem kw329 : Cond.selects R_Desk y_Desk_isSpare y_Desk_isSpare ∈ BIG := List.mem_filter.mpr ⟨List.mem_of_getElem? (i := 6) (by decide +kernel), rfl⟩
theorem kw330 : Cond.methodLink R_Desk 60 y_Desk_isQueue ∈ BIG := List.mem_filter.mpr ⟨List.mem_of_getElem? (i := 301) (by decide +kernel), rfl⟩
theorem kw331 : Cond.code y_Desk_isQueue b_Desk_isQueue 1 (some .boolean) ∈ BIG := List.mem_filter.mpr ⟨List.mem_of_getElem? (i := 303) (by decide +kernel), rfl⟩
theorem kw332 : Cond.static y_Desk_isQueue ∈ BIG := List.mem_filter.mpr ⟨List.mem_of_getElem? (i := 302) (by decide +kernel), rfl⟩
theorem hd_Desk_fault : y_Desk_fault.cls ≠ "java/lang/invoke/MethodHandle" ∧ y_Desk_fault.cls ≠ "java/lang/invoke/VarHandle" ∧ (parseMethodDescriptor y_Desk_fault.desc).map (fun d => d.parameters.length) = some 0 := by decide +kernel
theorem hd_Desk_byteOf : y_Desk_byteOf.cls ≠ "java/lang/invoke/MethodHandle" ∧ y_Desk_byteOf.cls ≠ "java/lang/invoke/VarHandle" ∧ (parseMethodDescriptor y_Desk_byteOf.desc).map (fun d => d.parameters.length) = some 2 := by decide +kernel
theorem hd_Desk_isQueue : y_Desk_isQueue.cls ≠ "java/lang/invoke/MethodHandle" ∧ y_Desk_isQueue.cls ≠ "java/lang/invoke/VarHandle" ∧ (parseMethodDescriptor y_Desk_isQueue.desc).map (fun d => d.parameters.length) = some 1 := by decide +kernel
theorem hd_Mod_init : y_Mod_init.cls ≠ "java/lang/invoke/MethodHandle" ∧ y_Mod_init.cls ≠ "java/lang/invoke/VarHandle" ∧ (parseMethodDescriptor y_Mod_init.desc).map (fun d => d.parameters.length) = some 0 := by decide +kernel
theorem hd_Mod_thrown : y_Mod_thrown.cls ≠ "java/lang/invoke/MethodHandle" ∧ y_Mod_thrown.cls ≠ "java/lang/invoke/VarHandle" ∧ (parseMethodDescriptor y_Mod_thrown.desc).map (fun d => d.parameters.length) = some 0 := by decide +kernel
theorem hd_Mod_raise : y_Mod_raise.cls ≠ "java/lang/invoke/MethodHandle" ∧ y_Mod_raise.cls ≠ "java/lang/invoke/VarHandle" ∧ (parseMethodDescriptor y_Mod_raise.desc).map (fun d => d.parameters.length) = some 1 := by decide +kernel
theorem hd_Mod_type : y_Mod_type.cls ≠ "java/lang/invoke/MethodHandle" ∧ y_Mod_type.cls ≠ "java/lang/invoke/VarHandle" ∧ (parseMethodDescriptor y_Mod_type.desc).map (fun d => d.parameters.length) = some 2 := by decide +kernel
theorem hd_Mod_isSign : y_Mod_isSign.cls ≠ "java/lang/invoke/MethodHandle" ∧ y_Mod_isSign.cls ≠ "java/lang/invoke/VarHandle" ∧ (parseMethodDescriptor y_Mod_isSign.desc).map (fun d => d.parameters.length) = some 1 := by decide +kernel
theorem hd_Mod_reads : y_Mod_reads.cls ≠ "java/lang/invoke/MethodHandle" ∧ y_Mod_reads.cls ≠ "java/lang/invoke/VarHandle" ∧ (parseMethodDescriptor y_Mod_reads.desc).map (fun d => d.parameters.length) = some 1 := by decide +kernel
theorem hd_Mod_spread : y_Mod_spread.cls ≠ "java/lang/invoke/MethodHandle" ∧ y_Mod_spread.cls ≠ "java/lang/invoke/VarHandle" ∧ (parseMethodDescriptor y_Mod_spread.desc).map (fun d => d.parameters.length) = some 4 := by decide +kernel
theorem hd_Mod_move : y_Mod_move.cls ≠ "java/lang/invoke/MethodHandle" ∧ y_Mod_move.cls ≠ "java/lang/invoke/VarHandle" ∧ (parseMethodDescriptor y_Mod_move.desc).map (fun d => d.parameters.length) = some 5 := by decide +kernel
theorem hd_Mod_moved : y_Mod_moved.cls ≠ "java/lang/invoke/MethodHandle" ∧ y_Mod_moved.cls ≠ "java/lang/invoke/VarHandle" ∧ (parseMethodDescriptor y_Mod_moved.desc).map (fun d => d.parameters.length) = some 3 := by decide +kernel
theorem hd_Mod_first : y_Mod_first.cls ≠ "java/lang/invoke/MethodHandle" ∧ y_Mod_first.cls ≠ "java/lang/invoke/VarHandle" ∧ (parseMethodDescriptor y_Mod_first.desc).map (fun d => d.parameters.length) = some 1 := by decide +kernel
theorem hd_Mod_isEnd : y_Mod_isEnd.cls ≠ "java/lang/invoke/MethodHandle" ∧ y_Mod_isEnd.cls ≠ "java/lang/invoke/VarHandle" ∧ (parseMethodDescriptor y_Mod_isEnd.desc).map (fun d => d.parameters.length) = some 2 := by decide +kernel
theorem hd_Mod_fits : y_Mod_fits.cls ≠ "java/lang/invoke/MethodHandle" ∧ y_Mod_fits.cls ≠ "java/lang/invoke/VarHandle" ∧ (parseMethodDescriptor y_Mod_fits.desc).map (fun d => d.parameters.length) = some 4 := by decide +kernel
theorem hd_Mod_isBinding : y_Mod_isBinding.cls ≠ "java/lang/invoke/MethodHandle" ∧ y_Mod_isBinding.cls ≠ "java/lang/invoke/VarHandle" ∧ (parseMethodDescriptor y_Mod_isBinding.desc).map (fun d => d.parameters.length) = some 1 := by decide +kernel
theorem hd_Mod_isBound : y_Mod_isBound.cls ≠ "java/lang/invoke/MethodHandle" ∧ y_Mod_isBound.cls ≠ "java/lang/invoke/VarHandle" ∧ (parseMethodDescriptor y_Mod_isBound.desc).map (fun d => d.parameters.length) = some 1 := by decide +kernel
theorem hd_Mod_bind : y_Mod_bind.cls ≠ "java/lang/invoke/MethodHandle" ∧ y_Mod_bind.cls ≠ "java/lang/invoke/VarHandle" ∧ (parseMethodDescriptor y_Mod_bind.desc).map (fun d => d.parameters.length) = some 1 := by decide +kernel
theorem hd_Mod_fault : y_Mod_fault.cls ≠ "java/lang/invoke/MethodHandle" ∧ y_Mod_fault.cls ≠ "java/lang/invoke/VarHandle" ∧ (parseMethodDescriptor y_Mod_fault.desc).map (fun d => d.parameters.length) = some 0 := by decide +kernel
theorem hd_Mod_free : y_Mod_free.cls ≠ "java/lang/invoke/MethodHandle" ∧ y_Mod_free.cls ≠ "java/lang/invoke/VarHandle" ∧ (parseMethodDescriptor y_Mod_free.desc).map (fun d => d.parameters.length) = some 1 := by decide +kernel
theorem hd_Mod_route : y_Mod_route.cls ≠ "java/lang/invoke/MethodHandle" ∧ y_Mod_route.cls ≠ "java/lang/invoke/VarHandle" ∧ (parseMethodDescriptor y_Mod_route.desc).map (fun d => d.parameters.length) = some 0 := by decide +kernel
theorem hd_Mod_found : y_Mod_found.cls ≠ "java/lang/invoke/MethodHandle" ∧ y_Mod_found.cls ≠ "java/lang/invoke/VarHandle" ∧ (parseMethodDescriptor y_Mod_found.desc).map (fun d => d.parameters.length) = some 0 := by decide +kernel
theorem hd_Mod_keep : y_Mod_keep.cls ≠ "java/lang/invoke/MethodHandle" ∧ y_Mod_keep.cls ≠ "java/lang/invoke/VarHandle" ∧ (parseMethodDescriptor y_Mod_keep.desc).map (fun d => d.parameters.length) = some 1 := by decide +kernel
theorem hd_Mod_lose : y_Mod_lose.cls ≠ "java/lang/invoke/MethodHandle" ∧ y_Mod_lose.cls ≠ "java/lang/invoke/VarHandle" ∧ (parseMethodDescriptor y_Mod_lose.desc).map (fun d => d.parameters.length) = some 0 := by decide +kernel
theorem hd_Mod_fitsKept : y_Mod_fitsKept.cls ≠ "java/lang/invoke/MethodHandle" ∧ y_Mod_fitsKept.cls ≠ "java/lang/invoke/VarHandle" ∧ (parseMethodDescriptor y_Mod_fitsKept.desc).map (fun d => d.parameters.length) = some 2 := by decide +kernel
theorem hd_Mod_about : y_Mod_about.cls ≠ "java/lang/invoke/MethodHandle" ∧ y_Mod_about.cls ≠ "java/lang/invoke/VarHandle" ∧ (parseMethodDescriptor y_Mod_about.desc).map (fun d => d.parameters.length) = some 2 := by decide +kernel
theorem hd_Mod_isAhead : y_Mod_isAhead.cls ≠ "java/lang/invoke/MethodHandle" ∧ y_Mod_isAhead.cls ≠ "java/lang/invoke/VarHandle" ∧ (parseMethodDescriptor y_Mod_isAhead.desc).map (fun d => d.parameters.length) = some 2 := by decide +kernel
theorem hd_Mod_kept : y_Mod_kept.cls ≠ "java/lang/invoke/MethodHandle" ∧ y_Mod_kept.cls ≠ "java/lang/invoke/VarHandle" ∧ (parseMethodDescriptor y_Mod_kept.desc).map (fun d => d.parameters.length) = some 2 := by decide +kernel
theorem hd_Mod_sign : y_Mod_sign.cls ≠ "java/lang/invoke/MethodHandle" ∧ y_Mod_sign.cls ≠ "java/lang/invoke/VarHandle" ∧ (parseMethodDescriptor y_Mod_sign.desc).map (fun d => d.parameters.length) = some 2 := by decide +kernel
theorem hd_Mod_wordOf : y_Mod_wordOf.cls ≠ "java/lang/invoke/MethodHandle" ∧ y_Mod_wordOf.cls ≠ "java/lang/invoke/VarHandle" ∧ (parseMethodDescriptor y_Mod_wordOf.desc).map (fun d => d.parameters.length) = some 3 := by decide +kernel
theorem hd_Bnd_isBound : y_Bnd_isBound.cls ≠ "java/lang/invoke/MethodHandle" ∧ y_Bnd_isBound.cls ≠ "java/lang/invoke/VarHandle" ∧ (parseMethodDescriptor y_Bnd_isBound.desc).map (fun d => d.parameters.length) = some 0 := by decide +kernel
theorem hd_Bnd_pattern : y_Bnd_pattern.cls ≠ "java/lang/invoke/MethodHandle" ∧ y_Bnd_pattern.cls ≠ "java/lang/invoke/VarHandle" ∧ (parseMethodDescriptor y_Bnd_pattern.desc).map (fun d => d.parameters.length) = some 0 := by decide +kernel
theorem hd_Bnd_queue : y_Bnd_queue.cls ≠ "java/lang/invoke/MethodHandle" ∧ y_Bnd_queue.cls ≠ "java/lang/invoke/VarHandle" ∧ (parseMethodDescriptor y_Bnd_queue.desc).map (fun d => d.parameters.length) = some 0 := by decide +kernel
theorem hd_Bnd_routed : y_Bnd_routed.cls ≠ "java/lang/invoke/MethodHandle" ∧ y_Bnd_routed.cls ≠ "java/lang/invoke/VarHandle" ∧ (parseMethodDescriptor y_Bnd_routed.desc).map (fun d => d.parameters.length) = some 0 := by decide +kernel
theorem hd_Bnd_untie : y_Bnd_untie.cls ≠ "java/lang/invoke/MethodHandle" ∧ y_Bnd_untie.cls ≠ "java/lang/invoke/VarHandle" ∧ (parseMethodDescriptor y_Bnd_untie.desc).map (fun d => d.parameters.length) = some 0 := by decide +kernel
theorem hd_Bnd_countRouted : y_Bnd_countRouted.cls ≠ "java/lang/invoke/MethodHandle" ∧ y_Bnd_countRouted.cls ≠ "java/lang/invoke/VarHandle" ∧ (parseMethodDescriptor y_Bnd_countRouted.desc).map (fun d => d.parameters.length) = some 0 := by decide +kernel
theorem hd_Kt_text : y_Kt_text.cls ≠ "java/lang/invoke/MethodHandle" ∧ y_Kt_text.cls ≠ "java/lang/invoke/VarHandle" ∧ (parseMethodDescriptor y_Kt_text.desc).map (fun d => d.parameters.length) = some 0 := by decide +kernel
theorem hd_Kt_value : y_Kt_value.cls ≠ "java/lang/invoke/MethodHandle" ∧ y_Kt_value.cls ≠ "java/lang/invoke/VarHandle" ∧ (parseMethodDescriptor y_Kt_value.desc).map (fun d => d.parameters.length) = some 0 := by decide +kernel
theorem hd_Kt_setValue : y_Kt_setValue.cls ≠ "java/lang/invoke/MethodHandle" ∧ y_Kt_setValue.cls ≠ "java/lang/invoke/VarHandle" ∧ (parseMethodDescriptor y_Kt_setValue.desc).map (fun d => d.parameters.length) = some 1 := by decide +kernel
theorem hd_Rs_init : y_Rs_init.cls ≠ "java/lang/invoke/MethodHandle" ∧ y_Rs_init.cls ≠ "java/lang/invoke/VarHandle" ∧ (parseMethodDescriptor y_Rs_init.desc).map (fun d => d.parameters.length) = some 0 := by decide +kernel
theorem hd_Rs_addWord : y_Rs_addWord.cls ≠ "java/lang/invoke/MethodHandle" ∧ y_Rs_addWord.cls ≠ "java/lang/invoke/VarHandle" ∧ (parseMethodDescriptor y_Rs_addWord.desc).map (fun d => d.parameters.length) = some 1 := by decide +kernel
theorem hd_Rs_addState : y_Rs_addState.cls ≠ "java/lang/invoke/MethodHandle" ∧ y_Rs_addState.cls ≠ "java/lang/invoke/VarHandle" ∧ (parseMethodDescriptor y_Rs_addState.desc).map (fun d => d.parameters.length) = some 2 := by decide +kernel
theorem hd_Shelf_size : y_Shelf_size.cls ≠ "java/lang/invoke/MethodHandle" ∧ y_Shelf_size.cls ≠ "java/lang/invoke/VarHandle" ∧ (parseMethodDescriptor y_Shelf_size.desc).map (fun d => d.parameters.length) = some 0 := by decide +kernel
theorem hd_Shelf_move : y_Shelf_move.cls ≠ "java/lang/invoke/MethodHandle" ∧ y_Shelf_move.cls ≠ "java/lang/invoke/VarHandle" ∧ (parseMethodDescriptor y_Shelf_move.desc).map (fun d => d.parameters.length) = some 2 := by decide +kernel
theorem hd_Text_init : y_Text_init.cls ≠ "java/lang/invoke/MethodHandle" ∧ y_Text_init.cls ≠ "java/lang/invoke/VarHandle" ∧ (parseMethodDescriptor y_Text_init.desc).map (fun d => d.parameters.length) = some 0 := by decide +kernel
theorem hd_Text_length : y_Text_length.cls ≠ "java/lang/invoke/MethodHandle" ∧ y_Text_length.cls ≠ "java/lang/invoke/VarHandle" ∧ (parseMethodDescriptor y_Text_length.desc).map (fun d => d.parameters.length) = some 0 := by decide +kernel
theorem hd_Text_partCount : y_Text_partCount.cls ≠ "java/lang/invoke/MethodHandle" ∧ y_Text_partCount.cls ≠ "java/lang/invoke/VarHandle" ∧ (parseMethodDescriptor y_Text_partCount.desc).map (fun d => d.parameters.length) = some 0 := by decide +kernel
theorem hd_Text_signAt : y_Text_signAt.cls ≠ "java/lang/invoke/MethodHandle" ∧ y_Text_signAt.cls ≠ "java/lang/invoke/VarHandle" ∧ (parseMethodDescriptor y_Text_signAt.desc).map (fun d => d.parameters.length) = some 1 := by decide +kernel
theorem hd_Text_partAt : y_Text_partAt.cls ≠ "java/lang/invoke/MethodHandle" ∧ y_Text_partAt.cls ≠ "java/lang/invoke/VarHandle" ∧ (parseMethodDescriptor y_Text_partAt.desc).map (fun d => d.parameters.length) = some 1 := by decide +kernel
theorem hd_Text_add : y_Text_add.cls ≠ "java/lang/invoke/MethodHandle" ∧ y_Text_add.cls ≠ "java/lang/invoke/VarHandle" ∧ (parseMethodDescriptor y_Text_add.desc).map (fun d => d.parameters.length) = some 1 := by decide +kernel
theorem hd_Text_clear : y_Text_clear.cls ≠ "java/lang/invoke/MethodHandle" ∧ y_Text_clear.cls ≠ "java/lang/invoke/VarHandle" ∧ (parseMethodDescriptor y_Text_clear.desc).map (fun d => d.parameters.length) = some 0 := by decide +kernel
theorem hd_Text_compareSigns : y_Text_compareSigns.cls ≠ "java/lang/invoke/MethodHandle" ∧ y_Text_compareSigns.cls ≠ "java/lang/invoke/VarHandle" ∧ (parseMethodDescriptor y_Text_compareSigns.desc).map (fun d => d.parameters.length) = some 1 := by decide +kernel
theorem hd_Text_startPlaces : y_Text_startPlaces.cls ≠ "java/lang/invoke/MethodHandle" ∧ y_Text_startPlaces.cls ≠ "java/lang/invoke/VarHandle" ∧ (parseMethodDescriptor y_Text_startPlaces.desc).map (fun d => d.parameters.length) = some 0 := by decide +kernel
theorem hd_Text_placesBehind : y_Text_placesBehind.cls ≠ "java/lang/invoke/MethodHandle" ∧ y_Text_placesBehind.cls ≠ "java/lang/invoke/VarHandle" ∧ (parseMethodDescriptor y_Text_placesBehind.desc).map (fun d => d.parameters.length) = some 2 := by decide +kernel
theorem hd_Text_hasEnd : y_Text_hasEnd.cls ≠ "java/lang/invoke/MethodHandle" ∧ y_Text_hasEnd.cls ≠ "java/lang/invoke/VarHandle" ∧ (parseMethodDescriptor y_Text_hasEnd.desc).map (fun d => d.parameters.length) = some 1 := by decide +kernel
theorem hd_Text_addPart : y_Text_addPart.cls ≠ "java/lang/invoke/MethodHandle" ∧ y_Text_addPart.cls ≠ "java/lang/invoke/VarHandle" ∧ (parseMethodDescriptor y_Text_addPart.desc).map (fun d => d.parameters.length) = some 1 := by decide +kernel
theorem hd_Text_isWild : y_Text_isWild.cls ≠ "java/lang/invoke/MethodHandle" ∧ y_Text_isWild.cls ≠ "java/lang/invoke/VarHandle" ∧ (parseMethodDescriptor y_Text_isWild.desc).map (fun d => d.parameters.length) = some 1 := by decide +kernel
theorem hd_Text_isWordSign : y_Text_isWordSign.cls ≠ "java/lang/invoke/MethodHandle" ∧ y_Text_isWordSign.cls ≠ "java/lang/invoke/VarHandle" ∧ (parseMethodDescriptor y_Text_isWordSign.desc).map (fun d => d.parameters.length) = some 1 := by decide +kernel
theorem hd_Arr_fill : y_Arr_fill.cls ≠ "java/lang/invoke/MethodHandle" ∧ y_Arr_fill.cls ≠ "java/lang/invoke/VarHandle" ∧ (parseMethodDescriptor y_Arr_fill.desc).map (fun d => d.parameters.length) = some 2 := by decide +kernel
theorem hd_Desk_type : y_Desk_type.cls ≠ "java/lang/invoke/MethodHandle" ∧ y_Desk_type.cls ≠ "java/lang/invoke/VarHandle" ∧ (parseMethodDescriptor y_Desk_type.desc).map (fun d => d.parameters.length) = some 2 := by decide +kernel
theorem hd_Desk_leastFreeBinding : y_Desk_leastFreeBinding.cls ≠ "java/lang/invoke/MethodHandle" ∧ y_Desk_leastFreeBinding.cls ≠ "java/lang/invoke/VarHandle" ∧ (parseMethodDescriptor y_Desk_leastFreeBinding.desc).map (fun d => d.parameters.length) = some 0 := by decide +kernel
theorem hd_Desk_boundAt : y_Desk_boundAt.cls ≠ "java/lang/invoke/MethodHandle" ∧ y_Desk_boundAt.cls ≠ "java/lang/invoke/VarHandle" ∧ (parseMethodDescriptor y_Desk_boundAt.desc).map (fun d => d.parameters.length) = some 1 := by decide +kernel
theorem hd_Mod_fewest : y_Mod_fewest.cls ≠ "java/lang/invoke/MethodHandle" ∧ y_Mod_fewest.cls ≠ "java/lang/invoke/VarHandle" ∧ (parseMethodDescriptor y_Mod_fewest.desc).map (fun d => d.parameters.length) = some 3 := by decide +kernel
theorem hd_Mod_both : y_Mod_both.cls ≠ "java/lang/invoke/MethodHandle" ∧ y_Mod_both.cls ≠ "java/lang/invoke/VarHandle" ∧ (parseMethodDescriptor y_Mod_both.desc).map (fun d => d.parameters.length) = some 2 := by decide +kernel
theorem hd_Mod_only : y_Mod_only.cls ≠ "java/lang/invoke/MethodHandle" ∧ y_Mod_only.cls ≠ "java/lang/invoke/VarHandle" ∧ (parseMethodDescriptor y_Mod_only.desc).map (fun d => d.parameters.length) = some 2 := by decide +kernel
theorem hd_Mod_spare : y_Mod_spare.cls ≠ "java/lang/invoke/MethodHandle" ∧ y_Mod_spare.cls ≠ "java/lang/invoke/VarHandle" ∧ (parseMethodDescriptor y_Mod_spare.desc).map (fun d => d.parameters.length) = some 1 := by decide +kernel
theorem hd_Bnd_init : y_Bnd_init.cls ≠ "java/lang/invoke/MethodHandle" ∧ y_Bnd_init.cls ≠ "java/lang/invoke/VarHandle" ∧ (parseMethodDescriptor y_Bnd_init.desc).map (fun d => d.parameters.length) = some 0 := by decide +kernel
theorem hd_Kt_init : y_Kt_init.cls ≠ "java/lang/invoke/MethodHandle" ∧ y_Kt_init.cls ≠ "java/lang/invoke/VarHandle" ∧ (parseMethodDescriptor y_Kt_init.desc).map (fun d => d.parameters.length) = some 0 := by decide +kernel
theorem hd_Rs_collectWords : y_Rs_collectWords.cls ≠ "java/lang/invoke/MethodHandle" ∧ y_Rs_collectWords.cls ≠ "java/lang/invoke/VarHandle" ∧ (parseMethodDescriptor y_Rs_collectWords.desc).map (fun d => d.parameters.length) = some 2 := by decide +kernel
theorem hd_Rs_addStates : y_Rs_addStates.cls ≠ "java/lang/invoke/MethodHandle" ∧ y_Rs_addStates.cls ≠ "java/lang/invoke/VarHandle" ∧ (parseMethodDescriptor y_Rs_addStates.desc).map (fun d => d.parameters.length) = some 3 := by decide +kernel
theorem hd_Shelf_init : y_Shelf_init.cls ≠ "java/lang/invoke/MethodHandle" ∧ y_Shelf_init.cls ≠ "java/lang/invoke/VarHandle" ∧ (parseMethodDescriptor y_Shelf_init.desc).map (fun d => d.parameters.length) = some 0 := by decide +kernel
theorem hd_Shelf_placeFor : y_Shelf_placeFor.cls ≠ "java/lang/invoke/MethodHandle" ∧ y_Shelf_placeFor.cls ≠ "java/lang/invoke/VarHandle" ∧ (parseMethodDescriptor y_Shelf_placeFor.desc).map (fun d => d.parameters.length) = some 1 := by decide +kernel
theorem hd_Shelf_isAt : y_Shelf_isAt.cls ≠ "java/lang/invoke/MethodHandle" ∧ y_Shelf_isAt.cls ≠ "java/lang/invoke/VarHandle" ∧ (parseMethodDescriptor y_Shelf_isAt.desc).map (fun d => d.parameters.length) = some 2 := by decide +kernel
theorem hd_Text_copy : y_Text_copy.cls ≠ "java/lang/invoke/MethodHandle" ∧ y_Text_copy.cls ≠ "java/lang/invoke/VarHandle" ∧ (parseMethodDescriptor y_Text_copy.desc).map (fun d => d.parameters.length) = some 1 := by decide +kernel
theorem hd_Text_takes : y_Text_takes.cls ≠ "java/lang/invoke/MethodHandle" ∧ y_Text_takes.cls ≠ "java/lang/invoke/VarHandle" ∧ (parseMethodDescriptor y_Text_takes.desc).map (fun d => d.parameters.length) = some 1 := by decide +kernel
theorem hd_Text_canStand : y_Text_canStand.cls ≠ "java/lang/invoke/MethodHandle" ∧ y_Text_canStand.cls ≠ "java/lang/invoke/VarHandle" ∧ (parseMethodDescriptor y_Text_canStand.desc).map (fun d => d.parameters.length) = some 3 := by decide +kernel
theorem hd_Desk_init : y_Desk_init.cls ≠ "java/lang/invoke/MethodHandle" ∧ y_Desk_init.cls ≠ "java/lang/invoke/VarHandle" ∧ (parseMethodDescriptor y_Desk_init.desc).map (fun d => d.parameters.length) = some 0 := by decide +kernel
theorem hd_Desk_free : y_Desk_free.cls ≠ "java/lang/invoke/MethodHandle" ∧ y_Desk_free.cls ≠ "java/lang/invoke/VarHandle" ∧ (parseMethodDescriptor y_Desk_free.desc).map (fun d => d.parameters.length) = some 1 := by decide +kernel
theorem hd_Desk_sign : y_Desk_sign.cls ≠ "java/lang/invoke/MethodHandle" ∧ y_Desk_sign.cls ≠ "java/lang/invoke/VarHandle" ∧ (parseMethodDescriptor y_Desk_sign.desc).map (fun d => d.parameters.length) = some 2 := by decide +kernel
theorem hd_Bnd_tie : y_Bnd_tie.cls ≠ "java/lang/invoke/MethodHandle" ∧ y_Bnd_tie.cls ≠ "java/lang/invoke/VarHandle" ∧ (parseMethodDescriptor y_Bnd_tie.desc).map (fun d => d.parameters.length) = some 2 := by decide +kernel
theorem hd_Kt_setText : y_Kt_setText.cls ≠ "java/lang/invoke/MethodHandle" ∧ y_Kt_setText.cls ≠ "java/lang/invoke/VarHandle" ∧ (parseMethodDescriptor y_Kt_setText.desc).map (fun d => d.parameters.length) = some 1 := by decide +kernel
theorem hd_Rs_fewestWords : y_Rs_fewestWords.cls ≠ "java/lang/invoke/MethodHandle" ∧ y_Rs_fewestWords.cls ≠ "java/lang/invoke/VarHandle" ∧ (parseMethodDescriptor y_Rs_fewestWords.desc).map (fun d => d.parameters.length) = some 3 := by decide +kernel
theorem hd_Shelf_put : y_Shelf_put.cls ≠ "java/lang/invoke/MethodHandle" ∧ y_Shelf_put.cls ≠ "java/lang/invoke/VarHandle" ∧ (parseMethodDescriptor y_Shelf_put.desc).map (fun d => d.parameters.length) = some 2 := by decide +kernel
theorem hd_Shelf_drop : y_Shelf_drop.cls ≠ "java/lang/invoke/MethodHandle" ∧ y_Shelf_drop.cls ≠ "java/lang/invoke/VarHandle" ∧ (parseMethodDescriptor y_Shelf_drop.desc).map (fun d => d.parameters.length) = some 1 := by decide +kernel
theorem hd_Shelf_countTakenBy : y_Shelf_countTakenBy.cls ≠ "java/lang/invoke/MethodHandle" ∧ y_Shelf_countTakenBy.cls ≠ "java/lang/invoke/VarHandle" ∧ (parseMethodDescriptor y_Shelf_countTakenBy.desc).map (fun d => d.parameters.length) = some 1 := by decide +kernel
theorem hd_Shelf_takenBy : y_Shelf_takenBy.cls ≠ "java/lang/invoke/MethodHandle" ∧ y_Shelf_takenBy.cls ≠ "java/lang/invoke/VarHandle" ∧ (parseMethodDescriptor y_Shelf_takenBy.desc).map (fun d => d.parameters.length) = some 2 := by decide +kernel
theorem hd_Text_read : y_Text_read.cls ≠ "java/lang/invoke/MethodHandle" ∧ y_Text_read.cls ≠ "java/lang/invoke/VarHandle" ∧ (parseMethodDescriptor y_Text_read.desc).map (fun d => d.parameters.length) = some 1 := by decide +kernel
theorem hd_Desk_about : y_Desk_about.cls ≠ "java/lang/invoke/MethodHandle" ∧ y_Desk_about.cls ≠ "java/lang/invoke/VarHandle" ∧ (parseMethodDescriptor y_Desk_about.desc).map (fun d => d.parameters.length) = some 2 := by decide +kernel
theorem hd_Desk_takeTape : y_Desk_takeTape.cls ≠ "java/lang/invoke/MethodHandle" ∧ y_Desk_takeTape.cls ≠ "java/lang/invoke/VarHandle" ∧ (parseMethodDescriptor y_Desk_takeTape.desc).map (fun d => d.parameters.length) = some 1 := by decide +kernel
theorem hd_Desk_fewestWords : y_Desk_fewestWords.cls ≠ "java/lang/invoke/MethodHandle" ∧ y_Desk_fewestWords.cls ≠ "java/lang/invoke/VarHandle" ∧ (parseMethodDescriptor y_Desk_fewestWords.desc).map (fun d => d.parameters.length) = some 3 := by decide +kernel
theorem hd_Desk_isWithin : y_Desk_isWithin.cls ≠ "java/lang/invoke/MethodHandle" ∧ y_Desk_isWithin.cls ≠ "java/lang/invoke/VarHandle" ∧ (parseMethodDescriptor y_Desk_isWithin.desc).map (fun d => d.parameters.length) = some 2 := by decide +kernel
theorem hd_Desk_both : y_Desk_both.cls ≠ "java/lang/invoke/MethodHandle" ∧ y_Desk_both.cls ≠ "java/lang/invoke/VarHandle" ∧ (parseMethodDescriptor y_Desk_both.desc).map (fun d => d.parameters.length) = some 2 := by decide +kernel
theorem hd_Desk_only : y_Desk_only.cls ≠ "java/lang/invoke/MethodHandle" ∧ y_Desk_only.cls ≠ "java/lang/invoke/VarHandle" ∧ (parseMethodDescriptor y_Desk_only.desc).map (fun d => d.parameters.length) = some 2 := by decide +kernel
theorem hd_Desk_isSpare : y_Desk_isSpare.cls ≠ "java/lang/invoke/MethodHandle" ∧ y_Desk_isSpare.cls ≠ "java/lang/invoke/VarHandle" ∧ (parseMethodDescriptor y_Desk_isSpare.desc).map (fun d => d.parameters.length) = some 2 := by decide +kernel
theorem hd_Desk_spare : y_Desk_spare.cls ≠ "java/lang/invoke/MethodHandle" ∧ y_Desk_spare.cls ≠ "java/lang/invoke/VarHandle" ∧ (parseMethodDescriptor y_Desk_spare.desc).map (fun d => d.parameters.length) = some 1 := by decide +kernel
end
section
theorem d_Text_init_0 : decode b_Text_init 0 = .ok (.aload_n 0, 1) := by decide +kernel
theorem d_Text_init_1 : decode b_Text_init 1 = .ok (.invokespecial 3, 3) := by decide +kernel
theorem d_Text_init_4 : decode b_Text_init 4 = .ok (.aload_n 0, 1) := by decide +kernel
theorem d_Text_init_5 : decode b_Text_init 5 = .ok (.bipush 60, 2) := by decide +kernel
theorem d_Text_init_7 : decode b_Text_init 7 = .ok (.newarray .byte, 2) := by decide +kernel
theorem d_Text_init_9 : decode b_Text_init 9 = .ok (.putfield 9, 3) := by decide +kernel
theorem d_Text_init_12 : decode b_Text_init 12 = .ok (.aload_n 0, 1) := by decide +kernel
theorem d_Text_init_13 : decode b_Text_init 13 = .ok (.bipush 6, 2) := by decide +kernel
theorem d_Text_init_15 : decode b_Text_init 15 = .ok (.newarray .long, 2) := by decide +kernel
theorem d_Text_init_17 : decode b_Text_init 17 = .ok (.putfield 15, 3) := by decide +kernel
theorem d_Text_init_20 : decode b_Text_init 20 = .ok (.aload_n 0, 1) := by decide +kernel
theorem d_Text_init_21 : decode b_Text_init 21 = .ok (.iconst 0, 1) := by decide +kernel
theorem d_Text_init_22 : decode b_Text_init 22 = .ok (.putfield 19, 3) := by decide +kernel
theorem d_Text_init_25 : decode b_Text_init 25 = .ok (.aload_n 0, 1) := by decide +kernel
theorem d_Text_init_26 : decode b_Text_init 26 = .ok (.iconst 0, 1) := by decide +kernel
theorem d_Text_init_27 : decode b_Text_init 27 = .ok (.putfield 23, 3) := by decide +kernel
theorem d_Text_init_30 : decode b_Text_init 30 = .ok (.return_, 1) := by decide +kernel
abbrev rm_Text_init : Room := { frames := 1, cells := 2, slots := 66, locals := 20 }
abbrev C_Text_init (D : va_G) (g : Nat → ClassId) (p : Program) (s : State) (m : MethodId) (args : Array Value) (meth : Method) (c : Code) (M0 : Mem) : Prop := Cx p s m args c b_Text_init 1 R_Text BIG D vwCl (tysG g) (mA M0 s.heap.size) ∧ meth.sig.returnType = none ∧ meth.locks = false ∧ meth.name = "<init>"
abbrev B_Text_init (l : Launch) (D : va_G) (p : Program) (e : Env) (s : State) (m : MethodId) (args : Array Value) (below : List Frame) (meth : Method) (c : Code) (M0 : Mem) (P : Mem → Prop) (cn sn : Nat) (M : Mem) (pc : Nat) (lv : List (Nat × Value)) (st : List Value) : Prop := Wb p l e rm_Text_init s m args below meth c 1 D vwCl M0 (kV fun M' => P M') cn sn M pc lv st
def wp_Text_init (g : Nat → ClassId) (M : Mem) (x0 : Nat) (P : Mem → Prop) : Prop :=
  ∀ (q1 : Nat) (M2 : Mem), M q1 = none → M2 = mup M q1 (.inl (g 0, (60, .inl (fun _ => 0)))) → (∃ M3 : Mem, pV M2 1 x0 0 (.ref q1) = some M3 ∧ (∀ (q4 : Nat) (M5 : Mem), M3 q4 = none → M5 = mup M3 q4 (.inl (g 1, (6, .inr (.inl (fun _ => 0))))) → (∃ M6 : Mem, pV M5 1 x0 1 (.ref q4) = some M6 ∧ (∃ M7 : Mem, pV M6 1 x0 2 (.int (0 : Int32)) = some M7 ∧ (∃ M8 : Mem, pV M7 1 x0 3 (.int (0 : Int32)) = some M8 ∧ (P M8))))))
set_option maxHeartbeats 4000000 in
set_option maxRecDepth 100000 in
theorem c_Text_init {l : Launch} {D : va_G} {g : Nat → ClassId} {M : Mem} {x0 : Nat} {P : Mem → Prop} (h : wp_Text_init g M x0 P) : mMet l BIG D vwCl (tysG g) y_Text_init b_Text_init 1 none rm_Text_init [.ref x0] M (kV fun M' => P M') := by
  refine mMet.of (own := R_Text) rfl (by decide) rfl (fun p e s m below meth c C hr hlk hnm ls hM hS hl => ?_)
  have C : C_Text_init D g p s m ([.ref x0] : List Value).toArray meth c M := ⟨C, hr, hlk, hnm⟩
  have hcn : 0 + 2 ≤ 2 := by decide
  have hsn : 0 + 66 ≤ 66 := by decide
  unfold wp_Text_init at h
  have hl : lv_has ls 1 [(0, .ref x0)] := hl
  refine lv_aload_n C.1.1 C.1.2.1 d_Text_init_0 rfl (lv_at hl 0 rfl) ?_
  refine m_objInit C.1 kw99 kw3 kw4 hl.1 d_Text_init_1 (by decide) (by decide) (Nat.le_of_ble_eq_true rfl) ?_
  refine lv_aload_n C.1.1 C.1.2.1 d_Text_init_4 rfl (lv_at hl 0 rfl) ?_
  refine lv_bipush (v := (60 : Int32)) C.1.1 C.1.2.1 d_Text_init_5 (by decide) ?_
  refine mn_A (atype := .byte) (a0 := (60, .inl (fun _ => 0))) (N' := 60) C.1 hM hS (ty := .byte) rfl kw100 0 rfl (fun _ => rfl) (by decide) (by decide) (by decide) (show _ ≤ (2 : Nat) by omega) (show _ ≤ (66 : Nat) by omega) d_Text_init_7 (fun q1 H hq1 hM hS => ?_)
  obtain ⟨M2, eM2⟩ : ∃ N : Mem, N = mup M q1 (.inl (g 0, (60, .inl (fun _ => 0)))) := ⟨_, rfl⟩
  rw [← eM2] at hM
  have h := h q1 M2 hq1 eM2
  obtain ⟨M3, eM3, h⟩ := h
  refine mp_F C.1 hM hS C.2.2.2 ok_Text (by decide) kw101 rfl rfl rfl rfl eM3 d_Text_init_9 (fun H locs hM hS => ?_)
  refine lv_aload_n C.1.1 C.1.2.1 d_Text_init_12 rfl (lv_at hl 0 rfl) ?_
  refine lv_bipush (v := (6 : Int32)) C.1.1 C.1.2.1 d_Text_init_13 (by decide) ?_
  refine mn_A (atype := .long) (a0 := (6, .inr (.inl (fun _ => 0)))) (N' := 6) C.1 hM hS (ty := .long) rfl kw8 1 rfl (fun _ => rfl) (by decide) (by decide) (by decide) (show _ ≤ (2 : Nat) by omega) (show _ ≤ (66 : Nat) by omega) d_Text_init_15 (fun q4 H hq4 hM hS => ?_)
  obtain ⟨M5, eM5⟩ : ∃ N : Mem, N = mup M3 q4 (.inl (g 1, (6, .inr (.inl (fun _ => 0))))) := ⟨_, rfl⟩
  rw [← eM5] at hM
  have h := h q4 M5 hq4 eM5
  obtain ⟨M6, eM6, h⟩ := h
  refine mp_F C.1 hM hS C.2.2.2 ok_Text (by decide) kw102 rfl rfl rfl rfl eM6 d_Text_init_17 (fun H locs hM hS => ?_)
  refine lv_aload_n C.1.1 C.1.2.1 d_Text_init_20 rfl (lv_at hl 0 rfl) ?_
  refine lv_iconst (v := (0 : Int32)) C.1.1 C.1.2.1 d_Text_init_21 (by decide) ?_
  obtain ⟨M7, eM7, h⟩ := h
  refine mp_V C.1 hM hS ok_Text (by decide) kw103 rfl rfl rfl eM7 d_Text_init_22 (fun H locs hM hS => ?_)
  refine lv_aload_n C.1.1 C.1.2.1 d_Text_init_25 rfl (lv_at hl 0 rfl) ?_
  refine lv_iconst (v := (0 : Int32)) C.1.1 C.1.2.1 d_Text_init_26 (by decide) ?_
  obtain ⟨M8, eM8, h⟩ := h
  refine mp_V C.1 hM hS ok_Text (by decide) kw104 rfl rfl rfl eM8 d_Text_init_27 (fun H locs hM hS => ?_)
  refine W.widen (k := 2) (n := 66) (show _ ≤ (2 : Nat) by omega) (show _ ≤ (66 : Nat) by omega) ?_
  exact mr_V C.1 C.2.1 C.2.2.1 hM hS ⟨rfl, h⟩ d_Text_init_30
theorem d_Text_length_0 : decode b_Text_length 0 = .ok (.aload_n 0, 1) := by decide +kernel
theorem d_Text_length_1 : decode b_Text_length 1 = .ok (.getfield 19, 3) := by decide +kernel
theorem d_Text_length_4 : decode b_Text_length 4 = .ok (.ireturn, 1) := by decide +kernel
abbrev rm_Text_length : Room := { frames := 0, cells := 0, slots := 0, locals := 0 }
abbrev C_Text_length (D : va_G) (g : Nat → ClassId) (p : Program) (s : State) (m : MethodId) (args : Array Value) (meth : Method) (c : Code) (M0 : Mem) : Prop := Cx p s m args c b_Text_length 1 R_Text BIG D vwCl (tysG g) (mA M0 s.heap.size) ∧ meth.sig.returnType = (some .int) ∧ meth.locks = false
abbrev B_Text_length (l : Launch) (D : va_G) (p : Program) (e : Env) (s : State) (m : MethodId) (args : Array Value) (below : List Frame) (meth : Method) (c : Code) (M0 : Mem) (P : Int32 → Prop) (M : Mem) (pc : Nat) (lv : List (Nat × Value)) (st : List Value) : Prop := Wb p l e rm_Text_length s m args below meth c 1 D vwCl M0 (kI fun r M' => M0 = M' ∧ P r) 0 0 M pc lv st
def wp_Text_length (g : Nat → ClassId) (M : Mem) (x0 : Nat) (P : Int32 → Prop) : Prop :=
  ∃ v1 : Int32, gI M 1 x0 2 = some v1 ∧ (P v1)
set_option maxHeartbeats 4000000 in
set_option maxRecDepth 100000 in
theorem c_Text_length {l : Launch} {D : va_G} {g : Nat → ClassId} {M : Mem} {x0 : Nat} {P : Int32 → Prop} (h : wp_Text_length g M x0 P) : mMet l BIG D vwCl (tysG g) y_Text_length b_Text_length 1 (some .int) rm_Text_length [.ref x0] M (kI fun r M' => M = M' ∧ P r) := by
  refine mMet.of (own := R_Text) rfl (by decide) rfl (fun p e s m below meth c C hr hlk hnm ls hM hS hl => ?_)
  have C : C_Text_length D g p s m ([.ref x0] : List Value).toArray meth c M := ⟨C, hr, hlk⟩
  unfold wp_Text_length at h
  have hl : lv_has ls 1 [(0, .ref x0)] := hl
  refine lv_aload_n C.1.1 C.1.2.1 d_Text_length_0 rfl (lv_at hl 0 rfl) ?_
  obtain ⟨v1, ev1, h⟩ := h
  refine mg_I C.1 hM ok_Text (by decide) kw103 ev1 d_Text_length_1 ?_
  exact mr_I C.1 C.2.1 C.2.2 hM hS ⟨_, rfl, rfl, h⟩ d_Text_length_4
theorem d_Text_partCount_0 : decode b_Text_partCount 0 = .ok (.aload_n 0, 1) := by decide +kernel
theorem d_Text_partCount_1 : decode b_Text_partCount 1 = .ok (.getfield 23, 3) := by decide +kernel
theorem d_Text_partCount_4 : decode b_Text_partCount 4 = .ok (.ireturn, 1) := by decide +kernel
abbrev rm_Text_partCount : Room := { frames := 0, cells := 0, slots := 0, locals := 0 }
abbrev C_Text_partCount (D : va_G) (g : Nat → ClassId) (p : Program) (s : State) (m : MethodId) (args : Array Value) (meth : Method) (c : Code) (M0 : Mem) : Prop := Cx p s m args c b_Text_partCount 1 R_Text BIG D vwCl (tysG g) (mA M0 s.heap.size) ∧ meth.sig.returnType = (some .int) ∧ meth.locks = false
abbrev B_Text_partCount (l : Launch) (D : va_G) (p : Program) (e : Env) (s : State) (m : MethodId) (args : Array Value) (below : List Frame) (meth : Method) (c : Code) (M0 : Mem) (P : Int32 → Prop) (M : Mem) (pc : Nat) (lv : List (Nat × Value)) (st : List Value) : Prop := Wb p l e rm_Text_partCount s m args below meth c 1 D vwCl M0 (kI fun r M' => M0 = M' ∧ P r) 0 0 M pc lv st
def wp_Text_partCount (g : Nat → ClassId) (M : Mem) (x0 : Nat) (P : Int32 → Prop) : Prop :=
  ∃ v1 : Int32, gI M 1 x0 3 = some v1 ∧ (P v1)
set_option maxHeartbeats 4000000 in
set_option maxRecDepth 100000 in
theorem c_Text_partCount {l : Launch} {D : va_G} {g : Nat → ClassId} {M : Mem} {x0 : Nat} {P : Int32 → Prop} (h : wp_Text_partCount g M x0 P) : mMet l BIG D vwCl (tysG g) y_Text_partCount b_Text_partCount 1 (some .int) rm_Text_partCount [.ref x0] M (kI fun r M' => M = M' ∧ P r) := by
  refine mMet.of (own := R_Text) rfl (by decide) rfl (fun p e s m below meth c C hr hlk hnm ls hM hS hl => ?_)
  have C : C_Text_partCount D g p s m ([.ref x0] : List Value).toArray meth c M := ⟨C, hr, hlk⟩
  unfold wp_Text_partCount at h
  have hl : lv_has ls 1 [(0, .ref x0)] := hl
  refine lv_aload_n C.1.1 C.1.2.1 d_Text_partCount_0 rfl (lv_at hl 0 rfl) ?_
  obtain ⟨v1, ev1, h⟩ := h
  refine mg_I C.1 hM ok_Text (by decide) kw104 ev1 d_Text_partCount_1 ?_
  exact mr_I C.1 C.2.1 C.2.2 hM hS ⟨_, rfl, rfl, h⟩ d_Text_partCount_4
theorem d_Text_signAt_0 : decode b_Text_signAt 0 = .ok (.iload_n 1, 1) := by decide +kernel
theorem d_Text_signAt_1 : decode b_Text_signAt 1 = .ok (.ifCond .lt 29, 3) := by decide +kernel
theorem d_Text_signAt_4 : decode b_Text_signAt 4 = .ok (.iload_n 1, 1) := by decide +kernel
theorem d_Text_signAt_5 : decode b_Text_signAt 5 = .ok (.aload_n 0, 1) := by decide +kernel
theorem d_Text_signAt_6 : decode b_Text_signAt 6 = .ok (.getfield 19, 3) := by decide +kernel
theorem d_Text_signAt_9 : decode b_Text_signAt 9 = .ok (.if_icmp .ge 21, 3) := by decide +kernel
theorem d_Text_signAt_12 : decode b_Text_signAt 12 = .ok (.iload_n 1, 1) := by decide +kernel
theorem d_Text_signAt_13 : decode b_Text_signAt 13 = .ok (.aload_n 0, 1) := by decide +kernel
theorem d_Text_signAt_14 : decode b_Text_signAt 14 = .ok (.getfield 9, 3) := by decide +kernel
theorem d_Text_signAt_17 : decode b_Text_signAt 17 = .ok (.arraylength, 1) := by decide +kernel
theorem d_Text_signAt_18 : decode b_Text_signAt 18 = .ok (.if_icmp .ge 12, 3) := by decide +kernel
theorem d_Text_signAt_21 : decode b_Text_signAt 21 = .ok (.aload_n 0, 1) := by decide +kernel
theorem d_Text_signAt_22 : decode b_Text_signAt 22 = .ok (.getfield 9, 3) := by decide +kernel
theorem d_Text_signAt_25 : decode b_Text_signAt 25 = .ok (.iload_n 1, 1) := by decide +kernel
theorem d_Text_signAt_26 : decode b_Text_signAt 26 = .ok (.baload, 1) := by decide +kernel
theorem d_Text_signAt_27 : decode b_Text_signAt 27 = .ok (.goto 4, 3) := by decide +kernel
theorem d_Text_signAt_30 : decode b_Text_signAt 30 = .ok (.iconst (-1), 1) := by decide +kernel
theorem d_Text_signAt_31 : decode b_Text_signAt 31 = .ok (.ireturn, 1) := by decide +kernel
abbrev rm_Text_signAt : Room := { frames := 0, cells := 0, slots := 0, locals := 0 }
abbrev C_Text_signAt (D : va_G) (g : Nat → ClassId) (p : Program) (s : State) (m : MethodId) (args : Array Value) (meth : Method) (c : Code) (M0 : Mem) : Prop := Cx p s m args c b_Text_signAt 2 R_Text BIG D vwCl (tysG g) (mA M0 s.heap.size) ∧ meth.sig.returnType = (some .int) ∧ meth.locks = false
abbrev B_Text_signAt (l : Launch) (D : va_G) (p : Program) (e : Env) (s : State) (m : MethodId) (args : Array Value) (below : List Frame) (meth : Method) (c : Code) (M0 : Mem) (P : Int32 → Prop) (M : Mem) (pc : Nat) (lv : List (Nat × Value)) (st : List Value) : Prop := Wb p l e rm_Text_signAt s m args below meth c 2 D vwCl M0 (kI fun r M' => M0 = M' ∧ P r) 0 0 M pc lv st
def wp_Text_signAt_b31 (g : Nat → ClassId) (P : Int32 → Prop) (M : Mem) (t0 : Int32) : Prop :=
  P t0
set_option maxHeartbeats 4000000 in
set_option maxRecDepth 100000 in
theorem t_Text_signAt_b31 {l : Launch} {D : va_G} {g : Nat → ClassId} {p : Program} {e : Env} {s : State} {m : MethodId} {args : Array Value} {below : List Frame} {meth : Method} {c : Code} {P : Int32 → Prop} {M : Mem} {t0 : Int32} (C : C_Text_signAt D g p s m args meth c M) (h : wp_Text_signAt_b31 g P M t0) : B_Text_signAt l D p e s m args below meth c M P M 31 [] [.int t0] := by
  intro ls H locs hM hS hl
  unfold wp_Text_signAt_b31 at h
  exact mr_I C.1 C.2.1 C.2.2 hM hS ⟨_, rfl, rfl, h⟩ d_Text_signAt_31
def wp_Text_signAt_b30 (g : Nat → ClassId) (P : Int32 → Prop) (M : Mem) : Prop :=
  wp_Text_signAt_b31 g P M (-1 : Int32)
set_option maxHeartbeats 4000000 in
set_option maxRecDepth 100000 in
theorem t_Text_signAt_b30 {l : Launch} {D : va_G} {g : Nat → ClassId} {p : Program} {e : Env} {s : State} {m : MethodId} {args : Array Value} {below : List Frame} {meth : Method} {c : Code} {P : Int32 → Prop} {M : Mem} (C : C_Text_signAt D g p s m args meth c M) (h : wp_Text_signAt_b30 g P M ) : B_Text_signAt l D p e s m args below meth c M P M 30 [] [] := by
  intro ls H locs hM hS hl
  unfold wp_Text_signAt_b30 at h
  refine lv_iconst (v := (-1 : Int32)) C.1.1 C.1.2.1 d_Text_signAt_30 (by decide) ?_
  exact t_Text_signAt_b31 C h _ _ _ hM hS (lv_sub hl [] rfl)
def wp_Text_signAt (g : Nat → ClassId) (M : Mem) (x0 : Nat) (x1 : Int32) (P : Int32 → Prop) : Prop :=
  (x1 < 0 → (wp_Text_signAt_b30 g P M)) ∧ (¬ x1 < 0 → (∃ v2 : Int32, gI M 1 x0 2 = some v2 ∧ ((v2 ≤ x1 → (wp_Text_signAt_b30 g P M)) ∧ (¬ v2 ≤ x1 → (∃ v4 : Nat, gR M 1 x0 0 = some v4 ∧ (∃ n5 : Nat, aN M (g 0) v4 = some n5 ∧ (((nI n5) ≤ x1 → (wp_Text_signAt_b30 g P M)) ∧ (¬ (nI n5) ≤ x1 → (∃ v7 : Nat, gR M 1 x0 0 = some v7 ∧ (∃ v8 : Int32, aI M (g 0) v7 x1 = some v8 ∧ (wp_Text_signAt_b31 g P M v8)))))))))))
set_option maxHeartbeats 4000000 in
set_option maxRecDepth 100000 in
theorem c_Text_signAt {l : Launch} {D : va_G} {g : Nat → ClassId} {M : Mem} {x0 : Nat} {x1 : Int32} {P : Int32 → Prop} (h : wp_Text_signAt g M x0 x1 P) : mMet l BIG D vwCl (tysG g) y_Text_signAt b_Text_signAt 2 (some .int) rm_Text_signAt [.ref x0, .int x1] M (kI fun r M' => M = M' ∧ P r) := by
  refine mMet.of (own := R_Text) rfl (by decide) rfl (fun p e s m below meth c C hr hlk hnm ls hM hS hl => ?_)
  have C : C_Text_signAt D g p s m ([.ref x0, .int x1] : List Value).toArray meth c M := ⟨C, hr, hlk⟩
  unfold wp_Text_signAt at h
  have hl : lv_has ls 2 [(0, .ref x0), (1, .int x1)] := hl
  refine lv_iload_n C.1.1 C.1.2.1 d_Text_signAt_0 rfl (lv_at hl 1 rfl) ?_
  refine lv_if_lt (tgt := 30) C.1.1 C.1.2.1 d_Text_signAt_1 (by decide) (fun c1 => ?_) (fun c1 => ?_)
  · have h := h.1 c1
    exact t_Text_signAt_b30 C h _ _ _ hM hS (lv_sub hl [] rfl)
  · have h := h.2 c1
    refine lv_iload_n C.1.1 C.1.2.1 d_Text_signAt_4 rfl (lv_at hl 1 rfl) ?_
    refine lv_aload_n C.1.1 C.1.2.1 d_Text_signAt_5 rfl (lv_at hl 0 rfl) ?_
    obtain ⟨v2, ev2, h⟩ := h
    refine mg_I C.1 hM ok_Text (by decide) kw103 ev2 d_Text_signAt_6 ?_
    refine lv_icmp_ge (tgt := 30) C.1.1 C.1.2.1 d_Text_signAt_9 (by decide) (fun c3 => ?_) (fun c3 => ?_)
    · have h := h.1 c3
      exact t_Text_signAt_b30 C h _ _ _ hM hS (lv_sub hl [] rfl)
    · have h := h.2 c3
      refine lv_iload_n C.1.1 C.1.2.1 d_Text_signAt_12 rfl (lv_at hl 1 rfl) ?_
      refine lv_aload_n C.1.1 C.1.2.1 d_Text_signAt_13 rfl (lv_at hl 0 rfl) ?_
      obtain ⟨v4, ev4, h⟩ := h
      refine mg_R C.1 hM ok_Text (by decide) kw101 ev4 d_Text_signAt_14 ?_
      obtain ⟨n5, en5, h⟩ := h
      refine ma_N C.1 hM 0 rfl en5 d_Text_signAt_17 ?_
      refine lv_icmp_ge (tgt := 30) C.1.1 C.1.2.1 d_Text_signAt_18 (by decide) (fun c6 => ?_) (fun c6 => ?_)
      · have h := h.1 c6
        exact t_Text_signAt_b30 C h _ _ _ hM hS (lv_sub hl [] rfl)
      · have h := h.2 c6
        refine lv_aload_n C.1.1 C.1.2.1 d_Text_signAt_21 rfl (lv_at hl 0 rfl) ?_
        obtain ⟨v7, ev7, h⟩ := h
        refine mg_R C.1 hM ok_Text (by decide) kw101 ev7 d_Text_signAt_22 ?_
        refine lv_iload_n C.1.1 C.1.2.1 d_Text_signAt_25 rfl (lv_at hl 1 rfl) ?_
        obtain ⟨v8, ev8, h⟩ := h
        refine ma_B C.1 hM 0 rfl ev8 d_Text_signAt_26 ?_
        refine lv_goto (tgt := 31) C.1.1 C.1.2.1 d_Text_signAt_27 (by decide) ?_
        exact t_Text_signAt_b31 C h _ _ _ hM hS (lv_sub hl [] rfl)
theorem d_Text_partAt_0 : decode b_Text_partAt 0 = .ok (.iload_n 1, 1) := by decide +kernel
theorem d_Text_partAt_1 : decode b_Text_partAt 1 = .ok (.ifCond .lt 29, 3) := by decide +kernel
theorem d_Text_partAt_4 : decode b_Text_partAt 4 = .ok (.iload_n 1, 1) := by decide +kernel
theorem d_Text_partAt_5 : decode b_Text_partAt 5 = .ok (.aload_n 0, 1) := by decide +kernel
theorem d_Text_partAt_6 : decode b_Text_partAt 6 = .ok (.getfield 23, 3) := by decide +kernel
theorem d_Text_partAt_9 : decode b_Text_partAt 9 = .ok (.if_icmp .ge 21, 3) := by decide +kernel
theorem d_Text_partAt_12 : decode b_Text_partAt 12 = .ok (.iload_n 1, 1) := by decide +kernel
theorem d_Text_partAt_13 : decode b_Text_partAt 13 = .ok (.aload_n 0, 1) := by decide +kernel
theorem d_Text_partAt_14 : decode b_Text_partAt 14 = .ok (.getfield 15, 3) := by decide +kernel
theorem d_Text_partAt_17 : decode b_Text_partAt 17 = .ok (.arraylength, 1) := by decide +kernel
theorem d_Text_partAt_18 : decode b_Text_partAt 18 = .ok (.if_icmp .ge 12, 3) := by decide +kernel
theorem d_Text_partAt_21 : decode b_Text_partAt 21 = .ok (.aload_n 0, 1) := by decide +kernel
theorem d_Text_partAt_22 : decode b_Text_partAt 22 = .ok (.getfield 15, 3) := by decide +kernel
theorem d_Text_partAt_25 : decode b_Text_partAt 25 = .ok (.iload_n 1, 1) := by decide +kernel
theorem d_Text_partAt_26 : decode b_Text_partAt 26 = .ok (.laload, 1) := by decide +kernel
theorem d_Text_partAt_27 : decode b_Text_partAt 27 = .ok (.goto 4, 3) := by decide +kernel
theorem d_Text_partAt_30 : decode b_Text_partAt 30 = .ok (.lconst 0, 1) := by decide +kernel
theorem d_Text_partAt_31 : decode b_Text_partAt 31 = .ok (.lreturn, 1) := by decide +kernel
abbrev rm_Text_partAt : Room := { frames := 0, cells := 0, slots := 0, locals := 0 }
abbrev C_Text_partAt (D : va_G) (g : Nat → ClassId) (p : Program) (s : State) (m : MethodId) (args : Array Value) (meth : Method) (c : Code) (M0 : Mem) : Prop := Cx p s m args c b_Text_partAt 2 R_Text BIG D vwCl (tysG g) (mA M0 s.heap.size) ∧ meth.sig.returnType = (some .long) ∧ meth.locks = false
abbrev B_Text_partAt (l : Launch) (D : va_G) (p : Program) (e : Env) (s : State) (m : MethodId) (args : Array Value) (below : List Frame) (meth : Method) (c : Code) (M0 : Mem) (P : Int64 → Prop) (M : Mem) (pc : Nat) (lv : List (Nat × Value)) (st : List Value) : Prop := Wb p l e rm_Text_partAt s m args below meth c 2 D vwCl M0 (kL fun r M' => M0 = M' ∧ P r) 0 0 M pc lv st
def wp_Text_partAt_b31 (g : Nat → ClassId) (P : Int64 → Prop) (M : Mem) (t0 : Int64) : Prop :=
  P t0
set_option maxHeartbeats 4000000 in
set_option maxRecDepth 100000 in
theorem t_Text_partAt_b31 {l : Launch} {D : va_G} {g : Nat → ClassId} {p : Program} {e : Env} {s : State} {m : MethodId} {args : Array Value} {below : List Frame} {meth : Method} {c : Code} {P : Int64 → Prop} {M : Mem} {t0 : Int64} (C : C_Text_partAt D g p s m args meth c M) (h : wp_Text_partAt_b31 g P M t0) : B_Text_partAt l D p e s m args below meth c M P M 31 [] [.long t0] := by
  intro ls H locs hM hS hl
  unfold wp_Text_partAt_b31 at h
  exact mr_L C.1 C.2.1 C.2.2 hM hS ⟨_, rfl, rfl, h⟩ d_Text_partAt_31
def wp_Text_partAt_b30 (g : Nat → ClassId) (P : Int64 → Prop) (M : Mem) : Prop :=
  wp_Text_partAt_b31 g P M (0 : Int64)
set_option maxHeartbeats 4000000 in
set_option maxRecDepth 100000 in
theorem t_Text_partAt_b30 {l : Launch} {D : va_G} {g : Nat → ClassId} {p : Program} {e : Env} {s : State} {m : MethodId} {args : Array Value} {below : List Frame} {meth : Method} {c : Code} {P : Int64 → Prop} {M : Mem} (C : C_Text_partAt D g p s m args meth c M) (h : wp_Text_partAt_b30 g P M ) : B_Text_partAt l D p e s m args below meth c M P M 30 [] [] := by
  intro ls H locs hM hS hl
  unfold wp_Text_partAt_b30 at h
  refine lv_lconst (v := (0 : Int64)) C.1.1 C.1.2.1 d_Text_partAt_30 (by decide) ?_
  exact t_Text_partAt_b31 C h _ _ _ hM hS (lv_sub hl [] rfl)
def wp_Text_partAt (g : Nat → ClassId) (M : Mem) (x0 : Nat) (x1 : Int32) (P : Int64 → Prop) : Prop :=
  (x1 < 0 → (wp_Text_partAt_b30 g P M)) ∧ (¬ x1 < 0 → (∃ v2 : Int32, gI M 1 x0 3 = some v2 ∧ ((v2 ≤ x1 → (wp_Text_partAt_b30 g P M)) ∧ (¬ v2 ≤ x1 → (∃ v4 : Nat, gR M 1 x0 1 = some v4 ∧ (∃ n5 : Nat, aN M (g 1) v4 = some n5 ∧ (((nI n5) ≤ x1 → (wp_Text_partAt_b30 g P M)) ∧ (¬ (nI n5) ≤ x1 → (∃ v7 : Nat, gR M 1 x0 1 = some v7 ∧ (∃ v8 : Int64, aL M (g 1) v7 x1 = some v8 ∧ (wp_Text_partAt_b31 g P M v8)))))))))))
set_option maxHeartbeats 4000000 in
set_option maxRecDepth 100000 in
theorem c_Text_partAt {l : Launch} {D : va_G} {g : Nat → ClassId} {M : Mem} {x0 : Nat} {x1 : Int32} {P : Int64 → Prop} (h : wp_Text_partAt g M x0 x1 P) : mMet l BIG D vwCl (tysG g) y_Text_partAt b_Text_partAt 2 (some .long) rm_Text_partAt [.ref x0, .int x1] M (kL fun r M' => M = M' ∧ P r) := by
  refine mMet.of (own := R_Text) rfl (by decide) rfl (fun p e s m below meth c C hr hlk hnm ls hM hS hl => ?_)
  have C : C_Text_partAt D g p s m ([.ref x0, .int x1] : List Value).toArray meth c M := ⟨C, hr, hlk⟩
  unfold wp_Text_partAt at h
  have hl : lv_has ls 2 [(0, .ref x0), (1, .int x1)] := hl
  refine lv_iload_n C.1.1 C.1.2.1 d_Text_partAt_0 rfl (lv_at hl 1 rfl) ?_
  refine lv_if_lt (tgt := 30) C.1.1 C.1.2.1 d_Text_partAt_1 (by decide) (fun c1 => ?_) (fun c1 => ?_)
  · have h := h.1 c1
    exact t_Text_partAt_b30 C h _ _ _ hM hS (lv_sub hl [] rfl)
  · have h := h.2 c1
    refine lv_iload_n C.1.1 C.1.2.1 d_Text_partAt_4 rfl (lv_at hl 1 rfl) ?_
    refine lv_aload_n C.1.1 C.1.2.1 d_Text_partAt_5 rfl (lv_at hl 0 rfl) ?_
    obtain ⟨v2, ev2, h⟩ := h
    refine mg_I C.1 hM ok_Text (by decide) kw104 ev2 d_Text_partAt_6 ?_
    refine lv_icmp_ge (tgt := 30) C.1.1 C.1.2.1 d_Text_partAt_9 (by decide) (fun c3 => ?_) (fun c3 => ?_)
    · have h := h.1 c3
      exact t_Text_partAt_b30 C h _ _ _ hM hS (lv_sub hl [] rfl)
    · have h := h.2 c3
      refine lv_iload_n C.1.1 C.1.2.1 d_Text_partAt_12 rfl (lv_at hl 1 rfl) ?_
      refine lv_aload_n C.1.1 C.1.2.1 d_Text_partAt_13 rfl (lv_at hl 0 rfl) ?_
      obtain ⟨v4, ev4, h⟩ := h
      refine mg_R C.1 hM ok_Text (by decide) kw102 ev4 d_Text_partAt_14 ?_
      obtain ⟨n5, en5, h⟩ := h
      refine ma_N C.1 hM 1 rfl en5 d_Text_partAt_17 ?_
      refine lv_icmp_ge (tgt := 30) C.1.1 C.1.2.1 d_Text_partAt_18 (by decide) (fun c6 => ?_) (fun c6 => ?_)
      · have h := h.1 c6
        exact t_Text_partAt_b30 C h _ _ _ hM hS (lv_sub hl [] rfl)
      · have h := h.2 c6
        refine lv_aload_n C.1.1 C.1.2.1 d_Text_partAt_21 rfl (lv_at hl 0 rfl) ?_
        obtain ⟨v7, ev7, h⟩ := h
        refine mg_R C.1 hM ok_Text (by decide) kw102 ev7 d_Text_partAt_22 ?_
        refine lv_iload_n C.1.1 C.1.2.1 d_Text_partAt_25 rfl (lv_at hl 1 rfl) ?_
        obtain ⟨v8, ev8, h⟩ := h
        refine ma_L C.1 hM 1 rfl ev8 d_Text_partAt_26 ?_
        refine lv_goto (tgt := 31) C.1.1 C.1.2.1 d_Text_partAt_27 (by decide) ?_
        exact t_Text_partAt_b31 C h _ _ _ hM hS (lv_sub hl [] rfl)
theorem d_Text_add_0 : decode b_Text_add 0 = .ok (.aload_n 0, 1) := by decide +kernel
theorem d_Text_add_1 : decode b_Text_add 1 = .ok (.getfield 19, 3) := by decide +kernel
theorem d_Text_add_4 : decode b_Text_add 4 = .ok (.aload_n 0, 1) := by decide +kernel
theorem d_Text_add_5 : decode b_Text_add 5 = .ok (.getfield 9, 3) := by decide +kernel
theorem d_Text_add_8 : decode b_Text_add 8 = .ok (.arraylength, 1) := by decide +kernel
theorem d_Text_add_9 : decode b_Text_add 9 = .ok (.if_icmp .ge 24, 3) := by decide +kernel
theorem d_Text_add_12 : decode b_Text_add 12 = .ok (.aload_n 0, 1) := by decide +kernel
theorem d_Text_add_13 : decode b_Text_add 13 = .ok (.getfield 9, 3) := by decide +kernel
theorem d_Text_add_16 : decode b_Text_add 16 = .ok (.aload_n 0, 1) := by decide +kernel
theorem d_Text_add_17 : decode b_Text_add 17 = .ok (.getfield 19, 3) := by decide +kernel
theorem d_Text_add_20 : decode b_Text_add 20 = .ok (.iload_n 1, 1) := by decide +kernel
theorem d_Text_add_21 : decode b_Text_add 21 = .ok (.i2b, 1) := by decide +kernel
theorem d_Text_add_22 : decode b_Text_add 22 = .ok (.bastore, 1) := by decide +kernel
theorem d_Text_add_23 : decode b_Text_add 23 = .ok (.aload_n 0, 1) := by decide +kernel
theorem d_Text_add_24 : decode b_Text_add 24 = .ok (.dup, 1) := by decide +kernel
theorem d_Text_add_25 : decode b_Text_add 25 = .ok (.getfield 19, 3) := by decide +kernel
theorem d_Text_add_28 : decode b_Text_add 28 = .ok (.iconst 1, 1) := by decide +kernel
theorem d_Text_add_29 : decode b_Text_add 29 = .ok (.iadd, 1) := by decide +kernel
theorem d_Text_add_30 : decode b_Text_add 30 = .ok (.putfield 19, 3) := by decide +kernel
theorem d_Text_add_33 : decode b_Text_add 33 = .ok (.return_, 1) := by decide +kernel
abbrev rm_Text_add : Room := { frames := 0, cells := 0, slots := 0, locals := 0 }
abbrev C_Text_add (D : va_G) (g : Nat → ClassId) (p : Program) (s : State) (m : MethodId) (args : Array Value) (meth : Method) (c : Code) (M0 : Mem) : Prop := Cx p s m args c b_Text_add 2 R_Text BIG D vwCl (tysG g) (mA M0 s.heap.size) ∧ meth.sig.returnType = none ∧ meth.locks = false
abbrev B_Text_add (l : Launch) (D : va_G) (p : Program) (e : Env) (s : State) (m : MethodId) (args : Array Value) (below : List Frame) (meth : Method) (c : Code) (M0 : Mem) (P : Mem → Prop) (M : Mem) (pc : Nat) (lv : List (Nat × Value)) (st : List Value) : Prop := Wb p l e rm_Text_add s m args below meth c 2 D vwCl M0 (kV fun M' => P M') 0 0 M pc lv st
def wp_Text_add_b33 (g : Nat → ClassId) (P : Mem → Prop) (M : Mem) : Prop :=
  P M
set_option maxHeartbeats 4000000 in
set_option maxRecDepth 100000 in
theorem t_Text_add_b33 {l : Launch} {D : va_G} {g : Nat → ClassId} {p : Program} {e : Env} {s : State} {m : MethodId} {args : Array Value} {below : List Frame} {meth : Method} {c : Code} {M0 : Mem} {P : Mem → Prop} {M : Mem} (C : C_Text_add D g p s m args meth c M0) (h : wp_Text_add_b33 g P M ) : B_Text_add l D p e s m args below meth c M0 P M 33 [] [] := by
  intro ls H locs hM hS hl
  unfold wp_Text_add_b33 at h
  exact mr_V C.1 C.2.1 C.2.2 hM hS ⟨rfl, h⟩ d_Text_add_33
def wp_Text_add (g : Nat → ClassId) (M : Mem) (x0 : Nat) (x1 : Int32) (P : Mem → Prop) : Prop :=
  ∃ v1 : Int32, gI M 1 x0 2 = some v1 ∧ (∃ v2 : Nat, gR M 1 x0 0 = some v2 ∧ (∃ n3 : Nat, aN M (g 0) v2 = some n3 ∧ (((nI n3) ≤ v1 → (wp_Text_add_b33 g P M)) ∧ (¬ (nI n3) ≤ v1 → (∃ v5 : Nat, gR M 1 x0 0 = some v5 ∧ (∃ v6 : Int32, gI M 1 x0 2 = some v6 ∧ (∃ M7 : Mem, sI M (g 0) v5 v6 (vp_nar .byte x1.toInt8.toInt32) = some M7 ∧ (∃ v8 : Int32, gI M7 1 x0 2 = some v8 ∧ (∃ M9 : Mem, pV M7 1 x0 2 (.int (v8 + (1 : Int32))) = some M9 ∧ (wp_Text_add_b33 g P M9))))))))))
set_option maxHeartbeats 4000000 in
set_option maxRecDepth 100000 in
theorem c_Text_add {l : Launch} {D : va_G} {g : Nat → ClassId} {M : Mem} {x0 : Nat} {x1 : Int32} {P : Mem → Prop} (h : wp_Text_add g M x0 x1 P) : mMet l BIG D vwCl (tysG g) y_Text_add b_Text_add 2 none rm_Text_add [.ref x0, .int x1] M (kV fun M' => P M') := by
  refine mMet.of (own := R_Text) rfl (by decide) rfl (fun p e s m below meth c C hr hlk hnm ls hM hS hl => ?_)
  have C : C_Text_add D g p s m ([.ref x0, .int x1] : List Value).toArray meth c M := ⟨C, hr, hlk⟩
  unfold wp_Text_add at h
  have hl : lv_has ls 2 [(0, .ref x0), (1, .int x1)] := hl
  refine lv_aload_n C.1.1 C.1.2.1 d_Text_add_0 rfl (lv_at hl 0 rfl) ?_
  obtain ⟨v1, ev1, h⟩ := h
  refine mg_I C.1 hM ok_Text (by decide) kw103 ev1 d_Text_add_1 ?_
  refine lv_aload_n C.1.1 C.1.2.1 d_Text_add_4 rfl (lv_at hl 0 rfl) ?_
  obtain ⟨v2, ev2, h⟩ := h
  refine mg_R C.1 hM ok_Text (by decide) kw101 ev2 d_Text_add_5 ?_
  obtain ⟨n3, en3, h⟩ := h
  refine ma_N C.1 hM 0 rfl en3 d_Text_add_8 ?_
  refine lv_icmp_ge (tgt := 33) C.1.1 C.1.2.1 d_Text_add_9 (by decide) (fun c4 => ?_) (fun c4 => ?_)
  · have h := h.1 c4
    exact t_Text_add_b33 C h _ _ _ hM hS (lv_sub hl [] rfl)
  · have h := h.2 c4
    refine lv_aload_n C.1.1 C.1.2.1 d_Text_add_12 rfl (lv_at hl 0 rfl) ?_
    obtain ⟨v5, ev5, h⟩ := h
    refine mg_R C.1 hM ok_Text (by decide) kw101 ev5 d_Text_add_13 ?_
    refine lv_aload_n C.1.1 C.1.2.1 d_Text_add_16 rfl (lv_at hl 0 rfl) ?_
    obtain ⟨v6, ev6, h⟩ := h
    refine mg_I C.1 hM ok_Text (by decide) kw103 ev6 d_Text_add_17 ?_
    refine lv_iload_n C.1.1 C.1.2.1 d_Text_add_20 rfl (lv_at hl 1 rfl) ?_
    refine lv_i2b (v := x1.toInt8.toInt32) C.1.1 C.1.2.1 d_Text_add_21 rfl ?_
    obtain ⟨M7, eM7, h⟩ := h
    refine ms_B C.1 hM hS 0 rfl eM7 d_Text_add_22 (fun H locs hM hS => ?_)
    refine lv_aload_n C.1.1 C.1.2.1 d_Text_add_23 rfl (lv_at hl 0 rfl) ?_
    refine lv_dup C.1.1 C.1.2.1 d_Text_add_24 rfl ?_
    obtain ⟨v8, ev8, h⟩ := h
    refine mg_I C.1 hM ok_Text (by decide) kw103 ev8 d_Text_add_25 ?_
    refine lv_iconst (v := (1 : Int32)) C.1.1 C.1.2.1 d_Text_add_28 (by decide) ?_
    refine lv_iadd C.1.1 C.1.2.1 d_Text_add_29 ?_
    obtain ⟨M9, eM9, h⟩ := h
    refine mp_V C.1 hM hS ok_Text (by decide) kw103 rfl rfl rfl eM9 d_Text_add_30 (fun H locs hM hS => ?_)
    exact t_Text_add_b33 C h _ _ _ hM hS (lv_sub hl [] rfl)
theorem d_Text_clear_0 : decode b_Text_clear 0 = .ok (.aload_n 0, 1) := by decide +kernel
theorem d_Text_clear_1 : decode b_Text_clear 1 = .ok (.iconst 0, 1) := by decide +kernel
theorem d_Text_clear_2 : decode b_Text_clear 2 = .ok (.putfield 19, 3) := by decide +kernel
theorem d_Text_clear_5 : decode b_Text_clear 5 = .ok (.aload_n 0, 1) := by decide +kernel
theorem d_Text_clear_6 : decode b_Text_clear 6 = .ok (.iconst 0, 1) := by decide +kernel
theorem d_Text_clear_7 : decode b_Text_clear 7 = .ok (.putfield 23, 3) := by decide +kernel
theorem d_Text_clear_10 : decode b_Text_clear 10 = .ok (.return_, 1) := by decide +kernel
abbrev rm_Text_clear : Room := { frames := 0, cells := 0, slots := 0, locals := 0 }
abbrev C_Text_clear (D : va_G) (g : Nat → ClassId) (p : Program) (s : State) (m : MethodId) (args : Array Value) (meth : Method) (c : Code) (M0 : Mem) : Prop := Cx p s m args c b_Text_clear 1 R_Text BIG D vwCl (tysG g) (mA M0 s.heap.size) ∧ meth.sig.returnType = none ∧ meth.locks = false
abbrev B_Text_clear (l : Launch) (D : va_G) (p : Program) (e : Env) (s : State) (m : MethodId) (args : Array Value) (below : List Frame) (meth : Method) (c : Code) (M0 : Mem) (P : Mem → Prop) (M : Mem) (pc : Nat) (lv : List (Nat × Value)) (st : List Value) : Prop := Wb p l e rm_Text_clear s m args below meth c 1 D vwCl M0 (kV fun M' => P M') 0 0 M pc lv st
def wp_Text_clear (g : Nat → ClassId) (M : Mem) (x0 : Nat) (P : Mem → Prop) : Prop :=
  ∃ M1 : Mem, pV M 1 x0 2 (.int (0 : Int32)) = some M1 ∧ (∃ M2 : Mem, pV M1 1 x0 3 (.int (0 : Int32)) = some M2 ∧ (P M2))
set_option maxHeartbeats 4000000 in
set_option maxRecDepth 100000 in
theorem c_Text_clear {l : Launch} {D : va_G} {g : Nat → ClassId} {M : Mem} {x0 : Nat} {P : Mem → Prop} (h : wp_Text_clear g M x0 P) : mMet l BIG D vwCl (tysG g) y_Text_clear b_Text_clear 1 none rm_Text_clear [.ref x0] M (kV fun M' => P M') := by
  refine mMet.of (own := R_Text) rfl (by decide) rfl (fun p e s m below meth c C hr hlk hnm ls hM hS hl => ?_)
  have C : C_Text_clear D g p s m ([.ref x0] : List Value).toArray meth c M := ⟨C, hr, hlk⟩
  unfold wp_Text_clear at h
  have hl : lv_has ls 1 [(0, .ref x0)] := hl
  refine lv_aload_n C.1.1 C.1.2.1 d_Text_clear_0 rfl (lv_at hl 0 rfl) ?_
  refine lv_iconst (v := (0 : Int32)) C.1.1 C.1.2.1 d_Text_clear_1 (by decide) ?_
  obtain ⟨M1, eM1, h⟩ := h
  refine mp_V C.1 hM hS ok_Text (by decide) kw103 rfl rfl rfl eM1 d_Text_clear_2 (fun H locs hM hS => ?_)
  refine lv_aload_n C.1.1 C.1.2.1 d_Text_clear_5 rfl (lv_at hl 0 rfl) ?_
  refine lv_iconst (v := (0 : Int32)) C.1.1 C.1.2.1 d_Text_clear_6 (by decide) ?_
  obtain ⟨M2, eM2, h⟩ := h
  refine mp_V C.1 hM hS ok_Text (by decide) kw104 rfl rfl rfl eM2 d_Text_clear_7 (fun H locs hM hS => ?_)
  exact mr_V C.1 C.2.1 C.2.2 hM hS ⟨rfl, h⟩ d_Text_clear_10
theorem d_Text_compareSigns_0 : decode b_Text_compareSigns 0 = .ok (.aload_n 0, 1) := by decide +kernel
theorem d_Text_compareSigns_1 : decode b_Text_compareSigns 1 = .ok (.getfield 19, 3) := by decide +kernel
theorem d_Text_compareSigns_4 : decode b_Text_compareSigns 4 = .ok (.aload_n 1, 1) := by decide +kernel
theorem d_Text_compareSigns_5 : decode b_Text_compareSigns 5 = .ok (.getfield 19, 3) := by decide +kernel
theorem d_Text_compareSigns_8 : decode b_Text_compareSigns 8 = .ok (.invokestatic 53, 3) := by decide +kernel
theorem d_Text_compareSigns_11 : decode b_Text_compareSigns 11 = .ok (.istore_n 2, 1) := by decide +kernel
theorem d_Text_compareSigns_12 : decode b_Text_compareSigns 12 = .ok (.iconst 0, 1) := by decide +kernel
theorem d_Text_compareSigns_13 : decode b_Text_compareSigns 13 = .ok (.istore_n 3, 1) := by decide +kernel
theorem d_Text_compareSigns_14 : decode b_Text_compareSigns 14 = .ok (.iload_n 3, 1) := by decide +kernel
theorem d_Text_compareSigns_15 : decode b_Text_compareSigns 15 = .ok (.iload_n 2, 1) := by decide +kernel
theorem d_Text_compareSigns_16 : decode b_Text_compareSigns 16 = .ok (.if_icmp .ge 30, 3) := by decide +kernel
theorem d_Text_compareSigns_19 : decode b_Text_compareSigns 19 = .ok (.aload_n 0, 1) := by decide +kernel
theorem d_Text_compareSigns_20 : decode b_Text_compareSigns 20 = .ok (.iload_n 3, 1) := by decide +kernel
theorem d_Text_compareSigns_21 : decode b_Text_compareSigns 21 = .ok (.invokevirtual 29, 3) := by decide +kernel
theorem d_Text_compareSigns_24 : decode b_Text_compareSigns 24 = .ok (.aload_n 1, 1) := by decide +kernel
theorem d_Text_compareSigns_25 : decode b_Text_compareSigns 25 = .ok (.iload_n 3, 1) := by decide +kernel
theorem d_Text_compareSigns_26 : decode b_Text_compareSigns 26 = .ok (.invokevirtual 29, 3) := by decide +kernel
theorem d_Text_compareSigns_29 : decode b_Text_compareSigns 29 = .ok (.isub, 1) := by decide +kernel
theorem d_Text_compareSigns_30 : decode b_Text_compareSigns 30 = .ok (.istore 4, 2) := by decide +kernel
theorem d_Text_compareSigns_32 : decode b_Text_compareSigns 32 = .ok (.iload 4, 2) := by decide +kernel
theorem d_Text_compareSigns_34 : decode b_Text_compareSigns 34 = .ok (.ifCond .eq 6, 3) := by decide +kernel
theorem d_Text_compareSigns_37 : decode b_Text_compareSigns 37 = .ok (.iload 4, 2) := by decide +kernel
theorem d_Text_compareSigns_39 : decode b_Text_compareSigns 39 = .ok (.ireturn, 1) := by decide +kernel
theorem d_Text_compareSigns_40 : decode b_Text_compareSigns 40 = .ok (.iinc 3 1, 3) := by decide +kernel
theorem d_Text_compareSigns_43 : decode b_Text_compareSigns 43 = .ok (.goto (-29), 3) := by decide +kernel
theorem d_Text_compareSigns_46 : decode b_Text_compareSigns 46 = .ok (.aload_n 0, 1) := by decide +kernel
theorem d_Text_compareSigns_47 : decode b_Text_compareSigns 47 = .ok (.getfield 19, 3) := by decide +kernel
theorem d_Text_compareSigns_50 : decode b_Text_compareSigns 50 = .ok (.aload_n 1, 1) := by decide +kernel
theorem d_Text_compareSigns_51 : decode b_Text_compareSigns 51 = .ok (.getfield 19, 3) := by decide +kernel
theorem d_Text_compareSigns_54 : decode b_Text_compareSigns 54 = .ok (.isub, 1) := by decide +kernel
theorem d_Text_compareSigns_55 : decode b_Text_compareSigns 55 = .ok (.ireturn, 1) := by decide +kernel
abbrev rm_Text_compareSigns : Room := { frames := 2, cells := 0, slots := 0, locals := 40 }
abbrev C_Text_compareSigns (D : va_G) (g : Nat → ClassId) (p : Program) (s : State) (m : MethodId) (args : Array Value) (meth : Method) (c : Code) (M0 : Mem) : Prop := Cx p s m args c b_Text_compareSigns 5 R_Text BIG D vwCl (tysG g) (mA M0 s.heap.size) ∧ meth.sig.returnType = (some .int) ∧ meth.locks = false
abbrev B_Text_compareSigns (l : Launch) (D : va_G) (p : Program) (e : Env) (s : State) (m : MethodId) (args : Array Value) (below : List Frame) (meth : Method) (c : Code) (M0 : Mem) (P : Int32 → Prop) (M : Mem) (pc : Nat) (lv : List (Nat × Value)) (st : List Value) : Prop := Wb p l e rm_Text_compareSigns s m args below meth c 5 D vwCl M0 (kI fun r M' => M0 = M' ∧ P r) 0 0 M pc lv st
def wp_Text_compareSigns_b14 (g : Nat → ClassId) (P : Int32 → Prop) (M : Mem) (x0 : Nat) (x1 : Nat) (x2 : Int32) (x3 : Int32) : Prop :=
  ∃ (I : Int32 → Prop) (μ : Int32 → Nat), I x3 ∧ ∀ (x3 : Int32), I x3 →
  (x2 ≤ x3 → (∃ v2 : Int32, gI M 1 x0 2 = some v2 ∧ (∃ v3 : Int32, gI M 1 x1 2 = some v3 ∧ (P (v2 - v3))))) ∧ (¬ x2 ≤ x3 → (isO M 1 x0 ∧ (wp_Text_signAt g M x0 x3 (fun v4 : Int32 => isO M 1 x1 ∧ (wp_Text_signAt g M x1 x3 (fun v6 : Int32 => ((v4 - v6) = 0 → ((I (x3 + (1 : Int32)) ∧ μ (x3 + (1 : Int32)) < μ x3))) ∧ (¬ (v4 - v6) = 0 → (P (v4 - v6)))))))))
set_option maxHeartbeats 4000000 in
set_option maxRecDepth 100000 in
theorem t_Text_compareSigns_b14 {l : Launch} {D : va_G} {g : Nat → ClassId} {p : Program} {e : Env} {s : State} {m : MethodId} {args : Array Value} {below : List Frame} {meth : Method} {c : Code} {P : Int32 → Prop} {M : Mem} {x0 : Nat} {x1 : Nat} {x2 : Int32} {x3 : Int32} (C : C_Text_compareSigns D g p s m args meth c M) (h : wp_Text_compareSigns_b14 g P M x0 x1 x2 x3 ) : B_Text_compareSigns l D p e s m args below meth c M P M 14 [(0, .ref x0), (1, .ref x1), (2, .int x2), (3, .int x3)] [] := by
  unfold wp_Text_compareSigns_b14 at h
  obtain ⟨I, μ, hI, hb⟩ := h
  have key : ∀ (n : Nat) (x3 : Int32), I x3 → μ x3 < n → B_Text_compareSigns l D p e s m args below meth c M P M 14 [(0, .ref x0), (1, .ref x1), (2, .int x2), (3, .int x3)] [] := by
    intro n
    induction n with
    | zero => intro x3 _ hn; exact absurd hn (Nat.not_lt_zero _)
    | succ n ih =>
      intro x3 hI hn ls H locs hM hS hl
      have h := hb x3 hI
      refine lv_iload_n C.1.1 C.1.2.1 d_Text_compareSigns_14 rfl (lv_at hl 3 rfl) ?_
      refine lv_iload_n C.1.1 C.1.2.1 d_Text_compareSigns_15 rfl (lv_at hl 2 rfl) ?_
      refine lv_icmp_ge (tgt := 46) C.1.1 C.1.2.1 d_Text_compareSigns_16 (by decide) (fun c1 => ?_) (fun c1 => ?_)
      · have h := h.1 c1
        refine lv_aload_n C.1.1 C.1.2.1 d_Text_compareSigns_46 rfl (lv_at hl 0 rfl) ?_
        obtain ⟨v2, ev2, h⟩ := h
        refine mg_I C.1 hM ok_Text (by decide) kw103 ev2 d_Text_compareSigns_47 ?_
        refine lv_aload_n C.1.1 C.1.2.1 d_Text_compareSigns_50 rfl (lv_at hl 1 rfl) ?_
        obtain ⟨v3, ev3, h⟩ := h
        refine mg_I C.1 hM ok_Text (by decide) kw103 ev3 d_Text_compareSigns_51 ?_
        refine lv_isub C.1.1 C.1.2.1 d_Text_compareSigns_54 ?_
        exact mr_I C.1 C.2.1 C.2.2 hM hS ⟨_, rfl, rfl, h⟩ d_Text_compareSigns_55
      · have h := h.2 c1
        refine lv_aload_n C.1.1 C.1.2.1 d_Text_compareSigns_19 rfl (lv_at hl 0 rfl) ?_
        refine lv_iload_n C.1.1 C.1.2.1 d_Text_compareSigns_20 rfl (lv_at hl 3 rfl) ?_
        obtain ⟨ho, h⟩ := h
        refine mc_V (As := [.int x3]) (ci := 1) C.1 hM hS bigGood (c_Text_signAt h) rfl ho kw105 kw108 kw109 kw107 kw106 hd_Text_signAt ⟨by decide, by decide⟩ hl.1 rfl (Nat.le_of_ble_eq_true rfl) d_Text_compareSigns_21 ⟨by decide, by decide⟩ (fun v M' H locs hp hM hS => ?_)
        obtain ⟨v4, rfl, rfl, h⟩ := hp
        refine lv_aload_n C.1.1 C.1.2.1 d_Text_compareSigns_24 rfl (lv_at hl 1 rfl) ?_
        refine lv_iload_n C.1.1 C.1.2.1 d_Text_compareSigns_25 rfl (lv_at hl 3 rfl) ?_
        obtain ⟨ho, h⟩ := h
        refine mc_V (As := [.int x3]) (ci := 1) C.1 hM hS bigGood (c_Text_signAt h) rfl ho kw105 kw108 kw109 kw107 kw106 hd_Text_signAt ⟨by decide, by decide⟩ hl.1 rfl (Nat.le_of_ble_eq_true rfl) d_Text_compareSigns_26 ⟨by decide, by decide⟩ (fun v M' H locs hp hM hS => ?_)
        obtain ⟨v6, rfl, rfl, h⟩ := hp
        refine lv_isub C.1.1 C.1.2.1 d_Text_compareSigns_29 ?_
        refine lv_istore (lv' := [(4, .int (v4 - v6)), (0, .ref x0), (1, .ref x1), (2, .int x2), (3, .int x3)]) C.1.1 C.1.2.1 d_Text_compareSigns_30 hl (by decide) rfl (fun ls hl => ?_)
        refine lv_iload C.1.1 C.1.2.1 d_Text_compareSigns_32 (lv_at hl 0 rfl) ?_
        refine lv_if_eq (tgt := 40) C.1.1 C.1.2.1 d_Text_compareSigns_34 (by decide) (fun c8 => ?_) (fun c8 => ?_)
        · have h := h.1 c8
          refine lv_iinc (v := x3 + (1 : Int32)) (lv' := [(3, .int (x3 + (1 : Int32))), (4, .int (v4 - v6)), (0, .ref x0), (1, .ref x1), (2, .int x2)]) C.1.1 C.1.2.1 d_Text_compareSigns_40 hl (k := 4) rfl rfl (by decide) rfl (fun ls hl => ?_)
          refine lv_goto (tgt := 14) C.1.1 C.1.2.1 d_Text_compareSigns_43 (by decide) ?_
          exact ih (x3 + (1 : Int32)) h.1 (Nat.lt_of_lt_of_le h.2 (Nat.le_of_lt_succ hn)) _ _ _ hM hS (lv_sub hl [2, 3, 4, 0] rfl)
        · have h := h.2 c8
          refine lv_iload C.1.1 C.1.2.1 d_Text_compareSigns_37 (lv_at hl 0 rfl) ?_
          exact mr_I C.1 C.2.1 C.2.2 hM hS ⟨_, rfl, rfl, h⟩ d_Text_compareSigns_39
  exact key _ x3 hI (Nat.lt_succ_self _)
def wp_Text_compareSigns (g : Nat → ClassId) (M : Mem) (x0 : Nat) (x1 : Nat) (P : Int32 → Prop) : Prop :=
  ∃ v1 : Int32, gI M 1 x0 2 = some v1 ∧ (∃ v2 : Int32, gI M 1 x1 2 = some v2 ∧ (wp_Text_compareSigns_b14 g P M x0 x1 (m_minF v1 v2) (0 : Int32)))
set_option maxHeartbeats 4000000 in
set_option maxRecDepth 100000 in
theorem c_Text_compareSigns {l : Launch} {D : va_G} {g : Nat → ClassId} {M : Mem} {x0 : Nat} {x1 : Nat} {P : Int32 → Prop} (h : wp_Text_compareSigns g M x0 x1 P) : mMet l BIG D vwCl (tysG g) y_Text_compareSigns b_Text_compareSigns 5 (some .int) rm_Text_compareSigns [.ref x0, .ref x1] M (kI fun r M' => M = M' ∧ P r) := by
  refine mMet.of (own := R_Text) rfl (by decide) rfl (fun p e s m below meth c C hr hlk hnm ls hM hS hl => ?_)
  have C : C_Text_compareSigns D g p s m ([.ref x0, .ref x1] : List Value).toArray meth c M := ⟨C, hr, hlk⟩
  unfold wp_Text_compareSigns at h
  have hl : lv_has ls 5 [(0, .ref x0), (1, .ref x1)] := hl
  refine lv_aload_n C.1.1 C.1.2.1 d_Text_compareSigns_0 rfl (lv_at hl 0 rfl) ?_
  obtain ⟨v1, ev1, h⟩ := h
  refine mg_I C.1 hM ok_Text (by decide) kw103 ev1 d_Text_compareSigns_1 ?_
  refine lv_aload_n C.1.1 C.1.2.1 d_Text_compareSigns_4 rfl (lv_at hl 1 rfl) ?_
  obtain ⟨v2, ev2, h⟩ := h
  refine mg_I C.1 hM ok_Text (by decide) kw103 ev2 d_Text_compareSigns_5 ?_
  refine m_min C.1 kw110 kw111 kw112 kw113 hl.1 d_Text_compareSigns_8 (by decide) (by decide) (Nat.le_of_ble_eq_true rfl) (by decide) (by decide) ?_
  refine lv_istore_n (lv' := [(2, .int (m_minF v1 v2)), (0, .ref x0), (1, .ref x1)]) C.1.1 C.1.2.1 d_Text_compareSigns_11 rfl hl (by decide) rfl (fun ls hl => ?_)
  refine lv_iconst (v := (0 : Int32)) C.1.1 C.1.2.1 d_Text_compareSigns_12 (by decide) ?_
  refine lv_istore_n (lv' := [(3, .int (0 : Int32)), (2, .int (m_minF v1 v2)), (0, .ref x0), (1, .ref x1)]) C.1.1 C.1.2.1 d_Text_compareSigns_13 rfl hl (by decide) rfl (fun ls hl => ?_)
  exact t_Text_compareSigns_b14 C h _ _ _ hM hS (lv_sub hl [2, 3, 1, 0] rfl)
theorem d_Text_startPlaces_0 : decode b_Text_startPlaces 0 = .ok (.iconst 1, 1) := by decide +kernel
theorem d_Text_startPlaces_1 : decode b_Text_startPlaces 1 = .ok (.istore_n 1, 1) := by decide +kernel
theorem d_Text_startPlaces_2 : decode b_Text_startPlaces 2 = .ok (.iconst 0, 1) := by decide +kernel
theorem d_Text_startPlaces_3 : decode b_Text_startPlaces 3 = .ok (.istore_n 2, 1) := by decide +kernel
theorem d_Text_startPlaces_4 : decode b_Text_startPlaces 4 = .ok (.iload_n 2, 1) := by decide +kernel
theorem d_Text_startPlaces_5 : decode b_Text_startPlaces 5 = .ok (.aload_n 0, 1) := by decide +kernel
theorem d_Text_startPlaces_6 : decode b_Text_startPlaces 6 = .ok (.getfield 23, 3) := by decide +kernel
theorem d_Text_startPlaces_9 : decode b_Text_startPlaces 9 = .ok (.if_icmp .ge 27, 3) := by decide +kernel
theorem d_Text_startPlaces_12 : decode b_Text_startPlaces 12 = .ok (.aload_n 0, 1) := by decide +kernel
theorem d_Text_startPlaces_13 : decode b_Text_startPlaces 13 = .ok (.iload_n 2, 1) := by decide +kernel
theorem d_Text_startPlaces_14 : decode b_Text_startPlaces 14 = .ok (.invokevirtual 37, 3) := by decide +kernel
theorem d_Text_startPlaces_17 : decode b_Text_startPlaces 17 = .ok (.ldc2_w 70, 3) := by decide +kernel
theorem d_Text_startPlaces_20 : decode b_Text_startPlaces 20 = .ok (.lcmp, 1) := by decide +kernel
theorem d_Text_startPlaces_21 : decode b_Text_startPlaces 21 = .ok (.ifCond .ne 15, 3) := by decide +kernel
theorem d_Text_startPlaces_24 : decode b_Text_startPlaces 24 = .ok (.iload_n 1, 1) := by decide +kernel
theorem d_Text_startPlaces_25 : decode b_Text_startPlaces 25 = .ok (.iconst 2, 1) := by decide +kernel
theorem d_Text_startPlaces_26 : decode b_Text_startPlaces 26 = .ok (.iload_n 2, 1) := by decide +kernel
theorem d_Text_startPlaces_27 : decode b_Text_startPlaces 27 = .ok (.ishl, 1) := by decide +kernel
theorem d_Text_startPlaces_28 : decode b_Text_startPlaces 28 = .ok (.ior, 1) := by decide +kernel
theorem d_Text_startPlaces_29 : decode b_Text_startPlaces 29 = .ok (.istore_n 1, 1) := by decide +kernel
theorem d_Text_startPlaces_30 : decode b_Text_startPlaces 30 = .ok (.iinc 2 1, 3) := by decide +kernel
theorem d_Text_startPlaces_33 : decode b_Text_startPlaces 33 = .ok (.goto (-29), 3) := by decide +kernel
theorem d_Text_startPlaces_36 : decode b_Text_startPlaces 36 = .ok (.iload_n 1, 1) := by decide +kernel
theorem d_Text_startPlaces_37 : decode b_Text_startPlaces 37 = .ok (.ireturn, 1) := by decide +kernel
abbrev rm_Text_startPlaces : Room := { frames := 1, cells := 0, slots := 0, locals := 21 }
abbrev C_Text_startPlaces (D : va_G) (g : Nat → ClassId) (p : Program) (s : State) (m : MethodId) (args : Array Value) (meth : Method) (c : Code) (M0 : Mem) : Prop := Cx p s m args c b_Text_startPlaces 3 R_Text BIG D vwCl (tysG g) (mA M0 s.heap.size) ∧ meth.sig.returnType = (some .int) ∧ meth.locks = false
abbrev B_Text_startPlaces (l : Launch) (D : va_G) (p : Program) (e : Env) (s : State) (m : MethodId) (args : Array Value) (below : List Frame) (meth : Method) (c : Code) (M0 : Mem) (P : Int32 → Prop) (M : Mem) (pc : Nat) (lv : List (Nat × Value)) (st : List Value) : Prop := Wb p l e rm_Text_startPlaces s m args below meth c 3 D vwCl M0 (kI fun r M' => M0 = M' ∧ P r) 0 0 M pc lv st
def wp_Text_startPlaces_b36 (g : Nat → ClassId) (P : Int32 → Prop) (M : Mem) (x1 : Int32) : Prop :=
  P x1
set_option maxHeartbeats 4000000 in
set_option maxRecDepth 100000 in
theorem t_Text_startPlaces_b36 {l : Launch} {D : va_G} {g : Nat → ClassId} {p : Program} {e : Env} {s : State} {m : MethodId} {args : Array Value} {below : List Frame} {meth : Method} {c : Code} {P : Int32 → Prop} {M : Mem} {x1 : Int32} (C : C_Text_startPlaces D g p s m args meth c M) (h : wp_Text_startPlaces_b36 g P M x1 ) : B_Text_startPlaces l D p e s m args below meth c M P M 36 [(1, .int x1)] [] := by
  intro ls H locs hM hS hl
  unfold wp_Text_startPlaces_b36 at h
  refine lv_iload_n C.1.1 C.1.2.1 d_Text_startPlaces_36 rfl (lv_at hl 0 rfl) ?_
  exact mr_I C.1 C.2.1 C.2.2 hM hS ⟨_, rfl, rfl, h⟩ d_Text_startPlaces_37
def wp_Text_startPlaces_b4 (g : Nat → ClassId) (P : Int32 → Prop) (M : Mem) (x0 : Nat) (x1 : Int32) (x2 : Int32) : Prop :=
  ∃ (I : Int32 → Int32 → Prop) (μ : Int32 → Int32 → Nat), I x1 x2 ∧ ∀ (x1 : Int32) (x2 : Int32), I x1 x2 →
  ∃ v1 : Int32, gI M 1 x0 3 = some v1 ∧ ((v1 ≤ x2 → (wp_Text_startPlaces_b36 g P M x1)) ∧ (¬ v1 ≤ x2 → (isO M 1 x0 ∧ (wp_Text_partAt g M x0 x2 (fun v3 : Int64 => ((lg_cmp v3 (35 : Int64)) = 0 → ((I (x1 ||| ((2 : Int32) <<< (x2 &&& 31))) (x2 + (1 : Int32)) ∧ μ (x1 ||| ((2 : Int32) <<< (x2 &&& 31))) (x2 + (1 : Int32)) < μ x1 x2))) ∧ (¬ (lg_cmp v3 (35 : Int64)) = 0 → (wp_Text_startPlaces_b36 g P M x1)))))))
set_option maxHeartbeats 4000000 in
set_option maxRecDepth 100000 in
theorem t_Text_startPlaces_b4 {l : Launch} {D : va_G} {g : Nat → ClassId} {p : Program} {e : Env} {s : State} {m : MethodId} {args : Array Value} {below : List Frame} {meth : Method} {c : Code} {P : Int32 → Prop} {M : Mem} {x0 : Nat} {x1 : Int32} {x2 : Int32} (C : C_Text_startPlaces D g p s m args meth c M) (h : wp_Text_startPlaces_b4 g P M x0 x1 x2 ) : B_Text_startPlaces l D p e s m args below meth c M P M 4 [(0, .ref x0), (1, .int x1), (2, .int x2)] [] := by
  unfold wp_Text_startPlaces_b4 at h
  obtain ⟨I, μ, hI, hb⟩ := h
  have key : ∀ (n : Nat) (x1 : Int32) (x2 : Int32), I x1 x2 → μ x1 x2 < n → B_Text_startPlaces l D p e s m args below meth c M P M 4 [(0, .ref x0), (1, .int x1), (2, .int x2)] [] := by
    intro n
    induction n with
    | zero => intro x1 x2 _ hn; exact absurd hn (Nat.not_lt_zero _)
    | succ n ih =>
      intro x1 x2 hI hn ls H locs hM hS hl
      have h := hb x1 x2 hI
      refine lv_iload_n C.1.1 C.1.2.1 d_Text_startPlaces_4 rfl (lv_at hl 2 rfl) ?_
      refine lv_aload_n C.1.1 C.1.2.1 d_Text_startPlaces_5 rfl (lv_at hl 0 rfl) ?_
      obtain ⟨v1, ev1, h⟩ := h
      refine mg_I C.1 hM ok_Text (by decide) kw104 ev1 d_Text_startPlaces_6 ?_
      refine lv_icmp_ge (tgt := 36) C.1.1 C.1.2.1 d_Text_startPlaces_9 (by decide) (fun c2 => ?_) (fun c2 => ?_)
      · have h := h.1 c2
        exact t_Text_startPlaces_b36 C h _ _ _ hM hS (lv_sub hl [1] rfl)
      · have h := h.2 c2
        refine lv_aload_n C.1.1 C.1.2.1 d_Text_startPlaces_12 rfl (lv_at hl 0 rfl) ?_
        refine lv_iload_n C.1.1 C.1.2.1 d_Text_startPlaces_13 rfl (lv_at hl 2 rfl) ?_
        obtain ⟨ho, h⟩ := h
        refine mc_V (As := [.int x2]) (ci := 1) C.1 hM hS bigGood (c_Text_partAt h) rfl ho kw114 kw116 kw117 kw107 kw115 hd_Text_partAt ⟨by decide, by decide⟩ hl.1 rfl (Nat.le_of_ble_eq_true rfl) d_Text_startPlaces_14 ⟨by decide, by decide⟩ (fun v M' H locs hp hM hS => ?_)
        obtain ⟨v3, rfl, rfl, h⟩ := hp
        refine lv_ldc2 (v := (35 : Int64)) C.1.1 C.1.2.1 C.1.2.2.2.1 (C.1.2.2.2.2.1 _ kw118) d_Text_startPlaces_17 ?_
        refine W.lcmp C.1.1 C.1.2.1 d_Text_startPlaces_20 ?_
        refine lv_if_ne (tgt := 36) C.1.1 C.1.2.1 d_Text_startPlaces_21 (by decide) (fun c5 => ?_) (fun c5 => ?_)
        · have h := h.2 c5
          exact t_Text_startPlaces_b36 C h _ _ _ hM hS (lv_sub hl [1] rfl)
        · have h := h.1 c5
          refine lv_iload_n C.1.1 C.1.2.1 d_Text_startPlaces_24 rfl (lv_at hl 1 rfl) ?_
          refine lv_iconst (v := (2 : Int32)) C.1.1 C.1.2.1 d_Text_startPlaces_25 (by decide) ?_
          refine lv_iload_n C.1.1 C.1.2.1 d_Text_startPlaces_26 rfl (lv_at hl 2 rfl) ?_
          refine lv_ishl C.1.1 C.1.2.1 d_Text_startPlaces_27 ?_
          refine lv_ior C.1.1 C.1.2.1 d_Text_startPlaces_28 ?_
          refine lv_istore_n (lv' := [(1, .int (x1 ||| ((2 : Int32) <<< (x2 &&& 31)))), (0, .ref x0), (2, .int x2)]) C.1.1 C.1.2.1 d_Text_startPlaces_29 rfl hl (by decide) rfl (fun ls hl => ?_)
          refine lv_iinc (v := x2 + (1 : Int32)) (lv' := [(2, .int (x2 + (1 : Int32))), (1, .int (x1 ||| ((2 : Int32) <<< (x2 &&& 31)))), (0, .ref x0)]) C.1.1 C.1.2.1 d_Text_startPlaces_30 hl (k := 2) rfl rfl (by decide) rfl (fun ls hl => ?_)
          refine lv_goto (tgt := 4) C.1.1 C.1.2.1 d_Text_startPlaces_33 (by decide) ?_
          exact ih (x1 ||| ((2 : Int32) <<< (x2 &&& 31))) (x2 + (1 : Int32)) h.1 (Nat.lt_of_lt_of_le h.2 (Nat.le_of_lt_succ hn)) _ _ _ hM hS (lv_sub hl [2, 1, 0] rfl)
  exact key _ x1 x2 hI (Nat.lt_succ_self _)
def wp_Text_startPlaces (g : Nat → ClassId) (M : Mem) (x0 : Nat) (P : Int32 → Prop) : Prop :=
  wp_Text_startPlaces_b4 g P M x0 (1 : Int32) (0 : Int32)
set_option maxHeartbeats 4000000 in
set_option maxRecDepth 100000 in
theorem c_Text_startPlaces {l : Launch} {D : va_G} {g : Nat → ClassId} {M : Mem} {x0 : Nat} {P : Int32 → Prop} (h : wp_Text_startPlaces g M x0 P) : mMet l BIG D vwCl (tysG g) y_Text_startPlaces b_Text_startPlaces 3 (some .int) rm_Text_startPlaces [.ref x0] M (kI fun r M' => M = M' ∧ P r) := by
  refine mMet.of (own := R_Text) rfl (by decide) rfl (fun p e s m below meth c C hr hlk hnm ls hM hS hl => ?_)
  have C : C_Text_startPlaces D g p s m ([.ref x0] : List Value).toArray meth c M := ⟨C, hr, hlk⟩
  unfold wp_Text_startPlaces at h
  have hl : lv_has ls 3 [(0, .ref x0)] := hl
  refine lv_iconst (v := (1 : Int32)) C.1.1 C.1.2.1 d_Text_startPlaces_0 (by decide) ?_
  refine lv_istore_n (lv' := [(1, .int (1 : Int32)), (0, .ref x0)]) C.1.1 C.1.2.1 d_Text_startPlaces_1 rfl hl (by decide) rfl (fun ls hl => ?_)
  refine lv_iconst (v := (0 : Int32)) C.1.1 C.1.2.1 d_Text_startPlaces_2 (by decide) ?_
  refine lv_istore_n (lv' := [(2, .int (0 : Int32)), (1, .int (1 : Int32)), (0, .ref x0)]) C.1.1 C.1.2.1 d_Text_startPlaces_3 rfl hl (by decide) rfl (fun ls hl => ?_)
  exact t_Text_startPlaces_b4 C h _ _ _ hM hS (lv_sub hl [2, 1, 0] rfl)
theorem d_Text_placesBehind_0 : decode b_Text_placesBehind 0 = .ok (.iconst 0, 1) := by decide +kernel
theorem d_Text_placesBehind_1 : decode b_Text_placesBehind 1 = .ok (.istore 4, 2) := by decide +kernel
theorem d_Text_placesBehind_3 : decode b_Text_placesBehind 3 = .ok (.iconst 0, 1) := by decide +kernel
theorem d_Text_placesBehind_4 : decode b_Text_placesBehind 4 = .ok (.istore 5, 2) := by decide +kernel
theorem d_Text_placesBehind_6 : decode b_Text_placesBehind 6 = .ok (.iload 5, 2) := by decide +kernel
theorem d_Text_placesBehind_8 : decode b_Text_placesBehind 8 = .ok (.aload_n 0, 1) := by decide +kernel
theorem d_Text_placesBehind_9 : decode b_Text_placesBehind 9 = .ok (.getfield 23, 3) := by decide +kernel
theorem d_Text_placesBehind_12 : decode b_Text_placesBehind 12 = .ok (.if_icmp .ge 103, 3) := by decide +kernel
theorem d_Text_placesBehind_15 : decode b_Text_placesBehind 15 = .ok (.aload_n 0, 1) := by decide +kernel
theorem d_Text_placesBehind_16 : decode b_Text_placesBehind 16 = .ok (.iload 5, 2) := by decide +kernel
theorem d_Text_placesBehind_18 : decode b_Text_placesBehind 18 = .ok (.invokevirtual 37, 3) := by decide +kernel
theorem d_Text_placesBehind_21 : decode b_Text_placesBehind 21 = .ok (.lstore 6, 2) := by decide +kernel
theorem d_Text_placesBehind_23 : decode b_Text_placesBehind 23 = .ok (.iload_n 1, 1) := by decide +kernel
theorem d_Text_placesBehind_24 : decode b_Text_placesBehind 24 = .ok (.iload 5, 2) := by decide +kernel
theorem d_Text_placesBehind_26 : decode b_Text_placesBehind 26 = .ok (.ishr, 1) := by decide +kernel
theorem d_Text_placesBehind_27 : decode b_Text_placesBehind 27 = .ok (.iconst 1, 1) := by decide +kernel
theorem d_Text_placesBehind_28 : decode b_Text_placesBehind 28 = .ok (.iand, 1) := by decide +kernel
theorem d_Text_placesBehind_29 : decode b_Text_placesBehind 29 = .ok (.ifCond .eq 7, 3) := by decide +kernel
theorem d_Text_placesBehind_32 : decode b_Text_placesBehind 32 = .ok (.iconst 1, 1) := by decide +kernel
theorem d_Text_placesBehind_33 : decode b_Text_placesBehind 33 = .ok (.goto 4, 3) := by decide +kernel
theorem d_Text_placesBehind_36 : decode b_Text_placesBehind 36 = .ok (.iconst 0, 1) := by decide +kernel
theorem d_Text_placesBehind_37 : decode b_Text_placesBehind 37 = .ok (.istore 8, 2) := by decide +kernel
theorem d_Text_placesBehind_39 : decode b_Text_placesBehind 39 = .ok (.lload 6, 2) := by decide +kernel
theorem d_Text_placesBehind_41 : decode b_Text_placesBehind 41 = .ok (.ldc2_w 70, 3) := by decide +kernel
theorem d_Text_placesBehind_44 : decode b_Text_placesBehind 44 = .ok (.lcmp, 1) := by decide +kernel
theorem d_Text_placesBehind_45 : decode b_Text_placesBehind 45 = .ok (.ifCond .ne 34, 3) := by decide +kernel
theorem d_Text_placesBehind_48 : decode b_Text_placesBehind 48 = .ok (.iload 8, 2) := by decide +kernel
theorem d_Text_placesBehind_50 : decode b_Text_placesBehind 50 = .ok (.ifCond .eq 12, 3) := by decide +kernel
theorem d_Text_placesBehind_53 : decode b_Text_placesBehind 53 = .ok (.iload 4, 2) := by decide +kernel
theorem d_Text_placesBehind_55 : decode b_Text_placesBehind 55 = .ok (.iconst 1, 1) := by decide +kernel
theorem d_Text_placesBehind_56 : decode b_Text_placesBehind 56 = .ok (.iload 5, 2) := by decide +kernel
theorem d_Text_placesBehind_58 : decode b_Text_placesBehind 58 = .ok (.ishl, 1) := by decide +kernel
theorem d_Text_placesBehind_59 : decode b_Text_placesBehind 59 = .ok (.ior, 1) := by decide +kernel
theorem d_Text_placesBehind_60 : decode b_Text_placesBehind 60 = .ok (.istore 4, 2) := by decide +kernel
theorem d_Text_placesBehind_62 : decode b_Text_placesBehind 62 = .ok (.iload 4, 2) := by decide +kernel
theorem d_Text_placesBehind_64 : decode b_Text_placesBehind 64 = .ok (.iload 4, 2) := by decide +kernel
theorem d_Text_placesBehind_66 : decode b_Text_placesBehind 66 = .ok (.iconst 1, 1) := by decide +kernel
theorem d_Text_placesBehind_67 : decode b_Text_placesBehind 67 = .ok (.iload 5, 2) := by decide +kernel
theorem d_Text_placesBehind_69 : decode b_Text_placesBehind 69 = .ok (.ishl, 1) := by decide +kernel
theorem d_Text_placesBehind_70 : decode b_Text_placesBehind 70 = .ok (.iand, 1) := by decide +kernel
theorem d_Text_placesBehind_71 : decode b_Text_placesBehind 71 = .ok (.iconst 1, 1) := by decide +kernel
theorem d_Text_placesBehind_72 : decode b_Text_placesBehind 72 = .ok (.ishl, 1) := by decide +kernel
theorem d_Text_placesBehind_73 : decode b_Text_placesBehind 73 = .ok (.ior, 1) := by decide +kernel
theorem d_Text_placesBehind_74 : decode b_Text_placesBehind 74 = .ok (.istore 4, 2) := by decide +kernel
theorem d_Text_placesBehind_76 : decode b_Text_placesBehind 76 = .ok (.goto 33, 3) := by decide +kernel
theorem d_Text_placesBehind_79 : decode b_Text_placesBehind 79 = .ok (.iload 8, 2) := by decide +kernel
theorem d_Text_placesBehind_81 : decode b_Text_placesBehind 81 = .ok (.ifCond .eq 28, 3) := by decide +kernel
theorem d_Text_placesBehind_84 : decode b_Text_placesBehind 84 = .ok (.lload 6, 2) := by decide +kernel
theorem d_Text_placesBehind_86 : decode b_Text_placesBehind 86 = .ok (.ldc2_w 72, 3) := by decide +kernel
theorem d_Text_placesBehind_89 : decode b_Text_placesBehind 89 = .ok (.lcmp, 1) := by decide +kernel
theorem d_Text_placesBehind_90 : decode b_Text_placesBehind 90 = .ok (.ifCond .eq 10, 3) := by decide +kernel
theorem d_Text_placesBehind_93 : decode b_Text_placesBehind 93 = .ok (.lload 6, 2) := by decide +kernel
theorem d_Text_placesBehind_95 : decode b_Text_placesBehind 95 = .ok (.lload_n 2, 1) := by decide +kernel
theorem d_Text_placesBehind_96 : decode b_Text_placesBehind 96 = .ok (.lcmp, 1) := by decide +kernel
theorem d_Text_placesBehind_97 : decode b_Text_placesBehind 97 = .ok (.ifCond .ne 12, 3) := by decide +kernel
theorem d_Text_placesBehind_100 : decode b_Text_placesBehind 100 = .ok (.iload 4, 2) := by decide +kernel
theorem d_Text_placesBehind_102 : decode b_Text_placesBehind 102 = .ok (.iconst 2, 1) := by decide +kernel
theorem d_Text_placesBehind_103 : decode b_Text_placesBehind 103 = .ok (.iload 5, 2) := by decide +kernel
theorem d_Text_placesBehind_105 : decode b_Text_placesBehind 105 = .ok (.ishl, 1) := by decide +kernel
theorem d_Text_placesBehind_106 : decode b_Text_placesBehind 106 = .ok (.ior, 1) := by decide +kernel
theorem d_Text_placesBehind_107 : decode b_Text_placesBehind 107 = .ok (.istore 4, 2) := by decide +kernel
theorem d_Text_placesBehind_109 : decode b_Text_placesBehind 109 = .ok (.iinc 5 1, 3) := by decide +kernel
theorem d_Text_placesBehind_112 : decode b_Text_placesBehind 112 = .ok (.goto (-106), 3) := by decide +kernel
theorem d_Text_placesBehind_115 : decode b_Text_placesBehind 115 = .ok (.iload 4, 2) := by decide +kernel
theorem d_Text_placesBehind_117 : decode b_Text_placesBehind 117 = .ok (.ireturn, 1) := by decide +kernel
abbrev rm_Text_placesBehind : Room := { frames := 1, cells := 0, slots := 0, locals := 21 }
abbrev C_Text_placesBehind (D : va_G) (g : Nat → ClassId) (p : Program) (s : State) (m : MethodId) (args : Array Value) (meth : Method) (c : Code) (M0 : Mem) : Prop := Cx p s m args c b_Text_placesBehind 9 R_Text BIG D vwCl (tysG g) (mA M0 s.heap.size) ∧ meth.sig.returnType = (some .int) ∧ meth.locks = false
abbrev B_Text_placesBehind (l : Launch) (D : va_G) (p : Program) (e : Env) (s : State) (m : MethodId) (args : Array Value) (below : List Frame) (meth : Method) (c : Code) (M0 : Mem) (P : Int32 → Prop) (M : Mem) (pc : Nat) (lv : List (Nat × Value)) (st : List Value) : Prop := Wb p l e rm_Text_placesBehind s m args below meth c 9 D vwCl M0 (kI fun r M' => M0 = M' ∧ P r) 0 0 M pc lv st
def wp_Text_placesBehind_b109 (g : Nat → ClassId) (P : Int32 → Prop) (J6 : Int32 → Int32 → Prop) (M : Mem) (x0 : Nat) (x1 : Int32) (x2 : Int64) (x4 : Int32) (x5 : Int32) : Prop :=
  J6 x4 (x5 + (1 : Int32))
set_option maxHeartbeats 4000000 in
set_option maxRecDepth 100000 in
theorem t_Text_placesBehind_b109 {l : Launch} {D : va_G} {g : Nat → ClassId} {p : Program} {e : Env} {s : State} {m : MethodId} {args : Array Value} {below : List Frame} {meth : Method} {c : Code} {P : Int32 → Prop} {J6 : Int32 → Int32 → Prop} {M : Mem} {x0 : Nat} {x1 : Int32} {x2 : Int64} {x4 : Int32} {x5 : Int32} (C : C_Text_placesBehind D g p s m args meth c M) (h : wp_Text_placesBehind_b109 g P J6 M x0 x1 x2 x4 x5 ) (kJ6 : ∀ (x4 : Int32) (x5 : Int32), J6 x4 x5 → B_Text_placesBehind l D p e s m args below meth c M P M 6 [(0, .ref x0), (1, .int x1), (2, .long x2), (4, .int x4), (5, .int x5)] []) : B_Text_placesBehind l D p e s m args below meth c M P M 109 [(0, .ref x0), (1, .int x1), (2, .long x2), (4, .int x4), (5, .int x5)] [] := by
  intro ls H locs hM hS hl
  unfold wp_Text_placesBehind_b109 at h
  refine lv_iinc (v := x5 + (1 : Int32)) (lv' := [(5, .int (x5 + (1 : Int32))), (0, .ref x0), (1, .int x1), (2, .long x2), (4, .int x4)]) C.1.1 C.1.2.1 d_Text_placesBehind_109 hl (k := 4) rfl rfl (by decide) rfl (fun ls hl => ?_)
  refine lv_goto (tgt := 6) C.1.1 C.1.2.1 d_Text_placesBehind_112 (by decide) ?_
  exact kJ6 x4 (x5 + (1 : Int32)) h _ _ _ hM hS (lv_sub hl [1, 2, 3, 4, 0] rfl)
def wp_Text_placesBehind_b100 (g : Nat → ClassId) (P : Int32 → Prop) (J6 : Int32 → Int32 → Prop) (M : Mem) (x0 : Nat) (x1 : Int32) (x2 : Int64) (x4 : Int32) (x5 : Int32) : Prop :=
  wp_Text_placesBehind_b109 g P J6 M x0 x1 x2 (x4 ||| ((2 : Int32) <<< (x5 &&& 31))) x5
set_option maxHeartbeats 4000000 in
set_option maxRecDepth 100000 in
theorem t_Text_placesBehind_b100 {l : Launch} {D : va_G} {g : Nat → ClassId} {p : Program} {e : Env} {s : State} {m : MethodId} {args : Array Value} {below : List Frame} {meth : Method} {c : Code} {P : Int32 → Prop} {J6 : Int32 → Int32 → Prop} {M : Mem} {x0 : Nat} {x1 : Int32} {x2 : Int64} {x4 : Int32} {x5 : Int32} (C : C_Text_placesBehind D g p s m args meth c M) (h : wp_Text_placesBehind_b100 g P J6 M x0 x1 x2 x4 x5 ) (kJ6 : ∀ (x4 : Int32) (x5 : Int32), J6 x4 x5 → B_Text_placesBehind l D p e s m args below meth c M P M 6 [(0, .ref x0), (1, .int x1), (2, .long x2), (4, .int x4), (5, .int x5)] []) : B_Text_placesBehind l D p e s m args below meth c M P M 100 [(0, .ref x0), (1, .int x1), (2, .long x2), (4, .int x4), (5, .int x5)] [] := by
  intro ls H locs hM hS hl
  unfold wp_Text_placesBehind_b100 at h
  refine lv_iload C.1.1 C.1.2.1 d_Text_placesBehind_100 (lv_at hl 3 rfl) ?_
  refine lv_iconst (v := (2 : Int32)) C.1.1 C.1.2.1 d_Text_placesBehind_102 (by decide) ?_
  refine lv_iload C.1.1 C.1.2.1 d_Text_placesBehind_103 (lv_at hl 4 rfl) ?_
  refine lv_ishl C.1.1 C.1.2.1 d_Text_placesBehind_105 ?_
  refine lv_ior C.1.1 C.1.2.1 d_Text_placesBehind_106 ?_
  refine lv_istore (lv' := [(4, .int (x4 ||| ((2 : Int32) <<< (x5 &&& 31)))), (0, .ref x0), (1, .int x1), (2, .long x2), (5, .int x5)]) C.1.1 C.1.2.1 d_Text_placesBehind_107 hl (by decide) rfl (fun ls hl => ?_)
  exact t_Text_placesBehind_b109 C h kJ6 _ _ _ hM hS (lv_sub hl [1, 2, 3, 0, 4] rfl)
def wp_Text_placesBehind_b62 (g : Nat → ClassId) (P : Int32 → Prop) (J6 : Int32 → Int32 → Prop) (M : Mem) (x0 : Nat) (x1 : Int32) (x2 : Int64) (x4 : Int32) (x5 : Int32) : Prop :=
  wp_Text_placesBehind_b109 g P J6 M x0 x1 x2 (x4 ||| ((x4 &&& ((1 : Int32) <<< (x5 &&& 31))) <<< ((1 : Int32) &&& 31))) x5
set_option maxHeartbeats 4000000 in
set_option maxRecDepth 100000 in
theorem t_Text_placesBehind_b62 {l : Launch} {D : va_G} {g : Nat → ClassId} {p : Program} {e : Env} {s : State} {m : MethodId} {args : Array Value} {below : List Frame} {meth : Method} {c : Code} {P : Int32 → Prop} {J6 : Int32 → Int32 → Prop} {M : Mem} {x0 : Nat} {x1 : Int32} {x2 : Int64} {x4 : Int32} {x5 : Int32} (C : C_Text_placesBehind D g p s m args meth c M) (h : wp_Text_placesBehind_b62 g P J6 M x0 x1 x2 x4 x5 ) (kJ6 : ∀ (x4 : Int32) (x5 : Int32), J6 x4 x5 → B_Text_placesBehind l D p e s m args below meth c M P M 6 [(0, .ref x0), (1, .int x1), (2, .long x2), (4, .int x4), (5, .int x5)] []) : B_Text_placesBehind l D p e s m args below meth c M P M 62 [(0, .ref x0), (1, .int x1), (2, .long x2), (4, .int x4), (5, .int x5)] [] := by
  intro ls H locs hM hS hl
  unfold wp_Text_placesBehind_b62 at h
  refine lv_iload C.1.1 C.1.2.1 d_Text_placesBehind_62 (lv_at hl 3 rfl) ?_
  refine lv_iload C.1.1 C.1.2.1 d_Text_placesBehind_64 (lv_at hl 3 rfl) ?_
  refine lv_iconst (v := (1 : Int32)) C.1.1 C.1.2.1 d_Text_placesBehind_66 (by decide) ?_
  refine lv_iload C.1.1 C.1.2.1 d_Text_placesBehind_67 (lv_at hl 4 rfl) ?_
  refine lv_ishl C.1.1 C.1.2.1 d_Text_placesBehind_69 ?_
  refine lv_iand C.1.1 C.1.2.1 d_Text_placesBehind_70 ?_
  refine lv_iconst (v := (1 : Int32)) C.1.1 C.1.2.1 d_Text_placesBehind_71 (by decide) ?_
  refine lv_ishl C.1.1 C.1.2.1 d_Text_placesBehind_72 ?_
  refine lv_ior C.1.1 C.1.2.1 d_Text_placesBehind_73 ?_
  refine lv_istore (lv' := [(4, .int (x4 ||| ((x4 &&& ((1 : Int32) <<< (x5 &&& 31))) <<< ((1 : Int32) &&& 31)))), (0, .ref x0), (1, .int x1), (2, .long x2), (5, .int x5)]) C.1.1 C.1.2.1 d_Text_placesBehind_74 hl (by decide) rfl (fun ls hl => ?_)
  refine lv_goto (tgt := 109) C.1.1 C.1.2.1 d_Text_placesBehind_76 (by decide) ?_
  exact t_Text_placesBehind_b109 C h kJ6 _ _ _ hM hS (lv_sub hl [1, 2, 3, 0, 4] rfl)
def wp_Text_placesBehind_b37 (g : Nat → ClassId) (P : Int32 → Prop) (J6 : Int32 → Int32 → Prop) (M : Mem) (x0 : Nat) (x1 : Int32) (x2 : Int64) (x4 : Int32) (x5 : Int32) (x6 : Int64) (t0 : Int32) : Prop :=
  ((lg_cmp x6 (35 : Int64)) = 0 → ((t0 = 0 → (wp_Text_placesBehind_b62 g P J6 M x0 x1 x2 x4 x5)) ∧ (¬ t0 = 0 → (wp_Text_placesBehind_b62 g P J6 M x0 x1 x2 (x4 ||| ((1 : Int32) <<< (x5 &&& 31))) x5)))) ∧ (¬ (lg_cmp x6 (35 : Int64)) = 0 → ((t0 = 0 → (wp_Text_placesBehind_b109 g P J6 M x0 x1 x2 x4 x5)) ∧ (¬ t0 = 0 → (((lg_cmp x6 (42 : Int64)) = 0 → (wp_Text_placesBehind_b100 g P J6 M x0 x1 x2 x4 x5)) ∧ (¬ (lg_cmp x6 (42 : Int64)) = 0 → (((lg_cmp x6 x2) = 0 → (wp_Text_placesBehind_b100 g P J6 M x0 x1 x2 x4 x5)) ∧ (¬ (lg_cmp x6 x2) = 0 → (wp_Text_placesBehind_b109 g P J6 M x0 x1 x2 x4 x5))))))))
set_option maxHeartbeats 4000000 in
set_option maxRecDepth 100000 in
theorem t_Text_placesBehind_b37 {l : Launch} {D : va_G} {g : Nat → ClassId} {p : Program} {e : Env} {s : State} {m : MethodId} {args : Array Value} {below : List Frame} {meth : Method} {c : Code} {P : Int32 → Prop} {J6 : Int32 → Int32 → Prop} {M : Mem} {x0 : Nat} {x1 : Int32} {x2 : Int64} {x4 : Int32} {x5 : Int32} {x6 : Int64} {t0 : Int32} (C : C_Text_placesBehind D g p s m args meth c M) (h : wp_Text_placesBehind_b37 g P J6 M x0 x1 x2 x4 x5 x6 t0) (kJ6 : ∀ (x4 : Int32) (x5 : Int32), J6 x4 x5 → B_Text_placesBehind l D p e s m args below meth c M P M 6 [(0, .ref x0), (1, .int x1), (2, .long x2), (4, .int x4), (5, .int x5)] []) : B_Text_placesBehind l D p e s m args below meth c M P M 37 [(0, .ref x0), (1, .int x1), (2, .long x2), (4, .int x4), (5, .int x5), (6, .long x6)] [.int t0] := by
  intro ls H locs hM hS hl
  unfold wp_Text_placesBehind_b37 at h
  refine lv_istore (lv' := [(8, .int t0), (0, .ref x0), (1, .int x1), (2, .long x2), (4, .int x4), (5, .int x5), (6, .long x6)]) C.1.1 C.1.2.1 d_Text_placesBehind_37 hl (by decide) rfl (fun ls hl => ?_)
  refine lv_lload C.1.1 C.1.2.1 d_Text_placesBehind_39 (lv_at hl 6 rfl) ?_
  refine lv_ldc2 (v := (35 : Int64)) C.1.1 C.1.2.1 C.1.2.2.2.1 (C.1.2.2.2.2.1 _ kw118) d_Text_placesBehind_41 ?_
  refine W.lcmp C.1.1 C.1.2.1 d_Text_placesBehind_44 ?_
  refine lv_if_ne (tgt := 79) C.1.1 C.1.2.1 d_Text_placesBehind_45 (by decide) (fun c1 => ?_) (fun c1 => ?_)
  · have h := h.2 c1
    refine lv_iload C.1.1 C.1.2.1 d_Text_placesBehind_79 (lv_at hl 0 rfl) ?_
    refine lv_if_eq (tgt := 109) C.1.1 C.1.2.1 d_Text_placesBehind_81 (by decide) (fun c2 => ?_) (fun c2 => ?_)
    · have h := h.1 c2
      exact t_Text_placesBehind_b109 C h kJ6 _ _ _ hM hS (lv_sub hl [1, 2, 3, 4, 5] rfl)
    · have h := h.2 c2
      refine lv_lload C.1.1 C.1.2.1 d_Text_placesBehind_84 (lv_at hl 6 rfl) ?_
      refine lv_ldc2 (v := (42 : Int64)) C.1.1 C.1.2.1 C.1.2.2.2.1 (C.1.2.2.2.2.1 _ kw119) d_Text_placesBehind_86 ?_
      refine W.lcmp C.1.1 C.1.2.1 d_Text_placesBehind_89 ?_
      refine lv_if_eq (tgt := 100) C.1.1 C.1.2.1 d_Text_placesBehind_90 (by decide) (fun c3 => ?_) (fun c3 => ?_)
      · have h := h.1 c3
        exact t_Text_placesBehind_b100 C h kJ6 _ _ _ hM hS (lv_sub hl [1, 2, 3, 4, 5] rfl)
      · have h := h.2 c3
        refine lv_lload C.1.1 C.1.2.1 d_Text_placesBehind_93 (lv_at hl 6 rfl) ?_
        refine lv_lload_n C.1.1 C.1.2.1 d_Text_placesBehind_95 rfl (lv_at hl 3 rfl) ?_
        refine W.lcmp C.1.1 C.1.2.1 d_Text_placesBehind_96 ?_
        refine lv_if_ne (tgt := 109) C.1.1 C.1.2.1 d_Text_placesBehind_97 (by decide) (fun c4 => ?_) (fun c4 => ?_)
        · have h := h.2 c4
          exact t_Text_placesBehind_b109 C h kJ6 _ _ _ hM hS (lv_sub hl [1, 2, 3, 4, 5] rfl)
        · have h := h.1 c4
          exact t_Text_placesBehind_b100 C h kJ6 _ _ _ hM hS (lv_sub hl [1, 2, 3, 4, 5] rfl)
  · have h := h.1 c1
    refine lv_iload C.1.1 C.1.2.1 d_Text_placesBehind_48 (lv_at hl 0 rfl) ?_
    refine lv_if_eq (tgt := 62) C.1.1 C.1.2.1 d_Text_placesBehind_50 (by decide) (fun c5 => ?_) (fun c5 => ?_)
    · have h := h.1 c5
      exact t_Text_placesBehind_b62 C h kJ6 _ _ _ hM hS (lv_sub hl [1, 2, 3, 4, 5] rfl)
    · have h := h.2 c5
      refine lv_iload C.1.1 C.1.2.1 d_Text_placesBehind_53 (lv_at hl 4 rfl) ?_
      refine lv_iconst (v := (1 : Int32)) C.1.1 C.1.2.1 d_Text_placesBehind_55 (by decide) ?_
      refine lv_iload C.1.1 C.1.2.1 d_Text_placesBehind_56 (lv_at hl 5 rfl) ?_
      refine lv_ishl C.1.1 C.1.2.1 d_Text_placesBehind_58 ?_
      refine lv_ior C.1.1 C.1.2.1 d_Text_placesBehind_59 ?_
      refine lv_istore (lv' := [(4, .int (x4 ||| ((1 : Int32) <<< (x5 &&& 31)))), (8, .int t0), (0, .ref x0), (1, .int x1), (2, .long x2), (5, .int x5), (6, .long x6)]) C.1.1 C.1.2.1 d_Text_placesBehind_60 hl (by decide) rfl (fun ls hl => ?_)
      exact t_Text_placesBehind_b62 C h kJ6 _ _ _ hM hS (lv_sub hl [2, 3, 4, 0, 5] rfl)
def wp_Text_placesBehind_b6 (g : Nat → ClassId) (P : Int32 → Prop) (M : Mem) (x0 : Nat) (x1 : Int32) (x2 : Int64) (x4 : Int32) (x5 : Int32) : Prop :=
  ∃ (I : Int32 → Int32 → Prop) (μ : Int32 → Int32 → Nat), I x4 x5 ∧ ∀ (x4 : Int32) (x5 : Int32), I x4 x5 →
  ∃ v1 : Int32, gI M 1 x0 3 = some v1 ∧ ((v1 ≤ x5 → (P x4)) ∧ (¬ v1 ≤ x5 → (isO M 1 x0 ∧ (wp_Text_partAt g M x0 x5 (fun v3 : Int64 => (((x1 >>> (x5 &&& 31)) &&& (1 : Int32)) = 0 → (wp_Text_placesBehind_b37 g P (fun y4 y5 => I y4 y5 ∧ μ y4 y5 < μ x4 x5) M x0 x1 x2 x4 x5 v3 (0 : Int32))) ∧ (¬ ((x1 >>> (x5 &&& 31)) &&& (1 : Int32)) = 0 → (wp_Text_placesBehind_b37 g P (fun y4 y5 => I y4 y5 ∧ μ y4 y5 < μ x4 x5) M x0 x1 x2 x4 x5 v3 (1 : Int32))))))))
set_option maxHeartbeats 4000000 in
set_option maxRecDepth 100000 in
theorem t_Text_placesBehind_b6 {l : Launch} {D : va_G} {g : Nat → ClassId} {p : Program} {e : Env} {s : State} {m : MethodId} {args : Array Value} {below : List Frame} {meth : Method} {c : Code} {P : Int32 → Prop} {M : Mem} {x0 : Nat} {x1 : Int32} {x2 : Int64} {x4 : Int32} {x5 : Int32} (C : C_Text_placesBehind D g p s m args meth c M) (h : wp_Text_placesBehind_b6 g P M x0 x1 x2 x4 x5 ) : B_Text_placesBehind l D p e s m args below meth c M P M 6 [(0, .ref x0), (1, .int x1), (2, .long x2), (4, .int x4), (5, .int x5)] [] := by
  unfold wp_Text_placesBehind_b6 at h
  obtain ⟨I, μ, hI, hb⟩ := h
  have key : ∀ (n : Nat) (x4 : Int32) (x5 : Int32), I x4 x5 → μ x4 x5 < n → B_Text_placesBehind l D p e s m args below meth c M P M 6 [(0, .ref x0), (1, .int x1), (2, .long x2), (4, .int x4), (5, .int x5)] [] := by
    intro n
    induction n with
    | zero => intro x4 x5 _ hn; exact absurd hn (Nat.not_lt_zero _)
    | succ n ih =>
      intro x4 x5 hI hn ls H locs hM hS hl
      have h := hb x4 x5 hI
      refine lv_iload C.1.1 C.1.2.1 d_Text_placesBehind_6 (lv_at hl 4 rfl) ?_
      refine lv_aload_n C.1.1 C.1.2.1 d_Text_placesBehind_8 rfl (lv_at hl 0 rfl) ?_
      obtain ⟨v1, ev1, h⟩ := h
      refine mg_I C.1 hM ok_Text (by decide) kw104 ev1 d_Text_placesBehind_9 ?_
      refine lv_icmp_ge (tgt := 115) C.1.1 C.1.2.1 d_Text_placesBehind_12 (by decide) (fun c2 => ?_) (fun c2 => ?_)
      · have h := h.1 c2
        refine lv_iload C.1.1 C.1.2.1 d_Text_placesBehind_115 (lv_at hl 3 rfl) ?_
        exact mr_I C.1 C.2.1 C.2.2 hM hS ⟨_, rfl, rfl, h⟩ d_Text_placesBehind_117
      · have h := h.2 c2
        refine lv_aload_n C.1.1 C.1.2.1 d_Text_placesBehind_15 rfl (lv_at hl 0 rfl) ?_
        refine lv_iload C.1.1 C.1.2.1 d_Text_placesBehind_16 (lv_at hl 4 rfl) ?_
        obtain ⟨ho, h⟩ := h
        refine mc_V (As := [.int x5]) (ci := 1) C.1 hM hS bigGood (c_Text_partAt h) rfl ho kw114 kw116 kw117 kw107 kw115 hd_Text_partAt ⟨by decide, by decide⟩ hl.1 rfl (Nat.le_of_ble_eq_true rfl) d_Text_placesBehind_18 ⟨by decide, by decide⟩ (fun v M' H locs hp hM hS => ?_)
        obtain ⟨v3, rfl, rfl, h⟩ := hp
        refine lv_lstore (lv' := [(6, .long v3), (0, .ref x0), (1, .int x1), (2, .long x2), (4, .int x4), (5, .int x5)]) C.1.1 C.1.2.1 d_Text_placesBehind_21 hl (by decide) rfl (fun ls hl => ?_)
        refine lv_iload_n C.1.1 C.1.2.1 d_Text_placesBehind_23 rfl (lv_at hl 2 rfl) ?_
        refine lv_iload C.1.1 C.1.2.1 d_Text_placesBehind_24 (lv_at hl 5 rfl) ?_
        refine lv_ishr C.1.1 C.1.2.1 d_Text_placesBehind_26 ?_
        refine lv_iconst (v := (1 : Int32)) C.1.1 C.1.2.1 d_Text_placesBehind_27 (by decide) ?_
        refine lv_iand C.1.1 C.1.2.1 d_Text_placesBehind_28 ?_
        refine lv_if_eq (tgt := 36) C.1.1 C.1.2.1 d_Text_placesBehind_29 (by decide) (fun c5 => ?_) (fun c5 => ?_)
        · have h := h.1 c5
          refine lv_iconst (v := (0 : Int32)) C.1.1 C.1.2.1 d_Text_placesBehind_36 (by decide) ?_
          exact t_Text_placesBehind_b37 C h (fun y4 y5 hJ => ih y4 y5 hJ.1 (Nat.lt_of_lt_of_le hJ.2 (Nat.le_of_lt_succ hn))) _ _ _ hM hS (lv_sub hl [1, 2, 3, 4, 5, 0] rfl)
        · have h := h.2 c5
          refine lv_iconst (v := (1 : Int32)) C.1.1 C.1.2.1 d_Text_placesBehind_32 (by decide) ?_
          refine lv_goto (tgt := 37) C.1.1 C.1.2.1 d_Text_placesBehind_33 (by decide) ?_
          exact t_Text_placesBehind_b37 C h (fun y4 y5 hJ => ih y4 y5 hJ.1 (Nat.lt_of_lt_of_le hJ.2 (Nat.le_of_lt_succ hn))) _ _ _ hM hS (lv_sub hl [1, 2, 3, 4, 5, 0] rfl)
  exact key _ x4 x5 hI (Nat.lt_succ_self _)
def wp_Text_placesBehind (g : Nat → ClassId) (M : Mem) (x0 : Nat) (x1 : Int32) (x2 : Int64) (P : Int32 → Prop) : Prop :=
  wp_Text_placesBehind_b6 g P M x0 x1 x2 (0 : Int32) (0 : Int32)
set_option maxHeartbeats 4000000 in
set_option maxRecDepth 100000 in
theorem c_Text_placesBehind {l : Launch} {D : va_G} {g : Nat → ClassId} {M : Mem} {x0 : Nat} {x1 : Int32} {x2 : Int64} {P : Int32 → Prop} (h : wp_Text_placesBehind g M x0 x1 x2 P) : mMet l BIG D vwCl (tysG g) y_Text_placesBehind b_Text_placesBehind 9 (some .int) rm_Text_placesBehind [.ref x0, .int x1, .long x2] M (kI fun r M' => M = M' ∧ P r) := by
  refine mMet.of (own := R_Text) rfl (by decide) rfl (fun p e s m below meth c C hr hlk hnm ls hM hS hl => ?_)
  have C : C_Text_placesBehind D g p s m ([.ref x0, .int x1, .long x2] : List Value).toArray meth c M := ⟨C, hr, hlk⟩
  unfold wp_Text_placesBehind at h
  have hl : lv_has ls 9 [(0, .ref x0), (1, .int x1), (2, .long x2)] := hl
  refine lv_iconst (v := (0 : Int32)) C.1.1 C.1.2.1 d_Text_placesBehind_0 (by decide) ?_
  refine lv_istore (lv' := [(4, .int (0 : Int32)), (0, .ref x0), (1, .int x1), (2, .long x2)]) C.1.1 C.1.2.1 d_Text_placesBehind_1 hl (by decide) rfl (fun ls hl => ?_)
  refine lv_iconst (v := (0 : Int32)) C.1.1 C.1.2.1 d_Text_placesBehind_3 (by decide) ?_
  refine lv_istore (lv' := [(5, .int (0 : Int32)), (4, .int (0 : Int32)), (0, .ref x0), (1, .int x1), (2, .long x2)]) C.1.1 C.1.2.1 d_Text_placesBehind_4 hl (by decide) rfl (fun ls hl => ?_)
  exact t_Text_placesBehind_b6 C h _ _ _ hM hS (lv_sub hl [2, 3, 4, 1, 0] rfl)
theorem d_Text_hasEnd_0 : decode b_Text_hasEnd 0 = .ok (.iload_n 1, 1) := by decide +kernel
theorem d_Text_hasEnd_1 : decode b_Text_hasEnd 1 = .ok (.aload_n 0, 1) := by decide +kernel
theorem d_Text_hasEnd_2 : decode b_Text_hasEnd 2 = .ok (.getfield 23, 3) := by decide +kernel
theorem d_Text_hasEnd_5 : decode b_Text_hasEnd 5 = .ok (.ishr, 1) := by decide +kernel
theorem d_Text_hasEnd_6 : decode b_Text_hasEnd 6 = .ok (.iconst 1, 1) := by decide +kernel
theorem d_Text_hasEnd_7 : decode b_Text_hasEnd 7 = .ok (.iand, 1) := by decide +kernel
theorem d_Text_hasEnd_8 : decode b_Text_hasEnd 8 = .ok (.ifCond .eq 7, 3) := by decide +kernel
theorem d_Text_hasEnd_11 : decode b_Text_hasEnd 11 = .ok (.iconst 1, 1) := by decide +kernel
theorem d_Text_hasEnd_12 : decode b_Text_hasEnd 12 = .ok (.goto 4, 3) := by decide +kernel
theorem d_Text_hasEnd_15 : decode b_Text_hasEnd 15 = .ok (.iconst 0, 1) := by decide +kernel
theorem d_Text_hasEnd_16 : decode b_Text_hasEnd 16 = .ok (.ireturn, 1) := by decide +kernel
abbrev rm_Text_hasEnd : Room := { frames := 0, cells := 0, slots := 0, locals := 0 }
abbrev C_Text_hasEnd (D : va_G) (g : Nat → ClassId) (p : Program) (s : State) (m : MethodId) (args : Array Value) (meth : Method) (c : Code) (M0 : Mem) : Prop := Cx p s m args c b_Text_hasEnd 2 R_Text BIG D vwCl (tysG g) (mA M0 s.heap.size) ∧ meth.sig.returnType = (some .boolean) ∧ meth.locks = false
abbrev B_Text_hasEnd (l : Launch) (D : va_G) (p : Program) (e : Env) (s : State) (m : MethodId) (args : Array Value) (below : List Frame) (meth : Method) (c : Code) (M0 : Mem) (P : Int32 → Prop) (M : Mem) (pc : Nat) (lv : List (Nat × Value)) (st : List Value) : Prop := Wb p l e rm_Text_hasEnd s m args below meth c 2 D vwCl M0 (kI fun r M' => M0 = M' ∧ P r) 0 0 M pc lv st
def wp_Text_hasEnd_b16 (g : Nat → ClassId) (P : Int32 → Prop) (M : Mem) (t0 : Int32) : Prop :=
  isB t0 ∧ P t0
set_option maxHeartbeats 4000000 in
set_option maxRecDepth 100000 in
theorem t_Text_hasEnd_b16 {l : Launch} {D : va_G} {g : Nat → ClassId} {p : Program} {e : Env} {s : State} {m : MethodId} {args : Array Value} {below : List Frame} {meth : Method} {c : Code} {P : Int32 → Prop} {M : Mem} {t0 : Int32} (C : C_Text_hasEnd D g p s m args meth c M) (h : wp_Text_hasEnd_b16 g P M t0) : B_Text_hasEnd l D p e s m args below meth c M P M 16 [] [.int t0] := by
  intro ls H locs hM hS hl
  unfold wp_Text_hasEnd_b16 at h
  exact mr_Z C.1 C.2.1 C.2.2 h.1 hM hS ⟨_, rfl, rfl, h.2⟩ d_Text_hasEnd_16
def wp_Text_hasEnd (g : Nat → ClassId) (M : Mem) (x0 : Nat) (x1 : Int32) (P : Int32 → Prop) : Prop :=
  ∃ v1 : Int32, gI M 1 x0 3 = some v1 ∧ ((((x1 >>> (v1 &&& 31)) &&& (1 : Int32)) = 0 → (wp_Text_hasEnd_b16 g P M (0 : Int32))) ∧ (¬ ((x1 >>> (v1 &&& 31)) &&& (1 : Int32)) = 0 → (wp_Text_hasEnd_b16 g P M (1 : Int32))))
set_option maxHeartbeats 4000000 in
set_option maxRecDepth 100000 in
theorem c_Text_hasEnd {l : Launch} {D : va_G} {g : Nat → ClassId} {M : Mem} {x0 : Nat} {x1 : Int32} {P : Int32 → Prop} (h : wp_Text_hasEnd g M x0 x1 P) : mMet l BIG D vwCl (tysG g) y_Text_hasEnd b_Text_hasEnd 2 (some .boolean) rm_Text_hasEnd [.ref x0, .int x1] M (kI fun r M' => M = M' ∧ P r) := by
  refine mMet.of (own := R_Text) rfl (by decide) rfl (fun p e s m below meth c C hr hlk hnm ls hM hS hl => ?_)
  have C : C_Text_hasEnd D g p s m ([.ref x0, .int x1] : List Value).toArray meth c M := ⟨C, hr, hlk⟩
  unfold wp_Text_hasEnd at h
  have hl : lv_has ls 2 [(0, .ref x0), (1, .int x1)] := hl
  refine lv_iload_n C.1.1 C.1.2.1 d_Text_hasEnd_0 rfl (lv_at hl 1 rfl) ?_
  refine lv_aload_n C.1.1 C.1.2.1 d_Text_hasEnd_1 rfl (lv_at hl 0 rfl) ?_
  obtain ⟨v1, ev1, h⟩ := h
  refine mg_I C.1 hM ok_Text (by decide) kw104 ev1 d_Text_hasEnd_2 ?_
  refine lv_ishr C.1.1 C.1.2.1 d_Text_hasEnd_5 ?_
  refine lv_iconst (v := (1 : Int32)) C.1.1 C.1.2.1 d_Text_hasEnd_6 (by decide) ?_
  refine lv_iand C.1.1 C.1.2.1 d_Text_hasEnd_7 ?_
  refine lv_if_eq (tgt := 15) C.1.1 C.1.2.1 d_Text_hasEnd_8 (by decide) (fun c2 => ?_) (fun c2 => ?_)
  · have h := h.1 c2
    refine lv_iconst (v := (0 : Int32)) C.1.1 C.1.2.1 d_Text_hasEnd_15 (by decide) ?_
    exact t_Text_hasEnd_b16 C h _ _ _ hM hS (lv_sub hl [] rfl)
  · have h := h.2 c2
    refine lv_iconst (v := (1 : Int32)) C.1.1 C.1.2.1 d_Text_hasEnd_11 (by decide) ?_
    refine lv_goto (tgt := 16) C.1.1 C.1.2.1 d_Text_hasEnd_12 (by decide) ?_
    exact t_Text_hasEnd_b16 C h _ _ _ hM hS (lv_sub hl [] rfl)
theorem d_Text_addPart_0 : decode b_Text_addPart 0 = .ok (.aload_n 0, 1) := by decide +kernel
theorem d_Text_addPart_1 : decode b_Text_addPart 1 = .ok (.getfield 23, 3) := by decide +kernel
theorem d_Text_addPart_4 : decode b_Text_addPart 4 = .ok (.aload_n 0, 1) := by decide +kernel
theorem d_Text_addPart_5 : decode b_Text_addPart 5 = .ok (.getfield 15, 3) := by decide +kernel
theorem d_Text_addPart_8 : decode b_Text_addPart 8 = .ok (.arraylength, 1) := by decide +kernel
theorem d_Text_addPart_9 : decode b_Text_addPart 9 = .ok (.if_icmp .ge 23, 3) := by decide +kernel
theorem d_Text_addPart_12 : decode b_Text_addPart 12 = .ok (.aload_n 0, 1) := by decide +kernel
theorem d_Text_addPart_13 : decode b_Text_addPart 13 = .ok (.getfield 15, 3) := by decide +kernel
theorem d_Text_addPart_16 : decode b_Text_addPart 16 = .ok (.aload_n 0, 1) := by decide +kernel
theorem d_Text_addPart_17 : decode b_Text_addPart 17 = .ok (.getfield 23, 3) := by decide +kernel
theorem d_Text_addPart_20 : decode b_Text_addPart 20 = .ok (.lload_n 1, 1) := by decide +kernel
theorem d_Text_addPart_21 : decode b_Text_addPart 21 = .ok (.lastore, 1) := by decide +kernel
theorem d_Text_addPart_22 : decode b_Text_addPart 22 = .ok (.aload_n 0, 1) := by decide +kernel
theorem d_Text_addPart_23 : decode b_Text_addPart 23 = .ok (.dup, 1) := by decide +kernel
theorem d_Text_addPart_24 : decode b_Text_addPart 24 = .ok (.getfield 23, 3) := by decide +kernel
theorem d_Text_addPart_27 : decode b_Text_addPart 27 = .ok (.iconst 1, 1) := by decide +kernel
theorem d_Text_addPart_28 : decode b_Text_addPart 28 = .ok (.iadd, 1) := by decide +kernel
theorem d_Text_addPart_29 : decode b_Text_addPart 29 = .ok (.putfield 23, 3) := by decide +kernel
theorem d_Text_addPart_32 : decode b_Text_addPart 32 = .ok (.return_, 1) := by decide +kernel
abbrev rm_Text_addPart : Room := { frames := 0, cells := 0, slots := 0, locals := 0 }
abbrev C_Text_addPart (D : va_G) (g : Nat → ClassId) (p : Program) (s : State) (m : MethodId) (args : Array Value) (meth : Method) (c : Code) (M0 : Mem) : Prop := Cx p s m args c b_Text_addPart 3 R_Text BIG D vwCl (tysG g) (mA M0 s.heap.size) ∧ meth.sig.returnType = none ∧ meth.locks = false
abbrev B_Text_addPart (l : Launch) (D : va_G) (p : Program) (e : Env) (s : State) (m : MethodId) (args : Array Value) (below : List Frame) (meth : Method) (c : Code) (M0 : Mem) (P : Mem → Prop) (M : Mem) (pc : Nat) (lv : List (Nat × Value)) (st : List Value) : Prop := Wb p l e rm_Text_addPart s m args below meth c 3 D vwCl M0 (kV fun M' => P M') 0 0 M pc lv st
def wp_Text_addPart_b32 (g : Nat → ClassId) (P : Mem → Prop) (M : Mem) : Prop :=
  P M
set_option maxHeartbeats 4000000 in
set_option maxRecDepth 100000 in
theorem t_Text_addPart_b32 {l : Launch} {D : va_G} {g : Nat → ClassId} {p : Program} {e : Env} {s : State} {m : MethodId} {args : Array Value} {below : List Frame} {meth : Method} {c : Code} {M0 : Mem} {P : Mem → Prop} {M : Mem} (C : C_Text_addPart D g p s m args meth c M0) (h : wp_Text_addPart_b32 g P M ) : B_Text_addPart l D p e s m args below meth c M0 P M 32 [] [] := by
  intro ls H locs hM hS hl
  unfold wp_Text_addPart_b32 at h
  exact mr_V C.1 C.2.1 C.2.2 hM hS ⟨rfl, h⟩ d_Text_addPart_32
def wp_Text_addPart (g : Nat → ClassId) (M : Mem) (x0 : Nat) (x1 : Int64) (P : Mem → Prop) : Prop :=
  ∃ v1 : Int32, gI M 1 x0 3 = some v1 ∧ (∃ v2 : Nat, gR M 1 x0 1 = some v2 ∧ (∃ n3 : Nat, aN M (g 1) v2 = some n3 ∧ (((nI n3) ≤ v1 → (wp_Text_addPart_b32 g P M)) ∧ (¬ (nI n3) ≤ v1 → (∃ v5 : Nat, gR M 1 x0 1 = some v5 ∧ (∃ v6 : Int32, gI M 1 x0 3 = some v6 ∧ (∃ M7 : Mem, sL M (g 1) v5 v6 x1 = some M7 ∧ (∃ v8 : Int32, gI M7 1 x0 3 = some v8 ∧ (∃ M9 : Mem, pV M7 1 x0 3 (.int (v8 + (1 : Int32))) = some M9 ∧ (wp_Text_addPart_b32 g P M9))))))))))
set_option maxHeartbeats 4000000 in
set_option maxRecDepth 100000 in
theorem c_Text_addPart {l : Launch} {D : va_G} {g : Nat → ClassId} {M : Mem} {x0 : Nat} {x1 : Int64} {P : Mem → Prop} (h : wp_Text_addPart g M x0 x1 P) : mMet l BIG D vwCl (tysG g) y_Text_addPart b_Text_addPart 3 none rm_Text_addPart [.ref x0, .long x1] M (kV fun M' => P M') := by
  refine mMet.of (own := R_Text) rfl (by decide) rfl (fun p e s m below meth c C hr hlk hnm ls hM hS hl => ?_)
  have C : C_Text_addPart D g p s m ([.ref x0, .long x1] : List Value).toArray meth c M := ⟨C, hr, hlk⟩
  unfold wp_Text_addPart at h
  have hl : lv_has ls 3 [(0, .ref x0), (1, .long x1)] := hl
  refine lv_aload_n C.1.1 C.1.2.1 d_Text_addPart_0 rfl (lv_at hl 0 rfl) ?_
  obtain ⟨v1, ev1, h⟩ := h
  refine mg_I C.1 hM ok_Text (by decide) kw104 ev1 d_Text_addPart_1 ?_
  refine lv_aload_n C.1.1 C.1.2.1 d_Text_addPart_4 rfl (lv_at hl 0 rfl) ?_
  obtain ⟨v2, ev2, h⟩ := h
  refine mg_R C.1 hM ok_Text (by decide) kw102 ev2 d_Text_addPart_5 ?_
  obtain ⟨n3, en3, h⟩ := h
  refine ma_N C.1 hM 1 rfl en3 d_Text_addPart_8 ?_
  refine lv_icmp_ge (tgt := 32) C.1.1 C.1.2.1 d_Text_addPart_9 (by decide) (fun c4 => ?_) (fun c4 => ?_)
  · have h := h.1 c4
    exact t_Text_addPart_b32 C h _ _ _ hM hS (lv_sub hl [] rfl)
  · have h := h.2 c4
    refine lv_aload_n C.1.1 C.1.2.1 d_Text_addPart_12 rfl (lv_at hl 0 rfl) ?_
    obtain ⟨v5, ev5, h⟩ := h
    refine mg_R C.1 hM ok_Text (by decide) kw102 ev5 d_Text_addPart_13 ?_
    refine lv_aload_n C.1.1 C.1.2.1 d_Text_addPart_16 rfl (lv_at hl 0 rfl) ?_
    obtain ⟨v6, ev6, h⟩ := h
    refine mg_I C.1 hM ok_Text (by decide) kw104 ev6 d_Text_addPart_17 ?_
    refine lv_lload_n C.1.1 C.1.2.1 d_Text_addPart_20 rfl (lv_at hl 1 rfl) ?_
    obtain ⟨M7, eM7, h⟩ := h
    refine ms_L C.1 hM hS 1 rfl eM7 d_Text_addPart_21 (fun H locs hM hS => ?_)
    refine lv_aload_n C.1.1 C.1.2.1 d_Text_addPart_22 rfl (lv_at hl 0 rfl) ?_
    refine lv_dup C.1.1 C.1.2.1 d_Text_addPart_23 rfl ?_
    obtain ⟨v8, ev8, h⟩ := h
    refine mg_I C.1 hM ok_Text (by decide) kw104 ev8 d_Text_addPart_24 ?_
    refine lv_iconst (v := (1 : Int32)) C.1.1 C.1.2.1 d_Text_addPart_27 (by decide) ?_
    refine lv_iadd C.1.1 C.1.2.1 d_Text_addPart_28 ?_
    obtain ⟨M9, eM9, h⟩ := h
    refine mp_V C.1 hM hS ok_Text (by decide) kw104 rfl rfl rfl eM9 d_Text_addPart_29 (fun H locs hM hS => ?_)
    exact t_Text_addPart_b32 C h _ _ _ hM hS (lv_sub hl [] rfl)
theorem d_Text_isWild_0 : decode b_Text_isWild 0 = .ok (.iload_n 0, 1) := by decide +kernel
theorem d_Text_isWild_1 : decode b_Text_isWild 1 = .ok (.bipush 42, 2) := by decide +kernel
theorem d_Text_isWild_3 : decode b_Text_isWild 3 = .ok (.if_icmp .eq 9, 3) := by decide +kernel
theorem d_Text_isWild_6 : decode b_Text_isWild 6 = .ok (.iload_n 0, 1) := by decide +kernel
theorem d_Text_isWild_7 : decode b_Text_isWild 7 = .ok (.bipush 35, 2) := by decide +kernel
theorem d_Text_isWild_9 : decode b_Text_isWild 9 = .ok (.if_icmp .ne 7, 3) := by decide +kernel
theorem d_Text_isWild_12 : decode b_Text_isWild 12 = .ok (.iconst 1, 1) := by decide +kernel
theorem d_Text_isWild_13 : decode b_Text_isWild 13 = .ok (.goto 4, 3) := by decide +kernel
theorem d_Text_isWild_16 : decode b_Text_isWild 16 = .ok (.iconst 0, 1) := by decide +kernel
theorem d_Text_isWild_17 : decode b_Text_isWild 17 = .ok (.ireturn, 1) := by decide +kernel
abbrev rm_Text_isWild : Room := { frames := 0, cells := 0, slots := 0, locals := 0 }
abbrev C_Text_isWild (D : va_G) (g : Nat → ClassId) (p : Program) (s : State) (m : MethodId) (args : Array Value) (meth : Method) (c : Code) (M0 : Mem) : Prop := Cx p s m args c b_Text_isWild 1 R_Text BIG D vwCl (tysG g) (mA M0 s.heap.size) ∧ meth.sig.returnType = (some .boolean) ∧ meth.locks = false
abbrev B_Text_isWild (l : Launch) (D : va_G) (p : Program) (e : Env) (s : State) (m : MethodId) (args : Array Value) (below : List Frame) (meth : Method) (c : Code) (M0 : Mem) (P : Int32 → Prop) (M : Mem) (pc : Nat) (lv : List (Nat × Value)) (st : List Value) : Prop := Wb p l e rm_Text_isWild s m args below meth c 1 D vwCl M0 (kI fun r M' => M0 = M' ∧ P r) 0 0 M pc lv st
def wp_Text_isWild_b17 (g : Nat → ClassId) (P : Int32 → Prop) (M : Mem) (t0 : Int32) : Prop :=
  isB t0 ∧ P t0
set_option maxHeartbeats 4000000 in
set_option maxRecDepth 100000 in
theorem t_Text_isWild_b17 {l : Launch} {D : va_G} {g : Nat → ClassId} {p : Program} {e : Env} {s : State} {m : MethodId} {args : Array Value} {below : List Frame} {meth : Method} {c : Code} {P : Int32 → Prop} {M : Mem} {t0 : Int32} (C : C_Text_isWild D g p s m args meth c M) (h : wp_Text_isWild_b17 g P M t0) : B_Text_isWild l D p e s m args below meth c M P M 17 [] [.int t0] := by
  intro ls H locs hM hS hl
  unfold wp_Text_isWild_b17 at h
  exact mr_Z C.1 C.2.1 C.2.2 h.1 hM hS ⟨_, rfl, rfl, h.2⟩ d_Text_isWild_17
def wp_Text_isWild_b12 (g : Nat → ClassId) (P : Int32 → Prop) (M : Mem) : Prop :=
  wp_Text_isWild_b17 g P M (1 : Int32)
set_option maxHeartbeats 4000000 in
set_option maxRecDepth 100000 in
theorem t_Text_isWild_b12 {l : Launch} {D : va_G} {g : Nat → ClassId} {p : Program} {e : Env} {s : State} {m : MethodId} {args : Array Value} {below : List Frame} {meth : Method} {c : Code} {P : Int32 → Prop} {M : Mem} (C : C_Text_isWild D g p s m args meth c M) (h : wp_Text_isWild_b12 g P M ) : B_Text_isWild l D p e s m args below meth c M P M 12 [] [] := by
  intro ls H locs hM hS hl
  unfold wp_Text_isWild_b12 at h
  refine lv_iconst (v := (1 : Int32)) C.1.1 C.1.2.1 d_Text_isWild_12 (by decide) ?_
  refine lv_goto (tgt := 17) C.1.1 C.1.2.1 d_Text_isWild_13 (by decide) ?_
  exact t_Text_isWild_b17 C h _ _ _ hM hS (lv_sub hl [] rfl)
def wp_Text_isWild (g : Nat → ClassId) (M : Mem) (x0 : Int32) (P : Int32 → Prop) : Prop :=
  (x0 = (42 : Int32) → (wp_Text_isWild_b12 g P M)) ∧ (¬ x0 = (42 : Int32) → ((x0 = (35 : Int32) → (wp_Text_isWild_b12 g P M)) ∧ (¬ x0 = (35 : Int32) → (wp_Text_isWild_b17 g P M (0 : Int32)))))
set_option maxHeartbeats 4000000 in
set_option maxRecDepth 100000 in
theorem c_Text_isWild {l : Launch} {D : va_G} {g : Nat → ClassId} {M : Mem} {x0 : Int32} {P : Int32 → Prop} (h : wp_Text_isWild g M x0 P) : mMet l BIG D vwCl (tysG g) y_Text_isWild b_Text_isWild 1 (some .boolean) rm_Text_isWild [.int x0] M (kI fun r M' => M = M' ∧ P r) := by
  refine mMet.of (own := R_Text) rfl (by decide) rfl (fun p e s m below meth c C hr hlk hnm ls hM hS hl => ?_)
  have C : C_Text_isWild D g p s m ([.int x0] : List Value).toArray meth c M := ⟨C, hr, hlk⟩
  unfold wp_Text_isWild at h
  have hl : lv_has ls 1 [(0, .int x0)] := hl
  refine lv_iload_n C.1.1 C.1.2.1 d_Text_isWild_0 rfl (lv_at hl 0 rfl) ?_
  refine lv_bipush (v := (42 : Int32)) C.1.1 C.1.2.1 d_Text_isWild_1 (by decide) ?_
  refine lv_icmp_eq (tgt := 12) C.1.1 C.1.2.1 d_Text_isWild_3 (by decide) (fun c1 => ?_) (fun c1 => ?_)
  · have h := h.1 c1
    exact t_Text_isWild_b12 C h _ _ _ hM hS (lv_sub hl [] rfl)
  · have h := h.2 c1
    refine lv_iload_n C.1.1 C.1.2.1 d_Text_isWild_6 rfl (lv_at hl 0 rfl) ?_
    refine lv_bipush (v := (35 : Int32)) C.1.1 C.1.2.1 d_Text_isWild_7 (by decide) ?_
    refine lv_icmp_ne (tgt := 16) C.1.1 C.1.2.1 d_Text_isWild_9 (by decide) (fun c2 => ?_) (fun c2 => ?_)
    · have h := h.2 c2
      refine lv_iconst (v := (0 : Int32)) C.1.1 C.1.2.1 d_Text_isWild_16 (by decide) ?_
      exact t_Text_isWild_b17 C h _ _ _ hM hS (lv_sub hl [] rfl)
    · have h := h.1 c2
      exact t_Text_isWild_b12 C h _ _ _ hM hS (lv_sub hl [] rfl)
end
