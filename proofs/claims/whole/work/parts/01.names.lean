-- ===== PART A: goes FIRST, ahead of the names: the tables' words, and 'selects' of the private methods out of them =====
/-- a private method of a class that the tables say can be made, by its rows of tables_1 -/
def lw_okq (q : MethodName × Nat) : Prop := (q.1.cls ≠ "java/lang/invoke/MethodHandle" ∧ q.1.cls ≠ "java/lang/invoke/VarHandle") ∧ Cond.instantiable q.1.cls q.2 ∈ tables_1 ∧ Cond.privateMethod q.1 ∈ tables_1 ∧ Cond.instanceMethod q.1 ∈ tables_1
theorem lw_p0 : lw_okq (⟨"TopicDesk", "boundAt", "(I)LTopicDesk$Binding;"⟩, 6) := ⟨⟨by decide +kernel, by decide +kernel⟩, List.mem_of_getElem? (i := 17) (by decide +kernel), List.mem_of_getElem? (i := 159) (by decide +kernel), List.mem_of_getElem? (i := 160) (by decide +kernel)⟩
theorem lw_p1 : lw_okq (⟨"TopicDesk", "fewestWords", "(IIZ)I"⟩, 6) := ⟨⟨by decide +kernel, by decide +kernel⟩, List.mem_of_getElem? (i := 17) (by decide +kernel), List.mem_of_getElem? (i := 229) (by decide +kernel), List.mem_of_getElem? (i := 230) (by decide +kernel)⟩
theorem lw_p2 : lw_okq (⟨"TopicDesk$RowSearch", "collectWords", "(LTopicDesk$Text;LTopicDesk$Text;)V"⟩, 5) := ⟨⟨by decide +kernel, by decide +kernel⟩, List.mem_of_getElem? (i := 94) (by decide +kernel), List.mem_of_getElem? (i := 237) (by decide +kernel), List.mem_of_getElem? (i := 238) (by decide +kernel)⟩
theorem lw_p3 : lw_okq (⟨"TopicDesk$RowSearch", "addWord", "(J)V"⟩, 5) := ⟨⟨by decide +kernel, by decide +kernel⟩, List.mem_of_getElem? (i := 94) (by decide +kernel), List.mem_of_getElem? (i := 241) (by decide +kernel), List.mem_of_getElem? (i := 242) (by decide +kernel)⟩
theorem lw_p4 : lw_okq (⟨"TopicDesk$RowSearch", "addStates", "(III)V"⟩, 5) := ⟨⟨by decide +kernel, by decide +kernel⟩, List.mem_of_getElem? (i := 94) (by decide +kernel), List.mem_of_getElem? (i := 256) (by decide +kernel), List.mem_of_getElem? (i := 257) (by decide +kernel)⟩
theorem lw_p5 : lw_okq (⟨"TopicDesk$RowSearch", "addState", "(II)V"⟩, 5) := ⟨⟨by decide +kernel, by decide +kernel⟩, List.mem_of_getElem? (i := 94) (by decide +kernel), List.mem_of_getElem? (i := 260) (by decide +kernel), List.mem_of_getElem? (i := 261) (by decide +kernel)⟩
theorem lw_p6 : lw_okq (⟨"TopicDesk", "isSpare", "(II)Z"⟩, 6) := ⟨⟨by decide +kernel, by decide +kernel⟩, List.mem_of_getElem? (i := 17) (by decide +kernel), List.mem_of_getElem? (i := 277) (by decide +kernel), List.mem_of_getElem? (i := 278) (by decide +kernel)⟩
theorem lw_p7 : lw_okq (⟨"TopicDesk", "isWithin", "(II)Z"⟩, 6) := ⟨⟨by decide +kernel, by decide +kernel⟩, List.mem_of_getElem? (i := 17) (by decide +kernel), List.mem_of_getElem? (i := 281) (by decide +kernel), List.mem_of_getElem? (i := 282) (by decide +kernel)⟩
theorem lw_p8 : lw_okq (⟨"TopicDesk", "takeTape", "(Z)Z"⟩, 6) := ⟨⟨by decide +kernel, by decide +kernel⟩, List.mem_of_getElem? (i := 17) (by decide +kernel), List.mem_of_getElem? (i := 294) (by decide +kernel), List.mem_of_getElem? (i := 295) (by decide +kernel)⟩
theorem lw_p9 : lw_okq (⟨"TopicDesk$Text", "addPart", "(J)V"⟩, 4) := ⟨⟨by decide +kernel, by decide +kernel⟩, List.mem_of_getElem? (i := 25) (by decide +kernel), List.mem_of_getElem? (i := 308) (by decide +kernel), List.mem_of_getElem? (i := 309) (by decide +kernel)⟩
theorem lw_p10 : lw_okq (⟨"TopicDesk$Text", "canStand", "(IIZ)Z"⟩, 4) := ⟨⟨by decide +kernel, by decide +kernel⟩, List.mem_of_getElem? (i := 25) (by decide +kernel), List.mem_of_getElem? (i := 317) (by decide +kernel), List.mem_of_getElem? (i := 318) (by decide +kernel)⟩
theorem lw_p11 : lw_okq (⟨"java/lang/Throwable", "fillInStackTrace", "(I)Ljava/lang/Throwable;"⟩, 6) := ⟨⟨by decide +kernel, by decide +kernel⟩, List.mem_of_getElem? (i := 365) (by decide +kernel), List.mem_of_getElem? (i := 363) (by decide +kernel), List.mem_of_getElem? (i := 364) (by decide +kernel)⟩
theorem lw_p12 : lw_okq (⟨"TopicDesk", "leastFreeBinding", "()I"⟩, 6) := ⟨⟨by decide +kernel, by decide +kernel⟩, List.mem_of_getElem? (i := 17) (by decide +kernel), List.mem_of_getElem? (i := 394) (by decide +kernel), List.mem_of_getElem? (i := 395) (by decide +kernel)⟩
theorem lw_p13 : lw_okq (⟨"TopicDesk$Shelf", "placeFor", "(LTopicDesk$Text;)I"⟩, 2) := ⟨⟨by decide +kernel, by decide +kernel⟩, List.mem_of_getElem? (i := 65) (by decide +kernel), List.mem_of_getElem? (i := 443) (by decide +kernel), List.mem_of_getElem? (i := 444) (by decide +kernel)⟩
theorem lw_p14 : lw_okq (⟨"TopicDesk$Shelf", "isAt", "(ILTopicDesk$Text;)Z"⟩, 2) := ⟨⟨by decide +kernel, by decide +kernel⟩, List.mem_of_getElem? (i := 65) (by decide +kernel), List.mem_of_getElem? (i := 454) (by decide +kernel), List.mem_of_getElem? (i := 455) (by decide +kernel)⟩
theorem lw_p15 : lw_okq (⟨"TopicDesk$Shelf", "move", "(II)V"⟩, 2) := ⟨⟨by decide +kernel, by decide +kernel⟩, List.mem_of_getElem? (i := 65) (by decide +kernel), List.mem_of_getElem? (i := 458) (by decide +kernel), List.mem_of_getElem? (i := 459) (by decide +kernel)⟩
def lw_privs_1 : List (MethodName × Nat) := [(⟨"TopicDesk", "boundAt", "(I)LTopicDesk$Binding;"⟩, 6), (⟨"TopicDesk", "fewestWords", "(IIZ)I"⟩, 6), (⟨"TopicDesk$RowSearch", "collectWords", "(LTopicDesk$Text;LTopicDesk$Text;)V"⟩, 5), (⟨"TopicDesk$RowSearch", "addWord", "(J)V"⟩, 5), (⟨"TopicDesk$RowSearch", "addStates", "(III)V"⟩, 5), (⟨"TopicDesk$RowSearch", "addState", "(II)V"⟩, 5), (⟨"TopicDesk", "isSpare", "(II)Z"⟩, 6), (⟨"TopicDesk", "isWithin", "(II)Z"⟩, 6), (⟨"TopicDesk", "takeTape", "(Z)Z"⟩, 6), (⟨"TopicDesk$Text", "addPart", "(J)V"⟩, 4), (⟨"TopicDesk$Text", "canStand", "(IIZ)Z"⟩, 4), (⟨"java/lang/Throwable", "fillInStackTrace", "(I)Ljava/lang/Throwable;"⟩, 6), (⟨"TopicDesk", "leastFreeBinding", "()I"⟩, 6), (⟨"TopicDesk$Shelf", "placeFor", "(LTopicDesk$Text;)I"⟩, 2), (⟨"TopicDesk$Shelf", "isAt", "(ILTopicDesk$Text;)Z"⟩, 2), (⟨"TopicDesk$Shelf", "move", "(II)V"⟩, 2)]
theorem lw_r1 : ∀ q ∈ lw_privs_1, lw_okq q := List.forall_mem_cons.mpr ⟨lw_p0, List.forall_mem_cons.mpr ⟨lw_p1, List.forall_mem_cons.mpr ⟨lw_p2, List.forall_mem_cons.mpr ⟨lw_p3, List.forall_mem_cons.mpr ⟨lw_p4, List.forall_mem_cons.mpr ⟨lw_p5, List.forall_mem_cons.mpr ⟨lw_p6, List.forall_mem_cons.mpr ⟨lw_p7, List.forall_mem_cons.mpr ⟨lw_p8, List.forall_mem_cons.mpr ⟨lw_p9, List.forall_mem_cons.mpr ⟨lw_p10, List.forall_mem_cons.mpr ⟨lw_p11, List.forall_mem_cons.mpr ⟨lw_p12, List.forall_mem_cons.mpr ⟨lw_p13, List.forall_mem_cons.mpr ⟨lw_p14, List.forall_mem_cons.mpr ⟨lw_p15, fun _ h => absurd h List.not_mem_nil⟩⟩⟩⟩⟩⟩⟩⟩⟩⟩⟩⟩⟩⟩⟩⟩
theorem lw_p16 : lw_okq (⟨"TopicDesk$Shelf", "isPlace", "(I)Z"⟩, 2) := ⟨⟨by decide +kernel, by decide +kernel⟩, List.mem_of_getElem? (i := 65) (by decide +kernel), List.mem_of_getElem? (i := 462) (by decide +kernel), List.mem_of_getElem? (i := 463) (by decide +kernel)⟩
theorem lw_p17 : lw_okq (⟨"TopicDeskModel", "reads", "(Z)Z"⟩, 23) := ⟨⟨by decide +kernel, by decide +kernel⟩, List.mem_of_getElem? (i := 523) (by decide +kernel), List.mem_of_getElem? (i := 612) (by decide +kernel), List.mem_of_getElem? (i := 613) (by decide +kernel)⟩
theorem lw_p18 : lw_okq (⟨"TopicDeskModel", "raise", "(I)I"⟩, 23) := ⟨⟨by decide +kernel, by decide +kernel⟩, List.mem_of_getElem? (i := 523) (by decide +kernel), List.mem_of_getElem? (i := 621) (by decide +kernel), List.mem_of_getElem? (i := 622) (by decide +kernel)⟩
theorem lw_p19 : lw_okq (⟨"TopicDeskModel", "isBound", "(I)Z"⟩, 23) := ⟨⟨by decide +kernel, by decide +kernel⟩, List.mem_of_getElem? (i := 523) (by decide +kernel), List.mem_of_getElem? (i := 633) (by decide +kernel), List.mem_of_getElem? (i := 634) (by decide +kernel)⟩
theorem lw_p20 : lw_okq (⟨"TopicDeskModel", "fits", "(I[JII)Z"⟩, 23) := ⟨⟨by decide +kernel, by decide +kernel⟩, List.mem_of_getElem? (i := 523) (by decide +kernel), List.mem_of_getElem? (i := 644) (by decide +kernel), List.mem_of_getElem? (i := 645) (by decide +kernel)⟩
theorem lw_p21 : lw_okq (⟨"TopicDeskModel", "first", "(I)I"⟩, 23) := ⟨⟨by decide +kernel, by decide +kernel⟩, List.mem_of_getElem? (i := 523) (by decide +kernel), List.mem_of_getElem? (i := 648) (by decide +kernel), List.mem_of_getElem? (i := 649) (by decide +kernel)⟩
theorem lw_p22 : lw_okq (⟨"TopicDeskModel", "moved", "(IIJ)I"⟩, 23) := ⟨⟨by decide +kernel, by decide +kernel⟩, List.mem_of_getElem? (i := 523) (by decide +kernel), List.mem_of_getElem? (i := 655) (by decide +kernel), List.mem_of_getElem? (i := 656) (by decide +kernel)⟩
theorem lw_p23 : lw_okq (⟨"TopicDeskModel", "isEnd", "(II)Z"⟩, 23) := ⟨⟨by decide +kernel, by decide +kernel⟩, List.mem_of_getElem? (i := 523) (by decide +kernel), List.mem_of_getElem? (i := 662) (by decide +kernel), List.mem_of_getElem? (i := 663) (by decide +kernel)⟩
theorem lw_p24 : lw_okq (⟨"TopicDeskModel", "found", "()I"⟩, 23) := ⟨⟨by decide +kernel, by decide +kernel⟩, List.mem_of_getElem? (i := 523) (by decide +kernel), List.mem_of_getElem? (i := 670) (by decide +kernel), List.mem_of_getElem? (i := 671) (by decide +kernel)⟩
theorem lw_p25 : lw_okq (⟨"TopicDeskModel", "fitsKept", "(II)Z"⟩, 23) := ⟨⟨by decide +kernel, by decide +kernel⟩, List.mem_of_getElem? (i := 523) (by decide +kernel), List.mem_of_getElem? (i := 682) (by decide +kernel), List.mem_of_getElem? (i := 683) (by decide +kernel)⟩
theorem lw_p26 : lw_okq (⟨"TopicDeskModel", "isAhead", "(II)Z"⟩, 23) := ⟨⟨by decide +kernel, by decide +kernel⟩, List.mem_of_getElem? (i := 523) (by decide +kernel), List.mem_of_getElem? (i := 690) (by decide +kernel), List.mem_of_getElem? (i := 691) (by decide +kernel)⟩
theorem lw_p27 : lw_okq (⟨"TopicDeskModel", "fewest", "(IIZ)I"⟩, 23) := ⟨⟨by decide +kernel, by decide +kernel⟩, List.mem_of_getElem? (i := 523) (by decide +kernel), List.mem_of_getElem? (i := 702) (by decide +kernel), List.mem_of_getElem? (i := 703) (by decide +kernel)⟩
theorem lw_p28 : lw_okq (⟨"TopicDeskModel", "wordOf", "(III)J"⟩, 23) := ⟨⟨by decide +kernel, by decide +kernel⟩, List.mem_of_getElem? (i := 523) (by decide +kernel), List.mem_of_getElem? (i := 706) (by decide +kernel), List.mem_of_getElem? (i := 707) (by decide +kernel)⟩
def lw_privs_2 : List (MethodName × Nat) := [(⟨"TopicDesk$Shelf", "isPlace", "(I)Z"⟩, 2), (⟨"TopicDeskModel", "reads", "(Z)Z"⟩, 23), (⟨"TopicDeskModel", "raise", "(I)I"⟩, 23), (⟨"TopicDeskModel", "isBound", "(I)Z"⟩, 23), (⟨"TopicDeskModel", "fits", "(I[JII)Z"⟩, 23), (⟨"TopicDeskModel", "first", "(I)I"⟩, 23), (⟨"TopicDeskModel", "moved", "(IIJ)I"⟩, 23), (⟨"TopicDeskModel", "isEnd", "(II)Z"⟩, 23), (⟨"TopicDeskModel", "found", "()I"⟩, 23), (⟨"TopicDeskModel", "fitsKept", "(II)Z"⟩, 23), (⟨"TopicDeskModel", "isAhead", "(II)Z"⟩, 23), (⟨"TopicDeskModel", "fewest", "(IIZ)I"⟩, 23), (⟨"TopicDeskModel", "wordOf", "(III)J"⟩, 23)]
theorem lw_r2 : ∀ q ∈ lw_privs_2, lw_okq q := List.forall_mem_cons.mpr ⟨lw_p16, List.forall_mem_cons.mpr ⟨lw_p17, List.forall_mem_cons.mpr ⟨lw_p18, List.forall_mem_cons.mpr ⟨lw_p19, List.forall_mem_cons.mpr ⟨lw_p20, List.forall_mem_cons.mpr ⟨lw_p21, List.forall_mem_cons.mpr ⟨lw_p22, List.forall_mem_cons.mpr ⟨lw_p23, List.forall_mem_cons.mpr ⟨lw_p24, List.forall_mem_cons.mpr ⟨lw_p25, List.forall_mem_cons.mpr ⟨lw_p26, List.forall_mem_cons.mpr ⟨lw_p27, List.forall_mem_cons.mpr ⟨lw_p28, fun _ h => absurd h List.not_mem_nil⟩⟩⟩⟩⟩⟩⟩⟩⟩⟩⟩⟩⟩
def lw_privs : List (MethodName × Nat) := lw_privs_1 ++ (lw_privs_2)
def lw_tbl : List Cond := k2_sels lw_privs ++ tables_1
theorem lw_privs_ok : ∀ q ∈ lw_privs, lw_okq q := by
  show ∀ q ∈ lw_privs_1 ++ (lw_privs_2), lw_okq q
  exact List.forall_mem_append.mpr ⟨lw_r1, lw_r2⟩
-- ===== names =====
def R_Desk : String := "TopicDesk"
def R_Text : String := "TopicDesk$Text"
def R_Bnd : String := "TopicDesk$Binding"
def R_Kt : String := "TopicDesk$KeptTopic"
def R_Shelf : String := "TopicDesk$Shelf"
def R_Rs : String := "TopicDesk$RowSearch"
def R_Mod : String := "TopicDeskModel"
def R_Arr : String := "java/util/Arrays"
def R_Law : String := "TopicDeskLaw"
def F_Desk : u_T := fun k => match k with
  | 0 => ("TopicDesk", "tape", "LTopicDesk$Text;", true)
  | 1 => ("TopicDesk", "taken", "LTopicDesk$Text;", true)
  | 2 => ("TopicDesk", "bindings", "[LTopicDesk$Binding;", true)
  | 3 => ("TopicDesk", "shelf", "LTopicDesk$Shelf;", true)
  | 4 => ("TopicDesk", "search", "LTopicDesk$RowSearch;", true)
  | _ => ("TopicDesk", "latestFault", "I", false)
def t_Desk : Nat → FieldType := fun k => match k with
  | 0 => .object "TopicDesk$Text"
  | 1 => .object "TopicDesk$Text"
  | 2 => .array (.object "TopicDesk$Binding")
  | 3 => .object "TopicDesk$Shelf"
  | 4 => .object "TopicDesk$RowSearch"
  | _ => .int
def F_Text : u_T := fun k => match k with
  | 0 => ("TopicDesk$Text", "signs", "[B", true)
  | 1 => ("TopicDesk$Text", "parts", "[J", true)
  | 2 => ("TopicDesk$Text", "length", "I", false)
  | _ => ("TopicDesk$Text", "partCount", "I", false)
def t_Text : Nat → FieldType := fun k => match k with
  | 0 => .array .byte
  | 1 => .array .long
  | 2 => .int
  | _ => .int
def F_Bnd : u_T := fun k => match k with
  | 0 => ("TopicDesk$Binding", "pattern", "LTopicDesk$Text;", true)
  | 1 => ("TopicDesk$Binding", "queue", "I", false)
  | _ => ("TopicDesk$Binding", "routed", "I", false)
def t_Bnd : Nat → FieldType := fun k => match k with
  | 0 => .object "TopicDesk$Text"
  | 1 => .int
  | _ => .int
def F_Kt : u_T := fun k => match k with
  | 0 => ("TopicDesk$KeptTopic", "text", "LTopicDesk$Text;", true)
  | _ => ("TopicDesk$KeptTopic", "value", "I", false)
def t_Kt : Nat → FieldType := fun k => match k with
  | 0 => .object "TopicDesk$Text"
  | _ => .int
def F_Shelf : u_T := fun k => match k with
  | 0 => ("TopicDesk$Shelf", "topics", "[LTopicDesk$KeptTopic;", true)
  | _ => ("TopicDesk$Shelf", "size", "I", false)
def t_Shelf : Nat → FieldType := fun k => match k with
  | 0 => .array (.object "TopicDesk$KeptTopic")
  | _ => .int
def F_Rs : u_T := fun k => match k with
  | 0 => ("TopicDesk$RowSearch", "waiting", "[I", true)
  | 1 => ("TopicDesk$RowSearch", "seen", "[J", true)
  | 2 => ("TopicDesk$RowSearch", "words", "[J", true)
  | 3 => ("TopicDesk$RowSearch", "waitingCount", "I", false)
  | _ => ("TopicDesk$RowSearch", "wordCount", "I", false)
def t_Rs : Nat → FieldType := fun k => match k with
  | 0 => .array .int
  | 1 => .array .long
  | 2 => .array .long
  | 3 => .int
  | _ => .int
def F_Mod : u_T := fun k => match k with
  | 0 => ("TopicDeskModel", "thrown", "I", false)
  | 1 => ("TopicDeskModel", "tape", "[I", true)
  | 2 => ("TopicDeskModel", "taped", "I", false)
  | 3 => ("TopicDeskModel", "fault", "I", false)
  | 4 => ("TopicDeskModel", "parts", "[J", true)
  | 5 => ("TopicDeskModel", "partMany", "I", false)
  | 6 => ("TopicDeskModel", "readLong", "I", false)
  | 7 => ("TopicDeskModel", "readText", "[I", true)
  | 8 => ("TopicDeskModel", "queue", "[I", true)
  | 9 => ("TopicDeskModel", "hits", "[I", true)
  | 10 => ("TopicDeskModel", "bound", "[J", true)
  | 11 => ("TopicDeskModel", "boundMany", "[I", true)
  | 12 => ("TopicDeskModel", "boundText", "[I", true)
  | 13 => ("TopicDeskModel", "boundLong", "[I", true)
  | 14 => ("TopicDeskModel", "keptMany", "I", false)
  | 15 => ("TopicDeskModel", "values", "[I", true)
  | 16 => ("TopicDeskModel", "topics", "[J", true)
  | 17 => ("TopicDeskModel", "topicMany", "[I", true)
  | 18 => ("TopicDeskModel", "topicText", "[I", true)
  | 19 => ("TopicDeskModel", "topicLong", "[I", true)
  | 20 => ("TopicDeskModel", "seen", "[I", true)
  | 21 => ("TopicDeskModel", "round", "I", false)
  | _ => ("TopicDeskModel", "row", "[I", true)
def t_Mod : Nat → FieldType := fun k => match k with
  | 0 => .int
  | 1 => .array .int
  | 2 => .int
  | 3 => .int
  | 4 => .array .long
  | 5 => .int
  | 6 => .int
  | 7 => .array .int
  | 8 => .array .int
  | 9 => .array .int
  | 10 => .array .long
  | 11 => .array .int
  | 12 => .array .int
  | 13 => .array .int
  | 14 => .int
  | 15 => .array .int
  | 16 => .array .long
  | 17 => .array .int
  | 18 => .array .int
  | 19 => .array .int
  | 20 => .array .int
  | 21 => .int
  | _ => .array .int
abbrev vwCl : List vw_C := [(R_Desk, F_Desk, 6), (R_Text, F_Text, 4), (R_Bnd, F_Bnd, 3), (R_Kt, F_Kt, 2), (R_Shelf, F_Shelf, 2), (R_Rs, F_Rs, 5), (R_Mod, F_Mod, 23)]
def BIG : List Cond := lw_tbl.filter goodWord
/-- what else of the tables a call hands on -/
def mX (U : State) : Prop := va_AO R_Bnd U ∧ va_AO R_Kt U
theorem mX.warm {s U : State} (hW : s.WarmedH U.vm) (h : mX s) : mX U := ⟨h.1.moved hW.alike, h.2.moved hW.alike⟩
theorem mX.calling {U : State} {g : JFrame} {mk : MethodId} {a : Array Value} (h : mX U) : mX (U.calling g mk a) := ⟨h.1.moved (Vm.Alike.refl U.vm), h.2.moved (Vm.Alike.refl U.vm)⟩
abbrev tysG (g : Nat → ClassId) : List (ClassId × FieldType) := [(g 0, .byte), (g 1, .long), (g 2, .int), (g 3, .object "TopicDesk$Binding"), (g 4, .object "TopicDesk$KeptTopic")]
