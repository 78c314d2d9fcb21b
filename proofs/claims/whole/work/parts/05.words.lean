abbrev b_Desk_init : ByteArray := prog_1_method_1_code
def y_Desk_init : MethodName := ⟨R_Desk, "<init>", "()V"⟩
abbrev b_Desk_type : ByteArray := prog_1_method_2_code
def y_Desk_type : MethodName := ⟨R_Desk, "type", "(JI)Z"⟩
abbrev b_Desk_bind : ByteArray := prog_1_method_3_code
def y_Desk_bind : MethodName := ⟨R_Desk, "bind", "(I)I"⟩
abbrev b_Desk_fault : ByteArray := prog_1_method_4_code
def y_Desk_fault : MethodName := ⟨R_Desk, "fault", "()I"⟩
abbrev b_Desk_free : ByteArray := prog_1_method_5_code
def y_Desk_free : MethodName := ⟨R_Desk, "free", "(I)Z"⟩
abbrev b_Desk_route : ByteArray := prog_1_method_6_code
def y_Desk_route : MethodName := ⟨R_Desk, "route", "()I"⟩
abbrev b_Desk_keep : ByteArray := prog_1_method_7_code
def y_Desk_keep : MethodName := ⟨R_Desk, "keep", "(I)I"⟩
abbrev b_Desk_lose : ByteArray := prog_1_method_8_code
def y_Desk_lose : MethodName := ⟨R_Desk, "lose", "()Z"⟩
abbrev b_Desk_about : ByteArray := prog_1_method_9_code
def y_Desk_about : MethodName := ⟨R_Desk, "about", "(II)I"⟩
abbrev b_Desk_kept : ByteArray := prog_1_method_10_code
def y_Desk_kept : MethodName := ⟨R_Desk, "kept", "(II)I"⟩
abbrev b_Desk_sign : ByteArray := prog_1_method_11_code
def y_Desk_sign : MethodName := ⟨R_Desk, "sign", "(II)I"⟩
abbrev b_Desk_both : ByteArray := prog_1_method_12_code
def y_Desk_both : MethodName := ⟨R_Desk, "both", "(II)I"⟩
abbrev b_Desk_only : ByteArray := prog_1_method_13_code
def y_Desk_only : MethodName := ⟨R_Desk, "only", "(II)I"⟩
abbrev b_Desk_spare : ByteArray := prog_1_method_14_code
def y_Desk_spare : MethodName := ⟨R_Desk, "spare", "(I)I"⟩
abbrev b_Desk_byteOf : ByteArray := prog_1_method_15_code
def y_Desk_byteOf : MethodName := ⟨R_Desk, "byteOf", "(JI)I"⟩
abbrev b_Desk_isQueue : ByteArray := prog_1_method_16_code
def y_Desk_isQueue : MethodName := ⟨R_Desk, "isQueue", "(I)Z"⟩
abbrev b_Desk_takeTape : ByteArray := prog_1_method_17_code
def y_Desk_takeTape : MethodName := ⟨R_Desk, "takeTape", "(Z)Z"⟩
abbrev b_Desk_leastFreeBinding : ByteArray := prog_1_method_18_code
def y_Desk_leastFreeBinding : MethodName := ⟨R_Desk, "leastFreeBinding", "()I"⟩
abbrev b_Desk_boundAt : ByteArray := prog_1_method_19_code
def y_Desk_boundAt : MethodName := ⟨R_Desk, "boundAt", "(I)LTopicDesk$Binding;"⟩
abbrev b_Desk_fewestWords : ByteArray := prog_1_method_20_code
def y_Desk_fewestWords : MethodName := ⟨R_Desk, "fewestWords", "(IIZ)I"⟩
abbrev b_Desk_isSpare : ByteArray := prog_1_method_21_code
def y_Desk_isSpare : MethodName := ⟨R_Desk, "isSpare", "(II)Z"⟩
abbrev b_Desk_isWithin : ByteArray := prog_1_method_22_code
def y_Desk_isWithin : MethodName := ⟨R_Desk, "isWithin", "(II)Z"⟩
abbrev b_Mod_init : ByteArray := prog_8_method_1_code
def y_Mod_init : MethodName := ⟨R_Mod, "<init>", "()V"⟩
abbrev b_Mod_thrown : ByteArray := prog_8_method_2_code
def y_Mod_thrown : MethodName := ⟨R_Mod, "thrown", "()I"⟩
abbrev b_Mod_raise : ByteArray := prog_8_method_3_code
def y_Mod_raise : MethodName := ⟨R_Mod, "raise", "(I)I"⟩
abbrev b_Mod_type : ByteArray := prog_8_method_4_code
def y_Mod_type : MethodName := ⟨R_Mod, "type", "(JI)Z"⟩
abbrev b_Mod_isSign : ByteArray := prog_8_method_5_code
def y_Mod_isSign : MethodName := ⟨R_Mod, "isSign", "(I)Z"⟩
abbrev b_Mod_reads : ByteArray := prog_8_method_6_code
def y_Mod_reads : MethodName := ⟨R_Mod, "reads", "(Z)Z"⟩
abbrev b_Mod_spread : ByteArray := prog_8_method_7_code
def y_Mod_spread : MethodName := ⟨R_Mod, "spread", "([JIII)I"⟩
abbrev b_Mod_move : ByteArray := prog_8_method_8_code
def y_Mod_move : MethodName := ⟨R_Mod, "move", "([JIIIJ)I"⟩
abbrev b_Mod_moved : ByteArray := prog_8_method_9_code
def y_Mod_moved : MethodName := ⟨R_Mod, "moved", "(IIJ)I"⟩
abbrev b_Mod_first : ByteArray := prog_8_method_10_code
def y_Mod_first : MethodName := ⟨R_Mod, "first", "(I)I"⟩
abbrev b_Mod_isEnd : ByteArray := prog_8_method_11_code
def y_Mod_isEnd : MethodName := ⟨R_Mod, "isEnd", "(II)Z"⟩
abbrev b_Mod_fits : ByteArray := prog_8_method_12_code
def y_Mod_fits : MethodName := ⟨R_Mod, "fits", "(I[JII)Z"⟩
abbrev b_Mod_isBinding : ByteArray := prog_8_method_13_code
def y_Mod_isBinding : MethodName := ⟨R_Mod, "isBinding", "(I)Z"⟩
abbrev b_Mod_isBound : ByteArray := prog_8_method_14_code
def y_Mod_isBound : MethodName := ⟨R_Mod, "isBound", "(I)Z"⟩
abbrev b_Mod_bind : ByteArray := prog_8_method_15_code
def y_Mod_bind : MethodName := ⟨R_Mod, "bind", "(I)I"⟩
abbrev b_Mod_fault : ByteArray := prog_8_method_16_code
def y_Mod_fault : MethodName := ⟨R_Mod, "fault", "()I"⟩
abbrev b_Mod_free : ByteArray := prog_8_method_17_code
def y_Mod_free : MethodName := ⟨R_Mod, "free", "(I)Z"⟩
abbrev b_Mod_route : ByteArray := prog_8_method_18_code
def y_Mod_route : MethodName := ⟨R_Mod, "route", "()I"⟩
abbrev b_Mod_found : ByteArray := prog_8_method_19_code
def y_Mod_found : MethodName := ⟨R_Mod, "found", "()I"⟩
abbrev b_Mod_keep : ByteArray := prog_8_method_20_code
def y_Mod_keep : MethodName := ⟨R_Mod, "keep", "(I)I"⟩
abbrev b_Mod_lose : ByteArray := prog_8_method_21_code
def y_Mod_lose : MethodName := ⟨R_Mod, "lose", "()Z"⟩
abbrev b_Mod_fitsKept : ByteArray := prog_8_method_22_code
def y_Mod_fitsKept : MethodName := ⟨R_Mod, "fitsKept", "(II)Z"⟩
abbrev b_Mod_about : ByteArray := prog_8_method_23_code
def y_Mod_about : MethodName := ⟨R_Mod, "about", "(II)I"⟩
abbrev b_Mod_isAhead : ByteArray := prog_8_method_24_code
def y_Mod_isAhead : MethodName := ⟨R_Mod, "isAhead", "(II)Z"⟩
abbrev b_Mod_kept : ByteArray := prog_8_method_25_code
def y_Mod_kept : MethodName := ⟨R_Mod, "kept", "(II)I"⟩
abbrev b_Mod_sign : ByteArray := prog_8_method_26_code
def y_Mod_sign : MethodName := ⟨R_Mod, "sign", "(II)I"⟩
abbrev b_Mod_fewest : ByteArray := prog_8_method_27_code
def y_Mod_fewest : MethodName := ⟨R_Mod, "fewest", "(IIZ)I"⟩
abbrev b_Mod_wordOf : ByteArray := prog_8_method_28_code
def y_Mod_wordOf : MethodName := ⟨R_Mod, "wordOf", "(III)J"⟩
abbrev b_Mod_both : ByteArray := prog_8_method_29_code
def y_Mod_both : MethodName := ⟨R_Mod, "both", "(II)I"⟩
abbrev b_Mod_only : ByteArray := prog_8_method_30_code
def y_Mod_only : MethodName := ⟨R_Mod, "only", "(II)I"⟩
abbrev b_Mod_spare : ByteArray := prog_8_method_31_code
def y_Mod_spare : MethodName := ⟨R_Mod, "spare", "(I)I"⟩
abbrev b_Bnd_init : ByteArray := prog_2_method_1_code
def y_Bnd_init : MethodName := ⟨R_Bnd, "<init>", "()V"⟩
abbrev b_Bnd_isBound : ByteArray := prog_2_method_2_code
def y_Bnd_isBound : MethodName := ⟨R_Bnd, "isBound", "()Z"⟩
abbrev b_Bnd_pattern : ByteArray := prog_2_method_3_code
def y_Bnd_pattern : MethodName := ⟨R_Bnd, "pattern", "()LTopicDesk$Text;"⟩
abbrev b_Bnd_queue : ByteArray := prog_2_method_4_code
def y_Bnd_queue : MethodName := ⟨R_Bnd, "queue", "()I"⟩
abbrev b_Bnd_routed : ByteArray := prog_2_method_5_code
def y_Bnd_routed : MethodName := ⟨R_Bnd, "routed", "()I"⟩
abbrev b_Bnd_tie : ByteArray := prog_2_method_6_code
def y_Bnd_tie : MethodName := ⟨R_Bnd, "tie", "(LTopicDesk$Text;I)V"⟩
abbrev b_Bnd_untie : ByteArray := prog_2_method_7_code
def y_Bnd_untie : MethodName := ⟨R_Bnd, "untie", "()V"⟩
abbrev b_Bnd_countRouted : ByteArray := prog_2_method_8_code
def y_Bnd_countRouted : MethodName := ⟨R_Bnd, "countRouted", "()V"⟩
abbrev b_Kt_init : ByteArray := prog_3_method_1_code
def y_Kt_init : MethodName := ⟨R_Kt, "<init>", "()V"⟩
abbrev b_Kt_text : ByteArray := prog_3_method_2_code
def y_Kt_text : MethodName := ⟨R_Kt, "text", "()LTopicDesk$Text;"⟩
abbrev b_Kt_value : ByteArray := prog_3_method_3_code
def y_Kt_value : MethodName := ⟨R_Kt, "value", "()I"⟩
abbrev b_Kt_setText : ByteArray := prog_3_method_4_code
def y_Kt_setText : MethodName := ⟨R_Kt, "setText", "(LTopicDesk$Text;)V"⟩
abbrev b_Kt_setValue : ByteArray := prog_3_method_5_code
def y_Kt_setValue : MethodName := ⟨R_Kt, "setValue", "(I)V"⟩
abbrev b_Rs_init : ByteArray := prog_4_method_1_code
def y_Rs_init : MethodName := ⟨R_Rs, "<init>", "()V"⟩
abbrev b_Rs_fewestWords : ByteArray := prog_4_method_2_code
def y_Rs_fewestWords : MethodName := ⟨R_Rs, "fewestWords", "(LTopicDesk$Text;LTopicDesk$Text;Z)I"⟩
abbrev b_Rs_collectWords : ByteArray := prog_4_method_3_code
def y_Rs_collectWords : MethodName := ⟨R_Rs, "collectWords", "(LTopicDesk$Text;LTopicDesk$Text;)V"⟩
abbrev b_Rs_addWord : ByteArray := prog_4_method_4_code
def y_Rs_addWord : MethodName := ⟨R_Rs, "addWord", "(J)V"⟩
abbrev b_Rs_addStates : ByteArray := prog_4_method_5_code
def y_Rs_addStates : MethodName := ⟨R_Rs, "addStates", "(III)V"⟩
abbrev b_Rs_addState : ByteArray := prog_4_method_6_code
def y_Rs_addState : MethodName := ⟨R_Rs, "addState", "(II)V"⟩
abbrev b_Shelf_init : ByteArray := prog_5_method_1_code
def y_Shelf_init : MethodName := ⟨R_Shelf, "<init>", "()V"⟩
abbrev b_Shelf_size : ByteArray := prog_5_method_2_code
def y_Shelf_size : MethodName := ⟨R_Shelf, "size", "()I"⟩
abbrev b_Shelf_put : ByteArray := prog_5_method_3_code
def y_Shelf_put : MethodName := ⟨R_Shelf, "put", "(LTopicDesk$Text;I)Z"⟩
abbrev b_Shelf_drop : ByteArray := prog_5_method_4_code
def y_Shelf_drop : MethodName := ⟨R_Shelf, "drop", "(LTopicDesk$Text;)Z"⟩
abbrev b_Shelf_countTakenBy : ByteArray := prog_5_method_5_code
def y_Shelf_countTakenBy : MethodName := ⟨R_Shelf, "countTakenBy", "(LTopicDesk$Text;)I"⟩
abbrev b_Shelf_takenBy : ByteArray := prog_5_method_6_code
def y_Shelf_takenBy : MethodName := ⟨R_Shelf, "takenBy", "(LTopicDesk$Text;I)LTopicDesk$KeptTopic;"⟩
abbrev b_Shelf_placeFor : ByteArray := prog_5_method_7_code
def y_Shelf_placeFor : MethodName := ⟨R_Shelf, "placeFor", "(LTopicDesk$Text;)I"⟩
abbrev b_Shelf_isAt : ByteArray := prog_5_method_8_code
def y_Shelf_isAt : MethodName := ⟨R_Shelf, "isAt", "(ILTopicDesk$Text;)Z"⟩
abbrev b_Shelf_move : ByteArray := prog_5_method_9_code
def y_Shelf_move : MethodName := ⟨R_Shelf, "move", "(II)V"⟩
abbrev b_Shelf_isPlace : ByteArray := prog_5_method_10_code
def y_Shelf_isPlace : MethodName := ⟨R_Shelf, "isPlace", "(I)Z"⟩
abbrev b_Text_init : ByteArray := prog_6_method_1_code
def y_Text_init : MethodName := ⟨R_Text, "<init>", "()V"⟩
abbrev b_Text_length : ByteArray := prog_6_method_2_code
def y_Text_length : MethodName := ⟨R_Text, "length", "()I"⟩
abbrev b_Text_partCount : ByteArray := prog_6_method_3_code
def y_Text_partCount : MethodName := ⟨R_Text, "partCount", "()I"⟩
abbrev b_Text_signAt : ByteArray := prog_6_method_4_code
def y_Text_signAt : MethodName := ⟨R_Text, "signAt", "(I)I"⟩
abbrev b_Text_partAt : ByteArray := prog_6_method_5_code
def y_Text_partAt : MethodName := ⟨R_Text, "partAt", "(I)J"⟩
abbrev b_Text_add : ByteArray := prog_6_method_6_code
def y_Text_add : MethodName := ⟨R_Text, "add", "(I)V"⟩
abbrev b_Text_clear : ByteArray := prog_6_method_7_code
def y_Text_clear : MethodName := ⟨R_Text, "clear", "()V"⟩
abbrev b_Text_copy : ByteArray := prog_6_method_8_code
def y_Text_copy : MethodName := ⟨R_Text, "copy", "(LTopicDesk$Text;)V"⟩
abbrev b_Text_read : ByteArray := prog_6_method_9_code
def y_Text_read : MethodName := ⟨R_Text, "read", "(Z)I"⟩
abbrev b_Text_compareSigns : ByteArray := prog_6_method_10_code
def y_Text_compareSigns : MethodName := ⟨R_Text, "compareSigns", "(LTopicDesk$Text;)I"⟩
abbrev b_Text_takes : ByteArray := prog_6_method_11_code
def y_Text_takes : MethodName := ⟨R_Text, "takes", "(LTopicDesk$Text;)Z"⟩
abbrev b_Text_startPlaces : ByteArray := prog_6_method_12_code
def y_Text_startPlaces : MethodName := ⟨R_Text, "startPlaces", "()I"⟩
abbrev b_Text_placesBehind : ByteArray := prog_6_method_13_code
def y_Text_placesBehind : MethodName := ⟨R_Text, "placesBehind", "(IJ)I"⟩
abbrev b_Text_hasEnd : ByteArray := prog_6_method_14_code
def y_Text_hasEnd : MethodName := ⟨R_Text, "hasEnd", "(I)Z"⟩
abbrev b_Text_addPart : ByteArray := prog_6_method_15_code
def y_Text_addPart : MethodName := ⟨R_Text, "addPart", "(J)V"⟩
abbrev b_Text_canStand : ByteArray := prog_6_method_16_code
def y_Text_canStand : MethodName := ⟨R_Text, "canStand", "(IIZ)Z"⟩
abbrev b_Text_isWild : ByteArray := prog_6_method_17_code
def y_Text_isWild : MethodName := ⟨R_Text, "isWild", "(I)Z"⟩
abbrev b_Text_isWordSign : ByteArray := prog_6_method_18_code
def y_Text_isWordSign : MethodName := ⟨R_Text, "isWordSign", "(I)Z"⟩
abbrev b_Law_bind : ByteArray := method_3_code
def y_Law_bind : MethodName := ⟨R_Law, "bind", "(LTopicDesk;I[J)I"⟩
abbrev b_Law_route : ByteArray := method_4_code
def y_Law_route : MethodName := ⟨R_Law, "route", "(LTopicDesk;[J)I"⟩
abbrev b_Law_keep : ByteArray := method_5_code
def y_Law_keep : MethodName := ⟨R_Law, "keep", "(LTopicDesk;I[J)I"⟩
abbrev b_Law_lose : ByteArray := method_6_code
def y_Law_lose : MethodName := ⟨R_Law, "lose", "(LTopicDesk;[J)I"⟩
abbrev b_Law_kept : ByteArray := method_7_code
def y_Law_kept : MethodName := ⟨R_Law, "kept", "(LTopicDesk;II[J)I"⟩
abbrev b_Arr_fill : ByteArray := prog_16_method_101_code
def y_Arr_fill : MethodName := ⟨R_Arr, "fill", "([JJ)V"⟩
theorem ok_Desk : clsOk vwCl BIG 0 R_Desk F_Desk 6 t_Desk := ⟨rfl, by decide +kernel, by decide +kernel, by decide +kernel⟩
theorem ok_Text : clsOk vwCl BIG 1 R_Text F_Text 4 t_Text := ⟨rfl, by decide +kernel, by decide +kernel, by decide +kernel⟩
theorem ok_Bnd : clsOk vwCl BIG 2 R_Bnd F_Bnd 3 t_Bnd := ⟨rfl, by decide +kernel, by decide +kernel, by decide +kernel⟩
theorem ok_Kt : clsOk vwCl BIG 3 R_Kt F_Kt 2 t_Kt := ⟨rfl, by decide +kernel, by decide +kernel, by decide +kernel⟩
theorem ok_Shelf : clsOk vwCl BIG 4 R_Shelf F_Shelf 2 t_Shelf := ⟨rfl, by decide +kernel, by decide +kernel, by decide +kernel⟩
theorem ok_Rs : clsOk vwCl BIG 5 R_Rs F_Rs 5 t_Rs := ⟨rfl, by decide +kernel, by decide +kernel, by decide +kernel⟩
theorem ok_Mod : clsOk vwCl BIG 6 R_Mod F_Mod 23 t_Mod := ⟨rfl, by decide +kernel, by decide +kernel, by decide +kernel⟩
theorem bigGood : goodAll BIG := fun w hw => good_of_word (List.mem_filter.mp hw).2
theorem kw0 : Cond.fieldLink R_Desk 40 "TopicDesk" "latestFault" "I" ∈ BIG := List.mem_filter.mpr ⟨List.mem_of_getElem? (i := 150) (by decide +kernel), rfl⟩
theorem kw1 : Cond.fieldLink R_Mod 24 "TopicDeskModel" "queue" "[I" ∈ BIG := List.mem_filter.mpr ⟨List.mem_of_getElem? (i := 565) (by decide +kernel), rfl⟩
theorem kw2 : Cond.methodLink R_Mod 1 objectInit ∈ BIG := List.mem_filter.mpr ⟨List.mem_of_getElem? (i := 556) (by decide +kernel), rfl⟩
theorem kw3 : Cond.instanceMethod objectInit ∈ BIG := List.mem_filter.mpr ⟨List.mem_of_getElem? (i := 51) (by decide +kernel), rfl⟩
theorem kw4 : Cond.code objectInit ⟨#[0xb1]⟩ 1 none ∈ BIG := List.mem_filter.mpr ⟨List.mem_of_getElem? (i := 52) (by decide +kernel), rfl⟩
theorem kw5 : Cond.arrayClass .int ∈ BIG := List.mem_filter.mpr ⟨List.mem_of_getElem? (i := 144) (by decide +kernel), rfl⟩
theorem kw6 : Cond.fieldLink R_Mod 7 "TopicDeskModel" "tape" "[I" ∈ BIG := List.mem_filter.mpr ⟨List.mem_of_getElem? (i := 558) (by decide +kernel), rfl⟩
theorem kw7 : Cond.fieldLink R_Mod 13 "TopicDeskModel" "fault" "I" ∈ BIG := List.mem_filter.mpr ⟨List.mem_of_getElem? (i := 560) (by decide +kernel), rfl⟩
theorem kw8 : Cond.arrayClass .long ∈ BIG := List.mem_filter.mpr ⟨List.mem_of_getElem? (i := 73) (by decide +kernel), rfl⟩
theorem kw9 : Cond.fieldLink R_Mod 17 "TopicDeskModel" "parts" "[J" ∈ BIG := List.mem_filter.mpr ⟨List.mem_of_getElem? (i := 561) (by decide +kernel), rfl⟩
theorem kw10 : Cond.fieldLink R_Mod 21 "TopicDeskModel" "readText" "[I" ∈ BIG := List.mem_filter.mpr ⟨List.mem_of_getElem? (i := 564) (by decide +kernel), rfl⟩
theorem kw11 : Cond.fieldLink R_Mod 27 "TopicDeskModel" "hits" "[I" ∈ BIG := List.mem_filter.mpr ⟨List.mem_of_getElem? (i := 566) (by decide +kernel), rfl⟩
theorem kw12 : Cond.fieldLink R_Mod 30 "TopicDeskModel" "bound" "[J" ∈ BIG := List.mem_filter.mpr ⟨List.mem_of_getElem? (i := 567) (by decide +kernel), rfl⟩
theorem kw13 : Cond.fieldLink R_Mod 33 "TopicDeskModel" "boundMany" "[I" ∈ BIG := List.mem_filter.mpr ⟨List.mem_of_getElem? (i := 568) (by decide +kernel), rfl⟩
theorem kw14 : Cond.fieldLink R_Mod 36 "TopicDeskModel" "boundText" "[I" ∈ BIG := List.mem_filter.mpr ⟨List.mem_of_getElem? (i := 569) (by decide +kernel), rfl⟩
theorem kw15 : Cond.fieldLink R_Mod 39 "TopicDeskModel" "boundLong" "[I" ∈ BIG := List.mem_filter.mpr ⟨List.mem_of_getElem? (i := 570) (by decide +kernel), rfl⟩
theorem kw16 : Cond.fieldLink R_Mod 42 "TopicDeskModel" "values" "[I" ∈ BIG := List.mem_filter.mpr ⟨List.mem_of_getElem? (i := 572) (by decide +kernel), rfl⟩
theorem kw17 : Cond.fieldLink R_Mod 45 "TopicDeskModel" "topics" "[J" ∈ BIG := List.mem_filter.mpr ⟨List.mem_of_getElem? (i := 573) (by decide +kernel), rfl⟩
theorem kw18 : Cond.fieldLink R_Mod 48 "TopicDeskModel" "topicMany" "[I" ∈ BIG := List.mem_filter.mpr ⟨List.mem_of_getElem? (i := 574) (by decide +kernel), rfl⟩
theorem kw19 : Cond.fieldLink R_Mod 51 "TopicDeskModel" "topicText" "[I" ∈ BIG := List.mem_filter.mpr ⟨List.mem_of_getElem? (i := 575) (by decide +kernel), rfl⟩
theorem kw20 : Cond.fieldLink R_Mod 54 "TopicDeskModel" "topicLong" "[I" ∈ BIG := List.mem_filter.mpr ⟨List.mem_of_getElem? (i := 576) (by decide +kernel), rfl⟩
theorem kw21 : Cond.fieldLink R_Mod 57 "TopicDeskModel" "seen" "[I" ∈ BIG := List.mem_filter.mpr ⟨List.mem_of_getElem? (i := 577) (by decide +kernel), rfl⟩
theorem kw22 : Cond.fieldLink R_Mod 60 "TopicDeskModel" "row" "[I" ∈ BIG := List.mem_filter.mpr ⟨List.mem_of_getElem? (i := 579) (by decide +kernel), rfl⟩
theorem kw23 : Cond.fieldLink R_Mod 63 "TopicDeskModel" "thrown" "I" ∈ BIG := List.mem_filter.mpr ⟨List.mem_of_getElem? (i := 557) (by decide +kernel), rfl⟩
theorem kw24 : Cond.fieldLink R_Mod 66 "TopicDeskModel" "taped" "I" ∈ BIG := List.mem_filter.mpr ⟨List.mem_of_getElem? (i := 559) (by decide +kernel), rfl⟩
theorem kw25 : Cond.constantLong R_Mod 69 (255 : Int64) ∈ BIG := List.mem_filter.mpr ⟨List.mem_of_getElem? (i := 635) (by decide +kernel), rfl⟩
theorem kw26 : Cond.fieldLink R_Mod 71 "TopicDeskModel" "partMany" "I" ∈ BIG := List.mem_filter.mpr ⟨List.mem_of_getElem? (i := 562) (by decide +kernel), rfl⟩
theorem kw27 : Cond.methodLink R_Mod 78 y_Mod_isSign ∈ BIG := List.mem_filter.mpr ⟨List.mem_of_getElem? (i := 646) (by decide +kernel), rfl⟩
theorem kw28 : Cond.code y_Mod_isSign b_Mod_isSign 1 (some .boolean) ∈ BIG := List.mem_filter.mpr ⟨List.mem_of_getElem? (i := 648) (by decide +kernel), rfl⟩
theorem kw29 : Cond.initialized R_Mod ∈ BIG := List.mem_filter.mpr ⟨List.mem_of_getElem? (i := 36) (by decide +kernel), rfl⟩
theorem kw30 : Cond.static y_Mod_isSign ∈ BIG := List.mem_filter.mpr ⟨List.mem_of_getElem? (i := 647) (by decide +kernel), rfl⟩
theorem kw31 : Cond.constantLong R_Mod 76 (-2 : Int64) ∈ BIG := List.mem_filter.mpr ⟨List.mem_of_getElem? (i := 645) (by decide +kernel), rfl⟩
theorem kw32 : Cond.constantLong R_Mod 74 (-1 : Int64) ∈ BIG := List.mem_filter.mpr ⟨List.mem_of_getElem? (i := 644) (by decide +kernel), rfl⟩
theorem kw33 : Cond.fieldLink R_Mod 82 "TopicDeskModel" "readLong" "I" ∈ BIG := List.mem_filter.mpr ⟨List.mem_of_getElem? (i := 563) (by decide +kernel), rfl⟩
theorem kw34 : Cond.methodLink R_Mod 85 y_Mod_spread ∈ BIG := List.mem_filter.mpr ⟨List.mem_of_getElem? (i := 680) (by decide +kernel), rfl⟩
theorem kw35 : Cond.code y_Mod_spread b_Mod_spread 6 (some .int) ∈ BIG := List.mem_filter.mpr ⟨List.mem_of_getElem? (i := 682) (by decide +kernel), rfl⟩
theorem kw36 : Cond.static y_Mod_spread ∈ BIG := List.mem_filter.mpr ⟨List.mem_of_getElem? (i := 681) (by decide +kernel), rfl⟩
theorem kw37 : Cond.methodLink R_Mod 89 y_Mod_move ∈ BIG := List.mem_filter.mpr ⟨List.mem_of_getElem? (i := 687) (by decide +kernel), rfl⟩
theorem kw38 : Cond.code y_Mod_move b_Mod_move 10 (some .int) ∈ BIG := List.mem_filter.mpr ⟨List.mem_of_getElem? (i := 689) (by decide +kernel), rfl⟩
theorem kw39 : Cond.static y_Mod_move ∈ BIG := List.mem_filter.mpr ⟨List.mem_of_getElem? (i := 688) (by decide +kernel), rfl⟩
theorem kw40 : Cond.methodLink R_Mod 101 y_Mod_isEnd ∈ BIG := List.mem_filter.mpr ⟨List.mem_of_getElem? (i := 690) (by decide +kernel), rfl⟩
theorem kw41 : Cond.code y_Mod_isEnd b_Mod_isEnd 3 (some .boolean) ∈ BIG := List.mem_filter.mpr ⟨List.mem_of_getElem? (i := 693) (by decide +kernel), rfl⟩
theorem kw42 : Cond.instanceMethod y_Mod_isEnd ∈ BIG := List.mem_filter.mpr ⟨List.mem_of_getElem? (i := 692) (by decide +kernel), rfl⟩
theorem kw43 : Cond.selects R_Mod y_Mod_isEnd y_Mod_isEnd ∈ BIG := List.mem_filter.mpr ⟨List.mem_of_getElem? (i := 23) (by decide +kernel), rfl⟩
theorem kw44 : Cond.methodLink R_Mod 97 y_Mod_moved ∈ BIG := List.mem_filter.mpr ⟨List.mem_of_getElem? (i := 683) (by decide +kernel), rfl⟩
theorem kw45 : Cond.code y_Mod_moved b_Mod_moved 5 (some .int) ∈ BIG := List.mem_filter.mpr ⟨List.mem_of_getElem? (i := 686) (by decide +kernel), rfl⟩
theorem kw46 : Cond.instanceMethod y_Mod_moved ∈ BIG := List.mem_filter.mpr ⟨List.mem_of_getElem? (i := 685) (by decide +kernel), rfl⟩
theorem kw47 : Cond.selects R_Mod y_Mod_moved y_Mod_moved ∈ BIG := List.mem_filter.mpr ⟨List.mem_of_getElem? (i := 22) (by decide +kernel), rfl⟩
theorem kw48 : Cond.methodLink R_Mod 93 y_Mod_first ∈ BIG := List.mem_filter.mpr ⟨List.mem_of_getElem? (i := 676) (by decide +kernel), rfl⟩
theorem kw49 : Cond.code y_Mod_first b_Mod_first 2 (some .int) ∈ BIG := List.mem_filter.mpr ⟨List.mem_of_getElem? (i := 679) (by decide +kernel), rfl⟩
theorem kw50 : Cond.instanceMethod y_Mod_first ∈ BIG := List.mem_filter.mpr ⟨List.mem_of_getElem? (i := 678) (by decide +kernel), rfl⟩
theorem kw51 : Cond.selects R_Mod y_Mod_first y_Mod_first ∈ BIG := List.mem_filter.mpr ⟨List.mem_of_getElem? (i := 21) (by decide +kernel), rfl⟩
theorem kw52 : Cond.methodLink R_Mod 105 y_Mod_isBinding ∈ BIG := List.mem_filter.mpr ⟨List.mem_of_getElem? (i := 665) (by decide +kernel), rfl⟩
theorem kw53 : Cond.code y_Mod_isBinding b_Mod_isBinding 1 (some .boolean) ∈ BIG := List.mem_filter.mpr ⟨List.mem_of_getElem? (i := 667) (by decide +kernel), rfl⟩
theorem kw54 : Cond.static y_Mod_isBinding ∈ BIG := List.mem_filter.mpr ⟨List.mem_of_getElem? (i := 666) (by decide +kernel), rfl⟩
theorem kw55 : Cond.methodLink R_Mod 112 y_Mod_raise ∈ BIG := List.mem_filter.mpr ⟨List.mem_of_getElem? (i := 649) (by decide +kernel), rfl⟩
theorem kw56 : Cond.code y_Mod_raise b_Mod_raise 2 (some .int) ∈ BIG := List.mem_filter.mpr ⟨List.mem_of_getElem? (i := 652) (by decide +kernel), rfl⟩
theorem kw57 : Cond.instanceMethod y_Mod_raise ∈ BIG := List.mem_filter.mpr ⟨List.mem_of_getElem? (i := 651) (by decide +kernel), rfl⟩
theorem kw58 : Cond.selects R_Mod y_Mod_raise y_Mod_raise ∈ BIG := List.mem_filter.mpr ⟨List.mem_of_getElem? (i := 18) (by decide +kernel), rfl⟩
theorem kw59 : Cond.methodLink R_Mod 108 y_Mod_reads ∈ BIG := List.mem_filter.mpr ⟨List.mem_of_getElem? (i := 640) (by decide +kernel), rfl⟩
theorem kw60 : Cond.code y_Mod_reads b_Mod_reads 8 (some .boolean) ∈ BIG := List.mem_filter.mpr ⟨List.mem_of_getElem? (i := 643) (by decide +kernel), rfl⟩
theorem kw61 : Cond.instanceMethod y_Mod_reads ∈ BIG := List.mem_filter.mpr ⟨List.mem_of_getElem? (i := 642) (by decide +kernel), rfl⟩
theorem kw62 : Cond.selects R_Mod y_Mod_reads y_Mod_reads ∈ BIG := List.mem_filter.mpr ⟨List.mem_of_getElem? (i := 17) (by decide +kernel), rfl⟩
theorem kw63 : Cond.methodLink R_Mod 115 y_Mod_isBound ∈ BIG := List.mem_filter.mpr ⟨List.mem_of_getElem? (i := 661) (by decide +kernel), rfl⟩
theorem kw64 : Cond.code y_Mod_isBound b_Mod_isBound 2 (some .boolean) ∈ BIG := List.mem_filter.mpr ⟨List.mem_of_getElem? (i := 664) (by decide +kernel), rfl⟩
theorem kw65 : Cond.instanceMethod y_Mod_isBound ∈ BIG := List.mem_filter.mpr ⟨List.mem_of_getElem? (i := 663) (by decide +kernel), rfl⟩
theorem kw66 : Cond.selects R_Mod y_Mod_isBound y_Mod_isBound ∈ BIG := List.mem_filter.mpr ⟨List.mem_of_getElem? (i := 19) (by decide +kernel), rfl⟩
theorem kw67 : Cond.methodLink R_Mod 118 y_Mod_fits ∈ BIG := List.mem_filter.mpr ⟨List.mem_of_getElem? (i := 672) (by decide +kernel), rfl⟩
theorem kw68 : Cond.code y_Mod_fits b_Mod_fits 7 (some .boolean) ∈ BIG := List.mem_filter.mpr ⟨List.mem_of_getElem? (i := 675) (by decide +kernel), rfl⟩
theorem kw69 : Cond.instanceMethod y_Mod_fits ∈ BIG := List.mem_filter.mpr ⟨List.mem_of_getElem? (i := 674) (by decide +kernel), rfl⟩
theorem kw70 : Cond.selects R_Mod y_Mod_fits y_Mod_fits ∈ BIG := List.mem_filter.mpr ⟨List.mem_of_getElem? (i := 20) (by decide +kernel), rfl⟩
theorem kw71 : Cond.fieldLink R_Mod 122 "TopicDeskModel" "keptMany" "I" ∈ BIG := List.mem_filter.mpr ⟨List.mem_of_getElem? (i := 571) (by decide +kernel), rfl⟩
theorem kw72 : Cond.methodLink R_Mod 125 y_Mod_found ∈ BIG := List.mem_filter.mpr ⟨List.mem_of_getElem? (i := 698) (by decide +kernel), rfl⟩
theorem kw73 : Cond.code y_Mod_found b_Mod_found 4 (some .int) ∈ BIG := List.mem_filter.mpr ⟨List.mem_of_getElem? (i := 701) (by decide +kernel), rfl⟩
theorem kw74 : Cond.instanceMethod y_Mod_found ∈ BIG := List.mem_filter.mpr ⟨List.mem_of_getElem? (i := 700) (by decide +kernel), rfl⟩
theorem kw75 : Cond.selects R_Mod y_Mod_found y_Mod_found ∈ BIG := List.mem_filter.mpr ⟨List.mem_of_getElem? (i := 24) (by decide +kernel), rfl⟩
theorem kw76 : Cond.methodLink R_Mod 129 y_Mod_fitsKept ∈ BIG := List.mem_filter.mpr ⟨List.mem_of_getElem? (i := 710) (by decide +kernel), rfl⟩
theorem kw77 : Cond.code y_Mod_fitsKept b_Mod_fitsKept 3 (some .boolean) ∈ BIG := List.mem_filter.mpr ⟨List.mem_of_getElem? (i := 713) (by decide +kernel), rfl⟩
theorem kw78 : Cond.instanceMethod y_Mod_fitsKept ∈ BIG := List.mem_filter.mpr ⟨List.mem_of_getElem? (i := 712) (by decide +kernel), rfl⟩
theorem kw79 : Cond.selects R_Mod y_Mod_fitsKept y_Mod_fitsKept ∈ BIG := List.mem_filter.mpr ⟨List.mem_of_getElem? (i := 25) (by decide +kernel), rfl⟩
theorem kw80 : Cond.methodLink R_Mod 132 y_Mod_isAhead ∈ BIG := List.mem_filter.mpr ⟨List.mem_of_getElem? (i := 718) (by decide +kernel), rfl⟩
theorem kw81 : Cond.code y_Mod_isAhead b_Mod_isAhead 4 (some .boolean) ∈ BIG := List.mem_filter.mpr ⟨List.mem_of_getElem? (i := 721) (by decide +kernel), rfl⟩
theorem kw82 : Cond.instanceMethod y_Mod_isAhead ∈ BIG := List.mem_filter.mpr ⟨List.mem_of_getElem? (i := 720) (by decide +kernel), rfl⟩
theorem kw83 : Cond.selects R_Mod y_Mod_isAhead y_Mod_isAhead ∈ BIG := List.mem_filter.mpr ⟨List.mem_of_getElem? (i := 26) (by decide +kernel), rfl⟩
theorem kw84 : Cond.fieldLink R_Bnd 18 "TopicDesk$Binding" "queue" "I" ∈ BIG := List.mem_filter.mpr ⟨List.mem_of_getElem? (i := 84) (by decide +kernel), rfl⟩
theorem kw85 : Cond.fieldLink R_Bnd 12 "TopicDesk$Binding" "pattern" "LTopicDesk$Text;" ∈ BIG := List.mem_filter.mpr ⟨List.mem_of_getElem? (i := 83) (by decide +kernel), rfl⟩
theorem kw86 : Cond.fieldLink R_Bnd 22 "TopicDesk$Binding" "routed" "I" ∈ BIG := List.mem_filter.mpr ⟨List.mem_of_getElem? (i := 85) (by decide +kernel), rfl⟩
theorem kw87 : Cond.fieldLink R_Kt 10 "TopicDesk$KeptTopic" "text" "LTopicDesk$Text;" ∈ BIG := List.mem_filter.mpr ⟨List.mem_of_getElem? (i := 108) (by decide +kernel), rfl⟩
theorem kw88 : Cond.fieldLink R_Kt 16 "TopicDesk$KeptTopic" "value" "I" ∈ BIG := List.mem_filter.mpr ⟨List.mem_of_getElem? (i := 109) (by decide +kernel), rfl⟩
theorem kw89 : Cond.methodLink R_Rs 5 objectInit ∈ BIG := List.mem_filter.mpr ⟨List.mem_of_getElem? (i := 127) (by decide +kernel), rfl⟩
theorem kw90 : Cond.fieldLink R_Rs 11 "TopicDesk$RowSearch" "waiting" "[I" ∈ BIG := List.mem_filter.mpr ⟨List.mem_of_getElem? (i := 128) (by decide +kernel), rfl⟩
theorem kw91 : Cond.fieldLink R_Rs 15 "TopicDesk$RowSearch" "seen" "[J" ∈ BIG := List.mem_filter.mpr ⟨List.mem_of_getElem? (i := 129) (by decide +kernel), rfl⟩
theorem kw92 : Cond.fieldLink R_Rs 19 "TopicDesk$RowSearch" "words" "[J" ∈ BIG := List.mem_filter.mpr ⟨List.mem_of_getElem? (i := 130) (by decide +kernel), rfl⟩
theorem kw93 : Cond.fieldLink R_Rs 22 "TopicDesk$RowSearch" "waitingCount" "I" ∈ BIG := List.mem_filter.mpr ⟨List.mem_of_getElem? (i := 131) (by decide +kernel), rfl⟩
theorem kw94 : Cond.fieldLink R_Rs 26 "TopicDesk$RowSearch" "wordCount" "I" ∈ BIG := List.mem_filter.mpr ⟨List.mem_of_getElem? (i := 132) (by decide +kernel), rfl⟩
theorem kw95 : Cond.constantLong R_Rs 68 (42 : Int64) ∈ BIG := List.mem_filter.mpr ⟨List.mem_of_getElem? (i := 273) (by decide +kernel), rfl⟩
theorem kw96 : Cond.constantLong R_Rs 70 (35 : Int64) ∈ BIG := List.mem_filter.mpr ⟨List.mem_of_getElem? (i := 274) (by decide +kernel), rfl⟩
theorem kw97 : Cond.fieldLink R_Shelf 18 "TopicDesk$Shelf" "size" "I" ∈ BIG := List.mem_filter.mpr ⟨List.mem_of_getElem? (i := 116) (by decide +kernel), rfl⟩
theorem kw98 : Cond.fieldLink R_Shelf 11 "TopicDesk$Shelf" "topics" "[LTopicDesk$KeptTopic;" ∈ BIG := List.mem_filter.mpr ⟨List.mem_of_getElem? (i := 115) (by decide +kernel), rfl⟩
theorem kw99 : Cond.methodLink R_Text 3 objectInit ∈ BIG := List.mem_filter.mpr ⟨List.mem_of_getElem? (i := 58) (by decide +kernel), rfl⟩
theorem kw100 : Cond.arrayClass .byte ∈ BIG := List.mem_filter.mpr ⟨List.mem_of_getElem? (i := 72) (by decide +kernel), rfl⟩
theorem kw101 : Cond.fieldLink R_Text 9 "TopicDesk$Text" "signs" "[B" ∈ BIG := List.mem_filter.mpr ⟨List.mem_of_getElem? (i := 59) (by decide +kernel), rfl⟩
theorem kw102 : Cond.fieldLink R_Text 15 "TopicDesk$Text" "parts" "[J" ∈ BIG := List.mem_filter.mpr ⟨List.mem_of_getElem? (i := 60) (by decide +kernel), rfl⟩
theorem kw103 : Cond.fieldLink R_Text 19 "TopicDesk$Text" "length" "I" ∈ BIG := List.mem_filter.mpr ⟨List.mem_of_getElem? (i := 61) (by decide +kernel), rfl⟩
theorem kw104 : Cond.fieldLink R_Text 23 "TopicDesk$Text" "partCount" "I" ∈ BIG := List.mem_filter.mpr ⟨List.mem_of_getElem? (i := 62) (by decide +kernel), rfl⟩
theorem kw105 : Cond.methodLink R_Text 29 y_Text_signAt ∈ BIG := List.mem_filter.mpr ⟨List.mem_of_getElem? (i := 334) (by decide +kernel), rfl⟩
theorem kw106 : Cond.code y_Text_signAt b_Text_signAt 2 (some .int) ∈ BIG := List.mem_filter.mpr ⟨List.mem_of_getElem? (i := 252) (by decide +kernel), rfl⟩
theorem kw107 : Cond.initialized R_Text ∈ BIG := List.mem_filter.mpr ⟨List.mem_of_getElem? (i := 31) (by decide +kernel), rfl⟩
theorem kw108 : Cond.instanceMethod y_Text_signAt ∈ BIG := List.mem_filter.mpr ⟨List.mem_of_getElem? (i := 250) (by decide +kernel), rfl⟩
theorem kw109 : Cond.selects R_Text y_Text_signAt y_Text_signAt ∈ BIG := List.mem_filter.mpr ⟨List.mem_of_getElem? (i := 251) (by decide +kernel), rfl⟩
theorem kw110 : Cond.methodLink R_Text 53 Lib.Math.min.name ∈ BIG := List.mem_filter.mpr ⟨List.mem_of_getElem? (i := 479) (by decide +kernel), rfl⟩
theorem kw111 : Cond.static Lib.Math.min.name ∈ BIG := List.mem_filter.mpr ⟨List.mem_of_getElem? (i := 480) (by decide +kernel), rfl⟩
theorem kw112 : Cond.initialized "java/lang/Math" ∈ BIG := List.mem_filter.mpr ⟨List.mem_of_getElem? (i := 42) (by decide +kernel), rfl⟩
theorem kw113 : Cond.code Lib.Math.min.name Lib.Math.min.code 2 (some .int) ∈ BIG := List.mem_filter.mpr ⟨List.mem_of_getElem? (i := 481) (by decide +kernel), rfl⟩
theorem kw114 : Cond.methodLink R_Text 37 y_Text_partAt ∈ BIG := List.mem_filter.mpr ⟨List.mem_of_getElem? (i := 231) (by decide +kernel), rfl⟩
theorem kw115 : Cond.code y_Text_partAt b_Text_partAt 2 (some .long) ∈ BIG := List.mem_filter.mpr ⟨List.mem_of_getElem? (i := 234) (by decide +kernel), rfl⟩
theorem kw116 : Cond.instanceMethod y_Text_partAt ∈ BIG := List.mem_filter.mpr ⟨List.mem_of_getElem? (i := 232) (by decide +kernel), rfl⟩
theorem kw117 : Cond.selects R_Text y_Text_partAt y_Text_partAt ∈ BIG := List.mem_filter.mpr ⟨List.mem_of_getElem? (i := 233) (by decide +kernel), rfl⟩
theorem kw118 : Cond.constantLong R_Text 70 (35 : Int64) ∈ BIG := List.mem_filter.mpr ⟨List.mem_of_getElem? (i := 235) (by decide +kernel), rfl⟩
theorem kw119 : Cond.constantLong R_Text 72 (42 : Int64) ∈ BIG := List.mem_filter.mpr ⟨List.mem_of_getElem? (i := 240) (by decide +kernel), rfl⟩
theorem kw120 : Cond.fieldLink R_Desk 10 "TopicDesk" "tape" "LTopicDesk$Text;" ∈ BIG := List.mem_filter.mpr ⟨List.mem_of_getElem? (i := 145) (by decide +kernel), rfl⟩
theorem kw121 : Cond.methodLink R_Desk 48 y_Desk_byteOf ∈ BIG := List.mem_filter.mpr ⟨List.mem_of_getElem? (i := 172) (by decide +kernel), rfl⟩
theorem kw122 : Cond.code y_Desk_byteOf b_Desk_byteOf 3 (some .int) ∈ BIG := List.mem_filter.mpr ⟨List.mem_of_getElem? (i := 174) (by decide +kernel), rfl⟩
theorem kw123 : Cond.initialized R_Desk ∈ BIG := List.mem_filter.mpr ⟨List.mem_of_getElem? (i := 30) (by decide +kernel), rfl⟩
theorem kw124 : Cond.static y_Desk_byteOf ∈ BIG := List.mem_filter.mpr ⟨List.mem_of_getElem? (i := 173) (by decide +kernel), rfl⟩
theorem kw125 : Cond.methodLink R_Desk 52 y_Text_add ∈ BIG := List.mem_filter.mpr ⟨List.mem_of_getElem? (i := 175) (by decide +kernel), rfl⟩
theorem kw126 : Cond.code y_Text_add b_Text_add 2 none ∈ BIG := List.mem_filter.mpr ⟨List.mem_of_getElem? (i := 178) (by decide +kernel), rfl⟩
theorem kw127 : Cond.instanceMethod y_Text_add ∈ BIG := List.mem_filter.mpr ⟨List.mem_of_getElem? (i := 176) (by decide +kernel), rfl⟩
theorem kw128 : Cond.selects R_Text y_Text_add y_Text_add ∈ BIG := List.mem_filter.mpr ⟨List.mem_of_getElem? (i := 177) (by decide +kernel), rfl⟩
theorem kw129 : Cond.methodLink R_Desk 44 y_Text_length ∈ BIG := List.mem_filter.mpr ⟨List.mem_of_getElem? (i := 168) (by decide +kernel), rfl⟩
theorem kw130 : Cond.code y_Text_length b_Text_length 1 (some .int) ∈ BIG := List.mem_filter.mpr ⟨List.mem_of_getElem? (i := 171) (by decide +kernel), rfl⟩
theorem kw131 : Cond.instanceMethod y_Text_length ∈ BIG := List.mem_filter.mpr ⟨List.mem_of_getElem? (i := 169) (by decide +kernel), rfl⟩
theorem kw132 : Cond.selects R_Text y_Text_length y_Text_length ∈ BIG := List.mem_filter.mpr ⟨List.mem_of_getElem? (i := 170) (by decide +kernel), rfl⟩
theorem kw133 : Cond.fieldLink R_Desk 21 "TopicDesk" "bindings" "[LTopicDesk$Binding;" ∈ BIG := List.mem_filter.mpr ⟨List.mem_of_getElem? (i := 147) (by decide +kernel), rfl⟩
theorem kw134 : Cond.methodLink R_Desk 92 y_Bnd_isBound ∈ BIG := List.mem_filter.mpr ⟨List.mem_of_getElem? (i := 191) (by decide +kernel), rfl⟩
theorem kw135 : Cond.code y_Bnd_isBound b_Bnd_isBound 1 (some .boolean) ∈ BIG := List.mem_filter.mpr ⟨List.mem_of_getElem? (i := 194) (by decide +kernel), rfl⟩
theorem kw136 : Cond.initialized R_Bnd ∈ BIG := List.mem_filter.mpr ⟨List.mem_of_getElem? (i := 32) (by decide +kernel), rfl⟩
theorem kw137 : Cond.instanceMethod y_Bnd_isBound ∈ BIG := List.mem_filter.mpr ⟨List.mem_of_getElem? (i := 192) (by decide +kernel), rfl⟩
theorem kw138 : Cond.selects R_Bnd y_Bnd_isBound y_Bnd_isBound ∈ BIG := List.mem_filter.mpr ⟨List.mem_of_getElem? (i := 193) (by decide +kernel), rfl⟩
theorem kw139 : Cond.fieldLink R_Mod 135 "TopicDeskModel" "round" "I" ∈ BIG := List.mem_filter.mpr ⟨List.mem_of_getElem? (i := 578) (by decide +kernel), rfl⟩
theorem kw140 : Cond.methodLink R_Mod 138 y_Mod_wordOf ∈ BIG := List.mem_filter.mpr ⟨List.mem_of_getElem? (i := 734) (by decide +kernel), rfl⟩
theorem kw141 : Cond.code y_Mod_wordOf b_Mod_wordOf 5 (some .long) ∈ BIG := List.mem_filter.mpr ⟨List.mem_of_getElem? (i := 737) (by decide +kernel), rfl⟩
theorem kw142 : Cond.instanceMethod y_Mod_wordOf ∈ BIG := List.mem_filter.mpr ⟨List.mem_of_getElem? (i := 736) (by decide +kernel), rfl⟩
theorem kw143 : Cond.selects R_Mod y_Mod_wordOf y_Mod_wordOf ∈ BIG := List.mem_filter.mpr ⟨List.mem_of_getElem? (i := 28) (by decide +kernel), rfl⟩
theorem kw144 : Cond.methodLink R_Mod 142 y_Mod_fewest ∈ BIG := List.mem_filter.mpr ⟨List.mem_of_getElem? (i := 730) (by decide +kernel), rfl⟩
theorem kw145 : Cond.code y_Mod_fewest b_Mod_fewest 13 (some .int) ∈ BIG := List.mem_filter.mpr ⟨List.mem_of_getElem? (i := 733) (by decide +kernel), rfl⟩
theorem kw146 : Cond.instanceMethod y_Mod_fewest ∈ BIG := List.mem_filter.mpr ⟨List.mem_of_getElem? (i := 732) (by decide +kernel), rfl⟩
theorem kw147 : Cond.selects R_Mod y_Mod_fewest y_Mod_fewest ∈ BIG := List.mem_filter.mpr ⟨List.mem_of_getElem? (i := 27) (by decide +kernel), rfl⟩
theorem kw148 : Cond.methodLink R_Bnd 3 objectInit ∈ BIG := List.mem_filter.mpr ⟨List.mem_of_getElem? (i := 80) (by decide +kernel), rfl⟩
theorem kw149 : Cond.classLink R_Bnd 9 R_Text ∈ BIG := List.mem_filter.mpr ⟨List.mem_of_getElem? (i := 81) (by decide +kernel), rfl⟩
theorem kw150 : Cond.instantiable R_Text 4 ∈ BIG := List.mem_filter.mpr ⟨List.mem_of_getElem? (i := 54) (by decide +kernel), rfl⟩
theorem kw151 : Cond.methodLink R_Bnd 11 y_Text_init ∈ BIG := List.mem_filter.mpr ⟨List.mem_of_getElem? (i := 82) (by decide +kernel), rfl⟩
theorem kw152 : Cond.code y_Text_init b_Text_init 1 none ∈ BIG := List.mem_filter.mpr ⟨List.mem_of_getElem? (i := 57) (by decide +kernel), rfl⟩
theorem kw153 : Cond.instanceMethod y_Text_init ∈ BIG := List.mem_filter.mpr ⟨List.mem_of_getElem? (i := 56) (by decide +kernel), rfl⟩
theorem kw154 : Cond.methodLink R_Kt 1 objectInit ∈ BIG := List.mem_filter.mpr ⟨List.mem_of_getElem? (i := 105) (by decide +kernel), rfl⟩
theorem kw155 : Cond.classLink R_Kt 7 R_Text ∈ BIG := List.mem_filter.mpr ⟨List.mem_of_getElem? (i := 106) (by decide +kernel), rfl⟩
theorem kw156 : Cond.methodLink R_Kt 9 y_Text_init ∈ BIG := List.mem_filter.mpr ⟨List.mem_of_getElem? (i := 107) (by decide +kernel), rfl⟩
theorem kw157 : Cond.methodLink R_Rs 61 y_Text_partCount ∈ BIG := List.mem_filter.mpr ⟨List.mem_of_getElem? (i := 275) (by decide +kernel), rfl⟩
theorem kw158 : Cond.code y_Text_partCount b_Text_partCount 1 (some .int) ∈ BIG := List.mem_filter.mpr ⟨List.mem_of_getElem? (i := 278) (by decide +kernel), rfl⟩
theorem kw159 : Cond.instanceMethod y_Text_partCount ∈ BIG := List.mem_filter.mpr ⟨List.mem_of_getElem? (i := 276) (by decide +kernel), rfl⟩
theorem kw160 : Cond.selects R_Text y_Text_partCount y_Text_partCount ∈ BIG := List.mem_filter.mpr ⟨List.mem_of_getElem? (i := 277) (by decide +kernel), rfl⟩
theorem kw161 : Cond.methodLink R_Rs 64 y_Text_partAt ∈ BIG := List.mem_filter.mpr ⟨List.mem_of_getElem? (i := 279) (by decide +kernel), rfl⟩
theorem kw162 : Cond.methodLink R_Rs 57 y_Rs_addWord ∈ BIG := List.mem_filter.mpr ⟨List.mem_of_getElem? (i := 269) (by decide +kernel), rfl⟩
theorem kw163 : Cond.code y_Rs_addWord b_Rs_addWord 5 none ∈ BIG := List.mem_filter.mpr ⟨List.mem_of_getElem? (i := 272) (by decide +kernel), rfl⟩
theorem kw164 : Cond.initialized R_Rs ∈ BIG := List.mem_filter.mpr ⟨List.mem_of_getElem? (i := 35) (by decide +kernel), rfl⟩
theorem kw165 : Cond.instanceMethod y_Rs_addWord ∈ BIG := List.mem_filter.mpr ⟨List.mem_of_getElem? (i := 271) (by decide +kernel), rfl⟩
theorem kw166 : Cond.selects R_Rs y_Rs_addWord y_Rs_addWord ∈ BIG := List.mem_filter.mpr ⟨List.mem_of_getElem? (i := 3) (by decide +kernel), rfl⟩
theorem kw167 : Cond.methodLink R_Rs 72 y_Rs_addState ∈ BIG := List.mem_filter.mpr ⟨List.mem_of_getElem? (i := 288) (by decide +kernel), rfl⟩
theorem kw168 : Cond.code y_Rs_addState b_Rs_addState 6 none ∈ BIG := List.mem_filter.mpr ⟨List.mem_of_getElem? (i := 291) (by decide +kernel), rfl⟩
theorem kw169 : Cond.instanceMethod y_Rs_addState ∈ BIG := List.mem_filter.mpr ⟨List.mem_of_getElem? (i := 290) (by decide +kernel), rfl⟩
theorem kw170 : Cond.selects R_Rs y_Rs_addState y_Rs_addState ∈ BIG := List.mem_filter.mpr ⟨List.mem_of_getElem? (i := 5) (by decide +kernel), rfl⟩
theorem kw171 : Cond.classLink R_Shelf 9 R_Kt ∈ BIG := List.mem_filter.mpr ⟨List.mem_of_getElem? (i := 99) (by decide +kernel), rfl⟩
theorem kw172 : Cond.instantiable R_Kt 2 ∈ BIG := List.mem_filter.mpr ⟨List.mem_of_getElem? (i := 101) (by decide +kernel), rfl⟩
theorem kw173 : Cond.initialized R_Kt ∈ BIG := List.mem_filter.mpr ⟨List.mem_of_getElem? (i := 34) (by decide +kernel), rfl⟩
theorem kw174 : Cond.methodLink R_Shelf 17 y_Kt_init ∈ BIG := List.mem_filter.mpr ⟨List.mem_of_getElem? (i := 102) (by decide +kernel), rfl⟩
theorem kw175 : Cond.code y_Kt_init b_Kt_init 1 none ∈ BIG := List.mem_filter.mpr ⟨List.mem_of_getElem? (i := 104) (by decide +kernel), rfl⟩
theorem kw176 : Cond.instanceMethod y_Kt_init ∈ BIG := List.mem_filter.mpr ⟨List.mem_of_getElem? (i := 103) (by decide +kernel), rfl⟩
theorem kw177 : Cond.methodLink R_Shelf 3 objectInit ∈ BIG := List.mem_filter.mpr ⟨List.mem_of_getElem? (i := 98) (by decide +kernel), rfl⟩
theorem kw178 : Cond.methodLink R_Shelf 42 y_Kt_text ∈ BIG := List.mem_filter.mpr ⟨List.mem_of_getElem? (i := 219) (by decide +kernel), rfl⟩
theorem kw179 : Cond.code y_Kt_text b_Kt_text 1 (some (.object "TopicDesk$Text")) ∈ BIG := List.mem_filter.mpr ⟨List.mem_of_getElem? (i := 222) (by decide +kernel), rfl⟩
theorem kw180 : Cond.instanceMethod y_Kt_text ∈ BIG := List.mem_filter.mpr ⟨List.mem_of_getElem? (i := 220) (by decide +kernel), rfl⟩
theorem kw181 : Cond.selects R_Kt y_Kt_text y_Kt_text ∈ BIG := List.mem_filter.mpr ⟨List.mem_of_getElem? (i := 221) (by decide +kernel), rfl⟩
theorem kw182 : Cond.methodLink R_Shelf 52 y_Text_compareSigns ∈ BIG := List.mem_filter.mpr ⟨List.mem_of_getElem? (i := 475) (by decide +kernel), rfl⟩
theorem kw183 : Cond.code y_Text_compareSigns b_Text_compareSigns 5 (some .int) ∈ BIG := List.mem_filter.mpr ⟨List.mem_of_getElem? (i := 478) (by decide +kernel), rfl⟩
theorem kw184 : Cond.instanceMethod y_Text_compareSigns ∈ BIG := List.mem_filter.mpr ⟨List.mem_of_getElem? (i := 476) (by decide +kernel), rfl⟩
theorem kw185 : Cond.selects R_Text y_Text_compareSigns y_Text_compareSigns ∈ BIG := List.mem_filter.mpr ⟨List.mem_of_getElem? (i := 477) (by decide +kernel), rfl⟩
theorem kw186 : Cond.methodLink R_Shelf 55 y_Shelf_isPlace ∈ BIG := List.mem_filter.mpr ⟨List.mem_of_getElem? (i := 490) (by decide +kernel), rfl⟩
theorem kw187 : Cond.code y_Shelf_isPlace b_Shelf_isPlace 2 (some .boolean) ∈ BIG := List.mem_filter.mpr ⟨List.mem_of_getElem? (i := 493) (by decide +kernel), rfl⟩
theorem kw188 : Cond.initialized R_Shelf ∈ BIG := List.mem_filter.mpr ⟨List.mem_of_getElem? (i := 33) (by decide +kernel), rfl⟩
theorem kw189 : Cond.instanceMethod y_Shelf_isPlace ∈ BIG := List.mem_filter.mpr ⟨List.mem_of_getElem? (i := 492) (by decide +kernel), rfl⟩
theorem kw190 : Cond.selects R_Shelf y_Shelf_isPlace y_Shelf_isPlace ∈ BIG := List.mem_filter.mpr ⟨List.mem_of_getElem? (i := 16) (by decide +kernel), rfl⟩
theorem kw191 : Cond.methodLink R_Text 41 y_Text_addPart ∈ BIG := List.mem_filter.mpr ⟨List.mem_of_getElem? (i := 336) (by decide +kernel), rfl⟩
theorem kw192 : Cond.code y_Text_addPart b_Text_addPart 3 none ∈ BIG := List.mem_filter.mpr ⟨List.mem_of_getElem? (i := 339) (by decide +kernel), rfl⟩
theorem kw193 : Cond.instanceMethod y_Text_addPart ∈ BIG := List.mem_filter.mpr ⟨List.mem_of_getElem? (i := 338) (by decide +kernel), rfl⟩
theorem kw194 : Cond.selects R_Text y_Text_addPart y_Text_addPart ∈ BIG := List.mem_filter.mpr ⟨List.mem_of_getElem? (i := 9) (by decide +kernel), rfl⟩
theorem kw195 : Cond.methodLink R_Text 33 y_Text_add ∈ BIG := List.mem_filter.mpr ⟨List.mem_of_getElem? (i := 335) (by decide +kernel), rfl⟩
theorem kw196 : Cond.methodLink R_Text 26 y_Text_clear ∈ BIG := List.mem_filter.mpr ⟨List.mem_of_getElem? (i := 330) (by decide +kernel), rfl⟩
theorem kw197 : Cond.code y_Text_clear b_Text_clear 1 none ∈ BIG := List.mem_filter.mpr ⟨List.mem_of_getElem? (i := 333) (by decide +kernel), rfl⟩
theorem kw198 : Cond.instanceMethod y_Text_clear ∈ BIG := List.mem_filter.mpr ⟨List.mem_of_getElem? (i := 331) (by decide +kernel), rfl⟩
theorem kw199 : Cond.selects R_Text y_Text_clear y_Text_clear ∈ BIG := List.mem_filter.mpr ⟨List.mem_of_getElem? (i := 332) (by decide +kernel), rfl⟩
theorem kw200 : Cond.methodLink R_Text 67 y_Text_hasEnd ∈ BIG := List.mem_filter.mpr ⟨List.mem_of_getElem? (i := 241) (by decide +kernel), rfl⟩
theorem kw201 : Cond.code y_Text_hasEnd b_Text_hasEnd 2 (some .boolean) ∈ BIG := List.mem_filter.mpr ⟨List.mem_of_getElem? (i := 244) (by decide +kernel), rfl⟩
theorem kw202 : Cond.instanceMethod y_Text_hasEnd ∈ BIG := List.mem_filter.mpr ⟨List.mem_of_getElem? (i := 242) (by decide +kernel), rfl⟩
theorem kw203 : Cond.selects R_Text y_Text_hasEnd y_Text_hasEnd ∈ BIG := List.mem_filter.mpr ⟨List.mem_of_getElem? (i := 243) (by decide +kernel), rfl⟩
theorem kw204 : Cond.methodLink R_Text 63 y_Text_placesBehind ∈ BIG := List.mem_filter.mpr ⟨List.mem_of_getElem? (i := 236) (by decide +kernel), rfl⟩
theorem kw205 : Cond.code y_Text_placesBehind b_Text_placesBehind 9 (some .int) ∈ BIG := List.mem_filter.mpr ⟨List.mem_of_getElem? (i := 239) (by decide +kernel), rfl⟩
theorem kw206 : Cond.instanceMethod y_Text_placesBehind ∈ BIG := List.mem_filter.mpr ⟨List.mem_of_getElem? (i := 237) (by decide +kernel), rfl⟩
theorem kw207 : Cond.selects R_Text y_Text_placesBehind y_Text_placesBehind ∈ BIG := List.mem_filter.mpr ⟨List.mem_of_getElem? (i := 238) (by decide +kernel), rfl⟩
theorem kw208 : Cond.methodLink R_Text 59 y_Text_startPlaces ∈ BIG := List.mem_filter.mpr ⟨List.mem_of_getElem? (i := 227) (by decide +kernel), rfl⟩
theorem kw209 : Cond.code y_Text_startPlaces b_Text_startPlaces 3 (some .int) ∈ BIG := List.mem_filter.mpr ⟨List.mem_of_getElem? (i := 230) (by decide +kernel), rfl⟩
theorem kw210 : Cond.instanceMethod y_Text_startPlaces ∈ BIG := List.mem_filter.mpr ⟨List.mem_of_getElem? (i := 228) (by decide +kernel), rfl⟩
theorem kw211 : Cond.selects R_Text y_Text_startPlaces y_Text_startPlaces ∈ BIG := List.mem_filter.mpr ⟨List.mem_of_getElem? (i := 229) (by decide +kernel), rfl⟩
theorem kw212 : Cond.methodLink R_Text 49 y_Text_isWild ∈ BIG := List.mem_filter.mpr ⟨List.mem_of_getElem? (i := 349) (by decide +kernel), rfl⟩
theorem kw213 : Cond.code y_Text_isWild b_Text_isWild 1 (some .boolean) ∈ BIG := List.mem_filter.mpr ⟨List.mem_of_getElem? (i := 351) (by decide +kernel), rfl⟩
theorem kw214 : Cond.static y_Text_isWild ∈ BIG := List.mem_filter.mpr ⟨List.mem_of_getElem? (i := 350) (by decide +kernel), rfl⟩
theorem kw215 : Cond.methodLink R_Text 74 y_Text_isWordSign ∈ BIG := List.mem_filter.mpr ⟨List.mem_of_getElem? (i := 352) (by decide +kernel), rfl⟩
theorem kw216 : Cond.code y_Text_isWordSign b_Text_isWordSign 1 (some .boolean) ∈ BIG := List.mem_filter.mpr ⟨List.mem_of_getElem? (i := 354) (by decide +kernel), rfl⟩
theorem kw217 : Cond.static y_Text_isWordSign ∈ BIG := List.mem_filter.mpr ⟨List.mem_of_getElem? (i := 353) (by decide +kernel), rfl⟩
theorem kw218 : Cond.classLink R_Desk 26 R_Shelf ∈ BIG := List.mem_filter.mpr ⟨List.mem_of_getElem? (i := 93) (by decide +kernel), rfl⟩
theorem kw219 : Cond.instantiable R_Shelf 2 ∈ BIG := List.mem_filter.mpr ⟨List.mem_of_getElem? (i := 94) (by decide +kernel), rfl⟩
theorem kw220 : Cond.methodLink R_Desk 28 y_Shelf_init ∈ BIG := List.mem_filter.mpr ⟨List.mem_of_getElem? (i := 95) (by decide +kernel), rfl⟩
theorem kw221 : Cond.code y_Shelf_init b_Shelf_init 2 none ∈ BIG := List.mem_filter.mpr ⟨List.mem_of_getElem? (i := 97) (by decide +kernel), rfl⟩
theorem kw222 : Cond.instanceMethod y_Shelf_init ∈ BIG := List.mem_filter.mpr ⟨List.mem_of_getElem? (i := 96) (by decide +kernel), rfl⟩
theorem kw223 : Cond.fieldLink R_Desk 29 "TopicDesk" "shelf" "LTopicDesk$Shelf;" ∈ BIG := List.mem_filter.mpr ⟨List.mem_of_getElem? (i := 148) (by decide +kernel), rfl⟩
theorem kw224 : Cond.classLink R_Desk 33 R_Rs ∈ BIG := List.mem_filter.mpr ⟨List.mem_of_getElem? (i := 122) (by decide +kernel), rfl⟩
theorem kw225 : Cond.instantiable R_Rs 5 ∈ BIG := List.mem_filter.mpr ⟨List.mem_of_getElem? (i := 123) (by decide +kernel), rfl⟩
theorem kw226 : Cond.methodLink R_Desk 35 y_Rs_init ∈ BIG := List.mem_filter.mpr ⟨List.mem_of_getElem? (i := 124) (by decide +kernel), rfl⟩
theorem kw227 : Cond.code y_Rs_init b_Rs_init 1 none ∈ BIG := List.mem_filter.mpr ⟨List.mem_of_getElem? (i := 126) (by decide +kernel), rfl⟩
theorem kw228 : Cond.instanceMethod y_Rs_init ∈ BIG := List.mem_filter.mpr ⟨List.mem_of_getElem? (i := 125) (by decide +kernel), rfl⟩
theorem kw229 : Cond.fieldLink R_Desk 36 "TopicDesk" "search" "LTopicDesk$RowSearch;" ∈ BIG := List.mem_filter.mpr ⟨List.mem_of_getElem? (i := 149) (by decide +kernel), rfl⟩
theorem kw230 : Cond.classLink R_Desk 19 R_Bnd ∈ BIG := List.mem_filter.mpr ⟨List.mem_of_getElem? (i := 74) (by decide +kernel), rfl⟩
theorem kw231 : Cond.instantiable R_Bnd 3 ∈ BIG := List.mem_filter.mpr ⟨List.mem_of_getElem? (i := 76) (by decide +kernel), rfl⟩
theorem kw232 : Cond.methodLink R_Desk 25 y_Bnd_init ∈ BIG := List.mem_filter.mpr ⟨List.mem_of_getElem? (i := 77) (by decide +kernel), rfl⟩
theorem kw233 : Cond.code y_Bnd_init b_Bnd_init 1 none ∈ BIG := List.mem_filter.mpr ⟨List.mem_of_getElem? (i := 79) (by decide +kernel), rfl⟩
theorem kw234 : Cond.instanceMethod y_Bnd_init ∈ BIG := List.mem_filter.mpr ⟨List.mem_of_getElem? (i := 78) (by decide +kernel), rfl⟩
theorem kw235 : Cond.methodLink R_Desk 1 objectInit ∈ BIG := List.mem_filter.mpr ⟨List.mem_of_getElem? (i := 50) (by decide +kernel), rfl⟩
theorem kw236 : Cond.classLink R_Desk 7 R_Text ∈ BIG := List.mem_filter.mpr ⟨List.mem_of_getElem? (i := 53) (by decide +kernel), rfl⟩
theorem kw237 : Cond.methodLink R_Desk 9 y_Text_init ∈ BIG := List.mem_filter.mpr ⟨List.mem_of_getElem? (i := 55) (by decide +kernel), rfl⟩
theorem kw238 : Cond.fieldLink R_Desk 16 "TopicDesk" "taken" "LTopicDesk$Text;" ∈ BIG := List.mem_filter.mpr ⟨List.mem_of_getElem? (i := 146) (by decide +kernel), rfl⟩
theorem kw239 : Cond.methodLink R_Desk 83 y_Desk_boundAt ∈ BIG := List.mem_filter.mpr ⟨List.mem_of_getElem? (i := 187) (by decide +kernel), rfl⟩
theorem kw240 : Cond.code y_Desk_boundAt b_Desk_boundAt 2 (some (.object "TopicDesk$Binding")) ∈ BIG := List.mem_filter.mpr ⟨List.mem_of_getElem? (i := 190) (by decide +kernel), rfl⟩
theorem kw241 : Cond.instanceMethod y_Desk_boundAt ∈ BIG := List.mem_filter.mpr ⟨List.mem_of_getElem? (i := 189) (by decide +kernel), rfl⟩
theorem kw242 : Cond.selects R_Desk y_Desk_boundAt y_Desk_boundAt ∈ BIG := List.mem_filter.mpr ⟨List.mem_of_getElem? (i := 0) (by decide +kernel), rfl⟩
theorem kw243 : Cond.methodLink R_Desk 87 y_Bnd_untie ∈ BIG := List.mem_filter.mpr ⟨List.mem_of_getElem? (i := 195) (by decide +kernel), rfl⟩
theorem kw244 : Cond.code y_Bnd_untie b_Bnd_untie 1 none ∈ BIG := List.mem_filter.mpr ⟨List.mem_of_getElem? (i := 198) (by decide +kernel), rfl⟩
theorem kw245 : Cond.instanceMethod y_Bnd_untie ∈ BIG := List.mem_filter.mpr ⟨List.mem_of_getElem? (i := 196) (by decide +kernel), rfl⟩
theorem kw246 : Cond.selects R_Bnd y_Bnd_untie y_Bnd_untie ∈ BIG := List.mem_filter.mpr ⟨List.mem_of_getElem? (i := 197) (by decide +kernel), rfl⟩
theorem kw247 : Cond.methodLink R_Desk 96 y_Bnd_pattern ∈ BIG := List.mem_filter.mpr ⟨List.mem_of_getElem? (i := 211) (by decide +kernel), rfl⟩
theorem kw248 : Cond.code y_Bnd_pattern b_Bnd_pattern 1 (some (.object "TopicDesk$Text")) ∈ BIG := List.mem_filter.mpr ⟨List.mem_of_getElem? (i := 214) (by decide +kernel), rfl⟩
theorem kw249 : Cond.instanceMethod y_Bnd_pattern ∈ BIG := List.mem_filter.mpr ⟨List.mem_of_getElem? (i := 212) (by decide +kernel), rfl⟩
theorem kw250 : Cond.selects R_Bnd y_Bnd_pattern y_Bnd_pattern ∈ BIG := List.mem_filter.mpr ⟨List.mem_of_getElem? (i := 213) (by decide +kernel), rfl⟩
theorem kw251 : Cond.methodLink R_Desk 143 y_Text_signAt ∈ BIG := List.mem_filter.mpr ⟨List.mem_of_getElem? (i := 249) (by decide +kernel), rfl⟩
theorem kw252 : Cond.methodLink R_Bnd 25 y_Text_copy ∈ BIG := List.mem_filter.mpr ⟨List.mem_of_getElem? (i := 446) (by decide +kernel), rfl⟩
theorem kw253 : Cond.code y_Text_copy b_Text_copy 3 none ∈ BIG := List.mem_filter.mpr ⟨List.mem_of_getElem? (i := 329) (by decide +kernel), rfl⟩
theorem kw254 : Cond.instanceMethod y_Text_copy ∈ BIG := List.mem_filter.mpr ⟨List.mem_of_getElem? (i := 327) (by decide +kernel), rfl⟩
theorem kw255 : Cond.selects R_Text y_Text_copy y_Text_copy ∈ BIG := List.mem_filter.mpr ⟨List.mem_of_getElem? (i := 328) (by decide +kernel), rfl⟩
theorem kw256 : Cond.methodLink R_Kt 20 y_Text_copy ∈ BIG := List.mem_filter.mpr ⟨List.mem_of_getElem? (i := 498) (by decide +kernel), rfl⟩
theorem kw257 : Cond.methodLink R_Rs 45 y_Rs_addStates ∈ BIG := List.mem_filter.mpr ⟨List.mem_of_getElem? (i := 284) (by decide +kernel), rfl⟩
theorem kw258 : Cond.code y_Rs_addStates b_Rs_addStates 5 none ∈ BIG := List.mem_filter.mpr ⟨List.mem_of_getElem? (i := 287) (by decide +kernel), rfl⟩
theorem kw259 : Cond.instanceMethod y_Rs_addStates ∈ BIG := List.mem_filter.mpr ⟨List.mem_of_getElem? (i := 286) (by decide +kernel), rfl⟩
theorem kw260 : Cond.selects R_Rs y_Rs_addStates y_Rs_addStates ∈ BIG := List.mem_filter.mpr ⟨List.mem_of_getElem? (i := 4) (by decide +kernel), rfl⟩
theorem kw261 : Cond.methodLink R_Rs 49 y_Text_placesBehind ∈ BIG := List.mem_filter.mpr ⟨List.mem_of_getElem? (i := 292) (by decide +kernel), rfl⟩
theorem kw262 : Cond.methodLink R_Rs 53 y_Text_hasEnd ∈ BIG := List.mem_filter.mpr ⟨List.mem_of_getElem? (i := 293) (by decide +kernel), rfl⟩
theorem kw263 : Cond.methodLink R_Rs 29 y_Rs_collectWords ∈ BIG := List.mem_filter.mpr ⟨List.mem_of_getElem? (i := 265) (by decide +kernel), rfl⟩
theorem kw264 : Cond.code y_Rs_collectWords b_Rs_collectWords 4 none ∈ BIG := List.mem_filter.mpr ⟨List.mem_of_getElem? (i := 268) (by decide +kernel), rfl⟩
theorem kw265 : Cond.instanceMethod y_Rs_collectWords ∈ BIG := List.mem_filter.mpr ⟨List.mem_of_getElem? (i := 267) (by decide +kernel), rfl⟩
theorem kw266 : Cond.selects R_Rs y_Rs_collectWords y_Rs_collectWords ∈ BIG := List.mem_filter.mpr ⟨List.mem_of_getElem? (i := 2) (by decide +kernel), rfl⟩
theorem kw267 : Cond.methodLink R_Rs 33 y_Arr_fill ∈ BIG := List.mem_filter.mpr ⟨List.mem_of_getElem? (i := 280) (by decide +kernel), rfl⟩
theorem kw268 : Cond.code y_Arr_fill b_Arr_fill 5 none ∈ BIG := List.mem_filter.mpr ⟨List.mem_of_getElem? (i := 282) (by decide +kernel), rfl⟩
theorem kw269 : Cond.initialized R_Arr ∈ BIG := List.mem_filter.mpr ⟨List.mem_of_getElem? (i := 44) (by decide +kernel), rfl⟩
theorem kw270 : Cond.static y_Arr_fill ∈ BIG := List.mem_filter.mpr ⟨List.mem_of_getElem? (i := 281) (by decide +kernel), rfl⟩
theorem kw271 : Cond.methodLink R_Rs 39 y_Text_startPlaces ∈ BIG := List.mem_filter.mpr ⟨List.mem_of_getElem? (i := 283) (by decide +kernel), rfl⟩
theorem kw272 : Cond.methodLink R_Shelf 38 y_Kt_setValue ∈ BIG := List.mem_filter.mpr ⟨List.mem_of_getElem? (i := 499) (by decide +kernel), rfl⟩
theorem kw273 : Cond.code y_Kt_setValue b_Kt_setValue 2 none ∈ BIG := List.mem_filter.mpr ⟨List.mem_of_getElem? (i := 502) (by decide +kernel), rfl⟩
theorem kw274 : Cond.instanceMethod y_Kt_setValue ∈ BIG := List.mem_filter.mpr ⟨List.mem_of_getElem? (i := 500) (by decide +kernel), rfl⟩
theorem kw275 : Cond.selects R_Kt y_Kt_setValue y_Kt_setValue ∈ BIG := List.mem_filter.mpr ⟨List.mem_of_getElem? (i := 501) (by decide +kernel), rfl⟩
theorem kw276 : Cond.methodLink R_Shelf 30 y_Shelf_move ∈ BIG := List.mem_filter.mpr ⟨List.mem_of_getElem? (i := 486) (by decide +kernel), rfl⟩
theorem kw277 : Cond.code y_Shelf_move b_Shelf_move 5 none ∈ BIG := List.mem_filter.mpr ⟨List.mem_of_getElem? (i := 489) (by decide +kernel), rfl⟩
theorem kw278 : Cond.instanceMethod y_Shelf_move ∈ BIG := List.mem_filter.mpr ⟨List.mem_of_getElem? (i := 488) (by decide +kernel), rfl⟩
theorem kw279 : Cond.selects R_Shelf y_Shelf_move y_Shelf_move ∈ BIG := List.mem_filter.mpr ⟨List.mem_of_getElem? (i := 15) (by decide +kernel), rfl⟩
theorem kw280 : Cond.methodLink R_Shelf 34 y_Kt_setText ∈ BIG := List.mem_filter.mpr ⟨List.mem_of_getElem? (i := 494) (by decide +kernel), rfl⟩
theorem kw281 : Cond.code y_Kt_setText b_Kt_setText 2 none ∈ BIG := List.mem_filter.mpr ⟨List.mem_of_getElem? (i := 497) (by decide +kernel), rfl⟩
theorem kw282 : Cond.instanceMethod y_Kt_setText ∈ BIG := List.mem_filter.mpr ⟨List.mem_of_getElem? (i := 495) (by decide +kernel), rfl⟩
theorem kw283 : Cond.selects R_Kt y_Kt_setText y_Kt_setText ∈ BIG := List.mem_filter.mpr ⟨List.mem_of_getElem? (i := 496) (by decide +kernel), rfl⟩
theorem kw284 : Cond.methodLink R_Shelf 22 y_Shelf_placeFor ∈ BIG := List.mem_filter.mpr ⟨List.mem_of_getElem? (i := 471) (by decide +kernel), rfl⟩
theorem kw285 : Cond.code y_Shelf_placeFor b_Shelf_placeFor 3 (some .int) ∈ BIG := List.mem_filter.mpr ⟨List.mem_of_getElem? (i := 474) (by decide +kernel), rfl⟩
theorem kw286 : Cond.instanceMethod y_Shelf_placeFor ∈ BIG := List.mem_filter.mpr ⟨List.mem_of_getElem? (i := 473) (by decide +kernel), rfl⟩
theorem kw287 : Cond.selects R_Shelf y_Shelf_placeFor y_Shelf_placeFor ∈ BIG := List.mem_filter.mpr ⟨List.mem_of_getElem? (i := 13) (by decide +kernel), rfl⟩
theorem kw288 : Cond.methodLink R_Shelf 26 y_Shelf_isAt ∈ BIG := List.mem_filter.mpr ⟨List.mem_of_getElem? (i := 482) (by decide +kernel), rfl⟩
theorem kw289 : Cond.code y_Shelf_isAt b_Shelf_isAt 3 (some .boolean) ∈ BIG := List.mem_filter.mpr ⟨List.mem_of_getElem? (i := 485) (by decide +kernel), rfl⟩
theorem kw290 : Cond.instanceMethod y_Shelf_isAt ∈ BIG := List.mem_filter.mpr ⟨List.mem_of_getElem? (i := 484) (by decide +kernel), rfl⟩
theorem kw291 : Cond.selects R_Shelf y_Shelf_isAt y_Shelf_isAt ∈ BIG := List.mem_filter.mpr ⟨List.mem_of_getElem? (i := 14) (by decide +kernel), rfl⟩
theorem kw292 : Cond.methodLink R_Shelf 46 y_Text_takes ∈ BIG := List.mem_filter.mpr ⟨List.mem_of_getElem? (i := 223) (by decide +kernel), rfl⟩
theorem kw293 : Cond.code y_Text_takes b_Text_takes 4 (some .boolean) ∈ BIG := List.mem_filter.mpr ⟨List.mem_of_getElem? (i := 226) (by decide +kernel), rfl⟩
theorem kw294 : Cond.instanceMethod y_Text_takes ∈ BIG := List.mem_filter.mpr ⟨List.mem_of_getElem? (i := 224) (by decide +kernel), rfl⟩
theorem kw295 : Cond.selects R_Text y_Text_takes y_Text_takes ∈ BIG := List.mem_filter.mpr ⟨List.mem_of_getElem? (i := 225) (by decide +kernel), rfl⟩
theorem kw296 : Cond.methodLink R_Text 45 y_Text_canStand ∈ BIG := List.mem_filter.mpr ⟨List.mem_of_getElem? (i := 345) (by decide +kernel), rfl⟩
theorem kw297 : Cond.code y_Text_canStand b_Text_canStand 4 (some .boolean) ∈ BIG := List.mem_filter.mpr ⟨List.mem_of_getElem? (i := 348) (by decide +kernel), rfl⟩
theorem kw298 : Cond.instanceMethod y_Text_canStand ∈ BIG := List.mem_filter.mpr ⟨List.mem_of_getElem? (i := 347) (by decide +kernel), rfl⟩
theorem kw299 : Cond.selects R_Text y_Text_canStand y_Text_canStand ∈ BIG := List.mem_filter.mpr ⟨List.mem_of_getElem? (i := 10) (by decide +kernel), rfl⟩
theorem kw300 : Cond.methodLink R_Desk 107 y_Bnd_queue ∈ BIG := List.mem_filter.mpr ⟨List.mem_of_getElem? (i := 203) (by decide +kernel), rfl⟩
theorem kw301 : Cond.code y_Bnd_queue b_Bnd_queue 1 (some .int) ∈ BIG := List.mem_filter.mpr ⟨List.mem_of_getElem? (i := 206) (by decide +kernel), rfl⟩
theorem kw302 : Cond.instanceMethod y_Bnd_queue ∈ BIG := List.mem_filter.mpr ⟨List.mem_of_getElem? (i := 204) (by decide +kernel), rfl⟩
theorem kw303 : Cond.selects R_Bnd y_Bnd_queue y_Bnd_queue ∈ BIG := List.mem_filter.mpr ⟨List.mem_of_getElem? (i := 205) (by decide +kernel), rfl⟩
theorem kw304 : Cond.methodLink R_Desk 122 y_Bnd_routed ∈ BIG := List.mem_filter.mpr ⟨List.mem_of_getElem? (i := 207) (by decide +kernel), rfl⟩
theorem kw305 : Cond.code y_Bnd_routed b_Bnd_routed 1 (some .int) ∈ BIG := List.mem_filter.mpr ⟨List.mem_of_getElem? (i := 210) (by decide +kernel), rfl⟩
theorem kw306 : Cond.instanceMethod y_Bnd_routed ∈ BIG := List.mem_filter.mpr ⟨List.mem_of_getElem? (i := 208) (by decide +kernel), rfl⟩
theorem kw307 : Cond.selects R_Bnd y_Bnd_routed y_Bnd_routed ∈ BIG := List.mem_filter.mpr ⟨List.mem_of_getElem? (i := 209) (by decide +kernel), rfl⟩
theorem kw308 : Cond.methodLink R_Desk 125 y_Shelf_countTakenBy ∈ BIG := List.mem_filter.mpr ⟨List.mem_of_getElem? (i := 215) (by decide +kernel), rfl⟩
theorem kw309 : Cond.code y_Shelf_countTakenBy b_Shelf_countTakenBy 4 (some .int) ∈ BIG := List.mem_filter.mpr ⟨List.mem_of_getElem? (i := 218) (by decide +kernel), rfl⟩
theorem kw310 : Cond.instanceMethod y_Shelf_countTakenBy ∈ BIG := List.mem_filter.mpr ⟨List.mem_of_getElem? (i := 216) (by decide +kernel), rfl⟩
theorem kw311 : Cond.selects R_Shelf y_Shelf_countTakenBy y_Shelf_countTakenBy ∈ BIG := List.mem_filter.mpr ⟨List.mem_of_getElem? (i := 217) (by decide +kernel), rfl⟩
theorem kw312 : Cond.classLink R_Desk 133 "java/util/NoSuchElementException" ∈ BIG := List.mem_filter.mpr ⟨List.mem_of_getElem? (i := 531) (by decide +kernel), rfl⟩
theorem kw313 : Cond.instantiable "java/util/NoSuchElementException" 6 ∈ BIG := List.mem_filter.mpr ⟨List.mem_of_getElem? (i := 532) (by decide +kernel), rfl⟩
theorem kw314 : Cond.initialized "java/util/NoSuchElementException" ∈ BIG := List.mem_filter.mpr ⟨List.mem_of_getElem? (i := 43) (by decide +kernel), rfl⟩
theorem kw315 : Cond.methodLink R_Desk 138 y_Kt_value ∈ BIG := List.mem_filter.mpr ⟨List.mem_of_getElem? (i := 547) (by decide +kernel), rfl⟩
theorem kw316 : Cond.code y_Kt_value b_Kt_value 1 (some .int) ∈ BIG := List.mem_filter.mpr ⟨List.mem_of_getElem? (i := 550) (by decide +kernel), rfl⟩
theorem kw317 : Cond.instanceMethod y_Kt_value ∈ BIG := List.mem_filter.mpr ⟨List.mem_of_getElem? (i := 548) (by decide +kernel), rfl⟩
theorem kw318 : Cond.selects R_Kt y_Kt_value y_Kt_value ∈ BIG := List.mem_filter.mpr ⟨List.mem_of_getElem? (i := 549) (by decide +kernel), rfl⟩
theorem kw319 : Cond.methodLink R_Desk 129 y_Shelf_takenBy ∈ BIG := List.mem_filter.mpr ⟨List.mem_of_getElem? (i := 527) (by decide +kernel), rfl⟩
theorem kw320 : Cond.code y_Shelf_takenBy b_Shelf_takenBy 5 (some (.object "TopicDesk$KeptTopic")) ∈ BIG := List.mem_filter.mpr ⟨List.mem_of_getElem? (i := 530) (by decide +kernel), rfl⟩
theorem kw321 : Cond.instanceMethod y_Shelf_takenBy ∈ BIG := List.mem_filter.mpr ⟨List.mem_of_getElem? (i := 528) (by decide +kernel), rfl⟩
theorem kw322 : Cond.selects R_Shelf y_Shelf_takenBy y_Shelf_takenBy ∈ BIG := List.mem_filter.mpr ⟨List.mem_of_getElem? (i := 529) (by decide +kernel), rfl⟩
theorem kw323 : Cond.methodLink R_Desk 155 y_Text_copy ∈ BIG := List.mem_filter.mpr ⟨List.mem_of_getElem? (i := 326) (by decide +kernel), rfl⟩
theorem kw324 : Cond.methodLink R_Desk 159 y_Text_clear ∈ BIG := List.mem_filter.mpr ⟨List.mem_of_getElem? (i := 340) (by decide +kernel), rfl⟩
theorem kw325 : Cond.methodLink R_Desk 162 y_Text_read ∈ BIG := List.mem_filter.mpr ⟨List.mem_of_getElem? (i := 341) (by decide +kernel), rfl⟩
theorem kw326 : Cond.code y_Text_read b_Text_read 7 (some .int) ∈ BIG := List.mem_filter.mpr ⟨List.mem_of_getElem? (i := 344) (by decide +kernel), rfl⟩
theorem kw327 : Cond.instanceMethod y_Text_read ∈ BIG := List.mem_filter.mpr ⟨List.mem_of_getElem? (i := 342) (by decide +kernel), rfl⟩
theorem kw328 : Cond.selects R_Text y_Text_read y_Text_read ∈ BIG := List.mem_filter.mpr ⟨List.mem_of_getElem? (i := 343) (by decide +kernel), rfl⟩
theorem kw329 : Cond.methodLink R_Desk 166 y_Rs_fewestWords ∈ BIG := List.mem_filter.mpr ⟨List.mem_of_getElem? (i := 261) (by decide +kernel), rfl⟩
theorem kw330 : Cond.code y_Rs_fewestWords b_Rs_fewestWords 10 (some .int) ∈ BIG := List.mem_filter.mpr ⟨List.mem_of_getElem? (i := 264) (by decide +kernel), rfl⟩
theorem kw331 : Cond.instanceMethod y_Rs_fewestWords ∈ BIG := List.mem_filter.mpr ⟨List.mem_of_getElem? (i := 262) (by decide +kernel), rfl⟩
theorem kw332 : Cond.selects R_Rs y_Rs_fewestWords y_Rs_fewestWords ∈ BIG := List.mem_filter.mpr ⟨List.mem_of_getElem? (i := 263) (by decide +kernel), rfl⟩
theorem kw333 : Cond.methodLink R_Desk 147 y_Desk_fewestWords ∈ BIG := List.mem_filter.mpr ⟨List.mem_of_getElem? (i := 257) (by decide +kernel), rfl⟩
theorem kw334 : Cond.code y_Desk_fewestWords b_Desk_fewestWords 6 (some .int) ∈ BIG := List.mem_filter.mpr ⟨List.mem_of_getElem? (i := 260) (by decide +kernel), rfl⟩
theorem kw335 : Cond.instanceMethod y_Desk_fewestWords ∈ BIG := List.mem_filter.mpr ⟨List.mem_of_getElem? (i := 259) (by decide +kernel), rfl⟩
theorem kw336 : Cond.selects R_Desk y_Desk_fewestWords y_Desk_fewestWords ∈ BIG := List.mem_filter.mpr ⟨List.mem_of_getElem? (i := 1) (by decide +kernel), rfl⟩
theorem kw337 : Cond.methodLink R_Law 28 y_Desk_kept ∈ BIG := List.mem_filter.mpr ⟨List.mem_of_getElem? (i := 523) (by decide +kernel), rfl⟩
theorem kw338 : Cond.code y_Desk_kept b_Desk_kept 5 (some .int) ∈ BIG := List.mem_filter.mpr ⟨List.mem_of_getElem? (i := 526) (by decide +kernel), rfl⟩
theorem kw339 : Cond.instanceMethod y_Desk_kept ∈ BIG := List.mem_filter.mpr ⟨List.mem_of_getElem? (i := 524) (by decide +kernel), rfl⟩
theorem kw340 : Cond.selects R_Desk y_Desk_kept y_Desk_kept ∈ BIG := List.mem_filter.mpr ⟨List.mem_of_getElem? (i := 525) (by decide +kernel), rfl⟩
theorem kw341 : Cond.classLink R_Law 32 "java/util/NoSuchElementException" ∈ BIG := List.mem_filter.mpr ⟨List.mem_of_getElem? (i := 522) (by decide +kernel), rfl⟩
theorem kw342 : Cond.classLink R_Desk 74 "java/lang/IllegalStateException" ∈ BIG := List.mem_filter.mpr ⟨List.mem_of_getElem? (i := 426) (by decide +kernel), rfl⟩
theorem kw343 : Cond.instantiable "java/lang/IllegalStateException" 6 ∈ BIG := List.mem_filter.mpr ⟨List.mem_of_getElem? (i := 427) (by decide +kernel), rfl⟩
theorem kw344 : Cond.initialized "java/lang/IllegalStateException" ∈ BIG := List.mem_filter.mpr ⟨List.mem_of_getElem? (i := 41) (by decide +kernel), rfl⟩
theorem kw345 : Cond.classLink R_Desk 64 "java/lang/IllegalArgumentException" ∈ BIG := List.mem_filter.mpr ⟨List.mem_of_getElem? (i := 355) (by decide +kernel), rfl⟩
theorem kw346 : Cond.instantiable "java/lang/IllegalArgumentException" 6 ∈ BIG := List.mem_filter.mpr ⟨List.mem_of_getElem? (i := 356) (by decide +kernel), rfl⟩
theorem kw347 : Cond.initialized "java/lang/IllegalArgumentException" ∈ BIG := List.mem_filter.mpr ⟨List.mem_of_getElem? (i := 40) (by decide +kernel), rfl⟩
theorem kw348 : Cond.methodLink R_Desk 56 y_Desk_takeTape ∈ BIG := List.mem_filter.mpr ⟨List.mem_of_getElem? (i := 322) (by decide +kernel), rfl⟩
theorem kw349 : Cond.code y_Desk_takeTape b_Desk_takeTape 2 (some .boolean) ∈ BIG := List.mem_filter.mpr ⟨List.mem_of_getElem? (i := 325) (by decide +kernel), rfl⟩
theorem kw350 : Cond.instanceMethod y_Desk_takeTape ∈ BIG := List.mem_filter.mpr ⟨List.mem_of_getElem? (i := 324) (by decide +kernel), rfl⟩
theorem kw351 : Cond.selects R_Desk y_Desk_takeTape y_Desk_takeTape ∈ BIG := List.mem_filter.mpr ⟨List.mem_of_getElem? (i := 8) (by decide +kernel), rfl⟩
theorem kw352 : Cond.methodLink R_Desk 60 y_Desk_isQueue ∈ BIG := List.mem_filter.mpr ⟨List.mem_of_getElem? (i := 302) (by decide +kernel), rfl⟩
theorem kw353 : Cond.code y_Desk_isQueue b_Desk_isQueue 1 (some .boolean) ∈ BIG := List.mem_filter.mpr ⟨List.mem_of_getElem? (i := 304) (by decide +kernel), rfl⟩
theorem kw354 : Cond.static y_Desk_isQueue ∈ BIG := List.mem_filter.mpr ⟨List.mem_of_getElem? (i := 303) (by decide +kernel), rfl⟩
theorem kw355 : Cond.methodLink R_Desk 71 y_Desk_leastFreeBinding ∈ BIG := List.mem_filter.mpr ⟨List.mem_of_getElem? (i := 422) (by decide +kernel), rfl⟩
theorem kw356 : Cond.code y_Desk_leastFreeBinding b_Desk_leastFreeBinding 2 (some .int) ∈ BIG := List.mem_filter.mpr ⟨List.mem_of_getElem? (i := 425) (by decide +kernel), rfl⟩
theorem kw357 : Cond.instanceMethod y_Desk_leastFreeBinding ∈ BIG := List.mem_filter.mpr ⟨List.mem_of_getElem? (i := 424) (by decide +kernel), rfl⟩
theorem kw358 : Cond.selects R_Desk y_Desk_leastFreeBinding y_Desk_leastFreeBinding ∈ BIG := List.mem_filter.mpr ⟨List.mem_of_getElem? (i := 12) (by decide +kernel), rfl⟩
theorem kw359 : Cond.methodLink R_Desk 79 y_Bnd_tie ∈ BIG := List.mem_filter.mpr ⟨List.mem_of_getElem? (i := 442) (by decide +kernel), rfl⟩
theorem kw360 : Cond.code y_Bnd_tie b_Bnd_tie 3 none ∈ BIG := List.mem_filter.mpr ⟨List.mem_of_getElem? (i := 445) (by decide +kernel), rfl⟩
theorem kw361 : Cond.instanceMethod y_Bnd_tie ∈ BIG := List.mem_filter.mpr ⟨List.mem_of_getElem? (i := 443) (by decide +kernel), rfl⟩
theorem kw362 : Cond.selects R_Bnd y_Bnd_tie y_Bnd_tie ∈ BIG := List.mem_filter.mpr ⟨List.mem_of_getElem? (i := 444) (by decide +kernel), rfl⟩
theorem kw363 : Cond.methodLink R_Desk 100 y_Text_takes ∈ BIG := List.mem_filter.mpr ⟨List.mem_of_getElem? (i := 455) (by decide +kernel), rfl⟩
theorem kw364 : Cond.methodLink R_Desk 104 y_Bnd_countRouted ∈ BIG := List.mem_filter.mpr ⟨List.mem_of_getElem? (i := 456) (by decide +kernel), rfl⟩
theorem kw365 : Cond.code y_Bnd_countRouted b_Bnd_countRouted 1 none ∈ BIG := List.mem_filter.mpr ⟨List.mem_of_getElem? (i := 459) (by decide +kernel), rfl⟩
theorem kw366 : Cond.instanceMethod y_Bnd_countRouted ∈ BIG := List.mem_filter.mpr ⟨List.mem_of_getElem? (i := 457) (by decide +kernel), rfl⟩
theorem kw367 : Cond.selects R_Bnd y_Bnd_countRouted y_Bnd_countRouted ∈ BIG := List.mem_filter.mpr ⟨List.mem_of_getElem? (i := 458) (by decide +kernel), rfl⟩
theorem kw368 : Cond.methodLink R_Desk 110 y_Shelf_put ∈ BIG := List.mem_filter.mpr ⟨List.mem_of_getElem? (i := 467) (by decide +kernel), rfl⟩
theorem kw369 : Cond.code y_Shelf_put b_Shelf_put 5 (some .boolean) ∈ BIG := List.mem_filter.mpr ⟨List.mem_of_getElem? (i := 470) (by decide +kernel), rfl⟩
theorem kw370 : Cond.instanceMethod y_Shelf_put ∈ BIG := List.mem_filter.mpr ⟨List.mem_of_getElem? (i := 468) (by decide +kernel), rfl⟩
theorem kw371 : Cond.selects R_Shelf y_Shelf_put y_Shelf_put ∈ BIG := List.mem_filter.mpr ⟨List.mem_of_getElem? (i := 469) (by decide +kernel), rfl⟩
theorem kw372 : Cond.methodLink R_Desk 116 y_Shelf_size ∈ BIG := List.mem_filter.mpr ⟨List.mem_of_getElem? (i := 504) (by decide +kernel), rfl⟩
theorem kw373 : Cond.code y_Shelf_size b_Shelf_size 1 (some .int) ∈ BIG := List.mem_filter.mpr ⟨List.mem_of_getElem? (i := 507) (by decide +kernel), rfl⟩
theorem kw374 : Cond.instanceMethod y_Shelf_size ∈ BIG := List.mem_filter.mpr ⟨List.mem_of_getElem? (i := 505) (by decide +kernel), rfl⟩
theorem kw375 : Cond.selects R_Shelf y_Shelf_size y_Shelf_size ∈ BIG := List.mem_filter.mpr ⟨List.mem_of_getElem? (i := 506) (by decide +kernel), rfl⟩
theorem kw376 : Cond.methodLink R_Desk 119 y_Shelf_drop ∈ BIG := List.mem_filter.mpr ⟨List.mem_of_getElem? (i := 515) (by decide +kernel), rfl⟩
theorem kw377 : Cond.code y_Shelf_drop b_Shelf_drop 3 (some .boolean) ∈ BIG := List.mem_filter.mpr ⟨List.mem_of_getElem? (i := 518) (by decide +kernel), rfl⟩
theorem kw378 : Cond.instanceMethod y_Shelf_drop ∈ BIG := List.mem_filter.mpr ⟨List.mem_of_getElem? (i := 516) (by decide +kernel), rfl⟩
theorem kw379 : Cond.selects R_Shelf y_Shelf_drop y_Shelf_drop ∈ BIG := List.mem_filter.mpr ⟨List.mem_of_getElem? (i := 517) (by decide +kernel), rfl⟩
theorem kw380 : Cond.methodLink R_Desk 169 y_Desk_isWithin ∈ BIG := List.mem_filter.mpr ⟨List.mem_of_getElem? (i := 309) (by decide +kernel), rfl⟩
theorem kw381 : Cond.code y_Desk_isWithin b_Desk_isWithin 3 (some .boolean) ∈ BIG := List.mem_filter.mpr ⟨List.mem_of_getElem? (i := 312) (by decide +kernel), rfl⟩
theorem kw382 : Cond.instanceMethod y_Desk_isWithin ∈ BIG := List.mem_filter.mpr ⟨List.mem_of_getElem? (i := 311) (by decide +kernel), rfl⟩
theorem kw383 : Cond.selects R_Desk y_Desk_isWithin y_Desk_isWithin ∈ BIG := List.mem_filter.mpr ⟨List.mem_of_getElem? (i := 7) (by decide +kernel), rfl⟩
theorem kw384 : Cond.methodLink R_Law 7 y_Desk_bind ∈ BIG := List.mem_filter.mpr ⟨List.mem_of_getElem? (i := 318) (by decide +kernel), rfl⟩
theorem kw385 : Cond.code y_Desk_bind b_Desk_bind 4 (some .int) ∈ BIG := List.mem_filter.mpr ⟨List.mem_of_getElem? (i := 321) (by decide +kernel), rfl⟩
theorem kw386 : Cond.instanceMethod y_Desk_bind ∈ BIG := List.mem_filter.mpr ⟨List.mem_of_getElem? (i := 319) (by decide +kernel), rfl⟩
theorem kw387 : Cond.selects R_Desk y_Desk_bind y_Desk_bind ∈ BIG := List.mem_filter.mpr ⟨List.mem_of_getElem? (i := 320) (by decide +kernel), rfl⟩
theorem kw388 : Cond.classLink R_Law 13 "java/lang/IllegalArgumentException" ∈ BIG := List.mem_filter.mpr ⟨List.mem_of_getElem? (i := 316) (by decide +kernel), rfl⟩
theorem kw389 : Cond.classLink R_Law 15 "java/lang/IllegalStateException" ∈ BIG := List.mem_filter.mpr ⟨List.mem_of_getElem? (i := 317) (by decide +kernel), rfl⟩
theorem kw390 : Cond.methodLink R_Law 17 y_Desk_route ∈ BIG := List.mem_filter.mpr ⟨List.mem_of_getElem? (i := 450) (by decide +kernel), rfl⟩
theorem kw391 : Cond.code y_Desk_route b_Desk_route 4 (some .int) ∈ BIG := List.mem_filter.mpr ⟨List.mem_of_getElem? (i := 453) (by decide +kernel), rfl⟩
theorem kw392 : Cond.instanceMethod y_Desk_route ∈ BIG := List.mem_filter.mpr ⟨List.mem_of_getElem? (i := 451) (by decide +kernel), rfl⟩
theorem kw393 : Cond.selects R_Desk y_Desk_route y_Desk_route ∈ BIG := List.mem_filter.mpr ⟨List.mem_of_getElem? (i := 452) (by decide +kernel), rfl⟩
theorem kw394 : Cond.methodLink R_Law 21 y_Desk_keep ∈ BIG := List.mem_filter.mpr ⟨List.mem_of_getElem? (i := 463) (by decide +kernel), rfl⟩
theorem kw395 : Cond.code y_Desk_keep b_Desk_keep 2 (some .int) ∈ BIG := List.mem_filter.mpr ⟨List.mem_of_getElem? (i := 466) (by decide +kernel), rfl⟩
theorem kw396 : Cond.instanceMethod y_Desk_keep ∈ BIG := List.mem_filter.mpr ⟨List.mem_of_getElem? (i := 464) (by decide +kernel), rfl⟩
theorem kw397 : Cond.selects R_Desk y_Desk_keep y_Desk_keep ∈ BIG := List.mem_filter.mpr ⟨List.mem_of_getElem? (i := 465) (by decide +kernel), rfl⟩
theorem kw398 : Cond.methodLink R_Law 24 y_Desk_lose ∈ BIG := List.mem_filter.mpr ⟨List.mem_of_getElem? (i := 511) (by decide +kernel), rfl⟩
theorem kw399 : Cond.code y_Desk_lose b_Desk_lose 1 (some .boolean) ∈ BIG := List.mem_filter.mpr ⟨List.mem_of_getElem? (i := 514) (by decide +kernel), rfl⟩
theorem kw400 : Cond.instanceMethod y_Desk_lose ∈ BIG := List.mem_filter.mpr ⟨List.mem_of_getElem? (i := 512) (by decide +kernel), rfl⟩
theorem kw401 : Cond.selects R_Desk y_Desk_lose y_Desk_lose ∈ BIG := List.mem_filter.mpr ⟨List.mem_of_getElem? (i := 513) (by decide +kernel), rfl⟩
theorem kw402 : Cond.methodLink R_Desk 151 y_Desk_isSpare ∈ BIG := List.mem_filter.mpr ⟨List.mem_of_getElem? (i := 305) (by decide +kernel), rfl⟩
theorem kw403 : Cond.code y_Desk_isSpare b_Desk_isSpare 4 (some .boolean) ∈ BIG := List.mem_filter.mpr ⟨List.mem_of_getElem? (i := 308) (by decide +kernel), rfl⟩
theorem kw404 : Cond.instanceMethod y_Desk_isSpare ∈ BIG := List.mem_filter.mpr ⟨List.mem_of_getElem? (i := 307) (by decide +kernel), rfl⟩
theorem kw405 : Cond.selects R_Desk y_Desk_isSpare y_Desk_isSpare ∈ BIG := List.mem_filter.mpr ⟨List.mem_of_getElem? (i := 6) (by decide +kernel), rfl⟩
theorem kw406 : Cond.constantLong R_Law 38 (4294967295 : Int64) ∈ BIG := List.mem_filter.mpr ⟨List.mem_of_getElem? (i := 746) (by decide +kernel), rfl⟩
theorem kw407 : Cond.methodLink R_Law 40 y_Desk_type ∈ BIG := List.mem_filter.mpr ⟨List.mem_of_getElem? (i := 164) (by decide +kernel), rfl⟩
theorem kw408 : Cond.code y_Desk_type b_Desk_type 6 (some .boolean) ∈ BIG := List.mem_filter.mpr ⟨List.mem_of_getElem? (i := 167) (by decide +kernel), rfl⟩
theorem kw409 : Cond.instanceMethod y_Desk_type ∈ BIG := List.mem_filter.mpr ⟨List.mem_of_getElem? (i := 165) (by decide +kernel), rfl⟩
theorem kw410 : Cond.selects R_Desk y_Desk_type y_Desk_type ∈ BIG := List.mem_filter.mpr ⟨List.mem_of_getElem? (i := 166) (by decide +kernel), rfl⟩
theorem kw411 : Cond.methodLink R_Law 44 y_Mod_type ∈ BIG := List.mem_filter.mpr ⟨List.mem_of_getElem? (i := 631) (by decide +kernel), rfl⟩
theorem kw412 : Cond.code y_Mod_type b_Mod_type 6 (some .boolean) ∈ BIG := List.mem_filter.mpr ⟨List.mem_of_getElem? (i := 634) (by decide +kernel), rfl⟩
theorem kw413 : Cond.instanceMethod y_Mod_type ∈ BIG := List.mem_filter.mpr ⟨List.mem_of_getElem? (i := 632) (by decide +kernel), rfl⟩
theorem kw414 : Cond.selects R_Mod y_Mod_type y_Mod_type ∈ BIG := List.mem_filter.mpr ⟨List.mem_of_getElem? (i := 633) (by decide +kernel), rfl⟩
theorem kw415 : Cond.methodLink R_Law 45 y_Law_bind ∈ BIG := List.mem_filter.mpr ⟨List.mem_of_getElem? (i := 313) (by decide +kernel), rfl⟩
theorem kw416 : Cond.initialized R_Law ∈ BIG := List.mem_filter.mpr ⟨List.mem_of_getElem? (i := 29) (by decide +kernel), rfl⟩
theorem kw417 : Cond.static y_Law_bind ∈ BIG := List.mem_filter.mpr ⟨List.mem_of_getElem? (i := 314) (by decide +kernel), rfl⟩
theorem kw418 : Cond.codeWith y_Law_bind b_Law_bind 4 (some .int) [(0, 9, 12, 13), (0, 9, 15, 15)] ∈ BIG := List.mem_filter.mpr ⟨List.mem_of_getElem? (i := 315) (by decide +kernel), rfl⟩
theorem kw419 : Cond.methodLink R_Law 50 y_Mod_bind ∈ BIG := List.mem_filter.mpr ⟨List.mem_of_getElem? (i := 636) (by decide +kernel), rfl⟩
theorem kw420 : Cond.code y_Mod_bind b_Mod_bind 5 (some .int) ∈ BIG := List.mem_filter.mpr ⟨List.mem_of_getElem? (i := 639) (by decide +kernel), rfl⟩
theorem kw421 : Cond.instanceMethod y_Mod_bind ∈ BIG := List.mem_filter.mpr ⟨List.mem_of_getElem? (i := 637) (by decide +kernel), rfl⟩
theorem kw422 : Cond.selects R_Mod y_Mod_bind y_Mod_bind ∈ BIG := List.mem_filter.mpr ⟨List.mem_of_getElem? (i := 638) (by decide +kernel), rfl⟩
theorem kw423 : Cond.methodLink R_Law 51 y_Mod_thrown ∈ BIG := List.mem_filter.mpr ⟨List.mem_of_getElem? (i := 627) (by decide +kernel), rfl⟩
theorem kw424 : Cond.code y_Mod_thrown b_Mod_thrown 1 (some .int) ∈ BIG := List.mem_filter.mpr ⟨List.mem_of_getElem? (i := 630) (by decide +kernel), rfl⟩
theorem kw425 : Cond.instanceMethod y_Mod_thrown ∈ BIG := List.mem_filter.mpr ⟨List.mem_of_getElem? (i := 628) (by decide +kernel), rfl⟩
theorem kw426 : Cond.selects R_Mod y_Mod_thrown y_Mod_thrown ∈ BIG := List.mem_filter.mpr ⟨List.mem_of_getElem? (i := 629) (by decide +kernel), rfl⟩
theorem kw427 : Cond.methodLink R_Law 54 y_Desk_fault ∈ BIG := List.mem_filter.mpr ⟨List.mem_of_getElem? (i := 179) (by decide +kernel), rfl⟩
theorem kw428 : Cond.code y_Desk_fault b_Desk_fault 1 (some .int) ∈ BIG := List.mem_filter.mpr ⟨List.mem_of_getElem? (i := 182) (by decide +kernel), rfl⟩
theorem kw429 : Cond.instanceMethod y_Desk_fault ∈ BIG := List.mem_filter.mpr ⟨List.mem_of_getElem? (i := 180) (by decide +kernel), rfl⟩
theorem kw430 : Cond.selects R_Desk y_Desk_fault y_Desk_fault ∈ BIG := List.mem_filter.mpr ⟨List.mem_of_getElem? (i := 181) (by decide +kernel), rfl⟩
theorem kw431 : Cond.methodLink R_Law 57 y_Mod_fault ∈ BIG := List.mem_filter.mpr ⟨List.mem_of_getElem? (i := 653) (by decide +kernel), rfl⟩
theorem kw432 : Cond.code y_Mod_fault b_Mod_fault 1 (some .int) ∈ BIG := List.mem_filter.mpr ⟨List.mem_of_getElem? (i := 656) (by decide +kernel), rfl⟩
theorem kw433 : Cond.instanceMethod y_Mod_fault ∈ BIG := List.mem_filter.mpr ⟨List.mem_of_getElem? (i := 654) (by decide +kernel), rfl⟩
theorem kw434 : Cond.selects R_Mod y_Mod_fault y_Mod_fault ∈ BIG := List.mem_filter.mpr ⟨List.mem_of_getElem? (i := 655) (by decide +kernel), rfl⟩
theorem kw435 : Cond.methodLink R_Law 58 y_Desk_free ∈ BIG := List.mem_filter.mpr ⟨List.mem_of_getElem? (i := 183) (by decide +kernel), rfl⟩
theorem kw436 : Cond.code y_Desk_free b_Desk_free 3 (some .boolean) ∈ BIG := List.mem_filter.mpr ⟨List.mem_of_getElem? (i := 186) (by decide +kernel), rfl⟩
theorem kw437 : Cond.instanceMethod y_Desk_free ∈ BIG := List.mem_filter.mpr ⟨List.mem_of_getElem? (i := 184) (by decide +kernel), rfl⟩
theorem kw438 : Cond.selects R_Desk y_Desk_free y_Desk_free ∈ BIG := List.mem_filter.mpr ⟨List.mem_of_getElem? (i := 185) (by decide +kernel), rfl⟩
theorem kw439 : Cond.methodLink R_Law 62 y_Mod_free ∈ BIG := List.mem_filter.mpr ⟨List.mem_of_getElem? (i := 657) (by decide +kernel), rfl⟩
theorem kw440 : Cond.code y_Mod_free b_Mod_free 2 (some .boolean) ∈ BIG := List.mem_filter.mpr ⟨List.mem_of_getElem? (i := 660) (by decide +kernel), rfl⟩
theorem kw441 : Cond.instanceMethod y_Mod_free ∈ BIG := List.mem_filter.mpr ⟨List.mem_of_getElem? (i := 658) (by decide +kernel), rfl⟩
theorem kw442 : Cond.selects R_Mod y_Mod_free y_Mod_free ∈ BIG := List.mem_filter.mpr ⟨List.mem_of_getElem? (i := 659) (by decide +kernel), rfl⟩
theorem kw443 : Cond.methodLink R_Law 63 y_Law_route ∈ BIG := List.mem_filter.mpr ⟨List.mem_of_getElem? (i := 447) (by decide +kernel), rfl⟩
theorem kw444 : Cond.static y_Law_route ∈ BIG := List.mem_filter.mpr ⟨List.mem_of_getElem? (i := 448) (by decide +kernel), rfl⟩
theorem kw445 : Cond.codeWith y_Law_route b_Law_route 3 (some .int) [(0, 8, 11, 13)] ∈ BIG := List.mem_filter.mpr ⟨List.mem_of_getElem? (i := 449) (by decide +kernel), rfl⟩
theorem kw446 : Cond.methodLink R_Law 66 y_Mod_route ∈ BIG := List.mem_filter.mpr ⟨List.mem_of_getElem? (i := 668) (by decide +kernel), rfl⟩
theorem kw447 : Cond.code y_Mod_route b_Mod_route 3 (some .int) ∈ BIG := List.mem_filter.mpr ⟨List.mem_of_getElem? (i := 671) (by decide +kernel), rfl⟩
theorem kw448 : Cond.instanceMethod y_Mod_route ∈ BIG := List.mem_filter.mpr ⟨List.mem_of_getElem? (i := 669) (by decide +kernel), rfl⟩
theorem kw449 : Cond.selects R_Mod y_Mod_route y_Mod_route ∈ BIG := List.mem_filter.mpr ⟨List.mem_of_getElem? (i := 670) (by decide +kernel), rfl⟩
theorem kw450 : Cond.methodLink R_Law 67 y_Law_keep ∈ BIG := List.mem_filter.mpr ⟨List.mem_of_getElem? (i := 460) (by decide +kernel), rfl⟩
theorem kw451 : Cond.static y_Law_keep ∈ BIG := List.mem_filter.mpr ⟨List.mem_of_getElem? (i := 461) (by decide +kernel), rfl⟩
theorem kw452 : Cond.codeWith y_Law_keep b_Law_keep 4 (some .int) [(0, 9, 12, 13), (0, 9, 15, 15)] ∈ BIG := List.mem_filter.mpr ⟨List.mem_of_getElem? (i := 462) (by decide +kernel), rfl⟩
theorem kw453 : Cond.methodLink R_Law 69 y_Mod_keep ∈ BIG := List.mem_filter.mpr ⟨List.mem_of_getElem? (i := 694) (by decide +kernel), rfl⟩
theorem kw454 : Cond.code y_Mod_keep b_Mod_keep 4 (some .int) ∈ BIG := List.mem_filter.mpr ⟨List.mem_of_getElem? (i := 697) (by decide +kernel), rfl⟩
theorem kw455 : Cond.instanceMethod y_Mod_keep ∈ BIG := List.mem_filter.mpr ⟨List.mem_of_getElem? (i := 695) (by decide +kernel), rfl⟩
theorem kw456 : Cond.selects R_Mod y_Mod_keep y_Mod_keep ∈ BIG := List.mem_filter.mpr ⟨List.mem_of_getElem? (i := 696) (by decide +kernel), rfl⟩
theorem kw457 : Cond.methodLink R_Law 70 y_Law_lose ∈ BIG := List.mem_filter.mpr ⟨List.mem_of_getElem? (i := 508) (by decide +kernel), rfl⟩
theorem kw458 : Cond.static y_Law_lose ∈ BIG := List.mem_filter.mpr ⟨List.mem_of_getElem? (i := 509) (by decide +kernel), rfl⟩
theorem kw459 : Cond.codeWith y_Law_lose b_Law_lose 3 (some .int) [(0, 15, 18, 13)] ∈ BIG := List.mem_filter.mpr ⟨List.mem_of_getElem? (i := 510) (by decide +kernel), rfl⟩
theorem kw460 : Cond.methodLink R_Law 72 y_Mod_lose ∈ BIG := List.mem_filter.mpr ⟨List.mem_of_getElem? (i := 702) (by decide +kernel), rfl⟩
theorem kw461 : Cond.code y_Mod_lose b_Mod_lose 3 (some .boolean) ∈ BIG := List.mem_filter.mpr ⟨List.mem_of_getElem? (i := 705) (by decide +kernel), rfl⟩
theorem kw462 : Cond.instanceMethod y_Mod_lose ∈ BIG := List.mem_filter.mpr ⟨List.mem_of_getElem? (i := 703) (by decide +kernel), rfl⟩
theorem kw463 : Cond.selects R_Mod y_Mod_lose y_Mod_lose ∈ BIG := List.mem_filter.mpr ⟨List.mem_of_getElem? (i := 704) (by decide +kernel), rfl⟩
theorem kw464 : Cond.methodLink R_Law 73 y_Desk_about ∈ BIG := List.mem_filter.mpr ⟨List.mem_of_getElem? (i := 199) (by decide +kernel), rfl⟩
theorem kw465 : Cond.code y_Desk_about b_Desk_about 4 (some .int) ∈ BIG := List.mem_filter.mpr ⟨List.mem_of_getElem? (i := 202) (by decide +kernel), rfl⟩
theorem kw466 : Cond.instanceMethod y_Desk_about ∈ BIG := List.mem_filter.mpr ⟨List.mem_of_getElem? (i := 200) (by decide +kernel), rfl⟩
theorem kw467 : Cond.selects R_Desk y_Desk_about y_Desk_about ∈ BIG := List.mem_filter.mpr ⟨List.mem_of_getElem? (i := 201) (by decide +kernel), rfl⟩
theorem kw468 : Cond.methodLink R_Law 76 y_Mod_about ∈ BIG := List.mem_filter.mpr ⟨List.mem_of_getElem? (i := 706) (by decide +kernel), rfl⟩
theorem kw469 : Cond.code y_Mod_about b_Mod_about 5 (some .int) ∈ BIG := List.mem_filter.mpr ⟨List.mem_of_getElem? (i := 709) (by decide +kernel), rfl⟩
theorem kw470 : Cond.instanceMethod y_Mod_about ∈ BIG := List.mem_filter.mpr ⟨List.mem_of_getElem? (i := 707) (by decide +kernel), rfl⟩
theorem kw471 : Cond.selects R_Mod y_Mod_about y_Mod_about ∈ BIG := List.mem_filter.mpr ⟨List.mem_of_getElem? (i := 708) (by decide +kernel), rfl⟩
theorem kw472 : Cond.methodLink R_Law 77 y_Law_kept ∈ BIG := List.mem_filter.mpr ⟨List.mem_of_getElem? (i := 519) (by decide +kernel), rfl⟩
theorem kw473 : Cond.static y_Law_kept ∈ BIG := List.mem_filter.mpr ⟨List.mem_of_getElem? (i := 520) (by decide +kernel), rfl⟩
theorem kw474 : Cond.codeWith y_Law_kept b_Law_kept 5 (some .int) [(0, 10, 13, 32)] ∈ BIG := List.mem_filter.mpr ⟨List.mem_of_getElem? (i := 521) (by decide +kernel), rfl⟩
theorem kw475 : Cond.methodLink R_Law 80 y_Mod_kept ∈ BIG := List.mem_filter.mpr ⟨List.mem_of_getElem? (i := 714) (by decide +kernel), rfl⟩
theorem kw476 : Cond.code y_Mod_kept b_Mod_kept 6 (some .int) ∈ BIG := List.mem_filter.mpr ⟨List.mem_of_getElem? (i := 717) (by decide +kernel), rfl⟩
theorem kw477 : Cond.instanceMethod y_Mod_kept ∈ BIG := List.mem_filter.mpr ⟨List.mem_of_getElem? (i := 715) (by decide +kernel), rfl⟩
theorem kw478 : Cond.selects R_Mod y_Mod_kept y_Mod_kept ∈ BIG := List.mem_filter.mpr ⟨List.mem_of_getElem? (i := 716) (by decide +kernel), rfl⟩
theorem kw479 : Cond.methodLink R_Law 81 y_Desk_sign ∈ BIG := List.mem_filter.mpr ⟨List.mem_of_getElem? (i := 245) (by decide +kernel), rfl⟩
theorem kw480 : Cond.code y_Desk_sign b_Desk_sign 4 (some .int) ∈ BIG := List.mem_filter.mpr ⟨List.mem_of_getElem? (i := 248) (by decide +kernel), rfl⟩
theorem kw481 : Cond.instanceMethod y_Desk_sign ∈ BIG := List.mem_filter.mpr ⟨List.mem_of_getElem? (i := 246) (by decide +kernel), rfl⟩
theorem kw482 : Cond.selects R_Desk y_Desk_sign y_Desk_sign ∈ BIG := List.mem_filter.mpr ⟨List.mem_of_getElem? (i := 247) (by decide +kernel), rfl⟩
theorem kw483 : Cond.methodLink R_Law 84 y_Mod_sign ∈ BIG := List.mem_filter.mpr ⟨List.mem_of_getElem? (i := 722) (by decide +kernel), rfl⟩
theorem kw484 : Cond.code y_Mod_sign b_Mod_sign 3 (some .int) ∈ BIG := List.mem_filter.mpr ⟨List.mem_of_getElem? (i := 725) (by decide +kernel), rfl⟩
theorem kw485 : Cond.instanceMethod y_Mod_sign ∈ BIG := List.mem_filter.mpr ⟨List.mem_of_getElem? (i := 723) (by decide +kernel), rfl⟩
theorem kw486 : Cond.selects R_Mod y_Mod_sign y_Mod_sign ∈ BIG := List.mem_filter.mpr ⟨List.mem_of_getElem? (i := 724) (by decide +kernel), rfl⟩
theorem kw487 : Cond.methodLink R_Law 85 y_Desk_both ∈ BIG := List.mem_filter.mpr ⟨List.mem_of_getElem? (i := 253) (by decide +kernel), rfl⟩
theorem kw488 : Cond.code y_Desk_both b_Desk_both 3 (some .int) ∈ BIG := List.mem_filter.mpr ⟨List.mem_of_getElem? (i := 256) (by decide +kernel), rfl⟩
theorem kw489 : Cond.instanceMethod y_Desk_both ∈ BIG := List.mem_filter.mpr ⟨List.mem_of_getElem? (i := 254) (by decide +kernel), rfl⟩
theorem kw490 : Cond.selects R_Desk y_Desk_both y_Desk_both ∈ BIG := List.mem_filter.mpr ⟨List.mem_of_getElem? (i := 255) (by decide +kernel), rfl⟩
theorem kw491 : Cond.methodLink R_Law 88 y_Mod_both ∈ BIG := List.mem_filter.mpr ⟨List.mem_of_getElem? (i := 726) (by decide +kernel), rfl⟩
theorem kw492 : Cond.code y_Mod_both b_Mod_both 3 (some .int) ∈ BIG := List.mem_filter.mpr ⟨List.mem_of_getElem? (i := 729) (by decide +kernel), rfl⟩
theorem kw493 : Cond.instanceMethod y_Mod_both ∈ BIG := List.mem_filter.mpr ⟨List.mem_of_getElem? (i := 727) (by decide +kernel), rfl⟩
theorem kw494 : Cond.selects R_Mod y_Mod_both y_Mod_both ∈ BIG := List.mem_filter.mpr ⟨List.mem_of_getElem? (i := 728) (by decide +kernel), rfl⟩
theorem kw495 : Cond.methodLink R_Law 89 y_Desk_only ∈ BIG := List.mem_filter.mpr ⟨List.mem_of_getElem? (i := 294) (by decide +kernel), rfl⟩
theorem kw496 : Cond.code y_Desk_only b_Desk_only 3 (some .int) ∈ BIG := List.mem_filter.mpr ⟨List.mem_of_getElem? (i := 297) (by decide +kernel), rfl⟩
theorem kw497 : Cond.instanceMethod y_Desk_only ∈ BIG := List.mem_filter.mpr ⟨List.mem_of_getElem? (i := 295) (by decide +kernel), rfl⟩
theorem kw498 : Cond.selects R_Desk y_Desk_only y_Desk_only ∈ BIG := List.mem_filter.mpr ⟨List.mem_of_getElem? (i := 296) (by decide +kernel), rfl⟩
theorem kw499 : Cond.methodLink R_Law 92 y_Mod_only ∈ BIG := List.mem_filter.mpr ⟨List.mem_of_getElem? (i := 738) (by decide +kernel), rfl⟩
theorem kw500 : Cond.code y_Mod_only b_Mod_only 3 (some .int) ∈ BIG := List.mem_filter.mpr ⟨List.mem_of_getElem? (i := 741) (by decide +kernel), rfl⟩
theorem kw501 : Cond.instanceMethod y_Mod_only ∈ BIG := List.mem_filter.mpr ⟨List.mem_of_getElem? (i := 739) (by decide +kernel), rfl⟩
theorem kw502 : Cond.selects R_Mod y_Mod_only y_Mod_only ∈ BIG := List.mem_filter.mpr ⟨List.mem_of_getElem? (i := 740) (by decide +kernel), rfl⟩
theorem kw503 : Cond.methodLink R_Law 93 y_Desk_spare ∈ BIG := List.mem_filter.mpr ⟨List.mem_of_getElem? (i := 298) (by decide +kernel), rfl⟩
theorem kw504 : Cond.code y_Desk_spare b_Desk_spare 4 (some .int) ∈ BIG := List.mem_filter.mpr ⟨List.mem_of_getElem? (i := 301) (by decide +kernel), rfl⟩
theorem kw505 : Cond.instanceMethod y_Desk_spare ∈ BIG := List.mem_filter.mpr ⟨List.mem_of_getElem? (i := 299) (by decide +kernel), rfl⟩
theorem kw506 : Cond.selects R_Desk y_Desk_spare y_Desk_spare ∈ BIG := List.mem_filter.mpr ⟨List.mem_of_getElem? (i := 300) (by decide +kernel), rfl⟩
theorem kw507 : Cond.methodLink R_Law 96 y_Mod_spare ∈ BIG := List.mem_filter.mpr ⟨List.mem_of_getElem? (i := 742) (by decide +kernel), rfl⟩
theorem kw508 : Cond.code y_Mod_spare b_Mod_spare 6 (some .int) ∈ BIG := List.mem_filter.mpr ⟨List.mem_of_getElem? (i := 745) (by decide +kernel), rfl⟩
theorem kw509 : Cond.instanceMethod y_Mod_spare ∈ BIG := List.mem_filter.mpr ⟨List.mem_of_getElem? (i := 743) (by decide +kernel), rfl⟩
theorem kw510 : Cond.selects R_Mod y_Mod_spare y_Mod_spare ∈ BIG := List.mem_filter.mpr ⟨List.mem_of_getElem? (i := 744) (by decide +kernel), rfl⟩
theorem kw511 : Cond.classLink R_Law 8 R_Desk ∈ BIG := List.mem_filter.mpr ⟨List.mem_of_getElem? (i := 45) (by decide +kernel), rfl⟩
theorem kw512 : Cond.instantiable R_Desk 6 ∈ BIG := List.mem_filter.mpr ⟨List.mem_of_getElem? (i := 46) (by decide +kernel), rfl⟩
theorem kw513 : Cond.methodLink R_Law 34 y_Desk_init ∈ BIG := List.mem_filter.mpr ⟨List.mem_of_getElem? (i := 47) (by decide +kernel), rfl⟩
theorem kw514 : Cond.code y_Desk_init b_Desk_init 2 none ∈ BIG := List.mem_filter.mpr ⟨List.mem_of_getElem? (i := 49) (by decide +kernel), rfl⟩
theorem kw515 : Cond.instanceMethod y_Desk_init ∈ BIG := List.mem_filter.mpr ⟨List.mem_of_getElem? (i := 48) (by decide +kernel), rfl⟩
theorem kw516 : Cond.classLink R_Law 35 R_Mod ∈ BIG := List.mem_filter.mpr ⟨List.mem_of_getElem? (i := 551) (by decide +kernel), rfl⟩
theorem kw517 : Cond.instantiable R_Mod 23 ∈ BIG := List.mem_filter.mpr ⟨List.mem_of_getElem? (i := 552) (by decide +kernel), rfl⟩
theorem kw518 : Cond.methodLink R_Law 37 y_Mod_init ∈ BIG := List.mem_filter.mpr ⟨List.mem_of_getElem? (i := 553) (by decide +kernel), rfl⟩
theorem kw519 : Cond.code y_Mod_init b_Mod_init 2 none ∈ BIG := List.mem_filter.mpr ⟨List.mem_of_getElem? (i := 555) (by decide +kernel), rfl⟩
theorem kw520 : Cond.instanceMethod y_Mod_init ∈ BIG := List.mem_filter.mpr ⟨List.mem_of_getElem? (i := 554) (by decide +kernel), rfl⟩
theorem hd_Desk_fault : y_Desk_fault.cls ≠ "java/lang/invoke/MethodHandle" ∧ y_Desk_fault.cls ≠ "java/lang/invoke/VarHandle" ∧ (parseMethodDescriptor y_Desk_fault.desc).map (fun d => d.parameters.length) = some 0 := by decide +kernel
theorem hd_Desk_byteOf : y_Desk_byteOf.cls ≠ "java/lang/invoke/MethodHandle" ∧ y_Desk_byteOf.cls ≠ "java/lang/invoke/VarHandle" ∧ (parseMethodDescriptor y_Desk_byteOf.desc).map (fun d => d.parameters.length) = some 2 := by decide +kernel
theorem hd_Desk_isQueue : y_Desk_isQueue.cls ≠ "java/lang/invoke/MethodHandle" ∧ y_Desk_isQueue.cls ≠ "java/lang/invoke/VarHandle" ∧ (parseMethodDescriptor y_Desk_isQueue.desc).map (fun d => d.parameters.length) = some 1 := by decide +kernel
theorem hd_Mod_init : y_Mod_init.cls ≠ "java/lang/invoke/MethodHandle" ∧ y_Mod_init.cls ≠ "java/lang/invoke/VarHandle" ∧ (parseMethodDescriptor y_Mod_init.desc).map (fun d => d.parameters.length) = some 0 := by decide +kernel
theorem hd_Mod_thrown : y_Mod_thrown.cls ≠ "java/lang/invoke/MethodHandle" ∧ y_Mod_thrown.cls ≠ "java/lang/invoke/VarHandle" ∧ (parseMethodDescriptor y_Mod_thrown.desc).map (fun d => d.parameters.length) = some 0 := by decide +kernel
theorem hd_Mod_raise : y_Mod_raise.cls ≠ "java/lang/invoke/MethodHandle" ∧ y_Mod_raise.cls ≠ "java/lang/invoke/VarHandle" ∧ (parseMethodDescriptor y_Mod_raise.desc).map (fun d => d.parameters.length) = some 1 := by decide +kernel
theorem hd_Mod_type : y_Mod_type.cls ≠ "java/lang/invoke/MethodHandle" ∧ y_Mod_type.cls ≠ "java/lang/invoke/VarHandle" ∧ (parseMethodDescriptor y_Mod_type.desc).map (fun d => d.parameters.length) = some 2 := by decide +kernel
theorem hd_Mod_isSign : y_Mod_isSign.cls ≠ "java/lang/invoke/MethodHandle" ∧ y_Mod_isSign.cls ≠ "java/lang/invoke/VarHandle" ∧ (parseMethodDescriptor y_Mod_isSign.desc).map (fun d => d.parameters.length) = some 1 := by decide +kernel
theorem hd_Mod_reads : y_Mod_reads.cls ≠ "java/lang/invoke/MethodHandle" ∧ y_Mod_reads.cls ≠ "java/lang/invoke/VarHandle" ∧ (parseMethodDescriptor y_Mod_reads.desc).map (fun d => d.parameters.length) = some 1 := by decide +kernel
theorem hd_Mod_spread : y_Mod_spread.cls ≠ "java/lang/invoke/MethodHandle" ∧ y_Mod_spread.cls ≠ "java/lang/invoke/VarHandle" ∧ (parseMethodDescriptor y_Mod_spread.desc).map (fun d => d.parameters.length) = some 4 := by decide +kernel
theorem hd_Mod_move : y_Mod_move.cls ≠ "java/lang/invoke/MethodHandle" ∧ y_Mod_move.cls ≠ "java/lang/invoke/VarHandle" ∧ (parseMethodDescriptor y_Mod_move.desc).map (fun d => d.parameters.length) = some 5 := by decide +kernel
theorem hd_Mod_moved : y_Mod_moved.cls ≠ "java/lang/invoke/MethodHandle" ∧ y_Mod_moved.cls ≠ "java/lang/invoke/VarHandle" ∧ (parseMethodDescriptor y_Mod_moved.desc).map (fun d => d.parameters.length) = some 3 := by decide +kernel
theorem hd_Mod_first : y_Mod_first.cls ≠ "java/lang/invoke/MethodHandle" ∧ y_Mod_first.cls ≠ "java/lang/invoke/VarHandle" ∧ (parseMethodDescriptor y_Mod_first.desc).map (fun d => d.parameters.length) = some 1 := by decide +kernel
theorem hd_Mod_isEnd : y_Mod_isEnd.cls ≠ "java/lang/invoke/MethodHandle" ∧ y_Mod_isEnd.cls ≠ "java/lang/invoke/VarHandle" ∧ (parseMethodDescriptor y_Mod_isEnd.desc).map (fun d => d.parameters.length) = some 2 := by decide +kernel
theorem hd_Mod_fits : y_Mod_fits.cls ≠ "java/lang/invoke/MethodHandle" ∧ y_Mod_fits.cls ≠ "java/lang/invoke/VarHandle" ∧ (parseMethodDescriptor y_Mod_fits.desc).map (fun d => d.parameters.length) = some 4 := by decide +kernel
theorem hd_Mod_isBinding : y_Mod_isBinding.cls ≠ "java/lang/invoke/MethodHandle" ∧ y_Mod_isBinding.cls ≠ "java/lang/invoke/VarHandle" ∧ (parseMethodDescriptor y_Mod_isBinding.desc).map (fun d => d.parameters.length) = some 1 := by decide +kernel
theorem hd_Mod_isBound : y_Mod_isBound.cls ≠ "java/lang/invoke/MethodHandle" ∧ y_Mod_isBound.cls ≠ "java/lang/invoke/VarHandle" ∧ (parseMethodDescriptor y_Mod_isBound.desc).map (fun d => d.parameters.length) = some 1 := by decide +kernel
theorem hd_Mod_bind : y_Mod_bind.cls ≠ "java/lang/invoke/MethodHandle" ∧ y_Mod_bind.cls ≠ "java/lang/invoke/VarHandle" ∧ (parseMethodDescriptor y_Mod_bind.desc).map (fun d => d.parameters.length) = some 1 := by decide +kernel
theorem hd_Mod_fault : y_Mod_fault.cls ≠ "java/lang/invoke/MethodHandle" ∧ y_Mod_fault.cls ≠ "java/lang/invoke/VarHandle" ∧ (parseMethodDescriptor y_Mod_fault.desc).map (fun d => d.parameters.length) = some 0 := by decide +kernel
theorem hd_Mod_free : y_Mod_free.cls ≠ "java/lang/invoke/MethodHandle" ∧ y_Mod_free.cls ≠ "java/lang/invoke/VarHandle" ∧ (parseMethodDescriptor y_Mod_free.desc).map (fun d => d.parameters.length) = some 1 := by decide +kernel
theorem hd_Mod_route : y_Mod_route.cls ≠ "java/lang/invoke/MethodHandle" ∧ y_Mod_route.cls ≠ "java/lang/invoke/VarHandle" ∧ (parseMethodDescriptor y_Mod_route.desc).map (fun d => d.parameters.length) = some 0 := by decide +kernel
theorem hd_Mod_found : y_Mod_found.cls ≠ "java/lang/invoke/MethodHandle" ∧ y_Mod_found.cls ≠ "java/lang/invoke/VarHandle" ∧ (parseMethodDescriptor y_Mod_found.desc).map (fun d => d.parameters.length) = some 0 := by decide +kernel
theorem hd_Mod_keep : y_Mod_keep.cls ≠ "java/lang/invoke/MethodHandle" ∧ y_Mod_keep.cls ≠ "java/lang/invoke/VarHandle" ∧ (parseMethodDescriptor y_Mod_keep.desc).map (fun d => d.parameters.length) = some 1 := by decide +kernel
theorem hd_Mod_lose : y_Mod_lose.cls ≠ "java/lang/invoke/MethodHandle" ∧ y_Mod_lose.cls ≠ "java/lang/invoke/VarHandle" ∧ (parseMethodDescriptor y_Mod_lose.desc).map (fun d => d.parameters.length) = some 0 := by decide +kernel
theorem hd_Mod_fitsKept : y_Mod_fitsKept.cls ≠ "java/lang/invoke/MethodHandle" ∧ y_Mod_fitsKept.cls ≠ "java/lang/invoke/VarHandle" ∧ (parseMethodDescriptor y_Mod_fitsKept.desc).map (fun d => d.parameters.length) = some 2 := by decide +kernel
theorem hd_Mod_about : y_Mod_about.cls ≠ "java/lang/invoke/MethodHandle" ∧ y_Mod_about.cls ≠ "java/lang/invoke/VarHandle" ∧ (parseMethodDescriptor y_Mod_about.desc).map (fun d => d.parameters.length) = some 2 := by decide +kernel
theorem hd_Mod_isAhead : y_Mod_isAhead.cls ≠ "java/lang/invoke/MethodHandle" ∧ y_Mod_isAhead.cls ≠ "java/lang/invoke/VarHandle" ∧ (parseMethodDescriptor y_Mod_isAhead.desc).map (fun d => d.parameters.length) = some 2 := by decide +kernel
theorem hd_Mod_kept : y_Mod_kept.cls ≠ "java/lang/invoke/MethodHandle" ∧ y_Mod_kept.cls ≠ "java/lang/invoke/VarHandle" ∧ (parseMethodDescriptor y_Mod_kept.desc).map (fun d => d.parameters.length) = some 2 := by decide +kernel
theorem hd_Mod_sign : y_Mod_sign.cls ≠ "java/lang/invoke/MethodHandle" ∧ y_Mod_sign.cls ≠ "java/lang/invoke/VarHandle" ∧ (parseMethodDescriptor y_Mod_sign.desc).map (fun d => d.parameters.length) = some 2 := by decide +kernel
theorem hd_Mod_wordOf : y_Mod_wordOf.cls ≠ "java/lang/invoke/MethodHandle" ∧ y_Mod_wordOf.cls ≠ "java/lang/invoke/VarHandle" ∧ (parseMethodDescriptor y_Mod_wordOf.desc).map (fun d => d.parameters.length) = some 3 := by decide +kernel
theorem hd_Bnd_isBound : y_Bnd_isBound.cls ≠ "java/lang/invoke/MethodHandle" ∧ y_Bnd_isBound.cls ≠ "java/lang/invoke/VarHandle" ∧ (parseMethodDescriptor y_Bnd_isBound.desc).map (fun d => d.parameters.length) = some 0 := by decide +kernel
theorem hd_Bnd_pattern : y_Bnd_pattern.cls ≠ "java/lang/invoke/MethodHandle" ∧ y_Bnd_pattern.cls ≠ "java/lang/invoke/VarHandle" ∧ (parseMethodDescriptor y_Bnd_pattern.desc).map (fun d => d.parameters.length) = some 0 := by decide +kernel
theorem hd_Bnd_queue : y_Bnd_queue.cls ≠ "java/lang/invoke/MethodHandle" ∧ y_Bnd_queue.cls ≠ "java/lang/invoke/VarHandle" ∧ (parseMethodDescriptor y_Bnd_queue.desc).map (fun d => d.parameters.length) = some 0 := by decide +kernel
theorem hd_Bnd_routed : y_Bnd_routed.cls ≠ "java/lang/invoke/MethodHandle" ∧ y_Bnd_routed.cls ≠ "java/lang/invoke/VarHandle" ∧ (parseMethodDescriptor y_Bnd_routed.desc).map (fun d => d.parameters.length) = some 0 := by decide +kernel
theorem hd_Bnd_untie : y_Bnd_untie.cls ≠ "java/lang/invoke/MethodHandle" ∧ y_Bnd_untie.cls ≠ "java/lang/invoke/VarHandle" ∧ (parseMethodDescriptor y_Bnd_untie.desc).map (fun d => d.parameters.length) = some 0 := by decide +kernel
theorem hd_Bnd_countRouted : y_Bnd_countRouted.cls ≠ "java/lang/invoke/MethodHandle" ∧ y_Bnd_countRouted.cls ≠ "java/lang/invoke/VarHandle" ∧ (parseMethodDescriptor y_Bnd_countRouted.desc).map (fun d => d.parameters.length) = some 0 := by decide +kernel
theorem hd_Kt_text : y_Kt_text.cls ≠ "java/lang/invoke/MethodHandle" ∧ y_Kt_text.cls ≠ "java/lang/invoke/VarHandle" ∧ (parseMethodDescriptor y_Kt_text.desc).map (fun d => d.parameters.length) = some 0 := by decide +kernel
theorem hd_Kt_value : y_Kt_value.cls ≠ "java/lang/invoke/MethodHandle" ∧ y_Kt_value.cls ≠ "java/lang/invoke/VarHandle" ∧ (parseMethodDescriptor y_Kt_value.desc).map (fun d => d.parameters.length) = some 0 := by decide +kernel
theorem hd_Kt_setValue : y_Kt_setValue.cls ≠ "java/lang/invoke/MethodHandle" ∧ y_Kt_setValue.cls ≠ "java/lang/invoke/VarHandle" ∧ (parseMethodDescriptor y_Kt_setValue.desc).map (fun d => d.parameters.length) = some 1 := by decide +kernel
theorem hd_Rs_init : y_Rs_init.cls ≠ "java/lang/invoke/MethodHandle" ∧ y_Rs_init.cls ≠ "java/lang/invoke/VarHandle" ∧ (parseMethodDescriptor y_Rs_init.desc).map (fun d => d.parameters.length) = some 0 := by decide +kernel
theorem hd_Rs_addWord : y_Rs_addWord.cls ≠ "java/lang/invoke/MethodHandle" ∧ y_Rs_addWord.cls ≠ "java/lang/invoke/VarHandle" ∧ (parseMethodDescriptor y_Rs_addWord.desc).map (fun d => d.parameters.length) = some 1 := by decide +kernel
theorem hd_Rs_addState : y_Rs_addState.cls ≠ "java/lang/invoke/MethodHandle" ∧ y_Rs_addState.cls ≠ "java/lang/invoke/VarHandle" ∧ (parseMethodDescriptor y_Rs_addState.desc).map (fun d => d.parameters.length) = some 2 := by decide +kernel
theorem hd_Shelf_size : y_Shelf_size.cls ≠ "java/lang/invoke/MethodHandle" ∧ y_Shelf_size.cls ≠ "java/lang/invoke/VarHandle" ∧ (parseMethodDescriptor y_Shelf_size.desc).map (fun d => d.parameters.length) = some 0 := by decide +kernel
theorem hd_Shelf_isPlace : y_Shelf_isPlace.cls ≠ "java/lang/invoke/MethodHandle" ∧ y_Shelf_isPlace.cls ≠ "java/lang/invoke/VarHandle" ∧ (parseMethodDescriptor y_Shelf_isPlace.desc).map (fun d => d.parameters.length) = some 1 := by decide +kernel
theorem hd_Text_init : y_Text_init.cls ≠ "java/lang/invoke/MethodHandle" ∧ y_Text_init.cls ≠ "java/lang/invoke/VarHandle" ∧ (parseMethodDescriptor y_Text_init.desc).map (fun d => d.parameters.length) = some 0 := by decide +kernel
theorem hd_Text_length : y_Text_length.cls ≠ "java/lang/invoke/MethodHandle" ∧ y_Text_length.cls ≠ "java/lang/invoke/VarHandle" ∧ (parseMethodDescriptor y_Text_length.desc).map (fun d => d.parameters.length) = some 0 := by decide +kernel
theorem hd_Text_partCount : y_Text_partCount.cls ≠ "java/lang/invoke/MethodHandle" ∧ y_Text_partCount.cls ≠ "java/lang/invoke/VarHandle" ∧ (parseMethodDescriptor y_Text_partCount.desc).map (fun d => d.parameters.length) = some 0 := by decide +kernel
theorem hd_Text_signAt : y_Text_signAt.cls ≠ "java/lang/invoke/MethodHandle" ∧ y_Text_signAt.cls ≠ "java/lang/invoke/VarHandle" ∧ (parseMethodDescriptor y_Text_signAt.desc).map (fun d => d.parameters.length) = some 1 := by decide +kernel
theorem hd_Text_partAt : y_Text_partAt.cls ≠ "java/lang/invoke/MethodHandle" ∧ y_Text_partAt.cls ≠ "java/lang/invoke/VarHandle" ∧ (parseMethodDescriptor y_Text_partAt.desc).map (fun d => d.parameters.length) = some 1 := by decide +kernel
theorem hd_Text_add : y_Text_add.cls ≠ "java/lang/invoke/MethodHandle" ∧ y_Text_add.cls ≠ "java/lang/invoke/VarHandle" ∧ (parseMethodDescriptor y_Text_add.desc).map (fun d => d.parameters.length) = some 1 := by decide +kernel
theorem hd_Text_clear : y_Text_clear.cls ≠ "java/lang/invoke/MethodHandle" ∧ y_Text_clear.cls ≠ "java/lang/invoke/VarHandle" ∧ (parseMethodDescriptor y_Text_clear.desc).map (fun d => d.parameters.length) = some 0 := by decide +kernel
theorem hd_Text_compareSigns : y_Text_compareSigns.cls ≠ "java/lang/invoke/MethodHandle" ∧ y_Text_compareSigns.cls ≠ "java/lang/invoke/VarHandle" ∧ (parseMethodDescriptor y_Text_compareSigns.desc).map (fun d => d.parameters.length) = some 1 := by decide +kernel
theorem hd_Text_startPlaces : y_Text_startPlaces.cls ≠ "java/lang/invoke/MethodHandle" ∧ y_Text_startPlaces.cls ≠ "java/lang/invoke/VarHandle" ∧ (parseMethodDescriptor y_Text_startPlaces.desc).map (fun d => d.parameters.length) = some 0 := by decide +kernel
theorem hd_Text_placesBehind : y_Text_placesBehind.cls ≠ "java/lang/invoke/MethodHandle" ∧ y_Text_placesBehind.cls ≠ "java/lang/invoke/VarHandle" ∧ (parseMethodDescriptor y_Text_placesBehind.desc).map (fun d => d.parameters.length) = some 2 := by decide +kernel
theorem hd_Text_hasEnd : y_Text_hasEnd.cls ≠ "java/lang/invoke/MethodHandle" ∧ y_Text_hasEnd.cls ≠ "java/lang/invoke/VarHandle" ∧ (parseMethodDescriptor y_Text_hasEnd.desc).map (fun d => d.parameters.length) = some 1 := by decide +kernel
theorem hd_Text_addPart : y_Text_addPart.cls ≠ "java/lang/invoke/MethodHandle" ∧ y_Text_addPart.cls ≠ "java/lang/invoke/VarHandle" ∧ (parseMethodDescriptor y_Text_addPart.desc).map (fun d => d.parameters.length) = some 1 := by decide +kernel
theorem hd_Text_isWild : y_Text_isWild.cls ≠ "java/lang/invoke/MethodHandle" ∧ y_Text_isWild.cls ≠ "java/lang/invoke/VarHandle" ∧ (parseMethodDescriptor y_Text_isWild.desc).map (fun d => d.parameters.length) = some 1 := by decide +kernel
theorem hd_Text_isWordSign : y_Text_isWordSign.cls ≠ "java/lang/invoke/MethodHandle" ∧ y_Text_isWordSign.cls ≠ "java/lang/invoke/VarHandle" ∧ (parseMethodDescriptor y_Text_isWordSign.desc).map (fun d => d.parameters.length) = some 1 := by decide +kernel
theorem hd_Arr_fill : y_Arr_fill.cls ≠ "java/lang/invoke/MethodHandle" ∧ y_Arr_fill.cls ≠ "java/lang/invoke/VarHandle" ∧ (parseMethodDescriptor y_Arr_fill.desc).map (fun d => d.parameters.length) = some 2 := by decide +kernel
theorem hd_Desk_type : y_Desk_type.cls ≠ "java/lang/invoke/MethodHandle" ∧ y_Desk_type.cls ≠ "java/lang/invoke/VarHandle" ∧ (parseMethodDescriptor y_Desk_type.desc).map (fun d => d.parameters.length) = some 2 := by decide +kernel
theorem hd_Desk_leastFreeBinding : y_Desk_leastFreeBinding.cls ≠ "java/lang/invoke/MethodHandle" ∧ y_Desk_leastFreeBinding.cls ≠ "java/lang/invoke/VarHandle" ∧ (parseMethodDescriptor y_Desk_leastFreeBinding.desc).map (fun d => d.parameters.length) = some 0 := by decide +kernel
theorem hd_Desk_boundAt : y_Desk_boundAt.cls ≠ "java/lang/invoke/MethodHandle" ∧ y_Desk_boundAt.cls ≠ "java/lang/invoke/VarHandle" ∧ (parseMethodDescriptor y_Desk_boundAt.desc).map (fun d => d.parameters.length) = some 1 := by decide +kernel
theorem hd_Mod_fewest : y_Mod_fewest.cls ≠ "java/lang/invoke/MethodHandle" ∧ y_Mod_fewest.cls ≠ "java/lang/invoke/VarHandle" ∧ (parseMethodDescriptor y_Mod_fewest.desc).map (fun d => d.parameters.length) = some 3 := by decide +kernel
theorem hd_Mod_both : y_Mod_both.cls ≠ "java/lang/invoke/MethodHandle" ∧ y_Mod_both.cls ≠ "java/lang/invoke/VarHandle" ∧ (parseMethodDescriptor y_Mod_both.desc).map (fun d => d.parameters.length) = some 2 := by decide +kernel
theorem hd_Mod_only : y_Mod_only.cls ≠ "java/lang/invoke/MethodHandle" ∧ y_Mod_only.cls ≠ "java/lang/invoke/VarHandle" ∧ (parseMethodDescriptor y_Mod_only.desc).map (fun d => d.parameters.length) = some 2 := by decide +kernel
theorem hd_Mod_spare : y_Mod_spare.cls ≠ "java/lang/invoke/MethodHandle" ∧ y_Mod_spare.cls ≠ "java/lang/invoke/VarHandle" ∧ (parseMethodDescriptor y_Mod_spare.desc).map (fun d => d.parameters.length) = some 1 := by decide +kernel
theorem hd_Bnd_init : y_Bnd_init.cls ≠ "java/lang/invoke/MethodHandle" ∧ y_Bnd_init.cls ≠ "java/lang/invoke/VarHandle" ∧ (parseMethodDescriptor y_Bnd_init.desc).map (fun d => d.parameters.length) = some 0 := by decide +kernel
theorem hd_Kt_init : y_Kt_init.cls ≠ "java/lang/invoke/MethodHandle" ∧ y_Kt_init.cls ≠ "java/lang/invoke/VarHandle" ∧ (parseMethodDescriptor y_Kt_init.desc).map (fun d => d.parameters.length) = some 0 := by decide +kernel
theorem hd_Rs_collectWords : y_Rs_collectWords.cls ≠ "java/lang/invoke/MethodHandle" ∧ y_Rs_collectWords.cls ≠ "java/lang/invoke/VarHandle" ∧ (parseMethodDescriptor y_Rs_collectWords.desc).map (fun d => d.parameters.length) = some 2 := by decide +kernel
theorem hd_Rs_addStates : y_Rs_addStates.cls ≠ "java/lang/invoke/MethodHandle" ∧ y_Rs_addStates.cls ≠ "java/lang/invoke/VarHandle" ∧ (parseMethodDescriptor y_Rs_addStates.desc).map (fun d => d.parameters.length) = some 3 := by decide +kernel
theorem hd_Shelf_init : y_Shelf_init.cls ≠ "java/lang/invoke/MethodHandle" ∧ y_Shelf_init.cls ≠ "java/lang/invoke/VarHandle" ∧ (parseMethodDescriptor y_Shelf_init.desc).map (fun d => d.parameters.length) = some 0 := by decide +kernel
theorem hd_Shelf_placeFor : y_Shelf_placeFor.cls ≠ "java/lang/invoke/MethodHandle" ∧ y_Shelf_placeFor.cls ≠ "java/lang/invoke/VarHandle" ∧ (parseMethodDescriptor y_Shelf_placeFor.desc).map (fun d => d.parameters.length) = some 1 := by decide +kernel
theorem hd_Shelf_isAt : y_Shelf_isAt.cls ≠ "java/lang/invoke/MethodHandle" ∧ y_Shelf_isAt.cls ≠ "java/lang/invoke/VarHandle" ∧ (parseMethodDescriptor y_Shelf_isAt.desc).map (fun d => d.parameters.length) = some 2 := by decide +kernel
theorem hd_Shelf_move : y_Shelf_move.cls ≠ "java/lang/invoke/MethodHandle" ∧ y_Shelf_move.cls ≠ "java/lang/invoke/VarHandle" ∧ (parseMethodDescriptor y_Shelf_move.desc).map (fun d => d.parameters.length) = some 2 := by decide +kernel
theorem hd_Text_copy : y_Text_copy.cls ≠ "java/lang/invoke/MethodHandle" ∧ y_Text_copy.cls ≠ "java/lang/invoke/VarHandle" ∧ (parseMethodDescriptor y_Text_copy.desc).map (fun d => d.parameters.length) = some 1 := by decide +kernel
theorem hd_Text_takes : y_Text_takes.cls ≠ "java/lang/invoke/MethodHandle" ∧ y_Text_takes.cls ≠ "java/lang/invoke/VarHandle" ∧ (parseMethodDescriptor y_Text_takes.desc).map (fun d => d.parameters.length) = some 1 := by decide +kernel
theorem hd_Text_canStand : y_Text_canStand.cls ≠ "java/lang/invoke/MethodHandle" ∧ y_Text_canStand.cls ≠ "java/lang/invoke/VarHandle" ∧ (parseMethodDescriptor y_Text_canStand.desc).map (fun d => d.parameters.length) = some 3 := by decide +kernel
theorem hd_Desk_init : y_Desk_init.cls ≠ "java/lang/invoke/MethodHandle" ∧ y_Desk_init.cls ≠ "java/lang/invoke/VarHandle" ∧ (parseMethodDescriptor y_Desk_init.desc).map (fun d => d.parameters.length) = some 0 := by decide +kernel
theorem hd_Desk_free : y_Desk_free.cls ≠ "java/lang/invoke/MethodHandle" ∧ y_Desk_free.cls ≠ "java/lang/invoke/VarHandle" ∧ (parseMethodDescriptor y_Desk_free.desc).map (fun d => d.parameters.length) = some 1 := by decide +kernel
theorem hd_Desk_sign : y_Desk_sign.cls ≠ "java/lang/invoke/MethodHandle" ∧ y_Desk_sign.cls ≠ "java/lang/invoke/VarHandle" ∧ (parseMethodDescriptor y_Desk_sign.desc).map (fun d => d.parameters.length) = some 2 := by decide +kernel
theorem hd_Bnd_tie : y_Bnd_tie.cls ≠ "java/lang/invoke/MethodHandle" ∧ y_Bnd_tie.cls ≠ "java/lang/invoke/VarHandle" ∧ (parseMethodDescriptor y_Bnd_tie.desc).map (fun d => d.parameters.length) = some 2 := by decide +kernel
theorem hd_Kt_setText : y_Kt_setText.cls ≠ "java/lang/invoke/MethodHandle" ∧ y_Kt_setText.cls ≠ "java/lang/invoke/VarHandle" ∧ (parseMethodDescriptor y_Kt_setText.desc).map (fun d => d.parameters.length) = some 1 := by decide +kernel
theorem hd_Rs_fewestWords : y_Rs_fewestWords.cls ≠ "java/lang/invoke/MethodHandle" ∧ y_Rs_fewestWords.cls ≠ "java/lang/invoke/VarHandle" ∧ (parseMethodDescriptor y_Rs_fewestWords.desc).map (fun d => d.parameters.length) = some 3 := by decide +kernel
theorem hd_Shelf_put : y_Shelf_put.cls ≠ "java/lang/invoke/MethodHandle" ∧ y_Shelf_put.cls ≠ "java/lang/invoke/VarHandle" ∧ (parseMethodDescriptor y_Shelf_put.desc).map (fun d => d.parameters.length) = some 2 := by decide +kernel
theorem hd_Shelf_drop : y_Shelf_drop.cls ≠ "java/lang/invoke/MethodHandle" ∧ y_Shelf_drop.cls ≠ "java/lang/invoke/VarHandle" ∧ (parseMethodDescriptor y_Shelf_drop.desc).map (fun d => d.parameters.length) = some 1 := by decide +kernel
theorem hd_Shelf_countTakenBy : y_Shelf_countTakenBy.cls ≠ "java/lang/invoke/MethodHandle" ∧ y_Shelf_countTakenBy.cls ≠ "java/lang/invoke/VarHandle" ∧ (parseMethodDescriptor y_Shelf_countTakenBy.desc).map (fun d => d.parameters.length) = some 1 := by decide +kernel
theorem hd_Shelf_takenBy : y_Shelf_takenBy.cls ≠ "java/lang/invoke/MethodHandle" ∧ y_Shelf_takenBy.cls ≠ "java/lang/invoke/VarHandle" ∧ (parseMethodDescriptor y_Shelf_takenBy.desc).map (fun d => d.parameters.length) = some 2 := by decide +kernel
theorem hd_Text_read : y_Text_read.cls ≠ "java/lang/invoke/MethodHandle" ∧ y_Text_read.cls ≠ "java/lang/invoke/VarHandle" ∧ (parseMethodDescriptor y_Text_read.desc).map (fun d => d.parameters.length) = some 1 := by decide +kernel
theorem hd_Desk_about : y_Desk_about.cls ≠ "java/lang/invoke/MethodHandle" ∧ y_Desk_about.cls ≠ "java/lang/invoke/VarHandle" ∧ (parseMethodDescriptor y_Desk_about.desc).map (fun d => d.parameters.length) = some 2 := by decide +kernel
theorem hd_Desk_kept : y_Desk_kept.cls ≠ "java/lang/invoke/MethodHandle" ∧ y_Desk_kept.cls ≠ "java/lang/invoke/VarHandle" ∧ (parseMethodDescriptor y_Desk_kept.desc).map (fun d => d.parameters.length) = some 2 := by decide +kernel
theorem hd_Desk_takeTape : y_Desk_takeTape.cls ≠ "java/lang/invoke/MethodHandle" ∧ y_Desk_takeTape.cls ≠ "java/lang/invoke/VarHandle" ∧ (parseMethodDescriptor y_Desk_takeTape.desc).map (fun d => d.parameters.length) = some 1 := by decide +kernel
theorem hd_Desk_fewestWords : y_Desk_fewestWords.cls ≠ "java/lang/invoke/MethodHandle" ∧ y_Desk_fewestWords.cls ≠ "java/lang/invoke/VarHandle" ∧ (parseMethodDescriptor y_Desk_fewestWords.desc).map (fun d => d.parameters.length) = some 3 := by decide +kernel
theorem hd_Desk_isWithin : y_Desk_isWithin.cls ≠ "java/lang/invoke/MethodHandle" ∧ y_Desk_isWithin.cls ≠ "java/lang/invoke/VarHandle" ∧ (parseMethodDescriptor y_Desk_isWithin.desc).map (fun d => d.parameters.length) = some 2 := by decide +kernel
theorem hd_Law_kept : y_Law_kept.cls ≠ "java/lang/invoke/MethodHandle" ∧ y_Law_kept.cls ≠ "java/lang/invoke/VarHandle" ∧ (parseMethodDescriptor y_Law_kept.desc).map (fun d => d.parameters.length) = some 4 := by decide +kernel
theorem hd_Desk_bind : y_Desk_bind.cls ≠ "java/lang/invoke/MethodHandle" ∧ y_Desk_bind.cls ≠ "java/lang/invoke/VarHandle" ∧ (parseMethodDescriptor y_Desk_bind.desc).map (fun d => d.parameters.length) = some 1 := by decide +kernel
theorem hd_Desk_route : y_Desk_route.cls ≠ "java/lang/invoke/MethodHandle" ∧ y_Desk_route.cls ≠ "java/lang/invoke/VarHandle" ∧ (parseMethodDescriptor y_Desk_route.desc).map (fun d => d.parameters.length) = some 0 := by decide +kernel
theorem hd_Desk_keep : y_Desk_keep.cls ≠ "java/lang/invoke/MethodHandle" ∧ y_Desk_keep.cls ≠ "java/lang/invoke/VarHandle" ∧ (parseMethodDescriptor y_Desk_keep.desc).map (fun d => d.parameters.length) = some 1 := by decide +kernel
theorem hd_Desk_lose : y_Desk_lose.cls ≠ "java/lang/invoke/MethodHandle" ∧ y_Desk_lose.cls ≠ "java/lang/invoke/VarHandle" ∧ (parseMethodDescriptor y_Desk_lose.desc).map (fun d => d.parameters.length) = some 0 := by decide +kernel
theorem hd_Desk_both : y_Desk_both.cls ≠ "java/lang/invoke/MethodHandle" ∧ y_Desk_both.cls ≠ "java/lang/invoke/VarHandle" ∧ (parseMethodDescriptor y_Desk_both.desc).map (fun d => d.parameters.length) = some 2 := by decide +kernel
theorem hd_Desk_only : y_Desk_only.cls ≠ "java/lang/invoke/MethodHandle" ∧ y_Desk_only.cls ≠ "java/lang/invoke/VarHandle" ∧ (parseMethodDescriptor y_Desk_only.desc).map (fun d => d.parameters.length) = some 2 := by decide +kernel
theorem hd_Desk_isSpare : y_Desk_isSpare.cls ≠ "java/lang/invoke/MethodHandle" ∧ y_Desk_isSpare.cls ≠ "java/lang/invoke/VarHandle" ∧ (parseMethodDescriptor y_Desk_isSpare.desc).map (fun d => d.parameters.length) = some 2 := by decide +kernel
theorem hd_Law_bind : y_Law_bind.cls ≠ "java/lang/invoke/MethodHandle" ∧ y_Law_bind.cls ≠ "java/lang/invoke/VarHandle" ∧ (parseMethodDescriptor y_Law_bind.desc).map (fun d => d.parameters.length) = some 3 := by decide +kernel
theorem hd_Law_route : y_Law_route.cls ≠ "java/lang/invoke/MethodHandle" ∧ y_Law_route.cls ≠ "java/lang/invoke/VarHandle" ∧ (parseMethodDescriptor y_Law_route.desc).map (fun d => d.parameters.length) = some 2 := by decide +kernel
theorem hd_Law_keep : y_Law_keep.cls ≠ "java/lang/invoke/MethodHandle" ∧ y_Law_keep.cls ≠ "java/lang/invoke/VarHandle" ∧ (parseMethodDescriptor y_Law_keep.desc).map (fun d => d.parameters.length) = some 3 := by decide +kernel
theorem hd_Law_lose : y_Law_lose.cls ≠ "java/lang/invoke/MethodHandle" ∧ y_Law_lose.cls ≠ "java/lang/invoke/VarHandle" ∧ (parseMethodDescriptor y_Law_lose.desc).map (fun d => d.parameters.length) = some 2 := by decide +kernel
theorem hd_Desk_spare : y_Desk_spare.cls ≠ "java/lang/invoke/MethodHandle" ∧ y_Desk_spare.cls ≠ "java/lang/invoke/VarHandle" ∧ (parseMethodDescriptor y_Desk_spare.desc).map (fun d => d.parameters.length) = some 1 := by decide +kernel
