-- ===== PART A: goes FIRST, ahead of the names: the tables' words, and 'selects' of the private methods out of them =====
/-- a private method of a class that the tables say can be made, by its rows of tables_1 -/
def lw_okq (q : MethodName × Nat) : Prop := (q.1.cls ≠ "java/lang/invoke/MethodHandle" ∧ q.1.cls ≠ "java/lang/invoke/VarHandle") ∧ Cond.instantiable q.1.cls q.2 ∈ tables_1 ∧ Cond.privateMethod q.1 ∈ tables_1 ∧ Cond.instanceMethod q.1 ∈ tables_1
theorem lw_p0 : lw_okq (⟨"VerseCustoms$Text", "goOn", "()V"⟩, 10) := ⟨⟨by decide +kernel, by decide +kernel⟩, List.mem_of_getElem? (i := 108) (by decide +kernel), List.mem_of_getElem? (i := 389) (by decide +kernel), List.mem_of_getElem? (i := 390) (by decide +kernel)⟩
theorem lw_p1 : lw_okq (⟨"VerseCustoms$Text", "letterAt", "(I)I"⟩, 10) := ⟨⟨by decide +kernel, by decide +kernel⟩, List.mem_of_getElem? (i := 108) (by decide +kernel), List.mem_of_getElem? (i := 393) (by decide +kernel), List.mem_of_getElem? (i := 394) (by decide +kernel)⟩
theorem lw_p2 : lw_okq (⟨"VerseCustoms$Text", "sortAt", "(I)I"⟩, 10) := ⟨⟨by decide +kernel, by decide +kernel⟩, List.mem_of_getElem? (i := 108) (by decide +kernel), List.mem_of_getElem? (i := 397) (by decide +kernel), List.mem_of_getElem? (i := 398) (by decide +kernel)⟩
theorem lw_p3 : lw_okq (⟨"VerseCustoms$Text", "readClause", "(I)Z"⟩, 10) := ⟨⟨by decide +kernel, by decide +kernel⟩, List.mem_of_getElem? (i := 108) (by decide +kernel), List.mem_of_getElem? (i := 401) (by decide +kernel), List.mem_of_getElem? (i := 402) (by decide +kernel)⟩
theorem lw_p4 : lw_okq (⟨"VerseCustoms$Text", "clauseHere", "()I"⟩, 10) := ⟨⟨by decide +kernel, by decide +kernel⟩, List.mem_of_getElem? (i := 108) (by decide +kernel), List.mem_of_getElem? (i := 405) (by decide +kernel), List.mem_of_getElem? (i := 406) (by decide +kernel)⟩
theorem lw_p5 : lw_okq (⟨"VerseCustoms$Text", "isHere", "(Ljava/lang/String;)Z"⟩, 10) := ⟨⟨by decide +kernel, by decide +kernel⟩, List.mem_of_getElem? (i := 108) (by decide +kernel), List.mem_of_getElem? (i := 426) (by decide +kernel), List.mem_of_getElem? (i := 427) (by decide +kernel)⟩
theorem lw_p6 : lw_okq (⟨"VerseCustoms$Text", "hasRoomFor", "(I)Z"⟩, 10) := ⟨⟨by decide +kernel, by decide +kernel⟩, List.mem_of_getElem? (i := 108) (by decide +kernel), List.mem_of_getElem? (i := 478) (by decide +kernel), List.mem_of_getElem? (i := 479) (by decide +kernel)⟩
theorem lw_p7 : lw_okq (⟨"VerseCustoms$Text", "numberHere", "()I"⟩, 10) := ⟨⟨by decide +kernel, by decide +kernel⟩, List.mem_of_getElem? (i := 108) (by decide +kernel), List.mem_of_getElem? (i := 491) (by decide +kernel), List.mem_of_getElem? (i := 492) (by decide +kernel)⟩
theorem lw_p8 : lw_okq (⟨"VerseCustoms", "areKnown", "(II)Z"⟩, 10) := ⟨⟨by decide +kernel, by decide +kernel⟩, List.mem_of_getElem? (i := 20) (by decide +kernel), List.mem_of_getElem? (i := 668) (by decide +kernel), List.mem_of_getElem? (i := 669) (by decide +kernel)⟩
theorem lw_p9 : lw_okq (⟨"VerseCustoms$Demand", "begin", "(I)V"⟩, 5) := ⟨⟨by decide +kernel, by decide +kernel⟩, List.mem_of_getElem? (i := 195) (by decide +kernel), List.mem_of_getElem? (i := 780) (by decide +kernel), List.mem_of_getElem? (i := 781) (by decide +kernel)⟩
theorem lw_p10 : lw_okq (⟨"VerseCustoms$Demand", "hear", "(II)V"⟩, 5) := ⟨⟨by decide +kernel, by decide +kernel⟩, List.mem_of_getElem? (i := 195) (by decide +kernel), List.mem_of_getElem? (i := 786) (by decide +kernel), List.mem_of_getElem? (i := 787) (by decide +kernel)⟩
theorem lw_p11 : lw_okq (⟨"VerseCustoms", "fewestOrHowMany", "(I)I"⟩, 10) := ⟨⟨by decide +kernel, by decide +kernel⟩, List.mem_of_getElem? (i := 20) (by decide +kernel), List.mem_of_getElem? (i := 793) (by decide +kernel), List.mem_of_getElem? (i := 794) (by decide +kernel)⟩
theorem lw_p12 : lw_okq (⟨"VerseCustoms$Endings", "begin", "(Z)V"⟩, 7) := ⟨⟨by decide +kernel, by decide +kernel⟩, List.mem_of_getElem? (i := 218) (by decide +kernel), List.mem_of_getElem? (i := 801) (by decide +kernel), List.mem_of_getElem? (i := 802) (by decide +kernel)⟩
theorem lw_p13 : lw_okq (⟨"VerseCustoms$Endings", "fill", "(I)V"⟩, 7) := ⟨⟨by decide +kernel, by decide +kernel⟩, List.mem_of_getElem? (i := 218) (by decide +kernel), List.mem_of_getElem? (i := 806) (by decide +kernel), List.mem_of_getElem? (i := 807) (by decide +kernel)⟩
theorem lw_p14 : lw_okq (⟨"VerseCustoms$Endings", "leastWith", "(IIII)I"⟩, 7) := ⟨⟨by decide +kernel, by decide +kernel⟩, List.mem_of_getElem? (i := 218) (by decide +kernel), List.mem_of_getElem? (i := 810) (by decide +kernel), List.mem_of_getElem? (i := 811) (by decide +kernel)⟩
theorem lw_p15 : lw_okq (⟨"VerseCustoms$Endings", "leastAt", "(III)I"⟩, 7) := ⟨⟨by decide +kernel, by decide +kernel⟩, List.mem_of_getElem? (i := 218) (by decide +kernel), List.mem_of_getElem? (i := 825) (by decide +kernel), List.mem_of_getElem? (i := 826) (by decide +kernel)⟩
def lw_privs_1 : List (MethodName × Nat) := [(⟨"VerseCustoms$Text", "goOn", "()V"⟩, 10), (⟨"VerseCustoms$Text", "letterAt", "(I)I"⟩, 10), (⟨"VerseCustoms$Text", "sortAt", "(I)I"⟩, 10), (⟨"VerseCustoms$Text", "readClause", "(I)Z"⟩, 10), (⟨"VerseCustoms$Text", "clauseHere", "()I"⟩, 10), (⟨"VerseCustoms$Text", "isHere", "(Ljava/lang/String;)Z"⟩, 10), (⟨"VerseCustoms$Text", "hasRoomFor", "(I)Z"⟩, 10), (⟨"VerseCustoms$Text", "numberHere", "()I"⟩, 10), (⟨"VerseCustoms", "areKnown", "(II)Z"⟩, 10), (⟨"VerseCustoms$Demand", "begin", "(I)V"⟩, 5), (⟨"VerseCustoms$Demand", "hear", "(II)V"⟩, 5), (⟨"VerseCustoms", "fewestOrHowMany", "(I)I"⟩, 10), (⟨"VerseCustoms$Endings", "begin", "(Z)V"⟩, 7), (⟨"VerseCustoms$Endings", "fill", "(I)V"⟩, 7), (⟨"VerseCustoms$Endings", "leastWith", "(IIII)I"⟩, 7), (⟨"VerseCustoms$Endings", "leastAt", "(III)I"⟩, 7)]
theorem lw_r1 : ∀ q ∈ lw_privs_1, lw_okq q := List.forall_mem_cons.mpr ⟨lw_p0, List.forall_mem_cons.mpr ⟨lw_p1, List.forall_mem_cons.mpr ⟨lw_p2, List.forall_mem_cons.mpr ⟨lw_p3, List.forall_mem_cons.mpr ⟨lw_p4, List.forall_mem_cons.mpr ⟨lw_p5, List.forall_mem_cons.mpr ⟨lw_p6, List.forall_mem_cons.mpr ⟨lw_p7, List.forall_mem_cons.mpr ⟨lw_p8, List.forall_mem_cons.mpr ⟨lw_p9, List.forall_mem_cons.mpr ⟨lw_p10, List.forall_mem_cons.mpr ⟨lw_p11, List.forall_mem_cons.mpr ⟨lw_p12, List.forall_mem_cons.mpr ⟨lw_p13, List.forall_mem_cons.mpr ⟨lw_p14, List.forall_mem_cons.mpr ⟨lw_p15, fun _ h => absurd h List.not_mem_nil⟩⟩⟩⟩⟩⟩⟩⟩⟩⟩⟩⟩⟩⟩⟩⟩
theorem lw_p16 : lw_okq (⟨"VerseCustoms$Endings", "manyWith", "(IIII)I"⟩, 7) := ⟨⟨by decide +kernel, by decide +kernel⟩, List.mem_of_getElem? (i := 218) (by decide +kernel), List.mem_of_getElem? (i := 833) (by decide +kernel), List.mem_of_getElem? (i := 834) (by decide +kernel)⟩
theorem lw_p17 : lw_okq (⟨"VerseCustoms$Endings", "manyAt", "(III)I"⟩, 7) := ⟨⟨by decide +kernel, by decide +kernel⟩, List.mem_of_getElem? (i := 218) (by decide +kernel), List.mem_of_getElem? (i := 837) (by decide +kernel), List.mem_of_getElem? (i := 838) (by decide +kernel)⟩
theorem lw_p18 : lw_okq (⟨"VerseCustoms$Endings", "firstWord", "(III)I"⟩, 7) := ⟨⟨by decide +kernel, by decide +kernel⟩, List.mem_of_getElem? (i := 218) (by decide +kernel), List.mem_of_getElem? (i := 854) (by decide +kernel), List.mem_of_getElem? (i := 855) (by decide +kernel)⟩
theorem lw_p19 : lw_okq (⟨"VerseCustoms$Hiding", "mostBehind", "(II)I"⟩, 2) := ⟨⟨by decide +kernel, by decide +kernel⟩, List.mem_of_getElem? (i := 250) (by decide +kernel), List.mem_of_getElem? (i := 875) (by decide +kernel), List.mem_of_getElem? (i := 876) (by decide +kernel)⟩
theorem lw_p20 : lw_okq (⟨"VerseCustoms$Ships", "weigh", "(I)V"⟩, 5) := ⟨⟨by decide +kernel, by decide +kernel⟩, List.mem_of_getElem? (i := 264) (by decide +kernel), List.mem_of_getElem? (i := 901) (by decide +kernel), List.mem_of_getElem? (i := 902) (by decide +kernel)⟩
theorem lw_p21 : lw_okq (⟨"VerseCustoms", "waresThatRhymesAllow", "()I"⟩, 10) := ⟨⟨by decide +kernel, by decide +kernel⟩, List.mem_of_getElem? (i := 20) (by decide +kernel), List.mem_of_getElem? (i := 911) (by decide +kernel), List.mem_of_getElem? (i := 912) (by decide +kernel)⟩
theorem lw_p22 : lw_okq (⟨"VerseCustoms", "portsWornOut", "()I"⟩, 10) := ⟨⟨by decide +kernel, by decide +kernel⟩, List.mem_of_getElem? (i := 20) (by decide +kernel), List.mem_of_getElem? (i := 918) (by decide +kernel), List.mem_of_getElem? (i := 919) (by decide +kernel)⟩
theorem lw_p23 : lw_okq (⟨"VerseCustoms", "paidInYear", "(I)I"⟩, 10) := ⟨⟨by decide +kernel, by decide +kernel⟩, List.mem_of_getElem? (i := 20) (by decide +kernel), List.mem_of_getElem? (i := 937) (by decide +kernel), List.mem_of_getElem? (i := 938) (by decide +kernel)⟩
theorem lw_p24 : lw_okq (⟨"VerseCustoms$Secret", "agrees", "()Z"⟩, 10) := ⟨⟨by decide +kernel, by decide +kernel⟩, List.mem_of_getElem? (i := 289) (by decide +kernel), List.mem_of_getElem? (i := 969) (by decide +kernel), List.mem_of_getElem? (i := 970) (by decide +kernel)⟩
theorem lw_p25 : lw_okq (⟨"VerseCustoms$Secret", "take", "()V"⟩, 10) := ⟨⟨by decide +kernel, by decide +kernel⟩, List.mem_of_getElem? (i := 289) (by decide +kernel), List.mem_of_getElem? (i := 976) (by decide +kernel), List.mem_of_getElem? (i := 977) (by decide +kernel)⟩
theorem lw_p26 : lw_okq (⟨"VerseCustoms$Secret", "moveOn", "()V"⟩, 10) := ⟨⟨by decide +kernel, by decide +kernel⟩, List.mem_of_getElem? (i := 289) (by decide +kernel), List.mem_of_getElem? (i := 988) (by decide +kernel), List.mem_of_getElem? (i := 989) (by decide +kernel)⟩
theorem lw_p27 : lw_okq (⟨"VerseCustoms", "openWares", "()I"⟩, 10) := ⟨⟨by decide +kernel, by decide +kernel⟩, List.mem_of_getElem? (i := 20) (by decide +kernel), List.mem_of_getElem? (i := 1008) (by decide +kernel), List.mem_of_getElem? (i := 1009) (by decide +kernel)⟩
theorem lw_p28 : lw_okq (⟨"VerseCustomsModel", "empties", "()V"⟩, 27) := ⟨⟨by decide +kernel, by decide +kernel⟩, List.mem_of_getElem? (i := 1012) (by decide +kernel), List.mem_of_getElem? (i := 1018) (by decide +kernel), List.mem_of_getElem? (i := 1019) (by decide +kernel)⟩
theorem lw_p29 : lw_okq (⟨"VerseCustomsModel", "reads", "()Z"⟩, 27) := ⟨⟨by decide +kernel, by decide +kernel⟩, List.mem_of_getElem? (i := 1012) (by decide +kernel), List.mem_of_getElem? (i := 1122) (by decide +kernel), List.mem_of_getElem? (i := 1123) (by decide +kernel)⟩
theorem lw_p30 : lw_okq (⟨"VerseCustomsModel", "looks", "()V"⟩, 27) := ⟨⟨by decide +kernel, by decide +kernel⟩, List.mem_of_getElem? (i := 1012) (by decide +kernel), List.mem_of_getElem? (i := 1126) (by decide +kernel), List.mem_of_getElem? (i := 1127) (by decide +kernel)⟩
theorem lw_p31 : lw_okq (⟨"VerseCustomsModel", "isAt", "(II)Z"⟩, 27) := ⟨⟨by decide +kernel, by decide +kernel⟩, List.mem_of_getElem? (i := 1012) (by decide +kernel), List.mem_of_getElem? (i := 1130) (by decide +kernel), List.mem_of_getElem? (i := 1131) (by decide +kernel)⟩
def lw_privs_2 : List (MethodName × Nat) := [(⟨"VerseCustoms$Endings", "manyWith", "(IIII)I"⟩, 7), (⟨"VerseCustoms$Endings", "manyAt", "(III)I"⟩, 7), (⟨"VerseCustoms$Endings", "firstWord", "(III)I"⟩, 7), (⟨"VerseCustoms$Hiding", "mostBehind", "(II)I"⟩, 2), (⟨"VerseCustoms$Ships", "weigh", "(I)V"⟩, 5), (⟨"VerseCustoms", "waresThatRhymesAllow", "()I"⟩, 10), (⟨"VerseCustoms", "portsWornOut", "()I"⟩, 10), (⟨"VerseCustoms", "paidInYear", "(I)I"⟩, 10), (⟨"VerseCustoms$Secret", "agrees", "()Z"⟩, 10), (⟨"VerseCustoms$Secret", "take", "()V"⟩, 10), (⟨"VerseCustoms$Secret", "moveOn", "()V"⟩, 10), (⟨"VerseCustoms", "openWares", "()I"⟩, 10), (⟨"VerseCustomsModel", "empties", "()V"⟩, 27), (⟨"VerseCustomsModel", "reads", "()Z"⟩, 27), (⟨"VerseCustomsModel", "looks", "()V"⟩, 27), (⟨"VerseCustomsModel", "isAt", "(II)Z"⟩, 27)]
theorem lw_r2 : ∀ q ∈ lw_privs_2, lw_okq q := List.forall_mem_cons.mpr ⟨lw_p16, List.forall_mem_cons.mpr ⟨lw_p17, List.forall_mem_cons.mpr ⟨lw_p18, List.forall_mem_cons.mpr ⟨lw_p19, List.forall_mem_cons.mpr ⟨lw_p20, List.forall_mem_cons.mpr ⟨lw_p21, List.forall_mem_cons.mpr ⟨lw_p22, List.forall_mem_cons.mpr ⟨lw_p23, List.forall_mem_cons.mpr ⟨lw_p24, List.forall_mem_cons.mpr ⟨lw_p25, List.forall_mem_cons.mpr ⟨lw_p26, List.forall_mem_cons.mpr ⟨lw_p27, List.forall_mem_cons.mpr ⟨lw_p28, List.forall_mem_cons.mpr ⟨lw_p29, List.forall_mem_cons.mpr ⟨lw_p30, List.forall_mem_cons.mpr ⟨lw_p31, fun _ h => absurd h List.not_mem_nil⟩⟩⟩⟩⟩⟩⟩⟩⟩⟩⟩⟩⟩⟩⟩⟩
theorem lw_p32 : lw_okq (⟨"VerseCustomsModel", "comes", "(I)Z"⟩, 27) := ⟨⟨by decide +kernel, by decide +kernel⟩, List.mem_of_getElem? (i := 1012) (by decide +kernel), List.mem_of_getElem? (i := 1153) (by decide +kernel), List.mem_of_getElem? (i := 1154) (by decide +kernel)⟩
theorem lw_p33 : lw_okq (⟨"VerseCustomsModel", "does", "(I)V"⟩, 27) := ⟨⟨by decide +kernel, by decide +kernel⟩, List.mem_of_getElem? (i := 1012) (by decide +kernel), List.mem_of_getElem? (i := 1170) (by decide +kernel), List.mem_of_getElem? (i := 1171) (by decide +kernel)⟩
theorem lw_p34 : lw_okq (⟨"VerseCustomsModel", "isWord", "(I)Z"⟩, 27) := ⟨⟨by decide +kernel, by decide +kernel⟩, List.mem_of_getElem? (i := 1012) (by decide +kernel), List.mem_of_getElem? (i := 1178) (by decide +kernel), List.mem_of_getElem? (i := 1179) (by decide +kernel)⟩
theorem lw_p35 : lw_okq (⟨"VerseCustomsModel", "isWare", "(I)Z"⟩, 27) := ⟨⟨by decide +kernel, by decide +kernel⟩, List.mem_of_getElem? (i := 1012) (by decide +kernel), List.mem_of_getElem? (i := 1187) (by decide +kernel), List.mem_of_getElem? (i := 1188) (by decide +kernel)⟩
theorem lw_p36 : lw_okq (⟨"VerseCustomsModel", "isClerk", "(I)Z"⟩, 27) := ⟨⟨by decide +kernel, by decide +kernel⟩, List.mem_of_getElem? (i := 1012) (by decide +kernel), List.mem_of_getElem? (i := 1196) (by decide +kernel), List.mem_of_getElem? (i := 1197) (by decide +kernel)⟩
theorem lw_p37 : lw_okq (⟨"VerseCustomsModel", "portsOf", "(I)I"⟩, 27) := ⟨⟨by decide +kernel, by decide +kernel⟩, List.mem_of_getElem? (i := 1012) (by decide +kernel), List.mem_of_getElem? (i := 1205) (by decide +kernel), List.mem_of_getElem? (i := 1206) (by decide +kernel)⟩
theorem lw_p38 : lw_okq (⟨"VerseCustomsModel", "kindOf", "(I)I"⟩, 27) := ⟨⟨by decide +kernel, by decide +kernel⟩, List.mem_of_getElem? (i := 1012) (by decide +kernel), List.mem_of_getElem? (i := 1214) (by decide +kernel), List.mem_of_getElem? (i := 1215) (by decide +kernel)⟩
theorem lw_p39 : lw_okq (⟨"VerseCustomsModel", "countedBy", "(I[II)I"⟩, 27) := ⟨⟨by decide +kernel, by decide +kernel⟩, List.mem_of_getElem? (i := 1012) (by decide +kernel), List.mem_of_getElem? (i := 1222) (by decide +kernel), List.mem_of_getElem? (i := 1223) (by decide +kernel)⟩
theorem lw_p40 : lw_okq (⟨"VerseCustomsModel", "toldOf", "([II)I"⟩, 27) := ⟨⟨by decide +kernel, by decide +kernel⟩, List.mem_of_getElem? (i := 1012) (by decide +kernel), List.mem_of_getElem? (i := 1226) (by decide +kernel), List.mem_of_getElem? (i := 1227) (by decide +kernel)⟩
theorem lw_p41 : lw_okq (⟨"VerseCustomsModel", "syllables", "(I)I"⟩, 27) := ⟨⟨by decide +kernel, by decide +kernel⟩, List.mem_of_getElem? (i := 1012) (by decide +kernel), List.mem_of_getElem? (i := 1230) (by decide +kernel), List.mem_of_getElem? (i := 1231) (by decide +kernel)⟩
theorem lw_p42 : lw_okq (⟨"VerseCustomsModel", "isScanned", "([II)Z"⟩, 27) := ⟨⟨by decide +kernel, by decide +kernel⟩, List.mem_of_getElem? (i := 1012) (by decide +kernel), List.mem_of_getElem? (i := 1254) (by decide +kernel), List.mem_of_getElem? (i := 1255) (by decide +kernel)⟩
theorem lw_p43 : lw_okq (⟨"VerseCustomsModel", "areBoth", "(II)Z"⟩, 27) := ⟨⟨by decide +kernel, by decide +kernel⟩, List.mem_of_getElem? (i := 1012) (by decide +kernel), List.mem_of_getElem? (i := 1262) (by decide +kernel), List.mem_of_getElem? (i := 1263) (by decide +kernel)⟩
theorem lw_p44 : lw_okq (⟨"VerseCustomsModel", "isPassed", "([IIII)Z"⟩, 27) := ⟨⟨by decide +kernel, by decide +kernel⟩, List.mem_of_getElem? (i := 1012) (by decide +kernel), List.mem_of_getElem? (i := 1266) (by decide +kernel), List.mem_of_getElem? (i := 1267) (by decide +kernel)⟩
theorem lw_p45 : lw_okq (⟨"VerseCustomsModel", "rhymes", "(II)Z"⟩, 27) := ⟨⟨by decide +kernel, by decide +kernel⟩, List.mem_of_getElem? (i := 1012) (by decide +kernel), List.mem_of_getElem? (i := 1270) (by decide +kernel), List.mem_of_getElem? (i := 1271) (by decide +kernel)⟩
theorem lw_p46 : lw_okq (⟨"VerseCustomsModel", "remembers", "()V"⟩, 27) := ⟨⟨by decide +kernel, by decide +kernel⟩, List.mem_of_getElem? (i := 1012) (by decide +kernel), List.mem_of_getElem? (i := 1278) (by decide +kernel), List.mem_of_getElem? (i := 1279) (by decide +kernel)⟩
theorem lw_p47 : lw_okq (⟨"VerseCustomsModel", "isWorn", "(I[II)Z"⟩, 27) := ⟨⟨by decide +kernel, by decide +kernel⟩, List.mem_of_getElem? (i := 1012) (by decide +kernel), List.mem_of_getElem? (i := 1282) (by decide +kernel), List.mem_of_getElem? (i := 1283) (by decide +kernel)⟩
def lw_privs_3 : List (MethodName × Nat) := [(⟨"VerseCustomsModel", "comes", "(I)Z"⟩, 27), (⟨"VerseCustomsModel", "does", "(I)V"⟩, 27), (⟨"VerseCustomsModel", "isWord", "(I)Z"⟩, 27), (⟨"VerseCustomsModel", "isWare", "(I)Z"⟩, 27), (⟨"VerseCustomsModel", "isClerk", "(I)Z"⟩, 27), (⟨"VerseCustomsModel", "portsOf", "(I)I"⟩, 27), (⟨"VerseCustomsModel", "kindOf", "(I)I"⟩, 27), (⟨"VerseCustomsModel", "countedBy", "(I[II)I"⟩, 27), (⟨"VerseCustomsModel", "toldOf", "([II)I"⟩, 27), (⟨"VerseCustomsModel", "syllables", "(I)I"⟩, 27), (⟨"VerseCustomsModel", "isScanned", "([II)Z"⟩, 27), (⟨"VerseCustomsModel", "areBoth", "(II)Z"⟩, 27), (⟨"VerseCustomsModel", "isPassed", "([IIII)Z"⟩, 27), (⟨"VerseCustomsModel", "rhymes", "(II)Z"⟩, 27), (⟨"VerseCustomsModel", "remembers", "()V"⟩, 27), (⟨"VerseCustomsModel", "isWorn", "(I[II)Z"⟩, 27)]
theorem lw_r3 : ∀ q ∈ lw_privs_3, lw_okq q := List.forall_mem_cons.mpr ⟨lw_p32, List.forall_mem_cons.mpr ⟨lw_p33, List.forall_mem_cons.mpr ⟨lw_p34, List.forall_mem_cons.mpr ⟨lw_p35, List.forall_mem_cons.mpr ⟨lw_p36, List.forall_mem_cons.mpr ⟨lw_p37, List.forall_mem_cons.mpr ⟨lw_p38, List.forall_mem_cons.mpr ⟨lw_p39, List.forall_mem_cons.mpr ⟨lw_p40, List.forall_mem_cons.mpr ⟨lw_p41, List.forall_mem_cons.mpr ⟨lw_p42, List.forall_mem_cons.mpr ⟨lw_p43, List.forall_mem_cons.mpr ⟨lw_p44, List.forall_mem_cons.mpr ⟨lw_p45, List.forall_mem_cons.mpr ⟨lw_p46, List.forall_mem_cons.mpr ⟨lw_p47, fun _ h => absurd h List.not_mem_nil⟩⟩⟩⟩⟩⟩⟩⟩⟩⟩⟩⟩⟩⟩⟩⟩
theorem lw_p48 : lw_okq (⟨"VerseCustomsModel", "pays", "(III)I"⟩, 27) := ⟨⟨by decide +kernel, by decide +kernel⟩, List.mem_of_getElem? (i := 1012) (by decide +kernel), List.mem_of_getElem? (i := 1286) (by decide +kernel), List.mem_of_getElem? (i := 1287) (by decide +kernel)⟩
theorem lw_p49 : lw_okq (⟨"VerseCustomsModel", "shortestOf", "(II)I"⟩, 27) := ⟨⟨by decide +kernel, by decide +kernel⟩, List.mem_of_getElem? (i := 1012) (by decide +kernel), List.mem_of_getElem? (i := 1314) (by decide +kernel), List.mem_of_getElem? (i := 1315) (by decide +kernel)⟩
theorem lw_p50 : lw_okq (⟨"VerseCustomsModel", "ways", "(I)I"⟩, 27) := ⟨⟨by decide +kernel, by decide +kernel⟩, List.mem_of_getElem? (i := 1012) (by decide +kernel), List.mem_of_getElem? (i := 1318) (by decide +kernel), List.mem_of_getElem? (i := 1319) (by decide +kernel)⟩
theorem lw_p51 : lw_okq (⟨"VerseCustomsModel", "lays", "(II)V"⟩, 27) := ⟨⟨by decide +kernel, by decide +kernel⟩, List.mem_of_getElem? (i := 1012) (by decide +kernel), List.mem_of_getElem? (i := 1322) (by decide +kernel), List.mem_of_getElem? (i := 1323) (by decide +kernel)⟩
theorem lw_p52 : lw_okq (⟨"VerseCustomsModel", "passesSome", "(III)Z"⟩, 27) := ⟨⟨by decide +kernel, by decide +kernel⟩, List.mem_of_getElem? (i := 1012) (by decide +kernel), List.mem_of_getElem? (i := 1326) (by decide +kernel), List.mem_of_getElem? (i := 1327) (by decide +kernel)⟩
theorem lw_p53 : lw_okq (⟨"VerseCustomsModel", "keepsFirst", "(I)V"⟩, 27) := ⟨⟨by decide +kernel, by decide +kernel⟩, List.mem_of_getElem? (i := 1012) (by decide +kernel), List.mem_of_getElem? (i := 1330) (by decide +kernel), List.mem_of_getElem? (i := 1331) (by decide +kernel)⟩
theorem lw_p54 : lw_okq (⟨"VerseCustomsModel", "weightOf", "(I)I"⟩, 27) := ⟨⟨by decide +kernel, by decide +kernel⟩, List.mem_of_getElem? (i := 1012) (by decide +kernel), List.mem_of_getElem? (i := 1355) (by decide +kernel), List.mem_of_getElem? (i := 1356) (by decide +kernel)⟩
theorem lw_p55 : lw_okq (⟨"VerseCustomsModel", "goesThrough", "()V"⟩, 27) := ⟨⟨by decide +kernel, by decide +kernel⟩, List.mem_of_getElem? (i := 1012) (by decide +kernel), List.mem_of_getElem? (i := 1387) (by decide +kernel), List.mem_of_getElem? (i := 1388) (by decide +kernel)⟩
def lw_privs_4 : List (MethodName × Nat) := [(⟨"VerseCustomsModel", "pays", "(III)I"⟩, 27), (⟨"VerseCustomsModel", "shortestOf", "(II)I"⟩, 27), (⟨"VerseCustomsModel", "ways", "(I)I"⟩, 27), (⟨"VerseCustomsModel", "lays", "(II)V"⟩, 27), (⟨"VerseCustomsModel", "passesSome", "(III)Z"⟩, 27), (⟨"VerseCustomsModel", "keepsFirst", "(I)V"⟩, 27), (⟨"VerseCustomsModel", "weightOf", "(I)I"⟩, 27), (⟨"VerseCustomsModel", "goesThrough", "()V"⟩, 27)]
theorem lw_r4 : ∀ q ∈ lw_privs_4, lw_okq q := List.forall_mem_cons.mpr ⟨lw_p48, List.forall_mem_cons.mpr ⟨lw_p49, List.forall_mem_cons.mpr ⟨lw_p50, List.forall_mem_cons.mpr ⟨lw_p51, List.forall_mem_cons.mpr ⟨lw_p52, List.forall_mem_cons.mpr ⟨lw_p53, List.forall_mem_cons.mpr ⟨lw_p54, List.forall_mem_cons.mpr ⟨lw_p55, fun _ h => absurd h List.not_mem_nil⟩⟩⟩⟩⟩⟩⟩⟩
def lw_privs : List (MethodName × Nat) := lw_privs_1 ++ (lw_privs_2 ++ (lw_privs_3 ++ (lw_privs_4)))
def lw_tbl : List Cond := k2_sels lw_privs ++ tables_1
theorem lw_privs_ok : ∀ q ∈ lw_privs, lw_okq q := by
  show ∀ q ∈ lw_privs_1 ++ (lw_privs_2 ++ (lw_privs_3 ++ (lw_privs_4))), lw_okq q
  exact List.forall_mem_append.mpr ⟨lw_r1, List.forall_mem_append.mpr ⟨lw_r2, List.forall_mem_append.mpr ⟨lw_r3, lw_r4⟩⟩⟩
-- ===== end of PART A; then your names; then what follows =====
def va_AOA (ty : FieldType) (U : State) : Prop := (Cond.arrayOver (.array ty)).before #[] U = true
theorem va_AOA.use {ty : FieldType} {A : Array Value} {U : State} (h : va_AOA ty U) : (Cond.arrayOver (.array ty)).before A U = true := h
/-! ===== BEGIN words of one list among another's, by their places ===== -/
theorem goodIn_r {big : List Cond} (ws : List Cond) (ps : List Nat) (hp : ws = ps.filterMap (fun i => big[i]?)) (h : ws.all goodWord = true) : GoodIn big ws := by
  intro w hw
  have h1 := List.all_eq_true.mp h w hw
  rw [hp] at hw
  obtain ⟨i, -, hi⟩ := List.mem_filterMap.mp hw
  have hm : w ∈ big := by first | exact List.mem_of_getElem? hi | exact List.getElem?_mem hi
  exact ⟨hm, good_of_word h1⟩
theorem goodIn_app {big a b : List Cond} (ha : GoodIn big a) (hb : GoodIn big b) : GoodIn big (a ++ b) := fun w h => (List.mem_append.mp h).elim (ha w) (hb w)
theorem goodIn_ca {big a b : List Cond} {c : Cond} (ha : GoodIn big (c :: a)) (hb : GoodIn big b) : GoodIn big (c :: (a ++ b)) := fun w h => (List.mem_cons.mp h).elim (fun e => ha w (List.mem_cons.mpr (Or.inl e))) (fun h => (List.mem_append.mp h).elim (fun h => ha w (List.mem_cons.mpr (Or.inr h))) (hb w))
theorem goodIn_sub {big ws : List Cond} (hm : ∀ w ∈ ws, w ∈ big) (h : ws.all goodWord = true) : GoodIn big ws := fun w hw => ⟨hm w hw, good_of_word (List.all_eq_true.mp h w hw)⟩
/-! ===== END ===== -/

/-! ===== BEGIN new T[n][m]: the outer array a place, the inner ones among the pooled ===== -/
/-- f, but v at every address of l -/
def vr_up {α : Type} (f : Nat → α) (l : List Nat) (v : α) : Nat → α := fun a => if a ∈ l then v else f a
theorem vr_up_in {α : Type} {f : Nat → α} {l : List Nat} {v : α} {a : Nat} (h : a ∈ l) : vr_up f l v a = v := if_pos h
theorem vr_up_ne {α : Type} {f : Nat → α} {l : List Nat} {v : α} {a : Nat} (h : a ∉ l) : vr_up f l v a = f a := if_neg h
theorem vr_rows {L l : List Nat} {f : Nat → va_E} {e : va_E} (h : ∀ a, a ∈ l → a ∉ L) : va_pl L f ++ l.map (fun a => (a, e)) = va_pl (L ++ l) (vr_up f l e) := by
  unfold va_pl
  rw [List.map_append]
  congr 1
  · apply List.map_congr_left
    intro a ha
    rw [vr_up_ne (fun q => h a q ha)]
  · apply List.map_congr_left
    intro a ha
    rw [vr_up_in ha]
theorem vr_lay {X rows : va_W} {x : Nat × va_E} {pl : va_W} {D : va_G} {cl : List vw_C} {H : Heap} (hP : va_P D cl (((X ++ pl) ++ [x]) ++ rows) H) : va_P D cl ((X ++ [x]) ++ (pl ++ rows)) H := by
  rw [List.append_assoc (X ++ pl)] at hP
  have h := va_P.swap hP
  rw [← List.append_assoc X] at h
  have h2 := va_P.swap h
  rw [List.append_assoc (X ++ [x])] at h2
  exact h2
theorem vr_layD {X rows : va_W} {x : Nat × va_E} {pl : va_W} {A : Nat → Prop} (hD : va_D A (((X ++ pl) ++ [x]) ++ rows)) : va_D A ((X ++ [x]) ++ (pl ++ rows)) := by
  rw [List.append_assoc (X ++ pl)] at hD
  have h := va_D.swap hD
  rw [← List.append_assoc X] at h
  have h2 := va_D.swap h
  rw [List.append_assoc (X ++ [x])] at h2
  exact h2
theorem vr_outer (c : ClassId) (N h0 : Nat) : ∀ i : Nat, Jvm.Free.Multi.outerC c N h0 i = arrV c N (fun j => va_rf (if j < i then some (h0 + 1 + j) else none))
  | 0 => by
    show ({ cls := c, slots := Array.replicate N .null, vm := .none } : Cell) = _
    rw [arrV_new]
    refine congrArg (arrV c N) (funext fun j => ?_)
    simp [va_rf]
  | i + 1 => by
    show (Jvm.Free.Multi.outerC c N h0 i).setSlot i (.ref (h0 + 1 + i)) = _
    rw [vr_outer c N h0 i, arrV_store]
    refine congrArg (arrV c N) (funext fun j => ?_)
    by_cases e : j = i
    · subst e
      simp [updV, va_rf]
    · by_cases h : j < i
      · simp [updV, e, h, Nat.lt_succ_of_lt h]
      · simp [updV, e, h, show ¬ j < i + 1 by omega]
section VGM
variable {p : Program} {l : Launch} {e : Env} {R : Room} {s : State} {m : MethodId} {args : Array Value} {below : List Frame} {meth : Method} {c : Code} {H : Heap} {locs : List Loc} {cells slots : Nat} {Q : State → Prop}
variable {cc : ByteArray} {pc : Nat} {ls : Array Slot} {rest : List Value} {D : va_G} {cl : List vw_C} {A : Nat → Prop} {a : Nat} {tys : List (ClassId × FieldType)} {ws : va_W} {H0 : Heap}
theorem va_mna {X : va_W} {L : List Nat} {f : Nat → va_E} {cc : ByteArray} (hexec : p.tables.exec = Jvm.exec) (hb : c.code = cc) {own : String} {index : Nat} {ty : FieldType} {cy : ClassId} (hown : s.vm.findClass own = some m.cls) (hclink : (Cond.classLink own index ("[" ++ (FieldType.array ty).toString)).before args s = true) (hover : va_AOA ty s) (harr : (Cond.arrayClass ty).before args s = true) (hcy : s.vm.findClass (FieldType.array ty).toString = some cy)
    (hK : va_K D cl tys s) (hP : va_P D cl (X ++ va_pl L f) H) (hD : va_D A (X ++ va_pl L f)) (hS : va_S A H0 H locs) (hA : ∀ q, H0.size ≤ q → A q) {n k : Int32} {N' K' : Nat} {z : vp_A} (hn : ¬ n < 0) (hk : ¬ k < 0) (hN : n.toNatClampNeg = N') (hM : k.toNatClampNeg = K')
    (hb1 : N' * 4 ≤ 536870912) (hb2 : K' * componentBytes ty ≤ 536870912) (hb3 : K' ≤ 536870912) (hdf : fits ty (defaultValue ty) = true) (hdd : (defaultValue ty).isDefault = true) (hcells : cells + (1 + N') ≤ R.cells) (hslots : slots + (N' + N' * K') ≤ R.slots) (hz : ∀ c : ClassId, Jvm.Free.Multi.innerC c K' (defaultValue ty) = vp_cell c z) (hdg : decode cc pc = .ok (.multianewarray index 2, 4))
    (kk : ∀ (q : Nat) (r : Nat → Nat) (cA : ClassId) (H1 : Heap), (∀ i j : Nat, i < N' → j < N' → r i = r j → i = j) → (∀ i : Nat, i < N' → r i ∉ L) → va_K D cl (tys ++ [(cA, .array ty)]) s →
      va_P D cl ((X ++ [(q, .inl (cA, N', .inr (.inr (.inr (.inr (fun i => if i < N' then some (r i) else none))))))]) ++ va_pl (L ++ (List.range N').map r) (vr_up f ((List.range N').map r) (.inl (cy, z)))) H1 → va_D A ((X ++ [(q, .inl (cA, N', .inr (.inr (.inr (.inr (fun i => if i < N' then some (r i) else none))))))]) ++ va_pl (L ++ (List.range N').map r) (vr_up f ((List.range N').map r) (.inl (cy, z)))) → va_S A H0 H1 locs →
      W p l e R s m args below meth c H1 locs (cells + 1 + N') (slots + N' + N' * K') Q (F0 m (pc + 4) ls (.ref q :: rest))) : W p l e R s m args below meth c H locs cells slots Q (F0 m pc ls (.int k :: .int n :: rest)) := by
  subst hN
  subst hM
  intro T hT Xs
  obtain ⟨vm₁, cA, comp, -, fA, fC, hO, -, X', step⟩ := Xs.multianewarray2F hexec hown hclink (va_AOA.use hover) harr (g := F0 m pc ls (.int k :: .int n :: rest)) rfl (by rw [hb]; exact hdg) rfl hn hk hb1 hb2 hb3 hdf hdd hcells hslots
  have ec : some cy = some comp := hcy.symm.trans fC
  cases ec
  generalize hF : Jvm.Free.Multi.fill (T.setVm vm₁) cA cy n.toNatClampNeg k.toNatClampNeg (defaultValue ty) n.toNatClampNeg = F at X' step
  have hTh : (T.setVm vm₁).heap = H := hT
  obtain ⟨f1, f2, -, -⟩ := Jvm.Free.Multi.fill_facts (T.setVm vm₁) cA cy n.toNatClampNeg k.toNatClampNeg (defaultValue ty) n.toNatClampNeg
  rw [hF, hTh] at f1 f2
  have hold : ∀ x : Nat, x < H.size → F.heap[x]? = H[x]? := fun x hx => by
    have := Jvm.Free.Multi.fill_old (T.setVm vm₁) cA cy n.toNatClampNeg k.toNatClampNeg (defaultValue ty) (a := x) (by rw [hTh]; exact hx) n.toNatClampNeg
    rw [hF, hTh] at this
    exact this
  have hrow : ∀ j : Nat, j < n.toNatClampNeg → F.heap[H.size + 1 + j]? = some (vp_cell cy z) := fun j hj => by
    have := Jvm.Free.Multi.fill_inner (T.setVm vm₁) cA cy n.toNatClampNeg k.toNatClampNeg (defaultValue ty) n.toNatClampNeg j hj
    rw [hF, hTh, hz] at this
    exact this
  have hout : Jvm.Free.Multi.outerC cA n.toNatClampNeg H.size n.toNatClampNeg = vp_cell cA (n.toNatClampNeg, .inr (.inr (.inr (.inr (fun i => if i < n.toNatClampNeg then some (H.size + 1 + i) else none))))) := by
    rw [vp_cell_q]
    exact vr_outer cA n.toNatClampNeg H.size n.toNatClampNeg
  rw [hout] at f2
  have hlt : ∀ a, a ∈ L → a < H.size := fun a ha => by
    obtain ⟨k9, hk9⟩ := va_pl_get (X := X) (f := f) ha
    exact (hP k9 _ hk9).lt
  have hnl : ∀ i : Nat, i < n.toNatClampNeg → H.size + 1 + i ∉ L := fun i _ h => by
    have := hlt _ h
    omega
  have hnm : ∀ a, a ∈ (List.range n.toNatClampNeg).map (fun i => H.size + 1 + i) → a ∉ L := fun a ha h => by
    obtain ⟨i, -, rfl⟩ := List.mem_map.mp ha
    have := hlt _ h
    omega
  have hP0 : va_P D cl (X ++ va_pl L f) F.heap := hP.kept (fun k9 x hx => hold x.1 ((hP k9 x hx).lt))
  have hP1 : va_P D cl ((X ++ va_pl L f) ++ [(H.size, .inl (cA, n.toNatClampNeg, .inr (.inr (.inr (.inr (fun i => if i < n.toNatClampNeg then some (H.size + 1 + i) else none))))))]) F.heap := hP0.app (fun k9 x hx => by
    have h0 : k9 < 1 := (List.getElem?_eq_some_iff.mp hx).1
    rw [show k9 = 0 by omega] at hx
    cases hx
    exact f2)
  have hP2 : va_P D cl (((X ++ va_pl L f) ++ [(H.size, .inl (cA, n.toNatClampNeg, .inr (.inr (.inr (.inr (fun i => if i < n.toNatClampNeg then some (H.size + 1 + i) else none))))))]) ++ ((List.range n.toNatClampNeg).map (fun i => H.size + 1 + i)).map (fun a => (a, .inl (cy, z)))) F.heap := hP1.app (fun k9 x hx => by
    obtain ⟨a, ha, rfl⟩ := List.mem_map.mp (List.mem_of_getElem? hx)
    obtain ⟨i, hi, rfl⟩ := List.mem_map.mp ha
    exact hrow i (List.mem_range.mp hi))
  have hD2 : va_D A (((X ++ va_pl L f) ++ [(H.size, .inl (cA, n.toNatClampNeg, .inr (.inr (.inr (.inr (fun i => if i < n.toNatClampNeg then some (H.size + 1 + i) else none))))))]) ++ ((List.range n.toNatClampNeg).map (fun i => H.size + 1 + i)).map (fun a => (a, .inl (cy, z)))) := by
    have hD1 := hD.push (e := .inl (cA, n.toNatClampNeg, .inr (.inr (.inr (.inr (fun i => if i < n.toNatClampNeg then some (H.size + 1 + i) else none)))))) hP rfl (hA _ hS.1)
    generalize hW1 : (X ++ va_pl L f) ++ [(H.size, .inl (cA, n.toNatClampNeg, .inr (.inr (.inr (.inr (fun i => if i < n.toNatClampNeg then some (H.size + 1 + i) else none))))))] = W1 at hD1 hP1 ⊢
    have hle : ∀ (k9 : Nat) (x : Nat × va_E), W1[k9]? = some x → x.1 ≤ H.size := fun k9 x hx => by
      rw [← hW1] at hx
      by_cases hl : k9 < (X ++ va_pl L f).length
      · rw [List.getElem?_append_left hl] at hx
        exact Nat.le_of_lt ((hP k9 x hx).lt)
      · rw [List.getElem?_append_right (by omega)] at hx
        have h0 : k9 - (X ++ va_pl L f).length < 1 := (List.getElem?_eq_some_iff.mp hx).1
        rw [show k9 - (X ++ va_pl L f).length = 0 by omega] at hx
        cases hx
        exact Nat.le_refl _
    have hr : ∀ (k9 : Nat) (x : Nat × va_E), (((List.range n.toNatClampNeg).map (fun i => H.size + 1 + i)).map (fun a => ((a, .inl (cy, z)) : Nat × va_E)))[k9]? = some x → x.1 = H.size + 1 + k9 := fun k9 x hx => by
      rw [List.getElem?_map, List.getElem?_map] at hx
      by_cases h9 : k9 < n.toNatClampNeg
      · rw [List.getElem?_range h9] at hx
        cases hx
        rfl
      · have hn0 : (List.range n.toNatClampNeg)[k9]? = none := List.getElem?_eq_none (by rw [List.length_range]; omega)
        rw [hn0] at hx
        cases hx
    refine ⟨fun i j x y hi hj hxy => ?_, fun k9 x hx => ?_⟩
    · by_cases h1 : i < W1.length <;> by_cases h2 : j < W1.length
      · rw [List.getElem?_append_left h1] at hi
        rw [List.getElem?_append_left h2] at hj
        exact hD1.1 i j x y hi hj hxy
      · rw [List.getElem?_append_left h1] at hi
        rw [List.getElem?_append_right (by omega)] at hj
        have := hle _ _ hi
        have := hr _ _ hj
        omega
      · rw [List.getElem?_append_right (by omega)] at hi
        rw [List.getElem?_append_left h2] at hj
        have := hle _ _ hj
        have := hr _ _ hi
        omega
      · rw [List.getElem?_append_right (by omega)] at hi hj
        have := hr _ _ hi
        have := hr _ _ hj
        omega
    · by_cases h1 : k9 < W1.length
      · rw [List.getElem?_append_left h1] at hx
        exact hD1.2 k9 x hx
      · rw [List.getElem?_append_right (by omega)] at hx
        have := hr _ _ hx
        exact hA _ (by have := hS.1; omega)
  have hAr : ArrOfT s cA (.array ty) := fun N9 z9 => by
    obtain ⟨-, k9, hk9, cm9, hkk9⟩ := (hO 0 0 0).1
    exact ⟨(fun q hq => by cases hq), k9, hk9, cm9, hkk9⟩
  have hK2 : va_K D cl (tys ++ [(cA, .array ty)]) s := ⟨hK.1, fun k9 x hx => by
    by_cases hl : k9 < tys.length
    · rw [List.getElem?_append_left hl] at hx
      exact hK.2 k9 x hx
    · rw [List.getElem?_append_right (by omega)] at hx
      have h0 : k9 - tys.length < 1 := (List.getElem?_eq_some_iff.mp hx).1
      rw [show k9 - tys.length = 0 by omega] at hx
      cases hx
      exact ⟨hAr, fA⟩⟩
  obtain ⟨t, a1, b1⟩ := kk H.size (fun i => H.size + 1 + i) cA F.heap (fun i j _ _ h => by have h9 : H.size + 1 + i = H.size + 1 + j := h; omega) hnl hK2 (by rw [← vr_rows hnm]; exact vr_lay hP2) (by rw [← vr_rows hnm]; exact vr_layD hD2) ⟨by rw [f1]; have := hS.1; omega, fun x h1 h2 => (hold x (Nat.lt_of_lt_of_le h1 hS.1)).trans (hS.2.1 x h1 h2), hS.2.2⟩ F rfl X'
  refine ⟨t, step t ?_, b1⟩
  have e : T.heap.size = H.size := by rw [hT]
  rw [e]
  exact a1
end VGM
/-! ===== END ===== -/

/-! ===== BEGIN printed: names, fields, word lists, decode rows ===== -/
def RX0 : String := "VerseCustoms$Days"
def TX0 : u_T := fun k => match k with
  | 0 => ("VerseCustoms$Days", "now", "[I", true)
  | 1 => ("VerseCustoms$Days", "past", "[[I", true)
  | 2 => ("VerseCustoms$Days", "kept", "[[I", true)
  | 3 => ("VerseCustoms$Days", "stored", "[Z", true)
  | 4 => ("VerseCustoms$Days", "next", "I", false)
  | _ => ("VerseCustoms$Days", "undoable", "I", false)
def tyX0 : Nat → FieldType := fun k => match k with
  | 0 => .array .int
  | 1 => .array (.array .int)
  | 2 => .array (.array .int)
  | 3 => .array .boolean
  | 4 => .int
  | _ => .int
abbrev wsX00 : List Cond := u_ws RX0 TX0 6
theorem nmX0 : ∀ a, a < 6 → ∀ b, b < 6 → a ≠ b → (TX0 a).2.1 ≠ (TX0 b).2.1 := by decide +kernel
theorem tyX0_ok : ∀ k, k < 6 → parseFieldDescriptor (TX0 k).2.2.1 = some (tyX0 k) := by decide +kernel
abbrev cX0_init : ByteArray := prog_2_method_1_code
def yX0_init : MethodName := ⟨RX0, "<init>", "()V"⟩
abbrev cX0_begin : ByteArray := prog_2_method_2_code
def yX0_begin : MethodName := ⟨RX0, "begin", "()V"⟩
abbrev cX0_today : ByteArray := prog_2_method_3_code
def yX0_today : MethodName := ⟨RX0, "today", "()I"⟩
abbrev cX0_paid : ByteArray := prog_2_method_4_code
def yX0_paid : MethodName := ⟨RX0, "paid", "()I"⟩
abbrev cX0_areOver : ByteArray := prog_2_method_5_code
def yX0_areOver : MethodName := ⟨RX0, "areOver", "()Z"⟩
abbrev cX0_fateOf : ByteArray := prog_2_method_6_code
def yX0_fateOf : MethodName := ⟨RX0, "fateOf", "(I)I"⟩
abbrev cX0_usesOf : ByteArray := prog_2_method_7_code
def yX0_usesOf : MethodName := ⟨RX0, "usesOf", "(I)I"⟩
abbrev cX0_use : ByteArray := prog_2_method_8_code
def yX0_use : MethodName := ⟨RX0, "use", "(I)V"⟩
abbrev cX0_settle : ByteArray := prog_2_method_9_code
def yX0_settle : MethodName := ⟨RX0, "settle", "(III)I"⟩
abbrev cX0_pass : ByteArray := prog_2_method_10_code
def yX0_pass : MethodName := ⟨RX0, "pass", "()I"⟩
abbrev cX0_remember : ByteArray := prog_2_method_11_code
def yX0_remember : MethodName := ⟨RX0, "remember", "()V"⟩
abbrev cX0_takeBack : ByteArray := prog_2_method_12_code
def yX0_takeBack : MethodName := ⟨RX0, "takeBack", "()I"⟩
abbrev cX0_isStored : ByteArray := prog_2_method_13_code
def yX0_isStored : MethodName := ⟨RX0, "isStored", "(I)Z"⟩
abbrev cX0_store : ByteArray := prog_2_method_14_code
def yX0_store : MethodName := ⟨RX0, "store", "(I)I"⟩
abbrev cX0_restore : ByteArray := prog_2_method_15_code
def yX0_restore : MethodName := ⟨RX0, "restore", "(I)I"⟩
def RX1 : String := "VerseCustoms$Demand"
def TX1 : u_T := fun k => match k with
  | 0 => ("VerseCustoms$Demand", "told", "LVerseCustoms$Told;", true)
  | 1 => ("VerseCustoms$Demand", "weight", "I", false)
  | 2 => ("VerseCustoms$Demand", "rhyme", "I", false)
  | 3 => ("VerseCustoms$Demand", "slurred", "Z", false)
  | _ => ("VerseCustoms$Demand", "straight", "Z", false)
def tyX1 : Nat → FieldType := fun k => match k with
  | 0 => .object "VerseCustoms$Told"
  | 1 => .int
  | 2 => .int
  | 3 => .boolean
  | _ => .boolean
abbrev wsX10 : List Cond := u_ws RX1 TX1 5
theorem nmX1 : ∀ a, a < 5 → ∀ b, b < 5 → a ≠ b → (TX1 a).2.1 ≠ (TX1 b).2.1 := by decide +kernel
theorem tyX1_ok : ∀ k, k < 5 → parseFieldDescriptor (TX1 k).2.2.1 = some (tyX1 k) := by decide +kernel
abbrev cX1_init : ByteArray := prog_3_method_1_code
def yX1_init : MethodName := ⟨RX1, "<init>", "(LVerseCustoms$Told;)V"⟩
abbrev cX1_ask : ByteArray := prog_3_method_2_code
def yX1_ask : MethodName := ⟨RX1, "ask", "(II)V"⟩
abbrev cX1_askForAll : ByteArray := prog_3_method_3_code
def yX1_askForAll : MethodName := ⟨RX1, "askForAll", "(I)V"⟩
abbrev cX1_begin : ByteArray := prog_3_method_4_code
def yX1_begin : MethodName := ⟨RX1, "begin", "(I)V"⟩
abbrev cX1_hear : ByteArray := prog_3_method_5_code
def yX1_hear : MethodName := ⟨RX1, "hear", "(II)V"⟩
abbrev cX1_allows : ByteArray := prog_3_method_6_code
def yX1_allows : MethodName := ⟨RX1, "allows", "(IIZ)Z"⟩
abbrev cX1_countOf : ByteArray := prog_3_method_7_code
def yX1_countOf : MethodName := ⟨RX1, "countOf", "(IZ)I"⟩
def RX2 : String := "VerseCustoms$Endings"
def TX2 : u_T := fun k => match k with
  | 0 => ("VerseCustoms$Endings", "told", "LVerseCustoms$Told;", true)
  | 1 => ("VerseCustoms$Endings", "demand", "LVerseCustoms$Demand;", true)
  | 2 => ("VerseCustoms$Endings", "line", "LVerseCustoms$Line;", true)
  | 3 => ("VerseCustoms$Endings", "least", "[[I", true)
  | 4 => ("VerseCustoms$Endings", "many", "[[I", true)
  | 5 => ("VerseCustoms$Endings", "altering", "Z", false)
  | _ => ("VerseCustoms$Endings", "first", "LVerseCustoms$Line;", true)
def tyX2 : Nat → FieldType := fun k => match k with
  | 0 => .object "VerseCustoms$Told"
  | 1 => .object "VerseCustoms$Demand"
  | 2 => .object "VerseCustoms$Line"
  | 3 => .array (.array .int)
  | 4 => .array (.array .int)
  | 5 => .boolean
  | _ => .object "VerseCustoms$Line"
abbrev wsX20 : List Cond := u_ws RX2 TX2 7
theorem nmX2 : ∀ a, a < 7 → ∀ b, b < 7 → a ≠ b → (TX2 a).2.1 ≠ (TX2 b).2.1 := by decide +kernel
theorem tyX2_ok : ∀ k, k < 7 → parseFieldDescriptor (TX2 k).2.2.1 = some (tyX2 k) := by decide +kernel
abbrev cX2_init : ByteArray := prog_4_method_1_code
def yX2_init : MethodName := ⟨RX2, "<init>", "(LVerseCustoms$Told;LVerseCustoms$Demand;LVerseCustoms$Line;)V"⟩
abbrev cX2_fewestWords : ByteArray := prog_4_method_2_code
def yX2_fewestWords : MethodName := ⟨RX2, "fewestWords", "()I"⟩
abbrev cX2_linesOf : ByteArray := prog_4_method_3_code
def yX2_linesOf : MethodName := ⟨RX2, "linesOf", "(I)I"⟩
abbrev cX2_fewestChanges : ByteArray := prog_4_method_4_code
def yX2_fewestChanges : MethodName := ⟨RX2, "fewestChanges", "()I"⟩
abbrev cX2_findFirst : ByteArray := prog_4_method_5_code
def yX2_findFirst : MethodName := ⟨RX2, "findFirst", "(I)V"⟩
abbrev cX2_firstWord : ByteArray := prog_4_method_6_code
def yX2_firstWord : MethodName := ⟨RX2, "firstWord", "(III)I"⟩
abbrev cX2_begin : ByteArray := prog_4_method_7_code
def yX2_begin : MethodName := ⟨RX2, "begin", "(Z)V"⟩
abbrev cX2_fill : ByteArray := prog_4_method_8_code
def yX2_fill : MethodName := ⟨RX2, "fill", "(I)V"⟩
abbrev cX2_leastWith : ByteArray := prog_4_method_9_code
def yX2_leastWith : MethodName := ⟨RX2, "leastWith", "(IIII)I"⟩
abbrev cX2_manyWith : ByteArray := prog_4_method_10_code
def yX2_manyWith : MethodName := ⟨RX2, "manyWith", "(IIII)I"⟩
abbrev cX2_leastAt : ByteArray := prog_4_method_11_code
def yX2_leastAt : MethodName := ⟨RX2, "leastAt", "(III)I"⟩
abbrev cX2_manyAt : ByteArray := prog_4_method_12_code
def yX2_manyAt : MethodName := ⟨RX2, "manyAt", "(III)I"⟩
abbrev cX2_isPlace : ByteArray := prog_4_method_13_code
def yX2_isPlace : MethodName := ⟨RX2, "isPlace", "(II)Z"⟩
def RX3 : String := "VerseCustoms$Hiding"
def TX3 : u_T := fun k => match k with
  | 0 => ("VerseCustoms$Hiding", "told", "LVerseCustoms$Told;", true)
  | _ => ("VerseCustoms$Hiding", "most", "[[I", true)
def tyX3 : Nat → FieldType := fun k => match k with
  | 0 => .object "VerseCustoms$Told"
  | _ => .array (.array .int)
abbrev wsX30 : List Cond := u_ws RX3 TX3 2
theorem nmX3 : ∀ a, a < 2 → ∀ b, b < 2 → a ≠ b → (TX3 a).2.1 ≠ (TX3 b).2.1 := by decide +kernel
theorem tyX3_ok : ∀ k, k < 2 → parseFieldDescriptor (TX3 k).2.2.1 = some (tyX3 k) := by decide +kernel
abbrev cX3_init : ByteArray := prog_5_method_1_code
def yX3_init : MethodName := ⟨RX3, "<init>", "(LVerseCustoms$Told;)V"⟩
abbrev cX3_most : ByteArray := prog_5_method_2_code
def yX3_most : MethodName := ⟨RX3, "most", "(I)I"⟩
abbrev cX3_mostBehind : ByteArray := prog_5_method_3_code
def yX3_mostBehind : MethodName := ⟨RX3, "mostBehind", "(II)I"⟩
def RX4 : String := "VerseCustoms$Line"
def TX4 : u_T := fun k => match k with
  | 0 => ("VerseCustoms$Line", "places", "[I", true)
  | _ => ("VerseCustoms$Line", "length", "I", false)
def tyX4 : Nat → FieldType := fun k => match k with
  | 0 => .array .int
  | _ => .int
abbrev wsX40 : List Cond := u_ws RX4 TX4 2
theorem nmX4 : ∀ a, a < 2 → ∀ b, b < 2 → a ≠ b → (TX4 a).2.1 ≠ (TX4 b).2.1 := by decide +kernel
theorem tyX4_ok : ∀ k, k < 2 → parseFieldDescriptor (TX4 k).2.2.1 = some (tyX4 k) := by decide +kernel
abbrev cX4_init : ByteArray := prog_6_method_1_code
def yX4_init : MethodName := ⟨RX4, "<init>", "()V"⟩
abbrev cX4_add : ByteArray := prog_6_method_2_code
def yX4_add : MethodName := ⟨RX4, "add", "(I)I"⟩
abbrev cX4_clear : ByteArray := prog_6_method_3_code
def yX4_clear : MethodName := ⟨RX4, "clear", "()I"⟩
abbrev cX4_wordAt : ByteArray := prog_6_method_4_code
def yX4_wordAt : MethodName := ⟨RX4, "wordAt", "(I)I"⟩
abbrev cX4_lastWord : ByteArray := prog_6_method_5_code
def yX4_lastWord : MethodName := ⟨RX4, "lastWord", "()I"⟩
abbrev cX4_copy : ByteArray := prog_6_method_6_code
def yX4_copy : MethodName := ⟨RX4, "copy", "(LVerseCustoms$Line;)V"⟩
def RX5 : String := "VerseCustoms$Secret"
def TX5 : u_T := fun k => match k with
  | 0 => ("VerseCustoms$Secret", "told", "LVerseCustoms$Told;", true)
  | 1 => ("VerseCustoms$Secret", "clerks", "[I", true)
  | 2 => ("VerseCustoms$Secret", "numbers", "[I", true)
  | 3 => ("VerseCustoms$Secret", "guess", "LVerseCustoms$Line;", true)
  | 4 => ("VerseCustoms$Secret", "first", "LVerseCustoms$Line;", true)
  | 5 => ("VerseCustoms$Secret", "shared", "LVerseCustoms$Line;", true)
  | 6 => ("VerseCustoms$Secret", "length", "I", false)
  | 7 => ("VerseCustoms$Secret", "claims", "I", false)
  | 8 => ("VerseCustoms$Secret", "found", "I", false)
  | _ => ("VerseCustoms$Secret", "wares", "I", false)
def tyX5 : Nat → FieldType := fun k => match k with
  | 0 => .object "VerseCustoms$Told"
  | 1 => .array .int
  | 2 => .array .int
  | 3 => .object "VerseCustoms$Line"
  | 4 => .object "VerseCustoms$Line"
  | 5 => .object "VerseCustoms$Line"
  | 6 => .int
  | 7 => .int
  | 8 => .int
  | _ => .int
abbrev wsX50 : List Cond := u_ws RX5 TX5 10
theorem nmX5 : ∀ a, a < 10 → ∀ b, b < 10 → a ≠ b → (TX5 a).2.1 ≠ (TX5 b).2.1 := by decide +kernel
theorem tyX5_ok : ∀ k, k < 10 → parseFieldDescriptor (TX5 k).2.2.1 = some (tyX5 k) := by decide +kernel
abbrev cX5_init : ByteArray := prog_7_method_1_code
def yX5_init : MethodName := ⟨RX5, "<init>", "(LVerseCustoms$Told;)V"⟩
abbrev cX5_forget : ByteArray := prog_7_method_2_code
def yX5_forget : MethodName := ⟨RX5, "forget", "()V"⟩
abbrev cX5_begin : ByteArray := prog_7_method_3_code
def yX5_begin : MethodName := ⟨RX5, "begin", "(I)I"⟩
abbrev cX5_add : ByteArray := prog_7_method_4_code
def yX5_add : MethodName := ⟨RX5, "add", "(II)I"⟩
abbrev cX5_solve : ByteArray := prog_7_method_5_code
def yX5_solve : MethodName := ⟨RX5, "solve", "()V"⟩
abbrev cX5_agrees : ByteArray := prog_7_method_6_code
def yX5_agrees : MethodName := ⟨RX5, "agrees", "()Z"⟩
abbrev cX5_take : ByteArray := prog_7_method_7_code
def yX5_take : MethodName := ⟨RX5, "take", "()V"⟩
abbrev cX5_moveOn : ByteArray := prog_7_method_8_code
def yX5_moveOn : MethodName := ⟨RX5, "moveOn", "()V"⟩
def RX6 : String := "VerseCustoms$Ships"
def TX6 : u_T := fun k => match k with
  | 0 => ("VerseCustoms$Ships", "told", "LVerseCustoms$Told;", true)
  | 1 => ("VerseCustoms$Ships", "weightOfSet", "[I", true)
  | 2 => ("VerseCustoms$Ships", "carried", "I", false)
  | 3 => ("VerseCustoms$Ships", "firstSet", "I", false)
  | _ => ("VerseCustoms$Ships", "secondSet", "I", false)
def tyX6 : Nat → FieldType := fun k => match k with
  | 0 => .object "VerseCustoms$Told"
  | 1 => .array .int
  | 2 => .int
  | 3 => .int
  | _ => .int
abbrev wsX60 : List Cond := u_ws RX6 TX6 5
theorem nmX6 : ∀ a, a < 5 → ∀ b, b < 5 → a ≠ b → (TX6 a).2.1 ≠ (TX6 b).2.1 := by decide +kernel
theorem tyX6_ok : ∀ k, k < 5 → parseFieldDescriptor (TX6 k).2.2.1 = some (tyX6 k) := by decide +kernel
abbrev cX6_init : ByteArray := prog_8_method_1_code
def yX6_init : MethodName := ⟨RX6, "<init>", "(LVerseCustoms$Told;)V"⟩
abbrev cX6_load : ByteArray := prog_8_method_2_code
def yX6_load : MethodName := ⟨RX6, "load", "(I)V"⟩
abbrev cX6_weigh : ByteArray := prog_8_method_3_code
def yX6_weigh : MethodName := ⟨RX6, "weigh", "(I)V"⟩
def RX7 : String := "VerseCustoms$Text"
def TX7 : u_T := fun k => match k with
  | 0 => ("VerseCustoms$Text", "letters", "[C", true)
  | 1 => ("VerseCustoms$Text", "kinds", "[I", true)
  | 2 => ("VerseCustoms$Text", "numbers", "[[I", true)
  | 3 => ("VerseCustoms$Text", "length", "I", false)
  | 4 => ("VerseCustoms$Text", "clauses", "I", false)
  | 5 => ("VerseCustoms$Text", "from", "I", false)
  | 6 => ("VerseCustoms$Text", "to", "I", false)
  | 7 => ("VerseCustoms$Text", "words", "I", false)
  | 8 => ("VerseCustoms$Text", "wares", "I", false)
  | _ => ("VerseCustoms$Text", "clerks", "I", false)
def tyX7 : Nat → FieldType := fun k => match k with
  | 0 => .array .char
  | 1 => .array .int
  | 2 => .array (.array .int)
  | 3 => .int
  | 4 => .int
  | 5 => .int
  | 6 => .int
  | 7 => .int
  | 8 => .int
  | _ => .int
abbrev wsX70 : List Cond := u_ws RX7 TX7 10
theorem nmX7 : ∀ a, a < 10 → ∀ b, b < 10 → a ≠ b → (TX7 a).2.1 ≠ (TX7 b).2.1 := by decide +kernel
theorem tyX7_ok : ∀ k, k < 10 → parseFieldDescriptor (TX7 k).2.2.1 = some (tyX7 k) := by decide +kernel
abbrev cX7_init : ByteArray := prog_9_method_1_code
def yX7_init : MethodName := ⟨RX7, "<init>", "()V"⟩
abbrev cX7_add : ByteArray := prog_9_method_2_code
def yX7_add : MethodName := ⟨RX7, "add", "(I)I"⟩
abbrev cX7_clear : ByteArray := prog_9_method_3_code
def yX7_clear : MethodName := ⟨RX7, "clear", "()I"⟩
abbrev cX7_read : ByteArray := prog_9_method_4_code
def yX7_read : MethodName := ⟨RX7, "read", "(LVerseCustoms$Told;)I"⟩
abbrev cX7_readClause : ByteArray := prog_9_method_5_code
def yX7_readClause : MethodName := ⟨RX7, "readClause", "(I)Z"⟩
abbrev cX7_hasRoomFor : ByteArray := prog_9_method_6_code
def yX7_hasRoomFor : MethodName := ⟨RX7, "hasRoomFor", "(I)Z"⟩
abbrev cX7_obey : ByteArray := prog_9_method_7_code
def yX7_obey : MethodName := ⟨RX7, "obey", "(ILVerseCustoms$Told;)V"⟩
abbrev cX7_goOn : ByteArray := prog_9_method_8_code
def yX7_goOn : MethodName := ⟨RX7, "goOn", "()V"⟩
abbrev cX7_letterAt : ByteArray := prog_9_method_9_code
def yX7_letterAt : MethodName := ⟨RX7, "letterAt", "(I)I"⟩
abbrev cX7_sortAt : ByteArray := prog_9_method_10_code
def yX7_sortAt : MethodName := ⟨RX7, "sortAt", "(I)I"⟩
abbrev cX7_numberHere : ByteArray := prog_9_method_11_code
def yX7_numberHere : MethodName := ⟨RX7, "numberHere", "()I"⟩
abbrev cX7_clauseHere : ByteArray := prog_9_method_12_code
def yX7_clauseHere : MethodName := ⟨RX7, "clauseHere", "()I"⟩
abbrev cX7_isHere : ByteArray := prog_9_method_13_code
def yX7_isHere : MethodName := ⟨RX7, "isHere", "(Ljava/lang/String;)Z"⟩
abbrev cX7_lowest : ByteArray := prog_9_method_14_code
def yX7_lowest : MethodName := ⟨RX7, "lowest", "(C)I"⟩
abbrev cX7_highest : ByteArray := prog_9_method_15_code
def yX7_highest : MethodName := ⟨RX7, "highest", "(CI)I"⟩
abbrev cX7_nameOf : ByteArray := prog_9_method_16_code
def yX7_nameOf : MethodName := ⟨RX7, "nameOf", "(I)Ljava/lang/String;"⟩
abbrev cX7_rolesIn : ByteArray := prog_9_method_17_code
def yX7_rolesIn : MethodName := ⟨RX7, "rolesIn", "(I)Ljava/lang/String;"⟩
def RX8 : String := "VerseCustoms$Told"
def TX8 : u_T := fun k => match k with
  | 0 => ("VerseCustoms$Told", "kinds", "[I", true)
  | 1 => ("VerseCustoms$Told", "syllables", "[I", true)
  | 2 => ("VerseCustoms$Told", "stresses", "[I", true)
  | 3 => ("VerseCustoms$Told", "rhymes", "[I", true)
  | 4 => ("VerseCustoms$Told", "portRhymes", "[I", true)
  | 5 => ("VerseCustoms$Told", "weights", "[I", true)
  | 6 => ("VerseCustoms$Told", "warePorts", "[I", true)
  | 7 => ("VerseCustoms$Told", "clerkKinds", "[I", true)
  | 8 => ("VerseCustoms$Told", "uses", "[I", true)
  | 9 => ("VerseCustoms$Told", "words", "I", false)
  | 10 => ("VerseCustoms$Told", "wares", "I", false)
  | 11 => ("VerseCustoms$Told", "clerks", "I", false)
  | _ => ("VerseCustoms$Told", "metre", "I", false)
def tyX8 : Nat → FieldType := fun k => match k with
  | 0 => .array .int
  | 1 => .array .int
  | 2 => .array .int
  | 3 => .array .int
  | 4 => .array .int
  | 5 => .array .int
  | 6 => .array .int
  | 7 => .array .int
  | 8 => .array .int
  | 9 => .int
  | 10 => .int
  | 11 => .int
  | _ => .int
abbrev wsX80 : List Cond := u_ws RX8 TX8 13
theorem nmX8 : ∀ a, a < 13 → ∀ b, b < 13 → a ≠ b → (TX8 a).2.1 ≠ (TX8 b).2.1 := by decide +kernel
theorem tyX8_ok : ∀ k, k < 13 → parseFieldDescriptor (TX8 k).2.2.1 = some (tyX8 k) := by decide +kernel
abbrev cX8_init : ByteArray := prog_10_method_1_code
def yX8_init : MethodName := ⟨RX8, "<init>", "()V"⟩
abbrev cX8_reset : ByteArray := prog_10_method_2_code
def yX8_reset : MethodName := ⟨RX8, "reset", "()V"⟩
abbrev cX8_addWord : ByteArray := prog_10_method_3_code
def yX8_addWord : MethodName := ⟨RX8, "addWord", "(IIII)V"⟩
abbrev cX8_addWare : ByteArray := prog_10_method_4_code
def yX8_addWare : MethodName := ⟨RX8, "addWare", "(II)V"⟩
abbrev cX8_addClerk : ByteArray := prog_10_method_5_code
def yX8_addClerk : MethodName := ⟨RX8, "addClerk", "(I)V"⟩
abbrev cX8_setPort : ByteArray := prog_10_method_6_code
def yX8_setPort : MethodName := ⟨RX8, "setPort", "(II)V"⟩
abbrev cX8_setUses : ByteArray := prog_10_method_7_code
def yX8_setUses : MethodName := ⟨RX8, "setUses", "(II)V"⟩
abbrev cX8_isWord : ByteArray := prog_10_method_8_code
def yX8_isWord : MethodName := ⟨RX8, "isWord", "(I)Z"⟩
abbrev cX8_isWare : ByteArray := prog_10_method_9_code
def yX8_isWare : MethodName := ⟨RX8, "isWare", "(I)Z"⟩
abbrev cX8_isClerk : ByteArray := prog_10_method_10_code
def yX8_isClerk : MethodName := ⟨RX8, "isClerk", "(I)Z"⟩
abbrev cX8_slurs : ByteArray := prog_10_method_11_code
def yX8_slurs : MethodName := ⟨RX8, "slurs", "(I)Z"⟩
abbrev cX8_isDeaf : ByteArray := prog_10_method_12_code
def yX8_isDeaf : MethodName := ⟨RX8, "isDeaf", "(I)Z"⟩
abbrev cX8_rhymeOfPort : ByteArray := prog_10_method_13_code
def yX8_rhymeOfPort : MethodName := ⟨RX8, "rhymeOfPort", "(I)I"⟩
abbrev cX8_portsOf : ByteArray := prog_10_method_14_code
def yX8_portsOf : MethodName := ⟨RX8, "portsOf", "(I)I"⟩
abbrev cX8_portsRhymedBy : ByteArray := prog_10_method_15_code
def yX8_portsRhymedBy : MethodName := ⟨RX8, "portsRhymedBy", "(I)I"⟩
abbrev cX8_chimes : ByteArray := prog_10_method_16_code
def yX8_chimes : MethodName := ⟨RX8, "chimes", "(II)Z"⟩
abbrev cX8_rhymeWornBy : ByteArray := prog_10_method_17_code
def yX8_rhymeWornBy : MethodName := ⟨RX8, "rhymeWornBy", "(I)I"⟩
abbrev cX8_isWorn : ByteArray := prog_10_method_18_code
def yX8_isWorn : MethodName := ⟨RX8, "isWorn", "(II)Z"⟩
abbrev cX8_countBy : ByteArray := prog_10_method_19_code
def yX8_countBy : MethodName := ⟨RX8, "countBy", "(ILVerseCustoms$Line;)I"⟩
abbrev cX8_syllablesOf : ByteArray := prog_10_method_20_code
def yX8_syllablesOf : MethodName := ⟨RX8, "syllablesOf", "(LVerseCustoms$Line;)I"⟩
abbrev cX8_elisionsIn : ByteArray := prog_10_method_21_code
def yX8_elisionsIn : MethodName := ⟨RX8, "elisionsIn", "(LVerseCustoms$Line;)I"⟩
abbrev cX8_fits : ByteArray := prog_10_method_22_code
def yX8_fits : MethodName := ⟨RX8, "fits", "(II)Z"⟩
abbrev cX8_isInMetre : ByteArray := prog_10_method_23_code
def yX8_isInMetre : MethodName := ⟨RX8, "isInMetre", "(LVerseCustoms$Line;)Z"⟩
abbrev cX8_admits : ByteArray := prog_10_method_24_code
def yX8_admits : MethodName := ⟨RX8, "admits", "(LVerseCustoms$Line;II)Z"⟩
abbrev cX8_linesOf : ByteArray := prog_10_method_25_code
def yX8_linesOf : MethodName := ⟨RX8, "linesOf", "(I)I"⟩
def RX9 : String := "VerseCustoms"
def TX9 : u_T := fun k => match k with
  | 0 => ("VerseCustoms", "told", "LVerseCustoms$Told;", true)
  | 1 => ("VerseCustoms", "text", "LVerseCustoms$Text;", true)
  | 2 => ("VerseCustoms", "days", "LVerseCustoms$Days;", true)
  | 3 => ("VerseCustoms", "line", "LVerseCustoms$Line;", true)
  | 4 => ("VerseCustoms", "demand", "LVerseCustoms$Demand;", true)
  | 5 => ("VerseCustoms", "endings", "LVerseCustoms$Endings;", true)
  | 6 => ("VerseCustoms", "hiding", "LVerseCustoms$Hiding;", true)
  | 7 => ("VerseCustoms", "ships", "LVerseCustoms$Ships;", true)
  | 8 => ("VerseCustoms", "secret", "LVerseCustoms$Secret;", true)
  | _ => ("VerseCustoms", "usedInYear", "[I", true)
def tyX9 : Nat → FieldType := fun k => match k with
  | 0 => .object "VerseCustoms$Told"
  | 1 => .object "VerseCustoms$Text"
  | 2 => .object "VerseCustoms$Days"
  | 3 => .object "VerseCustoms$Line"
  | 4 => .object "VerseCustoms$Demand"
  | 5 => .object "VerseCustoms$Endings"
  | 6 => .object "VerseCustoms$Hiding"
  | 7 => .object "VerseCustoms$Ships"
  | 8 => .object "VerseCustoms$Secret"
  | _ => .array .int
abbrev wsX90 : List Cond := u_ws RX9 TX9 10
theorem nmX9 : ∀ a, a < 10 → ∀ b, b < 10 → a ≠ b → (TX9 a).2.1 ≠ (TX9 b).2.1 := by decide +kernel
theorem tyX9_ok : ∀ k, k < 10 → parseFieldDescriptor (TX9 k).2.2.1 = some (tyX9 k) := by decide +kernel
abbrev cX9_init : ByteArray := prog_1_method_1_code
def yX9_init : MethodName := ⟨RX9, "<init>", "()V"⟩
abbrev cX9_write : ByteArray := prog_1_method_2_code
def yX9_write : MethodName := ⟨RX9, "write", "(I)I"⟩
abbrev cX9_erase : ByteArray := prog_1_method_3_code
def yX9_erase : MethodName := ⟨RX9, "erase", "()I"⟩
abbrev cX9_fault : ByteArray := prog_1_method_4_code
def yX9_fault : MethodName := ⟨RX9, "fault", "()I"⟩
abbrev cX9_customs : ByteArray := prog_1_method_5_code
def yX9_customs : MethodName := ⟨RX9, "customs", "()I"⟩
abbrev cX9_word : ByteArray := prog_1_method_6_code
def yX9_word : MethodName := ⟨RX9, "word", "(II)I"⟩
abbrev cX9_ware : ByteArray := prog_1_method_7_code
def yX9_ware : MethodName := ⟨RX9, "ware", "(II)I"⟩
abbrev cX9_clerk : ByteArray := prog_1_method_8_code
def yX9_clerk : MethodName := ⟨RX9, "clerk", "(I)I"⟩
abbrev cX9_rhyme : ByteArray := prog_1_method_9_code
def yX9_rhyme : MethodName := ⟨RX9, "rhyme", "(II)I"⟩
abbrev cX9_as : ByteArray := prog_1_method_10_code
def yX9_as : MethodName := ⟨RX9, "as", "(II)I"⟩
abbrev cX9_clerkAs : ByteArray := prog_1_method_11_code
def yX9_clerkAs : MethodName := ⟨RX9, "clerkAs", "(II)I"⟩
abbrev cX9_put : ByteArray := prog_1_method_12_code
def yX9_put : MethodName := ⟨RX9, "put", "(I)I"⟩
abbrev cX9_wipe : ByteArray := prog_1_method_13_code
def yX9_wipe : MethodName := ⟨RX9, "wipe", "()I"⟩
abbrev cX9_line : ByteArray := prog_1_method_14_code
def yX9_line : MethodName := ⟨RX9, "line", "(I)I"⟩
abbrev cX9_counts : ByteArray := prog_1_method_15_code
def yX9_counts : MethodName := ⟨RX9, "counts", "(I)I"⟩
abbrev cX9_scans : ByteArray := prog_1_method_16_code
def yX9_scans : MethodName := ⟨RX9, "scans", "()I"⟩
abbrev cX9_passes : ByteArray := prog_1_method_17_code
def yX9_passes : MethodName := ⟨RX9, "passes", "(II)I"⟩
abbrev cX9_declare : ByteArray := prog_1_method_18_code
def yX9_declare : MethodName := ⟨RX9, "declare", "(II)I"⟩
abbrev cX9_prose : ByteArray := prog_1_method_19_code
def yX9_prose : MethodName := ⟨RX9, "prose", "(I)I"⟩
abbrev cX9_day : ByteArray := prog_1_method_20_code
def yX9_day : MethodName := ⟨RX9, "day", "()I"⟩
abbrev cX9_undo : ByteArray := prog_1_method_21_code
def yX9_undo : MethodName := ⟨RX9, "undo", "()I"⟩
abbrev cX9_keep : ByteArray := prog_1_method_22_code
def yX9_keep : MethodName := ⟨RX9, "keep", "(I)I"⟩
abbrev cX9_back : ByteArray := prog_1_method_23_code
def yX9_back : MethodName := ⟨RX9, "back", "(I)I"⟩
abbrev cX9_shortest : ByteArray := prog_1_method_24_code
def yX9_shortest : MethodName := ⟨RX9, "shortest", "(III)I"⟩
abbrev cX9_shortestWord : ByteArray := prog_1_method_25_code
def yX9_shortestWord : MethodName := ⟨RX9, "shortestWord", "(III)I"⟩
abbrev cX9_forAll : ByteArray := prog_1_method_26_code
def yX9_forAll : MethodName := ⟨RX9, "forAll", "(II)I"⟩
abbrev cX9_hidden : ByteArray := prog_1_method_27_code
def yX9_hidden : MethodName := ⟨RX9, "hidden", "(I)I"⟩
abbrev cX9_altered : ByteArray := prog_1_method_28_code
def yX9_altered : MethodName := ⟨RX9, "altered", "(III)I"⟩
abbrev cX9_laden : ByteArray := prog_1_method_29_code
def yX9_laden : MethodName := ⟨RX9, "laden", "(II)I"⟩
abbrev cX9_left : ByteArray := prog_1_method_30_code
def yX9_left : MethodName := ⟨RX9, "left", "(I)I"⟩
abbrev cX9_odds : ByteArray := prog_1_method_31_code
def yX9_odds : MethodName := ⟨RX9, "odds", "(IIII)I"⟩
abbrev cX9_year : ByteArray := prog_1_method_32_code
def yX9_year : MethodName := ⟨RX9, "year", "()I"⟩
abbrev cX9_secret : ByteArray := prog_1_method_33_code
def yX9_secret : MethodName := ⟨RX9, "secret", "(I)I"⟩
abbrev cX9_counted : ByteArray := prog_1_method_34_code
def yX9_counted : MethodName := ⟨RX9, "counted", "(II)I"⟩
abbrev cX9_canBe : ByteArray := prog_1_method_35_code
def yX9_canBe : MethodName := ⟨RX9, "canBe", "(I)I"⟩
abbrev cX9_canBeWord : ByteArray := prog_1_method_36_code
def yX9_canBeWord : MethodName := ⟨RX9, "canBeWord", "(II)I"⟩
abbrev cX9_count : ByteArray := prog_1_method_37_code
def yX9_count : MethodName := ⟨RX9, "count", "(I)I"⟩
abbrev cX9_areKnown : ByteArray := prog_1_method_38_code
def yX9_areKnown : MethodName := ⟨RX9, "areKnown", "(II)Z"⟩
abbrev cX9_fewestOrHowMany : ByteArray := prog_1_method_39_code
def yX9_fewestOrHowMany : MethodName := ⟨RX9, "fewestOrHowMany", "(I)I"⟩
abbrev cX9_openWares : ByteArray := prog_1_method_40_code
def yX9_openWares : MethodName := ⟨RX9, "openWares", "()I"⟩
abbrev cX9_waresThatRhymesAllow : ByteArray := prog_1_method_41_code
def yX9_waresThatRhymesAllow : MethodName := ⟨RX9, "waresThatRhymesAllow", "()I"⟩
abbrev cX9_portsWornOut : ByteArray := prog_1_method_42_code
def yX9_portsWornOut : MethodName := ⟨RX9, "portsWornOut", "()I"⟩
abbrev cX9_paidInYear : ByteArray := prog_1_method_43_code
def yX9_paidInYear : MethodName := ⟨RX9, "paidInYear", "(I)I"⟩
abbrev cX9_commonDivisor : ByteArray := prog_1_method_44_code
def yX9_commonDivisor : MethodName := ⟨RX9, "commonDivisor", "(II)I"⟩
abbrev cX9_hasBit : ByteArray := prog_1_method_45_code
def yX9_hasBit : MethodName := ⟨RX9, "hasBit", "(II)Z"⟩
abbrev cX9_at : ByteArray := prog_1_method_46_code
def yX9_at : MethodName := ⟨RX9, "at", "([II)I"⟩
def RX10 : String := "VerseCustomsModel"
def TX10 : u_T := fun k => match k with
  | 0 => ("VerseCustomsModel", "book", "[I", true)
  | 1 => ("VerseCustomsModel", "was", "[I", true)
  | 2 => ("VerseCustomsModel", "undos", "I", false)
  | 3 => ("VerseCustomsModel", "images", "[I", true)
  | 4 => ("VerseCustomsModel", "kept", "[Z", true)
  | 5 => ("VerseCustomsModel", "line", "[I", true)
  | 6 => ("VerseCustomsModel", "long0", "I", false)
  | 7 => ("VerseCustomsModel", "told", "[I", true)
  | 8 => ("VerseCustomsModel", "many", "I", false)
  | 9 => ("VerseCustomsModel", "secretly", "I", false)
  | 10 => ("VerseCustomsModel", "text", "[I", true)
  | 11 => ("VerseCustomsModel", "written", "I", false)
  | 12 => ("VerseCustomsModel", "at", "I", false)
  | 13 => ("VerseCustomsModel", "start", "I", false)
  | 14 => ("VerseCustomsModel", "token", "I", false)
  | 15 => ("VerseCustomsModel", "value", "I", false)
  | 16 => ("VerseCustomsModel", "clauses", "[I", true)
  | 17 => ("VerseCustomsModel", "read", "I", false)
  | 18 => ("VerseCustomsModel", "words", "I", false)
  | 19 => ("VerseCustomsModel", "wares", "I", false)
  | 20 => ("VerseCustomsModel", "clerks", "I", false)
  | 21 => ("VerseCustomsModel", "row", "[I", true)
  | 22 => ("VerseCustomsModel", "first", "[I", true)
  | 23 => ("VerseCustomsModel", "found", "I", false)
  | 24 => ("VerseCustomsModel", "uses", "[I", true)
  | 25 => ("VerseCustomsModel", "always", "[I", true)
  | _ => ("VerseCustomsModel", "wanted", "I", false)
def tyX10 : Nat → FieldType := fun k => match k with
  | 0 => .array .int
  | 1 => .array .int
  | 2 => .int
  | 3 => .array .int
  | 4 => .array .boolean
  | 5 => .array .int
  | 6 => .int
  | 7 => .array .int
  | 8 => .int
  | 9 => .int
  | 10 => .array .int
  | 11 => .int
  | 12 => .int
  | 13 => .int
  | 14 => .int
  | 15 => .int
  | 16 => .array .int
  | 17 => .int
  | 18 => .int
  | 19 => .int
  | 20 => .int
  | 21 => .array .int
  | 22 => .array .int
  | 23 => .int
  | 24 => .array .int
  | 25 => .array .int
  | _ => .int
abbrev wsX100 : List Cond := u_ws RX10 TX10 27
theorem nmX10 : ∀ a, a < 27 → ∀ b, b < 27 → a ≠ b → (TX10 a).2.1 ≠ (TX10 b).2.1 := by decide +kernel
theorem tyX10_ok : ∀ k, k < 27 → parseFieldDescriptor (TX10 k).2.2.1 = some (tyX10 k) := by decide +kernel
abbrev cX10_in : ByteArray := prog_12_method_2_code
def yX10_in : MethodName := ⟨RX10, "in", "(JJJ)Z"⟩
abbrev cX10_init : ByteArray := prog_12_method_3_code
def yX10_init : MethodName := ⟨RX10, "<init>", "()V"⟩
abbrev cX10_empties : ByteArray := prog_12_method_4_code
def yX10_empties : MethodName := ⟨RX10, "empties", "()V"⟩
abbrev cX10_isWord : ByteArray := prog_12_method_5_code
def yX10_isWord : MethodName := ⟨RX10, "isWord", "(I)Z"⟩
abbrev cX10_isWare : ByteArray := prog_12_method_6_code
def yX10_isWare : MethodName := ⟨RX10, "isWare", "(I)Z"⟩
abbrev cX10_isClerk : ByteArray := prog_12_method_7_code
def yX10_isClerk : MethodName := ⟨RX10, "isClerk", "(I)Z"⟩
abbrev cX10_areBoth : ByteArray := prog_12_method_8_code
def yX10_areBoth : MethodName := ⟨RX10, "areBoth", "(II)Z"⟩
abbrev cX10_write : ByteArray := prog_12_method_9_code
def yX10_write : MethodName := ⟨RX10, "write", "(I)I"⟩
abbrev cX10_erase : ByteArray := prog_12_method_10_code
def yX10_erase : MethodName := ⟨RX10, "erase", "()I"⟩
abbrev cX10_isAt : ByteArray := prog_12_method_11_code
def yX10_isAt : MethodName := ⟨RX10, "isAt", "(II)Z"⟩
abbrev cX10_verbOf : ByteArray := prog_12_method_12_code
def yX10_verbOf : MethodName := ⟨RX10, "verbOf", "(J)I"⟩
abbrev cX10_looks : ByteArray := prog_12_method_13_code
def yX10_looks : MethodName := ⟨RX10, "looks", "()V"⟩
abbrev cX10_numbers : ByteArray := prog_12_method_14_code
def yX10_numbers : MethodName := ⟨RX10, "numbers", "(I)I"⟩
abbrev cX10_low : ByteArray := prog_12_method_15_code
def yX10_low : MethodName := ⟨RX10, "low", "(II)I"⟩
abbrev cX10_high : ByteArray := prog_12_method_16_code
def yX10_high : MethodName := ⟨RX10, "high", "(III)I"⟩
abbrev cX10_comes : ByteArray := prog_12_method_17_code
def yX10_comes : MethodName := ⟨RX10, "comes", "(I)Z"⟩
abbrev cX10_reads : ByteArray := prog_12_method_18_code
def yX10_reads : MethodName := ⟨RX10, "reads", "()Z"⟩
abbrev cX10_fault : ByteArray := prog_12_method_19_code
def yX10_fault : MethodName := ⟨RX10, "fault", "()I"⟩
abbrev cX10_does : ByteArray := prog_12_method_20_code
def yX10_does : MethodName := ⟨RX10, "does", "(I)V"⟩
abbrev cX10_customs : ByteArray := prog_12_method_21_code
def yX10_customs : MethodName := ⟨RX10, "customs", "()I"⟩
abbrev cX10_word : ByteArray := prog_12_method_22_code
def yX10_word : MethodName := ⟨RX10, "word", "(II)I"⟩
abbrev cX10_ware : ByteArray := prog_12_method_23_code
def yX10_ware : MethodName := ⟨RX10, "ware", "(II)I"⟩
abbrev cX10_clerk : ByteArray := prog_12_method_24_code
def yX10_clerk : MethodName := ⟨RX10, "clerk", "(I)I"⟩
abbrev cX10_portsOf : ByteArray := prog_12_method_25_code
def yX10_portsOf : MethodName := ⟨RX10, "portsOf", "(I)I"⟩
abbrev cX10_rhyme : ByteArray := prog_12_method_26_code
def yX10_rhyme : MethodName := ⟨RX10, "rhyme", "(II)I"⟩
abbrev cX10_kindOf : ByteArray := prog_12_method_27_code
def yX10_kindOf : MethodName := ⟨RX10, "kindOf", "(I)I"⟩
abbrev cX10_as : ByteArray := prog_12_method_28_code
def yX10_as : MethodName := ⟨RX10, "as", "(II)I"⟩
abbrev cX10_clerkAs : ByteArray := prog_12_method_29_code
def yX10_clerkAs : MethodName := ⟨RX10, "clerkAs", "(II)I"⟩
abbrev cX10_syllables : ByteArray := prog_12_method_30_code
def yX10_syllables : MethodName := ⟨RX10, "syllables", "(I)I"⟩
abbrev cX10_toldOf : ByteArray := prog_12_method_31_code
def yX10_toldOf : MethodName := ⟨RX10, "toldOf", "([II)I"⟩
abbrev cX10_countedBy : ByteArray := prog_12_method_32_code
def yX10_countedBy : MethodName := ⟨RX10, "countedBy", "(I[II)I"⟩
abbrev cX10_isScanned : ByteArray := prog_12_method_33_code
def yX10_isScanned : MethodName := ⟨RX10, "isScanned", "([II)Z"⟩
abbrev cX10_rhymes : ByteArray := prog_12_method_34_code
def yX10_rhymes : MethodName := ⟨RX10, "rhymes", "(II)Z"⟩
abbrev cX10_isPassed : ByteArray := prog_12_method_35_code
def yX10_isPassed : MethodName := ⟨RX10, "isPassed", "([IIII)Z"⟩
abbrev cX10_isWorn : ByteArray := prog_12_method_36_code
def yX10_isWorn : MethodName := ⟨RX10, "isWorn", "(I[II)Z"⟩
abbrev cX10_put : ByteArray := prog_12_method_37_code
def yX10_put : MethodName := ⟨RX10, "put", "(I)I"⟩
abbrev cX10_wipe : ByteArray := prog_12_method_38_code
def yX10_wipe : MethodName := ⟨RX10, "wipe", "()I"⟩
abbrev cX10_line : ByteArray := prog_12_method_39_code
def yX10_line : MethodName := ⟨RX10, "line", "(I)I"⟩
abbrev cX10_counts : ByteArray := prog_12_method_40_code
def yX10_counts : MethodName := ⟨RX10, "counts", "(I)I"⟩
abbrev cX10_scans : ByteArray := prog_12_method_41_code
def yX10_scans : MethodName := ⟨RX10, "scans", "()I"⟩
abbrev cX10_passes : ByteArray := prog_12_method_42_code
def yX10_passes : MethodName := ⟨RX10, "passes", "(II)I"⟩
abbrev cX10_remembers : ByteArray := prog_12_method_43_code
def yX10_remembers : MethodName := ⟨RX10, "remembers", "()V"⟩
abbrev cX10_pays : ByteArray := prog_12_method_44_code
def yX10_pays : MethodName := ⟨RX10, "pays", "(III)I"⟩
abbrev cX10_declare : ByteArray := prog_12_method_45_code
def yX10_declare : MethodName := ⟨RX10, "declare", "(II)I"⟩
abbrev cX10_prose : ByteArray := prog_12_method_46_code
def yX10_prose : MethodName := ⟨RX10, "prose", "(I)I"⟩
abbrev cX10_day : ByteArray := prog_12_method_47_code
def yX10_day : MethodName := ⟨RX10, "day", "()I"⟩
abbrev cX10_undo : ByteArray := prog_12_method_48_code
def yX10_undo : MethodName := ⟨RX10, "undo", "()I"⟩
abbrev cX10_keep : ByteArray := prog_12_method_49_code
def yX10_keep : MethodName := ⟨RX10, "keep", "(I)I"⟩
abbrev cX10_back : ByteArray := prog_12_method_50_code
def yX10_back : MethodName := ⟨RX10, "back", "(I)I"⟩
abbrev cX10_ways : ByteArray := prog_12_method_51_code
def yX10_ways : MethodName := ⟨RX10, "ways", "(I)I"⟩
abbrev cX10_lays : ByteArray := prog_12_method_52_code
def yX10_lays : MethodName := ⟨RX10, "lays", "(II)V"⟩
abbrev cX10_keepsFirst : ByteArray := prog_12_method_53_code
def yX10_keepsFirst : MethodName := ⟨RX10, "keepsFirst", "(I)V"⟩
abbrev cX10_passesSome : ByteArray := prog_12_method_54_code
def yX10_passesSome : MethodName := ⟨RX10, "passesSome", "(III)Z"⟩
abbrev cX10_shortestOf : ByteArray := prog_12_method_55_code
def yX10_shortestOf : MethodName := ⟨RX10, "shortestOf", "(II)I"⟩
abbrev cX10_shortest : ByteArray := prog_12_method_56_code
def yX10_shortest : MethodName := ⟨RX10, "shortest", "(III)I"⟩
abbrev cX10_shortestWord : ByteArray := prog_12_method_57_code
def yX10_shortestWord : MethodName := ⟨RX10, "shortestWord", "(III)I"⟩
abbrev cX10_forAll : ByteArray := prog_12_method_58_code
def yX10_forAll : MethodName := ⟨RX10, "forAll", "(II)I"⟩
abbrev cX10_hidden : ByteArray := prog_12_method_59_code
def yX10_hidden : MethodName := ⟨RX10, "hidden", "(I)I"⟩
abbrev cX10_altered : ByteArray := prog_12_method_60_code
def yX10_altered : MethodName := ⟨RX10, "altered", "(III)I"⟩
abbrev cX10_weightOf : ByteArray := prog_12_method_61_code
def yX10_weightOf : MethodName := ⟨RX10, "weightOf", "(I)I"⟩
abbrev cX10_laden : ByteArray := prog_12_method_62_code
def yX10_laden : MethodName := ⟨RX10, "laden", "(II)I"⟩
abbrev cX10_left : ByteArray := prog_12_method_63_code
def yX10_left : MethodName := ⟨RX10, "left", "(I)I"⟩
abbrev cX10_divisor : ByteArray := prog_12_method_64_code
def yX10_divisor : MethodName := ⟨RX10, "divisor", "(II)I"⟩
abbrev cX10_odds : ByteArray := prog_12_method_65_code
def yX10_odds : MethodName := ⟨RX10, "odds", "(IIII)I"⟩
abbrev cX10_year : ByteArray := prog_12_method_66_code
def yX10_year : MethodName := ⟨RX10, "year", "()I"⟩
abbrev cX10_secret : ByteArray := prog_12_method_67_code
def yX10_secret : MethodName := ⟨RX10, "secret", "(I)I"⟩
abbrev cX10_counted : ByteArray := prog_12_method_68_code
def yX10_counted : MethodName := ⟨RX10, "counted", "(II)I"⟩
abbrev cX10_goesThrough : ByteArray := prog_12_method_69_code
def yX10_goesThrough : MethodName := ⟨RX10, "goesThrough", "()V"⟩
abbrev cX10_canBe : ByteArray := prog_12_method_70_code
def yX10_canBe : MethodName := ⟨RX10, "canBe", "(I)I"⟩
abbrev cX10_canBeWord : ByteArray := prog_12_method_71_code
def yX10_canBeWord : MethodName := ⟨RX10, "canBeWord", "(II)I"⟩
abbrev cX10_count : ByteArray := prog_12_method_72_code
def yX10_count : MethodName := ⟨RX10, "count", "(I)I"⟩
def RJx145de : String := "java/io/Serializable"
def TJx145de : u_T := fun k => match k with
  | _ => ("", "", "", false)
def tyJx145de : Nat → FieldType := fun k => match k with
  | _ => .int
abbrev wsJx145de0 : List Cond := u_ws RJx145de TJx145de 0
theorem nmJx145de : ∀ a, a < 0 → ∀ b, b < 0 → a ≠ b → (TJx145de a).2.1 ≠ (TJx145de b).2.1 := by decide +kernel
theorem tyJx145de_ok : ∀ k, k < 0 → parseFieldDescriptor (TJx145de k).2.2.1 = some (tyJx145de k) := by decide +kernel
def RJx9f9b0 : String := "java/lang/CharSequence"
def TJx9f9b0 : u_T := fun k => match k with
  | _ => ("", "", "", false)
def tyJx9f9b0 : Nat → FieldType := fun k => match k with
  | _ => .int
abbrev wsJx9f9b00 : List Cond := u_ws RJx9f9b0 TJx9f9b0 0
theorem nmJx9f9b0 : ∀ a, a < 0 → ∀ b, b < 0 → a ≠ b → (TJx9f9b0 a).2.1 ≠ (TJx9f9b0 b).2.1 := by decide +kernel
theorem tyJx9f9b0_ok : ∀ k, k < 0 → parseFieldDescriptor (TJx9f9b0 k).2.2.1 = some (tyJx9f9b0 k) := by decide +kernel
def RJxb160c : String := "java/lang/Comparable"
def TJxb160c : u_T := fun k => match k with
  | _ => ("", "", "", false)
def tyJxb160c : Nat → FieldType := fun k => match k with
  | _ => .int
abbrev wsJxb160c0 : List Cond := u_ws RJxb160c TJxb160c 0
theorem nmJxb160c : ∀ a, a < 0 → ∀ b, b < 0 → a ≠ b → (TJxb160c a).2.1 ≠ (TJxb160c b).2.1 := by decide +kernel
theorem tyJxb160c_ok : ∀ k, k < 0 → parseFieldDescriptor (TJxb160c k).2.2.1 = some (tyJxb160c k) := by decide +kernel
def RJ9 : String := "java/lang/Math"
def TJ9 : u_T := fun k => match k with
  | _ => ("", "", "", false)
def tyJ9 : Nat → FieldType := fun k => match k with
  | _ => .int
abbrev wsJ90 : List Cond := u_ws RJ9 TJ9 0
theorem nmJ9 : ∀ a, a < 0 → ∀ b, b < 0 → a ≠ b → (TJ9 a).2.1 ≠ (TJ9 b).2.1 := by decide +kernel
theorem tyJ9_ok : ∀ k, k < 0 → parseFieldDescriptor (TJ9 k).2.2.1 = some (tyJ9 k) := by decide +kernel
abbrev cJ9_max_7cf53 : ByteArray := prog_13_method_65_code
def yJ9_max_7cf53 : MethodName := ⟨RJ9, "max", "(II)I"⟩
abbrev cJ9_min_7cf53 : ByteArray := prog_13_method_69_code
def yJ9_min_7cf53 : MethodName := ⟨RJ9, "min", "(II)I"⟩
def RJ0 : String := "java/lang/String"
def TJ0 : u_T := fun k => match k with
  | _ => ("", "", "", false)
def tyJ0 : Nat → FieldType := fun k => match k with
  | _ => .int
abbrev wsJ00 : List Cond := u_ws RJ0 TJ0 0
theorem nmJ0 : ∀ a, a < 0 → ∀ b, b < 0 → a ≠ b → (TJ0 a).2.1 ≠ (TJ0 b).2.1 := by decide +kernel
theorem tyJ0_ok : ∀ k, k < 0 → parseFieldDescriptor (TJ0 k).2.2.1 = some (tyJ0 k) := by decide +kernel
abbrev cJ0_length_8abf5 : ByteArray := prog_14_method_54_code
def yJ0_length_8abf5 : MethodName := ⟨RJ0, "length", "()I"⟩
abbrev cJ0_charAt_5068e : ByteArray := prog_14_method_56_code
def yJ0_charAt_5068e : MethodName := ⟨RJ0, "charAt", "(I)C"⟩
abbrev cJ0_coder_7d493 : ByteArray := prog_14_method_152_code
def yJ0_coder_7d493 : MethodName := ⟨RJ0, "coder", "()B"⟩
abbrev cJ0_isLatin1_aae02 : ByteArray := prog_14_method_154_code
def yJ0_isLatin1_aae02 : MethodName := ⟨RJ0, "isLatin1", "()Z"⟩
abbrev cJ0_checkIndex_df160 : ByteArray := prog_14_method_155_code
def yJ0_checkIndex_df160 : MethodName := ⟨RJ0, "checkIndex", "(II)V"⟩
def RJ1 : String := "java/lang/StringLatin1"
def TJ1 : u_T := fun k => match k with
  | _ => ("", "", "", false)
def tyJ1 : Nat → FieldType := fun k => match k with
  | _ => .int
abbrev wsJ10 : List Cond := u_ws RJ1 TJ1 0
theorem nmJ1 : ∀ a, a < 0 → ∀ b, b < 0 → a ≠ b → (TJ1 a).2.1 ≠ (TJ1 b).2.1 := by decide +kernel
theorem tyJ1_ok : ∀ k, k < 0 → parseFieldDescriptor (TJ1 k).2.2.1 = some (tyJ1 k) := by decide +kernel
abbrev cJ1_charAt_3b067 : ByteArray := prog_15_method_2_code
def yJ1_charAt_3b067 : MethodName := ⟨RJ1, "charAt", "([BI)C"⟩
def RJ2 : String := "java/lang/StringUTF16"
def TJ2 : u_T := fun k => match k with
  | _ => ("", "", "", false)
def tyJ2 : Nat → FieldType := fun k => match k with
  | _ => .int
abbrev wsJ20 : List Cond := u_ws RJ2 TJ2 0
theorem nmJ2 : ∀ a, a < 0 → ∀ b, b < 0 → a ≠ b → (TJ2 a).2.1 ≠ (TJ2 b).2.1 := by decide +kernel
theorem tyJ2_ok : ∀ k, k < 0 → parseFieldDescriptor (TJ2 k).2.2.1 = some (tyJ2 k) := by decide +kernel
abbrev cJ2_getChar_3b067 : ByteArray := prog_16_method_5_code
def yJ2_getChar_3b067 : MethodName := ⟨RJ2, "getChar", "([BI)C"⟩
abbrev cJ2_length_9d52b : ByteArray := prog_16_method_6_code
def yJ2_length_9d52b : MethodName := ⟨RJ2, "length", "([B)I"⟩
abbrev cJ2_charAt_3b067 : ByteArray := prog_16_method_83_code
def yJ2_charAt_3b067 : MethodName := ⟨RJ2, "charAt", "([BI)C"⟩
abbrev cJ2_checkIndex_2214a : ByteArray := prog_16_method_91_code
def yJ2_checkIndex_2214a : MethodName := ⟨RJ2, "checkIndex", "(I[B)V"⟩
def RJ10 : String := "java/lang/System"
def TJ10 : u_T := fun k => match k with
  | _ => ("", "", "", false)
def tyJ10 : Nat → FieldType := fun k => match k with
  | _ => .int
abbrev wsJ100 : List Cond := u_ws RJ10 TJ10 0
theorem nmJ10 : ∀ a, a < 0 → ∀ b, b < 0 → a ≠ b → (TJ10 a).2.1 ≠ (TJ10 b).2.1 := by decide +kernel
theorem tyJ10_ok : ∀ k, k < 0 → parseFieldDescriptor (TJ10 k).2.2.1 = some (tyJ10 k) := by decide +kernel
def RJxfd54e : String := "java/lang/constant/Constable"
def TJxfd54e : u_T := fun k => match k with
  | _ => ("", "", "", false)
def tyJxfd54e : Nat → FieldType := fun k => match k with
  | _ => .int
abbrev wsJxfd54e0 : List Cond := u_ws RJxfd54e TJxfd54e 0
theorem nmJxfd54e : ∀ a, a < 0 → ∀ b, b < 0 → a ≠ b → (TJxfd54e a).2.1 ≠ (TJxfd54e b).2.1 := by decide +kernel
theorem tyJxfd54e_ok : ∀ k, k < 0 → parseFieldDescriptor (TJxfd54e k).2.2.1 = some (tyJxfd54e k) := by decide +kernel
def RJx3cf43 : String := "java/lang/constant/ConstantDesc"
def TJx3cf43 : u_T := fun k => match k with
  | _ => ("", "", "", false)
def tyJx3cf43 : Nat → FieldType := fun k => match k with
  | _ => .int
abbrev wsJx3cf430 : List Cond := u_ws RJx3cf43 TJx3cf43 0
theorem nmJx3cf43 : ∀ a, a < 0 → ∀ b, b < 0 → a ≠ b → (TJx3cf43 a).2.1 ≠ (TJx3cf43 b).2.1 := by decide +kernel
theorem tyJx3cf43_ok : ∀ k, k < 0 → parseFieldDescriptor (TJx3cf43 k).2.2.1 = some (tyJx3cf43 k) := by decide +kernel
def RJ7 : String := "java/util/Arrays"
def TJ7 : u_T := fun k => match k with
  | _ => ("", "", "", false)
def tyJ7 : Nat → FieldType := fun k => match k with
  | _ => .int
abbrev wsJ70 : List Cond := u_ws RJ7 TJ7 0
theorem nmJ7 : ∀ a, a < 0 → ∀ b, b < 0 → a ≠ b → (TJ7 a).2.1 ≠ (TJ7 b).2.1 := by decide +kernel
theorem tyJ7_ok : ∀ k, k < 0 → parseFieldDescriptor (TJ7 k).2.2.1 = some (tyJ7 k) := by decide +kernel
abbrev cJ7_fill_53178 : ByteArray := prog_18_method_103_code
def yJ7_fill_53178 : MethodName := ⟨RJ7, "fill", "([II)V"⟩
def RJ3 : String := "jdk/internal/util/Preconditions"
def TJ3 : u_T := fun k => match k with
  | _ => ("", "", "", false)
def tyJ3 : Nat → FieldType := fun k => match k with
  | _ => .int
abbrev wsJ30 : List Cond := u_ws RJ3 TJ3 0
theorem nmJ3 : ∀ a, a < 0 → ∀ b, b < 0 → a ≠ b → (TJ3 a).2.1 ≠ (TJ3 b).2.1 := by decide +kernel
theorem tyJ3_ok : ∀ k, k < 0 → parseFieldDescriptor (TJ3 k).2.2.1 = some (tyJ3 k) := by decide +kernel
abbrev cJ3_checkIndex_8e157 : ByteArray := prog_19_method_11_code
def yJ3_checkIndex_8e157 : MethodName := ⟨RJ3, "checkIndex", "(IILjava/util/function/BiFunction;)I"⟩
def RL : String := "VerseCustomsLaw"
abbrev cL_law : ByteArray := code
def yL_law : MethodName := ⟨RL, "law", "([I)Z"⟩
abbrev vwCl : List vw_C := [(RX0, TX0, 6), (RX1, TX1, 5), (RX2, TX2, 7), (RX3, TX3, 2), (RX4, TX4, 2), (RX5, TX5, 10), (RX6, TX6, 5), (RX7, TX7, 10), (RX8, TX8, 13), (RX9, TX9, 10), (RX10, TX10, 27)]
