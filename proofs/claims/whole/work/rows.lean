section
-- ===== PART A: goes FIRST, ahead of the names: the tables' words, and 'selects' of the private methods out of them =====
/-- a private method of a class that the tables say can be made, by its rows of tables_1 -/
def lw_okq (q : MethodName × Nat) : Prop := (q.1.cls ≠ "java/lang/invoke/MethodHandle" ∧ q.1.cls ≠ "java/lang/invoke/VarHandle") ∧ Cond.instantiable q.1.cls q.2 ∈ tables_1 ∧ Cond.privateMethod q.1 ∈ tables_1 ∧ Cond.instanceMethod q.1 ∈ tables_1
theorem lw_p0 : lw_okq (⟨"VerseCustoms$Text", "goOn", "()V"⟩, 10) := ⟨⟨by decide +kernel, by decide +kernel⟩, List.mem_of_getElem? (i := 108) (by decide +kernel), List.mem_of_getElem? (i := 389) (by decide +kernel), List.mem_of_getElem? (i := 390) (by decide +kernel)⟩
theorem lw_p1 : lw_okq (⟨"VerseCustoms$Text", "letterAt", "(I)I"⟩, 10) := ⟨⟨by decide +kernel, by decide +kernel⟩, List.mem_of_getElem? (i := 108) (by decide +kernel), List.mem_of_getElem? (i := 393) (by decide +kernel), List.mem_of_getElem? (i := 394) (by decide +kernel)⟩
theorem lw_p2 : lw_okq (⟨"VerseCustoms$Text", "sortAt", "(I)I"⟩, 10) := ⟨⟨by decide +kernel, by decide +kernel⟩, List.mem_of_getElem? (i := 108) (by decide +kernel), List.mem_of_getElem? (i := 397) (by decide +kernel), List.mem_of_getElem? (i := 398) (by decide +kernel)⟩
theorem lw_p3 : lw_okq (⟨"VerseCustoms$Text", "readClause", "(I)Z"⟩, 10) := ⟨⟨by decide +kernel, by decide +kernel⟩, List.mem_of_getElem? (i := 108) (by decide +kernel), List.mem_of_getElem? (i := 401) (by decide +kernel), List.mem_of_getElem? (i := 402) (by decide +kernel)⟩
theorem lw_p4 : lw_okq (⟨"VerseCustoms$Text", "clauseHere", "()I"⟩, 10) := ⟨⟨by decide +kernel, by decide +kernel⟩, List.mem_of_getElem? (i := 108) (by decide +kernel), List.mem_of_getElem? (i := 405) (by decide +kernel), List.mem_of_getElem? (i := 406) (by decide +kernel)⟩
theorem lw_p5 : lw_okq (⟨"VerseCustoms$Text", "isHere", "(Ljava/lang/String;)Z"⟩, 10) := ⟨⟨by decide +kernel, by decide +kernel⟩, List.mem_of_getElem? (i := 108) (by decide +kernel), List.mem_of_getElem? (i := 426) (by decide +kernel), List.mem_of_getElem? (i := 427) (by decide +kernel)⟩
theorem lw_p6 : lw_okq (⟨"VerseCustoms$Text", "hasRoomFor", "(I)Z"⟩, 10) := ⟨⟨by decide +kernel, by decide +kernel⟩, List.mem_of_getElem? (i := 108) (by decide +kernel), List.mem_of_getElem? (i := 478) (by decide +kernel), List.mem_of_getElem? (i := 479) (by decide +kernel)⟩
theorem lw_p7 : lw_okq (⟨"VerseCustoms$Text", "numberHere", "()I"⟩, 10) := ⟨⟨by decide +kernel, by decide +kernel⟩, List.mem_of_getElem? (i := 108) (by decide +kernel), List.mem_of_getElem? (i := 491) (by decide +kernel), List.mem_of_getElem? (i := 492) (by decide +kernel)⟩
theorem lw_p8 : lw_okq (⟨"VerseCustoms", "areKnown", "(II)Z"⟩, 10) := ⟨⟨by decide +kernel, by decide +kernel⟩, List.mem_of_getElem? (i := 20) (by decide +kernel), List.mem_of_getElem? (i := 668) (by decide +kernel), List.mem_of_getElem? (i := 669) (by decide +kernel)⟩
theorem lw_p9 : lw_okq (⟨"VerseCustoms$Demand", "begin", "(I)V"⟩, 5) := ⟨⟨by decide +kernel, by decide +kernel⟩, List.mem_of_getElem? (i := 195) (by decide +kernel), List.mem_of_getElem? (i := 780) (by decide +kernel), List.mem_of_getElem? (i := 781) (by decide +kernel)⟩
theorem lw_p10 : lw_okq (⟨"VerseCustoms$Demand", "hear", "(II)V"⟩, 5) := ⟨⟨by decide +kernel, by decide +kernel⟩, List.mem_of_getElem? (i := 195) (by decide +kernel), List.mem_of_getElem? (i := 786) (by decide +kernel), List.mem_of_getElem? (i := 787) (by decide +kernel)⟩
theorem lw_p11 : lw_okq (⟨"VerseCustoms", "fewestOrHowMany", "(I)I"⟩, 10) := ⟨⟨by decide +kernel, by decide +kernel⟩, List.mem_of_getElem? (i := 20) (by decide +kernel), List.mem_of_getElem? (i := 793) (by decide +kernel), List.mem_of_getElem? (i := 794) (by decide +kernel)⟩
theorem lw_p12 : lw_okq (⟨"VerseCustoms$Endings", "begin", "(Z)V"⟩, 7) := ⟨⟨by decide +kernel, by decide +kernel⟩, List.mem_of_getElem? (i := 218) (by decide +kernel), List.mem_of_getElem? (i := 801) (by decide +kernel), List.mem_of_getElem? (i := 802) (by decide +kernel)⟩
theorem lw_p13 : lw_okq (⟨"VerseCustoms$Endings", "fill", "(I)V"⟩, 7) := ⟨⟨by decide +kernel, by decide +kernel⟩, List.mem_of_getElem? (i := 218) (by decide +kernel), List.mem_of_getElem? (i := 806) (by decide +kernel), List.mem_of_getElem? (i := 807) (by decide +kernel)⟩
theorem lw_p14 : lw_okq (⟨"VerseCustoms$Endings", "leastWith", "(IIII)I"⟩, 7) := ⟨⟨by decide +kernel, by decide +kernel⟩, List.mem_of_getElem? (i := 218) (by decide +kernel), List.mem_of_getElem? (i := 810) (by decide +kernel), List.mem_of_getElem? (i := 811) (by decide +kernel)⟩
theorem lw_p15 : lw_okq (⟨"VerseCustoms$Endings", "leastAt", "(III)I"⟩, 7) := ⟨⟨by decide +kernel, by decide +kernel⟩, List.mem_of_getElem? (i := 218) (by decide +kernel), List.mem_of_getElem? (i := 825) (by decide +kernel), List.mem_of_getElem? (i := 826) (by decide +kernel)⟩
def lw_privs_1 : List (MethodName × Nat) := [(⟨"VerseCustoms$Text", "goOn", "()V"⟩, 10), (⟨"VerseCustoms$Text", "letterAt", "(I)I"⟩, 10), (⟨"VerseCustoms$Text", "sortAt", "(I)I"⟩, 10), (⟨"VerseCustoms$Text", "readClause", "(I)Z"⟩, 10), (⟨"VerseCustoms$Text", "clauseHere", "()I"⟩, 10), (⟨"VerseCustoms$Text", "isHere", "(Ljava/lang/String;)Z"⟩, 10), (⟨"VerseCustoms$Text", "hasRoomFor", "(I)Z"⟩, 10), (⟨"VerseCustoms$Text", "numberHere", "()I"⟩, 10), (⟨"VerseCustoms", "areKnown", "(II)Z"⟩, 10), (⟨"VerseCustoms$Demand", "begin", "(I)V"⟩, 5), (⟨"VerseCustoms$Demand", "hear", "(II)V"⟩, 5), (⟨"VerseCustoms", "fewestOrHowMany", "(I)I"⟩, 10), (⟨"VerseCustoms$Endings", "begin", "(Z)V"⟩, 7), (⟨"VerseCustoms$Endings", "fill", "(I)V"⟩, 7), (⟨"VerseCustoms$Endings", "leastWith", "(IIII)I"⟩, 7), (⟨"VerseCustoms$Endings", "leastAt", "(III)I"⟩, 7)]
theorem lw_r1 : ∀ q ∈ lw_privs_1, lw_okq q := List.forall_mem_cons.mpr ⟨lw_p0, List.forall_mem_cons.mpr ⟨lw_p1, List.forall_mem_cons.mpr ⟨lw_p2, List.forall_mem_cons.mpr ⟨lw_p3, List.forall_mem_cons.mpr ⟨lw_p4, List.forall_mem_cons.mpr ⟨lw_p5, List.forall_mem_cons.mpr ⟨lw_p6, List.forall_mem_cons.mpr ⟨lw_p7, List.forall_mem_cons.mpr ⟨lw_p8, List.forall_mem_cons.mpr ⟨lw_p9, List.forall_mem_cons.mpr ⟨lw_p10, List.forall_mem_cons.mpr ⟨lw_p11, List.forall_mem_cons.mpr ⟨lw_p12, List.forall_mem_cons.mpr ⟨lw_p13, List.forall_mem_cons.mpr ⟨lw_p14, List.forall_mem_cons.mpr ⟨lw_p15, fun _ h => absurd h List.not_mem_nil⟩⟩⟩⟩⟩⟩⟩⟩⟩⟩⟩⟩⟩⟩⟩⟩
theorem lw_p16 : lw_okq (⟨"VerseCustoms$Endings", "manyWith", "(IIII)I"⟩, 7) := ⟨⟨by decide +kernel, by decide +kernel⟩, List.mem_of_getElem? (i := 218) (by decide +kernel), List.mem_of_getElem? (i := 833) (by decide +kernel), List.mem_of_getElem? (i := 834) (by decide +kernel)⟩
theorem lw_p17 : lw_okq (⟨"VerseCustoms$Endings", "manyAt", "(III)I"⟩, 7) := ⟨⟨by decide +kernel, by decide +kernel⟩, List.mem_of_getElem? (i := 218) (by decide +kernel), List.mem_of_getElem? (i := 837) (by decide +kernel), List.mem_of_getElem? (i := 838) (by decide +kernel)⟩
theorem lw_p18 : lw_okq (⟨"VerseCustoms$Endings", "firstWord", "(III)I"⟩, 7) := ⟨⟨by decide +kernel, by decide +kernel⟩, List.mem_of_getElem? (i := 218) (by decide +kernel), List.mem_of_getElem? (i := 854) (by decide +kernel), List.mem_of_getElem? (i := 855) (by decide +kernel)⟩
theorem lw_p19 : lw_okq (⟨"VerseCustoms$Hiding", "mostBehind", "(II)I"⟩, 2) := ⟨⟨by decide +kernel, by decide +kernel⟩, List.mem_of_getElem? (i := 250) (by decide +kernel), List.mem_of_getElem? (i := 875) (by decide +kernel), List.mem_of_getElem? (i := 876) (by decide +kernel)⟩
theorem lw_p20 : lw_okq (⟨"VerseCustoms$Ships", "weigh", "(I)V"⟩, 5) := ⟨⟨by decide +kernel, by decide +kernel⟩, List.mem_of_getElem? (i := 264) (by decide +kernel), List.mem_of_getElem? (i := 901) (by decide +kernel), List.mem_of_getElem? (i := 902) (by decide +kernel)⟩
theorem lw_p21 : lw_okq (⟨"VerseCustoms", "waresThatRhymesAllow", "()I"⟩, 10) := ⟨⟨by decide +kernel, by decide +kernel⟩, List.mem_of_getElem? (i := 20) (by decide +kernel), List.mem_of_getElem? (i := 911) (by decide +kernel), List.mem_of_getElem? (i := 912) (by decide +kernel)⟩
theorem lw_p22 : lw_okq (⟨"VerseCustoms", "portsWornOut", "()I"⟩, 10) := ⟨⟨by decide +kernel, by decide +kernel⟩, List.mem_of_getElem? (i := 20) (by decide +kernel), List.mem_of_getElem? (i := 918) (by decide +kernel), List.mem_of_getElem? (i := 919) (by decide +kernel)⟩
theorem lw_p23 : lw_okq (⟨"VerseCustoms", "paidInYear", "(I)I"⟩, 10) := ⟨⟨by decide +kernel, by decide +kernel⟩, List.mem_of_getElem? (i := 20) (by decide +kernel), List.mem_of_getElem? (i := 937) (by decide +kernel), List.mem_of_getElem? (i := 938) (by decide +kernel)⟩
theorem lw_p24 : lw_okq (⟨"VerseCustoms$Secret", "agrees", "()Z"⟩, 10) := ⟨⟨by decide +kernel, by decide +kernel⟩, List.mem_of_getElem? (i := 289) (by decide +kernel), List.mem_of_getElem? (i := 969) (by decide +kernel), List.mem_of_getElem? (i := 970) (by decide +kernel)⟩
theorem lw_p25 : lw_okq (⟨"VerseCustoms$Secret", "take", "()V"⟩, 10) := ⟨⟨by decide +kernel, by decide +kernel⟩, List.mem_of_getElem? (i := 289) (by decide +kernel), List.mem_of_getElem? (i := 976) (by decide +kernel), List.mem_of_getElem? (i := 977) (by decide +kernel)⟩
theorem lw_p26 : lw_okq (⟨"VerseCustoms$Secret", "moveOn", "()V"⟩, 10) := ⟨⟨by decide +kernel, by decide +kernel⟩, List.mem_of_getElem? (i := 289) (by decide +kernel), List.mem_of_getElem? (i := 988) (by decide +kernel), List.mem_of_getElem? (i := 989) (by decide +kernel)⟩
theorem lw_p27 : lw_okq (⟨"VerseCustoms", "openWares", "()I"⟩, 10) := ⟨⟨by decide +kernel, by decide +kernel⟩, List.mem_of_getElem? (i := 20) (by decide +kernel), List.mem_of_getElem? (i := 1008) (by decide +kernel), List.mem_of_getElem? (i := 1009) (by decide +kernel)⟩
theorem lw_p28 : lw_okq (⟨"VerseCustomsModel", "empties", "()V"⟩, 27) := ⟨⟨by decide +kernel, by decide +kernel⟩, List.mem_of_getElem? (i := 1012) (by decide +kernel), List.mem_of_getElem? (i := 1018) (by decide +kernel), List.mem_of_getElem? (i := 1019) (by decide +kernel)⟩
theorem lw_p29 : lw_okq (⟨"VerseCustomsModel", "reads", "()Z"⟩, 27) := ⟨⟨by decide +kernel, by decide +kernel⟩, List.mem_of_getElem? (i := 1012) (by decide +kernel), List.mem_of_getElem? (i := 1122) (by decide +kernel), List.mem_of_getElem? (i := 1123) (by decide +kernel)⟩
theorem lw_p30 : lw_okq (⟨"VerseCustomsModel", "looks", "()V"⟩, 27) := ⟨⟨by decide +kernel, by decide +kernel⟩, List.mem_of_getElem? (i := 1012) (by decide +kernel), List.mem_of_getElem? (i := 1126) (by decide +kernel), List.mem_of_getElem? (i := 1127) (by decide +kernel)⟩
theorem lw_p31 : lw_okq (⟨"VerseCustomsModel", "isAt", "(II)Z"⟩, 27) := ⟨⟨by decide +kernel, by decide +kernel⟩, List.mem_of_getElem? (i := 1012) (by decide +kernel), List.mem_of_getElem? (i := 1130) (by decide +kernel), List.mem_of_getElem? (i := 1131) (by decide +kernel)⟩
def lw_privs_2 : List (MethodName × Nat) := [(⟨"VerseCustoms$Endings", "manyWith", "(IIII)I"⟩, 7), (⟨"VerseCustoms$Endings", "manyAt", "(III)I"⟩, 7), (⟨"VerseCustoms$Endings", "firstWord", "(III)I"⟩, 7), (⟨"VerseCustoms$Hiding", "mostBehind", "(II)I"⟩, 2), (⟨"VerseCustoms$Ships", "weigh", "(I)V"⟩, 5), (⟨"VerseCustoms", "waresThatRhymesAllow", "()I"⟩, 10), (⟨"VerseCustoms", "portsWornOut", "()I"⟩, 10), (⟨"VerseCustoms", "paidInYear", "(I)I"⟩, 10), (⟨"VerseCustoms$Secret", "agrees", "()Z"⟩, 10), (⟨"VerseCustoms$Secret", "take", "()V"⟩, 10), (⟨"VerseCustoms$Secret", "moveOn", "()V"⟩, 10), (⟨"VerseCustoms", "openWares", "()I"⟩, 10), (⟨"VerseCustomsModel", "empties", "()V"⟩, 27), (⟨"VerseCustomsModel", "reads", "()Z"⟩, 27), (⟨"VerseCustomsModel", "looks", "()V"⟩, 27), (⟨"VerseCustomsModel", "isAt", "(II)Z"⟩, 27)]
theorem lw_r2 : ∀ q ∈ lw_privs_2, lw_okq q := List.forall_mem_cons.mpr ⟨lw_p16, List.forall_mem_cons.mpr ⟨lw_p17, List.forall_mem_cons.mpr ⟨lw_p18, List.forall_mem_cons.mpr ⟨lw_p19, List.forall_mem_cons.mpr ⟨lw_p20, List.forall_mem_cons.mpr ⟨lw_p21, List.forall_mem_cons.mpr ⟨lw_p22, List.forall_mem_cons.mpr ⟨lw_p23, List.forall_mem_cons.mpr ⟨lw_p24, List.forall_mem_cons.mpr ⟨lw_p25, List.forall_mem_cons.mpr ⟨lw_p26, List.forall_mem_cons.mpr ⟨lw_p27, List.forall_mem_cons.mpr ⟨lw_p28, List.forall_mem_cons.mpr ⟨lw_p29, List.forall_mem_cons.mpr ⟨lw_p30, List.forall_mem_cons.mpr ⟨lw_p31, fun _ h => absurd h List.not_mem_nil⟩⟩⟩⟩⟩⟩⟩⟩⟩⟩⟩⟩⟩⟩⟩⟩
theorem lw_p32 : lw_okq (⟨"VerseCustomsModel", "comes", "(I)Z"⟩, 27) := ⟨⟨by decide +kernel, by decide +kernel⟩, List.mem_of_getElem? (i := 1012) (by decide +kernel), List.mem_of_getElem? (i := 1153) (by decide +kernel), List.mem_of_getElem? (i := 1154) (by decide +kernel)⟩
theorem lw_p33 : lw_okq (⟨"VerseCustomsModel", "does", "(I)V"⟩, 27) := ⟨⟨by decide +kernel, by decide +kernel⟩, List.mem_of_getElem? (i := 1012) (by decide +kernel), List.mem_of_getElem? (i := 1170) (by decide +kernel), List.mem_of_getElem? (i := 1171) (by decide +kernel)⟩
theorem lw_p34 : lw_okq (⟨"VerseCustomsModel", "isWord", "(I)Z"⟩, 27) := ⟨⟨by decide +kernel, by decide +kernel⟩, List.mem_of_getElem? (i := 1012) (by decide +kernel), List.mem_of_getElem? (i := 1178) (by decide +kernel), List.mem_of_getElem? (i := 1179) (by decide +kernel)⟩
theorem lw_p35 : lw_okq (⟨"VerseCustomsModel", "isWare", "(I)Z"⟩, 27) := ⟨⟨by decide +kernel, by decide +kernel⟩, List.mem_of_getElem? (i := 1012) (by decide +kernel), List.mem_of_getElem? (i := 1187) (by decide +kernel), List.mem_of_getElem? (i := 1188) (by decide +kernel)⟩
theorem lw_p36 : lw_okq (⟨"VerseCustomsModel", "isClerk", "(I)Z"⟩, 27) := ⟨⟨by decide +kernel, by decide +kernel⟩, List.mem_of_getElem? (i := 1012) (by decide +kernel), List.mem_of_getElem? (i := 1196) (by decide +kernel), List.mem_of_getElem? (i := 1197) (by decide +kernel)⟩
theorem lw_p37 : lw_okq (⟨"VerseCustomsModel", "portsOf", "(I)I"⟩, 27) := ⟨⟨by decide +kernel, by decide +kernel⟩, List.mem_of_getElem? (i := 1012) (by decide +kernel), List.mem_of_getElem? (i := 1205) (by decide +kernel), List.mem_of_getElem? (i := 1206) (by decide +kernel)⟩
theorem lw_p38 : lw_okq (⟨"VerseCustomsModel", "kindOf", "(I)I"⟩, 27) := ⟨⟨by decide +kernel, by decide +kernel⟩, List.mem_of_getElem? (i := 1012) (by decide +kernel), List.mem_of_getElem? (i := 1214) (by decide +kernel), List.mem_of_getElem? (i := 1215) (by decide +kernel)⟩
theorem lw_p39 : lw_okq (⟨"VerseCustomsModel", "countedBy", "(I[II)I"⟩, 27) := ⟨⟨by decide +kernel, by decide +kernel⟩, List.mem_of_getElem? (i := 1012) (by decide +kernel), List.mem_of_getElem? (i := 1222) (by decide +kernel), List.mem_of_getElem? (i := 1223) (by decide +kernel)⟩
theorem lw_p40 : lw_okq (⟨"VerseCustomsModel", "toldOf", "([II)I"⟩, 27) := ⟨⟨by decide +kernel, by decide +kernel⟩, List.mem_of_getElem? (i := 1012) (by decide +kernel), List.mem_of_getElem? (i := 1226) (by decide +kernel), List.mem_of_getElem? (i := 1227) (by decide +kernel)⟩
theorem lw_p41 : lw_okq (⟨"VerseCustomsModel", "syllables", "(I)I"⟩, 27) := ⟨⟨by decide +kernel, by decide +kernel⟩, List.mem_of_getElem? (i := 1012) (by decide +kernel), List.mem_of_getElem? (i := 1230) (by decide +kernel), List.mem_of_getElem? (i := 1231) (by decide +kernel)⟩
theorem lw_p42 : lw_okq (⟨"VerseCustomsModel", "isScanned", "([II)Z"⟩, 27) := ⟨⟨by decide +kernel, by decide +kernel⟩, List.mem_of_getElem? (i := 1012) (by decide +kernel), List.mem_of_getElem? (i := 1254) (by decide +kernel), List.mem_of_getElem? (i := 1255) (by decide +kernel)⟩
theorem lw_p43 : lw_okq (⟨"VerseCustomsModel", "areBoth", "(II)Z"⟩, 27) := ⟨⟨by decide +kernel, by decide +kernel⟩, List.mem_of_getElem? (i := 1012) (by decide +kernel), List.mem_of_getElem? (i := 1262) (by decide +kernel), List.mem_of_getElem? (i := 1263) (by decide +kernel)⟩
theorem lw_p44 : lw_okq (⟨"VerseCustomsModel", "isPassed", "([IIII)Z"⟩, 27) := ⟨⟨by decide +kernel, by decide +kernel⟩, List.mem_of_getElem? (i := 1012) (by decide +kernel), List.mem_of_getElem? (i := 1266) (by decide +kernel), List.mem_of_getElem? (i := 1267) (by decide +kernel)⟩
theorem lw_p45 : lw_okq (⟨"VerseCustomsModel", "rhymes", "(II)Z"⟩, 27) := ⟨⟨by decide +kernel, by decide +kernel⟩, List.mem_of_getElem? (i := 1012) (by decide +kernel), List.mem_of_getElem? (i := 1270) (by decide +kernel), List.mem_of_getElem? (i := 1271) (by decide +kernel)⟩
theorem lw_p46 : lw_okq (⟨"VerseCustomsModel", "remembers", "()V"⟩, 27) := ⟨⟨by decide +kernel, by decide +kernel⟩, List.mem_of_getElem? (i := 1012) (by decide +kernel), List.mem_of_getElem? (i := 1278) (by decide +kernel), List.mem_of_getElem? (i := 1279) (by decide +kernel)⟩
theorem lw_p47 : lw_okq (⟨"VerseCustomsModel", "isWorn", "(I[II)Z"⟩, 27) := ⟨⟨by decide +kernel, by decide +kernel⟩, List.mem_of_getElem? (i := 1012) (by decide +kernel), List.mem_of_getElem? (i := 1282) (by decide +kernel), List.mem_of_getElem? (i := 1283) (by decide +kernel)⟩
def lw_privs_3 : List (MethodName × Nat) := [(⟨"VerseCustomsModel", "comes", "(I)Z"⟩, 27), (⟨"VerseCustomsModel", "does", "(I)V"⟩, 27), (⟨"VerseCustomsModel", "isWord", "(I)Z"⟩, 27), (⟨"VerseCustomsModel", "isWare", "(I)Z"⟩, 27), (⟨"VerseCustomsModel", "isClerk", "(I)Z"⟩, 27), (⟨"VerseCustomsModel", "portsOf", "(I)I"⟩, 27), (⟨"VerseCustomsModel", "kindOf", "(I)I"⟩, 27), (⟨"VerseCustomsModel", "countedBy", "(I[II)I"⟩, 27), (⟨"VerseCustomsModel", "toldOf", "([II)I"⟩, 27), (⟨"VerseCustomsModel", "syllables", "(I)I"⟩, 27), (⟨"VerseCustomsModel", "isScanned", "([II)Z"⟩, 27), (⟨"VerseCustomsModel", "areBoth", "(II)Z"⟩, 27), (⟨"VerseCustomsModel", "isPassed", "([IIII)Z"⟩, 27), (⟨"VerseCustomsModel", "rhymes", "(II)Z"⟩, 27), (⟨"VerseCustomsModel", "remembers", "()V"⟩, 27), (⟨"VerseCustomsModel", "isWorn", "(I[II)Z"⟩, 27)]
theorem lw_r3 : ∀ q ∈ lw_privs_3, lw_okq q := List.forall_mem_cons.mpr ⟨lw_p32, List.forall_mem_cons.mpr ⟨lw_p33, List.forall_mem_cons.mpr ⟨lw_p34, List.forall_mem_cons.mpr ⟨lw_p35, List.forall_mem_cons.mpr ⟨lw_p36, List.forall_mem_cons.mpr ⟨lw_p37, List.forall_mem_cons.mpr ⟨lw_p38, List.forall_mem_cons.mpr ⟨lw_p39, List.forall_mem_cons.mpr ⟨lw_p40, List.forall_mem_cons.mpr ⟨lw_p41, List.forall_mem_cons.mpr ⟨lw_p42, List.forall_mem_cons.mpr ⟨lw_p43, List.forall_mem_cons.mpr ⟨lw_p44, List.forall_mem_cons.mpr ⟨lw_p45, List.forall_mem_cons.mpr ⟨lw_p46, List.forall_mem_cons.mpr ⟨lw_p47, fun _ h => absurd h List.not_mem_nil⟩⟩⟩⟩⟩⟩⟩⟩⟩⟩⟩⟩⟩⟩⟩⟩
theorem lw_p48 : lw_okq (⟨"VerseCustomsModel", "pays", "(III)I"⟩, 27) := ⟨⟨by decide +kernel, by decide +kernel⟩, List.mem_of_getElem? (i := 1012) (by decide +kernel), List.mem_of_getElem? (i := 1286) (by decide +kernel), List.mem_of_getElem? (i := 1287) (by decide +kernel)⟩
theorem lw_p49 : lw_okq (⟨"VerseCustomsModel", "shortestOf", "(II)I"⟩, 27) := ⟨⟨by decide +kernel, by decide +kernel⟩, List.mem_of_getElem? (i := 1012) (by decide +kernel), List.mem_of_getElem? (i := 1314) (by decide +kernel), List.mem_of_getElem? (i := 1315) (by decide +kernel)⟩
theorem lw_p50 : lw_okq (⟨"VerseCustomsModel", "ways", "(I)I"⟩, 27) := ⟨⟨by decide +kernel, by decide +kernel⟩, List.mem_of_getElem? (i := 1012) (by decide +kernel), List.mem_of_getElem? (i := 1318) (by decide +kernel), List.mem_of_getElem? (i := 1319) (by decide +kernel)⟩
theorem lw_p51 : lw_okq (⟨"VerseCustomsModel", "lays", "(II)V"⟩, 27) := ⟨⟨by decide +kernel, by decide +kernel⟩, List.mem_of_getElem? (i := 1012) (by decide +kernel), List.mem_of_getElem? (i := 1322) (by decide +kernel), List.mem_of_getElem? (i := 1323) (by decide +kernel)⟩
theorem lw_p52 : lw_okq (⟨"VerseCustomsModel", "passesSome", "(III)Z"⟩, 27) := ⟨⟨by decide +kernel, by decide +kernel⟩, List.mem_of_getElem? (i := 1012) (by decide +kernel), List.mem_of_getElem? (i := 1326) (by decide +kernel), List.mem_of_getElem? (i := 1327) (by decide +kernel)⟩
theorem lw_p53 : lw_okq (⟨"VerseCustomsModel", "keepsFirst", "(I)V"⟩, 27) := ⟨⟨by decide +kernel, by decide +kernel⟩, List.mem_of_getElem? (i := 1012) (by decide +kernel), List.mem_of_getElem? (i := 1330) (by decide +kernel), List.mem_of_getElem? (i := 1331) (by decide +kernel)⟩
theorem lw_p54 : lw_okq (⟨"VerseCustomsModel", "weightOf", "(I)I"⟩, 27) := ⟨⟨by decide +kernel, by decide +kernel⟩, List.mem_of_getElem? (i := 1012) (by decide +kernel), List.mem_of_getElem? (i := 1355) (by decide +kernel), List.mem_of_getElem? (i := 1356) (by decide +kernel)⟩
theorem lw_p55 : lw_okq (⟨"VerseCustomsModel", "goesThrough", "()V"⟩, 27) := ⟨⟨by decide +kernel, by decide +kernel⟩, List.mem_of_getElem? (i := 1012) (by decide +kernel), List.mem_of_getElem? (i := 1387) (by decide +kernel), List.mem_of_getElem? (i := 1388) (by decide +kernel)⟩
def lw_privs_4 : List (MethodName × Nat) := [(⟨"VerseCustomsModel", "pays", "(III)I"⟩, 27), (⟨"VerseCustomsModel", "shortestOf", "(II)I"⟩, 27), (⟨"VerseCustomsModel", "ways", "(I)I"⟩, 27), (⟨"VerseCustomsModel", "lays", "(II)V"⟩, 27), (⟨"VerseCustomsModel", "passesSome", "(III)Z"⟩, 27), (⟨"VerseCustomsModel", "keepsFirst", "(I)V"⟩, 27), (⟨"VerseCustomsModel", "weightOf", "(I)I"⟩, 27), (⟨"VerseCustomsModel", "goesThrough", "()V"⟩, 27)]
theorem lw_r4 : ∀ q ∈ lw_privs_4, lw_okq q := List.forall_mem_cons.mpr ⟨lw_p48, List.forall_mem_cons.mpr ⟨lw_p49, List.forall_mem_cons.mpr ⟨lw_p50, List.forall_mem_cons.mpr ⟨lw_p51, List.forall_mem_cons.mpr ⟨lw_p52, List.forall_mem_cons.mpr ⟨lw_p53, List.forall_mem_cons.mpr ⟨lw_p54, List.forall_mem_cons.mpr ⟨lw_p55, fun _ h => absurd h List.not_mem_nil⟩⟩⟩⟩⟩⟩⟩⟩
def lw_privs : List (MethodName × Nat) := lw_privs_1 ++ (lw_privs_2 ++ (lw_privs_3 ++ (lw_privs_4)))
def lw_tbl : List Cond := k2_sels lw_privs ++ tables_1
theorem lw_privs_ok : ∀ q ∈ lw_privs, lw_okq q := by
  show ∀ q ∈ lw_privs_1 ++ (lw_privs_2 ++ (lw_privs_3 ++ (lw_privs_4))), lw_okq q
  exact List.forall_mem_append.mpr ⟨lw_r1, List.forall_mem_append.mpr ⟨lw_r2, List.forall_mem_append.mpr ⟨lw_r3, lw_r4⟩⟩⟩
-- ===== end of PART A; then your names; then what follows =====
def va_AOA (ty : FieldType) (U : State) : Prop := (Cond.arrayOver (.array ty)).before #[] U = true
theorem va_AOA.use {ty : FieldType} {A : Array Value} {U : State} (h : va_AOA ty U) : (Cond.arrayOver (.array ty)).before A U = true := h
/-! ===== BEGIN words of one list among another's, by their places ===== -/
theorem goodIn_r {big : List Cond} (ws : List Cond) (ps : List Nat) (hp : ws = ps.filterMap (fun i => big[i]?)) (h : ws.all goodWord = true) : GoodIn big ws := by
  intro w hw
  have h1 := List.all_eq_true.mp h w hw
  rw [hp] at hw
  obtain ⟨i, -, hi⟩ := List.mem_filterMap.mp hw
  have hm : w ∈ big := by first | exact List.mem_of_getElem? hi | exact List.getElem?_mem hi
  exact ⟨hm, good_of_word h1⟩
theorem goodIn_app {big a b : List Cond} (ha : GoodIn big a) (hb : GoodIn big b) : GoodIn big (a ++ b) := fun w h => (List.mem_append.mp h).elim (ha w) (hb w)
theorem goodIn_ca {big a b : List Cond} {c : Cond} (ha : GoodIn big (c :: a)) (hb : GoodIn big b) : GoodIn big (c :: (a ++ b)) := fun w h => (List.mem_cons.mp h).elim (fun e => ha w (List.mem_cons.mpr (Or.inl e))) (fun h => (List.mem_append.mp h).elim (fun h => ha w (List.mem_cons.mpr (Or.inr h))) (hb w))
theorem goodIn_sub {big ws : List Cond} (hm : ∀ w ∈ ws, w ∈ big) (h : ws.all goodWord = true) : GoodIn big ws := fun w hw => ⟨hm w hw, good_of_word (List.all_eq_true.mp h w hw)⟩
/-! ===== END ===== -/

/-! ===== BEGIN new T[n][m]: the outer array a place, the inner ones among the pooled ===== -/
/-- f, but v at every address of l -/
def vr_up {α : Type} (f : Nat → α) (l : List Nat) (v : α) : Nat → α := fun a => if a ∈ l then v else f a
theorem vr_up_in {α : Type} {f : Nat → α} {l : List Nat} {v : α} {a : Nat} (h : a ∈ l) : vr_up f l v a = v := if_pos h
theorem vr_up_ne {α : Type} {f : Nat → α} {l : List Nat} {v : α} {a : Nat} (h : a ∉ l) : vr_up f l v a = f a := if_neg h
theorem vr_rows {L l : List Nat} {f : Nat → va_E} {e : va_E} (h : ∀ a, a ∈ l → a ∉ L) : va_pl L f ++ l.map (fun a => (a, e)) = va_pl (L ++ l) (vr_up f l e) := by
  unfold va_pl
  rw [List.map_append]
  congr 1
  · apply List.map_congr_left
    intro a ha
    rw [vr_up_ne (fun q => h a q ha)]
  · apply List.map_congr_left
    intro a ha
    rw [vr_up_in ha]
theorem vr_lay {X rows : va_W} {x : Nat × va_E} {pl : va_W} {D : va_G} {cl : List vw_C} {H : Heap} (hP : va_P D cl (((X ++ pl) ++ [x]) ++ rows) H) : va_P D cl ((X ++ [x]) ++ (pl ++ rows)) H := by
  rw [List.append_assoc (X ++ pl)] at hP
  have h := va_P.swap hP
  rw [← List.append_assoc X] at h
  have h2 := va_P.swap h
  rw [List.append_assoc (X ++ [x])] at h2
  exact h2
theorem vr_layD {X rows : va_W} {x : Nat × va_E} {pl : va_W} {A : Nat → Prop} (hD : va_D A (((X ++ pl) ++ [x]) ++ rows)) : va_D A ((X ++ [x]) ++ (pl ++ rows)) := by
  rw [List.append_assoc (X ++ pl)] at hD
  have h := va_D.swap hD
  rw [← List.append_assoc X] at h
  have h2 := va_D.swap h
  rw [List.append_assoc (X ++ [x])] at h2
  exact h2
theorem vr_outer (c : ClassId) (N h0 : Nat) : ∀ i : Nat, Jvm.Free.Multi.outerC c N h0 i = arrV c N (fun j => va_rf (if j < i then some (h0 + 1 + j) else none))
  | 0 => by
    show ({ cls := c, slots := Array.replicate N .null, vm := .none } : Cell) = _
    rw [arrV_new]
    refine congrArg (arrV c N) (funext fun j => ?_)
    simp [va_rf]
  | i + 1 => by
    show (Jvm.Free.Multi.outerC c N h0 i).setSlot i (.ref (h0 + 1 + i)) = _
    rw [vr_outer c N h0 i, arrV_store]
    refine congrArg (arrV c N) (funext fun j => ?_)
    by_cases e : j = i
    · subst e
      simp [updV, va_rf]
    · by_cases h : j < i
      · simp [updV, e, h, Nat.lt_succ_of_lt h]
      · simp [updV, e, h, show ¬ j < i + 1 by omega]
section VGM
variable {p : Program} {l : Launch} {e : Env} {R : Room} {s : State} {m : MethodId} {args : Array Value} {below : List Frame} {meth : Method} {c : Code} {H : Heap} {locs : List Loc} {cells slots : Nat} {Q : State → Prop}
variable {cc : ByteArray} {pc : Nat} {ls : Array Slot} {rest : List Value} {D : va_G} {cl : List vw_C} {A : Nat → Prop} {a : Nat} {tys : List (ClassId × FieldType)} {ws : va_W} {H0 : Heap}
theorem va_mna {X : va_W} {L : List Nat} {f : Nat → va_E} {cc : ByteArray} (hexec : p.tables.exec = Jvm.exec) (hb : c.code = cc) {own : String} {index : Nat} {ty : FieldType} {cy : ClassId} (hown : s.vm.findClass own = some m.cls) (hclink : (Cond.classLink own index ("[" ++ (FieldType.array ty).toString)).before args s = true) (hover : va_AOA ty s) (harr : (Cond.arrayClass ty).before args s = true) (hcy : s.vm.findClass (FieldType.array ty).toString = some cy)
    (hK : va_K D cl tys s) (hP : va_P D cl (X ++ va_pl L f) H) (hD : va_D A (X ++ va_pl L f)) (hS : va_S A H0 H locs) (hA : ∀ q, H0.size ≤ q → A q) {n k : Int32} {N' K' : Nat} {z : vp_A} (hn : ¬ n < 0) (hk : ¬ k < 0) (hN : n.toNatClampNeg = N') (hM : k.toNatClampNeg = K')
    (hb1 : N' * 4 ≤ 536870912) (hb2 : K' * componentBytes ty ≤ 536870912) (hb3 : K' ≤ 536870912) (hdf : fits ty (defaultValue ty) = true) (hdd : (defaultValue ty).isDefault = true) (hcells : cells + (1 + N') ≤ R.cells) (hslots : slots + (N' + N' * K') ≤ R.slots) (hz : ∀ c : ClassId, Jvm.Free.Multi.innerC c K' (defaultValue ty) = vp_cell c z) (hdg : decode cc pc = .ok (.multianewarray index 2, 4))
    (kk : ∀ (q : Nat) (r : Nat → Nat) (cA : ClassId) (H1 : Heap), (∀ i j : Nat, i < N' → j < N' → r i = r j → i = j) → (∀ i : Nat, i < N' → r i ∉ L) → va_K D cl (tys ++ [(cA, .array ty)]) s →
      va_P D cl ((X ++ [(q, .inl (cA, N', .inr (.inr (.inr (.inr (fun i => if i < N' then some (r i) else none))))))]) ++ va_pl (L ++ (List.range N').map r) (vr_up f ((List.range N').map r) (.inl (cy, z)))) H1 → va_D A ((X ++ [(q, .inl (cA, N', .inr (.inr (.inr (.inr (fun i => if i < N' then some (r i) else none))))))]) ++ va_pl (L ++ (List.range N').map r) (vr_up f ((List.range N').map r) (.inl (cy, z)))) → va_S A H0 H1 locs →
      W p l e R s m args below meth c H1 locs (cells + 1 + N') (slots + N' + N' * K') Q (F0 m (pc + 4) ls (.ref q :: rest))) : W p l e R s m args below meth c H locs cells slots Q (F0 m pc ls (.int k :: .int n :: rest)) := by
  subst hN
  subst hM
  intro T hT Xs
  obtain ⟨vm₁, cA, comp, -, fA, fC, hO, -, X', step⟩ := Xs.multianewarray2F hexec hown hclink (va_AOA.use hover) harr (g := F0 m pc ls (.int k :: .int n :: rest)) rfl (by rw [hb]; exact hdg) rfl hn hk hb1 hb2 hb3 hdf hdd hcells hslots
  have ec : some cy = some comp := hcy.symm.trans fC
  cases ec
  generalize hF : Jvm.Free.Multi.fill (T.setVm vm₁) cA cy n.toNatClampNeg k.toNatClampNeg (defaultValue ty) n.toNatClampNeg = F at X' step
  have hTh : (T.setVm vm₁).heap = H := hT
  obtain ⟨f1, f2, -, -⟩ := Jvm.Free.Multi.fill_facts (T.setVm vm₁) cA cy n.toNatClampNeg k.toNatClampNeg (defaultValue ty) n.toNatClampNeg
  rw [hF, hTh] at f1 f2
  have hold : ∀ x : Nat, x < H.size → F.heap[x]? = H[x]? := fun x hx => by
    have := Jvm.Free.Multi.fill_old (T.setVm vm₁) cA cy n.toNatClampNeg k.toNatClampNeg (defaultValue ty) (a := x) (by rw [hTh]; exact hx) n.toNatClampNeg
    rw [hF, hTh] at this
    exact this
  have hrow : ∀ j : Nat, j < n.toNatClampNeg → F.heap[H.size + 1 + j]? = some (vp_cell cy z) := fun j hj => by
    have := Jvm.Free.Multi.fill_inner (T.setVm vm₁) cA cy n.toNatClampNeg k.toNatClampNeg (defaultValue ty) n.toNatClampNeg j hj
    rw [hF, hTh, hz] at this
    exact this
  have hout : Jvm.Free.Multi.outerC cA n.toNatClampNeg H.size n.toNatClampNeg = vp_cell cA (n.toNatClampNeg, .inr (.inr (.inr (.inr (fun i => if i < n.toNatClampNeg then some (H.size + 1 + i) else none))))) := by
    rw [vp_cell_q]
    exact vr_outer cA n.toNatClampNeg H.size n.toNatClampNeg
  rw [hout] at f2
  have hlt : ∀ a, a ∈ L → a < H.size := fun a ha => by
    obtain ⟨k9, hk9⟩ := va_pl_get (X := X) (f := f) ha
    exact (hP k9 _ hk9).lt
  have hnl : ∀ i : Nat, i < n.toNatClampNeg → H.size + 1 + i ∉ L := fun i _ h => by
    have := hlt _ h
    omega
  have hnm : ∀ a, a ∈ (List.range n.toNatClampNeg).map (fun i => H.size + 1 + i) → a ∉ L := fun a ha h => by
    obtain ⟨i, -, rfl⟩ := List.mem_map.mp ha
    have := hlt _ h
    omega
  have hP0 : va_P D cl (X ++ va_pl L f) F.heap := hP.kept (fun k9 x hx => hold x.1 ((hP k9 x hx).lt))
  have hP1 : va_P D cl ((X ++ va_pl L f) ++ [(H.size, .inl (cA, n.toNatClampNeg, .inr (.inr (.inr (.inr (fun i => if i < n.toNatClampNeg then some (H.size + 1 + i) else none))))))]) F.heap := hP0.app (fun k9 x hx => by
    have h0 : k9 < 1 := (List.getElem?_eq_some_iff.mp hx).1
    rw [show k9 = 0 by omega] at hx
    cases hx
    exact f2)
  have hP2 : va_P D cl (((X ++ va_pl L f) ++ [(H.size, .inl (cA, n.toNatClampNeg, .inr (.inr (.inr (.inr (fun i => if i < n.toNatClampNeg then some (H.size + 1 + i) else none))))))]) ++ ((List.range n.toNatClampNeg).map (fun i => H.size + 1 + i)).map (fun a => (a, .inl (cy, z)))) F.heap := hP1.app (fun k9 x hx => by
    obtain ⟨a, ha, rfl⟩ := List.mem_map.mp (List.mem_of_getElem? hx)
    obtain ⟨i, hi, rfl⟩ := List.mem_map.mp ha
    exact hrow i (List.mem_range.mp hi))
  have hD2 : va_D A (((X ++ va_pl L f) ++ [(H.size, .inl (cA, n.toNatClampNeg, .inr (.inr (.inr (.inr (fun i => if i < n.toNatClampNeg then some (H.size + 1 + i) else none))))))]) ++ ((List.range n.toNatClampNeg).map (fun i => H.size + 1 + i)).map (fun a => (a, .inl (cy, z)))) := by
    have hD1 := hD.push (e := .inl (cA, n.toNatClampNeg, .inr (.inr (.inr (.inr (fun i => if i < n.toNatClampNeg then some (H.size + 1 + i) else none)))))) hP rfl (hA _ hS.1)
    generalize hW1 : (X ++ va_pl L f) ++ [(H.size, .inl (cA, n.toNatClampNeg, .inr (.inr (.inr (.inr (fun i => if i < n.toNatClampNeg then some (H.size + 1 + i) else none))))))] = W1 at hD1 hP1 ⊢
    have hle : ∀ (k9 : Nat) (x : Nat × va_E), W1[k9]? = some x → x.1 ≤ H.size := fun k9 x hx => by
      rw [← hW1] at hx
      by_cases hl : k9 < (X ++ va_pl L f).length
      · rw [List.getElem?_append_left hl] at hx
        exact Nat.le_of_lt ((hP k9 x hx).lt)
      · rw [List.getElem?_append_right (by omega)] at hx
        have h0 : k9 - (X ++ va_pl L f).length < 1 := (List.getElem?_eq_some_iff.mp hx).1
        rw [show k9 - (X ++ va_pl L f).length = 0 by omega] at hx
        cases hx
        exact Nat.le_refl _
    have hr : ∀ (k9 : Nat) (x : Nat × va_E), (((List.range n.toNatClampNeg).map (fun i => H.size + 1 + i)).map (fun a => ((a, .inl (cy, z)) : Nat × va_E)))[k9]? = some x → x.1 = H.size + 1 + k9 := fun k9 x hx => by
      rw [List.getElem?_map, List.getElem?_map] at hx
      by_cases h9 : k9 < n.toNatClampNeg
      · rw [List.getElem?_range h9] at hx
        cases hx
        rfl
      · have hn0 : (List.range n.toNatClampNeg)[k9]? = none := List.getElem?_eq_none (by rw [List.length_range]; omega)
        rw [hn0] at hx
        cases hx
    refine ⟨fun i j x y hi hj hxy => ?_, fun k9 x hx => ?_⟩
    · by_cases h1 : i < W1.length <;> by_cases h2 : j < W1.length
      · rw [List.getElem?_append_left h1] at hi
        rw [List.getElem?_append_left h2] at hj
        exact hD1.1 i j x y hi hj hxy
      · rw [List.getElem?_append_left h1] at hi
        rw [List.getElem?_append_right (by omega)] at hj
        have := hle _ _ hi
        have := hr _ _ hj
        omega
      · rw [List.getElem?_append_right (by omega)] at hi
        rw [List.getElem?_append_left h2] at hj
        have := hle _ _ hj
        have := hr _ _ hi
        omega
      · rw [List.getElem?_append_right (by omega)] at hi hj
        have := hr _ _ hi
        have := hr _ _ hj
        omega
    · by_cases h1 : k9 < W1.length
      · rw [List.getElem?_append_left h1] at hx
        exact hD1.2 k9 x hx
      · rw [List.getElem?_append_right (by omega)] at hx
        have := hr _ _ hx
        exact hA _ (by have := hS.1; omega)
  have hAr : ArrOfT s cA (.array ty) := fun N9 z9 => by
    obtain ⟨-, k9, hk9, cm9, hkk9⟩ := (hO 0 0 0).1
    exact ⟨(fun q hq => by cases hq), k9, hk9, cm9, hkk9⟩
  have hK2 : va_K D cl (tys ++ [(cA, .array ty)]) s := ⟨hK.1, fun k9 x hx => by
    by_cases hl : k9 < tys.length
    · rw [List.getElem?_append_left hl] at hx
      exact hK.2 k9 x hx
    · rw [List.getElem?_append_right (by omega)] at hx
      have h0 : k9 - tys.length < 1 := (List.getElem?_eq_some_iff.mp hx).1
      rw [show k9 - tys.length = 0 by omega] at hx
      cases hx
      exact ⟨hAr, fA⟩⟩
  obtain ⟨t, a1, b1⟩ := kk H.size (fun i => H.size + 1 + i) cA F.heap (fun i j _ _ h => by have h9 : H.size + 1 + i = H.size + 1 + j := h; omega) hnl hK2 (by rw [← vr_rows hnm]; exact vr_lay hP2) (by rw [← vr_rows hnm]; exact vr_layD hD2) ⟨by rw [f1]; have := hS.1; omega, fun x h1 h2 => (hold x (Nat.lt_of_lt_of_le h1 hS.1)).trans (hS.2.1 x h1 h2), hS.2.2⟩ F rfl X'
  refine ⟨t, step t ?_, b1⟩
  have e : T.heap.size = H.size := by rw [hT]
  rw [e]
  exact a1
end VGM
/-! ===== END ===== -/

/-! ===== BEGIN printed: names, fields, word lists, decode rows ===== -/
def RX0 : String := "VerseCustoms$Days"
def TX0 : u_T := fun k => match k with
  | 0 => ("VerseCustoms$Days", "now", "[I", true)
  | 1 => ("VerseCustoms$Days", "past", "[[I", true)
  | 2 => ("VerseCustoms$Days", "kept", "[[I", true)
  | 3 => ("VerseCustoms$Days", "stored", "[Z", true)
  | 4 => ("VerseCustoms$Days", "next", "I", false)
  | _ => ("VerseCustoms$Days", "undoable", "I", false)
def tyX0 : Nat → FieldType := fun k => match k with
  | 0 => .array .int
  | 1 => .array (.array .int)
  | 2 => .array (.array .int)
  | 3 => .array .boolean
  | 4 => .int
  | _ => .int
abbrev wsX00 : List Cond := u_ws RX0 TX0 6
theorem nmX0 : ∀ a, a < 6 → ∀ b, b < 6 → a ≠ b → (TX0 a).2.1 ≠ (TX0 b).2.1 := by decide +kernel
theorem tyX0_ok : ∀ k, k < 6 → parseFieldDescriptor (TX0 k).2.2.1 = some (tyX0 k) := by decide +kernel
abbrev cX0_init : ByteArray := prog_2_method_1_code
def yX0_init : MethodName := ⟨RX0, "<init>", "()V"⟩
abbrev cX0_begin : ByteArray := prog_2_method_2_code
def yX0_begin : MethodName := ⟨RX0, "begin", "()V"⟩
abbrev cX0_today : ByteArray := prog_2_method_3_code
def yX0_today : MethodName := ⟨RX0, "today", "()I"⟩
abbrev cX0_paid : ByteArray := prog_2_method_4_code
def yX0_paid : MethodName := ⟨RX0, "paid", "()I"⟩
abbrev cX0_areOver : ByteArray := prog_2_method_5_code
def yX0_areOver : MethodName := ⟨RX0, "areOver", "()Z"⟩
abbrev cX0_fateOf : ByteArray := prog_2_method_6_code
def yX0_fateOf : MethodName := ⟨RX0, "fateOf", "(I)I"⟩
abbrev cX0_usesOf : ByteArray := prog_2_method_7_code
def yX0_usesOf : MethodName := ⟨RX0, "usesOf", "(I)I"⟩
abbrev cX0_use : ByteArray := prog_2_method_8_code
def yX0_use : MethodName := ⟨RX0, "use", "(I)V"⟩
abbrev cX0_settle : ByteArray := prog_2_method_9_code
def yX0_settle : MethodName := ⟨RX0, "settle", "(III)I"⟩
abbrev cX0_pass : ByteArray := prog_2_method_10_code
def yX0_pass : MethodName := ⟨RX0, "pass", "()I"⟩
abbrev cX0_remember : ByteArray := prog_2_method_11_code
def yX0_remember : MethodName := ⟨RX0, "remember", "()V"⟩
abbrev cX0_takeBack : ByteArray := prog_2_method_12_code
def yX0_takeBack : MethodName := ⟨RX0, "takeBack", "()I"⟩
abbrev cX0_isStored : ByteArray := prog_2_method_13_code
def yX0_isStored : MethodName := ⟨RX0, "isStored", "(I)Z"⟩
abbrev cX0_store : ByteArray := prog_2_method_14_code
def yX0_store : MethodName := ⟨RX0, "store", "(I)I"⟩
abbrev cX0_restore : ByteArray := prog_2_method_15_code
def yX0_restore : MethodName := ⟨RX0, "restore", "(I)I"⟩
def RX1 : String := "VerseCustoms$Demand"
def TX1 : u_T := fun k => match k with
  | 0 => ("VerseCustoms$Demand", "told", "LVerseCustoms$Told;", true)
  | 1 => ("VerseCustoms$Demand", "weight", "I", false)
  | 2 => ("VerseCustoms$Demand", "rhyme", "I", false)
  | 3 => ("VerseCustoms$Demand", "slurred", "Z", false)
  | _ => ("VerseCustoms$Demand", "straight", "Z", false)
def tyX1 : Nat → FieldType := fun k => match k with
  | 0 => .object "VerseCustoms$Told"
  | 1 => .int
  | 2 => .int
  | 3 => .boolean
  | _ => .boolean
abbrev wsX10 : List Cond := u_ws RX1 TX1 5
theorem nmX1 : ∀ a, a < 5 → ∀ b, b < 5 → a ≠ b → (TX1 a).2.1 ≠ (TX1 b).2.1 := by decide +kernel
theorem tyX1_ok : ∀ k, k < 5 → parseFieldDescriptor (TX1 k).2.2.1 = some (tyX1 k) := by decide +kernel
abbrev cX1_init : ByteArray := prog_3_method_1_code
def yX1_init : MethodName := ⟨RX1, "<init>", "(LVerseCustoms$Told;)V"⟩
abbrev cX1_ask : ByteArray := prog_3_method_2_code
def yX1_ask : MethodName := ⟨RX1, "ask", "(II)V"⟩
abbrev cX1_askForAll : ByteArray := prog_3_method_3_code
def yX1_askForAll : MethodName := ⟨RX1, "askForAll", "(I)V"⟩
abbrev cX1_begin : ByteArray := prog_3_method_4_code
def yX1_begin : MethodName := ⟨RX1, "begin", "(I)V"⟩
abbrev cX1_hear : ByteArray := prog_3_method_5_code
def yX1_hear : MethodName := ⟨RX1, "hear", "(II)V"⟩
abbrev cX1_allows : ByteArray := prog_3_method_6_code
def yX1_allows : MethodName := ⟨RX1, "allows", "(IIZ)Z"⟩
abbrev cX1_countOf : ByteArray := prog_3_method_7_code
def yX1_countOf : MethodName := ⟨RX1, "countOf", "(IZ)I"⟩
def RX2 : String := "VerseCustoms$Endings"
def TX2 : u_T := fun k => match k with
  | 0 => ("VerseCustoms$Endings", "told", "LVerseCustoms$Told;", true)
  | 1 => ("VerseCustoms$Endings", "demand", "LVerseCustoms$Demand;", true)
  | 2 => ("VerseCustoms$Endings", "line", "LVerseCustoms$Line;", true)
  | 3 => ("VerseCustoms$Endings", "least", "[[I", true)
  | 4 => ("VerseCustoms$Endings", "many", "[[I", true)
  | 5 => ("VerseCustoms$Endings", "altering", "Z", false)
  | _ => ("VerseCustoms$Endings", "first", "LVerseCustoms$Line;", true)
def tyX2 : Nat → FieldType := fun k => match k with
  | 0 => .object "VerseCustoms$Told"
  | 1 => .object "VerseCustoms$Demand"
  | 2 => .object "VerseCustoms$Line"
  | 3 => .array (.array .int)
  | 4 => .array (.array .int)
  | 5 => .boolean
  | _ => .object "VerseCustoms$Line"
abbrev wsX20 : List Cond := u_ws RX2 TX2 7
theorem nmX2 : ∀ a, a < 7 → ∀ b, b < 7 → a ≠ b → (TX2 a).2.1 ≠ (TX2 b).2.1 := by decide +kernel
theorem tyX2_ok : ∀ k, k < 7 → parseFieldDescriptor (TX2 k).2.2.1 = some (tyX2 k) := by decide +kernel
abbrev cX2_init : ByteArray := prog_4_method_1_code
def yX2_init : MethodName := ⟨RX2, "<init>", "(LVerseCustoms$Told;LVerseCustoms$Demand;LVerseCustoms$Line;)V"⟩
abbrev cX2_fewestWords : ByteArray := prog_4_method_2_code
def yX2_fewestWords : MethodName := ⟨RX2, "fewestWords", "()I"⟩
abbrev cX2_linesOf : ByteArray := prog_4_method_3_code
def yX2_linesOf : MethodName := ⟨RX2, "linesOf", "(I)I"⟩
abbrev cX2_fewestChanges : ByteArray := prog_4_method_4_code
def yX2_fewestChanges : MethodName := ⟨RX2, "fewestChanges", "()I"⟩
abbrev cX2_findFirst : ByteArray := prog_4_method_5_code
def yX2_findFirst : MethodName := ⟨RX2, "findFirst", "(I)V"⟩
abbrev cX2_firstWord : ByteArray := prog_4_method_6_code
def yX2_firstWord : MethodName := ⟨RX2, "firstWord", "(III)I"⟩
abbrev cX2_begin : ByteArray := prog_4_method_7_code
def yX2_begin : MethodName := ⟨RX2, "begin", "(Z)V"⟩
abbrev cX2_fill : ByteArray := prog_4_method_8_code
def yX2_fill : MethodName := ⟨RX2, "fill", "(I)V"⟩
abbrev cX2_leastWith : ByteArray := prog_4_method_9_code
def yX2_leastWith : MethodName := ⟨RX2, "leastWith", "(IIII)I"⟩
abbrev cX2_manyWith : ByteArray := prog_4_method_10_code
def yX2_manyWith : MethodName := ⟨RX2, "manyWith", "(IIII)I"⟩
abbrev cX2_leastAt : ByteArray := prog_4_method_11_code
def yX2_leastAt : MethodName := ⟨RX2, "leastAt", "(III)I"⟩
abbrev cX2_manyAt : ByteArray := prog_4_method_12_code
def yX2_manyAt : MethodName := ⟨RX2, "manyAt", "(III)I"⟩
abbrev cX2_isPlace : ByteArray := prog_4_method_13_code
def yX2_isPlace : MethodName := ⟨RX2, "isPlace", "(II)Z"⟩
def RX3 : String := "VerseCustoms$Hiding"
def TX3 : u_T := fun k => match k with
  | 0 => ("VerseCustoms$Hiding", "told", "LVerseCustoms$Told;", true)
  | _ => ("VerseCustoms$Hiding", "most", "[[I", true)
def tyX3 : Nat → FieldType := fun k => match k with
  | 0 => .object "VerseCustoms$Told"
  | _ => .array (.array .int)
abbrev wsX30 : List Cond := u_ws RX3 TX3 2
theorem nmX3 : ∀ a, a < 2 → ∀ b, b < 2 → a ≠ b → (TX3 a).2.1 ≠ (TX3 b).2.1 := by decide +kernel
theorem tyX3_ok : ∀ k, k < 2 → parseFieldDescriptor (TX3 k).2.2.1 = some (tyX3 k) := by decide +kernel
abbrev cX3_init : ByteArray := prog_5_method_1_code
def yX3_init : MethodName := ⟨RX3, "<init>", "(LVerseCustoms$Told;)V"⟩
abbrev cX3_most : ByteArray := prog_5_method_2_code
def yX3_most : MethodName := ⟨RX3, "most", "(I)I"⟩
abbrev cX3_mostBehind : ByteArray := prog_5_method_3_code
def yX3_mostBehind : MethodName := ⟨RX3, "mostBehind", "(II)I"⟩
def RX4 : String := "VerseCustoms$Line"
def TX4 : u_T := fun k => match k with
  | 0 => ("VerseCustoms$Line", "places", "[I", true)
  | _ => ("VerseCustoms$Line", "length", "I", false)
def tyX4 : Nat → FieldType := fun k => match k with
  | 0 => .array .int
  | _ => .int
abbrev wsX40 : List Cond := u_ws RX4 TX4 2
theorem nmX4 : ∀ a, a < 2 → ∀ b, b < 2 → a ≠ b → (TX4 a).2.1 ≠ (TX4 b).2.1 := by decide +kernel
theorem tyX4_ok : ∀ k, k < 2 → parseFieldDescriptor (TX4 k).2.2.1 = some (tyX4 k) := by decide +kernel
abbrev cX4_init : ByteArray := prog_6_method_1_code
def yX4_init : MethodName := ⟨RX4, "<init>", "()V"⟩
abbrev cX4_add : ByteArray := prog_6_method_2_code
def yX4_add : MethodName := ⟨RX4, "add", "(I)I"⟩
abbrev cX4_clear : ByteArray := prog_6_method_3_code
def yX4_clear : MethodName := ⟨RX4, "clear", "()I"⟩
abbrev cX4_wordAt : ByteArray := prog_6_method_4_code
def yX4_wordAt : MethodName := ⟨RX4, "wordAt", "(I)I"⟩
abbrev cX4_lastWord : ByteArray := prog_6_method_5_code
def yX4_lastWord : MethodName := ⟨RX4, "lastWord", "()I"⟩
abbrev cX4_copy : ByteArray := prog_6_method_6_code
def yX4_copy : MethodName := ⟨RX4, "copy", "(LVerseCustoms$Line;)V"⟩
def RX5 : String := "VerseCustoms$Secret"
def TX5 : u_T := fun k => match k with
  | 0 => ("VerseCustoms$Secret", "told", "LVerseCustoms$Told;", true)
  | 1 => ("VerseCustoms$Secret", "clerks", "[I", true)
  | 2 => ("VerseCustoms$Secret", "numbers", "[I", true)
  | 3 => ("VerseCustoms$Secret", "guess", "LVerseCustoms$Line;", true)
  | 4 => ("VerseCustoms$Secret", "first", "LVerseCustoms$Line;", true)
  | 5 => ("VerseCustoms$Secret", "shared", "LVerseCustoms$Line;", true)
  | 6 => ("VerseCustoms$Secret", "length", "I", false)
  | 7 => ("VerseCustoms$Secret", "claims", "I", false)
  | 8 => ("VerseCustoms$Secret", "found", "I", false)
  | _ => ("VerseCustoms$Secret", "wares", "I", false)
def tyX5 : Nat → FieldType := fun k => match k with
  | 0 => .object "VerseCustoms$Told"
  | 1 => .array .int
  | 2 => .array .int
  | 3 => .object "VerseCustoms$Line"
  | 4 => .object "VerseCustoms$Line"
  | 5 => .object "VerseCustoms$Line"
  | 6 => .int
  | 7 => .int
  | 8 => .int
  | _ => .int
abbrev wsX50 : List Cond := u_ws RX5 TX5 10
theorem nmX5 : ∀ a, a < 10 → ∀ b, b < 10 → a ≠ b → (TX5 a).2.1 ≠ (TX5 b).2.1 := by decide +kernel
theorem tyX5_ok : ∀ k, k < 10 → parseFieldDescriptor (TX5 k).2.2.1 = some (tyX5 k) := by decide +kernel
abbrev cX5_init : ByteArray := prog_7_method_1_code
def yX5_init : MethodName := ⟨RX5, "<init>", "(LVerseCustoms$Told;)V"⟩
abbrev cX5_forget : ByteArray := prog_7_method_2_code
def yX5_forget : MethodName := ⟨RX5, "forget", "()V"⟩
abbrev cX5_begin : ByteArray := prog_7_method_3_code
def yX5_begin : MethodName := ⟨RX5, "begin", "(I)I"⟩
abbrev cX5_add : ByteArray := prog_7_method_4_code
def yX5_add : MethodName := ⟨RX5, "add", "(II)I"⟩
abbrev cX5_solve : ByteArray := prog_7_method_5_code
def yX5_solve : MethodName := ⟨RX5, "solve", "()V"⟩
abbrev cX5_agrees : ByteArray := prog_7_method_6_code
def yX5_agrees : MethodName := ⟨RX5, "agrees", "()Z"⟩
abbrev cX5_take : ByteArray := prog_7_method_7_code
def yX5_take : MethodName := ⟨RX5, "take", "()V"⟩
abbrev cX5_moveOn : ByteArray := prog_7_method_8_code
def yX5_moveOn : MethodName := ⟨RX5, "moveOn", "()V"⟩
def RX6 : String := "VerseCustoms$Ships"
def TX6 : u_T := fun k => match k with
  | 0 => ("VerseCustoms$Ships", "told", "LVerseCustoms$Told;", true)
  | 1 => ("VerseCustoms$Ships", "weightOfSet", "[I", true)
  | 2 => ("VerseCustoms$Ships", "carried", "I", false)
  | 3 => ("VerseCustoms$Ships", "firstSet", "I", false)
  | _ => ("VerseCustoms$Ships", "secondSet", "I", false)
def tyX6 : Nat → FieldType := fun k => match k with
  | 0 => .object "VerseCustoms$Told"
  | 1 => .array .int
  | 2 => .int
  | 3 => .int
  | _ => .int
abbrev wsX60 : List Cond := u_ws RX6 TX6 5
theorem nmX6 : ∀ a, a < 5 → ∀ b, b < 5 → a ≠ b → (TX6 a).2.1 ≠ (TX6 b).2.1 := by decide +kernel
theorem tyX6_ok : ∀ k, k < 5 → parseFieldDescriptor (TX6 k).2.2.1 = some (tyX6 k) := by decide +kernel
abbrev cX6_init : ByteArray := prog_8_method_1_code
def yX6_init : MethodName := ⟨RX6, "<init>", "(LVerseCustoms$Told;)V"⟩
abbrev cX6_load : ByteArray := prog_8_method_2_code
def yX6_load : MethodName := ⟨RX6, "load", "(I)V"⟩
abbrev cX6_weigh : ByteArray := prog_8_method_3_code
def yX6_weigh : MethodName := ⟨RX6, "weigh", "(I)V"⟩
def RX7 : String := "VerseCustoms$Text"
def TX7 : u_T := fun k => match k with
  | 0 => ("VerseCustoms$Text", "letters", "[C", true)
  | 1 => ("VerseCustoms$Text", "kinds", "[I", true)
  | 2 => ("VerseCustoms$Text", "numbers", "[[I", true)
  | 3 => ("VerseCustoms$Text", "length", "I", false)
  | 4 => ("VerseCustoms$Text", "clauses", "I", false)
  | 5 => ("VerseCustoms$Text", "from", "I", false)
  | 6 => ("VerseCustoms$Text", "to", "I", false)
  | 7 => ("VerseCustoms$Text", "words", "I", false)
  | 8 => ("VerseCustoms$Text", "wares", "I", false)
  | _ => ("VerseCustoms$Text", "clerks", "I", false)
def tyX7 : Nat → FieldType := fun k => match k with
  | 0 => .array .char
  | 1 => .array .int
  | 2 => .array (.array .int)
  | 3 => .int
  | 4 => .int
  | 5 => .int
  | 6 => .int
  | 7 => .int
  | 8 => .int
  | _ => .int
abbrev wsX70 : List Cond := u_ws RX7 TX7 10
theorem nmX7 : ∀ a, a < 10 → ∀ b, b < 10 → a ≠ b → (TX7 a).2.1 ≠ (TX7 b).2.1 := by decide +kernel
theorem tyX7_ok : ∀ k, k < 10 → parseFieldDescriptor (TX7 k).2.2.1 = some (tyX7 k) := by decide +kernel
abbrev cX7_init : ByteArray := prog_9_method_1_code
def yX7_init : MethodName := ⟨RX7, "<init>", "()V"⟩
abbrev cX7_add : ByteArray := prog_9_method_2_code
def yX7_add : MethodName := ⟨RX7, "add", "(I)I"⟩
abbrev cX7_clear : ByteArray := prog_9_method_3_code
def yX7_clear : MethodName := ⟨RX7, "clear", "()I"⟩
abbrev cX7_read : ByteArray := prog_9_method_4_code
def yX7_read : MethodName := ⟨RX7, "read", "(LVerseCustoms$Told;)I"⟩
abbrev cX7_readClause : ByteArray := prog_9_method_5_code
def yX7_readClause : MethodName := ⟨RX7, "readClause", "(I)Z"⟩
abbrev cX7_hasRoomFor : ByteArray := prog_9_method_6_code
def yX7_hasRoomFor : MethodName := ⟨RX7, "hasRoomFor", "(I)Z"⟩
abbrev cX7_obey : ByteArray := prog_9_method_7_code
def yX7_obey : MethodName := ⟨RX7, "obey", "(ILVerseCustoms$Told;)V"⟩
abbrev cX7_goOn : ByteArray := prog_9_method_8_code
def yX7_goOn : MethodName := ⟨RX7, "goOn", "()V"⟩
abbrev cX7_letterAt : ByteArray := prog_9_method_9_code
def yX7_letterAt : MethodName := ⟨RX7, "letterAt", "(I)I"⟩
abbrev cX7_sortAt : ByteArray := prog_9_method_10_code
def yX7_sortAt : MethodName := ⟨RX7, "sortAt", "(I)I"⟩
abbrev cX7_numberHere : ByteArray := prog_9_method_11_code
def yX7_numberHere : MethodName := ⟨RX7, "numberHere", "()I"⟩
abbrev cX7_clauseHere : ByteArray := prog_9_method_12_code
def yX7_clauseHere : MethodName := ⟨RX7, "clauseHere", "()I"⟩
abbrev cX7_isHere : ByteArray := prog_9_method_13_code
def yX7_isHere : MethodName := ⟨RX7, "isHere", "(Ljava/lang/String;)Z"⟩
abbrev cX7_lowest : ByteArray := prog_9_method_14_code
def yX7_lowest : MethodName := ⟨RX7, "lowest", "(C)I"⟩
abbrev cX7_highest : ByteArray := prog_9_method_15_code
def yX7_highest : MethodName := ⟨RX7, "highest", "(CI)I"⟩
abbrev cX7_nameOf : ByteArray := prog_9_method_16_code
def yX7_nameOf : MethodName := ⟨RX7, "nameOf", "(I)Ljava/lang/String;"⟩
abbrev cX7_rolesIn : ByteArray := prog_9_method_17_code
def yX7_rolesIn : MethodName := ⟨RX7, "rolesIn", "(I)Ljava/lang/String;"⟩
def RX8 : String := "VerseCustoms$Told"
def TX8 : u_T := fun k => match k with
  | 0 => ("VerseCustoms$Told", "kinds", "[I", true)
  | 1 => ("VerseCustoms$Told", "syllables", "[I", true)
  | 2 => ("VerseCustoms$Told", "stresses", "[I", true)
  | 3 => ("VerseCustoms$Told", "rhymes", "[I", true)
  | 4 => ("VerseCustoms$Told", "portRhymes", "[I", true)
  | 5 => ("VerseCustoms$Told", "weights", "[I", true)
  | 6 => ("VerseCustoms$Told", "warePorts", "[I", true)
  | 7 => ("VerseCustoms$Told", "clerkKinds", "[I", true)
  | 8 => ("VerseCustoms$Told", "uses", "[I", true)
  | 9 => ("VerseCustoms$Told", "words", "I", false)
  | 10 => ("VerseCustoms$Told", "wares", "I", false)
  | 11 => ("VerseCustoms$Told", "clerks", "I", false)
  | _ => ("VerseCustoms$Told", "metre", "I", false)
def tyX8 : Nat → FieldType := fun k => match k with
  | 0 => .array .int
  | 1 => .array .int
  | 2 => .array .int
  | 3 => .array .int
  | 4 => .array .int
  | 5 => .array .int
  | 6 => .array .int
  | 7 => .array .int
  | 8 => .array .int
  | 9 => .int
  | 10 => .int
  | 11 => .int
  | _ => .int
abbrev wsX80 : List Cond := u_ws RX8 TX8 13
theorem nmX8 : ∀ a, a < 13 → ∀ b, b < 13 → a ≠ b → (TX8 a).2.1 ≠ (TX8 b).2.1 := by decide +kernel
theorem tyX8_ok : ∀ k, k < 13 → parseFieldDescriptor (TX8 k).2.2.1 = some (tyX8 k) := by decide +kernel
abbrev cX8_init : ByteArray := prog_10_method_1_code
def yX8_init : MethodName := ⟨RX8, "<init>", "()V"⟩
abbrev cX8_reset : ByteArray := prog_10_method_2_code
def yX8_reset : MethodName := ⟨RX8, "reset", "()V"⟩
abbrev cX8_addWord : ByteArray := prog_10_method_3_code
def yX8_addWord : MethodName := ⟨RX8, "addWord", "(IIII)V"⟩
abbrev cX8_addWare : ByteArray := prog_10_method_4_code
def yX8_addWare : MethodName := ⟨RX8, "addWare", "(II)V"⟩
abbrev cX8_addClerk : ByteArray := prog_10_method_5_code
def yX8_addClerk : MethodName := ⟨RX8, "addClerk", "(I)V"⟩
abbrev cX8_setPort : ByteArray := prog_10_method_6_code
def yX8_setPort : MethodName := ⟨RX8, "setPort", "(II)V"⟩
abbrev cX8_setUses : ByteArray := prog_10_method_7_code
def yX8_setUses : MethodName := ⟨RX8, "setUses", "(II)V"⟩
abbrev cX8_isWord : ByteArray := prog_10_method_8_code
def yX8_isWord : MethodName := ⟨RX8, "isWord", "(I)Z"⟩
abbrev cX8_isWare : ByteArray := prog_10_method_9_code
def yX8_isWare : MethodName := ⟨RX8, "isWare", "(I)Z"⟩
abbrev cX8_isClerk : ByteArray := prog_10_method_10_code
def yX8_isClerk : MethodName := ⟨RX8, "isClerk", "(I)Z"⟩
abbrev cX8_slurs : ByteArray := prog_10_method_11_code
def yX8_slurs : MethodName := ⟨RX8, "slurs", "(I)Z"⟩
abbrev cX8_isDeaf : ByteArray := prog_10_method_12_code
def yX8_isDeaf : MethodName := ⟨RX8, "isDeaf", "(I)Z"⟩
abbrev cX8_rhymeOfPort : ByteArray := prog_10_method_13_code
def yX8_rhymeOfPort : MethodName := ⟨RX8, "rhymeOfPort", "(I)I"⟩
abbrev cX8_portsOf : ByteArray := prog_10_method_14_code
def yX8_portsOf : MethodName := ⟨RX8, "portsOf", "(I)I"⟩
abbrev cX8_portsRhymedBy : ByteArray := prog_10_method_15_code
def yX8_portsRhymedBy : MethodName := ⟨RX8, "portsRhymedBy", "(I)I"⟩
abbrev cX8_chimes : ByteArray := prog_10_method_16_code
def yX8_chimes : MethodName := ⟨RX8, "chimes", "(II)Z"⟩
abbrev cX8_rhymeWornBy : ByteArray := prog_10_method_17_code
def yX8_rhymeWornBy : MethodName := ⟨RX8, "rhymeWornBy", "(I)I"⟩
abbrev cX8_isWorn : ByteArray := prog_10_method_18_code
def yX8_isWorn : MethodName := ⟨RX8, "isWorn", "(II)Z"⟩
abbrev cX8_countBy : ByteArray := prog_10_method_19_code
def yX8_countBy : MethodName := ⟨RX8, "countBy", "(ILVerseCustoms$Line;)I"⟩
abbrev cX8_syllablesOf : ByteArray := prog_10_method_20_code
def yX8_syllablesOf : MethodName := ⟨RX8, "syllablesOf", "(LVerseCustoms$Line;)I"⟩
abbrev cX8_elisionsIn : ByteArray := prog_10_method_21_code
def yX8_elisionsIn : MethodName := ⟨RX8, "elisionsIn", "(LVerseCustoms$Line;)I"⟩
abbrev cX8_fits : ByteArray := prog_10_method_22_code
def yX8_fits : MethodName := ⟨RX8, "fits", "(II)Z"⟩
abbrev cX8_isInMetre : ByteArray := prog_10_method_23_code
def yX8_isInMetre : MethodName := ⟨RX8, "isInMetre", "(LVerseCustoms$Line;)Z"⟩
abbrev cX8_admits : ByteArray := prog_10_method_24_code
def yX8_admits : MethodName := ⟨RX8, "admits", "(LVerseCustoms$Line;II)Z"⟩
abbrev cX8_linesOf : ByteArray := prog_10_method_25_code
def yX8_linesOf : MethodName := ⟨RX8, "linesOf", "(I)I"⟩
def RX9 : String := "VerseCustoms"
def TX9 : u_T := fun k => match k with
  | 0 => ("VerseCustoms", "told", "LVerseCustoms$Told;", true)
  | 1 => ("VerseCustoms", "text", "LVerseCustoms$Text;", true)
  | 2 => ("VerseCustoms", "days", "LVerseCustoms$Days;", true)
  | 3 => ("VerseCustoms", "line", "LVerseCustoms$Line;", true)
  | 4 => ("VerseCustoms", "demand", "LVerseCustoms$Demand;", true)
  | 5 => ("VerseCustoms", "endings", "LVerseCustoms$Endings;", true)
  | 6 => ("VerseCustoms", "hiding", "LVerseCustoms$Hiding;", true)
  | 7 => ("VerseCustoms", "ships", "LVerseCustoms$Ships;", true)
  | 8 => ("VerseCustoms", "secret", "LVerseCustoms$Secret;", true)
  | _ => ("VerseCustoms", "usedInYear", "[I", true)
def tyX9 : Nat → FieldType := fun k => match k with
  | 0 => .object "VerseCustoms$Told"
  | 1 => .object "VerseCustoms$Text"
  | 2 => .object "VerseCustoms$Days"
  | 3 => .object "VerseCustoms$Line"
  | 4 => .object "VerseCustoms$Demand"
  | 5 => .object "VerseCustoms$Endings"
  | 6 => .object "VerseCustoms$Hiding"
  | 7 => .object "VerseCustoms$Ships"
  | 8 => .object "VerseCustoms$Secret"
  | _ => .array .int
abbrev wsX90 : List Cond := u_ws RX9 TX9 10
theorem nmX9 : ∀ a, a < 10 → ∀ b, b < 10 → a ≠ b → (TX9 a).2.1 ≠ (TX9 b).2.1 := by decide +kernel
theorem tyX9_ok : ∀ k, k < 10 → parseFieldDescriptor (TX9 k).2.2.1 = some (tyX9 k) := by decide +kernel
abbrev cX9_init : ByteArray := prog_1_method_1_code
def yX9_init : MethodName := ⟨RX9, "<init>", "()V"⟩
abbrev cX9_write : ByteArray := prog_1_method_2_code
def yX9_write : MethodName := ⟨RX9, "write", "(I)I"⟩
abbrev cX9_erase : ByteArray := prog_1_method_3_code
def yX9_erase : MethodName := ⟨RX9, "erase", "()I"⟩
abbrev cX9_fault : ByteArray := prog_1_method_4_code
def yX9_fault : MethodName := ⟨RX9, "fault", "()I"⟩
abbrev cX9_customs : ByteArray := prog_1_method_5_code
def yX9_customs : MethodName := ⟨RX9, "customs", "()I"⟩
abbrev cX9_word : ByteArray := prog_1_method_6_code
def yX9_word : MethodName := ⟨RX9, "word", "(II)I"⟩
abbrev cX9_ware : ByteArray := prog_1_method_7_code
def yX9_ware : MethodName := ⟨RX9, "ware", "(II)I"⟩
abbrev cX9_clerk : ByteArray := prog_1_method_8_code
def yX9_clerk : MethodName := ⟨RX9, "clerk", "(I)I"⟩
abbrev cX9_rhyme : ByteArray := prog_1_method_9_code
def yX9_rhyme : MethodName := ⟨RX9, "rhyme", "(II)I"⟩
abbrev cX9_as : ByteArray := prog_1_method_10_code
def yX9_as : MethodName := ⟨RX9, "as", "(II)I"⟩
abbrev cX9_clerkAs : ByteArray := prog_1_method_11_code
def yX9_clerkAs : MethodName := ⟨RX9, "clerkAs", "(II)I"⟩
abbrev cX9_put : ByteArray := prog_1_method_12_code
def yX9_put : MethodName := ⟨RX9, "put", "(I)I"⟩
abbrev cX9_wipe : ByteArray := prog_1_method_13_code
def yX9_wipe : MethodName := ⟨RX9, "wipe", "()I"⟩
abbrev cX9_line : ByteArray := prog_1_method_14_code
def yX9_line : MethodName := ⟨RX9, "line", "(I)I"⟩
abbrev cX9_counts : ByteArray := prog_1_method_15_code
def yX9_counts : MethodName := ⟨RX9, "counts", "(I)I"⟩
abbrev cX9_scans : ByteArray := prog_1_method_16_code
def yX9_scans : MethodName := ⟨RX9, "scans", "()I"⟩
abbrev cX9_passes : ByteArray := prog_1_method_17_code
def yX9_passes : MethodName := ⟨RX9, "passes", "(II)I"⟩
abbrev cX9_declare : ByteArray := prog_1_method_18_code
def yX9_declare : MethodName := ⟨RX9, "declare", "(II)I"⟩
abbrev cX9_prose : ByteArray := prog_1_method_19_code
def yX9_prose : MethodName := ⟨RX9, "prose", "(I)I"⟩
abbrev cX9_day : ByteArray := prog_1_method_20_code
def yX9_day : MethodName := ⟨RX9, "day", "()I"⟩
abbrev cX9_undo : ByteArray := prog_1_method_21_code
def yX9_undo : MethodName := ⟨RX9, "undo", "()I"⟩
abbrev cX9_keep : ByteArray := prog_1_method_22_code
def yX9_keep : MethodName := ⟨RX9, "keep", "(I)I"⟩
abbrev cX9_back : ByteArray := prog_1_method_23_code
def yX9_back : MethodName := ⟨RX9, "back", "(I)I"⟩
abbrev cX9_shortest : ByteArray := prog_1_method_24_code
def yX9_shortest : MethodName := ⟨RX9, "shortest", "(III)I"⟩
abbrev cX9_shortestWord : ByteArray := prog_1_method_25_code
def yX9_shortestWord : MethodName := ⟨RX9, "shortestWord", "(III)I"⟩
abbrev cX9_forAll : ByteArray := prog_1_method_26_code
def yX9_forAll : MethodName := ⟨RX9, "forAll", "(II)I"⟩
abbrev cX9_hidden : ByteArray := prog_1_method_27_code
def yX9_hidden : MethodName := ⟨RX9, "hidden", "(I)I"⟩
abbrev cX9_altered : ByteArray := prog_1_method_28_code
def yX9_altered : MethodName := ⟨RX9, "altered", "(III)I"⟩
abbrev cX9_laden : ByteArray := prog_1_method_29_code
def yX9_laden : MethodName := ⟨RX9, "laden", "(II)I"⟩
abbrev cX9_left : ByteArray := prog_1_method_30_code
def yX9_left : MethodName := ⟨RX9, "left", "(I)I"⟩
abbrev cX9_odds : ByteArray := prog_1_method_31_code
def yX9_odds : MethodName := ⟨RX9, "odds", "(IIII)I"⟩
abbrev cX9_year : ByteArray := prog_1_method_32_code
def yX9_year : MethodName := ⟨RX9, "year", "()I"⟩
abbrev cX9_secret : ByteArray := prog_1_method_33_code
def yX9_secret : MethodName := ⟨RX9, "secret", "(I)I"⟩
abbrev cX9_counted : ByteArray := prog_1_method_34_code
def yX9_counted : MethodName := ⟨RX9, "counted", "(II)I"⟩
abbrev cX9_canBe : ByteArray := prog_1_method_35_code
def yX9_canBe : MethodName := ⟨RX9, "canBe", "(I)I"⟩
abbrev cX9_canBeWord : ByteArray := prog_1_method_36_code
def yX9_canBeWord : MethodName := ⟨RX9, "canBeWord", "(II)I"⟩
abbrev cX9_count : ByteArray := prog_1_method_37_code
def yX9_count : MethodName := ⟨RX9, "count", "(I)I"⟩
abbrev cX9_areKnown : ByteArray := prog_1_method_38_code
def yX9_areKnown : MethodName := ⟨RX9, "areKnown", "(II)Z"⟩
abbrev cX9_fewestOrHowMany : ByteArray := prog_1_method_39_code
def yX9_fewestOrHowMany : MethodName := ⟨RX9, "fewestOrHowMany", "(I)I"⟩
abbrev cX9_openWares : ByteArray := prog_1_method_40_code
def yX9_openWares : MethodName := ⟨RX9, "openWares", "()I"⟩
abbrev cX9_waresThatRhymesAllow : ByteArray := prog_1_method_41_code
def yX9_waresThatRhymesAllow : MethodName := ⟨RX9, "waresThatRhymesAllow", "()I"⟩
abbrev cX9_portsWornOut : ByteArray := prog_1_method_42_code
def yX9_portsWornOut : MethodName := ⟨RX9, "portsWornOut", "()I"⟩
abbrev cX9_paidInYear : ByteArray := prog_1_method_43_code
def yX9_paidInYear : MethodName := ⟨RX9, "paidInYear", "(I)I"⟩
abbrev cX9_commonDivisor : ByteArray := prog_1_method_44_code
def yX9_commonDivisor : MethodName := ⟨RX9, "commonDivisor", "(II)I"⟩
abbrev cX9_hasBit : ByteArray := prog_1_method_45_code
def yX9_hasBit : MethodName := ⟨RX9, "hasBit", "(II)Z"⟩
abbrev cX9_at : ByteArray := prog_1_method_46_code
def yX9_at : MethodName := ⟨RX9, "at", "([II)I"⟩
def RX10 : String := "VerseCustomsModel"
def TX10 : u_T := fun k => match k with
  | 0 => ("VerseCustomsModel", "book", "[I", true)
  | 1 => ("VerseCustomsModel", "was", "[I", true)
  | 2 => ("VerseCustomsModel", "undos", "I", false)
  | 3 => ("VerseCustomsModel", "images", "[I", true)
  | 4 => ("VerseCustomsModel", "kept", "[Z", true)
  | 5 => ("VerseCustomsModel", "line", "[I", true)
  | 6 => ("VerseCustomsModel", "long0", "I", false)
  | 7 => ("VerseCustomsModel", "told", "[I", true)
  | 8 => ("VerseCustomsModel", "many", "I", false)
  | 9 => ("VerseCustomsModel", "secretly", "I", false)
  | 10 => ("VerseCustomsModel", "text", "[I", true)
  | 11 => ("VerseCustomsModel", "written", "I", false)
  | 12 => ("VerseCustomsModel", "at", "I", false)
  | 13 => ("VerseCustomsModel", "start", "I", false)
  | 14 => ("VerseCustomsModel", "token", "I", false)
  | 15 => ("VerseCustomsModel", "value", "I", false)
  | 16 => ("VerseCustomsModel", "clauses", "[I", true)
  | 17 => ("VerseCustomsModel", "read", "I", false)
  | 18 => ("VerseCustomsModel", "words", "I", false)
  | 19 => ("VerseCustomsModel", "wares", "I", false)
  | 20 => ("VerseCustomsModel", "clerks", "I", false)
  | 21 => ("VerseCustomsModel", "row", "[I", true)
  | 22 => ("VerseCustomsModel", "first", "[I", true)
  | 23 => ("VerseCustomsModel", "found", "I", false)
  | 24 => ("VerseCustomsModel", "uses", "[I", true)
  | 25 => ("VerseCustomsModel", "always", "[I", true)
  | _ => ("VerseCustomsModel", "wanted", "I", false)
def tyX10 : Nat → FieldType := fun k => match k with
  | 0 => .array .int
  | 1 => .array .int
  | 2 => .int
  | 3 => .array .int
  | 4 => .array .boolean
  | 5 => .array .int
  | 6 => .int
  | 7 => .array .int
  | 8 => .int
  | 9 => .int
  | 10 => .array .int
  | 11 => .int
  | 12 => .int
  | 13 => .int
  | 14 => .int
  | 15 => .int
  | 16 => .array .int
  | 17 => .int
  | 18 => .int
  | 19 => .int
  | 20 => .int
  | 21 => .array .int
  | 22 => .array .int
  | 23 => .int
  | 24 => .array .int
  | 25 => .array .int
  | _ => .int
abbrev wsX100 : List Cond := u_ws RX10 TX10 27
theorem nmX10 : ∀ a, a < 27 → ∀ b, b < 27 → a ≠ b → (TX10 a).2.1 ≠ (TX10 b).2.1 := by decide +kernel
theorem tyX10_ok : ∀ k, k < 27 → parseFieldDescriptor (TX10 k).2.2.1 = some (tyX10 k) := by decide +kernel
abbrev cX10_in : ByteArray := prog_12_method_2_code
def yX10_in : MethodName := ⟨RX10, "in", "(JJJ)Z"⟩
abbrev cX10_init : ByteArray := prog_12_method_3_code
def yX10_init : MethodName := ⟨RX10, "<init>", "()V"⟩
abbrev cX10_empties : ByteArray := prog_12_method_4_code
def yX10_empties : MethodName := ⟨RX10, "empties", "()V"⟩
abbrev cX10_isWord : ByteArray := prog_12_method_5_code
def yX10_isWord : MethodName := ⟨RX10, "isWord", "(I)Z"⟩
abbrev cX10_isWare : ByteArray := prog_12_method_6_code
def yX10_isWare : MethodName := ⟨RX10, "isWare", "(I)Z"⟩
abbrev cX10_isClerk : ByteArray := prog_12_method_7_code
def yX10_isClerk : MethodName := ⟨RX10, "isClerk", "(I)Z"⟩
abbrev cX10_areBoth : ByteArray := prog_12_method_8_code
def yX10_areBoth : MethodName := ⟨RX10, "areBoth", "(II)Z"⟩
abbrev cX10_write : ByteArray := prog_12_method_9_code
def yX10_write : MethodName := ⟨RX10, "write", "(I)I"⟩
abbrev cX10_erase : ByteArray := prog_12_method_10_code
def yX10_erase : MethodName := ⟨RX10, "erase", "()I"⟩
abbrev cX10_isAt : ByteArray := prog_12_method_11_code
def yX10_isAt : MethodName := ⟨RX10, "isAt", "(II)Z"⟩
abbrev cX10_verbOf : ByteArray := prog_12_method_12_code
def yX10_verbOf : MethodName := ⟨RX10, "verbOf", "(J)I"⟩
abbrev cX10_looks : ByteArray := prog_12_method_13_code
def yX10_looks : MethodName := ⟨RX10, "looks", "()V"⟩
abbrev cX10_numbers : ByteArray := prog_12_method_14_code
def yX10_numbers : MethodName := ⟨RX10, "numbers", "(I)I"⟩
abbrev cX10_low : ByteArray := prog_12_method_15_code
def yX10_low : MethodName := ⟨RX10, "low", "(II)I"⟩
abbrev cX10_high : ByteArray := prog_12_method_16_code
def yX10_high : MethodName := ⟨RX10, "high", "(III)I"⟩
abbrev cX10_comes : ByteArray := prog_12_method_17_code
def yX10_comes : MethodName := ⟨RX10, "comes", "(I)Z"⟩
abbrev cX10_reads : ByteArray := prog_12_method_18_code
def yX10_reads : MethodName := ⟨RX10, "reads", "()Z"⟩
abbrev cX10_fault : ByteArray := prog_12_method_19_code
def yX10_fault : MethodName := ⟨RX10, "fault", "()I"⟩
abbrev cX10_does : ByteArray := prog_12_method_20_code
def yX10_does : MethodName := ⟨RX10, "does", "(I)V"⟩
abbrev cX10_customs : ByteArray := prog_12_method_21_code
def yX10_customs : MethodName := ⟨RX10, "customs", "()I"⟩
abbrev cX10_word : ByteArray := prog_12_method_22_code
def yX10_word : MethodName := ⟨RX10, "word", "(II)I"⟩
abbrev cX10_ware : ByteArray := prog_12_method_23_code
def yX10_ware : MethodName := ⟨RX10, "ware", "(II)I"⟩
abbrev cX10_clerk : ByteArray := prog_12_method_24_code
def yX10_clerk : MethodName := ⟨RX10, "clerk", "(I)I"⟩
abbrev cX10_portsOf : ByteArray := prog_12_method_25_code
def yX10_portsOf : MethodName := ⟨RX10, "portsOf", "(I)I"⟩
abbrev cX10_rhyme : ByteArray := prog_12_method_26_code
def yX10_rhyme : MethodName := ⟨RX10, "rhyme", "(II)I"⟩
abbrev cX10_kindOf : ByteArray := prog_12_method_27_code
def yX10_kindOf : MethodName := ⟨RX10, "kindOf", "(I)I"⟩
abbrev cX10_as : ByteArray := prog_12_method_28_code
def yX10_as : MethodName := ⟨RX10, "as", "(II)I"⟩
abbrev cX10_clerkAs : ByteArray := prog_12_method_29_code
def yX10_clerkAs : MethodName := ⟨RX10, "clerkAs", "(II)I"⟩
abbrev cX10_syllables : ByteArray := prog_12_method_30_code
def yX10_syllables : MethodName := ⟨RX10, "syllables", "(I)I"⟩
abbrev cX10_toldOf : ByteArray := prog_12_method_31_code
def yX10_toldOf : MethodName := ⟨RX10, "toldOf", "([II)I"⟩
abbrev cX10_countedBy : ByteArray := prog_12_method_32_code
def yX10_countedBy : MethodName := ⟨RX10, "countedBy", "(I[II)I"⟩
abbrev cX10_isScanned : ByteArray := prog_12_method_33_code
def yX10_isScanned : MethodName := ⟨RX10, "isScanned", "([II)Z"⟩
abbrev cX10_rhymes : ByteArray := prog_12_method_34_code
def yX10_rhymes : MethodName := ⟨RX10, "rhymes", "(II)Z"⟩
abbrev cX10_isPassed : ByteArray := prog_12_method_35_code
def yX10_isPassed : MethodName := ⟨RX10, "isPassed", "([IIII)Z"⟩
abbrev cX10_isWorn : ByteArray := prog_12_method_36_code
def yX10_isWorn : MethodName := ⟨RX10, "isWorn", "(I[II)Z"⟩
abbrev cX10_put : ByteArray := prog_12_method_37_code
def yX10_put : MethodName := ⟨RX10, "put", "(I)I"⟩
abbrev cX10_wipe : ByteArray := prog_12_method_38_code
def yX10_wipe : MethodName := ⟨RX10, "wipe", "()I"⟩
abbrev cX10_line : ByteArray := prog_12_method_39_code
def yX10_line : MethodName := ⟨RX10, "line", "(I)I"⟩
abbrev cX10_counts : ByteArray := prog_12_method_40_code
def yX10_counts : MethodName := ⟨RX10, "counts", "(I)I"⟩
abbrev cX10_scans : ByteArray := prog_12_method_41_code
def yX10_scans : MethodName := ⟨RX10, "scans", "()I"⟩
abbrev cX10_passes : ByteArray := prog_12_method_42_code
def yX10_passes : MethodName := ⟨RX10, "passes", "(II)I"⟩
abbrev cX10_remembers : ByteArray := prog_12_method_43_code
def yX10_remembers : MethodName := ⟨RX10, "remembers", "()V"⟩
abbrev cX10_pays : ByteArray := prog_12_method_44_code
def yX10_pays : MethodName := ⟨RX10, "pays", "(III)I"⟩
abbrev cX10_declare : ByteArray := prog_12_method_45_code
def yX10_declare : MethodName := ⟨RX10, "declare", "(II)I"⟩
abbrev cX10_prose : ByteArray := prog_12_method_46_code
def yX10_prose : MethodName := ⟨RX10, "prose", "(I)I"⟩
abbrev cX10_day : ByteArray := prog_12_method_47_code
def yX10_day : MethodName := ⟨RX10, "day", "()I"⟩
abbrev cX10_undo : ByteArray := prog_12_method_48_code
def yX10_undo : MethodName := ⟨RX10, "undo", "()I"⟩
abbrev cX10_keep : ByteArray := prog_12_method_49_code
def yX10_keep : MethodName := ⟨RX10, "keep", "(I)I"⟩
abbrev cX10_back : ByteArray := prog_12_method_50_code
def yX10_back : MethodName := ⟨RX10, "back", "(I)I"⟩
abbrev cX10_ways : ByteArray := prog_12_method_51_code
def yX10_ways : MethodName := ⟨RX10, "ways", "(I)I"⟩
abbrev cX10_lays : ByteArray := prog_12_method_52_code
def yX10_lays : MethodName := ⟨RX10, "lays", "(II)V"⟩
abbrev cX10_keepsFirst : ByteArray := prog_12_method_53_code
def yX10_keepsFirst : MethodName := ⟨RX10, "keepsFirst", "(I)V"⟩
abbrev cX10_passesSome : ByteArray := prog_12_method_54_code
def yX10_passesSome : MethodName := ⟨RX10, "passesSome", "(III)Z"⟩
abbrev cX10_shortestOf : ByteArray := prog_12_method_55_code
def yX10_shortestOf : MethodName := ⟨RX10, "shortestOf", "(II)I"⟩
abbrev cX10_shortest : ByteArray := prog_12_method_56_code
def yX10_shortest : MethodName := ⟨RX10, "shortest", "(III)I"⟩
abbrev cX10_shortestWord : ByteArray := prog_12_method_57_code
def yX10_shortestWord : MethodName := ⟨RX10, "shortestWord", "(III)I"⟩
abbrev cX10_forAll : ByteArray := prog_12_method_58_code
def yX10_forAll : MethodName := ⟨RX10, "forAll", "(II)I"⟩
abbrev cX10_hidden : ByteArray := prog_12_method_59_code
def yX10_hidden : MethodName := ⟨RX10, "hidden", "(I)I"⟩
abbrev cX10_altered : ByteArray := prog_12_method_60_code
def yX10_altered : MethodName := ⟨RX10, "altered", "(III)I"⟩
abbrev cX10_weightOf : ByteArray := prog_12_method_61_code
def yX10_weightOf : MethodName := ⟨RX10, "weightOf", "(I)I"⟩
abbrev cX10_laden : ByteArray := prog_12_method_62_code
def yX10_laden : MethodName := ⟨RX10, "laden", "(II)I"⟩
abbrev cX10_left : ByteArray := prog_12_method_63_code
def yX10_left : MethodName := ⟨RX10, "left", "(I)I"⟩
abbrev cX10_divisor : ByteArray := prog_12_method_64_code
def yX10_divisor : MethodName := ⟨RX10, "divisor", "(II)I"⟩
abbrev cX10_odds : ByteArray := prog_12_method_65_code
def yX10_odds : MethodName := ⟨RX10, "odds", "(IIII)I"⟩
abbrev cX10_year : ByteArray := prog_12_method_66_code
def yX10_year : MethodName := ⟨RX10, "year", "()I"⟩
abbrev cX10_secret : ByteArray := prog_12_method_67_code
def yX10_secret : MethodName := ⟨RX10, "secret", "(I)I"⟩
abbrev cX10_counted : ByteArray := prog_12_method_68_code
def yX10_counted : MethodName := ⟨RX10, "counted", "(II)I"⟩
abbrev cX10_goesThrough : ByteArray := prog_12_method_69_code
def yX10_goesThrough : MethodName := ⟨RX10, "goesThrough", "()V"⟩
abbrev cX10_canBe : ByteArray := prog_12_method_70_code
def yX10_canBe : MethodName := ⟨RX10, "canBe", "(I)I"⟩
abbrev cX10_canBeWord : ByteArray := prog_12_method_71_code
def yX10_canBeWord : MethodName := ⟨RX10, "canBeWord", "(II)I"⟩
abbrev cX10_count : ByteArray := prog_12_method_72_code
def yX10_count : MethodName := ⟨RX10, "count", "(I)I"⟩
def RJx145de : String := "java/io/Serializable"
def TJx145de : u_T := fun k => match k with
  | _ => ("", "", "", false)
def tyJx145de : Nat → FieldType := fun k => match k with
  | _ => .int
abbrev wsJx145de0 : List Cond := u_ws RJx145de TJx145de 0
theorem nmJx145de : ∀ a, a < 0 → ∀ b, b < 0 → a ≠ b → (TJx145de a).2.1 ≠ (TJx145de b).2.1 := by decide +kernel
theorem tyJx145de_ok : ∀ k, k < 0 → parseFieldDescriptor (TJx145de k).2.2.1 = some (tyJx145de k) := by decide +kernel
def RJx9f9b0 : String := "java/lang/CharSequence"
def TJx9f9b0 : u_T := fun k => match k with
  | _ => ("", "", "", false)
def tyJx9f9b0 : Nat → FieldType := fun k => match k with
  | _ => .int
abbrev wsJx9f9b00 : List Cond := u_ws RJx9f9b0 TJx9f9b0 0
theorem nmJx9f9b0 : ∀ a, a < 0 → ∀ b, b < 0 → a ≠ b → (TJx9f9b0 a).2.1 ≠ (TJx9f9b0 b).2.1 := by decide +kernel
theorem tyJx9f9b0_ok : ∀ k, k < 0 → parseFieldDescriptor (TJx9f9b0 k).2.2.1 = some (tyJx9f9b0 k) := by decide +kernel
def RJxb160c : String := "java/lang/Comparable"
def TJxb160c : u_T := fun k => match k with
  | _ => ("", "", "", false)
def tyJxb160c : Nat → FieldType := fun k => match k with
  | _ => .int
abbrev wsJxb160c0 : List Cond := u_ws RJxb160c TJxb160c 0
theorem nmJxb160c : ∀ a, a < 0 → ∀ b, b < 0 → a ≠ b → (TJxb160c a).2.1 ≠ (TJxb160c b).2.1 := by decide +kernel
theorem tyJxb160c_ok : ∀ k, k < 0 → parseFieldDescriptor (TJxb160c k).2.2.1 = some (tyJxb160c k) := by decide +kernel
def RJ9 : String := "java/lang/Math"
def TJ9 : u_T := fun k => match k with
  | _ => ("", "", "", false)
def tyJ9 : Nat → FieldType := fun k => match k with
  | _ => .int
abbrev wsJ90 : List Cond := u_ws RJ9 TJ9 0
theorem nmJ9 : ∀ a, a < 0 → ∀ b, b < 0 → a ≠ b → (TJ9 a).2.1 ≠ (TJ9 b).2.1 := by decide +kernel
theorem tyJ9_ok : ∀ k, k < 0 → parseFieldDescriptor (TJ9 k).2.2.1 = some (tyJ9 k) := by decide +kernel
abbrev cJ9_max_7cf53 : ByteArray := prog_13_method_65_code
def yJ9_max_7cf53 : MethodName := ⟨RJ9, "max", "(II)I"⟩
abbrev cJ9_min_7cf53 : ByteArray := prog_13_method_69_code
def yJ9_min_7cf53 : MethodName := ⟨RJ9, "min", "(II)I"⟩
def RJ0 : String := "java/lang/String"
def TJ0 : u_T := fun k => match k with
  | _ => ("", "", "", false)
def tyJ0 : Nat → FieldType := fun k => match k with
  | _ => .int
abbrev wsJ00 : List Cond := u_ws RJ0 TJ0 0
theorem nmJ0 : ∀ a, a < 0 → ∀ b, b < 0 → a ≠ b → (TJ0 a).2.1 ≠ (TJ0 b).2.1 := by decide +kernel
theorem tyJ0_ok : ∀ k, k < 0 → parseFieldDescriptor (TJ0 k).2.2.1 = some (tyJ0 k) := by decide +kernel
abbrev cJ0_length_8abf5 : ByteArray := prog_14_method_54_code
def yJ0_length_8abf5 : MethodName := ⟨RJ0, "length", "()I"⟩
abbrev cJ0_charAt_5068e : ByteArray := prog_14_method_56_code
def yJ0_charAt_5068e : MethodName := ⟨RJ0, "charAt", "(I)C"⟩
abbrev cJ0_coder_7d493 : ByteArray := prog_14_method_152_code
def yJ0_coder_7d493 : MethodName := ⟨RJ0, "coder", "()B"⟩
abbrev cJ0_isLatin1_aae02 : ByteArray := prog_14_method_154_code
def yJ0_isLatin1_aae02 : MethodName := ⟨RJ0, "isLatin1", "()Z"⟩
abbrev cJ0_checkIndex_df160 : ByteArray := prog_14_method_155_code
def yJ0_checkIndex_df160 : MethodName := ⟨RJ0, "checkIndex", "(II)V"⟩
def RJ1 : String := "java/lang/StringLatin1"
def TJ1 : u_T := fun k => match k with
  | _ => ("", "", "", false)
def tyJ1 : Nat → FieldType := fun k => match k with
  | _ => .int
abbrev wsJ10 : List Cond := u_ws RJ1 TJ1 0
theorem nmJ1 : ∀ a, a < 0 → ∀ b, b < 0 → a ≠ b → (TJ1 a).2.1 ≠ (TJ1 b).2.1 := by decide +kernel
theorem tyJ1_ok : ∀ k, k < 0 → parseFieldDescriptor (TJ1 k).2.2.1 = some (tyJ1 k) := by decide +kernel
abbrev cJ1_charAt_3b067 : ByteArray := prog_15_method_2_code
def yJ1_charAt_3b067 : MethodName := ⟨RJ1, "charAt", "([BI)C"⟩
def RJ2 : String := "java/lang/StringUTF16"
def TJ2 : u_T := fun k => match k with
  | _ => ("", "", "", false)
def tyJ2 : Nat → FieldType := fun k => match k with
  | _ => .int
abbrev wsJ20 : List Cond := u_ws RJ2 TJ2 0
theorem nmJ2 : ∀ a, a < 0 → ∀ b, b < 0 → a ≠ b → (TJ2 a).2.1 ≠ (TJ2 b).2.1 := by decide +kernel
theorem tyJ2_ok : ∀ k, k < 0 → parseFieldDescriptor (TJ2 k).2.2.1 = some (tyJ2 k) := by decide +kernel
abbrev cJ2_getChar_3b067 : ByteArray := prog_16_method_5_code
def yJ2_getChar_3b067 : MethodName := ⟨RJ2, "getChar", "([BI)C"⟩
abbrev cJ2_length_9d52b : ByteArray := prog_16_method_6_code
def yJ2_length_9d52b : MethodName := ⟨RJ2, "length", "([B)I"⟩
abbrev cJ2_charAt_3b067 : ByteArray := prog_16_method_83_code
def yJ2_charAt_3b067 : MethodName := ⟨RJ2, "charAt", "([BI)C"⟩
abbrev cJ2_checkIndex_2214a : ByteArray := prog_16_method_91_code
def yJ2_checkIndex_2214a : MethodName := ⟨RJ2, "checkIndex", "(I[B)V"⟩
def RJ10 : String := "java/lang/System"
def TJ10 : u_T := fun k => match k with
  | _ => ("", "", "", false)
def tyJ10 : Nat → FieldType := fun k => match k with
  | _ => .int
abbrev wsJ100 : List Cond := u_ws RJ10 TJ10 0
theorem nmJ10 : ∀ a, a < 0 → ∀ b, b < 0 → a ≠ b → (TJ10 a).2.1 ≠ (TJ10 b).2.1 := by decide +kernel
theorem tyJ10_ok : ∀ k, k < 0 → parseFieldDescriptor (TJ10 k).2.2.1 = some (tyJ10 k) := by decide +kernel
def RJxfd54e : String := "java/lang/constant/Constable"
def TJxfd54e : u_T := fun k => match k with
  | _ => ("", "", "", false)
def tyJxfd54e : Nat → FieldType := fun k => match k with
  | _ => .int
abbrev wsJxfd54e0 : List Cond := u_ws RJxfd54e TJxfd54e 0
theorem nmJxfd54e : ∀ a, a < 0 → ∀ b, b < 0 → a ≠ b → (TJxfd54e a).2.1 ≠ (TJxfd54e b).2.1 := by decide +kernel
theorem tyJxfd54e_ok : ∀ k, k < 0 → parseFieldDescriptor (TJxfd54e k).2.2.1 = some (tyJxfd54e k) := by decide +kernel
def RJx3cf43 : String := "java/lang/constant/ConstantDesc"
def TJx3cf43 : u_T := fun k => match k with
  | _ => ("", "", "", false)
def tyJx3cf43 : Nat → FieldType := fun k => match k with
  | _ => .int
abbrev wsJx3cf430 : List Cond := u_ws RJx3cf43 TJx3cf43 0
theorem nmJx3cf43 : ∀ a, a < 0 → ∀ b, b < 0 → a ≠ b → (TJx3cf43 a).2.1 ≠ (TJx3cf43 b).2.1 := by decide +kernel
theorem tyJx3cf43_ok : ∀ k, k < 0 → parseFieldDescriptor (TJx3cf43 k).2.2.1 = some (tyJx3cf43 k) := by decide +kernel
def RJ7 : String := "java/util/Arrays"
def TJ7 : u_T := fun k => match k with
  | _ => ("", "", "", false)
def tyJ7 : Nat → FieldType := fun k => match k with
  | _ => .int
abbrev wsJ70 : List Cond := u_ws RJ7 TJ7 0
theorem nmJ7 : ∀ a, a < 0 → ∀ b, b < 0 → a ≠ b → (TJ7 a).2.1 ≠ (TJ7 b).2.1 := by decide +kernel
theorem tyJ7_ok : ∀ k, k < 0 → parseFieldDescriptor (TJ7 k).2.2.1 = some (tyJ7 k) := by decide +kernel
abbrev cJ7_fill_53178 : ByteArray := prog_18_method_103_code
def yJ7_fill_53178 : MethodName := ⟨RJ7, "fill", "([II)V"⟩
def RJ3 : String := "jdk/internal/util/Preconditions"
def TJ3 : u_T := fun k => match k with
  | _ => ("", "", "", false)
def tyJ3 : Nat → FieldType := fun k => match k with
  | _ => .int
abbrev wsJ30 : List Cond := u_ws RJ3 TJ3 0
theorem nmJ3 : ∀ a, a < 0 → ∀ b, b < 0 → a ≠ b → (TJ3 a).2.1 ≠ (TJ3 b).2.1 := by decide +kernel
theorem tyJ3_ok : ∀ k, k < 0 → parseFieldDescriptor (TJ3 k).2.2.1 = some (tyJ3 k) := by decide +kernel
abbrev cJ3_checkIndex_8e157 : ByteArray := prog_19_method_11_code
def yJ3_checkIndex_8e157 : MethodName := ⟨RJ3, "checkIndex", "(IILjava/util/function/BiFunction;)I"⟩
def RL : String := "VerseCustomsLaw"
abbrev cL_law : ByteArray := code
def yL_law : MethodName := ⟨RL, "law", "([I)Z"⟩
abbrev vwCl : List vw_C := [(RX0, TX0, 6), (RX1, TX1, 5), (RX2, TX2, 7), (RX3, TX3, 2), (RX4, TX4, 2), (RX5, TX5, 10), (RX6, TX6, 5), (RX7, TX7, 10), (RX8, TX8, 13), (RX9, TX9, 10), (RX10, TX10, 27)]
end
section
theorem dX0_init_0 : decode cX0_init 0 = .ok (.aload_n 0, 1) := by decide +kernel
theorem dX0_init_1 : decode cX0_init 1 = .ok (.invokespecial 5, 3) := by decide +kernel
theorem dX0_init_4 : decode cX0_init 4 = .ok (.aload_n 0, 1) := by decide +kernel
theorem dX0_init_5 : decode cX0_init 5 = .ok (.bipush 14, 2) := by decide +kernel
theorem dX0_init_7 : decode cX0_init 7 = .ok (.newarray .int, 2) := by decide +kernel
theorem dX0_init_9 : decode cX0_init 9 = .ok (.putfield 11, 3) := by decide +kernel
theorem dX0_init_12 : decode cX0_init 12 = .ok (.aload_n 0, 1) := by decide +kernel
theorem dX0_init_13 : decode cX0_init 13 = .ok (.bipush 8, 2) := by decide +kernel
theorem dX0_init_15 : decode cX0_init 15 = .ok (.bipush 14, 2) := by decide +kernel
theorem dX0_init_17 : decode cX0_init 17 = .ok (.multianewarray 15 2, 4) := by decide +kernel
theorem dX0_init_21 : decode cX0_init 21 = .ok (.putfield 17, 3) := by decide +kernel
theorem dX0_init_24 : decode cX0_init 24 = .ok (.aload_n 0, 1) := by decide +kernel
theorem dX0_init_25 : decode cX0_init 25 = .ok (.iconst 2, 1) := by decide +kernel
theorem dX0_init_26 : decode cX0_init 26 = .ok (.bipush 14, 2) := by decide +kernel
theorem dX0_init_28 : decode cX0_init 28 = .ok (.multianewarray 15 2, 4) := by decide +kernel
theorem dX0_init_32 : decode cX0_init 32 = .ok (.putfield 20, 3) := by decide +kernel
theorem dX0_init_35 : decode cX0_init 35 = .ok (.aload_n 0, 1) := by decide +kernel
theorem dX0_init_36 : decode cX0_init 36 = .ok (.iconst 2, 1) := by decide +kernel
theorem dX0_init_37 : decode cX0_init 37 = .ok (.newarray .boolean, 2) := by decide +kernel
theorem dX0_init_39 : decode cX0_init 39 = .ok (.putfield 23, 3) := by decide +kernel
theorem dX0_init_42 : decode cX0_init 42 = .ok (.return_, 1) := by decide +kernel
theorem dX0_begin_0 : decode cX0_begin 0 = .ok (.aload_n 0, 1) := by decide +kernel
theorem dX0_begin_1 : decode cX0_begin 1 = .ok (.getfield 11, 3) := by decide +kernel
theorem dX0_begin_4 : decode cX0_begin 4 = .ok (.iconst 0, 1) := by decide +kernel
theorem dX0_begin_5 : decode cX0_begin 5 = .ok (.invokestatic 27, 3) := by decide +kernel
theorem dX0_begin_8 : decode cX0_begin 8 = .ok (.iconst 0, 1) := by decide +kernel
theorem dX0_begin_9 : decode cX0_begin 9 = .ok (.istore_n 1, 1) := by decide +kernel
theorem dX0_begin_10 : decode cX0_begin 10 = .ok (.iload_n 1, 1) := by decide +kernel
theorem dX0_begin_11 : decode cX0_begin 11 = .ok (.iconst 2, 1) := by decide +kernel
theorem dX0_begin_12 : decode cX0_begin 12 = .ok (.if_icmp .ge 16, 3) := by decide +kernel
theorem dX0_begin_15 : decode cX0_begin 15 = .ok (.aload_n 0, 1) := by decide +kernel
theorem dX0_begin_16 : decode cX0_begin 16 = .ok (.getfield 23, 3) := by decide +kernel
theorem dX0_begin_19 : decode cX0_begin 19 = .ok (.iload_n 1, 1) := by decide +kernel
theorem dX0_begin_20 : decode cX0_begin 20 = .ok (.iconst 0, 1) := by decide +kernel
theorem dX0_begin_21 : decode cX0_begin 21 = .ok (.bastore, 1) := by decide +kernel
theorem dX0_begin_22 : decode cX0_begin 22 = .ok (.iinc 1 1, 3) := by decide +kernel
theorem dX0_begin_25 : decode cX0_begin 25 = .ok (.goto (-15), 3) := by decide +kernel
theorem dX0_begin_28 : decode cX0_begin 28 = .ok (.aload_n 0, 1) := by decide +kernel
theorem dX0_begin_29 : decode cX0_begin 29 = .ok (.iconst 0, 1) := by decide +kernel
theorem dX0_begin_30 : decode cX0_begin 30 = .ok (.putfield 33, 3) := by decide +kernel
theorem dX0_begin_33 : decode cX0_begin 33 = .ok (.return_, 1) := by decide +kernel
theorem dX0_today_0 : decode cX0_today 0 = .ok (.aload_n 0, 1) := by decide +kernel
theorem dX0_today_1 : decode cX0_today 1 = .ok (.getfield 11, 3) := by decide +kernel
theorem dX0_today_4 : decode cX0_today 4 = .ok (.iconst 0, 1) := by decide +kernel
theorem dX0_today_5 : decode cX0_today 5 = .ok (.iaload, 1) := by decide +kernel
theorem dX0_today_6 : decode cX0_today 6 = .ok (.ireturn, 1) := by decide +kernel
theorem dX0_paid_0 : decode cX0_paid 0 = .ok (.aload_n 0, 1) := by decide +kernel
theorem dX0_paid_1 : decode cX0_paid 1 = .ok (.getfield 11, 3) := by decide +kernel
theorem dX0_paid_4 : decode cX0_paid 4 = .ok (.iconst 1, 1) := by decide +kernel
theorem dX0_paid_5 : decode cX0_paid 5 = .ok (.iaload, 1) := by decide +kernel
theorem dX0_paid_6 : decode cX0_paid 6 = .ok (.ireturn, 1) := by decide +kernel
theorem dX0_areOver_0 : decode cX0_areOver 0 = .ok (.aload_n 0, 1) := by decide +kernel
theorem dX0_areOver_1 : decode cX0_areOver 1 = .ok (.getfield 11, 3) := by decide +kernel
theorem dX0_areOver_4 : decode cX0_areOver 4 = .ok (.iconst 0, 1) := by decide +kernel
theorem dX0_areOver_5 : decode cX0_areOver 5 = .ok (.iaload, 1) := by decide +kernel
theorem dX0_areOver_6 : decode cX0_areOver 6 = .ok (.bipush 99, 2) := by decide +kernel
theorem dX0_areOver_8 : decode cX0_areOver 8 = .ok (.if_icmp .lt 7, 3) := by decide +kernel
theorem dX0_areOver_11 : decode cX0_areOver 11 = .ok (.iconst 1, 1) := by decide +kernel
theorem dX0_areOver_12 : decode cX0_areOver 12 = .ok (.goto 4, 3) := by decide +kernel
theorem dX0_areOver_15 : decode cX0_areOver 15 = .ok (.iconst 0, 1) := by decide +kernel
theorem dX0_areOver_16 : decode cX0_areOver 16 = .ok (.ireturn, 1) := by decide +kernel
theorem dX0_fateOf_0 : decode cX0_fateOf 0 = .ok (.iload_n 1, 1) := by decide +kernel
theorem dX0_fateOf_1 : decode cX0_fateOf 1 = .ok (.ifCond .lt 20, 3) := by decide +kernel
theorem dX0_fateOf_4 : decode cX0_fateOf 4 = .ok (.iload_n 1, 1) := by decide +kernel
theorem dX0_fateOf_5 : decode cX0_fateOf 5 = .ok (.bipush 6, 2) := by decide +kernel
theorem dX0_fateOf_7 : decode cX0_fateOf 7 = .ok (.if_icmp .ge 14, 3) := by decide +kernel
theorem dX0_fateOf_10 : decode cX0_fateOf 10 = .ok (.aload_n 0, 1) := by decide +kernel
theorem dX0_fateOf_11 : decode cX0_fateOf 11 = .ok (.getfield 11, 3) := by decide +kernel
theorem dX0_fateOf_14 : decode cX0_fateOf 14 = .ok (.iconst 2, 1) := by decide +kernel
theorem dX0_fateOf_15 : decode cX0_fateOf 15 = .ok (.iload_n 1, 1) := by decide +kernel
theorem dX0_fateOf_16 : decode cX0_fateOf 16 = .ok (.iadd, 1) := by decide +kernel
theorem dX0_fateOf_17 : decode cX0_fateOf 17 = .ok (.iaload, 1) := by decide +kernel
theorem dX0_fateOf_18 : decode cX0_fateOf 18 = .ok (.goto 4, 3) := by decide +kernel
theorem dX0_fateOf_21 : decode cX0_fateOf 21 = .ok (.iconst 0, 1) := by decide +kernel
theorem dX0_fateOf_22 : decode cX0_fateOf 22 = .ok (.ireturn, 1) := by decide +kernel
theorem dX0_usesOf_0 : decode cX0_usesOf 0 = .ok (.iload_n 1, 1) := by decide +kernel
theorem dX0_usesOf_1 : decode cX0_usesOf 1 = .ok (.ifCond .lt 21, 3) := by decide +kernel
theorem dX0_usesOf_4 : decode cX0_usesOf 4 = .ok (.iload_n 1, 1) := by decide +kernel
theorem dX0_usesOf_5 : decode cX0_usesOf 5 = .ok (.bipush 6, 2) := by decide +kernel
theorem dX0_usesOf_7 : decode cX0_usesOf 7 = .ok (.if_icmp .ge 15, 3) := by decide +kernel
theorem dX0_usesOf_10 : decode cX0_usesOf 10 = .ok (.aload_n 0, 1) := by decide +kernel
theorem dX0_usesOf_11 : decode cX0_usesOf 11 = .ok (.getfield 11, 3) := by decide +kernel
theorem dX0_usesOf_14 : decode cX0_usesOf 14 = .ok (.bipush 8, 2) := by decide +kernel
theorem dX0_usesOf_16 : decode cX0_usesOf 16 = .ok (.iload_n 1, 1) := by decide +kernel
theorem dX0_usesOf_17 : decode cX0_usesOf 17 = .ok (.iadd, 1) := by decide +kernel
theorem dX0_usesOf_18 : decode cX0_usesOf 18 = .ok (.iaload, 1) := by decide +kernel
theorem dX0_usesOf_19 : decode cX0_usesOf 19 = .ok (.goto 4, 3) := by decide +kernel
theorem dX0_usesOf_22 : decode cX0_usesOf 22 = .ok (.iconst 0, 1) := by decide +kernel
theorem dX0_usesOf_23 : decode cX0_usesOf 23 = .ok (.ireturn, 1) := by decide +kernel
theorem dX0_use_0 : decode cX0_use 0 = .ok (.iload_n 1, 1) := by decide +kernel
theorem dX0_use_1 : decode cX0_use 1 = .ok (.ifCond .lt 22, 3) := by decide +kernel
theorem dX0_use_4 : decode cX0_use 4 = .ok (.iload_n 1, 1) := by decide +kernel
theorem dX0_use_5 : decode cX0_use 5 = .ok (.bipush 6, 2) := by decide +kernel
theorem dX0_use_7 : decode cX0_use 7 = .ok (.if_icmp .ge 16, 3) := by decide +kernel
theorem dX0_use_10 : decode cX0_use 10 = .ok (.aload_n 0, 1) := by decide +kernel
theorem dX0_use_11 : decode cX0_use 11 = .ok (.getfield 11, 3) := by decide +kernel
theorem dX0_use_14 : decode cX0_use 14 = .ok (.bipush 8, 2) := by decide +kernel
theorem dX0_use_16 : decode cX0_use 16 = .ok (.iload_n 1, 1) := by decide +kernel
theorem dX0_use_17 : decode cX0_use 17 = .ok (.iadd, 1) := by decide +kernel
theorem dX0_use_18 : decode cX0_use 18 = .ok (.dup2, 1) := by decide +kernel
theorem dX0_use_19 : decode cX0_use 19 = .ok (.iaload, 1) := by decide +kernel
theorem dX0_use_20 : decode cX0_use 20 = .ok (.iconst 1, 1) := by decide +kernel
theorem dX0_use_21 : decode cX0_use 21 = .ok (.iadd, 1) := by decide +kernel
theorem dX0_use_22 : decode cX0_use 22 = .ok (.iastore, 1) := by decide +kernel
theorem dX0_use_23 : decode cX0_use 23 = .ok (.return_, 1) := by decide +kernel
theorem dX0_settle_0 : decode cX0_settle 0 = .ok (.iload_n 1, 1) := by decide +kernel
theorem dX0_settle_1 : decode cX0_settle 1 = .ok (.ifCond .lt 18, 3) := by decide +kernel
theorem dX0_settle_4 : decode cX0_settle 4 = .ok (.iload_n 1, 1) := by decide +kernel
theorem dX0_settle_5 : decode cX0_settle 5 = .ok (.bipush 6, 2) := by decide +kernel
theorem dX0_settle_7 : decode cX0_settle 7 = .ok (.if_icmp .ge 12, 3) := by decide +kernel
theorem dX0_settle_10 : decode cX0_settle 10 = .ok (.aload_n 0, 1) := by decide +kernel
theorem dX0_settle_11 : decode cX0_settle 11 = .ok (.getfield 11, 3) := by decide +kernel
theorem dX0_settle_14 : decode cX0_settle 14 = .ok (.iconst 2, 1) := by decide +kernel
theorem dX0_settle_15 : decode cX0_settle 15 = .ok (.iload_n 1, 1) := by decide +kernel
theorem dX0_settle_16 : decode cX0_settle 16 = .ok (.iadd, 1) := by decide +kernel
theorem dX0_settle_17 : decode cX0_settle 17 = .ok (.iload_n 2, 1) := by decide +kernel
theorem dX0_settle_18 : decode cX0_settle 18 = .ok (.iastore, 1) := by decide +kernel
theorem dX0_settle_19 : decode cX0_settle 19 = .ok (.aload_n 0, 1) := by decide +kernel
theorem dX0_settle_20 : decode cX0_settle 20 = .ok (.getfield 11, 3) := by decide +kernel
theorem dX0_settle_23 : decode cX0_settle 23 = .ok (.iconst 1, 1) := by decide +kernel
theorem dX0_settle_24 : decode cX0_settle 24 = .ok (.dup2, 1) := by decide +kernel
theorem dX0_settle_25 : decode cX0_settle 25 = .ok (.iaload, 1) := by decide +kernel
theorem dX0_settle_26 : decode cX0_settle 26 = .ok (.iload_n 3, 1) := by decide +kernel
theorem dX0_settle_27 : decode cX0_settle 27 = .ok (.iadd, 1) := by decide +kernel
theorem dX0_settle_28 : decode cX0_settle 28 = .ok (.iastore, 1) := by decide +kernel
theorem dX0_settle_29 : decode cX0_settle 29 = .ok (.aload_n 0, 1) := by decide +kernel
theorem dX0_settle_30 : decode cX0_settle 30 = .ok (.getfield 11, 3) := by decide +kernel
theorem dX0_settle_33 : decode cX0_settle 33 = .ok (.iconst 0, 1) := by decide +kernel
theorem dX0_settle_34 : decode cX0_settle 34 = .ok (.dup2, 1) := by decide +kernel
theorem dX0_settle_35 : decode cX0_settle 35 = .ok (.iaload, 1) := by decide +kernel
theorem dX0_settle_36 : decode cX0_settle 36 = .ok (.iconst 1, 1) := by decide +kernel
theorem dX0_settle_37 : decode cX0_settle 37 = .ok (.iadd, 1) := by decide +kernel
theorem dX0_settle_38 : decode cX0_settle 38 = .ok (.iastore, 1) := by decide +kernel
theorem dX0_settle_39 : decode cX0_settle 39 = .ok (.iload_n 3, 1) := by decide +kernel
theorem dX0_settle_40 : decode cX0_settle 40 = .ok (.ireturn, 1) := by decide +kernel
theorem dX0_pass_0 : decode cX0_pass 0 = .ok (.aload_n 0, 1) := by decide +kernel
theorem dX0_pass_1 : decode cX0_pass 1 = .ok (.getfield 11, 3) := by decide +kernel
theorem dX0_pass_4 : decode cX0_pass 4 = .ok (.iconst 0, 1) := by decide +kernel
theorem dX0_pass_5 : decode cX0_pass 5 = .ok (.dup2, 1) := by decide +kernel
theorem dX0_pass_6 : decode cX0_pass 6 = .ok (.iaload, 1) := by decide +kernel
theorem dX0_pass_7 : decode cX0_pass 7 = .ok (.iconst 1, 1) := by decide +kernel
theorem dX0_pass_8 : decode cX0_pass 8 = .ok (.iadd, 1) := by decide +kernel
theorem dX0_pass_9 : decode cX0_pass 9 = .ok (.iastore, 1) := by decide +kernel
theorem dX0_pass_10 : decode cX0_pass 10 = .ok (.aload_n 0, 1) := by decide +kernel
theorem dX0_pass_11 : decode cX0_pass 11 = .ok (.getfield 11, 3) := by decide +kernel
theorem dX0_pass_14 : decode cX0_pass 14 = .ok (.iconst 0, 1) := by decide +kernel
theorem dX0_pass_15 : decode cX0_pass 15 = .ok (.iaload, 1) := by decide +kernel
theorem dX0_pass_16 : decode cX0_pass 16 = .ok (.ireturn, 1) := by decide +kernel
theorem dX0_remember_0 : decode cX0_remember 0 = .ok (.aload_n 0, 1) := by decide +kernel
theorem dX0_remember_1 : decode cX0_remember 1 = .ok (.getfield 37, 3) := by decide +kernel
theorem dX0_remember_4 : decode cX0_remember 4 = .ok (.ifCond .lt 12, 3) := by decide +kernel
theorem dX0_remember_7 : decode cX0_remember 7 = .ok (.aload_n 0, 1) := by decide +kernel
theorem dX0_remember_8 : decode cX0_remember 8 = .ok (.getfield 37, 3) := by decide +kernel
theorem dX0_remember_11 : decode cX0_remember 11 = .ok (.bipush 8, 2) := by decide +kernel
theorem dX0_remember_13 : decode cX0_remember 13 = .ok (.if_icmp .lt 8, 3) := by decide +kernel
theorem dX0_remember_16 : decode cX0_remember 16 = .ok (.aload_n 0, 1) := by decide +kernel
theorem dX0_remember_17 : decode cX0_remember 17 = .ok (.iconst 0, 1) := by decide +kernel
theorem dX0_remember_18 : decode cX0_remember 18 = .ok (.putfield 37, 3) := by decide +kernel
theorem dX0_remember_21 : decode cX0_remember 21 = .ok (.aload_n 0, 1) := by decide +kernel
theorem dX0_remember_22 : decode cX0_remember 22 = .ok (.getfield 11, 3) := by decide +kernel
theorem dX0_remember_25 : decode cX0_remember 25 = .ok (.iconst 0, 1) := by decide +kernel
theorem dX0_remember_26 : decode cX0_remember 26 = .ok (.aload_n 0, 1) := by decide +kernel
theorem dX0_remember_27 : decode cX0_remember 27 = .ok (.getfield 17, 3) := by decide +kernel
theorem dX0_remember_30 : decode cX0_remember 30 = .ok (.aload_n 0, 1) := by decide +kernel
theorem dX0_remember_31 : decode cX0_remember 31 = .ok (.getfield 37, 3) := by decide +kernel
theorem dX0_remember_34 : decode cX0_remember 34 = .ok (.aaload, 1) := by decide +kernel
theorem dX0_remember_35 : decode cX0_remember 35 = .ok (.iconst 0, 1) := by decide +kernel
theorem dX0_remember_36 : decode cX0_remember 36 = .ok (.bipush 14, 2) := by decide +kernel
theorem dX0_remember_38 : decode cX0_remember 38 = .ok (.invokestatic 40, 3) := by decide +kernel
theorem dX0_remember_41 : decode cX0_remember 41 = .ok (.aload_n 0, 1) := by decide +kernel
theorem dX0_remember_42 : decode cX0_remember 42 = .ok (.aload_n 0, 1) := by decide +kernel
theorem dX0_remember_43 : decode cX0_remember 43 = .ok (.getfield 37, 3) := by decide +kernel
theorem dX0_remember_46 : decode cX0_remember 46 = .ok (.bipush 7, 2) := by decide +kernel
theorem dX0_remember_48 : decode cX0_remember 48 = .ok (.if_icmp .ne 7, 3) := by decide +kernel
theorem dX0_remember_51 : decode cX0_remember 51 = .ok (.iconst 0, 1) := by decide +kernel
theorem dX0_remember_52 : decode cX0_remember 52 = .ok (.goto 9, 3) := by decide +kernel
theorem dX0_remember_55 : decode cX0_remember 55 = .ok (.aload_n 0, 1) := by decide +kernel
theorem dX0_remember_56 : decode cX0_remember 56 = .ok (.getfield 37, 3) := by decide +kernel
theorem dX0_remember_59 : decode cX0_remember 59 = .ok (.iconst 1, 1) := by decide +kernel
theorem dX0_remember_60 : decode cX0_remember 60 = .ok (.iadd, 1) := by decide +kernel
theorem dX0_remember_61 : decode cX0_remember 61 = .ok (.putfield 37, 3) := by decide +kernel
theorem dX0_remember_64 : decode cX0_remember 64 = .ok (.aload_n 0, 1) := by decide +kernel
theorem dX0_remember_65 : decode cX0_remember 65 = .ok (.aload_n 0, 1) := by decide +kernel
theorem dX0_remember_66 : decode cX0_remember 66 = .ok (.getfield 33, 3) := by decide +kernel
theorem dX0_remember_69 : decode cX0_remember 69 = .ok (.iconst 1, 1) := by decide +kernel
theorem dX0_remember_70 : decode cX0_remember 70 = .ok (.iadd, 1) := by decide +kernel
theorem dX0_remember_71 : decode cX0_remember 71 = .ok (.bipush 8, 2) := by decide +kernel
theorem dX0_remember_73 : decode cX0_remember 73 = .ok (.invokestatic 46, 3) := by decide +kernel
theorem dX0_remember_76 : decode cX0_remember 76 = .ok (.putfield 33, 3) := by decide +kernel
theorem dX0_remember_79 : decode cX0_remember 79 = .ok (.return_, 1) := by decide +kernel
theorem dX0_takeBack_0 : decode cX0_takeBack 0 = .ok (.aload_n 0, 1) := by decide +kernel
theorem dX0_takeBack_1 : decode cX0_takeBack 1 = .ok (.aload_n 0, 1) := by decide +kernel
theorem dX0_takeBack_2 : decode cX0_takeBack 2 = .ok (.getfield 37, 3) := by decide +kernel
theorem dX0_takeBack_5 : decode cX0_takeBack 5 = .ok (.ifCond .le 12, 3) := by decide +kernel
theorem dX0_takeBack_8 : decode cX0_takeBack 8 = .ok (.aload_n 0, 1) := by decide +kernel
theorem dX0_takeBack_9 : decode cX0_takeBack 9 = .ok (.getfield 37, 3) := by decide +kernel
theorem dX0_takeBack_12 : decode cX0_takeBack 12 = .ok (.bipush 8, 2) := by decide +kernel
theorem dX0_takeBack_14 : decode cX0_takeBack 14 = .ok (.if_icmp .lt 8, 3) := by decide +kernel
theorem dX0_takeBack_17 : decode cX0_takeBack 17 = .ok (.bipush 7, 2) := by decide +kernel
theorem dX0_takeBack_19 : decode cX0_takeBack 19 = .ok (.goto 9, 3) := by decide +kernel
theorem dX0_takeBack_22 : decode cX0_takeBack 22 = .ok (.aload_n 0, 1) := by decide +kernel
theorem dX0_takeBack_23 : decode cX0_takeBack 23 = .ok (.getfield 37, 3) := by decide +kernel
theorem dX0_takeBack_26 : decode cX0_takeBack 26 = .ok (.iconst 1, 1) := by decide +kernel
theorem dX0_takeBack_27 : decode cX0_takeBack 27 = .ok (.isub, 1) := by decide +kernel
theorem dX0_takeBack_28 : decode cX0_takeBack 28 = .ok (.putfield 37, 3) := by decide +kernel
theorem dX0_takeBack_31 : decode cX0_takeBack 31 = .ok (.aload_n 0, 1) := by decide +kernel
theorem dX0_takeBack_32 : decode cX0_takeBack 32 = .ok (.getfield 17, 3) := by decide +kernel
theorem dX0_takeBack_35 : decode cX0_takeBack 35 = .ok (.aload_n 0, 1) := by decide +kernel
theorem dX0_takeBack_36 : decode cX0_takeBack 36 = .ok (.getfield 37, 3) := by decide +kernel
theorem dX0_takeBack_39 : decode cX0_takeBack 39 = .ok (.aaload, 1) := by decide +kernel
theorem dX0_takeBack_40 : decode cX0_takeBack 40 = .ok (.iconst 0, 1) := by decide +kernel
theorem dX0_takeBack_41 : decode cX0_takeBack 41 = .ok (.aload_n 0, 1) := by decide +kernel
theorem dX0_takeBack_42 : decode cX0_takeBack 42 = .ok (.getfield 11, 3) := by decide +kernel
theorem dX0_takeBack_45 : decode cX0_takeBack 45 = .ok (.iconst 0, 1) := by decide +kernel
theorem dX0_takeBack_46 : decode cX0_takeBack 46 = .ok (.bipush 14, 2) := by decide +kernel
theorem dX0_takeBack_48 : decode cX0_takeBack 48 = .ok (.invokestatic 40, 3) := by decide +kernel
theorem dX0_takeBack_51 : decode cX0_takeBack 51 = .ok (.aload_n 0, 1) := by decide +kernel
theorem dX0_takeBack_52 : decode cX0_takeBack 52 = .ok (.dup, 1) := by decide +kernel
theorem dX0_takeBack_53 : decode cX0_takeBack 53 = .ok (.getfield 33, 3) := by decide +kernel
theorem dX0_takeBack_56 : decode cX0_takeBack 56 = .ok (.iconst 1, 1) := by decide +kernel
theorem dX0_takeBack_57 : decode cX0_takeBack 57 = .ok (.isub, 1) := by decide +kernel
theorem dX0_takeBack_58 : decode cX0_takeBack 58 = .ok (.putfield 33, 3) := by decide +kernel
theorem dX0_takeBack_61 : decode cX0_takeBack 61 = .ok (.aload_n 0, 1) := by decide +kernel
theorem dX0_takeBack_62 : decode cX0_takeBack 62 = .ok (.getfield 33, 3) := by decide +kernel
theorem dX0_takeBack_65 : decode cX0_takeBack 65 = .ok (.ireturn, 1) := by decide +kernel
theorem dX0_isStored_0 : decode cX0_isStored 0 = .ok (.iload_n 1, 1) := by decide +kernel
theorem dX0_isStored_1 : decode cX0_isStored 1 = .ok (.ifCond .lt 21, 3) := by decide +kernel
theorem dX0_isStored_4 : decode cX0_isStored 4 = .ok (.iload_n 1, 1) := by decide +kernel
theorem dX0_isStored_5 : decode cX0_isStored 5 = .ok (.iconst 2, 1) := by decide +kernel
theorem dX0_isStored_6 : decode cX0_isStored 6 = .ok (.if_icmp .ge 16, 3) := by decide +kernel
theorem dX0_isStored_9 : decode cX0_isStored 9 = .ok (.aload_n 0, 1) := by decide +kernel
theorem dX0_isStored_10 : decode cX0_isStored 10 = .ok (.getfield 23, 3) := by decide +kernel
theorem dX0_isStored_13 : decode cX0_isStored 13 = .ok (.iload_n 1, 1) := by decide +kernel
theorem dX0_isStored_14 : decode cX0_isStored 14 = .ok (.baload, 1) := by decide +kernel
theorem dX0_isStored_15 : decode cX0_isStored 15 = .ok (.ifCond .eq 7, 3) := by decide +kernel
theorem dX0_isStored_18 : decode cX0_isStored 18 = .ok (.iconst 1, 1) := by decide +kernel
theorem dX0_isStored_19 : decode cX0_isStored 19 = .ok (.goto 4, 3) := by decide +kernel
theorem dX0_isStored_22 : decode cX0_isStored 22 = .ok (.iconst 0, 1) := by decide +kernel
theorem dX0_isStored_23 : decode cX0_isStored 23 = .ok (.ireturn, 1) := by decide +kernel
theorem dX0_store_0 : decode cX0_store 0 = .ok (.iload_n 1, 1) := by decide +kernel
theorem dX0_store_1 : decode cX0_store 1 = .ok (.ifCond .lt 32, 3) := by decide +kernel
theorem dX0_store_4 : decode cX0_store 4 = .ok (.iload_n 1, 1) := by decide +kernel
theorem dX0_store_5 : decode cX0_store 5 = .ok (.iconst 2, 1) := by decide +kernel
theorem dX0_store_6 : decode cX0_store 6 = .ok (.if_icmp .ge 27, 3) := by decide +kernel
theorem dX0_store_9 : decode cX0_store 9 = .ok (.aload_n 0, 1) := by decide +kernel
theorem dX0_store_10 : decode cX0_store 10 = .ok (.getfield 11, 3) := by decide +kernel
theorem dX0_store_13 : decode cX0_store 13 = .ok (.iconst 0, 1) := by decide +kernel
theorem dX0_store_14 : decode cX0_store 14 = .ok (.aload_n 0, 1) := by decide +kernel
theorem dX0_store_15 : decode cX0_store 15 = .ok (.getfield 20, 3) := by decide +kernel
theorem dX0_store_18 : decode cX0_store 18 = .ok (.iload_n 1, 1) := by decide +kernel
theorem dX0_store_19 : decode cX0_store 19 = .ok (.aaload, 1) := by decide +kernel
theorem dX0_store_20 : decode cX0_store 20 = .ok (.iconst 0, 1) := by decide +kernel
theorem dX0_store_21 : decode cX0_store 21 = .ok (.bipush 14, 2) := by decide +kernel
theorem dX0_store_23 : decode cX0_store 23 = .ok (.invokestatic 40, 3) := by decide +kernel
theorem dX0_store_26 : decode cX0_store 26 = .ok (.aload_n 0, 1) := by decide +kernel
theorem dX0_store_27 : decode cX0_store 27 = .ok (.getfield 23, 3) := by decide +kernel
theorem dX0_store_30 : decode cX0_store 30 = .ok (.iload_n 1, 1) := by decide +kernel
theorem dX0_store_31 : decode cX0_store 31 = .ok (.iconst 1, 1) := by decide +kernel
theorem dX0_store_32 : decode cX0_store 32 = .ok (.bastore, 1) := by decide +kernel
theorem dX0_store_33 : decode cX0_store 33 = .ok (.aload_n 0, 1) := by decide +kernel
theorem dX0_store_34 : decode cX0_store 34 = .ok (.getfield 11, 3) := by decide +kernel
theorem dX0_store_37 : decode cX0_store 37 = .ok (.iconst 0, 1) := by decide +kernel
theorem dX0_store_38 : decode cX0_store 38 = .ok (.iaload, 1) := by decide +kernel
theorem dX0_store_39 : decode cX0_store 39 = .ok (.ireturn, 1) := by decide +kernel
theorem dX0_restore_0 : decode cX0_restore 0 = .ok (.aload_n 0, 1) := by decide +kernel
theorem dX0_restore_1 : decode cX0_restore 1 = .ok (.iload_n 1, 1) := by decide +kernel
theorem dX0_restore_2 : decode cX0_restore 2 = .ok (.invokevirtual 52, 3) := by decide +kernel
theorem dX0_restore_5 : decode cX0_restore 5 = .ok (.ifCond .eq 25, 3) := by decide +kernel
theorem dX0_restore_8 : decode cX0_restore 8 = .ok (.aload_n 0, 1) := by decide +kernel
theorem dX0_restore_9 : decode cX0_restore 9 = .ok (.getfield 20, 3) := by decide +kernel
theorem dX0_restore_12 : decode cX0_restore 12 = .ok (.iload_n 1, 1) := by decide +kernel
theorem dX0_restore_13 : decode cX0_restore 13 = .ok (.aaload, 1) := by decide +kernel
theorem dX0_restore_14 : decode cX0_restore 14 = .ok (.iconst 0, 1) := by decide +kernel
theorem dX0_restore_15 : decode cX0_restore 15 = .ok (.aload_n 0, 1) := by decide +kernel
theorem dX0_restore_16 : decode cX0_restore 16 = .ok (.getfield 11, 3) := by decide +kernel
theorem dX0_restore_19 : decode cX0_restore 19 = .ok (.iconst 0, 1) := by decide +kernel
theorem dX0_restore_20 : decode cX0_restore 20 = .ok (.bipush 14, 2) := by decide +kernel
theorem dX0_restore_22 : decode cX0_restore 22 = .ok (.invokestatic 40, 3) := by decide +kernel
theorem dX0_restore_25 : decode cX0_restore 25 = .ok (.aload_n 0, 1) := by decide +kernel
theorem dX0_restore_26 : decode cX0_restore 26 = .ok (.iconst 0, 1) := by decide +kernel
theorem dX0_restore_27 : decode cX0_restore 27 = .ok (.putfield 33, 3) := by decide +kernel
theorem dX0_restore_30 : decode cX0_restore 30 = .ok (.aload_n 0, 1) := by decide +kernel
theorem dX0_restore_31 : decode cX0_restore 31 = .ok (.getfield 11, 3) := by decide +kernel
theorem dX0_restore_34 : decode cX0_restore 34 = .ok (.iconst 0, 1) := by decide +kernel
theorem dX0_restore_35 : decode cX0_restore 35 = .ok (.iaload, 1) := by decide +kernel
theorem dX0_restore_36 : decode cX0_restore 36 = .ok (.ireturn, 1) := by decide +kernel
theorem dX1_init_0 : decode cX1_init 0 = .ok (.aload_n 0, 1) := by decide +kernel
theorem dX1_init_1 : decode cX1_init 1 = .ok (.invokespecial 3, 3) := by decide +kernel
theorem dX1_init_4 : decode cX1_init 4 = .ok (.aload_n 0, 1) := by decide +kernel
theorem dX1_init_5 : decode cX1_init 5 = .ok (.aload_n 1, 1) := by decide +kernel
theorem dX1_init_6 : decode cX1_init 6 = .ok (.putfield 9, 3) := by decide +kernel
theorem dX1_init_9 : decode cX1_init 9 = .ok (.return_, 1) := by decide +kernel
theorem dX1_ask_0 : decode cX1_ask 0 = .ok (.aload_n 0, 1) := by decide +kernel
theorem dX1_ask_1 : decode cX1_ask 1 = .ok (.iload_n 1, 1) := by decide +kernel
theorem dX1_ask_2 : decode cX1_ask 2 = .ok (.invokevirtual 15, 3) := by decide +kernel
theorem dX1_ask_5 : decode cX1_ask 5 = .ok (.aload_n 0, 1) := by decide +kernel
theorem dX1_ask_6 : decode cX1_ask 6 = .ok (.iload_n 1, 1) := by decide +kernel
theorem dX1_ask_7 : decode cX1_ask 7 = .ok (.iload_n 2, 1) := by decide +kernel
theorem dX1_ask_8 : decode cX1_ask 8 = .ok (.invokevirtual 19, 3) := by decide +kernel
theorem dX1_ask_11 : decode cX1_ask 11 = .ok (.return_, 1) := by decide +kernel
theorem dX1_askForAll_0 : decode cX1_askForAll 0 = .ok (.aload_n 0, 1) := by decide +kernel
theorem dX1_askForAll_1 : decode cX1_askForAll 1 = .ok (.iload_n 1, 1) := by decide +kernel
theorem dX1_askForAll_2 : decode cX1_askForAll 2 = .ok (.invokevirtual 15, 3) := by decide +kernel
theorem dX1_askForAll_5 : decode cX1_askForAll 5 = .ok (.iconst 0, 1) := by decide +kernel
theorem dX1_askForAll_6 : decode cX1_askForAll 6 = .ok (.istore_n 2, 1) := by decide +kernel
theorem dX1_askForAll_7 : decode cX1_askForAll 7 = .ok (.iload_n 2, 1) := by decide +kernel
theorem dX1_askForAll_8 : decode cX1_askForAll 8 = .ok (.aload_n 0, 1) := by decide +kernel
theorem dX1_askForAll_9 : decode cX1_askForAll 9 = .ok (.getfield 9, 3) := by decide +kernel
theorem dX1_askForAll_12 : decode cX1_askForAll 12 = .ok (.getfield 23, 3) := by decide +kernel
theorem dX1_askForAll_15 : decode cX1_askForAll 15 = .ok (.if_icmp .ge 15, 3) := by decide +kernel
theorem dX1_askForAll_18 : decode cX1_askForAll 18 = .ok (.aload_n 0, 1) := by decide +kernel
theorem dX1_askForAll_19 : decode cX1_askForAll 19 = .ok (.iload_n 1, 1) := by decide +kernel
theorem dX1_askForAll_20 : decode cX1_askForAll 20 = .ok (.iload_n 2, 1) := by decide +kernel
theorem dX1_askForAll_21 : decode cX1_askForAll 21 = .ok (.invokevirtual 19, 3) := by decide +kernel
theorem dX1_askForAll_24 : decode cX1_askForAll 24 = .ok (.iinc 2 1, 3) := by decide +kernel
theorem dX1_askForAll_27 : decode cX1_askForAll 27 = .ok (.goto (-20), 3) := by decide +kernel
theorem dX1_askForAll_30 : decode cX1_askForAll 30 = .ok (.return_, 1) := by decide +kernel
theorem dX1_begin_0 : decode cX1_begin 0 = .ok (.aload_n 0, 1) := by decide +kernel
theorem dX1_begin_1 : decode cX1_begin 1 = .ok (.aload_n 0, 1) := by decide +kernel
theorem dX1_begin_2 : decode cX1_begin 2 = .ok (.getfield 9, 3) := by decide +kernel
theorem dX1_begin_5 : decode cX1_begin 5 = .ok (.getfield 29, 3) := by decide +kernel
theorem dX1_begin_8 : decode cX1_begin 8 = .ok (.iload_n 1, 1) := by decide +kernel
theorem dX1_begin_9 : decode cX1_begin 9 = .ok (.invokestatic 33, 3) := by decide +kernel
theorem dX1_begin_12 : decode cX1_begin 12 = .ok (.bipush 12, 2) := by decide +kernel
theorem dX1_begin_14 : decode cX1_begin 14 = .ok (.invokestatic 37, 3) := by decide +kernel
theorem dX1_begin_17 : decode cX1_begin 17 = .ok (.putfield 43, 3) := by decide +kernel
theorem dX1_begin_20 : decode cX1_begin 20 = .ok (.aload_n 0, 1) := by decide +kernel
theorem dX1_begin_21 : decode cX1_begin 21 = .ok (.iconst (-1), 1) := by decide +kernel
theorem dX1_begin_22 : decode cX1_begin 22 = .ok (.putfield 46, 3) := by decide +kernel
theorem dX1_begin_25 : decode cX1_begin 25 = .ok (.aload_n 0, 1) := by decide +kernel
theorem dX1_begin_26 : decode cX1_begin 26 = .ok (.iconst 0, 1) := by decide +kernel
theorem dX1_begin_27 : decode cX1_begin 27 = .ok (.putfield 49, 3) := by decide +kernel
theorem dX1_begin_30 : decode cX1_begin 30 = .ok (.aload_n 0, 1) := by decide +kernel
theorem dX1_begin_31 : decode cX1_begin 31 = .ok (.iconst 0, 1) := by decide +kernel
theorem dX1_begin_32 : decode cX1_begin 32 = .ok (.putfield 53, 3) := by decide +kernel
theorem dX1_begin_35 : decode cX1_begin 35 = .ok (.return_, 1) := by decide +kernel
theorem dX1_hear_0 : decode cX1_hear 0 = .ok (.aload_n 0, 1) := by decide +kernel
theorem dX1_hear_1 : decode cX1_hear 1 = .ok (.getfield 9, 3) := by decide +kernel
theorem dX1_hear_4 : decode cX1_hear 4 = .ok (.iload_n 2, 1) := by decide +kernel
theorem dX1_hear_5 : decode cX1_hear 5 = .ok (.invokevirtual 56, 3) := by decide +kernel
theorem dX1_hear_8 : decode cX1_hear 8 = .ok (.ifCond .eq 11, 3) := by decide +kernel
theorem dX1_hear_11 : decode cX1_hear 11 = .ok (.aload_n 0, 1) := by decide +kernel
theorem dX1_hear_12 : decode cX1_hear 12 = .ok (.iconst 1, 1) := by decide +kernel
theorem dX1_hear_13 : decode cX1_hear 13 = .ok (.putfield 49, 3) := by decide +kernel
theorem dX1_hear_16 : decode cX1_hear 16 = .ok (.goto 8, 3) := by decide +kernel
theorem dX1_hear_19 : decode cX1_hear 19 = .ok (.aload_n 0, 1) := by decide +kernel
theorem dX1_hear_20 : decode cX1_hear 20 = .ok (.iconst 1, 1) := by decide +kernel
theorem dX1_hear_21 : decode cX1_hear 21 = .ok (.putfield 53, 3) := by decide +kernel
theorem dX1_hear_24 : decode cX1_hear 24 = .ok (.aload_n 0, 1) := by decide +kernel
theorem dX1_hear_25 : decode cX1_hear 25 = .ok (.getfield 9, 3) := by decide +kernel
theorem dX1_hear_28 : decode cX1_hear 28 = .ok (.iload_n 2, 1) := by decide +kernel
theorem dX1_hear_29 : decode cX1_hear 29 = .ok (.invokevirtual 60, 3) := by decide +kernel
theorem dX1_hear_32 : decode cX1_hear 32 = .ok (.ifCond .ne 25, 3) := by decide +kernel
theorem dX1_hear_35 : decode cX1_hear 35 = .ok (.aload_n 0, 1) := by decide +kernel
theorem dX1_hear_36 : decode cX1_hear 36 = .ok (.aload_n 0, 1) := by decide +kernel
theorem dX1_hear_37 : decode cX1_hear 37 = .ok (.getfield 9, 3) := by decide +kernel
theorem dX1_hear_40 : decode cX1_hear 40 = .ok (.aload_n 0, 1) := by decide +kernel
theorem dX1_hear_41 : decode cX1_hear 41 = .ok (.getfield 9, 3) := by decide +kernel
theorem dX1_hear_44 : decode cX1_hear 44 = .ok (.getfield 63, 3) := by decide +kernel
theorem dX1_hear_47 : decode cX1_hear 47 = .ok (.iload_n 1, 1) := by decide +kernel
theorem dX1_hear_48 : decode cX1_hear 48 = .ok (.invokestatic 33, 3) := by decide +kernel
theorem dX1_hear_51 : decode cX1_hear 51 = .ok (.invokevirtual 66, 3) := by decide +kernel
theorem dX1_hear_54 : decode cX1_hear 54 = .ok (.putfield 46, 3) := by decide +kernel
theorem dX1_hear_57 : decode cX1_hear 57 = .ok (.return_, 1) := by decide +kernel
theorem dX1_allows_0 : decode cX1_allows 0 = .ok (.aload_n 0, 1) := by decide +kernel
theorem dX1_allows_1 : decode cX1_allows 1 = .ok (.getfield 9, 3) := by decide +kernel
theorem dX1_allows_4 : decode cX1_allows 4 = .ok (.iload_n 1, 1) := by decide +kernel
theorem dX1_allows_5 : decode cX1_allows 5 = .ok (.iload_n 2, 1) := by decide +kernel
theorem dX1_allows_6 : decode cX1_allows 6 = .ok (.invokevirtual 70, 3) := by decide +kernel
theorem dX1_allows_9 : decode cX1_allows 9 = .ok (.ifCond .ne 5, 3) := by decide +kernel
theorem dX1_allows_12 : decode cX1_allows 12 = .ok (.iconst 0, 1) := by decide +kernel
theorem dX1_allows_13 : decode cX1_allows 13 = .ok (.ireturn, 1) := by decide +kernel
theorem dX1_allows_14 : decode cX1_allows 14 = .ok (.iload_n 3, 1) := by decide +kernel
theorem dX1_allows_15 : decode cX1_allows 15 = .ok (.ifCond .eq 32, 3) := by decide +kernel
theorem dX1_allows_18 : decode cX1_allows 18 = .ok (.aload_n 0, 1) := by decide +kernel
theorem dX1_allows_19 : decode cX1_allows 19 = .ok (.getfield 46, 3) := by decide +kernel
theorem dX1_allows_22 : decode cX1_allows 22 = .ok (.iconst (-1), 1) := by decide +kernel
theorem dX1_allows_23 : decode cX1_allows 23 = .ok (.if_icmp .eq 18, 3) := by decide +kernel
theorem dX1_allows_26 : decode cX1_allows 26 = .ok (.aload_n 0, 1) := by decide +kernel
theorem dX1_allows_27 : decode cX1_allows 27 = .ok (.getfield 9, 3) := by decide +kernel
theorem dX1_allows_30 : decode cX1_allows 30 = .ok (.iload_n 1, 1) := by decide +kernel
theorem dX1_allows_31 : decode cX1_allows 31 = .ok (.aload_n 0, 1) := by decide +kernel
theorem dX1_allows_32 : decode cX1_allows 32 = .ok (.getfield 46, 3) := by decide +kernel
theorem dX1_allows_35 : decode cX1_allows 35 = .ok (.invokevirtual 74, 3) := by decide +kernel
theorem dX1_allows_38 : decode cX1_allows 38 = .ok (.ifCond .eq 7, 3) := by decide +kernel
theorem dX1_allows_41 : decode cX1_allows 41 = .ok (.iconst 1, 1) := by decide +kernel
theorem dX1_allows_42 : decode cX1_allows 42 = .ok (.goto 4, 3) := by decide +kernel
theorem dX1_allows_45 : decode cX1_allows 45 = .ok (.iconst 0, 1) := by decide +kernel
theorem dX1_allows_46 : decode cX1_allows 46 = .ok (.ireturn, 1) := by decide +kernel
theorem dX1_allows_47 : decode cX1_allows 47 = .ok (.aload_n 0, 1) := by decide +kernel
theorem dX1_allows_48 : decode cX1_allows 48 = .ok (.getfield 49, 3) := by decide +kernel
theorem dX1_allows_51 : decode cX1_allows 51 = .ok (.ifCond .eq 25, 3) := by decide +kernel
theorem dX1_allows_54 : decode cX1_allows 54 = .ok (.aload_n 0, 1) := by decide +kernel
theorem dX1_allows_55 : decode cX1_allows 55 = .ok (.getfield 53, 3) := by decide +kernel
theorem dX1_allows_58 : decode cX1_allows 58 = .ok (.ifCond .eq 18, 3) := by decide +kernel
theorem dX1_allows_61 : decode cX1_allows 61 = .ok (.aload_n 0, 1) := by decide +kernel
theorem dX1_allows_62 : decode cX1_allows 62 = .ok (.getfield 9, 3) := by decide +kernel
theorem dX1_allows_65 : decode cX1_allows 65 = .ok (.getfield 77, 3) := by decide +kernel
theorem dX1_allows_68 : decode cX1_allows 68 = .ok (.iload_n 1, 1) := by decide +kernel
theorem dX1_allows_69 : decode cX1_allows 69 = .ok (.invokestatic 33, 3) := by decide +kernel
theorem dX1_allows_72 : decode cX1_allows 72 = .ok (.iconst 1, 1) := by decide +kernel
theorem dX1_allows_73 : decode cX1_allows 73 = .ok (.if_icmp .eq 7, 3) := by decide +kernel
theorem dX1_allows_76 : decode cX1_allows 76 = .ok (.iconst 1, 1) := by decide +kernel
theorem dX1_allows_77 : decode cX1_allows 77 = .ok (.goto 4, 3) := by decide +kernel
theorem dX1_allows_80 : decode cX1_allows 80 = .ok (.iconst 0, 1) := by decide +kernel
theorem dX1_allows_81 : decode cX1_allows 81 = .ok (.ireturn, 1) := by decide +kernel
theorem dX1_countOf_0 : decode cX1_countOf 0 = .ok (.aload_n 0, 1) := by decide +kernel
theorem dX1_countOf_1 : decode cX1_countOf 1 = .ok (.getfield 9, 3) := by decide +kernel
theorem dX1_countOf_4 : decode cX1_countOf 4 = .ok (.getfield 80, 3) := by decide +kernel
theorem dX1_countOf_7 : decode cX1_countOf 7 = .ok (.iload_n 1, 1) := by decide +kernel
theorem dX1_countOf_8 : decode cX1_countOf 8 = .ok (.invokestatic 33, 3) := by decide +kernel
theorem dX1_countOf_11 : decode cX1_countOf 11 = .ok (.istore_n 3, 1) := by decide +kernel
theorem dX1_countOf_12 : decode cX1_countOf 12 = .ok (.aload_n 0, 1) := by decide +kernel
theorem dX1_countOf_13 : decode cX1_countOf 13 = .ok (.getfield 49, 3) := by decide +kernel
theorem dX1_countOf_16 : decode cX1_countOf 16 = .ok (.ifCond .eq 28, 3) := by decide +kernel
theorem dX1_countOf_19 : decode cX1_countOf 19 = .ok (.iload_n 2, 1) := by decide +kernel
theorem dX1_countOf_20 : decode cX1_countOf 20 = .ok (.ifCond .ne 24, 3) := by decide +kernel
theorem dX1_countOf_23 : decode cX1_countOf 23 = .ok (.aload_n 0, 1) := by decide +kernel
theorem dX1_countOf_24 : decode cX1_countOf 24 = .ok (.getfield 9, 3) := by decide +kernel
theorem dX1_countOf_27 : decode cX1_countOf 27 = .ok (.getfield 77, 3) := by decide +kernel
theorem dX1_countOf_30 : decode cX1_countOf 30 = .ok (.iload_n 1, 1) := by decide +kernel
theorem dX1_countOf_31 : decode cX1_countOf 31 = .ok (.invokestatic 33, 3) := by decide +kernel
theorem dX1_countOf_34 : decode cX1_countOf 34 = .ok (.iconst 1, 1) := by decide +kernel
theorem dX1_countOf_35 : decode cX1_countOf 35 = .ok (.if_icmp .ne 9, 3) := by decide +kernel
theorem dX1_countOf_38 : decode cX1_countOf 38 = .ok (.iload_n 3, 1) := by decide +kernel
theorem dX1_countOf_39 : decode cX1_countOf 39 = .ok (.iconst 1, 1) := by decide +kernel
theorem dX1_countOf_40 : decode cX1_countOf 40 = .ok (.isub, 1) := by decide +kernel
theorem dX1_countOf_41 : decode cX1_countOf 41 = .ok (.goto 4, 3) := by decide +kernel
theorem dX1_countOf_44 : decode cX1_countOf 44 = .ok (.iload_n 3, 1) := by decide +kernel
theorem dX1_countOf_45 : decode cX1_countOf 45 = .ok (.ireturn, 1) := by decide +kernel
theorem dX2_init_0 : decode cX2_init 0 = .ok (.aload_n 0, 1) := by decide +kernel
theorem dX2_init_1 : decode cX2_init 1 = .ok (.invokespecial 3, 3) := by decide +kernel
theorem dX2_init_4 : decode cX2_init 4 = .ok (.aload_n 0, 1) := by decide +kernel
theorem dX2_init_5 : decode cX2_init 5 = .ok (.bipush 7, 2) := by decide +kernel
theorem dX2_init_7 : decode cX2_init 7 = .ok (.bipush 26, 2) := by decide +kernel
theorem dX2_init_9 : decode cX2_init 9 = .ok (.multianewarray 9 2, 4) := by decide +kernel
theorem dX2_init_13 : decode cX2_init 13 = .ok (.putfield 11, 3) := by decide +kernel
theorem dX2_init_16 : decode cX2_init 16 = .ok (.aload_n 0, 1) := by decide +kernel
theorem dX2_init_17 : decode cX2_init 17 = .ok (.bipush 7, 2) := by decide +kernel
theorem dX2_init_19 : decode cX2_init 19 = .ok (.bipush 26, 2) := by decide +kernel
theorem dX2_init_21 : decode cX2_init 21 = .ok (.multianewarray 9 2, 4) := by decide +kernel
theorem dX2_init_25 : decode cX2_init 25 = .ok (.putfield 16, 3) := by decide +kernel
theorem dX2_init_28 : decode cX2_init 28 = .ok (.aload_n 0, 1) := by decide +kernel
theorem dX2_init_29 : decode cX2_init 29 = .ok (.new 19, 3) := by decide +kernel
theorem dX2_init_32 : decode cX2_init 32 = .ok (.dup, 1) := by decide +kernel
theorem dX2_init_33 : decode cX2_init 33 = .ok (.invokespecial 21, 3) := by decide +kernel
theorem dX2_init_36 : decode cX2_init 36 = .ok (.putfield 22, 3) := by decide +kernel
theorem dX2_init_39 : decode cX2_init 39 = .ok (.aload_n 0, 1) := by decide +kernel
theorem dX2_init_40 : decode cX2_init 40 = .ok (.aload_n 1, 1) := by decide +kernel
theorem dX2_init_41 : decode cX2_init 41 = .ok (.putfield 26, 3) := by decide +kernel
theorem dX2_init_44 : decode cX2_init 44 = .ok (.aload_n 0, 1) := by decide +kernel
theorem dX2_init_45 : decode cX2_init 45 = .ok (.aload_n 2, 1) := by decide +kernel
theorem dX2_init_46 : decode cX2_init 46 = .ok (.putfield 30, 3) := by decide +kernel
theorem dX2_init_49 : decode cX2_init 49 = .ok (.aload_n 0, 1) := by decide +kernel
theorem dX2_init_50 : decode cX2_init 50 = .ok (.aload_n 3, 1) := by decide +kernel
theorem dX2_init_51 : decode cX2_init 51 = .ok (.putfield 34, 3) := by decide +kernel
theorem dX2_init_54 : decode cX2_init 54 = .ok (.return_, 1) := by decide +kernel
theorem dX2_fewestWords_0 : decode cX2_fewestWords 0 = .ok (.aload_n 0, 1) := by decide +kernel
theorem dX2_fewestWords_1 : decode cX2_fewestWords 1 = .ok (.iconst 0, 1) := by decide +kernel
theorem dX2_fewestWords_2 : decode cX2_fewestWords 2 = .ok (.invokevirtual 37, 3) := by decide +kernel
theorem dX2_fewestWords_5 : decode cX2_fewestWords 5 = .ok (.iconst 1, 1) := by decide +kernel
theorem dX2_fewestWords_6 : decode cX2_fewestWords 6 = .ok (.istore_n 1, 1) := by decide +kernel
theorem dX2_fewestWords_7 : decode cX2_fewestWords 7 = .ok (.iload_n 1, 1) := by decide +kernel
theorem dX2_fewestWords_8 : decode cX2_fewestWords 8 = .ok (.iconst 4, 1) := by decide +kernel
theorem dX2_fewestWords_9 : decode cX2_fewestWords 9 = .ok (.if_icmp .gt 33, 3) := by decide +kernel
theorem dX2_fewestWords_12 : decode cX2_fewestWords 12 = .ok (.aload_n 0, 1) := by decide +kernel
theorem dX2_fewestWords_13 : decode cX2_fewestWords 13 = .ok (.iload_n 1, 1) := by decide +kernel
theorem dX2_fewestWords_14 : decode cX2_fewestWords 14 = .ok (.invokevirtual 41, 3) := by decide +kernel
theorem dX2_fewestWords_17 : decode cX2_fewestWords 17 = .ok (.aload_n 0, 1) := by decide +kernel
theorem dX2_fewestWords_18 : decode cX2_fewestWords 18 = .ok (.iload_n 1, 1) := by decide +kernel
theorem dX2_fewestWords_19 : decode cX2_fewestWords 19 = .ok (.iconst 0, 1) := by decide +kernel
theorem dX2_fewestWords_20 : decode cX2_fewestWords 20 = .ok (.aload_n 0, 1) := by decide +kernel
theorem dX2_fewestWords_21 : decode cX2_fewestWords 21 = .ok (.getfield 30, 3) := by decide +kernel
theorem dX2_fewestWords_24 : decode cX2_fewestWords 24 = .ok (.getfield 45, 3) := by decide +kernel
theorem dX2_fewestWords_27 : decode cX2_fewestWords 27 = .ok (.invokevirtual 51, 3) := by decide +kernel
theorem dX2_fewestWords_30 : decode cX2_fewestWords 30 = .ok (.iconst (-1), 1) := by decide +kernel
theorem dX2_fewestWords_31 : decode cX2_fewestWords 31 = .ok (.if_icmp .eq 5, 3) := by decide +kernel
theorem dX2_fewestWords_34 : decode cX2_fewestWords 34 = .ok (.iload_n 1, 1) := by decide +kernel
theorem dX2_fewestWords_35 : decode cX2_fewestWords 35 = .ok (.ireturn, 1) := by decide +kernel
theorem dX2_fewestWords_36 : decode cX2_fewestWords 36 = .ok (.iinc 1 1, 3) := by decide +kernel
theorem dX2_fewestWords_39 : decode cX2_fewestWords 39 = .ok (.goto (-32), 3) := by decide +kernel
theorem dX2_fewestWords_42 : decode cX2_fewestWords 42 = .ok (.iconst (-1), 1) := by decide +kernel
theorem dX2_fewestWords_43 : decode cX2_fewestWords 43 = .ok (.ireturn, 1) := by decide +kernel
theorem dX2_linesOf_0 : decode cX2_linesOf 0 = .ok (.aload_n 0, 1) := by decide +kernel
theorem dX2_linesOf_1 : decode cX2_linesOf 1 = .ok (.iconst 0, 1) := by decide +kernel
theorem dX2_linesOf_2 : decode cX2_linesOf 2 = .ok (.invokevirtual 37, 3) := by decide +kernel
theorem dX2_linesOf_5 : decode cX2_linesOf 5 = .ok (.iconst 1, 1) := by decide +kernel
theorem dX2_linesOf_6 : decode cX2_linesOf 6 = .ok (.istore_n 2, 1) := by decide +kernel
theorem dX2_linesOf_7 : decode cX2_linesOf 7 = .ok (.iload_n 2, 1) := by decide +kernel
theorem dX2_linesOf_8 : decode cX2_linesOf 8 = .ok (.iload_n 1, 1) := by decide +kernel
theorem dX2_linesOf_9 : decode cX2_linesOf 9 = .ok (.if_icmp .gt 14, 3) := by decide +kernel
theorem dX2_linesOf_12 : decode cX2_linesOf 12 = .ok (.aload_n 0, 1) := by decide +kernel
theorem dX2_linesOf_13 : decode cX2_linesOf 13 = .ok (.iload_n 2, 1) := by decide +kernel
theorem dX2_linesOf_14 : decode cX2_linesOf 14 = .ok (.invokevirtual 41, 3) := by decide +kernel
theorem dX2_linesOf_17 : decode cX2_linesOf 17 = .ok (.iinc 2 1, 3) := by decide +kernel
theorem dX2_linesOf_20 : decode cX2_linesOf 20 = .ok (.goto (-13), 3) := by decide +kernel
theorem dX2_linesOf_23 : decode cX2_linesOf 23 = .ok (.aload_n 0, 1) := by decide +kernel
theorem dX2_linesOf_24 : decode cX2_linesOf 24 = .ok (.iload_n 1, 1) := by decide +kernel
theorem dX2_linesOf_25 : decode cX2_linesOf 25 = .ok (.iconst 0, 1) := by decide +kernel
theorem dX2_linesOf_26 : decode cX2_linesOf 26 = .ok (.aload_n 0, 1) := by decide +kernel
theorem dX2_linesOf_27 : decode cX2_linesOf 27 = .ok (.getfield 30, 3) := by decide +kernel
theorem dX2_linesOf_30 : decode cX2_linesOf 30 = .ok (.getfield 45, 3) := by decide +kernel
theorem dX2_linesOf_33 : decode cX2_linesOf 33 = .ok (.invokevirtual 55, 3) := by decide +kernel
theorem dX2_linesOf_36 : decode cX2_linesOf 36 = .ok (.ireturn, 1) := by decide +kernel
theorem dX2_fewestChanges_0 : decode cX2_fewestChanges 0 = .ok (.aload_n 0, 1) := by decide +kernel
theorem dX2_fewestChanges_1 : decode cX2_fewestChanges 1 = .ok (.getfield 34, 3) := by decide +kernel
theorem dX2_fewestChanges_4 : decode cX2_fewestChanges 4 = .ok (.getfield 58, 3) := by decide +kernel
theorem dX2_fewestChanges_7 : decode cX2_fewestChanges 7 = .ok (.ifCond .ne 5, 3) := by decide +kernel
theorem dX2_fewestChanges_10 : decode cX2_fewestChanges 10 = .ok (.iconst (-1), 1) := by decide +kernel
theorem dX2_fewestChanges_11 : decode cX2_fewestChanges 11 = .ok (.ireturn, 1) := by decide +kernel
theorem dX2_fewestChanges_12 : decode cX2_fewestChanges 12 = .ok (.aload_n 0, 1) := by decide +kernel
theorem dX2_fewestChanges_13 : decode cX2_fewestChanges 13 = .ok (.iconst 1, 1) := by decide +kernel
theorem dX2_fewestChanges_14 : decode cX2_fewestChanges 14 = .ok (.invokevirtual 37, 3) := by decide +kernel
theorem dX2_fewestChanges_17 : decode cX2_fewestChanges 17 = .ok (.iconst 1, 1) := by decide +kernel
theorem dX2_fewestChanges_18 : decode cX2_fewestChanges 18 = .ok (.istore_n 1, 1) := by decide +kernel
theorem dX2_fewestChanges_19 : decode cX2_fewestChanges 19 = .ok (.iload_n 1, 1) := by decide +kernel
theorem dX2_fewestChanges_20 : decode cX2_fewestChanges 20 = .ok (.aload_n 0, 1) := by decide +kernel
theorem dX2_fewestChanges_21 : decode cX2_fewestChanges 21 = .ok (.getfield 34, 3) := by decide +kernel
theorem dX2_fewestChanges_24 : decode cX2_fewestChanges 24 = .ok (.getfield 58, 3) := by decide +kernel
theorem dX2_fewestChanges_27 : decode cX2_fewestChanges 27 = .ok (.if_icmp .gt 14, 3) := by decide +kernel
theorem dX2_fewestChanges_30 : decode cX2_fewestChanges 30 = .ok (.aload_n 0, 1) := by decide +kernel
theorem dX2_fewestChanges_31 : decode cX2_fewestChanges 31 = .ok (.iload_n 1, 1) := by decide +kernel
theorem dX2_fewestChanges_32 : decode cX2_fewestChanges 32 = .ok (.invokevirtual 41, 3) := by decide +kernel
theorem dX2_fewestChanges_35 : decode cX2_fewestChanges 35 = .ok (.iinc 1 1, 3) := by decide +kernel
theorem dX2_fewestChanges_38 : decode cX2_fewestChanges 38 = .ok (.goto (-19), 3) := by decide +kernel
theorem dX2_fewestChanges_41 : decode cX2_fewestChanges 41 = .ok (.aload_n 0, 1) := by decide +kernel
theorem dX2_fewestChanges_42 : decode cX2_fewestChanges 42 = .ok (.aload_n 0, 1) := by decide +kernel
theorem dX2_fewestChanges_43 : decode cX2_fewestChanges 43 = .ok (.getfield 34, 3) := by decide +kernel
theorem dX2_fewestChanges_46 : decode cX2_fewestChanges 46 = .ok (.getfield 58, 3) := by decide +kernel
theorem dX2_fewestChanges_49 : decode cX2_fewestChanges 49 = .ok (.iconst 0, 1) := by decide +kernel
theorem dX2_fewestChanges_50 : decode cX2_fewestChanges 50 = .ok (.aload_n 0, 1) := by decide +kernel
theorem dX2_fewestChanges_51 : decode cX2_fewestChanges 51 = .ok (.getfield 30, 3) := by decide +kernel
theorem dX2_fewestChanges_54 : decode cX2_fewestChanges 54 = .ok (.getfield 45, 3) := by decide +kernel
theorem dX2_fewestChanges_57 : decode cX2_fewestChanges 57 = .ok (.invokevirtual 51, 3) := by decide +kernel
theorem dX2_fewestChanges_60 : decode cX2_fewestChanges 60 = .ok (.ireturn, 1) := by decide +kernel
theorem dX2_findFirst_0 : decode cX2_findFirst 0 = .ok (.aload_n 0, 1) := by decide +kernel
theorem dX2_findFirst_1 : decode cX2_findFirst 1 = .ok (.getfield 22, 3) := by decide +kernel
theorem dX2_findFirst_4 : decode cX2_findFirst 4 = .ok (.invokevirtual 61, 3) := by decide +kernel
theorem dX2_findFirst_7 : decode cX2_findFirst 7 = .ok (.pop, 1) := by decide +kernel
theorem dX2_findFirst_8 : decode cX2_findFirst 8 = .ok (.iconst 0, 1) := by decide +kernel
theorem dX2_findFirst_9 : decode cX2_findFirst 9 = .ok (.istore_n 2, 1) := by decide +kernel
theorem dX2_findFirst_10 : decode cX2_findFirst 10 = .ok (.aload_n 0, 1) := by decide +kernel
theorem dX2_findFirst_11 : decode cX2_findFirst 11 = .ok (.getfield 30, 3) := by decide +kernel
theorem dX2_findFirst_14 : decode cX2_findFirst 14 = .ok (.getfield 45, 3) := by decide +kernel
theorem dX2_findFirst_17 : decode cX2_findFirst 17 = .ok (.istore_n 3, 1) := by decide +kernel
theorem dX2_findFirst_18 : decode cX2_findFirst 18 = .ok (.iload_n 1, 1) := by decide +kernel
theorem dX2_findFirst_19 : decode cX2_findFirst 19 = .ok (.istore 4, 2) := by decide +kernel
theorem dX2_findFirst_21 : decode cX2_findFirst 21 = .ok (.iload 4, 2) := by decide +kernel
theorem dX2_findFirst_23 : decode cX2_findFirst 23 = .ok (.iconst 1, 1) := by decide +kernel
theorem dX2_findFirst_24 : decode cX2_findFirst 24 = .ok (.if_icmp .lt 74, 3) := by decide +kernel
theorem dX2_findFirst_27 : decode cX2_findFirst 27 = .ok (.aload_n 0, 1) := by decide +kernel
theorem dX2_findFirst_28 : decode cX2_findFirst 28 = .ok (.iload 4, 2) := by decide +kernel
theorem dX2_findFirst_30 : decode cX2_findFirst 30 = .ok (.iload_n 2, 1) := by decide +kernel
theorem dX2_findFirst_31 : decode cX2_findFirst 31 = .ok (.iload_n 3, 1) := by decide +kernel
theorem dX2_findFirst_32 : decode cX2_findFirst 32 = .ok (.invokevirtual 65, 3) := by decide +kernel
theorem dX2_findFirst_35 : decode cX2_findFirst 35 = .ok (.istore 5, 2) := by decide +kernel
theorem dX2_findFirst_37 : decode cX2_findFirst 37 = .ok (.iload 5, 2) := by decide +kernel
theorem dX2_findFirst_39 : decode cX2_findFirst 39 = .ok (.iconst (-1), 1) := by decide +kernel
theorem dX2_findFirst_40 : decode cX2_findFirst 40 = .ok (.if_icmp .ne 4, 3) := by decide +kernel
theorem dX2_findFirst_43 : decode cX2_findFirst 43 = .ok (.return_, 1) := by decide +kernel
theorem dX2_findFirst_44 : decode cX2_findFirst 44 = .ok (.aload_n 0, 1) := by decide +kernel
theorem dX2_findFirst_45 : decode cX2_findFirst 45 = .ok (.getfield 22, 3) := by decide +kernel
theorem dX2_findFirst_48 : decode cX2_findFirst 48 = .ok (.iload 5, 2) := by decide +kernel
theorem dX2_findFirst_50 : decode cX2_findFirst 50 = .ok (.invokevirtual 68, 3) := by decide +kernel
theorem dX2_findFirst_53 : decode cX2_findFirst 53 = .ok (.pop, 1) := by decide +kernel
theorem dX2_findFirst_54 : decode cX2_findFirst 54 = .ok (.iload_n 3, 1) := by decide +kernel
theorem dX2_findFirst_55 : decode cX2_findFirst 55 = .ok (.aload_n 0, 1) := by decide +kernel
theorem dX2_findFirst_56 : decode cX2_findFirst 56 = .ok (.getfield 30, 3) := by decide +kernel
theorem dX2_findFirst_59 : decode cX2_findFirst 59 = .ok (.iload 5, 2) := by decide +kernel
theorem dX2_findFirst_61 : decode cX2_findFirst 61 = .ok (.iload 4, 2) := by decide +kernel
theorem dX2_findFirst_63 : decode cX2_findFirst 63 = .ok (.iconst 1, 1) := by decide +kernel
theorem dX2_findFirst_64 : decode cX2_findFirst 64 = .ok (.if_icmp .ne 7, 3) := by decide +kernel
theorem dX2_findFirst_67 : decode cX2_findFirst 67 = .ok (.iconst 1, 1) := by decide +kernel
theorem dX2_findFirst_68 : decode cX2_findFirst 68 = .ok (.goto 4, 3) := by decide +kernel
theorem dX2_findFirst_71 : decode cX2_findFirst 71 = .ok (.iconst 0, 1) := by decide +kernel
theorem dX2_findFirst_72 : decode cX2_findFirst 72 = .ok (.invokevirtual 72, 3) := by decide +kernel
theorem dX2_findFirst_75 : decode cX2_findFirst 75 = .ok (.isub, 1) := by decide +kernel
theorem dX2_findFirst_76 : decode cX2_findFirst 76 = .ok (.istore_n 3, 1) := by decide +kernel
theorem dX2_findFirst_77 : decode cX2_findFirst 77 = .ok (.iload_n 2, 1) := by decide +kernel
theorem dX2_findFirst_78 : decode cX2_findFirst 78 = .ok (.aload_n 0, 1) := by decide +kernel
theorem dX2_findFirst_79 : decode cX2_findFirst 79 = .ok (.getfield 26, 3) := by decide +kernel
theorem dX2_findFirst_82 : decode cX2_findFirst 82 = .ok (.getfield 76, 3) := by decide +kernel
theorem dX2_findFirst_85 : decode cX2_findFirst 85 = .ok (.iload 5, 2) := by decide +kernel
theorem dX2_findFirst_87 : decode cX2_findFirst 87 = .ok (.invokestatic 82, 3) := by decide +kernel
theorem dX2_findFirst_90 : decode cX2_findFirst 90 = .ok (.iadd, 1) := by decide +kernel
theorem dX2_findFirst_91 : decode cX2_findFirst 91 = .ok (.istore_n 2, 1) := by decide +kernel
theorem dX2_findFirst_92 : decode cX2_findFirst 92 = .ok (.iinc 4 (-1), 3) := by decide +kernel
theorem dX2_findFirst_95 : decode cX2_findFirst 95 = .ok (.goto (-74), 3) := by decide +kernel
theorem dX2_findFirst_98 : decode cX2_findFirst 98 = .ok (.return_, 1) := by decide +kernel
theorem dX2_firstWord_0 : decode cX2_firstWord 0 = .ok (.aload_n 0, 1) := by decide +kernel
theorem dX2_firstWord_1 : decode cX2_firstWord 1 = .ok (.iload_n 1, 1) := by decide +kernel
theorem dX2_firstWord_2 : decode cX2_firstWord 2 = .ok (.iload_n 2, 1) := by decide +kernel
theorem dX2_firstWord_3 : decode cX2_firstWord 3 = .ok (.iload_n 3, 1) := by decide +kernel
theorem dX2_firstWord_4 : decode cX2_firstWord 4 = .ok (.invokevirtual 51, 3) := by decide +kernel
theorem dX2_firstWord_7 : decode cX2_firstWord 7 = .ok (.istore 4, 2) := by decide +kernel
theorem dX2_firstWord_9 : decode cX2_firstWord 9 = .ok (.iload 4, 2) := by decide +kernel
theorem dX2_firstWord_11 : decode cX2_firstWord 11 = .ok (.iconst (-1), 1) := by decide +kernel
theorem dX2_firstWord_12 : decode cX2_firstWord 12 = .ok (.if_icmp .ne 5, 3) := by decide +kernel
theorem dX2_firstWord_15 : decode cX2_firstWord 15 = .ok (.iconst (-1), 1) := by decide +kernel
theorem dX2_firstWord_16 : decode cX2_firstWord 16 = .ok (.ireturn, 1) := by decide +kernel
theorem dX2_firstWord_17 : decode cX2_firstWord 17 = .ok (.iconst 0, 1) := by decide +kernel
theorem dX2_firstWord_18 : decode cX2_firstWord 18 = .ok (.istore 5, 2) := by decide +kernel
theorem dX2_firstWord_20 : decode cX2_firstWord 20 = .ok (.iload 5, 2) := by decide +kernel
theorem dX2_firstWord_22 : decode cX2_firstWord 22 = .ok (.aload_n 0, 1) := by decide +kernel
theorem dX2_firstWord_23 : decode cX2_firstWord 23 = .ok (.getfield 26, 3) := by decide +kernel
theorem dX2_firstWord_26 : decode cX2_firstWord 26 = .ok (.getfield 86, 3) := by decide +kernel
theorem dX2_firstWord_29 : decode cX2_firstWord 29 = .ok (.if_icmp .ge 26, 3) := by decide +kernel
theorem dX2_firstWord_32 : decode cX2_firstWord 32 = .ok (.aload_n 0, 1) := by decide +kernel
theorem dX2_firstWord_33 : decode cX2_firstWord 33 = .ok (.iload 5, 2) := by decide +kernel
theorem dX2_firstWord_35 : decode cX2_firstWord 35 = .ok (.iload_n 1, 1) := by decide +kernel
theorem dX2_firstWord_36 : decode cX2_firstWord 36 = .ok (.iload_n 2, 1) := by decide +kernel
theorem dX2_firstWord_37 : decode cX2_firstWord 37 = .ok (.iload_n 3, 1) := by decide +kernel
theorem dX2_firstWord_38 : decode cX2_firstWord 38 = .ok (.invokevirtual 89, 3) := by decide +kernel
theorem dX2_firstWord_41 : decode cX2_firstWord 41 = .ok (.iload 4, 2) := by decide +kernel
theorem dX2_firstWord_43 : decode cX2_firstWord 43 = .ok (.if_icmp .ne 6, 3) := by decide +kernel
theorem dX2_firstWord_46 : decode cX2_firstWord 46 = .ok (.iload 5, 2) := by decide +kernel
theorem dX2_firstWord_48 : decode cX2_firstWord 48 = .ok (.ireturn, 1) := by decide +kernel
theorem dX2_firstWord_49 : decode cX2_firstWord 49 = .ok (.iinc 5 1, 3) := by decide +kernel
theorem dX2_firstWord_52 : decode cX2_firstWord 52 = .ok (.goto (-32), 3) := by decide +kernel
theorem dX2_firstWord_55 : decode cX2_firstWord 55 = .ok (.iconst (-1), 1) := by decide +kernel
theorem dX2_firstWord_56 : decode cX2_firstWord 56 = .ok (.ireturn, 1) := by decide +kernel
theorem dX2_begin_0 : decode cX2_begin 0 = .ok (.aload_n 0, 1) := by decide +kernel
theorem dX2_begin_1 : decode cX2_begin 1 = .ok (.iload_n 1, 1) := by decide +kernel
theorem dX2_begin_2 : decode cX2_begin 2 = .ok (.putfield 93, 3) := by decide +kernel
theorem dX2_begin_5 : decode cX2_begin 5 = .ok (.aload_n 0, 1) := by decide +kernel
theorem dX2_begin_6 : decode cX2_begin 6 = .ok (.getfield 11, 3) := by decide +kernel
theorem dX2_begin_9 : decode cX2_begin 9 = .ok (.iconst 0, 1) := by decide +kernel
theorem dX2_begin_10 : decode cX2_begin 10 = .ok (.aaload, 1) := by decide +kernel
theorem dX2_begin_11 : decode cX2_begin 11 = .ok (.iconst (-1), 1) := by decide +kernel
theorem dX2_begin_12 : decode cX2_begin 12 = .ok (.invokestatic 97, 3) := by decide +kernel
theorem dX2_begin_15 : decode cX2_begin 15 = .ok (.aload_n 0, 1) := by decide +kernel
theorem dX2_begin_16 : decode cX2_begin 16 = .ok (.getfield 16, 3) := by decide +kernel
theorem dX2_begin_19 : decode cX2_begin 19 = .ok (.iconst 0, 1) := by decide +kernel
theorem dX2_begin_20 : decode cX2_begin 20 = .ok (.aaload, 1) := by decide +kernel
theorem dX2_begin_21 : decode cX2_begin 21 = .ok (.iconst 0, 1) := by decide +kernel
theorem dX2_begin_22 : decode cX2_begin 22 = .ok (.invokestatic 97, 3) := by decide +kernel
theorem dX2_begin_25 : decode cX2_begin 25 = .ok (.iconst 0, 1) := by decide +kernel
theorem dX2_begin_26 : decode cX2_begin 26 = .ok (.istore_n 2, 1) := by decide +kernel
theorem dX2_begin_27 : decode cX2_begin 27 = .ok (.iload_n 2, 1) := by decide +kernel
theorem dX2_begin_28 : decode cX2_begin 28 = .ok (.iconst 2, 1) := by decide +kernel
theorem dX2_begin_29 : decode cX2_begin 29 = .ok (.if_icmp .ge 33, 3) := by decide +kernel
theorem dX2_begin_32 : decode cX2_begin 32 = .ok (.aload_n 0, 1) := by decide +kernel
theorem dX2_begin_33 : decode cX2_begin 33 = .ok (.getfield 11, 3) := by decide +kernel
theorem dX2_begin_36 : decode cX2_begin 36 = .ok (.iconst 0, 1) := by decide +kernel
theorem dX2_begin_37 : decode cX2_begin 37 = .ok (.aaload, 1) := by decide +kernel
theorem dX2_begin_38 : decode cX2_begin 38 = .ok (.iload_n 2, 1) := by decide +kernel
theorem dX2_begin_39 : decode cX2_begin 39 = .ok (.bipush 13, 2) := by decide +kernel
theorem dX2_begin_41 : decode cX2_begin 41 = .ok (.imul, 1) := by decide +kernel
theorem dX2_begin_42 : decode cX2_begin 42 = .ok (.iconst 0, 1) := by decide +kernel
theorem dX2_begin_43 : decode cX2_begin 43 = .ok (.iastore, 1) := by decide +kernel
theorem dX2_begin_44 : decode cX2_begin 44 = .ok (.aload_n 0, 1) := by decide +kernel
theorem dX2_begin_45 : decode cX2_begin 45 = .ok (.getfield 16, 3) := by decide +kernel
theorem dX2_begin_48 : decode cX2_begin 48 = .ok (.iconst 0, 1) := by decide +kernel
theorem dX2_begin_49 : decode cX2_begin 49 = .ok (.aaload, 1) := by decide +kernel
theorem dX2_begin_50 : decode cX2_begin 50 = .ok (.iload_n 2, 1) := by decide +kernel
theorem dX2_begin_51 : decode cX2_begin 51 = .ok (.bipush 13, 2) := by decide +kernel
theorem dX2_begin_53 : decode cX2_begin 53 = .ok (.imul, 1) := by decide +kernel
theorem dX2_begin_54 : decode cX2_begin 54 = .ok (.iconst 1, 1) := by decide +kernel
theorem dX2_begin_55 : decode cX2_begin 55 = .ok (.iastore, 1) := by decide +kernel
theorem dX2_begin_56 : decode cX2_begin 56 = .ok (.iinc 2 1, 3) := by decide +kernel
theorem dX2_begin_59 : decode cX2_begin 59 = .ok (.goto (-32), 3) := by decide +kernel
theorem dX2_begin_62 : decode cX2_begin 62 = .ok (.return_, 1) := by decide +kernel
theorem dX2_fill_0 : decode cX2_fill 0 = .ok (.iload_n 1, 1) := by decide +kernel
theorem dX2_fill_1 : decode cX2_fill 1 = .ok (.iconst 1, 1) := by decide +kernel
theorem dX2_fill_2 : decode cX2_fill 2 = .ok (.if_icmp .lt 9, 3) := by decide +kernel
theorem dX2_fill_5 : decode cX2_fill 5 = .ok (.iload_n 1, 1) := by decide +kernel
theorem dX2_fill_6 : decode cX2_fill 6 = .ok (.bipush 6, 2) := by decide +kernel
theorem dX2_fill_8 : decode cX2_fill 8 = .ok (.if_icmp .le 4, 3) := by decide +kernel
theorem dX2_fill_11 : decode cX2_fill 11 = .ok (.return_, 1) := by decide +kernel
theorem dX2_fill_12 : decode cX2_fill 12 = .ok (.iconst 0, 1) := by decide +kernel
theorem dX2_fill_13 : decode cX2_fill 13 = .ok (.istore_n 2, 1) := by decide +kernel
theorem dX2_fill_14 : decode cX2_fill 14 = .ok (.iload_n 2, 1) := by decide +kernel
theorem dX2_fill_15 : decode cX2_fill 15 = .ok (.bipush 26, 2) := by decide +kernel
theorem dX2_fill_17 : decode cX2_fill 17 = .ok (.if_icmp .ge 123, 3) := by decide +kernel
theorem dX2_fill_20 : decode cX2_fill 20 = .ok (.iconst (-1), 1) := by decide +kernel
theorem dX2_fill_21 : decode cX2_fill 21 = .ok (.istore_n 3, 1) := by decide +kernel
theorem dX2_fill_22 : decode cX2_fill 22 = .ok (.iconst 0, 1) := by decide +kernel
theorem dX2_fill_23 : decode cX2_fill 23 = .ok (.istore 4, 2) := by decide +kernel
theorem dX2_fill_25 : decode cX2_fill 25 = .ok (.iconst 0, 1) := by decide +kernel
theorem dX2_fill_26 : decode cX2_fill 26 = .ok (.istore 5, 2) := by decide +kernel
theorem dX2_fill_28 : decode cX2_fill 28 = .ok (.iload 5, 2) := by decide +kernel
theorem dX2_fill_30 : decode cX2_fill 30 = .ok (.aload_n 0, 1) := by decide +kernel
theorem dX2_fill_31 : decode cX2_fill 31 = .ok (.getfield 26, 3) := by decide +kernel
theorem dX2_fill_34 : decode cX2_fill 34 = .ok (.getfield 86, 3) := by decide +kernel
theorem dX2_fill_37 : decode cX2_fill 37 = .ok (.if_icmp .ge 78, 3) := by decide +kernel
theorem dX2_fill_40 : decode cX2_fill 40 = .ok (.aload_n 0, 1) := by decide +kernel
theorem dX2_fill_41 : decode cX2_fill 41 = .ok (.iload 5, 2) := by decide +kernel
theorem dX2_fill_43 : decode cX2_fill 43 = .ok (.iload_n 1, 1) := by decide +kernel
theorem dX2_fill_44 : decode cX2_fill 44 = .ok (.iload_n 2, 1) := by decide +kernel
theorem dX2_fill_45 : decode cX2_fill 45 = .ok (.bipush 13, 2) := by decide +kernel
theorem dX2_fill_47 : decode cX2_fill 47 = .ok (.idiv, 1) := by decide +kernel
theorem dX2_fill_48 : decode cX2_fill 48 = .ok (.iload_n 2, 1) := by decide +kernel
theorem dX2_fill_49 : decode cX2_fill 49 = .ok (.bipush 13, 2) := by decide +kernel
theorem dX2_fill_51 : decode cX2_fill 51 = .ok (.irem, 1) := by decide +kernel
theorem dX2_fill_52 : decode cX2_fill 52 = .ok (.invokevirtual 89, 3) := by decide +kernel
theorem dX2_fill_55 : decode cX2_fill 55 = .ok (.istore 6, 2) := by decide +kernel
theorem dX2_fill_57 : decode cX2_fill 57 = .ok (.iload 6, 2) := by decide +kernel
theorem dX2_fill_59 : decode cX2_fill 59 = .ok (.iconst (-1), 1) := by decide +kernel
theorem dX2_fill_60 : decode cX2_fill 60 = .ok (.if_icmp .eq 49, 3) := by decide +kernel
theorem dX2_fill_63 : decode cX2_fill 63 = .ok (.iload_n 3, 1) := by decide +kernel
theorem dX2_fill_64 : decode cX2_fill 64 = .ok (.iconst (-1), 1) := by decide +kernel
theorem dX2_fill_65 : decode cX2_fill 65 = .ok (.if_icmp .eq 12, 3) := by decide +kernel
theorem dX2_fill_68 : decode cX2_fill 68 = .ok (.iload 6, 2) := by decide +kernel
theorem dX2_fill_70 : decode cX2_fill 70 = .ok (.iload_n 3, 1) := by decide +kernel
theorem dX2_fill_71 : decode cX2_fill 71 = .ok (.if_icmp .le 6, 3) := by decide +kernel
theorem dX2_fill_74 : decode cX2_fill 74 = .ok (.goto 35, 3) := by decide +kernel
theorem dX2_fill_77 : decode cX2_fill 77 = .ok (.iload 6, 2) := by decide +kernel
theorem dX2_fill_79 : decode cX2_fill 79 = .ok (.iload_n 3, 1) := by decide +kernel
theorem dX2_fill_80 : decode cX2_fill 80 = .ok (.if_icmp .eq 6, 3) := by decide +kernel
theorem dX2_fill_83 : decode cX2_fill 83 = .ok (.iconst 0, 1) := by decide +kernel
theorem dX2_fill_84 : decode cX2_fill 84 = .ok (.istore 4, 2) := by decide +kernel
theorem dX2_fill_86 : decode cX2_fill 86 = .ok (.iload 6, 2) := by decide +kernel
theorem dX2_fill_88 : decode cX2_fill 88 = .ok (.istore_n 3, 1) := by decide +kernel
theorem dX2_fill_89 : decode cX2_fill 89 = .ok (.iload 4, 2) := by decide +kernel
theorem dX2_fill_91 : decode cX2_fill 91 = .ok (.aload_n 0, 1) := by decide +kernel
theorem dX2_fill_92 : decode cX2_fill 92 = .ok (.iload 5, 2) := by decide +kernel
theorem dX2_fill_94 : decode cX2_fill 94 = .ok (.iload_n 1, 1) := by decide +kernel
theorem dX2_fill_95 : decode cX2_fill 95 = .ok (.iload_n 2, 1) := by decide +kernel
theorem dX2_fill_96 : decode cX2_fill 96 = .ok (.bipush 13, 2) := by decide +kernel
theorem dX2_fill_98 : decode cX2_fill 98 = .ok (.idiv, 1) := by decide +kernel
theorem dX2_fill_99 : decode cX2_fill 99 = .ok (.iload_n 2, 1) := by decide +kernel
theorem dX2_fill_100 : decode cX2_fill 100 = .ok (.bipush 13, 2) := by decide +kernel
theorem dX2_fill_102 : decode cX2_fill 102 = .ok (.irem, 1) := by decide +kernel
theorem dX2_fill_103 : decode cX2_fill 103 = .ok (.invokevirtual 102, 3) := by decide +kernel
theorem dX2_fill_106 : decode cX2_fill 106 = .ok (.iadd, 1) := by decide +kernel
theorem dX2_fill_107 : decode cX2_fill 107 = .ok (.istore 4, 2) := by decide +kernel
theorem dX2_fill_109 : decode cX2_fill 109 = .ok (.iinc 5 1, 3) := by decide +kernel
theorem dX2_fill_112 : decode cX2_fill 112 = .ok (.goto (-84), 3) := by decide +kernel
theorem dX2_fill_115 : decode cX2_fill 115 = .ok (.aload_n 0, 1) := by decide +kernel
theorem dX2_fill_116 : decode cX2_fill 116 = .ok (.getfield 11, 3) := by decide +kernel
theorem dX2_fill_119 : decode cX2_fill 119 = .ok (.iload_n 1, 1) := by decide +kernel
theorem dX2_fill_120 : decode cX2_fill 120 = .ok (.aaload, 1) := by decide +kernel
theorem dX2_fill_121 : decode cX2_fill 121 = .ok (.iload_n 2, 1) := by decide +kernel
theorem dX2_fill_122 : decode cX2_fill 122 = .ok (.iload_n 3, 1) := by decide +kernel
theorem dX2_fill_123 : decode cX2_fill 123 = .ok (.iastore, 1) := by decide +kernel
theorem dX2_fill_124 : decode cX2_fill 124 = .ok (.aload_n 0, 1) := by decide +kernel
theorem dX2_fill_125 : decode cX2_fill 125 = .ok (.getfield 16, 3) := by decide +kernel
theorem dX2_fill_128 : decode cX2_fill 128 = .ok (.iload_n 1, 1) := by decide +kernel
theorem dX2_fill_129 : decode cX2_fill 129 = .ok (.aaload, 1) := by decide +kernel
theorem dX2_fill_130 : decode cX2_fill 130 = .ok (.iload_n 2, 1) := by decide +kernel
theorem dX2_fill_131 : decode cX2_fill 131 = .ok (.iload 4, 2) := by decide +kernel
theorem dX2_fill_133 : decode cX2_fill 133 = .ok (.iastore, 1) := by decide +kernel
theorem dX2_fill_134 : decode cX2_fill 134 = .ok (.iinc 2 1, 3) := by decide +kernel
theorem dX2_fill_137 : decode cX2_fill 137 = .ok (.goto (-123), 3) := by decide +kernel
theorem dX2_fill_140 : decode cX2_fill 140 = .ok (.return_, 1) := by decide +kernel
theorem dX2_leastWith_0 : decode cX2_leastWith 0 = .ok (.aload_n 0, 1) := by decide +kernel
theorem dX2_leastWith_1 : decode cX2_leastWith 1 = .ok (.getfield 30, 3) := by decide +kernel
theorem dX2_leastWith_4 : decode cX2_leastWith 4 = .ok (.iload_n 1, 1) := by decide +kernel
theorem dX2_leastWith_5 : decode cX2_leastWith 5 = .ok (.iload_n 3, 1) := by decide +kernel
theorem dX2_leastWith_6 : decode cX2_leastWith 6 = .ok (.iload_n 2, 1) := by decide +kernel
theorem dX2_leastWith_7 : decode cX2_leastWith 7 = .ok (.iconst 1, 1) := by decide +kernel
theorem dX2_leastWith_8 : decode cX2_leastWith 8 = .ok (.if_icmp .ne 7, 3) := by decide +kernel
theorem dX2_leastWith_11 : decode cX2_leastWith 11 = .ok (.iconst 1, 1) := by decide +kernel
theorem dX2_leastWith_12 : decode cX2_leastWith 12 = .ok (.goto 4, 3) := by decide +kernel
theorem dX2_leastWith_15 : decode cX2_leastWith 15 = .ok (.iconst 0, 1) := by decide +kernel
theorem dX2_leastWith_16 : decode cX2_leastWith 16 = .ok (.invokevirtual 105, 3) := by decide +kernel
theorem dX2_leastWith_19 : decode cX2_leastWith 19 = .ok (.ifCond .ne 5, 3) := by decide +kernel
theorem dX2_leastWith_22 : decode cX2_leastWith 22 = .ok (.iconst (-1), 1) := by decide +kernel
theorem dX2_leastWith_23 : decode cX2_leastWith 23 = .ok (.ireturn, 1) := by decide +kernel
theorem dX2_leastWith_24 : decode cX2_leastWith 24 = .ok (.aload_n 0, 1) := by decide +kernel
theorem dX2_leastWith_25 : decode cX2_leastWith 25 = .ok (.iload_n 2, 1) := by decide +kernel
theorem dX2_leastWith_26 : decode cX2_leastWith 26 = .ok (.iconst 1, 1) := by decide +kernel
theorem dX2_leastWith_27 : decode cX2_leastWith 27 = .ok (.isub, 1) := by decide +kernel
theorem dX2_leastWith_28 : decode cX2_leastWith 28 = .ok (.iload_n 3, 1) := by decide +kernel
theorem dX2_leastWith_29 : decode cX2_leastWith 29 = .ok (.aload_n 0, 1) := by decide +kernel
theorem dX2_leastWith_30 : decode cX2_leastWith 30 = .ok (.getfield 26, 3) := by decide +kernel
theorem dX2_leastWith_33 : decode cX2_leastWith 33 = .ok (.getfield 76, 3) := by decide +kernel
theorem dX2_leastWith_36 : decode cX2_leastWith 36 = .ok (.iload_n 1, 1) := by decide +kernel
theorem dX2_leastWith_37 : decode cX2_leastWith 37 = .ok (.invokestatic 82, 3) := by decide +kernel
theorem dX2_leastWith_40 : decode cX2_leastWith 40 = .ok (.iadd, 1) := by decide +kernel
theorem dX2_leastWith_41 : decode cX2_leastWith 41 = .ok (.iload 4, 2) := by decide +kernel
theorem dX2_leastWith_43 : decode cX2_leastWith 43 = .ok (.aload_n 0, 1) := by decide +kernel
theorem dX2_leastWith_44 : decode cX2_leastWith 44 = .ok (.getfield 30, 3) := by decide +kernel
theorem dX2_leastWith_47 : decode cX2_leastWith 47 = .ok (.iload_n 1, 1) := by decide +kernel
theorem dX2_leastWith_48 : decode cX2_leastWith 48 = .ok (.iload_n 2, 1) := by decide +kernel
theorem dX2_leastWith_49 : decode cX2_leastWith 49 = .ok (.iconst 1, 1) := by decide +kernel
theorem dX2_leastWith_50 : decode cX2_leastWith 50 = .ok (.if_icmp .ne 7, 3) := by decide +kernel
theorem dX2_leastWith_53 : decode cX2_leastWith 53 = .ok (.iconst 1, 1) := by decide +kernel
theorem dX2_leastWith_54 : decode cX2_leastWith 54 = .ok (.goto 4, 3) := by decide +kernel
theorem dX2_leastWith_57 : decode cX2_leastWith 57 = .ok (.iconst 0, 1) := by decide +kernel
theorem dX2_leastWith_58 : decode cX2_leastWith 58 = .ok (.invokevirtual 72, 3) := by decide +kernel
theorem dX2_leastWith_61 : decode cX2_leastWith 61 = .ok (.isub, 1) := by decide +kernel
theorem dX2_leastWith_62 : decode cX2_leastWith 62 = .ok (.invokevirtual 51, 3) := by decide +kernel
theorem dX2_leastWith_65 : decode cX2_leastWith 65 = .ok (.istore 5, 2) := by decide +kernel
theorem dX2_leastWith_67 : decode cX2_leastWith 67 = .ok (.iload 5, 2) := by decide +kernel
theorem dX2_leastWith_69 : decode cX2_leastWith 69 = .ok (.iconst (-1), 1) := by decide +kernel
theorem dX2_leastWith_70 : decode cX2_leastWith 70 = .ok (.if_icmp .ne 5, 3) := by decide +kernel
theorem dX2_leastWith_73 : decode cX2_leastWith 73 = .ok (.iconst (-1), 1) := by decide +kernel
theorem dX2_leastWith_74 : decode cX2_leastWith 74 = .ok (.ireturn, 1) := by decide +kernel
theorem dX2_leastWith_75 : decode cX2_leastWith 75 = .ok (.aload_n 0, 1) := by decide +kernel
theorem dX2_leastWith_76 : decode cX2_leastWith 76 = .ok (.getfield 93, 3) := by decide +kernel
theorem dX2_leastWith_79 : decode cX2_leastWith 79 = .ok (.ifCond .eq 30, 3) := by decide +kernel
theorem dX2_leastWith_82 : decode cX2_leastWith 82 = .ok (.aload_n 0, 1) := by decide +kernel
theorem dX2_leastWith_83 : decode cX2_leastWith 83 = .ok (.getfield 34, 3) := by decide +kernel
theorem dX2_leastWith_86 : decode cX2_leastWith 86 = .ok (.aload_n 0, 1) := by decide +kernel
theorem dX2_leastWith_87 : decode cX2_leastWith 87 = .ok (.getfield 34, 3) := by decide +kernel
theorem dX2_leastWith_90 : decode cX2_leastWith 90 = .ok (.getfield 58, 3) := by decide +kernel
theorem dX2_leastWith_93 : decode cX2_leastWith 93 = .ok (.iload_n 2, 1) := by decide +kernel
theorem dX2_leastWith_94 : decode cX2_leastWith 94 = .ok (.isub, 1) := by decide +kernel
theorem dX2_leastWith_95 : decode cX2_leastWith 95 = .ok (.invokevirtual 109, 3) := by decide +kernel
theorem dX2_leastWith_98 : decode cX2_leastWith 98 = .ok (.iload_n 1, 1) := by decide +kernel
theorem dX2_leastWith_99 : decode cX2_leastWith 99 = .ok (.if_icmp .eq 10, 3) := by decide +kernel
theorem dX2_leastWith_102 : decode cX2_leastWith 102 = .ok (.iload 5, 2) := by decide +kernel
theorem dX2_leastWith_104 : decode cX2_leastWith 104 = .ok (.iconst 1, 1) := by decide +kernel
theorem dX2_leastWith_105 : decode cX2_leastWith 105 = .ok (.iadd, 1) := by decide +kernel
theorem dX2_leastWith_106 : decode cX2_leastWith 106 = .ok (.goto 5, 3) := by decide +kernel
theorem dX2_leastWith_109 : decode cX2_leastWith 109 = .ok (.iload 5, 2) := by decide +kernel
theorem dX2_leastWith_111 : decode cX2_leastWith 111 = .ok (.ireturn, 1) := by decide +kernel
theorem dX2_manyWith_0 : decode cX2_manyWith 0 = .ok (.aload_n 0, 1) := by decide +kernel
theorem dX2_manyWith_1 : decode cX2_manyWith 1 = .ok (.iload_n 2, 1) := by decide +kernel
theorem dX2_manyWith_2 : decode cX2_manyWith 2 = .ok (.iconst 1, 1) := by decide +kernel
theorem dX2_manyWith_3 : decode cX2_manyWith 3 = .ok (.isub, 1) := by decide +kernel
theorem dX2_manyWith_4 : decode cX2_manyWith 4 = .ok (.iload_n 3, 1) := by decide +kernel
theorem dX2_manyWith_5 : decode cX2_manyWith 5 = .ok (.aload_n 0, 1) := by decide +kernel
theorem dX2_manyWith_6 : decode cX2_manyWith 6 = .ok (.getfield 26, 3) := by decide +kernel
theorem dX2_manyWith_9 : decode cX2_manyWith 9 = .ok (.getfield 76, 3) := by decide +kernel
theorem dX2_manyWith_12 : decode cX2_manyWith 12 = .ok (.iload_n 1, 1) := by decide +kernel
theorem dX2_manyWith_13 : decode cX2_manyWith 13 = .ok (.invokestatic 82, 3) := by decide +kernel
theorem dX2_manyWith_16 : decode cX2_manyWith 16 = .ok (.iadd, 1) := by decide +kernel
theorem dX2_manyWith_17 : decode cX2_manyWith 17 = .ok (.iload 4, 2) := by decide +kernel
theorem dX2_manyWith_19 : decode cX2_manyWith 19 = .ok (.aload_n 0, 1) := by decide +kernel
theorem dX2_manyWith_20 : decode cX2_manyWith 20 = .ok (.getfield 30, 3) := by decide +kernel
theorem dX2_manyWith_23 : decode cX2_manyWith 23 = .ok (.iload_n 1, 1) := by decide +kernel
theorem dX2_manyWith_24 : decode cX2_manyWith 24 = .ok (.iload_n 2, 1) := by decide +kernel
theorem dX2_manyWith_25 : decode cX2_manyWith 25 = .ok (.iconst 1, 1) := by decide +kernel
theorem dX2_manyWith_26 : decode cX2_manyWith 26 = .ok (.if_icmp .ne 7, 3) := by decide +kernel
theorem dX2_manyWith_29 : decode cX2_manyWith 29 = .ok (.iconst 1, 1) := by decide +kernel
theorem dX2_manyWith_30 : decode cX2_manyWith 30 = .ok (.goto 4, 3) := by decide +kernel
theorem dX2_manyWith_33 : decode cX2_manyWith 33 = .ok (.iconst 0, 1) := by decide +kernel
theorem dX2_manyWith_34 : decode cX2_manyWith 34 = .ok (.invokevirtual 72, 3) := by decide +kernel
theorem dX2_manyWith_37 : decode cX2_manyWith 37 = .ok (.isub, 1) := by decide +kernel
theorem dX2_manyWith_38 : decode cX2_manyWith 38 = .ok (.invokevirtual 55, 3) := by decide +kernel
theorem dX2_manyWith_41 : decode cX2_manyWith 41 = .ok (.ireturn, 1) := by decide +kernel
theorem dX2_leastAt_0 : decode cX2_leastAt 0 = .ok (.iload_n 1, 1) := by decide +kernel
theorem dX2_leastAt_1 : decode cX2_leastAt 1 = .ok (.iload_n 3, 1) := by decide +kernel
theorem dX2_leastAt_2 : decode cX2_leastAt 2 = .ok (.invokestatic 112, 3) := by decide +kernel
theorem dX2_leastAt_5 : decode cX2_leastAt 5 = .ok (.ifCond .eq 21, 3) := by decide +kernel
theorem dX2_leastAt_8 : decode cX2_leastAt 8 = .ok (.aload_n 0, 1) := by decide +kernel
theorem dX2_leastAt_9 : decode cX2_leastAt 9 = .ok (.getfield 11, 3) := by decide +kernel
theorem dX2_leastAt_12 : decode cX2_leastAt 12 = .ok (.iload_n 1, 1) := by decide +kernel
theorem dX2_leastAt_13 : decode cX2_leastAt 13 = .ok (.aaload, 1) := by decide +kernel
theorem dX2_leastAt_14 : decode cX2_leastAt 14 = .ok (.iload_n 2, 1) := by decide +kernel
theorem dX2_leastAt_15 : decode cX2_leastAt 15 = .ok (.iconst 1, 1) := by decide +kernel
theorem dX2_leastAt_16 : decode cX2_leastAt 16 = .ok (.iand, 1) := by decide +kernel
theorem dX2_leastAt_17 : decode cX2_leastAt 17 = .ok (.bipush 13, 2) := by decide +kernel
theorem dX2_leastAt_19 : decode cX2_leastAt 19 = .ok (.imul, 1) := by decide +kernel
theorem dX2_leastAt_20 : decode cX2_leastAt 20 = .ok (.iload_n 3, 1) := by decide +kernel
theorem dX2_leastAt_21 : decode cX2_leastAt 21 = .ok (.iadd, 1) := by decide +kernel
theorem dX2_leastAt_22 : decode cX2_leastAt 22 = .ok (.iaload, 1) := by decide +kernel
theorem dX2_leastAt_23 : decode cX2_leastAt 23 = .ok (.goto 4, 3) := by decide +kernel
theorem dX2_leastAt_26 : decode cX2_leastAt 26 = .ok (.iconst (-1), 1) := by decide +kernel
theorem dX2_leastAt_27 : decode cX2_leastAt 27 = .ok (.ireturn, 1) := by decide +kernel
theorem dX2_manyAt_0 : decode cX2_manyAt 0 = .ok (.iload_n 1, 1) := by decide +kernel
theorem dX2_manyAt_1 : decode cX2_manyAt 1 = .ok (.iload_n 3, 1) := by decide +kernel
theorem dX2_manyAt_2 : decode cX2_manyAt 2 = .ok (.invokestatic 112, 3) := by decide +kernel
theorem dX2_manyAt_5 : decode cX2_manyAt 5 = .ok (.ifCond .eq 21, 3) := by decide +kernel
theorem dX2_manyAt_8 : decode cX2_manyAt 8 = .ok (.aload_n 0, 1) := by decide +kernel
theorem dX2_manyAt_9 : decode cX2_manyAt 9 = .ok (.getfield 16, 3) := by decide +kernel
theorem dX2_manyAt_12 : decode cX2_manyAt 12 = .ok (.iload_n 1, 1) := by decide +kernel
theorem dX2_manyAt_13 : decode cX2_manyAt 13 = .ok (.aaload, 1) := by decide +kernel
theorem dX2_manyAt_14 : decode cX2_manyAt 14 = .ok (.iload_n 2, 1) := by decide +kernel
theorem dX2_manyAt_15 : decode cX2_manyAt 15 = .ok (.iconst 1, 1) := by decide +kernel
theorem dX2_manyAt_16 : decode cX2_manyAt 16 = .ok (.iand, 1) := by decide +kernel
theorem dX2_manyAt_17 : decode cX2_manyAt 17 = .ok (.bipush 13, 2) := by decide +kernel
theorem dX2_manyAt_19 : decode cX2_manyAt 19 = .ok (.imul, 1) := by decide +kernel
theorem dX2_manyAt_20 : decode cX2_manyAt 20 = .ok (.iload_n 3, 1) := by decide +kernel
theorem dX2_manyAt_21 : decode cX2_manyAt 21 = .ok (.iadd, 1) := by decide +kernel
theorem dX2_manyAt_22 : decode cX2_manyAt 22 = .ok (.iaload, 1) := by decide +kernel
theorem dX2_manyAt_23 : decode cX2_manyAt 23 = .ok (.goto 4, 3) := by decide +kernel
theorem dX2_manyAt_26 : decode cX2_manyAt 26 = .ok (.iconst 0, 1) := by decide +kernel
theorem dX2_manyAt_27 : decode cX2_manyAt 27 = .ok (.ireturn, 1) := by decide +kernel
theorem dX2_isPlace_0 : decode cX2_isPlace 0 = .ok (.iload_n 0, 1) := by decide +kernel
theorem dX2_isPlace_1 : decode cX2_isPlace 1 = .ok (.ifCond .lt 23, 3) := by decide +kernel
theorem dX2_isPlace_4 : decode cX2_isPlace 4 = .ok (.iload_n 0, 1) := by decide +kernel
theorem dX2_isPlace_5 : decode cX2_isPlace 5 = .ok (.bipush 6, 2) := by decide +kernel
theorem dX2_isPlace_7 : decode cX2_isPlace 7 = .ok (.if_icmp .gt 17, 3) := by decide +kernel
theorem dX2_isPlace_10 : decode cX2_isPlace 10 = .ok (.iload_n 1, 1) := by decide +kernel
theorem dX2_isPlace_11 : decode cX2_isPlace 11 = .ok (.ifCond .lt 13, 3) := by decide +kernel
theorem dX2_isPlace_14 : decode cX2_isPlace 14 = .ok (.iload_n 1, 1) := by decide +kernel
theorem dX2_isPlace_15 : decode cX2_isPlace 15 = .ok (.bipush 13, 2) := by decide +kernel
theorem dX2_isPlace_17 : decode cX2_isPlace 17 = .ok (.if_icmp .ge 7, 3) := by decide +kernel
theorem dX2_isPlace_20 : decode cX2_isPlace 20 = .ok (.iconst 1, 1) := by decide +kernel
theorem dX2_isPlace_21 : decode cX2_isPlace 21 = .ok (.goto 4, 3) := by decide +kernel
theorem dX2_isPlace_24 : decode cX2_isPlace 24 = .ok (.iconst 0, 1) := by decide +kernel
theorem dX2_isPlace_25 : decode cX2_isPlace 25 = .ok (.ireturn, 1) := by decide +kernel
theorem dX3_init_0 : decode cX3_init 0 = .ok (.aload_n 0, 1) := by decide +kernel
theorem dX3_init_1 : decode cX3_init 1 = .ok (.invokespecial 3, 3) := by decide +kernel
theorem dX3_init_4 : decode cX3_init 4 = .ok (.aload_n 0, 1) := by decide +kernel
theorem dX3_init_5 : decode cX3_init 5 = .ok (.iconst 5, 1) := by decide +kernel
theorem dX3_init_6 : decode cX3_init 6 = .ok (.iconst 2, 1) := by decide +kernel
theorem dX3_init_7 : decode cX3_init 7 = .ok (.multianewarray 9 2, 4) := by decide +kernel
theorem dX3_init_11 : decode cX3_init 11 = .ok (.putfield 11, 3) := by decide +kernel
theorem dX3_init_14 : decode cX3_init 14 = .ok (.aload_n 0, 1) := by decide +kernel
theorem dX3_init_15 : decode cX3_init 15 = .ok (.aload_n 1, 1) := by decide +kernel
theorem dX3_init_16 : decode cX3_init 16 = .ok (.putfield 16, 3) := by decide +kernel
theorem dX3_init_19 : decode cX3_init 19 = .ok (.return_, 1) := by decide +kernel
theorem dX3_most_0 : decode cX3_most 0 = .ok (.iconst 1, 1) := by decide +kernel
theorem dX3_most_1 : decode cX3_most 1 = .ok (.istore_n 2, 1) := by decide +kernel
theorem dX3_most_2 : decode cX3_most 2 = .ok (.iload_n 2, 1) := by decide +kernel
theorem dX3_most_3 : decode cX3_most 3 = .ok (.iload_n 1, 1) := by decide +kernel
theorem dX3_most_4 : decode cX3_most 4 = .ok (.if_icmp .gt 42, 3) := by decide +kernel
theorem dX3_most_7 : decode cX3_most 7 = .ok (.iload_n 2, 1) := by decide +kernel
theorem dX3_most_8 : decode cX3_most 8 = .ok (.iconst 4, 1) := by decide +kernel
theorem dX3_most_9 : decode cX3_most 9 = .ok (.if_icmp .gt 37, 3) := by decide +kernel
theorem dX3_most_12 : decode cX3_most 12 = .ok (.aload_n 0, 1) := by decide +kernel
theorem dX3_most_13 : decode cX3_most 13 = .ok (.getfield 11, 3) := by decide +kernel
theorem dX3_most_16 : decode cX3_most 16 = .ok (.iload_n 2, 1) := by decide +kernel
theorem dX3_most_17 : decode cX3_most 17 = .ok (.aaload, 1) := by decide +kernel
theorem dX3_most_18 : decode cX3_most 18 = .ok (.iconst 0, 1) := by decide +kernel
theorem dX3_most_19 : decode cX3_most 19 = .ok (.aload_n 0, 1) := by decide +kernel
theorem dX3_most_20 : decode cX3_most 20 = .ok (.iload_n 2, 1) := by decide +kernel
theorem dX3_most_21 : decode cX3_most 21 = .ok (.iconst 0, 1) := by decide +kernel
theorem dX3_most_22 : decode cX3_most 22 = .ok (.invokevirtual 20, 3) := by decide +kernel
theorem dX3_most_25 : decode cX3_most 25 = .ok (.iastore, 1) := by decide +kernel
theorem dX3_most_26 : decode cX3_most 26 = .ok (.aload_n 0, 1) := by decide +kernel
theorem dX3_most_27 : decode cX3_most 27 = .ok (.getfield 11, 3) := by decide +kernel
theorem dX3_most_30 : decode cX3_most 30 = .ok (.iload_n 2, 1) := by decide +kernel
theorem dX3_most_31 : decode cX3_most 31 = .ok (.aaload, 1) := by decide +kernel
theorem dX3_most_32 : decode cX3_most 32 = .ok (.iconst 1, 1) := by decide +kernel
theorem dX3_most_33 : decode cX3_most 33 = .ok (.aload_n 0, 1) := by decide +kernel
theorem dX3_most_34 : decode cX3_most 34 = .ok (.iload_n 2, 1) := by decide +kernel
theorem dX3_most_35 : decode cX3_most 35 = .ok (.iconst 1, 1) := by decide +kernel
theorem dX3_most_36 : decode cX3_most 36 = .ok (.invokevirtual 20, 3) := by decide +kernel
theorem dX3_most_39 : decode cX3_most 39 = .ok (.iastore, 1) := by decide +kernel
theorem dX3_most_40 : decode cX3_most 40 = .ok (.iinc 2 1, 3) := by decide +kernel
theorem dX3_most_43 : decode cX3_most 43 = .ok (.goto (-41), 3) := by decide +kernel
theorem dX3_most_46 : decode cX3_most 46 = .ok (.iload_n 1, 1) := by decide +kernel
theorem dX3_most_47 : decode cX3_most 47 = .ok (.ifCond .lt 19, 3) := by decide +kernel
theorem dX3_most_50 : decode cX3_most 50 = .ok (.iload_n 1, 1) := by decide +kernel
theorem dX3_most_51 : decode cX3_most 51 = .ok (.iconst 4, 1) := by decide +kernel
theorem dX3_most_52 : decode cX3_most 52 = .ok (.if_icmp .gt 14, 3) := by decide +kernel
theorem dX3_most_55 : decode cX3_most 55 = .ok (.aload_n 0, 1) := by decide +kernel
theorem dX3_most_56 : decode cX3_most 56 = .ok (.getfield 11, 3) := by decide +kernel
theorem dX3_most_59 : decode cX3_most 59 = .ok (.iload_n 1, 1) := by decide +kernel
theorem dX3_most_60 : decode cX3_most 60 = .ok (.aaload, 1) := by decide +kernel
theorem dX3_most_61 : decode cX3_most 61 = .ok (.iconst 0, 1) := by decide +kernel
theorem dX3_most_62 : decode cX3_most 62 = .ok (.iaload, 1) := by decide +kernel
theorem dX3_most_63 : decode cX3_most 63 = .ok (.goto 4, 3) := by decide +kernel
theorem dX3_most_66 : decode cX3_most 66 = .ok (.iconst (-1), 1) := by decide +kernel
theorem dX3_most_67 : decode cX3_most 67 = .ok (.ireturn, 1) := by decide +kernel
theorem dX3_mostBehind_0 : decode cX3_mostBehind 0 = .ok (.iload_n 1, 1) := by decide +kernel
theorem dX3_mostBehind_1 : decode cX3_mostBehind 1 = .ok (.iconst 1, 1) := by decide +kernel
theorem dX3_mostBehind_2 : decode cX3_mostBehind 2 = .ok (.if_icmp .lt 8, 3) := by decide +kernel
theorem dX3_mostBehind_5 : decode cX3_mostBehind 5 = .ok (.iload_n 1, 1) := by decide +kernel
theorem dX3_mostBehind_6 : decode cX3_mostBehind 6 = .ok (.iconst 4, 1) := by decide +kernel
theorem dX3_mostBehind_7 : decode cX3_mostBehind 7 = .ok (.if_icmp .le 5, 3) := by decide +kernel
theorem dX3_mostBehind_10 : decode cX3_mostBehind 10 = .ok (.iconst (-1), 1) := by decide +kernel
theorem dX3_mostBehind_11 : decode cX3_mostBehind 11 = .ok (.ireturn, 1) := by decide +kernel
theorem dX3_mostBehind_12 : decode cX3_mostBehind 12 = .ok (.iconst (-1), 1) := by decide +kernel
theorem dX3_mostBehind_13 : decode cX3_mostBehind 13 = .ok (.istore_n 3, 1) := by decide +kernel
theorem dX3_mostBehind_14 : decode cX3_mostBehind 14 = .ok (.iconst 0, 1) := by decide +kernel
theorem dX3_mostBehind_15 : decode cX3_mostBehind 15 = .ok (.istore 4, 2) := by decide +kernel
theorem dX3_mostBehind_17 : decode cX3_mostBehind 17 = .ok (.iload 4, 2) := by decide +kernel
theorem dX3_mostBehind_19 : decode cX3_mostBehind 19 = .ok (.aload_n 0, 1) := by decide +kernel
theorem dX3_mostBehind_20 : decode cX3_mostBehind 20 = .ok (.getfield 16, 3) := by decide +kernel
theorem dX3_mostBehind_23 : decode cX3_mostBehind 23 = .ok (.getfield 24, 3) := by decide +kernel
theorem dX3_mostBehind_26 : decode cX3_mostBehind 26 = .ok (.if_icmp .ge 108, 3) := by decide +kernel
theorem dX3_mostBehind_29 : decode cX3_mostBehind 29 = .ok (.aload_n 0, 1) := by decide +kernel
theorem dX3_mostBehind_30 : decode cX3_mostBehind 30 = .ok (.getfield 16, 3) := by decide +kernel
theorem dX3_mostBehind_33 : decode cX3_mostBehind 33 = .ok (.iload 4, 2) := by decide +kernel
theorem dX3_mostBehind_35 : decode cX3_mostBehind 35 = .ok (.iload_n 2, 1) := by decide +kernel
theorem dX3_mostBehind_36 : decode cX3_mostBehind 36 = .ok (.invokevirtual 30, 3) := by decide +kernel
theorem dX3_mostBehind_39 : decode cX3_mostBehind 39 = .ok (.ifCond .ne 6, 3) := by decide +kernel
theorem dX3_mostBehind_42 : decode cX3_mostBehind 42 = .ok (.goto 86, 3) := by decide +kernel
theorem dX3_mostBehind_45 : decode cX3_mostBehind 45 = .ok (.aload_n 0, 1) := by decide +kernel
theorem dX3_mostBehind_46 : decode cX3_mostBehind 46 = .ok (.getfield 11, 3) := by decide +kernel
theorem dX3_mostBehind_49 : decode cX3_mostBehind 49 = .ok (.iload_n 1, 1) := by decide +kernel
theorem dX3_mostBehind_50 : decode cX3_mostBehind 50 = .ok (.iconst 1, 1) := by decide +kernel
theorem dX3_mostBehind_51 : decode cX3_mostBehind 51 = .ok (.isub, 1) := by decide +kernel
theorem dX3_mostBehind_52 : decode cX3_mostBehind 52 = .ok (.aaload, 1) := by decide +kernel
theorem dX3_mostBehind_53 : decode cX3_mostBehind 53 = .ok (.iload_n 2, 1) := by decide +kernel
theorem dX3_mostBehind_54 : decode cX3_mostBehind 54 = .ok (.aload_n 0, 1) := by decide +kernel
theorem dX3_mostBehind_55 : decode cX3_mostBehind 55 = .ok (.getfield 16, 3) := by decide +kernel
theorem dX3_mostBehind_58 : decode cX3_mostBehind 58 = .ok (.getfield 34, 3) := by decide +kernel
theorem dX3_mostBehind_61 : decode cX3_mostBehind 61 = .ok (.iload 4, 2) := by decide +kernel
theorem dX3_mostBehind_63 : decode cX3_mostBehind 63 = .ok (.invokestatic 38, 3) := by decide +kernel
theorem dX3_mostBehind_66 : decode cX3_mostBehind 66 = .ok (.iadd, 1) := by decide +kernel
theorem dX3_mostBehind_67 : decode cX3_mostBehind 67 = .ok (.iconst 1, 1) := by decide +kernel
theorem dX3_mostBehind_68 : decode cX3_mostBehind 68 = .ok (.iand, 1) := by decide +kernel
theorem dX3_mostBehind_69 : decode cX3_mostBehind 69 = .ok (.iaload, 1) := by decide +kernel
theorem dX3_mostBehind_70 : decode cX3_mostBehind 70 = .ok (.istore 5, 2) := by decide +kernel
theorem dX3_mostBehind_72 : decode cX3_mostBehind 72 = .ok (.iload 5, 2) := by decide +kernel
theorem dX3_mostBehind_74 : decode cX3_mostBehind 74 = .ok (.iconst (-1), 1) := by decide +kernel
theorem dX3_mostBehind_75 : decode cX3_mostBehind 75 = .ok (.if_icmp .ne 6, 3) := by decide +kernel
theorem dX3_mostBehind_78 : decode cX3_mostBehind 78 = .ok (.goto 50, 3) := by decide +kernel
theorem dX3_mostBehind_81 : decode cX3_mostBehind 81 = .ok (.iload_n 1, 1) := by decide +kernel
theorem dX3_mostBehind_82 : decode cX3_mostBehind 82 = .ok (.iconst 1, 1) := by decide +kernel
theorem dX3_mostBehind_83 : decode cX3_mostBehind 83 = .ok (.if_icmp .le 23, 3) := by decide +kernel
theorem dX3_mostBehind_86 : decode cX3_mostBehind 86 = .ok (.aload_n 0, 1) := by decide +kernel
theorem dX3_mostBehind_87 : decode cX3_mostBehind 87 = .ok (.getfield 16, 3) := by decide +kernel
theorem dX3_mostBehind_90 : decode cX3_mostBehind 90 = .ok (.getfield 42, 3) := by decide +kernel
theorem dX3_mostBehind_93 : decode cX3_mostBehind 93 = .ok (.iload 4, 2) := by decide +kernel
theorem dX3_mostBehind_95 : decode cX3_mostBehind 95 = .ok (.invokestatic 38, 3) := by decide +kernel
theorem dX3_mostBehind_98 : decode cX3_mostBehind 98 = .ok (.iconst 1, 1) := by decide +kernel
theorem dX3_mostBehind_99 : decode cX3_mostBehind 99 = .ok (.if_icmp .ne 7, 3) := by decide +kernel
theorem dX3_mostBehind_102 : decode cX3_mostBehind 102 = .ok (.iconst 1, 1) := by decide +kernel
theorem dX3_mostBehind_103 : decode cX3_mostBehind 103 = .ok (.goto 4, 3) := by decide +kernel
theorem dX3_mostBehind_106 : decode cX3_mostBehind 106 = .ok (.iconst 0, 1) := by decide +kernel
theorem dX3_mostBehind_107 : decode cX3_mostBehind 107 = .ok (.istore 6, 2) := by decide +kernel
theorem dX3_mostBehind_109 : decode cX3_mostBehind 109 = .ok (.iload_n 3, 1) := by decide +kernel
theorem dX3_mostBehind_110 : decode cX3_mostBehind 110 = .ok (.iload 6, 2) := by decide +kernel
theorem dX3_mostBehind_112 : decode cX3_mostBehind 112 = .ok (.ifCond .eq 10, 3) := by decide +kernel
theorem dX3_mostBehind_115 : decode cX3_mostBehind 115 = .ok (.iload 5, 2) := by decide +kernel
theorem dX3_mostBehind_117 : decode cX3_mostBehind 117 = .ok (.iconst 1, 1) := by decide +kernel
theorem dX3_mostBehind_118 : decode cX3_mostBehind 118 = .ok (.iadd, 1) := by decide +kernel
theorem dX3_mostBehind_119 : decode cX3_mostBehind 119 = .ok (.goto 5, 3) := by decide +kernel
theorem dX3_mostBehind_122 : decode cX3_mostBehind 122 = .ok (.iload 5, 2) := by decide +kernel
theorem dX3_mostBehind_124 : decode cX3_mostBehind 124 = .ok (.invokestatic 45, 3) := by decide +kernel
theorem dX3_mostBehind_127 : decode cX3_mostBehind 127 = .ok (.istore_n 3, 1) := by decide +kernel
theorem dX3_mostBehind_128 : decode cX3_mostBehind 128 = .ok (.iinc 4 1, 3) := by decide +kernel
theorem dX3_mostBehind_131 : decode cX3_mostBehind 131 = .ok (.goto (-114), 3) := by decide +kernel
theorem dX3_mostBehind_134 : decode cX3_mostBehind 134 = .ok (.iload_n 3, 1) := by decide +kernel
theorem dX3_mostBehind_135 : decode cX3_mostBehind 135 = .ok (.ireturn, 1) := by decide +kernel
theorem dX4_init_0 : decode cX4_init 0 = .ok (.aload_n 0, 1) := by decide +kernel
theorem dX4_init_1 : decode cX4_init 1 = .ok (.invokespecial 3, 3) := by decide +kernel
theorem dX4_init_4 : decode cX4_init 4 = .ok (.aload_n 0, 1) := by decide +kernel
theorem dX4_init_5 : decode cX4_init 5 = .ok (.bipush 6, 2) := by decide +kernel
theorem dX4_init_7 : decode cX4_init 7 = .ok (.newarray .int, 2) := by decide +kernel
theorem dX4_init_9 : decode cX4_init 9 = .ok (.putfield 9, 3) := by decide +kernel
theorem dX4_init_12 : decode cX4_init 12 = .ok (.return_, 1) := by decide +kernel
theorem dX4_add_0 : decode cX4_add 0 = .ok (.aload_n 0, 1) := by decide +kernel
theorem dX4_add_1 : decode cX4_add 1 = .ok (.getfield 15, 3) := by decide +kernel
theorem dX4_add_4 : decode cX4_add 4 = .ok (.bipush 6, 2) := by decide +kernel
theorem dX4_add_6 : decode cX4_add 6 = .ok (.if_icmp .ge 23, 3) := by decide +kernel
theorem dX4_add_9 : decode cX4_add 9 = .ok (.aload_n 0, 1) := by decide +kernel
theorem dX4_add_10 : decode cX4_add 10 = .ok (.getfield 9, 3) := by decide +kernel
theorem dX4_add_13 : decode cX4_add 13 = .ok (.aload_n 0, 1) := by decide +kernel
theorem dX4_add_14 : decode cX4_add 14 = .ok (.getfield 15, 3) := by decide +kernel
theorem dX4_add_17 : decode cX4_add 17 = .ok (.iload_n 1, 1) := by decide +kernel
theorem dX4_add_18 : decode cX4_add 18 = .ok (.iastore, 1) := by decide +kernel
theorem dX4_add_19 : decode cX4_add 19 = .ok (.aload_n 0, 1) := by decide +kernel
theorem dX4_add_20 : decode cX4_add 20 = .ok (.dup, 1) := by decide +kernel
theorem dX4_add_21 : decode cX4_add 21 = .ok (.getfield 15, 3) := by decide +kernel
theorem dX4_add_24 : decode cX4_add 24 = .ok (.iconst 1, 1) := by decide +kernel
theorem dX4_add_25 : decode cX4_add 25 = .ok (.iadd, 1) := by decide +kernel
theorem dX4_add_26 : decode cX4_add 26 = .ok (.putfield 15, 3) := by decide +kernel
theorem dX4_add_29 : decode cX4_add 29 = .ok (.aload_n 0, 1) := by decide +kernel
theorem dX4_add_30 : decode cX4_add 30 = .ok (.getfield 15, 3) := by decide +kernel
theorem dX4_add_33 : decode cX4_add 33 = .ok (.ireturn, 1) := by decide +kernel
theorem dX4_clear_0 : decode cX4_clear 0 = .ok (.aload_n 0, 1) := by decide +kernel
theorem dX4_clear_1 : decode cX4_clear 1 = .ok (.getfield 15, 3) := by decide +kernel
theorem dX4_clear_4 : decode cX4_clear 4 = .ok (.istore_n 1, 1) := by decide +kernel
theorem dX4_clear_5 : decode cX4_clear 5 = .ok (.aload_n 0, 1) := by decide +kernel
theorem dX4_clear_6 : decode cX4_clear 6 = .ok (.iconst 0, 1) := by decide +kernel
theorem dX4_clear_7 : decode cX4_clear 7 = .ok (.putfield 15, 3) := by decide +kernel
theorem dX4_clear_10 : decode cX4_clear 10 = .ok (.iload_n 1, 1) := by decide +kernel
theorem dX4_clear_11 : decode cX4_clear 11 = .ok (.ireturn, 1) := by decide +kernel
theorem dX4_wordAt_0 : decode cX4_wordAt 0 = .ok (.iload_n 1, 1) := by decide +kernel
theorem dX4_wordAt_1 : decode cX4_wordAt 1 = .ok (.ifCond .lt 26, 3) := by decide +kernel
theorem dX4_wordAt_4 : decode cX4_wordAt 4 = .ok (.iload_n 1, 1) := by decide +kernel
theorem dX4_wordAt_5 : decode cX4_wordAt 5 = .ok (.aload_n 0, 1) := by decide +kernel
theorem dX4_wordAt_6 : decode cX4_wordAt 6 = .ok (.getfield 15, 3) := by decide +kernel
theorem dX4_wordAt_9 : decode cX4_wordAt 9 = .ok (.if_icmp .ge 18, 3) := by decide +kernel
theorem dX4_wordAt_12 : decode cX4_wordAt 12 = .ok (.iload_n 1, 1) := by decide +kernel
theorem dX4_wordAt_13 : decode cX4_wordAt 13 = .ok (.bipush 6, 2) := by decide +kernel
theorem dX4_wordAt_15 : decode cX4_wordAt 15 = .ok (.if_icmp .ge 12, 3) := by decide +kernel
theorem dX4_wordAt_18 : decode cX4_wordAt 18 = .ok (.aload_n 0, 1) := by decide +kernel
theorem dX4_wordAt_19 : decode cX4_wordAt 19 = .ok (.getfield 9, 3) := by decide +kernel
theorem dX4_wordAt_22 : decode cX4_wordAt 22 = .ok (.iload_n 1, 1) := by decide +kernel
theorem dX4_wordAt_23 : decode cX4_wordAt 23 = .ok (.iaload, 1) := by decide +kernel
theorem dX4_wordAt_24 : decode cX4_wordAt 24 = .ok (.goto 4, 3) := by decide +kernel
theorem dX4_wordAt_27 : decode cX4_wordAt 27 = .ok (.iconst (-1), 1) := by decide +kernel
theorem dX4_wordAt_28 : decode cX4_wordAt 28 = .ok (.ireturn, 1) := by decide +kernel
theorem dX4_lastWord_0 : decode cX4_lastWord 0 = .ok (.aload_n 0, 1) := by decide +kernel
theorem dX4_lastWord_1 : decode cX4_lastWord 1 = .ok (.aload_n 0, 1) := by decide +kernel
theorem dX4_lastWord_2 : decode cX4_lastWord 2 = .ok (.getfield 15, 3) := by decide +kernel
theorem dX4_lastWord_5 : decode cX4_lastWord 5 = .ok (.iconst 1, 1) := by decide +kernel
theorem dX4_lastWord_6 : decode cX4_lastWord 6 = .ok (.isub, 1) := by decide +kernel
theorem dX4_lastWord_7 : decode cX4_lastWord 7 = .ok (.invokevirtual 19, 3) := by decide +kernel
theorem dX4_lastWord_10 : decode cX4_lastWord 10 = .ok (.ireturn, 1) := by decide +kernel
theorem dX4_copy_0 : decode cX4_copy 0 = .ok (.aload_n 1, 1) := by decide +kernel
theorem dX4_copy_1 : decode cX4_copy 1 = .ok (.getfield 9, 3) := by decide +kernel
theorem dX4_copy_4 : decode cX4_copy 4 = .ok (.iconst 0, 1) := by decide +kernel
theorem dX4_copy_5 : decode cX4_copy 5 = .ok (.aload_n 0, 1) := by decide +kernel
theorem dX4_copy_6 : decode cX4_copy 6 = .ok (.getfield 9, 3) := by decide +kernel
theorem dX4_copy_9 : decode cX4_copy 9 = .ok (.iconst 0, 1) := by decide +kernel
theorem dX4_copy_10 : decode cX4_copy 10 = .ok (.bipush 6, 2) := by decide +kernel
theorem dX4_copy_12 : decode cX4_copy 12 = .ok (.invokestatic 23, 3) := by decide +kernel
theorem dX4_copy_15 : decode cX4_copy 15 = .ok (.aload_n 0, 1) := by decide +kernel
theorem dX4_copy_16 : decode cX4_copy 16 = .ok (.aload_n 1, 1) := by decide +kernel
theorem dX4_copy_17 : decode cX4_copy 17 = .ok (.getfield 15, 3) := by decide +kernel
theorem dX4_copy_20 : decode cX4_copy 20 = .ok (.putfield 15, 3) := by decide +kernel
theorem dX4_copy_23 : decode cX4_copy 23 = .ok (.return_, 1) := by decide +kernel
theorem dX5_init_0 : decode cX5_init 0 = .ok (.aload_n 0, 1) := by decide +kernel
theorem dX5_init_1 : decode cX5_init 1 = .ok (.invokespecial 3, 3) := by decide +kernel
theorem dX5_init_4 : decode cX5_init 4 = .ok (.aload_n 0, 1) := by decide +kernel
theorem dX5_init_5 : decode cX5_init 5 = .ok (.bipush 6, 2) := by decide +kernel
theorem dX5_init_7 : decode cX5_init 7 = .ok (.newarray .int, 2) := by decide +kernel
theorem dX5_init_9 : decode cX5_init 9 = .ok (.putfield 9, 3) := by decide +kernel
theorem dX5_init_12 : decode cX5_init 12 = .ok (.aload_n 0, 1) := by decide +kernel
theorem dX5_init_13 : decode cX5_init 13 = .ok (.bipush 6, 2) := by decide +kernel
theorem dX5_init_15 : decode cX5_init 15 = .ok (.newarray .int, 2) := by decide +kernel
theorem dX5_init_17 : decode cX5_init 17 = .ok (.putfield 15, 3) := by decide +kernel
theorem dX5_init_20 : decode cX5_init 20 = .ok (.aload_n 0, 1) := by decide +kernel
theorem dX5_init_21 : decode cX5_init 21 = .ok (.new 18, 3) := by decide +kernel
theorem dX5_init_24 : decode cX5_init 24 = .ok (.dup, 1) := by decide +kernel
theorem dX5_init_25 : decode cX5_init 25 = .ok (.invokespecial 20, 3) := by decide +kernel
theorem dX5_init_28 : decode cX5_init 28 = .ok (.putfield 21, 3) := by decide +kernel
theorem dX5_init_31 : decode cX5_init 31 = .ok (.aload_n 0, 1) := by decide +kernel
theorem dX5_init_32 : decode cX5_init 32 = .ok (.new 18, 3) := by decide +kernel
theorem dX5_init_35 : decode cX5_init 35 = .ok (.dup, 1) := by decide +kernel
theorem dX5_init_36 : decode cX5_init 36 = .ok (.invokespecial 20, 3) := by decide +kernel
theorem dX5_init_39 : decode cX5_init 39 = .ok (.putfield 25, 3) := by decide +kernel
theorem dX5_init_42 : decode cX5_init 42 = .ok (.aload_n 0, 1) := by decide +kernel
theorem dX5_init_43 : decode cX5_init 43 = .ok (.new 18, 3) := by decide +kernel
theorem dX5_init_46 : decode cX5_init 46 = .ok (.dup, 1) := by decide +kernel
theorem dX5_init_47 : decode cX5_init 47 = .ok (.invokespecial 20, 3) := by decide +kernel
theorem dX5_init_50 : decode cX5_init 50 = .ok (.putfield 28, 3) := by decide +kernel
theorem dX5_init_53 : decode cX5_init 53 = .ok (.aload_n 0, 1) := by decide +kernel
theorem dX5_init_54 : decode cX5_init 54 = .ok (.aload_n 1, 1) := by decide +kernel
theorem dX5_init_55 : decode cX5_init 55 = .ok (.putfield 31, 3) := by decide +kernel
theorem dX5_init_58 : decode cX5_init 58 = .ok (.return_, 1) := by decide +kernel
theorem dX5_forget_0 : decode cX5_forget 0 = .ok (.aload_n 0, 1) := by decide +kernel
theorem dX5_forget_1 : decode cX5_forget 1 = .ok (.iconst 0, 1) := by decide +kernel
theorem dX5_forget_2 : decode cX5_forget 2 = .ok (.putfield 35, 3) := by decide +kernel
theorem dX5_forget_5 : decode cX5_forget 5 = .ok (.aload_n 0, 1) := by decide +kernel
theorem dX5_forget_6 : decode cX5_forget 6 = .ok (.iconst 0, 1) := by decide +kernel
theorem dX5_forget_7 : decode cX5_forget 7 = .ok (.putfield 39, 3) := by decide +kernel
theorem dX5_forget_10 : decode cX5_forget 10 = .ok (.return_, 1) := by decide +kernel
theorem dX5_begin_0 : decode cX5_begin 0 = .ok (.aload_n 0, 1) := by decide +kernel
theorem dX5_begin_1 : decode cX5_begin 1 = .ok (.getfield 39, 3) := by decide +kernel
theorem dX5_begin_4 : decode cX5_begin 4 = .ok (.istore_n 2, 1) := by decide +kernel
theorem dX5_begin_5 : decode cX5_begin 5 = .ok (.aload_n 0, 1) := by decide +kernel
theorem dX5_begin_6 : decode cX5_begin 6 = .ok (.iload_n 1, 1) := by decide +kernel
theorem dX5_begin_7 : decode cX5_begin 7 = .ok (.iconst 3, 1) := by decide +kernel
theorem dX5_begin_8 : decode cX5_begin 8 = .ok (.invokestatic 42, 3) := by decide +kernel
theorem dX5_begin_11 : decode cX5_begin 11 = .ok (.putfield 35, 3) := by decide +kernel
theorem dX5_begin_14 : decode cX5_begin 14 = .ok (.aload_n 0, 1) := by decide +kernel
theorem dX5_begin_15 : decode cX5_begin 15 = .ok (.iconst 0, 1) := by decide +kernel
theorem dX5_begin_16 : decode cX5_begin 16 = .ok (.putfield 39, 3) := by decide +kernel
theorem dX5_begin_19 : decode cX5_begin 19 = .ok (.iload_n 2, 1) := by decide +kernel
theorem dX5_begin_20 : decode cX5_begin 20 = .ok (.ireturn, 1) := by decide +kernel
theorem dX5_add_0 : decode cX5_add 0 = .ok (.aload_n 0, 1) := by decide +kernel
theorem dX5_add_1 : decode cX5_add 1 = .ok (.getfield 39, 3) := by decide +kernel
theorem dX5_add_4 : decode cX5_add 4 = .ok (.bipush 6, 2) := by decide +kernel
theorem dX5_add_6 : decode cX5_add 6 = .ok (.if_icmp .ge 33, 3) := by decide +kernel
theorem dX5_add_9 : decode cX5_add 9 = .ok (.aload_n 0, 1) := by decide +kernel
theorem dX5_add_10 : decode cX5_add 10 = .ok (.getfield 9, 3) := by decide +kernel
theorem dX5_add_13 : decode cX5_add 13 = .ok (.aload_n 0, 1) := by decide +kernel
theorem dX5_add_14 : decode cX5_add 14 = .ok (.getfield 39, 3) := by decide +kernel
theorem dX5_add_17 : decode cX5_add 17 = .ok (.iload_n 1, 1) := by decide +kernel
theorem dX5_add_18 : decode cX5_add 18 = .ok (.iastore, 1) := by decide +kernel
theorem dX5_add_19 : decode cX5_add 19 = .ok (.aload_n 0, 1) := by decide +kernel
theorem dX5_add_20 : decode cX5_add 20 = .ok (.getfield 15, 3) := by decide +kernel
theorem dX5_add_23 : decode cX5_add 23 = .ok (.aload_n 0, 1) := by decide +kernel
theorem dX5_add_24 : decode cX5_add 24 = .ok (.getfield 39, 3) := by decide +kernel
theorem dX5_add_27 : decode cX5_add 27 = .ok (.iload_n 2, 1) := by decide +kernel
theorem dX5_add_28 : decode cX5_add 28 = .ok (.iastore, 1) := by decide +kernel
theorem dX5_add_29 : decode cX5_add 29 = .ok (.aload_n 0, 1) := by decide +kernel
theorem dX5_add_30 : decode cX5_add 30 = .ok (.dup, 1) := by decide +kernel
theorem dX5_add_31 : decode cX5_add 31 = .ok (.getfield 39, 3) := by decide +kernel
theorem dX5_add_34 : decode cX5_add 34 = .ok (.iconst 1, 1) := by decide +kernel
theorem dX5_add_35 : decode cX5_add 35 = .ok (.iadd, 1) := by decide +kernel
theorem dX5_add_36 : decode cX5_add 36 = .ok (.putfield 39, 3) := by decide +kernel
theorem dX5_add_39 : decode cX5_add 39 = .ok (.aload_n 0, 1) := by decide +kernel
theorem dX5_add_40 : decode cX5_add 40 = .ok (.getfield 39, 3) := by decide +kernel
theorem dX5_add_43 : decode cX5_add 43 = .ok (.ireturn, 1) := by decide +kernel
theorem dX5_solve_0 : decode cX5_solve 0 = .ok (.aload_n 0, 1) := by decide +kernel
theorem dX5_solve_1 : decode cX5_solve 1 = .ok (.iconst 0, 1) := by decide +kernel
theorem dX5_solve_2 : decode cX5_solve 2 = .ok (.putfield 48, 3) := by decide +kernel
theorem dX5_solve_5 : decode cX5_solve 5 = .ok (.aload_n 0, 1) := by decide +kernel
theorem dX5_solve_6 : decode cX5_solve 6 = .ok (.iconst 0, 1) := by decide +kernel
theorem dX5_solve_7 : decode cX5_solve 7 = .ok (.putfield 51, 3) := by decide +kernel
theorem dX5_solve_10 : decode cX5_solve 10 = .ok (.aload_n 0, 1) := by decide +kernel
theorem dX5_solve_11 : decode cX5_solve 11 = .ok (.getfield 25, 3) := by decide +kernel
theorem dX5_solve_14 : decode cX5_solve 14 = .ok (.invokevirtual 54, 3) := by decide +kernel
theorem dX5_solve_17 : decode cX5_solve 17 = .ok (.pop, 1) := by decide +kernel
theorem dX5_solve_18 : decode cX5_solve 18 = .ok (.aload_n 0, 1) := by decide +kernel
theorem dX5_solve_19 : decode cX5_solve 19 = .ok (.getfield 28, 3) := by decide +kernel
theorem dX5_solve_22 : decode cX5_solve 22 = .ok (.invokevirtual 54, 3) := by decide +kernel
theorem dX5_solve_25 : decode cX5_solve 25 = .ok (.pop, 1) := by decide +kernel
theorem dX5_solve_26 : decode cX5_solve 26 = .ok (.aload_n 0, 1) := by decide +kernel
theorem dX5_solve_27 : decode cX5_solve 27 = .ok (.getfield 21, 3) := by decide +kernel
theorem dX5_solve_30 : decode cX5_solve 30 = .ok (.invokevirtual 54, 3) := by decide +kernel
theorem dX5_solve_33 : decode cX5_solve 33 = .ok (.pop, 1) := by decide +kernel
theorem dX5_solve_34 : decode cX5_solve 34 = .ok (.iconst 0, 1) := by decide +kernel
theorem dX5_solve_35 : decode cX5_solve 35 = .ok (.istore_n 1, 1) := by decide +kernel
theorem dX5_solve_36 : decode cX5_solve 36 = .ok (.iload_n 1, 1) := by decide +kernel
theorem dX5_solve_37 : decode cX5_solve 37 = .ok (.aload_n 0, 1) := by decide +kernel
theorem dX5_solve_38 : decode cX5_solve 38 = .ok (.getfield 35, 3) := by decide +kernel
theorem dX5_solve_41 : decode cX5_solve 41 = .ok (.if_icmp .ge 18, 3) := by decide +kernel
theorem dX5_solve_44 : decode cX5_solve 44 = .ok (.aload_n 0, 1) := by decide +kernel
theorem dX5_solve_45 : decode cX5_solve 45 = .ok (.getfield 21, 3) := by decide +kernel
theorem dX5_solve_48 : decode cX5_solve 48 = .ok (.iconst 0, 1) := by decide +kernel
theorem dX5_solve_49 : decode cX5_solve 49 = .ok (.invokevirtual 58, 3) := by decide +kernel
theorem dX5_solve_52 : decode cX5_solve 52 = .ok (.pop, 1) := by decide +kernel
theorem dX5_solve_53 : decode cX5_solve 53 = .ok (.iinc 1 1, 3) := by decide +kernel
theorem dX5_solve_56 : decode cX5_solve 56 = .ok (.goto (-20), 3) := by decide +kernel
theorem dX5_solve_59 : decode cX5_solve 59 = .ok (.aload_n 0, 1) := by decide +kernel
theorem dX5_solve_60 : decode cX5_solve 60 = .ok (.getfield 31, 3) := by decide +kernel
theorem dX5_solve_63 : decode cX5_solve 63 = .ok (.aload_n 0, 1) := by decide +kernel
theorem dX5_solve_64 : decode cX5_solve 64 = .ok (.getfield 35, 3) := by decide +kernel
theorem dX5_solve_67 : decode cX5_solve 67 = .ok (.invokevirtual 62, 3) := by decide +kernel
theorem dX5_solve_70 : decode cX5_solve 70 = .ok (.istore_n 1, 1) := by decide +kernel
theorem dX5_solve_71 : decode cX5_solve 71 = .ok (.iconst 0, 1) := by decide +kernel
theorem dX5_solve_72 : decode cX5_solve 72 = .ok (.istore_n 2, 1) := by decide +kernel
theorem dX5_solve_73 : decode cX5_solve 73 = .ok (.iload_n 2, 1) := by decide +kernel
theorem dX5_solve_74 : decode cX5_solve 74 = .ok (.iload_n 1, 1) := by decide +kernel
theorem dX5_solve_75 : decode cX5_solve 75 = .ok (.if_icmp .ge 24, 3) := by decide +kernel
theorem dX5_solve_78 : decode cX5_solve 78 = .ok (.aload_n 0, 1) := by decide +kernel
theorem dX5_solve_79 : decode cX5_solve 79 = .ok (.invokevirtual 67, 3) := by decide +kernel
theorem dX5_solve_82 : decode cX5_solve 82 = .ok (.ifCond .eq 7, 3) := by decide +kernel
theorem dX5_solve_85 : decode cX5_solve 85 = .ok (.aload_n 0, 1) := by decide +kernel
theorem dX5_solve_86 : decode cX5_solve 86 = .ok (.invokevirtual 71, 3) := by decide +kernel
theorem dX5_solve_89 : decode cX5_solve 89 = .ok (.aload_n 0, 1) := by decide +kernel
theorem dX5_solve_90 : decode cX5_solve 90 = .ok (.invokevirtual 74, 3) := by decide +kernel
theorem dX5_solve_93 : decode cX5_solve 93 = .ok (.iinc 2 1, 3) := by decide +kernel
theorem dX5_solve_96 : decode cX5_solve 96 = .ok (.goto (-23), 3) := by decide +kernel
theorem dX5_solve_99 : decode cX5_solve 99 = .ok (.return_, 1) := by decide +kernel
theorem dX5_agrees_0 : decode cX5_agrees 0 = .ok (.aload_n 0, 1) := by decide +kernel
theorem dX5_agrees_1 : decode cX5_agrees 1 = .ok (.getfield 31, 3) := by decide +kernel
theorem dX5_agrees_4 : decode cX5_agrees 4 = .ok (.aload_n 0, 1) := by decide +kernel
theorem dX5_agrees_5 : decode cX5_agrees 5 = .ok (.getfield 21, 3) := by decide +kernel
theorem dX5_agrees_8 : decode cX5_agrees 8 = .ok (.invokevirtual 77, 3) := by decide +kernel
theorem dX5_agrees_11 : decode cX5_agrees 11 = .ok (.istore_n 1, 1) := by decide +kernel
theorem dX5_agrees_12 : decode cX5_agrees 12 = .ok (.iload_n 1, 1) := by decide +kernel
theorem dX5_agrees_13 : decode cX5_agrees 13 = .ok (.aload_n 0, 1) := by decide +kernel
theorem dX5_agrees_14 : decode cX5_agrees 14 = .ok (.getfield 31, 3) := by decide +kernel
theorem dX5_agrees_17 : decode cX5_agrees 17 = .ok (.aload_n 0, 1) := by decide +kernel
theorem dX5_agrees_18 : decode cX5_agrees 18 = .ok (.getfield 21, 3) := by decide +kernel
theorem dX5_agrees_21 : decode cX5_agrees 21 = .ok (.invokevirtual 81, 3) := by decide +kernel
theorem dX5_agrees_24 : decode cX5_agrees 24 = .ok (.isub, 1) := by decide +kernel
theorem dX5_agrees_25 : decode cX5_agrees 25 = .ok (.istore_n 2, 1) := by decide +kernel
theorem dX5_agrees_26 : decode cX5_agrees 26 = .ok (.iconst 0, 1) := by decide +kernel
theorem dX5_agrees_27 : decode cX5_agrees 27 = .ok (.istore_n 3, 1) := by decide +kernel
theorem dX5_agrees_28 : decode cX5_agrees 28 = .ok (.iload_n 3, 1) := by decide +kernel
theorem dX5_agrees_29 : decode cX5_agrees 29 = .ok (.aload_n 0, 1) := by decide +kernel
theorem dX5_agrees_30 : decode cX5_agrees 30 = .ok (.getfield 39, 3) := by decide +kernel
theorem dX5_agrees_33 : decode cX5_agrees 33 = .ok (.if_icmp .ge 47, 3) := by decide +kernel
theorem dX5_agrees_36 : decode cX5_agrees 36 = .ok (.iload_n 3, 1) := by decide +kernel
theorem dX5_agrees_37 : decode cX5_agrees 37 = .ok (.bipush 6, 2) := by decide +kernel
theorem dX5_agrees_39 : decode cX5_agrees 39 = .ok (.if_icmp .ge 41, 3) := by decide +kernel
theorem dX5_agrees_42 : decode cX5_agrees 42 = .ok (.aload_n 0, 1) := by decide +kernel
theorem dX5_agrees_43 : decode cX5_agrees 43 = .ok (.getfield 15, 3) := by decide +kernel
theorem dX5_agrees_46 : decode cX5_agrees 46 = .ok (.iload_n 3, 1) := by decide +kernel
theorem dX5_agrees_47 : decode cX5_agrees 47 = .ok (.iaload, 1) := by decide +kernel
theorem dX5_agrees_48 : decode cX5_agrees 48 = .ok (.aload_n 0, 1) := by decide +kernel
theorem dX5_agrees_49 : decode cX5_agrees 49 = .ok (.getfield 31, 3) := by decide +kernel
theorem dX5_agrees_52 : decode cX5_agrees 52 = .ok (.aload_n 0, 1) := by decide +kernel
theorem dX5_agrees_53 : decode cX5_agrees 53 = .ok (.getfield 9, 3) := by decide +kernel
theorem dX5_agrees_56 : decode cX5_agrees 56 = .ok (.iload_n 3, 1) := by decide +kernel
theorem dX5_agrees_57 : decode cX5_agrees 57 = .ok (.iaload, 1) := by decide +kernel
theorem dX5_agrees_58 : decode cX5_agrees 58 = .ok (.invokevirtual 84, 3) := by decide +kernel
theorem dX5_agrees_61 : decode cX5_agrees 61 = .ok (.ifCond .eq 7, 3) := by decide +kernel
theorem dX5_agrees_64 : decode cX5_agrees 64 = .ok (.iload_n 2, 1) := by decide +kernel
theorem dX5_agrees_65 : decode cX5_agrees 65 = .ok (.goto 4, 3) := by decide +kernel
theorem dX5_agrees_68 : decode cX5_agrees 68 = .ok (.iload_n 1, 1) := by decide +kernel
theorem dX5_agrees_69 : decode cX5_agrees 69 = .ok (.if_icmp .eq 5, 3) := by decide +kernel
theorem dX5_agrees_72 : decode cX5_agrees 72 = .ok (.iconst 0, 1) := by decide +kernel
theorem dX5_agrees_73 : decode cX5_agrees 73 = .ok (.ireturn, 1) := by decide +kernel
theorem dX5_agrees_74 : decode cX5_agrees 74 = .ok (.iinc 3 1, 3) := by decide +kernel
theorem dX5_agrees_77 : decode cX5_agrees 77 = .ok (.goto (-49), 3) := by decide +kernel
theorem dX5_agrees_80 : decode cX5_agrees 80 = .ok (.iconst 1, 1) := by decide +kernel
theorem dX5_agrees_81 : decode cX5_agrees 81 = .ok (.ireturn, 1) := by decide +kernel
theorem dX5_take_0 : decode cX5_take 0 = .ok (.aload_n 0, 1) := by decide +kernel
theorem dX5_take_1 : decode cX5_take 1 = .ok (.getfield 48, 3) := by decide +kernel
theorem dX5_take_4 : decode cX5_take 4 = .ok (.ifCond .ne 25, 3) := by decide +kernel
theorem dX5_take_7 : decode cX5_take 7 = .ok (.aload_n 0, 1) := by decide +kernel
theorem dX5_take_8 : decode cX5_take 8 = .ok (.getfield 25, 3) := by decide +kernel
theorem dX5_take_11 : decode cX5_take 11 = .ok (.aload_n 0, 1) := by decide +kernel
theorem dX5_take_12 : decode cX5_take 12 = .ok (.getfield 21, 3) := by decide +kernel
theorem dX5_take_15 : decode cX5_take 15 = .ok (.invokevirtual 88, 3) := by decide +kernel
theorem dX5_take_18 : decode cX5_take 18 = .ok (.aload_n 0, 1) := by decide +kernel
theorem dX5_take_19 : decode cX5_take 19 = .ok (.getfield 28, 3) := by decide +kernel
theorem dX5_take_22 : decode cX5_take 22 = .ok (.aload_n 0, 1) := by decide +kernel
theorem dX5_take_23 : decode cX5_take 23 = .ok (.getfield 21, 3) := by decide +kernel
theorem dX5_take_26 : decode cX5_take 26 = .ok (.invokevirtual 88, 3) := by decide +kernel
theorem dX5_take_29 : decode cX5_take 29 = .ok (.aload_n 0, 1) := by decide +kernel
theorem dX5_take_30 : decode cX5_take 30 = .ok (.dup, 1) := by decide +kernel
theorem dX5_take_31 : decode cX5_take 31 = .ok (.getfield 48, 3) := by decide +kernel
theorem dX5_take_34 : decode cX5_take 34 = .ok (.iconst 1, 1) := by decide +kernel
theorem dX5_take_35 : decode cX5_take 35 = .ok (.iadd, 1) := by decide +kernel
theorem dX5_take_36 : decode cX5_take 36 = .ok (.putfield 48, 3) := by decide +kernel
theorem dX5_take_39 : decode cX5_take 39 = .ok (.iconst 0, 1) := by decide +kernel
theorem dX5_take_40 : decode cX5_take 40 = .ok (.istore_n 1, 1) := by decide +kernel
theorem dX5_take_41 : decode cX5_take 41 = .ok (.iload_n 1, 1) := by decide +kernel
theorem dX5_take_42 : decode cX5_take 42 = .ok (.aload_n 0, 1) := by decide +kernel
theorem dX5_take_43 : decode cX5_take 43 = .ok (.getfield 35, 3) := by decide +kernel
theorem dX5_take_46 : decode cX5_take 46 = .ok (.if_icmp .ge 45, 3) := by decide +kernel
theorem dX5_take_49 : decode cX5_take 49 = .ok (.iload_n 1, 1) := by decide +kernel
theorem dX5_take_50 : decode cX5_take 50 = .ok (.iconst 3, 1) := by decide +kernel
theorem dX5_take_51 : decode cX5_take 51 = .ok (.if_icmp .ge 40, 3) := by decide +kernel
theorem dX5_take_54 : decode cX5_take 54 = .ok (.aload_n 0, 1) := by decide +kernel
theorem dX5_take_55 : decode cX5_take 55 = .ok (.getfield 28, 3) := by decide +kernel
theorem dX5_take_58 : decode cX5_take 58 = .ok (.getfield 92, 3) := by decide +kernel
theorem dX5_take_61 : decode cX5_take 61 = .ok (.iload_n 1, 1) := by decide +kernel
theorem dX5_take_62 : decode cX5_take 62 = .ok (.iaload, 1) := by decide +kernel
theorem dX5_take_63 : decode cX5_take 63 = .ok (.aload_n 0, 1) := by decide +kernel
theorem dX5_take_64 : decode cX5_take 64 = .ok (.getfield 21, 3) := by decide +kernel
theorem dX5_take_67 : decode cX5_take 67 = .ok (.getfield 92, 3) := by decide +kernel
theorem dX5_take_70 : decode cX5_take 70 = .ok (.iload_n 1, 1) := by decide +kernel
theorem dX5_take_71 : decode cX5_take 71 = .ok (.iaload, 1) := by decide +kernel
theorem dX5_take_72 : decode cX5_take 72 = .ok (.if_icmp .eq 13, 3) := by decide +kernel
theorem dX5_take_75 : decode cX5_take 75 = .ok (.aload_n 0, 1) := by decide +kernel
theorem dX5_take_76 : decode cX5_take 76 = .ok (.getfield 28, 3) := by decide +kernel
theorem dX5_take_79 : decode cX5_take 79 = .ok (.getfield 92, 3) := by decide +kernel
theorem dX5_take_82 : decode cX5_take 82 = .ok (.iload_n 1, 1) := by decide +kernel
theorem dX5_take_83 : decode cX5_take 83 = .ok (.iconst (-1), 1) := by decide +kernel
theorem dX5_take_84 : decode cX5_take 84 = .ok (.iastore, 1) := by decide +kernel
theorem dX5_take_85 : decode cX5_take 85 = .ok (.iinc 1 1, 3) := by decide +kernel
theorem dX5_take_88 : decode cX5_take 88 = .ok (.goto (-47), 3) := by decide +kernel
theorem dX5_take_91 : decode cX5_take 91 = .ok (.aload_n 0, 1) := by decide +kernel
theorem dX5_take_92 : decode cX5_take 92 = .ok (.getfield 31, 3) := by decide +kernel
theorem dX5_take_95 : decode cX5_take 95 = .ok (.iconst 0, 1) := by decide +kernel
theorem dX5_take_96 : decode cX5_take 96 = .ok (.invokevirtual 95, 3) := by decide +kernel
theorem dX5_take_99 : decode cX5_take 99 = .ok (.ifCond .ne 4, 3) := by decide +kernel
theorem dX5_take_102 : decode cX5_take 102 = .ok (.return_, 1) := by decide +kernel
theorem dX5_take_103 : decode cX5_take 103 = .ok (.iconst 0, 1) := by decide +kernel
theorem dX5_take_104 : decode cX5_take 104 = .ok (.istore_n 1, 1) := by decide +kernel
theorem dX5_take_105 : decode cX5_take 105 = .ok (.iload_n 1, 1) := by decide +kernel
theorem dX5_take_106 : decode cX5_take 106 = .ok (.aload_n 0, 1) := by decide +kernel
theorem dX5_take_107 : decode cX5_take 107 = .ok (.getfield 31, 3) := by decide +kernel
theorem dX5_take_110 : decode cX5_take 110 = .ok (.getfield 98, 3) := by decide +kernel
theorem dX5_take_113 : decode cX5_take 113 = .ok (.if_icmp .ge 48, 3) := by decide +kernel
theorem dX5_take_116 : decode cX5_take 116 = .ok (.aload_n 0, 1) := by decide +kernel
theorem dX5_take_117 : decode cX5_take 117 = .ok (.getfield 51, 3) := by decide +kernel
theorem dX5_take_120 : decode cX5_take 120 = .ok (.iload_n 1, 1) := by decide +kernel
theorem dX5_take_121 : decode cX5_take 121 = .ok (.invokestatic 99, 3) := by decide +kernel
theorem dX5_take_124 : decode cX5_take 124 = .ok (.ifCond .ne 31, 3) := by decide +kernel
theorem dX5_take_127 : decode cX5_take 127 = .ok (.aload_n 0, 1) := by decide +kernel
theorem dX5_take_128 : decode cX5_take 128 = .ok (.getfield 31, 3) := by decide +kernel
theorem dX5_take_131 : decode cX5_take 131 = .ok (.aload_n 0, 1) := by decide +kernel
theorem dX5_take_132 : decode cX5_take 132 = .ok (.getfield 21, 3) := by decide +kernel
theorem dX5_take_135 : decode cX5_take 135 = .ok (.iload_n 1, 1) := by decide +kernel
theorem dX5_take_136 : decode cX5_take 136 = .ok (.iconst 0, 1) := by decide +kernel
theorem dX5_take_137 : decode cX5_take 137 = .ok (.invokevirtual 103, 3) := by decide +kernel
theorem dX5_take_140 : decode cX5_take 140 = .ok (.ifCond .eq 15, 3) := by decide +kernel
theorem dX5_take_143 : decode cX5_take 143 = .ok (.aload_n 0, 1) := by decide +kernel
theorem dX5_take_144 : decode cX5_take 144 = .ok (.dup, 1) := by decide +kernel
theorem dX5_take_145 : decode cX5_take 145 = .ok (.getfield 51, 3) := by decide +kernel
theorem dX5_take_148 : decode cX5_take 148 = .ok (.iconst 1, 1) := by decide +kernel
theorem dX5_take_149 : decode cX5_take 149 = .ok (.iload_n 1, 1) := by decide +kernel
theorem dX5_take_150 : decode cX5_take 150 = .ok (.ishl, 1) := by decide +kernel
theorem dX5_take_151 : decode cX5_take 151 = .ok (.ior, 1) := by decide +kernel
theorem dX5_take_152 : decode cX5_take 152 = .ok (.putfield 51, 3) := by decide +kernel
theorem dX5_take_155 : decode cX5_take 155 = .ok (.iinc 1 1, 3) := by decide +kernel
theorem dX5_take_158 : decode cX5_take 158 = .ok (.goto (-53), 3) := by decide +kernel
theorem dX5_take_161 : decode cX5_take 161 = .ok (.return_, 1) := by decide +kernel
theorem dX5_moveOn_0 : decode cX5_moveOn 0 = .ok (.aload_n 0, 1) := by decide +kernel
theorem dX5_moveOn_1 : decode cX5_moveOn 1 = .ok (.getfield 35, 3) := by decide +kernel
theorem dX5_moveOn_4 : decode cX5_moveOn 4 = .ok (.iconst 3, 1) := by decide +kernel
theorem dX5_moveOn_5 : decode cX5_moveOn 5 = .ok (.invokestatic 42, 3) := by decide +kernel
theorem dX5_moveOn_8 : decode cX5_moveOn 8 = .ok (.iconst 1, 1) := by decide +kernel
theorem dX5_moveOn_9 : decode cX5_moveOn 9 = .ok (.isub, 1) := by decide +kernel
theorem dX5_moveOn_10 : decode cX5_moveOn 10 = .ok (.istore_n 1, 1) := by decide +kernel
theorem dX5_moveOn_11 : decode cX5_moveOn 11 = .ok (.iload_n 1, 1) := by decide +kernel
theorem dX5_moveOn_12 : decode cX5_moveOn 12 = .ok (.ifCond .lt 52, 3) := by decide +kernel
theorem dX5_moveOn_15 : decode cX5_moveOn 15 = .ok (.aload_n 0, 1) := by decide +kernel
theorem dX5_moveOn_16 : decode cX5_moveOn 16 = .ok (.getfield 21, 3) := by decide +kernel
theorem dX5_moveOn_19 : decode cX5_moveOn 19 = .ok (.getfield 92, 3) := by decide +kernel
theorem dX5_moveOn_22 : decode cX5_moveOn 22 = .ok (.iload_n 1, 1) := by decide +kernel
theorem dX5_moveOn_23 : decode cX5_moveOn 23 = .ok (.dup2, 1) := by decide +kernel
theorem dX5_moveOn_24 : decode cX5_moveOn 24 = .ok (.iaload, 1) := by decide +kernel
theorem dX5_moveOn_25 : decode cX5_moveOn 25 = .ok (.iconst 1, 1) := by decide +kernel
theorem dX5_moveOn_26 : decode cX5_moveOn 26 = .ok (.iadd, 1) := by decide +kernel
theorem dX5_moveOn_27 : decode cX5_moveOn 27 = .ok (.iastore, 1) := by decide +kernel
theorem dX5_moveOn_28 : decode cX5_moveOn 28 = .ok (.aload_n 0, 1) := by decide +kernel
theorem dX5_moveOn_29 : decode cX5_moveOn 29 = .ok (.getfield 21, 3) := by decide +kernel
theorem dX5_moveOn_32 : decode cX5_moveOn 32 = .ok (.getfield 92, 3) := by decide +kernel
theorem dX5_moveOn_35 : decode cX5_moveOn 35 = .ok (.iload_n 1, 1) := by decide +kernel
theorem dX5_moveOn_36 : decode cX5_moveOn 36 = .ok (.iaload, 1) := by decide +kernel
theorem dX5_moveOn_37 : decode cX5_moveOn 37 = .ok (.aload_n 0, 1) := by decide +kernel
theorem dX5_moveOn_38 : decode cX5_moveOn 38 = .ok (.getfield 31, 3) := by decide +kernel
theorem dX5_moveOn_41 : decode cX5_moveOn 41 = .ok (.getfield 107, 3) := by decide +kernel
theorem dX5_moveOn_44 : decode cX5_moveOn 44 = .ok (.if_icmp .ge 4, 3) := by decide +kernel
theorem dX5_moveOn_47 : decode cX5_moveOn 47 = .ok (.return_, 1) := by decide +kernel
theorem dX5_moveOn_48 : decode cX5_moveOn 48 = .ok (.aload_n 0, 1) := by decide +kernel
theorem dX5_moveOn_49 : decode cX5_moveOn 49 = .ok (.getfield 21, 3) := by decide +kernel
theorem dX5_moveOn_52 : decode cX5_moveOn 52 = .ok (.getfield 92, 3) := by decide +kernel
theorem dX5_moveOn_55 : decode cX5_moveOn 55 = .ok (.iload_n 1, 1) := by decide +kernel
theorem dX5_moveOn_56 : decode cX5_moveOn 56 = .ok (.iconst 0, 1) := by decide +kernel
theorem dX5_moveOn_57 : decode cX5_moveOn 57 = .ok (.iastore, 1) := by decide +kernel
theorem dX5_moveOn_58 : decode cX5_moveOn 58 = .ok (.iinc 1 (-1), 3) := by decide +kernel
theorem dX5_moveOn_61 : decode cX5_moveOn 61 = .ok (.goto (-50), 3) := by decide +kernel
theorem dX5_moveOn_64 : decode cX5_moveOn 64 = .ok (.return_, 1) := by decide +kernel
theorem dX6_init_0 : decode cX6_init 0 = .ok (.aload_n 0, 1) := by decide +kernel
theorem dX6_init_1 : decode cX6_init 1 = .ok (.invokespecial 3, 3) := by decide +kernel
theorem dX6_init_4 : decode cX6_init 4 = .ok (.aload_n 0, 1) := by decide +kernel
theorem dX6_init_5 : decode cX6_init 5 = .ok (.bipush 64, 2) := by decide +kernel
theorem dX6_init_7 : decode cX6_init 7 = .ok (.newarray .int, 2) := by decide +kernel
theorem dX6_init_9 : decode cX6_init 9 = .ok (.putfield 9, 3) := by decide +kernel
theorem dX6_init_12 : decode cX6_init 12 = .ok (.aload_n 0, 1) := by decide +kernel
theorem dX6_init_13 : decode cX6_init 13 = .ok (.aload_n 1, 1) := by decide +kernel
theorem dX6_init_14 : decode cX6_init 14 = .ok (.putfield 15, 3) := by decide +kernel
theorem dX6_init_17 : decode cX6_init 17 = .ok (.return_, 1) := by decide +kernel
theorem dX6_load_0 : decode cX6_load 0 = .ok (.iconst 1, 1) := by decide +kernel
theorem dX6_load_1 : decode cX6_load 1 = .ok (.aload_n 0, 1) := by decide +kernel
theorem dX6_load_2 : decode cX6_load 2 = .ok (.getfield 15, 3) := by decide +kernel
theorem dX6_load_5 : decode cX6_load 5 = .ok (.getfield 19, 3) := by decide +kernel
theorem dX6_load_8 : decode cX6_load 8 = .ok (.bipush 6, 2) := by decide +kernel
theorem dX6_load_10 : decode cX6_load 10 = .ok (.invokestatic 25, 3) := by decide +kernel
theorem dX6_load_13 : decode cX6_load 13 = .ok (.ishl, 1) := by decide +kernel
theorem dX6_load_14 : decode cX6_load 14 = .ok (.istore_n 2, 1) := by decide +kernel
theorem dX6_load_15 : decode cX6_load 15 = .ok (.aload_n 0, 1) := by decide +kernel
theorem dX6_load_16 : decode cX6_load 16 = .ok (.iload_n 2, 1) := by decide +kernel
theorem dX6_load_17 : decode cX6_load 17 = .ok (.invokevirtual 31, 3) := by decide +kernel
theorem dX6_load_20 : decode cX6_load 20 = .ok (.aload_n 0, 1) := by decide +kernel
theorem dX6_load_21 : decode cX6_load 21 = .ok (.iconst (-1), 1) := by decide +kernel
theorem dX6_load_22 : decode cX6_load 22 = .ok (.putfield 35, 3) := by decide +kernel
theorem dX6_load_25 : decode cX6_load 25 = .ok (.iconst 0, 1) := by decide +kernel
theorem dX6_load_26 : decode cX6_load 26 = .ok (.istore_n 3, 1) := by decide +kernel
theorem dX6_load_27 : decode cX6_load 27 = .ok (.iload_n 3, 1) := by decide +kernel
theorem dX6_load_28 : decode cX6_load 28 = .ok (.iload_n 2, 1) := by decide +kernel
theorem dX6_load_29 : decode cX6_load 29 = .ok (.if_icmp .ge 105, 3) := by decide +kernel
theorem dX6_load_32 : decode cX6_load 32 = .ok (.aload_n 0, 1) := by decide +kernel
theorem dX6_load_33 : decode cX6_load 33 = .ok (.getfield 9, 3) := by decide +kernel
theorem dX6_load_36 : decode cX6_load 36 = .ok (.iload_n 3, 1) := by decide +kernel
theorem dX6_load_37 : decode cX6_load 37 = .ok (.invokestatic 38, 3) := by decide +kernel
theorem dX6_load_40 : decode cX6_load 40 = .ok (.iload_n 1, 1) := by decide +kernel
theorem dX6_load_41 : decode cX6_load 41 = .ok (.if_icmp .le 6, 3) := by decide +kernel
theorem dX6_load_44 : decode cX6_load 44 = .ok (.goto 84, 3) := by decide +kernel
theorem dX6_load_47 : decode cX6_load 47 = .ok (.iconst 0, 1) := by decide +kernel
theorem dX6_load_48 : decode cX6_load 48 = .ok (.istore 4, 2) := by decide +kernel
theorem dX6_load_50 : decode cX6_load 50 = .ok (.iload 4, 2) := by decide +kernel
theorem dX6_load_52 : decode cX6_load 52 = .ok (.iload_n 2, 1) := by decide +kernel
theorem dX6_load_53 : decode cX6_load 53 = .ok (.if_icmp .ge 75, 3) := by decide +kernel
theorem dX6_load_56 : decode cX6_load 56 = .ok (.aload_n 0, 1) := by decide +kernel
theorem dX6_load_57 : decode cX6_load 57 = .ok (.getfield 9, 3) := by decide +kernel
theorem dX6_load_60 : decode cX6_load 60 = .ok (.iload_n 3, 1) := by decide +kernel
theorem dX6_load_61 : decode cX6_load 61 = .ok (.invokestatic 38, 3) := by decide +kernel
theorem dX6_load_64 : decode cX6_load 64 = .ok (.aload_n 0, 1) := by decide +kernel
theorem dX6_load_65 : decode cX6_load 65 = .ok (.getfield 9, 3) := by decide +kernel
theorem dX6_load_68 : decode cX6_load 68 = .ok (.iload 4, 2) := by decide +kernel
theorem dX6_load_70 : decode cX6_load 70 = .ok (.invokestatic 38, 3) := by decide +kernel
theorem dX6_load_73 : decode cX6_load 73 = .ok (.iadd, 1) := by decide +kernel
theorem dX6_load_74 : decode cX6_load 74 = .ok (.istore 5, 2) := by decide +kernel
theorem dX6_load_76 : decode cX6_load 76 = .ok (.iload_n 3, 1) := by decide +kernel
theorem dX6_load_77 : decode cX6_load 77 = .ok (.iload 4, 2) := by decide +kernel
theorem dX6_load_79 : decode cX6_load 79 = .ok (.iand, 1) := by decide +kernel
theorem dX6_load_80 : decode cX6_load 80 = .ok (.ifCond .ne 42, 3) := by decide +kernel
theorem dX6_load_83 : decode cX6_load 83 = .ok (.aload_n 0, 1) := by decide +kernel
theorem dX6_load_84 : decode cX6_load 84 = .ok (.getfield 9, 3) := by decide +kernel
theorem dX6_load_87 : decode cX6_load 87 = .ok (.iload 4, 2) := by decide +kernel
theorem dX6_load_89 : decode cX6_load 89 = .ok (.invokestatic 38, 3) := by decide +kernel
theorem dX6_load_92 : decode cX6_load 92 = .ok (.iload_n 1, 1) := by decide +kernel
theorem dX6_load_93 : decode cX6_load 93 = .ok (.if_icmp .gt 29, 3) := by decide +kernel
theorem dX6_load_96 : decode cX6_load 96 = .ok (.iload 5, 2) := by decide +kernel
theorem dX6_load_98 : decode cX6_load 98 = .ok (.aload_n 0, 1) := by decide +kernel
theorem dX6_load_99 : decode cX6_load 99 = .ok (.getfield 35, 3) := by decide +kernel
theorem dX6_load_102 : decode cX6_load 102 = .ok (.if_icmp .le 20, 3) := by decide +kernel
theorem dX6_load_105 : decode cX6_load 105 = .ok (.aload_n 0, 1) := by decide +kernel
theorem dX6_load_106 : decode cX6_load 106 = .ok (.iload 5, 2) := by decide +kernel
theorem dX6_load_108 : decode cX6_load 108 = .ok (.putfield 35, 3) := by decide +kernel
theorem dX6_load_111 : decode cX6_load 111 = .ok (.aload_n 0, 1) := by decide +kernel
theorem dX6_load_112 : decode cX6_load 112 = .ok (.iload_n 3, 1) := by decide +kernel
theorem dX6_load_113 : decode cX6_load 113 = .ok (.putfield 42, 3) := by decide +kernel
theorem dX6_load_116 : decode cX6_load 116 = .ok (.aload_n 0, 1) := by decide +kernel
theorem dX6_load_117 : decode cX6_load 117 = .ok (.iload 4, 2) := by decide +kernel
theorem dX6_load_119 : decode cX6_load 119 = .ok (.putfield 45, 3) := by decide +kernel
theorem dX6_load_122 : decode cX6_load 122 = .ok (.iinc 4 1, 3) := by decide +kernel
theorem dX6_load_125 : decode cX6_load 125 = .ok (.goto (-75), 3) := by decide +kernel
theorem dX6_load_128 : decode cX6_load 128 = .ok (.iinc 3 1, 3) := by decide +kernel
theorem dX6_load_131 : decode cX6_load 131 = .ok (.goto (-104), 3) := by decide +kernel
theorem dX6_load_134 : decode cX6_load 134 = .ok (.return_, 1) := by decide +kernel
theorem dX6_weigh_0 : decode cX6_weigh 0 = .ok (.iconst 0, 1) := by decide +kernel
theorem dX6_weigh_1 : decode cX6_weigh 1 = .ok (.istore_n 2, 1) := by decide +kernel
theorem dX6_weigh_2 : decode cX6_weigh 2 = .ok (.iload_n 2, 1) := by decide +kernel
theorem dX6_weigh_3 : decode cX6_weigh 3 = .ok (.iload_n 1, 1) := by decide +kernel
theorem dX6_weigh_4 : decode cX6_weigh 4 = .ok (.if_icmp .ge 72, 3) := by decide +kernel
theorem dX6_weigh_7 : decode cX6_weigh 7 = .ok (.iload_n 2, 1) := by decide +kernel
theorem dX6_weigh_8 : decode cX6_weigh 8 = .ok (.aload_n 0, 1) := by decide +kernel
theorem dX6_weigh_9 : decode cX6_weigh 9 = .ok (.getfield 9, 3) := by decide +kernel
theorem dX6_weigh_12 : decode cX6_weigh 12 = .ok (.arraylength, 1) := by decide +kernel
theorem dX6_weigh_13 : decode cX6_weigh 13 = .ok (.if_icmp .ge 63, 3) := by decide +kernel
theorem dX6_weigh_16 : decode cX6_weigh 16 = .ok (.iconst 0, 1) := by decide +kernel
theorem dX6_weigh_17 : decode cX6_weigh 17 = .ok (.istore_n 3, 1) := by decide +kernel
theorem dX6_weigh_18 : decode cX6_weigh 18 = .ok (.iconst 0, 1) := by decide +kernel
theorem dX6_weigh_19 : decode cX6_weigh 19 = .ok (.istore 4, 2) := by decide +kernel
theorem dX6_weigh_21 : decode cX6_weigh 21 = .ok (.iload 4, 2) := by decide +kernel
theorem dX6_weigh_23 : decode cX6_weigh 23 = .ok (.aload_n 0, 1) := by decide +kernel
theorem dX6_weigh_24 : decode cX6_weigh 24 = .ok (.getfield 15, 3) := by decide +kernel
theorem dX6_weigh_27 : decode cX6_weigh 27 = .ok (.getfield 19, 3) := by decide +kernel
theorem dX6_weigh_30 : decode cX6_weigh 30 = .ok (.if_icmp .ge 33, 3) := by decide +kernel
theorem dX6_weigh_33 : decode cX6_weigh 33 = .ok (.iload_n 2, 1) := by decide +kernel
theorem dX6_weigh_34 : decode cX6_weigh 34 = .ok (.iload 4, 2) := by decide +kernel
theorem dX6_weigh_36 : decode cX6_weigh 36 = .ok (.invokestatic 48, 3) := by decide +kernel
theorem dX6_weigh_39 : decode cX6_weigh 39 = .ok (.ifCond .eq 18, 3) := by decide +kernel
theorem dX6_weigh_42 : decode cX6_weigh 42 = .ok (.iload_n 3, 1) := by decide +kernel
theorem dX6_weigh_43 : decode cX6_weigh 43 = .ok (.aload_n 0, 1) := by decide +kernel
theorem dX6_weigh_44 : decode cX6_weigh 44 = .ok (.getfield 15, 3) := by decide +kernel
theorem dX6_weigh_47 : decode cX6_weigh 47 = .ok (.getfield 52, 3) := by decide +kernel
theorem dX6_weigh_50 : decode cX6_weigh 50 = .ok (.iload 4, 2) := by decide +kernel
theorem dX6_weigh_52 : decode cX6_weigh 52 = .ok (.invokestatic 38, 3) := by decide +kernel
theorem dX6_weigh_55 : decode cX6_weigh 55 = .ok (.iadd, 1) := by decide +kernel
theorem dX6_weigh_56 : decode cX6_weigh 56 = .ok (.istore_n 3, 1) := by decide +kernel
theorem dX6_weigh_57 : decode cX6_weigh 57 = .ok (.iinc 4 1, 3) := by decide +kernel
theorem dX6_weigh_60 : decode cX6_weigh 60 = .ok (.goto (-39), 3) := by decide +kernel
theorem dX6_weigh_63 : decode cX6_weigh 63 = .ok (.aload_n 0, 1) := by decide +kernel
theorem dX6_weigh_64 : decode cX6_weigh 64 = .ok (.getfield 9, 3) := by decide +kernel
theorem dX6_weigh_67 : decode cX6_weigh 67 = .ok (.iload_n 2, 1) := by decide +kernel
theorem dX6_weigh_68 : decode cX6_weigh 68 = .ok (.iload_n 3, 1) := by decide +kernel
theorem dX6_weigh_69 : decode cX6_weigh 69 = .ok (.iastore, 1) := by decide +kernel
theorem dX6_weigh_70 : decode cX6_weigh 70 = .ok (.iinc 2 1, 3) := by decide +kernel
theorem dX6_weigh_73 : decode cX6_weigh 73 = .ok (.goto (-71), 3) := by decide +kernel
theorem dX6_weigh_76 : decode cX6_weigh 76 = .ok (.return_, 1) := by decide +kernel
theorem dX7_init_0 : decode cX7_init 0 = .ok (.aload_n 0, 1) := by decide +kernel
theorem dX7_init_1 : decode cX7_init 1 = .ok (.invokespecial 3, 3) := by decide +kernel
theorem dX7_init_4 : decode cX7_init 4 = .ok (.aload_n 0, 1) := by decide +kernel
theorem dX7_init_5 : decode cX7_init 5 = .ok (.sipush 160, 3) := by decide +kernel
theorem dX7_init_8 : decode cX7_init 8 = .ok (.newarray .char, 2) := by decide +kernel
theorem dX7_init_10 : decode cX7_init 10 = .ok (.putfield 9, 3) := by decide +kernel
theorem dX7_init_13 : decode cX7_init 13 = .ok (.aload_n 0, 1) := by decide +kernel
theorem dX7_init_14 : decode cX7_init 14 = .ok (.bipush 14, 2) := by decide +kernel
theorem dX7_init_16 : decode cX7_init 16 = .ok (.newarray .int, 2) := by decide +kernel
theorem dX7_init_18 : decode cX7_init 18 = .ok (.putfield 15, 3) := by decide +kernel
theorem dX7_init_21 : decode cX7_init 21 = .ok (.aload_n 0, 1) := by decide +kernel
theorem dX7_init_22 : decode cX7_init 22 = .ok (.bipush 14, 2) := by decide +kernel
theorem dX7_init_24 : decode cX7_init 24 = .ok (.iconst 3, 1) := by decide +kernel
theorem dX7_init_25 : decode cX7_init 25 = .ok (.multianewarray 19 2, 4) := by decide +kernel
theorem dX7_init_29 : decode cX7_init 29 = .ok (.putfield 21, 3) := by decide +kernel
theorem dX7_init_32 : decode cX7_init 32 = .ok (.return_, 1) := by decide +kernel
theorem dX7_add_0 : decode cX7_add 0 = .ok (.aload_n 0, 1) := by decide +kernel
theorem dX7_add_1 : decode cX7_add 1 = .ok (.getfield 24, 3) := by decide +kernel
theorem dX7_add_4 : decode cX7_add 4 = .ok (.sipush 160, 3) := by decide +kernel
theorem dX7_add_7 : decode cX7_add 7 = .ok (.if_icmp .ge 24, 3) := by decide +kernel
theorem dX7_add_10 : decode cX7_add 10 = .ok (.aload_n 0, 1) := by decide +kernel
theorem dX7_add_11 : decode cX7_add 11 = .ok (.getfield 9, 3) := by decide +kernel
theorem dX7_add_14 : decode cX7_add 14 = .ok (.aload_n 0, 1) := by decide +kernel
theorem dX7_add_15 : decode cX7_add 15 = .ok (.getfield 24, 3) := by decide +kernel
theorem dX7_add_18 : decode cX7_add 18 = .ok (.iload_n 1, 1) := by decide +kernel
theorem dX7_add_19 : decode cX7_add 19 = .ok (.i2c, 1) := by decide +kernel
theorem dX7_add_20 : decode cX7_add 20 = .ok (.castore, 1) := by decide +kernel
theorem dX7_add_21 : decode cX7_add 21 = .ok (.aload_n 0, 1) := by decide +kernel
theorem dX7_add_22 : decode cX7_add 22 = .ok (.dup, 1) := by decide +kernel
theorem dX7_add_23 : decode cX7_add 23 = .ok (.getfield 24, 3) := by decide +kernel
theorem dX7_add_26 : decode cX7_add 26 = .ok (.iconst 1, 1) := by decide +kernel
theorem dX7_add_27 : decode cX7_add 27 = .ok (.iadd, 1) := by decide +kernel
theorem dX7_add_28 : decode cX7_add 28 = .ok (.putfield 24, 3) := by decide +kernel
theorem dX7_add_31 : decode cX7_add 31 = .ok (.aload_n 0, 1) := by decide +kernel
theorem dX7_add_32 : decode cX7_add 32 = .ok (.getfield 24, 3) := by decide +kernel
theorem dX7_add_35 : decode cX7_add 35 = .ok (.ireturn, 1) := by decide +kernel
theorem dX7_clear_0 : decode cX7_clear 0 = .ok (.aload_n 0, 1) := by decide +kernel
theorem dX7_clear_1 : decode cX7_clear 1 = .ok (.getfield 24, 3) := by decide +kernel
theorem dX7_clear_4 : decode cX7_clear 4 = .ok (.istore_n 1, 1) := by decide +kernel
theorem dX7_clear_5 : decode cX7_clear 5 = .ok (.aload_n 0, 1) := by decide +kernel
theorem dX7_clear_6 : decode cX7_clear 6 = .ok (.iconst 0, 1) := by decide +kernel
theorem dX7_clear_7 : decode cX7_clear 7 = .ok (.putfield 24, 3) := by decide +kernel
theorem dX7_clear_10 : decode cX7_clear 10 = .ok (.iload_n 1, 1) := by decide +kernel
theorem dX7_clear_11 : decode cX7_clear 11 = .ok (.ireturn, 1) := by decide +kernel
theorem dX7_read_0 : decode cX7_read 0 = .ok (.aload_n 0, 1) := by decide +kernel
theorem dX7_read_1 : decode cX7_read 1 = .ok (.aload_n 1, 1) := by decide +kernel
theorem dX7_read_2 : decode cX7_read 2 = .ok (.getfield 28, 3) := by decide +kernel
theorem dX7_read_5 : decode cX7_read 5 = .ok (.putfield 33, 3) := by decide +kernel
theorem dX7_read_8 : decode cX7_read 8 = .ok (.aload_n 0, 1) := by decide +kernel
theorem dX7_read_9 : decode cX7_read 9 = .ok (.aload_n 1, 1) := by decide +kernel
theorem dX7_read_10 : decode cX7_read 10 = .ok (.getfield 34, 3) := by decide +kernel
theorem dX7_read_13 : decode cX7_read 13 = .ok (.putfield 37, 3) := by decide +kernel
theorem dX7_read_16 : decode cX7_read 16 = .ok (.aload_n 0, 1) := by decide +kernel
theorem dX7_read_17 : decode cX7_read 17 = .ok (.aload_n 1, 1) := by decide +kernel
theorem dX7_read_18 : decode cX7_read 18 = .ok (.getfield 38, 3) := by decide +kernel
theorem dX7_read_21 : decode cX7_read 21 = .ok (.putfield 41, 3) := by decide +kernel
theorem dX7_read_24 : decode cX7_read 24 = .ok (.aload_n 0, 1) := by decide +kernel
theorem dX7_read_25 : decode cX7_read 25 = .ok (.iconst 0, 1) := by decide +kernel
theorem dX7_read_26 : decode cX7_read 26 = .ok (.putfield 42, 3) := by decide +kernel
theorem dX7_read_29 : decode cX7_read 29 = .ok (.aload_n 0, 1) := by decide +kernel
theorem dX7_read_30 : decode cX7_read 30 = .ok (.iconst 0, 1) := by decide +kernel
theorem dX7_read_31 : decode cX7_read 31 = .ok (.putfield 45, 3) := by decide +kernel
theorem dX7_read_34 : decode cX7_read 34 = .ok (.iconst 0, 1) := by decide +kernel
theorem dX7_read_35 : decode cX7_read 35 = .ok (.istore_n 2, 1) := by decide +kernel
theorem dX7_read_36 : decode cX7_read 36 = .ok (.iload_n 2, 1) := by decide +kernel
theorem dX7_read_37 : decode cX7_read 37 = .ok (.bipush 14, 2) := by decide +kernel
theorem dX7_read_39 : decode cX7_read 39 = .ok (.if_icmp .ge 68, 3) := by decide +kernel
theorem dX7_read_42 : decode cX7_read 42 = .ok (.aload_n 0, 1) := by decide +kernel
theorem dX7_read_43 : decode cX7_read 43 = .ok (.invokevirtual 48, 3) := by decide +kernel
theorem dX7_read_46 : decode cX7_read 46 = .ok (.aload_n 0, 1) := by decide +kernel
theorem dX7_read_47 : decode cX7_read 47 = .ok (.iload_n 2, 1) := by decide +kernel
theorem dX7_read_48 : decode cX7_read 48 = .ok (.invokevirtual 51, 3) := by decide +kernel
theorem dX7_read_51 : decode cX7_read 51 = .ok (.ifCond .ne 8, 3) := by decide +kernel
theorem dX7_read_54 : decode cX7_read 54 = .ok (.aload_n 0, 1) := by decide +kernel
theorem dX7_read_55 : decode cX7_read 55 = .ok (.getfield 55, 3) := by decide +kernel
theorem dX7_read_58 : decode cX7_read 58 = .ok (.ireturn, 1) := by decide +kernel
theorem dX7_read_59 : decode cX7_read 59 = .ok (.aload_n 0, 1) := by decide +kernel
theorem dX7_read_60 : decode cX7_read 60 = .ok (.iload_n 2, 1) := by decide +kernel
theorem dX7_read_61 : decode cX7_read 61 = .ok (.iconst 1, 1) := by decide +kernel
theorem dX7_read_62 : decode cX7_read 62 = .ok (.iadd, 1) := by decide +kernel
theorem dX7_read_63 : decode cX7_read 63 = .ok (.putfield 42, 3) := by decide +kernel
theorem dX7_read_66 : decode cX7_read 66 = .ok (.aload_n 0, 1) := by decide +kernel
theorem dX7_read_67 : decode cX7_read 67 = .ok (.invokevirtual 48, 3) := by decide +kernel
theorem dX7_read_70 : decode cX7_read 70 = .ok (.aload_n 0, 1) := by decide +kernel
theorem dX7_read_71 : decode cX7_read 71 = .ok (.getfield 55, 3) := by decide +kernel
theorem dX7_read_74 : decode cX7_read 74 = .ok (.aload_n 0, 1) := by decide +kernel
theorem dX7_read_75 : decode cX7_read 75 = .ok (.getfield 24, 3) := by decide +kernel
theorem dX7_read_78 : decode cX7_read 78 = .ok (.if_icmp .lt 5, 3) := by decide +kernel
theorem dX7_read_81 : decode cX7_read 81 = .ok (.iconst (-1), 1) := by decide +kernel
theorem dX7_read_82 : decode cX7_read 82 = .ok (.ireturn, 1) := by decide +kernel
theorem dX7_read_83 : decode cX7_read 83 = .ok (.aload_n 0, 1) := by decide +kernel
theorem dX7_read_84 : decode cX7_read 84 = .ok (.aload_n 0, 1) := by decide +kernel
theorem dX7_read_85 : decode cX7_read 85 = .ok (.getfield 55, 3) := by decide +kernel
theorem dX7_read_88 : decode cX7_read 88 = .ok (.invokevirtual 58, 3) := by decide +kernel
theorem dX7_read_91 : decode cX7_read 91 = .ok (.bipush 59, 2) := by decide +kernel
theorem dX7_read_93 : decode cX7_read 93 = .ok (.if_icmp .eq 8, 3) := by decide +kernel
theorem dX7_read_96 : decode cX7_read 96 = .ok (.aload_n 0, 1) := by decide +kernel
theorem dX7_read_97 : decode cX7_read 97 = .ok (.getfield 55, 3) := by decide +kernel
theorem dX7_read_100 : decode cX7_read 100 = .ok (.ireturn, 1) := by decide +kernel
theorem dX7_read_101 : decode cX7_read 101 = .ok (.iinc 2 1, 3) := by decide +kernel
theorem dX7_read_104 : decode cX7_read 104 = .ok (.goto (-68), 3) := by decide +kernel
theorem dX7_read_107 : decode cX7_read 107 = .ok (.aload_n 0, 1) := by decide +kernel
theorem dX7_read_108 : decode cX7_read 108 = .ok (.getfield 55, 3) := by decide +kernel
theorem dX7_read_111 : decode cX7_read 111 = .ok (.ireturn, 1) := by decide +kernel
theorem dX7_readClause_0 : decode cX7_readClause 0 = .ok (.iload_n 1, 1) := by decide +kernel
theorem dX7_readClause_1 : decode cX7_readClause 1 = .ok (.ifCond .lt 9, 3) := by decide +kernel
theorem dX7_readClause_4 : decode cX7_readClause 4 = .ok (.iload_n 1, 1) := by decide +kernel
theorem dX7_readClause_5 : decode cX7_readClause 5 = .ok (.bipush 14, 2) := by decide +kernel
theorem dX7_readClause_7 : decode cX7_readClause 7 = .ok (.if_icmp .lt 5, 3) := by decide +kernel
theorem dX7_readClause_10 : decode cX7_readClause 10 = .ok (.iconst 0, 1) := by decide +kernel
theorem dX7_readClause_11 : decode cX7_readClause 11 = .ok (.ireturn, 1) := by decide +kernel
theorem dX7_readClause_12 : decode cX7_readClause 12 = .ok (.aload_n 0, 1) := by decide +kernel
theorem dX7_readClause_13 : decode cX7_readClause 13 = .ok (.invokevirtual 62, 3) := by decide +kernel
theorem dX7_readClause_16 : decode cX7_readClause 16 = .ok (.istore_n 2, 1) := by decide +kernel
theorem dX7_readClause_17 : decode cX7_readClause 17 = .ok (.iload_n 2, 1) := by decide +kernel
theorem dX7_readClause_18 : decode cX7_readClause 18 = .ok (.iconst (-1), 1) := by decide +kernel
theorem dX7_readClause_19 : decode cX7_readClause 19 = .ok (.if_icmp .eq 11, 3) := by decide +kernel
theorem dX7_readClause_22 : decode cX7_readClause 22 = .ok (.aload_n 0, 1) := by decide +kernel
theorem dX7_readClause_23 : decode cX7_readClause 23 = .ok (.iload_n 2, 1) := by decide +kernel
theorem dX7_readClause_24 : decode cX7_readClause 24 = .ok (.invokevirtual 66, 3) := by decide +kernel
theorem dX7_readClause_27 : decode cX7_readClause 27 = .ok (.ifCond .ne 5, 3) := by decide +kernel
theorem dX7_readClause_30 : decode cX7_readClause 30 = .ok (.iconst 0, 1) := by decide +kernel
theorem dX7_readClause_31 : decode cX7_readClause 31 = .ok (.ireturn, 1) := by decide +kernel
theorem dX7_readClause_32 : decode cX7_readClause 32 = .ok (.aload_n 0, 1) := by decide +kernel
theorem dX7_readClause_33 : decode cX7_readClause 33 = .ok (.getfield 15, 3) := by decide +kernel
theorem dX7_readClause_36 : decode cX7_readClause 36 = .ok (.iload_n 1, 1) := by decide +kernel
theorem dX7_readClause_37 : decode cX7_readClause 37 = .ok (.iload_n 2, 1) := by decide +kernel
theorem dX7_readClause_38 : decode cX7_readClause 38 = .ok (.iastore, 1) := by decide +kernel
theorem dX7_readClause_39 : decode cX7_readClause 39 = .ok (.iload_n 2, 1) := by decide +kernel
theorem dX7_readClause_40 : decode cX7_readClause 40 = .ok (.invokestatic 69, 3) := by decide +kernel
theorem dX7_readClause_43 : decode cX7_readClause 43 = .ok (.astore_n 3, 1) := by decide +kernel
theorem dX7_readClause_44 : decode cX7_readClause 44 = .ok (.iconst 0, 1) := by decide +kernel
theorem dX7_readClause_45 : decode cX7_readClause 45 = .ok (.istore 4, 2) := by decide +kernel
theorem dX7_readClause_47 : decode cX7_readClause 47 = .ok (.iload 4, 2) := by decide +kernel
theorem dX7_readClause_49 : decode cX7_readClause 49 = .ok (.aload_n 3, 1) := by decide +kernel
theorem dX7_readClause_50 : decode cX7_readClause 50 = .ok (.invokevirtual 73, 3) := by decide +kernel
theorem dX7_readClause_53 : decode cX7_readClause 53 = .ok (.if_icmp .ge 74, 3) := by decide +kernel
theorem dX7_readClause_56 : decode cX7_readClause 56 = .ok (.iload 4, 2) := by decide +kernel
theorem dX7_readClause_58 : decode cX7_readClause 58 = .ok (.iconst 3, 1) := by decide +kernel
theorem dX7_readClause_59 : decode cX7_readClause 59 = .ok (.if_icmp .ge 68, 3) := by decide +kernel
theorem dX7_readClause_62 : decode cX7_readClause 62 = .ok (.aload_n 3, 1) := by decide +kernel
theorem dX7_readClause_63 : decode cX7_readClause 63 = .ok (.iload 4, 2) := by decide +kernel
theorem dX7_readClause_65 : decode cX7_readClause 65 = .ok (.invokevirtual 77, 3) := by decide +kernel
theorem dX7_readClause_68 : decode cX7_readClause 68 = .ok (.istore 5, 2) := by decide +kernel
theorem dX7_readClause_70 : decode cX7_readClause 70 = .ok (.aload_n 0, 1) := by decide +kernel
theorem dX7_readClause_71 : decode cX7_readClause 71 = .ok (.invokevirtual 48, 3) := by decide +kernel
theorem dX7_readClause_74 : decode cX7_readClause 74 = .ok (.aload_n 0, 1) := by decide +kernel
theorem dX7_readClause_75 : decode cX7_readClause 75 = .ok (.invokevirtual 81, 3) := by decide +kernel
theorem dX7_readClause_78 : decode cX7_readClause 78 = .ok (.istore 6, 2) := by decide +kernel
theorem dX7_readClause_80 : decode cX7_readClause 80 = .ok (.iload 6, 2) := by decide +kernel
theorem dX7_readClause_82 : decode cX7_readClause 82 = .ok (.iload 5, 2) := by decide +kernel
theorem dX7_readClause_84 : decode cX7_readClause 84 = .ok (.invokestatic 84, 3) := by decide +kernel
theorem dX7_readClause_87 : decode cX7_readClause 87 = .ok (.if_icmp .lt 21, 3) := by decide +kernel
theorem dX7_readClause_90 : decode cX7_readClause 90 = .ok (.iload 6, 2) := by decide +kernel
theorem dX7_readClause_92 : decode cX7_readClause 92 = .ok (.iload 5, 2) := by decide +kernel
theorem dX7_readClause_94 : decode cX7_readClause 94 = .ok (.aload_n 0, 1) := by decide +kernel
theorem dX7_readClause_95 : decode cX7_readClause 95 = .ok (.getfield 21, 3) := by decide +kernel
theorem dX7_readClause_98 : decode cX7_readClause 98 = .ok (.iload_n 1, 1) := by decide +kernel
theorem dX7_readClause_99 : decode cX7_readClause 99 = .ok (.aaload, 1) := by decide +kernel
theorem dX7_readClause_100 : decode cX7_readClause 100 = .ok (.iconst 0, 1) := by decide +kernel
theorem dX7_readClause_101 : decode cX7_readClause 101 = .ok (.iaload, 1) := by decide +kernel
theorem dX7_readClause_102 : decode cX7_readClause 102 = .ok (.invokestatic 88, 3) := by decide +kernel
theorem dX7_readClause_105 : decode cX7_readClause 105 = .ok (.if_icmp .le 5, 3) := by decide +kernel
theorem dX7_readClause_108 : decode cX7_readClause 108 = .ok (.iconst 0, 1) := by decide +kernel
theorem dX7_readClause_109 : decode cX7_readClause 109 = .ok (.ireturn, 1) := by decide +kernel
theorem dX7_readClause_110 : decode cX7_readClause 110 = .ok (.aload_n 0, 1) := by decide +kernel
theorem dX7_readClause_111 : decode cX7_readClause 111 = .ok (.getfield 21, 3) := by decide +kernel
theorem dX7_readClause_114 : decode cX7_readClause 114 = .ok (.iload_n 1, 1) := by decide +kernel
theorem dX7_readClause_115 : decode cX7_readClause 115 = .ok (.aaload, 1) := by decide +kernel
theorem dX7_readClause_116 : decode cX7_readClause 116 = .ok (.iload 4, 2) := by decide +kernel
theorem dX7_readClause_118 : decode cX7_readClause 118 = .ok (.iload 6, 2) := by decide +kernel
theorem dX7_readClause_120 : decode cX7_readClause 120 = .ok (.iastore, 1) := by decide +kernel
theorem dX7_readClause_121 : decode cX7_readClause 121 = .ok (.iinc 4 1, 3) := by decide +kernel
theorem dX7_readClause_124 : decode cX7_readClause 124 = .ok (.goto (-77), 3) := by decide +kernel
theorem dX7_readClause_127 : decode cX7_readClause 127 = .ok (.iconst 1, 1) := by decide +kernel
theorem dX7_readClause_128 : decode cX7_readClause 128 = .ok (.ireturn, 1) := by decide +kernel
theorem dX7_hasRoomFor_0 : decode cX7_hasRoomFor 0 = .ok (.iload_n 1, 1) := by decide +kernel
theorem dX7_hasRoomFor_1 : decode cX7_hasRoomFor 1 = .ok (.iconst 3, 1) := by decide +kernel
theorem dX7_hasRoomFor_2 : decode cX7_hasRoomFor 2 = .ok (.if_icmp .gt 16, 3) := by decide +kernel
theorem dX7_hasRoomFor_5 : decode cX7_hasRoomFor 5 = .ok (.aload_n 0, 1) := by decide +kernel
theorem dX7_hasRoomFor_6 : decode cX7_hasRoomFor 6 = .ok (.dup, 1) := by decide +kernel
theorem dX7_hasRoomFor_7 : decode cX7_hasRoomFor 7 = .ok (.getfield 33, 3) := by decide +kernel
theorem dX7_hasRoomFor_10 : decode cX7_hasRoomFor 10 = .ok (.iconst 1, 1) := by decide +kernel
theorem dX7_hasRoomFor_11 : decode cX7_hasRoomFor 11 = .ok (.iadd, 1) := by decide +kernel
theorem dX7_hasRoomFor_12 : decode cX7_hasRoomFor 12 = .ok (.putfield 33, 3) := by decide +kernel
theorem dX7_hasRoomFor_15 : decode cX7_hasRoomFor 15 = .ok (.goto 62, 3) := by decide +kernel
theorem dX7_hasRoomFor_18 : decode cX7_hasRoomFor 18 = .ok (.iload_n 1, 1) := by decide +kernel
theorem dX7_hasRoomFor_19 : decode cX7_hasRoomFor 19 = .ok (.bipush 7, 2) := by decide +kernel
theorem dX7_hasRoomFor_21 : decode cX7_hasRoomFor 21 = .ok (.if_icmp .ge 16, 3) := by decide +kernel
theorem dX7_hasRoomFor_24 : decode cX7_hasRoomFor 24 = .ok (.aload_n 0, 1) := by decide +kernel
theorem dX7_hasRoomFor_25 : decode cX7_hasRoomFor 25 = .ok (.dup, 1) := by decide +kernel
theorem dX7_hasRoomFor_26 : decode cX7_hasRoomFor 26 = .ok (.getfield 41, 3) := by decide +kernel
theorem dX7_hasRoomFor_29 : decode cX7_hasRoomFor 29 = .ok (.iconst 1, 1) := by decide +kernel
theorem dX7_hasRoomFor_30 : decode cX7_hasRoomFor 30 = .ok (.iadd, 1) := by decide +kernel
theorem dX7_hasRoomFor_31 : decode cX7_hasRoomFor 31 = .ok (.putfield 41, 3) := by decide +kernel
theorem dX7_hasRoomFor_34 : decode cX7_hasRoomFor 34 = .ok (.goto 43, 3) := by decide +kernel
theorem dX7_hasRoomFor_37 : decode cX7_hasRoomFor 37 = .ok (.iload_n 1, 1) := by decide +kernel
theorem dX7_hasRoomFor_38 : decode cX7_hasRoomFor 38 = .ok (.bipush 12, 2) := by decide +kernel
theorem dX7_hasRoomFor_40 : decode cX7_hasRoomFor 40 = .ok (.if_icmp .ne 16, 3) := by decide +kernel
theorem dX7_hasRoomFor_43 : decode cX7_hasRoomFor 43 = .ok (.aload_n 0, 1) := by decide +kernel
theorem dX7_hasRoomFor_44 : decode cX7_hasRoomFor 44 = .ok (.dup, 1) := by decide +kernel
theorem dX7_hasRoomFor_45 : decode cX7_hasRoomFor 45 = .ok (.getfield 37, 3) := by decide +kernel
theorem dX7_hasRoomFor_48 : decode cX7_hasRoomFor 48 = .ok (.iconst 1, 1) := by decide +kernel
theorem dX7_hasRoomFor_49 : decode cX7_hasRoomFor 49 = .ok (.iadd, 1) := by decide +kernel
theorem dX7_hasRoomFor_50 : decode cX7_hasRoomFor 50 = .ok (.putfield 37, 3) := by decide +kernel
theorem dX7_hasRoomFor_53 : decode cX7_hasRoomFor 53 = .ok (.goto 24, 3) := by decide +kernel
theorem dX7_hasRoomFor_56 : decode cX7_hasRoomFor 56 = .ok (.iload_n 1, 1) := by decide +kernel
theorem dX7_hasRoomFor_57 : decode cX7_hasRoomFor 57 = .ok (.bipush 10, 2) := by decide +kernel
theorem dX7_hasRoomFor_59 : decode cX7_hasRoomFor 59 = .ok (.if_icmp .ne 18, 3) := by decide +kernel
theorem dX7_hasRoomFor_62 : decode cX7_hasRoomFor 62 = .ok (.aload_n 0, 1) := by decide +kernel
theorem dX7_hasRoomFor_63 : decode cX7_hasRoomFor 63 = .ok (.iconst 0, 1) := by decide +kernel
theorem dX7_hasRoomFor_64 : decode cX7_hasRoomFor 64 = .ok (.putfield 33, 3) := by decide +kernel
theorem dX7_hasRoomFor_67 : decode cX7_hasRoomFor 67 = .ok (.aload_n 0, 1) := by decide +kernel
theorem dX7_hasRoomFor_68 : decode cX7_hasRoomFor 68 = .ok (.iconst 0, 1) := by decide +kernel
theorem dX7_hasRoomFor_69 : decode cX7_hasRoomFor 69 = .ok (.putfield 37, 3) := by decide +kernel
theorem dX7_hasRoomFor_72 : decode cX7_hasRoomFor 72 = .ok (.aload_n 0, 1) := by decide +kernel
theorem dX7_hasRoomFor_73 : decode cX7_hasRoomFor 73 = .ok (.iconst 0, 1) := by decide +kernel
theorem dX7_hasRoomFor_74 : decode cX7_hasRoomFor 74 = .ok (.putfield 41, 3) := by decide +kernel
theorem dX7_hasRoomFor_77 : decode cX7_hasRoomFor 77 = .ok (.aload_n 0, 1) := by decide +kernel
theorem dX7_hasRoomFor_78 : decode cX7_hasRoomFor 78 = .ok (.getfield 33, 3) := by decide +kernel
theorem dX7_hasRoomFor_81 : decode cX7_hasRoomFor 81 = .ok (.bipush 9, 2) := by decide +kernel
theorem dX7_hasRoomFor_83 : decode cX7_hasRoomFor 83 = .ok (.if_icmp .gt 24, 3) := by decide +kernel
theorem dX7_hasRoomFor_86 : decode cX7_hasRoomFor 86 = .ok (.aload_n 0, 1) := by decide +kernel
theorem dX7_hasRoomFor_87 : decode cX7_hasRoomFor 87 = .ok (.getfield 37, 3) := by decide +kernel
theorem dX7_hasRoomFor_90 : decode cX7_hasRoomFor 90 = .ok (.bipush 6, 2) := by decide +kernel
theorem dX7_hasRoomFor_92 : decode cX7_hasRoomFor 92 = .ok (.if_icmp .gt 15, 3) := by decide +kernel
theorem dX7_hasRoomFor_95 : decode cX7_hasRoomFor 95 = .ok (.aload_n 0, 1) := by decide +kernel
theorem dX7_hasRoomFor_96 : decode cX7_hasRoomFor 96 = .ok (.getfield 41, 3) := by decide +kernel
theorem dX7_hasRoomFor_99 : decode cX7_hasRoomFor 99 = .ok (.iconst 3, 1) := by decide +kernel
theorem dX7_hasRoomFor_100 : decode cX7_hasRoomFor 100 = .ok (.if_icmp .gt 7, 3) := by decide +kernel
theorem dX7_hasRoomFor_103 : decode cX7_hasRoomFor 103 = .ok (.iconst 1, 1) := by decide +kernel
theorem dX7_hasRoomFor_104 : decode cX7_hasRoomFor 104 = .ok (.goto 4, 3) := by decide +kernel
theorem dX7_hasRoomFor_107 : decode cX7_hasRoomFor 107 = .ok (.iconst 0, 1) := by decide +kernel
theorem dX7_hasRoomFor_108 : decode cX7_hasRoomFor 108 = .ok (.ireturn, 1) := by decide +kernel
theorem dX7_obey_0 : decode cX7_obey 0 = .ok (.iload_n 1, 1) := by decide +kernel
theorem dX7_obey_1 : decode cX7_obey 1 = .ok (.ifCond .lt 9, 3) := by decide +kernel
theorem dX7_obey_4 : decode cX7_obey 4 = .ok (.iload_n 1, 1) := by decide +kernel
theorem dX7_obey_5 : decode cX7_obey 5 = .ok (.bipush 14, 2) := by decide +kernel
theorem dX7_obey_7 : decode cX7_obey 7 = .ok (.if_icmp .lt 4, 3) := by decide +kernel
theorem dX7_obey_10 : decode cX7_obey 10 = .ok (.return_, 1) := by decide +kernel
theorem dX7_obey_11 : decode cX7_obey 11 = .ok (.aload_n 0, 1) := by decide +kernel
theorem dX7_obey_12 : decode cX7_obey 12 = .ok (.getfield 15, 3) := by decide +kernel
theorem dX7_obey_15 : decode cX7_obey 15 = .ok (.iload_n 1, 1) := by decide +kernel
theorem dX7_obey_16 : decode cX7_obey 16 = .ok (.iaload, 1) := by decide +kernel
theorem dX7_obey_17 : decode cX7_obey 17 = .ok (.istore_n 3, 1) := by decide +kernel
theorem dX7_obey_18 : decode cX7_obey 18 = .ok (.aload_n 0, 1) := by decide +kernel
theorem dX7_obey_19 : decode cX7_obey 19 = .ok (.getfield 21, 3) := by decide +kernel
theorem dX7_obey_22 : decode cX7_obey 22 = .ok (.iload_n 1, 1) := by decide +kernel
theorem dX7_obey_23 : decode cX7_obey 23 = .ok (.aaload, 1) := by decide +kernel
theorem dX7_obey_24 : decode cX7_obey 24 = .ok (.iconst 0, 1) := by decide +kernel
theorem dX7_obey_25 : decode cX7_obey 25 = .ok (.iaload, 1) := by decide +kernel
theorem dX7_obey_26 : decode cX7_obey 26 = .ok (.istore 4, 2) := by decide +kernel
theorem dX7_obey_28 : decode cX7_obey 28 = .ok (.aload_n 0, 1) := by decide +kernel
theorem dX7_obey_29 : decode cX7_obey 29 = .ok (.getfield 21, 3) := by decide +kernel
theorem dX7_obey_32 : decode cX7_obey 32 = .ok (.iload_n 1, 1) := by decide +kernel
theorem dX7_obey_33 : decode cX7_obey 33 = .ok (.aaload, 1) := by decide +kernel
theorem dX7_obey_34 : decode cX7_obey 34 = .ok (.iconst 1, 1) := by decide +kernel
theorem dX7_obey_35 : decode cX7_obey 35 = .ok (.iaload, 1) := by decide +kernel
theorem dX7_obey_36 : decode cX7_obey 36 = .ok (.istore 5, 2) := by decide +kernel
theorem dX7_obey_38 : decode cX7_obey 38 = .ok (.aload_n 0, 1) := by decide +kernel
theorem dX7_obey_39 : decode cX7_obey 39 = .ok (.getfield 21, 3) := by decide +kernel
theorem dX7_obey_42 : decode cX7_obey 42 = .ok (.iload_n 1, 1) := by decide +kernel
theorem dX7_obey_43 : decode cX7_obey 43 = .ok (.aaload, 1) := by decide +kernel
theorem dX7_obey_44 : decode cX7_obey 44 = .ok (.iconst 2, 1) := by decide +kernel
theorem dX7_obey_45 : decode cX7_obey 45 = .ok (.iaload, 1) := by decide +kernel
theorem dX7_obey_46 : decode cX7_obey 46 = .ok (.istore 6, 2) := by decide +kernel
theorem dX7_obey_48 : decode cX7_obey 48 = .ok (.iload_n 3, 1) := by decide +kernel
theorem dX7_obey_49 : decode cX7_obey 49 = .ok (.iconst 3, 1) := by decide +kernel
theorem dX7_obey_50 : decode cX7_obey 50 = .ok (.if_icmp .ge 17, 3) := by decide +kernel
theorem dX7_obey_53 : decode cX7_obey 53 = .ok (.aload_n 2, 1) := by decide +kernel
theorem dX7_obey_54 : decode cX7_obey 54 = .ok (.iload_n 3, 1) := by decide +kernel
theorem dX7_obey_55 : decode cX7_obey 55 = .ok (.iload 4, 2) := by decide +kernel
theorem dX7_obey_57 : decode cX7_obey 57 = .ok (.iload 5, 2) := by decide +kernel
theorem dX7_obey_59 : decode cX7_obey 59 = .ok (.iload 6, 2) := by decide +kernel
theorem dX7_obey_61 : decode cX7_obey 61 = .ok (.invokevirtual 92, 3) := by decide +kernel
theorem dX7_obey_64 : decode cX7_obey 64 = .ok (.goto 109, 3) := by decide +kernel
theorem dX7_obey_67 : decode cX7_obey 67 = .ok (.iload_n 3, 1) := by decide +kernel
theorem dX7_obey_68 : decode cX7_obey 68 = .ok (.iconst 3, 1) := by decide +kernel
theorem dX7_obey_69 : decode cX7_obey 69 = .ok (.if_icmp .ne 16, 3) := by decide +kernel
theorem dX7_obey_72 : decode cX7_obey 72 = .ok (.aload_n 2, 1) := by decide +kernel
theorem dX7_obey_73 : decode cX7_obey 73 = .ok (.iconst 3, 1) := by decide +kernel
theorem dX7_obey_74 : decode cX7_obey 74 = .ok (.iload 4, 2) := by decide +kernel
theorem dX7_obey_76 : decode cX7_obey 76 = .ok (.iconst 1, 1) := by decide +kernel
theorem dX7_obey_77 : decode cX7_obey 77 = .ok (.iload 5, 2) := by decide +kernel
theorem dX7_obey_79 : decode cX7_obey 79 = .ok (.invokevirtual 92, 3) := by decide +kernel
theorem dX7_obey_82 : decode cX7_obey 82 = .ok (.goto 91, 3) := by decide +kernel
theorem dX7_obey_85 : decode cX7_obey 85 = .ok (.iload_n 3, 1) := by decide +kernel
theorem dX7_obey_86 : decode cX7_obey 86 = .ok (.bipush 7, 2) := by decide +kernel
theorem dX7_obey_88 : decode cX7_obey 88 = .ok (.if_icmp .ge 13, 3) := by decide +kernel
theorem dX7_obey_91 : decode cX7_obey 91 = .ok (.aload_n 2, 1) := by decide +kernel
theorem dX7_obey_92 : decode cX7_obey 92 = .ok (.iload_n 3, 1) := by decide +kernel
theorem dX7_obey_93 : decode cX7_obey 93 = .ok (.iconst 4, 1) := by decide +kernel
theorem dX7_obey_94 : decode cX7_obey 94 = .ok (.isub, 1) := by decide +kernel
theorem dX7_obey_95 : decode cX7_obey 95 = .ok (.invokevirtual 96, 3) := by decide +kernel
theorem dX7_obey_98 : decode cX7_obey 98 = .ok (.goto 75, 3) := by decide +kernel
theorem dX7_obey_101 : decode cX7_obey 101 = .ok (.iload_n 3, 1) := by decide +kernel
theorem dX7_obey_102 : decode cX7_obey 102 = .ok (.bipush 10, 2) := by decide +kernel
theorem dX7_obey_104 : decode cX7_obey 104 = .ok (.if_icmp .ge 14, 3) := by decide +kernel
theorem dX7_obey_107 : decode cX7_obey 107 = .ok (.aload_n 2, 1) := by decide +kernel
theorem dX7_obey_108 : decode cX7_obey 108 = .ok (.iload_n 3, 1) := by decide +kernel
theorem dX7_obey_109 : decode cX7_obey 109 = .ok (.bipush 7, 2) := by decide +kernel
theorem dX7_obey_111 : decode cX7_obey 111 = .ok (.isub, 1) := by decide +kernel
theorem dX7_obey_112 : decode cX7_obey 112 = .ok (.putfield 100, 3) := by decide +kernel
theorem dX7_obey_115 : decode cX7_obey 115 = .ok (.goto 58, 3) := by decide +kernel
theorem dX7_obey_118 : decode cX7_obey 118 = .ok (.iload_n 3, 1) := by decide +kernel
theorem dX7_obey_119 : decode cX7_obey 119 = .ok (.bipush 10, 2) := by decide +kernel
theorem dX7_obey_121 : decode cX7_obey 121 = .ok (.if_icmp .ne 10, 3) := by decide +kernel
theorem dX7_obey_124 : decode cX7_obey 124 = .ok (.aload_n 2, 1) := by decide +kernel
theorem dX7_obey_125 : decode cX7_obey 125 = .ok (.invokevirtual 103, 3) := by decide +kernel
theorem dX7_obey_128 : decode cX7_obey 128 = .ok (.goto 45, 3) := by decide +kernel
theorem dX7_obey_131 : decode cX7_obey 131 = .ok (.iload_n 3, 1) := by decide +kernel
theorem dX7_obey_132 : decode cX7_obey 132 = .ok (.bipush 11, 2) := by decide +kernel
theorem dX7_obey_134 : decode cX7_obey 134 = .ok (.if_icmp .ne 14, 3) := by decide +kernel
theorem dX7_obey_137 : decode cX7_obey 137 = .ok (.aload_n 2, 1) := by decide +kernel
theorem dX7_obey_138 : decode cX7_obey 138 = .ok (.iload 4, 2) := by decide +kernel
theorem dX7_obey_140 : decode cX7_obey 140 = .ok (.iload 5, 2) := by decide +kernel
theorem dX7_obey_142 : decode cX7_obey 142 = .ok (.invokevirtual 106, 3) := by decide +kernel
theorem dX7_obey_145 : decode cX7_obey 145 = .ok (.goto 28, 3) := by decide +kernel
theorem dX7_obey_148 : decode cX7_obey 148 = .ok (.iload_n 3, 1) := by decide +kernel
theorem dX7_obey_149 : decode cX7_obey 149 = .ok (.bipush 12, 2) := by decide +kernel
theorem dX7_obey_151 : decode cX7_obey 151 = .ok (.if_icmp .ne 14, 3) := by decide +kernel
theorem dX7_obey_154 : decode cX7_obey 154 = .ok (.aload_n 2, 1) := by decide +kernel
theorem dX7_obey_155 : decode cX7_obey 155 = .ok (.iload 4, 2) := by decide +kernel
theorem dX7_obey_157 : decode cX7_obey 157 = .ok (.iload 5, 2) := by decide +kernel
theorem dX7_obey_159 : decode cX7_obey 159 = .ok (.invokevirtual 110, 3) := by decide +kernel
theorem dX7_obey_162 : decode cX7_obey 162 = .ok (.goto 11, 3) := by decide +kernel
theorem dX7_obey_165 : decode cX7_obey 165 = .ok (.aload_n 2, 1) := by decide +kernel
theorem dX7_obey_166 : decode cX7_obey 166 = .ok (.iload 4, 2) := by decide +kernel
theorem dX7_obey_168 : decode cX7_obey 168 = .ok (.iload 5, 2) := by decide +kernel
theorem dX7_obey_170 : decode cX7_obey 170 = .ok (.invokevirtual 113, 3) := by decide +kernel
theorem dX7_obey_173 : decode cX7_obey 173 = .ok (.return_, 1) := by decide +kernel
theorem dX7_goOn_0 : decode cX7_goOn 0 = .ok (.aload_n 0, 1) := by decide +kernel
theorem dX7_goOn_1 : decode cX7_goOn 1 = .ok (.aload_n 0, 1) := by decide +kernel
theorem dX7_goOn_2 : decode cX7_goOn 2 = .ok (.getfield 45, 3) := by decide +kernel
theorem dX7_goOn_5 : decode cX7_goOn 5 = .ok (.putfield 55, 3) := by decide +kernel
theorem dX7_goOn_8 : decode cX7_goOn 8 = .ok (.aload_n 0, 1) := by decide +kernel
theorem dX7_goOn_9 : decode cX7_goOn 9 = .ok (.getfield 55, 3) := by decide +kernel
theorem dX7_goOn_12 : decode cX7_goOn 12 = .ok (.aload_n 0, 1) := by decide +kernel
theorem dX7_goOn_13 : decode cX7_goOn 13 = .ok (.getfield 24, 3) := by decide +kernel
theorem dX7_goOn_16 : decode cX7_goOn 16 = .ok (.if_icmp .ge 29, 3) := by decide +kernel
theorem dX7_goOn_19 : decode cX7_goOn 19 = .ok (.aload_n 0, 1) := by decide +kernel
theorem dX7_goOn_20 : decode cX7_goOn 20 = .ok (.aload_n 0, 1) := by decide +kernel
theorem dX7_goOn_21 : decode cX7_goOn 21 = .ok (.getfield 55, 3) := by decide +kernel
theorem dX7_goOn_24 : decode cX7_goOn 24 = .ok (.invokevirtual 58, 3) := by decide +kernel
theorem dX7_goOn_27 : decode cX7_goOn 27 = .ok (.bipush 32, 2) := by decide +kernel
theorem dX7_goOn_29 : decode cX7_goOn 29 = .ok (.if_icmp .ne 16, 3) := by decide +kernel
theorem dX7_goOn_32 : decode cX7_goOn 32 = .ok (.aload_n 0, 1) := by decide +kernel
theorem dX7_goOn_33 : decode cX7_goOn 33 = .ok (.dup, 1) := by decide +kernel
theorem dX7_goOn_34 : decode cX7_goOn 34 = .ok (.getfield 55, 3) := by decide +kernel
theorem dX7_goOn_37 : decode cX7_goOn 37 = .ok (.iconst 1, 1) := by decide +kernel
theorem dX7_goOn_38 : decode cX7_goOn 38 = .ok (.iadd, 1) := by decide +kernel
theorem dX7_goOn_39 : decode cX7_goOn 39 = .ok (.putfield 55, 3) := by decide +kernel
theorem dX7_goOn_42 : decode cX7_goOn 42 = .ok (.goto (-34), 3) := by decide +kernel
theorem dX7_goOn_45 : decode cX7_goOn 45 = .ok (.aload_n 0, 1) := by decide +kernel
theorem dX7_goOn_46 : decode cX7_goOn 46 = .ok (.aload_n 0, 1) := by decide +kernel
theorem dX7_goOn_47 : decode cX7_goOn 47 = .ok (.getfield 55, 3) := by decide +kernel
theorem dX7_goOn_50 : decode cX7_goOn 50 = .ok (.putfield 45, 3) := by decide +kernel
theorem dX7_goOn_53 : decode cX7_goOn 53 = .ok (.aload_n 0, 1) := by decide +kernel
theorem dX7_goOn_54 : decode cX7_goOn 54 = .ok (.getfield 55, 3) := by decide +kernel
theorem dX7_goOn_57 : decode cX7_goOn 57 = .ok (.aload_n 0, 1) := by decide +kernel
theorem dX7_goOn_58 : decode cX7_goOn 58 = .ok (.getfield 24, 3) := by decide +kernel
theorem dX7_goOn_61 : decode cX7_goOn 61 = .ok (.if_icmp .lt 4, 3) := by decide +kernel
theorem dX7_goOn_64 : decode cX7_goOn 64 = .ok (.return_, 1) := by decide +kernel
theorem dX7_goOn_65 : decode cX7_goOn 65 = .ok (.aload_n 0, 1) := by decide +kernel
theorem dX7_goOn_66 : decode cX7_goOn 66 = .ok (.dup, 1) := by decide +kernel
theorem dX7_goOn_67 : decode cX7_goOn 67 = .ok (.getfield 45, 3) := by decide +kernel
theorem dX7_goOn_70 : decode cX7_goOn 70 = .ok (.iconst 1, 1) := by decide +kernel
theorem dX7_goOn_71 : decode cX7_goOn 71 = .ok (.iadd, 1) := by decide +kernel
theorem dX7_goOn_72 : decode cX7_goOn 72 = .ok (.putfield 45, 3) := by decide +kernel
theorem dX7_goOn_75 : decode cX7_goOn 75 = .ok (.aload_n 0, 1) := by decide +kernel
theorem dX7_goOn_76 : decode cX7_goOn 76 = .ok (.aload_n 0, 1) := by decide +kernel
theorem dX7_goOn_77 : decode cX7_goOn 77 = .ok (.getfield 55, 3) := by decide +kernel
theorem dX7_goOn_80 : decode cX7_goOn 80 = .ok (.invokevirtual 116, 3) := by decide +kernel
theorem dX7_goOn_83 : decode cX7_goOn 83 = .ok (.istore_n 1, 1) := by decide +kernel
theorem dX7_goOn_84 : decode cX7_goOn 84 = .ok (.iload_n 1, 1) := by decide +kernel
theorem dX7_goOn_85 : decode cX7_goOn 85 = .ok (.iconst 2, 1) := by decide +kernel
theorem dX7_goOn_86 : decode cX7_goOn 86 = .ok (.if_icmp .ne 4, 3) := by decide +kernel
theorem dX7_goOn_89 : decode cX7_goOn 89 = .ok (.return_, 1) := by decide +kernel
theorem dX7_goOn_90 : decode cX7_goOn 90 = .ok (.aload_n 0, 1) := by decide +kernel
theorem dX7_goOn_91 : decode cX7_goOn 91 = .ok (.getfield 45, 3) := by decide +kernel
theorem dX7_goOn_94 : decode cX7_goOn 94 = .ok (.aload_n 0, 1) := by decide +kernel
theorem dX7_goOn_95 : decode cX7_goOn 95 = .ok (.getfield 24, 3) := by decide +kernel
theorem dX7_goOn_98 : decode cX7_goOn 98 = .ok (.if_icmp .ge 28, 3) := by decide +kernel
theorem dX7_goOn_101 : decode cX7_goOn 101 = .ok (.aload_n 0, 1) := by decide +kernel
theorem dX7_goOn_102 : decode cX7_goOn 102 = .ok (.aload_n 0, 1) := by decide +kernel
theorem dX7_goOn_103 : decode cX7_goOn 103 = .ok (.getfield 45, 3) := by decide +kernel
theorem dX7_goOn_106 : decode cX7_goOn 106 = .ok (.invokevirtual 116, 3) := by decide +kernel
theorem dX7_goOn_109 : decode cX7_goOn 109 = .ok (.iload_n 1, 1) := by decide +kernel
theorem dX7_goOn_110 : decode cX7_goOn 110 = .ok (.if_icmp .ne 16, 3) := by decide +kernel
theorem dX7_goOn_113 : decode cX7_goOn 113 = .ok (.aload_n 0, 1) := by decide +kernel
theorem dX7_goOn_114 : decode cX7_goOn 114 = .ok (.dup, 1) := by decide +kernel
theorem dX7_goOn_115 : decode cX7_goOn 115 = .ok (.getfield 45, 3) := by decide +kernel
theorem dX7_goOn_118 : decode cX7_goOn 118 = .ok (.iconst 1, 1) := by decide +kernel
theorem dX7_goOn_119 : decode cX7_goOn 119 = .ok (.iadd, 1) := by decide +kernel
theorem dX7_goOn_120 : decode cX7_goOn 120 = .ok (.putfield 45, 3) := by decide +kernel
theorem dX7_goOn_123 : decode cX7_goOn 123 = .ok (.goto (-33), 3) := by decide +kernel
theorem dX7_goOn_126 : decode cX7_goOn 126 = .ok (.return_, 1) := by decide +kernel
theorem dX7_letterAt_0 : decode cX7_letterAt 0 = .ok (.iload_n 1, 1) := by decide +kernel
theorem dX7_letterAt_1 : decode cX7_letterAt 1 = .ok (.ifCond .lt 27, 3) := by decide +kernel
theorem dX7_letterAt_4 : decode cX7_letterAt 4 = .ok (.iload_n 1, 1) := by decide +kernel
theorem dX7_letterAt_5 : decode cX7_letterAt 5 = .ok (.aload_n 0, 1) := by decide +kernel
theorem dX7_letterAt_6 : decode cX7_letterAt 6 = .ok (.getfield 24, 3) := by decide +kernel
theorem dX7_letterAt_9 : decode cX7_letterAt 9 = .ok (.if_icmp .ge 19, 3) := by decide +kernel
theorem dX7_letterAt_12 : decode cX7_letterAt 12 = .ok (.iload_n 1, 1) := by decide +kernel
theorem dX7_letterAt_13 : decode cX7_letterAt 13 = .ok (.sipush 160, 3) := by decide +kernel
theorem dX7_letterAt_16 : decode cX7_letterAt 16 = .ok (.if_icmp .ge 12, 3) := by decide +kernel
theorem dX7_letterAt_19 : decode cX7_letterAt 19 = .ok (.aload_n 0, 1) := by decide +kernel
theorem dX7_letterAt_20 : decode cX7_letterAt 20 = .ok (.getfield 9, 3) := by decide +kernel
theorem dX7_letterAt_23 : decode cX7_letterAt 23 = .ok (.iload_n 1, 1) := by decide +kernel
theorem dX7_letterAt_24 : decode cX7_letterAt 24 = .ok (.caload, 1) := by decide +kernel
theorem dX7_letterAt_25 : decode cX7_letterAt 25 = .ok (.goto 4, 3) := by decide +kernel
theorem dX7_letterAt_28 : decode cX7_letterAt 28 = .ok (.iconst (-1), 1) := by decide +kernel
theorem dX7_letterAt_29 : decode cX7_letterAt 29 = .ok (.ireturn, 1) := by decide +kernel
theorem dX7_sortAt_0 : decode cX7_sortAt 0 = .ok (.aload_n 0, 1) := by decide +kernel
theorem dX7_sortAt_1 : decode cX7_sortAt 1 = .ok (.iload_n 1, 1) := by decide +kernel
theorem dX7_sortAt_2 : decode cX7_sortAt 2 = .ok (.invokevirtual 58, 3) := by decide +kernel
theorem dX7_sortAt_5 : decode cX7_sortAt 5 = .ok (.istore_n 2, 1) := by decide +kernel
theorem dX7_sortAt_6 : decode cX7_sortAt 6 = .ok (.iload_n 2, 1) := by decide +kernel
theorem dX7_sortAt_7 : decode cX7_sortAt 7 = .ok (.bipush 97, 2) := by decide +kernel
theorem dX7_sortAt_9 : decode cX7_sortAt 9 = .ok (.if_icmp .lt 11, 3) := by decide +kernel
theorem dX7_sortAt_12 : decode cX7_sortAt 12 = .ok (.iload_n 2, 1) := by decide +kernel
theorem dX7_sortAt_13 : decode cX7_sortAt 13 = .ok (.bipush 122, 2) := by decide +kernel
theorem dX7_sortAt_15 : decode cX7_sortAt 15 = .ok (.if_icmp .gt 5, 3) := by decide +kernel
theorem dX7_sortAt_18 : decode cX7_sortAt 18 = .ok (.iconst 0, 1) := by decide +kernel
theorem dX7_sortAt_19 : decode cX7_sortAt 19 = .ok (.ireturn, 1) := by decide +kernel
theorem dX7_sortAt_20 : decode cX7_sortAt 20 = .ok (.iload_n 2, 1) := by decide +kernel
theorem dX7_sortAt_21 : decode cX7_sortAt 21 = .ok (.bipush 48, 2) := by decide +kernel
theorem dX7_sortAt_23 : decode cX7_sortAt 23 = .ok (.if_icmp .lt 13, 3) := by decide +kernel
theorem dX7_sortAt_26 : decode cX7_sortAt 26 = .ok (.iload_n 2, 1) := by decide +kernel
theorem dX7_sortAt_27 : decode cX7_sortAt 27 = .ok (.bipush 57, 2) := by decide +kernel
theorem dX7_sortAt_29 : decode cX7_sortAt 29 = .ok (.if_icmp .gt 7, 3) := by decide +kernel
theorem dX7_sortAt_32 : decode cX7_sortAt 32 = .ok (.iconst 1, 1) := by decide +kernel
theorem dX7_sortAt_33 : decode cX7_sortAt 33 = .ok (.goto 4, 3) := by decide +kernel
theorem dX7_sortAt_36 : decode cX7_sortAt 36 = .ok (.iconst 2, 1) := by decide +kernel
theorem dX7_sortAt_37 : decode cX7_sortAt 37 = .ok (.ireturn, 1) := by decide +kernel
theorem dX7_numberHere_0 : decode cX7_numberHere 0 = .ok (.aload_n 0, 1) := by decide +kernel
theorem dX7_numberHere_1 : decode cX7_numberHere 1 = .ok (.aload_n 0, 1) := by decide +kernel
theorem dX7_numberHere_2 : decode cX7_numberHere 2 = .ok (.getfield 55, 3) := by decide +kernel
theorem dX7_numberHere_5 : decode cX7_numberHere 5 = .ok (.invokevirtual 116, 3) := by decide +kernel
theorem dX7_numberHere_8 : decode cX7_numberHere 8 = .ok (.iconst 1, 1) := by decide +kernel
theorem dX7_numberHere_9 : decode cX7_numberHere 9 = .ok (.if_icmp .ne 16, 3) := by decide +kernel
theorem dX7_numberHere_12 : decode cX7_numberHere 12 = .ok (.aload_n 0, 1) := by decide +kernel
theorem dX7_numberHere_13 : decode cX7_numberHere 13 = .ok (.getfield 45, 3) := by decide +kernel
theorem dX7_numberHere_16 : decode cX7_numberHere 16 = .ok (.aload_n 0, 1) := by decide +kernel
theorem dX7_numberHere_17 : decode cX7_numberHere 17 = .ok (.getfield 55, 3) := by decide +kernel
theorem dX7_numberHere_20 : decode cX7_numberHere 20 = .ok (.isub, 1) := by decide +kernel
theorem dX7_numberHere_21 : decode cX7_numberHere 21 = .ok (.iconst 2, 1) := by decide +kernel
theorem dX7_numberHere_22 : decode cX7_numberHere 22 = .ok (.if_icmp .le 5, 3) := by decide +kernel
theorem dX7_numberHere_25 : decode cX7_numberHere 25 = .ok (.iconst (-1), 1) := by decide +kernel
theorem dX7_numberHere_26 : decode cX7_numberHere 26 = .ok (.ireturn, 1) := by decide +kernel
theorem dX7_numberHere_27 : decode cX7_numberHere 27 = .ok (.iconst 0, 1) := by decide +kernel
theorem dX7_numberHere_28 : decode cX7_numberHere 28 = .ok (.istore_n 1, 1) := by decide +kernel
theorem dX7_numberHere_29 : decode cX7_numberHere 29 = .ok (.aload_n 0, 1) := by decide +kernel
theorem dX7_numberHere_30 : decode cX7_numberHere 30 = .ok (.getfield 55, 3) := by decide +kernel
theorem dX7_numberHere_33 : decode cX7_numberHere 33 = .ok (.istore_n 2, 1) := by decide +kernel
theorem dX7_numberHere_34 : decode cX7_numberHere 34 = .ok (.iload_n 2, 1) := by decide +kernel
theorem dX7_numberHere_35 : decode cX7_numberHere 35 = .ok (.aload_n 0, 1) := by decide +kernel
theorem dX7_numberHere_36 : decode cX7_numberHere 36 = .ok (.getfield 45, 3) := by decide +kernel
theorem dX7_numberHere_39 : decode cX7_numberHere 39 = .ok (.if_icmp .ge 23, 3) := by decide +kernel
theorem dX7_numberHere_42 : decode cX7_numberHere 42 = .ok (.iload_n 1, 1) := by decide +kernel
theorem dX7_numberHere_43 : decode cX7_numberHere 43 = .ok (.bipush 10, 2) := by decide +kernel
theorem dX7_numberHere_45 : decode cX7_numberHere 45 = .ok (.imul, 1) := by decide +kernel
theorem dX7_numberHere_46 : decode cX7_numberHere 46 = .ok (.aload_n 0, 1) := by decide +kernel
theorem dX7_numberHere_47 : decode cX7_numberHere 47 = .ok (.iload_n 2, 1) := by decide +kernel
theorem dX7_numberHere_48 : decode cX7_numberHere 48 = .ok (.invokevirtual 58, 3) := by decide +kernel
theorem dX7_numberHere_51 : decode cX7_numberHere 51 = .ok (.bipush 48, 2) := by decide +kernel
theorem dX7_numberHere_53 : decode cX7_numberHere 53 = .ok (.isub, 1) := by decide +kernel
theorem dX7_numberHere_54 : decode cX7_numberHere 54 = .ok (.iadd, 1) := by decide +kernel
theorem dX7_numberHere_55 : decode cX7_numberHere 55 = .ok (.istore_n 1, 1) := by decide +kernel
theorem dX7_numberHere_56 : decode cX7_numberHere 56 = .ok (.iinc 2 1, 3) := by decide +kernel
theorem dX7_numberHere_59 : decode cX7_numberHere 59 = .ok (.goto (-25), 3) := by decide +kernel
theorem dX7_numberHere_62 : decode cX7_numberHere 62 = .ok (.iload_n 1, 1) := by decide +kernel
theorem dX7_numberHere_63 : decode cX7_numberHere 63 = .ok (.ireturn, 1) := by decide +kernel
theorem dX7_clauseHere_0 : decode cX7_clauseHere 0 = .ok (.iconst 0, 1) := by decide +kernel
theorem dX7_clauseHere_1 : decode cX7_clauseHere 1 = .ok (.istore_n 1, 1) := by decide +kernel
theorem dX7_clauseHere_2 : decode cX7_clauseHere 2 = .ok (.iload_n 1, 1) := by decide +kernel
theorem dX7_clauseHere_3 : decode cX7_clauseHere 3 = .ok (.bipush 14, 2) := by decide +kernel
theorem dX7_clauseHere_5 : decode cX7_clauseHere 5 = .ok (.if_icmp .ge 22, 3) := by decide +kernel
theorem dX7_clauseHere_8 : decode cX7_clauseHere 8 = .ok (.aload_n 0, 1) := by decide +kernel
theorem dX7_clauseHere_9 : decode cX7_clauseHere 9 = .ok (.iload_n 1, 1) := by decide +kernel
theorem dX7_clauseHere_10 : decode cX7_clauseHere 10 = .ok (.invokestatic 119, 3) := by decide +kernel
theorem dX7_clauseHere_13 : decode cX7_clauseHere 13 = .ok (.invokevirtual 122, 3) := by decide +kernel
theorem dX7_clauseHere_16 : decode cX7_clauseHere 16 = .ok (.ifCond .eq 5, 3) := by decide +kernel
theorem dX7_clauseHere_19 : decode cX7_clauseHere 19 = .ok (.iload_n 1, 1) := by decide +kernel
theorem dX7_clauseHere_20 : decode cX7_clauseHere 20 = .ok (.ireturn, 1) := by decide +kernel
theorem dX7_clauseHere_21 : decode cX7_clauseHere 21 = .ok (.iinc 1 1, 3) := by decide +kernel
theorem dX7_clauseHere_24 : decode cX7_clauseHere 24 = .ok (.goto (-22), 3) := by decide +kernel
theorem dX7_clauseHere_27 : decode cX7_clauseHere 27 = .ok (.iconst (-1), 1) := by decide +kernel
theorem dX7_clauseHere_28 : decode cX7_clauseHere 28 = .ok (.ireturn, 1) := by decide +kernel
theorem dX7_isHere_0 : decode cX7_isHere 0 = .ok (.aload_n 1, 1) := by decide +kernel
theorem dX7_isHere_1 : decode cX7_isHere 1 = .ok (.invokevirtual 73, 3) := by decide +kernel
theorem dX7_isHere_4 : decode cX7_isHere 4 = .ok (.aload_n 0, 1) := by decide +kernel
end
section
theorem dX7_isHere_5 : decode cX7_isHere 5 = .ok (.getfield 45, 3) := by decide +kernel
theorem dX7_isHere_8 : decode cX7_isHere 8 = .ok (.aload_n 0, 1) := by decide +kernel
theorem dX7_isHere_9 : decode cX7_isHere 9 = .ok (.getfield 55, 3) := by decide +kernel
theorem dX7_isHere_12 : decode cX7_isHere 12 = .ok (.isub, 1) := by decide +kernel
theorem dX7_isHere_13 : decode cX7_isHere 13 = .ok (.if_icmp .eq 5, 3) := by decide +kernel
theorem dX7_isHere_16 : decode cX7_isHere 16 = .ok (.iconst 0, 1) := by decide +kernel
theorem dX7_isHere_17 : decode cX7_isHere 17 = .ok (.ireturn, 1) := by decide +kernel
theorem dX7_isHere_18 : decode cX7_isHere 18 = .ok (.iconst 0, 1) := by decide +kernel
theorem dX7_isHere_19 : decode cX7_isHere 19 = .ok (.istore_n 2, 1) := by decide +kernel
theorem dX7_isHere_20 : decode cX7_isHere 20 = .ok (.iload_n 2, 1) := by decide +kernel
theorem dX7_isHere_21 : decode cX7_isHere 21 = .ok (.aload_n 1, 1) := by decide +kernel
theorem dX7_isHere_22 : decode cX7_isHere 22 = .ok (.invokevirtual 73, 3) := by decide +kernel
theorem dX7_isHere_25 : decode cX7_isHere 25 = .ok (.if_icmp .ge 29, 3) := by decide +kernel
theorem dX7_isHere_28 : decode cX7_isHere 28 = .ok (.aload_n 0, 1) := by decide +kernel
theorem dX7_isHere_29 : decode cX7_isHere 29 = .ok (.aload_n 0, 1) := by decide +kernel
theorem dX7_isHere_30 : decode cX7_isHere 30 = .ok (.getfield 55, 3) := by decide +kernel
theorem dX7_isHere_33 : decode cX7_isHere 33 = .ok (.iload_n 2, 1) := by decide +kernel
theorem dX7_isHere_34 : decode cX7_isHere 34 = .ok (.iadd, 1) := by decide +kernel
theorem dX7_isHere_35 : decode cX7_isHere 35 = .ok (.invokevirtual 58, 3) := by decide +kernel
theorem dX7_isHere_38 : decode cX7_isHere 38 = .ok (.aload_n 1, 1) := by decide +kernel
theorem dX7_isHere_39 : decode cX7_isHere 39 = .ok (.iload_n 2, 1) := by decide +kernel
theorem dX7_isHere_40 : decode cX7_isHere 40 = .ok (.invokevirtual 77, 3) := by decide +kernel
theorem dX7_isHere_43 : decode cX7_isHere 43 = .ok (.if_icmp .eq 5, 3) := by decide +kernel
theorem dX7_isHere_46 : decode cX7_isHere 46 = .ok (.iconst 0, 1) := by decide +kernel
theorem dX7_isHere_47 : decode cX7_isHere 47 = .ok (.ireturn, 1) := by decide +kernel
theorem dX7_isHere_48 : decode cX7_isHere 48 = .ok (.iinc 2 1, 3) := by decide +kernel
theorem dX7_isHere_51 : decode cX7_isHere 51 = .ok (.goto (-31), 3) := by decide +kernel
theorem dX7_isHere_54 : decode cX7_isHere 54 = .ok (.iconst 1, 1) := by decide +kernel
theorem dX7_isHere_55 : decode cX7_isHere 55 = .ok (.ireturn, 1) := by decide +kernel
theorem dX7_lowest_0 : decode cX7_lowest 0 = .ok (.iload_n 0, 1) := by decide +kernel
theorem dX7_lowest_1 : decode cX7_lowest 1 = .ok (.bipush 83, 2) := by decide +kernel
theorem dX7_lowest_3 : decode cX7_lowest 3 = .ok (.if_icmp .eq 15, 3) := by decide +kernel
theorem dX7_lowest_6 : decode cX7_lowest 6 = .ok (.iload_n 0, 1) := by decide +kernel
theorem dX7_lowest_7 : decode cX7_lowest 7 = .ok (.bipush 84, 2) := by decide +kernel
theorem dX7_lowest_9 : decode cX7_lowest 9 = .ok (.if_icmp .eq 9, 3) := by decide +kernel
theorem dX7_lowest_12 : decode cX7_lowest 12 = .ok (.iload_n 0, 1) := by decide +kernel
theorem dX7_lowest_13 : decode cX7_lowest 13 = .ok (.bipush 87, 2) := by decide +kernel
theorem dX7_lowest_15 : decode cX7_lowest 15 = .ok (.if_icmp .ne 7, 3) := by decide +kernel
theorem dX7_lowest_18 : decode cX7_lowest 18 = .ok (.iconst 1, 1) := by decide +kernel
theorem dX7_lowest_19 : decode cX7_lowest 19 = .ok (.goto 4, 3) := by decide +kernel
theorem dX7_lowest_22 : decode cX7_lowest 22 = .ok (.iconst 0, 1) := by decide +kernel
theorem dX7_lowest_23 : decode cX7_lowest 23 = .ok (.ireturn, 1) := by decide +kernel
theorem dX7_highest_0 : decode cX7_highest 0 = .ok (.iload_n 0, 1) := by decide +kernel
theorem dX7_highest_1 : decode cX7_highest 1 = .ok (.tableswitch 58 80 87 #[53, 58, 51, 47, 49, 58, 58, 55], 47) := by decide +kernel
theorem dX7_highest_48 : decode cX7_highest 48 = .ok (.iconst 4, 1) := by decide +kernel
theorem dX7_highest_49 : decode cX7_highest 49 = .ok (.ireturn, 1) := by decide +kernel
theorem dX7_highest_50 : decode cX7_highest 50 = .ok (.iload_n 1, 1) := by decide +kernel
theorem dX7_highest_51 : decode cX7_highest 51 = .ok (.ireturn, 1) := by decide +kernel
theorem dX7_highest_52 : decode cX7_highest 52 = .ok (.iconst 5, 1) := by decide +kernel
theorem dX7_highest_53 : decode cX7_highest 53 = .ok (.ireturn, 1) := by decide +kernel
theorem dX7_highest_54 : decode cX7_highest 54 = .ok (.iconst 3, 1) := by decide +kernel
theorem dX7_highest_55 : decode cX7_highest 55 = .ok (.ireturn, 1) := by decide +kernel
theorem dX7_highest_56 : decode cX7_highest 56 = .ok (.bipush 12, 2) := by decide +kernel
theorem dX7_highest_58 : decode cX7_highest 58 = .ok (.ireturn, 1) := by decide +kernel
theorem dX7_highest_59 : decode cX7_highest 59 = .ok (.bipush 9, 2) := by decide +kernel
theorem dX7_highest_61 : decode cX7_highest 61 = .ok (.ireturn, 1) := by decide +kernel
theorem dX7_nameOf_0 : decode cX7_nameOf 0 = .ok (.iload_n 0, 1) := by decide +kernel
theorem dX7_nameOf_1 : decode cX7_nameOf 1 = .ok (.tableswitch 106 0 12 #[67, 70, 73, 76, 79, 82, 85, 88, 91, 94, 97, 100, 103], 67) := by decide +kernel
theorem dX7_nameOf_68 : decode cX7_nameOf 68 = .ok (.ldc 126, 2) := by decide +kernel
theorem dX7_nameOf_70 : decode cX7_nameOf 70 = .ok (.areturn, 1) := by decide +kernel
theorem dX7_nameOf_71 : decode cX7_nameOf 71 = .ok (.ldc 128, 2) := by decide +kernel
theorem dX7_nameOf_73 : decode cX7_nameOf 73 = .ok (.areturn, 1) := by decide +kernel
theorem dX7_nameOf_74 : decode cX7_nameOf 74 = .ok (.ldc 130, 2) := by decide +kernel
theorem dX7_nameOf_76 : decode cX7_nameOf 76 = .ok (.areturn, 1) := by decide +kernel
theorem dX7_nameOf_77 : decode cX7_nameOf 77 = .ok (.ldc 132, 2) := by decide +kernel
theorem dX7_nameOf_79 : decode cX7_nameOf 79 = .ok (.areturn, 1) := by decide +kernel
theorem dX7_nameOf_80 : decode cX7_nameOf 80 = .ok (.ldc 134, 2) := by decide +kernel
theorem dX7_nameOf_82 : decode cX7_nameOf 82 = .ok (.areturn, 1) := by decide +kernel
theorem dX7_nameOf_83 : decode cX7_nameOf 83 = .ok (.ldc 136, 2) := by decide +kernel
theorem dX7_nameOf_85 : decode cX7_nameOf 85 = .ok (.areturn, 1) := by decide +kernel
theorem dX7_nameOf_86 : decode cX7_nameOf 86 = .ok (.ldc 138, 2) := by decide +kernel
theorem dX7_nameOf_88 : decode cX7_nameOf 88 = .ok (.areturn, 1) := by decide +kernel
theorem dX7_nameOf_89 : decode cX7_nameOf 89 = .ok (.ldc 140, 2) := by decide +kernel
theorem dX7_nameOf_91 : decode cX7_nameOf 91 = .ok (.areturn, 1) := by decide +kernel
theorem dX7_nameOf_92 : decode cX7_nameOf 92 = .ok (.ldc 142, 2) := by decide +kernel
theorem dX7_nameOf_94 : decode cX7_nameOf 94 = .ok (.areturn, 1) := by decide +kernel
theorem dX7_nameOf_95 : decode cX7_nameOf 95 = .ok (.ldc 144, 2) := by decide +kernel
theorem dX7_nameOf_97 : decode cX7_nameOf 97 = .ok (.areturn, 1) := by decide +kernel
theorem dX7_nameOf_98 : decode cX7_nameOf 98 = .ok (.ldc 146, 2) := by decide +kernel
theorem dX7_nameOf_100 : decode cX7_nameOf 100 = .ok (.areturn, 1) := by decide +kernel
theorem dX7_nameOf_101 : decode cX7_nameOf 101 = .ok (.ldc 148, 2) := by decide +kernel
theorem dX7_nameOf_103 : decode cX7_nameOf 103 = .ok (.areturn, 1) := by decide +kernel
theorem dX7_nameOf_104 : decode cX7_nameOf 104 = .ok (.ldc 150, 2) := by decide +kernel
theorem dX7_nameOf_106 : decode cX7_nameOf 106 = .ok (.areturn, 1) := by decide +kernel
theorem dX7_nameOf_107 : decode cX7_nameOf 107 = .ok (.ldc 152, 2) := by decide +kernel
theorem dX7_nameOf_109 : decode cX7_nameOf 109 = .ok (.areturn, 1) := by decide +kernel
theorem dX7_rolesIn_0 : decode cX7_rolesIn 0 = .ok (.iload_n 0, 1) := by decide +kernel
theorem dX7_rolesIn_1 : decode cX7_rolesIn 1 = .ok (.iconst 3, 1) := by decide +kernel
theorem dX7_rolesIn_2 : decode cX7_rolesIn 2 = .ok (.if_icmp .ge 6, 3) := by decide +kernel
theorem dX7_rolesIn_5 : decode cX7_rolesIn 5 = .ok (.ldc 154, 2) := by decide +kernel
theorem dX7_rolesIn_7 : decode cX7_rolesIn 7 = .ok (.areturn, 1) := by decide +kernel
theorem dX7_rolesIn_8 : decode cX7_rolesIn 8 = .ok (.iload_n 0, 1) := by decide +kernel
theorem dX7_rolesIn_9 : decode cX7_rolesIn 9 = .ok (.iconst 3, 1) := by decide +kernel
theorem dX7_rolesIn_10 : decode cX7_rolesIn 10 = .ok (.if_icmp .ne 6, 3) := by decide +kernel
theorem dX7_rolesIn_13 : decode cX7_rolesIn 13 = .ok (.ldc 156, 2) := by decide +kernel
theorem dX7_rolesIn_15 : decode cX7_rolesIn 15 = .ok (.areturn, 1) := by decide +kernel
theorem dX7_rolesIn_16 : decode cX7_rolesIn 16 = .ok (.iload_n 0, 1) := by decide +kernel
theorem dX7_rolesIn_17 : decode cX7_rolesIn 17 = .ok (.bipush 10, 2) := by decide +kernel
theorem dX7_rolesIn_19 : decode cX7_rolesIn 19 = .ok (.if_icmp .gt 6, 3) := by decide +kernel
theorem dX7_rolesIn_22 : decode cX7_rolesIn 22 = .ok (.ldc 158, 2) := by decide +kernel
theorem dX7_rolesIn_24 : decode cX7_rolesIn 24 = .ok (.areturn, 1) := by decide +kernel
theorem dX7_rolesIn_25 : decode cX7_rolesIn 25 = .ok (.iload_n 0, 1) := by decide +kernel
theorem dX7_rolesIn_26 : decode cX7_rolesIn 26 = .ok (.bipush 11, 2) := by decide +kernel
theorem dX7_rolesIn_28 : decode cX7_rolesIn 28 = .ok (.if_icmp .ne 6, 3) := by decide +kernel
theorem dX7_rolesIn_31 : decode cX7_rolesIn 31 = .ok (.ldc 160, 2) := by decide +kernel
theorem dX7_rolesIn_33 : decode cX7_rolesIn 33 = .ok (.areturn, 1) := by decide +kernel
theorem dX7_rolesIn_34 : decode cX7_rolesIn 34 = .ok (.iload_n 0, 1) := by decide +kernel
theorem dX7_rolesIn_35 : decode cX7_rolesIn 35 = .ok (.bipush 12, 2) := by decide +kernel
theorem dX7_rolesIn_37 : decode cX7_rolesIn 37 = .ok (.if_icmp .ne 8, 3) := by decide +kernel
theorem dX7_rolesIn_40 : decode cX7_rolesIn 40 = .ok (.ldc 162, 2) := by decide +kernel
theorem dX7_rolesIn_42 : decode cX7_rolesIn 42 = .ok (.goto 5, 3) := by decide +kernel
theorem dX7_rolesIn_45 : decode cX7_rolesIn 45 = .ok (.ldc 164, 2) := by decide +kernel
theorem dX7_rolesIn_47 : decode cX7_rolesIn 47 = .ok (.areturn, 1) := by decide +kernel
theorem dX8_init_0 : decode cX8_init 0 = .ok (.aload_n 0, 1) := by decide +kernel
theorem dX8_init_1 : decode cX8_init 1 = .ok (.invokespecial 3, 3) := by decide +kernel
theorem dX8_init_4 : decode cX8_init 4 = .ok (.aload_n 0, 1) := by decide +kernel
theorem dX8_init_5 : decode cX8_init 5 = .ok (.bipush 9, 2) := by decide +kernel
theorem dX8_init_7 : decode cX8_init 7 = .ok (.newarray .int, 2) := by decide +kernel
theorem dX8_init_9 : decode cX8_init 9 = .ok (.putfield 9, 3) := by decide +kernel
theorem dX8_init_12 : decode cX8_init 12 = .ok (.aload_n 0, 1) := by decide +kernel
theorem dX8_init_13 : decode cX8_init 13 = .ok (.bipush 9, 2) := by decide +kernel
theorem dX8_init_15 : decode cX8_init 15 = .ok (.newarray .int, 2) := by decide +kernel
theorem dX8_init_17 : decode cX8_init 17 = .ok (.putfield 15, 3) := by decide +kernel
theorem dX8_init_20 : decode cX8_init 20 = .ok (.aload_n 0, 1) := by decide +kernel
theorem dX8_init_21 : decode cX8_init 21 = .ok (.bipush 9, 2) := by decide +kernel
theorem dX8_init_23 : decode cX8_init 23 = .ok (.newarray .int, 2) := by decide +kernel
theorem dX8_init_25 : decode cX8_init 25 = .ok (.putfield 18, 3) := by decide +kernel
theorem dX8_init_28 : decode cX8_init 28 = .ok (.aload_n 0, 1) := by decide +kernel
theorem dX8_init_29 : decode cX8_init 29 = .ok (.bipush 9, 2) := by decide +kernel
theorem dX8_init_31 : decode cX8_init 31 = .ok (.newarray .int, 2) := by decide +kernel
theorem dX8_init_33 : decode cX8_init 33 = .ok (.putfield 21, 3) := by decide +kernel
theorem dX8_init_36 : decode cX8_init 36 = .ok (.aload_n 0, 1) := by decide +kernel
theorem dX8_init_37 : decode cX8_init 37 = .ok (.iconst 4, 1) := by decide +kernel
theorem dX8_init_38 : decode cX8_init 38 = .ok (.newarray .int, 2) := by decide +kernel
theorem dX8_init_40 : decode cX8_init 40 = .ok (.putfield 24, 3) := by decide +kernel
theorem dX8_init_43 : decode cX8_init 43 = .ok (.aload_n 0, 1) := by decide +kernel
theorem dX8_init_44 : decode cX8_init 44 = .ok (.bipush 6, 2) := by decide +kernel
theorem dX8_init_46 : decode cX8_init 46 = .ok (.newarray .int, 2) := by decide +kernel
theorem dX8_init_48 : decode cX8_init 48 = .ok (.putfield 27, 3) := by decide +kernel
theorem dX8_init_51 : decode cX8_init 51 = .ok (.aload_n 0, 1) := by decide +kernel
theorem dX8_init_52 : decode cX8_init 52 = .ok (.bipush 6, 2) := by decide +kernel
theorem dX8_init_54 : decode cX8_init 54 = .ok (.newarray .int, 2) := by decide +kernel
theorem dX8_init_56 : decode cX8_init 56 = .ok (.putfield 30, 3) := by decide +kernel
theorem dX8_init_59 : decode cX8_init 59 = .ok (.aload_n 0, 1) := by decide +kernel
theorem dX8_init_60 : decode cX8_init 60 = .ok (.iconst 3, 1) := by decide +kernel
theorem dX8_init_61 : decode cX8_init 61 = .ok (.newarray .int, 2) := by decide +kernel
theorem dX8_init_63 : decode cX8_init 63 = .ok (.putfield 33, 3) := by decide +kernel
theorem dX8_init_66 : decode cX8_init 66 = .ok (.aload_n 0, 1) := by decide +kernel
theorem dX8_init_67 : decode cX8_init 67 = .ok (.bipush 6, 2) := by decide +kernel
theorem dX8_init_69 : decode cX8_init 69 = .ok (.newarray .int, 2) := by decide +kernel
theorem dX8_init_71 : decode cX8_init 71 = .ok (.putfield 36, 3) := by decide +kernel
theorem dX8_init_74 : decode cX8_init 74 = .ok (.aload_n 0, 1) := by decide +kernel
theorem dX8_init_75 : decode cX8_init 75 = .ok (.getfield 36, 3) := by decide +kernel
theorem dX8_init_78 : decode cX8_init 78 = .ok (.iconst 3, 1) := by decide +kernel
theorem dX8_init_79 : decode cX8_init 79 = .ok (.invokestatic 39, 3) := by decide +kernel
theorem dX8_init_82 : decode cX8_init 82 = .ok (.return_, 1) := by decide +kernel
theorem dX8_reset_0 : decode cX8_reset 0 = .ok (.aload_n 0, 1) := by decide +kernel
theorem dX8_reset_1 : decode cX8_reset 1 = .ok (.iconst 0, 1) := by decide +kernel
theorem dX8_reset_2 : decode cX8_reset 2 = .ok (.putfield 45, 3) := by decide +kernel
theorem dX8_reset_5 : decode cX8_reset 5 = .ok (.aload_n 0, 1) := by decide +kernel
theorem dX8_reset_6 : decode cX8_reset 6 = .ok (.iconst 0, 1) := by decide +kernel
theorem dX8_reset_7 : decode cX8_reset 7 = .ok (.putfield 49, 3) := by decide +kernel
theorem dX8_reset_10 : decode cX8_reset 10 = .ok (.aload_n 0, 1) := by decide +kernel
theorem dX8_reset_11 : decode cX8_reset 11 = .ok (.iconst 0, 1) := by decide +kernel
theorem dX8_reset_12 : decode cX8_reset 12 = .ok (.putfield 52, 3) := by decide +kernel
theorem dX8_reset_15 : decode cX8_reset 15 = .ok (.aload_n 0, 1) := by decide +kernel
theorem dX8_reset_16 : decode cX8_reset 16 = .ok (.iconst 0, 1) := by decide +kernel
theorem dX8_reset_17 : decode cX8_reset 17 = .ok (.putfield 55, 3) := by decide +kernel
theorem dX8_reset_20 : decode cX8_reset 20 = .ok (.aload_n 0, 1) := by decide +kernel
theorem dX8_reset_21 : decode cX8_reset 21 = .ok (.getfield 24, 3) := by decide +kernel
theorem dX8_reset_24 : decode cX8_reset 24 = .ok (.iconst 0, 1) := by decide +kernel
theorem dX8_reset_25 : decode cX8_reset 25 = .ok (.invokestatic 39, 3) := by decide +kernel
theorem dX8_reset_28 : decode cX8_reset 28 = .ok (.aload_n 0, 1) := by decide +kernel
theorem dX8_reset_29 : decode cX8_reset 29 = .ok (.getfield 36, 3) := by decide +kernel
theorem dX8_reset_32 : decode cX8_reset 32 = .ok (.iconst 3, 1) := by decide +kernel
theorem dX8_reset_33 : decode cX8_reset 33 = .ok (.invokestatic 39, 3) := by decide +kernel
theorem dX8_reset_36 : decode cX8_reset 36 = .ok (.return_, 1) := by decide +kernel
theorem dX8_addWord_0 : decode cX8_addWord 0 = .ok (.aload_n 0, 1) := by decide +kernel
theorem dX8_addWord_1 : decode cX8_addWord 1 = .ok (.getfield 45, 3) := by decide +kernel
theorem dX8_addWord_4 : decode cX8_addWord 4 = .ok (.bipush 9, 2) := by decide +kernel
theorem dX8_addWord_6 : decode cX8_addWord 6 = .ok (.if_icmp .lt 4, 3) := by decide +kernel
theorem dX8_addWord_9 : decode cX8_addWord 9 = .ok (.return_, 1) := by decide +kernel
theorem dX8_addWord_10 : decode cX8_addWord 10 = .ok (.aload_n 0, 1) := by decide +kernel
theorem dX8_addWord_11 : decode cX8_addWord 11 = .ok (.getfield 9, 3) := by decide +kernel
theorem dX8_addWord_14 : decode cX8_addWord 14 = .ok (.aload_n 0, 1) := by decide +kernel
theorem dX8_addWord_15 : decode cX8_addWord 15 = .ok (.getfield 45, 3) := by decide +kernel
theorem dX8_addWord_18 : decode cX8_addWord 18 = .ok (.iload_n 1, 1) := by decide +kernel
theorem dX8_addWord_19 : decode cX8_addWord 19 = .ok (.iastore, 1) := by decide +kernel
theorem dX8_addWord_20 : decode cX8_addWord 20 = .ok (.aload_n 0, 1) := by decide +kernel
theorem dX8_addWord_21 : decode cX8_addWord 21 = .ok (.getfield 15, 3) := by decide +kernel
theorem dX8_addWord_24 : decode cX8_addWord 24 = .ok (.aload_n 0, 1) := by decide +kernel
theorem dX8_addWord_25 : decode cX8_addWord 25 = .ok (.getfield 45, 3) := by decide +kernel
theorem dX8_addWord_28 : decode cX8_addWord 28 = .ok (.iload_n 2, 1) := by decide +kernel
theorem dX8_addWord_29 : decode cX8_addWord 29 = .ok (.iastore, 1) := by decide +kernel
theorem dX8_addWord_30 : decode cX8_addWord 30 = .ok (.aload_n 0, 1) := by decide +kernel
theorem dX8_addWord_31 : decode cX8_addWord 31 = .ok (.getfield 18, 3) := by decide +kernel
theorem dX8_addWord_34 : decode cX8_addWord 34 = .ok (.aload_n 0, 1) := by decide +kernel
theorem dX8_addWord_35 : decode cX8_addWord 35 = .ok (.getfield 45, 3) := by decide +kernel
theorem dX8_addWord_38 : decode cX8_addWord 38 = .ok (.iload_n 3, 1) := by decide +kernel
theorem dX8_addWord_39 : decode cX8_addWord 39 = .ok (.iastore, 1) := by decide +kernel
theorem dX8_addWord_40 : decode cX8_addWord 40 = .ok (.aload_n 0, 1) := by decide +kernel
theorem dX8_addWord_41 : decode cX8_addWord 41 = .ok (.getfield 21, 3) := by decide +kernel
theorem dX8_addWord_44 : decode cX8_addWord 44 = .ok (.aload_n 0, 1) := by decide +kernel
theorem dX8_addWord_45 : decode cX8_addWord 45 = .ok (.getfield 45, 3) := by decide +kernel
theorem dX8_addWord_48 : decode cX8_addWord 48 = .ok (.iload 4, 2) := by decide +kernel
theorem dX8_addWord_50 : decode cX8_addWord 50 = .ok (.iastore, 1) := by decide +kernel
theorem dX8_addWord_51 : decode cX8_addWord 51 = .ok (.aload_n 0, 1) := by decide +kernel
theorem dX8_addWord_52 : decode cX8_addWord 52 = .ok (.dup, 1) := by decide +kernel
theorem dX8_addWord_53 : decode cX8_addWord 53 = .ok (.getfield 45, 3) := by decide +kernel
theorem dX8_addWord_56 : decode cX8_addWord 56 = .ok (.iconst 1, 1) := by decide +kernel
theorem dX8_addWord_57 : decode cX8_addWord 57 = .ok (.iadd, 1) := by decide +kernel
theorem dX8_addWord_58 : decode cX8_addWord 58 = .ok (.putfield 45, 3) := by decide +kernel
theorem dX8_addWord_61 : decode cX8_addWord 61 = .ok (.return_, 1) := by decide +kernel
theorem dX8_addWare_0 : decode cX8_addWare 0 = .ok (.aload_n 0, 1) := by decide +kernel
theorem dX8_addWare_1 : decode cX8_addWare 1 = .ok (.getfield 49, 3) := by decide +kernel
theorem dX8_addWare_4 : decode cX8_addWare 4 = .ok (.bipush 6, 2) := by decide +kernel
theorem dX8_addWare_6 : decode cX8_addWare 6 = .ok (.if_icmp .lt 4, 3) := by decide +kernel
theorem dX8_addWare_9 : decode cX8_addWare 9 = .ok (.return_, 1) := by decide +kernel
theorem dX8_addWare_10 : decode cX8_addWare 10 = .ok (.aload_n 0, 1) := by decide +kernel
theorem dX8_addWare_11 : decode cX8_addWare 11 = .ok (.getfield 27, 3) := by decide +kernel
theorem dX8_addWare_14 : decode cX8_addWare 14 = .ok (.aload_n 0, 1) := by decide +kernel
theorem dX8_addWare_15 : decode cX8_addWare 15 = .ok (.getfield 49, 3) := by decide +kernel
theorem dX8_addWare_18 : decode cX8_addWare 18 = .ok (.iload_n 1, 1) := by decide +kernel
theorem dX8_addWare_19 : decode cX8_addWare 19 = .ok (.iastore, 1) := by decide +kernel
theorem dX8_addWare_20 : decode cX8_addWare 20 = .ok (.aload_n 0, 1) := by decide +kernel
theorem dX8_addWare_21 : decode cX8_addWare 21 = .ok (.getfield 30, 3) := by decide +kernel
theorem dX8_addWare_24 : decode cX8_addWare 24 = .ok (.aload_n 0, 1) := by decide +kernel
theorem dX8_addWare_25 : decode cX8_addWare 25 = .ok (.getfield 49, 3) := by decide +kernel
theorem dX8_addWare_28 : decode cX8_addWare 28 = .ok (.iload_n 2, 1) := by decide +kernel
theorem dX8_addWare_29 : decode cX8_addWare 29 = .ok (.iastore, 1) := by decide +kernel
theorem dX8_addWare_30 : decode cX8_addWare 30 = .ok (.aload_n 0, 1) := by decide +kernel
theorem dX8_addWare_31 : decode cX8_addWare 31 = .ok (.dup, 1) := by decide +kernel
theorem dX8_addWare_32 : decode cX8_addWare 32 = .ok (.getfield 49, 3) := by decide +kernel
theorem dX8_addWare_35 : decode cX8_addWare 35 = .ok (.iconst 1, 1) := by decide +kernel
theorem dX8_addWare_36 : decode cX8_addWare 36 = .ok (.iadd, 1) := by decide +kernel
theorem dX8_addWare_37 : decode cX8_addWare 37 = .ok (.putfield 49, 3) := by decide +kernel
theorem dX8_addWare_40 : decode cX8_addWare 40 = .ok (.return_, 1) := by decide +kernel
theorem dX8_addClerk_0 : decode cX8_addClerk 0 = .ok (.aload_n 0, 1) := by decide +kernel
theorem dX8_addClerk_1 : decode cX8_addClerk 1 = .ok (.getfield 52, 3) := by decide +kernel
theorem dX8_addClerk_4 : decode cX8_addClerk 4 = .ok (.iconst 3, 1) := by decide +kernel
theorem dX8_addClerk_5 : decode cX8_addClerk 5 = .ok (.if_icmp .lt 4, 3) := by decide +kernel
theorem dX8_addClerk_8 : decode cX8_addClerk 8 = .ok (.return_, 1) := by decide +kernel
theorem dX8_addClerk_9 : decode cX8_addClerk 9 = .ok (.aload_n 0, 1) := by decide +kernel
theorem dX8_addClerk_10 : decode cX8_addClerk 10 = .ok (.getfield 33, 3) := by decide +kernel
theorem dX8_addClerk_13 : decode cX8_addClerk 13 = .ok (.aload_n 0, 1) := by decide +kernel
theorem dX8_addClerk_14 : decode cX8_addClerk 14 = .ok (.getfield 52, 3) := by decide +kernel
theorem dX8_addClerk_17 : decode cX8_addClerk 17 = .ok (.iload_n 1, 1) := by decide +kernel
theorem dX8_addClerk_18 : decode cX8_addClerk 18 = .ok (.iastore, 1) := by decide +kernel
theorem dX8_addClerk_19 : decode cX8_addClerk 19 = .ok (.aload_n 0, 1) := by decide +kernel
theorem dX8_addClerk_20 : decode cX8_addClerk 20 = .ok (.dup, 1) := by decide +kernel
theorem dX8_addClerk_21 : decode cX8_addClerk 21 = .ok (.getfield 52, 3) := by decide +kernel
theorem dX8_addClerk_24 : decode cX8_addClerk 24 = .ok (.iconst 1, 1) := by decide +kernel
theorem dX8_addClerk_25 : decode cX8_addClerk 25 = .ok (.iadd, 1) := by decide +kernel
theorem dX8_addClerk_26 : decode cX8_addClerk 26 = .ok (.putfield 52, 3) := by decide +kernel
theorem dX8_addClerk_29 : decode cX8_addClerk 29 = .ok (.return_, 1) := by decide +kernel
theorem dX8_setPort_0 : decode cX8_setPort 0 = .ok (.iload_n 1, 1) := by decide +kernel
theorem dX8_setPort_1 : decode cX8_setPort 1 = .ok (.ifCond .lt 15, 3) := by decide +kernel
theorem dX8_setPort_4 : decode cX8_setPort 4 = .ok (.iload_n 1, 1) := by decide +kernel
theorem dX8_setPort_5 : decode cX8_setPort 5 = .ok (.iconst 4, 1) := by decide +kernel
theorem dX8_setPort_6 : decode cX8_setPort 6 = .ok (.if_icmp .ge 10, 3) := by decide +kernel
theorem dX8_setPort_9 : decode cX8_setPort 9 = .ok (.aload_n 0, 1) := by decide +kernel
theorem dX8_setPort_10 : decode cX8_setPort 10 = .ok (.getfield 24, 3) := by decide +kernel
theorem dX8_setPort_13 : decode cX8_setPort 13 = .ok (.iload_n 1, 1) := by decide +kernel
theorem dX8_setPort_14 : decode cX8_setPort 14 = .ok (.iload_n 2, 1) := by decide +kernel
theorem dX8_setPort_15 : decode cX8_setPort 15 = .ok (.iastore, 1) := by decide +kernel
theorem dX8_setPort_16 : decode cX8_setPort 16 = .ok (.return_, 1) := by decide +kernel
theorem dX8_setUses_0 : decode cX8_setUses 0 = .ok (.iload_n 1, 1) := by decide +kernel
theorem dX8_setUses_1 : decode cX8_setUses 1 = .ok (.ifCond .lt 16, 3) := by decide +kernel
theorem dX8_setUses_4 : decode cX8_setUses 4 = .ok (.iload_n 1, 1) := by decide +kernel
theorem dX8_setUses_5 : decode cX8_setUses 5 = .ok (.bipush 6, 2) := by decide +kernel
theorem dX8_setUses_7 : decode cX8_setUses 7 = .ok (.if_icmp .ge 10, 3) := by decide +kernel
theorem dX8_setUses_10 : decode cX8_setUses 10 = .ok (.aload_n 0, 1) := by decide +kernel
theorem dX8_setUses_11 : decode cX8_setUses 11 = .ok (.getfield 36, 3) := by decide +kernel
theorem dX8_setUses_14 : decode cX8_setUses 14 = .ok (.iload_n 1, 1) := by decide +kernel
theorem dX8_setUses_15 : decode cX8_setUses 15 = .ok (.iload_n 2, 1) := by decide +kernel
theorem dX8_setUses_16 : decode cX8_setUses 16 = .ok (.iastore, 1) := by decide +kernel
theorem dX8_setUses_17 : decode cX8_setUses 17 = .ok (.return_, 1) := by decide +kernel
theorem dX8_isWord_0 : decode cX8_isWord 0 = .ok (.iload_n 1, 1) := by decide +kernel
theorem dX8_isWord_1 : decode cX8_isWord 1 = .ok (.ifCond .lt 15, 3) := by decide +kernel
theorem dX8_isWord_4 : decode cX8_isWord 4 = .ok (.iload_n 1, 1) := by decide +kernel
theorem dX8_isWord_5 : decode cX8_isWord 5 = .ok (.aload_n 0, 1) := by decide +kernel
theorem dX8_isWord_6 : decode cX8_isWord 6 = .ok (.getfield 45, 3) := by decide +kernel
theorem dX8_isWord_9 : decode cX8_isWord 9 = .ok (.if_icmp .ge 7, 3) := by decide +kernel
theorem dX8_isWord_12 : decode cX8_isWord 12 = .ok (.iconst 1, 1) := by decide +kernel
theorem dX8_isWord_13 : decode cX8_isWord 13 = .ok (.goto 4, 3) := by decide +kernel
theorem dX8_isWord_16 : decode cX8_isWord 16 = .ok (.iconst 0, 1) := by decide +kernel
theorem dX8_isWord_17 : decode cX8_isWord 17 = .ok (.ireturn, 1) := by decide +kernel
theorem dX8_isWare_0 : decode cX8_isWare 0 = .ok (.iload_n 1, 1) := by decide +kernel
theorem dX8_isWare_1 : decode cX8_isWare 1 = .ok (.ifCond .lt 15, 3) := by decide +kernel
theorem dX8_isWare_4 : decode cX8_isWare 4 = .ok (.iload_n 1, 1) := by decide +kernel
theorem dX8_isWare_5 : decode cX8_isWare 5 = .ok (.aload_n 0, 1) := by decide +kernel
theorem dX8_isWare_6 : decode cX8_isWare 6 = .ok (.getfield 49, 3) := by decide +kernel
theorem dX8_isWare_9 : decode cX8_isWare 9 = .ok (.if_icmp .ge 7, 3) := by decide +kernel
theorem dX8_isWare_12 : decode cX8_isWare 12 = .ok (.iconst 1, 1) := by decide +kernel
theorem dX8_isWare_13 : decode cX8_isWare 13 = .ok (.goto 4, 3) := by decide +kernel
theorem dX8_isWare_16 : decode cX8_isWare 16 = .ok (.iconst 0, 1) := by decide +kernel
theorem dX8_isWare_17 : decode cX8_isWare 17 = .ok (.ireturn, 1) := by decide +kernel
theorem dX8_isClerk_0 : decode cX8_isClerk 0 = .ok (.iload_n 1, 1) := by decide +kernel
theorem dX8_isClerk_1 : decode cX8_isClerk 1 = .ok (.ifCond .lt 15, 3) := by decide +kernel
theorem dX8_isClerk_4 : decode cX8_isClerk 4 = .ok (.iload_n 1, 1) := by decide +kernel
theorem dX8_isClerk_5 : decode cX8_isClerk 5 = .ok (.aload_n 0, 1) := by decide +kernel
theorem dX8_isClerk_6 : decode cX8_isClerk 6 = .ok (.getfield 52, 3) := by decide +kernel
theorem dX8_isClerk_9 : decode cX8_isClerk 9 = .ok (.if_icmp .ge 7, 3) := by decide +kernel
theorem dX8_isClerk_12 : decode cX8_isClerk 12 = .ok (.iconst 1, 1) := by decide +kernel
theorem dX8_isClerk_13 : decode cX8_isClerk 13 = .ok (.goto 4, 3) := by decide +kernel
theorem dX8_isClerk_16 : decode cX8_isClerk 16 = .ok (.iconst 0, 1) := by decide +kernel
theorem dX8_isClerk_17 : decode cX8_isClerk 17 = .ok (.ireturn, 1) := by decide +kernel
theorem dX8_slurs_0 : decode cX8_slurs 0 = .ok (.aload_n 0, 1) := by decide +kernel
theorem dX8_slurs_1 : decode cX8_slurs 1 = .ok (.getfield 33, 3) := by decide +kernel
theorem dX8_slurs_4 : decode cX8_slurs 4 = .ok (.iload_n 1, 1) := by decide +kernel
theorem dX8_slurs_5 : decode cX8_slurs 5 = .ok (.invokestatic 58, 3) := by decide +kernel
theorem dX8_slurs_8 : decode cX8_slurs 8 = .ok (.iconst 1, 1) := by decide +kernel
theorem dX8_slurs_9 : decode cX8_slurs 9 = .ok (.if_icmp .ne 7, 3) := by decide +kernel
theorem dX8_slurs_12 : decode cX8_slurs 12 = .ok (.iconst 1, 1) := by decide +kernel
theorem dX8_slurs_13 : decode cX8_slurs 13 = .ok (.goto 4, 3) := by decide +kernel
theorem dX8_slurs_16 : decode cX8_slurs 16 = .ok (.iconst 0, 1) := by decide +kernel
theorem dX8_slurs_17 : decode cX8_slurs 17 = .ok (.ireturn, 1) := by decide +kernel
theorem dX8_isDeaf_0 : decode cX8_isDeaf 0 = .ok (.aload_n 0, 1) := by decide +kernel
theorem dX8_isDeaf_1 : decode cX8_isDeaf 1 = .ok (.getfield 33, 3) := by decide +kernel
theorem dX8_isDeaf_4 : decode cX8_isDeaf 4 = .ok (.iload_n 1, 1) := by decide +kernel
theorem dX8_isDeaf_5 : decode cX8_isDeaf 5 = .ok (.invokestatic 58, 3) := by decide +kernel
theorem dX8_isDeaf_8 : decode cX8_isDeaf 8 = .ok (.iconst 2, 1) := by decide +kernel
theorem dX8_isDeaf_9 : decode cX8_isDeaf 9 = .ok (.if_icmp .ne 7, 3) := by decide +kernel
theorem dX8_isDeaf_12 : decode cX8_isDeaf 12 = .ok (.iconst 1, 1) := by decide +kernel
theorem dX8_isDeaf_13 : decode cX8_isDeaf 13 = .ok (.goto 4, 3) := by decide +kernel
theorem dX8_isDeaf_16 : decode cX8_isDeaf 16 = .ok (.iconst 0, 1) := by decide +kernel
theorem dX8_isDeaf_17 : decode cX8_isDeaf 17 = .ok (.ireturn, 1) := by decide +kernel
theorem dX8_rhymeOfPort_0 : decode cX8_rhymeOfPort 0 = .ok (.aload_n 0, 1) := by decide +kernel
theorem dX8_rhymeOfPort_1 : decode cX8_rhymeOfPort 1 = .ok (.getfield 24, 3) := by decide +kernel
theorem dX8_rhymeOfPort_4 : decode cX8_rhymeOfPort 4 = .ok (.iload_n 1, 1) := by decide +kernel
theorem dX8_rhymeOfPort_5 : decode cX8_rhymeOfPort 5 = .ok (.invokestatic 58, 3) := by decide +kernel
theorem dX8_rhymeOfPort_8 : decode cX8_rhymeOfPort 8 = .ok (.ireturn, 1) := by decide +kernel
theorem dX8_portsOf_0 : decode cX8_portsOf 0 = .ok (.iconst 0, 1) := by decide +kernel
theorem dX8_portsOf_1 : decode cX8_portsOf 1 = .ok (.istore_n 2, 1) := by decide +kernel
theorem dX8_portsOf_2 : decode cX8_portsOf 2 = .ok (.iconst 0, 1) := by decide +kernel
theorem dX8_portsOf_3 : decode cX8_portsOf 3 = .ok (.istore_n 3, 1) := by decide +kernel
theorem dX8_portsOf_4 : decode cX8_portsOf 4 = .ok (.iload_n 3, 1) := by decide +kernel
theorem dX8_portsOf_5 : decode cX8_portsOf 5 = .ok (.iconst 4, 1) := by decide +kernel
theorem dX8_portsOf_6 : decode cX8_portsOf 6 = .ok (.if_icmp .ge 25, 3) := by decide +kernel
theorem dX8_portsOf_9 : decode cX8_portsOf 9 = .ok (.aload_n 0, 1) := by decide +kernel
theorem dX8_portsOf_10 : decode cX8_portsOf 10 = .ok (.getfield 24, 3) := by decide +kernel
theorem dX8_portsOf_13 : decode cX8_portsOf 13 = .ok (.iload_n 3, 1) := by decide +kernel
theorem dX8_portsOf_14 : decode cX8_portsOf 14 = .ok (.iaload, 1) := by decide +kernel
theorem dX8_portsOf_15 : decode cX8_portsOf 15 = .ok (.iload_n 1, 1) := by decide +kernel
theorem dX8_portsOf_16 : decode cX8_portsOf 16 = .ok (.if_icmp .ne 9, 3) := by decide +kernel
theorem dX8_portsOf_19 : decode cX8_portsOf 19 = .ok (.iload_n 2, 1) := by decide +kernel
theorem dX8_portsOf_20 : decode cX8_portsOf 20 = .ok (.iconst 1, 1) := by decide +kernel
theorem dX8_portsOf_21 : decode cX8_portsOf 21 = .ok (.iload_n 3, 1) := by decide +kernel
theorem dX8_portsOf_22 : decode cX8_portsOf 22 = .ok (.ishl, 1) := by decide +kernel
theorem dX8_portsOf_23 : decode cX8_portsOf 23 = .ok (.ior, 1) := by decide +kernel
theorem dX8_portsOf_24 : decode cX8_portsOf 24 = .ok (.istore_n 2, 1) := by decide +kernel
theorem dX8_portsOf_25 : decode cX8_portsOf 25 = .ok (.iinc 3 1, 3) := by decide +kernel
theorem dX8_portsOf_28 : decode cX8_portsOf 28 = .ok (.goto (-24), 3) := by decide +kernel
theorem dX8_portsOf_31 : decode cX8_portsOf 31 = .ok (.iload_n 2, 1) := by decide +kernel
theorem dX8_portsOf_32 : decode cX8_portsOf 32 = .ok (.ireturn, 1) := by decide +kernel
theorem dX8_portsRhymedBy_0 : decode cX8_portsRhymedBy 0 = .ok (.aload_n 0, 1) := by decide +kernel
theorem dX8_portsRhymedBy_1 : decode cX8_portsRhymedBy 1 = .ok (.getfield 9, 3) := by decide +kernel
theorem dX8_portsRhymedBy_4 : decode cX8_portsRhymedBy 4 = .ok (.iload_n 1, 1) := by decide +kernel
theorem dX8_portsRhymedBy_5 : decode cX8_portsRhymedBy 5 = .ok (.invokestatic 58, 3) := by decide +kernel
theorem dX8_portsRhymedBy_8 : decode cX8_portsRhymedBy 8 = .ok (.iconst 2, 1) := by decide +kernel
theorem dX8_portsRhymedBy_9 : decode cX8_portsRhymedBy 9 = .ok (.if_icmp .ne 6, 3) := by decide +kernel
theorem dX8_portsRhymedBy_12 : decode cX8_portsRhymedBy 12 = .ok (.bipush 15, 2) := by decide +kernel
theorem dX8_portsRhymedBy_14 : decode cX8_portsRhymedBy 14 = .ok (.ireturn, 1) := by decide +kernel
theorem dX8_portsRhymedBy_15 : decode cX8_portsRhymedBy 15 = .ok (.aload_n 0, 1) := by decide +kernel
theorem dX8_portsRhymedBy_16 : decode cX8_portsRhymedBy 16 = .ok (.aload_n 0, 1) := by decide +kernel
theorem dX8_portsRhymedBy_17 : decode cX8_portsRhymedBy 17 = .ok (.getfield 21, 3) := by decide +kernel
theorem dX8_portsRhymedBy_20 : decode cX8_portsRhymedBy 20 = .ok (.iload_n 1, 1) := by decide +kernel
theorem dX8_portsRhymedBy_21 : decode cX8_portsRhymedBy 21 = .ok (.invokestatic 58, 3) := by decide +kernel
theorem dX8_portsRhymedBy_24 : decode cX8_portsRhymedBy 24 = .ok (.invokevirtual 62, 3) := by decide +kernel
theorem dX8_portsRhymedBy_27 : decode cX8_portsRhymedBy 27 = .ok (.ireturn, 1) := by decide +kernel
theorem dX8_chimes_0 : decode cX8_chimes 0 = .ok (.aload_n 0, 1) := by decide +kernel
theorem dX8_chimes_1 : decode cX8_chimes 1 = .ok (.getfield 9, 3) := by decide +kernel
theorem dX8_chimes_4 : decode cX8_chimes 4 = .ok (.iload_n 1, 1) := by decide +kernel
theorem dX8_chimes_5 : decode cX8_chimes 5 = .ok (.invokestatic 58, 3) := by decide +kernel
theorem dX8_chimes_8 : decode cX8_chimes 8 = .ok (.iconst 2, 1) := by decide +kernel
theorem dX8_chimes_9 : decode cX8_chimes 9 = .ok (.if_icmp .eq 15, 3) := by decide +kernel
theorem dX8_chimes_12 : decode cX8_chimes 12 = .ok (.aload_n 0, 1) := by decide +kernel
theorem dX8_chimes_13 : decode cX8_chimes 13 = .ok (.getfield 21, 3) := by decide +kernel
theorem dX8_chimes_16 : decode cX8_chimes 16 = .ok (.iload_n 1, 1) := by decide +kernel
theorem dX8_chimes_17 : decode cX8_chimes 17 = .ok (.invokestatic 58, 3) := by decide +kernel
theorem dX8_chimes_20 : decode cX8_chimes 20 = .ok (.iload_n 2, 1) := by decide +kernel
theorem dX8_chimes_21 : decode cX8_chimes 21 = .ok (.if_icmp .ne 7, 3) := by decide +kernel
theorem dX8_chimes_24 : decode cX8_chimes 24 = .ok (.iconst 1, 1) := by decide +kernel
theorem dX8_chimes_25 : decode cX8_chimes 25 = .ok (.goto 4, 3) := by decide +kernel
theorem dX8_chimes_28 : decode cX8_chimes 28 = .ok (.iconst 0, 1) := by decide +kernel
theorem dX8_chimes_29 : decode cX8_chimes 29 = .ok (.ireturn, 1) := by decide +kernel
theorem dX8_rhymeWornBy_0 : decode cX8_rhymeWornBy 0 = .ok (.aload_n 0, 1) := by decide +kernel
theorem dX8_rhymeWornBy_1 : decode cX8_rhymeWornBy 1 = .ok (.iload_n 1, 1) := by decide +kernel
theorem dX8_rhymeWornBy_2 : decode cX8_rhymeWornBy 2 = .ok (.invokevirtual 66, 3) := by decide +kernel
theorem dX8_rhymeWornBy_5 : decode cX8_rhymeWornBy 5 = .ok (.ifCond .eq 15, 3) := by decide +kernel
theorem dX8_rhymeWornBy_8 : decode cX8_rhymeWornBy 8 = .ok (.aload_n 0, 1) := by decide +kernel
theorem dX8_rhymeWornBy_9 : decode cX8_rhymeWornBy 9 = .ok (.getfield 9, 3) := by decide +kernel
theorem dX8_rhymeWornBy_12 : decode cX8_rhymeWornBy 12 = .ok (.iload_n 1, 1) := by decide +kernel
theorem dX8_rhymeWornBy_13 : decode cX8_rhymeWornBy 13 = .ok (.invokestatic 58, 3) := by decide +kernel
theorem dX8_rhymeWornBy_16 : decode cX8_rhymeWornBy 16 = .ok (.iconst 2, 1) := by decide +kernel
theorem dX8_rhymeWornBy_17 : decode cX8_rhymeWornBy 17 = .ok (.if_icmp .ne 5, 3) := by decide +kernel
theorem dX8_rhymeWornBy_20 : decode cX8_rhymeWornBy 20 = .ok (.iconst (-1), 1) := by decide +kernel
theorem dX8_rhymeWornBy_21 : decode cX8_rhymeWornBy 21 = .ok (.ireturn, 1) := by decide +kernel
theorem dX8_rhymeWornBy_22 : decode cX8_rhymeWornBy 22 = .ok (.aload_n 0, 1) := by decide +kernel
theorem dX8_rhymeWornBy_23 : decode cX8_rhymeWornBy 23 = .ok (.getfield 21, 3) := by decide +kernel
theorem dX8_rhymeWornBy_26 : decode cX8_rhymeWornBy 26 = .ok (.iload_n 1, 1) := by decide +kernel
theorem dX8_rhymeWornBy_27 : decode cX8_rhymeWornBy 27 = .ok (.invokestatic 58, 3) := by decide +kernel
theorem dX8_rhymeWornBy_30 : decode cX8_rhymeWornBy 30 = .ok (.ireturn, 1) := by decide +kernel
theorem dX8_isWorn_0 : decode cX8_isWorn 0 = .ok (.iload_n 1, 1) := by decide +kernel
theorem dX8_isWorn_1 : decode cX8_isWorn 1 = .ok (.iconst (-1), 1) := by decide +kernel
theorem dX8_isWorn_2 : decode cX8_isWorn 2 = .ok (.if_icmp .eq 19, 3) := by decide +kernel
theorem dX8_isWorn_5 : decode cX8_isWorn 5 = .ok (.iload_n 2, 1) := by decide +kernel
theorem dX8_isWorn_6 : decode cX8_isWorn 6 = .ok (.aload_n 0, 1) := by decide +kernel
theorem dX8_isWorn_7 : decode cX8_isWorn 7 = .ok (.getfield 36, 3) := by decide +kernel
theorem dX8_isWorn_10 : decode cX8_isWorn 10 = .ok (.iload_n 1, 1) := by decide +kernel
theorem dX8_isWorn_11 : decode cX8_isWorn 11 = .ok (.invokestatic 58, 3) := by decide +kernel
theorem dX8_isWorn_14 : decode cX8_isWorn 14 = .ok (.if_icmp .lt 7, 3) := by decide +kernel
theorem dX8_isWorn_17 : decode cX8_isWorn 17 = .ok (.iconst 1, 1) := by decide +kernel
theorem dX8_isWorn_18 : decode cX8_isWorn 18 = .ok (.goto 4, 3) := by decide +kernel
theorem dX8_isWorn_21 : decode cX8_isWorn 21 = .ok (.iconst 0, 1) := by decide +kernel
theorem dX8_isWorn_22 : decode cX8_isWorn 22 = .ok (.ireturn, 1) := by decide +kernel
theorem dX8_countBy_0 : decode cX8_countBy 0 = .ok (.aload_n 0, 1) := by decide +kernel
theorem dX8_countBy_1 : decode cX8_countBy 1 = .ok (.aload_n 2, 1) := by decide +kernel
theorem dX8_countBy_2 : decode cX8_countBy 2 = .ok (.invokevirtual 70, 3) := by decide +kernel
theorem dX8_countBy_5 : decode cX8_countBy 5 = .ok (.istore_n 3, 1) := by decide +kernel
theorem dX8_countBy_6 : decode cX8_countBy 6 = .ok (.aload_n 0, 1) := by decide +kernel
theorem dX8_countBy_7 : decode cX8_countBy 7 = .ok (.iload_n 1, 1) := by decide +kernel
theorem dX8_countBy_8 : decode cX8_countBy 8 = .ok (.invokevirtual 74, 3) := by decide +kernel
theorem dX8_countBy_11 : decode cX8_countBy 11 = .ok (.ifCond .eq 13, 3) := by decide +kernel
theorem dX8_countBy_14 : decode cX8_countBy 14 = .ok (.iload_n 3, 1) := by decide +kernel
theorem dX8_countBy_15 : decode cX8_countBy 15 = .ok (.aload_n 0, 1) := by decide +kernel
theorem dX8_countBy_16 : decode cX8_countBy 16 = .ok (.aload_n 2, 1) := by decide +kernel
theorem dX8_countBy_17 : decode cX8_countBy 17 = .ok (.invokevirtual 77, 3) := by decide +kernel
theorem dX8_countBy_20 : decode cX8_countBy 20 = .ok (.isub, 1) := by decide +kernel
theorem dX8_countBy_21 : decode cX8_countBy 21 = .ok (.goto 4, 3) := by decide +kernel
theorem dX8_countBy_24 : decode cX8_countBy 24 = .ok (.iload_n 3, 1) := by decide +kernel
theorem dX8_countBy_25 : decode cX8_countBy 25 = .ok (.ireturn, 1) := by decide +kernel
theorem dX8_syllablesOf_0 : decode cX8_syllablesOf 0 = .ok (.iconst 0, 1) := by decide +kernel
theorem dX8_syllablesOf_1 : decode cX8_syllablesOf 1 = .ok (.istore_n 2, 1) := by decide +kernel
theorem dX8_syllablesOf_2 : decode cX8_syllablesOf 2 = .ok (.iconst 0, 1) := by decide +kernel
theorem dX8_syllablesOf_3 : decode cX8_syllablesOf 3 = .ok (.istore_n 3, 1) := by decide +kernel
theorem dX8_syllablesOf_4 : decode cX8_syllablesOf 4 = .ok (.iload_n 3, 1) := by decide +kernel
theorem dX8_syllablesOf_5 : decode cX8_syllablesOf 5 = .ok (.aload_n 1, 1) := by decide +kernel
theorem dX8_syllablesOf_6 : decode cX8_syllablesOf 6 = .ok (.getfield 80, 3) := by decide +kernel
theorem dX8_syllablesOf_9 : decode cX8_syllablesOf 9 = .ok (.if_icmp .ge 24, 3) := by decide +kernel
theorem dX8_syllablesOf_12 : decode cX8_syllablesOf 12 = .ok (.iload_n 2, 1) := by decide +kernel
theorem dX8_syllablesOf_13 : decode cX8_syllablesOf 13 = .ok (.aload_n 0, 1) := by decide +kernel
theorem dX8_syllablesOf_14 : decode cX8_syllablesOf 14 = .ok (.getfield 15, 3) := by decide +kernel
theorem dX8_syllablesOf_17 : decode cX8_syllablesOf 17 = .ok (.aload_n 1, 1) := by decide +kernel
theorem dX8_syllablesOf_18 : decode cX8_syllablesOf 18 = .ok (.iload_n 3, 1) := by decide +kernel
theorem dX8_syllablesOf_19 : decode cX8_syllablesOf 19 = .ok (.invokevirtual 85, 3) := by decide +kernel
theorem dX8_syllablesOf_22 : decode cX8_syllablesOf 22 = .ok (.invokestatic 58, 3) := by decide +kernel
theorem dX8_syllablesOf_25 : decode cX8_syllablesOf 25 = .ok (.iadd, 1) := by decide +kernel
theorem dX8_syllablesOf_26 : decode cX8_syllablesOf 26 = .ok (.istore_n 2, 1) := by decide +kernel
theorem dX8_syllablesOf_27 : decode cX8_syllablesOf 27 = .ok (.iinc 3 1, 3) := by decide +kernel
theorem dX8_syllablesOf_30 : decode cX8_syllablesOf 30 = .ok (.goto (-26), 3) := by decide +kernel
theorem dX8_syllablesOf_33 : decode cX8_syllablesOf 33 = .ok (.iload_n 2, 1) := by decide +kernel
theorem dX8_syllablesOf_34 : decode cX8_syllablesOf 34 = .ok (.ireturn, 1) := by decide +kernel
theorem dX8_elisionsIn_0 : decode cX8_elisionsIn 0 = .ok (.iconst 0, 1) := by decide +kernel
theorem dX8_elisionsIn_1 : decode cX8_elisionsIn 1 = .ok (.istore_n 2, 1) := by decide +kernel
theorem dX8_elisionsIn_2 : decode cX8_elisionsIn 2 = .ok (.iconst 0, 1) := by decide +kernel
theorem dX8_elisionsIn_3 : decode cX8_elisionsIn 3 = .ok (.istore_n 3, 1) := by decide +kernel
theorem dX8_elisionsIn_4 : decode cX8_elisionsIn 4 = .ok (.iload_n 3, 1) := by decide +kernel
theorem dX8_elisionsIn_5 : decode cX8_elisionsIn 5 = .ok (.aload_n 1, 1) := by decide +kernel
theorem dX8_elisionsIn_6 : decode cX8_elisionsIn 6 = .ok (.getfield 80, 3) := by decide +kernel
theorem dX8_elisionsIn_9 : decode cX8_elisionsIn 9 = .ok (.iconst 1, 1) := by decide +kernel
theorem dX8_elisionsIn_10 : decode cX8_elisionsIn 10 = .ok (.isub, 1) := by decide +kernel
theorem dX8_elisionsIn_11 : decode cX8_elisionsIn 11 = .ok (.if_icmp .ge 28, 3) := by decide +kernel
theorem dX8_elisionsIn_14 : decode cX8_elisionsIn 14 = .ok (.aload_n 0, 1) := by decide +kernel
theorem dX8_elisionsIn_15 : decode cX8_elisionsIn 15 = .ok (.getfield 9, 3) := by decide +kernel
theorem dX8_elisionsIn_18 : decode cX8_elisionsIn 18 = .ok (.aload_n 1, 1) := by decide +kernel
theorem dX8_elisionsIn_19 : decode cX8_elisionsIn 19 = .ok (.iload_n 3, 1) := by decide +kernel
theorem dX8_elisionsIn_20 : decode cX8_elisionsIn 20 = .ok (.invokevirtual 85, 3) := by decide +kernel
theorem dX8_elisionsIn_23 : decode cX8_elisionsIn 23 = .ok (.invokestatic 58, 3) := by decide +kernel
theorem dX8_elisionsIn_26 : decode cX8_elisionsIn 26 = .ok (.iconst 1, 1) := by decide +kernel
theorem dX8_elisionsIn_27 : decode cX8_elisionsIn 27 = .ok (.if_icmp .ne 6, 3) := by decide +kernel
theorem dX8_elisionsIn_30 : decode cX8_elisionsIn 30 = .ok (.iinc 2 1, 3) := by decide +kernel
theorem dX8_elisionsIn_33 : decode cX8_elisionsIn 33 = .ok (.iinc 3 1, 3) := by decide +kernel
theorem dX8_elisionsIn_36 : decode cX8_elisionsIn 36 = .ok (.goto (-32), 3) := by decide +kernel
theorem dX8_elisionsIn_39 : decode cX8_elisionsIn 39 = .ok (.iload_n 2, 1) := by decide +kernel
theorem dX8_elisionsIn_40 : decode cX8_elisionsIn 40 = .ok (.ireturn, 1) := by decide +kernel
theorem dX8_fits_0 : decode cX8_fits 0 = .ok (.aload_n 0, 1) := by decide +kernel
theorem dX8_fits_1 : decode cX8_fits 1 = .ok (.getfield 55, 3) := by decide +kernel
theorem dX8_fits_4 : decode cX8_fits 4 = .ok (.ifCond .eq 23, 3) := by decide +kernel
theorem dX8_fits_7 : decode cX8_fits 7 = .ok (.iload_n 1, 1) := by decide +kernel
theorem dX8_fits_8 : decode cX8_fits 8 = .ok (.ifCond .lt 19, 3) := by decide +kernel
theorem dX8_fits_11 : decode cX8_fits 11 = .ok (.iload_n 1, 1) := by decide +kernel
theorem dX8_fits_12 : decode cX8_fits 12 = .ok (.bipush 9, 2) := by decide +kernel
theorem dX8_fits_14 : decode cX8_fits 14 = .ok (.if_icmp .ge 13, 3) := by decide +kernel
theorem dX8_fits_17 : decode cX8_fits 17 = .ok (.aload_n 0, 1) := by decide +kernel
theorem dX8_fits_18 : decode cX8_fits 18 = .ok (.getfield 9, 3) := by decide +kernel
theorem dX8_fits_21 : decode cX8_fits 21 = .ok (.iload_n 1, 1) := by decide +kernel
theorem dX8_fits_22 : decode cX8_fits 22 = .ok (.iaload, 1) := by decide +kernel
theorem dX8_fits_23 : decode cX8_fits 23 = .ok (.iconst 3, 1) := by decide +kernel
theorem dX8_fits_24 : decode cX8_fits 24 = .ok (.if_icmp .ne 5, 3) := by decide +kernel
theorem dX8_fits_27 : decode cX8_fits 27 = .ok (.iconst 1, 1) := by decide +kernel
theorem dX8_fits_28 : decode cX8_fits 28 = .ok (.ireturn, 1) := by decide +kernel
theorem dX8_fits_29 : decode cX8_fits 29 = .ok (.aload_n 0, 1) := by decide +kernel
theorem dX8_fits_30 : decode cX8_fits 30 = .ok (.getfield 55, 3) := by decide +kernel
theorem dX8_fits_33 : decode cX8_fits 33 = .ok (.iconst 1, 1) := by decide +kernel
theorem dX8_fits_34 : decode cX8_fits 34 = .ok (.if_icmp .ne 7, 3) := by decide +kernel
theorem dX8_fits_37 : decode cX8_fits 37 = .ok (.iconst 0, 1) := by decide +kernel
theorem dX8_fits_38 : decode cX8_fits 38 = .ok (.goto 4, 3) := by decide +kernel
theorem dX8_fits_41 : decode cX8_fits 41 = .ok (.iconst 1, 1) := by decide +kernel
theorem dX8_fits_42 : decode cX8_fits 42 = .ok (.istore_n 3, 1) := by decide +kernel
theorem dX8_fits_43 : decode cX8_fits 43 = .ok (.iload_n 2, 1) := by decide +kernel
theorem dX8_fits_44 : decode cX8_fits 44 = .ok (.aload_n 0, 1) := by decide +kernel
theorem dX8_fits_45 : decode cX8_fits 45 = .ok (.getfield 18, 3) := by decide +kernel
theorem dX8_fits_48 : decode cX8_fits 48 = .ok (.iload_n 1, 1) := by decide +kernel
theorem dX8_fits_49 : decode cX8_fits 49 = .ok (.iaload, 1) := by decide +kernel
theorem dX8_fits_50 : decode cX8_fits 50 = .ok (.iadd, 1) := by decide +kernel
theorem dX8_fits_51 : decode cX8_fits 51 = .ok (.iconst 1, 1) := by decide +kernel
theorem dX8_fits_52 : decode cX8_fits 52 = .ok (.iand, 1) := by decide +kernel
theorem dX8_fits_53 : decode cX8_fits 53 = .ok (.iload_n 3, 1) := by decide +kernel
theorem dX8_fits_54 : decode cX8_fits 54 = .ok (.if_icmp .ne 7, 3) := by decide +kernel
theorem dX8_fits_57 : decode cX8_fits 57 = .ok (.iconst 1, 1) := by decide +kernel
theorem dX8_fits_58 : decode cX8_fits 58 = .ok (.goto 4, 3) := by decide +kernel
theorem dX8_fits_61 : decode cX8_fits 61 = .ok (.iconst 0, 1) := by decide +kernel
theorem dX8_fits_62 : decode cX8_fits 62 = .ok (.ireturn, 1) := by decide +kernel
theorem dX8_isInMetre_0 : decode cX8_isInMetre 0 = .ok (.iconst 0, 1) := by decide +kernel
theorem dX8_isInMetre_1 : decode cX8_isInMetre 1 = .ok (.istore_n 2, 1) := by decide +kernel
theorem dX8_isInMetre_2 : decode cX8_isInMetre 2 = .ok (.iconst 0, 1) := by decide +kernel
theorem dX8_isInMetre_3 : decode cX8_isInMetre 3 = .ok (.istore_n 3, 1) := by decide +kernel
theorem dX8_isInMetre_4 : decode cX8_isInMetre 4 = .ok (.iload_n 3, 1) := by decide +kernel
theorem dX8_isInMetre_5 : decode cX8_isInMetre 5 = .ok (.aload_n 1, 1) := by decide +kernel
theorem dX8_isInMetre_6 : decode cX8_isInMetre 6 = .ok (.getfield 80, 3) := by decide +kernel
theorem dX8_isInMetre_9 : decode cX8_isInMetre 9 = .ok (.if_icmp .ge 39, 3) := by decide +kernel
theorem dX8_isInMetre_12 : decode cX8_isInMetre 12 = .ok (.aload_n 0, 1) := by decide +kernel
theorem dX8_isInMetre_13 : decode cX8_isInMetre 13 = .ok (.aload_n 1, 1) := by decide +kernel
theorem dX8_isInMetre_14 : decode cX8_isInMetre 14 = .ok (.iload_n 3, 1) := by decide +kernel
theorem dX8_isInMetre_15 : decode cX8_isInMetre 15 = .ok (.invokevirtual 85, 3) := by decide +kernel
theorem dX8_isInMetre_18 : decode cX8_isInMetre 18 = .ok (.iload_n 2, 1) := by decide +kernel
theorem dX8_isInMetre_19 : decode cX8_isInMetre 19 = .ok (.invokevirtual 88, 3) := by decide +kernel
theorem dX8_isInMetre_22 : decode cX8_isInMetre 22 = .ok (.ifCond .ne 5, 3) := by decide +kernel
theorem dX8_isInMetre_25 : decode cX8_isInMetre 25 = .ok (.iconst 0, 1) := by decide +kernel
theorem dX8_isInMetre_26 : decode cX8_isInMetre 26 = .ok (.ireturn, 1) := by decide +kernel
theorem dX8_isInMetre_27 : decode cX8_isInMetre 27 = .ok (.iload_n 2, 1) := by decide +kernel
theorem dX8_isInMetre_28 : decode cX8_isInMetre 28 = .ok (.aload_n 0, 1) := by decide +kernel
theorem dX8_isInMetre_29 : decode cX8_isInMetre 29 = .ok (.getfield 15, 3) := by decide +kernel
theorem dX8_isInMetre_32 : decode cX8_isInMetre 32 = .ok (.aload_n 1, 1) := by decide +kernel
theorem dX8_isInMetre_33 : decode cX8_isInMetre 33 = .ok (.iload_n 3, 1) := by decide +kernel
theorem dX8_isInMetre_34 : decode cX8_isInMetre 34 = .ok (.invokevirtual 85, 3) := by decide +kernel
theorem dX8_isInMetre_37 : decode cX8_isInMetre 37 = .ok (.invokestatic 58, 3) := by decide +kernel
theorem dX8_isInMetre_40 : decode cX8_isInMetre 40 = .ok (.iadd, 1) := by decide +kernel
theorem dX8_isInMetre_41 : decode cX8_isInMetre 41 = .ok (.istore_n 2, 1) := by decide +kernel
theorem dX8_isInMetre_42 : decode cX8_isInMetre 42 = .ok (.iinc 3 1, 3) := by decide +kernel
theorem dX8_isInMetre_45 : decode cX8_isInMetre 45 = .ok (.goto (-41), 3) := by decide +kernel
theorem dX8_isInMetre_48 : decode cX8_isInMetre 48 = .ok (.iconst 1, 1) := by decide +kernel
theorem dX8_isInMetre_49 : decode cX8_isInMetre 49 = .ok (.ireturn, 1) := by decide +kernel
theorem dX8_admits_0 : decode cX8_admits 0 = .ok (.aload_n 1, 1) := by decide +kernel
theorem dX8_admits_1 : decode cX8_admits 1 = .ok (.getfield 80, 3) := by decide +kernel
theorem dX8_admits_4 : decode cX8_admits 4 = .ok (.ifCond .eq 28, 3) := by decide +kernel
theorem dX8_admits_7 : decode cX8_admits 7 = .ok (.aload_n 0, 1) := by decide +kernel
theorem dX8_admits_8 : decode cX8_admits 8 = .ok (.iload_n 3, 1) := by decide +kernel
theorem dX8_admits_9 : decode cX8_admits 9 = .ok (.aload_n 1, 1) := by decide +kernel
theorem dX8_admits_10 : decode cX8_admits 10 = .ok (.invokevirtual 92, 3) := by decide +kernel
theorem dX8_admits_13 : decode cX8_admits 13 = .ok (.aload_n 0, 1) := by decide +kernel
theorem dX8_admits_14 : decode cX8_admits 14 = .ok (.getfield 27, 3) := by decide +kernel
theorem dX8_admits_17 : decode cX8_admits 17 = .ok (.iload_n 2, 1) := by decide +kernel
theorem dX8_admits_18 : decode cX8_admits 18 = .ok (.invokestatic 58, 3) := by decide +kernel
theorem dX8_admits_21 : decode cX8_admits 21 = .ok (.if_icmp .ne 11, 3) := by decide +kernel
theorem dX8_admits_24 : decode cX8_admits 24 = .ok (.aload_n 0, 1) := by decide +kernel
theorem dX8_admits_25 : decode cX8_admits 25 = .ok (.aload_n 1, 1) := by decide +kernel
theorem dX8_admits_26 : decode cX8_admits 26 = .ok (.invokevirtual 96, 3) := by decide +kernel
theorem dX8_admits_29 : decode cX8_admits 29 = .ok (.ifCond .ne 5, 3) := by decide +kernel
theorem dX8_admits_32 : decode cX8_admits 32 = .ok (.iconst 0, 1) := by decide +kernel
theorem dX8_admits_33 : decode cX8_admits 33 = .ok (.ireturn, 1) := by decide +kernel
theorem dX8_admits_34 : decode cX8_admits 34 = .ok (.aload_n 0, 1) := by decide +kernel
theorem dX8_admits_35 : decode cX8_admits 35 = .ok (.iload_n 3, 1) := by decide +kernel
theorem dX8_admits_36 : decode cX8_admits 36 = .ok (.invokevirtual 100, 3) := by decide +kernel
theorem dX8_admits_39 : decode cX8_admits 39 = .ok (.ifCond .ne 26, 3) := by decide +kernel
theorem dX8_admits_42 : decode cX8_admits 42 = .ok (.aload_n 0, 1) := by decide +kernel
theorem dX8_admits_43 : decode cX8_admits 43 = .ok (.aload_n 1, 1) := by decide +kernel
theorem dX8_admits_44 : decode cX8_admits 44 = .ok (.invokevirtual 103, 3) := by decide +kernel
theorem dX8_admits_47 : decode cX8_admits 47 = .ok (.aload_n 0, 1) := by decide +kernel
theorem dX8_admits_48 : decode cX8_admits 48 = .ok (.aload_n 0, 1) := by decide +kernel
theorem dX8_admits_49 : decode cX8_admits 49 = .ok (.getfield 30, 3) := by decide +kernel
theorem dX8_admits_52 : decode cX8_admits 52 = .ok (.iload_n 2, 1) := by decide +kernel
theorem dX8_admits_53 : decode cX8_admits 53 = .ok (.invokestatic 58, 3) := by decide +kernel
theorem dX8_admits_56 : decode cX8_admits 56 = .ok (.invokevirtual 107, 3) := by decide +kernel
theorem dX8_admits_59 : decode cX8_admits 59 = .ok (.invokevirtual 110, 3) := by decide +kernel
theorem dX8_admits_62 : decode cX8_admits 62 = .ok (.ifCond .eq 7, 3) := by decide +kernel
theorem dX8_admits_65 : decode cX8_admits 65 = .ok (.iconst 1, 1) := by decide +kernel
theorem dX8_admits_66 : decode cX8_admits 66 = .ok (.goto 4, 3) := by decide +kernel
theorem dX8_admits_69 : decode cX8_admits 69 = .ok (.iconst 0, 1) := by decide +kernel
theorem dX8_admits_70 : decode cX8_admits 70 = .ok (.ireturn, 1) := by decide +kernel
theorem dX8_linesOf_0 : decode cX8_linesOf 0 = .ok (.iconst 1, 1) := by decide +kernel
theorem dX8_linesOf_1 : decode cX8_linesOf 1 = .ok (.istore_n 2, 1) := by decide +kernel
theorem dX8_linesOf_2 : decode cX8_linesOf 2 = .ok (.iconst 0, 1) := by decide +kernel
theorem dX8_linesOf_3 : decode cX8_linesOf 3 = .ok (.istore_n 3, 1) := by decide +kernel
theorem dX8_linesOf_4 : decode cX8_linesOf 4 = .ok (.iload_n 3, 1) := by decide +kernel
theorem dX8_linesOf_5 : decode cX8_linesOf 5 = .ok (.iload_n 1, 1) := by decide +kernel
theorem dX8_linesOf_6 : decode cX8_linesOf 6 = .ok (.if_icmp .ge 22, 3) := by decide +kernel
theorem dX8_linesOf_9 : decode cX8_linesOf 9 = .ok (.iload_n 3, 1) := by decide +kernel
theorem dX8_linesOf_10 : decode cX8_linesOf 10 = .ok (.bipush 6, 2) := by decide +kernel
theorem dX8_linesOf_12 : decode cX8_linesOf 12 = .ok (.if_icmp .ge 16, 3) := by decide +kernel
theorem dX8_linesOf_15 : decode cX8_linesOf 15 = .ok (.iload_n 2, 1) := by decide +kernel
theorem dX8_linesOf_16 : decode cX8_linesOf 16 = .ok (.aload_n 0, 1) := by decide +kernel
theorem dX8_linesOf_17 : decode cX8_linesOf 17 = .ok (.getfield 45, 3) := by decide +kernel
theorem dX8_linesOf_20 : decode cX8_linesOf 20 = .ok (.imul, 1) := by decide +kernel
theorem dX8_linesOf_21 : decode cX8_linesOf 21 = .ok (.istore_n 2, 1) := by decide +kernel
theorem dX8_linesOf_22 : decode cX8_linesOf 22 = .ok (.iinc 3 1, 3) := by decide +kernel
theorem dX8_linesOf_25 : decode cX8_linesOf 25 = .ok (.goto (-21), 3) := by decide +kernel
theorem dX8_linesOf_28 : decode cX8_linesOf 28 = .ok (.iload_n 2, 1) := by decide +kernel
theorem dX8_linesOf_29 : decode cX8_linesOf 29 = .ok (.ireturn, 1) := by decide +kernel
theorem dX9_init_0 : decode cX9_init 0 = .ok (.aload_n 0, 1) := by decide +kernel
theorem dX9_init_1 : decode cX9_init 1 = .ok (.invokespecial 3, 3) := by decide +kernel
theorem dX9_init_4 : decode cX9_init 4 = .ok (.aload_n 0, 1) := by decide +kernel
theorem dX9_init_5 : decode cX9_init 5 = .ok (.new 9, 3) := by decide +kernel
theorem dX9_init_8 : decode cX9_init 8 = .ok (.dup, 1) := by decide +kernel
theorem dX9_init_9 : decode cX9_init 9 = .ok (.invokespecial 11, 3) := by decide +kernel
theorem dX9_init_12 : decode cX9_init 12 = .ok (.putfield 12, 3) := by decide +kernel
theorem dX9_init_15 : decode cX9_init 15 = .ok (.aload_n 0, 1) := by decide +kernel
theorem dX9_init_16 : decode cX9_init 16 = .ok (.new 16, 3) := by decide +kernel
theorem dX9_init_19 : decode cX9_init 19 = .ok (.dup, 1) := by decide +kernel
theorem dX9_init_20 : decode cX9_init 20 = .ok (.invokespecial 18, 3) := by decide +kernel
theorem dX9_init_23 : decode cX9_init 23 = .ok (.putfield 19, 3) := by decide +kernel
theorem dX9_init_26 : decode cX9_init 26 = .ok (.aload_n 0, 1) := by decide +kernel
theorem dX9_init_27 : decode cX9_init 27 = .ok (.new 23, 3) := by decide +kernel
theorem dX9_init_30 : decode cX9_init 30 = .ok (.dup, 1) := by decide +kernel
theorem dX9_init_31 : decode cX9_init 31 = .ok (.invokespecial 25, 3) := by decide +kernel
theorem dX9_init_34 : decode cX9_init 34 = .ok (.putfield 26, 3) := by decide +kernel
theorem dX9_init_37 : decode cX9_init 37 = .ok (.aload_n 0, 1) := by decide +kernel
theorem dX9_init_38 : decode cX9_init 38 = .ok (.new 30, 3) := by decide +kernel
theorem dX9_init_41 : decode cX9_init 41 = .ok (.dup, 1) := by decide +kernel
theorem dX9_init_42 : decode cX9_init 42 = .ok (.invokespecial 32, 3) := by decide +kernel
theorem dX9_init_45 : decode cX9_init 45 = .ok (.putfield 33, 3) := by decide +kernel
theorem dX9_init_48 : decode cX9_init 48 = .ok (.aload_n 0, 1) := by decide +kernel
theorem dX9_init_49 : decode cX9_init 49 = .ok (.new 37, 3) := by decide +kernel
theorem dX9_init_52 : decode cX9_init 52 = .ok (.dup, 1) := by decide +kernel
theorem dX9_init_53 : decode cX9_init 53 = .ok (.aload_n 0, 1) := by decide +kernel
theorem dX9_init_54 : decode cX9_init 54 = .ok (.getfield 12, 3) := by decide +kernel
theorem dX9_init_57 : decode cX9_init 57 = .ok (.invokespecial 39, 3) := by decide +kernel
theorem dX9_init_60 : decode cX9_init 60 = .ok (.putfield 42, 3) := by decide +kernel
theorem dX9_init_63 : decode cX9_init 63 = .ok (.aload_n 0, 1) := by decide +kernel
theorem dX9_init_64 : decode cX9_init 64 = .ok (.new 46, 3) := by decide +kernel
theorem dX9_init_67 : decode cX9_init 67 = .ok (.dup, 1) := by decide +kernel
theorem dX9_init_68 : decode cX9_init 68 = .ok (.aload_n 0, 1) := by decide +kernel
theorem dX9_init_69 : decode cX9_init 69 = .ok (.getfield 12, 3) := by decide +kernel
theorem dX9_init_72 : decode cX9_init 72 = .ok (.aload_n 0, 1) := by decide +kernel
theorem dX9_init_73 : decode cX9_init 73 = .ok (.getfield 42, 3) := by decide +kernel
theorem dX9_init_76 : decode cX9_init 76 = .ok (.aload_n 0, 1) := by decide +kernel
theorem dX9_init_77 : decode cX9_init 77 = .ok (.getfield 33, 3) := by decide +kernel
theorem dX9_init_80 : decode cX9_init 80 = .ok (.invokespecial 48, 3) := by decide +kernel
theorem dX9_init_83 : decode cX9_init 83 = .ok (.putfield 51, 3) := by decide +kernel
theorem dX9_init_86 : decode cX9_init 86 = .ok (.aload_n 0, 1) := by decide +kernel
theorem dX9_init_87 : decode cX9_init 87 = .ok (.new 55, 3) := by decide +kernel
theorem dX9_init_90 : decode cX9_init 90 = .ok (.dup, 1) := by decide +kernel
theorem dX9_init_91 : decode cX9_init 91 = .ok (.aload_n 0, 1) := by decide +kernel
theorem dX9_init_92 : decode cX9_init 92 = .ok (.getfield 12, 3) := by decide +kernel
theorem dX9_init_95 : decode cX9_init 95 = .ok (.invokespecial 57, 3) := by decide +kernel
theorem dX9_init_98 : decode cX9_init 98 = .ok (.putfield 58, 3) := by decide +kernel
theorem dX9_init_101 : decode cX9_init 101 = .ok (.aload_n 0, 1) := by decide +kernel
theorem dX9_init_102 : decode cX9_init 102 = .ok (.new 62, 3) := by decide +kernel
theorem dX9_init_105 : decode cX9_init 105 = .ok (.dup, 1) := by decide +kernel
theorem dX9_init_106 : decode cX9_init 106 = .ok (.aload_n 0, 1) := by decide +kernel
theorem dX9_init_107 : decode cX9_init 107 = .ok (.getfield 12, 3) := by decide +kernel
theorem dX9_init_110 : decode cX9_init 110 = .ok (.invokespecial 64, 3) := by decide +kernel
theorem dX9_init_113 : decode cX9_init 113 = .ok (.putfield 65, 3) := by decide +kernel
theorem dX9_init_116 : decode cX9_init 116 = .ok (.aload_n 0, 1) := by decide +kernel
theorem dX9_init_117 : decode cX9_init 117 = .ok (.new 69, 3) := by decide +kernel
theorem dX9_init_120 : decode cX9_init 120 = .ok (.dup, 1) := by decide +kernel
theorem dX9_init_121 : decode cX9_init 121 = .ok (.aload_n 0, 1) := by decide +kernel
theorem dX9_init_122 : decode cX9_init 122 = .ok (.getfield 12, 3) := by decide +kernel
theorem dX9_init_125 : decode cX9_init 125 = .ok (.invokespecial 71, 3) := by decide +kernel
theorem dX9_init_128 : decode cX9_init 128 = .ok (.putfield 72, 3) := by decide +kernel
theorem dX9_init_131 : decode cX9_init 131 = .ok (.aload_n 0, 1) := by decide +kernel
theorem dX9_init_132 : decode cX9_init 132 = .ok (.bipush 6, 2) := by decide +kernel
theorem dX9_init_134 : decode cX9_init 134 = .ok (.newarray .int, 2) := by decide +kernel
theorem dX9_init_136 : decode cX9_init 136 = .ok (.putfield 76, 3) := by decide +kernel
theorem dX9_init_139 : decode cX9_init 139 = .ok (.return_, 1) := by decide +kernel
theorem dX9_write_0 : decode cX9_write 0 = .ok (.iload_n 1, 1) := by decide +kernel
theorem dX9_write_1 : decode cX9_write 1 = .ok (.ifCond .lt 10, 3) := by decide +kernel
theorem dX9_write_4 : decode cX9_write 4 = .ok (.iload_n 1, 1) := by decide +kernel
theorem dX9_write_5 : decode cX9_write 5 = .ok (.sipush 256, 3) := by decide +kernel
theorem dX9_write_8 : decode cX9_write 8 = .ok (.if_icmp .lt 6, 3) := by decide +kernel
theorem dX9_write_11 : decode cX9_write 11 = .ok (.bipush (-3), 2) := by decide +kernel
theorem dX9_write_13 : decode cX9_write 13 = .ok (.ireturn, 1) := by decide +kernel
theorem dX9_write_14 : decode cX9_write 14 = .ok (.aload_n 0, 1) := by decide +kernel
theorem dX9_write_15 : decode cX9_write 15 = .ok (.getfield 19, 3) := by decide +kernel
theorem dX9_write_18 : decode cX9_write 18 = .ok (.getfield 80, 3) := by decide +kernel
theorem dX9_write_21 : decode cX9_write 21 = .ok (.sipush 160, 3) := by decide +kernel
theorem dX9_write_24 : decode cX9_write 24 = .ok (.if_icmp .lt 6, 3) := by decide +kernel
theorem dX9_write_27 : decode cX9_write 27 = .ok (.bipush (-5), 2) := by decide +kernel
theorem dX9_write_29 : decode cX9_write 29 = .ok (.ireturn, 1) := by decide +kernel
theorem dX9_write_30 : decode cX9_write 30 = .ok (.aload_n 0, 1) := by decide +kernel
theorem dX9_write_31 : decode cX9_write 31 = .ok (.getfield 19, 3) := by decide +kernel
theorem dX9_write_34 : decode cX9_write 34 = .ok (.iload_n 1, 1) := by decide +kernel
theorem dX9_write_35 : decode cX9_write 35 = .ok (.invokevirtual 84, 3) := by decide +kernel
theorem dX9_write_38 : decode cX9_write 38 = .ok (.ireturn, 1) := by decide +kernel
theorem dX9_erase_0 : decode cX9_erase 0 = .ok (.aload_n 0, 1) := by decide +kernel
theorem dX9_erase_1 : decode cX9_erase 1 = .ok (.getfield 19, 3) := by decide +kernel
theorem dX9_erase_4 : decode cX9_erase 4 = .ok (.invokevirtual 88, 3) := by decide +kernel
theorem dX9_erase_7 : decode cX9_erase 7 = .ok (.ireturn, 1) := by decide +kernel
theorem dX9_fault_0 : decode cX9_fault 0 = .ok (.aload_n 0, 1) := by decide +kernel
theorem dX9_fault_1 : decode cX9_fault 1 = .ok (.getfield 19, 3) := by decide +kernel
theorem dX9_fault_4 : decode cX9_fault 4 = .ok (.aload_n 0, 1) := by decide +kernel
theorem dX9_fault_5 : decode cX9_fault 5 = .ok (.getfield 12, 3) := by decide +kernel
theorem dX9_fault_8 : decode cX9_fault 8 = .ok (.invokevirtual 92, 3) := by decide +kernel
theorem dX9_fault_11 : decode cX9_fault 11 = .ok (.ireturn, 1) := by decide +kernel
theorem dX9_customs_0 : decode cX9_customs 0 = .ok (.aload_n 0, 1) := by decide +kernel
theorem dX9_customs_1 : decode cX9_customs 1 = .ok (.getfield 19, 3) := by decide +kernel
theorem dX9_customs_4 : decode cX9_customs 4 = .ok (.aload_n 0, 1) := by decide +kernel
theorem dX9_customs_5 : decode cX9_customs 5 = .ok (.getfield 12, 3) := by decide +kernel
theorem dX9_customs_8 : decode cX9_customs 8 = .ok (.invokevirtual 92, 3) := by decide +kernel
theorem dX9_customs_11 : decode cX9_customs 11 = .ok (.iconst (-1), 1) := by decide +kernel
theorem dX9_customs_12 : decode cX9_customs 12 = .ok (.if_icmp .eq 6, 3) := by decide +kernel
theorem dX9_customs_15 : decode cX9_customs 15 = .ok (.bipush (-4), 2) := by decide +kernel
theorem dX9_customs_17 : decode cX9_customs 17 = .ok (.ireturn, 1) := by decide +kernel
theorem dX9_customs_18 : decode cX9_customs 18 = .ok (.iconst 0, 1) := by decide +kernel
theorem dX9_customs_19 : decode cX9_customs 19 = .ok (.istore_n 1, 1) := by decide +kernel
theorem dX9_customs_20 : decode cX9_customs 20 = .ok (.iload_n 1, 1) := by decide +kernel
theorem dX9_customs_21 : decode cX9_customs 21 = .ok (.aload_n 0, 1) := by decide +kernel
theorem dX9_customs_22 : decode cX9_customs 22 = .ok (.getfield 19, 3) := by decide +kernel
theorem dX9_customs_25 : decode cX9_customs 25 = .ok (.getfield 96, 3) := by decide +kernel
theorem dX9_customs_28 : decode cX9_customs 28 = .ok (.if_icmp .ge 21, 3) := by decide +kernel
theorem dX9_customs_31 : decode cX9_customs 31 = .ok (.aload_n 0, 1) := by decide +kernel
theorem dX9_customs_32 : decode cX9_customs 32 = .ok (.getfield 19, 3) := by decide +kernel
theorem dX9_customs_35 : decode cX9_customs 35 = .ok (.iload_n 1, 1) := by decide +kernel
theorem dX9_customs_36 : decode cX9_customs 36 = .ok (.aload_n 0, 1) := by decide +kernel
theorem dX9_customs_37 : decode cX9_customs 37 = .ok (.getfield 12, 3) := by decide +kernel
theorem dX9_customs_40 : decode cX9_customs 40 = .ok (.invokevirtual 99, 3) := by decide +kernel
theorem dX9_customs_43 : decode cX9_customs 43 = .ok (.iinc 1 1, 3) := by decide +kernel
theorem dX9_customs_46 : decode cX9_customs 46 = .ok (.goto (-26), 3) := by decide +kernel
theorem dX9_customs_49 : decode cX9_customs 49 = .ok (.aload_n 0, 1) := by decide +kernel
theorem dX9_customs_50 : decode cX9_customs 50 = .ok (.getfield 19, 3) := by decide +kernel
theorem dX9_customs_53 : decode cX9_customs 53 = .ok (.getfield 96, 3) := by decide +kernel
theorem dX9_customs_56 : decode cX9_customs 56 = .ok (.istore_n 1, 1) := by decide +kernel
theorem dX9_customs_57 : decode cX9_customs 57 = .ok (.aload_n 0, 1) := by decide +kernel
theorem dX9_customs_58 : decode cX9_customs 58 = .ok (.getfield 19, 3) := by decide +kernel
theorem dX9_customs_61 : decode cX9_customs 61 = .ok (.invokevirtual 88, 3) := by decide +kernel
theorem dX9_customs_64 : decode cX9_customs 64 = .ok (.pop, 1) := by decide +kernel
theorem dX9_customs_65 : decode cX9_customs 65 = .ok (.aload_n 0, 1) := by decide +kernel
theorem dX9_customs_66 : decode cX9_customs 66 = .ok (.getfield 26, 3) := by decide +kernel
theorem dX9_customs_69 : decode cX9_customs 69 = .ok (.invokevirtual 103, 3) := by decide +kernel
theorem dX9_customs_72 : decode cX9_customs 72 = .ok (.aload_n 0, 1) := by decide +kernel
theorem dX9_customs_73 : decode cX9_customs 73 = .ok (.getfield 33, 3) := by decide +kernel
theorem dX9_customs_76 : decode cX9_customs 76 = .ok (.invokevirtual 106, 3) := by decide +kernel
theorem dX9_customs_79 : decode cX9_customs 79 = .ok (.pop, 1) := by decide +kernel
theorem dX9_customs_80 : decode cX9_customs 80 = .ok (.aload_n 0, 1) := by decide +kernel
theorem dX9_customs_81 : decode cX9_customs 81 = .ok (.getfield 72, 3) := by decide +kernel
theorem dX9_customs_84 : decode cX9_customs 84 = .ok (.invokevirtual 107, 3) := by decide +kernel
theorem dX9_customs_87 : decode cX9_customs 87 = .ok (.iload_n 1, 1) := by decide +kernel
theorem dX9_customs_88 : decode cX9_customs 88 = .ok (.ireturn, 1) := by decide +kernel
theorem dX9_word_0 : decode cX9_word 0 = .ok (.aload_n 0, 1) := by decide +kernel
theorem dX9_word_1 : decode cX9_word 1 = .ok (.getfield 12, 3) := by decide +kernel
theorem dX9_word_4 : decode cX9_word 4 = .ok (.iload_n 1, 1) := by decide +kernel
theorem dX9_word_5 : decode cX9_word 5 = .ok (.invokevirtual 110, 3) := by decide +kernel
theorem dX9_word_8 : decode cX9_word 8 = .ok (.ifCond .ne 6, 3) := by decide +kernel
theorem dX9_word_11 : decode cX9_word 11 = .ok (.bipush (-2), 2) := by decide +kernel
theorem dX9_word_13 : decode cX9_word 13 = .ok (.ireturn, 1) := by decide +kernel
theorem dX9_word_14 : decode cX9_word 14 = .ok (.iload_n 2, 1) := by decide +kernel
theorem dX9_word_15 : decode cX9_word 15 = .ok (.tableswitch 77 0 3 #[29, 41, 53, 65], 29) := by decide +kernel
theorem dX9_word_44 : decode cX9_word 44 = .ok (.aload_n 0, 1) := by decide +kernel
theorem dX9_word_45 : decode cX9_word 45 = .ok (.getfield 12, 3) := by decide +kernel
theorem dX9_word_48 : decode cX9_word 48 = .ok (.getfield 114, 3) := by decide +kernel
theorem dX9_word_51 : decode cX9_word 51 = .ok (.iload_n 1, 1) := by decide +kernel
theorem dX9_word_52 : decode cX9_word 52 = .ok (.invokestatic 117, 3) := by decide +kernel
theorem dX9_word_55 : decode cX9_word 55 = .ok (.ireturn, 1) := by decide +kernel
theorem dX9_word_56 : decode cX9_word 56 = .ok (.aload_n 0, 1) := by decide +kernel
theorem dX9_word_57 : decode cX9_word 57 = .ok (.getfield 12, 3) := by decide +kernel
theorem dX9_word_60 : decode cX9_word 60 = .ok (.getfield 121, 3) := by decide +kernel
theorem dX9_word_63 : decode cX9_word 63 = .ok (.iload_n 1, 1) := by decide +kernel
theorem dX9_word_64 : decode cX9_word 64 = .ok (.invokestatic 117, 3) := by decide +kernel
theorem dX9_word_67 : decode cX9_word 67 = .ok (.ireturn, 1) := by decide +kernel
theorem dX9_word_68 : decode cX9_word 68 = .ok (.aload_n 0, 1) := by decide +kernel
theorem dX9_word_69 : decode cX9_word 69 = .ok (.getfield 12, 3) := by decide +kernel
theorem dX9_word_72 : decode cX9_word 72 = .ok (.getfield 124, 3) := by decide +kernel
theorem dX9_word_75 : decode cX9_word 75 = .ok (.iload_n 1, 1) := by decide +kernel
theorem dX9_word_76 : decode cX9_word 76 = .ok (.invokestatic 117, 3) := by decide +kernel
theorem dX9_word_79 : decode cX9_word 79 = .ok (.ireturn, 1) := by decide +kernel
theorem dX9_word_80 : decode cX9_word 80 = .ok (.aload_n 0, 1) := by decide +kernel
theorem dX9_word_81 : decode cX9_word 81 = .ok (.getfield 12, 3) := by decide +kernel
theorem dX9_word_84 : decode cX9_word 84 = .ok (.getfield 127, 3) := by decide +kernel
theorem dX9_word_87 : decode cX9_word 87 = .ok (.iload_n 1, 1) := by decide +kernel
theorem dX9_word_88 : decode cX9_word 88 = .ok (.invokestatic 117, 3) := by decide +kernel
theorem dX9_word_91 : decode cX9_word 91 = .ok (.ireturn, 1) := by decide +kernel
theorem dX9_word_92 : decode cX9_word 92 = .ok (.bipush (-3), 2) := by decide +kernel
theorem dX9_word_94 : decode cX9_word 94 = .ok (.ireturn, 1) := by decide +kernel
theorem dX9_ware_0 : decode cX9_ware 0 = .ok (.aload_n 0, 1) := by decide +kernel
theorem dX9_ware_1 : decode cX9_ware 1 = .ok (.getfield 12, 3) := by decide +kernel
theorem dX9_ware_4 : decode cX9_ware 4 = .ok (.iload_n 1, 1) := by decide +kernel
theorem dX9_ware_5 : decode cX9_ware 5 = .ok (.invokevirtual 130, 3) := by decide +kernel
theorem dX9_ware_8 : decode cX9_ware 8 = .ok (.ifCond .ne 6, 3) := by decide +kernel
theorem dX9_ware_11 : decode cX9_ware 11 = .ok (.bipush (-2), 2) := by decide +kernel
theorem dX9_ware_13 : decode cX9_ware 13 = .ok (.ireturn, 1) := by decide +kernel
theorem dX9_ware_14 : decode cX9_ware 14 = .ok (.iload_n 2, 1) := by decide +kernel
theorem dX9_ware_15 : decode cX9_ware 15 = .ok (.tableswitch 58 0 2 #[25, 37, 49], 25) := by decide +kernel
theorem dX9_ware_40 : decode cX9_ware 40 = .ok (.aload_n 0, 1) := by decide +kernel
theorem dX9_ware_41 : decode cX9_ware 41 = .ok (.getfield 12, 3) := by decide +kernel
theorem dX9_ware_44 : decode cX9_ware 44 = .ok (.getfield 133, 3) := by decide +kernel
theorem dX9_ware_47 : decode cX9_ware 47 = .ok (.iload_n 1, 1) := by decide +kernel
theorem dX9_ware_48 : decode cX9_ware 48 = .ok (.invokestatic 117, 3) := by decide +kernel
theorem dX9_ware_51 : decode cX9_ware 51 = .ok (.ireturn, 1) := by decide +kernel
theorem dX9_ware_52 : decode cX9_ware 52 = .ok (.aload_n 0, 1) := by decide +kernel
theorem dX9_ware_53 : decode cX9_ware 53 = .ok (.getfield 12, 3) := by decide +kernel
theorem dX9_ware_56 : decode cX9_ware 56 = .ok (.getfield 136, 3) := by decide +kernel
theorem dX9_ware_59 : decode cX9_ware 59 = .ok (.iload_n 1, 1) := by decide +kernel
theorem dX9_ware_60 : decode cX9_ware 60 = .ok (.invokestatic 117, 3) := by decide +kernel
theorem dX9_ware_63 : decode cX9_ware 63 = .ok (.ireturn, 1) := by decide +kernel
theorem dX9_ware_64 : decode cX9_ware 64 = .ok (.aload_n 0, 1) := by decide +kernel
theorem dX9_ware_65 : decode cX9_ware 65 = .ok (.getfield 26, 3) := by decide +kernel
theorem dX9_ware_68 : decode cX9_ware 68 = .ok (.iload_n 1, 1) := by decide +kernel
theorem dX9_ware_69 : decode cX9_ware 69 = .ok (.invokevirtual 139, 3) := by decide +kernel
theorem dX9_ware_72 : decode cX9_ware 72 = .ok (.ireturn, 1) := by decide +kernel
theorem dX9_ware_73 : decode cX9_ware 73 = .ok (.bipush (-3), 2) := by decide +kernel
theorem dX9_ware_75 : decode cX9_ware 75 = .ok (.ireturn, 1) := by decide +kernel
theorem dX9_clerk_0 : decode cX9_clerk 0 = .ok (.aload_n 0, 1) := by decide +kernel
theorem dX9_clerk_1 : decode cX9_clerk 1 = .ok (.getfield 12, 3) := by decide +kernel
theorem dX9_clerk_4 : decode cX9_clerk 4 = .ok (.iload_n 1, 1) := by decide +kernel
theorem dX9_clerk_5 : decode cX9_clerk 5 = .ok (.invokevirtual 142, 3) := by decide +kernel
theorem dX9_clerk_8 : decode cX9_clerk 8 = .ok (.ifCond .ne 6, 3) := by decide +kernel
theorem dX9_clerk_11 : decode cX9_clerk 11 = .ok (.bipush (-2), 2) := by decide +kernel
theorem dX9_clerk_13 : decode cX9_clerk 13 = .ok (.ireturn, 1) := by decide +kernel
theorem dX9_clerk_14 : decode cX9_clerk 14 = .ok (.aload_n 0, 1) := by decide +kernel
theorem dX9_clerk_15 : decode cX9_clerk 15 = .ok (.getfield 12, 3) := by decide +kernel
theorem dX9_clerk_18 : decode cX9_clerk 18 = .ok (.getfield 145, 3) := by decide +kernel
theorem dX9_clerk_21 : decode cX9_clerk 21 = .ok (.iload_n 1, 1) := by decide +kernel
theorem dX9_clerk_22 : decode cX9_clerk 22 = .ok (.invokestatic 117, 3) := by decide +kernel
theorem dX9_clerk_25 : decode cX9_clerk 25 = .ok (.ireturn, 1) := by decide +kernel
theorem dX9_rhyme_0 : decode cX9_rhyme 0 = .ok (.iload_n 1, 1) := by decide +kernel
theorem dX9_rhyme_1 : decode cX9_rhyme 1 = .ok (.ifCond .lt 9, 3) := by decide +kernel
theorem dX9_rhyme_4 : decode cX9_rhyme 4 = .ok (.iload_n 1, 1) := by decide +kernel
theorem dX9_rhyme_5 : decode cX9_rhyme 5 = .ok (.bipush 6, 2) := by decide +kernel
theorem dX9_rhyme_7 : decode cX9_rhyme 7 = .ok (.if_icmp .lt 6, 3) := by decide +kernel
theorem dX9_rhyme_10 : decode cX9_rhyme 10 = .ok (.bipush (-2), 2) := by decide +kernel
theorem dX9_rhyme_12 : decode cX9_rhyme 12 = .ok (.ireturn, 1) := by decide +kernel
theorem dX9_rhyme_13 : decode cX9_rhyme 13 = .ok (.iload_n 2, 1) := by decide +kernel
theorem dX9_rhyme_14 : decode cX9_rhyme 14 = .ok (.tableswitch 56 0 2 #[26, 35, 47], 26) := by decide +kernel
theorem dX9_rhyme_40 : decode cX9_rhyme 40 = .ok (.aload_n 0, 1) := by decide +kernel
theorem dX9_rhyme_41 : decode cX9_rhyme 41 = .ok (.getfield 26, 3) := by decide +kernel
theorem dX9_rhyme_44 : decode cX9_rhyme 44 = .ok (.iload_n 1, 1) := by decide +kernel
theorem dX9_rhyme_45 : decode cX9_rhyme 45 = .ok (.invokevirtual 148, 3) := by decide +kernel
theorem dX9_rhyme_48 : decode cX9_rhyme 48 = .ok (.ireturn, 1) := by decide +kernel
theorem dX9_rhyme_49 : decode cX9_rhyme 49 = .ok (.aload_n 0, 1) := by decide +kernel
theorem dX9_rhyme_50 : decode cX9_rhyme 50 = .ok (.getfield 12, 3) := by decide +kernel
theorem dX9_rhyme_53 : decode cX9_rhyme 53 = .ok (.getfield 151, 3) := by decide +kernel
theorem dX9_rhyme_56 : decode cX9_rhyme 56 = .ok (.iload_n 1, 1) := by decide +kernel
theorem dX9_rhyme_57 : decode cX9_rhyme 57 = .ok (.invokestatic 117, 3) := by decide +kernel
theorem dX9_rhyme_60 : decode cX9_rhyme 60 = .ok (.ireturn, 1) := by decide +kernel
theorem dX9_rhyme_61 : decode cX9_rhyme 61 = .ok (.aload_n 0, 1) := by decide +kernel
theorem dX9_rhyme_62 : decode cX9_rhyme 62 = .ok (.getfield 12, 3) := by decide +kernel
theorem dX9_rhyme_65 : decode cX9_rhyme 65 = .ok (.iload_n 1, 1) := by decide +kernel
theorem dX9_rhyme_66 : decode cX9_rhyme 66 = .ok (.invokevirtual 154, 3) := by decide +kernel
theorem dX9_rhyme_69 : decode cX9_rhyme 69 = .ok (.ireturn, 1) := by decide +kernel
theorem dX9_rhyme_70 : decode cX9_rhyme 70 = .ok (.bipush (-3), 2) := by decide +kernel
theorem dX9_rhyme_72 : decode cX9_rhyme 72 = .ok (.ireturn, 1) := by decide +kernel
theorem dX9_as_0 : decode cX9_as 0 = .ok (.aload_n 0, 1) := by decide +kernel
theorem dX9_as_1 : decode cX9_as 1 = .ok (.getfield 12, 3) := by decide +kernel
theorem dX9_as_4 : decode cX9_as 4 = .ok (.iload_n 1, 1) := by decide +kernel
theorem dX9_as_5 : decode cX9_as 5 = .ok (.invokevirtual 110, 3) := by decide +kernel
theorem dX9_as_8 : decode cX9_as 8 = .ok (.ifCond .ne 6, 3) := by decide +kernel
theorem dX9_as_11 : decode cX9_as 11 = .ok (.bipush (-2), 2) := by decide +kernel
theorem dX9_as_13 : decode cX9_as 13 = .ok (.ireturn, 1) := by decide +kernel
theorem dX9_as_14 : decode cX9_as 14 = .ok (.iload_n 2, 1) := by decide +kernel
theorem dX9_as_15 : decode cX9_as 15 = .ok (.ifCond .lt 8, 3) := by decide +kernel
theorem dX9_as_18 : decode cX9_as 18 = .ok (.iload_n 2, 1) := by decide +kernel
theorem dX9_as_19 : decode cX9_as 19 = .ok (.iconst 5, 1) := by decide +kernel
theorem dX9_as_20 : decode cX9_as 20 = .ok (.if_icmp .lt 6, 3) := by decide +kernel
theorem dX9_as_23 : decode cX9_as 23 = .ok (.bipush (-3), 2) := by decide +kernel
theorem dX9_as_25 : decode cX9_as 25 = .ok (.ireturn, 1) := by decide +kernel
theorem dX9_as_26 : decode cX9_as 26 = .ok (.getstatic 157, 3) := by decide +kernel
theorem dX9_as_29 : decode cX9_as 29 = .ok (.aload_n 0, 1) := by decide +kernel
theorem dX9_as_30 : decode cX9_as 30 = .ok (.getfield 12, 3) := by decide +kernel
theorem dX9_as_33 : decode cX9_as 33 = .ok (.getfield 114, 3) := by decide +kernel
theorem dX9_as_36 : decode cX9_as 36 = .ok (.iload_n 1, 1) := by decide +kernel
theorem dX9_as_37 : decode cX9_as 37 = .ok (.invokestatic 117, 3) := by decide +kernel
theorem dX9_as_40 : decode cX9_as 40 = .ok (.invokestatic 117, 3) := by decide +kernel
theorem dX9_as_43 : decode cX9_as 43 = .ok (.iload_n 2, 1) := by decide +kernel
theorem dX9_as_44 : decode cX9_as 44 = .ok (.invokestatic 160, 3) := by decide +kernel
theorem dX9_as_47 : decode cX9_as 47 = .ok (.ifCond .ne 6, 3) := by decide +kernel
theorem dX9_as_50 : decode cX9_as 50 = .ok (.bipush (-4), 2) := by decide +kernel
theorem dX9_as_52 : decode cX9_as 52 = .ok (.ireturn, 1) := by decide +kernel
theorem dX9_as_53 : decode cX9_as 53 = .ok (.aload_n 0, 1) := by decide +kernel
theorem dX9_as_54 : decode cX9_as 54 = .ok (.getfield 12, 3) := by decide +kernel
theorem dX9_as_57 : decode cX9_as 57 = .ok (.iload_n 1, 1) := by decide +kernel
theorem dX9_as_58 : decode cX9_as 58 = .ok (.invokevirtual 164, 3) := by decide +kernel
theorem dX9_as_61 : decode cX9_as 61 = .ok (.ireturn, 1) := by decide +kernel
theorem dX9_clerkAs_0 : decode cX9_clerkAs 0 = .ok (.aload_n 0, 1) := by decide +kernel
theorem dX9_clerkAs_1 : decode cX9_clerkAs 1 = .ok (.getfield 12, 3) := by decide +kernel
theorem dX9_clerkAs_4 : decode cX9_clerkAs 4 = .ok (.iload_n 1, 1) := by decide +kernel
theorem dX9_clerkAs_5 : decode cX9_clerkAs 5 = .ok (.invokevirtual 142, 3) := by decide +kernel
theorem dX9_clerkAs_8 : decode cX9_clerkAs 8 = .ok (.ifCond .ne 6, 3) := by decide +kernel
theorem dX9_clerkAs_11 : decode cX9_clerkAs 11 = .ok (.bipush (-2), 2) := by decide +kernel
theorem dX9_clerkAs_13 : decode cX9_clerkAs 13 = .ok (.ireturn, 1) := by decide +kernel
theorem dX9_clerkAs_14 : decode cX9_clerkAs 14 = .ok (.iload_n 2, 1) := by decide +kernel
theorem dX9_clerkAs_15 : decode cX9_clerkAs 15 = .ok (.ifCond .lt 8, 3) := by decide +kernel
theorem dX9_clerkAs_18 : decode cX9_clerkAs 18 = .ok (.iload_n 2, 1) := by decide +kernel
theorem dX9_clerkAs_19 : decode cX9_clerkAs 19 = .ok (.iconst 4, 1) := by decide +kernel
theorem dX9_clerkAs_20 : decode cX9_clerkAs 20 = .ok (.if_icmp .lt 6, 3) := by decide +kernel
theorem dX9_clerkAs_23 : decode cX9_clerkAs 23 = .ok (.bipush (-3), 2) := by decide +kernel
theorem dX9_clerkAs_25 : decode cX9_clerkAs 25 = .ok (.ireturn, 1) := by decide +kernel
theorem dX9_clerkAs_26 : decode cX9_clerkAs 26 = .ok (.getstatic 167, 3) := by decide +kernel
theorem dX9_clerkAs_29 : decode cX9_clerkAs 29 = .ok (.aload_n 0, 1) := by decide +kernel
theorem dX9_clerkAs_30 : decode cX9_clerkAs 30 = .ok (.getfield 12, 3) := by decide +kernel
theorem dX9_clerkAs_33 : decode cX9_clerkAs 33 = .ok (.getfield 145, 3) := by decide +kernel
theorem dX9_clerkAs_36 : decode cX9_clerkAs 36 = .ok (.iload_n 1, 1) := by decide +kernel
theorem dX9_clerkAs_37 : decode cX9_clerkAs 37 = .ok (.invokestatic 117, 3) := by decide +kernel
theorem dX9_clerkAs_40 : decode cX9_clerkAs 40 = .ok (.invokestatic 117, 3) := by decide +kernel
theorem dX9_clerkAs_43 : decode cX9_clerkAs 43 = .ok (.iload_n 2, 1) := by decide +kernel
theorem dX9_clerkAs_44 : decode cX9_clerkAs 44 = .ok (.invokestatic 160, 3) := by decide +kernel
theorem dX9_clerkAs_47 : decode cX9_clerkAs 47 = .ok (.ifCond .ne 6, 3) := by decide +kernel
theorem dX9_clerkAs_50 : decode cX9_clerkAs 50 = .ok (.bipush (-4), 2) := by decide +kernel
theorem dX9_clerkAs_52 : decode cX9_clerkAs 52 = .ok (.ireturn, 1) := by decide +kernel
theorem dX9_clerkAs_53 : decode cX9_clerkAs 53 = .ok (.aload_n 0, 1) := by decide +kernel
theorem dX9_clerkAs_54 : decode cX9_clerkAs 54 = .ok (.getfield 12, 3) := by decide +kernel
theorem dX9_clerkAs_57 : decode cX9_clerkAs 57 = .ok (.iload_n 1, 1) := by decide +kernel
theorem dX9_clerkAs_58 : decode cX9_clerkAs 58 = .ok (.aload_n 0, 1) := by decide +kernel
theorem dX9_clerkAs_59 : decode cX9_clerkAs 59 = .ok (.getfield 33, 3) := by decide +kernel
theorem dX9_clerkAs_62 : decode cX9_clerkAs 62 = .ok (.invokevirtual 170, 3) := by decide +kernel
theorem dX9_clerkAs_65 : decode cX9_clerkAs 65 = .ok (.ireturn, 1) := by decide +kernel
theorem dX9_put_0 : decode cX9_put 0 = .ok (.aload_n 0, 1) := by decide +kernel
theorem dX9_put_1 : decode cX9_put 1 = .ok (.getfield 12, 3) := by decide +kernel
theorem dX9_put_4 : decode cX9_put 4 = .ok (.iload_n 1, 1) := by decide +kernel
theorem dX9_put_5 : decode cX9_put 5 = .ok (.invokevirtual 110, 3) := by decide +kernel
theorem dX9_put_8 : decode cX9_put 8 = .ok (.ifCond .ne 6, 3) := by decide +kernel
theorem dX9_put_11 : decode cX9_put 11 = .ok (.bipush (-2), 2) := by decide +kernel
theorem dX9_put_13 : decode cX9_put 13 = .ok (.ireturn, 1) := by decide +kernel
theorem dX9_put_14 : decode cX9_put 14 = .ok (.aload_n 0, 1) := by decide +kernel
theorem dX9_put_15 : decode cX9_put 15 = .ok (.getfield 33, 3) := by decide +kernel
theorem dX9_put_18 : decode cX9_put 18 = .ok (.getfield 174, 3) := by decide +kernel
theorem dX9_put_21 : decode cX9_put 21 = .ok (.bipush 6, 2) := by decide +kernel
theorem dX9_put_23 : decode cX9_put 23 = .ok (.if_icmp .lt 6, 3) := by decide +kernel
theorem dX9_put_26 : decode cX9_put 26 = .ok (.bipush (-5), 2) := by decide +kernel
theorem dX9_put_28 : decode cX9_put 28 = .ok (.ireturn, 1) := by decide +kernel
theorem dX9_put_29 : decode cX9_put 29 = .ok (.aload_n 0, 1) := by decide +kernel
theorem dX9_put_30 : decode cX9_put 30 = .ok (.getfield 33, 3) := by decide +kernel
theorem dX9_put_33 : decode cX9_put 33 = .ok (.iload_n 1, 1) := by decide +kernel
theorem dX9_put_34 : decode cX9_put 34 = .ok (.invokevirtual 175, 3) := by decide +kernel
theorem dX9_put_37 : decode cX9_put 37 = .ok (.ireturn, 1) := by decide +kernel
theorem dX9_wipe_0 : decode cX9_wipe 0 = .ok (.aload_n 0, 1) := by decide +kernel
theorem dX9_wipe_1 : decode cX9_wipe 1 = .ok (.getfield 33, 3) := by decide +kernel
theorem dX9_wipe_4 : decode cX9_wipe 4 = .ok (.invokevirtual 106, 3) := by decide +kernel
theorem dX9_wipe_7 : decode cX9_wipe 7 = .ok (.ireturn, 1) := by decide +kernel
theorem dX9_line_0 : decode cX9_line 0 = .ok (.iload_n 1, 1) := by decide +kernel
theorem dX9_line_1 : decode cX9_line 1 = .ok (.ifCond .lt 14, 3) := by decide +kernel
theorem dX9_line_4 : decode cX9_line 4 = .ok (.iload_n 1, 1) := by decide +kernel
theorem dX9_line_5 : decode cX9_line 5 = .ok (.aload_n 0, 1) := by decide +kernel
theorem dX9_line_6 : decode cX9_line 6 = .ok (.getfield 33, 3) := by decide +kernel
theorem dX9_line_9 : decode cX9_line 9 = .ok (.getfield 174, 3) := by decide +kernel
theorem dX9_line_12 : decode cX9_line 12 = .ok (.if_icmp .lt 6, 3) := by decide +kernel
theorem dX9_line_15 : decode cX9_line 15 = .ok (.bipush (-3), 2) := by decide +kernel
theorem dX9_line_17 : decode cX9_line 17 = .ok (.ireturn, 1) := by decide +kernel
theorem dX9_line_18 : decode cX9_line 18 = .ok (.aload_n 0, 1) := by decide +kernel
theorem dX9_line_19 : decode cX9_line 19 = .ok (.getfield 33, 3) := by decide +kernel
theorem dX9_line_22 : decode cX9_line 22 = .ok (.iload_n 1, 1) := by decide +kernel
theorem dX9_line_23 : decode cX9_line 23 = .ok (.invokevirtual 176, 3) := by decide +kernel
theorem dX9_line_26 : decode cX9_line 26 = .ok (.ireturn, 1) := by decide +kernel
theorem dX9_counts_0 : decode cX9_counts 0 = .ok (.aload_n 0, 1) := by decide +kernel
theorem dX9_counts_1 : decode cX9_counts 1 = .ok (.getfield 12, 3) := by decide +kernel
theorem dX9_counts_4 : decode cX9_counts 4 = .ok (.iload_n 1, 1) := by decide +kernel
theorem dX9_counts_5 : decode cX9_counts 5 = .ok (.invokevirtual 142, 3) := by decide +kernel
theorem dX9_counts_8 : decode cX9_counts 8 = .ok (.ifCond .ne 6, 3) := by decide +kernel
theorem dX9_counts_11 : decode cX9_counts 11 = .ok (.bipush (-2), 2) := by decide +kernel
theorem dX9_counts_13 : decode cX9_counts 13 = .ok (.ireturn, 1) := by decide +kernel
theorem dX9_counts_14 : decode cX9_counts 14 = .ok (.aload_n 0, 1) := by decide +kernel
theorem dX9_counts_15 : decode cX9_counts 15 = .ok (.getfield 12, 3) := by decide +kernel
theorem dX9_counts_18 : decode cX9_counts 18 = .ok (.iload_n 1, 1) := by decide +kernel
theorem dX9_counts_19 : decode cX9_counts 19 = .ok (.aload_n 0, 1) := by decide +kernel
theorem dX9_counts_20 : decode cX9_counts 20 = .ok (.getfield 33, 3) := by decide +kernel
theorem dX9_counts_23 : decode cX9_counts 23 = .ok (.invokevirtual 170, 3) := by decide +kernel
theorem dX9_counts_26 : decode cX9_counts 26 = .ok (.ireturn, 1) := by decide +kernel
theorem dX9_scans_0 : decode cX9_scans 0 = .ok (.aload_n 0, 1) := by decide +kernel
theorem dX9_scans_1 : decode cX9_scans 1 = .ok (.getfield 12, 3) := by decide +kernel
theorem dX9_scans_4 : decode cX9_scans 4 = .ok (.aload_n 0, 1) := by decide +kernel
theorem dX9_scans_5 : decode cX9_scans 5 = .ok (.getfield 33, 3) := by decide +kernel
theorem dX9_scans_8 : decode cX9_scans 8 = .ok (.invokevirtual 179, 3) := by decide +kernel
theorem dX9_scans_11 : decode cX9_scans 11 = .ok (.ifCond .eq 7, 3) := by decide +kernel
theorem dX9_scans_14 : decode cX9_scans 14 = .ok (.iconst 1, 1) := by decide +kernel
theorem dX9_scans_15 : decode cX9_scans 15 = .ok (.goto 4, 3) := by decide +kernel
theorem dX9_scans_18 : decode cX9_scans 18 = .ok (.iconst 0, 1) := by decide +kernel
theorem dX9_scans_19 : decode cX9_scans 19 = .ok (.ireturn, 1) := by decide +kernel
theorem dX9_passes_0 : decode cX9_passes 0 = .ok (.aload_n 0, 1) := by decide +kernel
theorem dX9_passes_1 : decode cX9_passes 1 = .ok (.iload_n 1, 1) := by decide +kernel
theorem dX9_passes_2 : decode cX9_passes 2 = .ok (.iload_n 2, 1) := by decide +kernel
theorem dX9_passes_3 : decode cX9_passes 3 = .ok (.invokevirtual 183, 3) := by decide +kernel
theorem dX9_passes_6 : decode cX9_passes 6 = .ok (.ifCond .ne 6, 3) := by decide +kernel
theorem dX9_passes_9 : decode cX9_passes 9 = .ok (.bipush (-2), 2) := by decide +kernel
theorem dX9_passes_11 : decode cX9_passes 11 = .ok (.ireturn, 1) := by decide +kernel
theorem dX9_passes_12 : decode cX9_passes 12 = .ok (.aload_n 0, 1) := by decide +kernel
theorem dX9_passes_13 : decode cX9_passes 13 = .ok (.getfield 12, 3) := by decide +kernel
theorem dX9_passes_16 : decode cX9_passes 16 = .ok (.aload_n 0, 1) := by decide +kernel
theorem dX9_passes_17 : decode cX9_passes 17 = .ok (.getfield 33, 3) := by decide +kernel
theorem dX9_passes_20 : decode cX9_passes 20 = .ok (.iload_n 1, 1) := by decide +kernel
theorem dX9_passes_21 : decode cX9_passes 21 = .ok (.iload_n 2, 1) := by decide +kernel
theorem dX9_passes_22 : decode cX9_passes 22 = .ok (.invokevirtual 186, 3) := by decide +kernel
theorem dX9_passes_25 : decode cX9_passes 25 = .ok (.ifCond .eq 7, 3) := by decide +kernel
theorem dX9_passes_28 : decode cX9_passes 28 = .ok (.iconst 1, 1) := by decide +kernel
theorem dX9_passes_29 : decode cX9_passes 29 = .ok (.goto 4, 3) := by decide +kernel
theorem dX9_passes_32 : decode cX9_passes 32 = .ok (.iconst 0, 1) := by decide +kernel
theorem dX9_passes_33 : decode cX9_passes 33 = .ok (.ireturn, 1) := by decide +kernel
theorem dX9_declare_0 : decode cX9_declare 0 = .ok (.aload_n 0, 1) := by decide +kernel
theorem dX9_declare_1 : decode cX9_declare 1 = .ok (.iload_n 1, 1) := by decide +kernel
theorem dX9_declare_2 : decode cX9_declare 2 = .ok (.iload_n 2, 1) := by decide +kernel
theorem dX9_declare_3 : decode cX9_declare 3 = .ok (.invokevirtual 183, 3) := by decide +kernel
theorem dX9_declare_6 : decode cX9_declare 6 = .ok (.ifCond .ne 6, 3) := by decide +kernel
theorem dX9_declare_9 : decode cX9_declare 9 = .ok (.bipush (-2), 2) := by decide +kernel
theorem dX9_declare_11 : decode cX9_declare 11 = .ok (.ireturn, 1) := by decide +kernel
theorem dX9_declare_12 : decode cX9_declare 12 = .ok (.aload_n 0, 1) := by decide +kernel
theorem dX9_declare_13 : decode cX9_declare 13 = .ok (.getfield 26, 3) := by decide +kernel
theorem dX9_declare_16 : decode cX9_declare 16 = .ok (.iload_n 1, 1) := by decide +kernel
theorem dX9_declare_17 : decode cX9_declare 17 = .ok (.invokevirtual 139, 3) := by decide +kernel
theorem dX9_declare_20 : decode cX9_declare 20 = .ok (.ifCond .eq 6, 3) := by decide +kernel
theorem dX9_declare_23 : decode cX9_declare 23 = .ok (.bipush (-4), 2) := by decide +kernel
theorem dX9_declare_25 : decode cX9_declare 25 = .ok (.ireturn, 1) := by decide +kernel
theorem dX9_declare_26 : decode cX9_declare 26 = .ok (.aload_n 0, 1) := by decide +kernel
theorem dX9_declare_27 : decode cX9_declare 27 = .ok (.getfield 26, 3) := by decide +kernel
theorem dX9_declare_30 : decode cX9_declare 30 = .ok (.invokevirtual 190, 3) := by decide +kernel
theorem dX9_declare_33 : decode cX9_declare 33 = .ok (.ifCond .eq 6, 3) := by decide +kernel
theorem dX9_declare_36 : decode cX9_declare 36 = .ok (.bipush (-5), 2) := by decide +kernel
theorem dX9_declare_38 : decode cX9_declare 38 = .ok (.ireturn, 1) := by decide +kernel
theorem dX9_declare_39 : decode cX9_declare 39 = .ok (.aload_n 0, 1) := by decide +kernel
theorem dX9_declare_40 : decode cX9_declare 40 = .ok (.getfield 26, 3) := by decide +kernel
theorem dX9_declare_43 : decode cX9_declare 43 = .ok (.invokevirtual 194, 3) := by decide +kernel
theorem dX9_declare_46 : decode cX9_declare 46 = .ok (.aload_n 0, 1) := by decide +kernel
theorem dX9_declare_47 : decode cX9_declare 47 = .ok (.getfield 12, 3) := by decide +kernel
theorem dX9_declare_50 : decode cX9_declare 50 = .ok (.aload_n 0, 1) := by decide +kernel
theorem dX9_declare_51 : decode cX9_declare 51 = .ok (.getfield 33, 3) := by decide +kernel
theorem dX9_declare_54 : decode cX9_declare 54 = .ok (.invokevirtual 197, 3) := by decide +kernel
theorem dX9_declare_57 : decode cX9_declare 57 = .ok (.invokevirtual 200, 3) := by decide +kernel
theorem dX9_declare_60 : decode cX9_declare 60 = .ok (.istore_n 3, 1) := by decide +kernel
theorem dX9_declare_61 : decode cX9_declare 61 = .ok (.aload_n 0, 1) := by decide +kernel
theorem dX9_declare_62 : decode cX9_declare 62 = .ok (.getfield 12, 3) := by decide +kernel
theorem dX9_declare_65 : decode cX9_declare 65 = .ok (.aload_n 0, 1) := by decide +kernel
theorem dX9_declare_66 : decode cX9_declare 66 = .ok (.getfield 33, 3) := by decide +kernel
theorem dX9_declare_69 : decode cX9_declare 69 = .ok (.iload_n 1, 1) := by decide +kernel
theorem dX9_declare_70 : decode cX9_declare 70 = .ok (.iload_n 2, 1) := by decide +kernel
theorem dX9_declare_71 : decode cX9_declare 71 = .ok (.invokevirtual 186, 3) := by decide +kernel
theorem dX9_declare_74 : decode cX9_declare 74 = .ok (.ifCond .eq 22, 3) := by decide +kernel
theorem dX9_declare_77 : decode cX9_declare 77 = .ok (.aload_n 0, 1) := by decide +kernel
theorem dX9_declare_78 : decode cX9_declare 78 = .ok (.getfield 12, 3) := by decide +kernel
theorem dX9_declare_81 : decode cX9_declare 81 = .ok (.iload_n 3, 1) := by decide +kernel
theorem dX9_declare_82 : decode cX9_declare 82 = .ok (.aload_n 0, 1) := by decide +kernel
theorem dX9_declare_83 : decode cX9_declare 83 = .ok (.getfield 26, 3) := by decide +kernel
theorem dX9_declare_86 : decode cX9_declare 86 = .ok (.iload_n 3, 1) := by decide +kernel
theorem dX9_declare_87 : decode cX9_declare 87 = .ok (.invokevirtual 148, 3) := by decide +kernel
theorem dX9_declare_90 : decode cX9_declare 90 = .ok (.invokevirtual 203, 3) := by decide +kernel
theorem dX9_declare_93 : decode cX9_declare 93 = .ok (.ifCond .eq 14, 3) := by decide +kernel
theorem dX9_declare_96 : decode cX9_declare 96 = .ok (.aload_n 0, 1) := by decide +kernel
theorem dX9_declare_97 : decode cX9_declare 97 = .ok (.getfield 26, 3) := by decide +kernel
theorem dX9_declare_100 : decode cX9_declare 100 = .ok (.iload_n 1, 1) := by decide +kernel
theorem dX9_declare_101 : decode cX9_declare 101 = .ok (.iconst 2, 1) := by decide +kernel
theorem dX9_declare_102 : decode cX9_declare 102 = .ok (.iconst 0, 1) := by decide +kernel
theorem dX9_declare_103 : decode cX9_declare 103 = .ok (.invokevirtual 206, 3) := by decide +kernel
theorem dX9_declare_106 : decode cX9_declare 106 = .ok (.ireturn, 1) := by decide +kernel
theorem dX9_declare_107 : decode cX9_declare 107 = .ok (.aload_n 0, 1) := by decide +kernel
theorem dX9_declare_108 : decode cX9_declare 108 = .ok (.getfield 26, 3) := by decide +kernel
theorem dX9_declare_111 : decode cX9_declare 111 = .ok (.iload_n 3, 1) := by decide +kernel
theorem dX9_declare_112 : decode cX9_declare 112 = .ok (.invokevirtual 210, 3) := by decide +kernel
theorem dX9_declare_115 : decode cX9_declare 115 = .ok (.aload_n 0, 1) := by decide +kernel
theorem dX9_declare_116 : decode cX9_declare 116 = .ok (.getfield 26, 3) := by decide +kernel
theorem dX9_declare_119 : decode cX9_declare 119 = .ok (.iload_n 1, 1) := by decide +kernel
theorem dX9_declare_120 : decode cX9_declare 120 = .ok (.iconst 1, 1) := by decide +kernel
theorem dX9_declare_121 : decode cX9_declare 121 = .ok (.aload_n 0, 1) := by decide +kernel
theorem dX9_declare_122 : decode cX9_declare 122 = .ok (.getfield 12, 3) := by decide +kernel
theorem dX9_declare_125 : decode cX9_declare 125 = .ok (.getfield 133, 3) := by decide +kernel
theorem dX9_declare_128 : decode cX9_declare 128 = .ok (.iload_n 1, 1) := by decide +kernel
theorem dX9_declare_129 : decode cX9_declare 129 = .ok (.invokestatic 117, 3) := by decide +kernel
theorem dX9_declare_132 : decode cX9_declare 132 = .ok (.invokevirtual 206, 3) := by decide +kernel
theorem dX9_declare_135 : decode cX9_declare 135 = .ok (.ireturn, 1) := by decide +kernel
theorem dX9_prose_0 : decode cX9_prose 0 = .ok (.aload_n 0, 1) := by decide +kernel
theorem dX9_prose_1 : decode cX9_prose 1 = .ok (.getfield 12, 3) := by decide +kernel
theorem dX9_prose_4 : decode cX9_prose 4 = .ok (.iload_n 1, 1) := by decide +kernel
theorem dX9_prose_5 : decode cX9_prose 5 = .ok (.invokevirtual 130, 3) := by decide +kernel
theorem dX9_prose_8 : decode cX9_prose 8 = .ok (.ifCond .ne 6, 3) := by decide +kernel
theorem dX9_prose_11 : decode cX9_prose 11 = .ok (.bipush (-2), 2) := by decide +kernel
theorem dX9_prose_13 : decode cX9_prose 13 = .ok (.ireturn, 1) := by decide +kernel
theorem dX9_prose_14 : decode cX9_prose 14 = .ok (.aload_n 0, 1) := by decide +kernel
theorem dX9_prose_15 : decode cX9_prose 15 = .ok (.getfield 26, 3) := by decide +kernel
theorem dX9_prose_18 : decode cX9_prose 18 = .ok (.iload_n 1, 1) := by decide +kernel
theorem dX9_prose_19 : decode cX9_prose 19 = .ok (.invokevirtual 139, 3) := by decide +kernel
theorem dX9_prose_22 : decode cX9_prose 22 = .ok (.ifCond .eq 6, 3) := by decide +kernel
theorem dX9_prose_25 : decode cX9_prose 25 = .ok (.bipush (-4), 2) := by decide +kernel
theorem dX9_prose_27 : decode cX9_prose 27 = .ok (.ireturn, 1) := by decide +kernel
theorem dX9_prose_28 : decode cX9_prose 28 = .ok (.aload_n 0, 1) := by decide +kernel
theorem dX9_prose_29 : decode cX9_prose 29 = .ok (.getfield 26, 3) := by decide +kernel
theorem dX9_prose_32 : decode cX9_prose 32 = .ok (.invokevirtual 190, 3) := by decide +kernel
theorem dX9_prose_35 : decode cX9_prose 35 = .ok (.ifCond .eq 6, 3) := by decide +kernel
theorem dX9_prose_38 : decode cX9_prose 38 = .ok (.bipush (-5), 2) := by decide +kernel
theorem dX9_prose_40 : decode cX9_prose 40 = .ok (.ireturn, 1) := by decide +kernel
theorem dX9_prose_41 : decode cX9_prose 41 = .ok (.aload_n 0, 1) := by decide +kernel
theorem dX9_prose_42 : decode cX9_prose 42 = .ok (.getfield 26, 3) := by decide +kernel
theorem dX9_prose_45 : decode cX9_prose 45 = .ok (.invokevirtual 194, 3) := by decide +kernel
theorem dX9_prose_48 : decode cX9_prose 48 = .ok (.aload_n 0, 1) := by decide +kernel
theorem dX9_prose_49 : decode cX9_prose 49 = .ok (.getfield 26, 3) := by decide +kernel
theorem dX9_prose_52 : decode cX9_prose 52 = .ok (.iload_n 1, 1) := by decide +kernel
theorem dX9_prose_53 : decode cX9_prose 53 = .ok (.iconst 3, 1) := by decide +kernel
theorem dX9_prose_54 : decode cX9_prose 54 = .ok (.iconst 3, 1) := by decide +kernel
theorem dX9_prose_55 : decode cX9_prose 55 = .ok (.aload_n 0, 1) := by decide +kernel
theorem dX9_prose_56 : decode cX9_prose 56 = .ok (.getfield 12, 3) := by decide +kernel
theorem dX9_prose_59 : decode cX9_prose 59 = .ok (.getfield 133, 3) := by decide +kernel
theorem dX9_prose_62 : decode cX9_prose 62 = .ok (.iload_n 1, 1) := by decide +kernel
theorem dX9_prose_63 : decode cX9_prose 63 = .ok (.invokestatic 117, 3) := by decide +kernel
theorem dX9_prose_66 : decode cX9_prose 66 = .ok (.imul, 1) := by decide +kernel
theorem dX9_prose_67 : decode cX9_prose 67 = .ok (.invokevirtual 206, 3) := by decide +kernel
theorem dX9_prose_70 : decode cX9_prose 70 = .ok (.ireturn, 1) := by decide +kernel
theorem dX9_day_0 : decode cX9_day 0 = .ok (.aload_n 0, 1) := by decide +kernel
theorem dX9_day_1 : decode cX9_day 1 = .ok (.getfield 26, 3) := by decide +kernel
theorem dX9_day_4 : decode cX9_day 4 = .ok (.invokevirtual 190, 3) := by decide +kernel
theorem dX9_day_7 : decode cX9_day 7 = .ok (.ifCond .eq 6, 3) := by decide +kernel
theorem dX9_day_10 : decode cX9_day 10 = .ok (.bipush (-5), 2) := by decide +kernel
theorem dX9_day_12 : decode cX9_day 12 = .ok (.ireturn, 1) := by decide +kernel
theorem dX9_day_13 : decode cX9_day 13 = .ok (.aload_n 0, 1) := by decide +kernel
theorem dX9_day_14 : decode cX9_day 14 = .ok (.getfield 26, 3) := by decide +kernel
theorem dX9_day_17 : decode cX9_day 17 = .ok (.invokevirtual 194, 3) := by decide +kernel
theorem dX9_day_20 : decode cX9_day 20 = .ok (.aload_n 0, 1) := by decide +kernel
theorem dX9_day_21 : decode cX9_day 21 = .ok (.getfield 26, 3) := by decide +kernel
theorem dX9_day_24 : decode cX9_day 24 = .ok (.invokevirtual 214, 3) := by decide +kernel
theorem dX9_day_27 : decode cX9_day 27 = .ok (.ireturn, 1) := by decide +kernel
theorem dX9_undo_0 : decode cX9_undo 0 = .ok (.aload_n 0, 1) := by decide +kernel
theorem dX9_undo_1 : decode cX9_undo 1 = .ok (.getfield 26, 3) := by decide +kernel
theorem dX9_undo_4 : decode cX9_undo 4 = .ok (.getfield 217, 3) := by decide +kernel
theorem dX9_undo_7 : decode cX9_undo 7 = .ok (.ifCond .ne 6, 3) := by decide +kernel
theorem dX9_undo_10 : decode cX9_undo 10 = .ok (.bipush (-4), 2) := by decide +kernel
theorem dX9_undo_12 : decode cX9_undo 12 = .ok (.ireturn, 1) := by decide +kernel
theorem dX9_undo_13 : decode cX9_undo 13 = .ok (.aload_n 0, 1) := by decide +kernel
theorem dX9_undo_14 : decode cX9_undo 14 = .ok (.getfield 26, 3) := by decide +kernel
theorem dX9_undo_17 : decode cX9_undo 17 = .ok (.invokevirtual 220, 3) := by decide +kernel
theorem dX9_undo_20 : decode cX9_undo 20 = .ok (.ireturn, 1) := by decide +kernel
theorem dX9_keep_0 : decode cX9_keep 0 = .ok (.iload_n 1, 1) := by decide +kernel
theorem dX9_keep_1 : decode cX9_keep 1 = .ok (.ifCond .lt 8, 3) := by decide +kernel
theorem dX9_keep_4 : decode cX9_keep 4 = .ok (.iload_n 1, 1) := by decide +kernel
theorem dX9_keep_5 : decode cX9_keep 5 = .ok (.iconst 2, 1) := by decide +kernel
theorem dX9_keep_6 : decode cX9_keep 6 = .ok (.if_icmp .lt 6, 3) := by decide +kernel
theorem dX9_keep_9 : decode cX9_keep 9 = .ok (.bipush (-2), 2) := by decide +kernel
theorem dX9_keep_11 : decode cX9_keep 11 = .ok (.ireturn, 1) := by decide +kernel
theorem dX9_keep_12 : decode cX9_keep 12 = .ok (.aload_n 0, 1) := by decide +kernel
theorem dX9_keep_13 : decode cX9_keep 13 = .ok (.getfield 26, 3) := by decide +kernel
theorem dX9_keep_16 : decode cX9_keep 16 = .ok (.iload_n 1, 1) := by decide +kernel
theorem dX9_keep_17 : decode cX9_keep 17 = .ok (.invokevirtual 223, 3) := by decide +kernel
theorem dX9_keep_20 : decode cX9_keep 20 = .ok (.ireturn, 1) := by decide +kernel
theorem dX9_back_0 : decode cX9_back 0 = .ok (.iload_n 1, 1) := by decide +kernel
theorem dX9_back_1 : decode cX9_back 1 = .ok (.ifCond .lt 8, 3) := by decide +kernel
theorem dX9_back_4 : decode cX9_back 4 = .ok (.iload_n 1, 1) := by decide +kernel
theorem dX9_back_5 : decode cX9_back 5 = .ok (.iconst 2, 1) := by decide +kernel
theorem dX9_back_6 : decode cX9_back 6 = .ok (.if_icmp .lt 6, 3) := by decide +kernel
theorem dX9_back_9 : decode cX9_back 9 = .ok (.bipush (-2), 2) := by decide +kernel
theorem dX9_back_11 : decode cX9_back 11 = .ok (.ireturn, 1) := by decide +kernel
theorem dX9_back_12 : decode cX9_back 12 = .ok (.aload_n 0, 1) := by decide +kernel
theorem dX9_back_13 : decode cX9_back 13 = .ok (.getfield 26, 3) := by decide +kernel
theorem dX9_back_16 : decode cX9_back 16 = .ok (.iload_n 1, 1) := by decide +kernel
theorem dX9_back_17 : decode cX9_back 17 = .ok (.invokevirtual 226, 3) := by decide +kernel
theorem dX9_back_20 : decode cX9_back 20 = .ok (.ifCond .ne 6, 3) := by decide +kernel
theorem dX9_back_23 : decode cX9_back 23 = .ok (.bipush (-4), 2) := by decide +kernel
theorem dX9_back_25 : decode cX9_back 25 = .ok (.ireturn, 1) := by decide +kernel
theorem dX9_back_26 : decode cX9_back 26 = .ok (.aload_n 0, 1) := by decide +kernel
theorem dX9_back_27 : decode cX9_back 27 = .ok (.getfield 26, 3) := by decide +kernel
theorem dX9_back_30 : decode cX9_back 30 = .ok (.iload_n 1, 1) := by decide +kernel
theorem dX9_back_31 : decode cX9_back 31 = .ok (.invokevirtual 229, 3) := by decide +kernel
theorem dX9_back_34 : decode cX9_back 34 = .ok (.ireturn, 1) := by decide +kernel
theorem dX9_shortest_0 : decode cX9_shortest 0 = .ok (.aload_n 0, 1) := by decide +kernel
theorem dX9_shortest_1 : decode cX9_shortest 1 = .ok (.iload_n 1, 1) := by decide +kernel
theorem dX9_shortest_2 : decode cX9_shortest 2 = .ok (.iload_n 2, 1) := by decide +kernel
theorem dX9_shortest_3 : decode cX9_shortest 3 = .ok (.invokevirtual 183, 3) := by decide +kernel
theorem dX9_shortest_6 : decode cX9_shortest 6 = .ok (.ifCond .ne 6, 3) := by decide +kernel
theorem dX9_shortest_9 : decode cX9_shortest 9 = .ok (.bipush (-2), 2) := by decide +kernel
theorem dX9_shortest_11 : decode cX9_shortest 11 = .ok (.ireturn, 1) := by decide +kernel
theorem dX9_shortest_12 : decode cX9_shortest 12 = .ok (.iload_n 3, 1) := by decide +kernel
theorem dX9_shortest_13 : decode cX9_shortest 13 = .ok (.ifCond .lt 8, 3) := by decide +kernel
theorem dX9_shortest_16 : decode cX9_shortest 16 = .ok (.iload_n 3, 1) := by decide +kernel
theorem dX9_shortest_17 : decode cX9_shortest 17 = .ok (.iconst 1, 1) := by decide +kernel
theorem dX9_shortest_18 : decode cX9_shortest 18 = .ok (.if_icmp .le 6, 3) := by decide +kernel
theorem dX9_shortest_21 : decode cX9_shortest 21 = .ok (.bipush (-3), 2) := by decide +kernel
theorem dX9_shortest_23 : decode cX9_shortest 23 = .ok (.ireturn, 1) := by decide +kernel
theorem dX9_shortest_24 : decode cX9_shortest 24 = .ok (.aload_n 0, 1) := by decide +kernel
theorem dX9_shortest_25 : decode cX9_shortest 25 = .ok (.getfield 42, 3) := by decide +kernel
theorem dX9_shortest_28 : decode cX9_shortest 28 = .ok (.iload_n 1, 1) := by decide +kernel
theorem dX9_shortest_29 : decode cX9_shortest 29 = .ok (.iload_n 2, 1) := by decide +kernel
theorem dX9_shortest_30 : decode cX9_shortest 30 = .ok (.invokevirtual 232, 3) := by decide +kernel
theorem dX9_shortest_33 : decode cX9_shortest 33 = .ok (.aload_n 0, 1) := by decide +kernel
theorem dX9_shortest_34 : decode cX9_shortest 34 = .ok (.iload_n 3, 1) := by decide +kernel
theorem dX9_shortest_35 : decode cX9_shortest 35 = .ok (.invokevirtual 236, 3) := by decide +kernel
theorem dX9_shortest_38 : decode cX9_shortest 38 = .ok (.ireturn, 1) := by decide +kernel
theorem dX9_shortestWord_0 : decode cX9_shortestWord 0 = .ok (.aload_n 0, 1) := by decide +kernel
theorem dX9_shortestWord_1 : decode cX9_shortestWord 1 = .ok (.iload_n 1, 1) := by decide +kernel
theorem dX9_shortestWord_2 : decode cX9_shortestWord 2 = .ok (.iload_n 2, 1) := by decide +kernel
theorem dX9_shortestWord_3 : decode cX9_shortestWord 3 = .ok (.invokevirtual 183, 3) := by decide +kernel
theorem dX9_shortestWord_6 : decode cX9_shortestWord 6 = .ok (.ifCond .ne 6, 3) := by decide +kernel
theorem dX9_shortestWord_9 : decode cX9_shortestWord 9 = .ok (.bipush (-2), 2) := by decide +kernel
theorem dX9_shortestWord_11 : decode cX9_shortestWord 11 = .ok (.ireturn, 1) := by decide +kernel
theorem dX9_shortestWord_12 : decode cX9_shortestWord 12 = .ok (.iload_n 3, 1) := by decide +kernel
theorem dX9_shortestWord_13 : decode cX9_shortestWord 13 = .ok (.ifCond .ge 6, 3) := by decide +kernel
theorem dX9_shortestWord_16 : decode cX9_shortestWord 16 = .ok (.bipush (-3), 2) := by decide +kernel
theorem dX9_shortestWord_18 : decode cX9_shortestWord 18 = .ok (.ireturn, 1) := by decide +kernel
theorem dX9_shortestWord_19 : decode cX9_shortestWord 19 = .ok (.aload_n 0, 1) := by decide +kernel
theorem dX9_shortestWord_20 : decode cX9_shortestWord 20 = .ok (.getfield 42, 3) := by decide +kernel
theorem dX9_shortestWord_23 : decode cX9_shortestWord 23 = .ok (.iload_n 1, 1) := by decide +kernel
theorem dX9_shortestWord_24 : decode cX9_shortestWord 24 = .ok (.iload_n 2, 1) := by decide +kernel
theorem dX9_shortestWord_25 : decode cX9_shortestWord 25 = .ok (.invokevirtual 232, 3) := by decide +kernel
theorem dX9_shortestWord_28 : decode cX9_shortestWord 28 = .ok (.aload_n 0, 1) := by decide +kernel
theorem dX9_shortestWord_29 : decode cX9_shortestWord 29 = .ok (.getfield 51, 3) := by decide +kernel
theorem dX9_shortestWord_32 : decode cX9_shortestWord 32 = .ok (.aload_n 0, 1) := by decide +kernel
theorem dX9_shortestWord_33 : decode cX9_shortestWord 33 = .ok (.getfield 51, 3) := by decide +kernel
theorem dX9_shortestWord_36 : decode cX9_shortestWord 36 = .ok (.invokevirtual 239, 3) := by decide +kernel
theorem dX9_shortestWord_39 : decode cX9_shortestWord 39 = .ok (.invokevirtual 242, 3) := by decide +kernel
theorem dX9_shortestWord_42 : decode cX9_shortestWord 42 = .ok (.aload_n 0, 1) := by decide +kernel
theorem dX9_shortestWord_43 : decode cX9_shortestWord 43 = .ok (.getfield 51, 3) := by decide +kernel
theorem dX9_shortestWord_46 : decode cX9_shortestWord 46 = .ok (.getfield 245, 3) := by decide +kernel
theorem dX9_shortestWord_49 : decode cX9_shortestWord 49 = .ok (.iload_n 3, 1) := by decide +kernel
theorem dX9_shortestWord_50 : decode cX9_shortestWord 50 = .ok (.invokevirtual 176, 3) := by decide +kernel
theorem dX9_shortestWord_53 : decode cX9_shortestWord 53 = .ok (.ireturn, 1) := by decide +kernel
theorem dX9_forAll_0 : decode cX9_forAll 0 = .ok (.aload_n 0, 1) := by decide +kernel
theorem dX9_forAll_1 : decode cX9_forAll 1 = .ok (.getfield 12, 3) := by decide +kernel
theorem dX9_forAll_4 : decode cX9_forAll 4 = .ok (.iload_n 1, 1) := by decide +kernel
theorem dX9_forAll_5 : decode cX9_forAll 5 = .ok (.invokevirtual 130, 3) := by decide +kernel
theorem dX9_forAll_8 : decode cX9_forAll 8 = .ok (.ifCond .ne 6, 3) := by decide +kernel
theorem dX9_forAll_11 : decode cX9_forAll 11 = .ok (.bipush (-2), 2) := by decide +kernel
theorem dX9_forAll_13 : decode cX9_forAll 13 = .ok (.ireturn, 1) := by decide +kernel
theorem dX9_forAll_14 : decode cX9_forAll 14 = .ok (.iload_n 2, 1) := by decide +kernel
theorem dX9_forAll_15 : decode cX9_forAll 15 = .ok (.ifCond .lt 8, 3) := by decide +kernel
theorem dX9_forAll_18 : decode cX9_forAll 18 = .ok (.iload_n 2, 1) := by decide +kernel
theorem dX9_forAll_19 : decode cX9_forAll 19 = .ok (.iconst 1, 1) := by decide +kernel
theorem dX9_forAll_20 : decode cX9_forAll 20 = .ok (.if_icmp .le 6, 3) := by decide +kernel
theorem dX9_forAll_23 : decode cX9_forAll 23 = .ok (.bipush (-3), 2) := by decide +kernel
theorem dX9_forAll_25 : decode cX9_forAll 25 = .ok (.ireturn, 1) := by decide +kernel
theorem dX9_forAll_26 : decode cX9_forAll 26 = .ok (.aload_n 0, 1) := by decide +kernel
theorem dX9_forAll_27 : decode cX9_forAll 27 = .ok (.getfield 12, 3) := by decide +kernel
theorem dX9_forAll_30 : decode cX9_forAll 30 = .ok (.getfield 248, 3) := by decide +kernel
theorem dX9_forAll_33 : decode cX9_forAll 33 = .ok (.ifCond .ne 6, 3) := by decide +kernel
theorem dX9_forAll_36 : decode cX9_forAll 36 = .ok (.bipush (-4), 2) := by decide +kernel
theorem dX9_forAll_38 : decode cX9_forAll 38 = .ok (.ireturn, 1) := by decide +kernel
theorem dX9_forAll_39 : decode cX9_forAll 39 = .ok (.aload_n 0, 1) := by decide +kernel
theorem dX9_forAll_40 : decode cX9_forAll 40 = .ok (.getfield 42, 3) := by decide +kernel
theorem dX9_forAll_43 : decode cX9_forAll 43 = .ok (.iload_n 1, 1) := by decide +kernel
theorem dX9_forAll_44 : decode cX9_forAll 44 = .ok (.invokevirtual 251, 3) := by decide +kernel
theorem dX9_forAll_47 : decode cX9_forAll 47 = .ok (.aload_n 0, 1) := by decide +kernel
theorem dX9_forAll_48 : decode cX9_forAll 48 = .ok (.iload_n 2, 1) := by decide +kernel
theorem dX9_forAll_49 : decode cX9_forAll 49 = .ok (.invokevirtual 236, 3) := by decide +kernel
theorem dX9_forAll_52 : decode cX9_forAll 52 = .ok (.ireturn, 1) := by decide +kernel
theorem dX9_hidden_0 : decode cX9_hidden 0 = .ok (.iload_n 1, 1) := by decide +kernel
theorem dX9_hidden_1 : decode cX9_hidden 1 = .ok (.iconst 1, 1) := by decide +kernel
theorem dX9_hidden_2 : decode cX9_hidden 2 = .ok (.if_icmp .lt 8, 3) := by decide +kernel
theorem dX9_hidden_5 : decode cX9_hidden 5 = .ok (.iload_n 1, 1) := by decide +kernel
theorem dX9_hidden_6 : decode cX9_hidden 6 = .ok (.iconst 4, 1) := by decide +kernel
theorem dX9_hidden_7 : decode cX9_hidden 7 = .ok (.if_icmp .le 6, 3) := by decide +kernel
theorem dX9_hidden_10 : decode cX9_hidden 10 = .ok (.bipush (-3), 2) := by decide +kernel
theorem dX9_hidden_12 : decode cX9_hidden 12 = .ok (.ireturn, 1) := by decide +kernel
theorem dX9_hidden_13 : decode cX9_hidden 13 = .ok (.aload_n 0, 1) := by decide +kernel
theorem dX9_hidden_14 : decode cX9_hidden 14 = .ok (.getfield 58, 3) := by decide +kernel
theorem dX9_hidden_17 : decode cX9_hidden 17 = .ok (.iload_n 1, 1) := by decide +kernel
theorem dX9_hidden_18 : decode cX9_hidden 18 = .ok (.invokevirtual 254, 3) := by decide +kernel
theorem dX9_hidden_21 : decode cX9_hidden 21 = .ok (.ireturn, 1) := by decide +kernel
theorem dX9_altered_0 : decode cX9_altered 0 = .ok (.aload_n 0, 1) := by decide +kernel
theorem dX9_altered_1 : decode cX9_altered 1 = .ok (.iload_n 1, 1) := by decide +kernel
theorem dX9_altered_2 : decode cX9_altered 2 = .ok (.iload_n 2, 1) := by decide +kernel
theorem dX9_altered_3 : decode cX9_altered 3 = .ok (.invokevirtual 183, 3) := by decide +kernel
theorem dX9_altered_6 : decode cX9_altered 6 = .ok (.ifCond .ne 6, 3) := by decide +kernel
theorem dX9_altered_9 : decode cX9_altered 9 = .ok (.bipush (-2), 2) := by decide +kernel
theorem dX9_altered_11 : decode cX9_altered 11 = .ok (.ireturn, 1) := by decide +kernel
theorem dX9_altered_12 : decode cX9_altered 12 = .ok (.iload_n 3, 1) := by decide +kernel
theorem dX9_altered_13 : decode cX9_altered 13 = .ok (.iconst (-1), 1) := by decide +kernel
theorem dX9_altered_14 : decode cX9_altered 14 = .ok (.if_icmp .ge 6, 3) := by decide +kernel
theorem dX9_altered_17 : decode cX9_altered 17 = .ok (.bipush (-3), 2) := by decide +kernel
theorem dX9_altered_19 : decode cX9_altered 19 = .ok (.ireturn, 1) := by decide +kernel
theorem dX9_altered_20 : decode cX9_altered 20 = .ok (.aload_n 0, 1) := by decide +kernel
theorem dX9_altered_21 : decode cX9_altered 21 = .ok (.getfield 42, 3) := by decide +kernel
theorem dX9_altered_24 : decode cX9_altered 24 = .ok (.iload_n 1, 1) := by decide +kernel
theorem dX9_altered_25 : decode cX9_altered 25 = .ok (.iload_n 2, 1) := by decide +kernel
theorem dX9_altered_26 : decode cX9_altered 26 = .ok (.invokevirtual 232, 3) := by decide +kernel
theorem dX9_altered_29 : decode cX9_altered 29 = .ok (.aload_n 0, 1) := by decide +kernel
theorem dX9_altered_30 : decode cX9_altered 30 = .ok (.getfield 51, 3) := by decide +kernel
theorem dX9_altered_33 : decode cX9_altered 33 = .ok (.invokevirtual 257, 3) := by decide +kernel
theorem dX9_altered_36 : decode cX9_altered 36 = .ok (.istore 4, 2) := by decide +kernel
theorem dX9_altered_38 : decode cX9_altered 38 = .ok (.iload_n 3, 1) := by decide +kernel
theorem dX9_altered_39 : decode cX9_altered 39 = .ok (.iconst (-1), 1) := by decide +kernel
theorem dX9_altered_40 : decode cX9_altered 40 = .ok (.if_icmp .eq 9, 3) := by decide +kernel
theorem dX9_altered_43 : decode cX9_altered 43 = .ok (.iload 4, 2) := by decide +kernel
theorem dX9_altered_45 : decode cX9_altered 45 = .ok (.iconst (-1), 1) := by decide +kernel
theorem dX9_altered_46 : decode cX9_altered 46 = .ok (.if_icmp .ne 6, 3) := by decide +kernel
theorem dX9_altered_49 : decode cX9_altered 49 = .ok (.iload 4, 2) := by decide +kernel
theorem dX9_altered_51 : decode cX9_altered 51 = .ok (.ireturn, 1) := by decide +kernel
theorem dX9_altered_52 : decode cX9_altered 52 = .ok (.aload_n 0, 1) := by decide +kernel
theorem dX9_altered_53 : decode cX9_altered 53 = .ok (.getfield 51, 3) := by decide +kernel
theorem dX9_altered_56 : decode cX9_altered 56 = .ok (.aload_n 0, 1) := by decide +kernel
theorem dX9_altered_57 : decode cX9_altered 57 = .ok (.getfield 33, 3) := by decide +kernel
theorem dX9_altered_60 : decode cX9_altered 60 = .ok (.getfield 174, 3) := by decide +kernel
theorem dX9_altered_63 : decode cX9_altered 63 = .ok (.invokevirtual 242, 3) := by decide +kernel
theorem dX9_altered_66 : decode cX9_altered 66 = .ok (.aload_n 0, 1) := by decide +kernel
theorem dX9_altered_67 : decode cX9_altered 67 = .ok (.getfield 51, 3) := by decide +kernel
theorem dX9_altered_70 : decode cX9_altered 70 = .ok (.getfield 245, 3) := by decide +kernel
theorem dX9_altered_73 : decode cX9_altered 73 = .ok (.iload_n 3, 1) := by decide +kernel
theorem dX9_altered_74 : decode cX9_altered 74 = .ok (.invokevirtual 176, 3) := by decide +kernel
theorem dX9_altered_77 : decode cX9_altered 77 = .ok (.ireturn, 1) := by decide +kernel
theorem dX9_laden_0 : decode cX9_laden 0 = .ok (.iload_n 1, 1) := by decide +kernel
theorem dX9_laden_1 : decode cX9_laden 1 = .ok (.iconst 1, 1) := by decide +kernel
theorem dX9_laden_2 : decode cX9_laden 2 = .ok (.if_icmp .lt 18, 3) := by decide +kernel
theorem dX9_laden_5 : decode cX9_laden 5 = .ok (.iload_n 1, 1) := by decide +kernel
theorem dX9_laden_6 : decode cX9_laden 6 = .ok (.bipush 72, 2) := by decide +kernel
theorem dX9_laden_8 : decode cX9_laden 8 = .ok (.if_icmp .gt 12, 3) := by decide +kernel
theorem dX9_laden_11 : decode cX9_laden 11 = .ok (.iload_n 2, 1) := by decide +kernel
theorem dX9_laden_12 : decode cX9_laden 12 = .ok (.ifCond .lt 8, 3) := by decide +kernel
theorem dX9_laden_15 : decode cX9_laden 15 = .ok (.iload_n 2, 1) := by decide +kernel
theorem dX9_laden_16 : decode cX9_laden 16 = .ok (.iconst 2, 1) := by decide +kernel
theorem dX9_laden_17 : decode cX9_laden 17 = .ok (.if_icmp .le 6, 3) := by decide +kernel
theorem dX9_laden_20 : decode cX9_laden 20 = .ok (.bipush (-3), 2) := by decide +kernel
theorem dX9_laden_22 : decode cX9_laden 22 = .ok (.ireturn, 1) := by decide +kernel
theorem dX9_laden_23 : decode cX9_laden 23 = .ok (.aload_n 0, 1) := by decide +kernel
theorem dX9_laden_24 : decode cX9_laden 24 = .ok (.getfield 65, 3) := by decide +kernel
theorem dX9_laden_27 : decode cX9_laden 27 = .ok (.iload_n 1, 1) := by decide +kernel
theorem dX9_laden_28 : decode cX9_laden 28 = .ok (.invokevirtual 260, 3) := by decide +kernel
theorem dX9_laden_31 : decode cX9_laden 31 = .ok (.iload_n 2, 1) := by decide +kernel
theorem dX9_laden_32 : decode cX9_laden 32 = .ok (.ifCond .ne 11, 3) := by decide +kernel
theorem dX9_laden_35 : decode cX9_laden 35 = .ok (.aload_n 0, 1) := by decide +kernel
theorem dX9_laden_36 : decode cX9_laden 36 = .ok (.getfield 65, 3) := by decide +kernel
theorem dX9_laden_39 : decode cX9_laden 39 = .ok (.getfield 263, 3) := by decide +kernel
theorem dX9_laden_42 : decode cX9_laden 42 = .ok (.ireturn, 1) := by decide +kernel
theorem dX9_laden_43 : decode cX9_laden 43 = .ok (.iload_n 2, 1) := by decide +kernel
theorem dX9_laden_44 : decode cX9_laden 44 = .ok (.iconst 1, 1) := by decide +kernel
theorem dX9_laden_45 : decode cX9_laden 45 = .ok (.if_icmp .ne 13, 3) := by decide +kernel
theorem dX9_laden_48 : decode cX9_laden 48 = .ok (.aload_n 0, 1) := by decide +kernel
theorem dX9_laden_49 : decode cX9_laden 49 = .ok (.getfield 65, 3) := by decide +kernel
theorem dX9_laden_52 : decode cX9_laden 52 = .ok (.getfield 266, 3) := by decide +kernel
theorem dX9_laden_55 : decode cX9_laden 55 = .ok (.goto 10, 3) := by decide +kernel
theorem dX9_laden_58 : decode cX9_laden 58 = .ok (.aload_n 0, 1) := by decide +kernel
theorem dX9_laden_59 : decode cX9_laden 59 = .ok (.getfield 65, 3) := by decide +kernel
theorem dX9_laden_62 : decode cX9_laden 62 = .ok (.getfield 269, 3) := by decide +kernel
theorem dX9_laden_65 : decode cX9_laden 65 = .ok (.ireturn, 1) := by decide +kernel
theorem dX9_left_0 : decode cX9_left 0 = .ok (.iload_n 1, 1) := by decide +kernel
theorem dX9_left_1 : decode cX9_left 1 = .ok (.ifCond .ne 8, 3) := by decide +kernel
theorem dX9_left_4 : decode cX9_left 4 = .ok (.aload_n 0, 1) := by decide +kernel
theorem dX9_left_5 : decode cX9_left 5 = .ok (.invokevirtual 272, 3) := by decide +kernel
theorem dX9_left_8 : decode cX9_left 8 = .ok (.ireturn, 1) := by decide +kernel
theorem dX9_left_9 : decode cX9_left 9 = .ok (.iload_n 1, 1) := by decide +kernel
theorem dX9_left_10 : decode cX9_left 10 = .ok (.iconst 1, 1) := by decide +kernel
theorem dX9_left_11 : decode cX9_left 11 = .ok (.if_icmp .ne 8, 3) := by decide +kernel
theorem dX9_left_14 : decode cX9_left 14 = .ok (.aload_n 0, 1) := by decide +kernel
theorem dX9_left_15 : decode cX9_left 15 = .ok (.invokevirtual 275, 3) := by decide +kernel
theorem dX9_left_18 : decode cX9_left 18 = .ok (.ireturn, 1) := by decide +kernel
theorem dX9_left_19 : decode cX9_left 19 = .ok (.bipush (-3), 2) := by decide +kernel
theorem dX9_left_21 : decode cX9_left 21 = .ok (.ireturn, 1) := by decide +kernel
theorem dX9_odds_0 : decode cX9_odds 0 = .ok (.aload_n 0, 1) := by decide +kernel
theorem dX9_odds_1 : decode cX9_odds 1 = .ok (.iload_n 1, 1) := by decide +kernel
theorem dX9_odds_2 : decode cX9_odds 2 = .ok (.iload_n 2, 1) := by decide +kernel
theorem dX9_odds_3 : decode cX9_odds 3 = .ok (.invokevirtual 183, 3) := by decide +kernel
theorem dX9_odds_6 : decode cX9_odds 6 = .ok (.ifCond .ne 6, 3) := by decide +kernel
theorem dX9_odds_9 : decode cX9_odds 9 = .ok (.bipush (-2), 2) := by decide +kernel
theorem dX9_odds_11 : decode cX9_odds 11 = .ok (.ireturn, 1) := by decide +kernel
theorem dX9_odds_12 : decode cX9_odds 12 = .ok (.iload_n 3, 1) := by decide +kernel
theorem dX9_odds_13 : decode cX9_odds 13 = .ok (.iconst 1, 1) := by decide +kernel
theorem dX9_odds_14 : decode cX9_odds 14 = .ok (.if_icmp .lt 19, 3) := by decide +kernel
theorem dX9_odds_17 : decode cX9_odds 17 = .ok (.iload_n 3, 1) := by decide +kernel
theorem dX9_odds_18 : decode cX9_odds 18 = .ok (.iconst 4, 1) := by decide +kernel
theorem dX9_odds_19 : decode cX9_odds 19 = .ok (.if_icmp .gt 14, 3) := by decide +kernel
theorem dX9_odds_22 : decode cX9_odds 22 = .ok (.iload 4, 2) := by decide +kernel
theorem dX9_odds_24 : decode cX9_odds 24 = .ok (.ifCond .lt 9, 3) := by decide +kernel
theorem dX9_odds_27 : decode cX9_odds 27 = .ok (.iload 4, 2) := by decide +kernel
theorem dX9_odds_29 : decode cX9_odds 29 = .ok (.iconst 1, 1) := by decide +kernel
theorem dX9_odds_30 : decode cX9_odds 30 = .ok (.if_icmp .le 6, 3) := by decide +kernel
theorem dX9_odds_33 : decode cX9_odds 33 = .ok (.bipush (-3), 2) := by decide +kernel
theorem dX9_odds_35 : decode cX9_odds 35 = .ok (.ireturn, 1) := by decide +kernel
theorem dX9_odds_36 : decode cX9_odds 36 = .ok (.aload_n 0, 1) := by decide +kernel
theorem dX9_odds_37 : decode cX9_odds 37 = .ok (.getfield 12, 3) := by decide +kernel
theorem dX9_odds_40 : decode cX9_odds 40 = .ok (.getfield 278, 3) := by decide +kernel
theorem dX9_odds_43 : decode cX9_odds 43 = .ok (.ifCond .ne 6, 3) := by decide +kernel
theorem dX9_odds_46 : decode cX9_odds 46 = .ok (.bipush (-4), 2) := by decide +kernel
theorem dX9_odds_48 : decode cX9_odds 48 = .ok (.ireturn, 1) := by decide +kernel
theorem dX9_odds_49 : decode cX9_odds 49 = .ok (.aload_n 0, 1) := by decide +kernel
theorem dX9_odds_50 : decode cX9_odds 50 = .ok (.getfield 42, 3) := by decide +kernel
theorem dX9_odds_53 : decode cX9_odds 53 = .ok (.iload_n 1, 1) := by decide +kernel
theorem dX9_odds_54 : decode cX9_odds 54 = .ok (.iload_n 2, 1) := by decide +kernel
theorem dX9_odds_55 : decode cX9_odds 55 = .ok (.invokevirtual 232, 3) := by decide +kernel
theorem dX9_odds_58 : decode cX9_odds 58 = .ok (.aload_n 0, 1) := by decide +kernel
theorem dX9_odds_59 : decode cX9_odds 59 = .ok (.getfield 51, 3) := by decide +kernel
theorem dX9_odds_62 : decode cX9_odds 62 = .ok (.iload_n 3, 1) := by decide +kernel
theorem dX9_odds_63 : decode cX9_odds 63 = .ok (.invokevirtual 281, 3) := by decide +kernel
theorem dX9_odds_66 : decode cX9_odds 66 = .ok (.istore 5, 2) := by decide +kernel
theorem dX9_odds_68 : decode cX9_odds 68 = .ok (.aload_n 0, 1) := by decide +kernel
theorem dX9_odds_69 : decode cX9_odds 69 = .ok (.getfield 12, 3) := by decide +kernel
theorem dX9_odds_72 : decode cX9_odds 72 = .ok (.iload_n 3, 1) := by decide +kernel
theorem dX9_odds_73 : decode cX9_odds 73 = .ok (.invokevirtual 284, 3) := by decide +kernel
theorem dX9_odds_76 : decode cX9_odds 76 = .ok (.istore 6, 2) := by decide +kernel
theorem dX9_odds_78 : decode cX9_odds 78 = .ok (.iload 5, 2) := by decide +kernel
theorem dX9_odds_80 : decode cX9_odds 80 = .ok (.iload 6, 2) := by decide +kernel
theorem dX9_odds_82 : decode cX9_odds 82 = .ok (.invokestatic 285, 3) := by decide +kernel
theorem dX9_odds_85 : decode cX9_odds 85 = .ok (.istore 7, 2) := by decide +kernel
theorem dX9_odds_87 : decode cX9_odds 87 = .ok (.iload 7, 2) := by decide +kernel
theorem dX9_odds_89 : decode cX9_odds 89 = .ok (.ifCond .ne 5, 3) := by decide +kernel
theorem dX9_odds_92 : decode cX9_odds 92 = .ok (.iconst (-1), 1) := by decide +kernel
theorem dX9_odds_93 : decode cX9_odds 93 = .ok (.ireturn, 1) := by decide +kernel
theorem dX9_odds_94 : decode cX9_odds 94 = .ok (.iload 4, 2) := by decide +kernel
theorem dX9_odds_96 : decode cX9_odds 96 = .ok (.ifCond .ne 11, 3) := by decide +kernel
theorem dX9_odds_99 : decode cX9_odds 99 = .ok (.iload 5, 2) := by decide +kernel
theorem dX9_odds_101 : decode cX9_odds 101 = .ok (.iload 7, 2) := by decide +kernel
theorem dX9_odds_103 : decode cX9_odds 103 = .ok (.idiv, 1) := by decide +kernel
theorem dX9_odds_104 : decode cX9_odds 104 = .ok (.goto 8, 3) := by decide +kernel
theorem dX9_odds_107 : decode cX9_odds 107 = .ok (.iload 6, 2) := by decide +kernel
theorem dX9_odds_109 : decode cX9_odds 109 = .ok (.iload 7, 2) := by decide +kernel
theorem dX9_odds_111 : decode cX9_odds 111 = .ok (.idiv, 1) := by decide +kernel
theorem dX9_odds_112 : decode cX9_odds 112 = .ok (.ireturn, 1) := by decide +kernel
theorem dX9_year_0 : decode cX9_year 0 = .ok (.aload_n 0, 1) := by decide +kernel
theorem dX9_year_1 : decode cX9_year 1 = .ok (.getfield 12, 3) := by decide +kernel
theorem dX9_year_4 : decode cX9_year 4 = .ok (.getfield 248, 3) := by decide +kernel
theorem dX9_year_7 : decode cX9_year 7 = .ok (.ifCond .ne 6, 3) := by decide +kernel
theorem dX9_year_10 : decode cX9_year 10 = .ok (.bipush (-4), 2) := by decide +kernel
theorem dX9_year_12 : decode cX9_year 12 = .ok (.ireturn, 1) := by decide +kernel
theorem dX9_year_13 : decode cX9_year 13 = .ok (.iconst 0, 1) := by decide +kernel
theorem dX9_year_14 : decode cX9_year 14 = .ok (.istore_n 1, 1) := by decide +kernel
theorem dX9_year_15 : decode cX9_year 15 = .ok (.iload_n 1, 1) := by decide +kernel
theorem dX9_year_16 : decode cX9_year 16 = .ok (.bipush 6, 2) := by decide +kernel
theorem dX9_year_18 : decode cX9_year 18 = .ok (.if_icmp .ge 23, 3) := by decide +kernel
theorem dX9_year_21 : decode cX9_year 21 = .ok (.aload_n 0, 1) := by decide +kernel
theorem dX9_year_22 : decode cX9_year 22 = .ok (.getfield 76, 3) := by decide +kernel
theorem dX9_year_25 : decode cX9_year 25 = .ok (.iload_n 1, 1) := by decide +kernel
theorem dX9_year_26 : decode cX9_year 26 = .ok (.aload_n 0, 1) := by decide +kernel
theorem dX9_year_27 : decode cX9_year 27 = .ok (.getfield 26, 3) := by decide +kernel
theorem dX9_year_30 : decode cX9_year 30 = .ok (.iload_n 1, 1) := by decide +kernel
theorem dX9_year_31 : decode cX9_year 31 = .ok (.invokevirtual 148, 3) := by decide +kernel
theorem dX9_year_34 : decode cX9_year 34 = .ok (.iastore, 1) := by decide +kernel
theorem dX9_year_35 : decode cX9_year 35 = .ok (.iinc 1 1, 3) := by decide +kernel
theorem dX9_year_38 : decode cX9_year 38 = .ok (.goto (-23), 3) := by decide +kernel
theorem dX9_year_41 : decode cX9_year 41 = .ok (.iconst 0, 1) := by decide +kernel
theorem dX9_year_42 : decode cX9_year 42 = .ok (.istore_n 1, 1) := by decide +kernel
theorem dX9_year_43 : decode cX9_year 43 = .ok (.iconst 0, 1) := by decide +kernel
theorem dX9_year_44 : decode cX9_year 44 = .ok (.istore_n 2, 1) := by decide +kernel
theorem dX9_year_45 : decode cX9_year 45 = .ok (.iload_n 2, 1) := by decide +kernel
theorem dX9_year_46 : decode cX9_year 46 = .ok (.aload_n 0, 1) := by decide +kernel
theorem dX9_year_47 : decode cX9_year 47 = .ok (.getfield 12, 3) := by decide +kernel
theorem dX9_year_50 : decode cX9_year 50 = .ok (.getfield 289, 3) := by decide +kernel
theorem dX9_year_53 : decode cX9_year 53 = .ok (.if_icmp .ge 28, 3) := by decide +kernel
theorem dX9_year_56 : decode cX9_year 56 = .ok (.aload_n 0, 1) := by decide +kernel
theorem dX9_year_57 : decode cX9_year 57 = .ok (.getfield 26, 3) := by decide +kernel
theorem dX9_year_60 : decode cX9_year 60 = .ok (.iload_n 2, 1) := by decide +kernel
theorem dX9_year_61 : decode cX9_year 61 = .ok (.invokevirtual 139, 3) := by decide +kernel
theorem dX9_year_64 : decode cX9_year 64 = .ok (.ifCond .ne 11, 3) := by decide +kernel
theorem dX9_year_67 : decode cX9_year 67 = .ok (.iload_n 1, 1) := by decide +kernel
theorem dX9_year_68 : decode cX9_year 68 = .ok (.aload_n 0, 1) := by decide +kernel
theorem dX9_year_69 : decode cX9_year 69 = .ok (.iload_n 2, 1) := by decide +kernel
theorem dX9_year_70 : decode cX9_year 70 = .ok (.invokevirtual 292, 3) := by decide +kernel
theorem dX9_year_73 : decode cX9_year 73 = .ok (.iadd, 1) := by decide +kernel
theorem dX9_year_74 : decode cX9_year 74 = .ok (.istore_n 1, 1) := by decide +kernel
theorem dX9_year_75 : decode cX9_year 75 = .ok (.iinc 2 1, 3) := by decide +kernel
theorem dX9_year_78 : decode cX9_year 78 = .ok (.goto (-33), 3) := by decide +kernel
theorem dX9_year_81 : decode cX9_year 81 = .ok (.iload_n 1, 1) := by decide +kernel
theorem dX9_year_82 : decode cX9_year 82 = .ok (.ireturn, 1) := by decide +kernel
theorem dX9_secret_0 : decode cX9_secret 0 = .ok (.iload_n 1, 1) := by decide +kernel
theorem dX9_secret_1 : decode cX9_secret 1 = .ok (.iconst 1, 1) := by decide +kernel
theorem dX9_secret_2 : decode cX9_secret 2 = .ok (.if_icmp .lt 8, 3) := by decide +kernel
theorem dX9_secret_5 : decode cX9_secret 5 = .ok (.iload_n 1, 1) := by decide +kernel
theorem dX9_secret_6 : decode cX9_secret 6 = .ok (.iconst 3, 1) := by decide +kernel
theorem dX9_secret_7 : decode cX9_secret 7 = .ok (.if_icmp .le 6, 3) := by decide +kernel
theorem dX9_secret_10 : decode cX9_secret 10 = .ok (.bipush (-3), 2) := by decide +kernel
theorem dX9_secret_12 : decode cX9_secret 12 = .ok (.ireturn, 1) := by decide +kernel
theorem dX9_secret_13 : decode cX9_secret 13 = .ok (.aload_n 0, 1) := by decide +kernel
theorem dX9_secret_14 : decode cX9_secret 14 = .ok (.getfield 72, 3) := by decide +kernel
theorem dX9_secret_17 : decode cX9_secret 17 = .ok (.iload_n 1, 1) := by decide +kernel
theorem dX9_secret_18 : decode cX9_secret 18 = .ok (.invokevirtual 295, 3) := by decide +kernel
theorem dX9_secret_21 : decode cX9_secret 21 = .ok (.ireturn, 1) := by decide +kernel
theorem dX9_counted_0 : decode cX9_counted 0 = .ok (.aload_n 0, 1) := by decide +kernel
theorem dX9_counted_1 : decode cX9_counted 1 = .ok (.getfield 12, 3) := by decide +kernel
theorem dX9_counted_4 : decode cX9_counted 4 = .ok (.iload_n 1, 1) := by decide +kernel
theorem dX9_counted_5 : decode cX9_counted 5 = .ok (.invokevirtual 142, 3) := by decide +kernel
theorem dX9_counted_8 : decode cX9_counted 8 = .ok (.ifCond .ne 6, 3) := by decide +kernel
theorem dX9_counted_11 : decode cX9_counted 11 = .ok (.bipush (-2), 2) := by decide +kernel
theorem dX9_counted_13 : decode cX9_counted 13 = .ok (.ireturn, 1) := by decide +kernel
theorem dX9_counted_14 : decode cX9_counted 14 = .ok (.iload_n 2, 1) := by decide +kernel
theorem dX9_counted_15 : decode cX9_counted 15 = .ok (.ifCond .lt 9, 3) := by decide +kernel
theorem dX9_counted_18 : decode cX9_counted 18 = .ok (.iload_n 2, 1) := by decide +kernel
theorem dX9_counted_19 : decode cX9_counted 19 = .ok (.bipush 24, 2) := by decide +kernel
theorem dX9_counted_21 : decode cX9_counted 21 = .ok (.if_icmp .le 6, 3) := by decide +kernel
theorem dX9_counted_24 : decode cX9_counted 24 = .ok (.bipush (-3), 2) := by decide +kernel
theorem dX9_counted_26 : decode cX9_counted 26 = .ok (.ireturn, 1) := by decide +kernel
theorem dX9_counted_27 : decode cX9_counted 27 = .ok (.aload_n 0, 1) := by decide +kernel
theorem dX9_counted_28 : decode cX9_counted 28 = .ok (.getfield 72, 3) := by decide +kernel
theorem dX9_counted_31 : decode cX9_counted 31 = .ok (.getfield 297, 3) := by decide +kernel
theorem dX9_counted_34 : decode cX9_counted 34 = .ok (.ifCond .ne 6, 3) := by decide +kernel
theorem dX9_counted_37 : decode cX9_counted 37 = .ok (.bipush (-4), 2) := by decide +kernel
theorem dX9_counted_39 : decode cX9_counted 39 = .ok (.ireturn, 1) := by decide +kernel
theorem dX9_counted_40 : decode cX9_counted 40 = .ok (.aload_n 0, 1) := by decide +kernel
theorem dX9_counted_41 : decode cX9_counted 41 = .ok (.getfield 72, 3) := by decide +kernel
theorem dX9_counted_44 : decode cX9_counted 44 = .ok (.getfield 298, 3) := by decide +kernel
theorem dX9_counted_47 : decode cX9_counted 47 = .ok (.bipush 6, 2) := by decide +kernel
theorem dX9_counted_49 : decode cX9_counted 49 = .ok (.if_icmp .lt 6, 3) := by decide +kernel
theorem dX9_counted_52 : decode cX9_counted 52 = .ok (.bipush (-5), 2) := by decide +kernel
theorem dX9_counted_54 : decode cX9_counted 54 = .ok (.ireturn, 1) := by decide +kernel
theorem dX9_counted_55 : decode cX9_counted 55 = .ok (.aload_n 0, 1) := by decide +kernel
theorem dX9_counted_56 : decode cX9_counted 56 = .ok (.getfield 72, 3) := by decide +kernel
theorem dX9_counted_59 : decode cX9_counted 59 = .ok (.iload_n 1, 1) := by decide +kernel
theorem dX9_counted_60 : decode cX9_counted 60 = .ok (.iload_n 2, 1) := by decide +kernel
theorem dX9_counted_61 : decode cX9_counted 61 = .ok (.invokevirtual 301, 3) := by decide +kernel
theorem dX9_counted_64 : decode cX9_counted 64 = .ok (.ireturn, 1) := by decide +kernel
theorem dX9_canBe_0 : decode cX9_canBe 0 = .ok (.iload_n 1, 1) := by decide +kernel
theorem dX9_canBe_1 : decode cX9_canBe 1 = .ok (.ifCond .lt 8, 3) := by decide +kernel
theorem dX9_canBe_4 : decode cX9_canBe 4 = .ok (.iload_n 1, 1) := by decide +kernel
theorem dX9_canBe_5 : decode cX9_canBe 5 = .ok (.iconst 1, 1) := by decide +kernel
theorem dX9_canBe_6 : decode cX9_canBe 6 = .ok (.if_icmp .le 6, 3) := by decide +kernel
theorem dX9_canBe_9 : decode cX9_canBe 9 = .ok (.bipush (-3), 2) := by decide +kernel
theorem dX9_canBe_11 : decode cX9_canBe 11 = .ok (.ireturn, 1) := by decide +kernel
theorem dX9_canBe_12 : decode cX9_canBe 12 = .ok (.aload_n 0, 1) := by decide +kernel
theorem dX9_canBe_13 : decode cX9_canBe 13 = .ok (.getfield 72, 3) := by decide +kernel
theorem dX9_canBe_16 : decode cX9_canBe 16 = .ok (.getfield 297, 3) := by decide +kernel
theorem dX9_canBe_19 : decode cX9_canBe 19 = .ok (.ifCond .ne 6, 3) := by decide +kernel
theorem dX9_canBe_22 : decode cX9_canBe 22 = .ok (.bipush (-4), 2) := by decide +kernel
theorem dX9_canBe_24 : decode cX9_canBe 24 = .ok (.ireturn, 1) := by decide +kernel
theorem dX9_canBe_25 : decode cX9_canBe 25 = .ok (.aload_n 0, 1) := by decide +kernel
theorem dX9_canBe_26 : decode cX9_canBe 26 = .ok (.getfield 72, 3) := by decide +kernel
theorem dX9_canBe_29 : decode cX9_canBe 29 = .ok (.invokevirtual 303, 3) := by decide +kernel
theorem dX9_canBe_32 : decode cX9_canBe 32 = .ok (.iload_n 1, 1) := by decide +kernel
theorem dX9_canBe_33 : decode cX9_canBe 33 = .ok (.ifCond .ne 13, 3) := by decide +kernel
theorem dX9_canBe_36 : decode cX9_canBe 36 = .ok (.aload_n 0, 1) := by decide +kernel
theorem dX9_canBe_37 : decode cX9_canBe 37 = .ok (.getfield 72, 3) := by decide +kernel
theorem dX9_canBe_40 : decode cX9_canBe 40 = .ok (.getfield 306, 3) := by decide +kernel
theorem dX9_canBe_43 : decode cX9_canBe 43 = .ok (.goto 10, 3) := by decide +kernel
theorem dX9_canBe_46 : decode cX9_canBe 46 = .ok (.aload_n 0, 1) := by decide +kernel
theorem dX9_canBe_47 : decode cX9_canBe 47 = .ok (.getfield 72, 3) := by decide +kernel
theorem dX9_canBe_50 : decode cX9_canBe 50 = .ok (.getfield 309, 3) := by decide +kernel
theorem dX9_canBe_53 : decode cX9_canBe 53 = .ok (.ireturn, 1) := by decide +kernel
theorem dX9_canBeWord_0 : decode cX9_canBeWord 0 = .ok (.iload_n 1, 1) := by decide +kernel
theorem dX9_canBeWord_1 : decode cX9_canBeWord 1 = .ok (.ifCond .lt 12, 3) := by decide +kernel
theorem dX9_canBeWord_4 : decode cX9_canBeWord 4 = .ok (.iload_n 2, 1) := by decide +kernel
theorem dX9_canBeWord_5 : decode cX9_canBeWord 5 = .ok (.ifCond .lt 8, 3) := by decide +kernel
theorem dX9_canBeWord_8 : decode cX9_canBeWord 8 = .ok (.iload_n 2, 1) := by decide +kernel
theorem dX9_canBeWord_9 : decode cX9_canBeWord 9 = .ok (.iconst 1, 1) := by decide +kernel
theorem dX9_canBeWord_10 : decode cX9_canBeWord 10 = .ok (.if_icmp .le 6, 3) := by decide +kernel
theorem dX9_canBeWord_13 : decode cX9_canBeWord 13 = .ok (.bipush (-3), 2) := by decide +kernel
theorem dX9_canBeWord_15 : decode cX9_canBeWord 15 = .ok (.ireturn, 1) := by decide +kernel
theorem dX9_canBeWord_16 : decode cX9_canBeWord 16 = .ok (.aload_n 0, 1) := by decide +kernel
theorem dX9_canBeWord_17 : decode cX9_canBeWord 17 = .ok (.getfield 72, 3) := by decide +kernel
theorem dX9_canBeWord_20 : decode cX9_canBeWord 20 = .ok (.getfield 297, 3) := by decide +kernel
theorem dX9_canBeWord_23 : decode cX9_canBeWord 23 = .ok (.ifCond .ne 6, 3) := by decide +kernel
theorem dX9_canBeWord_26 : decode cX9_canBeWord 26 = .ok (.bipush (-4), 2) := by decide +kernel
theorem dX9_canBeWord_28 : decode cX9_canBeWord 28 = .ok (.ireturn, 1) := by decide +kernel
theorem dX9_canBeWord_29 : decode cX9_canBeWord 29 = .ok (.aload_n 0, 1) := by decide +kernel
theorem dX9_canBeWord_30 : decode cX9_canBeWord 30 = .ok (.getfield 72, 3) := by decide +kernel
theorem dX9_canBeWord_33 : decode cX9_canBeWord 33 = .ok (.invokevirtual 303, 3) := by decide +kernel
theorem dX9_canBeWord_36 : decode cX9_canBeWord 36 = .ok (.iload_n 2, 1) := by decide +kernel
theorem dX9_canBeWord_37 : decode cX9_canBeWord 37 = .ok (.ifCond .ne 17, 3) := by decide +kernel
theorem dX9_canBeWord_40 : decode cX9_canBeWord 40 = .ok (.aload_n 0, 1) := by decide +kernel
theorem dX9_canBeWord_41 : decode cX9_canBeWord 41 = .ok (.getfield 72, 3) := by decide +kernel
theorem dX9_canBeWord_44 : decode cX9_canBeWord 44 = .ok (.getfield 310, 3) := by decide +kernel
theorem dX9_canBeWord_47 : decode cX9_canBeWord 47 = .ok (.iload_n 1, 1) := by decide +kernel
theorem dX9_canBeWord_48 : decode cX9_canBeWord 48 = .ok (.invokevirtual 176, 3) := by decide +kernel
theorem dX9_canBeWord_51 : decode cX9_canBeWord 51 = .ok (.goto 14, 3) := by decide +kernel
theorem dX9_canBeWord_54 : decode cX9_canBeWord 54 = .ok (.aload_n 0, 1) := by decide +kernel
theorem dX9_canBeWord_55 : decode cX9_canBeWord 55 = .ok (.getfield 72, 3) := by decide +kernel
theorem dX9_canBeWord_58 : decode cX9_canBeWord 58 = .ok (.getfield 311, 3) := by decide +kernel
theorem dX9_canBeWord_61 : decode cX9_canBeWord 61 = .ok (.iload_n 1, 1) := by decide +kernel
theorem dX9_canBeWord_62 : decode cX9_canBeWord 62 = .ok (.invokevirtual 176, 3) := by decide +kernel
theorem dX9_canBeWord_65 : decode cX9_canBeWord 65 = .ok (.ireturn, 1) := by decide +kernel
theorem dX9_count_0 : decode cX9_count 0 = .ok (.iload_n 1, 1) := by decide +kernel
theorem dX9_count_1 : decode cX9_count 1 = .ok (.tableswitch 144 0 10 #[59, 67, 75, 83, 91, 99, 107, 112, 120, 128, 136], 59) := by decide +kernel
theorem dX9_count_60 : decode cX9_count 60 = .ok (.aload_n 0, 1) := by decide +kernel
theorem dX9_count_61 : decode cX9_count 61 = .ok (.getfield 12, 3) := by decide +kernel
theorem dX9_count_64 : decode cX9_count 64 = .ok (.getfield 278, 3) := by decide +kernel
theorem dX9_count_67 : decode cX9_count 67 = .ok (.ireturn, 1) := by decide +kernel
theorem dX9_count_68 : decode cX9_count 68 = .ok (.aload_n 0, 1) := by decide +kernel
theorem dX9_count_69 : decode cX9_count 69 = .ok (.getfield 12, 3) := by decide +kernel
theorem dX9_count_72 : decode cX9_count 72 = .ok (.getfield 289, 3) := by decide +kernel
theorem dX9_count_75 : decode cX9_count 75 = .ok (.ireturn, 1) := by decide +kernel
theorem dX9_count_76 : decode cX9_count 76 = .ok (.aload_n 0, 1) := by decide +kernel
theorem dX9_count_77 : decode cX9_count 77 = .ok (.getfield 12, 3) := by decide +kernel
theorem dX9_count_80 : decode cX9_count 80 = .ok (.getfield 248, 3) := by decide +kernel
theorem dX9_count_83 : decode cX9_count 83 = .ok (.ireturn, 1) := by decide +kernel
theorem dX9_count_84 : decode cX9_count 84 = .ok (.aload_n 0, 1) := by decide +kernel
theorem dX9_count_85 : decode cX9_count 85 = .ok (.getfield 12, 3) := by decide +kernel
theorem dX9_count_88 : decode cX9_count 88 = .ok (.getfield 314, 3) := by decide +kernel
theorem dX9_count_91 : decode cX9_count 91 = .ok (.ireturn, 1) := by decide +kernel
theorem dX9_count_92 : decode cX9_count 92 = .ok (.aload_n 0, 1) := by decide +kernel
theorem dX9_count_93 : decode cX9_count 93 = .ok (.getfield 26, 3) := by decide +kernel
theorem dX9_count_96 : decode cX9_count 96 = .ok (.invokevirtual 317, 3) := by decide +kernel
theorem dX9_count_99 : decode cX9_count 99 = .ok (.ireturn, 1) := by decide +kernel
theorem dX9_count_100 : decode cX9_count 100 = .ok (.aload_n 0, 1) := by decide +kernel
theorem dX9_count_101 : decode cX9_count 101 = .ok (.getfield 26, 3) := by decide +kernel
theorem dX9_count_104 : decode cX9_count 104 = .ok (.invokevirtual 320, 3) := by decide +kernel
theorem dX9_count_107 : decode cX9_count 107 = .ok (.ireturn, 1) := by decide +kernel
theorem dX9_count_108 : decode cX9_count 108 = .ok (.aload_n 0, 1) := by decide +kernel
theorem dX9_count_109 : decode cX9_count 109 = .ok (.invokevirtual 323, 3) := by decide +kernel
theorem dX9_count_112 : decode cX9_count 112 = .ok (.ireturn, 1) := by decide +kernel
theorem dX9_count_113 : decode cX9_count 113 = .ok (.aload_n 0, 1) := by decide +kernel
theorem dX9_count_114 : decode cX9_count 114 = .ok (.getfield 33, 3) := by decide +kernel
theorem dX9_count_117 : decode cX9_count 117 = .ok (.getfield 174, 3) := by decide +kernel
theorem dX9_count_120 : decode cX9_count 120 = .ok (.ireturn, 1) := by decide +kernel
theorem dX9_count_121 : decode cX9_count 121 = .ok (.aload_n 0, 1) := by decide +kernel
theorem dX9_count_122 : decode cX9_count 122 = .ok (.getfield 72, 3) := by decide +kernel
theorem dX9_count_125 : decode cX9_count 125 = .ok (.getfield 298, 3) := by decide +kernel
theorem dX9_count_128 : decode cX9_count 128 = .ok (.ireturn, 1) := by decide +kernel
theorem dX9_count_129 : decode cX9_count 129 = .ok (.aload_n 0, 1) := by decide +kernel
theorem dX9_count_130 : decode cX9_count 130 = .ok (.getfield 26, 3) := by decide +kernel
theorem dX9_count_133 : decode cX9_count 133 = .ok (.getfield 217, 3) := by decide +kernel
theorem dX9_count_136 : decode cX9_count 136 = .ok (.ireturn, 1) := by decide +kernel
theorem dX9_count_137 : decode cX9_count 137 = .ok (.aload_n 0, 1) := by decide +kernel
theorem dX9_count_138 : decode cX9_count 138 = .ok (.getfield 19, 3) := by decide +kernel
theorem dX9_count_141 : decode cX9_count 141 = .ok (.getfield 80, 3) := by decide +kernel
theorem dX9_count_144 : decode cX9_count 144 = .ok (.ireturn, 1) := by decide +kernel
theorem dX9_count_145 : decode cX9_count 145 = .ok (.bipush (-3), 2) := by decide +kernel
theorem dX9_count_147 : decode cX9_count 147 = .ok (.ireturn, 1) := by decide +kernel
theorem dX9_areKnown_0 : decode cX9_areKnown 0 = .ok (.aload_n 0, 1) := by decide +kernel
theorem dX9_areKnown_1 : decode cX9_areKnown 1 = .ok (.getfield 12, 3) := by decide +kernel
theorem dX9_areKnown_4 : decode cX9_areKnown 4 = .ok (.iload_n 1, 1) := by decide +kernel
theorem dX9_areKnown_5 : decode cX9_areKnown 5 = .ok (.invokevirtual 130, 3) := by decide +kernel
theorem dX9_areKnown_8 : decode cX9_areKnown 8 = .ok (.ifCond .eq 18, 3) := by decide +kernel
theorem dX9_areKnown_11 : decode cX9_areKnown 11 = .ok (.aload_n 0, 1) := by decide +kernel
theorem dX9_areKnown_12 : decode cX9_areKnown 12 = .ok (.getfield 12, 3) := by decide +kernel
theorem dX9_areKnown_15 : decode cX9_areKnown 15 = .ok (.iload_n 2, 1) := by decide +kernel
theorem dX9_areKnown_16 : decode cX9_areKnown 16 = .ok (.invokevirtual 142, 3) := by decide +kernel
theorem dX9_areKnown_19 : decode cX9_areKnown 19 = .ok (.ifCond .eq 7, 3) := by decide +kernel
theorem dX9_areKnown_22 : decode cX9_areKnown 22 = .ok (.iconst 1, 1) := by decide +kernel
theorem dX9_areKnown_23 : decode cX9_areKnown 23 = .ok (.goto 4, 3) := by decide +kernel
theorem dX9_areKnown_26 : decode cX9_areKnown 26 = .ok (.iconst 0, 1) := by decide +kernel
theorem dX9_areKnown_27 : decode cX9_areKnown 27 = .ok (.ireturn, 1) := by decide +kernel
theorem dX9_fewestOrHowMany_0 : decode cX9_fewestOrHowMany 0 = .ok (.aload_n 0, 1) := by decide +kernel
theorem dX9_fewestOrHowMany_1 : decode cX9_fewestOrHowMany 1 = .ok (.getfield 51, 3) := by decide +kernel
theorem dX9_fewestOrHowMany_4 : decode cX9_fewestOrHowMany 4 = .ok (.invokevirtual 239, 3) := by decide +kernel
theorem dX9_fewestOrHowMany_7 : decode cX9_fewestOrHowMany 7 = .ok (.istore_n 2, 1) := by decide +kernel
theorem dX9_fewestOrHowMany_8 : decode cX9_fewestOrHowMany 8 = .ok (.iload_n 1, 1) := by decide +kernel
theorem dX9_fewestOrHowMany_9 : decode cX9_fewestOrHowMany 9 = .ok (.ifCond .eq 8, 3) := by decide +kernel
theorem dX9_fewestOrHowMany_12 : decode cX9_fewestOrHowMany 12 = .ok (.iload_n 2, 1) := by decide +kernel
theorem dX9_fewestOrHowMany_13 : decode cX9_fewestOrHowMany 13 = .ok (.iconst (-1), 1) := by decide +kernel
theorem dX9_fewestOrHowMany_14 : decode cX9_fewestOrHowMany 14 = .ok (.if_icmp .ne 5, 3) := by decide +kernel
theorem dX9_fewestOrHowMany_17 : decode cX9_fewestOrHowMany 17 = .ok (.iload_n 2, 1) := by decide +kernel
theorem dX9_fewestOrHowMany_18 : decode cX9_fewestOrHowMany 18 = .ok (.ireturn, 1) := by decide +kernel
theorem dX9_fewestOrHowMany_19 : decode cX9_fewestOrHowMany 19 = .ok (.aload_n 0, 1) := by decide +kernel
theorem dX9_fewestOrHowMany_20 : decode cX9_fewestOrHowMany 20 = .ok (.getfield 51, 3) := by decide +kernel
theorem dX9_fewestOrHowMany_23 : decode cX9_fewestOrHowMany 23 = .ok (.iload_n 2, 1) := by decide +kernel
theorem dX9_fewestOrHowMany_24 : decode cX9_fewestOrHowMany 24 = .ok (.invokevirtual 281, 3) := by decide +kernel
theorem dX9_fewestOrHowMany_27 : decode cX9_fewestOrHowMany 27 = .ok (.ireturn, 1) := by decide +kernel
theorem dX9_openWares_0 : decode cX9_openWares 0 = .ok (.iconst 0, 1) := by decide +kernel
theorem dX9_openWares_1 : decode cX9_openWares 1 = .ok (.istore_n 1, 1) := by decide +kernel
theorem dX9_openWares_2 : decode cX9_openWares 2 = .ok (.iconst 0, 1) := by decide +kernel
theorem dX9_openWares_3 : decode cX9_openWares 3 = .ok (.istore_n 2, 1) := by decide +kernel
theorem dX9_openWares_4 : decode cX9_openWares 4 = .ok (.iload_n 2, 1) := by decide +kernel
theorem dX9_openWares_5 : decode cX9_openWares 5 = .ok (.aload_n 0, 1) := by decide +kernel
theorem dX9_openWares_6 : decode cX9_openWares 6 = .ok (.getfield 12, 3) := by decide +kernel
theorem dX9_openWares_9 : decode cX9_openWares 9 = .ok (.getfield 289, 3) := by decide +kernel
theorem dX9_openWares_12 : decode cX9_openWares 12 = .ok (.if_icmp .ge 26, 3) := by decide +kernel
theorem dX9_openWares_15 : decode cX9_openWares 15 = .ok (.aload_n 0, 1) := by decide +kernel
theorem dX9_openWares_16 : decode cX9_openWares 16 = .ok (.getfield 26, 3) := by decide +kernel
theorem dX9_openWares_19 : decode cX9_openWares 19 = .ok (.iload_n 2, 1) := by decide +kernel
theorem dX9_openWares_20 : decode cX9_openWares 20 = .ok (.invokevirtual 139, 3) := by decide +kernel
theorem dX9_openWares_23 : decode cX9_openWares 23 = .ok (.ifCond .ne 9, 3) := by decide +kernel
theorem dX9_openWares_26 : decode cX9_openWares 26 = .ok (.iload_n 1, 1) := by decide +kernel
theorem dX9_openWares_27 : decode cX9_openWares 27 = .ok (.iconst 1, 1) := by decide +kernel
theorem dX9_openWares_28 : decode cX9_openWares 28 = .ok (.iload_n 2, 1) := by decide +kernel
theorem dX9_openWares_29 : decode cX9_openWares 29 = .ok (.ishl, 1) := by decide +kernel
theorem dX9_openWares_30 : decode cX9_openWares 30 = .ok (.ior, 1) := by decide +kernel
theorem dX9_openWares_31 : decode cX9_openWares 31 = .ok (.istore_n 1, 1) := by decide +kernel
theorem dX9_openWares_32 : decode cX9_openWares 32 = .ok (.iinc 2 1, 3) := by decide +kernel
theorem dX9_openWares_35 : decode cX9_openWares 35 = .ok (.goto (-31), 3) := by decide +kernel
theorem dX9_openWares_38 : decode cX9_openWares 38 = .ok (.iload_n 1, 1) := by decide +kernel
theorem dX9_openWares_39 : decode cX9_openWares 39 = .ok (.ireturn, 1) := by decide +kernel
theorem dX9_waresThatRhymesAllow_0 : decode cX9_waresThatRhymesAllow 0 = .ok (.iconst 0, 1) := by decide +kernel
theorem dX9_waresThatRhymesAllow_1 : decode cX9_waresThatRhymesAllow 1 = .ok (.istore_n 1, 1) := by decide +kernel
theorem dX9_waresThatRhymesAllow_2 : decode cX9_waresThatRhymesAllow 2 = .ok (.iconst 0, 1) := by decide +kernel
theorem dX9_waresThatRhymesAllow_3 : decode cX9_waresThatRhymesAllow 3 = .ok (.istore_n 2, 1) := by decide +kernel
theorem dX9_waresThatRhymesAllow_4 : decode cX9_waresThatRhymesAllow 4 = .ok (.iload_n 2, 1) := by decide +kernel
theorem dX9_waresThatRhymesAllow_5 : decode cX9_waresThatRhymesAllow 5 = .ok (.bipush 6, 2) := by decide +kernel
theorem dX9_waresThatRhymesAllow_7 : decode cX9_waresThatRhymesAllow 7 = .ok (.if_icmp .ge 101, 3) := by decide +kernel
theorem dX9_waresThatRhymesAllow_10 : decode cX9_waresThatRhymesAllow 10 = .ok (.iconst 0, 1) := by decide +kernel
theorem dX9_waresThatRhymesAllow_11 : decode cX9_waresThatRhymesAllow 11 = .ok (.istore_n 3, 1) := by decide +kernel
theorem dX9_waresThatRhymesAllow_12 : decode cX9_waresThatRhymesAllow 12 = .ok (.iconst 0, 1) := by decide +kernel
theorem dX9_waresThatRhymesAllow_13 : decode cX9_waresThatRhymesAllow 13 = .ok (.istore 4, 2) := by decide +kernel
theorem dX9_waresThatRhymesAllow_15 : decode cX9_waresThatRhymesAllow 15 = .ok (.iload 4, 2) := by decide +kernel
theorem dX9_waresThatRhymesAllow_17 : decode cX9_waresThatRhymesAllow 17 = .ok (.aload_n 0, 1) := by decide +kernel
theorem dX9_waresThatRhymesAllow_18 : decode cX9_waresThatRhymesAllow 18 = .ok (.getfield 12, 3) := by decide +kernel
theorem dX9_waresThatRhymesAllow_21 : decode cX9_waresThatRhymesAllow 21 = .ok (.getfield 289, 3) := by decide +kernel
theorem dX9_waresThatRhymesAllow_24 : decode cX9_waresThatRhymesAllow 24 = .ok (.if_icmp .ge 47, 3) := by decide +kernel
theorem dX9_waresThatRhymesAllow_27 : decode cX9_waresThatRhymesAllow 27 = .ok (.aload_n 0, 1) := by decide +kernel
theorem dX9_waresThatRhymesAllow_28 : decode cX9_waresThatRhymesAllow 28 = .ok (.getfield 26, 3) := by decide +kernel
theorem dX9_waresThatRhymesAllow_31 : decode cX9_waresThatRhymesAllow 31 = .ok (.iload 4, 2) := by decide +kernel
theorem dX9_waresThatRhymesAllow_33 : decode cX9_waresThatRhymesAllow 33 = .ok (.invokevirtual 139, 3) := by decide +kernel
theorem dX9_waresThatRhymesAllow_36 : decode cX9_waresThatRhymesAllow 36 = .ok (.ifCond .ne 29, 3) := by decide +kernel
theorem dX9_waresThatRhymesAllow_39 : decode cX9_waresThatRhymesAllow 39 = .ok (.aload_n 0, 1) := by decide +kernel
theorem dX9_waresThatRhymesAllow_40 : decode cX9_waresThatRhymesAllow 40 = .ok (.getfield 12, 3) := by decide +kernel
theorem dX9_waresThatRhymesAllow_43 : decode cX9_waresThatRhymesAllow 43 = .ok (.aload_n 0, 1) := by decide +kernel
theorem dX9_waresThatRhymesAllow_44 : decode cX9_waresThatRhymesAllow 44 = .ok (.getfield 12, 3) := by decide +kernel
theorem dX9_waresThatRhymesAllow_47 : decode cX9_waresThatRhymesAllow 47 = .ok (.getfield 136, 3) := by decide +kernel
theorem dX9_waresThatRhymesAllow_50 : decode cX9_waresThatRhymesAllow 50 = .ok (.iload 4, 2) := by decide +kernel
theorem dX9_waresThatRhymesAllow_52 : decode cX9_waresThatRhymesAllow 52 = .ok (.invokestatic 117, 3) := by decide +kernel
theorem dX9_waresThatRhymesAllow_55 : decode cX9_waresThatRhymesAllow 55 = .ok (.invokevirtual 326, 3) := by decide +kernel
theorem dX9_waresThatRhymesAllow_58 : decode cX9_waresThatRhymesAllow 58 = .ok (.iload_n 2, 1) := by decide +kernel
theorem dX9_waresThatRhymesAllow_59 : decode cX9_waresThatRhymesAllow 59 = .ok (.if_icmp .ne 6, 3) := by decide +kernel
theorem dX9_waresThatRhymesAllow_62 : decode cX9_waresThatRhymesAllow 62 = .ok (.iinc 3 1, 3) := by decide +kernel
theorem dX9_waresThatRhymesAllow_65 : decode cX9_waresThatRhymesAllow 65 = .ok (.iinc 4 1, 3) := by decide +kernel
theorem dX9_waresThatRhymesAllow_68 : decode cX9_waresThatRhymesAllow 68 = .ok (.goto (-53), 3) := by decide +kernel
theorem dX9_waresThatRhymesAllow_71 : decode cX9_waresThatRhymesAllow 71 = .ok (.iload_n 1, 1) := by decide +kernel
theorem dX9_waresThatRhymesAllow_72 : decode cX9_waresThatRhymesAllow 72 = .ok (.iload_n 3, 1) := by decide +kernel
theorem dX9_waresThatRhymesAllow_73 : decode cX9_waresThatRhymesAllow 73 = .ok (.iconst 0, 1) := by decide +kernel
theorem dX9_waresThatRhymesAllow_74 : decode cX9_waresThatRhymesAllow 74 = .ok (.aload_n 0, 1) := by decide +kernel
theorem dX9_waresThatRhymesAllow_75 : decode cX9_waresThatRhymesAllow 75 = .ok (.getfield 12, 3) := by decide +kernel
theorem dX9_waresThatRhymesAllow_78 : decode cX9_waresThatRhymesAllow 78 = .ok (.getfield 151, 3) := by decide +kernel
theorem dX9_waresThatRhymesAllow_81 : decode cX9_waresThatRhymesAllow 81 = .ok (.iload_n 2, 1) := by decide +kernel
theorem dX9_waresThatRhymesAllow_82 : decode cX9_waresThatRhymesAllow 82 = .ok (.invokestatic 117, 3) := by decide +kernel
theorem dX9_waresThatRhymesAllow_85 : decode cX9_waresThatRhymesAllow 85 = .ok (.aload_n 0, 1) := by decide +kernel
theorem dX9_waresThatRhymesAllow_86 : decode cX9_waresThatRhymesAllow 86 = .ok (.getfield 26, 3) := by decide +kernel
theorem dX9_waresThatRhymesAllow_89 : decode cX9_waresThatRhymesAllow 89 = .ok (.iload_n 2, 1) := by decide +kernel
theorem dX9_waresThatRhymesAllow_90 : decode cX9_waresThatRhymesAllow 90 = .ok (.invokevirtual 148, 3) := by decide +kernel
theorem dX9_waresThatRhymesAllow_93 : decode cX9_waresThatRhymesAllow 93 = .ok (.isub, 1) := by decide +kernel
theorem dX9_waresThatRhymesAllow_94 : decode cX9_waresThatRhymesAllow 94 = .ok (.invokestatic 329, 3) := by decide +kernel
theorem dX9_waresThatRhymesAllow_97 : decode cX9_waresThatRhymesAllow 97 = .ok (.invokestatic 334, 3) := by decide +kernel
theorem dX9_waresThatRhymesAllow_100 : decode cX9_waresThatRhymesAllow 100 = .ok (.iadd, 1) := by decide +kernel
theorem dX9_waresThatRhymesAllow_101 : decode cX9_waresThatRhymesAllow 101 = .ok (.istore_n 1, 1) := by decide +kernel
theorem dX9_waresThatRhymesAllow_102 : decode cX9_waresThatRhymesAllow 102 = .ok (.iinc 2 1, 3) := by decide +kernel
theorem dX9_waresThatRhymesAllow_105 : decode cX9_waresThatRhymesAllow 105 = .ok (.goto (-101), 3) := by decide +kernel
theorem dX9_waresThatRhymesAllow_108 : decode cX9_waresThatRhymesAllow 108 = .ok (.iload_n 1, 1) := by decide +kernel
theorem dX9_waresThatRhymesAllow_109 : decode cX9_waresThatRhymesAllow 109 = .ok (.ireturn, 1) := by decide +kernel
theorem dX9_portsWornOut_0 : decode cX9_portsWornOut 0 = .ok (.iconst 0, 1) := by decide +kernel
theorem dX9_portsWornOut_1 : decode cX9_portsWornOut 1 = .ok (.istore_n 1, 1) := by decide +kernel
theorem dX9_portsWornOut_2 : decode cX9_portsWornOut 2 = .ok (.iconst 0, 1) := by decide +kernel
theorem dX9_portsWornOut_3 : decode cX9_portsWornOut 3 = .ok (.istore_n 2, 1) := by decide +kernel
theorem dX9_portsWornOut_4 : decode cX9_portsWornOut 4 = .ok (.iload_n 2, 1) := by decide +kernel
theorem dX9_portsWornOut_5 : decode cX9_portsWornOut 5 = .ok (.iconst 4, 1) := by decide +kernel
theorem dX9_portsWornOut_6 : decode cX9_portsWornOut 6 = .ok (.if_icmp .ge 43, 3) := by decide +kernel
theorem dX9_portsWornOut_9 : decode cX9_portsWornOut 9 = .ok (.aload_n 0, 1) := by decide +kernel
theorem dX9_portsWornOut_10 : decode cX9_portsWornOut 10 = .ok (.getfield 12, 3) := by decide +kernel
theorem dX9_portsWornOut_13 : decode cX9_portsWornOut 13 = .ok (.iload_n 2, 1) := by decide +kernel
theorem dX9_portsWornOut_14 : decode cX9_portsWornOut 14 = .ok (.invokevirtual 326, 3) := by decide +kernel
theorem dX9_portsWornOut_17 : decode cX9_portsWornOut 17 = .ok (.istore_n 3, 1) := by decide +kernel
theorem dX9_portsWornOut_18 : decode cX9_portsWornOut 18 = .ok (.aload_n 0, 1) := by decide +kernel
theorem dX9_portsWornOut_19 : decode cX9_portsWornOut 19 = .ok (.getfield 12, 3) := by decide +kernel
theorem dX9_portsWornOut_22 : decode cX9_portsWornOut 22 = .ok (.iload_n 3, 1) := by decide +kernel
theorem dX9_portsWornOut_23 : decode cX9_portsWornOut 23 = .ok (.aload_n 0, 1) := by decide +kernel
theorem dX9_portsWornOut_24 : decode cX9_portsWornOut 24 = .ok (.getfield 26, 3) := by decide +kernel
theorem dX9_portsWornOut_27 : decode cX9_portsWornOut 27 = .ok (.iload_n 3, 1) := by decide +kernel
theorem dX9_portsWornOut_28 : decode cX9_portsWornOut 28 = .ok (.invokevirtual 148, 3) := by decide +kernel
theorem dX9_portsWornOut_31 : decode cX9_portsWornOut 31 = .ok (.invokevirtual 203, 3) := by decide +kernel
theorem dX9_portsWornOut_34 : decode cX9_portsWornOut 34 = .ok (.ifCond .eq 9, 3) := by decide +kernel
theorem dX9_portsWornOut_37 : decode cX9_portsWornOut 37 = .ok (.iload_n 1, 1) := by decide +kernel
theorem dX9_portsWornOut_38 : decode cX9_portsWornOut 38 = .ok (.iconst 1, 1) := by decide +kernel
theorem dX9_portsWornOut_39 : decode cX9_portsWornOut 39 = .ok (.iload_n 2, 1) := by decide +kernel
theorem dX9_portsWornOut_40 : decode cX9_portsWornOut 40 = .ok (.ishl, 1) := by decide +kernel
theorem dX9_portsWornOut_41 : decode cX9_portsWornOut 41 = .ok (.ior, 1) := by decide +kernel
theorem dX9_portsWornOut_42 : decode cX9_portsWornOut 42 = .ok (.istore_n 1, 1) := by decide +kernel
theorem dX9_portsWornOut_43 : decode cX9_portsWornOut 43 = .ok (.iinc 2 1, 3) := by decide +kernel
theorem dX9_portsWornOut_46 : decode cX9_portsWornOut 46 = .ok (.goto (-42), 3) := by decide +kernel
theorem dX9_portsWornOut_49 : decode cX9_portsWornOut 49 = .ok (.iload_n 1, 1) := by decide +kernel
theorem dX9_portsWornOut_50 : decode cX9_portsWornOut 50 = .ok (.ireturn, 1) := by decide +kernel
theorem dX9_paidInYear_0 : decode cX9_paidInYear 0 = .ok (.aload_n 0, 1) := by decide +kernel
theorem dX9_paidInYear_1 : decode cX9_paidInYear 1 = .ok (.getfield 12, 3) := by decide +kernel
theorem dX9_paidInYear_4 : decode cX9_paidInYear 4 = .ok (.getfield 133, 3) := by decide +kernel
theorem dX9_paidInYear_7 : decode cX9_paidInYear 7 = .ok (.iload_n 1, 1) := by decide +kernel
theorem dX9_paidInYear_8 : decode cX9_paidInYear 8 = .ok (.invokestatic 117, 3) := by decide +kernel
theorem dX9_paidInYear_11 : decode cX9_paidInYear 11 = .ok (.istore_n 2, 1) := by decide +kernel
theorem dX9_paidInYear_12 : decode cX9_paidInYear 12 = .ok (.aload_n 0, 1) := by decide +kernel
theorem dX9_paidInYear_13 : decode cX9_paidInYear 13 = .ok (.getfield 42, 3) := by decide +kernel
theorem dX9_paidInYear_16 : decode cX9_paidInYear 16 = .ok (.iload_n 1, 1) := by decide +kernel
theorem dX9_paidInYear_17 : decode cX9_paidInYear 17 = .ok (.iconst 0, 1) := by decide +kernel
theorem dX9_paidInYear_18 : decode cX9_paidInYear 18 = .ok (.invokevirtual 232, 3) := by decide +kernel
theorem dX9_paidInYear_21 : decode cX9_paidInYear 21 = .ok (.aload_n 0, 1) := by decide +kernel
theorem dX9_paidInYear_22 : decode cX9_paidInYear 22 = .ok (.getfield 51, 3) := by decide +kernel
theorem dX9_paidInYear_25 : decode cX9_paidInYear 25 = .ok (.aload_n 0, 1) := by decide +kernel
theorem dX9_paidInYear_26 : decode cX9_paidInYear 26 = .ok (.getfield 51, 3) := by decide +kernel
theorem dX9_paidInYear_29 : decode cX9_paidInYear 29 = .ok (.invokevirtual 239, 3) := by decide +kernel
theorem dX9_paidInYear_32 : decode cX9_paidInYear 32 = .ok (.invokevirtual 242, 3) := by decide +kernel
theorem dX9_paidInYear_35 : decode cX9_paidInYear 35 = .ok (.aload_n 0, 1) := by decide +kernel
theorem dX9_paidInYear_36 : decode cX9_paidInYear 36 = .ok (.getfield 51, 3) := by decide +kernel
theorem dX9_paidInYear_39 : decode cX9_paidInYear 39 = .ok (.getfield 245, 3) := by decide +kernel
theorem dX9_paidInYear_42 : decode cX9_paidInYear 42 = .ok (.getfield 174, 3) := by decide +kernel
theorem dX9_paidInYear_45 : decode cX9_paidInYear 45 = .ok (.ifCond .ne 7, 3) := by decide +kernel
theorem dX9_paidInYear_48 : decode cX9_paidInYear 48 = .ok (.iconst 3, 1) := by decide +kernel
theorem dX9_paidInYear_49 : decode cX9_paidInYear 49 = .ok (.iload_n 2, 1) := by decide +kernel
theorem dX9_paidInYear_50 : decode cX9_paidInYear 50 = .ok (.imul, 1) := by decide +kernel
theorem dX9_paidInYear_51 : decode cX9_paidInYear 51 = .ok (.ireturn, 1) := by decide +kernel
theorem dX9_paidInYear_52 : decode cX9_paidInYear 52 = .ok (.aload_n 0, 1) := by decide +kernel
theorem dX9_paidInYear_53 : decode cX9_paidInYear 53 = .ok (.getfield 12, 3) := by decide +kernel
theorem dX9_paidInYear_56 : decode cX9_paidInYear 56 = .ok (.aload_n 0, 1) := by decide +kernel
theorem dX9_paidInYear_57 : decode cX9_paidInYear 57 = .ok (.getfield 51, 3) := by decide +kernel
theorem dX9_paidInYear_60 : decode cX9_paidInYear 60 = .ok (.getfield 245, 3) := by decide +kernel
theorem dX9_paidInYear_63 : decode cX9_paidInYear 63 = .ok (.invokevirtual 197, 3) := by decide +kernel
theorem dX9_paidInYear_66 : decode cX9_paidInYear 66 = .ok (.invokevirtual 200, 3) := by decide +kernel
theorem dX9_paidInYear_69 : decode cX9_paidInYear 69 = .ok (.istore_n 3, 1) := by decide +kernel
theorem dX9_paidInYear_70 : decode cX9_paidInYear 70 = .ok (.aload_n 0, 1) := by decide +kernel
theorem dX9_paidInYear_71 : decode cX9_paidInYear 71 = .ok (.getfield 12, 3) := by decide +kernel
theorem dX9_paidInYear_74 : decode cX9_paidInYear 74 = .ok (.iload_n 3, 1) := by decide +kernel
theorem dX9_paidInYear_75 : decode cX9_paidInYear 75 = .ok (.aload_n 0, 1) := by decide +kernel
theorem dX9_paidInYear_76 : decode cX9_paidInYear 76 = .ok (.getfield 76, 3) := by decide +kernel
theorem dX9_paidInYear_79 : decode cX9_paidInYear 79 = .ok (.iload_n 3, 1) := by decide +kernel
theorem dX9_paidInYear_80 : decode cX9_paidInYear 80 = .ok (.invokestatic 117, 3) := by decide +kernel
theorem dX9_paidInYear_83 : decode cX9_paidInYear 83 = .ok (.invokevirtual 203, 3) := by decide +kernel
theorem dX9_paidInYear_86 : decode cX9_paidInYear 86 = .ok (.ifCond .eq 7, 3) := by decide +kernel
theorem dX9_paidInYear_89 : decode cX9_paidInYear 89 = .ok (.iconst 3, 1) := by decide +kernel
theorem dX9_paidInYear_90 : decode cX9_paidInYear 90 = .ok (.iload_n 2, 1) := by decide +kernel
theorem dX9_paidInYear_91 : decode cX9_paidInYear 91 = .ok (.imul, 1) := by decide +kernel
theorem dX9_paidInYear_92 : decode cX9_paidInYear 92 = .ok (.ireturn, 1) := by decide +kernel
theorem dX9_paidInYear_93 : decode cX9_paidInYear 93 = .ok (.iload_n 3, 1) := by decide +kernel
theorem dX9_paidInYear_94 : decode cX9_paidInYear 94 = .ok (.ifCond .lt 19, 3) := by decide +kernel
theorem dX9_paidInYear_97 : decode cX9_paidInYear 97 = .ok (.iload_n 3, 1) := by decide +kernel
theorem dX9_paidInYear_98 : decode cX9_paidInYear 98 = .ok (.bipush 6, 2) := by decide +kernel
theorem dX9_paidInYear_100 : decode cX9_paidInYear 100 = .ok (.if_icmp .ge 13, 3) := by decide +kernel
theorem dX9_paidInYear_103 : decode cX9_paidInYear 103 = .ok (.aload_n 0, 1) := by decide +kernel
theorem dX9_paidInYear_104 : decode cX9_paidInYear 104 = .ok (.getfield 76, 3) := by decide +kernel
theorem dX9_paidInYear_107 : decode cX9_paidInYear 107 = .ok (.iload_n 3, 1) := by decide +kernel
theorem dX9_paidInYear_108 : decode cX9_paidInYear 108 = .ok (.dup2, 1) := by decide +kernel
theorem dX9_paidInYear_109 : decode cX9_paidInYear 109 = .ok (.iaload, 1) := by decide +kernel
theorem dX9_paidInYear_110 : decode cX9_paidInYear 110 = .ok (.iconst 1, 1) := by decide +kernel
theorem dX9_paidInYear_111 : decode cX9_paidInYear 111 = .ok (.iadd, 1) := by decide +kernel
theorem dX9_paidInYear_112 : decode cX9_paidInYear 112 = .ok (.iastore, 1) := by decide +kernel
theorem dX9_paidInYear_113 : decode cX9_paidInYear 113 = .ok (.iload_n 2, 1) := by decide +kernel
theorem dX9_paidInYear_114 : decode cX9_paidInYear 114 = .ok (.ireturn, 1) := by decide +kernel
theorem dX9_commonDivisor_0 : decode cX9_commonDivisor 0 = .ok (.iconst 0, 1) := by decide +kernel
theorem dX9_commonDivisor_1 : decode cX9_commonDivisor 1 = .ok (.istore_n 2, 1) := by decide +kernel
theorem dX9_commonDivisor_2 : decode cX9_commonDivisor 2 = .ok (.iload_n 2, 1) := by decide +kernel
theorem dX9_commonDivisor_3 : decode cX9_commonDivisor 3 = .ok (.bipush 100, 2) := by decide +kernel
theorem dX9_commonDivisor_5 : decode cX9_commonDivisor 5 = .ok (.if_icmp .ge 21, 3) := by decide +kernel
theorem dX9_commonDivisor_8 : decode cX9_commonDivisor 8 = .ok (.iload_n 1, 1) := by decide +kernel
theorem dX9_commonDivisor_9 : decode cX9_commonDivisor 9 = .ok (.ifCond .eq 17, 3) := by decide +kernel
theorem dX9_commonDivisor_12 : decode cX9_commonDivisor 12 = .ok (.iload_n 0, 1) := by decide +kernel
theorem dX9_commonDivisor_13 : decode cX9_commonDivisor 13 = .ok (.iload_n 1, 1) := by decide +kernel
theorem dX9_commonDivisor_14 : decode cX9_commonDivisor 14 = .ok (.irem, 1) := by decide +kernel
theorem dX9_commonDivisor_15 : decode cX9_commonDivisor 15 = .ok (.istore_n 3, 1) := by decide +kernel
theorem dX9_commonDivisor_16 : decode cX9_commonDivisor 16 = .ok (.iload_n 1, 1) := by decide +kernel
theorem dX9_commonDivisor_17 : decode cX9_commonDivisor 17 = .ok (.istore_n 0, 1) := by decide +kernel
theorem dX9_commonDivisor_18 : decode cX9_commonDivisor 18 = .ok (.iload_n 3, 1) := by decide +kernel
theorem dX9_commonDivisor_19 : decode cX9_commonDivisor 19 = .ok (.istore_n 1, 1) := by decide +kernel
theorem dX9_commonDivisor_20 : decode cX9_commonDivisor 20 = .ok (.iinc 2 1, 3) := by decide +kernel
theorem dX9_commonDivisor_23 : decode cX9_commonDivisor 23 = .ok (.goto (-21), 3) := by decide +kernel
theorem dX9_commonDivisor_26 : decode cX9_commonDivisor 26 = .ok (.iload_n 0, 1) := by decide +kernel
theorem dX9_commonDivisor_27 : decode cX9_commonDivisor 27 = .ok (.ireturn, 1) := by decide +kernel
theorem dX9_hasBit_0 : decode cX9_hasBit 0 = .ok (.iload_n 0, 1) := by decide +kernel
theorem dX9_hasBit_1 : decode cX9_hasBit 1 = .ok (.iload_n 1, 1) := by decide +kernel
theorem dX9_hasBit_2 : decode cX9_hasBit 2 = .ok (.ishr, 1) := by decide +kernel
theorem dX9_hasBit_3 : decode cX9_hasBit 3 = .ok (.iconst 1, 1) := by decide +kernel
theorem dX9_hasBit_4 : decode cX9_hasBit 4 = .ok (.iand, 1) := by decide +kernel
theorem dX9_hasBit_5 : decode cX9_hasBit 5 = .ok (.iconst 1, 1) := by decide +kernel
theorem dX9_hasBit_6 : decode cX9_hasBit 6 = .ok (.if_icmp .ne 7, 3) := by decide +kernel
theorem dX9_hasBit_9 : decode cX9_hasBit 9 = .ok (.iconst 1, 1) := by decide +kernel
theorem dX9_hasBit_10 : decode cX9_hasBit 10 = .ok (.goto 4, 3) := by decide +kernel
theorem dX9_hasBit_13 : decode cX9_hasBit 13 = .ok (.iconst 0, 1) := by decide +kernel
theorem dX9_hasBit_14 : decode cX9_hasBit 14 = .ok (.ireturn, 1) := by decide +kernel
theorem dX9_at_0 : decode cX9_at 0 = .ok (.iload_n 1, 1) := by decide +kernel
theorem dX9_at_1 : decode cX9_at 1 = .ok (.ifCond .lt 15, 3) := by decide +kernel
theorem dX9_at_4 : decode cX9_at 4 = .ok (.iload_n 1, 1) := by decide +kernel
theorem dX9_at_5 : decode cX9_at 5 = .ok (.aload_n 0, 1) := by decide +kernel
theorem dX9_at_6 : decode cX9_at 6 = .ok (.arraylength, 1) := by decide +kernel
theorem dX9_at_7 : decode cX9_at 7 = .ok (.if_icmp .ge 9, 3) := by decide +kernel
theorem dX9_at_10 : decode cX9_at 10 = .ok (.aload_n 0, 1) := by decide +kernel
theorem dX9_at_11 : decode cX9_at 11 = .ok (.iload_n 1, 1) := by decide +kernel
theorem dX9_at_12 : decode cX9_at 12 = .ok (.iaload, 1) := by decide +kernel
theorem dX9_at_13 : decode cX9_at 13 = .ok (.goto 4, 3) := by decide +kernel
theorem dX9_at_16 : decode cX9_at 16 = .ok (.iconst 0, 1) := by decide +kernel
theorem dX9_at_17 : decode cX9_at 17 = .ok (.ireturn, 1) := by decide +kernel
theorem dX10_in_0 : decode cX10_in 0 = .ok (.lload_n 0, 1) := by decide +kernel
theorem dX10_in_1 : decode cX10_in 1 = .ok (.lload_n 2, 1) := by decide +kernel
theorem dX10_in_2 : decode cX10_in 2 = .ok (.lcmp, 1) := by decide +kernel
theorem dX10_in_3 : decode cX10_in 3 = .ok (.ifCond .lt 14, 3) := by decide +kernel
theorem dX10_in_6 : decode cX10_in 6 = .ok (.lload_n 0, 1) := by decide +kernel
theorem dX10_in_7 : decode cX10_in 7 = .ok (.lload 4, 2) := by decide +kernel
theorem dX10_in_9 : decode cX10_in 9 = .ok (.lcmp, 1) := by decide +kernel
theorem dX10_in_10 : decode cX10_in 10 = .ok (.ifCond .gt 7, 3) := by decide +kernel
theorem dX10_in_13 : decode cX10_in 13 = .ok (.iconst 1, 1) := by decide +kernel
theorem dX10_in_14 : decode cX10_in 14 = .ok (.goto 4, 3) := by decide +kernel
theorem dX10_in_17 : decode cX10_in 17 = .ok (.iconst 0, 1) := by decide +kernel
theorem dX10_in_18 : decode cX10_in 18 = .ok (.ireturn, 1) := by decide +kernel
theorem dX10_init_0 : decode cX10_init 0 = .ok (.aload_n 0, 1) := by decide +kernel
theorem dX10_init_1 : decode cX10_init 1 = .ok (.invokespecial 1, 3) := by decide +kernel
theorem dX10_init_4 : decode cX10_init 4 = .ok (.aload_n 0, 1) := by decide +kernel
theorem dX10_init_5 : decode cX10_init 5 = .ok (.bipush 98, 2) := by decide +kernel
theorem dX10_init_7 : decode cX10_init 7 = .ok (.newarray .int, 2) := by decide +kernel
theorem dX10_init_9 : decode cX10_init 9 = .ok (.putfield 7, 3) := by decide +kernel
theorem dX10_init_12 : decode cX10_init 12 = .ok (.aload_n 0, 1) := by decide +kernel
theorem dX10_init_13 : decode cX10_init 13 = .ok (.sipush 784, 3) := by decide +kernel
theorem dX10_init_16 : decode cX10_init 16 = .ok (.newarray .int, 2) := by decide +kernel
theorem dX10_init_18 : decode cX10_init 18 = .ok (.putfield 13, 3) := by decide +kernel
theorem dX10_init_21 : decode cX10_init 21 = .ok (.aload_n 0, 1) := by decide +kernel
theorem dX10_init_22 : decode cX10_init 22 = .ok (.sipush 196, 3) := by decide +kernel
theorem dX10_init_25 : decode cX10_init 25 = .ok (.newarray .int, 2) := by decide +kernel
theorem dX10_init_27 : decode cX10_init 27 = .ok (.putfield 16, 3) := by decide +kernel
theorem dX10_init_30 : decode cX10_init 30 = .ok (.aload_n 0, 1) := by decide +kernel
theorem dX10_init_31 : decode cX10_init 31 = .ok (.iconst 2, 1) := by decide +kernel
theorem dX10_init_32 : decode cX10_init 32 = .ok (.newarray .boolean, 2) := by decide +kernel
theorem dX10_init_34 : decode cX10_init 34 = .ok (.putfield 19, 3) := by decide +kernel
theorem dX10_init_37 : decode cX10_init 37 = .ok (.aload_n 0, 1) := by decide +kernel
theorem dX10_init_38 : decode cX10_init 38 = .ok (.bipush 6, 2) := by decide +kernel
theorem dX10_init_40 : decode cX10_init 40 = .ok (.newarray .int, 2) := by decide +kernel
theorem dX10_init_42 : decode cX10_init 42 = .ok (.putfield 23, 3) := by decide +kernel
theorem dX10_init_45 : decode cX10_init 45 = .ok (.aload_n 0, 1) := by decide +kernel
theorem dX10_init_46 : decode cX10_init 46 = .ok (.bipush 12, 2) := by decide +kernel
theorem dX10_init_48 : decode cX10_init 48 = .ok (.newarray .int, 2) := by decide +kernel
theorem dX10_init_50 : decode cX10_init 50 = .ok (.putfield 26, 3) := by decide +kernel
theorem dX10_init_53 : decode cX10_init 53 = .ok (.aload_n 0, 1) := by decide +kernel
theorem dX10_init_54 : decode cX10_init 54 = .ok (.sipush 160, 3) := by decide +kernel
theorem dX10_init_57 : decode cX10_init 57 = .ok (.newarray .int, 2) := by decide +kernel
theorem dX10_init_59 : decode cX10_init 59 = .ok (.putfield 29, 3) := by decide +kernel
theorem dX10_init_62 : decode cX10_init 62 = .ok (.aload_n 0, 1) := by decide +kernel
theorem dX10_init_63 : decode cX10_init 63 = .ok (.bipush 56, 2) := by decide +kernel
theorem dX10_init_65 : decode cX10_init 65 = .ok (.newarray .int, 2) := by decide +kernel
theorem dX10_init_67 : decode cX10_init 67 = .ok (.putfield 32, 3) := by decide +kernel
theorem dX10_init_70 : decode cX10_init 70 = .ok (.aload_n 0, 1) := by decide +kernel
theorem dX10_init_71 : decode cX10_init 71 = .ok (.bipush 6, 2) := by decide +kernel
theorem dX10_init_73 : decode cX10_init 73 = .ok (.newarray .int, 2) := by decide +kernel
theorem dX10_init_75 : decode cX10_init 75 = .ok (.putfield 35, 3) := by decide +kernel
theorem dX10_init_78 : decode cX10_init 78 = .ok (.aload_n 0, 1) := by decide +kernel
theorem dX10_init_79 : decode cX10_init 79 = .ok (.bipush 6, 2) := by decide +kernel
theorem dX10_init_81 : decode cX10_init 81 = .ok (.newarray .int, 2) := by decide +kernel
theorem dX10_init_83 : decode cX10_init 83 = .ok (.putfield 38, 3) := by decide +kernel
theorem dX10_init_86 : decode cX10_init 86 = .ok (.aload_n 0, 1) := by decide +kernel
theorem dX10_init_87 : decode cX10_init 87 = .ok (.bipush 6, 2) := by decide +kernel
theorem dX10_init_89 : decode cX10_init 89 = .ok (.newarray .int, 2) := by decide +kernel
theorem dX10_init_91 : decode cX10_init 91 = .ok (.putfield 41, 3) := by decide +kernel
theorem dX10_init_94 : decode cX10_init 94 = .ok (.aload_n 0, 1) := by decide +kernel
theorem dX10_init_95 : decode cX10_init 95 = .ok (.iconst 3, 1) := by decide +kernel
theorem dX10_init_96 : decode cX10_init 96 = .ok (.newarray .int, 2) := by decide +kernel
theorem dX10_init_98 : decode cX10_init 98 = .ok (.putfield 44, 3) := by decide +kernel
theorem dX10_init_101 : decode cX10_init 101 = .ok (.aload_n 0, 1) := by decide +kernel
theorem dX10_init_102 : decode cX10_init 102 = .ok (.invokevirtual 47, 3) := by decide +kernel
theorem dX10_init_105 : decode cX10_init 105 = .ok (.return_, 1) := by decide +kernel
theorem dX10_empties_0 : decode cX10_empties 0 = .ok (.iconst 0, 1) := by decide +kernel
theorem dX10_empties_1 : decode cX10_empties 1 = .ok (.istore_n 1, 1) := by decide +kernel
theorem dX10_empties_2 : decode cX10_empties 2 = .ok (.iload_n 1, 1) := by decide +kernel
theorem dX10_empties_3 : decode cX10_empties 3 = .ok (.bipush 98, 2) := by decide +kernel
theorem dX10_empties_5 : decode cX10_empties 5 = .ok (.if_icmp .ge 34, 3) := by decide +kernel
theorem dX10_empties_8 : decode cX10_empties 8 = .ok (.aload_n 0, 1) := by decide +kernel
theorem dX10_empties_9 : decode cX10_empties 9 = .ok (.getfield 7, 3) := by decide +kernel
theorem dX10_empties_12 : decode cX10_empties 12 = .ok (.iload_n 1, 1) := by decide +kernel
theorem dX10_empties_13 : decode cX10_empties 13 = .ok (.iload_n 1, 1) := by decide +kernel
theorem dX10_empties_14 : decode cX10_empties 14 = .ok (.i2l, 1) := by decide +kernel
theorem dX10_empties_15 : decode cX10_empties 15 = .ok (.ldc2_w 50, 3) := by decide +kernel
theorem dX10_empties_18 : decode cX10_empties 18 = .ok (.ldc2_w 52, 3) := by decide +kernel
theorem dX10_empties_21 : decode cX10_empties 21 = .ok (.invokestatic 54, 3) := by decide +kernel
theorem dX10_empties_24 : decode cX10_empties 24 = .ok (.ifCond .eq 7, 3) := by decide +kernel
theorem dX10_empties_27 : decode cX10_empties 27 = .ok (.iconst 3, 1) := by decide +kernel
theorem dX10_empties_28 : decode cX10_empties 28 = .ok (.goto 4, 3) := by decide +kernel
theorem dX10_empties_31 : decode cX10_empties 31 = .ok (.iconst 0, 1) := by decide +kernel
theorem dX10_empties_32 : decode cX10_empties 32 = .ok (.iastore, 1) := by decide +kernel
theorem dX10_empties_33 : decode cX10_empties 33 = .ok (.iinc 1 1, 3) := by decide +kernel
theorem dX10_empties_36 : decode cX10_empties 36 = .ok (.goto (-34), 3) := by decide +kernel
theorem dX10_empties_39 : decode cX10_empties 39 = .ok (.return_, 1) := by decide +kernel
theorem dX10_isWord_0 : decode cX10_isWord 0 = .ok (.iload_n 1, 1) := by decide +kernel
theorem dX10_isWord_1 : decode cX10_isWord 1 = .ok (.i2l, 1) := by decide +kernel
theorem dX10_isWord_2 : decode cX10_isWord 2 = .ok (.lconst 0, 1) := by decide +kernel
theorem dX10_isWord_3 : decode cX10_isWord 3 = .ok (.aload_n 0, 1) := by decide +kernel
theorem dX10_isWord_4 : decode cX10_isWord 4 = .ok (.getfield 7, 3) := by decide +kernel
theorem dX10_isWord_7 : decode cX10_isWord 7 = .ok (.iconst 0, 1) := by decide +kernel
theorem dX10_isWord_8 : decode cX10_isWord 8 = .ok (.iaload, 1) := by decide +kernel
theorem dX10_isWord_9 : decode cX10_isWord 9 = .ok (.iconst 1, 1) := by decide +kernel
theorem dX10_isWord_10 : decode cX10_isWord 10 = .ok (.isub, 1) := by decide +kernel
theorem dX10_isWord_11 : decode cX10_isWord 11 = .ok (.i2l, 1) := by decide +kernel
theorem dX10_isWord_12 : decode cX10_isWord 12 = .ok (.invokestatic 54, 3) := by decide +kernel
theorem dX10_isWord_15 : decode cX10_isWord 15 = .ok (.ireturn, 1) := by decide +kernel
theorem dX10_isWare_0 : decode cX10_isWare 0 = .ok (.iload_n 1, 1) := by decide +kernel
theorem dX10_isWare_1 : decode cX10_isWare 1 = .ok (.i2l, 1) := by decide +kernel
theorem dX10_isWare_2 : decode cX10_isWare 2 = .ok (.lconst 0, 1) := by decide +kernel
theorem dX10_isWare_3 : decode cX10_isWare 3 = .ok (.aload_n 0, 1) := by decide +kernel
theorem dX10_isWare_4 : decode cX10_isWare 4 = .ok (.getfield 7, 3) := by decide +kernel
theorem dX10_isWare_7 : decode cX10_isWare 7 = .ok (.iconst 1, 1) := by decide +kernel
theorem dX10_isWare_8 : decode cX10_isWare 8 = .ok (.iaload, 1) := by decide +kernel
theorem dX10_isWare_9 : decode cX10_isWare 9 = .ok (.iconst 1, 1) := by decide +kernel
theorem dX10_isWare_10 : decode cX10_isWare 10 = .ok (.isub, 1) := by decide +kernel
theorem dX10_isWare_11 : decode cX10_isWare 11 = .ok (.i2l, 1) := by decide +kernel
theorem dX10_isWare_12 : decode cX10_isWare 12 = .ok (.invokestatic 54, 3) := by decide +kernel
theorem dX10_isWare_15 : decode cX10_isWare 15 = .ok (.ireturn, 1) := by decide +kernel
theorem dX10_isClerk_0 : decode cX10_isClerk 0 = .ok (.iload_n 1, 1) := by decide +kernel
theorem dX10_isClerk_1 : decode cX10_isClerk 1 = .ok (.i2l, 1) := by decide +kernel
theorem dX10_isClerk_2 : decode cX10_isClerk 2 = .ok (.lconst 0, 1) := by decide +kernel
theorem dX10_isClerk_3 : decode cX10_isClerk 3 = .ok (.aload_n 0, 1) := by decide +kernel
theorem dX10_isClerk_4 : decode cX10_isClerk 4 = .ok (.getfield 7, 3) := by decide +kernel
theorem dX10_isClerk_7 : decode cX10_isClerk 7 = .ok (.iconst 2, 1) := by decide +kernel
theorem dX10_isClerk_8 : decode cX10_isClerk 8 = .ok (.iaload, 1) := by decide +kernel
theorem dX10_isClerk_9 : decode cX10_isClerk 9 = .ok (.iconst 1, 1) := by decide +kernel
theorem dX10_isClerk_10 : decode cX10_isClerk 10 = .ok (.isub, 1) := by decide +kernel
theorem dX10_isClerk_11 : decode cX10_isClerk 11 = .ok (.i2l, 1) := by decide +kernel
theorem dX10_isClerk_12 : decode cX10_isClerk 12 = .ok (.invokestatic 54, 3) := by decide +kernel
theorem dX10_isClerk_15 : decode cX10_isClerk 15 = .ok (.ireturn, 1) := by decide +kernel
theorem dX10_areBoth_0 : decode cX10_areBoth 0 = .ok (.aload_n 0, 1) := by decide +kernel
theorem dX10_areBoth_1 : decode cX10_areBoth 1 = .ok (.iload_n 1, 1) := by decide +kernel
theorem dX10_areBoth_2 : decode cX10_areBoth 2 = .ok (.invokevirtual 58, 3) := by decide +kernel
theorem dX10_areBoth_5 : decode cX10_areBoth 5 = .ok (.ifCond .eq 15, 3) := by decide +kernel
theorem dX10_areBoth_8 : decode cX10_areBoth 8 = .ok (.aload_n 0, 1) := by decide +kernel
theorem dX10_areBoth_9 : decode cX10_areBoth 9 = .ok (.iload_n 2, 1) := by decide +kernel
theorem dX10_areBoth_10 : decode cX10_areBoth 10 = .ok (.invokevirtual 62, 3) := by decide +kernel
theorem dX10_areBoth_13 : decode cX10_areBoth 13 = .ok (.ifCond .eq 7, 3) := by decide +kernel
theorem dX10_areBoth_16 : decode cX10_areBoth 16 = .ok (.iconst 1, 1) := by decide +kernel
theorem dX10_areBoth_17 : decode cX10_areBoth 17 = .ok (.goto 4, 3) := by decide +kernel
theorem dX10_areBoth_20 : decode cX10_areBoth 20 = .ok (.iconst 0, 1) := by decide +kernel
theorem dX10_areBoth_21 : decode cX10_areBoth 21 = .ok (.ireturn, 1) := by decide +kernel
theorem dX10_write_0 : decode cX10_write 0 = .ok (.iload_n 1, 1) := by decide +kernel
theorem dX10_write_1 : decode cX10_write 1 = .ok (.i2l, 1) := by decide +kernel
theorem dX10_write_2 : decode cX10_write 2 = .ok (.lconst 0, 1) := by decide +kernel
theorem dX10_write_3 : decode cX10_write 3 = .ok (.ldc2_w 65, 3) := by decide +kernel
theorem dX10_write_6 : decode cX10_write 6 = .ok (.invokestatic 54, 3) := by decide +kernel
theorem dX10_write_9 : decode cX10_write 9 = .ok (.ifCond .ne 6, 3) := by decide +kernel
theorem dX10_write_12 : decode cX10_write 12 = .ok (.bipush (-3), 2) := by decide +kernel
theorem dX10_write_14 : decode cX10_write 14 = .ok (.ireturn, 1) := by decide +kernel
theorem dX10_write_15 : decode cX10_write 15 = .ok (.aload_n 0, 1) := by decide +kernel
theorem dX10_write_16 : decode cX10_write 16 = .ok (.getfield 67, 3) := by decide +kernel
theorem dX10_write_19 : decode cX10_write 19 = .ok (.sipush 160, 3) := by decide +kernel
theorem dX10_write_22 : decode cX10_write 22 = .ok (.if_icmp .ne 6, 3) := by decide +kernel
theorem dX10_write_25 : decode cX10_write 25 = .ok (.bipush (-5), 2) := by decide +kernel
theorem dX10_write_27 : decode cX10_write 27 = .ok (.ireturn, 1) := by decide +kernel
theorem dX10_write_28 : decode cX10_write 28 = .ok (.aload_n 0, 1) := by decide +kernel
theorem dX10_write_29 : decode cX10_write 29 = .ok (.getfield 29, 3) := by decide +kernel
theorem dX10_write_32 : decode cX10_write 32 = .ok (.aload_n 0, 1) := by decide +kernel
theorem dX10_write_33 : decode cX10_write 33 = .ok (.getfield 67, 3) := by decide +kernel
theorem dX10_write_36 : decode cX10_write 36 = .ok (.iload_n 1, 1) := by decide +kernel
theorem dX10_write_37 : decode cX10_write 37 = .ok (.iastore, 1) := by decide +kernel
theorem dX10_write_38 : decode cX10_write 38 = .ok (.aload_n 0, 1) := by decide +kernel
theorem dX10_write_39 : decode cX10_write 39 = .ok (.dup, 1) := by decide +kernel
theorem dX10_write_40 : decode cX10_write 40 = .ok (.getfield 67, 3) := by decide +kernel
theorem dX10_write_43 : decode cX10_write 43 = .ok (.iconst 1, 1) := by decide +kernel
theorem dX10_write_44 : decode cX10_write 44 = .ok (.iadd, 1) := by decide +kernel
theorem dX10_write_45 : decode cX10_write 45 = .ok (.putfield 67, 3) := by decide +kernel
theorem dX10_write_48 : decode cX10_write 48 = .ok (.aload_n 0, 1) := by decide +kernel
theorem dX10_write_49 : decode cX10_write 49 = .ok (.getfield 67, 3) := by decide +kernel
theorem dX10_write_52 : decode cX10_write 52 = .ok (.ireturn, 1) := by decide +kernel
end
section
theorem dX10_erase_0 : decode cX10_erase 0 = .ok (.aload_n 0, 1) := by decide +kernel
theorem dX10_erase_1 : decode cX10_erase 1 = .ok (.getfield 67, 3) := by decide +kernel
theorem dX10_erase_4 : decode cX10_erase 4 = .ok (.istore_n 1, 1) := by decide +kernel
theorem dX10_erase_5 : decode cX10_erase 5 = .ok (.aload_n 0, 1) := by decide +kernel
theorem dX10_erase_6 : decode cX10_erase 6 = .ok (.iconst 0, 1) := by decide +kernel
theorem dX10_erase_7 : decode cX10_erase 7 = .ok (.putfield 67, 3) := by decide +kernel
theorem dX10_erase_10 : decode cX10_erase 10 = .ok (.iload_n 1, 1) := by decide +kernel
theorem dX10_erase_11 : decode cX10_erase 11 = .ok (.ireturn, 1) := by decide +kernel
theorem dX10_isAt_0 : decode cX10_isAt 0 = .ok (.aload_n 0, 1) := by decide +kernel
theorem dX10_isAt_1 : decode cX10_isAt 1 = .ok (.getfield 71, 3) := by decide +kernel
theorem dX10_isAt_4 : decode cX10_isAt 4 = .ok (.aload_n 0, 1) := by decide +kernel
theorem dX10_isAt_5 : decode cX10_isAt 5 = .ok (.getfield 67, 3) := by decide +kernel
theorem dX10_isAt_8 : decode cX10_isAt 8 = .ok (.if_icmp .ge 27, 3) := by decide +kernel
theorem dX10_isAt_11 : decode cX10_isAt 11 = .ok (.aload_n 0, 1) := by decide +kernel
theorem dX10_isAt_12 : decode cX10_isAt 12 = .ok (.getfield 29, 3) := by decide +kernel
theorem dX10_isAt_15 : decode cX10_isAt 15 = .ok (.aload_n 0, 1) := by decide +kernel
theorem dX10_isAt_16 : decode cX10_isAt 16 = .ok (.getfield 71, 3) := by decide +kernel
theorem dX10_isAt_19 : decode cX10_isAt 19 = .ok (.iaload, 1) := by decide +kernel
theorem dX10_isAt_20 : decode cX10_isAt 20 = .ok (.i2l, 1) := by decide +kernel
theorem dX10_isAt_21 : decode cX10_isAt 21 = .ok (.iload_n 1, 1) := by decide +kernel
theorem dX10_isAt_22 : decode cX10_isAt 22 = .ok (.i2l, 1) := by decide +kernel
theorem dX10_isAt_23 : decode cX10_isAt 23 = .ok (.iload_n 2, 1) := by decide +kernel
theorem dX10_isAt_24 : decode cX10_isAt 24 = .ok (.i2l, 1) := by decide +kernel
theorem dX10_isAt_25 : decode cX10_isAt 25 = .ok (.invokestatic 54, 3) := by decide +kernel
theorem dX10_isAt_28 : decode cX10_isAt 28 = .ok (.ifCond .eq 7, 3) := by decide +kernel
theorem dX10_isAt_31 : decode cX10_isAt 31 = .ok (.iconst 1, 1) := by decide +kernel
theorem dX10_isAt_32 : decode cX10_isAt 32 = .ok (.goto 4, 3) := by decide +kernel
theorem dX10_isAt_35 : decode cX10_isAt 35 = .ok (.iconst 0, 1) := by decide +kernel
theorem dX10_isAt_36 : decode cX10_isAt 36 = .ok (.ireturn, 1) := by decide +kernel
theorem dX10_verbOf_0 : decode cX10_verbOf 0 = .ok (.lload_n 0, 1) := by decide +kernel
theorem dX10_verbOf_1 : decode cX10_verbOf 1 = .ok (.ldc2_w 74, 3) := by decide +kernel
theorem dX10_verbOf_4 : decode cX10_verbOf 4 = .ok (.lcmp, 1) := by decide +kernel
theorem dX10_verbOf_5 : decode cX10_verbOf 5 = .ok (.ifCond .ne 7, 3) := by decide +kernel
theorem dX10_verbOf_8 : decode cX10_verbOf 8 = .ok (.iconst 0, 1) := by decide +kernel
theorem dX10_verbOf_9 : decode cX10_verbOf 9 = .ok (.goto 52, 3) := by decide +kernel
theorem dX10_verbOf_12 : decode cX10_verbOf 12 = .ok (.lload_n 0, 1) := by decide +kernel
theorem dX10_verbOf_13 : decode cX10_verbOf 13 = .ok (.ldc2_w 76, 3) := by decide +kernel
theorem dX10_verbOf_16 : decode cX10_verbOf 16 = .ok (.lcmp, 1) := by decide +kernel
theorem dX10_verbOf_17 : decode cX10_verbOf 17 = .ok (.ifCond .ne 7, 3) := by decide +kernel
theorem dX10_verbOf_20 : decode cX10_verbOf 20 = .ok (.iconst 1, 1) := by decide +kernel
theorem dX10_verbOf_21 : decode cX10_verbOf 21 = .ok (.goto 40, 3) := by decide +kernel
theorem dX10_verbOf_24 : decode cX10_verbOf 24 = .ok (.lload_n 0, 1) := by decide +kernel
theorem dX10_verbOf_25 : decode cX10_verbOf 25 = .ok (.ldc2_w 78, 3) := by decide +kernel
theorem dX10_verbOf_28 : decode cX10_verbOf 28 = .ok (.lcmp, 1) := by decide +kernel
theorem dX10_verbOf_29 : decode cX10_verbOf 29 = .ok (.ifCond .ne 7, 3) := by decide +kernel
theorem dX10_verbOf_32 : decode cX10_verbOf 32 = .ok (.iconst 2, 1) := by decide +kernel
theorem dX10_verbOf_33 : decode cX10_verbOf 33 = .ok (.goto 28, 3) := by decide +kernel
theorem dX10_verbOf_36 : decode cX10_verbOf 36 = .ok (.lload_n 0, 1) := by decide +kernel
theorem dX10_verbOf_37 : decode cX10_verbOf 37 = .ok (.ldc2_w 80, 3) := by decide +kernel
theorem dX10_verbOf_40 : decode cX10_verbOf 40 = .ok (.lcmp, 1) := by decide +kernel
theorem dX10_verbOf_41 : decode cX10_verbOf 41 = .ok (.ifCond .ne 7, 3) := by decide +kernel
theorem dX10_verbOf_44 : decode cX10_verbOf 44 = .ok (.iconst 3, 1) := by decide +kernel
theorem dX10_verbOf_45 : decode cX10_verbOf 45 = .ok (.goto 16, 3) := by decide +kernel
theorem dX10_verbOf_48 : decode cX10_verbOf 48 = .ok (.lload_n 0, 1) := by decide +kernel
theorem dX10_verbOf_49 : decode cX10_verbOf 49 = .ok (.ldc2_w 82, 3) := by decide +kernel
theorem dX10_verbOf_52 : decode cX10_verbOf 52 = .ok (.lcmp, 1) := by decide +kernel
theorem dX10_verbOf_53 : decode cX10_verbOf 53 = .ok (.ifCond .ne 7, 3) := by decide +kernel
theorem dX10_verbOf_56 : decode cX10_verbOf 56 = .ok (.iconst 4, 1) := by decide +kernel
theorem dX10_verbOf_57 : decode cX10_verbOf 57 = .ok (.goto 4, 3) := by decide +kernel
theorem dX10_verbOf_60 : decode cX10_verbOf 60 = .ok (.iconst (-1), 1) := by decide +kernel
theorem dX10_verbOf_61 : decode cX10_verbOf 61 = .ok (.istore_n 2, 1) := by decide +kernel
theorem dX10_verbOf_62 : decode cX10_verbOf 62 = .ok (.lload_n 0, 1) := by decide +kernel
theorem dX10_verbOf_63 : decode cX10_verbOf 63 = .ok (.ldc2_w 84, 3) := by decide +kernel
theorem dX10_verbOf_66 : decode cX10_verbOf 66 = .ok (.lcmp, 1) := by decide +kernel
theorem dX10_verbOf_67 : decode cX10_verbOf 67 = .ok (.ifCond .ne 7, 3) := by decide +kernel
theorem dX10_verbOf_70 : decode cX10_verbOf 70 = .ok (.iconst 5, 1) := by decide +kernel
theorem dX10_verbOf_71 : decode cX10_verbOf 71 = .ok (.goto 56, 3) := by decide +kernel
theorem dX10_verbOf_74 : decode cX10_verbOf 74 = .ok (.lload_n 0, 1) := by decide +kernel
theorem dX10_verbOf_75 : decode cX10_verbOf 75 = .ok (.ldc2_w 86, 3) := by decide +kernel
theorem dX10_verbOf_78 : decode cX10_verbOf 78 = .ok (.lcmp, 1) := by decide +kernel
theorem dX10_verbOf_79 : decode cX10_verbOf 79 = .ok (.ifCond .ne 8, 3) := by decide +kernel
theorem dX10_verbOf_82 : decode cX10_verbOf 82 = .ok (.bipush 6, 2) := by decide +kernel
theorem dX10_verbOf_84 : decode cX10_verbOf 84 = .ok (.goto 43, 3) := by decide +kernel
theorem dX10_verbOf_87 : decode cX10_verbOf 87 = .ok (.lload_n 0, 1) := by decide +kernel
theorem dX10_verbOf_88 : decode cX10_verbOf 88 = .ok (.ldc2_w 88, 3) := by decide +kernel
theorem dX10_verbOf_91 : decode cX10_verbOf 91 = .ok (.lcmp, 1) := by decide +kernel
theorem dX10_verbOf_92 : decode cX10_verbOf 92 = .ok (.ifCond .ne 8, 3) := by decide +kernel
theorem dX10_verbOf_95 : decode cX10_verbOf 95 = .ok (.bipush 7, 2) := by decide +kernel
theorem dX10_verbOf_97 : decode cX10_verbOf 97 = .ok (.goto 30, 3) := by decide +kernel
theorem dX10_verbOf_100 : decode cX10_verbOf 100 = .ok (.lload_n 0, 1) := by decide +kernel
theorem dX10_verbOf_101 : decode cX10_verbOf 101 = .ok (.ldc2_w 90, 3) := by decide +kernel
theorem dX10_verbOf_104 : decode cX10_verbOf 104 = .ok (.lcmp, 1) := by decide +kernel
theorem dX10_verbOf_105 : decode cX10_verbOf 105 = .ok (.ifCond .ne 8, 3) := by decide +kernel
theorem dX10_verbOf_108 : decode cX10_verbOf 108 = .ok (.bipush 8, 2) := by decide +kernel
theorem dX10_verbOf_110 : decode cX10_verbOf 110 = .ok (.goto 17, 3) := by decide +kernel
theorem dX10_verbOf_113 : decode cX10_verbOf 113 = .ok (.lload_n 0, 1) := by decide +kernel
theorem dX10_verbOf_114 : decode cX10_verbOf 114 = .ok (.ldc2_w 92, 3) := by decide +kernel
theorem dX10_verbOf_117 : decode cX10_verbOf 117 = .ok (.lcmp, 1) := by decide +kernel
theorem dX10_verbOf_118 : decode cX10_verbOf 118 = .ok (.ifCond .ne 8, 3) := by decide +kernel
theorem dX10_verbOf_121 : decode cX10_verbOf 121 = .ok (.bipush 9, 2) := by decide +kernel
theorem dX10_verbOf_123 : decode cX10_verbOf 123 = .ok (.goto 4, 3) := by decide +kernel
theorem dX10_verbOf_126 : decode cX10_verbOf 126 = .ok (.iconst (-1), 1) := by decide +kernel
theorem dX10_verbOf_127 : decode cX10_verbOf 127 = .ok (.istore_n 3, 1) := by decide +kernel
theorem dX10_verbOf_128 : decode cX10_verbOf 128 = .ok (.lload_n 0, 1) := by decide +kernel
theorem dX10_verbOf_129 : decode cX10_verbOf 129 = .ok (.ldc2_w 94, 3) := by decide +kernel
theorem dX10_verbOf_132 : decode cX10_verbOf 132 = .ok (.lcmp, 1) := by decide +kernel
theorem dX10_verbOf_133 : decode cX10_verbOf 133 = .ok (.ifCond .ne 8, 3) := by decide +kernel
theorem dX10_verbOf_136 : decode cX10_verbOf 136 = .ok (.bipush 10, 2) := by decide +kernel
theorem dX10_verbOf_138 : decode cX10_verbOf 138 = .ok (.goto 43, 3) := by decide +kernel
theorem dX10_verbOf_141 : decode cX10_verbOf 141 = .ok (.lload_n 0, 1) := by decide +kernel
theorem dX10_verbOf_142 : decode cX10_verbOf 142 = .ok (.ldc2_w 96, 3) := by decide +kernel
theorem dX10_verbOf_145 : decode cX10_verbOf 145 = .ok (.lcmp, 1) := by decide +kernel
theorem dX10_verbOf_146 : decode cX10_verbOf 146 = .ok (.ifCond .ne 8, 3) := by decide +kernel
theorem dX10_verbOf_149 : decode cX10_verbOf 149 = .ok (.bipush 11, 2) := by decide +kernel
theorem dX10_verbOf_151 : decode cX10_verbOf 151 = .ok (.goto 30, 3) := by decide +kernel
theorem dX10_verbOf_154 : decode cX10_verbOf 154 = .ok (.lload_n 0, 1) := by decide +kernel
theorem dX10_verbOf_155 : decode cX10_verbOf 155 = .ok (.ldc2_w 98, 3) := by decide +kernel
theorem dX10_verbOf_158 : decode cX10_verbOf 158 = .ok (.lcmp, 1) := by decide +kernel
theorem dX10_verbOf_159 : decode cX10_verbOf 159 = .ok (.ifCond .ne 8, 3) := by decide +kernel
theorem dX10_verbOf_162 : decode cX10_verbOf 162 = .ok (.bipush 12, 2) := by decide +kernel
theorem dX10_verbOf_164 : decode cX10_verbOf 164 = .ok (.goto 17, 3) := by decide +kernel
theorem dX10_verbOf_167 : decode cX10_verbOf 167 = .ok (.lload_n 0, 1) := by decide +kernel
theorem dX10_verbOf_168 : decode cX10_verbOf 168 = .ok (.ldc2_w 100, 3) := by decide +kernel
theorem dX10_verbOf_171 : decode cX10_verbOf 171 = .ok (.lcmp, 1) := by decide +kernel
theorem dX10_verbOf_172 : decode cX10_verbOf 172 = .ok (.ifCond .ne 8, 3) := by decide +kernel
theorem dX10_verbOf_175 : decode cX10_verbOf 175 = .ok (.bipush 13, 2) := by decide +kernel
theorem dX10_verbOf_177 : decode cX10_verbOf 177 = .ok (.goto 4, 3) := by decide +kernel
theorem dX10_verbOf_180 : decode cX10_verbOf 180 = .ok (.iconst (-1), 1) := by decide +kernel
theorem dX10_verbOf_181 : decode cX10_verbOf 181 = .ok (.istore 4, 2) := by decide +kernel
theorem dX10_verbOf_183 : decode cX10_verbOf 183 = .ok (.iload_n 2, 1) := by decide +kernel
theorem dX10_verbOf_184 : decode cX10_verbOf 184 = .ok (.iconst (-1), 1) := by decide +kernel
theorem dX10_verbOf_185 : decode cX10_verbOf 185 = .ok (.if_icmp .eq 7, 3) := by decide +kernel
theorem dX10_verbOf_188 : decode cX10_verbOf 188 = .ok (.iload_n 2, 1) := by decide +kernel
theorem dX10_verbOf_189 : decode cX10_verbOf 189 = .ok (.goto 14, 3) := by decide +kernel
theorem dX10_verbOf_192 : decode cX10_verbOf 192 = .ok (.iload_n 3, 1) := by decide +kernel
theorem dX10_verbOf_193 : decode cX10_verbOf 193 = .ok (.iconst (-1), 1) := by decide +kernel
theorem dX10_verbOf_194 : decode cX10_verbOf 194 = .ok (.if_icmp .eq 7, 3) := by decide +kernel
theorem dX10_verbOf_197 : decode cX10_verbOf 197 = .ok (.iload_n 3, 1) := by decide +kernel
theorem dX10_verbOf_198 : decode cX10_verbOf 198 = .ok (.goto 5, 3) := by decide +kernel
theorem dX10_verbOf_201 : decode cX10_verbOf 201 = .ok (.iload 4, 2) := by decide +kernel
theorem dX10_verbOf_203 : decode cX10_verbOf 203 = .ok (.ireturn, 1) := by decide +kernel
theorem dX10_looks_0 : decode cX10_looks 0 = .ok (.aload_n 0, 1) := by decide +kernel
theorem dX10_looks_1 : decode cX10_looks 1 = .ok (.bipush 32, 2) := by decide +kernel
theorem dX10_looks_3 : decode cX10_looks 3 = .ok (.bipush 32, 2) := by decide +kernel
theorem dX10_looks_5 : decode cX10_looks 5 = .ok (.invokevirtual 102, 3) := by decide +kernel
theorem dX10_looks_8 : decode cX10_looks 8 = .ok (.ifCond .eq 16, 3) := by decide +kernel
theorem dX10_looks_11 : decode cX10_looks 11 = .ok (.aload_n 0, 1) := by decide +kernel
theorem dX10_looks_12 : decode cX10_looks 12 = .ok (.dup, 1) := by decide +kernel
theorem dX10_looks_13 : decode cX10_looks 13 = .ok (.getfield 71, 3) := by decide +kernel
theorem dX10_looks_16 : decode cX10_looks 16 = .ok (.iconst 1, 1) := by decide +kernel
theorem dX10_looks_17 : decode cX10_looks 17 = .ok (.iadd, 1) := by decide +kernel
theorem dX10_looks_18 : decode cX10_looks 18 = .ok (.putfield 71, 3) := by decide +kernel
theorem dX10_looks_21 : decode cX10_looks 21 = .ok (.goto (-21), 3) := by decide +kernel
theorem dX10_looks_24 : decode cX10_looks 24 = .ok (.aload_n 0, 1) := by decide +kernel
theorem dX10_looks_25 : decode cX10_looks 25 = .ok (.aload_n 0, 1) := by decide +kernel
theorem dX10_looks_26 : decode cX10_looks 26 = .ok (.getfield 71, 3) := by decide +kernel
theorem dX10_looks_29 : decode cX10_looks 29 = .ok (.putfield 106, 3) := by decide +kernel
theorem dX10_looks_32 : decode cX10_looks 32 = .ok (.aload_n 0, 1) := by decide +kernel
theorem dX10_looks_33 : decode cX10_looks 33 = .ok (.getfield 71, 3) := by decide +kernel
theorem dX10_looks_36 : decode cX10_looks 36 = .ok (.aload_n 0, 1) := by decide +kernel
theorem dX10_looks_37 : decode cX10_looks 37 = .ok (.getfield 67, 3) := by decide +kernel
theorem dX10_looks_40 : decode cX10_looks 40 = .ok (.if_icmp .ne 9, 3) := by decide +kernel
theorem dX10_looks_43 : decode cX10_looks 43 = .ok (.aload_n 0, 1) := by decide +kernel
theorem dX10_looks_44 : decode cX10_looks 44 = .ok (.iconst 0, 1) := by decide +kernel
theorem dX10_looks_45 : decode cX10_looks 45 = .ok (.putfield 109, 3) := by decide +kernel
theorem dX10_looks_48 : decode cX10_looks 48 = .ok (.return_, 1) := by decide +kernel
theorem dX10_looks_49 : decode cX10_looks 49 = .ok (.aload_n 0, 1) := by decide +kernel
theorem dX10_looks_50 : decode cX10_looks 50 = .ok (.bipush 97, 2) := by decide +kernel
theorem dX10_looks_52 : decode cX10_looks 52 = .ok (.bipush 122, 2) := by decide +kernel
theorem dX10_looks_54 : decode cX10_looks 54 = .ok (.invokevirtual 102, 3) := by decide +kernel
theorem dX10_looks_57 : decode cX10_looks 57 = .ok (.ifCond .eq 107, 3) := by decide +kernel
theorem dX10_looks_60 : decode cX10_looks 60 = .ok (.lconst 0, 1) := by decide +kernel
theorem dX10_looks_61 : decode cX10_looks 61 = .ok (.lstore_n 1, 1) := by decide +kernel
theorem dX10_looks_62 : decode cX10_looks 62 = .ok (.aload_n 0, 1) := by decide +kernel
theorem dX10_looks_63 : decode cX10_looks 63 = .ok (.bipush 97, 2) := by decide +kernel
theorem dX10_looks_65 : decode cX10_looks 65 = .ok (.bipush 122, 2) := by decide +kernel
theorem dX10_looks_67 : decode cX10_looks 67 = .ok (.invokevirtual 102, 3) := by decide +kernel
theorem dX10_looks_70 : decode cX10_looks 70 = .ok (.ifCond .eq 57, 3) := by decide +kernel
theorem dX10_looks_73 : decode cX10_looks 73 = .ok (.aload_n 0, 1) := by decide +kernel
theorem dX10_looks_74 : decode cX10_looks 74 = .ok (.getfield 71, 3) := by decide +kernel
theorem dX10_looks_77 : decode cX10_looks 77 = .ok (.aload_n 0, 1) := by decide +kernel
theorem dX10_looks_78 : decode cX10_looks 78 = .ok (.getfield 106, 3) := by decide +kernel
theorem dX10_looks_81 : decode cX10_looks 81 = .ok (.isub, 1) := by decide +kernel
theorem dX10_looks_82 : decode cX10_looks 82 = .ok (.bipush 7, 2) := by decide +kernel
theorem dX10_looks_84 : decode cX10_looks 84 = .ok (.if_icmp .le 7, 3) := by decide +kernel
theorem dX10_looks_87 : decode cX10_looks 87 = .ok (.lconst 0, 1) := by decide +kernel
theorem dX10_looks_88 : decode cX10_looks 88 = .ok (.goto 25, 3) := by decide +kernel
theorem dX10_looks_91 : decode cX10_looks 91 = .ok (.ldc2_w 112, 3) := by decide +kernel
theorem dX10_looks_94 : decode cX10_looks 94 = .ok (.lload_n 1, 1) := by decide +kernel
theorem dX10_looks_95 : decode cX10_looks 95 = .ok (.lmul, 1) := by decide +kernel
theorem dX10_looks_96 : decode cX10_looks 96 = .ok (.aload_n 0, 1) := by decide +kernel
theorem dX10_looks_97 : decode cX10_looks 97 = .ok (.getfield 29, 3) := by decide +kernel
theorem dX10_looks_100 : decode cX10_looks 100 = .ok (.aload_n 0, 1) := by decide +kernel
theorem dX10_looks_101 : decode cX10_looks 101 = .ok (.getfield 71, 3) := by decide +kernel
theorem dX10_looks_104 : decode cX10_looks 104 = .ok (.iaload, 1) := by decide +kernel
theorem dX10_looks_105 : decode cX10_looks 105 = .ok (.i2l, 1) := by decide +kernel
theorem dX10_looks_106 : decode cX10_looks 106 = .ok (.ladd, 1) := by decide +kernel
theorem dX10_looks_107 : decode cX10_looks 107 = .ok (.ldc2_w 114, 3) := by decide +kernel
theorem dX10_looks_110 : decode cX10_looks 110 = .ok (.lsub, 1) := by decide +kernel
theorem dX10_looks_111 : decode cX10_looks 111 = .ok (.lconst 1, 1) := by decide +kernel
theorem dX10_looks_112 : decode cX10_looks 112 = .ok (.ladd, 1) := by decide +kernel
theorem dX10_looks_113 : decode cX10_looks 113 = .ok (.lstore_n 1, 1) := by decide +kernel
theorem dX10_looks_114 : decode cX10_looks 114 = .ok (.aload_n 0, 1) := by decide +kernel
theorem dX10_looks_115 : decode cX10_looks 115 = .ok (.dup, 1) := by decide +kernel
theorem dX10_looks_116 : decode cX10_looks 116 = .ok (.getfield 71, 3) := by decide +kernel
theorem dX10_looks_119 : decode cX10_looks 119 = .ok (.iconst 1, 1) := by decide +kernel
theorem dX10_looks_120 : decode cX10_looks 120 = .ok (.iadd, 1) := by decide +kernel
theorem dX10_looks_121 : decode cX10_looks 121 = .ok (.putfield 71, 3) := by decide +kernel
theorem dX10_looks_124 : decode cX10_looks 124 = .ok (.goto (-62), 3) := by decide +kernel
theorem dX10_looks_127 : decode cX10_looks 127 = .ok (.aload_n 0, 1) := by decide +kernel
theorem dX10_looks_128 : decode cX10_looks 128 = .ok (.aload_n 0, 1) := by decide +kernel
theorem dX10_looks_129 : decode cX10_looks 129 = .ok (.getfield 71, 3) := by decide +kernel
theorem dX10_looks_132 : decode cX10_looks 132 = .ok (.aload_n 0, 1) := by decide +kernel
theorem dX10_looks_133 : decode cX10_looks 133 = .ok (.getfield 106, 3) := by decide +kernel
theorem dX10_looks_136 : decode cX10_looks 136 = .ok (.isub, 1) := by decide +kernel
theorem dX10_looks_137 : decode cX10_looks 137 = .ok (.bipush 8, 2) := by decide +kernel
theorem dX10_looks_139 : decode cX10_looks 139 = .ok (.if_icmp .gt 11, 3) := by decide +kernel
theorem dX10_looks_142 : decode cX10_looks 142 = .ok (.lload_n 1, 1) := by decide +kernel
theorem dX10_looks_143 : decode cX10_looks 143 = .ok (.invokestatic 116, 3) := by decide +kernel
theorem dX10_looks_146 : decode cX10_looks 146 = .ok (.iconst (-1), 1) := by decide +kernel
theorem dX10_looks_147 : decode cX10_looks 147 = .ok (.if_icmp .ne 7, 3) := by decide +kernel
theorem dX10_looks_150 : decode cX10_looks 150 = .ok (.iconst 1, 1) := by decide +kernel
theorem dX10_looks_151 : decode cX10_looks 151 = .ok (.goto 9, 3) := by decide +kernel
theorem dX10_looks_154 : decode cX10_looks 154 = .ok (.iconst 4, 1) := by decide +kernel
theorem dX10_looks_155 : decode cX10_looks 155 = .ok (.lload_n 1, 1) := by decide +kernel
theorem dX10_looks_156 : decode cX10_looks 156 = .ok (.invokestatic 116, 3) := by decide +kernel
theorem dX10_looks_159 : decode cX10_looks 159 = .ok (.iadd, 1) := by decide +kernel
theorem dX10_looks_160 : decode cX10_looks 160 = .ok (.putfield 109, 3) := by decide +kernel
theorem dX10_looks_163 : decode cX10_looks 163 = .ok (.return_, 1) := by decide +kernel
theorem dX10_looks_164 : decode cX10_looks 164 = .ok (.aload_n 0, 1) := by decide +kernel
theorem dX10_looks_165 : decode cX10_looks 165 = .ok (.bipush 48, 2) := by decide +kernel
theorem dX10_looks_167 : decode cX10_looks 167 = .ok (.bipush 57, 2) := by decide +kernel
theorem dX10_looks_169 : decode cX10_looks 169 = .ok (.invokevirtual 102, 3) := by decide +kernel
theorem dX10_looks_172 : decode cX10_looks 172 = .ok (.ifCond .eq 99, 3) := by decide +kernel
theorem dX10_looks_175 : decode cX10_looks 175 = .ok (.aload_n 0, 1) := by decide +kernel
theorem dX10_looks_176 : decode cX10_looks 176 = .ok (.iconst 0, 1) := by decide +kernel
theorem dX10_looks_177 : decode cX10_looks 177 = .ok (.putfield 120, 3) := by decide +kernel
theorem dX10_looks_180 : decode cX10_looks 180 = .ok (.aload_n 0, 1) := by decide +kernel
theorem dX10_looks_181 : decode cX10_looks 181 = .ok (.bipush 48, 2) := by decide +kernel
theorem dX10_looks_183 : decode cX10_looks 183 = .ok (.bipush 57, 2) := by decide +kernel
theorem dX10_looks_185 : decode cX10_looks 185 = .ok (.invokevirtual 102, 3) := by decide +kernel
theorem dX10_looks_188 : decode cX10_looks 188 = .ok (.ifCond .eq 60, 3) := by decide +kernel
theorem dX10_looks_191 : decode cX10_looks 191 = .ok (.aload_n 0, 1) := by decide +kernel
theorem dX10_looks_192 : decode cX10_looks 192 = .ok (.aload_n 0, 1) := by decide +kernel
theorem dX10_looks_193 : decode cX10_looks 193 = .ok (.getfield 71, 3) := by decide +kernel
theorem dX10_looks_196 : decode cX10_looks 196 = .ok (.aload_n 0, 1) := by decide +kernel
theorem dX10_looks_197 : decode cX10_looks 197 = .ok (.getfield 106, 3) := by decide +kernel
theorem dX10_looks_200 : decode cX10_looks 200 = .ok (.isub, 1) := by decide +kernel
theorem dX10_looks_201 : decode cX10_looks 201 = .ok (.iconst 2, 1) := by decide +kernel
theorem dX10_looks_202 : decode cX10_looks 202 = .ok (.if_icmp .ge 26, 3) := by decide +kernel
theorem dX10_looks_205 : decode cX10_looks 205 = .ok (.bipush 10, 2) := by decide +kernel
theorem dX10_looks_207 : decode cX10_looks 207 = .ok (.aload_n 0, 1) := by decide +kernel
theorem dX10_looks_208 : decode cX10_looks 208 = .ok (.getfield 120, 3) := by decide +kernel
theorem dX10_looks_211 : decode cX10_looks 211 = .ok (.imul, 1) := by decide +kernel
theorem dX10_looks_212 : decode cX10_looks 212 = .ok (.aload_n 0, 1) := by decide +kernel
theorem dX10_looks_213 : decode cX10_looks 213 = .ok (.getfield 29, 3) := by decide +kernel
theorem dX10_looks_216 : decode cX10_looks 216 = .ok (.aload_n 0, 1) := by decide +kernel
theorem dX10_looks_217 : decode cX10_looks 217 = .ok (.getfield 71, 3) := by decide +kernel
theorem dX10_looks_220 : decode cX10_looks 220 = .ok (.iaload, 1) := by decide +kernel
theorem dX10_looks_221 : decode cX10_looks 221 = .ok (.iadd, 1) := by decide +kernel
theorem dX10_looks_222 : decode cX10_looks 222 = .ok (.bipush 48, 2) := by decide +kernel
theorem dX10_looks_224 : decode cX10_looks 224 = .ok (.isub, 1) := by decide +kernel
theorem dX10_looks_225 : decode cX10_looks 225 = .ok (.goto 7, 3) := by decide +kernel
theorem dX10_looks_228 : decode cX10_looks 228 = .ok (.aload_n 0, 1) := by decide +kernel
theorem dX10_looks_229 : decode cX10_looks 229 = .ok (.getfield 120, 3) := by decide +kernel
theorem dX10_looks_232 : decode cX10_looks 232 = .ok (.putfield 120, 3) := by decide +kernel
theorem dX10_looks_235 : decode cX10_looks 235 = .ok (.aload_n 0, 1) := by decide +kernel
theorem dX10_looks_236 : decode cX10_looks 236 = .ok (.dup, 1) := by decide +kernel
theorem dX10_looks_237 : decode cX10_looks 237 = .ok (.getfield 71, 3) := by decide +kernel
theorem dX10_looks_240 : decode cX10_looks 240 = .ok (.iconst 1, 1) := by decide +kernel
theorem dX10_looks_241 : decode cX10_looks 241 = .ok (.iadd, 1) := by decide +kernel
theorem dX10_looks_242 : decode cX10_looks 242 = .ok (.putfield 71, 3) := by decide +kernel
theorem dX10_looks_245 : decode cX10_looks 245 = .ok (.goto (-65), 3) := by decide +kernel
theorem dX10_looks_248 : decode cX10_looks 248 = .ok (.aload_n 0, 1) := by decide +kernel
theorem dX10_looks_249 : decode cX10_looks 249 = .ok (.aload_n 0, 1) := by decide +kernel
theorem dX10_looks_250 : decode cX10_looks 250 = .ok (.getfield 71, 3) := by decide +kernel
theorem dX10_looks_253 : decode cX10_looks 253 = .ok (.aload_n 0, 1) := by decide +kernel
theorem dX10_looks_254 : decode cX10_looks 254 = .ok (.getfield 106, 3) := by decide +kernel
theorem dX10_looks_257 : decode cX10_looks 257 = .ok (.isub, 1) := by decide +kernel
theorem dX10_looks_258 : decode cX10_looks 258 = .ok (.iconst 2, 1) := by decide +kernel
theorem dX10_looks_259 : decode cX10_looks 259 = .ok (.if_icmp .le 7, 3) := by decide +kernel
theorem dX10_looks_262 : decode cX10_looks 262 = .ok (.iconst 1, 1) := by decide +kernel
theorem dX10_looks_263 : decode cX10_looks 263 = .ok (.goto 4, 3) := by decide +kernel
theorem dX10_looks_266 : decode cX10_looks 266 = .ok (.iconst 2, 1) := by decide +kernel
theorem dX10_looks_267 : decode cX10_looks 267 = .ok (.putfield 109, 3) := by decide +kernel
theorem dX10_looks_270 : decode cX10_looks 270 = .ok (.return_, 1) := by decide +kernel
theorem dX10_looks_271 : decode cX10_looks 271 = .ok (.aload_n 0, 1) := by decide +kernel
theorem dX10_looks_272 : decode cX10_looks 272 = .ok (.aload_n 0, 1) := by decide +kernel
theorem dX10_looks_273 : decode cX10_looks 273 = .ok (.bipush 59, 2) := by decide +kernel
theorem dX10_looks_275 : decode cX10_looks 275 = .ok (.bipush 59, 2) := by decide +kernel
theorem dX10_looks_277 : decode cX10_looks 277 = .ok (.invokevirtual 102, 3) := by decide +kernel
theorem dX10_looks_280 : decode cX10_looks 280 = .ok (.ifCond .eq 7, 3) := by decide +kernel
theorem dX10_looks_283 : decode cX10_looks 283 = .ok (.iconst 3, 1) := by decide +kernel
theorem dX10_looks_284 : decode cX10_looks 284 = .ok (.goto 4, 3) := by decide +kernel
theorem dX10_looks_287 : decode cX10_looks 287 = .ok (.iconst 1, 1) := by decide +kernel
theorem dX10_looks_288 : decode cX10_looks 288 = .ok (.putfield 109, 3) := by decide +kernel
theorem dX10_looks_291 : decode cX10_looks 291 = .ok (.aload_n 0, 1) := by decide +kernel
theorem dX10_looks_292 : decode cX10_looks 292 = .ok (.dup, 1) := by decide +kernel
theorem dX10_looks_293 : decode cX10_looks 293 = .ok (.getfield 71, 3) := by decide +kernel
theorem dX10_looks_296 : decode cX10_looks 296 = .ok (.iconst 1, 1) := by decide +kernel
theorem dX10_looks_297 : decode cX10_looks 297 = .ok (.iadd, 1) := by decide +kernel
theorem dX10_looks_298 : decode cX10_looks 298 = .ok (.putfield 71, 3) := by decide +kernel
theorem dX10_looks_301 : decode cX10_looks 301 = .ok (.return_, 1) := by decide +kernel
theorem dX10_numbers_0 : decode cX10_numbers 0 = .ok (.iload_n 0, 1) := by decide +kernel
theorem dX10_numbers_1 : decode cX10_numbers 1 = .ok (.iconst 3, 1) := by decide +kernel
theorem dX10_numbers_2 : decode cX10_numbers 2 = .ok (.if_icmp .ge 7, 3) := by decide +kernel
theorem dX10_numbers_5 : decode cX10_numbers 5 = .ok (.iconst 3, 1) := by decide +kernel
theorem dX10_numbers_6 : decode cX10_numbers 6 = .ok (.goto 20, 3) := by decide +kernel
theorem dX10_numbers_9 : decode cX10_numbers 9 = .ok (.iload_n 0, 1) := by decide +kernel
theorem dX10_numbers_10 : decode cX10_numbers 10 = .ok (.bipush 6, 2) := by decide +kernel
theorem dX10_numbers_12 : decode cX10_numbers 12 = .ok (.if_icmp .lt 9, 3) := by decide +kernel
theorem dX10_numbers_15 : decode cX10_numbers 15 = .ok (.iload_n 0, 1) := by decide +kernel
theorem dX10_numbers_16 : decode cX10_numbers 16 = .ok (.bipush 12, 2) := by decide +kernel
theorem dX10_numbers_18 : decode cX10_numbers 18 = .ok (.if_icmp .ne 7, 3) := by decide +kernel
theorem dX10_numbers_21 : decode cX10_numbers 21 = .ok (.iconst 2, 1) := by decide +kernel
theorem dX10_numbers_22 : decode cX10_numbers 22 = .ok (.goto 4, 3) := by decide +kernel
theorem dX10_numbers_25 : decode cX10_numbers 25 = .ok (.iconst 0, 1) := by decide +kernel
theorem dX10_numbers_26 : decode cX10_numbers 26 = .ok (.ireturn, 1) := by decide +kernel
theorem dX10_low_0 : decode cX10_low 0 = .ok (.iload_n 0, 1) := by decide +kernel
theorem dX10_low_1 : decode cX10_low 1 = .ok (.iconst 3, 1) := by decide +kernel
theorem dX10_low_2 : decode cX10_low 2 = .ok (.if_icmp .ge 8, 3) := by decide +kernel
theorem dX10_low_5 : decode cX10_low 5 = .ok (.iload_n 1, 1) := by decide +kernel
theorem dX10_low_6 : decode cX10_low 6 = .ok (.iconst 2, 1) := by decide +kernel
theorem dX10_low_7 : decode cX10_low 7 = .ok (.if_icmp .lt 21, 3) := by decide +kernel
theorem dX10_low_10 : decode cX10_low 10 = .ok (.iload_n 0, 1) := by decide +kernel
theorem dX10_low_11 : decode cX10_low 11 = .ok (.iconst 3, 1) := by decide +kernel
theorem dX10_low_12 : decode cX10_low 12 = .ok (.if_icmp .ne 7, 3) := by decide +kernel
theorem dX10_low_15 : decode cX10_low 15 = .ok (.iload_n 1, 1) := by decide +kernel
theorem dX10_low_16 : decode cX10_low 16 = .ok (.ifCond .eq 12, 3) := by decide +kernel
theorem dX10_low_19 : decode cX10_low 19 = .ok (.iload_n 0, 1) := by decide +kernel
theorem dX10_low_20 : decode cX10_low 20 = .ok (.iconst 5, 1) := by decide +kernel
theorem dX10_low_21 : decode cX10_low 21 = .ok (.if_icmp .ne 11, 3) := by decide +kernel
theorem dX10_low_24 : decode cX10_low 24 = .ok (.iload_n 1, 1) := by decide +kernel
theorem dX10_low_25 : decode cX10_low 25 = .ok (.ifCond .ne 7, 3) := by decide +kernel
theorem dX10_low_28 : decode cX10_low 28 = .ok (.iconst 1, 1) := by decide +kernel
theorem dX10_low_29 : decode cX10_low 29 = .ok (.goto 4, 3) := by decide +kernel
theorem dX10_low_32 : decode cX10_low 32 = .ok (.iconst 0, 1) := by decide +kernel
theorem dX10_low_33 : decode cX10_low 33 = .ok (.ireturn, 1) := by decide +kernel
theorem dX10_high_0 : decode cX10_high 0 = .ok (.iload_n 1, 1) := by decide +kernel
theorem dX10_high_1 : decode cX10_high 1 = .ok (.ifCond .ne 7, 3) := by decide +kernel
theorem dX10_high_4 : decode cX10_high 4 = .ok (.iconst 4, 1) := by decide +kernel
theorem dX10_high_5 : decode cX10_high 5 = .ok (.goto 18, 3) := by decide +kernel
theorem dX10_high_8 : decode cX10_high 8 = .ok (.iload_n 1, 1) := by decide +kernel
theorem dX10_high_9 : decode cX10_high 9 = .ok (.iconst 1, 1) := by decide +kernel
theorem dX10_high_10 : decode cX10_high 10 = .ok (.if_icmp .ne 12, 3) := by decide +kernel
theorem dX10_high_13 : decode cX10_high 13 = .ok (.iload_n 0, 1) := by decide +kernel
theorem dX10_high_14 : decode cX10_high 14 = .ok (.iconst 3, 1) := by decide +kernel
theorem dX10_high_15 : decode cX10_high 15 = .ok (.if_icmp .ge 7, 3) := by decide +kernel
theorem dX10_high_18 : decode cX10_high 18 = .ok (.iload_n 2, 1) := by decide +kernel
theorem dX10_high_19 : decode cX10_high 19 = .ok (.goto 4, 3) := by decide +kernel
theorem dX10_high_22 : decode cX10_high 22 = .ok (.iconst 5, 1) := by decide +kernel
theorem dX10_high_23 : decode cX10_high 23 = .ok (.istore_n 3, 1) := by decide +kernel
theorem dX10_high_24 : decode cX10_high 24 = .ok (.iload_n 0, 1) := by decide +kernel
theorem dX10_high_25 : decode cX10_high 25 = .ok (.iconst 4, 1) := by decide +kernel
theorem dX10_high_26 : decode cX10_high 26 = .ok (.if_icmp .ne 15, 3) := by decide +kernel
theorem dX10_high_29 : decode cX10_high 29 = .ok (.iload_n 1, 1) := by decide +kernel
theorem dX10_high_30 : decode cX10_high 30 = .ok (.ifCond .ne 7, 3) := by decide +kernel
theorem dX10_high_33 : decode cX10_high 33 = .ok (.iconst 3, 1) := by decide +kernel
theorem dX10_high_34 : decode cX10_high 34 = .ok (.goto 35, 3) := by decide +kernel
theorem dX10_high_37 : decode cX10_high 37 = .ok (.iconst 5, 1) := by decide +kernel
theorem dX10_high_38 : decode cX10_high 38 = .ok (.goto 31, 3) := by decide +kernel
theorem dX10_high_41 : decode cX10_high 41 = .ok (.iload_n 0, 1) := by decide +kernel
theorem dX10_high_42 : decode cX10_high 42 = .ok (.iconst 5, 1) := by decide +kernel
theorem dX10_high_43 : decode cX10_high 43 = .ok (.if_icmp .ne 16, 3) := by decide +kernel
theorem dX10_high_46 : decode cX10_high 46 = .ok (.iload_n 1, 1) := by decide +kernel
theorem dX10_high_47 : decode cX10_high 47 = .ok (.ifCond .ne 8, 3) := by decide +kernel
theorem dX10_high_50 : decode cX10_high 50 = .ok (.bipush 12, 2) := by decide +kernel
theorem dX10_high_52 : decode cX10_high 52 = .ok (.goto 17, 3) := by decide +kernel
theorem dX10_high_55 : decode cX10_high 55 = .ok (.iconst 3, 1) := by decide +kernel
theorem dX10_high_56 : decode cX10_high 56 = .ok (.goto 13, 3) := by decide +kernel
theorem dX10_high_59 : decode cX10_high 59 = .ok (.iload_n 1, 1) := by decide +kernel
theorem dX10_high_60 : decode cX10_high 60 = .ok (.ifCond .ne 7, 3) := by decide +kernel
theorem dX10_high_63 : decode cX10_high 63 = .ok (.iconst 5, 1) := by decide +kernel
theorem dX10_high_64 : decode cX10_high 64 = .ok (.goto 5, 3) := by decide +kernel
theorem dX10_high_67 : decode cX10_high 67 = .ok (.bipush 9, 2) := by decide +kernel
theorem dX10_high_69 : decode cX10_high 69 = .ok (.istore 4, 2) := by decide +kernel
theorem dX10_high_71 : decode cX10_high 71 = .ok (.iload_n 0, 1) := by decide +kernel
theorem dX10_high_72 : decode cX10_high 72 = .ok (.iconst 4, 1) := by decide +kernel
theorem dX10_high_73 : decode cX10_high 73 = .ok (.if_icmp .ge 7, 3) := by decide +kernel
theorem dX10_high_76 : decode cX10_high 76 = .ok (.iload_n 3, 1) := by decide +kernel
theorem dX10_high_77 : decode cX10_high 77 = .ok (.goto 5, 3) := by decide +kernel
theorem dX10_high_80 : decode cX10_high 80 = .ok (.iload 4, 2) := by decide +kernel
theorem dX10_high_82 : decode cX10_high 82 = .ok (.ireturn, 1) := by decide +kernel
theorem dX10_comes_0 : decode cX10_comes 0 = .ok (.iload_n 1, 1) := by decide +kernel
theorem dX10_comes_1 : decode cX10_comes 1 = .ok (.bipush 13, 2) := by decide +kernel
theorem dX10_comes_3 : decode cX10_comes 3 = .ok (.if_icmp .ne 18, 3) := by decide +kernel
theorem dX10_comes_6 : decode cX10_comes 6 = .ok (.aload_n 0, 1) := by decide +kernel
theorem dX10_comes_7 : decode cX10_comes 7 = .ok (.iconst 0, 1) := by decide +kernel
theorem dX10_comes_8 : decode cX10_comes 8 = .ok (.putfield 123, 3) := by decide +kernel
theorem dX10_comes_11 : decode cX10_comes 11 = .ok (.aload_n 0, 1) := by decide +kernel
theorem dX10_comes_12 : decode cX10_comes 12 = .ok (.iconst 0, 1) := by decide +kernel
theorem dX10_comes_13 : decode cX10_comes 13 = .ok (.putfield 126, 3) := by decide +kernel
theorem dX10_comes_16 : decode cX10_comes 16 = .ok (.aload_n 0, 1) := by decide +kernel
theorem dX10_comes_17 : decode cX10_comes 17 = .ok (.iconst 0, 1) := by decide +kernel
theorem dX10_comes_18 : decode cX10_comes 18 = .ok (.putfield 129, 3) := by decide +kernel
theorem dX10_comes_21 : decode cX10_comes 21 = .ok (.aload_n 0, 1) := by decide +kernel
theorem dX10_comes_22 : decode cX10_comes 22 = .ok (.dup, 1) := by decide +kernel
theorem dX10_comes_23 : decode cX10_comes 23 = .ok (.getfield 123, 3) := by decide +kernel
theorem dX10_comes_26 : decode cX10_comes 26 = .ok (.iload_n 1, 1) := by decide +kernel
theorem dX10_comes_27 : decode cX10_comes 27 = .ok (.iconst 4, 1) := by decide +kernel
theorem dX10_comes_28 : decode cX10_comes 28 = .ok (.if_icmp .ge 7, 3) := by decide +kernel
theorem dX10_comes_31 : decode cX10_comes 31 = .ok (.iconst 1, 1) := by decide +kernel
theorem dX10_comes_32 : decode cX10_comes 32 = .ok (.goto 4, 3) := by decide +kernel
theorem dX10_comes_35 : decode cX10_comes 35 = .ok (.iconst 0, 1) := by decide +kernel
theorem dX10_comes_36 : decode cX10_comes 36 = .ok (.iadd, 1) := by decide +kernel
theorem dX10_comes_37 : decode cX10_comes 37 = .ok (.putfield 123, 3) := by decide +kernel
theorem dX10_comes_40 : decode cX10_comes 40 = .ok (.aload_n 0, 1) := by decide +kernel
theorem dX10_comes_41 : decode cX10_comes 41 = .ok (.dup, 1) := by decide +kernel
theorem dX10_comes_42 : decode cX10_comes 42 = .ok (.getfield 126, 3) := by decide +kernel
theorem dX10_comes_45 : decode cX10_comes 45 = .ok (.iload_n 1, 1) := by decide +kernel
theorem dX10_comes_46 : decode cX10_comes 46 = .ok (.iconst 5, 1) := by decide +kernel
theorem dX10_comes_47 : decode cX10_comes 47 = .ok (.if_icmp .ne 7, 3) := by decide +kernel
theorem dX10_comes_50 : decode cX10_comes 50 = .ok (.iconst 1, 1) := by decide +kernel
theorem dX10_comes_51 : decode cX10_comes 51 = .ok (.goto 4, 3) := by decide +kernel
theorem dX10_comes_54 : decode cX10_comes 54 = .ok (.iconst 0, 1) := by decide +kernel
theorem dX10_comes_55 : decode cX10_comes 55 = .ok (.iadd, 1) := by decide +kernel
theorem dX10_comes_56 : decode cX10_comes 56 = .ok (.putfield 126, 3) := by decide +kernel
theorem dX10_comes_59 : decode cX10_comes 59 = .ok (.aload_n 0, 1) := by decide +kernel
theorem dX10_comes_60 : decode cX10_comes 60 = .ok (.dup, 1) := by decide +kernel
theorem dX10_comes_61 : decode cX10_comes 61 = .ok (.getfield 129, 3) := by decide +kernel
theorem dX10_comes_64 : decode cX10_comes 64 = .ok (.iload_n 1, 1) := by decide +kernel
theorem dX10_comes_65 : decode cX10_comes 65 = .ok (.iconst 5, 1) := by decide +kernel
theorem dX10_comes_66 : decode cX10_comes 66 = .ok (.if_icmp .le 13, 3) := by decide +kernel
theorem dX10_comes_69 : decode cX10_comes 69 = .ok (.iload_n 1, 1) := by decide +kernel
theorem dX10_comes_70 : decode cX10_comes 70 = .ok (.bipush 9, 2) := by decide +kernel
theorem dX10_comes_72 : decode cX10_comes 72 = .ok (.if_icmp .ge 7, 3) := by decide +kernel
theorem dX10_comes_75 : decode cX10_comes 75 = .ok (.iconst 1, 1) := by decide +kernel
theorem dX10_comes_76 : decode cX10_comes 76 = .ok (.goto 4, 3) := by decide +kernel
theorem dX10_comes_79 : decode cX10_comes 79 = .ok (.iconst 0, 1) := by decide +kernel
theorem dX10_comes_80 : decode cX10_comes 80 = .ok (.iadd, 1) := by decide +kernel
theorem dX10_comes_81 : decode cX10_comes 81 = .ok (.putfield 129, 3) := by decide +kernel
theorem dX10_comes_84 : decode cX10_comes 84 = .ok (.aload_n 0, 1) := by decide +kernel
theorem dX10_comes_85 : decode cX10_comes 85 = .ok (.getfield 123, 3) := by decide +kernel
theorem dX10_comes_88 : decode cX10_comes 88 = .ok (.bipush 9, 2) := by decide +kernel
theorem dX10_comes_90 : decode cX10_comes 90 = .ok (.if_icmp .gt 24, 3) := by decide +kernel
theorem dX10_comes_93 : decode cX10_comes 93 = .ok (.aload_n 0, 1) := by decide +kernel
theorem dX10_comes_94 : decode cX10_comes 94 = .ok (.getfield 126, 3) := by decide +kernel
theorem dX10_comes_97 : decode cX10_comes 97 = .ok (.bipush 6, 2) := by decide +kernel
theorem dX10_comes_99 : decode cX10_comes 99 = .ok (.if_icmp .gt 15, 3) := by decide +kernel
theorem dX10_comes_102 : decode cX10_comes 102 = .ok (.aload_n 0, 1) := by decide +kernel
theorem dX10_comes_103 : decode cX10_comes 103 = .ok (.getfield 129, 3) := by decide +kernel
theorem dX10_comes_106 : decode cX10_comes 106 = .ok (.iconst 3, 1) := by decide +kernel
theorem dX10_comes_107 : decode cX10_comes 107 = .ok (.if_icmp .gt 7, 3) := by decide +kernel
theorem dX10_comes_110 : decode cX10_comes 110 = .ok (.iconst 1, 1) := by decide +kernel
theorem dX10_comes_111 : decode cX10_comes 111 = .ok (.goto 4, 3) := by decide +kernel
theorem dX10_comes_114 : decode cX10_comes 114 = .ok (.iconst 0, 1) := by decide +kernel
theorem dX10_comes_115 : decode cX10_comes 115 = .ok (.ireturn, 1) := by decide +kernel
theorem dX10_reads_0 : decode cX10_reads 0 = .ok (.aload_n 0, 1) := by decide +kernel
theorem dX10_reads_1 : decode cX10_reads 1 = .ok (.iconst 0, 1) := by decide +kernel
theorem dX10_reads_2 : decode cX10_reads 2 = .ok (.putfield 71, 3) := by decide +kernel
theorem dX10_reads_5 : decode cX10_reads 5 = .ok (.aload_n 0, 1) := by decide +kernel
theorem dX10_reads_6 : decode cX10_reads 6 = .ok (.iconst 0, 1) := by decide +kernel
theorem dX10_reads_7 : decode cX10_reads 7 = .ok (.putfield 132, 3) := by decide +kernel
theorem dX10_reads_10 : decode cX10_reads 10 = .ok (.aload_n 0, 1) := by decide +kernel
theorem dX10_reads_11 : decode cX10_reads 11 = .ok (.aload_n 0, 1) := by decide +kernel
theorem dX10_reads_12 : decode cX10_reads 12 = .ok (.getfield 7, 3) := by decide +kernel
theorem dX10_reads_15 : decode cX10_reads 15 = .ok (.iconst 0, 1) := by decide +kernel
theorem dX10_reads_16 : decode cX10_reads 16 = .ok (.iaload, 1) := by decide +kernel
theorem dX10_reads_17 : decode cX10_reads 17 = .ok (.putfield 123, 3) := by decide +kernel
theorem dX10_reads_20 : decode cX10_reads 20 = .ok (.aload_n 0, 1) := by decide +kernel
theorem dX10_reads_21 : decode cX10_reads 21 = .ok (.aload_n 0, 1) := by decide +kernel
theorem dX10_reads_22 : decode cX10_reads 22 = .ok (.getfield 7, 3) := by decide +kernel
theorem dX10_reads_25 : decode cX10_reads 25 = .ok (.iconst 1, 1) := by decide +kernel
theorem dX10_reads_26 : decode cX10_reads 26 = .ok (.iaload, 1) := by decide +kernel
theorem dX10_reads_27 : decode cX10_reads 27 = .ok (.putfield 126, 3) := by decide +kernel
theorem dX10_reads_30 : decode cX10_reads 30 = .ok (.aload_n 0, 1) := by decide +kernel
theorem dX10_reads_31 : decode cX10_reads 31 = .ok (.aload_n 0, 1) := by decide +kernel
theorem dX10_reads_32 : decode cX10_reads 32 = .ok (.getfield 7, 3) := by decide +kernel
theorem dX10_reads_35 : decode cX10_reads 35 = .ok (.iconst 2, 1) := by decide +kernel
theorem dX10_reads_36 : decode cX10_reads 36 = .ok (.iaload, 1) := by decide +kernel
theorem dX10_reads_37 : decode cX10_reads 37 = .ok (.putfield 129, 3) := by decide +kernel
theorem dX10_reads_40 : decode cX10_reads 40 = .ok (.aload_n 0, 1) := by decide +kernel
theorem dX10_reads_41 : decode cX10_reads 41 = .ok (.invokevirtual 135, 3) := by decide +kernel
theorem dX10_reads_44 : decode cX10_reads 44 = .ok (.iconst 1, 1) := by decide +kernel
theorem dX10_reads_45 : decode cX10_reads 45 = .ok (.istore_n 1, 1) := by decide +kernel
theorem dX10_reads_46 : decode cX10_reads 46 = .ok (.iload_n 1, 1) := by decide +kernel
theorem dX10_reads_47 : decode cX10_reads 47 = .ok (.ifCond .eq 206, 3) := by decide +kernel
theorem dX10_reads_50 : decode cX10_reads 50 = .ok (.aload_n 0, 1) := by decide +kernel
theorem dX10_reads_51 : decode cX10_reads 51 = .ok (.getfield 109, 3) := by decide +kernel
theorem dX10_reads_54 : decode cX10_reads 54 = .ok (.iconst 4, 1) := by decide +kernel
theorem dX10_reads_55 : decode cX10_reads 55 = .ok (.isub, 1) := by decide +kernel
theorem dX10_reads_56 : decode cX10_reads 56 = .ok (.istore_n 2, 1) := by decide +kernel
theorem dX10_reads_57 : decode cX10_reads 57 = .ok (.iload_n 2, 1) := by decide +kernel
theorem dX10_reads_58 : decode cX10_reads 58 = .ok (.ifCond .lt 11, 3) := by decide +kernel
theorem dX10_reads_61 : decode cX10_reads 61 = .ok (.aload_n 0, 1) := by decide +kernel
theorem dX10_reads_62 : decode cX10_reads 62 = .ok (.iload_n 2, 1) := by decide +kernel
theorem dX10_reads_63 : decode cX10_reads 63 = .ok (.invokevirtual 138, 3) := by decide +kernel
theorem dX10_reads_66 : decode cX10_reads 66 = .ok (.ifCond .ne 5, 3) := by decide +kernel
theorem dX10_reads_69 : decode cX10_reads 69 = .ok (.iconst 0, 1) := by decide +kernel
theorem dX10_reads_70 : decode cX10_reads 70 = .ok (.ireturn, 1) := by decide +kernel
theorem dX10_reads_71 : decode cX10_reads 71 = .ok (.aload_n 0, 1) := by decide +kernel
theorem dX10_reads_72 : decode cX10_reads 72 = .ok (.getfield 32, 3) := by decide +kernel
theorem dX10_reads_75 : decode cX10_reads 75 = .ok (.iconst 4, 1) := by decide +kernel
theorem dX10_reads_76 : decode cX10_reads 76 = .ok (.aload_n 0, 1) := by decide +kernel
theorem dX10_reads_77 : decode cX10_reads 77 = .ok (.getfield 132, 3) := by decide +kernel
theorem dX10_reads_80 : decode cX10_reads 80 = .ok (.imul, 1) := by decide +kernel
theorem dX10_reads_81 : decode cX10_reads 81 = .ok (.iload_n 2, 1) := by decide +kernel
theorem dX10_reads_82 : decode cX10_reads 82 = .ok (.iastore, 1) := by decide +kernel
theorem dX10_reads_83 : decode cX10_reads 83 = .ok (.aload_n 0, 1) := by decide +kernel
theorem dX10_reads_84 : decode cX10_reads 84 = .ok (.invokevirtual 135, 3) := by decide +kernel
theorem dX10_reads_87 : decode cX10_reads 87 = .ok (.iconst 0, 1) := by decide +kernel
theorem dX10_reads_88 : decode cX10_reads 88 = .ok (.istore_n 3, 1) := by decide +kernel
theorem dX10_reads_89 : decode cX10_reads 89 = .ok (.iload_n 3, 1) := by decide +kernel
theorem dX10_reads_90 : decode cX10_reads 90 = .ok (.iload_n 2, 1) := by decide +kernel
theorem dX10_reads_91 : decode cX10_reads 91 = .ok (.invokestatic 141, 3) := by decide +kernel
theorem dX10_reads_94 : decode cX10_reads 94 = .ok (.if_icmp .ge 90, 3) := by decide +kernel
theorem dX10_reads_97 : decode cX10_reads 97 = .ok (.iload_n 3, 1) := by decide +kernel
theorem dX10_reads_98 : decode cX10_reads 98 = .ok (.ifCond .ne 7, 3) := by decide +kernel
theorem dX10_reads_101 : decode cX10_reads 101 = .ok (.iconst 0, 1) := by decide +kernel
theorem dX10_reads_102 : decode cX10_reads 102 = .ok (.goto 16, 3) := by decide +kernel
theorem dX10_reads_105 : decode cX10_reads 105 = .ok (.aload_n 0, 1) := by decide +kernel
theorem dX10_reads_106 : decode cX10_reads 106 = .ok (.getfield 32, 3) := by decide +kernel
theorem dX10_reads_109 : decode cX10_reads 109 = .ok (.iconst 4, 1) := by decide +kernel
theorem dX10_reads_110 : decode cX10_reads 110 = .ok (.aload_n 0, 1) := by decide +kernel
theorem dX10_reads_111 : decode cX10_reads 111 = .ok (.getfield 132, 3) := by decide +kernel
theorem dX10_reads_114 : decode cX10_reads 114 = .ok (.imul, 1) := by decide +kernel
theorem dX10_reads_115 : decode cX10_reads 115 = .ok (.iload_n 3, 1) := by decide +kernel
theorem dX10_reads_116 : decode cX10_reads 116 = .ok (.iadd, 1) := by decide +kernel
theorem dX10_reads_117 : decode cX10_reads 117 = .ok (.iaload, 1) := by decide +kernel
theorem dX10_reads_118 : decode cX10_reads 118 = .ok (.istore 4, 2) := by decide +kernel
theorem dX10_reads_120 : decode cX10_reads 120 = .ok (.aload_n 0, 1) := by decide +kernel
theorem dX10_reads_121 : decode cX10_reads 121 = .ok (.getfield 109, 3) := by decide +kernel
theorem dX10_reads_124 : decode cX10_reads 124 = .ok (.iconst 2, 1) := by decide +kernel
theorem dX10_reads_125 : decode cX10_reads 125 = .ok (.if_icmp .ne 28, 3) := by decide +kernel
theorem dX10_reads_128 : decode cX10_reads 128 = .ok (.aload_n 0, 1) := by decide +kernel
theorem dX10_reads_129 : decode cX10_reads 129 = .ok (.getfield 120, 3) := by decide +kernel
theorem dX10_reads_132 : decode cX10_reads 132 = .ok (.i2l, 1) := by decide +kernel
theorem dX10_reads_133 : decode cX10_reads 133 = .ok (.iload_n 2, 1) := by decide +kernel
theorem dX10_reads_134 : decode cX10_reads 134 = .ok (.iload_n 3, 1) := by decide +kernel
theorem dX10_reads_135 : decode cX10_reads 135 = .ok (.invokestatic 145, 3) := by decide +kernel
theorem dX10_reads_138 : decode cX10_reads 138 = .ok (.i2l, 1) := by decide +kernel
theorem dX10_reads_139 : decode cX10_reads 139 = .ok (.iload_n 2, 1) := by decide +kernel
theorem dX10_reads_140 : decode cX10_reads 140 = .ok (.iload_n 3, 1) := by decide +kernel
theorem dX10_reads_141 : decode cX10_reads 141 = .ok (.iload 4, 2) := by decide +kernel
theorem dX10_reads_143 : decode cX10_reads 143 = .ok (.invokestatic 149, 3) := by decide +kernel
theorem dX10_reads_146 : decode cX10_reads 146 = .ok (.i2l, 1) := by decide +kernel
theorem dX10_reads_147 : decode cX10_reads 147 = .ok (.invokestatic 54, 3) := by decide +kernel
theorem dX10_reads_150 : decode cX10_reads 150 = .ok (.ifCond .ne 5, 3) := by decide +kernel
theorem dX10_reads_153 : decode cX10_reads 153 = .ok (.iconst 0, 1) := by decide +kernel
theorem dX10_reads_154 : decode cX10_reads 154 = .ok (.ireturn, 1) := by decide +kernel
theorem dX10_reads_155 : decode cX10_reads 155 = .ok (.aload_n 0, 1) := by decide +kernel
theorem dX10_reads_156 : decode cX10_reads 156 = .ok (.getfield 32, 3) := by decide +kernel
theorem dX10_reads_159 : decode cX10_reads 159 = .ok (.iconst 4, 1) := by decide +kernel
theorem dX10_reads_160 : decode cX10_reads 160 = .ok (.aload_n 0, 1) := by decide +kernel
theorem dX10_reads_161 : decode cX10_reads 161 = .ok (.getfield 132, 3) := by decide +kernel
theorem dX10_reads_164 : decode cX10_reads 164 = .ok (.imul, 1) := by decide +kernel
theorem dX10_reads_165 : decode cX10_reads 165 = .ok (.iconst 1, 1) := by decide +kernel
theorem dX10_reads_166 : decode cX10_reads 166 = .ok (.iadd, 1) := by decide +kernel
theorem dX10_reads_167 : decode cX10_reads 167 = .ok (.iload_n 3, 1) := by decide +kernel
theorem dX10_reads_168 : decode cX10_reads 168 = .ok (.iadd, 1) := by decide +kernel
theorem dX10_reads_169 : decode cX10_reads 169 = .ok (.aload_n 0, 1) := by decide +kernel
theorem dX10_reads_170 : decode cX10_reads 170 = .ok (.getfield 120, 3) := by decide +kernel
theorem dX10_reads_173 : decode cX10_reads 173 = .ok (.iastore, 1) := by decide +kernel
theorem dX10_reads_174 : decode cX10_reads 174 = .ok (.aload_n 0, 1) := by decide +kernel
theorem dX10_reads_175 : decode cX10_reads 175 = .ok (.invokevirtual 135, 3) := by decide +kernel
theorem dX10_reads_178 : decode cX10_reads 178 = .ok (.iinc 3 1, 3) := by decide +kernel
theorem dX10_reads_181 : decode cX10_reads 181 = .ok (.goto (-92), 3) := by decide +kernel
theorem dX10_reads_184 : decode cX10_reads 184 = .ok (.aload_n 0, 1) := by decide +kernel
theorem dX10_reads_185 : decode cX10_reads 185 = .ok (.dup, 1) := by decide +kernel
theorem dX10_reads_186 : decode cX10_reads 186 = .ok (.getfield 132, 3) := by decide +kernel
theorem dX10_reads_189 : decode cX10_reads 189 = .ok (.iconst 1, 1) := by decide +kernel
theorem dX10_reads_190 : decode cX10_reads 190 = .ok (.iadd, 1) := by decide +kernel
theorem dX10_reads_191 : decode cX10_reads 191 = .ok (.putfield 132, 3) := by decide +kernel
theorem dX10_reads_194 : decode cX10_reads 194 = .ok (.aload_n 0, 1) := by decide +kernel
theorem dX10_reads_195 : decode cX10_reads 195 = .ok (.getfield 109, 3) := by decide +kernel
theorem dX10_reads_198 : decode cX10_reads 198 = .ok (.iconst 3, 1) := by decide +kernel
theorem dX10_reads_199 : decode cX10_reads 199 = .ok (.if_icmp .eq 10, 3) := by decide +kernel
theorem dX10_reads_202 : decode cX10_reads 202 = .ok (.aload_n 0, 1) := by decide +kernel
theorem dX10_reads_203 : decode cX10_reads 203 = .ok (.getfield 109, 3) := by decide +kernel
theorem dX10_reads_206 : decode cX10_reads 206 = .ok (.ifCond .ne 20, 3) := by decide +kernel
theorem dX10_reads_209 : decode cX10_reads 209 = .ok (.aload_n 0, 1) := by decide +kernel
theorem dX10_reads_210 : decode cX10_reads 210 = .ok (.getfield 109, 3) := by decide +kernel
theorem dX10_reads_213 : decode cX10_reads 213 = .ok (.iconst 3, 1) := by decide +kernel
theorem dX10_reads_214 : decode cX10_reads 214 = .ok (.if_icmp .ne 14, 3) := by decide +kernel
theorem dX10_reads_217 : decode cX10_reads 217 = .ok (.aload_n 0, 1) := by decide +kernel
theorem dX10_reads_218 : decode cX10_reads 218 = .ok (.getfield 132, 3) := by decide +kernel
theorem dX10_reads_221 : decode cX10_reads 221 = .ok (.bipush 14, 2) := by decide +kernel
theorem dX10_reads_223 : decode cX10_reads 223 = .ok (.if_icmp .ne 5, 3) := by decide +kernel
theorem dX10_reads_226 : decode cX10_reads 226 = .ok (.iconst 0, 1) := by decide +kernel
theorem dX10_reads_227 : decode cX10_reads 227 = .ok (.ireturn, 1) := by decide +kernel
theorem dX10_reads_228 : decode cX10_reads 228 = .ok (.aload_n 0, 1) := by decide +kernel
theorem dX10_reads_229 : decode cX10_reads 229 = .ok (.getfield 109, 3) := by decide +kernel
theorem dX10_reads_232 : decode cX10_reads 232 = .ok (.iconst 3, 1) := by decide +kernel
theorem dX10_reads_233 : decode cX10_reads 233 = .ok (.if_icmp .ne 7, 3) := by decide +kernel
theorem dX10_reads_236 : decode cX10_reads 236 = .ok (.iconst 1, 1) := by decide +kernel
theorem dX10_reads_237 : decode cX10_reads 237 = .ok (.goto 4, 3) := by decide +kernel
theorem dX10_reads_240 : decode cX10_reads 240 = .ok (.iconst 0, 1) := by decide +kernel
theorem dX10_reads_241 : decode cX10_reads 241 = .ok (.istore_n 1, 1) := by decide +kernel
theorem dX10_reads_242 : decode cX10_reads 242 = .ok (.iload_n 1, 1) := by decide +kernel
theorem dX10_reads_243 : decode cX10_reads 243 = .ok (.ifCond .eq 7, 3) := by decide +kernel
theorem dX10_reads_246 : decode cX10_reads 246 = .ok (.aload_n 0, 1) := by decide +kernel
theorem dX10_reads_247 : decode cX10_reads 247 = .ok (.invokevirtual 135, 3) := by decide +kernel
theorem dX10_reads_250 : decode cX10_reads 250 = .ok (.goto (-204), 3) := by decide +kernel
theorem dX10_reads_253 : decode cX10_reads 253 = .ok (.iconst 1, 1) := by decide +kernel
theorem dX10_reads_254 : decode cX10_reads 254 = .ok (.ireturn, 1) := by decide +kernel
theorem dX10_fault_0 : decode cX10_fault 0 = .ok (.aload_n 0, 1) := by decide +kernel
theorem dX10_fault_1 : decode cX10_fault 1 = .ok (.invokevirtual 153, 3) := by decide +kernel
theorem dX10_fault_4 : decode cX10_fault 4 = .ok (.ifCond .eq 7, 3) := by decide +kernel
theorem dX10_fault_7 : decode cX10_fault 7 = .ok (.iconst (-1), 1) := by decide +kernel
theorem dX10_fault_8 : decode cX10_fault 8 = .ok (.goto 7, 3) := by decide +kernel
theorem dX10_fault_11 : decode cX10_fault 11 = .ok (.aload_n 0, 1) := by decide +kernel
theorem dX10_fault_12 : decode cX10_fault 12 = .ok (.getfield 106, 3) := by decide +kernel
theorem dX10_fault_15 : decode cX10_fault 15 = .ok (.ireturn, 1) := by decide +kernel
theorem dX10_does_0 : decode cX10_does 0 = .ok (.aload_n 0, 1) := by decide +kernel
theorem dX10_does_1 : decode cX10_does 1 = .ok (.getfield 32, 3) := by decide +kernel
theorem dX10_does_4 : decode cX10_does 4 = .ok (.iconst 4, 1) := by decide +kernel
theorem dX10_does_5 : decode cX10_does 5 = .ok (.iload_n 1, 1) := by decide +kernel
theorem dX10_does_6 : decode cX10_does 6 = .ok (.imul, 1) := by decide +kernel
theorem dX10_does_7 : decode cX10_does 7 = .ok (.iaload, 1) := by decide +kernel
theorem dX10_does_8 : decode cX10_does 8 = .ok (.istore_n 2, 1) := by decide +kernel
theorem dX10_does_9 : decode cX10_does 9 = .ok (.aload_n 0, 1) := by decide +kernel
theorem dX10_does_10 : decode cX10_does 10 = .ok (.getfield 32, 3) := by decide +kernel
theorem dX10_does_13 : decode cX10_does 13 = .ok (.iconst 4, 1) := by decide +kernel
theorem dX10_does_14 : decode cX10_does 14 = .ok (.iload_n 1, 1) := by decide +kernel
theorem dX10_does_15 : decode cX10_does 15 = .ok (.imul, 1) := by decide +kernel
theorem dX10_does_16 : decode cX10_does 16 = .ok (.iconst 1, 1) := by decide +kernel
theorem dX10_does_17 : decode cX10_does 17 = .ok (.iadd, 1) := by decide +kernel
theorem dX10_does_18 : decode cX10_does 18 = .ok (.iaload, 1) := by decide +kernel
theorem dX10_does_19 : decode cX10_does 19 = .ok (.istore_n 3, 1) := by decide +kernel
theorem dX10_does_20 : decode cX10_does 20 = .ok (.aload_n 0, 1) := by decide +kernel
theorem dX10_does_21 : decode cX10_does 21 = .ok (.getfield 32, 3) := by decide +kernel
theorem dX10_does_24 : decode cX10_does 24 = .ok (.iconst 4, 1) := by decide +kernel
theorem dX10_does_25 : decode cX10_does 25 = .ok (.iload_n 1, 1) := by decide +kernel
theorem dX10_does_26 : decode cX10_does 26 = .ok (.imul, 1) := by decide +kernel
theorem dX10_does_27 : decode cX10_does 27 = .ok (.iconst 2, 1) := by decide +kernel
theorem dX10_does_28 : decode cX10_does 28 = .ok (.iadd, 1) := by decide +kernel
theorem dX10_does_29 : decode cX10_does 29 = .ok (.iaload, 1) := by decide +kernel
theorem dX10_does_30 : decode cX10_does 30 = .ok (.istore 4, 2) := by decide +kernel
theorem dX10_does_32 : decode cX10_does 32 = .ok (.iload_n 2, 1) := by decide +kernel
theorem dX10_does_33 : decode cX10_does 33 = .ok (.iconst 4, 1) := by decide +kernel
theorem dX10_does_34 : decode cX10_does 34 = .ok (.if_icmp .ge 96, 3) := by decide +kernel
theorem dX10_does_37 : decode cX10_does 37 = .ok (.bipush 6, 2) := by decide +kernel
theorem dX10_does_39 : decode cX10_does 39 = .ok (.iconst 4, 1) := by decide +kernel
theorem dX10_does_40 : decode cX10_does 40 = .ok (.aload_n 0, 1) := by decide +kernel
theorem dX10_does_41 : decode cX10_does 41 = .ok (.getfield 7, 3) := by decide +kernel
theorem dX10_does_44 : decode cX10_does 44 = .ok (.iconst 0, 1) := by decide +kernel
theorem dX10_does_45 : decode cX10_does 45 = .ok (.iaload, 1) := by decide +kernel
theorem dX10_does_46 : decode cX10_does 46 = .ok (.imul, 1) := by decide +kernel
theorem dX10_does_47 : decode cX10_does 47 = .ok (.iadd, 1) := by decide +kernel
theorem dX10_does_48 : decode cX10_does 48 = .ok (.istore 5, 2) := by decide +kernel
theorem dX10_does_50 : decode cX10_does 50 = .ok (.aload_n 0, 1) := by decide +kernel
theorem dX10_does_51 : decode cX10_does 51 = .ok (.getfield 7, 3) := by decide +kernel
theorem dX10_does_54 : decode cX10_does 54 = .ok (.iload 5, 2) := by decide +kernel
theorem dX10_does_56 : decode cX10_does 56 = .ok (.iload_n 2, 1) := by decide +kernel
theorem dX10_does_57 : decode cX10_does 57 = .ok (.iastore, 1) := by decide +kernel
theorem dX10_does_58 : decode cX10_does 58 = .ok (.aload_n 0, 1) := by decide +kernel
theorem dX10_does_59 : decode cX10_does 59 = .ok (.getfield 7, 3) := by decide +kernel
theorem dX10_does_62 : decode cX10_does 62 = .ok (.iload 5, 2) := by decide +kernel
theorem dX10_does_64 : decode cX10_does 64 = .ok (.iconst 1, 1) := by decide +kernel
theorem dX10_does_65 : decode cX10_does 65 = .ok (.iadd, 1) := by decide +kernel
theorem dX10_does_66 : decode cX10_does 66 = .ok (.iload_n 3, 1) := by decide +kernel
theorem dX10_does_67 : decode cX10_does 67 = .ok (.iastore, 1) := by decide +kernel
theorem dX10_does_68 : decode cX10_does 68 = .ok (.aload_n 0, 1) := by decide +kernel
theorem dX10_does_69 : decode cX10_does 69 = .ok (.getfield 7, 3) := by decide +kernel
theorem dX10_does_72 : decode cX10_does 72 = .ok (.iload 5, 2) := by decide +kernel
theorem dX10_does_74 : decode cX10_does 74 = .ok (.iconst 2, 1) := by decide +kernel
theorem dX10_does_75 : decode cX10_does 75 = .ok (.iadd, 1) := by decide +kernel
theorem dX10_does_76 : decode cX10_does 76 = .ok (.iload_n 2, 1) := by decide +kernel
theorem dX10_does_77 : decode cX10_does 77 = .ok (.iconst 3, 1) := by decide +kernel
theorem dX10_does_78 : decode cX10_does 78 = .ok (.if_icmp .ne 7, 3) := by decide +kernel
theorem dX10_does_81 : decode cX10_does 81 = .ok (.iconst 1, 1) := by decide +kernel
theorem dX10_does_82 : decode cX10_does 82 = .ok (.goto 5, 3) := by decide +kernel
theorem dX10_does_85 : decode cX10_does 85 = .ok (.iload 4, 2) := by decide +kernel
theorem dX10_does_87 : decode cX10_does 87 = .ok (.iastore, 1) := by decide +kernel
theorem dX10_does_88 : decode cX10_does 88 = .ok (.aload_n 0, 1) := by decide +kernel
theorem dX10_does_89 : decode cX10_does 89 = .ok (.getfield 7, 3) := by decide +kernel
theorem dX10_does_92 : decode cX10_does 92 = .ok (.iload 5, 2) := by decide +kernel
theorem dX10_does_94 : decode cX10_does 94 = .ok (.iconst 3, 1) := by decide +kernel
theorem dX10_does_95 : decode cX10_does 95 = .ok (.iadd, 1) := by decide +kernel
theorem dX10_does_96 : decode cX10_does 96 = .ok (.iload_n 2, 1) := by decide +kernel
theorem dX10_does_97 : decode cX10_does 97 = .ok (.iconst 3, 1) := by decide +kernel
theorem dX10_does_98 : decode cX10_does 98 = .ok (.if_icmp .ne 8, 3) := by decide +kernel
theorem dX10_does_101 : decode cX10_does 101 = .ok (.iload 4, 2) := by decide +kernel
theorem dX10_does_103 : decode cX10_does 103 = .ok (.goto 13, 3) := by decide +kernel
theorem dX10_does_106 : decode cX10_does 106 = .ok (.aload_n 0, 1) := by decide +kernel
theorem dX10_does_107 : decode cX10_does 107 = .ok (.getfield 32, 3) := by decide +kernel
theorem dX10_does_110 : decode cX10_does 110 = .ok (.iconst 4, 1) := by decide +kernel
theorem dX10_does_111 : decode cX10_does 111 = .ok (.iload_n 1, 1) := by decide +kernel
theorem dX10_does_112 : decode cX10_does 112 = .ok (.imul, 1) := by decide +kernel
theorem dX10_does_113 : decode cX10_does 113 = .ok (.iconst 3, 1) := by decide +kernel
theorem dX10_does_114 : decode cX10_does 114 = .ok (.iadd, 1) := by decide +kernel
theorem dX10_does_115 : decode cX10_does 115 = .ok (.iaload, 1) := by decide +kernel
theorem dX10_does_116 : decode cX10_does 116 = .ok (.iastore, 1) := by decide +kernel
theorem dX10_does_117 : decode cX10_does 117 = .ok (.aload_n 0, 1) := by decide +kernel
theorem dX10_does_118 : decode cX10_does 118 = .ok (.getfield 7, 3) := by decide +kernel
theorem dX10_does_121 : decode cX10_does 121 = .ok (.iconst 0, 1) := by decide +kernel
theorem dX10_does_122 : decode cX10_does 122 = .ok (.dup2, 1) := by decide +kernel
theorem dX10_does_123 : decode cX10_does 123 = .ok (.iaload, 1) := by decide +kernel
theorem dX10_does_124 : decode cX10_does 124 = .ok (.iconst 1, 1) := by decide +kernel
theorem dX10_does_125 : decode cX10_does 125 = .ok (.iadd, 1) := by decide +kernel
theorem dX10_does_126 : decode cX10_does 126 = .ok (.iastore, 1) := by decide +kernel
theorem dX10_does_127 : decode cX10_does 127 = .ok (.goto 162, 3) := by decide +kernel
theorem dX10_does_130 : decode cX10_does 130 = .ok (.iload_n 2, 1) := by decide +kernel
theorem dX10_does_131 : decode cX10_does 131 = .ok (.iconst 4, 1) := by decide +kernel
theorem dX10_does_132 : decode cX10_does 132 = .ok (.if_icmp .ne 17, 3) := by decide +kernel
theorem dX10_does_135 : decode cX10_does 135 = .ok (.aload_n 0, 1) := by decide +kernel
theorem dX10_does_136 : decode cX10_does 136 = .ok (.getfield 7, 3) := by decide +kernel
theorem dX10_does_139 : decode cX10_does 139 = .ok (.bipush 42, 2) := by decide +kernel
theorem dX10_does_141 : decode cX10_does 141 = .ok (.iload_n 3, 1) := by decide +kernel
theorem dX10_does_142 : decode cX10_does 142 = .ok (.iadd, 1) := by decide +kernel
theorem dX10_does_143 : decode cX10_does 143 = .ok (.iload 4, 2) := by decide +kernel
theorem dX10_does_145 : decode cX10_does 145 = .ok (.iastore, 1) := by decide +kernel
theorem dX10_does_146 : decode cX10_does 146 = .ok (.goto 143, 3) := by decide +kernel
theorem dX10_does_149 : decode cX10_does 149 = .ok (.iload_n 2, 1) := by decide +kernel
theorem dX10_does_150 : decode cX10_does 150 = .ok (.iconst 5, 1) := by decide +kernel
theorem dX10_does_151 : decode cX10_does 151 = .ok (.if_icmp .ne 58, 3) := by decide +kernel
theorem dX10_does_154 : decode cX10_does 154 = .ok (.bipush 46, 2) := by decide +kernel
theorem dX10_does_156 : decode cX10_does 156 = .ok (.iconst 3, 1) := by decide +kernel
theorem dX10_does_157 : decode cX10_does 157 = .ok (.aload_n 0, 1) := by decide +kernel
theorem dX10_does_158 : decode cX10_does 158 = .ok (.getfield 7, 3) := by decide +kernel
theorem dX10_does_161 : decode cX10_does 161 = .ok (.iconst 1, 1) := by decide +kernel
theorem dX10_does_162 : decode cX10_does 162 = .ok (.iaload, 1) := by decide +kernel
theorem dX10_does_163 : decode cX10_does 163 = .ok (.imul, 1) := by decide +kernel
theorem dX10_does_164 : decode cX10_does 164 = .ok (.iadd, 1) := by decide +kernel
theorem dX10_does_165 : decode cX10_does 165 = .ok (.istore 5, 2) := by decide +kernel
theorem dX10_does_167 : decode cX10_does 167 = .ok (.aload_n 0, 1) := by decide +kernel
theorem dX10_does_168 : decode cX10_does 168 = .ok (.getfield 7, 3) := by decide +kernel
theorem dX10_does_171 : decode cX10_does 171 = .ok (.iload 5, 2) := by decide +kernel
theorem dX10_does_173 : decode cX10_does 173 = .ok (.iload_n 3, 1) := by decide +kernel
theorem dX10_does_174 : decode cX10_does 174 = .ok (.iastore, 1) := by decide +kernel
theorem dX10_does_175 : decode cX10_does 175 = .ok (.aload_n 0, 1) := by decide +kernel
theorem dX10_does_176 : decode cX10_does 176 = .ok (.getfield 7, 3) := by decide +kernel
theorem dX10_does_179 : decode cX10_does 179 = .ok (.iload 5, 2) := by decide +kernel
theorem dX10_does_181 : decode cX10_does 181 = .ok (.iconst 1, 1) := by decide +kernel
theorem dX10_does_182 : decode cX10_does 182 = .ok (.iadd, 1) := by decide +kernel
theorem dX10_does_183 : decode cX10_does 183 = .ok (.iload 4, 2) := by decide +kernel
theorem dX10_does_185 : decode cX10_does 185 = .ok (.iastore, 1) := by decide +kernel
theorem dX10_does_186 : decode cX10_does 186 = .ok (.aload_n 0, 1) := by decide +kernel
theorem dX10_does_187 : decode cX10_does 187 = .ok (.getfield 7, 3) := by decide +kernel
theorem dX10_does_190 : decode cX10_does 190 = .ok (.iload 5, 2) := by decide +kernel
theorem dX10_does_192 : decode cX10_does 192 = .ok (.iconst 2, 1) := by decide +kernel
theorem dX10_does_193 : decode cX10_does 193 = .ok (.iadd, 1) := by decide +kernel
theorem dX10_does_194 : decode cX10_does 194 = .ok (.iconst 0, 1) := by decide +kernel
theorem dX10_does_195 : decode cX10_does 195 = .ok (.iastore, 1) := by decide +kernel
theorem dX10_does_196 : decode cX10_does 196 = .ok (.aload_n 0, 1) := by decide +kernel
theorem dX10_does_197 : decode cX10_does 197 = .ok (.getfield 7, 3) := by decide +kernel
theorem dX10_does_200 : decode cX10_does 200 = .ok (.iconst 1, 1) := by decide +kernel
theorem dX10_does_201 : decode cX10_does 201 = .ok (.dup2, 1) := by decide +kernel
theorem dX10_does_202 : decode cX10_does 202 = .ok (.iaload, 1) := by decide +kernel
theorem dX10_does_203 : decode cX10_does 203 = .ok (.iconst 1, 1) := by decide +kernel
theorem dX10_does_204 : decode cX10_does 204 = .ok (.iadd, 1) := by decide +kernel
theorem dX10_does_205 : decode cX10_does 205 = .ok (.iastore, 1) := by decide +kernel
theorem dX10_does_206 : decode cX10_does 206 = .ok (.goto 83, 3) := by decide +kernel
theorem dX10_does_209 : decode cX10_does 209 = .ok (.iload_n 2, 1) := by decide +kernel
theorem dX10_does_210 : decode cX10_does 210 = .ok (.bipush 9, 2) := by decide +kernel
theorem dX10_does_212 : decode cX10_does 212 = .ok (.if_icmp .ge 34, 3) := by decide +kernel
theorem dX10_does_215 : decode cX10_does 215 = .ok (.aload_n 0, 1) := by decide +kernel
theorem dX10_does_216 : decode cX10_does 216 = .ok (.getfield 7, 3) := by decide +kernel
theorem dX10_does_219 : decode cX10_does 219 = .ok (.bipush 64, 2) := by decide +kernel
theorem dX10_does_221 : decode cX10_does 221 = .ok (.aload_n 0, 1) := by decide +kernel
theorem dX10_does_222 : decode cX10_does 222 = .ok (.getfield 7, 3) := by decide +kernel
theorem dX10_does_225 : decode cX10_does 225 = .ok (.iconst 2, 1) := by decide +kernel
theorem dX10_does_226 : decode cX10_does 226 = .ok (.iaload, 1) := by decide +kernel
theorem dX10_does_227 : decode cX10_does 227 = .ok (.iadd, 1) := by decide +kernel
theorem dX10_does_228 : decode cX10_does 228 = .ok (.iload_n 2, 1) := by decide +kernel
theorem dX10_does_229 : decode cX10_does 229 = .ok (.bipush 6, 2) := by decide +kernel
theorem dX10_does_231 : decode cX10_does 231 = .ok (.isub, 1) := by decide +kernel
theorem dX10_does_232 : decode cX10_does 232 = .ok (.iastore, 1) := by decide +kernel
theorem dX10_does_233 : decode cX10_does 233 = .ok (.aload_n 0, 1) := by decide +kernel
theorem dX10_does_234 : decode cX10_does 234 = .ok (.getfield 7, 3) := by decide +kernel
theorem dX10_does_237 : decode cX10_does 237 = .ok (.iconst 2, 1) := by decide +kernel
theorem dX10_does_238 : decode cX10_does 238 = .ok (.dup2, 1) := by decide +kernel
theorem dX10_does_239 : decode cX10_does 239 = .ok (.iaload, 1) := by decide +kernel
theorem dX10_does_240 : decode cX10_does 240 = .ok (.iconst 1, 1) := by decide +kernel
theorem dX10_does_241 : decode cX10_does 241 = .ok (.iadd, 1) := by decide +kernel
theorem dX10_does_242 : decode cX10_does 242 = .ok (.iastore, 1) := by decide +kernel
theorem dX10_does_243 : decode cX10_does 243 = .ok (.goto 46, 3) := by decide +kernel
theorem dX10_does_246 : decode cX10_does 246 = .ok (.iload_n 2, 1) := by decide +kernel
theorem dX10_does_247 : decode cX10_does 247 = .ok (.bipush 12, 2) := by decide +kernel
theorem dX10_does_249 : decode cX10_does 249 = .ok (.if_icmp .ge 16, 3) := by decide +kernel
theorem dX10_does_252 : decode cX10_does 252 = .ok (.aload_n 0, 1) := by decide +kernel
theorem dX10_does_253 : decode cX10_does 253 = .ok (.getfield 7, 3) := by decide +kernel
theorem dX10_does_256 : decode cX10_does 256 = .ok (.iconst 3, 1) := by decide +kernel
theorem dX10_does_257 : decode cX10_does 257 = .ok (.iload_n 2, 1) := by decide +kernel
theorem dX10_does_258 : decode cX10_does 258 = .ok (.bipush 9, 2) := by decide +kernel
theorem dX10_does_260 : decode cX10_does 260 = .ok (.isub, 1) := by decide +kernel
theorem dX10_does_261 : decode cX10_does 261 = .ok (.iastore, 1) := by decide +kernel
theorem dX10_does_262 : decode cX10_does 262 = .ok (.goto 27, 3) := by decide +kernel
theorem dX10_does_265 : decode cX10_does 265 = .ok (.iload_n 2, 1) := by decide +kernel
theorem dX10_does_266 : decode cX10_does 266 = .ok (.bipush 12, 2) := by decide +kernel
theorem dX10_does_268 : decode cX10_does 268 = .ok (.if_icmp .ne 17, 3) := by decide +kernel
theorem dX10_does_271 : decode cX10_does 271 = .ok (.aload_n 0, 1) := by decide +kernel
theorem dX10_does_272 : decode cX10_does 272 = .ok (.getfield 7, 3) := by decide +kernel
theorem dX10_does_275 : decode cX10_does 275 = .ok (.bipush 73, 2) := by decide +kernel
theorem dX10_does_277 : decode cX10_does 277 = .ok (.iload_n 3, 1) := by decide +kernel
theorem dX10_does_278 : decode cX10_does 278 = .ok (.iadd, 1) := by decide +kernel
theorem dX10_does_279 : decode cX10_does 279 = .ok (.iload 4, 2) := by decide +kernel
theorem dX10_does_281 : decode cX10_does 281 = .ok (.iastore, 1) := by decide +kernel
theorem dX10_does_282 : decode cX10_does 282 = .ok (.goto 7, 3) := by decide +kernel
theorem dX10_does_285 : decode cX10_does 285 = .ok (.aload_n 0, 1) := by decide +kernel
theorem dX10_does_286 : decode cX10_does 286 = .ok (.invokevirtual 47, 3) := by decide +kernel
theorem dX10_does_289 : decode cX10_does 289 = .ok (.return_, 1) := by decide +kernel
theorem dX10_customs_0 : decode cX10_customs 0 = .ok (.aload_n 0, 1) := by decide +kernel
theorem dX10_customs_1 : decode cX10_customs 1 = .ok (.invokevirtual 153, 3) := by decide +kernel
theorem dX10_customs_4 : decode cX10_customs 4 = .ok (.ifCond .ne 6, 3) := by decide +kernel
theorem dX10_customs_7 : decode cX10_customs 7 = .ok (.bipush (-4), 2) := by decide +kernel
theorem dX10_customs_9 : decode cX10_customs 9 = .ok (.ireturn, 1) := by decide +kernel
theorem dX10_customs_10 : decode cX10_customs 10 = .ok (.iconst 0, 1) := by decide +kernel
theorem dX10_customs_11 : decode cX10_customs 11 = .ok (.istore_n 1, 1) := by decide +kernel
theorem dX10_customs_12 : decode cX10_customs 12 = .ok (.iload_n 1, 1) := by decide +kernel
theorem dX10_customs_13 : decode cX10_customs 13 = .ok (.aload_n 0, 1) := by decide +kernel
theorem dX10_customs_14 : decode cX10_customs 14 = .ok (.getfield 132, 3) := by decide +kernel
theorem dX10_customs_17 : decode cX10_customs 17 = .ok (.if_icmp .ge 14, 3) := by decide +kernel
theorem dX10_customs_20 : decode cX10_customs 20 = .ok (.aload_n 0, 1) := by decide +kernel
theorem dX10_customs_21 : decode cX10_customs 21 = .ok (.iload_n 1, 1) := by decide +kernel
theorem dX10_customs_22 : decode cX10_customs 22 = .ok (.invokevirtual 157, 3) := by decide +kernel
theorem dX10_customs_25 : decode cX10_customs 25 = .ok (.iinc 1 1, 3) := by decide +kernel
theorem dX10_customs_28 : decode cX10_customs 28 = .ok (.goto (-16), 3) := by decide +kernel
theorem dX10_customs_31 : decode cX10_customs 31 = .ok (.aload_n 0, 1) := by decide +kernel
theorem dX10_customs_32 : decode cX10_customs 32 = .ok (.getfield 7, 3) := by decide +kernel
theorem dX10_customs_35 : decode cX10_customs 35 = .ok (.iconst 4, 1) := by decide +kernel
theorem dX10_customs_36 : decode cX10_customs 36 = .ok (.iconst 0, 1) := by decide +kernel
theorem dX10_customs_37 : decode cX10_customs 37 = .ok (.iastore, 1) := by decide +kernel
theorem dX10_customs_38 : decode cX10_customs 38 = .ok (.aload_n 0, 1) := by decide +kernel
theorem dX10_customs_39 : decode cX10_customs 39 = .ok (.getfield 7, 3) := by decide +kernel
theorem dX10_customs_42 : decode cX10_customs 42 = .ok (.iconst 5, 1) := by decide +kernel
theorem dX10_customs_43 : decode cX10_customs 43 = .ok (.iconst 0, 1) := by decide +kernel
theorem dX10_customs_44 : decode cX10_customs 44 = .ok (.iastore, 1) := by decide +kernel
theorem dX10_customs_45 : decode cX10_customs 45 = .ok (.iconst 0, 1) := by decide +kernel
theorem dX10_customs_46 : decode cX10_customs 46 = .ok (.istore_n 1, 1) := by decide +kernel
theorem dX10_customs_47 : decode cX10_customs 47 = .ok (.iload_n 1, 1) := by decide +kernel
theorem dX10_customs_48 : decode cX10_customs 48 = .ok (.bipush 6, 2) := by decide +kernel
theorem dX10_customs_50 : decode cX10_customs 50 = .ok (.if_icmp .ge 23, 3) := by decide +kernel
theorem dX10_customs_53 : decode cX10_customs 53 = .ok (.aload_n 0, 1) := by decide +kernel
theorem dX10_customs_54 : decode cX10_customs 54 = .ok (.getfield 7, 3) := by decide +kernel
theorem dX10_customs_57 : decode cX10_customs 57 = .ok (.bipush 46, 2) := by decide +kernel
theorem dX10_customs_59 : decode cX10_customs 59 = .ok (.iconst 3, 1) := by decide +kernel
theorem dX10_customs_60 : decode cX10_customs 60 = .ok (.iload_n 1, 1) := by decide +kernel
theorem dX10_customs_61 : decode cX10_customs 61 = .ok (.imul, 1) := by decide +kernel
theorem dX10_customs_62 : decode cX10_customs 62 = .ok (.iadd, 1) := by decide +kernel
theorem dX10_customs_63 : decode cX10_customs 63 = .ok (.iconst 2, 1) := by decide +kernel
theorem dX10_customs_64 : decode cX10_customs 64 = .ok (.iadd, 1) := by decide +kernel
theorem dX10_customs_65 : decode cX10_customs 65 = .ok (.iconst 0, 1) := by decide +kernel
theorem dX10_customs_66 : decode cX10_customs 66 = .ok (.iastore, 1) := by decide +kernel
theorem dX10_customs_67 : decode cX10_customs 67 = .ok (.iinc 1 1, 3) := by decide +kernel
theorem dX10_customs_70 : decode cX10_customs 70 = .ok (.goto (-23), 3) := by decide +kernel
theorem dX10_customs_73 : decode cX10_customs 73 = .ok (.iconst 0, 1) := by decide +kernel
theorem dX10_customs_74 : decode cX10_customs 74 = .ok (.istore_n 1, 1) := by decide +kernel
theorem dX10_customs_75 : decode cX10_customs 75 = .ok (.iload_n 1, 1) := by decide +kernel
theorem dX10_customs_76 : decode cX10_customs 76 = .ok (.bipush 6, 2) := by decide +kernel
theorem dX10_customs_78 : decode cX10_customs 78 = .ok (.if_icmp .ge 19, 3) := by decide +kernel
theorem dX10_customs_81 : decode cX10_customs 81 = .ok (.aload_n 0, 1) := by decide +kernel
theorem dX10_customs_82 : decode cX10_customs 82 = .ok (.getfield 7, 3) := by decide +kernel
theorem dX10_customs_85 : decode cX10_customs 85 = .ok (.bipush 67, 2) := by decide +kernel
theorem dX10_customs_87 : decode cX10_customs 87 = .ok (.iload_n 1, 1) := by decide +kernel
theorem dX10_customs_88 : decode cX10_customs 88 = .ok (.iadd, 1) := by decide +kernel
theorem dX10_customs_89 : decode cX10_customs 89 = .ok (.iconst 0, 1) := by decide +kernel
theorem dX10_customs_90 : decode cX10_customs 90 = .ok (.iastore, 1) := by decide +kernel
theorem dX10_customs_91 : decode cX10_customs 91 = .ok (.iinc 1 1, 3) := by decide +kernel
theorem dX10_customs_94 : decode cX10_customs 94 = .ok (.goto (-19), 3) := by decide +kernel
theorem dX10_customs_97 : decode cX10_customs 97 = .ok (.aload_n 0, 1) := by decide +kernel
theorem dX10_customs_98 : decode cX10_customs 98 = .ok (.iconst 0, 1) := by decide +kernel
theorem dX10_customs_99 : decode cX10_customs 99 = .ok (.putfield 67, 3) := by decide +kernel
theorem dX10_customs_102 : decode cX10_customs 102 = .ok (.aload_n 0, 1) := by decide +kernel
theorem dX10_customs_103 : decode cX10_customs 103 = .ok (.iconst 0, 1) := by decide +kernel
theorem dX10_customs_104 : decode cX10_customs 104 = .ok (.putfield 161, 3) := by decide +kernel
theorem dX10_customs_107 : decode cX10_customs 107 = .ok (.aload_n 0, 1) := by decide +kernel
theorem dX10_customs_108 : decode cX10_customs 108 = .ok (.iconst 0, 1) := by decide +kernel
theorem dX10_customs_109 : decode cX10_customs 109 = .ok (.putfield 164, 3) := by decide +kernel
theorem dX10_customs_112 : decode cX10_customs 112 = .ok (.aload_n 0, 1) := by decide +kernel
theorem dX10_customs_113 : decode cX10_customs 113 = .ok (.iconst 0, 1) := by decide +kernel
theorem dX10_customs_114 : decode cX10_customs 114 = .ok (.putfield 167, 3) := by decide +kernel
theorem dX10_customs_117 : decode cX10_customs 117 = .ok (.aload_n 0, 1) := by decide +kernel
theorem dX10_customs_118 : decode cX10_customs 118 = .ok (.getfield 19, 3) := by decide +kernel
theorem dX10_customs_121 : decode cX10_customs 121 = .ok (.iconst 0, 1) := by decide +kernel
theorem dX10_customs_122 : decode cX10_customs 122 = .ok (.iconst 0, 1) := by decide +kernel
theorem dX10_customs_123 : decode cX10_customs 123 = .ok (.bastore, 1) := by decide +kernel
theorem dX10_customs_124 : decode cX10_customs 124 = .ok (.aload_n 0, 1) := by decide +kernel
theorem dX10_customs_125 : decode cX10_customs 125 = .ok (.getfield 19, 3) := by decide +kernel
theorem dX10_customs_128 : decode cX10_customs 128 = .ok (.iconst 1, 1) := by decide +kernel
theorem dX10_customs_129 : decode cX10_customs 129 = .ok (.iconst 0, 1) := by decide +kernel
theorem dX10_customs_130 : decode cX10_customs 130 = .ok (.bastore, 1) := by decide +kernel
theorem dX10_customs_131 : decode cX10_customs 131 = .ok (.aload_n 0, 1) := by decide +kernel
theorem dX10_customs_132 : decode cX10_customs 132 = .ok (.iconst 0, 1) := by decide +kernel
theorem dX10_customs_133 : decode cX10_customs 133 = .ok (.putfield 170, 3) := by decide +kernel
theorem dX10_customs_136 : decode cX10_customs 136 = .ok (.aload_n 0, 1) := by decide +kernel
theorem dX10_customs_137 : decode cX10_customs 137 = .ok (.getfield 132, 3) := by decide +kernel
theorem dX10_customs_140 : decode cX10_customs 140 = .ok (.ireturn, 1) := by decide +kernel
theorem dX10_word_0 : decode cX10_word 0 = .ok (.aload_n 0, 1) := by decide +kernel
theorem dX10_word_1 : decode cX10_word 1 = .ok (.iload_n 1, 1) := by decide +kernel
theorem dX10_word_2 : decode cX10_word 2 = .ok (.invokevirtual 173, 3) := by decide +kernel
theorem dX10_word_5 : decode cX10_word 5 = .ok (.ifCond .ne 8, 3) := by decide +kernel
theorem dX10_word_8 : decode cX10_word 8 = .ok (.bipush (-2), 2) := by decide +kernel
theorem dX10_word_10 : decode cX10_word 10 = .ok (.goto 33, 3) := by decide +kernel
theorem dX10_word_13 : decode cX10_word 13 = .ok (.iload_n 2, 1) := by decide +kernel
theorem dX10_word_14 : decode cX10_word 14 = .ok (.i2l, 1) := by decide +kernel
theorem dX10_word_15 : decode cX10_word 15 = .ok (.lconst 0, 1) := by decide +kernel
theorem dX10_word_16 : decode cX10_word 16 = .ok (.ldc2_w 176, 3) := by decide +kernel
theorem dX10_word_19 : decode cX10_word 19 = .ok (.invokestatic 54, 3) := by decide +kernel
theorem dX10_word_22 : decode cX10_word 22 = .ok (.ifCond .eq 19, 3) := by decide +kernel
theorem dX10_word_25 : decode cX10_word 25 = .ok (.aload_n 0, 1) := by decide +kernel
theorem dX10_word_26 : decode cX10_word 26 = .ok (.getfield 7, 3) := by decide +kernel
theorem dX10_word_29 : decode cX10_word 29 = .ok (.bipush 6, 2) := by decide +kernel
theorem dX10_word_31 : decode cX10_word 31 = .ok (.iconst 4, 1) := by decide +kernel
theorem dX10_word_32 : decode cX10_word 32 = .ok (.iload_n 1, 1) := by decide +kernel
theorem dX10_word_33 : decode cX10_word 33 = .ok (.imul, 1) := by decide +kernel
theorem dX10_word_34 : decode cX10_word 34 = .ok (.iadd, 1) := by decide +kernel
theorem dX10_word_35 : decode cX10_word 35 = .ok (.iload_n 2, 1) := by decide +kernel
theorem dX10_word_36 : decode cX10_word 36 = .ok (.iadd, 1) := by decide +kernel
theorem dX10_word_37 : decode cX10_word 37 = .ok (.iaload, 1) := by decide +kernel
theorem dX10_word_38 : decode cX10_word 38 = .ok (.goto 5, 3) := by decide +kernel
theorem dX10_word_41 : decode cX10_word 41 = .ok (.bipush (-3), 2) := by decide +kernel
theorem dX10_word_43 : decode cX10_word 43 = .ok (.ireturn, 1) := by decide +kernel
theorem dX10_ware_0 : decode cX10_ware 0 = .ok (.aload_n 0, 1) := by decide +kernel
theorem dX10_ware_1 : decode cX10_ware 1 = .ok (.iload_n 1, 1) := by decide +kernel
theorem dX10_ware_2 : decode cX10_ware 2 = .ok (.invokevirtual 58, 3) := by decide +kernel
theorem dX10_ware_5 : decode cX10_ware 5 = .ok (.ifCond .ne 8, 3) := by decide +kernel
theorem dX10_ware_8 : decode cX10_ware 8 = .ok (.bipush (-2), 2) := by decide +kernel
theorem dX10_ware_10 : decode cX10_ware 10 = .ok (.goto 33, 3) := by decide +kernel
theorem dX10_ware_13 : decode cX10_ware 13 = .ok (.iload_n 2, 1) := by decide +kernel
theorem dX10_ware_14 : decode cX10_ware 14 = .ok (.i2l, 1) := by decide +kernel
theorem dX10_ware_15 : decode cX10_ware 15 = .ok (.lconst 0, 1) := by decide +kernel
theorem dX10_ware_16 : decode cX10_ware 16 = .ok (.ldc2_w 178, 3) := by decide +kernel
theorem dX10_ware_19 : decode cX10_ware 19 = .ok (.invokestatic 54, 3) := by decide +kernel
theorem dX10_ware_22 : decode cX10_ware 22 = .ok (.ifCond .eq 19, 3) := by decide +kernel
theorem dX10_ware_25 : decode cX10_ware 25 = .ok (.aload_n 0, 1) := by decide +kernel
theorem dX10_ware_26 : decode cX10_ware 26 = .ok (.getfield 7, 3) := by decide +kernel
theorem dX10_ware_29 : decode cX10_ware 29 = .ok (.bipush 46, 2) := by decide +kernel
theorem dX10_ware_31 : decode cX10_ware 31 = .ok (.iconst 3, 1) := by decide +kernel
theorem dX10_ware_32 : decode cX10_ware 32 = .ok (.iload_n 1, 1) := by decide +kernel
theorem dX10_ware_33 : decode cX10_ware 33 = .ok (.imul, 1) := by decide +kernel
theorem dX10_ware_34 : decode cX10_ware 34 = .ok (.iadd, 1) := by decide +kernel
theorem dX10_ware_35 : decode cX10_ware 35 = .ok (.iload_n 2, 1) := by decide +kernel
theorem dX10_ware_36 : decode cX10_ware 36 = .ok (.iadd, 1) := by decide +kernel
theorem dX10_ware_37 : decode cX10_ware 37 = .ok (.iaload, 1) := by decide +kernel
theorem dX10_ware_38 : decode cX10_ware 38 = .ok (.goto 5, 3) := by decide +kernel
theorem dX10_ware_41 : decode cX10_ware 41 = .ok (.bipush (-3), 2) := by decide +kernel
theorem dX10_ware_43 : decode cX10_ware 43 = .ok (.ireturn, 1) := by decide +kernel
theorem dX10_clerk_0 : decode cX10_clerk 0 = .ok (.aload_n 0, 1) := by decide +kernel
theorem dX10_clerk_1 : decode cX10_clerk 1 = .ok (.iload_n 1, 1) := by decide +kernel
theorem dX10_clerk_2 : decode cX10_clerk 2 = .ok (.invokevirtual 62, 3) := by decide +kernel
theorem dX10_clerk_5 : decode cX10_clerk 5 = .ok (.ifCond .eq 15, 3) := by decide +kernel
theorem dX10_clerk_8 : decode cX10_clerk 8 = .ok (.aload_n 0, 1) := by decide +kernel
theorem dX10_clerk_9 : decode cX10_clerk 9 = .ok (.getfield 7, 3) := by decide +kernel
theorem dX10_clerk_12 : decode cX10_clerk 12 = .ok (.bipush 64, 2) := by decide +kernel
theorem dX10_clerk_14 : decode cX10_clerk 14 = .ok (.iload_n 1, 1) := by decide +kernel
theorem dX10_clerk_15 : decode cX10_clerk 15 = .ok (.iadd, 1) := by decide +kernel
theorem dX10_clerk_16 : decode cX10_clerk 16 = .ok (.iaload, 1) := by decide +kernel
theorem dX10_clerk_17 : decode cX10_clerk 17 = .ok (.goto 5, 3) := by decide +kernel
theorem dX10_clerk_20 : decode cX10_clerk 20 = .ok (.bipush (-2), 2) := by decide +kernel
theorem dX10_clerk_22 : decode cX10_clerk 22 = .ok (.ireturn, 1) := by decide +kernel
theorem dX10_portsOf_0 : decode cX10_portsOf 0 = .ok (.iconst 0, 1) := by decide +kernel
theorem dX10_portsOf_1 : decode cX10_portsOf 1 = .ok (.istore_n 2, 1) := by decide +kernel
theorem dX10_portsOf_2 : decode cX10_portsOf 2 = .ok (.iconst 0, 1) := by decide +kernel
theorem dX10_portsOf_3 : decode cX10_portsOf 3 = .ok (.istore_n 3, 1) := by decide +kernel
theorem dX10_portsOf_4 : decode cX10_portsOf 4 = .ok (.iload_n 3, 1) := by decide +kernel
theorem dX10_portsOf_5 : decode cX10_portsOf 5 = .ok (.iconst 4, 1) := by decide +kernel
theorem dX10_portsOf_6 : decode cX10_portsOf 6 = .ok (.if_icmp .ge 32, 3) := by decide +kernel
theorem dX10_portsOf_9 : decode cX10_portsOf 9 = .ok (.iload_n 2, 1) := by decide +kernel
theorem dX10_portsOf_10 : decode cX10_portsOf 10 = .ok (.aload_n 0, 1) := by decide +kernel
theorem dX10_portsOf_11 : decode cX10_portsOf 11 = .ok (.getfield 7, 3) := by decide +kernel
theorem dX10_portsOf_14 : decode cX10_portsOf 14 = .ok (.bipush 42, 2) := by decide +kernel
theorem dX10_portsOf_16 : decode cX10_portsOf 16 = .ok (.iload_n 3, 1) := by decide +kernel
theorem dX10_portsOf_17 : decode cX10_portsOf 17 = .ok (.iadd, 1) := by decide +kernel
theorem dX10_portsOf_18 : decode cX10_portsOf 18 = .ok (.iaload, 1) := by decide +kernel
theorem dX10_portsOf_19 : decode cX10_portsOf 19 = .ok (.iload_n 1, 1) := by decide +kernel
theorem dX10_portsOf_20 : decode cX10_portsOf 20 = .ok (.if_icmp .ne 9, 3) := by decide +kernel
theorem dX10_portsOf_23 : decode cX10_portsOf 23 = .ok (.iconst 1, 1) := by decide +kernel
theorem dX10_portsOf_24 : decode cX10_portsOf 24 = .ok (.iload_n 3, 1) := by decide +kernel
theorem dX10_portsOf_25 : decode cX10_portsOf 25 = .ok (.ishl, 1) := by decide +kernel
theorem dX10_portsOf_26 : decode cX10_portsOf 26 = .ok (.goto 4, 3) := by decide +kernel
theorem dX10_portsOf_29 : decode cX10_portsOf 29 = .ok (.iconst 0, 1) := by decide +kernel
theorem dX10_portsOf_30 : decode cX10_portsOf 30 = .ok (.ior, 1) := by decide +kernel
theorem dX10_portsOf_31 : decode cX10_portsOf 31 = .ok (.istore_n 2, 1) := by decide +kernel
theorem dX10_portsOf_32 : decode cX10_portsOf 32 = .ok (.iinc 3 1, 3) := by decide +kernel
theorem dX10_portsOf_35 : decode cX10_portsOf 35 = .ok (.goto (-31), 3) := by decide +kernel
theorem dX10_portsOf_38 : decode cX10_portsOf 38 = .ok (.iload_n 2, 1) := by decide +kernel
theorem dX10_portsOf_39 : decode cX10_portsOf 39 = .ok (.ireturn, 1) := by decide +kernel
theorem dX10_rhyme_0 : decode cX10_rhyme 0 = .ok (.iload_n 1, 1) := by decide +kernel
theorem dX10_rhyme_1 : decode cX10_rhyme 1 = .ok (.i2l, 1) := by decide +kernel
theorem dX10_rhyme_2 : decode cX10_rhyme 2 = .ok (.lconst 0, 1) := by decide +kernel
theorem dX10_rhyme_3 : decode cX10_rhyme 3 = .ok (.ldc2_w 180, 3) := by decide +kernel
theorem dX10_rhyme_6 : decode cX10_rhyme 6 = .ok (.invokestatic 54, 3) := by decide +kernel
theorem dX10_rhyme_9 : decode cX10_rhyme 9 = .ok (.ifCond .ne 6, 3) := by decide +kernel
theorem dX10_rhyme_12 : decode cX10_rhyme 12 = .ok (.bipush (-2), 2) := by decide +kernel
theorem dX10_rhyme_14 : decode cX10_rhyme 14 = .ok (.ireturn, 1) := by decide +kernel
theorem dX10_rhyme_15 : decode cX10_rhyme 15 = .ok (.iload_n 2, 1) := by decide +kernel
theorem dX10_rhyme_16 : decode cX10_rhyme 16 = .ok (.ifCond .ne 15, 3) := by decide +kernel
theorem dX10_rhyme_19 : decode cX10_rhyme 19 = .ok (.aload_n 0, 1) := by decide +kernel
theorem dX10_rhyme_20 : decode cX10_rhyme 20 = .ok (.getfield 7, 3) := by decide +kernel
theorem dX10_rhyme_23 : decode cX10_rhyme 23 = .ok (.bipush 67, 2) := by decide +kernel
theorem dX10_rhyme_25 : decode cX10_rhyme 25 = .ok (.iload_n 1, 1) := by decide +kernel
theorem dX10_rhyme_26 : decode cX10_rhyme 26 = .ok (.iadd, 1) := by decide +kernel
theorem dX10_rhyme_27 : decode cX10_rhyme 27 = .ok (.iaload, 1) := by decide +kernel
theorem dX10_rhyme_28 : decode cX10_rhyme 28 = .ok (.goto 12, 3) := by decide +kernel
theorem dX10_rhyme_31 : decode cX10_rhyme 31 = .ok (.aload_n 0, 1) := by decide +kernel
theorem dX10_rhyme_32 : decode cX10_rhyme 32 = .ok (.getfield 7, 3) := by decide +kernel
theorem dX10_rhyme_35 : decode cX10_rhyme 35 = .ok (.bipush 73, 2) := by decide +kernel
theorem dX10_rhyme_37 : decode cX10_rhyme 37 = .ok (.iload_n 1, 1) := by decide +kernel
theorem dX10_rhyme_38 : decode cX10_rhyme 38 = .ok (.iadd, 1) := by decide +kernel
theorem dX10_rhyme_39 : decode cX10_rhyme 39 = .ok (.iaload, 1) := by decide +kernel
theorem dX10_rhyme_40 : decode cX10_rhyme 40 = .ok (.istore_n 3, 1) := by decide +kernel
theorem dX10_rhyme_41 : decode cX10_rhyme 41 = .ok (.iload_n 2, 1) := by decide +kernel
theorem dX10_rhyme_42 : decode cX10_rhyme 42 = .ok (.i2l, 1) := by decide +kernel
theorem dX10_rhyme_43 : decode cX10_rhyme 43 = .ok (.lconst 0, 1) := by decide +kernel
theorem dX10_rhyme_44 : decode cX10_rhyme 44 = .ok (.ldc2_w 178, 3) := by decide +kernel
theorem dX10_rhyme_47 : decode cX10_rhyme 47 = .ok (.invokestatic 54, 3) := by decide +kernel
theorem dX10_rhyme_50 : decode cX10_rhyme 50 = .ok (.ifCond .ne 8, 3) := by decide +kernel
theorem dX10_rhyme_53 : decode cX10_rhyme 53 = .ok (.bipush (-3), 2) := by decide +kernel
theorem dX10_rhyme_55 : decode cX10_rhyme 55 = .ok (.goto 17, 3) := by decide +kernel
theorem dX10_rhyme_58 : decode cX10_rhyme 58 = .ok (.iload_n 2, 1) := by decide +kernel
theorem dX10_rhyme_59 : decode cX10_rhyme 59 = .ok (.iconst 2, 1) := by decide +kernel
theorem dX10_rhyme_60 : decode cX10_rhyme 60 = .ok (.if_icmp .ne 11, 3) := by decide +kernel
theorem dX10_rhyme_63 : decode cX10_rhyme 63 = .ok (.aload_n 0, 1) := by decide +kernel
theorem dX10_rhyme_64 : decode cX10_rhyme 64 = .ok (.iload_n 1, 1) := by decide +kernel
theorem dX10_rhyme_65 : decode cX10_rhyme 65 = .ok (.invokevirtual 182, 3) := by decide +kernel
theorem dX10_rhyme_68 : decode cX10_rhyme 68 = .ok (.goto 4, 3) := by decide +kernel
theorem dX10_rhyme_71 : decode cX10_rhyme 71 = .ok (.iload_n 3, 1) := by decide +kernel
theorem dX10_rhyme_72 : decode cX10_rhyme 72 = .ok (.ireturn, 1) := by decide +kernel
theorem dX10_kindOf_0 : decode cX10_kindOf 0 = .ok (.aload_n 0, 1) := by decide +kernel
theorem dX10_kindOf_1 : decode cX10_kindOf 1 = .ok (.getfield 7, 3) := by decide +kernel
theorem dX10_kindOf_4 : decode cX10_kindOf 4 = .ok (.bipush 6, 2) := by decide +kernel
theorem dX10_kindOf_6 : decode cX10_kindOf 6 = .ok (.iconst 4, 1) := by decide +kernel
theorem dX10_kindOf_7 : decode cX10_kindOf 7 = .ok (.iload_n 1, 1) := by decide +kernel
theorem dX10_kindOf_8 : decode cX10_kindOf 8 = .ok (.imul, 1) := by decide +kernel
theorem dX10_kindOf_9 : decode cX10_kindOf 9 = .ok (.iadd, 1) := by decide +kernel
theorem dX10_kindOf_10 : decode cX10_kindOf 10 = .ok (.iaload, 1) := by decide +kernel
theorem dX10_kindOf_11 : decode cX10_kindOf 11 = .ok (.ireturn, 1) := by decide +kernel
theorem dX10_as_0 : decode cX10_as 0 = .ok (.aload_n 0, 1) := by decide +kernel
theorem dX10_as_1 : decode cX10_as 1 = .ok (.iload_n 1, 1) := by decide +kernel
theorem dX10_as_2 : decode cX10_as 2 = .ok (.invokevirtual 173, 3) := by decide +kernel
theorem dX10_as_5 : decode cX10_as 5 = .ok (.ifCond .ne 6, 3) := by decide +kernel
theorem dX10_as_8 : decode cX10_as 8 = .ok (.bipush (-2), 2) := by decide +kernel
theorem dX10_as_10 : decode cX10_as 10 = .ok (.ireturn, 1) := by decide +kernel
theorem dX10_as_11 : decode cX10_as 11 = .ok (.iload_n 2, 1) := by decide +kernel
theorem dX10_as_12 : decode cX10_as 12 = .ok (.i2l, 1) := by decide +kernel
theorem dX10_as_13 : decode cX10_as 13 = .ok (.lconst 0, 1) := by decide +kernel
theorem dX10_as_14 : decode cX10_as 14 = .ok (.ldc2_w 185, 3) := by decide +kernel
theorem dX10_as_17 : decode cX10_as 17 = .ok (.invokestatic 54, 3) := by decide +kernel
theorem dX10_as_20 : decode cX10_as 20 = .ok (.ifCond .ne 6, 3) := by decide +kernel
theorem dX10_as_23 : decode cX10_as 23 = .ok (.bipush (-3), 2) := by decide +kernel
theorem dX10_as_25 : decode cX10_as 25 = .ok (.ireturn, 1) := by decide +kernel
theorem dX10_as_26 : decode cX10_as 26 = .ok (.aload_n 0, 1) := by decide +kernel
theorem dX10_as_27 : decode cX10_as 27 = .ok (.iload_n 1, 1) := by decide +kernel
theorem dX10_as_28 : decode cX10_as 28 = .ok (.invokevirtual 187, 3) := by decide +kernel
theorem dX10_as_31 : decode cX10_as 31 = .ok (.istore_n 3, 1) := by decide +kernel
theorem dX10_as_32 : decode cX10_as 32 = .ok (.iload_n 2, 1) := by decide +kernel
theorem dX10_as_33 : decode cX10_as 33 = .ok (.iconst 1, 1) := by decide +kernel
theorem dX10_as_34 : decode cX10_as 34 = .ok (.if_icmp .ne 8, 3) := by decide +kernel
theorem dX10_as_37 : decode cX10_as 37 = .ok (.iload_n 3, 1) := by decide +kernel
theorem dX10_as_38 : decode cX10_as 38 = .ok (.iconst 2, 1) := by decide +kernel
theorem dX10_as_39 : decode cX10_as 39 = .ok (.if_icmp .lt 13, 3) := by decide +kernel
theorem dX10_as_42 : decode cX10_as 42 = .ok (.iload_n 2, 1) := by decide +kernel
theorem dX10_as_43 : decode cX10_as 43 = .ok (.iconst 2, 1) := by decide +kernel
theorem dX10_as_44 : decode cX10_as 44 = .ok (.if_icmp .ne 12, 3) := by decide +kernel
theorem dX10_as_47 : decode cX10_as 47 = .ok (.iload_n 3, 1) := by decide +kernel
theorem dX10_as_48 : decode cX10_as 48 = .ok (.iconst 1, 1) := by decide +kernel
theorem dX10_as_49 : decode cX10_as 49 = .ok (.if_icmp .ne 7, 3) := by decide +kernel
theorem dX10_as_52 : decode cX10_as 52 = .ok (.iconst 1, 1) := by decide +kernel
theorem dX10_as_53 : decode cX10_as 53 = .ok (.goto 4, 3) := by decide +kernel
theorem dX10_as_56 : decode cX10_as 56 = .ok (.iconst 0, 1) := by decide +kernel
theorem dX10_as_57 : decode cX10_as 57 = .ok (.istore 4, 2) := by decide +kernel
theorem dX10_as_59 : decode cX10_as 59 = .ok (.iload_n 2, 1) := by decide +kernel
theorem dX10_as_60 : decode cX10_as 60 = .ok (.ifCond .eq 28, 3) := by decide +kernel
theorem dX10_as_63 : decode cX10_as 63 = .ok (.iload 4, 2) := by decide +kernel
theorem dX10_as_65 : decode cX10_as 65 = .ok (.ifCond .ne 23, 3) := by decide +kernel
theorem dX10_as_68 : decode cX10_as 68 = .ok (.iload_n 2, 1) := by decide +kernel
theorem dX10_as_69 : decode cX10_as 69 = .ok (.iconst 3, 1) := by decide +kernel
theorem dX10_as_70 : decode cX10_as 70 = .ok (.if_icmp .ne 8, 3) := by decide +kernel
theorem dX10_as_73 : decode cX10_as 73 = .ok (.iload_n 3, 1) := by decide +kernel
theorem dX10_as_74 : decode cX10_as 74 = .ok (.iconst 2, 1) := by decide +kernel
theorem dX10_as_75 : decode cX10_as 75 = .ok (.if_icmp .ge 13, 3) := by decide +kernel
theorem dX10_as_78 : decode cX10_as 78 = .ok (.iload_n 2, 1) := by decide +kernel
theorem dX10_as_79 : decode cX10_as 79 = .ok (.iconst 4, 1) := by decide +kernel
theorem dX10_as_80 : decode cX10_as 80 = .ok (.if_icmp .ne 12, 3) := by decide +kernel
theorem dX10_as_83 : decode cX10_as 83 = .ok (.iload_n 3, 1) := by decide +kernel
theorem dX10_as_84 : decode cX10_as 84 = .ok (.iconst 3, 1) := by decide +kernel
theorem dX10_as_85 : decode cX10_as 85 = .ok (.if_icmp .ne 7, 3) := by decide +kernel
theorem dX10_as_88 : decode cX10_as 88 = .ok (.iconst 1, 1) := by decide +kernel
theorem dX10_as_89 : decode cX10_as 89 = .ok (.goto 4, 3) := by decide +kernel
theorem dX10_as_92 : decode cX10_as 92 = .ok (.iconst 0, 1) := by decide +kernel
theorem dX10_as_93 : decode cX10_as 93 = .ok (.istore 5, 2) := by decide +kernel
theorem dX10_as_95 : decode cX10_as 95 = .ok (.iload 5, 2) := by decide +kernel
theorem dX10_as_97 : decode cX10_as 97 = .ok (.ifCond .ne 8, 3) := by decide +kernel
theorem dX10_as_100 : decode cX10_as 100 = .ok (.bipush (-4), 2) := by decide +kernel
theorem dX10_as_102 : decode cX10_as 102 = .ok (.goto 30, 3) := by decide +kernel
theorem dX10_as_105 : decode cX10_as 105 = .ok (.iload_n 3, 1) := by decide +kernel
theorem dX10_as_106 : decode cX10_as 106 = .ok (.iconst 2, 1) := by decide +kernel
theorem dX10_as_107 : decode cX10_as 107 = .ok (.if_icmp .ne 8, 3) := by decide +kernel
theorem dX10_as_110 : decode cX10_as 110 = .ok (.bipush 15, 2) := by decide +kernel
theorem dX10_as_112 : decode cX10_as 112 = .ok (.goto 20, 3) := by decide +kernel
theorem dX10_as_115 : decode cX10_as 115 = .ok (.aload_n 0, 1) := by decide +kernel
theorem dX10_as_116 : decode cX10_as 116 = .ok (.aload_n 0, 1) := by decide +kernel
theorem dX10_as_117 : decode cX10_as 117 = .ok (.getfield 7, 3) := by decide +kernel
theorem dX10_as_120 : decode cX10_as 120 = .ok (.bipush 6, 2) := by decide +kernel
theorem dX10_as_122 : decode cX10_as 122 = .ok (.iconst 4, 1) := by decide +kernel
theorem dX10_as_123 : decode cX10_as 123 = .ok (.iload_n 1, 1) := by decide +kernel
theorem dX10_as_124 : decode cX10_as 124 = .ok (.imul, 1) := by decide +kernel
theorem dX10_as_125 : decode cX10_as 125 = .ok (.iadd, 1) := by decide +kernel
theorem dX10_as_126 : decode cX10_as 126 = .ok (.iconst 3, 1) := by decide +kernel
theorem dX10_as_127 : decode cX10_as 127 = .ok (.iadd, 1) := by decide +kernel
theorem dX10_as_128 : decode cX10_as 128 = .ok (.iaload, 1) := by decide +kernel
theorem dX10_as_129 : decode cX10_as 129 = .ok (.invokevirtual 182, 3) := by decide +kernel
theorem dX10_as_132 : decode cX10_as 132 = .ok (.ireturn, 1) := by decide +kernel
theorem dX10_clerkAs_0 : decode cX10_clerkAs 0 = .ok (.aload_n 0, 1) := by decide +kernel
theorem dX10_clerkAs_1 : decode cX10_clerkAs 1 = .ok (.iload_n 1, 1) := by decide +kernel
theorem dX10_clerkAs_2 : decode cX10_clerkAs 2 = .ok (.invokevirtual 62, 3) := by decide +kernel
theorem dX10_clerkAs_5 : decode cX10_clerkAs 5 = .ok (.ifCond .ne 6, 3) := by decide +kernel
theorem dX10_clerkAs_8 : decode cX10_clerkAs 8 = .ok (.bipush (-2), 2) := by decide +kernel
theorem dX10_clerkAs_10 : decode cX10_clerkAs 10 = .ok (.ireturn, 1) := by decide +kernel
theorem dX10_clerkAs_11 : decode cX10_clerkAs 11 = .ok (.iload_n 2, 1) := by decide +kernel
theorem dX10_clerkAs_12 : decode cX10_clerkAs 12 = .ok (.i2l, 1) := by decide +kernel
theorem dX10_clerkAs_13 : decode cX10_clerkAs 13 = .ok (.lconst 0, 1) := by decide +kernel
theorem dX10_clerkAs_14 : decode cX10_clerkAs 14 = .ok (.ldc2_w 176, 3) := by decide +kernel
theorem dX10_clerkAs_17 : decode cX10_clerkAs 17 = .ok (.invokestatic 54, 3) := by decide +kernel
theorem dX10_clerkAs_20 : decode cX10_clerkAs 20 = .ok (.ifCond .ne 6, 3) := by decide +kernel
theorem dX10_clerkAs_23 : decode cX10_clerkAs 23 = .ok (.bipush (-3), 2) := by decide +kernel
theorem dX10_clerkAs_25 : decode cX10_clerkAs 25 = .ok (.ireturn, 1) := by decide +kernel
theorem dX10_clerkAs_26 : decode cX10_clerkAs 26 = .ok (.aload_n 0, 1) := by decide +kernel
theorem dX10_clerkAs_27 : decode cX10_clerkAs 27 = .ok (.getfield 7, 3) := by decide +kernel
theorem dX10_clerkAs_30 : decode cX10_clerkAs 30 = .ok (.bipush 64, 2) := by decide +kernel
theorem dX10_clerkAs_32 : decode cX10_clerkAs 32 = .ok (.iload_n 1, 1) := by decide +kernel
theorem dX10_clerkAs_33 : decode cX10_clerkAs 33 = .ok (.iadd, 1) := by decide +kernel
theorem dX10_clerkAs_34 : decode cX10_clerkAs 34 = .ok (.iaload, 1) := by decide +kernel
theorem dX10_clerkAs_35 : decode cX10_clerkAs 35 = .ok (.istore_n 3, 1) := by decide +kernel
theorem dX10_clerkAs_36 : decode cX10_clerkAs 36 = .ok (.iload_n 2, 1) := by decide +kernel
theorem dX10_clerkAs_37 : decode cX10_clerkAs 37 = .ok (.ifCond .eq 33, 3) := by decide +kernel
theorem dX10_clerkAs_40 : decode cX10_clerkAs 40 = .ok (.iload_n 2, 1) := by decide +kernel
theorem dX10_clerkAs_41 : decode cX10_clerkAs 41 = .ok (.iconst 1, 1) := by decide +kernel
theorem dX10_clerkAs_42 : decode cX10_clerkAs 42 = .ok (.if_icmp .ne 8, 3) := by decide +kernel
theorem dX10_clerkAs_45 : decode cX10_clerkAs 45 = .ok (.iload_n 3, 1) := by decide +kernel
theorem dX10_clerkAs_46 : decode cX10_clerkAs 46 = .ok (.iconst 1, 1) := by decide +kernel
theorem dX10_clerkAs_47 : decode cX10_clerkAs 47 = .ok (.if_icmp .ne 23, 3) := by decide +kernel
theorem dX10_clerkAs_50 : decode cX10_clerkAs 50 = .ok (.iload_n 2, 1) := by decide +kernel
theorem dX10_clerkAs_51 : decode cX10_clerkAs 51 = .ok (.iconst 2, 1) := by decide +kernel
theorem dX10_clerkAs_52 : decode cX10_clerkAs 52 = .ok (.if_icmp .ne 8, 3) := by decide +kernel
theorem dX10_clerkAs_55 : decode cX10_clerkAs 55 = .ok (.iload_n 3, 1) := by decide +kernel
theorem dX10_clerkAs_56 : decode cX10_clerkAs 56 = .ok (.iconst 1, 1) := by decide +kernel
theorem dX10_clerkAs_57 : decode cX10_clerkAs 57 = .ok (.if_icmp .eq 13, 3) := by decide +kernel
theorem dX10_clerkAs_60 : decode cX10_clerkAs 60 = .ok (.iload_n 2, 1) := by decide +kernel
theorem dX10_clerkAs_61 : decode cX10_clerkAs 61 = .ok (.iconst 3, 1) := by decide +kernel
theorem dX10_clerkAs_62 : decode cX10_clerkAs 62 = .ok (.if_icmp .ne 12, 3) := by decide +kernel
theorem dX10_clerkAs_65 : decode cX10_clerkAs 65 = .ok (.iload_n 3, 1) := by decide +kernel
theorem dX10_clerkAs_66 : decode cX10_clerkAs 66 = .ok (.iconst 2, 1) := by decide +kernel
theorem dX10_clerkAs_67 : decode cX10_clerkAs 67 = .ok (.if_icmp .ne 7, 3) := by decide +kernel
theorem dX10_clerkAs_70 : decode cX10_clerkAs 70 = .ok (.iconst 1, 1) := by decide +kernel
theorem dX10_clerkAs_71 : decode cX10_clerkAs 71 = .ok (.goto 4, 3) := by decide +kernel
theorem dX10_clerkAs_74 : decode cX10_clerkAs 74 = .ok (.iconst 0, 1) := by decide +kernel
theorem dX10_clerkAs_75 : decode cX10_clerkAs 75 = .ok (.istore 4, 2) := by decide +kernel
theorem dX10_clerkAs_77 : decode cX10_clerkAs 77 = .ok (.iload 4, 2) := by decide +kernel
theorem dX10_clerkAs_79 : decode cX10_clerkAs 79 = .ok (.ifCond .eq 19, 3) := by decide +kernel
theorem dX10_clerkAs_82 : decode cX10_clerkAs 82 = .ok (.aload_n 0, 1) := by decide +kernel
theorem dX10_clerkAs_83 : decode cX10_clerkAs 83 = .ok (.iload_n 3, 1) := by decide +kernel
theorem dX10_clerkAs_84 : decode cX10_clerkAs 84 = .ok (.aload_n 0, 1) := by decide +kernel
theorem dX10_clerkAs_85 : decode cX10_clerkAs 85 = .ok (.getfield 23, 3) := by decide +kernel
theorem dX10_clerkAs_88 : decode cX10_clerkAs 88 = .ok (.aload_n 0, 1) := by decide +kernel
theorem dX10_clerkAs_89 : decode cX10_clerkAs 89 = .ok (.getfield 161, 3) := by decide +kernel
theorem dX10_clerkAs_92 : decode cX10_clerkAs 92 = .ok (.invokevirtual 190, 3) := by decide +kernel
theorem dX10_clerkAs_95 : decode cX10_clerkAs 95 = .ok (.goto 5, 3) := by decide +kernel
theorem dX10_clerkAs_98 : decode cX10_clerkAs 98 = .ok (.bipush (-4), 2) := by decide +kernel
theorem dX10_clerkAs_100 : decode cX10_clerkAs 100 = .ok (.ireturn, 1) := by decide +kernel
theorem dX10_syllables_0 : decode cX10_syllables 0 = .ok (.aload_n 0, 1) := by decide +kernel
theorem dX10_syllables_1 : decode cX10_syllables 1 = .ok (.getfield 7, 3) := by decide +kernel
theorem dX10_syllables_4 : decode cX10_syllables 4 = .ok (.bipush 6, 2) := by decide +kernel
theorem dX10_syllables_6 : decode cX10_syllables 6 = .ok (.iconst 4, 1) := by decide +kernel
theorem dX10_syllables_7 : decode cX10_syllables 7 = .ok (.iload_n 1, 1) := by decide +kernel
theorem dX10_syllables_8 : decode cX10_syllables 8 = .ok (.imul, 1) := by decide +kernel
theorem dX10_syllables_9 : decode cX10_syllables 9 = .ok (.iadd, 1) := by decide +kernel
theorem dX10_syllables_10 : decode cX10_syllables 10 = .ok (.iconst 1, 1) := by decide +kernel
theorem dX10_syllables_11 : decode cX10_syllables 11 = .ok (.iadd, 1) := by decide +kernel
theorem dX10_syllables_12 : decode cX10_syllables 12 = .ok (.iaload, 1) := by decide +kernel
theorem dX10_syllables_13 : decode cX10_syllables 13 = .ok (.ireturn, 1) := by decide +kernel
theorem dX10_toldOf_0 : decode cX10_toldOf 0 = .ok (.iconst 0, 1) := by decide +kernel
theorem dX10_toldOf_1 : decode cX10_toldOf 1 = .ok (.istore_n 3, 1) := by decide +kernel
theorem dX10_toldOf_2 : decode cX10_toldOf 2 = .ok (.iconst 0, 1) := by decide +kernel
theorem dX10_toldOf_3 : decode cX10_toldOf 3 = .ok (.istore 4, 2) := by decide +kernel
theorem dX10_toldOf_5 : decode cX10_toldOf 5 = .ok (.iload 4, 2) := by decide +kernel
theorem dX10_toldOf_7 : decode cX10_toldOf 7 = .ok (.iload_n 2, 1) := by decide +kernel
theorem dX10_toldOf_8 : decode cX10_toldOf 8 = .ok (.if_icmp .ge 20, 3) := by decide +kernel
theorem dX10_toldOf_11 : decode cX10_toldOf 11 = .ok (.iload_n 3, 1) := by decide +kernel
theorem dX10_toldOf_12 : decode cX10_toldOf 12 = .ok (.aload_n 0, 1) := by decide +kernel
theorem dX10_toldOf_13 : decode cX10_toldOf 13 = .ok (.aload_n 1, 1) := by decide +kernel
theorem dX10_toldOf_14 : decode cX10_toldOf 14 = .ok (.iload 4, 2) := by decide +kernel
theorem dX10_toldOf_16 : decode cX10_toldOf 16 = .ok (.iaload, 1) := by decide +kernel
theorem dX10_toldOf_17 : decode cX10_toldOf 17 = .ok (.invokevirtual 194, 3) := by decide +kernel
theorem dX10_toldOf_20 : decode cX10_toldOf 20 = .ok (.iadd, 1) := by decide +kernel
theorem dX10_toldOf_21 : decode cX10_toldOf 21 = .ok (.istore_n 3, 1) := by decide +kernel
theorem dX10_toldOf_22 : decode cX10_toldOf 22 = .ok (.iinc 4 1, 3) := by decide +kernel
theorem dX10_toldOf_25 : decode cX10_toldOf 25 = .ok (.goto (-20), 3) := by decide +kernel
theorem dX10_toldOf_28 : decode cX10_toldOf 28 = .ok (.iload_n 3, 1) := by decide +kernel
theorem dX10_toldOf_29 : decode cX10_toldOf 29 = .ok (.ireturn, 1) := by decide +kernel
theorem dX10_countedBy_0 : decode cX10_countedBy 0 = .ok (.aload_n 0, 1) := by decide +kernel
theorem dX10_countedBy_1 : decode cX10_countedBy 1 = .ok (.aload_n 2, 1) := by decide +kernel
theorem dX10_countedBy_2 : decode cX10_countedBy 2 = .ok (.iload_n 3, 1) := by decide +kernel
theorem dX10_countedBy_3 : decode cX10_countedBy 3 = .ok (.invokevirtual 197, 3) := by decide +kernel
theorem dX10_countedBy_6 : decode cX10_countedBy 6 = .ok (.istore 4, 2) := by decide +kernel
theorem dX10_countedBy_8 : decode cX10_countedBy 8 = .ok (.iconst 0, 1) := by decide +kernel
theorem dX10_countedBy_9 : decode cX10_countedBy 9 = .ok (.istore 5, 2) := by decide +kernel
theorem dX10_countedBy_11 : decode cX10_countedBy 11 = .ok (.iload 5, 2) := by decide +kernel
theorem dX10_countedBy_13 : decode cX10_countedBy 13 = .ok (.iconst 1, 1) := by decide +kernel
theorem dX10_countedBy_14 : decode cX10_countedBy 14 = .ok (.iadd, 1) := by decide +kernel
theorem dX10_countedBy_15 : decode cX10_countedBy 15 = .ok (.iload_n 3, 1) := by decide +kernel
theorem dX10_countedBy_16 : decode cX10_countedBy 16 = .ok (.if_icmp .ge 36, 3) := by decide +kernel
theorem dX10_countedBy_19 : decode cX10_countedBy 19 = .ok (.iload 4, 2) := by decide +kernel
theorem dX10_countedBy_21 : decode cX10_countedBy 21 = .ok (.iload_n 1, 1) := by decide +kernel
theorem dX10_countedBy_22 : decode cX10_countedBy 22 = .ok (.iconst 1, 1) := by decide +kernel
theorem dX10_countedBy_23 : decode cX10_countedBy 23 = .ok (.if_icmp .ne 19, 3) := by decide +kernel
theorem dX10_countedBy_26 : decode cX10_countedBy 26 = .ok (.aload_n 0, 1) := by decide +kernel
theorem dX10_countedBy_27 : decode cX10_countedBy 27 = .ok (.aload_n 2, 1) := by decide +kernel
theorem dX10_countedBy_28 : decode cX10_countedBy 28 = .ok (.iload 5, 2) := by decide +kernel
theorem dX10_countedBy_30 : decode cX10_countedBy 30 = .ok (.iaload, 1) := by decide +kernel
theorem dX10_countedBy_31 : decode cX10_countedBy 31 = .ok (.invokevirtual 187, 3) := by decide +kernel
theorem dX10_countedBy_34 : decode cX10_countedBy 34 = .ok (.iconst 1, 1) := by decide +kernel
theorem dX10_countedBy_35 : decode cX10_countedBy 35 = .ok (.if_icmp .ne 7, 3) := by decide +kernel
theorem dX10_countedBy_38 : decode cX10_countedBy 38 = .ok (.iconst 1, 1) := by decide +kernel
theorem dX10_countedBy_39 : decode cX10_countedBy 39 = .ok (.goto 4, 3) := by decide +kernel
theorem dX10_countedBy_42 : decode cX10_countedBy 42 = .ok (.iconst 0, 1) := by decide +kernel
theorem dX10_countedBy_43 : decode cX10_countedBy 43 = .ok (.isub, 1) := by decide +kernel
theorem dX10_countedBy_44 : decode cX10_countedBy 44 = .ok (.istore 4, 2) := by decide +kernel
theorem dX10_countedBy_46 : decode cX10_countedBy 46 = .ok (.iinc 5 1, 3) := by decide +kernel
theorem dX10_countedBy_49 : decode cX10_countedBy 49 = .ok (.goto (-38), 3) := by decide +kernel
theorem dX10_countedBy_52 : decode cX10_countedBy 52 = .ok (.iload 4, 2) := by decide +kernel
theorem dX10_countedBy_54 : decode cX10_countedBy 54 = .ok (.ireturn, 1) := by decide +kernel
theorem dX10_isScanned_0 : decode cX10_isScanned 0 = .ok (.iconst 0, 1) := by decide +kernel
theorem dX10_isScanned_1 : decode cX10_isScanned 1 = .ok (.istore_n 3, 1) := by decide +kernel
theorem dX10_isScanned_2 : decode cX10_isScanned 2 = .ok (.iconst 1, 1) := by decide +kernel
theorem dX10_isScanned_3 : decode cX10_isScanned 3 = .ok (.istore 4, 2) := by decide +kernel
theorem dX10_isScanned_5 : decode cX10_isScanned 5 = .ok (.iconst 0, 1) := by decide +kernel
theorem dX10_isScanned_6 : decode cX10_isScanned 6 = .ok (.istore 5, 2) := by decide +kernel
theorem dX10_isScanned_8 : decode cX10_isScanned 8 = .ok (.iload 5, 2) := by decide +kernel
theorem dX10_isScanned_10 : decode cX10_isScanned 10 = .ok (.iload_n 2, 1) := by decide +kernel
theorem dX10_isScanned_11 : decode cX10_isScanned 11 = .ok (.if_icmp .ge 107, 3) := by decide +kernel
theorem dX10_isScanned_14 : decode cX10_isScanned 14 = .ok (.iload_n 3, 1) := by decide +kernel
theorem dX10_isScanned_15 : decode cX10_isScanned 15 = .ok (.aload_n 0, 1) := by decide +kernel
theorem dX10_isScanned_16 : decode cX10_isScanned 16 = .ok (.getfield 7, 3) := by decide +kernel
theorem dX10_isScanned_19 : decode cX10_isScanned 19 = .ok (.bipush 6, 2) := by decide +kernel
theorem dX10_isScanned_21 : decode cX10_isScanned 21 = .ok (.iconst 4, 1) := by decide +kernel
theorem dX10_isScanned_22 : decode cX10_isScanned 22 = .ok (.aload_n 1, 1) := by decide +kernel
theorem dX10_isScanned_23 : decode cX10_isScanned 23 = .ok (.iload 5, 2) := by decide +kernel
theorem dX10_isScanned_25 : decode cX10_isScanned 25 = .ok (.iaload, 1) := by decide +kernel
theorem dX10_isScanned_26 : decode cX10_isScanned 26 = .ok (.imul, 1) := by decide +kernel
theorem dX10_isScanned_27 : decode cX10_isScanned 27 = .ok (.iadd, 1) := by decide +kernel
theorem dX10_isScanned_28 : decode cX10_isScanned 28 = .ok (.iconst 2, 1) := by decide +kernel
theorem dX10_isScanned_29 : decode cX10_isScanned 29 = .ok (.iadd, 1) := by decide +kernel
theorem dX10_isScanned_30 : decode cX10_isScanned 30 = .ok (.iaload, 1) := by decide +kernel
theorem dX10_isScanned_31 : decode cX10_isScanned 31 = .ok (.iadd, 1) := by decide +kernel
theorem dX10_isScanned_32 : decode cX10_isScanned 32 = .ok (.istore 6, 2) := by decide +kernel
theorem dX10_isScanned_34 : decode cX10_isScanned 34 = .ok (.iload 6, 2) := by decide +kernel
theorem dX10_isScanned_36 : decode cX10_isScanned 36 = .ok (.iconst 2, 1) := by decide +kernel
theorem dX10_isScanned_37 : decode cX10_isScanned 37 = .ok (.irem, 1) := by decide +kernel
theorem dX10_isScanned_38 : decode cX10_isScanned 38 = .ok (.ifCond .ne 7, 3) := by decide +kernel
theorem dX10_isScanned_41 : decode cX10_isScanned 41 = .ok (.iconst 1, 1) := by decide +kernel
theorem dX10_isScanned_42 : decode cX10_isScanned 42 = .ok (.goto 4, 3) := by decide +kernel
theorem dX10_isScanned_45 : decode cX10_isScanned 45 = .ok (.iconst 0, 1) := by decide +kernel
theorem dX10_isScanned_46 : decode cX10_isScanned 46 = .ok (.istore 7, 2) := by decide +kernel
theorem dX10_isScanned_48 : decode cX10_isScanned 48 = .ok (.iload 4, 2) := by decide +kernel
theorem dX10_isScanned_50 : decode cX10_isScanned 50 = .ok (.ifCond .eq 48, 3) := by decide +kernel
theorem dX10_isScanned_53 : decode cX10_isScanned 53 = .ok (.aload_n 0, 1) := by decide +kernel
theorem dX10_isScanned_54 : decode cX10_isScanned 54 = .ok (.getfield 7, 3) := by decide +kernel
theorem dX10_isScanned_57 : decode cX10_isScanned 57 = .ok (.iconst 3, 1) := by decide +kernel
theorem dX10_isScanned_58 : decode cX10_isScanned 58 = .ok (.iaload, 1) := by decide +kernel
theorem dX10_isScanned_59 : decode cX10_isScanned 59 = .ok (.ifCond .eq 35, 3) := by decide +kernel
theorem dX10_isScanned_62 : decode cX10_isScanned 62 = .ok (.aload_n 0, 1) := by decide +kernel
theorem dX10_isScanned_63 : decode cX10_isScanned 63 = .ok (.aload_n 1, 1) := by decide +kernel
theorem dX10_isScanned_64 : decode cX10_isScanned 64 = .ok (.iload 5, 2) := by decide +kernel
theorem dX10_isScanned_66 : decode cX10_isScanned 66 = .ok (.iaload, 1) := by decide +kernel
theorem dX10_isScanned_67 : decode cX10_isScanned 67 = .ok (.invokevirtual 187, 3) := by decide +kernel
theorem dX10_isScanned_70 : decode cX10_isScanned 70 = .ok (.iconst 3, 1) := by decide +kernel
theorem dX10_isScanned_71 : decode cX10_isScanned 71 = .ok (.if_icmp .eq 23, 3) := by decide +kernel
theorem dX10_isScanned_74 : decode cX10_isScanned 74 = .ok (.iload 7, 2) := by decide +kernel
theorem dX10_isScanned_76 : decode cX10_isScanned 76 = .ok (.aload_n 0, 1) := by decide +kernel
theorem dX10_isScanned_77 : decode cX10_isScanned 77 = .ok (.getfield 7, 3) := by decide +kernel
theorem dX10_isScanned_80 : decode cX10_isScanned 80 = .ok (.iconst 3, 1) := by decide +kernel
theorem dX10_isScanned_81 : decode cX10_isScanned 81 = .ok (.iaload, 1) := by decide +kernel
theorem dX10_isScanned_82 : decode cX10_isScanned 82 = .ok (.iconst 1, 1) := by decide +kernel
theorem dX10_isScanned_83 : decode cX10_isScanned 83 = .ok (.if_icmp .ne 7, 3) := by decide +kernel
theorem dX10_isScanned_86 : decode cX10_isScanned 86 = .ok (.iconst 1, 1) := by decide +kernel
theorem dX10_isScanned_87 : decode cX10_isScanned 87 = .ok (.goto 4, 3) := by decide +kernel
theorem dX10_isScanned_90 : decode cX10_isScanned 90 = .ok (.iconst 0, 1) := by decide +kernel
theorem dX10_isScanned_91 : decode cX10_isScanned 91 = .ok (.if_icmp .ne 7, 3) := by decide +kernel
theorem dX10_isScanned_94 : decode cX10_isScanned 94 = .ok (.iconst 1, 1) := by decide +kernel
theorem dX10_isScanned_95 : decode cX10_isScanned 95 = .ok (.goto 4, 3) := by decide +kernel
theorem dX10_isScanned_98 : decode cX10_isScanned 98 = .ok (.iconst 0, 1) := by decide +kernel
theorem dX10_isScanned_99 : decode cX10_isScanned 99 = .ok (.istore 4, 2) := by decide +kernel
theorem dX10_isScanned_101 : decode cX10_isScanned 101 = .ok (.iload_n 3, 1) := by decide +kernel
theorem dX10_isScanned_102 : decode cX10_isScanned 102 = .ok (.aload_n 0, 1) := by decide +kernel
theorem dX10_isScanned_103 : decode cX10_isScanned 103 = .ok (.aload_n 1, 1) := by decide +kernel
theorem dX10_isScanned_104 : decode cX10_isScanned 104 = .ok (.iload 5, 2) := by decide +kernel
theorem dX10_isScanned_106 : decode cX10_isScanned 106 = .ok (.iaload, 1) := by decide +kernel
theorem dX10_isScanned_107 : decode cX10_isScanned 107 = .ok (.invokevirtual 194, 3) := by decide +kernel
theorem dX10_isScanned_110 : decode cX10_isScanned 110 = .ok (.iadd, 1) := by decide +kernel
theorem dX10_isScanned_111 : decode cX10_isScanned 111 = .ok (.istore_n 3, 1) := by decide +kernel
theorem dX10_isScanned_112 : decode cX10_isScanned 112 = .ok (.iinc 5 1, 3) := by decide +kernel
theorem dX10_isScanned_115 : decode cX10_isScanned 115 = .ok (.goto (-107), 3) := by decide +kernel
theorem dX10_isScanned_118 : decode cX10_isScanned 118 = .ok (.iload 4, 2) := by decide +kernel
theorem dX10_isScanned_120 : decode cX10_isScanned 120 = .ok (.ireturn, 1) := by decide +kernel
theorem dX10_rhymes_0 : decode cX10_rhymes 0 = .ok (.aload_n 0, 1) := by decide +kernel
theorem dX10_rhymes_1 : decode cX10_rhymes 1 = .ok (.iload_n 1, 1) := by decide +kernel
theorem dX10_rhymes_2 : decode cX10_rhymes 2 = .ok (.invokevirtual 187, 3) := by decide +kernel
theorem dX10_rhymes_5 : decode cX10_rhymes 5 = .ok (.iconst 2, 1) := by decide +kernel
theorem dX10_rhymes_6 : decode cX10_rhymes 6 = .ok (.if_icmp .eq 28, 3) := by decide +kernel
theorem dX10_rhymes_9 : decode cX10_rhymes 9 = .ok (.aload_n 0, 1) := by decide +kernel
theorem dX10_rhymes_10 : decode cX10_rhymes 10 = .ok (.getfield 7, 3) := by decide +kernel
theorem dX10_rhymes_13 : decode cX10_rhymes 13 = .ok (.bipush 6, 2) := by decide +kernel
theorem dX10_rhymes_15 : decode cX10_rhymes 15 = .ok (.iconst 4, 1) := by decide +kernel
theorem dX10_rhymes_16 : decode cX10_rhymes 16 = .ok (.iload_n 1, 1) := by decide +kernel
theorem dX10_rhymes_17 : decode cX10_rhymes 17 = .ok (.imul, 1) := by decide +kernel
theorem dX10_rhymes_18 : decode cX10_rhymes 18 = .ok (.iadd, 1) := by decide +kernel
theorem dX10_rhymes_19 : decode cX10_rhymes 19 = .ok (.iconst 3, 1) := by decide +kernel
theorem dX10_rhymes_20 : decode cX10_rhymes 20 = .ok (.iadd, 1) := by decide +kernel
theorem dX10_rhymes_21 : decode cX10_rhymes 21 = .ok (.iaload, 1) := by decide +kernel
theorem dX10_rhymes_22 : decode cX10_rhymes 22 = .ok (.aload_n 0, 1) := by decide +kernel
theorem dX10_rhymes_23 : decode cX10_rhymes 23 = .ok (.getfield 7, 3) := by decide +kernel
theorem dX10_rhymes_26 : decode cX10_rhymes 26 = .ok (.bipush 42, 2) := by decide +kernel
theorem dX10_rhymes_28 : decode cX10_rhymes 28 = .ok (.iload_n 2, 1) := by decide +kernel
theorem dX10_rhymes_29 : decode cX10_rhymes 29 = .ok (.iadd, 1) := by decide +kernel
theorem dX10_rhymes_30 : decode cX10_rhymes 30 = .ok (.iaload, 1) := by decide +kernel
theorem dX10_rhymes_31 : decode cX10_rhymes 31 = .ok (.if_icmp .ne 7, 3) := by decide +kernel
theorem dX10_rhymes_34 : decode cX10_rhymes 34 = .ok (.iconst 1, 1) := by decide +kernel
theorem dX10_rhymes_35 : decode cX10_rhymes 35 = .ok (.goto 4, 3) := by decide +kernel
theorem dX10_rhymes_38 : decode cX10_rhymes 38 = .ok (.iconst 0, 1) := by decide +kernel
theorem dX10_rhymes_39 : decode cX10_rhymes 39 = .ok (.ireturn, 1) := by decide +kernel
theorem dX10_isPassed_0 : decode cX10_isPassed 0 = .ok (.iload_n 2, 1) := by decide +kernel
theorem dX10_isPassed_1 : decode cX10_isPassed 1 = .ok (.ifCond .ne 5, 3) := by decide +kernel
theorem dX10_isPassed_4 : decode cX10_isPassed 4 = .ok (.iconst 0, 1) := by decide +kernel
theorem dX10_isPassed_5 : decode cX10_isPassed 5 = .ok (.ireturn, 1) := by decide +kernel
theorem dX10_isPassed_6 : decode cX10_isPassed 6 = .ok (.aload_n 0, 1) := by decide +kernel
theorem dX10_isPassed_7 : decode cX10_isPassed 7 = .ok (.getfield 7, 3) := by decide +kernel
theorem dX10_isPassed_10 : decode cX10_isPassed 10 = .ok (.bipush 64, 2) := by decide +kernel
theorem dX10_isPassed_12 : decode cX10_isPassed 12 = .ok (.iload 4, 2) := by decide +kernel
theorem dX10_isPassed_14 : decode cX10_isPassed 14 = .ok (.iadd, 1) := by decide +kernel
theorem dX10_isPassed_15 : decode cX10_isPassed 15 = .ok (.iaload, 1) := by decide +kernel
theorem dX10_isPassed_16 : decode cX10_isPassed 16 = .ok (.istore 5, 2) := by decide +kernel
theorem dX10_isPassed_18 : decode cX10_isPassed 18 = .ok (.iload 5, 2) := by decide +kernel
theorem dX10_isPassed_20 : decode cX10_isPassed 20 = .ok (.iconst 2, 1) := by decide +kernel
theorem dX10_isPassed_21 : decode cX10_isPassed 21 = .ok (.if_icmp .eq 28, 3) := by decide +kernel
theorem dX10_isPassed_24 : decode cX10_isPassed 24 = .ok (.aload_n 0, 1) := by decide +kernel
theorem dX10_isPassed_25 : decode cX10_isPassed 25 = .ok (.aload_n 1, 1) := by decide +kernel
theorem dX10_isPassed_26 : decode cX10_isPassed 26 = .ok (.iload_n 2, 1) := by decide +kernel
theorem dX10_isPassed_27 : decode cX10_isPassed 27 = .ok (.iconst 1, 1) := by decide +kernel
theorem dX10_isPassed_28 : decode cX10_isPassed 28 = .ok (.isub, 1) := by decide +kernel
theorem dX10_isPassed_29 : decode cX10_isPassed 29 = .ok (.iaload, 1) := by decide +kernel
theorem dX10_isPassed_30 : decode cX10_isPassed 30 = .ok (.aload_n 0, 1) := by decide +kernel
theorem dX10_isPassed_31 : decode cX10_isPassed 31 = .ok (.getfield 7, 3) := by decide +kernel
theorem dX10_isPassed_34 : decode cX10_isPassed 34 = .ok (.bipush 46, 2) := by decide +kernel
theorem dX10_isPassed_36 : decode cX10_isPassed 36 = .ok (.iconst 3, 1) := by decide +kernel
theorem dX10_isPassed_37 : decode cX10_isPassed 37 = .ok (.iload_n 3, 1) := by decide +kernel
theorem dX10_isPassed_38 : decode cX10_isPassed 38 = .ok (.imul, 1) := by decide +kernel
theorem dX10_isPassed_39 : decode cX10_isPassed 39 = .ok (.iadd, 1) := by decide +kernel
theorem dX10_isPassed_40 : decode cX10_isPassed 40 = .ok (.iconst 1, 1) := by decide +kernel
theorem dX10_isPassed_41 : decode cX10_isPassed 41 = .ok (.iadd, 1) := by decide +kernel
theorem dX10_isPassed_42 : decode cX10_isPassed 42 = .ok (.iaload, 1) := by decide +kernel
theorem dX10_isPassed_43 : decode cX10_isPassed 43 = .ok (.invokevirtual 201, 3) := by decide +kernel
theorem dX10_isPassed_46 : decode cX10_isPassed 46 = .ok (.ifCond .eq 7, 3) := by decide +kernel
theorem dX10_isPassed_49 : decode cX10_isPassed 49 = .ok (.iconst 1, 1) := by decide +kernel
theorem dX10_isPassed_50 : decode cX10_isPassed 50 = .ok (.goto 4, 3) := by decide +kernel
theorem dX10_isPassed_53 : decode cX10_isPassed 53 = .ok (.iconst 0, 1) := by decide +kernel
theorem dX10_isPassed_54 : decode cX10_isPassed 54 = .ok (.istore 6, 2) := by decide +kernel
theorem dX10_isPassed_56 : decode cX10_isPassed 56 = .ok (.iload 6, 2) := by decide +kernel
theorem dX10_isPassed_58 : decode cX10_isPassed 58 = .ok (.ifCond .eq 38, 3) := by decide +kernel
theorem dX10_isPassed_61 : decode cX10_isPassed 61 = .ok (.aload_n 0, 1) := by decide +kernel
theorem dX10_isPassed_62 : decode cX10_isPassed 62 = .ok (.iload 5, 2) := by decide +kernel
theorem dX10_isPassed_64 : decode cX10_isPassed 64 = .ok (.aload_n 1, 1) := by decide +kernel
theorem dX10_isPassed_65 : decode cX10_isPassed 65 = .ok (.iload_n 2, 1) := by decide +kernel
theorem dX10_isPassed_66 : decode cX10_isPassed 66 = .ok (.invokevirtual 190, 3) := by decide +kernel
theorem dX10_isPassed_69 : decode cX10_isPassed 69 = .ok (.aload_n 0, 1) := by decide +kernel
theorem dX10_isPassed_70 : decode cX10_isPassed 70 = .ok (.getfield 7, 3) := by decide +kernel
theorem dX10_isPassed_73 : decode cX10_isPassed 73 = .ok (.bipush 46, 2) := by decide +kernel
theorem dX10_isPassed_75 : decode cX10_isPassed 75 = .ok (.iconst 3, 1) := by decide +kernel
theorem dX10_isPassed_76 : decode cX10_isPassed 76 = .ok (.iload_n 3, 1) := by decide +kernel
theorem dX10_isPassed_77 : decode cX10_isPassed 77 = .ok (.imul, 1) := by decide +kernel
theorem dX10_isPassed_78 : decode cX10_isPassed 78 = .ok (.iadd, 1) := by decide +kernel
theorem dX10_isPassed_79 : decode cX10_isPassed 79 = .ok (.iaload, 1) := by decide +kernel
theorem dX10_isPassed_80 : decode cX10_isPassed 80 = .ok (.if_icmp .ne 16, 3) := by decide +kernel
theorem dX10_isPassed_83 : decode cX10_isPassed 83 = .ok (.aload_n 0, 1) := by decide +kernel
theorem dX10_isPassed_84 : decode cX10_isPassed 84 = .ok (.aload_n 1, 1) := by decide +kernel
theorem dX10_isPassed_85 : decode cX10_isPassed 85 = .ok (.iload_n 2, 1) := by decide +kernel
theorem dX10_isPassed_86 : decode cX10_isPassed 86 = .ok (.invokevirtual 204, 3) := by decide +kernel
theorem dX10_isPassed_89 : decode cX10_isPassed 89 = .ok (.ifCond .eq 7, 3) := by decide +kernel
theorem dX10_isPassed_92 : decode cX10_isPassed 92 = .ok (.iconst 1, 1) := by decide +kernel
theorem dX10_isPassed_93 : decode cX10_isPassed 93 = .ok (.goto 4, 3) := by decide +kernel
theorem dX10_isPassed_96 : decode cX10_isPassed 96 = .ok (.iconst 0, 1) := by decide +kernel
theorem dX10_isPassed_97 : decode cX10_isPassed 97 = .ok (.ireturn, 1) := by decide +kernel
theorem dX10_isWorn_0 : decode cX10_isWorn 0 = .ok (.aload_n 0, 1) := by decide +kernel
theorem dX10_isWorn_1 : decode cX10_isWorn 1 = .ok (.getfield 7, 3) := by decide +kernel
theorem dX10_isWorn_4 : decode cX10_isWorn 4 = .ok (.bipush 6, 2) := by decide +kernel
theorem dX10_isWorn_6 : decode cX10_isWorn 6 = .ok (.iconst 4, 1) := by decide +kernel
theorem dX10_isWorn_7 : decode cX10_isWorn 7 = .ok (.iload_n 1, 1) := by decide +kernel
theorem dX10_isWorn_8 : decode cX10_isWorn 8 = .ok (.imul, 1) := by decide +kernel
theorem dX10_isWorn_9 : decode cX10_isWorn 9 = .ok (.iadd, 1) := by decide +kernel
theorem dX10_isWorn_10 : decode cX10_isWorn 10 = .ok (.iconst 3, 1) := by decide +kernel
theorem dX10_isWorn_11 : decode cX10_isWorn 11 = .ok (.iadd, 1) := by decide +kernel
theorem dX10_isWorn_12 : decode cX10_isWorn 12 = .ok (.iaload, 1) := by decide +kernel
theorem dX10_isWorn_13 : decode cX10_isWorn 13 = .ok (.istore 4, 2) := by decide +kernel
theorem dX10_isWorn_15 : decode cX10_isWorn 15 = .ok (.aload_n 0, 1) := by decide +kernel
theorem dX10_isWorn_16 : decode cX10_isWorn 16 = .ok (.iload_n 1, 1) := by decide +kernel
theorem dX10_isWorn_17 : decode cX10_isWorn 17 = .ok (.invokevirtual 187, 3) := by decide +kernel
theorem dX10_isWorn_20 : decode cX10_isWorn 20 = .ok (.iconst 2, 1) := by decide +kernel
theorem dX10_isWorn_21 : decode cX10_isWorn 21 = .ok (.if_icmp .eq 26, 3) := by decide +kernel
theorem dX10_isWorn_24 : decode cX10_isWorn 24 = .ok (.aload_n 2, 1) := by decide +kernel
theorem dX10_isWorn_25 : decode cX10_isWorn 25 = .ok (.iload_n 3, 1) := by decide +kernel
theorem dX10_isWorn_26 : decode cX10_isWorn 26 = .ok (.iload 4, 2) := by decide +kernel
theorem dX10_isWorn_28 : decode cX10_isWorn 28 = .ok (.iadd, 1) := by decide +kernel
theorem dX10_isWorn_29 : decode cX10_isWorn 29 = .ok (.iaload, 1) := by decide +kernel
theorem dX10_isWorn_30 : decode cX10_isWorn 30 = .ok (.aload_n 0, 1) := by decide +kernel
theorem dX10_isWorn_31 : decode cX10_isWorn 31 = .ok (.getfield 7, 3) := by decide +kernel
theorem dX10_isWorn_34 : decode cX10_isWorn 34 = .ok (.bipush 73, 2) := by decide +kernel
theorem dX10_isWorn_36 : decode cX10_isWorn 36 = .ok (.iload 4, 2) := by decide +kernel
theorem dX10_isWorn_38 : decode cX10_isWorn 38 = .ok (.iadd, 1) := by decide +kernel
theorem dX10_isWorn_39 : decode cX10_isWorn 39 = .ok (.iaload, 1) := by decide +kernel
theorem dX10_isWorn_40 : decode cX10_isWorn 40 = .ok (.if_icmp .lt 7, 3) := by decide +kernel
theorem dX10_isWorn_43 : decode cX10_isWorn 43 = .ok (.iconst 1, 1) := by decide +kernel
theorem dX10_isWorn_44 : decode cX10_isWorn 44 = .ok (.goto 4, 3) := by decide +kernel
theorem dX10_isWorn_47 : decode cX10_isWorn 47 = .ok (.iconst 0, 1) := by decide +kernel
theorem dX10_isWorn_48 : decode cX10_isWorn 48 = .ok (.ireturn, 1) := by decide +kernel
theorem dX10_put_0 : decode cX10_put 0 = .ok (.aload_n 0, 1) := by decide +kernel
theorem dX10_put_1 : decode cX10_put 1 = .ok (.iload_n 1, 1) := by decide +kernel
theorem dX10_put_2 : decode cX10_put 2 = .ok (.invokevirtual 173, 3) := by decide +kernel
theorem dX10_put_5 : decode cX10_put 5 = .ok (.ifCond .ne 6, 3) := by decide +kernel
theorem dX10_put_8 : decode cX10_put 8 = .ok (.bipush (-2), 2) := by decide +kernel
theorem dX10_put_10 : decode cX10_put 10 = .ok (.ireturn, 1) := by decide +kernel
theorem dX10_put_11 : decode cX10_put 11 = .ok (.aload_n 0, 1) := by decide +kernel
theorem dX10_put_12 : decode cX10_put 12 = .ok (.getfield 161, 3) := by decide +kernel
theorem dX10_put_15 : decode cX10_put 15 = .ok (.bipush 6, 2) := by decide +kernel
theorem dX10_put_17 : decode cX10_put 17 = .ok (.if_icmp .ne 6, 3) := by decide +kernel
theorem dX10_put_20 : decode cX10_put 20 = .ok (.bipush (-5), 2) := by decide +kernel
theorem dX10_put_22 : decode cX10_put 22 = .ok (.ireturn, 1) := by decide +kernel
theorem dX10_put_23 : decode cX10_put 23 = .ok (.aload_n 0, 1) := by decide +kernel
theorem dX10_put_24 : decode cX10_put 24 = .ok (.getfield 23, 3) := by decide +kernel
theorem dX10_put_27 : decode cX10_put 27 = .ok (.aload_n 0, 1) := by decide +kernel
theorem dX10_put_28 : decode cX10_put 28 = .ok (.getfield 161, 3) := by decide +kernel
theorem dX10_put_31 : decode cX10_put 31 = .ok (.iload_n 1, 1) := by decide +kernel
theorem dX10_put_32 : decode cX10_put 32 = .ok (.iastore, 1) := by decide +kernel
theorem dX10_put_33 : decode cX10_put 33 = .ok (.aload_n 0, 1) := by decide +kernel
theorem dX10_put_34 : decode cX10_put 34 = .ok (.dup, 1) := by decide +kernel
theorem dX10_put_35 : decode cX10_put 35 = .ok (.getfield 161, 3) := by decide +kernel
theorem dX10_put_38 : decode cX10_put 38 = .ok (.iconst 1, 1) := by decide +kernel
theorem dX10_put_39 : decode cX10_put 39 = .ok (.iadd, 1) := by decide +kernel
theorem dX10_put_40 : decode cX10_put 40 = .ok (.putfield 161, 3) := by decide +kernel
theorem dX10_put_43 : decode cX10_put 43 = .ok (.aload_n 0, 1) := by decide +kernel
theorem dX10_put_44 : decode cX10_put 44 = .ok (.getfield 161, 3) := by decide +kernel
theorem dX10_put_47 : decode cX10_put 47 = .ok (.ireturn, 1) := by decide +kernel
theorem dX10_wipe_0 : decode cX10_wipe 0 = .ok (.aload_n 0, 1) := by decide +kernel
theorem dX10_wipe_1 : decode cX10_wipe 1 = .ok (.getfield 161, 3) := by decide +kernel
theorem dX10_wipe_4 : decode cX10_wipe 4 = .ok (.istore_n 1, 1) := by decide +kernel
theorem dX10_wipe_5 : decode cX10_wipe 5 = .ok (.aload_n 0, 1) := by decide +kernel
theorem dX10_wipe_6 : decode cX10_wipe 6 = .ok (.iconst 0, 1) := by decide +kernel
theorem dX10_wipe_7 : decode cX10_wipe 7 = .ok (.putfield 161, 3) := by decide +kernel
theorem dX10_wipe_10 : decode cX10_wipe 10 = .ok (.iload_n 1, 1) := by decide +kernel
theorem dX10_wipe_11 : decode cX10_wipe 11 = .ok (.ireturn, 1) := by decide +kernel
theorem dX10_line_0 : decode cX10_line 0 = .ok (.iload_n 1, 1) := by decide +kernel
theorem dX10_line_1 : decode cX10_line 1 = .ok (.i2l, 1) := by decide +kernel
theorem dX10_line_2 : decode cX10_line 2 = .ok (.lconst 0, 1) := by decide +kernel
theorem dX10_line_3 : decode cX10_line 3 = .ok (.aload_n 0, 1) := by decide +kernel
theorem dX10_line_4 : decode cX10_line 4 = .ok (.getfield 161, 3) := by decide +kernel
theorem dX10_line_7 : decode cX10_line 7 = .ok (.iconst 1, 1) := by decide +kernel
theorem dX10_line_8 : decode cX10_line 8 = .ok (.isub, 1) := by decide +kernel
theorem dX10_line_9 : decode cX10_line 9 = .ok (.i2l, 1) := by decide +kernel
theorem dX10_line_10 : decode cX10_line 10 = .ok (.invokestatic 54, 3) := by decide +kernel
theorem dX10_line_13 : decode cX10_line 13 = .ok (.ifCond .eq 12, 3) := by decide +kernel
theorem dX10_line_16 : decode cX10_line 16 = .ok (.aload_n 0, 1) := by decide +kernel
theorem dX10_line_17 : decode cX10_line 17 = .ok (.getfield 23, 3) := by decide +kernel
theorem dX10_line_20 : decode cX10_line 20 = .ok (.iload_n 1, 1) := by decide +kernel
theorem dX10_line_21 : decode cX10_line 21 = .ok (.iaload, 1) := by decide +kernel
theorem dX10_line_22 : decode cX10_line 22 = .ok (.goto 5, 3) := by decide +kernel
theorem dX10_line_25 : decode cX10_line 25 = .ok (.bipush (-3), 2) := by decide +kernel
theorem dX10_line_27 : decode cX10_line 27 = .ok (.ireturn, 1) := by decide +kernel
theorem dX10_counts_0 : decode cX10_counts 0 = .ok (.aload_n 0, 1) := by decide +kernel
theorem dX10_counts_1 : decode cX10_counts 1 = .ok (.iload_n 1, 1) := by decide +kernel
theorem dX10_counts_2 : decode cX10_counts 2 = .ok (.invokevirtual 62, 3) := by decide +kernel
theorem dX10_counts_5 : decode cX10_counts 5 = .ok (.ifCond .eq 27, 3) := by decide +kernel
theorem dX10_counts_8 : decode cX10_counts 8 = .ok (.aload_n 0, 1) := by decide +kernel
theorem dX10_counts_9 : decode cX10_counts 9 = .ok (.aload_n 0, 1) := by decide +kernel
theorem dX10_counts_10 : decode cX10_counts 10 = .ok (.getfield 7, 3) := by decide +kernel
theorem dX10_counts_13 : decode cX10_counts 13 = .ok (.bipush 64, 2) := by decide +kernel
theorem dX10_counts_15 : decode cX10_counts 15 = .ok (.iload_n 1, 1) := by decide +kernel
theorem dX10_counts_16 : decode cX10_counts 16 = .ok (.iadd, 1) := by decide +kernel
theorem dX10_counts_17 : decode cX10_counts 17 = .ok (.iaload, 1) := by decide +kernel
theorem dX10_counts_18 : decode cX10_counts 18 = .ok (.aload_n 0, 1) := by decide +kernel
theorem dX10_counts_19 : decode cX10_counts 19 = .ok (.getfield 23, 3) := by decide +kernel
theorem dX10_counts_22 : decode cX10_counts 22 = .ok (.aload_n 0, 1) := by decide +kernel
theorem dX10_counts_23 : decode cX10_counts 23 = .ok (.getfield 161, 3) := by decide +kernel
theorem dX10_counts_26 : decode cX10_counts 26 = .ok (.invokevirtual 190, 3) := by decide +kernel
theorem dX10_counts_29 : decode cX10_counts 29 = .ok (.goto 5, 3) := by decide +kernel
theorem dX10_counts_32 : decode cX10_counts 32 = .ok (.bipush (-2), 2) := by decide +kernel
theorem dX10_counts_34 : decode cX10_counts 34 = .ok (.ireturn, 1) := by decide +kernel
theorem dX10_scans_0 : decode cX10_scans 0 = .ok (.aload_n 0, 1) := by decide +kernel
theorem dX10_scans_1 : decode cX10_scans 1 = .ok (.aload_n 0, 1) := by decide +kernel
theorem dX10_scans_2 : decode cX10_scans 2 = .ok (.getfield 23, 3) := by decide +kernel
theorem dX10_scans_5 : decode cX10_scans 5 = .ok (.aload_n 0, 1) := by decide +kernel
theorem dX10_scans_6 : decode cX10_scans 6 = .ok (.getfield 161, 3) := by decide +kernel
theorem dX10_scans_9 : decode cX10_scans 9 = .ok (.invokevirtual 204, 3) := by decide +kernel
theorem dX10_scans_12 : decode cX10_scans 12 = .ok (.ifCond .eq 7, 3) := by decide +kernel
theorem dX10_scans_15 : decode cX10_scans 15 = .ok (.iconst 1, 1) := by decide +kernel
theorem dX10_scans_16 : decode cX10_scans 16 = .ok (.goto 4, 3) := by decide +kernel
theorem dX10_scans_19 : decode cX10_scans 19 = .ok (.iconst 0, 1) := by decide +kernel
theorem dX10_scans_20 : decode cX10_scans 20 = .ok (.ireturn, 1) := by decide +kernel
theorem dX10_passes_0 : decode cX10_passes 0 = .ok (.aload_n 0, 1) := by decide +kernel
theorem dX10_passes_1 : decode cX10_passes 1 = .ok (.iload_n 1, 1) := by decide +kernel
theorem dX10_passes_2 : decode cX10_passes 2 = .ok (.iload_n 2, 1) := by decide +kernel
theorem dX10_passes_3 : decode cX10_passes 3 = .ok (.invokevirtual 208, 3) := by decide +kernel
theorem dX10_passes_6 : decode cX10_passes 6 = .ok (.ifCond .ne 8, 3) := by decide +kernel
theorem dX10_passes_9 : decode cX10_passes 9 = .ok (.bipush (-2), 2) := by decide +kernel
theorem dX10_passes_11 : decode cX10_passes 11 = .ok (.goto 25, 3) := by decide +kernel
theorem dX10_passes_14 : decode cX10_passes 14 = .ok (.aload_n 0, 1) := by decide +kernel
theorem dX10_passes_15 : decode cX10_passes 15 = .ok (.aload_n 0, 1) := by decide +kernel
theorem dX10_passes_16 : decode cX10_passes 16 = .ok (.getfield 23, 3) := by decide +kernel
theorem dX10_passes_19 : decode cX10_passes 19 = .ok (.aload_n 0, 1) := by decide +kernel
theorem dX10_passes_20 : decode cX10_passes 20 = .ok (.getfield 161, 3) := by decide +kernel
theorem dX10_passes_23 : decode cX10_passes 23 = .ok (.iload_n 1, 1) := by decide +kernel
theorem dX10_passes_24 : decode cX10_passes 24 = .ok (.iload_n 2, 1) := by decide +kernel
theorem dX10_passes_25 : decode cX10_passes 25 = .ok (.invokevirtual 211, 3) := by decide +kernel
theorem dX10_passes_28 : decode cX10_passes 28 = .ok (.ifCond .eq 7, 3) := by decide +kernel
theorem dX10_passes_31 : decode cX10_passes 31 = .ok (.iconst 1, 1) := by decide +kernel
theorem dX10_passes_32 : decode cX10_passes 32 = .ok (.goto 4, 3) := by decide +kernel
theorem dX10_passes_35 : decode cX10_passes 35 = .ok (.iconst 0, 1) := by decide +kernel
theorem dX10_passes_36 : decode cX10_passes 36 = .ok (.ireturn, 1) := by decide +kernel
theorem dX10_remembers_0 : decode cX10_remembers 0 = .ok (.aload_n 0, 1) := by decide +kernel
theorem dX10_remembers_1 : decode cX10_remembers 1 = .ok (.getfield 170, 3) := by decide +kernel
theorem dX10_remembers_4 : decode cX10_remembers 4 = .ok (.bipush 8, 2) := by decide +kernel
theorem dX10_remembers_6 : decode cX10_remembers 6 = .ok (.if_icmp .ne 43, 3) := by decide +kernel
theorem dX10_remembers_9 : decode cX10_remembers 9 = .ok (.iconst 0, 1) := by decide +kernel
theorem dX10_remembers_10 : decode cX10_remembers 10 = .ok (.istore_n 1, 1) := by decide +kernel
theorem dX10_remembers_11 : decode cX10_remembers 11 = .ok (.iload_n 1, 1) := by decide +kernel
theorem dX10_remembers_12 : decode cX10_remembers 12 = .ok (.sipush 686, 3) := by decide +kernel
theorem dX10_remembers_15 : decode cX10_remembers 15 = .ok (.if_icmp .ge 24, 3) := by decide +kernel
theorem dX10_remembers_18 : decode cX10_remembers 18 = .ok (.aload_n 0, 1) := by decide +kernel
theorem dX10_remembers_19 : decode cX10_remembers 19 = .ok (.getfield 13, 3) := by decide +kernel
theorem dX10_remembers_22 : decode cX10_remembers 22 = .ok (.iload_n 1, 1) := by decide +kernel
theorem dX10_remembers_23 : decode cX10_remembers 23 = .ok (.aload_n 0, 1) := by decide +kernel
theorem dX10_remembers_24 : decode cX10_remembers 24 = .ok (.getfield 13, 3) := by decide +kernel
theorem dX10_remembers_27 : decode cX10_remembers 27 = .ok (.iload_n 1, 1) := by decide +kernel
theorem dX10_remembers_28 : decode cX10_remembers 28 = .ok (.bipush 98, 2) := by decide +kernel
theorem dX10_remembers_30 : decode cX10_remembers 30 = .ok (.iadd, 1) := by decide +kernel
theorem dX10_remembers_31 : decode cX10_remembers 31 = .ok (.iaload, 1) := by decide +kernel
theorem dX10_remembers_32 : decode cX10_remembers 32 = .ok (.iastore, 1) := by decide +kernel
theorem dX10_remembers_33 : decode cX10_remembers 33 = .ok (.iinc 1 1, 3) := by decide +kernel
theorem dX10_remembers_36 : decode cX10_remembers 36 = .ok (.goto (-25), 3) := by decide +kernel
theorem dX10_remembers_39 : decode cX10_remembers 39 = .ok (.aload_n 0, 1) := by decide +kernel
theorem dX10_remembers_40 : decode cX10_remembers 40 = .ok (.dup, 1) := by decide +kernel
theorem dX10_remembers_41 : decode cX10_remembers 41 = .ok (.getfield 170, 3) := by decide +kernel
theorem dX10_remembers_44 : decode cX10_remembers 44 = .ok (.iconst 1, 1) := by decide +kernel
theorem dX10_remembers_45 : decode cX10_remembers 45 = .ok (.isub, 1) := by decide +kernel
theorem dX10_remembers_46 : decode cX10_remembers 46 = .ok (.putfield 170, 3) := by decide +kernel
theorem dX10_remembers_49 : decode cX10_remembers 49 = .ok (.iconst 0, 1) := by decide +kernel
theorem dX10_remembers_50 : decode cX10_remembers 50 = .ok (.istore_n 1, 1) := by decide +kernel
theorem dX10_remembers_51 : decode cX10_remembers 51 = .ok (.iload_n 1, 1) := by decide +kernel
theorem dX10_remembers_52 : decode cX10_remembers 52 = .ok (.bipush 98, 2) := by decide +kernel
theorem dX10_remembers_54 : decode cX10_remembers 54 = .ok (.if_icmp .ge 29, 3) := by decide +kernel
theorem dX10_remembers_57 : decode cX10_remembers 57 = .ok (.aload_n 0, 1) := by decide +kernel
theorem dX10_remembers_58 : decode cX10_remembers 58 = .ok (.getfield 13, 3) := by decide +kernel
theorem dX10_remembers_61 : decode cX10_remembers 61 = .ok (.bipush 98, 2) := by decide +kernel
theorem dX10_remembers_63 : decode cX10_remembers 63 = .ok (.aload_n 0, 1) := by decide +kernel
theorem dX10_remembers_64 : decode cX10_remembers 64 = .ok (.getfield 170, 3) := by decide +kernel
theorem dX10_remembers_67 : decode cX10_remembers 67 = .ok (.imul, 1) := by decide +kernel
theorem dX10_remembers_68 : decode cX10_remembers 68 = .ok (.iload_n 1, 1) := by decide +kernel
theorem dX10_remembers_69 : decode cX10_remembers 69 = .ok (.iadd, 1) := by decide +kernel
theorem dX10_remembers_70 : decode cX10_remembers 70 = .ok (.aload_n 0, 1) := by decide +kernel
theorem dX10_remembers_71 : decode cX10_remembers 71 = .ok (.getfield 7, 3) := by decide +kernel
theorem dX10_remembers_74 : decode cX10_remembers 74 = .ok (.iload_n 1, 1) := by decide +kernel
theorem dX10_remembers_75 : decode cX10_remembers 75 = .ok (.iaload, 1) := by decide +kernel
theorem dX10_remembers_76 : decode cX10_remembers 76 = .ok (.iastore, 1) := by decide +kernel
theorem dX10_remembers_77 : decode cX10_remembers 77 = .ok (.iinc 1 1, 3) := by decide +kernel
theorem dX10_remembers_80 : decode cX10_remembers 80 = .ok (.goto (-29), 3) := by decide +kernel
theorem dX10_remembers_83 : decode cX10_remembers 83 = .ok (.aload_n 0, 1) := by decide +kernel
theorem dX10_remembers_84 : decode cX10_remembers 84 = .ok (.dup, 1) := by decide +kernel
theorem dX10_remembers_85 : decode cX10_remembers 85 = .ok (.getfield 170, 3) := by decide +kernel
theorem dX10_remembers_88 : decode cX10_remembers 88 = .ok (.iconst 1, 1) := by decide +kernel
theorem dX10_remembers_89 : decode cX10_remembers 89 = .ok (.iadd, 1) := by decide +kernel
theorem dX10_remembers_90 : decode cX10_remembers 90 = .ok (.putfield 170, 3) := by decide +kernel
theorem dX10_remembers_93 : decode cX10_remembers 93 = .ok (.return_, 1) := by decide +kernel
theorem dX10_pays_0 : decode cX10_pays 0 = .ok (.aload_n 0, 1) := by decide +kernel
theorem dX10_pays_1 : decode cX10_pays 1 = .ok (.getfield 7, 3) := by decide +kernel
theorem dX10_pays_4 : decode cX10_pays 4 = .ok (.bipush 46, 2) := by decide +kernel
theorem dX10_pays_6 : decode cX10_pays 6 = .ok (.iconst 3, 1) := by decide +kernel
theorem dX10_pays_7 : decode cX10_pays 7 = .ok (.iload_n 1, 1) := by decide +kernel
theorem dX10_pays_8 : decode cX10_pays 8 = .ok (.imul, 1) := by decide +kernel
theorem dX10_pays_9 : decode cX10_pays 9 = .ok (.iadd, 1) := by decide +kernel
theorem dX10_pays_10 : decode cX10_pays 10 = .ok (.iconst 2, 1) := by decide +kernel
theorem dX10_pays_11 : decode cX10_pays 11 = .ok (.iadd, 1) := by decide +kernel
theorem dX10_pays_12 : decode cX10_pays 12 = .ok (.iload_n 2, 1) := by decide +kernel
theorem dX10_pays_13 : decode cX10_pays 13 = .ok (.iastore, 1) := by decide +kernel
theorem dX10_pays_14 : decode cX10_pays 14 = .ok (.aload_n 0, 1) := by decide +kernel
theorem dX10_pays_15 : decode cX10_pays 15 = .ok (.getfield 7, 3) := by decide +kernel
theorem dX10_pays_18 : decode cX10_pays 18 = .ok (.iconst 5, 1) := by decide +kernel
theorem dX10_pays_19 : decode cX10_pays 19 = .ok (.dup2, 1) := by decide +kernel
theorem dX10_pays_20 : decode cX10_pays 20 = .ok (.iaload, 1) := by decide +kernel
theorem dX10_pays_21 : decode cX10_pays 21 = .ok (.iload_n 3, 1) := by decide +kernel
theorem dX10_pays_22 : decode cX10_pays 22 = .ok (.iadd, 1) := by decide +kernel
theorem dX10_pays_23 : decode cX10_pays 23 = .ok (.iastore, 1) := by decide +kernel
theorem dX10_pays_24 : decode cX10_pays 24 = .ok (.aload_n 0, 1) := by decide +kernel
theorem dX10_pays_25 : decode cX10_pays 25 = .ok (.getfield 7, 3) := by decide +kernel
theorem dX10_pays_28 : decode cX10_pays 28 = .ok (.iconst 4, 1) := by decide +kernel
theorem dX10_pays_29 : decode cX10_pays 29 = .ok (.dup2, 1) := by decide +kernel
theorem dX10_pays_30 : decode cX10_pays 30 = .ok (.iaload, 1) := by decide +kernel
theorem dX10_pays_31 : decode cX10_pays 31 = .ok (.iconst 1, 1) := by decide +kernel
theorem dX10_pays_32 : decode cX10_pays 32 = .ok (.iadd, 1) := by decide +kernel
theorem dX10_pays_33 : decode cX10_pays 33 = .ok (.iastore, 1) := by decide +kernel
theorem dX10_pays_34 : decode cX10_pays 34 = .ok (.iload_n 3, 1) := by decide +kernel
theorem dX10_pays_35 : decode cX10_pays 35 = .ok (.ireturn, 1) := by decide +kernel
theorem dX10_declare_0 : decode cX10_declare 0 = .ok (.aload_n 0, 1) := by decide +kernel
theorem dX10_declare_1 : decode cX10_declare 1 = .ok (.iload_n 1, 1) := by decide +kernel
theorem dX10_declare_2 : decode cX10_declare 2 = .ok (.iload_n 2, 1) := by decide +kernel
theorem dX10_declare_3 : decode cX10_declare 3 = .ok (.invokevirtual 208, 3) := by decide +kernel
theorem dX10_declare_6 : decode cX10_declare 6 = .ok (.ifCond .ne 6, 3) := by decide +kernel
theorem dX10_declare_9 : decode cX10_declare 9 = .ok (.bipush (-2), 2) := by decide +kernel
theorem dX10_declare_11 : decode cX10_declare 11 = .ok (.ireturn, 1) := by decide +kernel
theorem dX10_declare_12 : decode cX10_declare 12 = .ok (.aload_n 0, 1) := by decide +kernel
theorem dX10_declare_13 : decode cX10_declare 13 = .ok (.getfield 7, 3) := by decide +kernel
theorem dX10_declare_16 : decode cX10_declare 16 = .ok (.bipush 46, 2) := by decide +kernel
theorem dX10_declare_18 : decode cX10_declare 18 = .ok (.iconst 3, 1) := by decide +kernel
theorem dX10_declare_19 : decode cX10_declare 19 = .ok (.iload_n 1, 1) := by decide +kernel
theorem dX10_declare_20 : decode cX10_declare 20 = .ok (.imul, 1) := by decide +kernel
theorem dX10_declare_21 : decode cX10_declare 21 = .ok (.iadd, 1) := by decide +kernel
theorem dX10_declare_22 : decode cX10_declare 22 = .ok (.iconst 2, 1) := by decide +kernel
theorem dX10_declare_23 : decode cX10_declare 23 = .ok (.iadd, 1) := by decide +kernel
theorem dX10_declare_24 : decode cX10_declare 24 = .ok (.iaload, 1) := by decide +kernel
theorem dX10_declare_25 : decode cX10_declare 25 = .ok (.ifCond .eq 6, 3) := by decide +kernel
theorem dX10_declare_28 : decode cX10_declare 28 = .ok (.bipush (-4), 2) := by decide +kernel
theorem dX10_declare_30 : decode cX10_declare 30 = .ok (.ireturn, 1) := by decide +kernel
theorem dX10_declare_31 : decode cX10_declare 31 = .ok (.aload_n 0, 1) := by decide +kernel
theorem dX10_declare_32 : decode cX10_declare 32 = .ok (.getfield 7, 3) := by decide +kernel
theorem dX10_declare_35 : decode cX10_declare 35 = .ok (.iconst 4, 1) := by decide +kernel
theorem dX10_declare_36 : decode cX10_declare 36 = .ok (.iaload, 1) := by decide +kernel
theorem dX10_declare_37 : decode cX10_declare 37 = .ok (.bipush 99, 2) := by decide +kernel
theorem dX10_declare_39 : decode cX10_declare 39 = .ok (.if_icmp .ne 6, 3) := by decide +kernel
theorem dX10_declare_42 : decode cX10_declare 42 = .ok (.bipush (-5), 2) := by decide +kernel
theorem dX10_declare_44 : decode cX10_declare 44 = .ok (.ireturn, 1) := by decide +kernel
theorem dX10_declare_45 : decode cX10_declare 45 = .ok (.aload_n 0, 1) := by decide +kernel
theorem dX10_declare_46 : decode cX10_declare 46 = .ok (.invokevirtual 215, 3) := by decide +kernel
theorem dX10_declare_49 : decode cX10_declare 49 = .ok (.aload_n 0, 1) := by decide +kernel
theorem dX10_declare_50 : decode cX10_declare 50 = .ok (.aload_n 0, 1) := by decide +kernel
theorem dX10_declare_51 : decode cX10_declare 51 = .ok (.getfield 23, 3) := by decide +kernel
theorem dX10_declare_54 : decode cX10_declare 54 = .ok (.aload_n 0, 1) := by decide +kernel
theorem dX10_declare_55 : decode cX10_declare 55 = .ok (.getfield 161, 3) := by decide +kernel
theorem dX10_declare_58 : decode cX10_declare 58 = .ok (.iload_n 1, 1) := by decide +kernel
theorem dX10_declare_59 : decode cX10_declare 59 = .ok (.iload_n 2, 1) := by decide +kernel
theorem dX10_declare_60 : decode cX10_declare 60 = .ok (.invokevirtual 211, 3) := by decide +kernel
theorem dX10_declare_63 : decode cX10_declare 63 = .ok (.ifCond .eq 31, 3) := by decide +kernel
theorem dX10_declare_66 : decode cX10_declare 66 = .ok (.aload_n 0, 1) := by decide +kernel
theorem dX10_declare_67 : decode cX10_declare 67 = .ok (.aload_n 0, 1) := by decide +kernel
theorem dX10_declare_68 : decode cX10_declare 68 = .ok (.getfield 23, 3) := by decide +kernel
theorem dX10_declare_71 : decode cX10_declare 71 = .ok (.aload_n 0, 1) := by decide +kernel
theorem dX10_declare_72 : decode cX10_declare 72 = .ok (.getfield 161, 3) := by decide +kernel
theorem dX10_declare_75 : decode cX10_declare 75 = .ok (.iconst 1, 1) := by decide +kernel
theorem dX10_declare_76 : decode cX10_declare 76 = .ok (.isub, 1) := by decide +kernel
theorem dX10_declare_77 : decode cX10_declare 77 = .ok (.iaload, 1) := by decide +kernel
theorem dX10_declare_78 : decode cX10_declare 78 = .ok (.aload_n 0, 1) := by decide +kernel
theorem dX10_declare_79 : decode cX10_declare 79 = .ok (.getfield 7, 3) := by decide +kernel
theorem dX10_declare_82 : decode cX10_declare 82 = .ok (.bipush 67, 2) := by decide +kernel
theorem dX10_declare_84 : decode cX10_declare 84 = .ok (.invokevirtual 218, 3) := by decide +kernel
theorem dX10_declare_87 : decode cX10_declare 87 = .ok (.ifCond .ne 7, 3) := by decide +kernel
theorem dX10_declare_90 : decode cX10_declare 90 = .ok (.iconst 1, 1) := by decide +kernel
theorem dX10_declare_91 : decode cX10_declare 91 = .ok (.goto 4, 3) := by decide +kernel
theorem dX10_declare_94 : decode cX10_declare 94 = .ok (.iconst 0, 1) := by decide +kernel
theorem dX10_declare_95 : decode cX10_declare 95 = .ok (.istore_n 3, 1) := by decide +kernel
theorem dX10_declare_96 : decode cX10_declare 96 = .ok (.iload_n 3, 1) := by decide +kernel
theorem dX10_declare_97 : decode cX10_declare 97 = .ok (.ifCond .eq 56, 3) := by decide +kernel
theorem dX10_declare_100 : decode cX10_declare 100 = .ok (.aload_n 0, 1) := by decide +kernel
theorem dX10_declare_101 : decode cX10_declare 101 = .ok (.getfield 23, 3) := by decide +kernel
theorem dX10_declare_104 : decode cX10_declare 104 = .ok (.aload_n 0, 1) := by decide +kernel
theorem dX10_declare_105 : decode cX10_declare 105 = .ok (.getfield 161, 3) := by decide +kernel
theorem dX10_declare_108 : decode cX10_declare 108 = .ok (.iconst 1, 1) := by decide +kernel
theorem dX10_declare_109 : decode cX10_declare 109 = .ok (.isub, 1) := by decide +kernel
theorem dX10_declare_110 : decode cX10_declare 110 = .ok (.iaload, 1) := by decide +kernel
theorem dX10_declare_111 : decode cX10_declare 111 = .ok (.istore 4, 2) := by decide +kernel
theorem dX10_declare_113 : decode cX10_declare 113 = .ok (.aload_n 0, 1) := by decide +kernel
theorem dX10_declare_114 : decode cX10_declare 114 = .ok (.getfield 7, 3) := by decide +kernel
theorem dX10_declare_117 : decode cX10_declare 117 = .ok (.bipush 67, 2) := by decide +kernel
theorem dX10_declare_119 : decode cX10_declare 119 = .ok (.aload_n 0, 1) := by decide +kernel
theorem dX10_declare_120 : decode cX10_declare 120 = .ok (.getfield 7, 3) := by decide +kernel
theorem dX10_declare_123 : decode cX10_declare 123 = .ok (.bipush 6, 2) := by decide +kernel
theorem dX10_declare_125 : decode cX10_declare 125 = .ok (.iconst 4, 1) := by decide +kernel
theorem dX10_declare_126 : decode cX10_declare 126 = .ok (.iload 4, 2) := by decide +kernel
theorem dX10_declare_128 : decode cX10_declare 128 = .ok (.imul, 1) := by decide +kernel
theorem dX10_declare_129 : decode cX10_declare 129 = .ok (.iadd, 1) := by decide +kernel
theorem dX10_declare_130 : decode cX10_declare 130 = .ok (.iconst 3, 1) := by decide +kernel
theorem dX10_declare_131 : decode cX10_declare 131 = .ok (.iadd, 1) := by decide +kernel
theorem dX10_declare_132 : decode cX10_declare 132 = .ok (.iaload, 1) := by decide +kernel
theorem dX10_declare_133 : decode cX10_declare 133 = .ok (.iadd, 1) := by decide +kernel
theorem dX10_declare_134 : decode cX10_declare 134 = .ok (.dup2, 1) := by decide +kernel
theorem dX10_declare_135 : decode cX10_declare 135 = .ok (.iaload, 1) := by decide +kernel
theorem dX10_declare_136 : decode cX10_declare 136 = .ok (.aload_n 0, 1) := by decide +kernel
theorem dX10_declare_137 : decode cX10_declare 137 = .ok (.iload 4, 2) := by decide +kernel
theorem dX10_declare_139 : decode cX10_declare 139 = .ok (.invokevirtual 187, 3) := by decide +kernel
theorem dX10_declare_142 : decode cX10_declare 142 = .ok (.iconst 2, 1) := by decide +kernel
theorem dX10_declare_143 : decode cX10_declare 143 = .ok (.if_icmp .ne 7, 3) := by decide +kernel
theorem dX10_declare_146 : decode cX10_declare 146 = .ok (.iconst 0, 1) := by decide +kernel
theorem dX10_declare_147 : decode cX10_declare 147 = .ok (.goto 4, 3) := by decide +kernel
theorem dX10_declare_150 : decode cX10_declare 150 = .ok (.iconst 1, 1) := by decide +kernel
theorem dX10_declare_151 : decode cX10_declare 151 = .ok (.iadd, 1) := by decide +kernel
theorem dX10_declare_152 : decode cX10_declare 152 = .ok (.iastore, 1) := by decide +kernel
theorem dX10_declare_153 : decode cX10_declare 153 = .ok (.aload_n 0, 1) := by decide +kernel
theorem dX10_declare_154 : decode cX10_declare 154 = .ok (.iload_n 1, 1) := by decide +kernel
theorem dX10_declare_155 : decode cX10_declare 155 = .ok (.iload_n 3, 1) := by decide +kernel
theorem dX10_declare_156 : decode cX10_declare 156 = .ok (.ifCond .eq 7, 3) := by decide +kernel
theorem dX10_declare_159 : decode cX10_declare 159 = .ok (.iconst 1, 1) := by decide +kernel
theorem dX10_declare_160 : decode cX10_declare 160 = .ok (.goto 4, 3) := by decide +kernel
theorem dX10_declare_163 : decode cX10_declare 163 = .ok (.iconst 2, 1) := by decide +kernel
theorem dX10_declare_164 : decode cX10_declare 164 = .ok (.iload_n 3, 1) := by decide +kernel
theorem dX10_declare_165 : decode cX10_declare 165 = .ok (.ifCond .eq 17, 3) := by decide +kernel
theorem dX10_declare_168 : decode cX10_declare 168 = .ok (.aload_n 0, 1) := by decide +kernel
theorem dX10_declare_169 : decode cX10_declare 169 = .ok (.getfield 7, 3) := by decide +kernel
theorem dX10_declare_172 : decode cX10_declare 172 = .ok (.bipush 46, 2) := by decide +kernel
theorem dX10_declare_174 : decode cX10_declare 174 = .ok (.iconst 3, 1) := by decide +kernel
theorem dX10_declare_175 : decode cX10_declare 175 = .ok (.iload_n 1, 1) := by decide +kernel
theorem dX10_declare_176 : decode cX10_declare 176 = .ok (.imul, 1) := by decide +kernel
theorem dX10_declare_177 : decode cX10_declare 177 = .ok (.iadd, 1) := by decide +kernel
theorem dX10_declare_178 : decode cX10_declare 178 = .ok (.iaload, 1) := by decide +kernel
theorem dX10_declare_179 : decode cX10_declare 179 = .ok (.goto 4, 3) := by decide +kernel
theorem dX10_declare_182 : decode cX10_declare 182 = .ok (.iconst 0, 1) := by decide +kernel
theorem dX10_declare_183 : decode cX10_declare 183 = .ok (.invokevirtual 222, 3) := by decide +kernel
theorem dX10_declare_186 : decode cX10_declare 186 = .ok (.ireturn, 1) := by decide +kernel
theorem dX10_prose_0 : decode cX10_prose 0 = .ok (.aload_n 0, 1) := by decide +kernel
theorem dX10_prose_1 : decode cX10_prose 1 = .ok (.iload_n 1, 1) := by decide +kernel
theorem dX10_prose_2 : decode cX10_prose 2 = .ok (.invokevirtual 58, 3) := by decide +kernel
theorem dX10_prose_5 : decode cX10_prose 5 = .ok (.ifCond .ne 6, 3) := by decide +kernel
theorem dX10_prose_8 : decode cX10_prose 8 = .ok (.bipush (-2), 2) := by decide +kernel
theorem dX10_prose_10 : decode cX10_prose 10 = .ok (.ireturn, 1) := by decide +kernel
theorem dX10_prose_11 : decode cX10_prose 11 = .ok (.aload_n 0, 1) := by decide +kernel
theorem dX10_prose_12 : decode cX10_prose 12 = .ok (.getfield 7, 3) := by decide +kernel
theorem dX10_prose_15 : decode cX10_prose 15 = .ok (.bipush 46, 2) := by decide +kernel
theorem dX10_prose_17 : decode cX10_prose 17 = .ok (.iconst 3, 1) := by decide +kernel
theorem dX10_prose_18 : decode cX10_prose 18 = .ok (.iload_n 1, 1) := by decide +kernel
theorem dX10_prose_19 : decode cX10_prose 19 = .ok (.imul, 1) := by decide +kernel
theorem dX10_prose_20 : decode cX10_prose 20 = .ok (.iadd, 1) := by decide +kernel
theorem dX10_prose_21 : decode cX10_prose 21 = .ok (.iconst 2, 1) := by decide +kernel
theorem dX10_prose_22 : decode cX10_prose 22 = .ok (.iadd, 1) := by decide +kernel
theorem dX10_prose_23 : decode cX10_prose 23 = .ok (.iaload, 1) := by decide +kernel
theorem dX10_prose_24 : decode cX10_prose 24 = .ok (.ifCond .eq 6, 3) := by decide +kernel
theorem dX10_prose_27 : decode cX10_prose 27 = .ok (.bipush (-4), 2) := by decide +kernel
theorem dX10_prose_29 : decode cX10_prose 29 = .ok (.ireturn, 1) := by decide +kernel
theorem dX10_prose_30 : decode cX10_prose 30 = .ok (.aload_n 0, 1) := by decide +kernel
theorem dX10_prose_31 : decode cX10_prose 31 = .ok (.getfield 7, 3) := by decide +kernel
theorem dX10_prose_34 : decode cX10_prose 34 = .ok (.iconst 4, 1) := by decide +kernel
theorem dX10_prose_35 : decode cX10_prose 35 = .ok (.iaload, 1) := by decide +kernel
theorem dX10_prose_36 : decode cX10_prose 36 = .ok (.bipush 99, 2) := by decide +kernel
theorem dX10_prose_38 : decode cX10_prose 38 = .ok (.if_icmp .ne 6, 3) := by decide +kernel
theorem dX10_prose_41 : decode cX10_prose 41 = .ok (.bipush (-5), 2) := by decide +kernel
theorem dX10_prose_43 : decode cX10_prose 43 = .ok (.ireturn, 1) := by decide +kernel
theorem dX10_prose_44 : decode cX10_prose 44 = .ok (.aload_n 0, 1) := by decide +kernel
theorem dX10_prose_45 : decode cX10_prose 45 = .ok (.invokevirtual 215, 3) := by decide +kernel
theorem dX10_prose_48 : decode cX10_prose 48 = .ok (.aload_n 0, 1) := by decide +kernel
theorem dX10_prose_49 : decode cX10_prose 49 = .ok (.iload_n 1, 1) := by decide +kernel
theorem dX10_prose_50 : decode cX10_prose 50 = .ok (.iconst 3, 1) := by decide +kernel
theorem dX10_prose_51 : decode cX10_prose 51 = .ok (.iconst 3, 1) := by decide +kernel
theorem dX10_prose_52 : decode cX10_prose 52 = .ok (.aload_n 0, 1) := by decide +kernel
theorem dX10_prose_53 : decode cX10_prose 53 = .ok (.getfield 7, 3) := by decide +kernel
theorem dX10_prose_56 : decode cX10_prose 56 = .ok (.bipush 46, 2) := by decide +kernel
theorem dX10_prose_58 : decode cX10_prose 58 = .ok (.iconst 3, 1) := by decide +kernel
theorem dX10_prose_59 : decode cX10_prose 59 = .ok (.iload_n 1, 1) := by decide +kernel
theorem dX10_prose_60 : decode cX10_prose 60 = .ok (.imul, 1) := by decide +kernel
theorem dX10_prose_61 : decode cX10_prose 61 = .ok (.iadd, 1) := by decide +kernel
theorem dX10_prose_62 : decode cX10_prose 62 = .ok (.iaload, 1) := by decide +kernel
theorem dX10_prose_63 : decode cX10_prose 63 = .ok (.imul, 1) := by decide +kernel
theorem dX10_prose_64 : decode cX10_prose 64 = .ok (.invokevirtual 222, 3) := by decide +kernel
theorem dX10_prose_67 : decode cX10_prose 67 = .ok (.ireturn, 1) := by decide +kernel
theorem dX10_day_0 : decode cX10_day 0 = .ok (.aload_n 0, 1) := by decide +kernel
theorem dX10_day_1 : decode cX10_day 1 = .ok (.getfield 7, 3) := by decide +kernel
theorem dX10_day_4 : decode cX10_day 4 = .ok (.iconst 4, 1) := by decide +kernel
theorem dX10_day_5 : decode cX10_day 5 = .ok (.iaload, 1) := by decide +kernel
theorem dX10_day_6 : decode cX10_day 6 = .ok (.bipush 99, 2) := by decide +kernel
theorem dX10_day_8 : decode cX10_day 8 = .ok (.if_icmp .ne 6, 3) := by decide +kernel
theorem dX10_day_11 : decode cX10_day 11 = .ok (.bipush (-5), 2) := by decide +kernel
theorem dX10_day_13 : decode cX10_day 13 = .ok (.ireturn, 1) := by decide +kernel
theorem dX10_day_14 : decode cX10_day 14 = .ok (.aload_n 0, 1) := by decide +kernel
theorem dX10_day_15 : decode cX10_day 15 = .ok (.invokevirtual 215, 3) := by decide +kernel
theorem dX10_day_18 : decode cX10_day 18 = .ok (.aload_n 0, 1) := by decide +kernel
theorem dX10_day_19 : decode cX10_day 19 = .ok (.getfield 7, 3) := by decide +kernel
theorem dX10_day_22 : decode cX10_day 22 = .ok (.iconst 4, 1) := by decide +kernel
theorem dX10_day_23 : decode cX10_day 23 = .ok (.dup2, 1) := by decide +kernel
theorem dX10_day_24 : decode cX10_day 24 = .ok (.iaload, 1) := by decide +kernel
theorem dX10_day_25 : decode cX10_day 25 = .ok (.iconst 1, 1) := by decide +kernel
theorem dX10_day_26 : decode cX10_day 26 = .ok (.iadd, 1) := by decide +kernel
theorem dX10_day_27 : decode cX10_day 27 = .ok (.iastore, 1) := by decide +kernel
theorem dX10_day_28 : decode cX10_day 28 = .ok (.aload_n 0, 1) := by decide +kernel
theorem dX10_day_29 : decode cX10_day 29 = .ok (.getfield 7, 3) := by decide +kernel
theorem dX10_day_32 : decode cX10_day 32 = .ok (.iconst 4, 1) := by decide +kernel
theorem dX10_day_33 : decode cX10_day 33 = .ok (.iaload, 1) := by decide +kernel
theorem dX10_day_34 : decode cX10_day 34 = .ok (.ireturn, 1) := by decide +kernel
theorem dX10_undo_0 : decode cX10_undo 0 = .ok (.aload_n 0, 1) := by decide +kernel
theorem dX10_undo_1 : decode cX10_undo 1 = .ok (.getfield 170, 3) := by decide +kernel
theorem dX10_undo_4 : decode cX10_undo 4 = .ok (.ifCond .ne 6, 3) := by decide +kernel
theorem dX10_undo_7 : decode cX10_undo 7 = .ok (.bipush (-4), 2) := by decide +kernel
theorem dX10_undo_9 : decode cX10_undo 9 = .ok (.ireturn, 1) := by decide +kernel
theorem dX10_undo_10 : decode cX10_undo 10 = .ok (.aload_n 0, 1) := by decide +kernel
theorem dX10_undo_11 : decode cX10_undo 11 = .ok (.dup, 1) := by decide +kernel
theorem dX10_undo_12 : decode cX10_undo 12 = .ok (.getfield 170, 3) := by decide +kernel
theorem dX10_undo_15 : decode cX10_undo 15 = .ok (.iconst 1, 1) := by decide +kernel
theorem dX10_undo_16 : decode cX10_undo 16 = .ok (.isub, 1) := by decide +kernel
theorem dX10_undo_17 : decode cX10_undo 17 = .ok (.putfield 170, 3) := by decide +kernel
theorem dX10_undo_20 : decode cX10_undo 20 = .ok (.iconst 0, 1) := by decide +kernel
theorem dX10_undo_21 : decode cX10_undo 21 = .ok (.istore_n 1, 1) := by decide +kernel
theorem dX10_undo_22 : decode cX10_undo 22 = .ok (.iload_n 1, 1) := by decide +kernel
theorem dX10_undo_23 : decode cX10_undo 23 = .ok (.bipush 98, 2) := by decide +kernel
theorem dX10_undo_25 : decode cX10_undo 25 = .ok (.if_icmp .ge 29, 3) := by decide +kernel
theorem dX10_undo_28 : decode cX10_undo 28 = .ok (.aload_n 0, 1) := by decide +kernel
theorem dX10_undo_29 : decode cX10_undo 29 = .ok (.getfield 7, 3) := by decide +kernel
theorem dX10_undo_32 : decode cX10_undo 32 = .ok (.iload_n 1, 1) := by decide +kernel
theorem dX10_undo_33 : decode cX10_undo 33 = .ok (.aload_n 0, 1) := by decide +kernel
theorem dX10_undo_34 : decode cX10_undo 34 = .ok (.getfield 13, 3) := by decide +kernel
theorem dX10_undo_37 : decode cX10_undo 37 = .ok (.bipush 98, 2) := by decide +kernel
theorem dX10_undo_39 : decode cX10_undo 39 = .ok (.aload_n 0, 1) := by decide +kernel
theorem dX10_undo_40 : decode cX10_undo 40 = .ok (.getfield 170, 3) := by decide +kernel
theorem dX10_undo_43 : decode cX10_undo 43 = .ok (.imul, 1) := by decide +kernel
theorem dX10_undo_44 : decode cX10_undo 44 = .ok (.iload_n 1, 1) := by decide +kernel
theorem dX10_undo_45 : decode cX10_undo 45 = .ok (.iadd, 1) := by decide +kernel
theorem dX10_undo_46 : decode cX10_undo 46 = .ok (.iaload, 1) := by decide +kernel
theorem dX10_undo_47 : decode cX10_undo 47 = .ok (.iastore, 1) := by decide +kernel
theorem dX10_undo_48 : decode cX10_undo 48 = .ok (.iinc 1 1, 3) := by decide +kernel
theorem dX10_undo_51 : decode cX10_undo 51 = .ok (.goto (-29), 3) := by decide +kernel
theorem dX10_undo_54 : decode cX10_undo 54 = .ok (.aload_n 0, 1) := by decide +kernel
theorem dX10_undo_55 : decode cX10_undo 55 = .ok (.getfield 170, 3) := by decide +kernel
theorem dX10_undo_58 : decode cX10_undo 58 = .ok (.ireturn, 1) := by decide +kernel
theorem dX10_keep_0 : decode cX10_keep 0 = .ok (.iload_n 1, 1) := by decide +kernel
theorem dX10_keep_1 : decode cX10_keep 1 = .ok (.i2l, 1) := by decide +kernel
theorem dX10_keep_2 : decode cX10_keep 2 = .ok (.lconst 0, 1) := by decide +kernel
theorem dX10_keep_3 : decode cX10_keep 3 = .ok (.lconst 1, 1) := by decide +kernel
theorem dX10_keep_4 : decode cX10_keep 4 = .ok (.invokestatic 54, 3) := by decide +kernel
theorem dX10_keep_7 : decode cX10_keep 7 = .ok (.ifCond .ne 6, 3) := by decide +kernel
theorem dX10_keep_10 : decode cX10_keep 10 = .ok (.bipush (-2), 2) := by decide +kernel
theorem dX10_keep_12 : decode cX10_keep 12 = .ok (.ireturn, 1) := by decide +kernel
theorem dX10_keep_13 : decode cX10_keep 13 = .ok (.iconst 0, 1) := by decide +kernel
theorem dX10_keep_14 : decode cX10_keep 14 = .ok (.istore_n 2, 1) := by decide +kernel
theorem dX10_keep_15 : decode cX10_keep 15 = .ok (.iload_n 2, 1) := by decide +kernel
theorem dX10_keep_16 : decode cX10_keep 16 = .ok (.bipush 98, 2) := by decide +kernel
theorem dX10_keep_18 : decode cX10_keep 18 = .ok (.if_icmp .ge 26, 3) := by decide +kernel
theorem dX10_keep_21 : decode cX10_keep 21 = .ok (.aload_n 0, 1) := by decide +kernel
theorem dX10_keep_22 : decode cX10_keep 22 = .ok (.getfield 16, 3) := by decide +kernel
theorem dX10_keep_25 : decode cX10_keep 25 = .ok (.bipush 98, 2) := by decide +kernel
theorem dX10_keep_27 : decode cX10_keep 27 = .ok (.iload_n 1, 1) := by decide +kernel
theorem dX10_keep_28 : decode cX10_keep 28 = .ok (.imul, 1) := by decide +kernel
theorem dX10_keep_29 : decode cX10_keep 29 = .ok (.iload_n 2, 1) := by decide +kernel
theorem dX10_keep_30 : decode cX10_keep 30 = .ok (.iadd, 1) := by decide +kernel
theorem dX10_keep_31 : decode cX10_keep 31 = .ok (.aload_n 0, 1) := by decide +kernel
theorem dX10_keep_32 : decode cX10_keep 32 = .ok (.getfield 7, 3) := by decide +kernel
theorem dX10_keep_35 : decode cX10_keep 35 = .ok (.iload_n 2, 1) := by decide +kernel
theorem dX10_keep_36 : decode cX10_keep 36 = .ok (.iaload, 1) := by decide +kernel
theorem dX10_keep_37 : decode cX10_keep 37 = .ok (.iastore, 1) := by decide +kernel
theorem dX10_keep_38 : decode cX10_keep 38 = .ok (.iinc 2 1, 3) := by decide +kernel
theorem dX10_keep_41 : decode cX10_keep 41 = .ok (.goto (-26), 3) := by decide +kernel
theorem dX10_keep_44 : decode cX10_keep 44 = .ok (.aload_n 0, 1) := by decide +kernel
theorem dX10_keep_45 : decode cX10_keep 45 = .ok (.getfield 19, 3) := by decide +kernel
theorem dX10_keep_48 : decode cX10_keep 48 = .ok (.iload_n 1, 1) := by decide +kernel
theorem dX10_keep_49 : decode cX10_keep 49 = .ok (.iconst 1, 1) := by decide +kernel
theorem dX10_keep_50 : decode cX10_keep 50 = .ok (.bastore, 1) := by decide +kernel
theorem dX10_keep_51 : decode cX10_keep 51 = .ok (.aload_n 0, 1) := by decide +kernel
theorem dX10_keep_52 : decode cX10_keep 52 = .ok (.getfield 7, 3) := by decide +kernel
theorem dX10_keep_55 : decode cX10_keep 55 = .ok (.iconst 4, 1) := by decide +kernel
theorem dX10_keep_56 : decode cX10_keep 56 = .ok (.iaload, 1) := by decide +kernel
theorem dX10_keep_57 : decode cX10_keep 57 = .ok (.ireturn, 1) := by decide +kernel
theorem dX10_back_0 : decode cX10_back 0 = .ok (.iload_n 1, 1) := by decide +kernel
theorem dX10_back_1 : decode cX10_back 1 = .ok (.i2l, 1) := by decide +kernel
theorem dX10_back_2 : decode cX10_back 2 = .ok (.lconst 0, 1) := by decide +kernel
theorem dX10_back_3 : decode cX10_back 3 = .ok (.lconst 1, 1) := by decide +kernel
theorem dX10_back_4 : decode cX10_back 4 = .ok (.invokestatic 54, 3) := by decide +kernel
theorem dX10_back_7 : decode cX10_back 7 = .ok (.ifCond .ne 6, 3) := by decide +kernel
theorem dX10_back_10 : decode cX10_back 10 = .ok (.bipush (-2), 2) := by decide +kernel
theorem dX10_back_12 : decode cX10_back 12 = .ok (.ireturn, 1) := by decide +kernel
theorem dX10_back_13 : decode cX10_back 13 = .ok (.aload_n 0, 1) := by decide +kernel
theorem dX10_back_14 : decode cX10_back 14 = .ok (.getfield 19, 3) := by decide +kernel
theorem dX10_back_17 : decode cX10_back 17 = .ok (.iload_n 1, 1) := by decide +kernel
theorem dX10_back_18 : decode cX10_back 18 = .ok (.baload, 1) := by decide +kernel
theorem dX10_back_19 : decode cX10_back 19 = .ok (.ifCond .ne 6, 3) := by decide +kernel
theorem dX10_back_22 : decode cX10_back 22 = .ok (.bipush (-4), 2) := by decide +kernel
theorem dX10_back_24 : decode cX10_back 24 = .ok (.ireturn, 1) := by decide +kernel
theorem dX10_back_25 : decode cX10_back 25 = .ok (.iconst 0, 1) := by decide +kernel
theorem dX10_back_26 : decode cX10_back 26 = .ok (.istore_n 2, 1) := by decide +kernel
theorem dX10_back_27 : decode cX10_back 27 = .ok (.iload_n 2, 1) := by decide +kernel
theorem dX10_back_28 : decode cX10_back 28 = .ok (.bipush 98, 2) := by decide +kernel
theorem dX10_back_30 : decode cX10_back 30 = .ok (.if_icmp .ge 26, 3) := by decide +kernel
theorem dX10_back_33 : decode cX10_back 33 = .ok (.aload_n 0, 1) := by decide +kernel
theorem dX10_back_34 : decode cX10_back 34 = .ok (.getfield 7, 3) := by decide +kernel
theorem dX10_back_37 : decode cX10_back 37 = .ok (.iload_n 2, 1) := by decide +kernel
theorem dX10_back_38 : decode cX10_back 38 = .ok (.aload_n 0, 1) := by decide +kernel
theorem dX10_back_39 : decode cX10_back 39 = .ok (.getfield 16, 3) := by decide +kernel
theorem dX10_back_42 : decode cX10_back 42 = .ok (.bipush 98, 2) := by decide +kernel
theorem dX10_back_44 : decode cX10_back 44 = .ok (.iload_n 1, 1) := by decide +kernel
theorem dX10_back_45 : decode cX10_back 45 = .ok (.imul, 1) := by decide +kernel
theorem dX10_back_46 : decode cX10_back 46 = .ok (.iload_n 2, 1) := by decide +kernel
theorem dX10_back_47 : decode cX10_back 47 = .ok (.iadd, 1) := by decide +kernel
theorem dX10_back_48 : decode cX10_back 48 = .ok (.iaload, 1) := by decide +kernel
theorem dX10_back_49 : decode cX10_back 49 = .ok (.iastore, 1) := by decide +kernel
theorem dX10_back_50 : decode cX10_back 50 = .ok (.iinc 2 1, 3) := by decide +kernel
theorem dX10_back_53 : decode cX10_back 53 = .ok (.goto (-26), 3) := by decide +kernel
theorem dX10_back_56 : decode cX10_back 56 = .ok (.aload_n 0, 1) := by decide +kernel
theorem dX10_back_57 : decode cX10_back 57 = .ok (.iconst 0, 1) := by decide +kernel
theorem dX10_back_58 : decode cX10_back 58 = .ok (.putfield 170, 3) := by decide +kernel
theorem dX10_back_61 : decode cX10_back 61 = .ok (.aload_n 0, 1) := by decide +kernel
theorem dX10_back_62 : decode cX10_back 62 = .ok (.getfield 7, 3) := by decide +kernel
theorem dX10_back_65 : decode cX10_back 65 = .ok (.iconst 4, 1) := by decide +kernel
theorem dX10_back_66 : decode cX10_back 66 = .ok (.iaload, 1) := by decide +kernel
theorem dX10_back_67 : decode cX10_back 67 = .ok (.ireturn, 1) := by decide +kernel
theorem dX10_ways_0 : decode cX10_ways 0 = .ok (.iconst 1, 1) := by decide +kernel
theorem dX10_ways_1 : decode cX10_ways 1 = .ok (.istore_n 2, 1) := by decide +kernel
theorem dX10_ways_2 : decode cX10_ways 2 = .ok (.iconst 0, 1) := by decide +kernel
theorem dX10_ways_3 : decode cX10_ways 3 = .ok (.istore_n 3, 1) := by decide +kernel
theorem dX10_ways_4 : decode cX10_ways 4 = .ok (.iload_n 3, 1) := by decide +kernel
theorem dX10_ways_5 : decode cX10_ways 5 = .ok (.iload_n 1, 1) := by decide +kernel
theorem dX10_ways_6 : decode cX10_ways 6 = .ok (.if_icmp .ge 18, 3) := by decide +kernel
theorem dX10_ways_9 : decode cX10_ways 9 = .ok (.iload_n 2, 1) := by decide +kernel
theorem dX10_ways_10 : decode cX10_ways 10 = .ok (.aload_n 0, 1) := by decide +kernel
theorem dX10_ways_11 : decode cX10_ways 11 = .ok (.getfield 7, 3) := by decide +kernel
theorem dX10_ways_14 : decode cX10_ways 14 = .ok (.iconst 0, 1) := by decide +kernel
theorem dX10_ways_15 : decode cX10_ways 15 = .ok (.iaload, 1) := by decide +kernel
theorem dX10_ways_16 : decode cX10_ways 16 = .ok (.imul, 1) := by decide +kernel
theorem dX10_ways_17 : decode cX10_ways 17 = .ok (.istore_n 2, 1) := by decide +kernel
theorem dX10_ways_18 : decode cX10_ways 18 = .ok (.iinc 3 1, 3) := by decide +kernel
theorem dX10_ways_21 : decode cX10_ways 21 = .ok (.goto (-17), 3) := by decide +kernel
theorem dX10_ways_24 : decode cX10_ways 24 = .ok (.iload_n 2, 1) := by decide +kernel
theorem dX10_ways_25 : decode cX10_ways 25 = .ok (.ireturn, 1) := by decide +kernel
theorem dX10_lays_0 : decode cX10_lays 0 = .ok (.iload_n 1, 1) := by decide +kernel
theorem dX10_lays_1 : decode cX10_lays 1 = .ok (.istore_n 3, 1) := by decide +kernel
theorem dX10_lays_2 : decode cX10_lays 2 = .ok (.iload_n 2, 1) := by decide +kernel
theorem dX10_lays_3 : decode cX10_lays 3 = .ok (.iconst 1, 1) := by decide +kernel
theorem dX10_lays_4 : decode cX10_lays 4 = .ok (.isub, 1) := by decide +kernel
theorem dX10_lays_5 : decode cX10_lays 5 = .ok (.istore 4, 2) := by decide +kernel
theorem dX10_lays_7 : decode cX10_lays 7 = .ok (.iload 4, 2) := by decide +kernel
theorem dX10_lays_9 : decode cX10_lays 9 = .ok (.ifCond .lt 33, 3) := by decide +kernel
theorem dX10_lays_12 : decode cX10_lays 12 = .ok (.aload_n 0, 1) := by decide +kernel
theorem dX10_lays_13 : decode cX10_lays 13 = .ok (.getfield 35, 3) := by decide +kernel
theorem dX10_lays_16 : decode cX10_lays 16 = .ok (.iload 4, 2) := by decide +kernel
theorem dX10_lays_18 : decode cX10_lays 18 = .ok (.iload_n 3, 1) := by decide +kernel
theorem dX10_lays_19 : decode cX10_lays 19 = .ok (.aload_n 0, 1) := by decide +kernel
theorem dX10_lays_20 : decode cX10_lays 20 = .ok (.getfield 7, 3) := by decide +kernel
theorem dX10_lays_23 : decode cX10_lays 23 = .ok (.iconst 0, 1) := by decide +kernel
theorem dX10_lays_24 : decode cX10_lays 24 = .ok (.iaload, 1) := by decide +kernel
theorem dX10_lays_25 : decode cX10_lays 25 = .ok (.irem, 1) := by decide +kernel
theorem dX10_lays_26 : decode cX10_lays 26 = .ok (.iastore, 1) := by decide +kernel
theorem dX10_lays_27 : decode cX10_lays 27 = .ok (.iload_n 3, 1) := by decide +kernel
theorem dX10_lays_28 : decode cX10_lays 28 = .ok (.aload_n 0, 1) := by decide +kernel
theorem dX10_lays_29 : decode cX10_lays 29 = .ok (.getfield 7, 3) := by decide +kernel
theorem dX10_lays_32 : decode cX10_lays 32 = .ok (.iconst 0, 1) := by decide +kernel
theorem dX10_lays_33 : decode cX10_lays 33 = .ok (.iaload, 1) := by decide +kernel
theorem dX10_lays_34 : decode cX10_lays 34 = .ok (.idiv, 1) := by decide +kernel
theorem dX10_lays_35 : decode cX10_lays 35 = .ok (.istore_n 3, 1) := by decide +kernel
theorem dX10_lays_36 : decode cX10_lays 36 = .ok (.iinc 4 (-1), 3) := by decide +kernel
theorem dX10_lays_39 : decode cX10_lays 39 = .ok (.goto (-32), 3) := by decide +kernel
theorem dX10_lays_42 : decode cX10_lays 42 = .ok (.return_, 1) := by decide +kernel
theorem dX10_keepsFirst_0 : decode cX10_keepsFirst 0 = .ok (.iconst 0, 1) := by decide +kernel
theorem dX10_keepsFirst_1 : decode cX10_keepsFirst 1 = .ok (.istore_n 2, 1) := by decide +kernel
theorem dX10_keepsFirst_2 : decode cX10_keepsFirst 2 = .ok (.iload_n 2, 1) := by decide +kernel
theorem dX10_keepsFirst_3 : decode cX10_keepsFirst 3 = .ok (.iload_n 1, 1) := by decide +kernel
theorem dX10_keepsFirst_4 : decode cX10_keepsFirst 4 = .ok (.if_icmp .ge 28, 3) := by decide +kernel
theorem dX10_keepsFirst_7 : decode cX10_keepsFirst 7 = .ok (.aload_n 0, 1) := by decide +kernel
theorem dX10_keepsFirst_8 : decode cX10_keepsFirst 8 = .ok (.getfield 225, 3) := by decide +kernel
theorem dX10_keepsFirst_11 : decode cX10_keepsFirst 11 = .ok (.ifCond .ne 21, 3) := by decide +kernel
theorem dX10_keepsFirst_14 : decode cX10_keepsFirst 14 = .ok (.aload_n 0, 1) := by decide +kernel
theorem dX10_keepsFirst_15 : decode cX10_keepsFirst 15 = .ok (.getfield 38, 3) := by decide +kernel
theorem dX10_keepsFirst_18 : decode cX10_keepsFirst 18 = .ok (.iload_n 2, 1) := by decide +kernel
theorem dX10_keepsFirst_19 : decode cX10_keepsFirst 19 = .ok (.aload_n 0, 1) := by decide +kernel
theorem dX10_keepsFirst_20 : decode cX10_keepsFirst 20 = .ok (.getfield 35, 3) := by decide +kernel
theorem dX10_keepsFirst_23 : decode cX10_keepsFirst 23 = .ok (.iload_n 2, 1) := by decide +kernel
theorem dX10_keepsFirst_24 : decode cX10_keepsFirst 24 = .ok (.iaload, 1) := by decide +kernel
theorem dX10_keepsFirst_25 : decode cX10_keepsFirst 25 = .ok (.iastore, 1) := by decide +kernel
theorem dX10_keepsFirst_26 : decode cX10_keepsFirst 26 = .ok (.iinc 2 1, 3) := by decide +kernel
theorem dX10_keepsFirst_29 : decode cX10_keepsFirst 29 = .ok (.goto (-27), 3) := by decide +kernel
theorem dX10_keepsFirst_32 : decode cX10_keepsFirst 32 = .ok (.aload_n 0, 1) := by decide +kernel
theorem dX10_keepsFirst_33 : decode cX10_keepsFirst 33 = .ok (.dup, 1) := by decide +kernel
theorem dX10_keepsFirst_34 : decode cX10_keepsFirst 34 = .ok (.getfield 225, 3) := by decide +kernel
theorem dX10_keepsFirst_37 : decode cX10_keepsFirst 37 = .ok (.iconst 1, 1) := by decide +kernel
theorem dX10_keepsFirst_38 : decode cX10_keepsFirst 38 = .ok (.iadd, 1) := by decide +kernel
theorem dX10_keepsFirst_39 : decode cX10_keepsFirst 39 = .ok (.putfield 225, 3) := by decide +kernel
theorem dX10_keepsFirst_42 : decode cX10_keepsFirst 42 = .ok (.return_, 1) := by decide +kernel
theorem dX10_passesSome_0 : decode cX10_passesSome 0 = .ok (.iconst 1, 1) := by decide +kernel
theorem dX10_passesSome_1 : decode cX10_passesSome 1 = .ok (.istore 4, 2) := by decide +kernel
theorem dX10_passesSome_3 : decode cX10_passesSome 3 = .ok (.iconst 0, 1) := by decide +kernel
theorem dX10_passesSome_4 : decode cX10_passesSome 4 = .ok (.istore 5, 2) := by decide +kernel
theorem dX10_passesSome_6 : decode cX10_passesSome 6 = .ok (.iload 5, 2) := by decide +kernel
theorem dX10_passesSome_8 : decode cX10_passesSome 8 = .ok (.aload_n 0, 1) := by decide +kernel
theorem dX10_passesSome_9 : decode cX10_passesSome 9 = .ok (.getfield 7, 3) := by decide +kernel
theorem dX10_passesSome_12 : decode cX10_passesSome 12 = .ok (.iconst 2, 1) := by decide +kernel
theorem dX10_passesSome_13 : decode cX10_passesSome 13 = .ok (.iaload, 1) := by decide +kernel
theorem dX10_passesSome_14 : decode cX10_passesSome 14 = .ok (.if_icmp .ge 47, 3) := by decide +kernel
theorem dX10_passesSome_17 : decode cX10_passesSome 17 = .ok (.iload 4, 2) := by decide +kernel
theorem dX10_passesSome_19 : decode cX10_passesSome 19 = .ok (.ifCond .eq 33, 3) := by decide +kernel
theorem dX10_passesSome_22 : decode cX10_passesSome 22 = .ok (.iload_n 3, 1) := by decide +kernel
theorem dX10_passesSome_23 : decode cX10_passesSome 23 = .ok (.iconst (-1), 1) := by decide +kernel
theorem dX10_passesSome_24 : decode cX10_passesSome 24 = .ok (.if_icmp .eq 9, 3) := by decide +kernel
theorem dX10_passesSome_27 : decode cX10_passesSome 27 = .ok (.iload 5, 2) := by decide +kernel
theorem dX10_passesSome_29 : decode cX10_passesSome 29 = .ok (.iload_n 3, 1) := by decide +kernel
theorem dX10_passesSome_30 : decode cX10_passesSome 30 = .ok (.if_icmp .ne 18, 3) := by decide +kernel
theorem dX10_passesSome_33 : decode cX10_passesSome 33 = .ok (.aload_n 0, 1) := by decide +kernel
theorem dX10_passesSome_34 : decode cX10_passesSome 34 = .ok (.aload_n 0, 1) := by decide +kernel
theorem dX10_passesSome_35 : decode cX10_passesSome 35 = .ok (.getfield 35, 3) := by decide +kernel
theorem dX10_passesSome_38 : decode cX10_passesSome 38 = .ok (.iload_n 1, 1) := by decide +kernel
theorem dX10_passesSome_39 : decode cX10_passesSome 39 = .ok (.iload_n 2, 1) := by decide +kernel
theorem dX10_passesSome_40 : decode cX10_passesSome 40 = .ok (.iload 5, 2) := by decide +kernel
theorem dX10_passesSome_42 : decode cX10_passesSome 42 = .ok (.invokevirtual 211, 3) := by decide +kernel
theorem dX10_passesSome_45 : decode cX10_passesSome 45 = .ok (.ifCond .eq 7, 3) := by decide +kernel
theorem dX10_passesSome_48 : decode cX10_passesSome 48 = .ok (.iconst 1, 1) := by decide +kernel
theorem dX10_passesSome_49 : decode cX10_passesSome 49 = .ok (.goto 4, 3) := by decide +kernel
theorem dX10_passesSome_52 : decode cX10_passesSome 52 = .ok (.iconst 0, 1) := by decide +kernel
theorem dX10_passesSome_53 : decode cX10_passesSome 53 = .ok (.istore 4, 2) := by decide +kernel
theorem dX10_passesSome_55 : decode cX10_passesSome 55 = .ok (.iinc 5 1, 3) := by decide +kernel
theorem dX10_passesSome_58 : decode cX10_passesSome 58 = .ok (.goto (-52), 3) := by decide +kernel
theorem dX10_passesSome_61 : decode cX10_passesSome 61 = .ok (.iload 4, 2) := by decide +kernel
theorem dX10_passesSome_63 : decode cX10_passesSome 63 = .ok (.ireturn, 1) := by decide +kernel
theorem dX10_shortestOf_0 : decode cX10_shortestOf 0 = .ok (.aload_n 0, 1) := by decide +kernel
theorem dX10_shortestOf_1 : decode cX10_shortestOf 1 = .ok (.iconst 0, 1) := by decide +kernel
theorem dX10_shortestOf_2 : decode cX10_shortestOf 2 = .ok (.putfield 225, 3) := by decide +kernel
theorem dX10_shortestOf_5 : decode cX10_shortestOf 5 = .ok (.iconst 1, 1) := by decide +kernel
theorem dX10_shortestOf_6 : decode cX10_shortestOf 6 = .ok (.istore_n 3, 1) := by decide +kernel
theorem dX10_shortestOf_7 : decode cX10_shortestOf 7 = .ok (.iload_n 3, 1) := by decide +kernel
theorem dX10_shortestOf_8 : decode cX10_shortestOf 8 = .ok (.iconst 4, 1) := by decide +kernel
theorem dX10_shortestOf_9 : decode cX10_shortestOf 9 = .ok (.if_icmp .gt 63, 3) := by decide +kernel
theorem dX10_shortestOf_12 : decode cX10_shortestOf 12 = .ok (.aload_n 0, 1) := by decide +kernel
end
section
theorem dX10_shortestOf_13 : decode cX10_shortestOf 13 = .ok (.iload_n 3, 1) := by decide +kernel
theorem dX10_shortestOf_14 : decode cX10_shortestOf 14 = .ok (.invokevirtual 228, 3) := by decide +kernel
theorem dX10_shortestOf_17 : decode cX10_shortestOf 17 = .ok (.istore 4, 2) := by decide +kernel
theorem dX10_shortestOf_19 : decode cX10_shortestOf 19 = .ok (.iconst 0, 1) := by decide +kernel
theorem dX10_shortestOf_20 : decode cX10_shortestOf 20 = .ok (.istore 5, 2) := by decide +kernel
theorem dX10_shortestOf_22 : decode cX10_shortestOf 22 = .ok (.iload 5, 2) := by decide +kernel
theorem dX10_shortestOf_24 : decode cX10_shortestOf 24 = .ok (.iload 4, 2) := by decide +kernel
theorem dX10_shortestOf_26 : decode cX10_shortestOf 26 = .ok (.if_icmp .ge 31, 3) := by decide +kernel
theorem dX10_shortestOf_29 : decode cX10_shortestOf 29 = .ok (.aload_n 0, 1) := by decide +kernel
theorem dX10_shortestOf_30 : decode cX10_shortestOf 30 = .ok (.iload 5, 2) := by decide +kernel
theorem dX10_shortestOf_32 : decode cX10_shortestOf 32 = .ok (.iload_n 3, 1) := by decide +kernel
theorem dX10_shortestOf_33 : decode cX10_shortestOf 33 = .ok (.invokevirtual 231, 3) := by decide +kernel
theorem dX10_shortestOf_36 : decode cX10_shortestOf 36 = .ok (.aload_n 0, 1) := by decide +kernel
theorem dX10_shortestOf_37 : decode cX10_shortestOf 37 = .ok (.iload_n 3, 1) := by decide +kernel
theorem dX10_shortestOf_38 : decode cX10_shortestOf 38 = .ok (.iload_n 1, 1) := by decide +kernel
theorem dX10_shortestOf_39 : decode cX10_shortestOf 39 = .ok (.iload_n 2, 1) := by decide +kernel
theorem dX10_shortestOf_40 : decode cX10_shortestOf 40 = .ok (.invokevirtual 235, 3) := by decide +kernel
theorem dX10_shortestOf_43 : decode cX10_shortestOf 43 = .ok (.ifCond .eq 8, 3) := by decide +kernel
theorem dX10_shortestOf_46 : decode cX10_shortestOf 46 = .ok (.aload_n 0, 1) := by decide +kernel
theorem dX10_shortestOf_47 : decode cX10_shortestOf 47 = .ok (.iload_n 3, 1) := by decide +kernel
theorem dX10_shortestOf_48 : decode cX10_shortestOf 48 = .ok (.invokevirtual 239, 3) := by decide +kernel
theorem dX10_shortestOf_51 : decode cX10_shortestOf 51 = .ok (.iinc 5 1, 3) := by decide +kernel
theorem dX10_shortestOf_54 : decode cX10_shortestOf 54 = .ok (.goto (-32), 3) := by decide +kernel
theorem dX10_shortestOf_57 : decode cX10_shortestOf 57 = .ok (.aload_n 0, 1) := by decide +kernel
theorem dX10_shortestOf_58 : decode cX10_shortestOf 58 = .ok (.getfield 225, 3) := by decide +kernel
theorem dX10_shortestOf_61 : decode cX10_shortestOf 61 = .ok (.ifCond .le 5, 3) := by decide +kernel
theorem dX10_shortestOf_64 : decode cX10_shortestOf 64 = .ok (.iload_n 3, 1) := by decide +kernel
theorem dX10_shortestOf_65 : decode cX10_shortestOf 65 = .ok (.ireturn, 1) := by decide +kernel
theorem dX10_shortestOf_66 : decode cX10_shortestOf 66 = .ok (.iinc 3 1, 3) := by decide +kernel
theorem dX10_shortestOf_69 : decode cX10_shortestOf 69 = .ok (.goto (-62), 3) := by decide +kernel
theorem dX10_shortestOf_72 : decode cX10_shortestOf 72 = .ok (.iconst (-1), 1) := by decide +kernel
theorem dX10_shortestOf_73 : decode cX10_shortestOf 73 = .ok (.ireturn, 1) := by decide +kernel
theorem dX10_shortest_0 : decode cX10_shortest 0 = .ok (.aload_n 0, 1) := by decide +kernel
theorem dX10_shortest_1 : decode cX10_shortest 1 = .ok (.iload_n 1, 1) := by decide +kernel
theorem dX10_shortest_2 : decode cX10_shortest 2 = .ok (.iload_n 2, 1) := by decide +kernel
theorem dX10_shortest_3 : decode cX10_shortest 3 = .ok (.invokevirtual 208, 3) := by decide +kernel
theorem dX10_shortest_6 : decode cX10_shortest 6 = .ok (.ifCond .ne 6, 3) := by decide +kernel
theorem dX10_shortest_9 : decode cX10_shortest 9 = .ok (.bipush (-2), 2) := by decide +kernel
theorem dX10_shortest_11 : decode cX10_shortest 11 = .ok (.ireturn, 1) := by decide +kernel
theorem dX10_shortest_12 : decode cX10_shortest 12 = .ok (.iload_n 3, 1) := by decide +kernel
theorem dX10_shortest_13 : decode cX10_shortest 13 = .ok (.i2l, 1) := by decide +kernel
theorem dX10_shortest_14 : decode cX10_shortest 14 = .ok (.lconst 0, 1) := by decide +kernel
theorem dX10_shortest_15 : decode cX10_shortest 15 = .ok (.lconst 1, 1) := by decide +kernel
theorem dX10_shortest_16 : decode cX10_shortest 16 = .ok (.invokestatic 54, 3) := by decide +kernel
theorem dX10_shortest_19 : decode cX10_shortest 19 = .ok (.ifCond .ne 6, 3) := by decide +kernel
theorem dX10_shortest_22 : decode cX10_shortest 22 = .ok (.bipush (-3), 2) := by decide +kernel
theorem dX10_shortest_24 : decode cX10_shortest 24 = .ok (.ireturn, 1) := by decide +kernel
theorem dX10_shortest_25 : decode cX10_shortest 25 = .ok (.aload_n 0, 1) := by decide +kernel
theorem dX10_shortest_26 : decode cX10_shortest 26 = .ok (.iload_n 1, 1) := by decide +kernel
theorem dX10_shortest_27 : decode cX10_shortest 27 = .ok (.iload_n 2, 1) := by decide +kernel
theorem dX10_shortest_28 : decode cX10_shortest 28 = .ok (.invokevirtual 242, 3) := by decide +kernel
theorem dX10_shortest_31 : decode cX10_shortest 31 = .ok (.istore 4, 2) := by decide +kernel
theorem dX10_shortest_33 : decode cX10_shortest 33 = .ok (.iload 4, 2) := by decide +kernel
theorem dX10_shortest_35 : decode cX10_shortest 35 = .ok (.iconst (-1), 1) := by decide +kernel
theorem dX10_shortest_36 : decode cX10_shortest 36 = .ok (.if_icmp .ne 7, 3) := by decide +kernel
theorem dX10_shortest_39 : decode cX10_shortest 39 = .ok (.iconst (-1), 1) := by decide +kernel
theorem dX10_shortest_40 : decode cX10_shortest 40 = .ok (.goto 16, 3) := by decide +kernel
theorem dX10_shortest_43 : decode cX10_shortest 43 = .ok (.iload_n 3, 1) := by decide +kernel
theorem dX10_shortest_44 : decode cX10_shortest 44 = .ok (.ifCond .ne 8, 3) := by decide +kernel
theorem dX10_shortest_47 : decode cX10_shortest 47 = .ok (.iload 4, 2) := by decide +kernel
theorem dX10_shortest_49 : decode cX10_shortest 49 = .ok (.goto 7, 3) := by decide +kernel
theorem dX10_shortest_52 : decode cX10_shortest 52 = .ok (.aload_n 0, 1) := by decide +kernel
theorem dX10_shortest_53 : decode cX10_shortest 53 = .ok (.getfield 225, 3) := by decide +kernel
theorem dX10_shortest_56 : decode cX10_shortest 56 = .ok (.ireturn, 1) := by decide +kernel
theorem dX10_shortestWord_0 : decode cX10_shortestWord 0 = .ok (.aload_n 0, 1) := by decide +kernel
theorem dX10_shortestWord_1 : decode cX10_shortestWord 1 = .ok (.iload_n 1, 1) := by decide +kernel
theorem dX10_shortestWord_2 : decode cX10_shortestWord 2 = .ok (.iload_n 2, 1) := by decide +kernel
theorem dX10_shortestWord_3 : decode cX10_shortestWord 3 = .ok (.invokevirtual 208, 3) := by decide +kernel
theorem dX10_shortestWord_6 : decode cX10_shortestWord 6 = .ok (.ifCond .ne 6, 3) := by decide +kernel
theorem dX10_shortestWord_9 : decode cX10_shortestWord 9 = .ok (.bipush (-2), 2) := by decide +kernel
theorem dX10_shortestWord_11 : decode cX10_shortestWord 11 = .ok (.ireturn, 1) := by decide +kernel
theorem dX10_shortestWord_12 : decode cX10_shortestWord 12 = .ok (.iload_n 3, 1) := by decide +kernel
theorem dX10_shortestWord_13 : decode cX10_shortestWord 13 = .ok (.ifCond .ge 6, 3) := by decide +kernel
theorem dX10_shortestWord_16 : decode cX10_shortestWord 16 = .ok (.bipush (-3), 2) := by decide +kernel
theorem dX10_shortestWord_18 : decode cX10_shortestWord 18 = .ok (.ireturn, 1) := by decide +kernel
theorem dX10_shortestWord_19 : decode cX10_shortestWord 19 = .ok (.aload_n 0, 1) := by decide +kernel
theorem dX10_shortestWord_20 : decode cX10_shortestWord 20 = .ok (.iload_n 1, 1) := by decide +kernel
theorem dX10_shortestWord_21 : decode cX10_shortestWord 21 = .ok (.iload_n 2, 1) := by decide +kernel
theorem dX10_shortestWord_22 : decode cX10_shortestWord 22 = .ok (.invokevirtual 242, 3) := by decide +kernel
theorem dX10_shortestWord_25 : decode cX10_shortestWord 25 = .ok (.istore 4, 2) := by decide +kernel
theorem dX10_shortestWord_27 : decode cX10_shortestWord 27 = .ok (.iload_n 3, 1) := by decide +kernel
theorem dX10_shortestWord_28 : decode cX10_shortestWord 28 = .ok (.iload 4, 2) := by decide +kernel
theorem dX10_shortestWord_30 : decode cX10_shortestWord 30 = .ok (.if_icmp .ge 12, 3) := by decide +kernel
theorem dX10_shortestWord_33 : decode cX10_shortestWord 33 = .ok (.aload_n 0, 1) := by decide +kernel
theorem dX10_shortestWord_34 : decode cX10_shortestWord 34 = .ok (.getfield 38, 3) := by decide +kernel
theorem dX10_shortestWord_37 : decode cX10_shortestWord 37 = .ok (.iload_n 3, 1) := by decide +kernel
theorem dX10_shortestWord_38 : decode cX10_shortestWord 38 = .ok (.iaload, 1) := by decide +kernel
theorem dX10_shortestWord_39 : decode cX10_shortestWord 39 = .ok (.goto 4, 3) := by decide +kernel
theorem dX10_shortestWord_42 : decode cX10_shortestWord 42 = .ok (.iconst (-1), 1) := by decide +kernel
theorem dX10_shortestWord_43 : decode cX10_shortestWord 43 = .ok (.ireturn, 1) := by decide +kernel
theorem dX10_forAll_0 : decode cX10_forAll 0 = .ok (.aload_n 0, 1) := by decide +kernel
theorem dX10_forAll_1 : decode cX10_forAll 1 = .ok (.iload_n 1, 1) := by decide +kernel
theorem dX10_forAll_2 : decode cX10_forAll 2 = .ok (.invokevirtual 58, 3) := by decide +kernel
theorem dX10_forAll_5 : decode cX10_forAll 5 = .ok (.ifCond .ne 6, 3) := by decide +kernel
theorem dX10_forAll_8 : decode cX10_forAll 8 = .ok (.bipush (-2), 2) := by decide +kernel
theorem dX10_forAll_10 : decode cX10_forAll 10 = .ok (.ireturn, 1) := by decide +kernel
theorem dX10_forAll_11 : decode cX10_forAll 11 = .ok (.iload_n 2, 1) := by decide +kernel
theorem dX10_forAll_12 : decode cX10_forAll 12 = .ok (.i2l, 1) := by decide +kernel
theorem dX10_forAll_13 : decode cX10_forAll 13 = .ok (.lconst 0, 1) := by decide +kernel
theorem dX10_forAll_14 : decode cX10_forAll 14 = .ok (.lconst 1, 1) := by decide +kernel
theorem dX10_forAll_15 : decode cX10_forAll 15 = .ok (.invokestatic 54, 3) := by decide +kernel
theorem dX10_forAll_18 : decode cX10_forAll 18 = .ok (.ifCond .ne 6, 3) := by decide +kernel
theorem dX10_forAll_21 : decode cX10_forAll 21 = .ok (.bipush (-3), 2) := by decide +kernel
theorem dX10_forAll_23 : decode cX10_forAll 23 = .ok (.ireturn, 1) := by decide +kernel
theorem dX10_forAll_24 : decode cX10_forAll 24 = .ok (.aload_n 0, 1) := by decide +kernel
theorem dX10_forAll_25 : decode cX10_forAll 25 = .ok (.getfield 7, 3) := by decide +kernel
theorem dX10_forAll_28 : decode cX10_forAll 28 = .ok (.iconst 2, 1) := by decide +kernel
theorem dX10_forAll_29 : decode cX10_forAll 29 = .ok (.iaload, 1) := by decide +kernel
theorem dX10_forAll_30 : decode cX10_forAll 30 = .ok (.ifCond .ne 6, 3) := by decide +kernel
theorem dX10_forAll_33 : decode cX10_forAll 33 = .ok (.bipush (-4), 2) := by decide +kernel
theorem dX10_forAll_35 : decode cX10_forAll 35 = .ok (.ireturn, 1) := by decide +kernel
theorem dX10_forAll_36 : decode cX10_forAll 36 = .ok (.aload_n 0, 1) := by decide +kernel
theorem dX10_forAll_37 : decode cX10_forAll 37 = .ok (.iload_n 1, 1) := by decide +kernel
theorem dX10_forAll_38 : decode cX10_forAll 38 = .ok (.iconst (-1), 1) := by decide +kernel
theorem dX10_forAll_39 : decode cX10_forAll 39 = .ok (.invokevirtual 242, 3) := by decide +kernel
theorem dX10_forAll_42 : decode cX10_forAll 42 = .ok (.istore_n 3, 1) := by decide +kernel
theorem dX10_forAll_43 : decode cX10_forAll 43 = .ok (.iload_n 3, 1) := by decide +kernel
theorem dX10_forAll_44 : decode cX10_forAll 44 = .ok (.iconst (-1), 1) := by decide +kernel
theorem dX10_forAll_45 : decode cX10_forAll 45 = .ok (.if_icmp .ne 7, 3) := by decide +kernel
theorem dX10_forAll_48 : decode cX10_forAll 48 = .ok (.iconst (-1), 1) := by decide +kernel
theorem dX10_forAll_49 : decode cX10_forAll 49 = .ok (.goto 15, 3) := by decide +kernel
theorem dX10_forAll_52 : decode cX10_forAll 52 = .ok (.iload_n 2, 1) := by decide +kernel
theorem dX10_forAll_53 : decode cX10_forAll 53 = .ok (.ifCond .ne 7, 3) := by decide +kernel
theorem dX10_forAll_56 : decode cX10_forAll 56 = .ok (.iload_n 3, 1) := by decide +kernel
theorem dX10_forAll_57 : decode cX10_forAll 57 = .ok (.goto 7, 3) := by decide +kernel
theorem dX10_forAll_60 : decode cX10_forAll 60 = .ok (.aload_n 0, 1) := by decide +kernel
theorem dX10_forAll_61 : decode cX10_forAll 61 = .ok (.getfield 225, 3) := by decide +kernel
theorem dX10_forAll_64 : decode cX10_forAll 64 = .ok (.ireturn, 1) := by decide +kernel
theorem dX10_hidden_0 : decode cX10_hidden 0 = .ok (.iload_n 1, 1) := by decide +kernel
theorem dX10_hidden_1 : decode cX10_hidden 1 = .ok (.i2l, 1) := by decide +kernel
theorem dX10_hidden_2 : decode cX10_hidden 2 = .ok (.lconst 1, 1) := by decide +kernel
theorem dX10_hidden_3 : decode cX10_hidden 3 = .ok (.ldc2_w 185, 3) := by decide +kernel
theorem dX10_hidden_6 : decode cX10_hidden 6 = .ok (.invokestatic 54, 3) := by decide +kernel
theorem dX10_hidden_9 : decode cX10_hidden 9 = .ok (.ifCond .ne 6, 3) := by decide +kernel
theorem dX10_hidden_12 : decode cX10_hidden 12 = .ok (.bipush (-3), 2) := by decide +kernel
theorem dX10_hidden_14 : decode cX10_hidden 14 = .ok (.ireturn, 1) := by decide +kernel
theorem dX10_hidden_15 : decode cX10_hidden 15 = .ok (.iconst (-1), 1) := by decide +kernel
theorem dX10_hidden_16 : decode cX10_hidden 16 = .ok (.istore_n 2, 1) := by decide +kernel
theorem dX10_hidden_17 : decode cX10_hidden 17 = .ok (.aload_n 0, 1) := by decide +kernel
theorem dX10_hidden_18 : decode cX10_hidden 18 = .ok (.iload_n 1, 1) := by decide +kernel
theorem dX10_hidden_19 : decode cX10_hidden 19 = .ok (.invokevirtual 228, 3) := by decide +kernel
theorem dX10_hidden_22 : decode cX10_hidden 22 = .ok (.istore_n 3, 1) := by decide +kernel
theorem dX10_hidden_23 : decode cX10_hidden 23 = .ok (.iconst 0, 1) := by decide +kernel
theorem dX10_hidden_24 : decode cX10_hidden 24 = .ok (.istore 4, 2) := by decide +kernel
theorem dX10_hidden_26 : decode cX10_hidden 26 = .ok (.iload 4, 2) := by decide +kernel
theorem dX10_hidden_28 : decode cX10_hidden 28 = .ok (.iload_n 3, 1) := by decide +kernel
theorem dX10_hidden_29 : decode cX10_hidden 29 = .ok (.if_icmp .ge 67, 3) := by decide +kernel
theorem dX10_hidden_32 : decode cX10_hidden 32 = .ok (.aload_n 0, 1) := by decide +kernel
theorem dX10_hidden_33 : decode cX10_hidden 33 = .ok (.iload 4, 2) := by decide +kernel
theorem dX10_hidden_35 : decode cX10_hidden 35 = .ok (.iload_n 1, 1) := by decide +kernel
theorem dX10_hidden_36 : decode cX10_hidden 36 = .ok (.invokevirtual 231, 3) := by decide +kernel
theorem dX10_hidden_39 : decode cX10_hidden 39 = .ok (.aload_n 0, 1) := by decide +kernel
theorem dX10_hidden_40 : decode cX10_hidden 40 = .ok (.aload_n 0, 1) := by decide +kernel
theorem dX10_hidden_41 : decode cX10_hidden 41 = .ok (.getfield 35, 3) := by decide +kernel
theorem dX10_hidden_44 : decode cX10_hidden 44 = .ok (.iload_n 1, 1) := by decide +kernel
theorem dX10_hidden_45 : decode cX10_hidden 45 = .ok (.invokevirtual 204, 3) := by decide +kernel
theorem dX10_hidden_48 : decode cX10_hidden 48 = .ok (.ifCond .eq 26, 3) := by decide +kernel
theorem dX10_hidden_51 : decode cX10_hidden 51 = .ok (.aload_n 0, 1) := by decide +kernel
theorem dX10_hidden_52 : decode cX10_hidden 52 = .ok (.aload_n 0, 1) := by decide +kernel
theorem dX10_hidden_53 : decode cX10_hidden 53 = .ok (.getfield 35, 3) := by decide +kernel
theorem dX10_hidden_56 : decode cX10_hidden 56 = .ok (.iload_n 1, 1) := by decide +kernel
theorem dX10_hidden_57 : decode cX10_hidden 57 = .ok (.invokevirtual 197, 3) := by decide +kernel
theorem dX10_hidden_60 : decode cX10_hidden 60 = .ok (.aload_n 0, 1) := by decide +kernel
theorem dX10_hidden_61 : decode cX10_hidden 61 = .ok (.iconst 1, 1) := by decide +kernel
theorem dX10_hidden_62 : decode cX10_hidden 62 = .ok (.aload_n 0, 1) := by decide +kernel
theorem dX10_hidden_63 : decode cX10_hidden 63 = .ok (.getfield 35, 3) := by decide +kernel
theorem dX10_hidden_66 : decode cX10_hidden 66 = .ok (.iload_n 1, 1) := by decide +kernel
theorem dX10_hidden_67 : decode cX10_hidden 67 = .ok (.invokevirtual 190, 3) := by decide +kernel
theorem dX10_hidden_70 : decode cX10_hidden 70 = .ok (.isub, 1) := by decide +kernel
theorem dX10_hidden_71 : decode cX10_hidden 71 = .ok (.goto 4, 3) := by decide +kernel
theorem dX10_hidden_74 : decode cX10_hidden 74 = .ok (.iconst (-1), 1) := by decide +kernel
theorem dX10_hidden_75 : decode cX10_hidden 75 = .ok (.istore 5, 2) := by decide +kernel
theorem dX10_hidden_77 : decode cX10_hidden 77 = .ok (.iload 5, 2) := by decide +kernel
theorem dX10_hidden_79 : decode cX10_hidden 79 = .ok (.iload_n 2, 1) := by decide +kernel
theorem dX10_hidden_80 : decode cX10_hidden 80 = .ok (.if_icmp .le 8, 3) := by decide +kernel
theorem dX10_hidden_83 : decode cX10_hidden 83 = .ok (.iload 5, 2) := by decide +kernel
theorem dX10_hidden_85 : decode cX10_hidden 85 = .ok (.goto 4, 3) := by decide +kernel
theorem dX10_hidden_88 : decode cX10_hidden 88 = .ok (.iload_n 2, 1) := by decide +kernel
theorem dX10_hidden_89 : decode cX10_hidden 89 = .ok (.istore_n 2, 1) := by decide +kernel
theorem dX10_hidden_90 : decode cX10_hidden 90 = .ok (.iinc 4 1, 3) := by decide +kernel
theorem dX10_hidden_93 : decode cX10_hidden 93 = .ok (.goto (-67), 3) := by decide +kernel
theorem dX10_hidden_96 : decode cX10_hidden 96 = .ok (.iload_n 2, 1) := by decide +kernel
theorem dX10_hidden_97 : decode cX10_hidden 97 = .ok (.ireturn, 1) := by decide +kernel
theorem dX10_altered_0 : decode cX10_altered 0 = .ok (.aload_n 0, 1) := by decide +kernel
theorem dX10_altered_1 : decode cX10_altered 1 = .ok (.iload_n 1, 1) := by decide +kernel
theorem dX10_altered_2 : decode cX10_altered 2 = .ok (.iload_n 2, 1) := by decide +kernel
theorem dX10_altered_3 : decode cX10_altered 3 = .ok (.invokevirtual 208, 3) := by decide +kernel
theorem dX10_altered_6 : decode cX10_altered 6 = .ok (.ifCond .ne 6, 3) := by decide +kernel
theorem dX10_altered_9 : decode cX10_altered 9 = .ok (.bipush (-2), 2) := by decide +kernel
theorem dX10_altered_11 : decode cX10_altered 11 = .ok (.ireturn, 1) := by decide +kernel
theorem dX10_altered_12 : decode cX10_altered 12 = .ok (.iload_n 3, 1) := by decide +kernel
theorem dX10_altered_13 : decode cX10_altered 13 = .ok (.iconst (-1), 1) := by decide +kernel
theorem dX10_altered_14 : decode cX10_altered 14 = .ok (.if_icmp .ge 6, 3) := by decide +kernel
theorem dX10_altered_17 : decode cX10_altered 17 = .ok (.bipush (-3), 2) := by decide +kernel
theorem dX10_altered_19 : decode cX10_altered 19 = .ok (.ireturn, 1) := by decide +kernel
theorem dX10_altered_20 : decode cX10_altered 20 = .ok (.iconst (-1), 1) := by decide +kernel
theorem dX10_altered_21 : decode cX10_altered 21 = .ok (.istore 4, 2) := by decide +kernel
theorem dX10_altered_23 : decode cX10_altered 23 = .ok (.aload_n 0, 1) := by decide +kernel
theorem dX10_altered_24 : decode cX10_altered 24 = .ok (.getfield 161, 3) := by decide +kernel
theorem dX10_altered_27 : decode cX10_altered 27 = .ok (.ifCond .ne 7, 3) := by decide +kernel
theorem dX10_altered_30 : decode cX10_altered 30 = .ok (.iconst 0, 1) := by decide +kernel
theorem dX10_altered_31 : decode cX10_altered 31 = .ok (.goto 11, 3) := by decide +kernel
theorem dX10_altered_34 : decode cX10_altered 34 = .ok (.aload_n 0, 1) := by decide +kernel
theorem dX10_altered_35 : decode cX10_altered 35 = .ok (.aload_n 0, 1) := by decide +kernel
theorem dX10_altered_36 : decode cX10_altered 36 = .ok (.getfield 161, 3) := by decide +kernel
theorem dX10_altered_39 : decode cX10_altered 39 = .ok (.invokevirtual 228, 3) := by decide +kernel
theorem dX10_altered_42 : decode cX10_altered 42 = .ok (.istore 5, 2) := by decide +kernel
theorem dX10_altered_44 : decode cX10_altered 44 = .ok (.iconst 0, 1) := by decide +kernel
theorem dX10_altered_45 : decode cX10_altered 45 = .ok (.istore 6, 2) := by decide +kernel
theorem dX10_altered_47 : decode cX10_altered 47 = .ok (.iload 6, 2) := by decide +kernel
theorem dX10_altered_49 : decode cX10_altered 49 = .ok (.iload 5, 2) := by decide +kernel
theorem dX10_altered_51 : decode cX10_altered 51 = .ok (.if_icmp .ge 133, 3) := by decide +kernel
theorem dX10_altered_54 : decode cX10_altered 54 = .ok (.aload_n 0, 1) := by decide +kernel
theorem dX10_altered_55 : decode cX10_altered 55 = .ok (.iload 6, 2) := by decide +kernel
theorem dX10_altered_57 : decode cX10_altered 57 = .ok (.aload_n 0, 1) := by decide +kernel
theorem dX10_altered_58 : decode cX10_altered 58 = .ok (.getfield 161, 3) := by decide +kernel
theorem dX10_altered_61 : decode cX10_altered 61 = .ok (.invokevirtual 231, 3) := by decide +kernel
theorem dX10_altered_64 : decode cX10_altered 64 = .ok (.iconst 0, 1) := by decide +kernel
theorem dX10_altered_65 : decode cX10_altered 65 = .ok (.istore 7, 2) := by decide +kernel
theorem dX10_altered_67 : decode cX10_altered 67 = .ok (.iconst 0, 1) := by decide +kernel
theorem dX10_altered_68 : decode cX10_altered 68 = .ok (.istore 8, 2) := by decide +kernel
theorem dX10_altered_70 : decode cX10_altered 70 = .ok (.iload 8, 2) := by decide +kernel
theorem dX10_altered_72 : decode cX10_altered 72 = .ok (.aload_n 0, 1) := by decide +kernel
theorem dX10_altered_73 : decode cX10_altered 73 = .ok (.getfield 161, 3) := by decide +kernel
theorem dX10_altered_76 : decode cX10_altered 76 = .ok (.if_icmp .ge 36, 3) := by decide +kernel
theorem dX10_altered_79 : decode cX10_altered 79 = .ok (.iload 7, 2) := by decide +kernel
theorem dX10_altered_81 : decode cX10_altered 81 = .ok (.aload_n 0, 1) := by decide +kernel
theorem dX10_altered_82 : decode cX10_altered 82 = .ok (.getfield 35, 3) := by decide +kernel
theorem dX10_altered_85 : decode cX10_altered 85 = .ok (.iload 8, 2) := by decide +kernel
theorem dX10_altered_87 : decode cX10_altered 87 = .ok (.iaload, 1) := by decide +kernel
theorem dX10_altered_88 : decode cX10_altered 88 = .ok (.aload_n 0, 1) := by decide +kernel
theorem dX10_altered_89 : decode cX10_altered 89 = .ok (.getfield 23, 3) := by decide +kernel
theorem dX10_altered_92 : decode cX10_altered 92 = .ok (.iload 8, 2) := by decide +kernel
theorem dX10_altered_94 : decode cX10_altered 94 = .ok (.iaload, 1) := by decide +kernel
theorem dX10_altered_95 : decode cX10_altered 95 = .ok (.if_icmp .ne 7, 3) := by decide +kernel
theorem dX10_altered_98 : decode cX10_altered 98 = .ok (.iconst 0, 1) := by decide +kernel
theorem dX10_altered_99 : decode cX10_altered 99 = .ok (.goto 4, 3) := by decide +kernel
theorem dX10_altered_102 : decode cX10_altered 102 = .ok (.iconst 1, 1) := by decide +kernel
theorem dX10_altered_103 : decode cX10_altered 103 = .ok (.iadd, 1) := by decide +kernel
theorem dX10_altered_104 : decode cX10_altered 104 = .ok (.istore 7, 2) := by decide +kernel
theorem dX10_altered_106 : decode cX10_altered 106 = .ok (.iinc 8 1, 3) := by decide +kernel
theorem dX10_altered_109 : decode cX10_altered 109 = .ok (.goto (-39), 3) := by decide +kernel
theorem dX10_altered_112 : decode cX10_altered 112 = .ok (.iload 4, 2) := by decide +kernel
theorem dX10_altered_114 : decode cX10_altered 114 = .ok (.iconst (-1), 1) := by decide +kernel
theorem dX10_altered_115 : decode cX10_altered 115 = .ok (.if_icmp .eq 10, 3) := by decide +kernel
theorem dX10_altered_118 : decode cX10_altered 118 = .ok (.iload 7, 2) := by decide +kernel
theorem dX10_altered_120 : decode cX10_altered 120 = .ok (.iload 4, 2) := by decide +kernel
theorem dX10_altered_122 : decode cX10_altered 122 = .ok (.if_icmp .ge 56, 3) := by decide +kernel
theorem dX10_altered_125 : decode cX10_altered 125 = .ok (.aload_n 0, 1) := by decide +kernel
theorem dX10_altered_126 : decode cX10_altered 126 = .ok (.aload_n 0, 1) := by decide +kernel
theorem dX10_altered_127 : decode cX10_altered 127 = .ok (.getfield 35, 3) := by decide +kernel
theorem dX10_altered_130 : decode cX10_altered 130 = .ok (.aload_n 0, 1) := by decide +kernel
theorem dX10_altered_131 : decode cX10_altered 131 = .ok (.getfield 161, 3) := by decide +kernel
theorem dX10_altered_134 : decode cX10_altered 134 = .ok (.iload_n 1, 1) := by decide +kernel
theorem dX10_altered_135 : decode cX10_altered 135 = .ok (.iload_n 2, 1) := by decide +kernel
theorem dX10_altered_136 : decode cX10_altered 136 = .ok (.invokevirtual 211, 3) := by decide +kernel
theorem dX10_altered_139 : decode cX10_altered 139 = .ok (.ifCond .eq 39, 3) := by decide +kernel
theorem dX10_altered_142 : decode cX10_altered 142 = .ok (.iload 7, 2) := by decide +kernel
theorem dX10_altered_144 : decode cX10_altered 144 = .ok (.istore 4, 2) := by decide +kernel
theorem dX10_altered_146 : decode cX10_altered 146 = .ok (.iconst 0, 1) := by decide +kernel
theorem dX10_altered_147 : decode cX10_altered 147 = .ok (.istore 8, 2) := by decide +kernel
theorem dX10_altered_149 : decode cX10_altered 149 = .ok (.iload 8, 2) := by decide +kernel
theorem dX10_altered_151 : decode cX10_altered 151 = .ok (.aload_n 0, 1) := by decide +kernel
theorem dX10_altered_152 : decode cX10_altered 152 = .ok (.getfield 161, 3) := by decide +kernel
theorem dX10_altered_155 : decode cX10_altered 155 = .ok (.if_icmp .ge 23, 3) := by decide +kernel
theorem dX10_altered_158 : decode cX10_altered 158 = .ok (.aload_n 0, 1) := by decide +kernel
theorem dX10_altered_159 : decode cX10_altered 159 = .ok (.getfield 38, 3) := by decide +kernel
theorem dX10_altered_162 : decode cX10_altered 162 = .ok (.iload 8, 2) := by decide +kernel
theorem dX10_altered_164 : decode cX10_altered 164 = .ok (.aload_n 0, 1) := by decide +kernel
theorem dX10_altered_165 : decode cX10_altered 165 = .ok (.getfield 35, 3) := by decide +kernel
theorem dX10_altered_168 : decode cX10_altered 168 = .ok (.iload 8, 2) := by decide +kernel
theorem dX10_altered_170 : decode cX10_altered 170 = .ok (.iaload, 1) := by decide +kernel
theorem dX10_altered_171 : decode cX10_altered 171 = .ok (.iastore, 1) := by decide +kernel
theorem dX10_altered_172 : decode cX10_altered 172 = .ok (.iinc 8 1, 3) := by decide +kernel
theorem dX10_altered_175 : decode cX10_altered 175 = .ok (.goto (-26), 3) := by decide +kernel
theorem dX10_altered_178 : decode cX10_altered 178 = .ok (.iinc 6 1, 3) := by decide +kernel
theorem dX10_altered_181 : decode cX10_altered 181 = .ok (.goto (-134), 3) := by decide +kernel
theorem dX10_altered_184 : decode cX10_altered 184 = .ok (.iload 4, 2) := by decide +kernel
theorem dX10_altered_186 : decode cX10_altered 186 = .ok (.iconst (-1), 1) := by decide +kernel
theorem dX10_altered_187 : decode cX10_altered 187 = .ok (.if_icmp .eq 8, 3) := by decide +kernel
theorem dX10_altered_190 : decode cX10_altered 190 = .ok (.iload_n 3, 1) := by decide +kernel
theorem dX10_altered_191 : decode cX10_altered 191 = .ok (.iconst (-1), 1) := by decide +kernel
theorem dX10_altered_192 : decode cX10_altered 192 = .ok (.if_icmp .ne 8, 3) := by decide +kernel
theorem dX10_altered_195 : decode cX10_altered 195 = .ok (.iload 4, 2) := by decide +kernel
theorem dX10_altered_197 : decode cX10_altered 197 = .ok (.goto 21, 3) := by decide +kernel
theorem dX10_altered_200 : decode cX10_altered 200 = .ok (.iload_n 3, 1) := by decide +kernel
theorem dX10_altered_201 : decode cX10_altered 201 = .ok (.aload_n 0, 1) := by decide +kernel
theorem dX10_altered_202 : decode cX10_altered 202 = .ok (.getfield 161, 3) := by decide +kernel
theorem dX10_altered_205 : decode cX10_altered 205 = .ok (.if_icmp .ge 12, 3) := by decide +kernel
theorem dX10_altered_208 : decode cX10_altered 208 = .ok (.aload_n 0, 1) := by decide +kernel
theorem dX10_altered_209 : decode cX10_altered 209 = .ok (.getfield 38, 3) := by decide +kernel
theorem dX10_altered_212 : decode cX10_altered 212 = .ok (.iload_n 3, 1) := by decide +kernel
theorem dX10_altered_213 : decode cX10_altered 213 = .ok (.iaload, 1) := by decide +kernel
theorem dX10_altered_214 : decode cX10_altered 214 = .ok (.goto 4, 3) := by decide +kernel
theorem dX10_altered_217 : decode cX10_altered 217 = .ok (.iconst (-1), 1) := by decide +kernel
theorem dX10_altered_218 : decode cX10_altered 218 = .ok (.ireturn, 1) := by decide +kernel
theorem dX10_weightOf_0 : decode cX10_weightOf 0 = .ok (.iconst 0, 1) := by decide +kernel
theorem dX10_weightOf_1 : decode cX10_weightOf 1 = .ok (.istore_n 2, 1) := by decide +kernel
theorem dX10_weightOf_2 : decode cX10_weightOf 2 = .ok (.iconst 0, 1) := by decide +kernel
theorem dX10_weightOf_3 : decode cX10_weightOf 3 = .ok (.istore_n 3, 1) := by decide +kernel
theorem dX10_weightOf_4 : decode cX10_weightOf 4 = .ok (.iload_n 3, 1) := by decide +kernel
theorem dX10_weightOf_5 : decode cX10_weightOf 5 = .ok (.aload_n 0, 1) := by decide +kernel
theorem dX10_weightOf_6 : decode cX10_weightOf 6 = .ok (.getfield 7, 3) := by decide +kernel
theorem dX10_weightOf_9 : decode cX10_weightOf 9 = .ok (.iconst 1, 1) := by decide +kernel
theorem dX10_weightOf_10 : decode cX10_weightOf 10 = .ok (.iaload, 1) := by decide +kernel
theorem dX10_weightOf_11 : decode cX10_weightOf 11 = .ok (.if_icmp .ge 29, 3) := by decide +kernel
theorem dX10_weightOf_14 : decode cX10_weightOf 14 = .ok (.iload_n 2, 1) := by decide +kernel
theorem dX10_weightOf_15 : decode cX10_weightOf 15 = .ok (.iload_n 1, 1) := by decide +kernel
theorem dX10_weightOf_16 : decode cX10_weightOf 16 = .ok (.iload_n 3, 1) := by decide +kernel
theorem dX10_weightOf_17 : decode cX10_weightOf 17 = .ok (.ishr, 1) := by decide +kernel
theorem dX10_weightOf_18 : decode cX10_weightOf 18 = .ok (.iconst 1, 1) := by decide +kernel
theorem dX10_weightOf_19 : decode cX10_weightOf 19 = .ok (.iand, 1) := by decide +kernel
theorem dX10_weightOf_20 : decode cX10_weightOf 20 = .ok (.aload_n 0, 1) := by decide +kernel
theorem dX10_weightOf_21 : decode cX10_weightOf 21 = .ok (.getfield 7, 3) := by decide +kernel
theorem dX10_weightOf_24 : decode cX10_weightOf 24 = .ok (.bipush 46, 2) := by decide +kernel
theorem dX10_weightOf_26 : decode cX10_weightOf 26 = .ok (.iconst 3, 1) := by decide +kernel
theorem dX10_weightOf_27 : decode cX10_weightOf 27 = .ok (.iload_n 3, 1) := by decide +kernel
theorem dX10_weightOf_28 : decode cX10_weightOf 28 = .ok (.imul, 1) := by decide +kernel
theorem dX10_weightOf_29 : decode cX10_weightOf 29 = .ok (.iadd, 1) := by decide +kernel
theorem dX10_weightOf_30 : decode cX10_weightOf 30 = .ok (.iaload, 1) := by decide +kernel
theorem dX10_weightOf_31 : decode cX10_weightOf 31 = .ok (.imul, 1) := by decide +kernel
theorem dX10_weightOf_32 : decode cX10_weightOf 32 = .ok (.iadd, 1) := by decide +kernel
theorem dX10_weightOf_33 : decode cX10_weightOf 33 = .ok (.istore_n 2, 1) := by decide +kernel
theorem dX10_weightOf_34 : decode cX10_weightOf 34 = .ok (.iinc 3 1, 3) := by decide +kernel
theorem dX10_weightOf_37 : decode cX10_weightOf 37 = .ok (.goto (-33), 3) := by decide +kernel
theorem dX10_weightOf_40 : decode cX10_weightOf 40 = .ok (.iload_n 2, 1) := by decide +kernel
theorem dX10_weightOf_41 : decode cX10_weightOf 41 = .ok (.ireturn, 1) := by decide +kernel
theorem dX10_laden_0 : decode cX10_laden 0 = .ok (.iload_n 1, 1) := by decide +kernel
theorem dX10_laden_1 : decode cX10_laden 1 = .ok (.i2l, 1) := by decide +kernel
theorem dX10_laden_2 : decode cX10_laden 2 = .ok (.lconst 1, 1) := by decide +kernel
theorem dX10_laden_3 : decode cX10_laden 3 = .ok (.ldc2_w 245, 3) := by decide +kernel
theorem dX10_laden_6 : decode cX10_laden 6 = .ok (.invokestatic 54, 3) := by decide +kernel
theorem dX10_laden_9 : decode cX10_laden 9 = .ok (.ifCond .eq 15, 3) := by decide +kernel
theorem dX10_laden_12 : decode cX10_laden 12 = .ok (.iload_n 2, 1) := by decide +kernel
theorem dX10_laden_13 : decode cX10_laden 13 = .ok (.i2l, 1) := by decide +kernel
theorem dX10_laden_14 : decode cX10_laden 14 = .ok (.lconst 0, 1) := by decide +kernel
theorem dX10_laden_15 : decode cX10_laden 15 = .ok (.ldc2_w 178, 3) := by decide +kernel
theorem dX10_laden_18 : decode cX10_laden 18 = .ok (.invokestatic 54, 3) := by decide +kernel
theorem dX10_laden_21 : decode cX10_laden 21 = .ok (.ifCond .ne 6, 3) := by decide +kernel
theorem dX10_laden_24 : decode cX10_laden 24 = .ok (.bipush (-3), 2) := by decide +kernel
theorem dX10_laden_26 : decode cX10_laden 26 = .ok (.ireturn, 1) := by decide +kernel
theorem dX10_laden_27 : decode cX10_laden 27 = .ok (.iconst (-1), 1) := by decide +kernel
theorem dX10_laden_28 : decode cX10_laden 28 = .ok (.istore_n 3, 1) := by decide +kernel
theorem dX10_laden_29 : decode cX10_laden 29 = .ok (.iconst 0, 1) := by decide +kernel
theorem dX10_laden_30 : decode cX10_laden 30 = .ok (.istore 4, 2) := by decide +kernel
theorem dX10_laden_32 : decode cX10_laden 32 = .ok (.iconst 0, 1) := by decide +kernel
theorem dX10_laden_33 : decode cX10_laden 33 = .ok (.istore 5, 2) := by decide +kernel
theorem dX10_laden_35 : decode cX10_laden 35 = .ok (.iconst 1, 1) := by decide +kernel
theorem dX10_laden_36 : decode cX10_laden 36 = .ok (.aload_n 0, 1) := by decide +kernel
theorem dX10_laden_37 : decode cX10_laden 37 = .ok (.getfield 7, 3) := by decide +kernel
theorem dX10_laden_40 : decode cX10_laden 40 = .ok (.iconst 1, 1) := by decide +kernel
theorem dX10_laden_41 : decode cX10_laden 41 = .ok (.iaload, 1) := by decide +kernel
theorem dX10_laden_42 : decode cX10_laden 42 = .ok (.ishl, 1) := by decide +kernel
theorem dX10_laden_43 : decode cX10_laden 43 = .ok (.istore 6, 2) := by decide +kernel
theorem dX10_laden_45 : decode cX10_laden 45 = .ok (.iconst 0, 1) := by decide +kernel
theorem dX10_laden_46 : decode cX10_laden 46 = .ok (.istore 7, 2) := by decide +kernel
theorem dX10_laden_48 : decode cX10_laden 48 = .ok (.iload 7, 2) := by decide +kernel
theorem dX10_laden_50 : decode cX10_laden 50 = .ok (.iload 6, 2) := by decide +kernel
theorem dX10_laden_52 : decode cX10_laden 52 = .ok (.if_icmp .ge 97, 3) := by decide +kernel
theorem dX10_laden_55 : decode cX10_laden 55 = .ok (.iconst 0, 1) := by decide +kernel
theorem dX10_laden_56 : decode cX10_laden 56 = .ok (.istore 8, 2) := by decide +kernel
theorem dX10_laden_58 : decode cX10_laden 58 = .ok (.iload 8, 2) := by decide +kernel
theorem dX10_laden_60 : decode cX10_laden 60 = .ok (.iload 6, 2) := by decide +kernel
theorem dX10_laden_62 : decode cX10_laden 62 = .ok (.if_icmp .ge 81, 3) := by decide +kernel
theorem dX10_laden_65 : decode cX10_laden 65 = .ok (.iload 7, 2) := by decide +kernel
theorem dX10_laden_67 : decode cX10_laden 67 = .ok (.iload 8, 2) := by decide +kernel
theorem dX10_laden_69 : decode cX10_laden 69 = .ok (.iand, 1) := by decide +kernel
theorem dX10_laden_70 : decode cX10_laden 70 = .ok (.ifCond .ne 27, 3) := by decide +kernel
theorem dX10_laden_73 : decode cX10_laden 73 = .ok (.aload_n 0, 1) := by decide +kernel
theorem dX10_laden_74 : decode cX10_laden 74 = .ok (.iload 7, 2) := by decide +kernel
theorem dX10_laden_76 : decode cX10_laden 76 = .ok (.invokevirtual 247, 3) := by decide +kernel
theorem dX10_laden_79 : decode cX10_laden 79 = .ok (.iload_n 1, 1) := by decide +kernel
theorem dX10_laden_80 : decode cX10_laden 80 = .ok (.if_icmp .gt 17, 3) := by decide +kernel
theorem dX10_laden_83 : decode cX10_laden 83 = .ok (.aload_n 0, 1) := by decide +kernel
theorem dX10_laden_84 : decode cX10_laden 84 = .ok (.iload 8, 2) := by decide +kernel
theorem dX10_laden_86 : decode cX10_laden 86 = .ok (.invokevirtual 247, 3) := by decide +kernel
theorem dX10_laden_89 : decode cX10_laden 89 = .ok (.iload_n 1, 1) := by decide +kernel
theorem dX10_laden_90 : decode cX10_laden 90 = .ok (.if_icmp .gt 7, 3) := by decide +kernel
theorem dX10_laden_93 : decode cX10_laden 93 = .ok (.iconst 1, 1) := by decide +kernel
theorem dX10_laden_94 : decode cX10_laden 94 = .ok (.goto 4, 3) := by decide +kernel
theorem dX10_laden_97 : decode cX10_laden 97 = .ok (.iconst 0, 1) := by decide +kernel
theorem dX10_laden_98 : decode cX10_laden 98 = .ok (.istore 9, 2) := by decide +kernel
theorem dX10_laden_100 : decode cX10_laden 100 = .ok (.aload_n 0, 1) := by decide +kernel
theorem dX10_laden_101 : decode cX10_laden 101 = .ok (.iload 7, 2) := by decide +kernel
theorem dX10_laden_103 : decode cX10_laden 103 = .ok (.invokevirtual 247, 3) := by decide +kernel
theorem dX10_laden_106 : decode cX10_laden 106 = .ok (.aload_n 0, 1) := by decide +kernel
theorem dX10_laden_107 : decode cX10_laden 107 = .ok (.iload 8, 2) := by decide +kernel
theorem dX10_laden_109 : decode cX10_laden 109 = .ok (.invokevirtual 247, 3) := by decide +kernel
theorem dX10_laden_112 : decode cX10_laden 112 = .ok (.iadd, 1) := by decide +kernel
theorem dX10_laden_113 : decode cX10_laden 113 = .ok (.istore 10, 2) := by decide +kernel
theorem dX10_laden_115 : decode cX10_laden 115 = .ok (.iload 9, 2) := by decide +kernel
theorem dX10_laden_117 : decode cX10_laden 117 = .ok (.ifCond .eq 20, 3) := by decide +kernel
theorem dX10_laden_120 : decode cX10_laden 120 = .ok (.iload 10, 2) := by decide +kernel
theorem dX10_laden_122 : decode cX10_laden 122 = .ok (.iload_n 3, 1) := by decide +kernel
theorem dX10_laden_123 : decode cX10_laden 123 = .ok (.if_icmp .le 14, 3) := by decide +kernel
theorem dX10_laden_126 : decode cX10_laden 126 = .ok (.iload 10, 2) := by decide +kernel
theorem dX10_laden_128 : decode cX10_laden 128 = .ok (.istore_n 3, 1) := by decide +kernel
theorem dX10_laden_129 : decode cX10_laden 129 = .ok (.iload 7, 2) := by decide +kernel
theorem dX10_laden_131 : decode cX10_laden 131 = .ok (.istore 4, 2) := by decide +kernel
theorem dX10_laden_133 : decode cX10_laden 133 = .ok (.iload 8, 2) := by decide +kernel
theorem dX10_laden_135 : decode cX10_laden 135 = .ok (.istore 5, 2) := by decide +kernel
theorem dX10_laden_137 : decode cX10_laden 137 = .ok (.iinc 8 1, 3) := by decide +kernel
theorem dX10_laden_140 : decode cX10_laden 140 = .ok (.goto (-82), 3) := by decide +kernel
theorem dX10_laden_143 : decode cX10_laden 143 = .ok (.iinc 7 1, 3) := by decide +kernel
theorem dX10_laden_146 : decode cX10_laden 146 = .ok (.goto (-98), 3) := by decide +kernel
theorem dX10_laden_149 : decode cX10_laden 149 = .ok (.iload_n 2, 1) := by decide +kernel
theorem dX10_laden_150 : decode cX10_laden 150 = .ok (.ifCond .ne 7, 3) := by decide +kernel
theorem dX10_laden_153 : decode cX10_laden 153 = .ok (.iload_n 3, 1) := by decide +kernel
theorem dX10_laden_154 : decode cX10_laden 154 = .ok (.goto 15, 3) := by decide +kernel
theorem dX10_laden_157 : decode cX10_laden 157 = .ok (.iload_n 2, 1) := by decide +kernel
theorem dX10_laden_158 : decode cX10_laden 158 = .ok (.iconst 1, 1) := by decide +kernel
theorem dX10_laden_159 : decode cX10_laden 159 = .ok (.if_icmp .ne 8, 3) := by decide +kernel
theorem dX10_laden_162 : decode cX10_laden 162 = .ok (.iload 4, 2) := by decide +kernel
theorem dX10_laden_164 : decode cX10_laden 164 = .ok (.goto 5, 3) := by decide +kernel
theorem dX10_laden_167 : decode cX10_laden 167 = .ok (.iload 5, 2) := by decide +kernel
theorem dX10_laden_169 : decode cX10_laden 169 = .ok (.ireturn, 1) := by decide +kernel
theorem dX10_left_0 : decode cX10_left 0 = .ok (.iload_n 1, 1) := by decide +kernel
theorem dX10_left_1 : decode cX10_left 1 = .ok (.i2l, 1) := by decide +kernel
theorem dX10_left_2 : decode cX10_left 2 = .ok (.lconst 0, 1) := by decide +kernel
theorem dX10_left_3 : decode cX10_left 3 = .ok (.lconst 1, 1) := by decide +kernel
theorem dX10_left_4 : decode cX10_left 4 = .ok (.invokestatic 54, 3) := by decide +kernel
theorem dX10_left_7 : decode cX10_left 7 = .ok (.ifCond .ne 6, 3) := by decide +kernel
theorem dX10_left_10 : decode cX10_left 10 = .ok (.bipush (-3), 2) := by decide +kernel
theorem dX10_left_12 : decode cX10_left 12 = .ok (.ireturn, 1) := by decide +kernel
theorem dX10_left_13 : decode cX10_left 13 = .ok (.iconst 0, 1) := by decide +kernel
theorem dX10_left_14 : decode cX10_left 14 = .ok (.istore_n 2, 1) := by decide +kernel
theorem dX10_left_15 : decode cX10_left 15 = .ok (.iconst 0, 1) := by decide +kernel
theorem dX10_left_16 : decode cX10_left 16 = .ok (.istore_n 3, 1) := by decide +kernel
theorem dX10_left_17 : decode cX10_left 17 = .ok (.iconst 0, 1) := by decide +kernel
theorem dX10_left_18 : decode cX10_left 18 = .ok (.istore 4, 2) := by decide +kernel
theorem dX10_left_20 : decode cX10_left 20 = .ok (.iload 4, 2) := by decide +kernel
theorem dX10_left_22 : decode cX10_left 22 = .ok (.bipush 6, 2) := by decide +kernel
theorem dX10_left_24 : decode cX10_left 24 = .ok (.if_icmp .ge 144, 3) := by decide +kernel
theorem dX10_left_27 : decode cX10_left 27 = .ok (.aload_n 0, 1) := by decide +kernel
theorem dX10_left_28 : decode cX10_left 28 = .ok (.getfield 7, 3) := by decide +kernel
theorem dX10_left_31 : decode cX10_left 31 = .ok (.bipush 73, 2) := by decide +kernel
theorem dX10_left_33 : decode cX10_left 33 = .ok (.iload 4, 2) := by decide +kernel
theorem dX10_left_35 : decode cX10_left 35 = .ok (.iadd, 1) := by decide +kernel
theorem dX10_left_36 : decode cX10_left 36 = .ok (.iaload, 1) := by decide +kernel
theorem dX10_left_37 : decode cX10_left 37 = .ok (.aload_n 0, 1) := by decide +kernel
theorem dX10_left_38 : decode cX10_left 38 = .ok (.getfield 7, 3) := by decide +kernel
theorem dX10_left_41 : decode cX10_left 41 = .ok (.bipush 67, 2) := by decide +kernel
theorem dX10_left_43 : decode cX10_left 43 = .ok (.iload 4, 2) := by decide +kernel
theorem dX10_left_45 : decode cX10_left 45 = .ok (.iadd, 1) := by decide +kernel
theorem dX10_left_46 : decode cX10_left 46 = .ok (.iaload, 1) := by decide +kernel
theorem dX10_left_47 : decode cX10_left 47 = .ok (.isub, 1) := by decide +kernel
theorem dX10_left_48 : decode cX10_left 48 = .ok (.istore 5, 2) := by decide +kernel
theorem dX10_left_50 : decode cX10_left 50 = .ok (.iconst 0, 1) := by decide +kernel
theorem dX10_left_51 : decode cX10_left 51 = .ok (.istore 6, 2) := by decide +kernel
theorem dX10_left_53 : decode cX10_left 53 = .ok (.iconst 0, 1) := by decide +kernel
theorem dX10_left_54 : decode cX10_left 54 = .ok (.istore 7, 2) := by decide +kernel
theorem dX10_left_56 : decode cX10_left 56 = .ok (.iload 7, 2) := by decide +kernel
theorem dX10_left_58 : decode cX10_left 58 = .ok (.aload_n 0, 1) := by decide +kernel
theorem dX10_left_59 : decode cX10_left 59 = .ok (.getfield 7, 3) := by decide +kernel
theorem dX10_left_62 : decode cX10_left 62 = .ok (.iconst 1, 1) := by decide +kernel
theorem dX10_left_63 : decode cX10_left 63 = .ok (.iaload, 1) := by decide +kernel
theorem dX10_left_64 : decode cX10_left 64 = .ok (.if_icmp .ge 63, 3) := by decide +kernel
theorem dX10_left_67 : decode cX10_left 67 = .ok (.iload 6, 2) := by decide +kernel
theorem dX10_left_69 : decode cX10_left 69 = .ok (.aload_n 0, 1) := by decide +kernel
theorem dX10_left_70 : decode cX10_left 70 = .ok (.getfield 7, 3) := by decide +kernel
theorem dX10_left_73 : decode cX10_left 73 = .ok (.bipush 46, 2) := by decide +kernel
theorem dX10_left_75 : decode cX10_left 75 = .ok (.iconst 3, 1) := by decide +kernel
theorem dX10_left_76 : decode cX10_left 76 = .ok (.iload 7, 2) := by decide +kernel
theorem dX10_left_78 : decode cX10_left 78 = .ok (.imul, 1) := by decide +kernel
theorem dX10_left_79 : decode cX10_left 79 = .ok (.iadd, 1) := by decide +kernel
theorem dX10_left_80 : decode cX10_left 80 = .ok (.iconst 2, 1) := by decide +kernel
theorem dX10_left_81 : decode cX10_left 81 = .ok (.iadd, 1) := by decide +kernel
theorem dX10_left_82 : decode cX10_left 82 = .ok (.iaload, 1) := by decide +kernel
theorem dX10_left_83 : decode cX10_left 83 = .ok (.ifCond .ne 34, 3) := by decide +kernel
theorem dX10_left_86 : decode cX10_left 86 = .ok (.aload_n 0, 1) := by decide +kernel
theorem dX10_left_87 : decode cX10_left 87 = .ok (.getfield 7, 3) := by decide +kernel
theorem dX10_left_90 : decode cX10_left 90 = .ok (.bipush 42, 2) := by decide +kernel
theorem dX10_left_92 : decode cX10_left 92 = .ok (.aload_n 0, 1) := by decide +kernel
theorem dX10_left_93 : decode cX10_left 93 = .ok (.getfield 7, 3) := by decide +kernel
theorem dX10_left_96 : decode cX10_left 96 = .ok (.bipush 46, 2) := by decide +kernel
theorem dX10_left_98 : decode cX10_left 98 = .ok (.iconst 3, 1) := by decide +kernel
theorem dX10_left_99 : decode cX10_left 99 = .ok (.iload 7, 2) := by decide +kernel
theorem dX10_left_101 : decode cX10_left 101 = .ok (.imul, 1) := by decide +kernel
theorem dX10_left_102 : decode cX10_left 102 = .ok (.iadd, 1) := by decide +kernel
theorem dX10_left_103 : decode cX10_left 103 = .ok (.iconst 1, 1) := by decide +kernel
theorem dX10_left_104 : decode cX10_left 104 = .ok (.iadd, 1) := by decide +kernel
theorem dX10_left_105 : decode cX10_left 105 = .ok (.iaload, 1) := by decide +kernel
theorem dX10_left_106 : decode cX10_left 106 = .ok (.iadd, 1) := by decide +kernel
theorem dX10_left_107 : decode cX10_left 107 = .ok (.iaload, 1) := by decide +kernel
theorem dX10_left_108 : decode cX10_left 108 = .ok (.iload 4, 2) := by decide +kernel
theorem dX10_left_110 : decode cX10_left 110 = .ok (.if_icmp .ne 7, 3) := by decide +kernel
theorem dX10_left_113 : decode cX10_left 113 = .ok (.iconst 1, 1) := by decide +kernel
theorem dX10_left_114 : decode cX10_left 114 = .ok (.goto 4, 3) := by decide +kernel
theorem dX10_left_117 : decode cX10_left 117 = .ok (.iconst 0, 1) := by decide +kernel
theorem dX10_left_118 : decode cX10_left 118 = .ok (.iadd, 1) := by decide +kernel
theorem dX10_left_119 : decode cX10_left 119 = .ok (.istore 6, 2) := by decide +kernel
theorem dX10_left_121 : decode cX10_left 121 = .ok (.iinc 7 1, 3) := by decide +kernel
theorem dX10_left_124 : decode cX10_left 124 = .ok (.goto (-68), 3) := by decide +kernel
theorem dX10_left_127 : decode cX10_left 127 = .ok (.iload_n 3, 1) := by decide +kernel
theorem dX10_left_128 : decode cX10_left 128 = .ok (.iload 6, 2) := by decide +kernel
theorem dX10_left_130 : decode cX10_left 130 = .ok (.iload 5, 2) := by decide +kernel
theorem dX10_left_132 : decode cX10_left 132 = .ok (.if_icmp .ge 8, 3) := by decide +kernel
theorem dX10_left_135 : decode cX10_left 135 = .ok (.iload 6, 2) := by decide +kernel
theorem dX10_left_137 : decode cX10_left 137 = .ok (.goto 5, 3) := by decide +kernel
theorem dX10_left_140 : decode cX10_left 140 = .ok (.iload 5, 2) := by decide +kernel
theorem dX10_left_142 : decode cX10_left 142 = .ok (.iadd, 1) := by decide +kernel
theorem dX10_left_143 : decode cX10_left 143 = .ok (.istore_n 3, 1) := by decide +kernel
theorem dX10_left_144 : decode cX10_left 144 = .ok (.iload_n 2, 1) := by decide +kernel
theorem dX10_left_145 : decode cX10_left 145 = .ok (.iload 5, 2) := by decide +kernel
theorem dX10_left_147 : decode cX10_left 147 = .ok (.ifCond .ne 12, 3) := by decide +kernel
theorem dX10_left_150 : decode cX10_left 150 = .ok (.aload_n 0, 1) := by decide +kernel
theorem dX10_left_151 : decode cX10_left 151 = .ok (.iload 4, 2) := by decide +kernel
theorem dX10_left_153 : decode cX10_left 153 = .ok (.invokevirtual 182, 3) := by decide +kernel
theorem dX10_left_156 : decode cX10_left 156 = .ok (.goto 4, 3) := by decide +kernel
theorem dX10_left_159 : decode cX10_left 159 = .ok (.iconst 0, 1) := by decide +kernel
theorem dX10_left_160 : decode cX10_left 160 = .ok (.ior, 1) := by decide +kernel
theorem dX10_left_161 : decode cX10_left 161 = .ok (.istore_n 2, 1) := by decide +kernel
theorem dX10_left_162 : decode cX10_left 162 = .ok (.iinc 4 1, 3) := by decide +kernel
theorem dX10_left_165 : decode cX10_left 165 = .ok (.goto (-145), 3) := by decide +kernel
theorem dX10_left_168 : decode cX10_left 168 = .ok (.iload_n 1, 1) := by decide +kernel
theorem dX10_left_169 : decode cX10_left 169 = .ok (.ifCond .ne 7, 3) := by decide +kernel
theorem dX10_left_172 : decode cX10_left 172 = .ok (.iload_n 3, 1) := by decide +kernel
theorem dX10_left_173 : decode cX10_left 173 = .ok (.goto 4, 3) := by decide +kernel
theorem dX10_left_176 : decode cX10_left 176 = .ok (.iload_n 2, 1) := by decide +kernel
theorem dX10_left_177 : decode cX10_left 177 = .ok (.ireturn, 1) := by decide +kernel
theorem dX10_divisor_0 : decode cX10_divisor 0 = .ok (.iload_n 0, 1) := by decide +kernel
theorem dX10_divisor_1 : decode cX10_divisor 1 = .ok (.istore_n 2, 1) := by decide +kernel
theorem dX10_divisor_2 : decode cX10_divisor 2 = .ok (.iload_n 1, 1) := by decide +kernel
theorem dX10_divisor_3 : decode cX10_divisor 3 = .ok (.istore_n 3, 1) := by decide +kernel
theorem dX10_divisor_4 : decode cX10_divisor 4 = .ok (.iload_n 3, 1) := by decide +kernel
theorem dX10_divisor_5 : decode cX10_divisor 5 = .ok (.ifCond .eq 16, 3) := by decide +kernel
theorem dX10_divisor_8 : decode cX10_divisor 8 = .ok (.iload_n 2, 1) := by decide +kernel
theorem dX10_divisor_9 : decode cX10_divisor 9 = .ok (.iload_n 3, 1) := by decide +kernel
theorem dX10_divisor_10 : decode cX10_divisor 10 = .ok (.irem, 1) := by decide +kernel
theorem dX10_divisor_11 : decode cX10_divisor 11 = .ok (.istore 4, 2) := by decide +kernel
theorem dX10_divisor_13 : decode cX10_divisor 13 = .ok (.iload_n 3, 1) := by decide +kernel
theorem dX10_divisor_14 : decode cX10_divisor 14 = .ok (.istore_n 2, 1) := by decide +kernel
theorem dX10_divisor_15 : decode cX10_divisor 15 = .ok (.iload 4, 2) := by decide +kernel
theorem dX10_divisor_17 : decode cX10_divisor 17 = .ok (.istore_n 3, 1) := by decide +kernel
theorem dX10_divisor_18 : decode cX10_divisor 18 = .ok (.goto (-14), 3) := by decide +kernel
theorem dX10_divisor_21 : decode cX10_divisor 21 = .ok (.iload_n 2, 1) := by decide +kernel
theorem dX10_divisor_22 : decode cX10_divisor 22 = .ok (.ireturn, 1) := by decide +kernel
theorem dX10_odds_0 : decode cX10_odds 0 = .ok (.aload_n 0, 1) := by decide +kernel
theorem dX10_odds_1 : decode cX10_odds 1 = .ok (.iload_n 1, 1) := by decide +kernel
theorem dX10_odds_2 : decode cX10_odds 2 = .ok (.iload_n 2, 1) := by decide +kernel
theorem dX10_odds_3 : decode cX10_odds 3 = .ok (.invokevirtual 208, 3) := by decide +kernel
theorem dX10_odds_6 : decode cX10_odds 6 = .ok (.ifCond .ne 6, 3) := by decide +kernel
theorem dX10_odds_9 : decode cX10_odds 9 = .ok (.bipush (-2), 2) := by decide +kernel
theorem dX10_odds_11 : decode cX10_odds 11 = .ok (.ireturn, 1) := by decide +kernel
theorem dX10_odds_12 : decode cX10_odds 12 = .ok (.iload_n 3, 1) := by decide +kernel
theorem dX10_odds_13 : decode cX10_odds 13 = .ok (.i2l, 1) := by decide +kernel
theorem dX10_odds_14 : decode cX10_odds 14 = .ok (.lconst 1, 1) := by decide +kernel
theorem dX10_odds_15 : decode cX10_odds 15 = .ok (.ldc2_w 185, 3) := by decide +kernel
theorem dX10_odds_18 : decode cX10_odds 18 = .ok (.invokestatic 54, 3) := by decide +kernel
theorem dX10_odds_21 : decode cX10_odds 21 = .ok (.ifCond .eq 14, 3) := by decide +kernel
theorem dX10_odds_24 : decode cX10_odds 24 = .ok (.iload 4, 2) := by decide +kernel
theorem dX10_odds_26 : decode cX10_odds 26 = .ok (.i2l, 1) := by decide +kernel
theorem dX10_odds_27 : decode cX10_odds 27 = .ok (.lconst 0, 1) := by decide +kernel
theorem dX10_odds_28 : decode cX10_odds 28 = .ok (.lconst 1, 1) := by decide +kernel
theorem dX10_odds_29 : decode cX10_odds 29 = .ok (.invokestatic 54, 3) := by decide +kernel
theorem dX10_odds_32 : decode cX10_odds 32 = .ok (.ifCond .ne 6, 3) := by decide +kernel
theorem dX10_odds_35 : decode cX10_odds 35 = .ok (.bipush (-3), 2) := by decide +kernel
theorem dX10_odds_37 : decode cX10_odds 37 = .ok (.ireturn, 1) := by decide +kernel
theorem dX10_odds_38 : decode cX10_odds 38 = .ok (.aload_n 0, 1) := by decide +kernel
theorem dX10_odds_39 : decode cX10_odds 39 = .ok (.getfield 7, 3) := by decide +kernel
theorem dX10_odds_42 : decode cX10_odds 42 = .ok (.iconst 0, 1) := by decide +kernel
theorem dX10_odds_43 : decode cX10_odds 43 = .ok (.iaload, 1) := by decide +kernel
theorem dX10_odds_44 : decode cX10_odds 44 = .ok (.ifCond .ne 6, 3) := by decide +kernel
theorem dX10_odds_47 : decode cX10_odds 47 = .ok (.bipush (-4), 2) := by decide +kernel
theorem dX10_odds_49 : decode cX10_odds 49 = .ok (.ireturn, 1) := by decide +kernel
theorem dX10_odds_50 : decode cX10_odds 50 = .ok (.aload_n 0, 1) := by decide +kernel
theorem dX10_odds_51 : decode cX10_odds 51 = .ok (.iload_n 3, 1) := by decide +kernel
theorem dX10_odds_52 : decode cX10_odds 52 = .ok (.invokevirtual 228, 3) := by decide +kernel
theorem dX10_odds_55 : decode cX10_odds 55 = .ok (.istore 5, 2) := by decide +kernel
theorem dX10_odds_57 : decode cX10_odds 57 = .ok (.iconst 0, 1) := by decide +kernel
theorem dX10_odds_58 : decode cX10_odds 58 = .ok (.istore 6, 2) := by decide +kernel
theorem dX10_odds_60 : decode cX10_odds 60 = .ok (.iconst 0, 1) := by decide +kernel
theorem dX10_odds_61 : decode cX10_odds 61 = .ok (.istore 7, 2) := by decide +kernel
theorem dX10_odds_63 : decode cX10_odds 63 = .ok (.iload 7, 2) := by decide +kernel
theorem dX10_odds_65 : decode cX10_odds 65 = .ok (.iload 5, 2) := by decide +kernel
theorem dX10_odds_67 : decode cX10_odds 67 = .ok (.if_icmp .ge 40, 3) := by decide +kernel
theorem dX10_odds_70 : decode cX10_odds 70 = .ok (.aload_n 0, 1) := by decide +kernel
theorem dX10_odds_71 : decode cX10_odds 71 = .ok (.iload 7, 2) := by decide +kernel
theorem dX10_odds_73 : decode cX10_odds 73 = .ok (.iload_n 3, 1) := by decide +kernel
theorem dX10_odds_74 : decode cX10_odds 74 = .ok (.invokevirtual 231, 3) := by decide +kernel
theorem dX10_odds_77 : decode cX10_odds 77 = .ok (.iload 6, 2) := by decide +kernel
theorem dX10_odds_79 : decode cX10_odds 79 = .ok (.aload_n 0, 1) := by decide +kernel
theorem dX10_odds_80 : decode cX10_odds 80 = .ok (.aload_n 0, 1) := by decide +kernel
theorem dX10_odds_81 : decode cX10_odds 81 = .ok (.getfield 35, 3) := by decide +kernel
theorem dX10_odds_84 : decode cX10_odds 84 = .ok (.iload_n 3, 1) := by decide +kernel
theorem dX10_odds_85 : decode cX10_odds 85 = .ok (.iload_n 1, 1) := by decide +kernel
theorem dX10_odds_86 : decode cX10_odds 86 = .ok (.iload_n 2, 1) := by decide +kernel
theorem dX10_odds_87 : decode cX10_odds 87 = .ok (.invokevirtual 211, 3) := by decide +kernel
theorem dX10_odds_90 : decode cX10_odds 90 = .ok (.ifCond .eq 7, 3) := by decide +kernel
theorem dX10_odds_93 : decode cX10_odds 93 = .ok (.iconst 1, 1) := by decide +kernel
theorem dX10_odds_94 : decode cX10_odds 94 = .ok (.goto 4, 3) := by decide +kernel
theorem dX10_odds_97 : decode cX10_odds 97 = .ok (.iconst 0, 1) := by decide +kernel
theorem dX10_odds_98 : decode cX10_odds 98 = .ok (.iadd, 1) := by decide +kernel
theorem dX10_odds_99 : decode cX10_odds 99 = .ok (.istore 6, 2) := by decide +kernel
theorem dX10_odds_101 : decode cX10_odds 101 = .ok (.iinc 7 1, 3) := by decide +kernel
theorem dX10_odds_104 : decode cX10_odds 104 = .ok (.goto (-41), 3) := by decide +kernel
theorem dX10_odds_107 : decode cX10_odds 107 = .ok (.iload 6, 2) := by decide +kernel
theorem dX10_odds_109 : decode cX10_odds 109 = .ok (.iload 5, 2) := by decide +kernel
theorem dX10_odds_111 : decode cX10_odds 111 = .ok (.invokestatic 250, 3) := by decide +kernel
theorem dX10_odds_114 : decode cX10_odds 114 = .ok (.istore 7, 2) := by decide +kernel
theorem dX10_odds_116 : decode cX10_odds 116 = .ok (.iload 4, 2) := by decide +kernel
theorem dX10_odds_118 : decode cX10_odds 118 = .ok (.ifCond .ne 11, 3) := by decide +kernel
theorem dX10_odds_121 : decode cX10_odds 121 = .ok (.iload 6, 2) := by decide +kernel
theorem dX10_odds_123 : decode cX10_odds 123 = .ok (.iload 7, 2) := by decide +kernel
theorem dX10_odds_125 : decode cX10_odds 125 = .ok (.idiv, 1) := by decide +kernel
theorem dX10_odds_126 : decode cX10_odds 126 = .ok (.goto 8, 3) := by decide +kernel
theorem dX10_odds_129 : decode cX10_odds 129 = .ok (.iload 5, 2) := by decide +kernel
theorem dX10_odds_131 : decode cX10_odds 131 = .ok (.iload 7, 2) := by decide +kernel
theorem dX10_odds_133 : decode cX10_odds 133 = .ok (.idiv, 1) := by decide +kernel
theorem dX10_odds_134 : decode cX10_odds 134 = .ok (.ireturn, 1) := by decide +kernel
theorem dX10_year_0 : decode cX10_year 0 = .ok (.aload_n 0, 1) := by decide +kernel
theorem dX10_year_1 : decode cX10_year 1 = .ok (.getfield 7, 3) := by decide +kernel
theorem dX10_year_4 : decode cX10_year 4 = .ok (.iconst 2, 1) := by decide +kernel
theorem dX10_year_5 : decode cX10_year 5 = .ok (.iaload, 1) := by decide +kernel
theorem dX10_year_6 : decode cX10_year 6 = .ok (.ifCond .ne 6, 3) := by decide +kernel
theorem dX10_year_9 : decode cX10_year 9 = .ok (.bipush (-4), 2) := by decide +kernel
theorem dX10_year_11 : decode cX10_year 11 = .ok (.ireturn, 1) := by decide +kernel
theorem dX10_year_12 : decode cX10_year 12 = .ok (.iconst 0, 1) := by decide +kernel
theorem dX10_year_13 : decode cX10_year 13 = .ok (.istore_n 1, 1) := by decide +kernel
theorem dX10_year_14 : decode cX10_year 14 = .ok (.iload_n 1, 1) := by decide +kernel
theorem dX10_year_15 : decode cX10_year 15 = .ok (.bipush 6, 2) := by decide +kernel
theorem dX10_year_17 : decode cX10_year 17 = .ok (.if_icmp .ge 24, 3) := by decide +kernel
theorem dX10_year_20 : decode cX10_year 20 = .ok (.aload_n 0, 1) := by decide +kernel
theorem dX10_year_21 : decode cX10_year 21 = .ok (.getfield 41, 3) := by decide +kernel
theorem dX10_year_24 : decode cX10_year 24 = .ok (.iload_n 1, 1) := by decide +kernel
theorem dX10_year_25 : decode cX10_year 25 = .ok (.aload_n 0, 1) := by decide +kernel
theorem dX10_year_26 : decode cX10_year 26 = .ok (.getfield 7, 3) := by decide +kernel
theorem dX10_year_29 : decode cX10_year 29 = .ok (.bipush 67, 2) := by decide +kernel
theorem dX10_year_31 : decode cX10_year 31 = .ok (.iload_n 1, 1) := by decide +kernel
theorem dX10_year_32 : decode cX10_year 32 = .ok (.iadd, 1) := by decide +kernel
theorem dX10_year_33 : decode cX10_year 33 = .ok (.iaload, 1) := by decide +kernel
theorem dX10_year_34 : decode cX10_year 34 = .ok (.iastore, 1) := by decide +kernel
theorem dX10_year_35 : decode cX10_year 35 = .ok (.iinc 1 1, 3) := by decide +kernel
theorem dX10_year_38 : decode cX10_year 38 = .ok (.goto (-24), 3) := by decide +kernel
theorem dX10_year_41 : decode cX10_year 41 = .ok (.iconst 0, 1) := by decide +kernel
theorem dX10_year_42 : decode cX10_year 42 = .ok (.istore_n 1, 1) := by decide +kernel
theorem dX10_year_43 : decode cX10_year 43 = .ok (.iconst 0, 1) := by decide +kernel
theorem dX10_year_44 : decode cX10_year 44 = .ok (.istore_n 2, 1) := by decide +kernel
theorem dX10_year_45 : decode cX10_year 45 = .ok (.iload_n 2, 1) := by decide +kernel
theorem dX10_year_46 : decode cX10_year 46 = .ok (.aload_n 0, 1) := by decide +kernel
theorem dX10_year_47 : decode cX10_year 47 = .ok (.getfield 7, 3) := by decide +kernel
theorem dX10_year_50 : decode cX10_year 50 = .ok (.iconst 1, 1) := by decide +kernel
theorem dX10_year_51 : decode cX10_year 51 = .ok (.iaload, 1) := by decide +kernel
theorem dX10_year_52 : decode cX10_year 52 = .ok (.if_icmp .ge 153, 3) := by decide +kernel
theorem dX10_year_55 : decode cX10_year 55 = .ok (.aload_n 0, 1) := by decide +kernel
theorem dX10_year_56 : decode cX10_year 56 = .ok (.getfield 7, 3) := by decide +kernel
theorem dX10_year_59 : decode cX10_year 59 = .ok (.bipush 46, 2) := by decide +kernel
theorem dX10_year_61 : decode cX10_year 61 = .ok (.iconst 3, 1) := by decide +kernel
theorem dX10_year_62 : decode cX10_year 62 = .ok (.iload_n 2, 1) := by decide +kernel
theorem dX10_year_63 : decode cX10_year 63 = .ok (.imul, 1) := by decide +kernel
theorem dX10_year_64 : decode cX10_year 64 = .ok (.iadd, 1) := by decide +kernel
theorem dX10_year_65 : decode cX10_year 65 = .ok (.iconst 2, 1) := by decide +kernel
theorem dX10_year_66 : decode cX10_year 66 = .ok (.iadd, 1) := by decide +kernel
theorem dX10_year_67 : decode cX10_year 67 = .ok (.iaload, 1) := by decide +kernel
theorem dX10_year_68 : decode cX10_year 68 = .ok (.ifCond .ne 131, 3) := by decide +kernel
theorem dX10_year_71 : decode cX10_year 71 = .ok (.aload_n 0, 1) := by decide +kernel
theorem dX10_year_72 : decode cX10_year 72 = .ok (.iload_n 2, 1) := by decide +kernel
theorem dX10_year_73 : decode cX10_year 73 = .ok (.iconst 0, 1) := by decide +kernel
theorem dX10_year_74 : decode cX10_year 74 = .ok (.invokevirtual 242, 3) := by decide +kernel
theorem dX10_year_77 : decode cX10_year 77 = .ok (.istore_n 3, 1) := by decide +kernel
theorem dX10_year_78 : decode cX10_year 78 = .ok (.iload_n 3, 1) := by decide +kernel
theorem dX10_year_79 : decode cX10_year 79 = .ok (.iconst (-1), 1) := by decide +kernel
theorem dX10_year_80 : decode cX10_year 80 = .ok (.if_icmp .eq 27, 3) := by decide +kernel
theorem dX10_year_83 : decode cX10_year 83 = .ok (.aload_n 0, 1) := by decide +kernel
theorem dX10_year_84 : decode cX10_year 84 = .ok (.aload_n 0, 1) := by decide +kernel
theorem dX10_year_85 : decode cX10_year 85 = .ok (.getfield 38, 3) := by decide +kernel
theorem dX10_year_88 : decode cX10_year 88 = .ok (.iload_n 3, 1) := by decide +kernel
theorem dX10_year_89 : decode cX10_year 89 = .ok (.iconst 1, 1) := by decide +kernel
theorem dX10_year_90 : decode cX10_year 90 = .ok (.isub, 1) := by decide +kernel
theorem dX10_year_91 : decode cX10_year 91 = .ok (.iaload, 1) := by decide +kernel
theorem dX10_year_92 : decode cX10_year 92 = .ok (.aload_n 0, 1) := by decide +kernel
theorem dX10_year_93 : decode cX10_year 93 = .ok (.getfield 41, 3) := by decide +kernel
theorem dX10_year_96 : decode cX10_year 96 = .ok (.iconst 0, 1) := by decide +kernel
theorem dX10_year_97 : decode cX10_year 97 = .ok (.invokevirtual 218, 3) := by decide +kernel
theorem dX10_year_100 : decode cX10_year 100 = .ok (.ifCond .ne 7, 3) := by decide +kernel
theorem dX10_year_103 : decode cX10_year 103 = .ok (.iconst 1, 1) := by decide +kernel
theorem dX10_year_104 : decode cX10_year 104 = .ok (.goto 4, 3) := by decide +kernel
theorem dX10_year_107 : decode cX10_year 107 = .ok (.iconst 0, 1) := by decide +kernel
theorem dX10_year_108 : decode cX10_year 108 = .ok (.istore 4, 2) := by decide +kernel
theorem dX10_year_110 : decode cX10_year 110 = .ok (.iload_n 1, 1) := by decide +kernel
theorem dX10_year_111 : decode cX10_year 111 = .ok (.iload 4, 2) := by decide +kernel
theorem dX10_year_113 : decode cX10_year 113 = .ok (.ifCond .eq 17, 3) := by decide +kernel
theorem dX10_year_116 : decode cX10_year 116 = .ok (.aload_n 0, 1) := by decide +kernel
theorem dX10_year_117 : decode cX10_year 117 = .ok (.getfield 7, 3) := by decide +kernel
theorem dX10_year_120 : decode cX10_year 120 = .ok (.bipush 46, 2) := by decide +kernel
theorem dX10_year_122 : decode cX10_year 122 = .ok (.iconst 3, 1) := by decide +kernel
theorem dX10_year_123 : decode cX10_year 123 = .ok (.iload_n 2, 1) := by decide +kernel
theorem dX10_year_124 : decode cX10_year 124 = .ok (.imul, 1) := by decide +kernel
theorem dX10_year_125 : decode cX10_year 125 = .ok (.iadd, 1) := by decide +kernel
theorem dX10_year_126 : decode cX10_year 126 = .ok (.iaload, 1) := by decide +kernel
theorem dX10_year_127 : decode cX10_year 127 = .ok (.goto 16, 3) := by decide +kernel
theorem dX10_year_130 : decode cX10_year 130 = .ok (.iconst 3, 1) := by decide +kernel
theorem dX10_year_131 : decode cX10_year 131 = .ok (.aload_n 0, 1) := by decide +kernel
theorem dX10_year_132 : decode cX10_year 132 = .ok (.getfield 7, 3) := by decide +kernel
theorem dX10_year_135 : decode cX10_year 135 = .ok (.bipush 46, 2) := by decide +kernel
theorem dX10_year_137 : decode cX10_year 137 = .ok (.iconst 3, 1) := by decide +kernel
theorem dX10_year_138 : decode cX10_year 138 = .ok (.iload_n 2, 1) := by decide +kernel
theorem dX10_year_139 : decode cX10_year 139 = .ok (.imul, 1) := by decide +kernel
theorem dX10_year_140 : decode cX10_year 140 = .ok (.iadd, 1) := by decide +kernel
theorem dX10_year_141 : decode cX10_year 141 = .ok (.iaload, 1) := by decide +kernel
theorem dX10_year_142 : decode cX10_year 142 = .ok (.imul, 1) := by decide +kernel
theorem dX10_year_143 : decode cX10_year 143 = .ok (.iadd, 1) := by decide +kernel
theorem dX10_year_144 : decode cX10_year 144 = .ok (.istore_n 1, 1) := by decide +kernel
theorem dX10_year_145 : decode cX10_year 145 = .ok (.iload 4, 2) := by decide +kernel
theorem dX10_year_147 : decode cX10_year 147 = .ok (.ifCond .eq 52, 3) := by decide +kernel
theorem dX10_year_150 : decode cX10_year 150 = .ok (.aload_n 0, 1) := by decide +kernel
theorem dX10_year_151 : decode cX10_year 151 = .ok (.getfield 41, 3) := by decide +kernel
theorem dX10_year_154 : decode cX10_year 154 = .ok (.aload_n 0, 1) := by decide +kernel
theorem dX10_year_155 : decode cX10_year 155 = .ok (.getfield 7, 3) := by decide +kernel
theorem dX10_year_158 : decode cX10_year 158 = .ok (.bipush 6, 2) := by decide +kernel
theorem dX10_year_160 : decode cX10_year 160 = .ok (.iconst 4, 1) := by decide +kernel
theorem dX10_year_161 : decode cX10_year 161 = .ok (.aload_n 0, 1) := by decide +kernel
theorem dX10_year_162 : decode cX10_year 162 = .ok (.getfield 38, 3) := by decide +kernel
theorem dX10_year_165 : decode cX10_year 165 = .ok (.iload_n 3, 1) := by decide +kernel
theorem dX10_year_166 : decode cX10_year 166 = .ok (.iconst 1, 1) := by decide +kernel
theorem dX10_year_167 : decode cX10_year 167 = .ok (.isub, 1) := by decide +kernel
theorem dX10_year_168 : decode cX10_year 168 = .ok (.iaload, 1) := by decide +kernel
theorem dX10_year_169 : decode cX10_year 169 = .ok (.imul, 1) := by decide +kernel
theorem dX10_year_170 : decode cX10_year 170 = .ok (.iadd, 1) := by decide +kernel
theorem dX10_year_171 : decode cX10_year 171 = .ok (.iconst 3, 1) := by decide +kernel
theorem dX10_year_172 : decode cX10_year 172 = .ok (.iadd, 1) := by decide +kernel
theorem dX10_year_173 : decode cX10_year 173 = .ok (.iaload, 1) := by decide +kernel
theorem dX10_year_174 : decode cX10_year 174 = .ok (.dup2, 1) := by decide +kernel
theorem dX10_year_175 : decode cX10_year 175 = .ok (.iaload, 1) := by decide +kernel
theorem dX10_year_176 : decode cX10_year 176 = .ok (.aload_n 0, 1) := by decide +kernel
theorem dX10_year_177 : decode cX10_year 177 = .ok (.aload_n 0, 1) := by decide +kernel
theorem dX10_year_178 : decode cX10_year 178 = .ok (.getfield 38, 3) := by decide +kernel
theorem dX10_year_181 : decode cX10_year 181 = .ok (.iload_n 3, 1) := by decide +kernel
theorem dX10_year_182 : decode cX10_year 182 = .ok (.iconst 1, 1) := by decide +kernel
theorem dX10_year_183 : decode cX10_year 183 = .ok (.isub, 1) := by decide +kernel
theorem dX10_year_184 : decode cX10_year 184 = .ok (.iaload, 1) := by decide +kernel
theorem dX10_year_185 : decode cX10_year 185 = .ok (.invokevirtual 187, 3) := by decide +kernel
theorem dX10_year_188 : decode cX10_year 188 = .ok (.iconst 2, 1) := by decide +kernel
theorem dX10_year_189 : decode cX10_year 189 = .ok (.if_icmp .ne 7, 3) := by decide +kernel
theorem dX10_year_192 : decode cX10_year 192 = .ok (.iconst 0, 1) := by decide +kernel
theorem dX10_year_193 : decode cX10_year 193 = .ok (.goto 4, 3) := by decide +kernel
theorem dX10_year_196 : decode cX10_year 196 = .ok (.iconst 1, 1) := by decide +kernel
theorem dX10_year_197 : decode cX10_year 197 = .ok (.iadd, 1) := by decide +kernel
theorem dX10_year_198 : decode cX10_year 198 = .ok (.iastore, 1) := by decide +kernel
theorem dX10_year_199 : decode cX10_year 199 = .ok (.iinc 2 1, 3) := by decide +kernel
theorem dX10_year_202 : decode cX10_year 202 = .ok (.goto (-157), 3) := by decide +kernel
theorem dX10_year_205 : decode cX10_year 205 = .ok (.iload_n 1, 1) := by decide +kernel
theorem dX10_year_206 : decode cX10_year 206 = .ok (.ireturn, 1) := by decide +kernel
theorem dX10_secret_0 : decode cX10_secret 0 = .ok (.iload_n 1, 1) := by decide +kernel
theorem dX10_secret_1 : decode cX10_secret 1 = .ok (.i2l, 1) := by decide +kernel
theorem dX10_secret_2 : decode cX10_secret 2 = .ok (.lconst 1, 1) := by decide +kernel
theorem dX10_secret_3 : decode cX10_secret 3 = .ok (.ldc2_w 176, 3) := by decide +kernel
theorem dX10_secret_6 : decode cX10_secret 6 = .ok (.invokestatic 54, 3) := by decide +kernel
theorem dX10_secret_9 : decode cX10_secret 9 = .ok (.ifCond .ne 6, 3) := by decide +kernel
theorem dX10_secret_12 : decode cX10_secret 12 = .ok (.bipush (-3), 2) := by decide +kernel
theorem dX10_secret_14 : decode cX10_secret 14 = .ok (.ireturn, 1) := by decide +kernel
theorem dX10_secret_15 : decode cX10_secret 15 = .ok (.aload_n 0, 1) := by decide +kernel
theorem dX10_secret_16 : decode cX10_secret 16 = .ok (.getfield 164, 3) := by decide +kernel
theorem dX10_secret_19 : decode cX10_secret 19 = .ok (.istore_n 2, 1) := by decide +kernel
theorem dX10_secret_20 : decode cX10_secret 20 = .ok (.aload_n 0, 1) := by decide +kernel
theorem dX10_secret_21 : decode cX10_secret 21 = .ok (.iload_n 1, 1) := by decide +kernel
theorem dX10_secret_22 : decode cX10_secret 22 = .ok (.putfield 167, 3) := by decide +kernel
theorem dX10_secret_25 : decode cX10_secret 25 = .ok (.aload_n 0, 1) := by decide +kernel
theorem dX10_secret_26 : decode cX10_secret 26 = .ok (.iconst 0, 1) := by decide +kernel
theorem dX10_secret_27 : decode cX10_secret 27 = .ok (.putfield 164, 3) := by decide +kernel
theorem dX10_secret_30 : decode cX10_secret 30 = .ok (.iload_n 2, 1) := by decide +kernel
theorem dX10_secret_31 : decode cX10_secret 31 = .ok (.ireturn, 1) := by decide +kernel
theorem dX10_counted_0 : decode cX10_counted 0 = .ok (.aload_n 0, 1) := by decide +kernel
theorem dX10_counted_1 : decode cX10_counted 1 = .ok (.iload_n 1, 1) := by decide +kernel
theorem dX10_counted_2 : decode cX10_counted 2 = .ok (.invokevirtual 62, 3) := by decide +kernel
theorem dX10_counted_5 : decode cX10_counted 5 = .ok (.ifCond .ne 6, 3) := by decide +kernel
theorem dX10_counted_8 : decode cX10_counted 8 = .ok (.bipush (-2), 2) := by decide +kernel
theorem dX10_counted_10 : decode cX10_counted 10 = .ok (.ireturn, 1) := by decide +kernel
theorem dX10_counted_11 : decode cX10_counted 11 = .ok (.iload_n 2, 1) := by decide +kernel
theorem dX10_counted_12 : decode cX10_counted 12 = .ok (.i2l, 1) := by decide +kernel
theorem dX10_counted_13 : decode cX10_counted 13 = .ok (.lconst 0, 1) := by decide +kernel
theorem dX10_counted_14 : decode cX10_counted 14 = .ok (.ldc2_w 253, 3) := by decide +kernel
theorem dX10_counted_17 : decode cX10_counted 17 = .ok (.invokestatic 54, 3) := by decide +kernel
theorem dX10_counted_20 : decode cX10_counted 20 = .ok (.ifCond .ne 6, 3) := by decide +kernel
theorem dX10_counted_23 : decode cX10_counted 23 = .ok (.bipush (-3), 2) := by decide +kernel
theorem dX10_counted_25 : decode cX10_counted 25 = .ok (.ireturn, 1) := by decide +kernel
theorem dX10_counted_26 : decode cX10_counted 26 = .ok (.aload_n 0, 1) := by decide +kernel
theorem dX10_counted_27 : decode cX10_counted 27 = .ok (.getfield 167, 3) := by decide +kernel
theorem dX10_counted_30 : decode cX10_counted 30 = .ok (.ifCond .ne 6, 3) := by decide +kernel
theorem dX10_counted_33 : decode cX10_counted 33 = .ok (.bipush (-4), 2) := by decide +kernel
theorem dX10_counted_35 : decode cX10_counted 35 = .ok (.ireturn, 1) := by decide +kernel
theorem dX10_counted_36 : decode cX10_counted 36 = .ok (.aload_n 0, 1) := by decide +kernel
theorem dX10_counted_37 : decode cX10_counted 37 = .ok (.getfield 164, 3) := by decide +kernel
theorem dX10_counted_40 : decode cX10_counted 40 = .ok (.bipush 6, 2) := by decide +kernel
theorem dX10_counted_42 : decode cX10_counted 42 = .ok (.if_icmp .ne 6, 3) := by decide +kernel
theorem dX10_counted_45 : decode cX10_counted 45 = .ok (.bipush (-5), 2) := by decide +kernel
theorem dX10_counted_47 : decode cX10_counted 47 = .ok (.ireturn, 1) := by decide +kernel
theorem dX10_counted_48 : decode cX10_counted 48 = .ok (.aload_n 0, 1) := by decide +kernel
theorem dX10_counted_49 : decode cX10_counted 49 = .ok (.getfield 26, 3) := by decide +kernel
theorem dX10_counted_52 : decode cX10_counted 52 = .ok (.iconst 2, 1) := by decide +kernel
theorem dX10_counted_53 : decode cX10_counted 53 = .ok (.aload_n 0, 1) := by decide +kernel
theorem dX10_counted_54 : decode cX10_counted 54 = .ok (.getfield 164, 3) := by decide +kernel
theorem dX10_counted_57 : decode cX10_counted 57 = .ok (.imul, 1) := by decide +kernel
theorem dX10_counted_58 : decode cX10_counted 58 = .ok (.iload_n 1, 1) := by decide +kernel
theorem dX10_counted_59 : decode cX10_counted 59 = .ok (.iastore, 1) := by decide +kernel
theorem dX10_counted_60 : decode cX10_counted 60 = .ok (.aload_n 0, 1) := by decide +kernel
theorem dX10_counted_61 : decode cX10_counted 61 = .ok (.getfield 26, 3) := by decide +kernel
theorem dX10_counted_64 : decode cX10_counted 64 = .ok (.iconst 2, 1) := by decide +kernel
theorem dX10_counted_65 : decode cX10_counted 65 = .ok (.aload_n 0, 1) := by decide +kernel
theorem dX10_counted_66 : decode cX10_counted 66 = .ok (.getfield 164, 3) := by decide +kernel
theorem dX10_counted_69 : decode cX10_counted 69 = .ok (.imul, 1) := by decide +kernel
theorem dX10_counted_70 : decode cX10_counted 70 = .ok (.iconst 1, 1) := by decide +kernel
theorem dX10_counted_71 : decode cX10_counted 71 = .ok (.iadd, 1) := by decide +kernel
theorem dX10_counted_72 : decode cX10_counted 72 = .ok (.iload_n 2, 1) := by decide +kernel
theorem dX10_counted_73 : decode cX10_counted 73 = .ok (.iastore, 1) := by decide +kernel
theorem dX10_counted_74 : decode cX10_counted 74 = .ok (.aload_n 0, 1) := by decide +kernel
theorem dX10_counted_75 : decode cX10_counted 75 = .ok (.dup, 1) := by decide +kernel
theorem dX10_counted_76 : decode cX10_counted 76 = .ok (.getfield 164, 3) := by decide +kernel
theorem dX10_counted_79 : decode cX10_counted 79 = .ok (.iconst 1, 1) := by decide +kernel
theorem dX10_counted_80 : decode cX10_counted 80 = .ok (.iadd, 1) := by decide +kernel
theorem dX10_counted_81 : decode cX10_counted 81 = .ok (.putfield 164, 3) := by decide +kernel
theorem dX10_counted_84 : decode cX10_counted 84 = .ok (.aload_n 0, 1) := by decide +kernel
theorem dX10_counted_85 : decode cX10_counted 85 = .ok (.getfield 164, 3) := by decide +kernel
theorem dX10_counted_88 : decode cX10_counted 88 = .ok (.ireturn, 1) := by decide +kernel
theorem dX10_goesThrough_0 : decode cX10_goesThrough 0 = .ok (.aload_n 0, 1) := by decide +kernel
theorem dX10_goesThrough_1 : decode cX10_goesThrough 1 = .ok (.iconst 0, 1) := by decide +kernel
theorem dX10_goesThrough_2 : decode cX10_goesThrough 2 = .ok (.putfield 225, 3) := by decide +kernel
theorem dX10_goesThrough_5 : decode cX10_goesThrough 5 = .ok (.aload_n 0, 1) := by decide +kernel
theorem dX10_goesThrough_6 : decode cX10_goesThrough 6 = .ok (.iconst 0, 1) := by decide +kernel
theorem dX10_goesThrough_7 : decode cX10_goesThrough 7 = .ok (.putfield 255, 3) := by decide +kernel
theorem dX10_goesThrough_10 : decode cX10_goesThrough 10 = .ok (.aload_n 0, 1) := by decide +kernel
theorem dX10_goesThrough_11 : decode cX10_goesThrough 11 = .ok (.getfield 167, 3) := by decide +kernel
theorem dX10_goesThrough_14 : decode cX10_goesThrough 14 = .ok (.istore_n 1, 1) := by decide +kernel
theorem dX10_goesThrough_15 : decode cX10_goesThrough 15 = .ok (.aload_n 0, 1) := by decide +kernel
theorem dX10_goesThrough_16 : decode cX10_goesThrough 16 = .ok (.iload_n 1, 1) := by decide +kernel
theorem dX10_goesThrough_17 : decode cX10_goesThrough 17 = .ok (.invokevirtual 228, 3) := by decide +kernel
theorem dX10_goesThrough_20 : decode cX10_goesThrough 20 = .ok (.istore_n 2, 1) := by decide +kernel
theorem dX10_goesThrough_21 : decode cX10_goesThrough 21 = .ok (.iconst 0, 1) := by decide +kernel
theorem dX10_goesThrough_22 : decode cX10_goesThrough 22 = .ok (.istore_n 3, 1) := by decide +kernel
theorem dX10_goesThrough_23 : decode cX10_goesThrough 23 = .ok (.iload_n 3, 1) := by decide +kernel
theorem dX10_goesThrough_24 : decode cX10_goesThrough 24 = .ok (.iload_n 2, 1) := by decide +kernel
theorem dX10_goesThrough_25 : decode cX10_goesThrough 25 = .ok (.if_icmp .ge 216, 3) := by decide +kernel
theorem dX10_goesThrough_28 : decode cX10_goesThrough 28 = .ok (.aload_n 0, 1) := by decide +kernel
theorem dX10_goesThrough_29 : decode cX10_goesThrough 29 = .ok (.iload_n 3, 1) := by decide +kernel
theorem dX10_goesThrough_30 : decode cX10_goesThrough 30 = .ok (.iload_n 1, 1) := by decide +kernel
theorem dX10_goesThrough_31 : decode cX10_goesThrough 31 = .ok (.invokevirtual 231, 3) := by decide +kernel
theorem dX10_goesThrough_34 : decode cX10_goesThrough 34 = .ok (.iconst 1, 1) := by decide +kernel
theorem dX10_goesThrough_35 : decode cX10_goesThrough 35 = .ok (.istore 4, 2) := by decide +kernel
theorem dX10_goesThrough_37 : decode cX10_goesThrough 37 = .ok (.iconst 0, 1) := by decide +kernel
theorem dX10_goesThrough_38 : decode cX10_goesThrough 38 = .ok (.istore 5, 2) := by decide +kernel
theorem dX10_goesThrough_40 : decode cX10_goesThrough 40 = .ok (.iload 5, 2) := by decide +kernel
theorem dX10_goesThrough_42 : decode cX10_goesThrough 42 = .ok (.aload_n 0, 1) := by decide +kernel
theorem dX10_goesThrough_43 : decode cX10_goesThrough 43 = .ok (.getfield 164, 3) := by decide +kernel
theorem dX10_goesThrough_46 : decode cX10_goesThrough 46 = .ok (.if_icmp .ge 61, 3) := by decide +kernel
theorem dX10_goesThrough_49 : decode cX10_goesThrough 49 = .ok (.iload 4, 2) := by decide +kernel
theorem dX10_goesThrough_51 : decode cX10_goesThrough 51 = .ok (.ifCond .eq 47, 3) := by decide +kernel
theorem dX10_goesThrough_54 : decode cX10_goesThrough 54 = .ok (.aload_n 0, 1) := by decide +kernel
theorem dX10_goesThrough_55 : decode cX10_goesThrough 55 = .ok (.aload_n 0, 1) := by decide +kernel
theorem dX10_goesThrough_56 : decode cX10_goesThrough 56 = .ok (.getfield 7, 3) := by decide +kernel
theorem dX10_goesThrough_59 : decode cX10_goesThrough 59 = .ok (.bipush 64, 2) := by decide +kernel
theorem dX10_goesThrough_61 : decode cX10_goesThrough 61 = .ok (.aload_n 0, 1) := by decide +kernel
theorem dX10_goesThrough_62 : decode cX10_goesThrough 62 = .ok (.getfield 26, 3) := by decide +kernel
theorem dX10_goesThrough_65 : decode cX10_goesThrough 65 = .ok (.iconst 2, 1) := by decide +kernel
theorem dX10_goesThrough_66 : decode cX10_goesThrough 66 = .ok (.iload 5, 2) := by decide +kernel
theorem dX10_goesThrough_68 : decode cX10_goesThrough 68 = .ok (.imul, 1) := by decide +kernel
theorem dX10_goesThrough_69 : decode cX10_goesThrough 69 = .ok (.iaload, 1) := by decide +kernel
theorem dX10_goesThrough_70 : decode cX10_goesThrough 70 = .ok (.iadd, 1) := by decide +kernel
theorem dX10_goesThrough_71 : decode cX10_goesThrough 71 = .ok (.iaload, 1) := by decide +kernel
theorem dX10_goesThrough_72 : decode cX10_goesThrough 72 = .ok (.aload_n 0, 1) := by decide +kernel
theorem dX10_goesThrough_73 : decode cX10_goesThrough 73 = .ok (.getfield 35, 3) := by decide +kernel
theorem dX10_goesThrough_76 : decode cX10_goesThrough 76 = .ok (.iload_n 1, 1) := by decide +kernel
theorem dX10_goesThrough_77 : decode cX10_goesThrough 77 = .ok (.invokevirtual 190, 3) := by decide +kernel
theorem dX10_goesThrough_80 : decode cX10_goesThrough 80 = .ok (.aload_n 0, 1) := by decide +kernel
theorem dX10_goesThrough_81 : decode cX10_goesThrough 81 = .ok (.getfield 26, 3) := by decide +kernel
theorem dX10_goesThrough_84 : decode cX10_goesThrough 84 = .ok (.iconst 2, 1) := by decide +kernel
theorem dX10_goesThrough_85 : decode cX10_goesThrough 85 = .ok (.iload 5, 2) := by decide +kernel
theorem dX10_goesThrough_87 : decode cX10_goesThrough 87 = .ok (.imul, 1) := by decide +kernel
theorem dX10_goesThrough_88 : decode cX10_goesThrough 88 = .ok (.iconst 1, 1) := by decide +kernel
theorem dX10_goesThrough_89 : decode cX10_goesThrough 89 = .ok (.iadd, 1) := by decide +kernel
theorem dX10_goesThrough_90 : decode cX10_goesThrough 90 = .ok (.iaload, 1) := by decide +kernel
theorem dX10_goesThrough_91 : decode cX10_goesThrough 91 = .ok (.if_icmp .ne 7, 3) := by decide +kernel
theorem dX10_goesThrough_94 : decode cX10_goesThrough 94 = .ok (.iconst 1, 1) := by decide +kernel
theorem dX10_goesThrough_95 : decode cX10_goesThrough 95 = .ok (.goto 4, 3) := by decide +kernel
theorem dX10_goesThrough_98 : decode cX10_goesThrough 98 = .ok (.iconst 0, 1) := by decide +kernel
theorem dX10_goesThrough_99 : decode cX10_goesThrough 99 = .ok (.istore 4, 2) := by decide +kernel
theorem dX10_goesThrough_101 : decode cX10_goesThrough 101 = .ok (.iinc 5 1, 3) := by decide +kernel
theorem dX10_goesThrough_104 : decode cX10_goesThrough 104 = .ok (.goto (-64), 3) := by decide +kernel
theorem dX10_goesThrough_107 : decode cX10_goesThrough 107 = .ok (.iload 4, 2) := by decide +kernel
theorem dX10_goesThrough_109 : decode cX10_goesThrough 109 = .ok (.ifCond .eq 126, 3) := by decide +kernel
theorem dX10_goesThrough_112 : decode cX10_goesThrough 112 = .ok (.iconst 0, 1) := by decide +kernel
theorem dX10_goesThrough_113 : decode cX10_goesThrough 113 = .ok (.istore 5, 2) := by decide +kernel
theorem dX10_goesThrough_115 : decode cX10_goesThrough 115 = .ok (.iload 5, 2) := by decide +kernel
theorem dX10_goesThrough_117 : decode cX10_goesThrough 117 = .ok (.iload_n 1, 1) := by decide +kernel
theorem dX10_goesThrough_118 : decode cX10_goesThrough 118 = .ok (.if_icmp .ge 51, 3) := by decide +kernel
theorem dX10_goesThrough_121 : decode cX10_goesThrough 121 = .ok (.aload_n 0, 1) := by decide +kernel
theorem dX10_goesThrough_122 : decode cX10_goesThrough 122 = .ok (.getfield 44, 3) := by decide +kernel
theorem dX10_goesThrough_125 : decode cX10_goesThrough 125 = .ok (.iload 5, 2) := by decide +kernel
theorem dX10_goesThrough_127 : decode cX10_goesThrough 127 = .ok (.aload_n 0, 1) := by decide +kernel
theorem dX10_goesThrough_128 : decode cX10_goesThrough 128 = .ok (.getfield 225, 3) := by decide +kernel
theorem dX10_goesThrough_131 : decode cX10_goesThrough 131 = .ok (.ifCond .eq 20, 3) := by decide +kernel
theorem dX10_goesThrough_134 : decode cX10_goesThrough 134 = .ok (.aload_n 0, 1) := by decide +kernel
theorem dX10_goesThrough_135 : decode cX10_goesThrough 135 = .ok (.getfield 44, 3) := by decide +kernel
theorem dX10_goesThrough_138 : decode cX10_goesThrough 138 = .ok (.iload 5, 2) := by decide +kernel
theorem dX10_goesThrough_140 : decode cX10_goesThrough 140 = .ok (.iaload, 1) := by decide +kernel
theorem dX10_goesThrough_141 : decode cX10_goesThrough 141 = .ok (.aload_n 0, 1) := by decide +kernel
theorem dX10_goesThrough_142 : decode cX10_goesThrough 142 = .ok (.getfield 35, 3) := by decide +kernel
theorem dX10_goesThrough_145 : decode cX10_goesThrough 145 = .ok (.iload 5, 2) := by decide +kernel
theorem dX10_goesThrough_147 : decode cX10_goesThrough 147 = .ok (.iaload, 1) := by decide +kernel
theorem dX10_goesThrough_148 : decode cX10_goesThrough 148 = .ok (.if_icmp .ne 13, 3) := by decide +kernel
theorem dX10_goesThrough_151 : decode cX10_goesThrough 151 = .ok (.aload_n 0, 1) := by decide +kernel
theorem dX10_goesThrough_152 : decode cX10_goesThrough 152 = .ok (.getfield 35, 3) := by decide +kernel
theorem dX10_goesThrough_155 : decode cX10_goesThrough 155 = .ok (.iload 5, 2) := by decide +kernel
theorem dX10_goesThrough_157 : decode cX10_goesThrough 157 = .ok (.iaload, 1) := by decide +kernel
theorem dX10_goesThrough_158 : decode cX10_goesThrough 158 = .ok (.goto 4, 3) := by decide +kernel
theorem dX10_goesThrough_161 : decode cX10_goesThrough 161 = .ok (.iconst (-1), 1) := by decide +kernel
theorem dX10_goesThrough_162 : decode cX10_goesThrough 162 = .ok (.iastore, 1) := by decide +kernel
theorem dX10_goesThrough_163 : decode cX10_goesThrough 163 = .ok (.iinc 5 1, 3) := by decide +kernel
theorem dX10_goesThrough_166 : decode cX10_goesThrough 166 = .ok (.goto (-51), 3) := by decide +kernel
theorem dX10_goesThrough_169 : decode cX10_goesThrough 169 = .ok (.aload_n 0, 1) := by decide +kernel
theorem dX10_goesThrough_170 : decode cX10_goesThrough 170 = .ok (.iload_n 1, 1) := by decide +kernel
theorem dX10_goesThrough_171 : decode cX10_goesThrough 171 = .ok (.invokevirtual 239, 3) := by decide +kernel
theorem dX10_goesThrough_174 : decode cX10_goesThrough 174 = .ok (.iconst 0, 1) := by decide +kernel
theorem dX10_goesThrough_175 : decode cX10_goesThrough 175 = .ok (.istore 5, 2) := by decide +kernel
theorem dX10_goesThrough_177 : decode cX10_goesThrough 177 = .ok (.iload 5, 2) := by decide +kernel
theorem dX10_goesThrough_179 : decode cX10_goesThrough 179 = .ok (.aload_n 0, 1) := by decide +kernel
theorem dX10_goesThrough_180 : decode cX10_goesThrough 180 = .ok (.getfield 7, 3) := by decide +kernel
theorem dX10_goesThrough_183 : decode cX10_goesThrough 183 = .ok (.iconst 1, 1) := by decide +kernel
theorem dX10_goesThrough_184 : decode cX10_goesThrough 184 = .ok (.iaload, 1) := by decide +kernel
theorem dX10_goesThrough_185 : decode cX10_goesThrough 185 = .ok (.if_icmp .ge 50, 3) := by decide +kernel
theorem dX10_goesThrough_188 : decode cX10_goesThrough 188 = .ok (.aload_n 0, 1) := by decide +kernel
theorem dX10_goesThrough_189 : decode cX10_goesThrough 189 = .ok (.getfield 7, 3) := by decide +kernel
theorem dX10_goesThrough_192 : decode cX10_goesThrough 192 = .ok (.iconst 2, 1) := by decide +kernel
theorem dX10_goesThrough_193 : decode cX10_goesThrough 193 = .ok (.iaload, 1) := by decide +kernel
theorem dX10_goesThrough_194 : decode cX10_goesThrough 194 = .ok (.ifCond .le 41, 3) := by decide +kernel
theorem dX10_goesThrough_197 : decode cX10_goesThrough 197 = .ok (.aload_n 0, 1) := by decide +kernel
theorem dX10_goesThrough_198 : decode cX10_goesThrough 198 = .ok (.dup, 1) := by decide +kernel
theorem dX10_goesThrough_199 : decode cX10_goesThrough 199 = .ok (.getfield 255, 3) := by decide +kernel
theorem dX10_goesThrough_202 : decode cX10_goesThrough 202 = .ok (.aload_n 0, 1) := by decide +kernel
theorem dX10_goesThrough_203 : decode cX10_goesThrough 203 = .ok (.aload_n 0, 1) := by decide +kernel
theorem dX10_goesThrough_204 : decode cX10_goesThrough 204 = .ok (.getfield 35, 3) := by decide +kernel
theorem dX10_goesThrough_207 : decode cX10_goesThrough 207 = .ok (.iload_n 1, 1) := by decide +kernel
theorem dX10_goesThrough_208 : decode cX10_goesThrough 208 = .ok (.iload 5, 2) := by decide +kernel
theorem dX10_goesThrough_210 : decode cX10_goesThrough 210 = .ok (.iconst 0, 1) := by decide +kernel
theorem dX10_goesThrough_211 : decode cX10_goesThrough 211 = .ok (.invokevirtual 211, 3) := by decide +kernel
theorem dX10_goesThrough_214 : decode cX10_goesThrough 214 = .ok (.ifCond .eq 10, 3) := by decide +kernel
theorem dX10_goesThrough_217 : decode cX10_goesThrough 217 = .ok (.iconst 1, 1) := by decide +kernel
theorem dX10_goesThrough_218 : decode cX10_goesThrough 218 = .ok (.iload 5, 2) := by decide +kernel
theorem dX10_goesThrough_220 : decode cX10_goesThrough 220 = .ok (.ishl, 1) := by decide +kernel
theorem dX10_goesThrough_221 : decode cX10_goesThrough 221 = .ok (.goto 4, 3) := by decide +kernel
theorem dX10_goesThrough_224 : decode cX10_goesThrough 224 = .ok (.iconst 0, 1) := by decide +kernel
theorem dX10_goesThrough_225 : decode cX10_goesThrough 225 = .ok (.ior, 1) := by decide +kernel
theorem dX10_goesThrough_226 : decode cX10_goesThrough 226 = .ok (.putfield 255, 3) := by decide +kernel
theorem dX10_goesThrough_229 : decode cX10_goesThrough 229 = .ok (.iinc 5 1, 3) := by decide +kernel
theorem dX10_goesThrough_232 : decode cX10_goesThrough 232 = .ok (.goto (-55), 3) := by decide +kernel
theorem dX10_goesThrough_235 : decode cX10_goesThrough 235 = .ok (.iinc 3 1, 3) := by decide +kernel
theorem dX10_goesThrough_238 : decode cX10_goesThrough 238 = .ok (.goto (-215), 3) := by decide +kernel
theorem dX10_goesThrough_241 : decode cX10_goesThrough 241 = .ok (.return_, 1) := by decide +kernel
theorem dX10_canBe_0 : decode cX10_canBe 0 = .ok (.iload_n 1, 1) := by decide +kernel
theorem dX10_canBe_1 : decode cX10_canBe 1 = .ok (.i2l, 1) := by decide +kernel
theorem dX10_canBe_2 : decode cX10_canBe 2 = .ok (.lconst 0, 1) := by decide +kernel
theorem dX10_canBe_3 : decode cX10_canBe 3 = .ok (.lconst 1, 1) := by decide +kernel
theorem dX10_canBe_4 : decode cX10_canBe 4 = .ok (.invokestatic 54, 3) := by decide +kernel
theorem dX10_canBe_7 : decode cX10_canBe 7 = .ok (.ifCond .ne 6, 3) := by decide +kernel
theorem dX10_canBe_10 : decode cX10_canBe 10 = .ok (.bipush (-3), 2) := by decide +kernel
theorem dX10_canBe_12 : decode cX10_canBe 12 = .ok (.ireturn, 1) := by decide +kernel
theorem dX10_canBe_13 : decode cX10_canBe 13 = .ok (.aload_n 0, 1) := by decide +kernel
theorem dX10_canBe_14 : decode cX10_canBe 14 = .ok (.getfield 167, 3) := by decide +kernel
theorem dX10_canBe_17 : decode cX10_canBe 17 = .ok (.ifCond .ne 6, 3) := by decide +kernel
theorem dX10_canBe_20 : decode cX10_canBe 20 = .ok (.bipush (-4), 2) := by decide +kernel
theorem dX10_canBe_22 : decode cX10_canBe 22 = .ok (.ireturn, 1) := by decide +kernel
theorem dX10_canBe_23 : decode cX10_canBe 23 = .ok (.aload_n 0, 1) := by decide +kernel
theorem dX10_canBe_24 : decode cX10_canBe 24 = .ok (.invokevirtual 258, 3) := by decide +kernel
theorem dX10_canBe_27 : decode cX10_canBe 27 = .ok (.iload_n 1, 1) := by decide +kernel
theorem dX10_canBe_28 : decode cX10_canBe 28 = .ok (.ifCond .ne 10, 3) := by decide +kernel
theorem dX10_canBe_31 : decode cX10_canBe 31 = .ok (.aload_n 0, 1) := by decide +kernel
theorem dX10_canBe_32 : decode cX10_canBe 32 = .ok (.getfield 225, 3) := by decide +kernel
theorem dX10_canBe_35 : decode cX10_canBe 35 = .ok (.goto 7, 3) := by decide +kernel
theorem dX10_canBe_38 : decode cX10_canBe 38 = .ok (.aload_n 0, 1) := by decide +kernel
theorem dX10_canBe_39 : decode cX10_canBe 39 = .ok (.getfield 255, 3) := by decide +kernel
theorem dX10_canBe_42 : decode cX10_canBe 42 = .ok (.ireturn, 1) := by decide +kernel
theorem dX10_canBeWord_0 : decode cX10_canBeWord 0 = .ok (.iload_n 1, 1) := by decide +kernel
theorem dX10_canBeWord_1 : decode cX10_canBeWord 1 = .ok (.ifCond .lt 13, 3) := by decide +kernel
theorem dX10_canBeWord_4 : decode cX10_canBeWord 4 = .ok (.iload_n 2, 1) := by decide +kernel
theorem dX10_canBeWord_5 : decode cX10_canBeWord 5 = .ok (.i2l, 1) := by decide +kernel
theorem dX10_canBeWord_6 : decode cX10_canBeWord 6 = .ok (.lconst 0, 1) := by decide +kernel
theorem dX10_canBeWord_7 : decode cX10_canBeWord 7 = .ok (.lconst 1, 1) := by decide +kernel
theorem dX10_canBeWord_8 : decode cX10_canBeWord 8 = .ok (.invokestatic 54, 3) := by decide +kernel
theorem dX10_canBeWord_11 : decode cX10_canBeWord 11 = .ok (.ifCond .ne 6, 3) := by decide +kernel
theorem dX10_canBeWord_14 : decode cX10_canBeWord 14 = .ok (.bipush (-3), 2) := by decide +kernel
theorem dX10_canBeWord_16 : decode cX10_canBeWord 16 = .ok (.ireturn, 1) := by decide +kernel
theorem dX10_canBeWord_17 : decode cX10_canBeWord 17 = .ok (.aload_n 0, 1) := by decide +kernel
theorem dX10_canBeWord_18 : decode cX10_canBeWord 18 = .ok (.getfield 167, 3) := by decide +kernel
theorem dX10_canBeWord_21 : decode cX10_canBeWord 21 = .ok (.ifCond .ne 6, 3) := by decide +kernel
theorem dX10_canBeWord_24 : decode cX10_canBeWord 24 = .ok (.bipush (-4), 2) := by decide +kernel
theorem dX10_canBeWord_26 : decode cX10_canBeWord 26 = .ok (.ireturn, 1) := by decide +kernel
theorem dX10_canBeWord_27 : decode cX10_canBeWord 27 = .ok (.aload_n 0, 1) := by decide +kernel
theorem dX10_canBeWord_28 : decode cX10_canBeWord 28 = .ok (.invokevirtual 258, 3) := by decide +kernel
theorem dX10_canBeWord_31 : decode cX10_canBeWord 31 = .ok (.aload_n 0, 1) := by decide +kernel
theorem dX10_canBeWord_32 : decode cX10_canBeWord 32 = .ok (.getfield 225, 3) := by decide +kernel
theorem dX10_canBeWord_35 : decode cX10_canBeWord 35 = .ok (.ifCond .eq 11, 3) := by decide +kernel
theorem dX10_canBeWord_38 : decode cX10_canBeWord 38 = .ok (.iload_n 1, 1) := by decide +kernel
theorem dX10_canBeWord_39 : decode cX10_canBeWord 39 = .ok (.aload_n 0, 1) := by decide +kernel
theorem dX10_canBeWord_40 : decode cX10_canBeWord 40 = .ok (.getfield 167, 3) := by decide +kernel
theorem dX10_canBeWord_43 : decode cX10_canBeWord 43 = .ok (.if_icmp .lt 7, 3) := by decide +kernel
theorem dX10_canBeWord_46 : decode cX10_canBeWord 46 = .ok (.iconst (-1), 1) := by decide +kernel
theorem dX10_canBeWord_47 : decode cX10_canBeWord 47 = .ok (.goto 22, 3) := by decide +kernel
theorem dX10_canBeWord_50 : decode cX10_canBeWord 50 = .ok (.iload_n 2, 1) := by decide +kernel
theorem dX10_canBeWord_51 : decode cX10_canBeWord 51 = .ok (.ifCond .ne 12, 3) := by decide +kernel
theorem dX10_canBeWord_54 : decode cX10_canBeWord 54 = .ok (.aload_n 0, 1) := by decide +kernel
theorem dX10_canBeWord_55 : decode cX10_canBeWord 55 = .ok (.getfield 38, 3) := by decide +kernel
theorem dX10_canBeWord_58 : decode cX10_canBeWord 58 = .ok (.iload_n 1, 1) := by decide +kernel
theorem dX10_canBeWord_59 : decode cX10_canBeWord 59 = .ok (.iaload, 1) := by decide +kernel
theorem dX10_canBeWord_60 : decode cX10_canBeWord 60 = .ok (.goto 9, 3) := by decide +kernel
theorem dX10_canBeWord_63 : decode cX10_canBeWord 63 = .ok (.aload_n 0, 1) := by decide +kernel
theorem dX10_canBeWord_64 : decode cX10_canBeWord 64 = .ok (.getfield 44, 3) := by decide +kernel
theorem dX10_canBeWord_67 : decode cX10_canBeWord 67 = .ok (.iload_n 1, 1) := by decide +kernel
theorem dX10_canBeWord_68 : decode cX10_canBeWord 68 = .ok (.iaload, 1) := by decide +kernel
theorem dX10_canBeWord_69 : decode cX10_canBeWord 69 = .ok (.ireturn, 1) := by decide +kernel
theorem dX10_count_0 : decode cX10_count 0 = .ok (.iload_n 1, 1) := by decide +kernel
theorem dX10_count_1 : decode cX10_count 1 = .ok (.i2l, 1) := by decide +kernel
theorem dX10_count_2 : decode cX10_count 2 = .ok (.lconst 0, 1) := by decide +kernel
theorem dX10_count_3 : decode cX10_count 3 = .ok (.ldc2_w 261, 3) := by decide +kernel
theorem dX10_count_6 : decode cX10_count 6 = .ok (.invokestatic 54, 3) := by decide +kernel
theorem dX10_count_9 : decode cX10_count 9 = .ok (.ifCond .ne 6, 3) := by decide +kernel
theorem dX10_count_12 : decode cX10_count 12 = .ok (.bipush (-3), 2) := by decide +kernel
theorem dX10_count_14 : decode cX10_count 14 = .ok (.ireturn, 1) := by decide +kernel
theorem dX10_count_15 : decode cX10_count 15 = .ok (.iconst 0, 1) := by decide +kernel
theorem dX10_count_16 : decode cX10_count 16 = .ok (.istore_n 2, 1) := by decide +kernel
theorem dX10_count_17 : decode cX10_count 17 = .ok (.iconst 0, 1) := by decide +kernel
theorem dX10_count_18 : decode cX10_count 18 = .ok (.istore_n 3, 1) := by decide +kernel
theorem dX10_count_19 : decode cX10_count 19 = .ok (.iload_n 3, 1) := by decide +kernel
theorem dX10_count_20 : decode cX10_count 20 = .ok (.aload_n 0, 1) := by decide +kernel
theorem dX10_count_21 : decode cX10_count 21 = .ok (.getfield 7, 3) := by decide +kernel
theorem dX10_count_24 : decode cX10_count 24 = .ok (.iconst 1, 1) := by decide +kernel
theorem dX10_count_25 : decode cX10_count 25 = .ok (.iaload, 1) := by decide +kernel
theorem dX10_count_26 : decode cX10_count 26 = .ok (.if_icmp .ge 35, 3) := by decide +kernel
theorem dX10_count_29 : decode cX10_count 29 = .ok (.iload_n 2, 1) := by decide +kernel
theorem dX10_count_30 : decode cX10_count 30 = .ok (.aload_n 0, 1) := by decide +kernel
theorem dX10_count_31 : decode cX10_count 31 = .ok (.getfield 7, 3) := by decide +kernel
theorem dX10_count_34 : decode cX10_count 34 = .ok (.bipush 46, 2) := by decide +kernel
theorem dX10_count_36 : decode cX10_count 36 = .ok (.iconst 3, 1) := by decide +kernel
theorem dX10_count_37 : decode cX10_count 37 = .ok (.iload_n 3, 1) := by decide +kernel
theorem dX10_count_38 : decode cX10_count 38 = .ok (.imul, 1) := by decide +kernel
theorem dX10_count_39 : decode cX10_count 39 = .ok (.iadd, 1) := by decide +kernel
theorem dX10_count_40 : decode cX10_count 40 = .ok (.iconst 2, 1) := by decide +kernel
theorem dX10_count_41 : decode cX10_count 41 = .ok (.iadd, 1) := by decide +kernel
theorem dX10_count_42 : decode cX10_count 42 = .ok (.iaload, 1) := by decide +kernel
theorem dX10_count_43 : decode cX10_count 43 = .ok (.ifCond .ne 9, 3) := by decide +kernel
theorem dX10_count_46 : decode cX10_count 46 = .ok (.iconst 1, 1) := by decide +kernel
theorem dX10_count_47 : decode cX10_count 47 = .ok (.iload_n 3, 1) := by decide +kernel
theorem dX10_count_48 : decode cX10_count 48 = .ok (.ishl, 1) := by decide +kernel
theorem dX10_count_49 : decode cX10_count 49 = .ok (.goto 4, 3) := by decide +kernel
theorem dX10_count_52 : decode cX10_count 52 = .ok (.iconst 0, 1) := by decide +kernel
theorem dX10_count_53 : decode cX10_count 53 = .ok (.ior, 1) := by decide +kernel
theorem dX10_count_54 : decode cX10_count 54 = .ok (.istore_n 2, 1) := by decide +kernel
theorem dX10_count_55 : decode cX10_count 55 = .ok (.iinc 3 1, 3) := by decide +kernel
theorem dX10_count_58 : decode cX10_count 58 = .ok (.goto (-39), 3) := by decide +kernel
theorem dX10_count_61 : decode cX10_count 61 = .ok (.iload_n 1, 1) := by decide +kernel
theorem dX10_count_62 : decode cX10_count 62 = .ok (.bipush 8, 2) := by decide +kernel
theorem dX10_count_64 : decode cX10_count 64 = .ok (.if_icmp .ne 10, 3) := by decide +kernel
theorem dX10_count_67 : decode cX10_count 67 = .ok (.aload_n 0, 1) := by decide +kernel
theorem dX10_count_68 : decode cX10_count 68 = .ok (.getfield 164, 3) := by decide +kernel
theorem dX10_count_71 : decode cX10_count 71 = .ok (.goto 20, 3) := by decide +kernel
theorem dX10_count_74 : decode cX10_count 74 = .ok (.iload_n 1, 1) := by decide +kernel
theorem dX10_count_75 : decode cX10_count 75 = .ok (.bipush 9, 2) := by decide +kernel
theorem dX10_count_77 : decode cX10_count 77 = .ok (.if_icmp .ne 10, 3) := by decide +kernel
theorem dX10_count_80 : decode cX10_count 80 = .ok (.aload_n 0, 1) := by decide +kernel
theorem dX10_count_81 : decode cX10_count 81 = .ok (.getfield 170, 3) := by decide +kernel
theorem dX10_count_84 : decode cX10_count 84 = .ok (.goto 7, 3) := by decide +kernel
theorem dX10_count_87 : decode cX10_count 87 = .ok (.aload_n 0, 1) := by decide +kernel
theorem dX10_count_88 : decode cX10_count 88 = .ok (.getfield 67, 3) := by decide +kernel
theorem dX10_count_91 : decode cX10_count 91 = .ok (.istore_n 3, 1) := by decide +kernel
theorem dX10_count_92 : decode cX10_count 92 = .ok (.iload_n 1, 1) := by decide +kernel
theorem dX10_count_93 : decode cX10_count 93 = .ok (.bipush 6, 2) := by decide +kernel
theorem dX10_count_95 : decode cX10_count 95 = .ok (.if_icmp .ge 12, 3) := by decide +kernel
theorem dX10_count_98 : decode cX10_count 98 = .ok (.aload_n 0, 1) := by decide +kernel
theorem dX10_count_99 : decode cX10_count 99 = .ok (.getfield 7, 3) := by decide +kernel
theorem dX10_count_102 : decode cX10_count 102 = .ok (.iload_n 1, 1) := by decide +kernel
theorem dX10_count_103 : decode cX10_count 103 = .ok (.iaload, 1) := by decide +kernel
theorem dX10_count_104 : decode cX10_count 104 = .ok (.goto 27, 3) := by decide +kernel
theorem dX10_count_107 : decode cX10_count 107 = .ok (.iload_n 1, 1) := by decide +kernel
theorem dX10_count_108 : decode cX10_count 108 = .ok (.bipush 6, 2) := by decide +kernel
theorem dX10_count_110 : decode cX10_count 110 = .ok (.if_icmp .ne 7, 3) := by decide +kernel
theorem dX10_count_113 : decode cX10_count 113 = .ok (.iload_n 2, 1) := by decide +kernel
theorem dX10_count_114 : decode cX10_count 114 = .ok (.goto 17, 3) := by decide +kernel
theorem dX10_count_117 : decode cX10_count 117 = .ok (.iload_n 1, 1) := by decide +kernel
theorem dX10_count_118 : decode cX10_count 118 = .ok (.bipush 7, 2) := by decide +kernel
theorem dX10_count_120 : decode cX10_count 120 = .ok (.if_icmp .ne 10, 3) := by decide +kernel
theorem dX10_count_123 : decode cX10_count 123 = .ok (.aload_n 0, 1) := by decide +kernel
theorem dX10_count_124 : decode cX10_count 124 = .ok (.getfield 161, 3) := by decide +kernel
theorem dX10_count_127 : decode cX10_count 127 = .ok (.goto 4, 3) := by decide +kernel
theorem dX10_count_130 : decode cX10_count 130 = .ok (.iload_n 3, 1) := by decide +kernel
theorem dX10_count_131 : decode cX10_count 131 = .ok (.ireturn, 1) := by decide +kernel
theorem dJ9_max_7cf53_0 : decode cJ9_max_7cf53 0 = .ok (.iload_n 0, 1) := by decide +kernel
theorem dJ9_max_7cf53_1 : decode cJ9_max_7cf53 1 = .ok (.iload_n 1, 1) := by decide +kernel
theorem dJ9_max_7cf53_2 : decode cJ9_max_7cf53 2 = .ok (.if_icmp .lt 7, 3) := by decide +kernel
theorem dJ9_max_7cf53_5 : decode cJ9_max_7cf53 5 = .ok (.iload_n 0, 1) := by decide +kernel
theorem dJ9_max_7cf53_6 : decode cJ9_max_7cf53 6 = .ok (.goto 4, 3) := by decide +kernel
theorem dJ9_max_7cf53_9 : decode cJ9_max_7cf53 9 = .ok (.iload_n 1, 1) := by decide +kernel
theorem dJ9_max_7cf53_10 : decode cJ9_max_7cf53 10 = .ok (.ireturn, 1) := by decide +kernel
theorem dJ9_min_7cf53_0 : decode cJ9_min_7cf53 0 = .ok (.iload_n 0, 1) := by decide +kernel
theorem dJ9_min_7cf53_1 : decode cJ9_min_7cf53 1 = .ok (.iload_n 1, 1) := by decide +kernel
theorem dJ9_min_7cf53_2 : decode cJ9_min_7cf53 2 = .ok (.if_icmp .gt 7, 3) := by decide +kernel
theorem dJ9_min_7cf53_5 : decode cJ9_min_7cf53 5 = .ok (.iload_n 0, 1) := by decide +kernel
theorem dJ9_min_7cf53_6 : decode cJ9_min_7cf53 6 = .ok (.goto 4, 3) := by decide +kernel
theorem dJ9_min_7cf53_9 : decode cJ9_min_7cf53 9 = .ok (.iload_n 1, 1) := by decide +kernel
theorem dJ9_min_7cf53_10 : decode cJ9_min_7cf53 10 = .ok (.ireturn, 1) := by decide +kernel
theorem dJ0_length_8abf5_0 : decode cJ0_length_8abf5 0 = .ok (.aload_n 0, 1) := by decide +kernel
theorem dJ0_length_8abf5_1 : decode cJ0_length_8abf5 1 = .ok (.getfield 9, 3) := by decide +kernel
theorem dJ0_length_8abf5_4 : decode cJ0_length_8abf5 4 = .ok (.arraylength, 1) := by decide +kernel
theorem dJ0_length_8abf5_5 : decode cJ0_length_8abf5 5 = .ok (.aload_n 0, 1) := by decide +kernel
theorem dJ0_length_8abf5_6 : decode cJ0_length_8abf5 6 = .ok (.invokevirtual 335, 3) := by decide +kernel
theorem dJ0_length_8abf5_9 : decode cJ0_length_8abf5 9 = .ok (.ishr, 1) := by decide +kernel
theorem dJ0_length_8abf5_10 : decode cJ0_length_8abf5 10 = .ok (.ireturn, 1) := by decide +kernel
theorem dJ0_charAt_5068e_0 : decode cJ0_charAt_5068e 0 = .ok (.aload_n 0, 1) := by decide +kernel
theorem dJ0_charAt_5068e_1 : decode cJ0_charAt_5068e 1 = .ok (.invokevirtual 492, 3) := by decide +kernel
theorem dJ0_charAt_5068e_4 : decode cJ0_charAt_5068e 4 = .ok (.ifCond .eq 12, 3) := by decide +kernel
theorem dJ0_charAt_5068e_7 : decode cJ0_charAt_5068e 7 = .ok (.aload_n 0, 1) := by decide +kernel
theorem dJ0_charAt_5068e_8 : decode cJ0_charAt_5068e 8 = .ok (.getfield 9, 3) := by decide +kernel
theorem dJ0_charAt_5068e_11 : decode cJ0_charAt_5068e 11 = .ok (.iload_n 1, 1) := by decide +kernel
theorem dJ0_charAt_5068e_12 : decode cJ0_charAt_5068e 12 = .ok (.invokestatic 495, 3) := by decide +kernel
theorem dJ0_charAt_5068e_15 : decode cJ0_charAt_5068e 15 = .ok (.ireturn, 1) := by decide +kernel
theorem dJ0_charAt_5068e_16 : decode cJ0_charAt_5068e 16 = .ok (.aload_n 0, 1) := by decide +kernel
theorem dJ0_charAt_5068e_17 : decode cJ0_charAt_5068e 17 = .ok (.getfield 9, 3) := by decide +kernel
theorem dJ0_charAt_5068e_20 : decode cJ0_charAt_5068e 20 = .ok (.iload_n 1, 1) := by decide +kernel
theorem dJ0_charAt_5068e_21 : decode cJ0_charAt_5068e 21 = .ok (.invokestatic 498, 3) := by decide +kernel
theorem dJ0_charAt_5068e_24 : decode cJ0_charAt_5068e 24 = .ok (.ireturn, 1) := by decide +kernel
theorem dJ0_coder_7d493_0 : decode cJ0_coder_7d493 0 = .ok (.getstatic 38, 3) := by decide +kernel
theorem dJ0_coder_7d493_3 : decode cJ0_coder_7d493 3 = .ok (.ifCond .eq 10, 3) := by decide +kernel
theorem dJ0_coder_7d493_6 : decode cJ0_coder_7d493 6 = .ok (.aload_n 0, 1) := by decide +kernel
theorem dJ0_coder_7d493_7 : decode cJ0_coder_7d493 7 = .ok (.getfield 15, 3) := by decide +kernel
theorem dJ0_coder_7d493_10 : decode cJ0_coder_7d493 10 = .ok (.goto 4, 3) := by decide +kernel
theorem dJ0_coder_7d493_13 : decode cJ0_coder_7d493 13 = .ok (.iconst 1, 1) := by decide +kernel
theorem dJ0_coder_7d493_14 : decode cJ0_coder_7d493 14 = .ok (.ireturn, 1) := by decide +kernel
theorem dJ0_isLatin1_aae02_0 : decode cJ0_isLatin1_aae02 0 = .ok (.getstatic 38, 3) := by decide +kernel
theorem dJ0_isLatin1_aae02_3 : decode cJ0_isLatin1_aae02 3 = .ok (.ifCond .eq 14, 3) := by decide +kernel
theorem dJ0_isLatin1_aae02_6 : decode cJ0_isLatin1_aae02 6 = .ok (.aload_n 0, 1) := by decide +kernel
theorem dJ0_isLatin1_aae02_7 : decode cJ0_isLatin1_aae02 7 = .ok (.getfield 15, 3) := by decide +kernel
theorem dJ0_isLatin1_aae02_10 : decode cJ0_isLatin1_aae02 10 = .ok (.ifCond .ne 7, 3) := by decide +kernel
theorem dJ0_isLatin1_aae02_13 : decode cJ0_isLatin1_aae02 13 = .ok (.iconst 1, 1) := by decide +kernel
theorem dJ0_isLatin1_aae02_14 : decode cJ0_isLatin1_aae02 14 = .ok (.goto 4, 3) := by decide +kernel
theorem dJ0_isLatin1_aae02_17 : decode cJ0_isLatin1_aae02 17 = .ok (.iconst 0, 1) := by decide +kernel
theorem dJ0_isLatin1_aae02_18 : decode cJ0_isLatin1_aae02 18 = .ok (.ireturn, 1) := by decide +kernel
theorem dJ0_checkIndex_df160_0 : decode cJ0_checkIndex_df160 0 = .ok (.iload_n 0, 1) := by decide +kernel
theorem dJ0_checkIndex_df160_1 : decode cJ0_checkIndex_df160 1 = .ok (.iload_n 1, 1) := by decide +kernel
theorem dJ0_checkIndex_df160_2 : decode cJ0_checkIndex_df160 2 = .ok (.getstatic 1053, 3) := by decide +kernel
theorem dJ0_checkIndex_df160_5 : decode cJ0_checkIndex_df160 5 = .ok (.invokestatic 1059, 3) := by decide +kernel
theorem dJ0_checkIndex_df160_8 : decode cJ0_checkIndex_df160 8 = .ok (.pop, 1) := by decide +kernel
theorem dJ0_checkIndex_df160_9 : decode cJ0_checkIndex_df160 9 = .ok (.return_, 1) := by decide +kernel
theorem dJ1_charAt_3b067_0 : decode cJ1_charAt_3b067 0 = .ok (.iload_n 1, 1) := by decide +kernel
theorem dJ1_charAt_3b067_1 : decode cJ1_charAt_3b067 1 = .ok (.aload_n 0, 1) := by decide +kernel
theorem dJ1_charAt_3b067_2 : decode cJ1_charAt_3b067 2 = .ok (.arraylength, 1) := by decide +kernel
theorem dJ1_charAt_3b067_3 : decode cJ1_charAt_3b067 3 = .ok (.invokestatic 9, 3) := by decide +kernel
theorem dJ1_charAt_3b067_6 : decode cJ1_charAt_3b067 6 = .ok (.aload_n 0, 1) := by decide +kernel
theorem dJ1_charAt_3b067_7 : decode cJ1_charAt_3b067 7 = .ok (.iload_n 1, 1) := by decide +kernel
theorem dJ1_charAt_3b067_8 : decode cJ1_charAt_3b067 8 = .ok (.baload, 1) := by decide +kernel
theorem dJ1_charAt_3b067_9 : decode cJ1_charAt_3b067 9 = .ok (.sipush 255, 3) := by decide +kernel
theorem dJ1_charAt_3b067_12 : decode cJ1_charAt_3b067 12 = .ok (.iand, 1) := by decide +kernel
theorem dJ1_charAt_3b067_13 : decode cJ1_charAt_3b067 13 = .ok (.i2c, 1) := by decide +kernel
theorem dJ1_charAt_3b067_14 : decode cJ1_charAt_3b067 14 = .ok (.ireturn, 1) := by decide +kernel
theorem dJ2_getChar_3b067_0 : decode cJ2_getChar_3b067 0 = .ok (.getstatic 44, 3) := by decide +kernel
theorem dJ2_getChar_3b067_3 : decode cJ2_getChar_3b067 3 = .ok (.ifCond .ne 25, 3) := by decide +kernel
theorem dJ2_getChar_3b067_6 : decode cJ2_getChar_3b067 6 = .ok (.iload_n 1, 1) := by decide +kernel
theorem dJ2_getChar_3b067_7 : decode cJ2_getChar_3b067 7 = .ok (.ifCond .lt 11, 3) := by decide +kernel
theorem dJ2_getChar_3b067_10 : decode cJ2_getChar_3b067 10 = .ok (.iload_n 1, 1) := by decide +kernel
theorem dJ2_getChar_3b067_11 : decode cJ2_getChar_3b067 11 = .ok (.aload_n 0, 1) := by decide +kernel
theorem dJ2_getChar_3b067_12 : decode cJ2_getChar_3b067 12 = .ok (.invokestatic 48, 3) := by decide +kernel
theorem dJ2_getChar_3b067_15 : decode cJ2_getChar_3b067 15 = .ok (.if_icmp .lt 13, 3) := by decide +kernel
theorem dJ2_getChar_3b067_18 : decode cJ2_getChar_3b067 18 = .ok (.new 52, 3) := by decide +kernel
theorem dJ2_getChar_3b067_21 : decode cJ2_getChar_3b067 21 = .ok (.dup, 1) := by decide +kernel
theorem dJ2_getChar_3b067_22 : decode cJ2_getChar_3b067 22 = .ok (.ldc 54, 2) := by decide +kernel
theorem dJ2_getChar_3b067_24 : decode cJ2_getChar_3b067 24 = .ok (.invokespecial 56, 3) := by decide +kernel
theorem dJ2_getChar_3b067_27 : decode cJ2_getChar_3b067 27 = .ok (.athrow, 1) := by decide +kernel
theorem dJ2_getChar_3b067_28 : decode cJ2_getChar_3b067 28 = .ok (.iload_n 1, 1) := by decide +kernel
theorem dJ2_getChar_3b067_29 : decode cJ2_getChar_3b067 29 = .ok (.iconst 1, 1) := by decide +kernel
theorem dJ2_getChar_3b067_30 : decode cJ2_getChar_3b067 30 = .ok (.ishl, 1) := by decide +kernel
theorem dJ2_getChar_3b067_31 : decode cJ2_getChar_3b067 31 = .ok (.istore_n 1, 1) := by decide +kernel
theorem dJ2_getChar_3b067_32 : decode cJ2_getChar_3b067 32 = .ok (.aload_n 0, 1) := by decide +kernel
theorem dJ2_getChar_3b067_33 : decode cJ2_getChar_3b067 33 = .ok (.iload_n 1, 1) := by decide +kernel
theorem dJ2_getChar_3b067_34 : decode cJ2_getChar_3b067 34 = .ok (.iinc 1 1, 3) := by decide +kernel
theorem dJ2_getChar_3b067_37 : decode cJ2_getChar_3b067 37 = .ok (.baload, 1) := by decide +kernel
theorem dJ2_getChar_3b067_38 : decode cJ2_getChar_3b067 38 = .ok (.sipush 255, 3) := by decide +kernel
theorem dJ2_getChar_3b067_41 : decode cJ2_getChar_3b067 41 = .ok (.iand, 1) := by decide +kernel
theorem dJ2_getChar_3b067_42 : decode cJ2_getChar_3b067 42 = .ok (.getstatic 59, 3) := by decide +kernel
theorem dJ2_getChar_3b067_45 : decode cJ2_getChar_3b067 45 = .ok (.ishl, 1) := by decide +kernel
theorem dJ2_getChar_3b067_46 : decode cJ2_getChar_3b067 46 = .ok (.aload_n 0, 1) := by decide +kernel
theorem dJ2_getChar_3b067_47 : decode cJ2_getChar_3b067 47 = .ok (.iload_n 1, 1) := by decide +kernel
theorem dJ2_getChar_3b067_48 : decode cJ2_getChar_3b067 48 = .ok (.baload, 1) := by decide +kernel
theorem dJ2_getChar_3b067_49 : decode cJ2_getChar_3b067 49 = .ok (.sipush 255, 3) := by decide +kernel
theorem dJ2_getChar_3b067_52 : decode cJ2_getChar_3b067 52 = .ok (.iand, 1) := by decide +kernel
theorem dJ2_getChar_3b067_53 : decode cJ2_getChar_3b067 53 = .ok (.getstatic 63, 3) := by decide +kernel
theorem dJ2_getChar_3b067_56 : decode cJ2_getChar_3b067 56 = .ok (.ishl, 1) := by decide +kernel
theorem dJ2_getChar_3b067_57 : decode cJ2_getChar_3b067 57 = .ok (.ior, 1) := by decide +kernel
theorem dJ2_getChar_3b067_58 : decode cJ2_getChar_3b067 58 = .ok (.i2c, 1) := by decide +kernel
theorem dJ2_getChar_3b067_59 : decode cJ2_getChar_3b067 59 = .ok (.ireturn, 1) := by decide +kernel
theorem dJ2_length_9d52b_0 : decode cJ2_length_9d52b 0 = .ok (.aload_n 0, 1) := by decide +kernel
theorem dJ2_length_9d52b_1 : decode cJ2_length_9d52b 1 = .ok (.arraylength, 1) := by decide +kernel
theorem dJ2_length_9d52b_2 : decode cJ2_length_9d52b 2 = .ok (.iconst 1, 1) := by decide +kernel
theorem dJ2_length_9d52b_3 : decode cJ2_length_9d52b 3 = .ok (.ishr, 1) := by decide +kernel
theorem dJ2_length_9d52b_4 : decode cJ2_length_9d52b 4 = .ok (.ireturn, 1) := by decide +kernel
theorem dJ2_charAt_3b067_0 : decode cJ2_charAt_3b067 0 = .ok (.iload_n 1, 1) := by decide +kernel
theorem dJ2_charAt_3b067_1 : decode cJ2_charAt_3b067 1 = .ok (.aload_n 0, 1) := by decide +kernel
theorem dJ2_charAt_3b067_2 : decode cJ2_charAt_3b067 2 = .ok (.invokestatic 67, 3) := by decide +kernel
theorem dJ2_charAt_3b067_5 : decode cJ2_charAt_3b067 5 = .ok (.aload_n 0, 1) := by decide +kernel
theorem dJ2_charAt_3b067_6 : decode cJ2_charAt_3b067 6 = .ok (.iload_n 1, 1) := by decide +kernel
theorem dJ2_charAt_3b067_7 : decode cJ2_charAt_3b067 7 = .ok (.invokestatic 71, 3) := by decide +kernel
theorem dJ2_charAt_3b067_10 : decode cJ2_charAt_3b067 10 = .ok (.ireturn, 1) := by decide +kernel
theorem dJ2_checkIndex_2214a_0 : decode cJ2_checkIndex_2214a 0 = .ok (.iload_n 0, 1) := by decide +kernel
theorem dJ2_checkIndex_2214a_1 : decode cJ2_checkIndex_2214a 1 = .ok (.aload_n 1, 1) := by decide +kernel
theorem dJ2_checkIndex_2214a_2 : decode cJ2_checkIndex_2214a 2 = .ok (.invokestatic 48, 3) := by decide +kernel
theorem dJ2_checkIndex_2214a_5 : decode cJ2_checkIndex_2214a 5 = .ok (.invokestatic 414, 3) := by decide +kernel
theorem dJ2_checkIndex_2214a_8 : decode cJ2_checkIndex_2214a 8 = .ok (.return_, 1) := by decide +kernel
theorem dJ7_fill_53178_0 : decode cJ7_fill_53178 0 = .ok (.iconst 0, 1) := by decide +kernel
theorem dJ7_fill_53178_1 : decode cJ7_fill_53178 1 = .ok (.istore_n 2, 1) := by decide +kernel
theorem dJ7_fill_53178_2 : decode cJ7_fill_53178 2 = .ok (.aload_n 0, 1) := by decide +kernel
theorem dJ7_fill_53178_3 : decode cJ7_fill_53178 3 = .ok (.arraylength, 1) := by decide +kernel
theorem dJ7_fill_53178_4 : decode cJ7_fill_53178 4 = .ok (.istore_n 3, 1) := by decide +kernel
theorem dJ7_fill_53178_5 : decode cJ7_fill_53178 5 = .ok (.iload_n 2, 1) := by decide +kernel
theorem dJ7_fill_53178_6 : decode cJ7_fill_53178 6 = .ok (.iload_n 3, 1) := by decide +kernel
theorem dJ7_fill_53178_7 : decode cJ7_fill_53178 7 = .ok (.if_icmp .ge 13, 3) := by decide +kernel
theorem dJ7_fill_53178_10 : decode cJ7_fill_53178 10 = .ok (.aload_n 0, 1) := by decide +kernel
theorem dJ7_fill_53178_11 : decode cJ7_fill_53178 11 = .ok (.iload_n 2, 1) := by decide +kernel
theorem dJ7_fill_53178_12 : decode cJ7_fill_53178 12 = .ok (.iload_n 1, 1) := by decide +kernel
theorem dJ7_fill_53178_13 : decode cJ7_fill_53178 13 = .ok (.iastore, 1) := by decide +kernel
theorem dJ7_fill_53178_14 : decode cJ7_fill_53178 14 = .ok (.iinc 2 1, 3) := by decide +kernel
theorem dJ7_fill_53178_17 : decode cJ7_fill_53178 17 = .ok (.goto (-12), 3) := by decide +kernel
theorem dJ7_fill_53178_20 : decode cJ7_fill_53178 20 = .ok (.return_, 1) := by decide +kernel
theorem dJ3_checkIndex_8e157_0 : decode cJ3_checkIndex_8e157 0 = .ok (.iload_n 0, 1) := by decide +kernel
theorem dJ3_checkIndex_8e157_1 : decode cJ3_checkIndex_8e157 1 = .ok (.ifCond .lt 8, 3) := by decide +kernel
theorem dJ3_checkIndex_8e157_4 : decode cJ3_checkIndex_8e157 4 = .ok (.iload_n 0, 1) := by decide +kernel
theorem dJ3_checkIndex_8e157_5 : decode cJ3_checkIndex_8e157 5 = .ok (.iload_n 1, 1) := by decide +kernel
theorem dJ3_checkIndex_8e157_6 : decode cJ3_checkIndex_8e157 6 = .ok (.if_icmp .lt 10, 3) := by decide +kernel
theorem dJ3_checkIndex_8e157_9 : decode cJ3_checkIndex_8e157 9 = .ok (.aload_n 2, 1) := by decide +kernel
theorem dJ3_checkIndex_8e157_10 : decode cJ3_checkIndex_8e157 10 = .ok (.iload_n 0, 1) := by decide +kernel
theorem dJ3_checkIndex_8e157_11 : decode cJ3_checkIndex_8e157 11 = .ok (.iload_n 1, 1) := by decide +kernel
theorem dJ3_checkIndex_8e157_12 : decode cJ3_checkIndex_8e157 12 = .ok (.invokestatic 95, 3) := by decide +kernel
theorem dJ3_checkIndex_8e157_15 : decode cJ3_checkIndex_8e157 15 = .ok (.athrow, 1) := by decide +kernel
theorem dJ3_checkIndex_8e157_16 : decode cJ3_checkIndex_8e157 16 = .ok (.iload_n 0, 1) := by decide +kernel
theorem dJ3_checkIndex_8e157_17 : decode cJ3_checkIndex_8e157 17 = .ok (.ireturn, 1) := by decide +kernel
theorem dL_law_0 : decode cL_law 0 = .ok (.new 7, 3) := by decide +kernel
theorem dL_law_3 : decode cL_law 3 = .ok (.dup, 1) := by decide +kernel
theorem dL_law_4 : decode cL_law 4 = .ok (.invokespecial 9, 3) := by decide +kernel
theorem dL_law_7 : decode cL_law 7 = .ok (.astore_n 1, 1) := by decide +kernel
theorem dL_law_8 : decode cL_law 8 = .ok (.new 10, 3) := by decide +kernel
theorem dL_law_11 : decode cL_law 11 = .ok (.dup, 1) := by decide +kernel
theorem dL_law_12 : decode cL_law 12 = .ok (.invokespecial 12, 3) := by decide +kernel
theorem dL_law_15 : decode cL_law 15 = .ok (.astore_n 2, 1) := by decide +kernel
theorem dL_law_16 : decode cL_law 16 = .ok (.iconst 0, 1) := by decide +kernel
theorem dL_law_17 : decode cL_law 17 = .ok (.istore_n 3, 1) := by decide +kernel
theorem dL_law_18 : decode cL_law 18 = .ok (.iload_n 3, 1) := by decide +kernel
theorem dL_law_19 : decode cL_law 19 = .ok (.aload_n 0, 1) := by decide +kernel
theorem dL_law_20 : decode cL_law 20 = .ok (.arraylength, 1) := by decide +kernel
theorem dL_law_21 : decode cL_law 21 = .ok (.iconst 5, 1) := by decide +kernel
theorem dL_law_22 : decode cL_law 22 = .ok (.isub, 1) := by decide +kernel
theorem dL_law_23 : decode cL_law 23 = .ok (.if_icmp .gt 1123, 3) := by decide +kernel
theorem dL_law_26 : decode cL_law 26 = .ok (.aload_n 0, 1) := by decide +kernel
theorem dL_law_27 : decode cL_law 27 = .ok (.iload_n 3, 1) := by decide +kernel
theorem dL_law_28 : decode cL_law 28 = .ok (.iaload, 1) := by decide +kernel
theorem dL_law_29 : decode cL_law 29 = .ok (.bipush 63, 2) := by decide +kernel
theorem dL_law_31 : decode cL_law 31 = .ok (.iand, 1) := by decide +kernel
theorem dL_law_32 : decode cL_law 32 = .ok (.tableswitch 1108 0 35 #[160, 183, 196, 209, 222, 255, 288, 311, 344, 377, 410, 433, 446, 469, 492, 505, 538, 571, 594, 607, 620, 643, 666, 709, 752, 785, 808, 851, 884, 907, 960, 973, 996, 1029, 1052, 1085], 160) := by decide +kernel
theorem dL_law_192 : decode cL_law 192 = .ok (.aload_n 1, 1) := by decide +kernel
theorem dL_law_193 : decode cL_law 193 = .ok (.aload_n 0, 1) := by decide +kernel
theorem dL_law_194 : decode cL_law 194 = .ok (.iload_n 3, 1) := by decide +kernel
theorem dL_law_195 : decode cL_law 195 = .ok (.iconst 1, 1) := by decide +kernel
theorem dL_law_196 : decode cL_law 196 = .ok (.iadd, 1) := by decide +kernel
theorem dL_law_197 : decode cL_law 197 = .ok (.iaload, 1) := by decide +kernel
theorem dL_law_198 : decode cL_law 198 = .ok (.invokevirtual 13, 3) := by decide +kernel
theorem dL_law_201 : decode cL_law 201 = .ok (.aload_n 2, 1) := by decide +kernel
theorem dL_law_202 : decode cL_law 202 = .ok (.aload_n 0, 1) := by decide +kernel
theorem dL_law_203 : decode cL_law 203 = .ok (.iload_n 3, 1) := by decide +kernel
theorem dL_law_204 : decode cL_law 204 = .ok (.iconst 1, 1) := by decide +kernel
theorem dL_law_205 : decode cL_law 205 = .ok (.iadd, 1) := by decide +kernel
theorem dL_law_206 : decode cL_law 206 = .ok (.iaload, 1) := by decide +kernel
theorem dL_law_207 : decode cL_law 207 = .ok (.invokevirtual 17, 3) := by decide +kernel
theorem dL_law_210 : decode cL_law 210 = .ok (.if_icmp .eq 930, 3) := by decide +kernel
theorem dL_law_213 : decode cL_law 213 = .ok (.iconst 0, 1) := by decide +kernel
theorem dL_law_214 : decode cL_law 214 = .ok (.ireturn, 1) := by decide +kernel
theorem dL_law_215 : decode cL_law 215 = .ok (.aload_n 1, 1) := by decide +kernel
theorem dL_law_216 : decode cL_law 216 = .ok (.invokevirtual 18, 3) := by decide +kernel
theorem dL_law_219 : decode cL_law 219 = .ok (.aload_n 2, 1) := by decide +kernel
theorem dL_law_220 : decode cL_law 220 = .ok (.invokevirtual 22, 3) := by decide +kernel
theorem dL_law_223 : decode cL_law 223 = .ok (.if_icmp .eq 917, 3) := by decide +kernel
theorem dL_law_226 : decode cL_law 226 = .ok (.iconst 0, 1) := by decide +kernel
theorem dL_law_227 : decode cL_law 227 = .ok (.ireturn, 1) := by decide +kernel
theorem dL_law_228 : decode cL_law 228 = .ok (.aload_n 1, 1) := by decide +kernel
theorem dL_law_229 : decode cL_law 229 = .ok (.invokevirtual 23, 3) := by decide +kernel
theorem dL_law_232 : decode cL_law 232 = .ok (.aload_n 2, 1) := by decide +kernel
theorem dL_law_233 : decode cL_law 233 = .ok (.invokevirtual 26, 3) := by decide +kernel
theorem dL_law_236 : decode cL_law 236 = .ok (.if_icmp .eq 904, 3) := by decide +kernel
theorem dL_law_239 : decode cL_law 239 = .ok (.iconst 0, 1) := by decide +kernel
theorem dL_law_240 : decode cL_law 240 = .ok (.ireturn, 1) := by decide +kernel
theorem dL_law_241 : decode cL_law 241 = .ok (.aload_n 1, 1) := by decide +kernel
theorem dL_law_242 : decode cL_law 242 = .ok (.invokevirtual 27, 3) := by decide +kernel
theorem dL_law_245 : decode cL_law 245 = .ok (.aload_n 2, 1) := by decide +kernel
theorem dL_law_246 : decode cL_law 246 = .ok (.invokevirtual 30, 3) := by decide +kernel
theorem dL_law_249 : decode cL_law 249 = .ok (.if_icmp .eq 891, 3) := by decide +kernel
theorem dL_law_252 : decode cL_law 252 = .ok (.iconst 0, 1) := by decide +kernel
theorem dL_law_253 : decode cL_law 253 = .ok (.ireturn, 1) := by decide +kernel
theorem dL_law_254 : decode cL_law 254 = .ok (.aload_n 1, 1) := by decide +kernel
theorem dL_law_255 : decode cL_law 255 = .ok (.aload_n 0, 1) := by decide +kernel
theorem dL_law_256 : decode cL_law 256 = .ok (.iload_n 3, 1) := by decide +kernel
theorem dL_law_257 : decode cL_law 257 = .ok (.iconst 1, 1) := by decide +kernel
theorem dL_law_258 : decode cL_law 258 = .ok (.iadd, 1) := by decide +kernel
theorem dL_law_259 : decode cL_law 259 = .ok (.iaload, 1) := by decide +kernel
theorem dL_law_260 : decode cL_law 260 = .ok (.aload_n 0, 1) := by decide +kernel
theorem dL_law_261 : decode cL_law 261 = .ok (.iload_n 3, 1) := by decide +kernel
theorem dL_law_262 : decode cL_law 262 = .ok (.iconst 2, 1) := by decide +kernel
theorem dL_law_263 : decode cL_law 263 = .ok (.iadd, 1) := by decide +kernel
theorem dL_law_264 : decode cL_law 264 = .ok (.iaload, 1) := by decide +kernel
theorem dL_law_265 : decode cL_law 265 = .ok (.invokevirtual 31, 3) := by decide +kernel
theorem dL_law_268 : decode cL_law 268 = .ok (.aload_n 2, 1) := by decide +kernel
theorem dL_law_269 : decode cL_law 269 = .ok (.aload_n 0, 1) := by decide +kernel
theorem dL_law_270 : decode cL_law 270 = .ok (.iload_n 3, 1) := by decide +kernel
theorem dL_law_271 : decode cL_law 271 = .ok (.iconst 1, 1) := by decide +kernel
theorem dL_law_272 : decode cL_law 272 = .ok (.iadd, 1) := by decide +kernel
theorem dL_law_273 : decode cL_law 273 = .ok (.iaload, 1) := by decide +kernel
theorem dL_law_274 : decode cL_law 274 = .ok (.aload_n 0, 1) := by decide +kernel
theorem dL_law_275 : decode cL_law 275 = .ok (.iload_n 3, 1) := by decide +kernel
theorem dL_law_276 : decode cL_law 276 = .ok (.iconst 2, 1) := by decide +kernel
theorem dL_law_277 : decode cL_law 277 = .ok (.iadd, 1) := by decide +kernel
theorem dL_law_278 : decode cL_law 278 = .ok (.iaload, 1) := by decide +kernel
theorem dL_law_279 : decode cL_law 279 = .ok (.invokevirtual 35, 3) := by decide +kernel
theorem dL_law_282 : decode cL_law 282 = .ok (.if_icmp .eq 858, 3) := by decide +kernel
theorem dL_law_285 : decode cL_law 285 = .ok (.iconst 0, 1) := by decide +kernel
theorem dL_law_286 : decode cL_law 286 = .ok (.ireturn, 1) := by decide +kernel
theorem dL_law_287 : decode cL_law 287 = .ok (.aload_n 1, 1) := by decide +kernel
theorem dL_law_288 : decode cL_law 288 = .ok (.aload_n 0, 1) := by decide +kernel
theorem dL_law_289 : decode cL_law 289 = .ok (.iload_n 3, 1) := by decide +kernel
theorem dL_law_290 : decode cL_law 290 = .ok (.iconst 1, 1) := by decide +kernel
theorem dL_law_291 : decode cL_law 291 = .ok (.iadd, 1) := by decide +kernel
theorem dL_law_292 : decode cL_law 292 = .ok (.iaload, 1) := by decide +kernel
theorem dL_law_293 : decode cL_law 293 = .ok (.aload_n 0, 1) := by decide +kernel
theorem dL_law_294 : decode cL_law 294 = .ok (.iload_n 3, 1) := by decide +kernel
theorem dL_law_295 : decode cL_law 295 = .ok (.iconst 2, 1) := by decide +kernel
theorem dL_law_296 : decode cL_law 296 = .ok (.iadd, 1) := by decide +kernel
theorem dL_law_297 : decode cL_law 297 = .ok (.iaload, 1) := by decide +kernel
theorem dL_law_298 : decode cL_law 298 = .ok (.invokevirtual 36, 3) := by decide +kernel
theorem dL_law_301 : decode cL_law 301 = .ok (.aload_n 2, 1) := by decide +kernel
theorem dL_law_302 : decode cL_law 302 = .ok (.aload_n 0, 1) := by decide +kernel
theorem dL_law_303 : decode cL_law 303 = .ok (.iload_n 3, 1) := by decide +kernel
theorem dL_law_304 : decode cL_law 304 = .ok (.iconst 1, 1) := by decide +kernel
theorem dL_law_305 : decode cL_law 305 = .ok (.iadd, 1) := by decide +kernel
theorem dL_law_306 : decode cL_law 306 = .ok (.iaload, 1) := by decide +kernel
theorem dL_law_307 : decode cL_law 307 = .ok (.aload_n 0, 1) := by decide +kernel
theorem dL_law_308 : decode cL_law 308 = .ok (.iload_n 3, 1) := by decide +kernel
theorem dL_law_309 : decode cL_law 309 = .ok (.iconst 2, 1) := by decide +kernel
theorem dL_law_310 : decode cL_law 310 = .ok (.iadd, 1) := by decide +kernel
theorem dL_law_311 : decode cL_law 311 = .ok (.iaload, 1) := by decide +kernel
theorem dL_law_312 : decode cL_law 312 = .ok (.invokevirtual 39, 3) := by decide +kernel
theorem dL_law_315 : decode cL_law 315 = .ok (.if_icmp .eq 825, 3) := by decide +kernel
theorem dL_law_318 : decode cL_law 318 = .ok (.iconst 0, 1) := by decide +kernel
theorem dL_law_319 : decode cL_law 319 = .ok (.ireturn, 1) := by decide +kernel
theorem dL_law_320 : decode cL_law 320 = .ok (.aload_n 1, 1) := by decide +kernel
theorem dL_law_321 : decode cL_law 321 = .ok (.aload_n 0, 1) := by decide +kernel
theorem dL_law_322 : decode cL_law 322 = .ok (.iload_n 3, 1) := by decide +kernel
theorem dL_law_323 : decode cL_law 323 = .ok (.iconst 1, 1) := by decide +kernel
theorem dL_law_324 : decode cL_law 324 = .ok (.iadd, 1) := by decide +kernel
theorem dL_law_325 : decode cL_law 325 = .ok (.iaload, 1) := by decide +kernel
theorem dL_law_326 : decode cL_law 326 = .ok (.invokevirtual 40, 3) := by decide +kernel
theorem dL_law_329 : decode cL_law 329 = .ok (.aload_n 2, 1) := by decide +kernel
theorem dL_law_330 : decode cL_law 330 = .ok (.aload_n 0, 1) := by decide +kernel
theorem dL_law_331 : decode cL_law 331 = .ok (.iload_n 3, 1) := by decide +kernel
theorem dL_law_332 : decode cL_law 332 = .ok (.iconst 1, 1) := by decide +kernel
theorem dL_law_333 : decode cL_law 333 = .ok (.iadd, 1) := by decide +kernel
theorem dL_law_334 : decode cL_law 334 = .ok (.iaload, 1) := by decide +kernel
theorem dL_law_335 : decode cL_law 335 = .ok (.invokevirtual 43, 3) := by decide +kernel
theorem dL_law_338 : decode cL_law 338 = .ok (.if_icmp .eq 802, 3) := by decide +kernel
theorem dL_law_341 : decode cL_law 341 = .ok (.iconst 0, 1) := by decide +kernel
theorem dL_law_342 : decode cL_law 342 = .ok (.ireturn, 1) := by decide +kernel
theorem dL_law_343 : decode cL_law 343 = .ok (.aload_n 1, 1) := by decide +kernel
theorem dL_law_344 : decode cL_law 344 = .ok (.aload_n 0, 1) := by decide +kernel
theorem dL_law_345 : decode cL_law 345 = .ok (.iload_n 3, 1) := by decide +kernel
theorem dL_law_346 : decode cL_law 346 = .ok (.iconst 1, 1) := by decide +kernel
theorem dL_law_347 : decode cL_law 347 = .ok (.iadd, 1) := by decide +kernel
theorem dL_law_348 : decode cL_law 348 = .ok (.iaload, 1) := by decide +kernel
theorem dL_law_349 : decode cL_law 349 = .ok (.aload_n 0, 1) := by decide +kernel
theorem dL_law_350 : decode cL_law 350 = .ok (.iload_n 3, 1) := by decide +kernel
theorem dL_law_351 : decode cL_law 351 = .ok (.iconst 2, 1) := by decide +kernel
theorem dL_law_352 : decode cL_law 352 = .ok (.iadd, 1) := by decide +kernel
theorem dL_law_353 : decode cL_law 353 = .ok (.iaload, 1) := by decide +kernel
theorem dL_law_354 : decode cL_law 354 = .ok (.invokevirtual 44, 3) := by decide +kernel
theorem dL_law_357 : decode cL_law 357 = .ok (.aload_n 2, 1) := by decide +kernel
theorem dL_law_358 : decode cL_law 358 = .ok (.aload_n 0, 1) := by decide +kernel
theorem dL_law_359 : decode cL_law 359 = .ok (.iload_n 3, 1) := by decide +kernel
theorem dL_law_360 : decode cL_law 360 = .ok (.iconst 1, 1) := by decide +kernel
theorem dL_law_361 : decode cL_law 361 = .ok (.iadd, 1) := by decide +kernel
theorem dL_law_362 : decode cL_law 362 = .ok (.iaload, 1) := by decide +kernel
theorem dL_law_363 : decode cL_law 363 = .ok (.aload_n 0, 1) := by decide +kernel
theorem dL_law_364 : decode cL_law 364 = .ok (.iload_n 3, 1) := by decide +kernel
theorem dL_law_365 : decode cL_law 365 = .ok (.iconst 2, 1) := by decide +kernel
theorem dL_law_366 : decode cL_law 366 = .ok (.iadd, 1) := by decide +kernel
theorem dL_law_367 : decode cL_law 367 = .ok (.iaload, 1) := by decide +kernel
theorem dL_law_368 : decode cL_law 368 = .ok (.invokevirtual 47, 3) := by decide +kernel
theorem dL_law_371 : decode cL_law 371 = .ok (.if_icmp .eq 769, 3) := by decide +kernel
theorem dL_law_374 : decode cL_law 374 = .ok (.iconst 0, 1) := by decide +kernel
theorem dL_law_375 : decode cL_law 375 = .ok (.ireturn, 1) := by decide +kernel
theorem dL_law_376 : decode cL_law 376 = .ok (.aload_n 1, 1) := by decide +kernel
theorem dL_law_377 : decode cL_law 377 = .ok (.aload_n 0, 1) := by decide +kernel
theorem dL_law_378 : decode cL_law 378 = .ok (.iload_n 3, 1) := by decide +kernel
theorem dL_law_379 : decode cL_law 379 = .ok (.iconst 1, 1) := by decide +kernel
theorem dL_law_380 : decode cL_law 380 = .ok (.iadd, 1) := by decide +kernel
theorem dL_law_381 : decode cL_law 381 = .ok (.iaload, 1) := by decide +kernel
theorem dL_law_382 : decode cL_law 382 = .ok (.aload_n 0, 1) := by decide +kernel
theorem dL_law_383 : decode cL_law 383 = .ok (.iload_n 3, 1) := by decide +kernel
theorem dL_law_384 : decode cL_law 384 = .ok (.iconst 2, 1) := by decide +kernel
theorem dL_law_385 : decode cL_law 385 = .ok (.iadd, 1) := by decide +kernel
theorem dL_law_386 : decode cL_law 386 = .ok (.iaload, 1) := by decide +kernel
theorem dL_law_387 : decode cL_law 387 = .ok (.invokevirtual 48, 3) := by decide +kernel
theorem dL_law_390 : decode cL_law 390 = .ok (.aload_n 2, 1) := by decide +kernel
theorem dL_law_391 : decode cL_law 391 = .ok (.aload_n 0, 1) := by decide +kernel
theorem dL_law_392 : decode cL_law 392 = .ok (.iload_n 3, 1) := by decide +kernel
theorem dL_law_393 : decode cL_law 393 = .ok (.iconst 1, 1) := by decide +kernel
theorem dL_law_394 : decode cL_law 394 = .ok (.iadd, 1) := by decide +kernel
theorem dL_law_395 : decode cL_law 395 = .ok (.iaload, 1) := by decide +kernel
theorem dL_law_396 : decode cL_law 396 = .ok (.aload_n 0, 1) := by decide +kernel
theorem dL_law_397 : decode cL_law 397 = .ok (.iload_n 3, 1) := by decide +kernel
theorem dL_law_398 : decode cL_law 398 = .ok (.iconst 2, 1) := by decide +kernel
theorem dL_law_399 : decode cL_law 399 = .ok (.iadd, 1) := by decide +kernel
theorem dL_law_400 : decode cL_law 400 = .ok (.iaload, 1) := by decide +kernel
theorem dL_law_401 : decode cL_law 401 = .ok (.invokevirtual 51, 3) := by decide +kernel
theorem dL_law_404 : decode cL_law 404 = .ok (.if_icmp .eq 736, 3) := by decide +kernel
theorem dL_law_407 : decode cL_law 407 = .ok (.iconst 0, 1) := by decide +kernel
theorem dL_law_408 : decode cL_law 408 = .ok (.ireturn, 1) := by decide +kernel
theorem dL_law_409 : decode cL_law 409 = .ok (.aload_n 1, 1) := by decide +kernel
theorem dL_law_410 : decode cL_law 410 = .ok (.aload_n 0, 1) := by decide +kernel
theorem dL_law_411 : decode cL_law 411 = .ok (.iload_n 3, 1) := by decide +kernel
theorem dL_law_412 : decode cL_law 412 = .ok (.iconst 1, 1) := by decide +kernel
theorem dL_law_413 : decode cL_law 413 = .ok (.iadd, 1) := by decide +kernel
theorem dL_law_414 : decode cL_law 414 = .ok (.iaload, 1) := by decide +kernel
theorem dL_law_415 : decode cL_law 415 = .ok (.aload_n 0, 1) := by decide +kernel
theorem dL_law_416 : decode cL_law 416 = .ok (.iload_n 3, 1) := by decide +kernel
theorem dL_law_417 : decode cL_law 417 = .ok (.iconst 2, 1) := by decide +kernel
theorem dL_law_418 : decode cL_law 418 = .ok (.iadd, 1) := by decide +kernel
theorem dL_law_419 : decode cL_law 419 = .ok (.iaload, 1) := by decide +kernel
theorem dL_law_420 : decode cL_law 420 = .ok (.invokevirtual 52, 3) := by decide +kernel
theorem dL_law_423 : decode cL_law 423 = .ok (.aload_n 2, 1) := by decide +kernel
theorem dL_law_424 : decode cL_law 424 = .ok (.aload_n 0, 1) := by decide +kernel
theorem dL_law_425 : decode cL_law 425 = .ok (.iload_n 3, 1) := by decide +kernel
theorem dL_law_426 : decode cL_law 426 = .ok (.iconst 1, 1) := by decide +kernel
theorem dL_law_427 : decode cL_law 427 = .ok (.iadd, 1) := by decide +kernel
theorem dL_law_428 : decode cL_law 428 = .ok (.iaload, 1) := by decide +kernel
theorem dL_law_429 : decode cL_law 429 = .ok (.aload_n 0, 1) := by decide +kernel
theorem dL_law_430 : decode cL_law 430 = .ok (.iload_n 3, 1) := by decide +kernel
theorem dL_law_431 : decode cL_law 431 = .ok (.iconst 2, 1) := by decide +kernel
theorem dL_law_432 : decode cL_law 432 = .ok (.iadd, 1) := by decide +kernel
theorem dL_law_433 : decode cL_law 433 = .ok (.iaload, 1) := by decide +kernel
theorem dL_law_434 : decode cL_law 434 = .ok (.invokevirtual 55, 3) := by decide +kernel
theorem dL_law_437 : decode cL_law 437 = .ok (.if_icmp .eq 703, 3) := by decide +kernel
theorem dL_law_440 : decode cL_law 440 = .ok (.iconst 0, 1) := by decide +kernel
theorem dL_law_441 : decode cL_law 441 = .ok (.ireturn, 1) := by decide +kernel
theorem dL_law_442 : decode cL_law 442 = .ok (.aload_n 1, 1) := by decide +kernel
theorem dL_law_443 : decode cL_law 443 = .ok (.aload_n 0, 1) := by decide +kernel
theorem dL_law_444 : decode cL_law 444 = .ok (.iload_n 3, 1) := by decide +kernel
theorem dL_law_445 : decode cL_law 445 = .ok (.iconst 1, 1) := by decide +kernel
theorem dL_law_446 : decode cL_law 446 = .ok (.iadd, 1) := by decide +kernel
theorem dL_law_447 : decode cL_law 447 = .ok (.iaload, 1) := by decide +kernel
theorem dL_law_448 : decode cL_law 448 = .ok (.invokevirtual 56, 3) := by decide +kernel
theorem dL_law_451 : decode cL_law 451 = .ok (.aload_n 2, 1) := by decide +kernel
theorem dL_law_452 : decode cL_law 452 = .ok (.aload_n 0, 1) := by decide +kernel
theorem dL_law_453 : decode cL_law 453 = .ok (.iload_n 3, 1) := by decide +kernel
theorem dL_law_454 : decode cL_law 454 = .ok (.iconst 1, 1) := by decide +kernel
theorem dL_law_455 : decode cL_law 455 = .ok (.iadd, 1) := by decide +kernel
theorem dL_law_456 : decode cL_law 456 = .ok (.iaload, 1) := by decide +kernel
theorem dL_law_457 : decode cL_law 457 = .ok (.invokevirtual 59, 3) := by decide +kernel
theorem dL_law_460 : decode cL_law 460 = .ok (.if_icmp .eq 680, 3) := by decide +kernel
theorem dL_law_463 : decode cL_law 463 = .ok (.iconst 0, 1) := by decide +kernel
theorem dL_law_464 : decode cL_law 464 = .ok (.ireturn, 1) := by decide +kernel
theorem dL_law_465 : decode cL_law 465 = .ok (.aload_n 1, 1) := by decide +kernel
theorem dL_law_466 : decode cL_law 466 = .ok (.invokevirtual 60, 3) := by decide +kernel
theorem dL_law_469 : decode cL_law 469 = .ok (.aload_n 2, 1) := by decide +kernel
theorem dL_law_470 : decode cL_law 470 = .ok (.invokevirtual 63, 3) := by decide +kernel
theorem dL_law_473 : decode cL_law 473 = .ok (.if_icmp .eq 667, 3) := by decide +kernel
theorem dL_law_476 : decode cL_law 476 = .ok (.iconst 0, 1) := by decide +kernel
theorem dL_law_477 : decode cL_law 477 = .ok (.ireturn, 1) := by decide +kernel
theorem dL_law_478 : decode cL_law 478 = .ok (.aload_n 1, 1) := by decide +kernel
theorem dL_law_479 : decode cL_law 479 = .ok (.aload_n 0, 1) := by decide +kernel
theorem dL_law_480 : decode cL_law 480 = .ok (.iload_n 3, 1) := by decide +kernel
theorem dL_law_481 : decode cL_law 481 = .ok (.iconst 1, 1) := by decide +kernel
theorem dL_law_482 : decode cL_law 482 = .ok (.iadd, 1) := by decide +kernel
theorem dL_law_483 : decode cL_law 483 = .ok (.iaload, 1) := by decide +kernel
theorem dL_law_484 : decode cL_law 484 = .ok (.invokevirtual 64, 3) := by decide +kernel
theorem dL_law_487 : decode cL_law 487 = .ok (.aload_n 2, 1) := by decide +kernel
theorem dL_law_488 : decode cL_law 488 = .ok (.aload_n 0, 1) := by decide +kernel
theorem dL_law_489 : decode cL_law 489 = .ok (.iload_n 3, 1) := by decide +kernel
theorem dL_law_490 : decode cL_law 490 = .ok (.iconst 1, 1) := by decide +kernel
theorem dL_law_491 : decode cL_law 491 = .ok (.iadd, 1) := by decide +kernel
theorem dL_law_492 : decode cL_law 492 = .ok (.iaload, 1) := by decide +kernel
theorem dL_law_493 : decode cL_law 493 = .ok (.invokevirtual 67, 3) := by decide +kernel
theorem dL_law_496 : decode cL_law 496 = .ok (.if_icmp .eq 644, 3) := by decide +kernel
theorem dL_law_499 : decode cL_law 499 = .ok (.iconst 0, 1) := by decide +kernel
theorem dL_law_500 : decode cL_law 500 = .ok (.ireturn, 1) := by decide +kernel
theorem dL_law_501 : decode cL_law 501 = .ok (.aload_n 1, 1) := by decide +kernel
theorem dL_law_502 : decode cL_law 502 = .ok (.aload_n 0, 1) := by decide +kernel
theorem dL_law_503 : decode cL_law 503 = .ok (.iload_n 3, 1) := by decide +kernel
theorem dL_law_504 : decode cL_law 504 = .ok (.iconst 1, 1) := by decide +kernel
theorem dL_law_505 : decode cL_law 505 = .ok (.iadd, 1) := by decide +kernel
theorem dL_law_506 : decode cL_law 506 = .ok (.iaload, 1) := by decide +kernel
theorem dL_law_507 : decode cL_law 507 = .ok (.invokevirtual 68, 3) := by decide +kernel
theorem dL_law_510 : decode cL_law 510 = .ok (.aload_n 2, 1) := by decide +kernel
theorem dL_law_511 : decode cL_law 511 = .ok (.aload_n 0, 1) := by decide +kernel
theorem dL_law_512 : decode cL_law 512 = .ok (.iload_n 3, 1) := by decide +kernel
theorem dL_law_513 : decode cL_law 513 = .ok (.iconst 1, 1) := by decide +kernel
theorem dL_law_514 : decode cL_law 514 = .ok (.iadd, 1) := by decide +kernel
theorem dL_law_515 : decode cL_law 515 = .ok (.iaload, 1) := by decide +kernel
theorem dL_law_516 : decode cL_law 516 = .ok (.invokevirtual 71, 3) := by decide +kernel
theorem dL_law_519 : decode cL_law 519 = .ok (.if_icmp .eq 621, 3) := by decide +kernel
theorem dL_law_522 : decode cL_law 522 = .ok (.iconst 0, 1) := by decide +kernel
theorem dL_law_523 : decode cL_law 523 = .ok (.ireturn, 1) := by decide +kernel
theorem dL_law_524 : decode cL_law 524 = .ok (.aload_n 1, 1) := by decide +kernel
theorem dL_law_525 : decode cL_law 525 = .ok (.invokevirtual 72, 3) := by decide +kernel
theorem dL_law_528 : decode cL_law 528 = .ok (.aload_n 2, 1) := by decide +kernel
theorem dL_law_529 : decode cL_law 529 = .ok (.invokevirtual 75, 3) := by decide +kernel
theorem dL_law_532 : decode cL_law 532 = .ok (.if_icmp .eq 608, 3) := by decide +kernel
theorem dL_law_535 : decode cL_law 535 = .ok (.iconst 0, 1) := by decide +kernel
theorem dL_law_536 : decode cL_law 536 = .ok (.ireturn, 1) := by decide +kernel
theorem dL_law_537 : decode cL_law 537 = .ok (.aload_n 1, 1) := by decide +kernel
theorem dL_law_538 : decode cL_law 538 = .ok (.aload_n 0, 1) := by decide +kernel
theorem dL_law_539 : decode cL_law 539 = .ok (.iload_n 3, 1) := by decide +kernel
theorem dL_law_540 : decode cL_law 540 = .ok (.iconst 1, 1) := by decide +kernel
theorem dL_law_541 : decode cL_law 541 = .ok (.iadd, 1) := by decide +kernel
theorem dL_law_542 : decode cL_law 542 = .ok (.iaload, 1) := by decide +kernel
theorem dL_law_543 : decode cL_law 543 = .ok (.aload_n 0, 1) := by decide +kernel
theorem dL_law_544 : decode cL_law 544 = .ok (.iload_n 3, 1) := by decide +kernel
theorem dL_law_545 : decode cL_law 545 = .ok (.iconst 2, 1) := by decide +kernel
theorem dL_law_546 : decode cL_law 546 = .ok (.iadd, 1) := by decide +kernel
theorem dL_law_547 : decode cL_law 547 = .ok (.iaload, 1) := by decide +kernel
theorem dL_law_548 : decode cL_law 548 = .ok (.invokevirtual 76, 3) := by decide +kernel
theorem dL_law_551 : decode cL_law 551 = .ok (.aload_n 2, 1) := by decide +kernel
theorem dL_law_552 : decode cL_law 552 = .ok (.aload_n 0, 1) := by decide +kernel
theorem dL_law_553 : decode cL_law 553 = .ok (.iload_n 3, 1) := by decide +kernel
theorem dL_law_554 : decode cL_law 554 = .ok (.iconst 1, 1) := by decide +kernel
theorem dL_law_555 : decode cL_law 555 = .ok (.iadd, 1) := by decide +kernel
theorem dL_law_556 : decode cL_law 556 = .ok (.iaload, 1) := by decide +kernel
theorem dL_law_557 : decode cL_law 557 = .ok (.aload_n 0, 1) := by decide +kernel
theorem dL_law_558 : decode cL_law 558 = .ok (.iload_n 3, 1) := by decide +kernel
theorem dL_law_559 : decode cL_law 559 = .ok (.iconst 2, 1) := by decide +kernel
theorem dL_law_560 : decode cL_law 560 = .ok (.iadd, 1) := by decide +kernel
theorem dL_law_561 : decode cL_law 561 = .ok (.iaload, 1) := by decide +kernel
theorem dL_law_562 : decode cL_law 562 = .ok (.invokevirtual 79, 3) := by decide +kernel
theorem dL_law_565 : decode cL_law 565 = .ok (.if_icmp .eq 575, 3) := by decide +kernel
theorem dL_law_568 : decode cL_law 568 = .ok (.iconst 0, 1) := by decide +kernel
theorem dL_law_569 : decode cL_law 569 = .ok (.ireturn, 1) := by decide +kernel
theorem dL_law_570 : decode cL_law 570 = .ok (.aload_n 1, 1) := by decide +kernel
theorem dL_law_571 : decode cL_law 571 = .ok (.aload_n 0, 1) := by decide +kernel
theorem dL_law_572 : decode cL_law 572 = .ok (.iload_n 3, 1) := by decide +kernel
theorem dL_law_573 : decode cL_law 573 = .ok (.iconst 1, 1) := by decide +kernel
theorem dL_law_574 : decode cL_law 574 = .ok (.iadd, 1) := by decide +kernel
theorem dL_law_575 : decode cL_law 575 = .ok (.iaload, 1) := by decide +kernel
theorem dL_law_576 : decode cL_law 576 = .ok (.aload_n 0, 1) := by decide +kernel
theorem dL_law_577 : decode cL_law 577 = .ok (.iload_n 3, 1) := by decide +kernel
theorem dL_law_578 : decode cL_law 578 = .ok (.iconst 2, 1) := by decide +kernel
theorem dL_law_579 : decode cL_law 579 = .ok (.iadd, 1) := by decide +kernel
theorem dL_law_580 : decode cL_law 580 = .ok (.iaload, 1) := by decide +kernel
theorem dL_law_581 : decode cL_law 581 = .ok (.invokevirtual 80, 3) := by decide +kernel
theorem dL_law_584 : decode cL_law 584 = .ok (.aload_n 2, 1) := by decide +kernel
theorem dL_law_585 : decode cL_law 585 = .ok (.aload_n 0, 1) := by decide +kernel
theorem dL_law_586 : decode cL_law 586 = .ok (.iload_n 3, 1) := by decide +kernel
theorem dL_law_587 : decode cL_law 587 = .ok (.iconst 1, 1) := by decide +kernel
theorem dL_law_588 : decode cL_law 588 = .ok (.iadd, 1) := by decide +kernel
theorem dL_law_589 : decode cL_law 589 = .ok (.iaload, 1) := by decide +kernel
theorem dL_law_590 : decode cL_law 590 = .ok (.aload_n 0, 1) := by decide +kernel
theorem dL_law_591 : decode cL_law 591 = .ok (.iload_n 3, 1) := by decide +kernel
theorem dL_law_592 : decode cL_law 592 = .ok (.iconst 2, 1) := by decide +kernel
theorem dL_law_593 : decode cL_law 593 = .ok (.iadd, 1) := by decide +kernel
theorem dL_law_594 : decode cL_law 594 = .ok (.iaload, 1) := by decide +kernel
theorem dL_law_595 : decode cL_law 595 = .ok (.invokevirtual 83, 3) := by decide +kernel
theorem dL_law_598 : decode cL_law 598 = .ok (.if_icmp .eq 542, 3) := by decide +kernel
theorem dL_law_601 : decode cL_law 601 = .ok (.iconst 0, 1) := by decide +kernel
theorem dL_law_602 : decode cL_law 602 = .ok (.ireturn, 1) := by decide +kernel
theorem dL_law_603 : decode cL_law 603 = .ok (.aload_n 1, 1) := by decide +kernel
theorem dL_law_604 : decode cL_law 604 = .ok (.aload_n 0, 1) := by decide +kernel
theorem dL_law_605 : decode cL_law 605 = .ok (.iload_n 3, 1) := by decide +kernel
theorem dL_law_606 : decode cL_law 606 = .ok (.iconst 1, 1) := by decide +kernel
theorem dL_law_607 : decode cL_law 607 = .ok (.iadd, 1) := by decide +kernel
theorem dL_law_608 : decode cL_law 608 = .ok (.iaload, 1) := by decide +kernel
theorem dL_law_609 : decode cL_law 609 = .ok (.invokevirtual 84, 3) := by decide +kernel
theorem dL_law_612 : decode cL_law 612 = .ok (.aload_n 2, 1) := by decide +kernel
theorem dL_law_613 : decode cL_law 613 = .ok (.aload_n 0, 1) := by decide +kernel
theorem dL_law_614 : decode cL_law 614 = .ok (.iload_n 3, 1) := by decide +kernel
theorem dL_law_615 : decode cL_law 615 = .ok (.iconst 1, 1) := by decide +kernel
theorem dL_law_616 : decode cL_law 616 = .ok (.iadd, 1) := by decide +kernel
theorem dL_law_617 : decode cL_law 617 = .ok (.iaload, 1) := by decide +kernel
theorem dL_law_618 : decode cL_law 618 = .ok (.invokevirtual 87, 3) := by decide +kernel
theorem dL_law_621 : decode cL_law 621 = .ok (.if_icmp .eq 519, 3) := by decide +kernel
theorem dL_law_624 : decode cL_law 624 = .ok (.iconst 0, 1) := by decide +kernel
theorem dL_law_625 : decode cL_law 625 = .ok (.ireturn, 1) := by decide +kernel
theorem dL_law_626 : decode cL_law 626 = .ok (.aload_n 1, 1) := by decide +kernel
theorem dL_law_627 : decode cL_law 627 = .ok (.invokevirtual 88, 3) := by decide +kernel
theorem dL_law_630 : decode cL_law 630 = .ok (.aload_n 2, 1) := by decide +kernel
theorem dL_law_631 : decode cL_law 631 = .ok (.invokevirtual 91, 3) := by decide +kernel
theorem dL_law_634 : decode cL_law 634 = .ok (.if_icmp .eq 506, 3) := by decide +kernel
theorem dL_law_637 : decode cL_law 637 = .ok (.iconst 0, 1) := by decide +kernel
theorem dL_law_638 : decode cL_law 638 = .ok (.ireturn, 1) := by decide +kernel
theorem dL_law_639 : decode cL_law 639 = .ok (.aload_n 1, 1) := by decide +kernel
theorem dL_law_640 : decode cL_law 640 = .ok (.invokevirtual 92, 3) := by decide +kernel
theorem dL_law_643 : decode cL_law 643 = .ok (.aload_n 2, 1) := by decide +kernel
theorem dL_law_644 : decode cL_law 644 = .ok (.invokevirtual 95, 3) := by decide +kernel
theorem dL_law_647 : decode cL_law 647 = .ok (.if_icmp .eq 493, 3) := by decide +kernel
theorem dL_law_650 : decode cL_law 650 = .ok (.iconst 0, 1) := by decide +kernel
theorem dL_law_651 : decode cL_law 651 = .ok (.ireturn, 1) := by decide +kernel
theorem dL_law_652 : decode cL_law 652 = .ok (.aload_n 1, 1) := by decide +kernel
theorem dL_law_653 : decode cL_law 653 = .ok (.aload_n 0, 1) := by decide +kernel
theorem dL_law_654 : decode cL_law 654 = .ok (.iload_n 3, 1) := by decide +kernel
theorem dL_law_655 : decode cL_law 655 = .ok (.iconst 1, 1) := by decide +kernel
theorem dL_law_656 : decode cL_law 656 = .ok (.iadd, 1) := by decide +kernel
theorem dL_law_657 : decode cL_law 657 = .ok (.iaload, 1) := by decide +kernel
theorem dL_law_658 : decode cL_law 658 = .ok (.invokevirtual 96, 3) := by decide +kernel
theorem dL_law_661 : decode cL_law 661 = .ok (.aload_n 2, 1) := by decide +kernel
theorem dL_law_662 : decode cL_law 662 = .ok (.aload_n 0, 1) := by decide +kernel
theorem dL_law_663 : decode cL_law 663 = .ok (.iload_n 3, 1) := by decide +kernel
theorem dL_law_664 : decode cL_law 664 = .ok (.iconst 1, 1) := by decide +kernel
theorem dL_law_665 : decode cL_law 665 = .ok (.iadd, 1) := by decide +kernel
theorem dL_law_666 : decode cL_law 666 = .ok (.iaload, 1) := by decide +kernel
theorem dL_law_667 : decode cL_law 667 = .ok (.invokevirtual 99, 3) := by decide +kernel
theorem dL_law_670 : decode cL_law 670 = .ok (.if_icmp .eq 470, 3) := by decide +kernel
theorem dL_law_673 : decode cL_law 673 = .ok (.iconst 0, 1) := by decide +kernel
theorem dL_law_674 : decode cL_law 674 = .ok (.ireturn, 1) := by decide +kernel
theorem dL_law_675 : decode cL_law 675 = .ok (.aload_n 1, 1) := by decide +kernel
theorem dL_law_676 : decode cL_law 676 = .ok (.aload_n 0, 1) := by decide +kernel
theorem dL_law_677 : decode cL_law 677 = .ok (.iload_n 3, 1) := by decide +kernel
theorem dL_law_678 : decode cL_law 678 = .ok (.iconst 1, 1) := by decide +kernel
theorem dL_law_679 : decode cL_law 679 = .ok (.iadd, 1) := by decide +kernel
theorem dL_law_680 : decode cL_law 680 = .ok (.iaload, 1) := by decide +kernel
theorem dL_law_681 : decode cL_law 681 = .ok (.invokevirtual 100, 3) := by decide +kernel
theorem dL_law_684 : decode cL_law 684 = .ok (.aload_n 2, 1) := by decide +kernel
theorem dL_law_685 : decode cL_law 685 = .ok (.aload_n 0, 1) := by decide +kernel
theorem dL_law_686 : decode cL_law 686 = .ok (.iload_n 3, 1) := by decide +kernel
theorem dL_law_687 : decode cL_law 687 = .ok (.iconst 1, 1) := by decide +kernel
theorem dL_law_688 : decode cL_law 688 = .ok (.iadd, 1) := by decide +kernel
theorem dL_law_689 : decode cL_law 689 = .ok (.iaload, 1) := by decide +kernel
theorem dL_law_690 : decode cL_law 690 = .ok (.invokevirtual 103, 3) := by decide +kernel
theorem dL_law_693 : decode cL_law 693 = .ok (.if_icmp .eq 447, 3) := by decide +kernel
theorem dL_law_696 : decode cL_law 696 = .ok (.iconst 0, 1) := by decide +kernel
theorem dL_law_697 : decode cL_law 697 = .ok (.ireturn, 1) := by decide +kernel
theorem dL_law_698 : decode cL_law 698 = .ok (.aload_n 1, 1) := by decide +kernel
theorem dL_law_699 : decode cL_law 699 = .ok (.aload_n 0, 1) := by decide +kernel
theorem dL_law_700 : decode cL_law 700 = .ok (.iload_n 3, 1) := by decide +kernel
theorem dL_law_701 : decode cL_law 701 = .ok (.iconst 1, 1) := by decide +kernel
theorem dL_law_702 : decode cL_law 702 = .ok (.iadd, 1) := by decide +kernel
theorem dL_law_703 : decode cL_law 703 = .ok (.iaload, 1) := by decide +kernel
theorem dL_law_704 : decode cL_law 704 = .ok (.aload_n 0, 1) := by decide +kernel
theorem dL_law_705 : decode cL_law 705 = .ok (.iload_n 3, 1) := by decide +kernel
theorem dL_law_706 : decode cL_law 706 = .ok (.iconst 2, 1) := by decide +kernel
theorem dL_law_707 : decode cL_law 707 = .ok (.iadd, 1) := by decide +kernel
theorem dL_law_708 : decode cL_law 708 = .ok (.iaload, 1) := by decide +kernel
theorem dL_law_709 : decode cL_law 709 = .ok (.aload_n 0, 1) := by decide +kernel
theorem dL_law_710 : decode cL_law 710 = .ok (.iload_n 3, 1) := by decide +kernel
theorem dL_law_711 : decode cL_law 711 = .ok (.iconst 3, 1) := by decide +kernel
theorem dL_law_712 : decode cL_law 712 = .ok (.iadd, 1) := by decide +kernel
theorem dL_law_713 : decode cL_law 713 = .ok (.iaload, 1) := by decide +kernel
theorem dL_law_714 : decode cL_law 714 = .ok (.invokevirtual 104, 3) := by decide +kernel
theorem dL_law_717 : decode cL_law 717 = .ok (.aload_n 2, 1) := by decide +kernel
theorem dL_law_718 : decode cL_law 718 = .ok (.aload_n 0, 1) := by decide +kernel
theorem dL_law_719 : decode cL_law 719 = .ok (.iload_n 3, 1) := by decide +kernel
theorem dL_law_720 : decode cL_law 720 = .ok (.iconst 1, 1) := by decide +kernel
theorem dL_law_721 : decode cL_law 721 = .ok (.iadd, 1) := by decide +kernel
theorem dL_law_722 : decode cL_law 722 = .ok (.iaload, 1) := by decide +kernel
theorem dL_law_723 : decode cL_law 723 = .ok (.aload_n 0, 1) := by decide +kernel
theorem dL_law_724 : decode cL_law 724 = .ok (.iload_n 3, 1) := by decide +kernel
theorem dL_law_725 : decode cL_law 725 = .ok (.iconst 2, 1) := by decide +kernel
theorem dL_law_726 : decode cL_law 726 = .ok (.iadd, 1) := by decide +kernel
theorem dL_law_727 : decode cL_law 727 = .ok (.iaload, 1) := by decide +kernel
theorem dL_law_728 : decode cL_law 728 = .ok (.aload_n 0, 1) := by decide +kernel
theorem dL_law_729 : decode cL_law 729 = .ok (.iload_n 3, 1) := by decide +kernel
theorem dL_law_730 : decode cL_law 730 = .ok (.iconst 3, 1) := by decide +kernel
theorem dL_law_731 : decode cL_law 731 = .ok (.iadd, 1) := by decide +kernel
theorem dL_law_732 : decode cL_law 732 = .ok (.iaload, 1) := by decide +kernel
theorem dL_law_733 : decode cL_law 733 = .ok (.invokevirtual 108, 3) := by decide +kernel
theorem dL_law_736 : decode cL_law 736 = .ok (.if_icmp .eq 404, 3) := by decide +kernel
theorem dL_law_739 : decode cL_law 739 = .ok (.iconst 0, 1) := by decide +kernel
theorem dL_law_740 : decode cL_law 740 = .ok (.ireturn, 1) := by decide +kernel
theorem dL_law_741 : decode cL_law 741 = .ok (.aload_n 1, 1) := by decide +kernel
theorem dL_law_742 : decode cL_law 742 = .ok (.aload_n 0, 1) := by decide +kernel
theorem dL_law_743 : decode cL_law 743 = .ok (.iload_n 3, 1) := by decide +kernel
theorem dL_law_744 : decode cL_law 744 = .ok (.iconst 1, 1) := by decide +kernel
theorem dL_law_745 : decode cL_law 745 = .ok (.iadd, 1) := by decide +kernel
theorem dL_law_746 : decode cL_law 746 = .ok (.iaload, 1) := by decide +kernel
theorem dL_law_747 : decode cL_law 747 = .ok (.aload_n 0, 1) := by decide +kernel
theorem dL_law_748 : decode cL_law 748 = .ok (.iload_n 3, 1) := by decide +kernel
theorem dL_law_749 : decode cL_law 749 = .ok (.iconst 2, 1) := by decide +kernel
theorem dL_law_750 : decode cL_law 750 = .ok (.iadd, 1) := by decide +kernel
theorem dL_law_751 : decode cL_law 751 = .ok (.iaload, 1) := by decide +kernel
theorem dL_law_752 : decode cL_law 752 = .ok (.aload_n 0, 1) := by decide +kernel
theorem dL_law_753 : decode cL_law 753 = .ok (.iload_n 3, 1) := by decide +kernel
theorem dL_law_754 : decode cL_law 754 = .ok (.iconst 3, 1) := by decide +kernel
theorem dL_law_755 : decode cL_law 755 = .ok (.iadd, 1) := by decide +kernel
theorem dL_law_756 : decode cL_law 756 = .ok (.iaload, 1) := by decide +kernel
theorem dL_law_757 : decode cL_law 757 = .ok (.invokevirtual 109, 3) := by decide +kernel
theorem dL_law_760 : decode cL_law 760 = .ok (.aload_n 2, 1) := by decide +kernel
theorem dL_law_761 : decode cL_law 761 = .ok (.aload_n 0, 1) := by decide +kernel
theorem dL_law_762 : decode cL_law 762 = .ok (.iload_n 3, 1) := by decide +kernel
theorem dL_law_763 : decode cL_law 763 = .ok (.iconst 1, 1) := by decide +kernel
theorem dL_law_764 : decode cL_law 764 = .ok (.iadd, 1) := by decide +kernel
theorem dL_law_765 : decode cL_law 765 = .ok (.iaload, 1) := by decide +kernel
theorem dL_law_766 : decode cL_law 766 = .ok (.aload_n 0, 1) := by decide +kernel
theorem dL_law_767 : decode cL_law 767 = .ok (.iload_n 3, 1) := by decide +kernel
theorem dL_law_768 : decode cL_law 768 = .ok (.iconst 2, 1) := by decide +kernel
theorem dL_law_769 : decode cL_law 769 = .ok (.iadd, 1) := by decide +kernel
theorem dL_law_770 : decode cL_law 770 = .ok (.iaload, 1) := by decide +kernel
theorem dL_law_771 : decode cL_law 771 = .ok (.aload_n 0, 1) := by decide +kernel
theorem dL_law_772 : decode cL_law 772 = .ok (.iload_n 3, 1) := by decide +kernel
theorem dL_law_773 : decode cL_law 773 = .ok (.iconst 3, 1) := by decide +kernel
theorem dL_law_774 : decode cL_law 774 = .ok (.iadd, 1) := by decide +kernel
theorem dL_law_775 : decode cL_law 775 = .ok (.iaload, 1) := by decide +kernel
theorem dL_law_776 : decode cL_law 776 = .ok (.invokevirtual 112, 3) := by decide +kernel
theorem dL_law_779 : decode cL_law 779 = .ok (.if_icmp .eq 361, 3) := by decide +kernel
theorem dL_law_782 : decode cL_law 782 = .ok (.iconst 0, 1) := by decide +kernel
theorem dL_law_783 : decode cL_law 783 = .ok (.ireturn, 1) := by decide +kernel
theorem dL_law_784 : decode cL_law 784 = .ok (.aload_n 1, 1) := by decide +kernel
theorem dL_law_785 : decode cL_law 785 = .ok (.aload_n 0, 1) := by decide +kernel
theorem dL_law_786 : decode cL_law 786 = .ok (.iload_n 3, 1) := by decide +kernel
theorem dL_law_787 : decode cL_law 787 = .ok (.iconst 1, 1) := by decide +kernel
theorem dL_law_788 : decode cL_law 788 = .ok (.iadd, 1) := by decide +kernel
theorem dL_law_789 : decode cL_law 789 = .ok (.iaload, 1) := by decide +kernel
theorem dL_law_790 : decode cL_law 790 = .ok (.aload_n 0, 1) := by decide +kernel
theorem dL_law_791 : decode cL_law 791 = .ok (.iload_n 3, 1) := by decide +kernel
theorem dL_law_792 : decode cL_law 792 = .ok (.iconst 2, 1) := by decide +kernel
theorem dL_law_793 : decode cL_law 793 = .ok (.iadd, 1) := by decide +kernel
theorem dL_law_794 : decode cL_law 794 = .ok (.iaload, 1) := by decide +kernel
theorem dL_law_795 : decode cL_law 795 = .ok (.invokevirtual 113, 3) := by decide +kernel
theorem dL_law_798 : decode cL_law 798 = .ok (.aload_n 2, 1) := by decide +kernel
theorem dL_law_799 : decode cL_law 799 = .ok (.aload_n 0, 1) := by decide +kernel
theorem dL_law_800 : decode cL_law 800 = .ok (.iload_n 3, 1) := by decide +kernel
theorem dL_law_801 : decode cL_law 801 = .ok (.iconst 1, 1) := by decide +kernel
theorem dL_law_802 : decode cL_law 802 = .ok (.iadd, 1) := by decide +kernel
theorem dL_law_803 : decode cL_law 803 = .ok (.iaload, 1) := by decide +kernel
theorem dL_law_804 : decode cL_law 804 = .ok (.aload_n 0, 1) := by decide +kernel
theorem dL_law_805 : decode cL_law 805 = .ok (.iload_n 3, 1) := by decide +kernel
theorem dL_law_806 : decode cL_law 806 = .ok (.iconst 2, 1) := by decide +kernel
theorem dL_law_807 : decode cL_law 807 = .ok (.iadd, 1) := by decide +kernel
theorem dL_law_808 : decode cL_law 808 = .ok (.iaload, 1) := by decide +kernel
theorem dL_law_809 : decode cL_law 809 = .ok (.invokevirtual 116, 3) := by decide +kernel
theorem dL_law_812 : decode cL_law 812 = .ok (.if_icmp .eq 328, 3) := by decide +kernel
theorem dL_law_815 : decode cL_law 815 = .ok (.iconst 0, 1) := by decide +kernel
theorem dL_law_816 : decode cL_law 816 = .ok (.ireturn, 1) := by decide +kernel
theorem dL_law_817 : decode cL_law 817 = .ok (.aload_n 1, 1) := by decide +kernel
theorem dL_law_818 : decode cL_law 818 = .ok (.aload_n 0, 1) := by decide +kernel
theorem dL_law_819 : decode cL_law 819 = .ok (.iload_n 3, 1) := by decide +kernel
theorem dL_law_820 : decode cL_law 820 = .ok (.iconst 1, 1) := by decide +kernel
theorem dL_law_821 : decode cL_law 821 = .ok (.iadd, 1) := by decide +kernel
theorem dL_law_822 : decode cL_law 822 = .ok (.iaload, 1) := by decide +kernel
theorem dL_law_823 : decode cL_law 823 = .ok (.invokevirtual 117, 3) := by decide +kernel
theorem dL_law_826 : decode cL_law 826 = .ok (.aload_n 2, 1) := by decide +kernel
theorem dL_law_827 : decode cL_law 827 = .ok (.aload_n 0, 1) := by decide +kernel
theorem dL_law_828 : decode cL_law 828 = .ok (.iload_n 3, 1) := by decide +kernel
theorem dL_law_829 : decode cL_law 829 = .ok (.iconst 1, 1) := by decide +kernel
theorem dL_law_830 : decode cL_law 830 = .ok (.iadd, 1) := by decide +kernel
theorem dL_law_831 : decode cL_law 831 = .ok (.iaload, 1) := by decide +kernel
theorem dL_law_832 : decode cL_law 832 = .ok (.invokevirtual 120, 3) := by decide +kernel
theorem dL_law_835 : decode cL_law 835 = .ok (.if_icmp .eq 305, 3) := by decide +kernel
theorem dL_law_838 : decode cL_law 838 = .ok (.iconst 0, 1) := by decide +kernel
theorem dL_law_839 : decode cL_law 839 = .ok (.ireturn, 1) := by decide +kernel
theorem dL_law_840 : decode cL_law 840 = .ok (.aload_n 1, 1) := by decide +kernel
theorem dL_law_841 : decode cL_law 841 = .ok (.aload_n 0, 1) := by decide +kernel
theorem dL_law_842 : decode cL_law 842 = .ok (.iload_n 3, 1) := by decide +kernel
theorem dL_law_843 : decode cL_law 843 = .ok (.iconst 1, 1) := by decide +kernel
theorem dL_law_844 : decode cL_law 844 = .ok (.iadd, 1) := by decide +kernel
theorem dL_law_845 : decode cL_law 845 = .ok (.iaload, 1) := by decide +kernel
theorem dL_law_846 : decode cL_law 846 = .ok (.aload_n 0, 1) := by decide +kernel
theorem dL_law_847 : decode cL_law 847 = .ok (.iload_n 3, 1) := by decide +kernel
theorem dL_law_848 : decode cL_law 848 = .ok (.iconst 2, 1) := by decide +kernel
theorem dL_law_849 : decode cL_law 849 = .ok (.iadd, 1) := by decide +kernel
theorem dL_law_850 : decode cL_law 850 = .ok (.iaload, 1) := by decide +kernel
theorem dL_law_851 : decode cL_law 851 = .ok (.aload_n 0, 1) := by decide +kernel
theorem dL_law_852 : decode cL_law 852 = .ok (.iload_n 3, 1) := by decide +kernel
theorem dL_law_853 : decode cL_law 853 = .ok (.iconst 3, 1) := by decide +kernel
theorem dL_law_854 : decode cL_law 854 = .ok (.iadd, 1) := by decide +kernel
theorem dL_law_855 : decode cL_law 855 = .ok (.iaload, 1) := by decide +kernel
theorem dL_law_856 : decode cL_law 856 = .ok (.invokevirtual 121, 3) := by decide +kernel
theorem dL_law_859 : decode cL_law 859 = .ok (.aload_n 2, 1) := by decide +kernel
theorem dL_law_860 : decode cL_law 860 = .ok (.aload_n 0, 1) := by decide +kernel
theorem dL_law_861 : decode cL_law 861 = .ok (.iload_n 3, 1) := by decide +kernel
theorem dL_law_862 : decode cL_law 862 = .ok (.iconst 1, 1) := by decide +kernel
theorem dL_law_863 : decode cL_law 863 = .ok (.iadd, 1) := by decide +kernel
theorem dL_law_864 : decode cL_law 864 = .ok (.iaload, 1) := by decide +kernel
theorem dL_law_865 : decode cL_law 865 = .ok (.aload_n 0, 1) := by decide +kernel
theorem dL_law_866 : decode cL_law 866 = .ok (.iload_n 3, 1) := by decide +kernel
theorem dL_law_867 : decode cL_law 867 = .ok (.iconst 2, 1) := by decide +kernel
theorem dL_law_868 : decode cL_law 868 = .ok (.iadd, 1) := by decide +kernel
theorem dL_law_869 : decode cL_law 869 = .ok (.iaload, 1) := by decide +kernel
theorem dL_law_870 : decode cL_law 870 = .ok (.aload_n 0, 1) := by decide +kernel
theorem dL_law_871 : decode cL_law 871 = .ok (.iload_n 3, 1) := by decide +kernel
theorem dL_law_872 : decode cL_law 872 = .ok (.iconst 3, 1) := by decide +kernel
theorem dL_law_873 : decode cL_law 873 = .ok (.iadd, 1) := by decide +kernel
theorem dL_law_874 : decode cL_law 874 = .ok (.iaload, 1) := by decide +kernel
theorem dL_law_875 : decode cL_law 875 = .ok (.invokevirtual 124, 3) := by decide +kernel
theorem dL_law_878 : decode cL_law 878 = .ok (.if_icmp .eq 262, 3) := by decide +kernel
theorem dL_law_881 : decode cL_law 881 = .ok (.iconst 0, 1) := by decide +kernel
theorem dL_law_882 : decode cL_law 882 = .ok (.ireturn, 1) := by decide +kernel
theorem dL_law_883 : decode cL_law 883 = .ok (.aload_n 1, 1) := by decide +kernel
theorem dL_law_884 : decode cL_law 884 = .ok (.aload_n 0, 1) := by decide +kernel
theorem dL_law_885 : decode cL_law 885 = .ok (.iload_n 3, 1) := by decide +kernel
theorem dL_law_886 : decode cL_law 886 = .ok (.iconst 1, 1) := by decide +kernel
theorem dL_law_887 : decode cL_law 887 = .ok (.iadd, 1) := by decide +kernel
theorem dL_law_888 : decode cL_law 888 = .ok (.iaload, 1) := by decide +kernel
theorem dL_law_889 : decode cL_law 889 = .ok (.aload_n 0, 1) := by decide +kernel
theorem dL_law_890 : decode cL_law 890 = .ok (.iload_n 3, 1) := by decide +kernel
theorem dL_law_891 : decode cL_law 891 = .ok (.iconst 2, 1) := by decide +kernel
theorem dL_law_892 : decode cL_law 892 = .ok (.iadd, 1) := by decide +kernel
theorem dL_law_893 : decode cL_law 893 = .ok (.iaload, 1) := by decide +kernel
theorem dL_law_894 : decode cL_law 894 = .ok (.invokevirtual 125, 3) := by decide +kernel
theorem dL_law_897 : decode cL_law 897 = .ok (.aload_n 2, 1) := by decide +kernel
theorem dL_law_898 : decode cL_law 898 = .ok (.aload_n 0, 1) := by decide +kernel
theorem dL_law_899 : decode cL_law 899 = .ok (.iload_n 3, 1) := by decide +kernel
theorem dL_law_900 : decode cL_law 900 = .ok (.iconst 1, 1) := by decide +kernel
theorem dL_law_901 : decode cL_law 901 = .ok (.iadd, 1) := by decide +kernel
theorem dL_law_902 : decode cL_law 902 = .ok (.iaload, 1) := by decide +kernel
theorem dL_law_903 : decode cL_law 903 = .ok (.aload_n 0, 1) := by decide +kernel
theorem dL_law_904 : decode cL_law 904 = .ok (.iload_n 3, 1) := by decide +kernel
theorem dL_law_905 : decode cL_law 905 = .ok (.iconst 2, 1) := by decide +kernel
theorem dL_law_906 : decode cL_law 906 = .ok (.iadd, 1) := by decide +kernel
theorem dL_law_907 : decode cL_law 907 = .ok (.iaload, 1) := by decide +kernel
theorem dL_law_908 : decode cL_law 908 = .ok (.invokevirtual 128, 3) := by decide +kernel
theorem dL_law_911 : decode cL_law 911 = .ok (.if_icmp .eq 229, 3) := by decide +kernel
theorem dL_law_914 : decode cL_law 914 = .ok (.iconst 0, 1) := by decide +kernel
theorem dL_law_915 : decode cL_law 915 = .ok (.ireturn, 1) := by decide +kernel
theorem dL_law_916 : decode cL_law 916 = .ok (.aload_n 1, 1) := by decide +kernel
theorem dL_law_917 : decode cL_law 917 = .ok (.aload_n 0, 1) := by decide +kernel
theorem dL_law_918 : decode cL_law 918 = .ok (.iload_n 3, 1) := by decide +kernel
theorem dL_law_919 : decode cL_law 919 = .ok (.iconst 1, 1) := by decide +kernel
theorem dL_law_920 : decode cL_law 920 = .ok (.iadd, 1) := by decide +kernel
theorem dL_law_921 : decode cL_law 921 = .ok (.iaload, 1) := by decide +kernel
theorem dL_law_922 : decode cL_law 922 = .ok (.invokevirtual 129, 3) := by decide +kernel
theorem dL_law_925 : decode cL_law 925 = .ok (.aload_n 2, 1) := by decide +kernel
theorem dL_law_926 : decode cL_law 926 = .ok (.aload_n 0, 1) := by decide +kernel
theorem dL_law_927 : decode cL_law 927 = .ok (.iload_n 3, 1) := by decide +kernel
theorem dL_law_928 : decode cL_law 928 = .ok (.iconst 1, 1) := by decide +kernel
theorem dL_law_929 : decode cL_law 929 = .ok (.iadd, 1) := by decide +kernel
theorem dL_law_930 : decode cL_law 930 = .ok (.iaload, 1) := by decide +kernel
theorem dL_law_931 : decode cL_law 931 = .ok (.invokevirtual 132, 3) := by decide +kernel
theorem dL_law_934 : decode cL_law 934 = .ok (.if_icmp .eq 206, 3) := by decide +kernel
theorem dL_law_937 : decode cL_law 937 = .ok (.iconst 0, 1) := by decide +kernel
theorem dL_law_938 : decode cL_law 938 = .ok (.ireturn, 1) := by decide +kernel
theorem dL_law_939 : decode cL_law 939 = .ok (.aload_n 1, 1) := by decide +kernel
theorem dL_law_940 : decode cL_law 940 = .ok (.aload_n 0, 1) := by decide +kernel
theorem dL_law_941 : decode cL_law 941 = .ok (.iload_n 3, 1) := by decide +kernel
theorem dL_law_942 : decode cL_law 942 = .ok (.iconst 1, 1) := by decide +kernel
theorem dL_law_943 : decode cL_law 943 = .ok (.iadd, 1) := by decide +kernel
theorem dL_law_944 : decode cL_law 944 = .ok (.iaload, 1) := by decide +kernel
theorem dL_law_945 : decode cL_law 945 = .ok (.aload_n 0, 1) := by decide +kernel
theorem dL_law_946 : decode cL_law 946 = .ok (.iload_n 3, 1) := by decide +kernel
theorem dL_law_947 : decode cL_law 947 = .ok (.iconst 2, 1) := by decide +kernel
theorem dL_law_948 : decode cL_law 948 = .ok (.iadd, 1) := by decide +kernel
theorem dL_law_949 : decode cL_law 949 = .ok (.iaload, 1) := by decide +kernel
theorem dL_law_950 : decode cL_law 950 = .ok (.aload_n 0, 1) := by decide +kernel
theorem dL_law_951 : decode cL_law 951 = .ok (.iload_n 3, 1) := by decide +kernel
theorem dL_law_952 : decode cL_law 952 = .ok (.iconst 3, 1) := by decide +kernel
theorem dL_law_953 : decode cL_law 953 = .ok (.iadd, 1) := by decide +kernel
theorem dL_law_954 : decode cL_law 954 = .ok (.iaload, 1) := by decide +kernel
theorem dL_law_955 : decode cL_law 955 = .ok (.aload_n 0, 1) := by decide +kernel
theorem dL_law_956 : decode cL_law 956 = .ok (.iload_n 3, 1) := by decide +kernel
theorem dL_law_957 : decode cL_law 957 = .ok (.iconst 4, 1) := by decide +kernel
theorem dL_law_958 : decode cL_law 958 = .ok (.iadd, 1) := by decide +kernel
theorem dL_law_959 : decode cL_law 959 = .ok (.iaload, 1) := by decide +kernel
theorem dL_law_960 : decode cL_law 960 = .ok (.invokevirtual 133, 3) := by decide +kernel
theorem dL_law_963 : decode cL_law 963 = .ok (.aload_n 2, 1) := by decide +kernel
theorem dL_law_964 : decode cL_law 964 = .ok (.aload_n 0, 1) := by decide +kernel
theorem dL_law_965 : decode cL_law 965 = .ok (.iload_n 3, 1) := by decide +kernel
theorem dL_law_966 : decode cL_law 966 = .ok (.iconst 1, 1) := by decide +kernel
theorem dL_law_967 : decode cL_law 967 = .ok (.iadd, 1) := by decide +kernel
theorem dL_law_968 : decode cL_law 968 = .ok (.iaload, 1) := by decide +kernel
theorem dL_law_969 : decode cL_law 969 = .ok (.aload_n 0, 1) := by decide +kernel
theorem dL_law_970 : decode cL_law 970 = .ok (.iload_n 3, 1) := by decide +kernel
theorem dL_law_971 : decode cL_law 971 = .ok (.iconst 2, 1) := by decide +kernel
theorem dL_law_972 : decode cL_law 972 = .ok (.iadd, 1) := by decide +kernel
theorem dL_law_973 : decode cL_law 973 = .ok (.iaload, 1) := by decide +kernel
theorem dL_law_974 : decode cL_law 974 = .ok (.aload_n 0, 1) := by decide +kernel
theorem dL_law_975 : decode cL_law 975 = .ok (.iload_n 3, 1) := by decide +kernel
theorem dL_law_976 : decode cL_law 976 = .ok (.iconst 3, 1) := by decide +kernel
theorem dL_law_977 : decode cL_law 977 = .ok (.iadd, 1) := by decide +kernel
theorem dL_law_978 : decode cL_law 978 = .ok (.iaload, 1) := by decide +kernel
theorem dL_law_979 : decode cL_law 979 = .ok (.aload_n 0, 1) := by decide +kernel
theorem dL_law_980 : decode cL_law 980 = .ok (.iload_n 3, 1) := by decide +kernel
theorem dL_law_981 : decode cL_law 981 = .ok (.iconst 4, 1) := by decide +kernel
theorem dL_law_982 : decode cL_law 982 = .ok (.iadd, 1) := by decide +kernel
theorem dL_law_983 : decode cL_law 983 = .ok (.iaload, 1) := by decide +kernel
theorem dL_law_984 : decode cL_law 984 = .ok (.invokevirtual 137, 3) := by decide +kernel
theorem dL_law_987 : decode cL_law 987 = .ok (.if_icmp .eq 153, 3) := by decide +kernel
theorem dL_law_990 : decode cL_law 990 = .ok (.iconst 0, 1) := by decide +kernel
theorem dL_law_991 : decode cL_law 991 = .ok (.ireturn, 1) := by decide +kernel
theorem dL_law_992 : decode cL_law 992 = .ok (.aload_n 1, 1) := by decide +kernel
theorem dL_law_993 : decode cL_law 993 = .ok (.invokevirtual 138, 3) := by decide +kernel
theorem dL_law_996 : decode cL_law 996 = .ok (.aload_n 2, 1) := by decide +kernel
theorem dL_law_997 : decode cL_law 997 = .ok (.invokevirtual 141, 3) := by decide +kernel
theorem dL_law_1000 : decode cL_law 1000 = .ok (.if_icmp .eq 140, 3) := by decide +kernel
theorem dL_law_1003 : decode cL_law 1003 = .ok (.iconst 0, 1) := by decide +kernel
theorem dL_law_1004 : decode cL_law 1004 = .ok (.ireturn, 1) := by decide +kernel
theorem dL_law_1005 : decode cL_law 1005 = .ok (.aload_n 1, 1) := by decide +kernel
theorem dL_law_1006 : decode cL_law 1006 = .ok (.aload_n 0, 1) := by decide +kernel
theorem dL_law_1007 : decode cL_law 1007 = .ok (.iload_n 3, 1) := by decide +kernel
theorem dL_law_1008 : decode cL_law 1008 = .ok (.iconst 1, 1) := by decide +kernel
theorem dL_law_1009 : decode cL_law 1009 = .ok (.iadd, 1) := by decide +kernel
theorem dL_law_1010 : decode cL_law 1010 = .ok (.iaload, 1) := by decide +kernel
theorem dL_law_1011 : decode cL_law 1011 = .ok (.invokevirtual 142, 3) := by decide +kernel
theorem dL_law_1014 : decode cL_law 1014 = .ok (.aload_n 2, 1) := by decide +kernel
theorem dL_law_1015 : decode cL_law 1015 = .ok (.aload_n 0, 1) := by decide +kernel
theorem dL_law_1016 : decode cL_law 1016 = .ok (.iload_n 3, 1) := by decide +kernel
theorem dL_law_1017 : decode cL_law 1017 = .ok (.iconst 1, 1) := by decide +kernel
theorem dL_law_1018 : decode cL_law 1018 = .ok (.iadd, 1) := by decide +kernel
theorem dL_law_1019 : decode cL_law 1019 = .ok (.iaload, 1) := by decide +kernel
theorem dL_law_1020 : decode cL_law 1020 = .ok (.invokevirtual 145, 3) := by decide +kernel
theorem dL_law_1023 : decode cL_law 1023 = .ok (.if_icmp .eq 117, 3) := by decide +kernel
theorem dL_law_1026 : decode cL_law 1026 = .ok (.iconst 0, 1) := by decide +kernel
theorem dL_law_1027 : decode cL_law 1027 = .ok (.ireturn, 1) := by decide +kernel
theorem dL_law_1028 : decode cL_law 1028 = .ok (.aload_n 1, 1) := by decide +kernel
theorem dL_law_1029 : decode cL_law 1029 = .ok (.aload_n 0, 1) := by decide +kernel
theorem dL_law_1030 : decode cL_law 1030 = .ok (.iload_n 3, 1) := by decide +kernel
theorem dL_law_1031 : decode cL_law 1031 = .ok (.iconst 1, 1) := by decide +kernel
theorem dL_law_1032 : decode cL_law 1032 = .ok (.iadd, 1) := by decide +kernel
theorem dL_law_1033 : decode cL_law 1033 = .ok (.iaload, 1) := by decide +kernel
theorem dL_law_1034 : decode cL_law 1034 = .ok (.aload_n 0, 1) := by decide +kernel
theorem dL_law_1035 : decode cL_law 1035 = .ok (.iload_n 3, 1) := by decide +kernel
theorem dL_law_1036 : decode cL_law 1036 = .ok (.iconst 2, 1) := by decide +kernel
theorem dL_law_1037 : decode cL_law 1037 = .ok (.iadd, 1) := by decide +kernel
theorem dL_law_1038 : decode cL_law 1038 = .ok (.iaload, 1) := by decide +kernel
theorem dL_law_1039 : decode cL_law 1039 = .ok (.invokevirtual 146, 3) := by decide +kernel
theorem dL_law_1042 : decode cL_law 1042 = .ok (.aload_n 2, 1) := by decide +kernel
theorem dL_law_1043 : decode cL_law 1043 = .ok (.aload_n 0, 1) := by decide +kernel
theorem dL_law_1044 : decode cL_law 1044 = .ok (.iload_n 3, 1) := by decide +kernel
theorem dL_law_1045 : decode cL_law 1045 = .ok (.iconst 1, 1) := by decide +kernel
theorem dL_law_1046 : decode cL_law 1046 = .ok (.iadd, 1) := by decide +kernel
theorem dL_law_1047 : decode cL_law 1047 = .ok (.iaload, 1) := by decide +kernel
theorem dL_law_1048 : decode cL_law 1048 = .ok (.aload_n 0, 1) := by decide +kernel
theorem dL_law_1049 : decode cL_law 1049 = .ok (.iload_n 3, 1) := by decide +kernel
theorem dL_law_1050 : decode cL_law 1050 = .ok (.iconst 2, 1) := by decide +kernel
theorem dL_law_1051 : decode cL_law 1051 = .ok (.iadd, 1) := by decide +kernel
theorem dL_law_1052 : decode cL_law 1052 = .ok (.iaload, 1) := by decide +kernel
theorem dL_law_1053 : decode cL_law 1053 = .ok (.invokevirtual 149, 3) := by decide +kernel
theorem dL_law_1056 : decode cL_law 1056 = .ok (.if_icmp .eq 84, 3) := by decide +kernel
theorem dL_law_1059 : decode cL_law 1059 = .ok (.iconst 0, 1) := by decide +kernel
theorem dL_law_1060 : decode cL_law 1060 = .ok (.ireturn, 1) := by decide +kernel
theorem dL_law_1061 : decode cL_law 1061 = .ok (.aload_n 1, 1) := by decide +kernel
theorem dL_law_1062 : decode cL_law 1062 = .ok (.aload_n 0, 1) := by decide +kernel
theorem dL_law_1063 : decode cL_law 1063 = .ok (.iload_n 3, 1) := by decide +kernel
theorem dL_law_1064 : decode cL_law 1064 = .ok (.iconst 1, 1) := by decide +kernel
theorem dL_law_1065 : decode cL_law 1065 = .ok (.iadd, 1) := by decide +kernel
theorem dL_law_1066 : decode cL_law 1066 = .ok (.iaload, 1) := by decide +kernel
theorem dL_law_1067 : decode cL_law 1067 = .ok (.invokevirtual 150, 3) := by decide +kernel
theorem dL_law_1070 : decode cL_law 1070 = .ok (.aload_n 2, 1) := by decide +kernel
theorem dL_law_1071 : decode cL_law 1071 = .ok (.aload_n 0, 1) := by decide +kernel
theorem dL_law_1072 : decode cL_law 1072 = .ok (.iload_n 3, 1) := by decide +kernel
theorem dL_law_1073 : decode cL_law 1073 = .ok (.iconst 1, 1) := by decide +kernel
theorem dL_law_1074 : decode cL_law 1074 = .ok (.iadd, 1) := by decide +kernel
theorem dL_law_1075 : decode cL_law 1075 = .ok (.iaload, 1) := by decide +kernel
theorem dL_law_1076 : decode cL_law 1076 = .ok (.invokevirtual 153, 3) := by decide +kernel
theorem dL_law_1079 : decode cL_law 1079 = .ok (.if_icmp .eq 61, 3) := by decide +kernel
theorem dL_law_1082 : decode cL_law 1082 = .ok (.iconst 0, 1) := by decide +kernel
theorem dL_law_1083 : decode cL_law 1083 = .ok (.ireturn, 1) := by decide +kernel
theorem dL_law_1084 : decode cL_law 1084 = .ok (.aload_n 1, 1) := by decide +kernel
theorem dL_law_1085 : decode cL_law 1085 = .ok (.aload_n 0, 1) := by decide +kernel
theorem dL_law_1086 : decode cL_law 1086 = .ok (.iload_n 3, 1) := by decide +kernel
theorem dL_law_1087 : decode cL_law 1087 = .ok (.iconst 1, 1) := by decide +kernel
theorem dL_law_1088 : decode cL_law 1088 = .ok (.iadd, 1) := by decide +kernel
theorem dL_law_1089 : decode cL_law 1089 = .ok (.iaload, 1) := by decide +kernel
theorem dL_law_1090 : decode cL_law 1090 = .ok (.aload_n 0, 1) := by decide +kernel
theorem dL_law_1091 : decode cL_law 1091 = .ok (.iload_n 3, 1) := by decide +kernel
theorem dL_law_1092 : decode cL_law 1092 = .ok (.iconst 2, 1) := by decide +kernel
theorem dL_law_1093 : decode cL_law 1093 = .ok (.iadd, 1) := by decide +kernel
theorem dL_law_1094 : decode cL_law 1094 = .ok (.iaload, 1) := by decide +kernel
theorem dL_law_1095 : decode cL_law 1095 = .ok (.invokevirtual 154, 3) := by decide +kernel
theorem dL_law_1098 : decode cL_law 1098 = .ok (.aload_n 2, 1) := by decide +kernel
theorem dL_law_1099 : decode cL_law 1099 = .ok (.aload_n 0, 1) := by decide +kernel
theorem dL_law_1100 : decode cL_law 1100 = .ok (.iload_n 3, 1) := by decide +kernel
theorem dL_law_1101 : decode cL_law 1101 = .ok (.iconst 1, 1) := by decide +kernel
theorem dL_law_1102 : decode cL_law 1102 = .ok (.iadd, 1) := by decide +kernel
theorem dL_law_1103 : decode cL_law 1103 = .ok (.iaload, 1) := by decide +kernel
theorem dL_law_1104 : decode cL_law 1104 = .ok (.aload_n 0, 1) := by decide +kernel
theorem dL_law_1105 : decode cL_law 1105 = .ok (.iload_n 3, 1) := by decide +kernel
theorem dL_law_1106 : decode cL_law 1106 = .ok (.iconst 2, 1) := by decide +kernel
theorem dL_law_1107 : decode cL_law 1107 = .ok (.iadd, 1) := by decide +kernel
theorem dL_law_1108 : decode cL_law 1108 = .ok (.iaload, 1) := by decide +kernel
theorem dL_law_1109 : decode cL_law 1109 = .ok (.invokevirtual 157, 3) := by decide +kernel
theorem dL_law_1112 : decode cL_law 1112 = .ok (.if_icmp .eq 28, 3) := by decide +kernel
theorem dL_law_1115 : decode cL_law 1115 = .ok (.iconst 0, 1) := by decide +kernel
theorem dL_law_1116 : decode cL_law 1116 = .ok (.ireturn, 1) := by decide +kernel
theorem dL_law_1117 : decode cL_law 1117 = .ok (.aload_n 1, 1) := by decide +kernel
theorem dL_law_1118 : decode cL_law 1118 = .ok (.aload_n 0, 1) := by decide +kernel
theorem dL_law_1119 : decode cL_law 1119 = .ok (.iload_n 3, 1) := by decide +kernel
theorem dL_law_1120 : decode cL_law 1120 = .ok (.iconst 1, 1) := by decide +kernel
theorem dL_law_1121 : decode cL_law 1121 = .ok (.iadd, 1) := by decide +kernel
theorem dL_law_1122 : decode cL_law 1122 = .ok (.iaload, 1) := by decide +kernel
theorem dL_law_1123 : decode cL_law 1123 = .ok (.invokevirtual 158, 3) := by decide +kernel
theorem dL_law_1126 : decode cL_law 1126 = .ok (.aload_n 2, 1) := by decide +kernel
theorem dL_law_1127 : decode cL_law 1127 = .ok (.aload_n 0, 1) := by decide +kernel
theorem dL_law_1128 : decode cL_law 1128 = .ok (.iload_n 3, 1) := by decide +kernel
theorem dL_law_1129 : decode cL_law 1129 = .ok (.iconst 1, 1) := by decide +kernel
theorem dL_law_1130 : decode cL_law 1130 = .ok (.iadd, 1) := by decide +kernel
theorem dL_law_1131 : decode cL_law 1131 = .ok (.iaload, 1) := by decide +kernel
theorem dL_law_1132 : decode cL_law 1132 = .ok (.invokevirtual 161, 3) := by decide +kernel
theorem dL_law_1135 : decode cL_law 1135 = .ok (.if_icmp .eq 5, 3) := by decide +kernel
theorem dL_law_1138 : decode cL_law 1138 = .ok (.iconst 0, 1) := by decide +kernel
theorem dL_law_1139 : decode cL_law 1139 = .ok (.ireturn, 1) := by decide +kernel
theorem dL_law_1140 : decode cL_law 1140 = .ok (.iinc 3 5, 3) := by decide +kernel
theorem dL_law_1143 : decode cL_law 1143 = .ok (.goto (-1125), 3) := by decide +kernel
theorem dL_law_1146 : decode cL_law 1146 = .ok (.iconst 1, 1) := by decide +kernel
theorem dL_law_1147 : decode cL_law 1147 = .ok (.ireturn, 1) := by decide +kernel
end
section
/-! THE LAYER: one memory (cell number, place) of whole numbers for class and reference; JF: the machine at a place of a method does what a pure term says. Laid by wip/whole/gen/layer.py. -/
def xG : List Cond := lw_tbl.filter goodWord
theorem xq {w : Cond} (i : Nat) (h : lw_tbl[i]? = some w) (g : goodWord w = true) : w ∈ xG := List.mem_filter.mpr ⟨List.mem_of_getElem? h, g⟩
theorem xG_in : ∀ w ∈ xG, w ∈ lw_tbl := fun w h => (List.mem_filter.mp h).1
abbrev XS : Type := Nat → Nat → Int32
abbrev XO : Type := Int32 × XS
def xUf (σ : XS) (i : Nat) (f : Nat → Int32) : XS := fun a => if a = i then f else σ a
def xUp (σ : XS) (i k : Nat) (v : Int32) : XS := xUf σ i (upd (σ i) k v)
def xin (i : Int32) (n : Nat) : Bool := !(decide (i < 0) || decide (n ≤ i.toNatClampNeg))
theorem xin_ok {i : Int32} {n : Nat} (h : xin i n = true) : vp_in i n := by
  intro q
  simp only [xin, Bool.not_eq_true', Bool.or_eq_false_iff, decide_eq_false_iff_not] at h
  rcases q with q | q
  · exact h.1 q
  · exact h.2 q
/-- a guard: nothing is said where it fails -/
def gd (b : Bool) (T : Option XO) : Option XO := match b with
  | true => T
  | false => none
/-- what each cell is: (0, kind, fields: a cell or a number), (1, n) whole numbers, (2, n) chars, (3, n) booleans, (4, n, rows) rows of rows -/
def shpL : List (Nat × Nat × List (Option Nat)) := [(0, 9, [some 1, some 11, some 29, some 44, some 46, some 47, some 66, some 73, some 75, some 84]), (0, 8, [some 2, some 3, some 4, some 5, some 6, some 7, some 8, some 9, some 10, none, none, none, none]), (1, 9, []), (1, 9, []), (1, 9, []), (1, 9, []), (1, 4, []), (1, 6, []), (1, 6, []), (1, 3, []), (1, 6, []), (0, 7, [some 12, some 13, some 14, none, none, none, none, none, none, none]), (2, 160, []), (1, 14, []), (4, 14, [some 15, some 16, some 17, some 18, some 19, some 20, some 21, some 22, some 23, some 24, some 25, some 26, some 27, some 28]), (1, 3, []), (1, 3, []), (1, 3, []), (1, 3, []), (1, 3, []), (1, 3, []), (1, 3, []), (1, 3, []), (1, 3, []), (1, 3, []), (1, 3, []), (1, 3, []), (1, 3, []), (1, 3, []), (0, 0, [some 30, some 31, some 40, some 43, none, none]), (1, 14, []), (4, 8, [some 32, some 33, some 34, some 35, some 36, some 37, some 38, some 39]), (1, 14, []), (1, 14, []), (1, 14, []), (1, 14, []), (1, 14, []), (1, 14, []), (1, 14, []), (1, 14, []), (4, 2, [some 41, some 42]), (1, 14, []), (1, 14, []), (3, 2, []), (0, 4, [some 45, none]), (1, 6, []), (0, 1, [some 1, none, none, none, none]), (0, 2, [some 1, some 46, some 44, some 48, some 56, none, some 64]), (4, 7, [some 49, some 50, some 51, some 52, some 53, some 54, some 55]), (1, 26, []), (1, 26, []), (1, 26, []), (1, 26, []), (1, 26, []), (1, 26, []), (1, 26, []), (4, 7, [some 57, some 58, some 59, some 60, some 61, some 62, some 63]), (1, 26, []), (1, 26, []), (1, 26, []), (1, 26, []), (1, 26, []), (1, 26, []), (1, 26, []), (0, 4, [some 65, none]), (1, 6, []), (0, 3, [some 1, some 67]), (4, 5, [some 68, some 69, some 70, some 71, some 72]), (1, 2, []), (1, 2, []), (1, 2, []), (1, 2, []), (1, 2, []), (0, 6, [some 1, some 74, none, none, none]), (1, 64, []), (0, 5, [some 1, some 76, some 77, some 78, some 80, some 82, none, none, none, none]), (1, 6, []), (1, 6, []), (0, 4, [some 79, none]), (1, 6, []), (0, 4, [some 81, none]), (1, 6, []), (0, 4, [some 83, none]), (1, 6, []), (1, 6, []), (0, 10, [some 86, some 87, none, some 88, some 89, some 90, none, some 91, none, none, some 92, none, none, none, none, none, some 93, none, none, none, none, some 94, some 95, none, some 96, some 97, none]), (1, 98, []), (1, 784, []), (1, 196, []), (3, 2, []), (1, 6, []), (1, 12, []), (1, 160, []), (1, 56, []), (1, 6, []), (1, 6, []), (1, 6, []), (1, 3, [])]
def shp (i : Nat) : Nat × Nat × List (Option Nat) := shpL.getD i (9, 0, [])
def NC : Nat := 98
def xflds (Am : Nat → Nat) (σ : XS) (i : Nat) (fs : List (Option Nat)) : List Value := (List.range fs.length).map (fun k => match fs.getD k none with
  | some t => .ref (Am t)
  | none => .int (σ i k))
def xcellOf (Am : Nat → Nat) (cy : Nat → ClassId) (σ : XS) (i : Nat) (h : Nat × Nat × List (Option Nat)) : va_E := match h with
  | (0, c, fs) => .inr (c, xflds Am σ i fs)
  | (4, n, fs) => .inl (cy 4, n, .inr (.inr (.inr (.inr (fun j => (fs.getD j none).map Am)))))
  | (t, n, _) => .inl (cy t, n, .inl (σ i))
def xcell (Am : Nat → Nat) (cy : Nat → ClassId) (σ : XS) (i : Nat) : va_E := xcellOf Am cy σ i (shp i)
def xw (Am : Nat → Nat) (cy : Nat → ClassId) (σ : XS) : va_W := (List.range NC).map (fun i => (Am i, xcell Am cy σ i))
def xtys (cy : Nat → ClassId) : List (ClassId × FieldType) := [(cy 1, .int), (cy 2, .char), (cy 3, .boolean), (cy 4, .array .int)]
theorem xw_get {Am : Nat → Nat} {cy : Nat → ClassId} {σ : XS} {i : Nat} (h : i < NC) : (xw Am cy σ)[i]? = some (Am i, xcell Am cy σ i) := by
  unfold xw
  rw [List.getElem?_map, List.getElem?_range h]
  rfl
theorem shp_lt {i t n : Nat} {fs : List (Option Nat)} (h : shp i = (t, n, fs)) (ht : t < 9) : i < NC := by
  rcases Nat.lt_or_ge i NC with q | q
  · exact q
  · exfalso
    have : shp i = (9, 0, []) := by
      unfold shp
      rw [List.getD_eq_getElem?_getD, List.getElem?_eq_none (show shpL.length ≤ i from q)]
      rfl
    rw [this] at h
    have := congrArg Prod.fst h
    simp only at this
    omega
theorem xw_at {Am : Nat → Nat} {cy : Nat → ClassId} {σ : XS} {i t n : Nat} {fs : List (Option Nat)} (h : shp i = (t, n, fs)) (ht : t < 9) : (xw Am cy σ)[i]? = some (Am i, xcellOf Am cy σ i (t, n, fs)) := by
  rw [xw_get (shp_lt h ht), xcell, h]
theorem xflds_get {Am : Nat → Nat} {σ : XS} {i k : Nat} {fs : List (Option Nat)} (h : k < fs.length) : (xflds Am σ i fs)[k]? = some (match fs.getD k none with | some t => .ref (Am t) | none => .int (σ i k)) := by
  unfold xflds
  rw [List.getElem?_map, List.getElem?_range h]
  rfl
theorem xflds_ref {Am : Nat → Nat} {σ : XS} {i k t : Nat} {fs : List (Option Nat)} (h : fs[k]? = some (some t)) : (xflds Am σ i fs)[k]? = some (.ref (Am t)) := by
  rw [xflds_get (List.getElem?_eq_some_iff.mp h).1, List.getD_eq_getElem?_getD, h]
  rfl
theorem xflds_int {Am : Nat → Nat} {σ : XS} {i k : Nat} {fs : List (Option Nat)} (h : fs[k]? = some none) : (xflds Am σ i fs)[k]? = some (.int (σ i k)) := by
  rw [xflds_get (List.getElem?_eq_some_iff.mp h).1, List.getD_eq_getElem?_getD, h]
  rfl
theorem xflds_set {Am : Nat → Nat} {σ : XS} {i k : Nat} {fs : List (Option Nat)} {v : Int32} (h : fs[k]? = some none) : (xflds Am σ i fs).set k (.int v) = xflds Am (xUp σ i k v) i fs := by
  refine List.ext_getElem? (fun j => ?_)
  have hk := (List.getElem?_eq_some_iff.mp h).1
  have hl : (xflds Am σ i fs).length = fs.length := by simp [xflds]
  by_cases hj : j < fs.length
  · rw [xflds_get hj]
    by_cases e : k = j
    · subst e
      rw [List.getElem?_set_self (by omega), List.getD_eq_getElem?_getD, h]
      simp [xUp, xUf, upd]
    · rw [List.getElem?_set_ne e, xflds_get hj]
      have : (xUp σ i k v) i j = σ i j := by simp [xUp, xUf, upd, Ne.symm e]
      rw [this]
  · rw [List.getElem?_eq_none (by simp [hl]; omega), List.getElem?_eq_none (by simp [xflds]; omega)]
theorem xUf_ne {σ : XS} {i a : Nat} {f : Nat → Int32} (h : a ≠ i) : xUf σ i f a = σ a := if_neg h
theorem xUf_eq {σ : XS} {i : Nat} {f : Nat → Int32} : xUf σ i f i = f := if_pos rfl
theorem xcellOf_ne {Am : Nat → Nat} {cy : Nat → ClassId} {σ σ' : XS} {i : Nat} {h : Nat × Nat × List (Option Nat)} (e : σ' i = σ i) : xcellOf Am cy σ' i h = xcellOf Am cy σ i h := by
  have hf : ∀ fs, xflds Am σ' i fs = xflds Am σ i fs := by intro fs; simp [xflds, e]
  unfold xcellOf
  split <;> simp [hf, e]
theorem xw_put {Am : Nat → Nat} {cy : Nat → ClassId} {σ : XS} {i : Nat} {f : Nat → Int32} {e : va_E} (h : i < NC) (he : e = xcell Am cy (xUf σ i f) i) : (xw Am cy σ).set i (Am i, e) = xw Am cy (xUf σ i f) := by
  refine List.ext_getElem? (fun j => ?_)
  by_cases hj : j < NC
  · rw [xw_get hj]
    by_cases q : i = j
    · subst q
      rw [List.getElem?_set_self (by simp [xw]; omega), he]
    · rw [List.getElem?_set_ne q, xw_get hj]
      congr 2
      exact (xcellOf_ne (xUf_ne (Ne.symm q))).symm
  · rw [List.getElem?_eq_none (by simp [xw]; omega), List.getElem?_eq_none (by simp [xw]; omega)]
/-- the texts: their bytes -/
def xbytS : List (List Int32) := [[112, 108, 97, 105, 110], [101, 108, 105, 100, 101, 100], [102, 97, 108, 115, 101], [102, 114, 101, 101], [115, 116, 114, 105, 99, 116], [115, 108, 117, 114, 114, 105, 110, 103], [100, 101, 97, 102], [110, 111, 110, 101], [114, 105, 115, 105, 110, 103], [102, 97, 108, 108, 105, 110, 103], [99, 117, 115, 116, 111, 109, 115], [112, 111, 114, 116], [119, 97, 114, 101], [117, 115, 101, 115], [83, 84, 82], [83, 82], [], [80, 82], [87, 80], [82, 78]]
def xlenS : List Nat := [5, 6, 5, 4, 6, 8, 4, 4, 6, 7, 7, 4, 4, 4, 3, 2, 0, 2, 2, 2]
def xtxtS : List String := ["plain", "elided", "false", "free", "strict", "slurring", "deaf", "none", "rising", "falling", "customs", "port", "ware", "uses", "STR", "SR", "", "PR", "WP", "RN"]
/-- the links to private members of nest mates -/
def xNestL : List (String × Nat × MethodName) := [(RX9, 18, yX7_init), (RX9, 25, yX0_init), (RX9, 32, yX4_init), (RX2, 21, yX4_init), (RX5, 20, yX4_init), (RX8, 58, yX9_at), (RX1, 33, yX9_at), (RX2, 82, yX9_at), (RX3, 38, yX9_at), (RX6, 48, yX9_hasBit), (RX6, 38, yX9_at), (RX5, 99, yX9_hasBit)]
/-- what isn't changed by any call: texts, two constant rows, two statics; z: the first cell that may change -/
def XG (z : Nat) (ad : Nat → Nat) (U : State) (H : Heap) : Prop :=
  vk_S 20 xlenS xbytS ad (fun k => ad (100 + k)) (fun q => z ≤ q) U H ∧
  va_Z "VerseCustoms" "WORD_IS" "[I" (.ref (ad 200)) (fun q => z ≤ q) U H ∧ va_T .int (ad 200) 4 (fun j => .int ([3, 7, 9, 25].getD j 0)) (fun q => z ≤ q) U H ∧
  va_Z "VerseCustoms" "CLERK_IS" "[I" (.ref (ad 201)) (fun q => z ≤ q) U H ∧ va_T .int (ad 201) 3 (fun j => .int ([3, 5, 11].getD j 0)) (fun q => z ≤ q) U H ∧
  va_Z "java/lang/String" "COMPACT_STRINGS" "Z" (.int 1) (fun q => z ≤ q) U H ∧
  va_Zq "jdk/internal/util/Preconditions" "SIOOBE_FORMATTER" "Ljava/util/function/BiFunction;" (fun q => z ≤ q) U H ∧
  (∀ k : Nat, k < 20 → vk_R "VerseCustoms$Text" (126 + 2 * k) (xtxtS.getD k "") (ad k) U) ∧ ∀ q ∈ xNestL, va_Nw (.methodLinkNest q.1 q.2.1 q.2.2 "VerseCustoms") U
theorem XG.warm {z : Nat} {ad : Nat → Nat} {u U : State} {H : Heap} (hW : u.WarmedH U.vm) (h : XG z ad u H) : XG z ad U H :=
  ⟨vk_S.moved hW.alike h.1, va_Z.moved hW.alike h.2.1, va_T.moved hW.alike h.2.2.1, va_Z.moved hW.alike h.2.2.2.1, va_T.moved hW.alike h.2.2.2.2.1, va_Z.moved hW.alike h.2.2.2.2.2.1, va_Zq.moved hW.alike h.2.2.2.2.2.2.1, fun k hk => vk_R.warm hW (h.2.2.2.2.2.2.2.1 k hk), fun q hq => va_Nw.warmM hW (h.2.2.2.2.2.2.2.2 q hq)⟩
theorem XG.same {z : Nat} {ad : Nat → Nat} {u U : State} {H : Heap} (hv : U.vm = u.vm) (h : XG z ad u H) : XG z ad U H := by
  have hvm : u.vm.Alike U.vm := by rw [hv]; exact Vm.Alike.refl _
  exact ⟨vk_S.moved hvm h.1, va_Z.moved hvm h.2.1, va_T.moved hvm h.2.2.1, va_Z.moved hvm h.2.2.2.1, va_T.moved hvm h.2.2.2.2.1, va_Z.moved hvm h.2.2.2.2.2.1, va_Zq.moved hvm h.2.2.2.2.2.2.1, fun k hk => vk_R.same hv (h.2.2.2.2.2.2.2.1 k hk), fun q hq => va_Nw.same rfl hv.symm (h.2.2.2.2.2.2.2.2 q hq)⟩
theorem XG.kept {z : Nat} {ad : Nat → Nat} {U : State} {H H1 : Heap} (h : XG z ad U H) (hq : ∀ a : Nat, a < H.size → ¬ z ≤ a → H1[a]? = H[a]?) : XG z ad U H1 :=
  ⟨h.1.kept hq, h.2.1.kept hq, h.2.2.1.kept hq, h.2.2.2.1.kept hq, h.2.2.2.2.1.kept hq, h.2.2.2.2.2.1.kept hq, va_Zq.kept h.2.2.2.2.2.2.1 hq, h.2.2.2.2.2.2.2⟩

abbrev XC : Type := Program × Launch × Env × Room × State × MethodId × Array Value × List Frame × Method × Code × (va_G × (Nat → Nat) × (Nat → ClassId) × Nat × (Nat → Nat)) × (Nat → Prop) × (State → Prop) × Nat × Nat
def xa (X : XC) (i : Nat) : Nat := X.2.2.2.2.2.2.2.2.2.2.1.2.1 i
/-- constants' addresses -/
def xk (X : XC) (i : Nat) : Nat := X.2.2.2.2.2.2.2.2.2.2.1.2.2.2.2 i
def xW (X : XC) (H : Heap) (locs : List Loc) (pc : Nat) (ls : Array Slot) (st : List Value) : Prop := match X with
  | (p, l, e, R, s, m, args, below, meth, c, _, _, Q, cells, slots) => W p l e R s m args below meth c H locs cells slots Q (F0 m pc ls st)
def xHold (X : XC) (σ : XS) (H : Heap) (locs : List Loc) : Prop := match X with
  | (_, _, _, _, s, _, _, _, _, _, (D, Am, cy, _, _), A0, _, _, _) => va_P D vwCl (xw Am cy σ) H ∧ va_D A0 (xw Am cy σ) ∧ va_S A0 s.heap H locs
def JF (X : XC) (o : XO) (nL : Nat) (pc : Nat) (lv : List (Nat × Value)) (st : List Value) (σ : XS) (T : Option XO) : Prop := T = some o → ∀ (H : Heap) (locs : List Loc) (ls : Array Slot), lv_has ls nL lv → xHold X σ H locs → xW X H locs pc ls st
def XE (X : XC) (cc : ByteArray) (own : String) (nL fr lo : Nat) : Prop := match X with
  | (p, _, _, R, s, m, args, _, _, c, (D, _, cy, z, ad), A0, _, cells, slots) => p.tables.exec = Jvm.exec ∧ c.code = cc ∧ c.maxLocals = nL ∧ s.vm.findClass own = some m.cls ∧ (∀ w ∈ xG, w.before args s = true) ∧ va_K D vwCl (xtys cy) s ∧ (∀ q, s.heap.size ≤ q → A0 q) ∧ (∀ q, A0 q → z ≤ q) ∧ z ≤ s.heap.size ∧ XG z ad s s.heap ∧ R.frames = fr ∧ R.locals = lo ∧ cells ≤ R.cells ∧ slots ≤ R.slots
/-- the end of a method whose answer is a number -/
def XI (X : XC) (o : XO) (cc : ByteArray) : Prop := ∀ (pc : Nat) (H : Heap) (locs : List Loc) (ls : Array Slot), decode cc pc = .ok (.ireturn, 1) → xHold X o.2 H locs → xW X H locs pc ls [.int o.1]
def XV (X : XC) (o : XO) (cc : ByteArray) : Prop := ∀ (pc : Nat) (H : Heap) (locs : List Loc) (ls : Array Slot), decode cc pc = .ok (.return_, 1) → xHold X o.2 H locs → xW X H locs pc ls []
/-- the end of a method whose answer is a text -/
def XR (X : XC) (o : XO) (cc : ByteArray) : Prop := ∀ (pc : Nat) (H : Heap) (locs : List Loc) (ls : Array Slot) (k : Nat), k < 20 → o.1 = nI k → decode cc pc = .ok (.areturn, 1) → xHold X o.2 H locs → xW X H locs pc ls [.ref (xk X k)]

section JR
variable {X : XC} {o : XO} {cc : ByteArray} {own : String} {nL fr lo : Nat} {pc : Nat} {lv : List (Nat × Value)} {st : List Value} {σ : XS} {T : Option XO}
theorem JF.none {X : XC} {o : XO} {nL pc : Nat} {lv : List (Nat × Value)} {st : List Value} {σ : XS} : JF X o nL pc lv st σ none := fun h => by cases h
theorem JF.gd {b : Bool} (K : b = true → JF X o nL pc lv st σ T) : JF X o nL pc lv st σ (gd b T) := by
  cases b with
  | true => exact K rfl
  | false => exact JF.none
theorem JF.ite {q : Prop} {dq : Decidable q} {T1 T2 : Option XO} (K1 : q → JF X o nL pc lv st σ T1) (K2 : ¬ q → JF X o nL pc lv st σ T2) : JF X o nL pc lv st σ (@ite _ q dq T1 T2) := by
  by_cases h : q
  · rw [if_pos h]; exact K1 h
  · rw [if_neg h]; exact K2 h
theorem JF.sub {lv1 : List (Nat × Value)} (ks : List Nat) (h : lv_pick lv ks = lv1) (K : JF X o nL pc lv1 st σ T) : JF X o nL pc lv st σ T := fun hT H locs ls hl hH => K hT H locs ls (lv_sub hl ks h) hH
def xLet (v : XS) (k : XS → Option XO) : Option XO := k v
def xLetI (v : Int32) (k : Int32 → Option XO) : Option XO := k v
def xLetL (v : Int64) (k : Int64 → Option XO) : Option XO := k v
theorem JF.xlet {v : XS} {kk : XS → Option XO} (K : ∀ w, v = w → JF X o nL pc lv st σ (kk w)) : JF X o nL pc lv st σ (xLet v kk) := K v rfl
theorem JF.xletI {v : Int32} {kk : Int32 → Option XO} (K : ∀ w, JF X o nL pc lv (.int w :: st) σ (kk w)) : JF X o nL pc lv (.int v :: st) σ (xLetI v kk) := K v
theorem JF.xletL {v : Int64} {kk : Int64 → Option XO} (K : ∀ w, JF X o nL pc lv (.long w :: st) σ (kk w)) : JF X o nL pc lv (.long v :: st) σ (xLetL v kk) := K v
theorem JF.eq {T2 : Option XO} (h : T = T2) (K : JF X o nL pc lv st σ T2) : JF X o nL pc lv st σ T := h ▸ K
theorem j_iconst {n : Int} {v : Int32} (hv : Int32.ofInt n = v) (E : XE X cc own nL fr lo) (d : decode cc pc = .ok (.iconst n, 1)) (K : JF X o nL (pc + 1) lv (.int v :: st) σ T) : JF X o nL pc lv (st) σ T := by
  obtain ⟨p, l, e, R, s, m, args, below, meth, c, ⟨D, Am, cy, z, ad⟩, A0, Q, cells, slots⟩ := X
  obtain ⟨hx, hb, hml, hown, hts, hK, hA, hAz, hz, hG, hfr, hlo, hcl, hsl⟩ := E
  intro hT H locs ls hl hH
  exact lv_iconst hx hb d hv (K hT H locs ls hl hH)
theorem j_bipush {n : Int} {v : Int32} (hv : (Int8.ofInt n).toInt32 = v) (E : XE X cc own nL fr lo) (d : decode cc pc = .ok (.bipush n, 2)) (K : JF X o nL (pc + 2) lv (.int v :: st) σ T) : JF X o nL pc lv (st) σ T := by
  obtain ⟨p, l, e, R, s, m, args, below, meth, c, ⟨D, Am, cy, z, ad⟩, A0, Q, cells, slots⟩ := X
  obtain ⟨hx, hb, hml, hown, hts, hK, hA, hAz, hz, hG, hfr, hlo, hcl, hsl⟩ := E
  intro hT H locs ls hl hH
  exact lv_bipush hx hb d hv (K hT H locs ls hl hH)
theorem j_sipush {n : Int} {v : Int32} (hv : (Int16.ofInt n).toInt32 = v) (E : XE X cc own nL fr lo) (d : decode cc pc = .ok (.sipush n, 3)) (K : JF X o nL (pc + 3) lv (.int v :: st) σ T) : JF X o nL pc lv (st) σ T := by
  obtain ⟨p, l, e, R, s, m, args, below, meth, c, ⟨D, Am, cy, z, ad⟩, A0, Q, cells, slots⟩ := X
  obtain ⟨hx, hb, hml, hown, hts, hK, hA, hAz, hz, hG, hfr, hlo, hcl, hsl⟩ := E
  intro hT H locs ls hl hH
  exact lv_sipush hx hb d hv (K hT H locs ls hl hH)
theorem j_lconst {n : Fin 2} {v : Int64} (hv : Int64.ofNat (n : Nat) = v) (E : XE X cc own nL fr lo) (d : decode cc pc = .ok (.lconst n, 1)) (K : JF X o nL (pc + 1) lv (.long v :: st) σ T) : JF X o nL pc lv (st) σ T := by
  obtain ⟨p, l, e, R, s, m, args, below, meth, c, ⟨D, Am, cy, z, ad⟩, A0, Q, cells, slots⟩ := X
  obtain ⟨hx, hb, hml, hown, hts, hK, hA, hAz, hz, hG, hfr, hlo, hcl, hsl⟩ := E
  intro hT H locs ls hl hH
  exact lv_lconst hx hb d hv (K hT H locs ls hl hH)
theorem j_iload_n {k : Fin 4} {i : Nat} {x : Int32} (hi : (k : Nat) = i) (q : Nat) (h : lv[q]? = some (i, .int x)) (E : XE X cc own nL fr lo) (d : decode cc pc = .ok (.iload_n k, 1)) (K : JF X o nL (pc + 1) lv (.int x :: st) σ T) : JF X o nL pc lv (st) σ T := by
  obtain ⟨p, l, e, R, s, m, args, below, meth, c, ⟨D, Am, cy, z, ad⟩, A0, Q, cells, slots⟩ := X
  obtain ⟨hx, hb, hml, hown, hts, hK, hA, hAz, hz, hG, hfr, hlo, hcl, hsl⟩ := E
  intro hT H locs ls hl hH
  exact lv_iload_n hx hb d hi (lv_at hl q h) (K hT H locs ls hl hH)
theorem j_iload {i : Nat} {x : Int32} (q : Nat) (h : lv[q]? = some (i, .int x)) (E : XE X cc own nL fr lo) (d : decode cc pc = .ok (.iload i, 2)) (K : JF X o nL (pc + 2) lv (.int x :: st) σ T) : JF X o nL pc lv (st) σ T := by
  obtain ⟨p, l, e, R, s, m, args, below, meth, c, ⟨D, Am, cy, z, ad⟩, A0, Q, cells, slots⟩ := X
  obtain ⟨hx, hb, hml, hown, hts, hK, hA, hAz, hz, hG, hfr, hlo, hcl, hsl⟩ := E
  intro hT H locs ls hl hH
  exact lv_iload hx hb d (lv_at hl q h) (K hT H locs ls hl hH)
theorem j_lload_n {k : Fin 4} {i : Nat} {x : Int64} (hi : (k : Nat) = i) (q : Nat) (h : lv[q]? = some (i, .long x)) (E : XE X cc own nL fr lo) (d : decode cc pc = .ok (.lload_n k, 1)) (K : JF X o nL (pc + 1) lv (.long x :: st) σ T) : JF X o nL pc lv (st) σ T := by
  obtain ⟨p, l, e, R, s, m, args, below, meth, c, ⟨D, Am, cy, z, ad⟩, A0, Q, cells, slots⟩ := X
  obtain ⟨hx, hb, hml, hown, hts, hK, hA, hAz, hz, hG, hfr, hlo, hcl, hsl⟩ := E
  intro hT H locs ls hl hH
  exact lv_lload_n hx hb d hi (lv_at hl q h) (K hT H locs ls hl hH)
theorem j_lload {i : Nat} {x : Int64} (q : Nat) (h : lv[q]? = some (i, .long x)) (E : XE X cc own nL fr lo) (d : decode cc pc = .ok (.lload i, 2)) (K : JF X o nL (pc + 2) lv (.long x :: st) σ T) : JF X o nL pc lv (st) σ T := by
  obtain ⟨p, l, e, R, s, m, args, below, meth, c, ⟨D, Am, cy, z, ad⟩, A0, Q, cells, slots⟩ := X
  obtain ⟨hx, hb, hml, hown, hts, hK, hA, hAz, hz, hG, hfr, hlo, hcl, hsl⟩ := E
  intro hT H locs ls hl hH
  exact lv_lload hx hb d (lv_at hl q h) (K hT H locs ls hl hH)
theorem j_aload_n {k : Fin 4} {i : Nat} {x : Nat} (hi : (k : Nat) = i) (q : Nat) (h : lv[q]? = some (i, .ref x)) (E : XE X cc own nL fr lo) (d : decode cc pc = .ok (.aload_n k, 1)) (K : JF X o nL (pc + 1) lv (.ref x :: st) σ T) : JF X o nL pc lv (st) σ T := by
  obtain ⟨p, l, e, R, s, m, args, below, meth, c, ⟨D, Am, cy, z, ad⟩, A0, Q, cells, slots⟩ := X
  obtain ⟨hx, hb, hml, hown, hts, hK, hA, hAz, hz, hG, hfr, hlo, hcl, hsl⟩ := E
  intro hT H locs ls hl hH
  exact lv_aload_n hx hb d hi (lv_at hl q h) (K hT H locs ls hl hH)
theorem j_aload {i : Nat} {x : Nat} (q : Nat) (h : lv[q]? = some (i, .ref x)) (E : XE X cc own nL fr lo) (d : decode cc pc = .ok (.aload i, 2)) (K : JF X o nL (pc + 2) lv (.ref x :: st) σ T) : JF X o nL pc lv (st) σ T := by
  obtain ⟨p, l, e, R, s, m, args, below, meth, c, ⟨D, Am, cy, z, ad⟩, A0, Q, cells, slots⟩ := X
  obtain ⟨hx, hb, hml, hown, hts, hK, hA, hAz, hz, hG, hfr, hlo, hcl, hsl⟩ := E
  intro hT H locs ls hl hH
  exact lv_aload hx hb d (lv_at hl q h) (K hT H locs ls hl hH)
theorem j_istore_n {k : Fin 4} {i : Nat} {x : Int32} {lv1 : List (Nat × Value)} (E : XE X cc own nL fr lo) (d : decode cc pc = .ok (.istore_n k, 1)) (hi : (k : Nat) = i) (hn : i < nL) (hl1 : (i, Value.int x) :: lv.filter (fun q => !(q.1 == i) && !(q.1 + 1 == i && q.2.category == 2)) = lv1) (K : JF X o nL (pc + 1) lv1 st σ T) : JF X o nL pc lv (.int x :: st) σ T := by
  obtain ⟨p, l, e, R, s, m, args, below, meth, c, ⟨D, Am, cy, z, ad⟩, A0, Q, cells, slots⟩ := X
  obtain ⟨hx, hb, hml, hown, hts, hK, hA, hAz, hz, hG, hfr, hlo, hcl, hsl⟩ := E
  intro hT H locs ls hl hH
  exact lv_istore_n hx hb d hi hl hn hl1 (fun ls1 hl1 => K hT H locs ls1 hl1 hH)
theorem j_istore {i : Nat} {x : Int32} {lv1 : List (Nat × Value)} (E : XE X cc own nL fr lo) (d : decode cc pc = .ok (.istore i, 2)) (hn : i < nL) (hl1 : (i, Value.int x) :: lv.filter (fun q => !(q.1 == i) && !(q.1 + 1 == i && q.2.category == 2)) = lv1) (K : JF X o nL (pc + 2) lv1 st σ T) : JF X o nL pc lv (.int x :: st) σ T := by
  obtain ⟨p, l, e, R, s, m, args, below, meth, c, ⟨D, Am, cy, z, ad⟩, A0, Q, cells, slots⟩ := X
  obtain ⟨hx, hb, hml, hown, hts, hK, hA, hAz, hz, hG, hfr, hlo, hcl, hsl⟩ := E
  intro hT H locs ls hl hH
  exact lv_istore hx hb d hl hn hl1 (fun ls1 hl1 => K hT H locs ls1 hl1 hH)
theorem j_astore_n {k : Fin 4} {i : Nat} {x : Nat} {lv1 : List (Nat × Value)} (E : XE X cc own nL fr lo) (d : decode cc pc = .ok (.astore_n k, 1)) (hi : (k : Nat) = i) (hn : i < nL) (hl1 : (i, Value.ref x) :: lv.filter (fun q => !(q.1 == i) && !(q.1 + 1 == i && q.2.category == 2)) = lv1) (K : JF X o nL (pc + 1) lv1 st σ T) : JF X o nL pc lv (.ref x :: st) σ T := by
  obtain ⟨p, l, e, R, s, m, args, below, meth, c, ⟨D, Am, cy, z, ad⟩, A0, Q, cells, slots⟩ := X
  obtain ⟨hx, hb, hml, hown, hts, hK, hA, hAz, hz, hG, hfr, hlo, hcl, hsl⟩ := E
  intro hT H locs ls hl hH
  exact lv_astore_n hx hb d hi hl hn hl1 (fun ls1 hl1 => K hT H locs ls1 hl1 hH)
theorem j_astore {i : Nat} {x : Nat} {lv1 : List (Nat × Value)} (E : XE X cc own nL fr lo) (d : decode cc pc = .ok (.astore i, 2)) (hn : i < nL) (hl1 : (i, Value.ref x) :: lv.filter (fun q => !(q.1 == i) && !(q.1 + 1 == i && q.2.category == 2)) = lv1) (K : JF X o nL (pc + 2) lv1 st σ T) : JF X o nL pc lv (.ref x :: st) σ T := by
  obtain ⟨p, l, e, R, s, m, args, below, meth, c, ⟨D, Am, cy, z, ad⟩, A0, Q, cells, slots⟩ := X
  obtain ⟨hx, hb, hml, hown, hts, hK, hA, hAz, hz, hG, hfr, hlo, hcl, hsl⟩ := E
  intro hT H locs ls hl hH
  exact lv_astore hx hb d hl hn hl1 (fun ls1 hl1 => K hT H locs ls1 hl1 hH)
theorem j_lstore_n {k : Fin 4} {i : Nat} {x : Int64} {lv1 : List (Nat × Value)} (E : XE X cc own nL fr lo) (d : decode cc pc = .ok (.lstore_n k, 1)) (hi : (k : Nat) = i) (hn : i + 1 < nL) (hl1 : (i, Value.long x) :: lv.filter (fun q => !(q.1 == i) && (!(q.1 == i + 1) && !(q.1 + 1 == i && q.2.category == 2))) = lv1) (K : JF X o nL (pc + 1) lv1 st σ T) : JF X o nL pc lv (.long x :: st) σ T := by
  obtain ⟨p, l, e, R, s, m, args, below, meth, c, ⟨D, Am, cy, z, ad⟩, A0, Q, cells, slots⟩ := X
  obtain ⟨hx, hb, hml, hown, hts, hK, hA, hAz, hz, hG, hfr, hlo, hcl, hsl⟩ := E
  intro hT H locs ls hl hH
  exact lv_lstore_n hx hb d hi hl hn hl1 (fun ls1 hl1 => K hT H locs ls1 hl1 hH)
theorem j_lstore {i : Nat} {x : Int64} {lv1 : List (Nat × Value)} (E : XE X cc own nL fr lo) (d : decode cc pc = .ok (.lstore i, 2)) (hn : i + 1 < nL) (hl1 : (i, Value.long x) :: lv.filter (fun q => !(q.1 == i) && (!(q.1 == i + 1) && !(q.1 + 1 == i && q.2.category == 2))) = lv1) (K : JF X o nL (pc + 2) lv1 st σ T) : JF X o nL pc lv (.long x :: st) σ T := by
  obtain ⟨p, l, e, R, s, m, args, below, meth, c, ⟨D, Am, cy, z, ad⟩, A0, Q, cells, slots⟩ := X
  obtain ⟨hx, hb, hml, hown, hts, hK, hA, hAz, hz, hG, hfr, hlo, hcl, hsl⟩ := E
  intro hT H locs ls hl hH
  exact lv_lstore hx hb d hl hn hl1 (fun ls1 hl1 => K hT H locs ls1 hl1 hH)
theorem j_iinc {i : Nat} {n : Int} {x v : Int32} {lv1 : List (Nat × Value)} (E : XE X cc own nL fr lo) (d : decode cc pc = .ok (.iinc i n, 3)) (q : Nat) (h : lv[q]? = some (i, .int x)) (hv : x + Int32.ofInt n = v) (hn : i < nL) (hl1 : (i, Value.int v) :: lv.filter (fun q => !(q.1 == i) && !(q.1 + 1 == i && q.2.category == 2)) = lv1) (K : JF X o nL (pc + 3) lv1 st σ T) : JF X o nL pc lv st σ T := by
  obtain ⟨p, l, e, R, s, m, args, below, meth, c, ⟨D, Am, cy, z, ad⟩, A0, Q, cells, slots⟩ := X
  obtain ⟨hx, hb, hml, hown, hts, hK, hA, hAz, hz, hG, hfr, hlo, hcl, hsl⟩ := E
  intro hT H locs ls hl hH
  exact lv_iinc (k := q) hx hb d hl h hv hn hl1 (fun ls1 hl1 => K hT H locs ls1 hl1 hH)
theorem j_iadd {x y : Int32} (E : XE X cc own nL fr lo) (d : decode cc pc = .ok (.iadd, 1)) (K : JF X o nL (pc + 1) lv (.int (x + y) :: st) σ T) : JF X o nL pc lv (.int y :: .int x :: st) σ T := by
  obtain ⟨p, l, e, R, s, m, args, below, meth, c, ⟨D, Am, cy, z, ad⟩, A0, Q, cells, slots⟩ := X
  obtain ⟨hx, hb, hml, hown, hts, hK, hA, hAz, hz, hG, hfr, hlo, hcl, hsl⟩ := E
  intro hT H locs ls hl hH
  exact lv_iadd hx hb d (K hT H locs ls hl hH)
theorem j_isub {x y : Int32} (E : XE X cc own nL fr lo) (d : decode cc pc = .ok (.isub, 1)) (K : JF X o nL (pc + 1) lv (.int (x - y) :: st) σ T) : JF X o nL pc lv (.int y :: .int x :: st) σ T := by
  obtain ⟨p, l, e, R, s, m, args, below, meth, c, ⟨D, Am, cy, z, ad⟩, A0, Q, cells, slots⟩ := X
  obtain ⟨hx, hb, hml, hown, hts, hK, hA, hAz, hz, hG, hfr, hlo, hcl, hsl⟩ := E
  intro hT H locs ls hl hH
  exact lv_isub hx hb d (K hT H locs ls hl hH)
theorem j_imul {x y : Int32} (E : XE X cc own nL fr lo) (d : decode cc pc = .ok (.imul, 1)) (K : JF X o nL (pc + 1) lv (.int (x * y) :: st) σ T) : JF X o nL pc lv (.int y :: .int x :: st) σ T := by
  obtain ⟨p, l, e, R, s, m, args, below, meth, c, ⟨D, Am, cy, z, ad⟩, A0, Q, cells, slots⟩ := X
  obtain ⟨hx, hb, hml, hown, hts, hK, hA, hAz, hz, hG, hfr, hlo, hcl, hsl⟩ := E
  intro hT H locs ls hl hH
  exact lv_imul hx hb d (K hT H locs ls hl hH)
theorem j_iand {x y : Int32} (E : XE X cc own nL fr lo) (d : decode cc pc = .ok (.iand, 1)) (K : JF X o nL (pc + 1) lv (.int (x &&& y) :: st) σ T) : JF X o nL pc lv (.int y :: .int x :: st) σ T := by
  obtain ⟨p, l, e, R, s, m, args, below, meth, c, ⟨D, Am, cy, z, ad⟩, A0, Q, cells, slots⟩ := X
  obtain ⟨hx, hb, hml, hown, hts, hK, hA, hAz, hz, hG, hfr, hlo, hcl, hsl⟩ := E
  intro hT H locs ls hl hH
  exact lv_iand hx hb d (K hT H locs ls hl hH)
theorem j_ior {x y : Int32} (E : XE X cc own nL fr lo) (d : decode cc pc = .ok (.ior, 1)) (K : JF X o nL (pc + 1) lv (.int (x ||| y) :: st) σ T) : JF X o nL pc lv (.int y :: .int x :: st) σ T := by
  obtain ⟨p, l, e, R, s, m, args, below, meth, c, ⟨D, Am, cy, z, ad⟩, A0, Q, cells, slots⟩ := X
  obtain ⟨hx, hb, hml, hown, hts, hK, hA, hAz, hz, hG, hfr, hlo, hcl, hsl⟩ := E
  intro hT H locs ls hl hH
  exact lv_ior hx hb d (K hT H locs ls hl hH)
theorem j_ishl {x y : Int32} (E : XE X cc own nL fr lo) (d : decode cc pc = .ok (.ishl, 1)) (K : JF X o nL (pc + 1) lv (.int (x <<< (y &&& 31)) :: st) σ T) : JF X o nL pc lv (.int y :: .int x :: st) σ T := by
  obtain ⟨p, l, e, R, s, m, args, below, meth, c, ⟨D, Am, cy, z, ad⟩, A0, Q, cells, slots⟩ := X
  obtain ⟨hx, hb, hml, hown, hts, hK, hA, hAz, hz, hG, hfr, hlo, hcl, hsl⟩ := E
  intro hT H locs ls hl hH
  exact lv_ishl hx hb d (K hT H locs ls hl hH)
theorem j_ishr {x y : Int32} (E : XE X cc own nL fr lo) (d : decode cc pc = .ok (.ishr, 1)) (K : JF X o nL (pc + 1) lv (.int (x >>> (y &&& 31)) :: st) σ T) : JF X o nL pc lv (.int y :: .int x :: st) σ T := by
  obtain ⟨p, l, e, R, s, m, args, below, meth, c, ⟨D, Am, cy, z, ad⟩, A0, Q, cells, slots⟩ := X
  obtain ⟨hx, hb, hml, hown, hts, hK, hA, hAz, hz, hG, hfr, hlo, hcl, hsl⟩ := E
  intro hT H locs ls hl hH
  exact lv_ishr hx hb d (K hT H locs ls hl hH)
theorem j_ladd {x y : Int64} (E : XE X cc own nL fr lo) (d : decode cc pc = .ok (.ladd, 1)) (K : JF X o nL (pc + 1) lv (.long (x + y) :: st) σ T) : JF X o nL pc lv (.long y :: .long x :: st) σ T := by
  obtain ⟨p, l, e, R, s, m, args, below, meth, c, ⟨D, Am, cy, z, ad⟩, A0, Q, cells, slots⟩ := X
  obtain ⟨hx, hb, hml, hown, hts, hK, hA, hAz, hz, hG, hfr, hlo, hcl, hsl⟩ := E
  intro hT H locs ls hl hH
  exact lv_ladd hx hb d (K hT H locs ls hl hH)
theorem j_lsub {x y : Int64} (E : XE X cc own nL fr lo) (d : decode cc pc = .ok (.lsub, 1)) (K : JF X o nL (pc + 1) lv (.long (x - y) :: st) σ T) : JF X o nL pc lv (.long y :: .long x :: st) σ T := by
  obtain ⟨p, l, e, R, s, m, args, below, meth, c, ⟨D, Am, cy, z, ad⟩, A0, Q, cells, slots⟩ := X
  obtain ⟨hx, hb, hml, hown, hts, hK, hA, hAz, hz, hG, hfr, hlo, hcl, hsl⟩ := E
  intro hT H locs ls hl hH
  exact lv_lsub hx hb d (K hT H locs ls hl hH)
theorem j_lmul {x y : Int64} (E : XE X cc own nL fr lo) (d : decode cc pc = .ok (.lmul, 1)) (K : JF X o nL (pc + 1) lv (.long (x * y) :: st) σ T) : JF X o nL pc lv (.long y :: .long x :: st) σ T := by
  obtain ⟨p, l, e, R, s, m, args, below, meth, c, ⟨D, Am, cy, z, ad⟩, A0, Q, cells, slots⟩ := X
  obtain ⟨hx, hb, hml, hown, hts, hK, hA, hAz, hz, hG, hfr, hlo, hcl, hsl⟩ := E
  intro hT H locs ls hl hH
  exact lv_lmul hx hb d (K hT H locs ls hl hH)
theorem j_i2l {x : Int32} (E : XE X cc own nL fr lo) (d : decode cc pc = .ok (.i2l, 1)) (K : JF X o nL (pc + 1) lv (.long x.toInt64 :: st) σ T) : JF X o nL pc lv (.int x :: st) σ T := by
  obtain ⟨p, l, e, R, s, m, args, below, meth, c, ⟨D, Am, cy, z, ad⟩, A0, Q, cells, slots⟩ := X
  obtain ⟨hx, hb, hml, hown, hts, hK, hA, hAz, hz, hG, hfr, hlo, hcl, hsl⟩ := E
  intro hT H locs ls hl hH
  exact lv_i2l hx hb d rfl (K hT H locs ls hl hH)
theorem j_i2c {x : Int32} (E : XE X cc own nL fr lo) (d : decode cc pc = .ok (.i2c, 1)) (K : JF X o nL (pc + 1) lv (.int (x.toUInt32 % 65536).toInt32 :: st) σ T) : JF X o nL pc lv (.int x :: st) σ T := by
  obtain ⟨p, l, e, R, s, m, args, below, meth, c, ⟨D, Am, cy, z, ad⟩, A0, Q, cells, slots⟩ := X
  obtain ⟨hx, hb, hml, hown, hts, hK, hA, hAz, hz, hG, hfr, hlo, hcl, hsl⟩ := E
  intro hT H locs ls hl hH
  exact lv_i2c hx hb d rfl (K hT H locs ls hl hH)
theorem j_lcmp {x y : Int64} (E : XE X cc own nL fr lo) (d : decode cc pc = .ok (.lcmp, 1)) (K : JF X o nL (pc + 1) lv (.int (lg_cmp x y) :: st) σ T) : JF X o nL pc lv (.long y :: .long x :: st) σ T := by
  obtain ⟨p, l, e, R, s, m, args, below, meth, c, ⟨D, Am, cy, z, ad⟩, A0, Q, cells, slots⟩ := X
  obtain ⟨hx, hb, hml, hown, hts, hK, hA, hAz, hz, hG, hfr, hlo, hcl, hsl⟩ := E
  intro hT H locs ls hl hH
  exact W.lcmp hx hb d (K hT H locs ls hl hH)
theorem j_dup {v : Value} (hc : v.category = 1) (E : XE X cc own nL fr lo) (d : decode cc pc = .ok (.dup, 1)) (K : JF X o nL (pc + 1) lv (v :: v :: st) σ T) : JF X o nL pc lv (v :: st) σ T := by
  obtain ⟨p, l, e, R, s, m, args, below, meth, c, ⟨D, Am, cy, z, ad⟩, A0, Q, cells, slots⟩ := X
  obtain ⟨hx, hb, hml, hown, hts, hK, hA, hAz, hz, hG, hfr, hlo, hcl, hsl⟩ := E
  intro hT H locs ls hl hH
  exact lv_dup hx hb d hc (K hT H locs ls hl hH)
theorem j_dup2 {v w : Value} (hc : v.category = 1) (hc2 : w.category = 1) (E : XE X cc own nL fr lo) (d : decode cc pc = .ok (.dup2, 1)) (K : JF X o nL (pc + 1) lv (v :: w :: v :: w :: st) σ T) : JF X o nL pc lv (v :: w :: st) σ T := by
  obtain ⟨p, l, e, R, s, m, args, below, meth, c, ⟨D, Am, cy, z, ad⟩, A0, Q, cells, slots⟩ := X
  obtain ⟨hx, hb, hml, hown, hts, hK, hA, hAz, hz, hG, hfr, hlo, hcl, hsl⟩ := E
  intro hT H locs ls hl hH
  exact lv_dup2_11 hx hb d hc hc2 (K hT H locs ls hl hH)
theorem j_pop {v : Value} (hc : v.category = 1) (E : XE X cc own nL fr lo) (d : decode cc pc = .ok (.pop, 1)) (K : JF X o nL (pc + 1) lv (st) σ T) : JF X o nL pc lv (v :: st) σ T := by
  obtain ⟨p, l, e, R, s, m, args, below, meth, c, ⟨D, Am, cy, z, ad⟩, A0, Q, cells, slots⟩ := X
  obtain ⟨hx, hb, hml, hown, hts, hK, hA, hAz, hz, hG, hfr, hlo, hcl, hsl⟩ := E
  intro hT H locs ls hl hH
  exact lv_pop hx hb d hc (K hT H locs ls hl hH)
theorem j_idiv {x y : Int32} (E : XE X cc own nL fr lo) (d : decode cc pc = .ok (.idiv, 1)) (K : JF X o nL (pc + 1) lv (.int (x / y) :: st) σ T) : JF X o nL pc lv (.int y :: .int x :: st) σ (gd (!decide (y = 0)) T) := by
  refine JF.gd (fun hg => ?_)
  obtain ⟨p, l, e, R, s, m, args, below, meth, c, ⟨D, Am, cy, z, ad⟩, A0, Q, cells, slots⟩ := X
  obtain ⟨hx, hb, hml, hown, hts, hK, hA, hAz, hz, hG, hfr, hlo, hcl, hsl⟩ := E
  intro hT H locs ls hl hH
  exact lv_idiv hx hb d (by simpa using hg) (K hT H locs ls hl hH)
theorem j_irem {x y : Int32} (E : XE X cc own nL fr lo) (d : decode cc pc = .ok (.irem, 1)) (K : JF X o nL (pc + 1) lv (.int (x - x / y * y) :: st) σ T) : JF X o nL pc lv (.int y :: .int x :: st) σ (gd (!decide (y = 0)) T) := by
  refine JF.gd (fun hg => ?_)
  obtain ⟨p, l, e, R, s, m, args, below, meth, c, ⟨D, Am, cy, z, ad⟩, A0, Q, cells, slots⟩ := X
  obtain ⟨hx, hb, hml, hown, hts, hK, hA, hAz, hz, hG, hfr, hlo, hcl, hsl⟩ := E
  intro hT H locs ls hl hH
  exact lv_irem hx hb d (by simpa using hg) (K hT H locs ls hl hH)
theorem j_goto {off : Int} {tgt : Nat} (E : XE X cc own nL fr lo) (d : decode cc pc = .ok (.goto off, 3)) (ht : (pc : Int) + off = (tgt : Int)) (K : JF X o nL tgt lv st σ T) : JF X o nL pc lv st σ T := by
  obtain ⟨p, l, e, R, s, m, args, below, meth, c, ⟨D, Am, cy, z, ad⟩, A0, Q, cells, slots⟩ := X
  obtain ⟨hx, hb, hml, hown, hts, hK, hA, hAz, hz, hG, hfr, hlo, hcl, hsl⟩ := E
  intro hT H locs ls hl hH
  exact lv_goto hx hb d ht (K hT H locs ls hl hH)
theorem j_if_eq {x : Int32} {T1 T2 : Option XO} {off : Int} {tgt : Nat} (E : XE X cc own nL fr lo) (d : decode cc pc = .ok (.ifCond .eq off, 3)) (ht : (pc : Int) + off = (tgt : Int)) (K1 : JF X o nL tgt lv st σ T1) (K2 : JF X o nL (pc + 3) lv st σ T2) : JF X o nL pc lv (.int x :: st) σ (if x = 0 then T1 else T2) := by
  obtain ⟨p, l, e, R, s, m, args, below, meth, c, ⟨D, Am, cy, z, ad⟩, A0, Q, cells, slots⟩ := X
  obtain ⟨hx, hb, hml, hown, hts, hK, hA, hAz, hz, hG, hfr, hlo, hcl, hsl⟩ := E
  intro hT H locs ls hl hH
  refine lv_if_eq hx hb d ht (fun q => K1 (by rw [if_pos q] at hT; exact hT) H locs ls hl hH) (fun q => K2 (by rw [if_neg q] at hT; exact hT) H locs ls hl hH)
theorem j_if_ne {x : Int32} {T1 T2 : Option XO} {off : Int} {tgt : Nat} (E : XE X cc own nL fr lo) (d : decode cc pc = .ok (.ifCond .ne off, 3)) (ht : (pc : Int) + off = (tgt : Int)) (K1 : JF X o nL (pc + 3) lv st σ T1) (K2 : JF X o nL tgt lv st σ T2) : JF X o nL pc lv (.int x :: st) σ (if x = 0 then T1 else T2) := by
  obtain ⟨p, l, e, R, s, m, args, below, meth, c, ⟨D, Am, cy, z, ad⟩, A0, Q, cells, slots⟩ := X
  obtain ⟨hx, hb, hml, hown, hts, hK, hA, hAz, hz, hG, hfr, hlo, hcl, hsl⟩ := E
  intro hT H locs ls hl hH
  refine lv_if_ne hx hb d ht (fun q => K2 (by rw [if_neg q] at hT; exact hT) H locs ls hl hH) (fun q => K1 (by rw [if_pos q] at hT; exact hT) H locs ls hl hH)
theorem j_if_lt {x : Int32} {T1 T2 : Option XO} {off : Int} {tgt : Nat} (E : XE X cc own nL fr lo) (d : decode cc pc = .ok (.ifCond .lt off, 3)) (ht : (pc : Int) + off = (tgt : Int)) (K1 : JF X o nL tgt lv st σ T1) (K2 : JF X o nL (pc + 3) lv st σ T2) : JF X o nL pc lv (.int x :: st) σ (if x < 0 then T1 else T2) := by
  obtain ⟨p, l, e, R, s, m, args, below, meth, c, ⟨D, Am, cy, z, ad⟩, A0, Q, cells, slots⟩ := X
  obtain ⟨hx, hb, hml, hown, hts, hK, hA, hAz, hz, hG, hfr, hlo, hcl, hsl⟩ := E
  intro hT H locs ls hl hH
  refine lv_if_lt hx hb d ht (fun q => K1 (by rw [if_pos q] at hT; exact hT) H locs ls hl hH) (fun q => K2 (by rw [if_neg q] at hT; exact hT) H locs ls hl hH)
theorem j_if_ge {x : Int32} {T1 T2 : Option XO} {off : Int} {tgt : Nat} (E : XE X cc own nL fr lo) (d : decode cc pc = .ok (.ifCond .ge off, 3)) (ht : (pc : Int) + off = (tgt : Int)) (K1 : JF X o nL tgt lv st σ T1) (K2 : JF X o nL (pc + 3) lv st σ T2) : JF X o nL pc lv (.int x :: st) σ (if 0 ≤ x then T1 else T2) := by
  obtain ⟨p, l, e, R, s, m, args, below, meth, c, ⟨D, Am, cy, z, ad⟩, A0, Q, cells, slots⟩ := X
  obtain ⟨hx, hb, hml, hown, hts, hK, hA, hAz, hz, hG, hfr, hlo, hcl, hsl⟩ := E
  intro hT H locs ls hl hH
  refine lv_if_ge hx hb d ht (fun q => K1 (by rw [if_pos q] at hT; exact hT) H locs ls hl hH) (fun q => K2 (by rw [if_neg q] at hT; exact hT) H locs ls hl hH)
theorem j_if_gt {x : Int32} {T1 T2 : Option XO} {off : Int} {tgt : Nat} (E : XE X cc own nL fr lo) (d : decode cc pc = .ok (.ifCond .gt off, 3)) (ht : (pc : Int) + off = (tgt : Int)) (K1 : JF X o nL tgt lv st σ T1) (K2 : JF X o nL (pc + 3) lv st σ T2) : JF X o nL pc lv (.int x :: st) σ (if 0 < x then T1 else T2) := by
  obtain ⟨p, l, e, R, s, m, args, below, meth, c, ⟨D, Am, cy, z, ad⟩, A0, Q, cells, slots⟩ := X
  obtain ⟨hx, hb, hml, hown, hts, hK, hA, hAz, hz, hG, hfr, hlo, hcl, hsl⟩ := E
  intro hT H locs ls hl hH
  refine lv_if_gt hx hb d ht (fun q => K1 (by rw [if_pos q] at hT; exact hT) H locs ls hl hH) (fun q => K2 (by rw [if_neg q] at hT; exact hT) H locs ls hl hH)
theorem j_if_le {x : Int32} {T1 T2 : Option XO} {off : Int} {tgt : Nat} (E : XE X cc own nL fr lo) (d : decode cc pc = .ok (.ifCond .le off, 3)) (ht : (pc : Int) + off = (tgt : Int)) (K1 : JF X o nL tgt lv st σ T1) (K2 : JF X o nL (pc + 3) lv st σ T2) : JF X o nL pc lv (.int x :: st) σ (if x ≤ 0 then T1 else T2) := by
  obtain ⟨p, l, e, R, s, m, args, below, meth, c, ⟨D, Am, cy, z, ad⟩, A0, Q, cells, slots⟩ := X
  obtain ⟨hx, hb, hml, hown, hts, hK, hA, hAz, hz, hG, hfr, hlo, hcl, hsl⟩ := E
  intro hT H locs ls hl hH
  refine lv_if_le hx hb d ht (fun q => K1 (by rw [if_pos q] at hT; exact hT) H locs ls hl hH) (fun q => K2 (by rw [if_neg q] at hT; exact hT) H locs ls hl hH)
theorem j_icmp_eq {x y : Int32} {T1 T2 : Option XO} {off : Int} {tgt : Nat} (E : XE X cc own nL fr lo) (d : decode cc pc = .ok (.if_icmp .eq off, 3)) (ht : (pc : Int) + off = (tgt : Int)) (K1 : JF X o nL tgt lv st σ T1) (K2 : JF X o nL (pc + 3) lv st σ T2) : JF X o nL pc lv (.int y :: .int x :: st) σ (if x = y then T1 else T2) := by
  obtain ⟨p, l, e, R, s, m, args, below, meth, c, ⟨D, Am, cy, z, ad⟩, A0, Q, cells, slots⟩ := X
  obtain ⟨hx, hb, hml, hown, hts, hK, hA, hAz, hz, hG, hfr, hlo, hcl, hsl⟩ := E
  intro hT H locs ls hl hH
  refine lv_icmp_eq hx hb d ht (fun q => K1 (by rw [if_pos q] at hT; exact hT) H locs ls hl hH) (fun q => K2 (by rw [if_neg q] at hT; exact hT) H locs ls hl hH)
theorem j_icmp_ne {x y : Int32} {T1 T2 : Option XO} {off : Int} {tgt : Nat} (E : XE X cc own nL fr lo) (d : decode cc pc = .ok (.if_icmp .ne off, 3)) (ht : (pc : Int) + off = (tgt : Int)) (K1 : JF X o nL (pc + 3) lv st σ T1) (K2 : JF X o nL tgt lv st σ T2) : JF X o nL pc lv (.int y :: .int x :: st) σ (if x = y then T1 else T2) := by
  obtain ⟨p, l, e, R, s, m, args, below, meth, c, ⟨D, Am, cy, z, ad⟩, A0, Q, cells, slots⟩ := X
  obtain ⟨hx, hb, hml, hown, hts, hK, hA, hAz, hz, hG, hfr, hlo, hcl, hsl⟩ := E
  intro hT H locs ls hl hH
  refine lv_icmp_ne hx hb d ht (fun q => K2 (by rw [if_neg q] at hT; exact hT) H locs ls hl hH) (fun q => K1 (by rw [if_pos q] at hT; exact hT) H locs ls hl hH)
theorem j_icmp_lt {x y : Int32} {T1 T2 : Option XO} {off : Int} {tgt : Nat} (E : XE X cc own nL fr lo) (d : decode cc pc = .ok (.if_icmp .lt off, 3)) (ht : (pc : Int) + off = (tgt : Int)) (K1 : JF X o nL tgt lv st σ T1) (K2 : JF X o nL (pc + 3) lv st σ T2) : JF X o nL pc lv (.int y :: .int x :: st) σ (if x < y then T1 else T2) := by
  obtain ⟨p, l, e, R, s, m, args, below, meth, c, ⟨D, Am, cy, z, ad⟩, A0, Q, cells, slots⟩ := X
  obtain ⟨hx, hb, hml, hown, hts, hK, hA, hAz, hz, hG, hfr, hlo, hcl, hsl⟩ := E
  intro hT H locs ls hl hH
  refine lv_icmp_lt hx hb d ht (fun q => K1 (by rw [if_pos q] at hT; exact hT) H locs ls hl hH) (fun q => K2 (by rw [if_neg q] at hT; exact hT) H locs ls hl hH)
theorem j_icmp_ge {x y : Int32} {T1 T2 : Option XO} {off : Int} {tgt : Nat} (E : XE X cc own nL fr lo) (d : decode cc pc = .ok (.if_icmp .ge off, 3)) (ht : (pc : Int) + off = (tgt : Int)) (K1 : JF X o nL tgt lv st σ T1) (K2 : JF X o nL (pc + 3) lv st σ T2) : JF X o nL pc lv (.int y :: .int x :: st) σ (if y ≤ x then T1 else T2) := by
  obtain ⟨p, l, e, R, s, m, args, below, meth, c, ⟨D, Am, cy, z, ad⟩, A0, Q, cells, slots⟩ := X
  obtain ⟨hx, hb, hml, hown, hts, hK, hA, hAz, hz, hG, hfr, hlo, hcl, hsl⟩ := E
  intro hT H locs ls hl hH
  refine lv_icmp_ge hx hb d ht (fun q => K1 (by rw [if_pos q] at hT; exact hT) H locs ls hl hH) (fun q => K2 (by rw [if_neg q] at hT; exact hT) H locs ls hl hH)
theorem j_icmp_gt {x y : Int32} {T1 T2 : Option XO} {off : Int} {tgt : Nat} (E : XE X cc own nL fr lo) (d : decode cc pc = .ok (.if_icmp .gt off, 3)) (ht : (pc : Int) + off = (tgt : Int)) (K1 : JF X o nL tgt lv st σ T1) (K2 : JF X o nL (pc + 3) lv st σ T2) : JF X o nL pc lv (.int y :: .int x :: st) σ (if y < x then T1 else T2) := by
  obtain ⟨p, l, e, R, s, m, args, below, meth, c, ⟨D, Am, cy, z, ad⟩, A0, Q, cells, slots⟩ := X
  obtain ⟨hx, hb, hml, hown, hts, hK, hA, hAz, hz, hG, hfr, hlo, hcl, hsl⟩ := E
  intro hT H locs ls hl hH
  refine lv_icmp_gt hx hb d ht (fun q => K1 (by rw [if_pos q] at hT; exact hT) H locs ls hl hH) (fun q => K2 (by rw [if_neg q] at hT; exact hT) H locs ls hl hH)
theorem j_icmp_le {x y : Int32} {T1 T2 : Option XO} {off : Int} {tgt : Nat} (E : XE X cc own nL fr lo) (d : decode cc pc = .ok (.if_icmp .le off, 3)) (ht : (pc : Int) + off = (tgt : Int)) (K1 : JF X o nL tgt lv st σ T1) (K2 : JF X o nL (pc + 3) lv st σ T2) : JF X o nL pc lv (.int y :: .int x :: st) σ (if x ≤ y then T1 else T2) := by
  obtain ⟨p, l, e, R, s, m, args, below, meth, c, ⟨D, Am, cy, z, ad⟩, A0, Q, cells, slots⟩ := X
  obtain ⟨hx, hb, hml, hown, hts, hK, hA, hAz, hz, hG, hfr, hlo, hcl, hsl⟩ := E
  intro hT H locs ls hl hH
  refine lv_icmp_le hx hb d ht (fun q => K1 (by rw [if_pos q] at hT; exact hT) H locs ls hl hH) (fun q => K2 (by rw [if_neg q] at hT; exact hT) H locs ls hl hH)
theorem j_tabIn {dflt l0 h0 : Int} {offs : Array Int} {len : Nat} {x v : Int32} {off : Int} {tgt : Nat} (E : XE X cc own nL fr lo) (d : decode cc pc = .ok (.tableswitch dflt l0 h0 offs, len)) (hv : x = v) (h1 : ¬ v.toInt < l0) (h2 : ¬ h0 < v.toInt) (ho : offs[(v.toInt - l0).toNat]? = some off) (ht : (pc : Int) + off = (tgt : Int)) (K : JF X o nL tgt lv st σ T) : JF X o nL pc lv (.int x :: st) σ T := by
  subst hv
  obtain ⟨p, l, e, R, s, m, args, below, meth, c, ⟨D, Am, cy, z, ad⟩, A0, Q, cells, slots⟩ := X
  obtain ⟨hx, hb, hml, hown, hts, hK, hA, hAz, hz, hG, hfr, hlo, hcl, hsl⟩ := E
  intro hT H locs ls hl hH
  exact lv_tableIn hx hb d h1 h2 ho ht (K hT H locs ls hl hH)
theorem j_tabOut {dflt l0 h0 : Int} {offs : Array Int} {len : Nat} {x : Int32} {tgt : Nat} (E : XE X cc own nL fr lo) (d : decode cc pc = .ok (.tableswitch dflt l0 h0 offs, len)) (h : x.toInt < l0 ∨ h0 < x.toInt) (ht : (pc : Int) + dflt = (tgt : Int)) (K : JF X o nL tgt lv st σ T) : JF X o nL pc lv (.int x :: st) σ T := by
  obtain ⟨p, l, e, R, s, m, args, below, meth, c, ⟨D, Am, cy, z, ad⟩, A0, Q, cells, slots⟩ := X
  obtain ⟨hx, hb, hml, hown, hts, hK, hA, hAz, hz, hG, hfr, hlo, hcl, hsl⟩ := E
  intro hT H locs ls hl hH
  exact lv_tableOut hx hb d h ht (K hT H locs ls hl hH)
theorem j_get {C ref : String} {F : u_T} {N ci index i k : Nat} {fs : List (Option Nat)} {v : Value} (E : XE X cc own nL fr lo) (hin : ∀ w ∈ u_ws C F N, w ∈ xG) (hc : vwCl[ci]? = some (C, F, N)) (hs : shp i = (0, ci, fs)) (hk : k < N) (hlink : Cond.fieldLink own index ref (F k).2.1 (F k).2.2.1 ∈ xG) (hsame : (F k).1 = ref) (hv : (xflds (xa X) σ i fs)[k]? = some v) (d : decode cc pc = .ok (.getfield index, 3)) (K : JF X o nL (pc + 3) lv (v :: st) σ T) : JF X o nL pc lv (.ref (xa X i) :: st) σ T := by
  obtain ⟨p, l, e, R, s, m, args, below, meth, c, ⟨D, Am, cy, z, ad⟩, A0, Q, cells, slots⟩ := X
  obtain ⟨hx, hb, hml, hown, hts, hK, hA, hAz, hz, hG, hfr, hlo, hcl, hsl⟩ := E
  intro hT H locs ls hl hH
  exact va_get (D := D) (cl := vwCl) hx hb hts hin hown hK hH.1 i (xw_at hs (by decide)) hc k hk (hts _ hlink) (fun x h => by rw [← hsame]; exact h) hv d (K hT H locs ls hl hH)
theorem j_put {C ref : String} {F : u_T} {N ci index i k : Nat} {fs : List (Option Nat)} {v : Int32} {ty : FieldType} {σ1 : XS} (E : XE X cc own nL fr lo) (hin : ∀ w ∈ u_ws C F N, w ∈ xG) (ty0 : Nat → FieldType) (hty : ∀ k, k < N → parseFieldDescriptor (F k).2.2.1 = some (ty0 k)) (hnm : ∀ a, a < N → ∀ b, b < N → a ≠ b → (F a).2.1 ≠ (F b).2.1) (hc : vwCl[ci]? = some (C, F, N)) (hs : shp i = (0, ci, fs)) (hf : fs[k]? = some none) (hk : k < N) (hlink : Cond.fieldLink own index ref (F k).2.1 (F k).2.2.1 ∈ xG) (hsame : (F k).1 = ref) (hfin : (F k).2.2.2 = false) (hd : parseFieldDescriptor (F k).2.2.1 = some ty) (hn : narrow ty (.int v) = .int v) (hfit : fits ty (.int v) = true) (d : decode cc pc = .ok (.putfield index, 3)) (hσ : xUp σ i k v = σ1) (K : JF X o nL (pc + 3) lv st σ1 T) : JF X o nL pc lv (.int v :: .ref (xa X i) :: st) σ T := by
  subst hσ
  obtain ⟨p, l, e, R, s, m, args, below, meth, c, ⟨D, Am, cy, z, ad⟩, A0, Q, cells, slots⟩ := X
  obtain ⟨hx, hb, hml, hown, hts, hK, hA, hAz, hz, hG, hfr, hlo, hcl, hsl⟩ := E
  intro hT H locs ls hl hH
  refine va_put (D := D) (cl := vwCl) hx hb hts hin ty0 hty hnm hown hK hH.1 hH.2.1 hH.2.2 i (xw_at hs (by decide)) hc k hk (hts _ hlink) (fun x h => by rw [← hsame]; exact h) hfin hd hn hfit (by simp only [xflds, List.length_map, List.length_range]; exact (List.getElem?_eq_some_iff.mp hf).1) d (fun H1 locs1 hP hD hS => ?_)
  have e : (xw Am cy σ).set i (Am i, .inr (ci, (xflds Am σ i fs).set k (.int v))) = xw Am cy (xUp σ i k v) := xw_put (shp_lt hs (by decide)) (by rw [xcell, hs, xflds_set hf]; rfl)
  have hP : va_P D vwCl ((xw Am cy σ).set i (Am i, .inr (ci, (xflds Am σ i fs).set k (.int v)))) H1 := hP
  have hD : va_D A0 ((xw Am cy σ).set i (Am i, .inr (ci, (xflds Am σ i fs).set k (.int v)))) := hD
  rw [e] at hP hD
  exact K hT H1 locs1 ls hl ⟨hP, hD, hS⟩
theorem j_iald {a n : Nat} {fs : List (Option Nat)} {i : Int32} (E : XE X cc own nL fr lo) (hs : shp a = (1, n, fs)) (d : decode cc pc = .ok (.iaload, 1)) (K : JF X o nL (pc + 1) lv (.int (σ a i.toNatClampNeg) :: st) σ T) : JF X o nL pc lv (.int i :: .ref (xa X a) :: st) σ (gd (xin i n) T) := by
  refine JF.gd (fun hg => ?_)
  obtain ⟨p, l, e, R, s, m, args, below, meth, c, ⟨D, Am, cy, z, ad⟩, A0, Q, cells, slots⟩ := X
  obtain ⟨hx, hb, hml, hown, hts, hK, hA, hAz, hz, hG, hfr, hlo, hcl, hsl⟩ := E
  intro hT H locs ls hl hH
  exact va_iald (D := D) (cl := vwCl) (tys := xtys cy) (f := σ a) hx hb hK hH.1 a 0 (xw_at hs (by decide)) rfl (xin_ok hg) d (K hT H locs ls hl hH)
theorem j_cald {a n : Nat} {fs : List (Option Nat)} {i : Int32} (E : XE X cc own nL fr lo) (hs : shp a = (2, n, fs)) (d : decode cc pc = .ok (.caload, 1)) (K : JF X o nL (pc + 1) lv (.int (σ a i.toNatClampNeg) :: st) σ T) : JF X o nL pc lv (.int i :: .ref (xa X a) :: st) σ (gd (xin i n) T) := by
  refine JF.gd (fun hg => ?_)
  obtain ⟨p, l, e, R, s, m, args, below, meth, c, ⟨D, Am, cy, z, ad⟩, A0, Q, cells, slots⟩ := X
  obtain ⟨hx, hb, hml, hown, hts, hK, hA, hAz, hz, hG, hfr, hlo, hcl, hsl⟩ := E
  intro hT H locs ls hl hH
  exact va_cald (D := D) (cl := vwCl) (tys := xtys cy) (f := σ a) hx hb hK hH.1 a 1 (xw_at hs (by decide)) rfl (xin_ok hg) d (K hT H locs ls hl hH)
theorem j_zald {a n : Nat} {fs : List (Option Nat)} {i : Int32} (E : XE X cc own nL fr lo) (hs : shp a = (3, n, fs)) (d : decode cc pc = .ok (.baload, 1)) (K : JF X o nL (pc + 1) lv (.int (σ a i.toNatClampNeg) :: st) σ T) : JF X o nL pc lv (.int i :: .ref (xa X a) :: st) σ (gd (xin i n) T) := by
  refine JF.gd (fun hg => ?_)
  obtain ⟨p, l, e, R, s, m, args, below, meth, c, ⟨D, Am, cy, z, ad⟩, A0, Q, cells, slots⟩ := X
  obtain ⟨hx, hb, hml, hown, hts, hK, hA, hAz, hz, hG, hfr, hlo, hcl, hsl⟩ := E
  intro hT H locs ls hl hH
  exact va_zald (D := D) (cl := vwCl) (tys := xtys cy) (f := σ a) hx hb hK hH.1 a 2 (xw_at hs (by decide)) rfl (xin_ok hg) d (K hT H locs ls hl hH)
theorem j_iast {a n : Nat} {fs : List (Option Nat)} {i x : Int32} {σ1 : XS} (E : XE X cc own nL fr lo) (hs : shp a = (1, n, fs)) (d : decode cc pc = .ok (.iastore, 1)) (hσ : xUp σ a i.toNatClampNeg x = σ1) (K : JF X o nL (pc + 1) lv st σ1 T) : JF X o nL pc lv (.int x :: .int i :: .ref (xa X a) :: st) σ (gd (xin i n) T) := by
  subst hσ
  refine JF.gd (fun hg => ?_)
  obtain ⟨p, l, e, R, s, m, args, below, meth, c, ⟨D, Am, cy, z, ad⟩, A0, Q, cells, slots⟩ := X
  obtain ⟨hx, hb, hml, hown, hts, hK, hA, hAz, hz, hG, hfr, hlo, hcl, hsl⟩ := E
  intro hT H locs ls hl hH
  refine va_iast (D := D) (cl := vwCl) (tys := xtys cy) (f := σ a) hx hb hK hH.1 hH.2.1 hH.2.2 a 0 (xw_at hs (by decide)) rfl (xin_ok hg) d (fun H1 locs1 hP hD hS => ?_)
  have e : (xw Am cy σ).set a (Am a, .inl (cy 1, n, .inl (upd (σ a) i.toNatClampNeg x))) = xw Am cy (xUp σ a i.toNatClampNeg x) := xw_put (shp_lt hs (by decide)) (by rw [xcell, hs]; simp only [xcellOf, xUf_eq])
  have hP : va_P D vwCl ((xw Am cy σ).set a (Am a, .inl (cy 1, n, .inl (upd (σ a) i.toNatClampNeg x)))) H1 := hP
  have hD : va_D A0 ((xw Am cy σ).set a (Am a, .inl (cy 1, n, .inl (upd (σ a) i.toNatClampNeg x)))) := hD
  rw [e] at hP hD
  exact K hT H1 locs1 ls hl ⟨hP, hD, hS⟩
theorem j_cast {a n : Nat} {fs : List (Option Nat)} {i x : Int32} {σ1 : XS} (E : XE X cc own nL fr lo) (hs : shp a = (2, n, fs)) (d : decode cc pc = .ok (.castore, 1)) (hσ : xUp σ a i.toNatClampNeg (vp_nar .char x) = σ1) (K : JF X o nL (pc + 1) lv st σ1 T) : JF X o nL pc lv (.int x :: .int i :: .ref (xa X a) :: st) σ (gd (xin i n) T) := by
  subst hσ
  refine JF.gd (fun hg => ?_)
  obtain ⟨p, l, e, R, s, m, args, below, meth, c, ⟨D, Am, cy, z, ad⟩, A0, Q, cells, slots⟩ := X
  obtain ⟨hx, hb, hml, hown, hts, hK, hA, hAz, hz, hG, hfr, hlo, hcl, hsl⟩ := E
  intro hT H locs ls hl hH
  refine va_cast (D := D) (cl := vwCl) (tys := xtys cy) (f := σ a) hx hb hK hH.1 hH.2.1 hH.2.2 a 1 (xw_at hs (by decide)) rfl (xin_ok hg) d (fun H1 locs1 hP hD hS => ?_)
  have e : (xw Am cy σ).set a (Am a, .inl (cy 2, n, .inl (upd (σ a) i.toNatClampNeg (vp_nar .char x)))) = xw Am cy (xUp σ a i.toNatClampNeg (vp_nar .char x)) := xw_put (shp_lt hs (by decide)) (by rw [xcell, hs]; simp only [xcellOf, xUf_eq])
  have hP : va_P D vwCl ((xw Am cy σ).set a (Am a, .inl (cy 2, n, .inl (upd (σ a) i.toNatClampNeg (vp_nar .char x))))) H1 := hP
  have hD : va_D A0 ((xw Am cy σ).set a (Am a, .inl (cy 2, n, .inl (upd (σ a) i.toNatClampNeg (vp_nar .char x))))) := hD
  rw [e] at hP hD
  exact K hT H1 locs1 ls hl ⟨hP, hD, hS⟩
theorem j_zast {a n : Nat} {fs : List (Option Nat)} {i x : Int32} {σ1 : XS} (E : XE X cc own nL fr lo) (hs : shp a = (3, n, fs)) (d : decode cc pc = .ok (.bastore, 1)) (hσ : xUp σ a i.toNatClampNeg (vp_nar .boolean x) = σ1) (K : JF X o nL (pc + 1) lv st σ1 T) : JF X o nL pc lv (.int x :: .int i :: .ref (xa X a) :: st) σ (gd (xin i n) T) := by
  subst hσ
  refine JF.gd (fun hg => ?_)
  obtain ⟨p, l, e, R, s, m, args, below, meth, c, ⟨D, Am, cy, z, ad⟩, A0, Q, cells, slots⟩ := X
  obtain ⟨hx, hb, hml, hown, hts, hK, hA, hAz, hz, hG, hfr, hlo, hcl, hsl⟩ := E
  intro hT H locs ls hl hH
  refine va_zast (D := D) (cl := vwCl) (tys := xtys cy) (f := σ a) hx hb hK hH.1 hH.2.1 hH.2.2 a 2 (xw_at hs (by decide)) rfl (xin_ok hg) d (fun H1 locs1 hP hD hS => ?_)
  have e : (xw Am cy σ).set a (Am a, .inl (cy 3, n, .inl (upd (σ a) i.toNatClampNeg (vp_nar .boolean x)))) = xw Am cy (xUp σ a i.toNatClampNeg (vp_nar .boolean x)) := xw_put (shp_lt hs (by decide)) (by rw [xcell, hs]; simp only [xcellOf, xUf_eq])
  have hP : va_P D vwCl ((xw Am cy σ).set a (Am a, .inl (cy 3, n, .inl (upd (σ a) i.toNatClampNeg (vp_nar .boolean x))))) H1 := hP
  have hD : va_D A0 ((xw Am cy σ).set a (Am a, .inl (cy 3, n, .inl (upd (σ a) i.toNatClampNeg (vp_nar .boolean x))))) := hD
  rw [e] at hP hD
  exact K hT H1 locs1 ls hl ⟨hP, hD, hS⟩
theorem j_aald {a n b : Nat} {fs : List (Option Nat)} {i : Int32} (E : XE X cc own nL fr lo) (hs : shp a = (4, n, fs)) (hr : ∀ j, j < n → fs.getD j none = some (b + j)) (d : decode cc pc = .ok (.aaload, 1)) (K : JF X o nL (pc + 1) lv (.ref (xa X (b + i.toNatClampNeg)) :: st) σ T) : JF X o nL pc lv (.int i :: .ref (xa X a) :: st) σ (gd (xin i n) T) := by
  refine JF.gd (fun hg => ?_)
  obtain ⟨p, l, e, R, s, m, args, below, meth, c, ⟨D, Am, cy, z, ad⟩, A0, Q, cells, slots⟩ := X
  obtain ⟨hx, hb, hml, hown, hts, hK, hA, hAz, hz, hG, hfr, hlo, hcl, hsl⟩ := E
  intro hT H locs ls hl hH
  have hin := xin_ok hg
  have hlt : i.toNatClampNeg < n := Nat.not_le.mp fun q => hin (Or.inr q)
  have hv : va_rf ((fs.getD i.toNatClampNeg none).map Am) = .ref (Am (b + i.toNatClampNeg)) := by rw [hr _ hlt]; rfl
  have hcell := hH.1 a _ (xw_at hs (by decide))
  refine W.aald (v := .ref (Am (b + i.toNatClampNeg))) (ty := .array .int) hx hb hcell ((hK.2 3 _ rfl).1 n (fun j => va_rf ((fs.getD j none).map Am))) rfl (fun q => by cases q) (by show ¬ (i < 0 ∨ (arrV _ _ _).slots.size ≤ _); rw [arrV_size]; exact hin) (by show (arrV _ _ _).slots[_]? = _; rw [arrV_read _ _ hlt, hv]) rfl rfl d (K hT H locs ls hl hH)
theorem j_alen {a n t : Nat} {fs : List (Option Nat)} {v : Int32} (E : XE X cc own nL fr lo) (hs : shp a = (t, n, fs)) (ht : t = 1) (hv : Int32.ofNat n = v) (d : decode cc pc = .ok (.arraylength, 1)) (K : JF X o nL (pc + 1) lv (.int v :: st) σ T) : JF X o nL pc lv (.ref (xa X a) :: st) σ T := by
  subst ht
  obtain ⟨p, l, e, R, s, m, args, below, meth, c, ⟨D, Am, cy, z, ad⟩, A0, Q, cells, slots⟩ := X
  obtain ⟨hx, hb, hml, hown, hts, hK, hA, hAz, hz, hG, hfr, hlo, hcl, hsl⟩ := E
  intro hT H locs ls hl hH
  exact va_alen (D := D) (cl := vwCl) (tys := xtys cy) (ty := .int) hx hb hK hH.1 a 0 (xw_at hs (by decide)) rfl hv d (K hT H locs ls hl hH)
theorem j_copy {index a b n0 n1 : Nat} {fs0 fs1 : List (Option Nat)} {sp dp n : Int32} {σ1 : XS} (E : XE X cc own nL fr lo) (h0 : shp a = (1, n0, fs0)) (h1 : shp b = (1, n1, fs1)) (hlink : Cond.methodLink own index arraycopyName ∈ xG) (hnat : Cond.native arraycopyName ∈ xG) (hstat : Cond.static arraycopyName ∈ xG) (hini : Cond.initialized "java/lang/System" ∈ xG) (g1 : ¬ sp < 0) (g2 : ¬ dp < 0) (g3 : ¬ n < 0) (g4 : sp.toNatClampNeg + n.toNatClampNeg ≤ n0) (g5 : dp.toNatClampNeg + n.toNatClampNeg ≤ n1) (hfr : 1 ≤ fr) (hlo : (st.map fun v => v.category).sum + (nativeFrameWords "java/lang/System" "arraycopy" 5 + 11) ≤ lo) (d : decode cc pc = .ok (.invokestatic index, 3)) (hσ : xUf σ b (va_cpy (σ a) (σ b) sp.toNatClampNeg dp.toNatClampNeg n.toNatClampNeg) = σ1) (K : JF X o nL (pc + 3) lv st σ1 T) : JF X o nL pc lv (.int n :: .int dp :: .ref (xa X b) :: .int sp :: .ref (xa X a) :: st) σ T := by
  subst hσ
  obtain ⟨p, l, e, R, s, m, args, below, meth, c, ⟨D, Am, cy, z, ad⟩, A0, Q, cells, slots⟩ := X
  obtain ⟨hx, hb, hml, hown, hts, hK, hA, hAz, hz, hG, hfr, hlo, hcl, hsl⟩ := E
  intro hT H locs ls hl hH
  refine va_copyi (D := D) (cl := vwCl) (tys := xtys cy) (f := σ a) (g := σ b) hx hb (hml.trans hl.1.symm) hown (hts _ hlink) (hts _ hnat) (hts _ hstat) (hts _ hini) hK hH.1 hH.2.1 hH.2.2 a b 0 0 (xw_at h0 (by decide)) (xw_at h1 (by decide)) rfl rfl rfl g1 g2 g3 g4 g5 (fun _ _ => rfl) (by omega) (by omega) d (fun H1 locs1 hP hD hS => ?_)
  have e : ∀ f : Nat → Int32, (xw Am cy σ).set b (Am b, .inl (cy 1, n1, .inl f)) = xw Am cy (xUf σ b f) := fun f => xw_put (shp_lt h1 (by decide)) (by rw [xcell, h1]; simp only [xcellOf, xUf_eq])
  rw [e] at hP hD
  exact K hT H1 locs1 ls hl ⟨hP, hD, hS⟩
theorem j_max {index : Nat} {x y : Int32} (E : XE X cc own nL fr lo) (hlink : Cond.methodLink own index Lib.Math.max.name ∈ xG) (hstat : Cond.static Lib.Math.max.name ∈ xG) (hini : Cond.initialized "java/lang/Math" ∈ xG) (hcode : Cond.code Lib.Math.max.name Lib.Math.max.code 2 (some .int) ∈ xG) (hfr : 1 ≤ fr) (hlo : (st.map fun v => v.category).sum + 13 ≤ lo) (d : decode cc pc = .ok (.invokestatic index, 3)) (K : JF X o nL (pc + 3) lv (.int (if x < y then y else x) :: st) σ T) : JF X o nL pc lv (.int y :: .int x :: st) σ T := by
  obtain ⟨p, l, e, R, s, m, args, below, meth, c, ⟨D, Am, cy, z, ad⟩, A0, Q, cells, slots⟩ := X
  obtain ⟨hx, hb, hml, hown, hts, hK, hA, hAz, hz, hG, hfr, hlo, hcl, hsl⟩ := E
  intro hT H locs ls hl hH
  exact va_mmax hx hb (hml.trans hl.1.symm) hown (hts _ hlink) (hts _ hstat) (hts _ hini) (hts _ hcode) (by omega) (by omega) hcl hsl d (K hT H locs ls hl hH)
theorem j_min {index : Nat} {x y : Int32} (E : XE X cc own nL fr lo) (hlink : Cond.methodLink own index Lib.Math.min.name ∈ xG) (hstat : Cond.static Lib.Math.min.name ∈ xG) (hini : Cond.initialized "java/lang/Math" ∈ xG) (hcode : Cond.code Lib.Math.min.name Lib.Math.min.code 2 (some .int) ∈ xG) (hfr : 1 ≤ fr) (hlo : (st.map fun v => v.category).sum + 13 ≤ lo) (d : decode cc pc = .ok (.invokestatic index, 3)) (K : JF X o nL (pc + 3) lv (.int (if y < x then y else x) :: st) σ T) : JF X o nL pc lv (.int y :: .int x :: st) σ T := by
  obtain ⟨p, l, e, R, s, m, args, below, meth, c, ⟨D, Am, cy, z, ad⟩, A0, Q, cells, slots⟩ := X
  obtain ⟨hx, hb, hml, hown, hts, hK, hA, hAz, hz, hG, hfr, hlo, hcl, hsl⟩ := E
  intro hT H locs ls hl hH
  exact va_mmin hx hb (hml.trans hl.1.symm) hown (hts _ hlink) (hts _ hstat) (hts _ hini) (hts _ hcode) (by omega) (by omega) hcl hsl d (K hT H locs ls hl hH)
theorem j_ldc2 {index : Nat} {v : Int64} (E : XE X cc own nL fr lo) (hc : Cond.constantLong own index v ∈ xG) (d : decode cc pc = .ok (.ldc2_w index, 3)) (K : JF X o nL (pc + 3) lv (.long v :: st) σ T) : JF X o nL pc lv st σ T := by
  obtain ⟨p, l, e, R, s, m, args, below, meth, c, ⟨D, Am, cy, z, ad⟩, A0, Q, cells, slots⟩ := X
  obtain ⟨hx, hb, hml, hown, hts, hK, hA, hAz, hz, hG, hfr, hlo, hcl, hsl⟩ := E
  intro hT H locs ls hl hH
  exact lv_ldc2 hx hb hown (hts _ hc) d (K hT H locs ls hl hH)
theorem j_iret (E : XE X cc own nL fr lo) (R : XI X o cc) {r : Int32} (d : decode cc pc = .ok (.ireturn, 1)) : JF X o nL pc lv [.int r] σ (some (r, σ)) := by
  intro hT H locs ls hl hH
  cases hT
  exact R pc H locs ls d hH
theorem j_vret (E : XE X cc own nL fr lo) (R : XV X o cc) (d : decode cc pc = .ok (.return_, 1)) : JF X o nL pc lv [] σ (some (0, σ)) := by
  intro hT H locs ls hl hH
  cases hT
  exact R pc H locs ls d hH
theorem j_aret (E : XE X cc own nL fr lo) (R : XR X o cc) {k : Nat} (hk : k < 20) (d : decode cc pc = .ok (.areturn, 1)) : JF X o nL pc lv [.ref (xk X k)] σ (some (nI k, σ)) := by
  intro hT H locs ls hl hH
  cases hT
  exact R pc H locs ls k hk rfl d hH
end JR
/-! CONTRACTS over the memory, and calls -/
theorem xgood : ∀ w ∈ xG, ((w.onTables && w.keeps) = true ∨ ∃ ty, w = .arrayClass ty) := fun w h => good_of_word (List.mem_filter.mp h).2
theorem xGI {y : MethodName} {b : ByteArray} {n : Nat} {ret : Option FieldType} (h : Cond.code y b n ret ∈ xG) : GoodIn xG (Cond.code y b n ret :: xG) := by
  intro w hw
  rcases List.mem_cons.mp hw with e | e
  · subst e; exact ⟨h, xgood _ h⟩
  · exact ⟨e, xgood _ e⟩
abbrev xRm (fr lo : Nat) : Room := { frames := fr, cells := 0, slots := 0, locals := lo }
def xPre (D : va_G) (Am : Nat → Nat) (cy : Nat → ClassId) (z : Nat) (ad : Nat → Nat) (σ : XS) (sz : Nat) (U : State) : Prop := U.heap.size = sz ∧ z ≤ sz ∧ va_P D vwCl (xw Am cy σ) U.heap ∧ va_K D vwCl (xtys cy) U ∧ va_D (fun q => z ≤ q) (xw Am cy σ) ∧ XG z ad U U.heap
def xPost (D : va_G) (Am : Nat → Nat) (cy : Nat → ClassId) (A : Nat → Prop) (u : XS) (t : State) : Prop := va_P D vwCl (xw Am cy u) t.heap ∧ va_K D vwCl (xtys cy) t ∧ va_D A (xw Am cy u)
theorem xPre.blind {D : va_G} {Am : Nat → Nat} {cy : Nat → ClassId} {z : Nat} {ad : Nat → Nat} {σ : XS} {sz : Nat} {av : List Value} : FrameBlind (va_Pc av (xPre D Am cy z ad σ sz)) := fun a U g mk q => by
  obtain ⟨q0, q1, qz, qP, qK, qD, qG⟩ := q
  exact ⟨q0, q1, qz, qP, va_K.moved (u := U) (U := U.calling g mk a) (Vm.Alike.refl U.vm) qK, qD, XG.same (u := U) (U := U.calling g mk a) rfl qG⟩
def CtI (y : MethodName) (b : ByteArray) (n : Nat) (ret : Option FieldType) (fr lo : Nat) (av : (Nat → Nat) → (Nat → Nat) → List Value) (σ : XS) (o : XO) : Prop := ∀ (l : Launch) (D : va_G) (Am : Nat → Nat) (cy : Nat → ClassId) (z : Nat) (ad : Nat → Nat) (sz : Nat), Met l y (Cond.code y b n ret :: xG) (xRm fr lo) (va_Pc (av Am ad) (xPre D Am cy z ad σ sz)) (va_Qi (fun (r : Int32) (u : XS) => r = o.1 ∧ u = o.2) (xPost D Am cy (va_A (xw Am cy σ) sz)) (va_A (xw Am cy σ) sz)) 0 0 (va_A (xw Am cy σ) sz)
def CtV (y : MethodName) (b : ByteArray) (n : Nat) (ret : Option FieldType) (fr lo : Nat) (av : (Nat → Nat) → (Nat → Nat) → List Value) (σ : XS) (o : XO) : Prop := ∀ (l : Launch) (D : va_G) (Am : Nat → Nat) (cy : Nat → ClassId) (z : Nat) (ad : Nat → Nat) (sz : Nat), Met l y (Cond.code y b n ret :: xG) (xRm fr lo) (va_Pc (av Am ad) (xPre D Am cy z ad σ sz)) (va_Qv (fun (u : XS) => u = o.2) (xPost D Am cy (va_A (xw Am cy σ) sz)) (va_A (xw Am cy σ) sz)) 0 0 (va_A (xw Am cy σ) sz)
def CtR (y : MethodName) (b : ByteArray) (n : Nat) (ret : Option FieldType) (fr lo : Nat) (av : (Nat → Nat) → (Nat → Nat) → List Value) (σ : XS) (o : XO) : Prop := ∀ (l : Launch) (D : va_G) (Am : Nat → Nat) (cy : Nat → ClassId) (z : Nat) (ad : Nat → Nat) (sz : Nat), Met l y (Cond.code y b n ret :: xG) (xRm fr lo) (va_Pc (av Am ad) (xPre D Am cy z ad σ sz)) (va_Qr (fun (u : XS) => u = o.2) (fun u a t => (∃ k : Nat, k < 20 ∧ o.1 = nI k ∧ a = ad k) ∧ xPost D Am cy (va_A (xw Am cy σ) sz) u t) (va_A (xw Am cy σ) sz)) 0 0 (va_A (xw Am cy σ) sz)
section CT
variable {y : MethodName} {b : ByteArray} {n fr lo : Nat} {ret : Option FieldType} {av : (Nat → Nat) → (Nat → Nat) → List Value} {σ : XS} {o : XO}
/-- the end of a method whose answer is narrower than a number -/
def XZ (X : XC) (o : XO) (cc : ByteArray) (ty : FieldType) : Prop := ∀ (pc : Nat) (H : Heap) (locs : List Loc) (ls : Array Slot), narrow ty (.int o.1) = .int o.1 → decode cc pc = .ok (.ireturn, 1) → xHold X o.2 H locs → xW X H locs pc ls [.int o.1]
theorem ct_enter {l : Launch} {D : va_G} {Am : Nat → Nat} {cy : Nat → ClassId} {z : Nat} {ad : Nat → Nat} {sz : Nat} {Qc : Array Value → State → Outcome → State → Prop} (hy : plainName y.cls = true) (hlv : (lg_sl (av Am ad)).length ≤ n)
    (body : ∀ X : XC, XE X b y.cls n fr lo → (∀ (H : Heap) (locs : List Loc) (g : JFrame), True) → (X.2.2.2.2.2.2.2.2.2.2.1 = (D, Am, cy, z, ad)) → (∀ pc H locs ls st, (∀ p l e R s m args below meth c cells slots, X = (p, l, e, R, s, m, args, below, meth, c, (D, Am, cy, z, ad), va_A (xw Am cy σ) sz, MQ below Qc args s 0 0 (va_A (xw Am cy σ) sz), cells, slots) → p.tables.exec = Jvm.exec → c.code = b → meth.sig.returnType = ret → meth.locks = false → va_K D vwCl (xtys cy) s → W p l e R s m args below meth c H locs 0 0 (MQ below Qc args s 0 0 (va_A (xw Am cy σ) sz)) (F0 m pc ls st)) → xW X H locs pc ls st) → ∀ ls : Array Slot, lv_has ls n (lv_args 0 (av Am ad)) → ∀ H : Heap, xHold X σ H [] → xW X H [] 0 ls []) :
    Met l y (Cond.code y b n ret :: xG) (xRm fr lo) (va_Pc (av Am ad) (xPre D Am cy z ad σ sz)) Qc 0 0 (va_A (xw Am cy σ) sz) := by
  refine Met.ofW (cc := b) (maxL := n) (ret := ret) hy rfl ?_
  intro p e s m args below meth c s₁ B hml hv
  obtain ⟨rfl, hsz, hz, hP, hK, hD0, hG⟩ := hv
  have hx := B.exec
  have hb := B.bytes
  have hr := B.returns
  have hts := atoms_spec (ws := Cond.code y b n ret :: xG) B.pre
  have hown : s.vm.findClass y.cls = some m.cls := findClass_of_methodNamed B.named
  have hlocks := B.notSynchronized
  subst hsz
  have hl := lv_entry (av Am ad) (n := n) hlv
  rw [lg_entry_eq]
  generalize (lg_sl (av Am ad) ++ List.replicate (n - (lg_sl (av Am ad)).length) Slot.unset).toArray = ls at hl ⊢
  have hAz : ∀ q, va_A (xw Am cy σ) s.heap.size q → z ≤ q := by
    intro q hq
    rcases hq with ⟨k, e, hk⟩ | hq
    · exact hD0.2 k _ hk
    · exact Nat.le_trans hz hq
  have := body (p, l, e, xRm fr lo, s, m, (av Am ad).toArray, below, meth, c, (D, Am, cy, z, ad), va_A (xw Am cy σ) s.heap.size, MQ below Qc (av Am ad).toArray s 0 0 (va_A (xw Am cy σ) s.heap.size), 0, 0)
    ⟨hx, hb, hml, hown, fun w hw => hts w (List.mem_cons_of_mem _ hw), hK, fun q hq => Or.inr hq, hAz, hz, hG, rfl, rfl, Nat.le_refl _, Nat.le_refl _⟩
    (fun _ _ _ => trivial) rfl (fun pc H locs ls st h => h p l e (xRm fr lo) s m _ below meth c 0 0 rfl hx hb hr hlocks hK) ls hl s.heap ⟨hP, hD0.self, va_S.rf⟩
  exact this
theorem ct_int (hy : plainName y.cls = true) (hlv : ∀ Am ad, (lg_sl (av Am ad)).length ≤ n) (body : ∀ X : XC, XE X b y.cls n fr lo → XI X o b → JF X o n 0 (lv_args 0 (av (xa X) (xk X))) [] σ (some o)) : CtI y b n (some .int) fr lo av σ o := by
  intro l D Am cy z ad sz
  refine ct_enter hy (hlv Am ad) (fun X E _ hX fin ls hl H hH => ?_)
  have h1 : xa X = Am := by unfold xa; rw [hX]
  have h2 : xk X = ad := by unfold xk; rw [hX]
  have hb := body X E (fun pc H locs ls hd hH => fin pc H locs ls _ (fun p l e R s m args below meth c cells slots eX hx hc hr hlocks hK => ?_))
  · rw [h1, h2] at hb
    exact hb rfl H [] ls hl hH
  · subst eX
    obtain ⟨gP, gD, gS⟩ := hH
    exact W.iret (v := o.1) hx hc hr (fun t ht hW => ⟨⟨o.1, o.2, rfl, ⟨rfl, rfl⟩, by rw [ht]; exact gP, va_K.moved hW.alike hK, gD⟩, gS.F ht⟩) gS.2.2 hd hlocks
theorem ct_z {ty : FieldType} (hy : plainName y.cls = true) (hlv : ∀ Am ad, (lg_sl (av Am ad)).length ≤ n) (body : ∀ X : XC, XE X b y.cls n fr lo → XZ X o b ty → JF X o n 0 (lv_args 0 (av (xa X) (xk X))) [] σ (some o)) : CtI y b n (some ty) fr lo av σ o := by
  intro l D Am cy z ad sz
  refine ct_enter hy (hlv Am ad) (fun X E _ hX fin ls hl H hH => ?_)
  have h1 : xa X = Am := by unfold xa; rw [hX]
  have h2 : xk X = ad := by unfold xk; rw [hX]
  have hb := body X E (fun pc H locs ls hnn hd hH => fin pc H locs ls _ (fun p l e R s m args below meth c cells slots eX hx hc hr hlocks hK => ?_))
  · rw [h1, h2] at hb
    exact hb rfl H [] ls hl hH
  · subst eX
    obtain ⟨gP, gD, gS⟩ := hH
    exact W.zret (v := o.1) hx hc hr hnn (fun t ht hW => ⟨⟨o.1, o.2, rfl, ⟨rfl, rfl⟩, by rw [ht]; exact gP, va_K.moved hW.alike hK, gD⟩, gS.F ht⟩) gS.2.2 hd hlocks
theorem ct_void (hy : plainName y.cls = true) (hlv : ∀ Am ad, (lg_sl (av Am ad)).length ≤ n) (body : ∀ X : XC, XE X b y.cls n fr lo → XV X o b → JF X o n 0 (lv_args 0 (av (xa X) (xk X))) [] σ (some o)) : CtV y b n none fr lo av σ o := by
  intro l D Am cy z ad sz
  refine ct_enter hy (hlv Am ad) (fun X E _ hX fin ls hl H hH => ?_)
  have h1 : xa X = Am := by unfold xa; rw [hX]
  have h2 : xk X = ad := by unfold xk; rw [hX]
  have hb := body X E (fun pc H locs ls hd hH => fin pc H locs ls _ (fun p l e R s m args below meth c cells slots eX hx hc hr hlocks hK => ?_))
  · rw [h1, h2] at hb
    exact hb rfl H [] ls hl hH
  · subst eX
    obtain ⟨gP, gD, gS⟩ := hH
    exact W.vret hx hc hr (fun t ht hW => ⟨⟨o.2, rfl, rfl, by rw [ht]; exact gP, va_K.moved hW.alike hK, gD⟩, gS.F ht⟩) gS.2.2 hd hlocks
theorem ct_ref {C : String} (hy : plainName y.cls = true) (hlv : ∀ Am ad, (lg_sl (av Am ad)).length ≤ n) (body : ∀ X : XC, XE X b y.cls n fr lo → XR X o b → JF X o n 0 (lv_args 0 (av (xa X) (xk X))) [] σ (some o)) : CtR y b n (some (.object C)) fr lo av σ o := by
  intro l D Am cy z ad sz
  refine ct_enter hy (hlv Am ad) (fun X E _ hX fin ls hl H hH => ?_)
  have h1 : xa X = Am := by unfold xa; rw [hX]
  have h2 : xk X = ad := by unfold xk; rw [hX]
  have hb := body X E (fun pc H locs ls k hk2 hk hd hH => fin pc H locs ls _ (fun p l e R s m args below meth c cells slots eX hx hc hr hlocks hK => ?_))
  · rw [h1, h2] at hb
    exact hb rfl H [] ls hl hH
  · subst eX
    obtain ⟨gP, gD, gS⟩ := hH
    exact W.aret (v := .ref (ad k)) hx hc hr (Or.inl ⟨C, rfl⟩) (Or.inr ⟨_, rfl⟩) (fun t ht hW => ⟨⟨o.2, ad k, rfl, rfl, ⟨k, hk2, hk, rfl⟩, by rw [ht]; exact gP, va_K.moved hW.alike hK, gD⟩, gS.F ht⟩) gS.2.2 hd hlocks
end CT
/-- what a call wants of the tables: of an own method, of a static one -/
def XMV (y : MethodName) (C : String) (b : ByteArray) (n : Nat) (ret : Option FieldType) (k : Nat) : Prop := Cond.instanceMethod y ∈ xG ∧ Cond.selects C y y ∈ xG ∧ Cond.initialized y.cls ∈ xG ∧ Cond.code y b n ret ∈ xG ∧ (y.cls ≠ "java/lang/invoke/MethodHandle" ∧ y.cls ≠ "java/lang/invoke/VarHandle" ∧ (parseMethodDescriptor y.desc).map (fun d => d.parameters.length) = some k)
def XMS (y : MethodName) (b : ByteArray) (n : Nat) (ret : Option FieldType) (k : Nat) : Prop := Cond.static y ∈ xG ∧ Cond.initialized y.cls ∈ xG ∧ Cond.code y b n ret ∈ xG ∧ (y.cls ≠ "java/lang/invoke/MethodHandle" ∧ y.cls ≠ "java/lang/invoke/VarHandle" ∧ (parseMethodDescriptor y.desc).map (fun d => d.parameters.length) = some k)
section CL
variable {X : XC} {o : XO} {cc : ByteArray} {own : String} {nL fr lo : Nat} {pc : Nat} {lv : List (Nat × Value)} {st st0 : List Value} {σ σ1 : XS} {T : Option XO}
variable {y : MethodName} {b : ByteArray} {n fr1 lo1 k index : Nat} {ret : Option FieldType} {av : (Nat → Nat) → (Nat → Nat) → List Value} {r : Int32}
theorem JF.bind {A : Option XO} {kk : XO → Option XO} (K : ∀ (r : Int32) (σ1 : XS), A = some (r, σ1) → JF X o nL pc lv st σ (kk (r, σ1))) : JF X o nL pc lv st σ (A.bind kk) := by
  intro hT
  cases hA : A with
  | none => rw [hA] at hT; cases hT
  | some q =>
    rw [hA] at hT
    exact K q.1 q.2 hA hT
theorem xsub {p : Program} {l : Launch} {e : Env} {R : Room} {s : State} {m : MethodId} {args : Array Value} {below : List Frame} {meth : Method} {c : Code} {D : va_G} {Am : Nat → Nat} {cy : Nat → ClassId} {z : Nat} {ad : Nat → Nat} {A0 : Nat → Prop} {Q : State → Prop} {cells slots : Nat} (E : XE (p, l, e, R, s, m, args, below, meth, c, (D, Am, cy, z, ad), A0, Q, cells, slots) cc own nL fr lo) {H : Heap} {locs : List Loc} (hH : xHold (p, l, e, R, s, m, args, below, meth, c, (D, Am, cy, z, ad), A0, Q, cells, slots) σ H locs) :
    (∀ q, va_A (xw Am cy σ) H.size q → A0 q) ∧ (∀ U : State, U.heap = H → s.WarmedH U.vm → xPre D Am cy z ad σ H.size U) := by
  obtain ⟨hx, hb, hml, hown, hts, hK, hA, hAz, hz, hG, hfr, hlo, hcl, hsl⟩ := E
  obtain ⟨hP, hD, hS⟩ := hH
  refine ⟨fun q h => ?_, fun U hU hW => ⟨by rw [hU], Nat.le_trans hz hS.1, by rw [hU]; exact hP, va_K.moved hW.alike hK, hD.weaken (fun k q _ h => hAz _ h), ?_⟩⟩
  · rcases h with ⟨k, e, hk⟩ | h
    · exact hD.2 k _ hk
    · exact hA q (Nat.le_trans hS.1 h)
  · rw [hU]
    exact XG.warm hW (hG.kept (fun a h1 h2 => hS.2.1 a h1 (fun q => h2 (hAz a q))))
theorem j_callVi {C : String} {F : u_T} {N ci i : Nat} {fs : List (Option Nat)} (E : XE X cc own nL fr lo) (hC : CtI y b n ret fr1 lo1 av σ (r, σ1)) (M : XMV y C b n ret k) (hc : vwCl[ci]? = some (C, F, N)) (hs : shp i = (0, ci, fs)) (hl : Cond.methodLink own index y ∈ xG) (As : List Value) (hav : av (xa X) (xk X) = .ref (xa X i) :: As) (hk : As.length = k) (hst : st0 = As.reverse ++ .ref (xa X i) :: st) (hf : fr1 + 1 ≤ fr ∧ 8 + (n + 11) + lo1 ≤ lo) (hW : (st.map fun v => v.category).sum ≤ 8) (d : decode cc pc = .ok (.invokevirtual index, 3)) (K : JF X o nL (pc + 3) lv (.int r :: st) σ1 T) : JF X o nL pc lv st0 σ T := by
  obtain ⟨p, l, e, R, s, m, args, below, meth, c, ⟨D, Am, cy, z, ad⟩, A0, Q, cells, slots⟩ := X
  have E' := E
  obtain ⟨hx, hb, hml, hown, hts, hK, hA, hAz, hz, hG, hfr, hlo, hcl, hsl⟩ := E
  obtain ⟨M1, M2, M3, M4, M5⟩ := M
  intro hT H locs ls hl1 hH
  obtain ⟨hF, hpre⟩ := xsub E' hH
  have hav : av Am ad = .ref (Am i) :: As := hav
  have hcw : CallW R s args own C index y b n ret (Cond.code y b n ret :: xG) (xRm fr1 lo1) 0 0 k := ⟨callB_of k hts (xGI M4) rfl rfl rfl (hts _ M3) (hts _ hl) M5 ⟨by rw [hfr]; exact hf.1, by rw [hlo]; exact hf.2⟩, hts _ M1, hts _ M2⟩
  have hrun := va_runV (As := As) (rest := st) (g := F0 m pc ls st0) (b := Am i) (H := H) (locs := locs) (cells := cells) (slots := slots) (below := below) (meth := meth) (e := e) ⟨hx, hb, hml, hown, hts⟩ (hC l D Am cy z ad H.size) hcw ⟨xPre.blind, va_recv hK hH.1 hc (xw_at hs (by decide)), fun U hU hW => ⟨by rw [hav], hpre U hU hW⟩⟩ rfl hk hl1.1 hst (lv_room (m := m) (pc := pc) (ls := ls) (rest := st0) hW) d ⟨hcl, hsl⟩
  refine va_calli hrun hH.2.2 (fun q _ h => hF q h) hF (fun r1 u t H1 locs1 ht hvm hw hB hz1 hk1 hS => ?_)
  obtain ⟨e1, e2⟩ := hw
  subst e1 e2
  obtain ⟨gP, gK, gD⟩ := hB
  rw [ht] at gP
  exact K hT H1 locs1 ls hl1 ⟨gP, gD.weaken (fun k q _ h => hF _ h), hS⟩
theorem j_callVv {C : String} {F : u_T} {N ci i : Nat} {fs : List (Option Nat)} (E : XE X cc own nL fr lo) (hC : CtV y b n ret fr1 lo1 av σ (r, σ1)) (M : XMV y C b n ret k) (hc : vwCl[ci]? = some (C, F, N)) (hs : shp i = (0, ci, fs)) (hl : Cond.methodLink own index y ∈ xG) (As : List Value) (hav : av (xa X) (xk X) = .ref (xa X i) :: As) (hk : As.length = k) (hst : st0 = As.reverse ++ .ref (xa X i) :: st) (hf : fr1 + 1 ≤ fr ∧ 8 + (n + 11) + lo1 ≤ lo) (hW : (st.map fun v => v.category).sum ≤ 8) (d : decode cc pc = .ok (.invokevirtual index, 3)) (K : JF X o nL (pc + 3) lv st σ1 T) : JF X o nL pc lv st0 σ T := by
  obtain ⟨p, l, e, R, s, m, args, below, meth, c, ⟨D, Am, cy, z, ad⟩, A0, Q, cells, slots⟩ := X
  have E' := E
  obtain ⟨hx, hb, hml, hown, hts, hK, hA, hAz, hz, hG, hfr, hlo, hcl, hsl⟩ := E
  obtain ⟨M1, M2, M3, M4, M5⟩ := M
  intro hT H locs ls hl1 hH
  obtain ⟨hF, hpre⟩ := xsub E' hH
  have hav : av Am ad = .ref (Am i) :: As := hav
  have hcw : CallW R s args own C index y b n ret (Cond.code y b n ret :: xG) (xRm fr1 lo1) 0 0 k := ⟨callB_of k hts (xGI M4) rfl rfl rfl (hts _ M3) (hts _ hl) M5 ⟨by rw [hfr]; exact hf.1, by rw [hlo]; exact hf.2⟩, hts _ M1, hts _ M2⟩
  have hrun := va_runV (As := As) (rest := st) (g := F0 m pc ls st0) (b := Am i) (H := H) (locs := locs) (cells := cells) (slots := slots) (below := below) (meth := meth) (e := e) ⟨hx, hb, hml, hown, hts⟩ (hC l D Am cy z ad H.size) hcw ⟨xPre.blind, va_recv hK hH.1 hc (xw_at hs (by decide)), fun U hU hW => ⟨by rw [hav], hpre U hU hW⟩⟩ rfl hk hl1.1 hst (lv_room (m := m) (pc := pc) (ls := ls) (rest := st0) hW) d ⟨hcl, hsl⟩
  refine va_callv hrun hH.2.2 (fun q _ h => hF q h) hF (fun u t H1 locs1 ht hvm hw hB hz1 hk1 hS => ?_)
  have hw : u = σ1 := hw
  subst hw
  obtain ⟨gP, gK, gD⟩ := hB
  rw [ht] at gP
  exact K hT H1 locs1 ls hl1 ⟨gP, gD.weaken (fun k q _ h => hF _ h), hS⟩
theorem j_callSi (E : XE X cc own nL fr lo) (hC : CtI y b n ret fr1 lo1 av σ (r, σ1)) (M : XMS y b n ret k) (hl : Cond.methodLink own index y ∈ xG) (As : List Value) (hav : av (xa X) (xk X) = As) (hk : As.length = k) (hst : st0 = As.reverse ++ st) (hf : fr1 + 1 ≤ fr ∧ 8 + (n + 11) + lo1 ≤ lo) (hW : (st.map fun v => v.category).sum ≤ 8) (d : decode cc pc = .ok (.invokestatic index, 3)) (K : JF X o nL (pc + 3) lv (.int r :: st) σ1 T) : JF X o nL pc lv st0 σ T := by
  obtain ⟨p, l, e, R, s, m, args, below, meth, c, ⟨D, Am, cy, z, ad⟩, A0, Q, cells, slots⟩ := X
  have E' := E
  obtain ⟨hx, hb, hml, hown, hts, hK, hA, hAz, hz, hG, hfr, hlo, hcl, hsl⟩ := E
  obtain ⟨M1, M3, M4, M5⟩ := M
  intro hT H locs ls hl1 hH
  obtain ⟨hF, hpre⟩ := xsub E' hH
  have hav : av Am ad = As := hav
  have hcw : CallB R s args own index y b n ret (Cond.code y b n ret :: xG) (xRm fr1 lo1) 0 0 k ∧ (Cond.static y).before args s = true := ⟨callB_of k hts (xGI M4) rfl rfl rfl (hts _ M3) (hts _ hl) M5 ⟨by rw [hfr]; exact hf.1, by rw [hlo]; exact hf.2⟩, hts _ M1⟩
  have hrun := va_runS (As := As) (rest := st) (g := F0 m pc ls st0) (H := H) (locs := locs) (cells := cells) (slots := slots) (below := below) (meth := meth) (e := e) ⟨hx, hb, hml, hown, hts⟩ (hC l D Am cy z ad H.size) hcw ⟨xPre.blind, fun U hU hW => ⟨by rw [hav], hpre U hU hW⟩⟩ rfl hk hl1.1 hst (lv_room (m := m) (pc := pc) (ls := ls) (rest := st0) hW) d ⟨hcl, hsl⟩
  refine va_calli hrun hH.2.2 (fun q _ h => hF q h) hF (fun r1 u t H1 locs1 ht hvm hw hB hz1 hk1 hS => ?_)
  obtain ⟨e1, e2⟩ := hw
  subst e1 e2
  obtain ⟨gP, gK, gD⟩ := hB
  rw [ht] at gP
  exact K hT H1 locs1 ls hl1 ⟨gP, gD.weaken (fun k q _ h => hF _ h), hS⟩
/-- a static method of a nest mate -/
theorem j_callSiN (E : XE X cc own nL fr lo) (hC : CtI y b n ret fr1 lo1 av σ (r, σ1)) (M : XMS y b n ret k) (hl : (own, index, y) ∈ xNestL) (As : List Value) (hav : av (xa X) (xk X) = As) (hk : As.length = k) (hst : st0 = As.reverse ++ st) (hf : fr1 + 1 ≤ fr ∧ 8 + (n + 11) + lo1 ≤ lo) (hW : (st.map fun v => v.category).sum ≤ 8) (d : decode cc pc = .ok (.invokestatic index, 3)) (K : JF X o nL (pc + 3) lv (.int r :: st) σ1 T) : JF X o nL pc lv st0 σ T := by
  obtain ⟨p, l, e, R, s, m, args, below, meth, c, ⟨D, Am, cy, z, ad⟩, A0, Q, cells, slots⟩ := X
  have E' := E
  obtain ⟨hx, hb, hml, hown, hts, hK, hA, hAz, hz, hG, hfr, hlo, hcl, hsl⟩ := E
  obtain ⟨M1, M3, M4, M5⟩ := M
  intro hT H locs ls hl1 hH
  obtain ⟨hF, hpre⟩ := xsub E' hH
  have hav : av Am ad = As := hav
  have hcw : va_CN R s args own index y "VerseCustoms" b n ret (Cond.code y b n ret :: xG) (xRm fr1 lo1) 0 0 k ∧ (Cond.static y).before args s = true ∧ True := ⟨va_cnB k hts (xGI M4) rfl rfl rfl (hG.2.2.2.2.2.2.2.2 _ hl) (hts _ M3) M5 ⟨by rw [hfr]; exact hf.1, by rw [hlo]; exact hf.2⟩, hts _ M1, trivial⟩
  have hrun := va_runSN (As := As) (rest := st) (g := F0 m pc ls st0) (H := H) (locs := locs) (cells := cells) (slots := slots) (below := below) (meth := meth) (e := e) ⟨hx, hb, hml, hown, hts⟩ (hC l D Am cy z ad H.size) hcw ⟨xPre.blind, fun U hU hW => ⟨by rw [hav], hpre U hU hW⟩⟩ rfl hk hl1.1 hst (lv_room (m := m) (pc := pc) (ls := ls) (rest := st0) hW) d ⟨hcl, hsl⟩
  refine va_calli hrun hH.2.2 (fun q _ h => hF q h) hF (fun r1 u t H1 locs1 ht hvm hw hB hz1 hk1 hS => ?_)
  obtain ⟨e1, e2⟩ := hw
  subst e1 e2
  obtain ⟨gP, gK, gD⟩ := hB
  rw [ht] at gP
  exact K hT H1 locs1 ls hl1 ⟨gP, gD.weaken (fun k q _ h => hF _ h), hS⟩
theorem j_callSv (E : XE X cc own nL fr lo) (hC : CtV y b n ret fr1 lo1 av σ (r, σ1)) (M : XMS y b n ret k) (hl : Cond.methodLink own index y ∈ xG) (As : List Value) (hav : av (xa X) (xk X) = As) (hk : As.length = k) (hst : st0 = As.reverse ++ st) (hf : fr1 + 1 ≤ fr ∧ 8 + (n + 11) + lo1 ≤ lo) (hW : (st.map fun v => v.category).sum ≤ 8) (d : decode cc pc = .ok (.invokestatic index, 3)) (K : JF X o nL (pc + 3) lv st σ1 T) : JF X o nL pc lv st0 σ T := by
  obtain ⟨p, l, e, R, s, m, args, below, meth, c, ⟨D, Am, cy, z, ad⟩, A0, Q, cells, slots⟩ := X
  have E' := E
  obtain ⟨hx, hb, hml, hown, hts, hK, hA, hAz, hz, hG, hfr, hlo, hcl, hsl⟩ := E
  obtain ⟨M1, M3, M4, M5⟩ := M
  intro hT H locs ls hl1 hH
  obtain ⟨hF, hpre⟩ := xsub E' hH
  have hav : av Am ad = As := hav
  have hcw : CallB R s args own index y b n ret (Cond.code y b n ret :: xG) (xRm fr1 lo1) 0 0 k ∧ (Cond.static y).before args s = true := ⟨callB_of k hts (xGI M4) rfl rfl rfl (hts _ M3) (hts _ hl) M5 ⟨by rw [hfr]; exact hf.1, by rw [hlo]; exact hf.2⟩, hts _ M1⟩
  have hrun := va_runS (As := As) (rest := st) (g := F0 m pc ls st0) (H := H) (locs := locs) (cells := cells) (slots := slots) (below := below) (meth := meth) (e := e) ⟨hx, hb, hml, hown, hts⟩ (hC l D Am cy z ad H.size) hcw ⟨xPre.blind, fun U hU hW => ⟨by rw [hav], hpre U hU hW⟩⟩ rfl hk hl1.1 hst (lv_room (m := m) (pc := pc) (ls := ls) (rest := st0) hW) d ⟨hcl, hsl⟩
  refine va_callv hrun hH.2.2 (fun q _ h => hF q h) hF (fun u t H1 locs1 ht hvm hw hB hz1 hk1 hS => ?_)
  have hw : u = σ1 := hw
  subst hw
  obtain ⟨gP, gK, gD⟩ := hB
  rw [ht] at gP
  exact K hT H1 locs1 ls hl1 ⟨gP, gD.weaken (fun k q _ h => hF _ h), hS⟩
/-- a static call whose answer is a text -/
theorem j_callSr (E : XE X cc own nL fr lo) (hC : CtR y b n ret fr1 lo1 av σ (r, σ1)) (M : XMS y b n ret k) (hl : Cond.methodLink own index y ∈ xG) (As : List Value) (hav : av (xa X) (xk X) = As) (hk : As.length = k) (hst : st0 = As.reverse ++ st) (hf : fr1 + 1 ≤ fr ∧ 8 + (n + 11) + lo1 ≤ lo) (hW : (st.map fun v => v.category).sum ≤ 8) (d : decode cc pc = .ok (.invokestatic index, 3)) (K : JF X o nL (pc + 3) lv (.ref (xk X r.toNatClampNeg) :: st) σ1 T) : JF X o nL pc lv st0 σ T := by
  obtain ⟨p, l, e, R, s, m, args, below, meth, c, ⟨D, Am, cy, z, ad⟩, A0, Q, cells, slots⟩ := X
  have E' := E
  obtain ⟨hx, hb, hml, hown, hts, hK, hA, hAz, hz, hG, hfr, hlo, hcl, hsl⟩ := E
  obtain ⟨M1, M3, M4, M5⟩ := M
  intro hT H locs ls hl1 hH
  obtain ⟨hF, hpre⟩ := xsub E' hH
  have hav : av Am ad = As := hav
  have hcw : CallB R s args own index y b n ret (Cond.code y b n ret :: xG) (xRm fr1 lo1) 0 0 k ∧ (Cond.static y).before args s = true := ⟨callB_of k hts (xGI M4) rfl rfl rfl (hts _ M3) (hts _ hl) M5 ⟨by rw [hfr]; exact hf.1, by rw [hlo]; exact hf.2⟩, hts _ M1⟩
  have hrun := va_runS (As := As) (rest := st) (g := F0 m pc ls st0) (H := H) (locs := locs) (cells := cells) (slots := slots) (below := below) (meth := meth) (e := e) ⟨hx, hb, hml, hown, hts⟩ (hC l D Am cy z ad H.size) hcw ⟨xPre.blind, fun U hU hW => ⟨by rw [hav], hpre U hU hW⟩⟩ rfl hk hl1.1 hst (lv_room (m := m) (pc := pc) (ls := ls) (rest := st0) hW) d ⟨hcl, hsl⟩
  refine va_callr hrun hH.2.2 (fun q _ h => hF q h) hF (fun u ra t H1 locs1 ht hvm hw hB hz1 hk1 hS => ?_)
  have hw : u = σ1 := hw
  subst hw
  obtain ⟨⟨q, hq2, hq, rfl⟩, gP, gK, gD⟩ := hB
  rw [ht] at gP
  have eq : r.toNatClampNeg = q := by rw [show r = nI q from hq, nI_clamp (by omega)]
  have K : JF (p, l, e, R, s, m, args, below, meth, c, (D, Am, cy, z, ad), A0, Q, cells, slots) o nL (pc + 3) lv (.ref (ad r.toNatClampNeg) :: st) u T := K
  rw [eq] at K
  exact K hT H1 locs1 ls hl1 ⟨gP, gD.weaken (fun k q _ h => hF _ h), hS⟩
theorem j_zret {ty : FieldType} (E : XE X cc own nL fr lo) (R : XZ X o cc ty) {r : Int32} (hn : narrow ty (.int r) = .int r) (d : decode cc pc = .ok (.ireturn, 1)) : JF X o nL pc lv [.int r] σ (some (r, σ)) := by
  intro hT H locs ls hl hH
  cases hT
  exact R pc H locs ls hn d hH
theorem j_zretg (E : XE X cc own nL fr lo) (R : XZ X o cc .boolean) {r : Int32} (d : decode cc pc = .ok (.ireturn, 1)) : JF X o nL pc lv [.int r] σ (gd (decide (r = 0) || decide (r = 1)) (some (r, σ))) := by
  refine JF.gd (fun hg => ?_)
  refine j_zret E R ?_ d
  rw [Bool.or_eq_true, decide_eq_true_eq, decide_eq_true_eq] at hg
  rcases hg with h | h <;> rw [h] <;> rfl
/-- a text of the constant pool -/
theorem j_ldcS {index k : Nat} (E : XE X cc "VerseCustoms$Text" nL fr lo) (hi : index = 126 + 2 * k) (hk : k < 20) (d : decode cc pc = .ok (.ldc index, 2)) (K : JF X o nL (pc + 2) lv (.ref (xk X k) :: st) σ T) : JF X o nL pc lv st σ T := by
  subst hi
  obtain ⟨p, l, e, R, s, m, args, below, meth, c, ⟨D, Am, cy, z, ad⟩, A0, Q, cells, slots⟩ := X
  obtain ⟨hx, hb, hml, hown, hts, hK, hA, hAz, hz, hG, hfr, hlo, hcl, hsl⟩ := E
  intro hT H locs ls hl hH
  exact va_ldcS hx hb hown (hG.2.2.2.2.2.2.2.1 k hk) d (K hT H locs ls hl hH)
end CL
section XX
variable {X : XC} {o : XO} {cc : ByteArray} {own : String} {nL fr lo : Nat} {pc : Nat} {lv : List (Nat × Value)} {st : List Value} {σ : XS} {T : Option XO}
def xB (A : Option XO) (k : Int32 → XS → Option XO) : Option XO := match A with
  | some q => k q.1 q.2
  | none => none
theorem JF.xb {A : Option XO} {kk : Int32 → XS → Option XO} (K : ∀ (r : Int32) (σ1 : XS), A = some (r, σ1) → JF X o nL pc lv st σ (kk r σ1)) : JF X o nL pc lv st σ (xB A kk) := by
  cases A with
  | none => exact JF.none
  | some q => exact K q.1 q.2 rfl
/-- a row of numbers, its length; a line: an object and its row behind it -/
def xlen (r : Nat) : Nat := (shp r).2.1
def xRow (r : Nat) : Prop := shp r = (1, xlen r, [])
def xLine (L : Nat) : Prop := shp L = (0, 4, [some (L + 1), none]) ∧ shp (L + 1) = (1, 6, [])
theorem xrg {r n : Nat} (h : shp r = (1, n, [])) : xRow r := by
  unfold xRow xlen
  rw [h]
theorem xrl {L : Nat} (h : xLine L) : xRow (L + 1) := xrg h.2
theorem xne {x v : Int32} (h : ¬ x = v) {k : Int} (hk : v.toInt = k) : x.toInt ≠ k := fun e => h (Int32.toInt_inj.mp (e.trans hk.symm))
theorem x01 {r : Int32} (hg : (decide (r = 0) || decide (r = 1)) = true) : narrow .boolean (.int r) = .int r := by
  rw [Bool.or_eq_true, decide_eq_true_eq, decide_eq_true_eq] at hg
  rcases hg with h | h <;> rw [h] <;> rfl
theorem xin_lt {i : Int32} {n : Nat} (h : xin i n = true) : i.toNatClampNeg < n := Nat.not_le.mp fun q => xin_ok h (Or.inr q)
/-- the two constant rows -/
def xkrow (w : Nat) : List Int32 := if w = 200 then [3, 7, 9, 25] else [3, 5, 11]
theorem j_gets200 {index : Nat} (E : XE X cc RX9 nL fr lo) (hl : Cond.fieldLink RX9 index "VerseCustoms" "WORD_IS" "[I" ∈ xG) (d : decode cc pc = .ok (.getstatic index, 3)) (K : JF X o nL (pc + 3) lv (.ref (xk X 200) :: st) σ T) : JF X o nL pc lv st σ T := by
  obtain ⟨p, l, e, R, s, m, args, below, meth, c, ⟨D, Am, cy, z, ad⟩, A0, Q, cells, slots⟩ := X
  obtain ⟨hx, hb, hml, hown, hts, hK, hA, hAz, hz, hG, hfr, hlo, hcl, hsl⟩ := E
  intro hT H locs ls hl1 hH
  exact va_gets hx hb (hG.2.1.narrow hAz) hH.2.2 hown (hts _ hl) (fun _ h => h) d (K hT H locs ls hl1 hH)
theorem j_gets201 {index : Nat} (E : XE X cc RX9 nL fr lo) (hl : Cond.fieldLink RX9 index "VerseCustoms" "CLERK_IS" "[I" ∈ xG) (d : decode cc pc = .ok (.getstatic index, 3)) (K : JF X o nL (pc + 3) lv (.ref (xk X 201) :: st) σ T) : JF X o nL pc lv st σ T := by
  obtain ⟨p, l, e, R, s, m, args, below, meth, c, ⟨D, Am, cy, z, ad⟩, A0, Q, cells, slots⟩ := X
  obtain ⟨hx, hb, hml, hown, hts, hK, hA, hAz, hz, hG, hfr, hlo, hcl, hsl⟩ := E
  intro hT H locs ls hl1 hH
  exact va_gets hx hb (hG.2.2.2.1.narrow hAz) hH.2.2 hown (hts _ hl) (fun _ h => h) d (K hT H locs ls hl1 hH)
theorem xkT {p : Program} {l : Launch} {e : Env} {R : Room} {s : State} {m : MethodId} {args : Array Value} {below : List Frame} {meth : Method} {c : Code} {D : va_G} {Am : Nat → Nat} {cy : Nat → ClassId} {z : Nat} {ad : Nat → Nat} {A0 : Nat → Prop} {Q : State → Prop} {cells slots : Nat} (E : XE (p, l, e, R, s, m, args, below, meth, c, (D, Am, cy, z, ad), A0, Q, cells, slots) cc own nL fr lo) {w : Nat} (hw : w = 200 ∨ w = 201) : va_T .int (ad w) (xkrow w).length (fun j => .int ((xkrow w).getD j 0)) A0 s s.heap := by
  obtain ⟨hx, hb, hml, hown, hts, hK, hA, hAz, hz, hG, hfr, hlo, hcl, hsl⟩ := E
  rcases hw with rfl | rfl
  · exact hG.2.2.1.narrow hAz
  · exact hG.2.2.2.2.1.narrow hAz
theorem j_klen {w : Nat} {v : Int32} (E : XE X cc own nL fr lo) (hw : w = 200 ∨ w = 201) (hv : nI (xkrow w).length = v) (d : decode cc pc = .ok (.arraylength, 1)) (K : JF X o nL (pc + 1) lv (.int v :: st) σ T) : JF X o nL pc lv (.ref (xk X w) :: st) σ T := by
  obtain ⟨p, l, e, R, s, m, args, below, meth, c, ⟨D, Am, cy, z, ad⟩, A0, Q, cells, slots⟩ := X
  have hT0 := xkT E hw
  obtain ⟨hx, hb, hml, hown, hts, hK, hA, hAz, hz, hG, hfr, hlo, hcl, hsl⟩ := E
  intro hT H locs ls hl1 hH
  exact va_tlen hx hb hT0 hH.2.2 hv d (K hT H locs ls hl1 hH)
theorem j_kald {w : Nat} {i : Int32} (E : XE X cc own nL fr lo) (hw : w = 200 ∨ w = 201) (d : decode cc pc = .ok (.iaload, 1)) (K : JF X o nL (pc + 1) lv (.int ((xkrow w).getD i.toNatClampNeg 0) :: st) σ T) : JF X o nL pc lv (.int i :: .ref (xk X w) :: st) σ (gd (xin i (xkrow w).length) T) := by
  refine JF.gd (fun hg => ?_)
  obtain ⟨p, l, e, R, s, m, args, below, meth, c, ⟨D, Am, cy, z, ad⟩, A0, Q, cells, slots⟩ := X
  have hT0 := xkT E hw
  obtain ⟨hx, hb, hml, hown, hts, hK, hA, hAz, hz, hG, hfr, hlo, hcl, hsl⟩ := E
  intro hT H locs ls hl1 hH
  exact va_ti hx hb hT0 hH.2.2 (xin_ok hg) rfl d (K hT H locs ls hl1 hH)
end XX
end
