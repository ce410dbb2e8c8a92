section
-- ===== PART A: goes FIRST, ahead of the names: the tables' words, and 'selects' of the private methods out of them =====
/-- a private method of a class that the tables say can be made, by its rows of tables_1 -/
def lw_okq (q : MethodName × Nat) : Prop := (q.1.cls ≠ "java/lang/invoke/MethodHandle" ∧ q.1.cls ≠ "java/lang/invoke/VarHandle") ∧ Cond.instantiable q.1.cls q.2 ∈ tables_1 ∧ Cond.privateMethod q.1 ∈ tables_1 ∧ Cond.instanceMethod q.1 ∈ tables_1
theorem lw_p0 : lw_okq (⟨"AnswersFirst$Entries", "goesOnWith", "(I)Z"⟩, 8) := ⟨⟨by decide +kernel, by decide +kernel⟩, List.mem_of_getElem? (i := 47) (by decide +kernel), List.mem_of_getElem? (i := 235) (by decide +kernel), List.mem_of_getElem? (i := 236) (by decide +kernel)⟩
theorem lw_p1 : lw_okq (⟨"AnswersFirst$Entries", "valueOf", "(II)I"⟩, 8) := ⟨⟨by decide +kernel, by decide +kernel⟩, List.mem_of_getElem? (i := 47) (by decide +kernel), List.mem_of_getElem? (i := 239) (by decide +kernel), List.mem_of_getElem? (i := 240) (by decide +kernel)⟩
theorem lw_p2 : lw_okq (⟨"AnswersFirst$Entries", "keep", "(II)V"⟩, 8) := ⟨⟨by decide +kernel, by decide +kernel⟩, List.mem_of_getElem? (i := 47) (by decide +kernel), List.mem_of_getElem? (i := 332) (by decide +kernel), List.mem_of_getElem? (i := 333) (by decide +kernel)⟩
theorem lw_p3 : lw_okq (⟨"AnswersFirst", "markOld", "()V"⟩, 12) := ⟨⟨by decide +kernel, by decide +kernel⟩, List.mem_of_getElem? (i := 20) (by decide +kernel), List.mem_of_getElem? (i := 336) (by decide +kernel), List.mem_of_getElem? (i := 337) (by decide +kernel)⟩
theorem lw_p4 : lw_okq (⟨"AnswersFirst", "isNoMatter", "(I)Z"⟩, 12) := ⟨⟨by decide +kernel, by decide +kernel⟩, List.mem_of_getElem? (i := 20) (by decide +kernel), List.mem_of_getElem? (i := 387) (by decide +kernel), List.mem_of_getElem? (i := 388) (by decide +kernel)⟩
theorem lw_p5 : lw_okq (⟨"AnswersFirst", "finding", "(I)I"⟩, 12) := ⟨⟨by decide +kernel, by decide +kernel⟩, List.mem_of_getElem? (i := 20) (by decide +kernel), List.mem_of_getElem? (i := 419) (by decide +kernel), List.mem_of_getElem? (i := 420) (by decide +kernel)⟩
theorem lw_p6 : lw_okq (⟨"AnswersFirst", "rowsNow", "()LAnswersFirst$Rows;"⟩, 12) := ⟨⟨by decide +kernel, by decide +kernel⟩, List.mem_of_getElem? (i := 20) (by decide +kernel), List.mem_of_getElem? (i := 450) (by decide +kernel), List.mem_of_getElem? (i := 451) (by decide +kernel)⟩
theorem lw_p7 : lw_okq (⟨"AnswersFirst$Rows", "findTies", "(LAnswersFirst$Entries;I)V"⟩, 8) := ⟨⟨by decide +kernel, by decide +kernel⟩, List.mem_of_getElem? (i := 83) (by decide +kernel), List.mem_of_getElem? (i := 460) (by decide +kernel), List.mem_of_getElem? (i := 461) (by decide +kernel)⟩
theorem lw_p8 : lw_okq (⟨"AnswersFirst$Rows", "fillShould", "()V"⟩, 8) := ⟨⟨by decide +kernel, by decide +kernel⟩, List.mem_of_getElem? (i := 83) (by decide +kernel), List.mem_of_getElem? (i := 478) (by decide +kernel), List.mem_of_getElem? (i := 479) (by decide +kernel)⟩
theorem lw_p9 : lw_okq (⟨"AnswersFirst$Rows", "markBreakable", "()V"⟩, 8) := ⟨⟨by decide +kernel, by decide +kernel⟩, List.mem_of_getElem? (i := 83) (by decide +kernel), List.mem_of_getElem? (i := 510) (by decide +kernel), List.mem_of_getElem? (i := 511) (by decide +kernel)⟩
theorem lw_p10 : lw_okq (⟨"AnswersFirst$Rows", "fillMarks", "(I)V"⟩, 8) := ⟨⟨by decide +kernel, by decide +kernel⟩, List.mem_of_getElem? (i := 83) (by decide +kernel), List.mem_of_getElem? (i := 514) (by decide +kernel), List.mem_of_getElem? (i := 515) (by decide +kernel)⟩
theorem lw_p11 : lw_okq (⟨"AnswersFirst", "bestRow", "(LAnswersFirst$Rows;I)I"⟩, 12) := ⟨⟨by decide +kernel, by decide +kernel⟩, List.mem_of_getElem? (i := 20) (by decide +kernel), List.mem_of_getElem? (i := 609) (by decide +kernel), List.mem_of_getElem? (i := 610) (by decide +kernel)⟩
theorem lw_p12 : lw_okq (⟨"AnswersFirst", "worthOf", "(II)I"⟩, 12) := ⟨⟨by decide +kernel, by decide +kernel⟩, List.mem_of_getElem? (i := 20) (by decide +kernel), List.mem_of_getElem? (i := 613) (by decide +kernel), List.mem_of_getElem? (i := 614) (by decide +kernel)⟩
theorem lw_p13 : lw_okq (⟨"AnswersFirst", "hasBetter", "(LAnswersFirst$Rows;II)Z"⟩, 12) := ⟨⟨by decide +kernel, by decide +kernel⟩, List.mem_of_getElem? (i := 20) (by decide +kernel), List.mem_of_getElem? (i := 621) (by decide +kernel), List.mem_of_getElem? (i := 622) (by decide +kernel)⟩
theorem lw_p14 : lw_okq (⟨"AnswersFirst", "accountsNow", "()LAnswersFirst$Accounts;"⟩, 12) := ⟨⟨by decide +kernel, by decide +kernel⟩, List.mem_of_getElem? (i := 20) (by decide +kernel), List.mem_of_getElem? (i := 633) (by decide +kernel), List.mem_of_getElem? (i := 634) (by decide +kernel)⟩
theorem lw_p15 : lw_okq (⟨"AnswersFirst$Accounts", "fillTheirs", "(I)V"⟩, 5) := ⟨⟨by decide +kernel, by decide +kernel⟩, List.mem_of_getElem? (i := 114) (by decide +kernel), List.mem_of_getElem? (i := 649) (by decide +kernel), List.mem_of_getElem? (i := 650) (by decide +kernel)⟩
def lw_privs_1 : List (MethodName × Nat) := [(⟨"AnswersFirst$Entries", "goesOnWith", "(I)Z"⟩, 8), (⟨"AnswersFirst$Entries", "valueOf", "(II)I"⟩, 8), (⟨"AnswersFirst$Entries", "keep", "(II)V"⟩, 8), (⟨"AnswersFirst", "markOld", "()V"⟩, 12), (⟨"AnswersFirst", "isNoMatter", "(I)Z"⟩, 12), (⟨"AnswersFirst", "finding", "(I)I"⟩, 12), (⟨"AnswersFirst", "rowsNow", "()LAnswersFirst$Rows;"⟩, 12), (⟨"AnswersFirst$Rows", "findTies", "(LAnswersFirst$Entries;I)V"⟩, 8), (⟨"AnswersFirst$Rows", "fillShould", "()V"⟩, 8), (⟨"AnswersFirst$Rows", "markBreakable", "()V"⟩, 8), (⟨"AnswersFirst$Rows", "fillMarks", "(I)V"⟩, 8), (⟨"AnswersFirst", "bestRow", "(LAnswersFirst$Rows;I)I"⟩, 12), (⟨"AnswersFirst", "worthOf", "(II)I"⟩, 12), (⟨"AnswersFirst", "hasBetter", "(LAnswersFirst$Rows;II)Z"⟩, 12), (⟨"AnswersFirst", "accountsNow", "()LAnswersFirst$Accounts;"⟩, 12), (⟨"AnswersFirst$Accounts", "fillTheirs", "(I)V"⟩, 5)]
theorem lw_r1 : ∀ q ∈ lw_privs_1, lw_okq q := List.forall_mem_cons.mpr ⟨lw_p0, List.forall_mem_cons.mpr ⟨lw_p1, List.forall_mem_cons.mpr ⟨lw_p2, List.forall_mem_cons.mpr ⟨lw_p3, List.forall_mem_cons.mpr ⟨lw_p4, List.forall_mem_cons.mpr ⟨lw_p5, List.forall_mem_cons.mpr ⟨lw_p6, List.forall_mem_cons.mpr ⟨lw_p7, List.forall_mem_cons.mpr ⟨lw_p8, List.forall_mem_cons.mpr ⟨lw_p9, List.forall_mem_cons.mpr ⟨lw_p10, List.forall_mem_cons.mpr ⟨lw_p11, List.forall_mem_cons.mpr ⟨lw_p12, List.forall_mem_cons.mpr ⟨lw_p13, List.forall_mem_cons.mpr ⟨lw_p14, List.forall_mem_cons.mpr ⟨lw_p15, fun _ h => absurd h List.not_mem_nil⟩⟩⟩⟩⟩⟩⟩⟩⟩⟩⟩⟩⟩⟩⟩⟩
theorem lw_p16 : lw_okq (⟨"AnswersFirst$Accounts", "excess", "(I)I"⟩, 5) := ⟨⟨by decide +kernel, by decide +kernel⟩, List.mem_of_getElem? (i := 114) (by decide +kernel), List.mem_of_getElem? (i := 653) (by decide +kernel), List.mem_of_getElem? (i := 654) (by decide +kernel)⟩
theorem lw_p17 : lw_okq (⟨"AnswersFirst$Lots", "draw", "(I)I"⟩, 1) := ⟨⟨by decide +kernel, by decide +kernel⟩, List.mem_of_getElem? (i := 152) (by decide +kernel), List.mem_of_getElem? (i := 714) (by decide +kernel), List.mem_of_getElem? (i := 715) (by decide +kernel)⟩
theorem lw_p18 : lw_okq (⟨"AnswersFirst", "itemRefusal", "(LAnswersFirst$Sheet;II)I"⟩, 12) := ⟨⟨by decide +kernel, by decide +kernel⟩, List.mem_of_getElem? (i := 20) (by decide +kernel), List.mem_of_getElem? (i := 742) (by decide +kernel), List.mem_of_getElem? (i := 743) (by decide +kernel)⟩
theorem lw_p19 : lw_okq (⟨"AnswersFirst$Sheet", "narrowed", "(I)I"⟩, 3) := ⟨⟨by decide +kernel, by decide +kernel⟩, List.mem_of_getElem? (i := 163) (by decide +kernel), List.mem_of_getElem? (i := 754) (by decide +kernel), List.mem_of_getElem? (i := 755) (by decide +kernel)⟩
theorem lw_p20 : lw_okq (⟨"AnswersFirst", "mixedWithMatters", "(J)J"⟩, 12) := ⟨⟨by decide +kernel, by decide +kernel⟩, List.mem_of_getElem? (i := 20) (by decide +kernel), List.mem_of_getElem? (i := 799) (by decide +kernel), List.mem_of_getElem? (i := 800) (by decide +kernel)⟩
theorem lw_p21 : lw_okq (⟨"AnswersFirst", "mixedWithRows", "(J)J"⟩, 12) := ⟨⟨by decide +kernel, by decide +kernel⟩, List.mem_of_getElem? (i := 20) (by decide +kernel), List.mem_of_getElem? (i := 805) (by decide +kernel), List.mem_of_getElem? (i := 806) (by decide +kernel)⟩
theorem lw_p22 : lw_okq (⟨"AnswersFirst", "mixedWithPersons", "(J)J"⟩, 12) := ⟨⟨by decide +kernel, by decide +kernel⟩, List.mem_of_getElem? (i := 20) (by decide +kernel), List.mem_of_getElem? (i := 818) (by decide +kernel), List.mem_of_getElem? (i := 819) (by decide +kernel)⟩
theorem lw_p23 : lw_okq (⟨"AnswersFirst", "mixedWithAll", "(J)J"⟩, 12) := ⟨⟨by decide +kernel, by decide +kernel⟩, List.mem_of_getElem? (i := 20) (by decide +kernel), List.mem_of_getElem? (i := 827) (by decide +kernel), List.mem_of_getElem? (i := 828) (by decide +kernel)⟩
theorem lw_p24 : lw_okq (⟨"AnswersFirstModel", "faultOf", "(I)I"⟩, 23) := ⟨⟨by decide +kernel, by decide +kernel⟩, List.mem_of_getElem? (i := 838) (by decide +kernel), List.mem_of_getElem? (i := 937) (by decide +kernel), List.mem_of_getElem? (i := 938) (by decide +kernel)⟩
theorem lw_p25 : lw_okq (⟨"AnswersFirstModel", "readsMatters", "()I"⟩, 23) := ⟨⟨by decide +kernel, by decide +kernel⟩, List.mem_of_getElem? (i := 838) (by decide +kernel), List.mem_of_getElem? (i := 941) (by decide +kernel), List.mem_of_getElem? (i := 942) (by decide +kernel)⟩
theorem lw_p26 : lw_okq (⟨"AnswersFirstModel", "readsMatter", "(II)I"⟩, 23) := ⟨⟨by decide +kernel, by decide +kernel⟩, List.mem_of_getElem? (i := 838) (by decide +kernel), List.mem_of_getElem? (i := 945) (by decide +kernel), List.mem_of_getElem? (i := 946) (by decide +kernel)⟩
theorem lw_p27 : lw_okq (⟨"AnswersFirstModel", "figureAt", "(III)I"⟩, 23) := ⟨⟨by decide +kernel, by decide +kernel⟩, List.mem_of_getElem? (i := 838) (by decide +kernel), List.mem_of_getElem? (i := 949) (by decide +kernel), List.mem_of_getElem? (i := 950) (by decide +kernel)⟩
theorem lw_p28 : lw_okq (⟨"AnswersFirstModel", "byteAt", "(II)I"⟩, 23) := ⟨⟨by decide +kernel, by decide +kernel⟩, List.mem_of_getElem? (i := 838) (by decide +kernel), List.mem_of_getElem? (i := 953) (by decide +kernel), List.mem_of_getElem? (i := 954) (by decide +kernel)⟩
theorem lw_p29 : lw_okq (⟨"AnswersFirstModel", "whenAt", "(I)I"⟩, 23) := ⟨⟨by decide +kernel, by decide +kernel⟩, List.mem_of_getElem? (i := 838) (by decide +kernel), List.mem_of_getElem? (i := 957) (by decide +kernel), List.mem_of_getElem? (i := 958) (by decide +kernel)⟩
theorem lw_p30 : lw_okq (⟨"AnswersFirstModel", "readsPosts", "(I)I"⟩, 23) := ⟨⟨by decide +kernel, by decide +kernel⟩, List.mem_of_getElem? (i := 838) (by decide +kernel), List.mem_of_getElem? (i := 961) (by decide +kernel), List.mem_of_getElem? (i := 962) (by decide +kernel)⟩
theorem lw_p31 : lw_okq (⟨"AnswersFirstModel", "isMatter", "(I)Z"⟩, 23) := ⟨⟨by decide +kernel, by decide +kernel⟩, List.mem_of_getElem? (i := 838) (by decide +kernel), List.mem_of_getElem? (i := 969) (by decide +kernel), List.mem_of_getElem? (i := 970) (by decide +kernel)⟩
def lw_privs_2 : List (MethodName × Nat) := [(⟨"AnswersFirst$Accounts", "excess", "(I)I"⟩, 5), (⟨"AnswersFirst$Lots", "draw", "(I)I"⟩, 1), (⟨"AnswersFirst", "itemRefusal", "(LAnswersFirst$Sheet;II)I"⟩, 12), (⟨"AnswersFirst$Sheet", "narrowed", "(I)I"⟩, 3), (⟨"AnswersFirst", "mixedWithMatters", "(J)J"⟩, 12), (⟨"AnswersFirst", "mixedWithRows", "(J)J"⟩, 12), (⟨"AnswersFirst", "mixedWithPersons", "(J)J"⟩, 12), (⟨"AnswersFirst", "mixedWithAll", "(J)J"⟩, 12), (⟨"AnswersFirstModel", "faultOf", "(I)I"⟩, 23), (⟨"AnswersFirstModel", "readsMatters", "()I"⟩, 23), (⟨"AnswersFirstModel", "readsMatter", "(II)I"⟩, 23), (⟨"AnswersFirstModel", "figureAt", "(III)I"⟩, 23), (⟨"AnswersFirstModel", "byteAt", "(II)I"⟩, 23), (⟨"AnswersFirstModel", "whenAt", "(I)I"⟩, 23), (⟨"AnswersFirstModel", "readsPosts", "(I)I"⟩, 23), (⟨"AnswersFirstModel", "isMatter", "(I)Z"⟩, 23)]
theorem lw_r2 : ∀ q ∈ lw_privs_2, lw_okq q := List.forall_mem_cons.mpr ⟨lw_p16, List.forall_mem_cons.mpr ⟨lw_p17, List.forall_mem_cons.mpr ⟨lw_p18, List.forall_mem_cons.mpr ⟨lw_p19, List.forall_mem_cons.mpr ⟨lw_p20, List.forall_mem_cons.mpr ⟨lw_p21, List.forall_mem_cons.mpr ⟨lw_p22, List.forall_mem_cons.mpr ⟨lw_p23, List.forall_mem_cons.mpr ⟨lw_p24, List.forall_mem_cons.mpr ⟨lw_p25, List.forall_mem_cons.mpr ⟨lw_p26, List.forall_mem_cons.mpr ⟨lw_p27, List.forall_mem_cons.mpr ⟨lw_p28, List.forall_mem_cons.mpr ⟨lw_p29, List.forall_mem_cons.mpr ⟨lw_p30, List.forall_mem_cons.mpr ⟨lw_p31, fun _ h => absurd h List.not_mem_nil⟩⟩⟩⟩⟩⟩⟩⟩⟩⟩⟩⟩⟩⟩⟩⟩
theorem lw_p32 : lw_okq (⟨"AnswersFirstModel", "reads", "()V"⟩, 23) := ⟨⟨by decide +kernel, by decide +kernel⟩, List.mem_of_getElem? (i := 838) (by decide +kernel), List.mem_of_getElem? (i := 973) (by decide +kernel), List.mem_of_getElem? (i := 974) (by decide +kernel)⟩
theorem lw_p33 : lw_okq (⟨"AnswersFirstModel", "meets", "(I)I"⟩, 23) := ⟨⟨by decide +kernel, by decide +kernel⟩, List.mem_of_getElem? (i := 838) (by decide +kernel), List.mem_of_getElem? (i := 995) (by decide +kernel), List.mem_of_getElem? (i := 996) (by decide +kernel)⟩
theorem lw_p34 : lw_okq (⟨"AnswersFirstModel", "brokenOf", "(I)I"⟩, 23) := ⟨⟨by decide +kernel, by decide +kernel⟩, List.mem_of_getElem? (i := 838) (by decide +kernel), List.mem_of_getElem? (i := 1010) (by decide +kernel), List.mem_of_getElem? (i := 1011) (by decide +kernel)⟩
theorem lw_p35 : lw_okq (⟨"AnswersFirstModel", "there", "()I"⟩, 23) := ⟨⟨by decide +kernel, by decide +kernel⟩, List.mem_of_getElem? (i := 838) (by decide +kernel), List.mem_of_getElem? (i := 1014) (by decide +kernel), List.mem_of_getElem? (i := 1015) (by decide +kernel)⟩
theorem lw_p36 : lw_okq (⟨"AnswersFirstModel", "brokenBy", "(II)I"⟩, 23) := ⟨⟨by decide +kernel, by decide +kernel⟩, List.mem_of_getElem? (i := 838) (by decide +kernel), List.mem_of_getElem? (i := 1018) (by decide +kernel), List.mem_of_getElem? (i := 1019) (by decide +kernel)⟩
theorem lw_p37 : lw_okq (⟨"AnswersFirstModel", "next", "(II)I"⟩, 23) := ⟨⟨by decide +kernel, by decide +kernel⟩, List.mem_of_getElem? (i := 838) (by decide +kernel), List.mem_of_getElem? (i := 1022) (by decide +kernel), List.mem_of_getElem? (i := 1023) (by decide +kernel)⟩
theorem lw_p38 : lw_okq (⟨"AnswersFirstModel", "isWritten", "(II)Z"⟩, 23) := ⟨⟨by decide +kernel, by decide +kernel⟩, List.mem_of_getElem? (i := 838) (by decide +kernel), List.mem_of_getElem? (i := 1029) (by decide +kernel), List.mem_of_getElem? (i := 1030) (by decide +kernel)⟩
theorem lw_p39 : lw_okq (⟨"AnswersFirstModel", "isKnown", "(II)Z"⟩, 23) := ⟨⟨by decide +kernel, by decide +kernel⟩, List.mem_of_getElem? (i := 838) (by decide +kernel), List.mem_of_getElem? (i := 1033) (by decide +kernel), List.mem_of_getElem? (i := 1034) (by decide +kernel)⟩
theorem lw_p40 : lw_okq (⟨"AnswersFirstModel", "rowsOf", "(I)I"⟩, 23) := ⟨⟨by decide +kernel, by decide +kernel⟩, List.mem_of_getElem? (i := 838) (by decide +kernel), List.mem_of_getElem? (i := 1041) (by decide +kernel), List.mem_of_getElem? (i := 1042) (by decide +kernel)⟩
theorem lw_p41 : lw_okq (⟨"AnswersFirstModel", "sureOf", "(I)I"⟩, 23) := ⟨⟨by decide +kernel, by decide +kernel⟩, List.mem_of_getElem? (i := 838) (by decide +kernel), List.mem_of_getElem? (i := 1049) (by decide +kernel), List.mem_of_getElem? (i := 1050) (by decide +kernel)⟩
theorem lw_p42 : lw_okq (⟨"AnswersFirstModel", "cannotOf", "(I)I"⟩, 23) := ⟨⟨by decide +kernel, by decide +kernel⟩, List.mem_of_getElem? (i := 838) (by decide +kernel), List.mem_of_getElem? (i := 1057) (by decide +kernel), List.mem_of_getElem? (i := 1058) (by decide +kernel)⟩
theorem lw_p43 : lw_okq (⟨"AnswersFirstModel", "freedOf", "(I)I"⟩, 23) := ⟨⟨by decide +kernel, by decide +kernel⟩, List.mem_of_getElem? (i := 838) (by decide +kernel), List.mem_of_getElem? (i := 1068) (by decide +kernel), List.mem_of_getElem? (i := 1069) (by decide +kernel)⟩
theorem lw_p44 : lw_okq (⟨"AnswersFirstModel", "nearestOf", "(I)I"⟩, 23) := ⟨⟨by decide +kernel, by decide +kernel⟩, List.mem_of_getElem? (i := 838) (by decide +kernel), List.mem_of_getElem? (i := 1076) (by decide +kernel), List.mem_of_getElem? (i := 1077) (by decide +kernel)⟩
theorem lw_p45 : lw_okq (⟨"AnswersFirstModel", "stepsOf", "(II)I"⟩, 23) := ⟨⟨by decide +kernel, by decide +kernel⟩, List.mem_of_getElem? (i := 838) (by decide +kernel), List.mem_of_getElem? (i := 1084) (by decide +kernel), List.mem_of_getElem? (i := 1085) (by decide +kernel)⟩
theorem lw_p46 : lw_okq (⟨"AnswersFirstModel", "returnsOf", "(II)I"⟩, 23) := ⟨⟨by decide +kernel, by decide +kernel⟩, List.mem_of_getElem? (i := 838) (by decide +kernel), List.mem_of_getElem? (i := 1092) (by decide +kernel), List.mem_of_getElem? (i := 1093) (by decide +kernel)⟩
theorem lw_p47 : lw_okq (⟨"AnswersFirstModel", "hangsOf", "(I)I"⟩, 23) := ⟨⟨by decide +kernel, by decide +kernel⟩, List.mem_of_getElem? (i := 838) (by decide +kernel), List.mem_of_getElem? (i := 1100) (by decide +kernel), List.mem_of_getElem? (i := 1101) (by decide +kernel)⟩
def lw_privs_3 : List (MethodName × Nat) := [(⟨"AnswersFirstModel", "reads", "()V"⟩, 23), (⟨"AnswersFirstModel", "meets", "(I)I"⟩, 23), (⟨"AnswersFirstModel", "brokenOf", "(I)I"⟩, 23), (⟨"AnswersFirstModel", "there", "()I"⟩, 23), (⟨"AnswersFirstModel", "brokenBy", "(II)I"⟩, 23), (⟨"AnswersFirstModel", "next", "(II)I"⟩, 23), (⟨"AnswersFirstModel", "isWritten", "(II)Z"⟩, 23), (⟨"AnswersFirstModel", "isKnown", "(II)Z"⟩, 23), (⟨"AnswersFirstModel", "rowsOf", "(I)I"⟩, 23), (⟨"AnswersFirstModel", "sureOf", "(I)I"⟩, 23), (⟨"AnswersFirstModel", "cannotOf", "(I)I"⟩, 23), (⟨"AnswersFirstModel", "freedOf", "(I)I"⟩, 23), (⟨"AnswersFirstModel", "nearestOf", "(I)I"⟩, 23), (⟨"AnswersFirstModel", "stepsOf", "(II)I"⟩, 23), (⟨"AnswersFirstModel", "returnsOf", "(II)I"⟩, 23), (⟨"AnswersFirstModel", "hangsOf", "(I)I"⟩, 23)]
theorem lw_r3 : ∀ q ∈ lw_privs_3, lw_okq q := List.forall_mem_cons.mpr ⟨lw_p32, List.forall_mem_cons.mpr ⟨lw_p33, List.forall_mem_cons.mpr ⟨lw_p34, List.forall_mem_cons.mpr ⟨lw_p35, List.forall_mem_cons.mpr ⟨lw_p36, List.forall_mem_cons.mpr ⟨lw_p37, List.forall_mem_cons.mpr ⟨lw_p38, List.forall_mem_cons.mpr ⟨lw_p39, List.forall_mem_cons.mpr ⟨lw_p40, List.forall_mem_cons.mpr ⟨lw_p41, List.forall_mem_cons.mpr ⟨lw_p42, List.forall_mem_cons.mpr ⟨lw_p43, List.forall_mem_cons.mpr ⟨lw_p44, List.forall_mem_cons.mpr ⟨lw_p45, List.forall_mem_cons.mpr ⟨lw_p46, List.forall_mem_cons.mpr ⟨lw_p47, fun _ h => absurd h List.not_mem_nil⟩⟩⟩⟩⟩⟩⟩⟩⟩⟩⟩⟩⟩⟩⟩⟩
theorem lw_p48 : lw_okq (⟨"AnswersFirstModel", "hangsAt", "(I)I"⟩, 23) := ⟨⟨by decide +kernel, by decide +kernel⟩, List.mem_of_getElem? (i := 838) (by decide +kernel), List.mem_of_getElem? (i := 1104) (by decide +kernel), List.mem_of_getElem? (i := 1105) (by decide +kernel)⟩
theorem lw_p49 : lw_okq (⟨"AnswersFirstModel", "ringsNow", "()I"⟩, 23) := ⟨⟨by decide +kernel, by decide +kernel⟩, List.mem_of_getElem? (i := 838) (by decide +kernel), List.mem_of_getElem? (i := 1112) (by decide +kernel), List.mem_of_getElem? (i := 1113) (by decide +kernel)⟩
theorem lw_p50 : lw_okq (⟨"AnswersFirstModel", "hadOf", "(III)I"⟩, 23) := ⟨⟨by decide +kernel, by decide +kernel⟩, List.mem_of_getElem? (i := 838) (by decide +kernel), List.mem_of_getElem? (i := 1126) (by decide +kernel), List.mem_of_getElem? (i := 1127) (by decide +kernel)⟩
theorem lw_p51 : lw_okq (⟨"AnswersFirstModel", "askedOf", "(III)I"⟩, 23) := ⟨⟨by decide +kernel, by decide +kernel⟩, List.mem_of_getElem? (i := 838) (by decide +kernel), List.mem_of_getElem? (i := 1134) (by decide +kernel), List.mem_of_getElem? (i := 1135) (by decide +kernel)⟩
theorem lw_p52 : lw_okq (⟨"AnswersFirstModel", "openOf", "(II)I"⟩, 23) := ⟨⟨by decide +kernel, by decide +kernel⟩, List.mem_of_getElem? (i := 838) (by decide +kernel), List.mem_of_getElem? (i := 1142) (by decide +kernel), List.mem_of_getElem? (i := 1143) (by decide +kernel)⟩
theorem lw_p53 : lw_okq (⟨"AnswersFirstModel", "bestOf", "(II)I"⟩, 23) := ⟨⟨by decide +kernel, by decide +kernel⟩, List.mem_of_getElem? (i := 838) (by decide +kernel), List.mem_of_getElem? (i := 1150) (by decide +kernel), List.mem_of_getElem? (i := 1151) (by decide +kernel)⟩
theorem lw_p54 : lw_okq (⟨"AnswersFirstModel", "bestBy", "(II)I"⟩, 23) := ⟨⟨by decide +kernel, by decide +kernel⟩, List.mem_of_getElem? (i := 838) (by decide +kernel), List.mem_of_getElem? (i := 1154) (by decide +kernel), List.mem_of_getElem? (i := 1155) (by decide +kernel)⟩
theorem lw_p55 : lw_okq (⟨"AnswersFirstModel", "worthOf", "(II)I"⟩, 23) := ⟨⟨by decide +kernel, by decide +kernel⟩, List.mem_of_getElem? (i := 838) (by decide +kernel), List.mem_of_getElem? (i := 1158) (by decide +kernel), List.mem_of_getElem? (i := 1159) (by decide +kernel)⟩
theorem lw_p56 : lw_okq (⟨"AnswersFirstModel", "restOf", "(II)I"⟩, 23) := ⟨⟨by decide +kernel, by decide +kernel⟩, List.mem_of_getElem? (i := 838) (by decide +kernel), List.mem_of_getElem? (i := 1166) (by decide +kernel), List.mem_of_getElem? (i := 1167) (by decide +kernel)⟩
theorem lw_p57 : lw_okq (⟨"AnswersFirstModel", "owedOf", "(I)I"⟩, 23) := ⟨⟨by decide +kernel, by decide +kernel⟩, List.mem_of_getElem? (i := 838) (by decide +kernel), List.mem_of_getElem? (i := 1174) (by decide +kernel), List.mem_of_getElem? (i := 1175) (by decide +kernel)⟩
theorem lw_p58 : lw_okq (⟨"AnswersFirstModel", "canBe", "(II)Z"⟩, 23) := ⟨⟨by decide +kernel, by decide +kernel⟩, List.mem_of_getElem? (i := 838) (by decide +kernel), List.mem_of_getElem? (i := 1178) (by decide +kernel), List.mem_of_getElem? (i := 1179) (by decide +kernel)⟩
theorem lw_p59 : lw_okq (⟨"AnswersFirstModel", "lackNow", "()I"⟩, 23) := ⟨⟨by decide +kernel, by decide +kernel⟩, List.mem_of_getElem? (i := 838) (by decide +kernel), List.mem_of_getElem? (i := 1186) (by decide +kernel), List.mem_of_getElem? (i := 1187) (by decide +kernel)⟩
theorem lw_p60 : lw_okq (⟨"AnswersFirstModel", "unaskedNow", "()I"⟩, 23) := ⟨⟨by decide +kernel, by decide +kernel⟩, List.mem_of_getElem? (i := 838) (by decide +kernel), List.mem_of_getElem? (i := 1194) (by decide +kernel), List.mem_of_getElem? (i := 1195) (by decide +kernel)⟩
theorem lw_p61 : lw_okq (⟨"AnswersFirstModel", "refusedOf", "(I)I"⟩, 23) := ⟨⟨by decide +kernel, by decide +kernel⟩, List.mem_of_getElem? (i := 838) (by decide +kernel), List.mem_of_getElem? (i := 1211) (by decide +kernel), List.mem_of_getElem? (i := 1212) (by decide +kernel)⟩
theorem lw_p62 : lw_okq (⟨"AnswersFirstModel", "lotOf", "(II)I"⟩, 23) := ⟨⟨by decide +kernel, by decide +kernel⟩, List.mem_of_getElem? (i := 838) (by decide +kernel), List.mem_of_getElem? (i := 1219) (by decide +kernel), List.mem_of_getElem? (i := 1220) (by decide +kernel)⟩
theorem lw_p63 : lw_okq (⟨"AnswersFirstModel", "lacks", "(III)I"⟩, 23) := ⟨⟨by decide +kernel, by decide +kernel⟩, List.mem_of_getElem? (i := 838) (by decide +kernel), List.mem_of_getElem? (i := 1236) (by decide +kernel), List.mem_of_getElem? (i := 1237) (by decide +kernel)⟩
def lw_privs_4 : List (MethodName × Nat) := [(⟨"AnswersFirstModel", "hangsAt", "(I)I"⟩, 23), (⟨"AnswersFirstModel", "ringsNow", "()I"⟩, 23), (⟨"AnswersFirstModel", "hadOf", "(III)I"⟩, 23), (⟨"AnswersFirstModel", "askedOf", "(III)I"⟩, 23), (⟨"AnswersFirstModel", "openOf", "(II)I"⟩, 23), (⟨"AnswersFirstModel", "bestOf", "(II)I"⟩, 23), (⟨"AnswersFirstModel", "bestBy", "(II)I"⟩, 23), (⟨"AnswersFirstModel", "worthOf", "(II)I"⟩, 23), (⟨"AnswersFirstModel", "restOf", "(II)I"⟩, 23), (⟨"AnswersFirstModel", "owedOf", "(I)I"⟩, 23), (⟨"AnswersFirstModel", "canBe", "(II)Z"⟩, 23), (⟨"AnswersFirstModel", "lackNow", "()I"⟩, 23), (⟨"AnswersFirstModel", "unaskedNow", "()I"⟩, 23), (⟨"AnswersFirstModel", "refusedOf", "(I)I"⟩, 23), (⟨"AnswersFirstModel", "lotOf", "(II)I"⟩, 23), (⟨"AnswersFirstModel", "lacks", "(III)I"⟩, 23)]
theorem lw_r4 : ∀ q ∈ lw_privs_4, lw_okq q := List.forall_mem_cons.mpr ⟨lw_p48, List.forall_mem_cons.mpr ⟨lw_p49, List.forall_mem_cons.mpr ⟨lw_p50, List.forall_mem_cons.mpr ⟨lw_p51, List.forall_mem_cons.mpr ⟨lw_p52, List.forall_mem_cons.mpr ⟨lw_p53, List.forall_mem_cons.mpr ⟨lw_p54, List.forall_mem_cons.mpr ⟨lw_p55, List.forall_mem_cons.mpr ⟨lw_p56, List.forall_mem_cons.mpr ⟨lw_p57, List.forall_mem_cons.mpr ⟨lw_p58, List.forall_mem_cons.mpr ⟨lw_p59, List.forall_mem_cons.mpr ⟨lw_p60, List.forall_mem_cons.mpr ⟨lw_p61, List.forall_mem_cons.mpr ⟨lw_p62, List.forall_mem_cons.mpr ⟨lw_p63, fun _ h => absurd h List.not_mem_nil⟩⟩⟩⟩⟩⟩⟩⟩⟩⟩⟩⟩⟩⟩⟩⟩
theorem lw_p64 : lw_okq (⟨"AnswersFirstModel", "keep", "(III)V"⟩, 23) := ⟨⟨by decide +kernel, by decide +kernel⟩, List.mem_of_getElem? (i := 838) (by decide +kernel), List.mem_of_getElem? (i := 1240) (by decide +kernel), List.mem_of_getElem? (i := 1241) (by decide +kernel)⟩
theorem lw_p65 : lw_okq (⟨"AnswersFirstModel", "readsMany", "(I)I"⟩, 23) := ⟨⟨by decide +kernel, by decide +kernel⟩, List.mem_of_getElem? (i := 838) (by decide +kernel), List.mem_of_getElem? (i := 1261) (by decide +kernel), List.mem_of_getElem? (i := 1262) (by decide +kernel)⟩
def lw_privs_5 : List (MethodName × Nat) := [(⟨"AnswersFirstModel", "keep", "(III)V"⟩, 23), (⟨"AnswersFirstModel", "readsMany", "(I)I"⟩, 23)]
theorem lw_r5 : ∀ q ∈ lw_privs_5, lw_okq q := List.forall_mem_cons.mpr ⟨lw_p64, List.forall_mem_cons.mpr ⟨lw_p65, fun _ h => absurd h List.not_mem_nil⟩⟩
def lw_privs : List (MethodName × Nat) := lw_privs_1 ++ (lw_privs_2 ++ (lw_privs_3 ++ (lw_privs_4 ++ (lw_privs_5))))
def lw_tbl : List Cond := k2_sels lw_privs ++ tables_1
theorem lw_privs_ok : ∀ q ∈ lw_privs, lw_okq q := by
  show ∀ q ∈ lw_privs_1 ++ (lw_privs_2 ++ (lw_privs_3 ++ (lw_privs_4 ++ (lw_privs_5)))), lw_okq q
  exact List.forall_mem_append.mpr ⟨lw_r1, List.forall_mem_append.mpr ⟨lw_r2, List.forall_mem_append.mpr ⟨lw_r3, List.forall_mem_append.mpr ⟨lw_r4, lw_r5⟩⟩⟩⟩
end
section
def RX0 : String := "AnswersFirst$Accounts"
def TX0 : u_T := fun k => match k with
  | 0 => ("AnswersFirst$Accounts", "canBe", "[I", true)
  | 1 => ("AnswersFirst$Accounts", "theirs", "[I", true)
  | 2 => ("AnswersFirst$Accounts", "lack", "I", false)
  | 3 => ("AnswersFirst$Accounts", "all", "I", false)
  | _ => ("AnswersFirst$Accounts", "unasked", "I", false)
def tyX0 : Nat → FieldType := fun k => match k with
  | 0 => .array .int
  | 1 => .array .int
  | 2 => .int
  | 3 => .int
  | _ => .int
abbrev wsX00 : List Cond := u_ws RX0 TX0 5
theorem nmX0 : ∀ a, a < 5 → ∀ b, b < 5 → a ≠ b → (TX0 a).2.1 ≠ (TX0 b).2.1 := by decide +kernel
theorem tyX0_ok : ∀ k, k < 5 → parseFieldDescriptor (TX0 k).2.2.1 = some (tyX0 k) := by decide +kernel
abbrev cX0_init : ByteArray := prog_2_method_1_code
def yX0_init : MethodName := ⟨RX0, "<init>", "()V"⟩
abbrev cX0_workOut : ByteArray := prog_2_method_2_code
def yX0_workOut : MethodName := ⟨RX0, "workOut", "(LAnswersFirst$Entries;LAnswersFirst$Entries;II)V"⟩
abbrev cX0_lettersFor : ByteArray := prog_2_method_3_code
def yX0_lettersFor : MethodName := ⟨RX0, "lettersFor", "(LAnswersFirst$Entries;ILAnswersFirst$Entries;II)I"⟩
abbrev cX0_fillTheirs : ByteArray := prog_2_method_4_code
def yX0_fillTheirs : MethodName := ⟨RX0, "fillTheirs", "(I)V"⟩
abbrev cX0_excess : ByteArray := prog_2_method_5_code
def yX0_excess : MethodName := ⟨RX0, "excess", "(I)I"⟩
abbrev cX0_lacking : ByteArray := prog_2_method_6_code
def yX0_lacking : MethodName := ⟨RX0, "lacking", "()I"⟩
abbrev cX0_withoutReply : ByteArray := prog_2_method_7_code
def yX0_withoutReply : MethodName := ⟨RX0, "withoutReply", "()I"⟩
abbrev cX0_owedAmong : ByteArray := prog_2_method_8_code
def yX0_owedAmong : MethodName := ⟨RX0, "owedAmong", "(I)I"⟩
def RX1 : String := "AnswersFirst$Entries"
def TX1 : u_T := fun k => match k with
  | 0 => ("AnswersFirst$Entries", "form", "[I", true)
  | 1 => ("AnswersFirst$Entries", "parts", "[I", true)
  | 2 => ("AnswersFirst$Entries", "bytes", "I", false)
  | 3 => ("AnswersFirst$Entries", "entry", "I", false)
  | 4 => ("AnswersFirst$Entries", "next", "I", false)
  | 5 => ("AnswersFirst$Entries", "who", "I", false)
  | 6 => ("AnswersFirst$Entries", "size", "I", false)
  | _ => ("AnswersFirst$Entries", "stop", "I", false)
def tyX1 : Nat → FieldType := fun k => match k with
  | 0 => .array .int
  | 1 => .array .int
  | 2 => .int
  | 3 => .int
  | 4 => .int
  | 5 => .int
  | 6 => .int
  | _ => .int
abbrev wsX10 : List Cond := u_ws RX1 TX1 8
theorem nmX1 : ∀ a, a < 8 → ∀ b, b < 8 → a ≠ b → (TX1 a).2.1 ≠ (TX1 b).2.1 := by decide +kernel
theorem tyX1_ok : ∀ k, k < 8 → parseFieldDescriptor (TX1 k).2.2.1 = some (tyX1 k) := by decide +kernel
abbrev cX1_init : ByteArray := prog_3_method_1_code
def yX1_init : MethodName := ⟨RX1, "<init>", "([I)V"⟩
abbrev cX1_howMany : ByteArray := prog_3_method_2_code
def yX1_howMany : MethodName := ⟨RX1, "howMany", "()I"⟩
abbrev cX1_faultPlace : ByteArray := prog_3_method_3_code
def yX1_faultPlace : MethodName := ⟨RX1, "faultPlace", "()I"⟩
abbrev cX1_part : ByteArray := prog_3_method_4_code
def yX1_part : MethodName := ⟨RX1, "part", "(II)I"⟩
abbrev cX1_with : ByteArray := prog_3_method_5_code
def yX1_with : MethodName := ⟨RX1, "with", "(II)I"⟩
abbrev cX1_byDay : ByteArray := prog_3_method_6_code
def yX1_byDay : MethodName := ⟨RX1, "byDay", "(I)I"⟩
abbrev cX1_begin : ByteArray := prog_3_method_7_code
def yX1_begin : MethodName := ⟨RX1, "begin", "()V"⟩
abbrev cX1_readAgain : ByteArray := prog_3_method_8_code
def yX1_readAgain : MethodName := ⟨RX1, "readAgain", "(LAnswersFirst$Text;)V"⟩
abbrev cX1_take : ByteArray := prog_3_method_9_code
def yX1_take : MethodName := ⟨RX1, "take", "(I)V"⟩
abbrev cX1_goesOnWith : ByteArray := prog_3_method_10_code
def yX1_goesOnWith : MethodName := ⟨RX1, "goesOnWith", "(I)Z"⟩
abbrev cX1_valueOf : ByteArray := prog_3_method_11_code
def yX1_valueOf : MethodName := ⟨RX1, "valueOf", "(II)I"⟩
abbrev cX1_keep : ByteArray := prog_3_method_12_code
def yX1_keep : MethodName := ⟨RX1, "keep", "(II)V"⟩
abbrev cX1_figure : ByteArray := prog_3_method_13_code
def yX1_figure : MethodName := ⟨RX1, "figure", "(II)I"⟩
def RX2 : String := "AnswersFirst$Lots"
def TX2 : u_T := fun k => match k with
  | _ => ("AnswersFirst$Lots", "state", "I", false)
def tyX2 : Nat → FieldType := fun k => match k with
  | _ => .int
abbrev wsX20 : List Cond := u_ws RX2 TX2 1
theorem nmX2 : ∀ a, a < 1 → ∀ b, b < 1 → a ≠ b → (TX2 a).2.1 ≠ (TX2 b).2.1 := by decide +kernel
theorem tyX2_ok : ∀ k, k < 1 → parseFieldDescriptor (TX2 k).2.2.1 = some (tyX2 k) := by decide +kernel
abbrev cX2_init : ByteArray := prog_4_method_1_code
def yX2_init : MethodName := ⟨RX2, "<init>", "()V"⟩
abbrev cX2_beginWith : ByteArray := prog_4_method_2_code
def yX2_beginWith : MethodName := ⟨RX2, "beginWith", "(I)V"⟩
abbrev cX2_drawRow : ByteArray := prog_4_method_3_code
def yX2_drawRow : MethodName := ⟨RX2, "drawRow", "(I)I"⟩
abbrev cX2_draw : ByteArray := prog_4_method_4_code
def yX2_draw : MethodName := ⟨RX2, "draw", "(I)I"⟩
def RX3 : String := "AnswersFirst$Rows"
def TX3 : u_T := fun k => match k with
  | 0 => ("AnswersFirst$Rows", "broken", "[I", true)
  | 1 => ("AnswersFirst$Rows", "fitting", "[I", true)
  | 2 => ("AnswersFirst$Rows", "marks", "[I", true)
  | 3 => ("AnswersFirst$Rows", "hangsOn", "[I", true)
  | 4 => ("AnswersFirst$Rows", "turned", "[I", true)
  | 5 => ("AnswersFirst$Rows", "size", "I", false)
  | 6 => ("AnswersFirst$Rows", "all", "I", false)
  | _ => ("AnswersFirst$Rows", "fits", "I", false)
def tyX3 : Nat → FieldType := fun k => match k with
  | 0 => .array .int
  | 1 => .array .int
  | 2 => .array .int
  | 3 => .array .int
  | 4 => .array .int
  | 5 => .int
  | 6 => .int
  | _ => .int
abbrev wsX30 : List Cond := u_ws RX3 TX3 8
theorem nmX3 : ∀ a, a < 8 → ∀ b, b < 8 → a ≠ b → (TX3 a).2.1 ≠ (TX3 b).2.1 := by decide +kernel
theorem tyX3_ok : ∀ k, k < 8 → parseFieldDescriptor (TX3 k).2.2.1 = some (tyX3 k) := by decide +kernel
abbrev cX3_init : ByteArray := prog_5_method_1_code
def yX3_init : MethodName := ⟨RX3, "<init>", "()V"⟩
abbrev cX3_workOut : ByteArray := prog_5_method_2_code
def yX3_workOut : MethodName := ⟨RX3, "workOut", "(LAnswersFirst$Entries;II)V"⟩
abbrev cX3_findTies : ByteArray := prog_5_method_3_code
def yX3_findTies : MethodName := ⟨RX3, "findTies", "(LAnswersFirst$Entries;I)V"⟩
abbrev cX3_isTurnedBy : ByteArray := prog_5_method_4_code
def yX3_isTurnedBy : MethodName := ⟨RX3, "isTurnedBy", "(II)Z"⟩
abbrev cX3_writtenUnanswered : ByteArray := prog_5_method_5_code
def yX3_writtenUnanswered : MethodName := ⟨RX3, "writtenUnanswered", "(LAnswersFirst$Entries;)I"⟩
abbrev cX3_fillShould : ByteArray := prog_5_method_6_code
def yX3_fillShould : MethodName := ⟨RX3, "fillShould", "()V"⟩
abbrev cX3_allBits : ByteArray := prog_5_method_7_code
def yX3_allBits : MethodName := ⟨RX3, "allBits", "()I"⟩
abbrev cX3_howMany : ByteArray := prog_5_method_8_code
def yX3_howMany : MethodName := ⟨RX3, "howMany", "()I"⟩
abbrev cX3_nth : ByteArray := prog_5_method_9_code
def yX3_nth : MethodName := ⟨RX3, "nth", "(I)I"⟩
abbrev cX3_inAll : ByteArray := prog_5_method_10_code
def yX3_inAll : MethodName := ⟨RX3, "inAll", "()I"⟩
abbrev cX3_inNone : ByteArray := prog_5_method_11_code
def yX3_inNone : MethodName := ⟨RX3, "inNone", "()I"⟩
abbrev cX3_fewestClashing : ByteArray := prog_5_method_12_code
def yX3_fewestClashing : MethodName := ⟨RX3, "fewestClashing", "()I"⟩
abbrev cX3_markBreakable : ByteArray := prog_5_method_13_code
def yX3_markBreakable : MethodName := ⟨RX3, "markBreakable", "()V"⟩
abbrev cX3_fewestBroken : ByteArray := prog_5_method_14_code
def yX3_fewestBroken : MethodName := ⟨RX3, "fewestBroken", "()I"⟩
abbrev cX3_brokenBy : ByteArray := prog_5_method_15_code
def yX3_brokenBy : MethodName := ⟨RX3, "brokenBy", "(I)I"⟩
abbrev cX3_closestTo : ByteArray := prog_5_method_16_code
def yX3_closestTo : MethodName := ⟨RX3, "closestTo", "(I)I"⟩
abbrev cX3_behindSteps : ByteArray := prog_5_method_17_code
def yX3_behindSteps : MethodName := ⟨RX3, "behindSteps", "(II)I"⟩
abbrev cX3_stepsToReturn : ByteArray := prog_5_method_18_code
def yX3_stepsToReturn : MethodName := ⟨RX3, "stepsToReturn", "(IZ)I"⟩
abbrev cX3_fillMarks : ByteArray := prog_5_method_19_code
def yX3_fillMarks : MethodName := ⟨RX3, "fillMarks", "(I)V"⟩
abbrev cX3_hangingOn : ByteArray := prog_5_method_20_code
def yX3_hangingOn : MethodName := ⟨RX3, "hangingOn", "(I)I"⟩
abbrev cX3_inRings : ByteArray := prog_5_method_21_code
def yX3_inRings : MethodName := ⟨RX3, "inRings", "()I"⟩
def RX4 : String := "AnswersFirst$Seen"
def TX4 : u_T := fun k => match k with
  | 0 => ("AnswersFirst$Seen", "size", "I", false)
  | 1 => ("AnswersFirst$Seen", "written", "I", false)
  | _ => ("AnswersFirst$Seen", "unwritten", "I", false)
def tyX4 : Nat → FieldType := fun k => match k with
  | 0 => .int
  | 1 => .int
  | _ => .int
abbrev wsX40 : List Cond := u_ws RX4 TX4 3
theorem nmX4 : ∀ a, a < 3 → ∀ b, b < 3 → a ≠ b → (TX4 a).2.1 ≠ (TX4 b).2.1 := by decide +kernel
theorem tyX4_ok : ∀ k, k < 3 → parseFieldDescriptor (TX4 k).2.2.1 = some (tyX4 k) := by decide +kernel
abbrev cX4_init : ByteArray := prog_6_method_1_code
def yX4_init : MethodName := ⟨RX4, "<init>", "()V"⟩
abbrev cX4_howMany : ByteArray := prog_6_method_2_code
def yX4_howMany : MethodName := ⟨RX4, "howMany", "()I"⟩
abbrev cX4_isFull : ByteArray := prog_6_method_3_code
def yX4_isFull : MethodName := ⟨RX4, "isFull", "()Z"⟩
abbrev cX4_add : ByteArray := prog_6_method_4_code
def yX4_add : MethodName := ⟨RX4, "add", "(II)V"⟩
abbrev cX4_clearAll : ByteArray := prog_6_method_5_code
def yX4_clearAll : MethodName := ⟨RX4, "clearAll", "()V"⟩
abbrev cX4_agreesWith : ByteArray := prog_6_method_6_code
def yX4_agreesWith : MethodName := ⟨RX4, "agreesWith", "(I)Z"⟩
def RX5 : String := "AnswersFirst$Sheet"
def TX5 : u_T := fun k => match k with
  | 0 => ("AnswersFirst$Sheet", "items", "[I", true)
  | 1 => ("AnswersFirst$Sheet", "form", "I", false)
  | _ => ("AnswersFirst$Sheet", "size", "I", false)
def tyX5 : Nat → FieldType := fun k => match k with
  | 0 => .array .int
  | 1 => .int
  | _ => .int
abbrev wsX50 : List Cond := u_ws RX5 TX5 3
theorem nmX5 : ∀ a, a < 3 → ∀ b, b < 3 → a ≠ b → (TX5 a).2.1 ≠ (TX5 b).2.1 := by decide +kernel
theorem tyX5_ok : ∀ k, k < 3 → parseFieldDescriptor (TX5 k).2.2.1 = some (tyX5 k) := by decide +kernel
abbrev cX5_init : ByteArray := prog_7_method_1_code
def yX5_init : MethodName := ⟨RX5, "<init>", "()V"⟩
abbrev cX5_isLost : ByteArray := prog_7_method_2_code
def yX5_isLost : MethodName := ⟨RX5, "isLost", "()Z"⟩
abbrev cX5_form : ByteArray := prog_7_method_3_code
def yX5_form : MethodName := ⟨RX5, "form", "()I"⟩
abbrev cX5_length : ByteArray := prog_7_method_4_code
def yX5_length : MethodName := ⟨RX5, "length", "()I"⟩
abbrev cX5_begin : ByteArray := prog_7_method_5_code
def yX5_begin : MethodName := ⟨RX5, "begin", "(II)V"⟩
abbrev cX5_becomeLost : ByteArray := prog_7_method_6_code
def yX5_becomeLost : MethodName := ⟨RX5, "becomeLost", "()V"⟩
abbrev cX5_item : ByteArray := prog_7_method_7_code
def yX5_item : MethodName := ⟨RX5, "item", "(I)I"⟩
abbrev cX5_setItem : ByteArray := prog_7_method_8_code
def yX5_setItem : MethodName := ⟨RX5, "setItem", "(II)V"⟩
abbrev cX5_narrowed : ByteArray := prog_7_method_9_code
def yX5_narrowed : MethodName := ⟨RX5, "narrowed", "(I)I"⟩
abbrev cX5_hasRun : ByteArray := prog_7_method_10_code
def yX5_hasRun : MethodName := ⟨RX5, "hasRun", "(II)Z"⟩
abbrev cX5_takeRun : ByteArray := prog_7_method_11_code
def yX5_takeRun : MethodName := ⟨RX5, "takeRun", "(LAnswersFirst$Sheet;III)V"⟩
def RX6 : String := "AnswersFirst$Text"
def TX6 : u_T := fun k => match k with
  | 0 => ("AnswersFirst$Text", "bytes", "[B", true)
  | _ => ("AnswersFirst$Text", "size", "I", false)
def tyX6 : Nat → FieldType := fun k => match k with
  | 0 => .array .byte
  | _ => .int
abbrev wsX60 : List Cond := u_ws RX6 TX6 2
theorem nmX6 : ∀ a, a < 2 → ∀ b, b < 2 → a ≠ b → (TX6 a).2.1 ≠ (TX6 b).2.1 := by decide +kernel
theorem tyX6_ok : ∀ k, k < 2 → parseFieldDescriptor (TX6 k).2.2.1 = some (tyX6 k) := by decide +kernel
abbrev cX6_init : ByteArray := prog_8_method_1_code
def yX6_init : MethodName := ⟨RX6, "<init>", "(I)V"⟩
abbrev cX6_length : ByteArray := prog_8_method_2_code
def yX6_length : MethodName := ⟨RX6, "length", "()I"⟩
abbrev cX6_isFull : ByteArray := prog_8_method_3_code
def yX6_isFull : MethodName := ⟨RX6, "isFull", "()Z"⟩
abbrev cX6_append : ByteArray := prog_8_method_4_code
def yX6_append : MethodName := ⟨RX6, "append", "(I)V"⟩
abbrev cX6_dropLast : ByteArray := prog_8_method_5_code
def yX6_dropLast : MethodName := ⟨RX6, "dropLast", "()V"⟩
abbrev cX6_clearAll : ByteArray := prog_8_method_6_code
def yX6_clearAll : MethodName := ⟨RX6, "clearAll", "()V"⟩
abbrev cX6_at : ByteArray := prog_8_method_7_code
def yX6_at : MethodName := ⟨RX6, "at", "(I)I"⟩
def RX7 : String := "AnswersFirst"
def TX7 : u_T := fun k => match k with
  | 0 => ("AnswersFirst", "texts", "[LAnswersFirst$Text;", true)
  | 1 => ("AnswersFirst", "entries", "[LAnswersFirst$Entries;", true)
  | 2 => ("AnswersFirst", "settings", "[I", true)
  | 3 => ("AnswersFirst", "worths", "[I", true)
  | 4 => ("AnswersFirst", "rows", "LAnswersFirst$Rows;", true)
  | 5 => ("AnswersFirst", "rowsAreOld", "Z", false)
  | 6 => ("AnswersFirst", "accounts", "LAnswersFirst$Accounts;", true)
  | 7 => ("AnswersFirst", "accountsAreOld", "Z", false)
  | 8 => ("AnswersFirst", "seen", "LAnswersFirst$Seen;", true)
  | 9 => ("AnswersFirst", "lots", "LAnswersFirst$Lots;", true)
  | 10 => ("AnswersFirst", "sheets", "[LAnswersFirst$Sheet;", true)
  | _ => ("AnswersFirst", "latestFinding", "I", false)
def tyX7 : Nat → FieldType := fun k => match k with
  | 0 => .array (.object "AnswersFirst$Text")
  | 1 => .array (.object "AnswersFirst$Entries")
  | 2 => .array .int
  | 3 => .array .int
  | 4 => .object "AnswersFirst$Rows"
  | 5 => .boolean
  | 6 => .object "AnswersFirst$Accounts"
  | 7 => .boolean
  | 8 => .object "AnswersFirst$Seen"
  | 9 => .object "AnswersFirst$Lots"
  | 10 => .array (.object "AnswersFirst$Sheet")
  | _ => .int
abbrev wsX70 : List Cond := u_ws RX7 TX7 12
theorem nmX7 : ∀ a, a < 12 → ∀ b, b < 12 → a ≠ b → (TX7 a).2.1 ≠ (TX7 b).2.1 := by decide +kernel
theorem tyX7_ok : ∀ k, k < 12 → parseFieldDescriptor (TX7 k).2.2.1 = some (tyX7 k) := by decide +kernel
abbrev cX7_init : ByteArray := prog_1_method_1_code
def yX7_init : MethodName := ⟨RX7, "<init>", "()V"⟩
abbrev cX7_type : ByteArray := prog_1_method_2_code
def yX7_type : MethodName := ⟨RX7, "type", "(II)I"⟩
abbrev cX7_wipe : ByteArray := prog_1_method_3_code
def yX7_wipe : MethodName := ⟨RX7, "wipe", "(I)I"⟩
abbrev cX7_undo : ByteArray := prog_1_method_4_code
def yX7_undo : MethodName := ⟨RX7, "undo", "(I)I"⟩
abbrev cX7_fault : ByteArray := prog_1_method_5_code
def yX7_fault : MethodName := ⟨RX7, "fault", "(I)I"⟩
abbrev cX7_matter : ByteArray := prog_1_method_6_code
def yX7_matter : MethodName := ⟨RX7, "matter", "(II)I"⟩
abbrev cX7_set : ByteArray := prog_1_method_7_code
def yX7_set : MethodName := ⟨RX7, "set", "(II)I"⟩
abbrev cX7_worth : ByteArray := prog_1_method_8_code
def yX7_worth : MethodName := ⟨RX7, "worth", "(II)I"⟩
abbrev cX7_read : ByteArray := prog_1_method_9_code
def yX7_read : MethodName := ⟨RX7, "read", "(I)I"⟩
abbrev cX7_rows : ByteArray := prog_1_method_10_code
def yX7_rows : MethodName := ⟨RX7, "rows", "(I)I"⟩
abbrev cX7_sure : ByteArray := prog_1_method_11_code
def yX7_sure : MethodName := ⟨RX7, "sure", "(I)I"⟩
abbrev cX7_cannot : ByteArray := prog_1_method_12_code
def yX7_cannot : MethodName := ⟨RX7, "cannot", "(I)I"⟩
abbrev cX7_freed : ByteArray := prog_1_method_13_code
def yX7_freed : MethodName := ⟨RX7, "freed", "(I)I"⟩
abbrev cX7_broken : ByteArray := prog_1_method_14_code
def yX7_broken : MethodName := ⟨RX7, "broken", "(I)I"⟩
abbrev cX7_nearest : ByteArray := prog_1_method_15_code
def yX7_nearest : MethodName := ⟨RX7, "nearest", "(I)I"⟩
abbrev cX7_steps : ByteArray := prog_1_method_16_code
def yX7_steps : MethodName := ⟨RX7, "steps", "(II)I"⟩
abbrev cX7_returns : ByteArray := prog_1_method_17_code
def yX7_returns : MethodName := ⟨RX7, "returns", "(II)I"⟩
abbrev cX7_hangs : ByteArray := prog_1_method_18_code
def yX7_hangs : MethodName := ⟨RX7, "hangs", "(I)I"⟩
abbrev cX7_rings : ByteArray := prog_1_method_19_code
def yX7_rings : MethodName := ⟨RX7, "rings", "()I"⟩
abbrev cX7_had : ByteArray := prog_1_method_20_code
def yX7_had : MethodName := ⟨RX7, "had", "(III)I"⟩
abbrev cX7_asked : ByteArray := prog_1_method_21_code
def yX7_asked : MethodName := ⟨RX7, "asked", "(III)I"⟩
abbrev cX7_open : ByteArray := prog_1_method_22_code
def yX7_open : MethodName := ⟨RX7, "open", "(II)I"⟩
abbrev cX7_best : ByteArray := prog_1_method_23_code
def yX7_best : MethodName := ⟨RX7, "best", "(II)I"⟩
abbrev cX7_rest : ByteArray := prog_1_method_24_code
def yX7_rest : MethodName := ⟨RX7, "rest", "(II)I"⟩
abbrev cX7_owed : ByteArray := prog_1_method_25_code
def yX7_owed : MethodName := ⟨RX7, "owed", "(I)I"⟩
abbrev cX7_lack : ByteArray := prog_1_method_26_code
def yX7_lack : MethodName := ⟨RX7, "lack", "()I"⟩
abbrev cX7_unasked : ByteArray := prog_1_method_27_code
def yX7_unasked : MethodName := ⟨RX7, "unasked", "()I"⟩
abbrev cX7_fines : ByteArray := prog_1_method_28_code
def yX7_fines : MethodName := ⟨RX7, "fines", "(I)I"⟩
abbrev cX7_seen : ByteArray := prog_1_method_29_code
def yX7_seen : MethodName := ⟨RX7, "seen", "(II)I"⟩
abbrev cX7_forget : ByteArray := prog_1_method_30_code
def yX7_forget : MethodName := ⟨RX7, "forget", "()I"⟩
abbrev cX7_refused : ByteArray := prog_1_method_31_code
def yX7_refused : MethodName := ⟨RX7, "refused", "(I)I"⟩
abbrev cX7_lot : ByteArray := prog_1_method_32_code
def yX7_lot : MethodName := ⟨RX7, "lot", "(II)I"⟩
abbrev cX7_sheet : ByteArray := prog_1_method_33_code
def yX7_sheet : MethodName := ⟨RX7, "sheet", "(III)I"⟩
abbrev cX7_lose : ByteArray := prog_1_method_34_code
def yX7_lose : MethodName := ⟨RX7, "lose", "(I)I"⟩
abbrev cX7_put : ByteArray := prog_1_method_35_code
def yX7_put : MethodName := ⟨RX7, "put", "(IIII)I"⟩
abbrev cX7_get : ByteArray := prog_1_method_36_code
def yX7_get : MethodName := ⟨RX7, "get", "(III)I"⟩
abbrev cX7_copy : ByteArray := prog_1_method_37_code
def yX7_copy : MethodName := ⟨RX7, "copy", "(IIIII)I"⟩
abbrev cX7_write : ByteArray := prog_1_method_38_code
def yX7_write : MethodName := ⟨RX7, "write", "(I)I"⟩
abbrev cX7_count : ByteArray := prog_1_method_39_code
def yX7_count : MethodName := ⟨RX7, "count", "(I)I"⟩
abbrev cX7_digest : ByteArray := prog_1_method_40_code
def yX7_digest : MethodName := ⟨RX7, "digest", "()J"⟩
abbrev cX7_mixed : ByteArray := prog_1_method_41_code
def yX7_mixed : MethodName := ⟨RX7, "mixed", "(JI)J"⟩
abbrev cX7_mixedWithMatters : ByteArray := prog_1_method_42_code
def yX7_mixedWithMatters : MethodName := ⟨RX7, "mixedWithMatters", "(J)J"⟩
abbrev cX7_mixedWithRows : ByteArray := prog_1_method_43_code
def yX7_mixedWithRows : MethodName := ⟨RX7, "mixedWithRows", "(J)J"⟩
abbrev cX7_mixedWithPersons : ByteArray := prog_1_method_44_code
def yX7_mixedWithPersons : MethodName := ⟨RX7, "mixedWithPersons", "(J)J"⟩
abbrev cX7_mixedWithAll : ByteArray := prog_1_method_45_code
def yX7_mixedWithAll : MethodName := ⟨RX7, "mixedWithAll", "(J)J"⟩
abbrev cX7_isOutside : ByteArray := prog_1_method_46_code
def yX7_isOutside : MethodName := ⟨RX7, "isOutside", "(II)Z"⟩
abbrev cX7_isNoRow : ByteArray := prog_1_method_47_code
def yX7_isNoRow : MethodName := ⟨RX7, "isNoRow", "(I)Z"⟩
abbrev cX7_isNoDay : ByteArray := prog_1_method_48_code
def yX7_isNoDay : MethodName := ⟨RX7, "isNoDay", "(I)Z"⟩
abbrev cX7_isNotSeeable : ByteArray := prog_1_method_49_code
def yX7_isNotSeeable : MethodName := ⟨RX7, "isNotSeeable", "(II)Z"⟩
abbrev cX7_isNoMatter : ByteArray := prog_1_method_50_code
def yX7_isNoMatter : MethodName := ⟨RX7, "isNoMatter", "(I)Z"⟩
abbrev cX7_finding : ByteArray := prog_1_method_51_code
def yX7_finding : MethodName := ⟨RX7, "finding", "(I)I"⟩
abbrev cX7_itemRefusal : ByteArray := prog_1_method_52_code
def yX7_itemRefusal : MethodName := ⟨RX7, "itemRefusal", "(LAnswersFirst$Sheet;II)I"⟩
abbrev cX7_markOld : ByteArray := prog_1_method_53_code
def yX7_markOld : MethodName := ⟨RX7, "markOld", "()V"⟩
abbrev cX7_rowsNow : ByteArray := prog_1_method_54_code
def yX7_rowsNow : MethodName := ⟨RX7, "rowsNow", "()LAnswersFirst$Rows;"⟩
abbrev cX7_accountsNow : ByteArray := prog_1_method_55_code
def yX7_accountsNow : MethodName := ⟨RX7, "accountsNow", "()LAnswersFirst$Accounts;"⟩
abbrev cX7_worthOf : ByteArray := prog_1_method_56_code
def yX7_worthOf : MethodName := ⟨RX7, "worthOf", "(II)I"⟩
abbrev cX7_bestRow : ByteArray := prog_1_method_57_code
def yX7_bestRow : MethodName := ⟨RX7, "bestRow", "(LAnswersFirst$Rows;I)I"⟩
abbrev cX7_hasBetter : ByteArray := prog_1_method_58_code
def yX7_hasBetter : MethodName := ⟨RX7, "hasBetter", "(LAnswersFirst$Rows;II)Z"⟩
def RX8 : String := "AnswersFirstModel"
def TX8 : u_T := fun k => match k with
  | 0 => ("AnswersFirstModel", "typed", "[I", true)
  | 1 => ("AnswersFirstModel", "texts", "[I", true)
  | 2 => ("AnswersFirstModel", "matters", "I", false)
  | 3 => ("AnswersFirstModel", "numbers", "[I", true)
  | 4 => ("AnswersFirstModel", "counts", "[I", true)
  | 5 => ("AnswersFirstModel", "posts", "[I", true)
  | 6 => ("AnswersFirstModel", "lag", "I", false)
  | 7 => ("AnswersFirstModel", "grace", "I", false)
  | 8 => ("AnswersFirstModel", "fine", "I", false)
  | 9 => ("AnswersFirstModel", "off", "I", false)
  | 10 => ("AnswersFirstModel", "worths", "[I", true)
  | 11 => ("AnswersFirstModel", "breaks", "[I", true)
  | 12 => ("AnswersFirstModel", "whens", "[I", true)
  | 13 => ("AnswersFirstModel", "laid", "[I", true)
  | 14 => ("AnswersFirstModel", "sights", "I", false)
  | 15 => ("AnswersFirstModel", "seenMatter", "[I", true)
  | 16 => ("AnswersFirstModel", "seenIs", "[I", true)
  | 17 => ("AnswersFirstModel", "isThere", "[Z", true)
  | 18 => ("AnswersFirstModel", "forms", "[I", true)
  | 19 => ("AnswersFirstModel", "sizes", "[I", true)
  | 20 => ("AnswersFirstModel", "items", "[I", true)
  | 21 => ("AnswersFirstModel", "moved", "[I", true)
  | _ => ("AnswersFirstModel", "finding", "I", false)
def tyX8 : Nat → FieldType := fun k => match k with
  | 0 => .array .int
  | 1 => .array .int
  | 2 => .int
  | 3 => .array .int
  | 4 => .array .int
  | 5 => .array .int
  | 6 => .int
  | 7 => .int
  | 8 => .int
  | 9 => .int
  | 10 => .array .int
  | 11 => .array .int
  | 12 => .array .int
  | 13 => .array .int
  | 14 => .int
  | 15 => .array .int
  | 16 => .array .int
  | 17 => .array .boolean
  | 18 => .array .int
  | 19 => .array .int
  | 20 => .array .int
  | 21 => .array .int
  | _ => .int
abbrev wsX80 : List Cond := u_ws RX8 TX8 23
theorem nmX8 : ∀ a, a < 23 → ∀ b, b < 23 → a ≠ b → (TX8 a).2.1 ≠ (TX8 b).2.1 := by decide +kernel
theorem tyX8_ok : ∀ k, k < 23 → parseFieldDescriptor (TX8 k).2.2.1 = some (tyX8 k) := by decide +kernel
abbrev cX8_init : ByteArray := prog_10_method_1_code
def yX8_init : MethodName := ⟨RX8, "<init>", "()V"⟩
abbrev cX8_in : ByteArray := prog_10_method_3_code
def yX8_in : MethodName := ⟨RX8, "in", "(III)Z"⟩
abbrev cX8_isIn : ByteArray := prog_10_method_4_code
def yX8_isIn : MethodName := ⟨RX8, "isIn", "(II)Z"⟩
abbrev cX8_ones : ByteArray := prog_10_method_5_code
def yX8_ones : MethodName := ⟨RX8, "ones", "(I)I"⟩
abbrev cX8_isText : ByteArray := prog_10_method_6_code
def yX8_isText : MethodName := ⟨RX8, "isText", "(I)Z"⟩
abbrev cX8_isTen : ByteArray := prog_10_method_7_code
def yX8_isTen : MethodName := ⟨RX8, "isTen", "(I)Z"⟩
abbrev cX8_isPerson : ByteArray := prog_10_method_8_code
def yX8_isPerson : MethodName := ⟨RX8, "isPerson", "(I)Z"⟩
abbrev cX8_isDay : ByteArray := prog_10_method_9_code
def yX8_isDay : MethodName := ⟨RX8, "isDay", "(I)Z"⟩
abbrev cX8_isRow : ByteArray := prog_10_method_10_code
def yX8_isRow : MethodName := ⟨RX8, "isRow", "(I)Z"⟩
abbrev cX8_type : ByteArray := prog_10_method_11_code
def yX8_type : MethodName := ⟨RX8, "type", "(II)I"⟩
abbrev cX8_wipe : ByteArray := prog_10_method_12_code
def yX8_wipe : MethodName := ⟨RX8, "wipe", "(I)I"⟩
abbrev cX8_undo : ByteArray := prog_10_method_13_code
def yX8_undo : MethodName := ⟨RX8, "undo", "(I)I"⟩
abbrev cX8_byteAt : ByteArray := prog_10_method_14_code
def yX8_byteAt : MethodName := ⟨RX8, "byteAt", "(II)I"⟩
abbrev cX8_figureAt : ByteArray := prog_10_method_15_code
def yX8_figureAt : MethodName := ⟨RX8, "figureAt", "(III)I"⟩
abbrev cX8_whenAt : ByteArray := prog_10_method_16_code
def yX8_whenAt : MethodName := ⟨RX8, "whenAt", "(I)I"⟩
abbrev cX8_readsMatter : ByteArray := prog_10_method_17_code
def yX8_readsMatter : MethodName := ⟨RX8, "readsMatter", "(II)I"⟩
abbrev cX8_readsMatters : ByteArray := prog_10_method_18_code
def yX8_readsMatters : MethodName := ⟨RX8, "readsMatters", "()I"⟩
abbrev cX8_readsPosts : ByteArray := prog_10_method_19_code
def yX8_readsPosts : MethodName := ⟨RX8, "readsPosts", "(I)I"⟩
abbrev cX8_faultOf : ByteArray := prog_10_method_20_code
def yX8_faultOf : MethodName := ⟨RX8, "faultOf", "(I)I"⟩
abbrev cX8_reads : ByteArray := prog_10_method_21_code
def yX8_reads : MethodName := ⟨RX8, "reads", "()V"⟩
abbrev cX8_fault : ByteArray := prog_10_method_22_code
def yX8_fault : MethodName := ⟨RX8, "fault", "(I)I"⟩
abbrev cX8_isMatter : ByteArray := prog_10_method_23_code
def yX8_isMatter : MethodName := ⟨RX8, "isMatter", "(I)Z"⟩
abbrev cX8_matter : ByteArray := prog_10_method_24_code
def yX8_matter : MethodName := ⟨RX8, "matter", "(II)I"⟩
abbrev cX8_set : ByteArray := prog_10_method_25_code
def yX8_set : MethodName := ⟨RX8, "set", "(II)I"⟩
abbrev cX8_worth : ByteArray := prog_10_method_26_code
def yX8_worth : MethodName := ⟨RX8, "worth", "(II)I"⟩
abbrev cX8_read : ByteArray := prog_10_method_27_code
def yX8_read : MethodName := ⟨RX8, "read", "(I)I"⟩
abbrev cX8_isKnown : ByteArray := prog_10_method_28_code
def yX8_isKnown : MethodName := ⟨RX8, "isKnown", "(II)Z"⟩
abbrev cX8_isWritten : ByteArray := prog_10_method_29_code
def yX8_isWritten : MethodName := ⟨RX8, "isWritten", "(II)Z"⟩
abbrev cX8_next : ByteArray := prog_10_method_30_code
def yX8_next : MethodName := ⟨RX8, "next", "(II)I"⟩
abbrev cX8_there : ByteArray := prog_10_method_31_code
def yX8_there : MethodName := ⟨RX8, "there", "()I"⟩
abbrev cX8_brokenBy : ByteArray := prog_10_method_32_code
def yX8_brokenBy : MethodName := ⟨RX8, "brokenBy", "(II)I"⟩
abbrev cX8_brokenOf : ByteArray := prog_10_method_33_code
def yX8_brokenOf : MethodName := ⟨RX8, "brokenOf", "(I)I"⟩
abbrev cX8_broken : ByteArray := prog_10_method_34_code
def yX8_broken : MethodName := ⟨RX8, "broken", "(I)I"⟩
abbrev cX8_rowsOf : ByteArray := prog_10_method_35_code
def yX8_rowsOf : MethodName := ⟨RX8, "rowsOf", "(I)I"⟩
abbrev cX8_rows : ByteArray := prog_10_method_36_code
def yX8_rows : MethodName := ⟨RX8, "rows", "(I)I"⟩
abbrev cX8_sureOf : ByteArray := prog_10_method_37_code
def yX8_sureOf : MethodName := ⟨RX8, "sureOf", "(I)I"⟩
abbrev cX8_sure : ByteArray := prog_10_method_38_code
def yX8_sure : MethodName := ⟨RX8, "sure", "(I)I"⟩
abbrev cX8_cannotOf : ByteArray := prog_10_method_39_code
def yX8_cannotOf : MethodName := ⟨RX8, "cannotOf", "(I)I"⟩
abbrev cX8_cannot : ByteArray := prog_10_method_40_code
def yX8_cannot : MethodName := ⟨RX8, "cannot", "(I)I"⟩
abbrev cX8_freedOf : ByteArray := prog_10_method_41_code
def yX8_freedOf : MethodName := ⟨RX8, "freedOf", "(I)I"⟩
abbrev cX8_freed : ByteArray := prog_10_method_42_code
def yX8_freed : MethodName := ⟨RX8, "freed", "(I)I"⟩
abbrev cX8_nearestOf : ByteArray := prog_10_method_43_code
def yX8_nearestOf : MethodName := ⟨RX8, "nearestOf", "(I)I"⟩
abbrev cX8_nearest : ByteArray := prog_10_method_44_code
def yX8_nearest : MethodName := ⟨RX8, "nearest", "(I)I"⟩
abbrev cX8_stepsOf : ByteArray := prog_10_method_45_code
def yX8_stepsOf : MethodName := ⟨RX8, "stepsOf", "(II)I"⟩
abbrev cX8_steps : ByteArray := prog_10_method_46_code
def yX8_steps : MethodName := ⟨RX8, "steps", "(II)I"⟩
abbrev cX8_returnsOf : ByteArray := prog_10_method_47_code
def yX8_returnsOf : MethodName := ⟨RX8, "returnsOf", "(II)I"⟩
abbrev cX8_returns : ByteArray := prog_10_method_48_code
def yX8_returns : MethodName := ⟨RX8, "returns", "(II)I"⟩
abbrev cX8_hangsAt : ByteArray := prog_10_method_49_code
def yX8_hangsAt : MethodName := ⟨RX8, "hangsAt", "(I)I"⟩
abbrev cX8_hangsOf : ByteArray := prog_10_method_50_code
def yX8_hangsOf : MethodName := ⟨RX8, "hangsOf", "(I)I"⟩
abbrev cX8_hangs : ByteArray := prog_10_method_51_code
def yX8_hangs : MethodName := ⟨RX8, "hangs", "(I)I"⟩
abbrev cX8_ringsNow : ByteArray := prog_10_method_52_code
def yX8_ringsNow : MethodName := ⟨RX8, "ringsNow", "()I"⟩
abbrev cX8_rings : ByteArray := prog_10_method_53_code
def yX8_rings : MethodName := ⟨RX8, "rings", "()I"⟩
abbrev cX8_hadOf : ByteArray := prog_10_method_54_code
def yX8_hadOf : MethodName := ⟨RX8, "hadOf", "(III)I"⟩
abbrev cX8_had : ByteArray := prog_10_method_55_code
def yX8_had : MethodName := ⟨RX8, "had", "(III)I"⟩
abbrev cX8_askedOf : ByteArray := prog_10_method_56_code
def yX8_askedOf : MethodName := ⟨RX8, "askedOf", "(III)I"⟩
abbrev cX8_asked : ByteArray := prog_10_method_57_code
def yX8_asked : MethodName := ⟨RX8, "asked", "(III)I"⟩
abbrev cX8_openOf : ByteArray := prog_10_method_58_code
def yX8_openOf : MethodName := ⟨RX8, "openOf", "(II)I"⟩
abbrev cX8_open : ByteArray := prog_10_method_59_code
def yX8_open : MethodName := ⟨RX8, "open", "(II)I"⟩
abbrev cX8_worthOf : ByteArray := prog_10_method_60_code
def yX8_worthOf : MethodName := ⟨RX8, "worthOf", "(II)I"⟩
abbrev cX8_bestBy : ByteArray := prog_10_method_61_code
def yX8_bestBy : MethodName := ⟨RX8, "bestBy", "(II)I"⟩
abbrev cX8_bestOf : ByteArray := prog_10_method_62_code
def yX8_bestOf : MethodName := ⟨RX8, "bestOf", "(II)I"⟩
abbrev cX8_best : ByteArray := prog_10_method_63_code
def yX8_best : MethodName := ⟨RX8, "best", "(II)I"⟩
abbrev cX8_restOf : ByteArray := prog_10_method_64_code
def yX8_restOf : MethodName := ⟨RX8, "restOf", "(II)I"⟩
abbrev cX8_rest : ByteArray := prog_10_method_65_code
def yX8_rest : MethodName := ⟨RX8, "rest", "(II)I"⟩
abbrev cX8_canBe : ByteArray := prog_10_method_66_code
def yX8_canBe : MethodName := ⟨RX8, "canBe", "(II)Z"⟩
abbrev cX8_owedOf : ByteArray := prog_10_method_67_code
def yX8_owedOf : MethodName := ⟨RX8, "owedOf", "(I)I"⟩
abbrev cX8_owed : ByteArray := prog_10_method_68_code
def yX8_owed : MethodName := ⟨RX8, "owed", "(I)I"⟩
abbrev cX8_lackNow : ByteArray := prog_10_method_69_code
def yX8_lackNow : MethodName := ⟨RX8, "lackNow", "()I"⟩
abbrev cX8_lack : ByteArray := prog_10_method_70_code
def yX8_lack : MethodName := ⟨RX8, "lack", "()I"⟩
abbrev cX8_unaskedNow : ByteArray := prog_10_method_71_code
def yX8_unaskedNow : MethodName := ⟨RX8, "unaskedNow", "()I"⟩
abbrev cX8_unasked : ByteArray := prog_10_method_72_code
def yX8_unasked : MethodName := ⟨RX8, "unasked", "()I"⟩
abbrev cX8_fines : ByteArray := prog_10_method_73_code
def yX8_fines : MethodName := ⟨RX8, "fines", "(I)I"⟩
abbrev cX8_seen : ByteArray := prog_10_method_74_code
def yX8_seen : MethodName := ⟨RX8, "seen", "(II)I"⟩
abbrev cX8_forget : ByteArray := prog_10_method_75_code
def yX8_forget : MethodName := ⟨RX8, "forget", "()I"⟩
abbrev cX8_refusedOf : ByteArray := prog_10_method_76_code
def yX8_refusedOf : MethodName := ⟨RX8, "refusedOf", "(I)I"⟩
abbrev cX8_refused : ByteArray := prog_10_method_77_code
def yX8_refused : MethodName := ⟨RX8, "refused", "(I)I"⟩
abbrev cX8_lotOf : ByteArray := prog_10_method_78_code
def yX8_lotOf : MethodName := ⟨RX8, "lotOf", "(II)I"⟩
abbrev cX8_lot : ByteArray := prog_10_method_79_code
def yX8_lot : MethodName := ⟨RX8, "lot", "(II)I"⟩
abbrev cX8_meets : ByteArray := prog_10_method_80_code
def yX8_meets : MethodName := ⟨RX8, "meets", "(I)I"⟩
abbrev cX8_isSheet : ByteArray := prog_10_method_81_code
def yX8_isSheet : MethodName := ⟨RX8, "isSheet", "(I)Z"⟩
abbrev cX8_sheet : ByteArray := prog_10_method_82_code
def yX8_sheet : MethodName := ⟨RX8, "sheet", "(III)I"⟩
abbrev cX8_lose : ByteArray := prog_10_method_83_code
def yX8_lose : MethodName := ⟨RX8, "lose", "(I)I"⟩
abbrev cX8_lacks : ByteArray := prog_10_method_84_code
def yX8_lacks : MethodName := ⟨RX8, "lacks", "(III)I"⟩
abbrev cX8_keep : ByteArray := prog_10_method_85_code
def yX8_keep : MethodName := ⟨RX8, "keep", "(III)V"⟩
abbrev cX8_put : ByteArray := prog_10_method_86_code
def yX8_put : MethodName := ⟨RX8, "put", "(IIII)I"⟩
abbrev cX8_get : ByteArray := prog_10_method_87_code
def yX8_get : MethodName := ⟨RX8, "get", "(III)I"⟩
abbrev cX8_copy : ByteArray := prog_10_method_88_code
def yX8_copy : MethodName := ⟨RX8, "copy", "(IIIII)I"⟩
abbrev cX8_write : ByteArray := prog_10_method_89_code
def yX8_write : MethodName := ⟨RX8, "write", "(I)I"⟩
abbrev cX8_readsMany : ByteArray := prog_10_method_90_code
def yX8_readsMany : MethodName := ⟨RX8, "readsMany", "(I)I"⟩
abbrev cX8_count : ByteArray := prog_10_method_91_code
def yX8_count : MethodName := ⟨RX8, "count", "(I)I"⟩
abbrev cX8_digest : ByteArray := prog_10_method_92_code
def yX8_digest : MethodName := ⟨RX8, "digest", "()J"⟩
def RJx145de : String := "java/io/Serializable"
def TJx145de : u_T := fun k => match k with
  | _ => ("", "", "", false)
def tyJx145de : Nat → FieldType := fun k => match k with
  | _ => .int
abbrev wsJx145de0 : List Cond := u_ws RJx145de TJx145de 0
theorem nmJx145de : ∀ a, a < 0 → ∀ b, b < 0 → a ≠ b → (TJx145de a).2.1 ≠ (TJx145de b).2.1 := by decide +kernel
theorem tyJx145de_ok : ∀ k, k < 0 → parseFieldDescriptor (TJx145de k).2.2.1 = some (tyJx145de k) := by decide +kernel
def RJx9f9b0 : String := "java/lang/CharSequence"
def TJx9f9b0 : u_T := fun k => match k with
  | _ => ("", "", "", false)
def tyJx9f9b0 : Nat → FieldType := fun k => match k with
  | _ => .int
abbrev wsJx9f9b00 : List Cond := u_ws RJx9f9b0 TJx9f9b0 0
theorem nmJx9f9b0 : ∀ a, a < 0 → ∀ b, b < 0 → a ≠ b → (TJx9f9b0 a).2.1 ≠ (TJx9f9b0 b).2.1 := by decide +kernel
theorem tyJx9f9b0_ok : ∀ k, k < 0 → parseFieldDescriptor (TJx9f9b0 k).2.2.1 = some (tyJx9f9b0 k) := by decide +kernel
def RJ11 : String := "java/lang/Character"
def TJ11 : u_T := fun k => match k with
  | _ => ("", "", "", false)
def tyJ11 : Nat → FieldType := fun k => match k with
  | _ => .int
abbrev wsJ110 : List Cond := u_ws RJ11 TJ11 0
theorem nmJ11 : ∀ a, a < 0 → ∀ b, b < 0 → a ≠ b → (TJ11 a).2.1 ≠ (TJ11 b).2.1 := by decide +kernel
theorem tyJ11_ok : ∀ k, k < 0 → parseFieldDescriptor (TJ11 k).2.2.1 = some (tyJ11 k) := by decide +kernel
abbrev cJ11_isValidCodePoint_9a6ad : ByteArray := prog_11_method_11_code
def yJ11_isValidCodePoint_9a6ad : MethodName := ⟨RJ11, "isValidCodePoint", "(I)Z"⟩
abbrev cJ11_highSurrogate_5068e : ByteArray := prog_11_method_28_code
def yJ11_highSurrogate_5068e : MethodName := ⟨RJ11, "highSurrogate", "(I)C"⟩
abbrev cJ11_lowSurrogate_5068e : ByteArray := prog_11_method_29_code
def yJ11_lowSurrogate_5068e : MethodName := ⟨RJ11, "lowSurrogate", "(I)C"⟩
def RJxb160c : String := "java/lang/Comparable"
def TJxb160c : u_T := fun k => match k with
  | _ => ("", "", "", false)
def tyJxb160c : Nat → FieldType := fun k => match k with
  | _ => .int
abbrev wsJxb160c0 : List Cond := u_ws RJxb160c TJxb160c 0
theorem nmJxb160c : ∀ a, a < 0 → ∀ b, b < 0 → a ≠ b → (TJxb160c a).2.1 ≠ (TJxb160c b).2.1 := by decide +kernel
theorem tyJxb160c_ok : ∀ k, k < 0 → parseFieldDescriptor (TJxb160c k).2.2.1 = some (tyJxb160c k) := by decide +kernel
def RJ6 : String := "java/lang/Integer"
def TJ6 : u_T := fun k => match k with
  | _ => ("", "", "", false)
def tyJ6 : Nat → FieldType := fun k => match k with
  | _ => .int
abbrev wsJ60 : List Cond := u_ws RJ6 TJ6 0
theorem nmJ6 : ∀ a, a < 0 → ∀ b, b < 0 → a ≠ b → (TJ6 a).2.1 ≠ (TJ6 b).2.1 := by decide +kernel
theorem tyJ6_ok : ∀ k, k < 0 → parseFieldDescriptor (TJ6 k).2.2.1 = some (tyJ6 k) := by decide +kernel
abbrev cJ6_bitCount_0f7a4 : ByteArray := prog_12_method_49_code
def yJ6_bitCount_0f7a4 : MethodName := ⟨RJ6, "bitCount", "(I)I"⟩
def RJ9 : String := "java/lang/Math"
def TJ9 : u_T := fun k => match k with
  | _ => ("", "", "", false)
def tyJ9 : Nat → FieldType := fun k => match k with
  | _ => .int
abbrev wsJ90 : List Cond := u_ws RJ9 TJ9 0
theorem nmJ9 : ∀ a, a < 0 → ∀ b, b < 0 → a ≠ b → (TJ9 a).2.1 ≠ (TJ9 b).2.1 := by decide +kernel
theorem tyJ9_ok : ∀ k, k < 0 → parseFieldDescriptor (TJ9 k).2.2.1 = some (tyJ9 k) := by decide +kernel
abbrev cJ9_max_7cf53 : ByteArray := prog_13_method_65_code
def yJ9_max_7cf53 : MethodName := ⟨RJ9, "max", "(II)I"⟩
abbrev cJ9_min_7cf53 : ByteArray := prog_13_method_69_code
def yJ9_min_7cf53 : MethodName := ⟨RJ9, "min", "(II)I"⟩
def RJ0 : String := "java/lang/String"
def TJ0 : u_T := fun k => match k with
  | _ => ("", "", "", false)
def tyJ0 : Nat → FieldType := fun k => match k with
  | _ => .int
abbrev wsJ00 : List Cond := u_ws RJ0 TJ0 0
theorem nmJ0 : ∀ a, a < 0 → ∀ b, b < 0 → a ≠ b → (TJ0 a).2.1 ≠ (TJ0 b).2.1 := by decide +kernel
theorem tyJ0_ok : ∀ k, k < 0 → parseFieldDescriptor (TJ0 k).2.2.1 = some (tyJ0 k) := by decide +kernel
abbrev cJ0_length_8abf5 : ByteArray := prog_14_method_54_code
def yJ0_length_8abf5 : MethodName := ⟨RJ0, "length", "()I"⟩
abbrev cJ0_indexOf_0f7a4 : ByteArray := prog_14_method_79_code
def yJ0_indexOf_0f7a4 : MethodName := ⟨RJ0, "indexOf", "(I)I"⟩
abbrev cJ0_indexOf_7cf53 : ByteArray := prog_14_method_80_code
def yJ0_indexOf_7cf53 : MethodName := ⟨RJ0, "indexOf", "(II)I"⟩
abbrev cJ0_coder_7d493 : ByteArray := prog_14_method_152_code
def yJ0_coder_7d493 : MethodName := ⟨RJ0, "coder", "()B"⟩
abbrev cJ0_isLatin1_aae02 : ByteArray := prog_14_method_154_code
def yJ0_isLatin1_aae02 : MethodName := ⟨RJ0, "isLatin1", "()Z"⟩
abbrev cJ0_checkBoundsBeginEnd_23922 : ByteArray := prog_14_method_158_code
def yJ0_checkBoundsBeginEnd_23922 : MethodName := ⟨RJ0, "checkBoundsBeginEnd", "(III)V"⟩
def RJ1 : String := "java/lang/StringLatin1"
def TJ1 : u_T := fun k => match k with
  | _ => ("", "", "", false)
def tyJ1 : Nat → FieldType := fun k => match k with
  | _ => .int
abbrev wsJ10 : List Cond := u_ws RJ1 TJ1 0
theorem nmJ1 : ∀ a, a < 0 → ∀ b, b < 0 → a ≠ b → (TJ1 a).2.1 ≠ (TJ1 b).2.1 := by decide +kernel
theorem tyJ1_ok : ∀ k, k < 0 → parseFieldDescriptor (TJ1 k).2.2.1 = some (tyJ1 k) := by decide +kernel
abbrev cJ1_canEncode_9a6ad : ByteArray := prog_15_method_4_code
def yJ1_canEncode_9a6ad : MethodName := ⟨RJ1, "canEncode", "(I)Z"⟩
abbrev cJ1_indexOf_4cfef : ByteArray := prog_15_method_22_code
def yJ1_indexOf_4cfef : MethodName := ⟨RJ1, "indexOf", "([BIII)I"⟩
abbrev cJ1_indexOfChar_4cfef : ByteArray := prog_15_method_23_code
def yJ1_indexOfChar_4cfef : MethodName := ⟨RJ1, "indexOfChar", "([BIII)I"⟩
def RJ2 : String := "java/lang/StringUTF16"
def TJ2 : u_T := fun k => match k with
  | _ => ("", "", "", false)
def tyJ2 : Nat → FieldType := fun k => match k with
  | _ => .int
abbrev wsJ20 : List Cond := u_ws RJ2 TJ2 0
theorem nmJ2 : ∀ a, a < 0 → ∀ b, b < 0 → a ≠ b → (TJ2 a).2.1 ≠ (TJ2 b).2.1 := by decide +kernel
theorem tyJ2_ok : ∀ k, k < 0 → parseFieldDescriptor (TJ2 k).2.2.1 = some (tyJ2 k) := by decide +kernel
abbrev cJ2_getChar_3b067 : ByteArray := prog_16_method_5_code
def yJ2_getChar_3b067 : MethodName := ⟨RJ2, "getChar", "([BI)C"⟩
abbrev cJ2_length_9d52b : ByteArray := prog_16_method_6_code
def yJ2_length_9d52b : MethodName := ⟨RJ2, "length", "([B)I"⟩
abbrev cJ2_indexOf_4cfef : ByteArray := prog_16_method_40_code
def yJ2_indexOf_4cfef : MethodName := ⟨RJ2, "indexOf", "([BIII)I"⟩
abbrev cJ2_indexOfChar_4cfef : ByteArray := prog_16_method_47_code
def yJ2_indexOfChar_4cfef : MethodName := ⟨RJ2, "indexOfChar", "([BIII)I"⟩
abbrev cJ2_indexOfCharUnsafe_4cfef : ByteArray := prog_16_method_48_code
def yJ2_indexOfCharUnsafe_4cfef : MethodName := ⟨RJ2, "indexOfCharUnsafe", "([BIII)I"⟩
abbrev cJ2_indexOfSupplementary_4cfef : ByteArray := prog_16_method_49_code
def yJ2_indexOfSupplementary_4cfef : MethodName := ⟨RJ2, "indexOfSupplementary", "([BIII)I"⟩
abbrev cJ2_checkBoundsBeginEnd_d044e : ByteArray := prog_16_method_93_code
def yJ2_checkBoundsBeginEnd_d044e : MethodName := ⟨RJ2, "checkBoundsBeginEnd", "(II[B)V"⟩
def RJ10 : String := "java/lang/System"
def TJ10 : u_T := fun k => match k with
  | _ => ("", "", "", false)
def tyJ10 : Nat → FieldType := fun k => match k with
  | _ => .int
abbrev wsJ100 : List Cond := u_ws RJ10 TJ10 0
theorem nmJ10 : ∀ a, a < 0 → ∀ b, b < 0 → a ≠ b → (TJ10 a).2.1 ≠ (TJ10 b).2.1 := by decide +kernel
theorem tyJ10_ok : ∀ k, k < 0 → parseFieldDescriptor (TJ10 k).2.2.1 = some (tyJ10 k) := by decide +kernel
def RJxfd54e : String := "java/lang/constant/Constable"
def TJxfd54e : u_T := fun k => match k with
  | _ => ("", "", "", false)
def tyJxfd54e : Nat → FieldType := fun k => match k with
  | _ => .int
abbrev wsJxfd54e0 : List Cond := u_ws RJxfd54e TJxfd54e 0
theorem nmJxfd54e : ∀ a, a < 0 → ∀ b, b < 0 → a ≠ b → (TJxfd54e a).2.1 ≠ (TJxfd54e b).2.1 := by decide +kernel
theorem tyJxfd54e_ok : ∀ k, k < 0 → parseFieldDescriptor (TJxfd54e k).2.2.1 = some (tyJxfd54e k) := by decide +kernel
def RJx3cf43 : String := "java/lang/constant/ConstantDesc"
def TJx3cf43 : u_T := fun k => match k with
  | _ => ("", "", "", false)
def tyJx3cf43 : Nat → FieldType := fun k => match k with
  | _ => .int
abbrev wsJx3cf430 : List Cond := u_ws RJx3cf43 TJx3cf43 0
theorem nmJx3cf43 : ∀ a, a < 0 → ∀ b, b < 0 → a ≠ b → (TJx3cf43 a).2.1 ≠ (TJx3cf43 b).2.1 := by decide +kernel
theorem tyJx3cf43_ok : ∀ k, k < 0 → parseFieldDescriptor (TJx3cf43 k).2.2.1 = some (tyJx3cf43 k) := by decide +kernel
def RJ7 : String := "java/util/Arrays"
def TJ7 : u_T := fun k => match k with
  | _ => ("", "", "", false)
def tyJ7 : Nat → FieldType := fun k => match k with
  | _ => .int
abbrev wsJ70 : List Cond := u_ws RJ7 TJ7 0
theorem nmJ7 : ∀ a, a < 0 → ∀ b, b < 0 → a ≠ b → (TJ7 a).2.1 ≠ (TJ7 b).2.1 := by decide +kernel
theorem tyJ7_ok : ∀ k, k < 0 → parseFieldDescriptor (TJ7 k).2.2.1 = some (tyJ7 k) := by decide +kernel
abbrev cJ7_fill_53178 : ByteArray := prog_18_method_103_code
def yJ7_fill_53178 : MethodName := ⟨RJ7, "fill", "([II)V"⟩
def RJ3 : String := "jdk/internal/util/Preconditions"
def TJ3 : u_T := fun k => match k with
  | _ => ("", "", "", false)
def tyJ3 : Nat → FieldType := fun k => match k with
  | _ => .int
abbrev wsJ30 : List Cond := u_ws RJ3 TJ3 0
theorem nmJ3 : ∀ a, a < 0 → ∀ b, b < 0 → a ≠ b → (TJ3 a).2.1 ≠ (TJ3 b).2.1 := by decide +kernel
theorem tyJ3_ok : ∀ k, k < 0 → parseFieldDescriptor (TJ3 k).2.2.1 = some (tyJ3 k) := by decide +kernel
abbrev cJ3_checkFromToIndex_8c36e : ByteArray := prog_19_method_12_code
def yJ3_checkFromToIndex_8c36e : MethodName := ⟨RJ3, "checkFromToIndex", "(IIILjava/util/function/BiFunction;)I"⟩
def RL : String := "AnswersFirstLaw"
abbrev cL_law : ByteArray := code
def yL_law : MethodName := ⟨RL, "law", "([I)Z"⟩
abbrev vwCl : List vw_C := [(RX0, TX0, 5), (RX1, TX1, 8), (RX2, TX2, 1), (RX3, TX3, 8), (RX4, TX4, 3), (RX5, TX5, 3), (RX6, TX6, 2), (RX7, TX7, 12), (RX8, TX8, 23)]
end
section
theorem dX0_init_0 : decode cX0_init 0 = .ok (.aload_n 0, 1) := by decide +kernel
theorem dX0_init_1 : decode cX0_init 1 = .ok (.invokespecial 3, 3) := by decide +kernel
theorem dX0_init_4 : decode cX0_init 4 = .ok (.aload_n 0, 1) := by decide +kernel
theorem dX0_init_5 : decode cX0_init 5 = .ok (.bipush 10, 2) := by decide +kernel
theorem dX0_init_7 : decode cX0_init 7 = .ok (.newarray .int, 2) := by decide +kernel
theorem dX0_init_9 : decode cX0_init 9 = .ok (.putfield 9, 3) := by decide +kernel
theorem dX0_init_12 : decode cX0_init 12 = .ok (.aload_n 0, 1) := by decide +kernel
theorem dX0_init_13 : decode cX0_init 13 = .ok (.sipush 1024, 3) := by decide +kernel
theorem dX0_init_16 : decode cX0_init 16 = .ok (.newarray .int, 2) := by decide +kernel
theorem dX0_init_18 : decode cX0_init 18 = .ok (.putfield 15, 3) := by decide +kernel
theorem dX0_init_21 : decode cX0_init 21 = .ok (.return_, 1) := by decide +kernel
theorem dX0_workOut_0 : decode cX0_workOut 0 = .ok (.aload_n 1, 1) := by decide +kernel
theorem dX0_workOut_1 : decode cX0_workOut 1 = .ok (.invokevirtual 18, 3) := by decide +kernel
theorem dX0_workOut_4 : decode cX0_workOut 4 = .ok (.bipush 10, 2) := by decide +kernel
theorem dX0_workOut_6 : decode cX0_workOut 6 = .ok (.invokestatic 24, 3) := by decide +kernel
theorem dX0_workOut_9 : decode cX0_workOut 9 = .ok (.istore 5, 2) := by decide +kernel
theorem dX0_workOut_11 : decode cX0_workOut 11 = .ok (.aload_n 0, 1) := by decide +kernel
theorem dX0_workOut_12 : decode cX0_workOut 12 = .ok (.iconst 1, 1) := by decide +kernel
theorem dX0_workOut_13 : decode cX0_workOut 13 = .ok (.iload 5, 2) := by decide +kernel
theorem dX0_workOut_15 : decode cX0_workOut 15 = .ok (.ishl, 1) := by decide +kernel
theorem dX0_workOut_16 : decode cX0_workOut 16 = .ok (.iconst 1, 1) := by decide +kernel
theorem dX0_workOut_17 : decode cX0_workOut 17 = .ok (.isub, 1) := by decide +kernel
theorem dX0_workOut_18 : decode cX0_workOut 18 = .ok (.putfield 30, 3) := by decide +kernel
theorem dX0_workOut_21 : decode cX0_workOut 21 = .ok (.aload_n 0, 1) := by decide +kernel
theorem dX0_workOut_22 : decode cX0_workOut 22 = .ok (.iconst 1, 1) := by decide +kernel
theorem dX0_workOut_23 : decode cX0_workOut 23 = .ok (.aload_n 2, 1) := by decide +kernel
theorem dX0_workOut_24 : decode cX0_workOut 24 = .ok (.invokevirtual 18, 3) := by decide +kernel
theorem dX0_workOut_27 : decode cX0_workOut 27 = .ok (.ishl, 1) := by decide +kernel
theorem dX0_workOut_28 : decode cX0_workOut 28 = .ok (.iconst 1, 1) := by decide +kernel
theorem dX0_workOut_29 : decode cX0_workOut 29 = .ok (.isub, 1) := by decide +kernel
theorem dX0_workOut_30 : decode cX0_workOut 30 = .ok (.putfield 34, 3) := by decide +kernel
theorem dX0_workOut_33 : decode cX0_workOut 33 = .ok (.iconst 0, 1) := by decide +kernel
theorem dX0_workOut_34 : decode cX0_workOut 34 = .ok (.istore 6, 2) := by decide +kernel
theorem dX0_workOut_36 : decode cX0_workOut 36 = .ok (.iload 6, 2) := by decide +kernel
theorem dX0_workOut_38 : decode cX0_workOut 38 = .ok (.iload 5, 2) := by decide +kernel
theorem dX0_workOut_40 : decode cX0_workOut 40 = .ok (.if_icmp .ge 44, 3) := by decide +kernel
theorem dX0_workOut_43 : decode cX0_workOut 43 = .ok (.aload_n 0, 1) := by decide +kernel
theorem dX0_workOut_44 : decode cX0_workOut 44 = .ok (.getfield 9, 3) := by decide +kernel
theorem dX0_workOut_47 : decode cX0_workOut 47 = .ok (.iload 6, 2) := by decide +kernel
theorem dX0_workOut_49 : decode cX0_workOut 49 = .ok (.aload_n 1, 1) := by decide +kernel
theorem dX0_workOut_50 : decode cX0_workOut 50 = .ok (.iload 6, 2) := by decide +kernel
theorem dX0_workOut_52 : decode cX0_workOut 52 = .ok (.aload_n 2, 1) := by decide +kernel
theorem dX0_workOut_53 : decode cX0_workOut 53 = .ok (.iload_n 3, 1) := by decide +kernel
theorem dX0_workOut_54 : decode cX0_workOut 54 = .ok (.iload 4, 2) := by decide +kernel
theorem dX0_workOut_56 : decode cX0_workOut 56 = .ok (.invokestatic 37, 3) := by decide +kernel
theorem dX0_workOut_59 : decode cX0_workOut 59 = .ok (.iastore, 1) := by decide +kernel
theorem dX0_workOut_60 : decode cX0_workOut 60 = .ok (.aload_n 0, 1) := by decide +kernel
theorem dX0_workOut_61 : decode cX0_workOut 61 = .ok (.dup, 1) := by decide +kernel
theorem dX0_workOut_62 : decode cX0_workOut 62 = .ok (.getfield 34, 3) := by decide +kernel
theorem dX0_workOut_65 : decode cX0_workOut 65 = .ok (.aload_n 0, 1) := by decide +kernel
theorem dX0_workOut_66 : decode cX0_workOut 66 = .ok (.getfield 9, 3) := by decide +kernel
theorem dX0_workOut_69 : decode cX0_workOut 69 = .ok (.iload 6, 2) := by decide +kernel
theorem dX0_workOut_71 : decode cX0_workOut 71 = .ok (.iaload, 1) := by decide +kernel
theorem dX0_workOut_72 : decode cX0_workOut 72 = .ok (.iconst (-1), 1) := by decide +kernel
theorem dX0_workOut_73 : decode cX0_workOut 73 = .ok (.ixor, 1) := by decide +kernel
theorem dX0_workOut_74 : decode cX0_workOut 74 = .ok (.iand, 1) := by decide +kernel
theorem dX0_workOut_75 : decode cX0_workOut 75 = .ok (.putfield 34, 3) := by decide +kernel
theorem dX0_workOut_78 : decode cX0_workOut 78 = .ok (.iinc 6 1, 3) := by decide +kernel
theorem dX0_workOut_81 : decode cX0_workOut 81 = .ok (.goto (-45), 3) := by decide +kernel
theorem dX0_workOut_84 : decode cX0_workOut 84 = .ok (.aload_n 0, 1) := by decide +kernel
theorem dX0_workOut_85 : decode cX0_workOut 85 = .ok (.iload 5, 2) := by decide +kernel
theorem dX0_workOut_87 : decode cX0_workOut 87 = .ok (.invokevirtual 41, 3) := by decide +kernel
theorem dX0_workOut_90 : decode cX0_workOut 90 = .ok (.aload_n 0, 1) := by decide +kernel
theorem dX0_workOut_91 : decode cX0_workOut 91 = .ok (.iconst 0, 1) := by decide +kernel
theorem dX0_workOut_92 : decode cX0_workOut 92 = .ok (.putfield 45, 3) := by decide +kernel
theorem dX0_workOut_95 : decode cX0_workOut 95 = .ok (.iconst 1, 1) := by decide +kernel
theorem dX0_workOut_96 : decode cX0_workOut 96 = .ok (.istore 6, 2) := by decide +kernel
theorem dX0_workOut_98 : decode cX0_workOut 98 = .ok (.iload 6, 2) := by decide +kernel
theorem dX0_workOut_100 : decode cX0_workOut 100 = .ok (.aload_n 0, 1) := by decide +kernel
theorem dX0_workOut_101 : decode cX0_workOut 101 = .ok (.getfield 30, 3) := by decide +kernel
theorem dX0_workOut_104 : decode cX0_workOut 104 = .ok (.if_icmp .gt 57, 3) := by decide +kernel
theorem dX0_workOut_107 : decode cX0_workOut 107 = .ok (.aload_n 0, 1) := by decide +kernel
theorem dX0_workOut_108 : decode cX0_workOut 108 = .ok (.iload 6, 2) := by decide +kernel
theorem dX0_workOut_110 : decode cX0_workOut 110 = .ok (.invokevirtual 48, 3) := by decide +kernel
theorem dX0_workOut_113 : decode cX0_workOut 113 = .ok (.aload_n 0, 1) := by decide +kernel
theorem dX0_workOut_114 : decode cX0_workOut 114 = .ok (.aload_n 0, 1) := by decide +kernel
theorem dX0_workOut_115 : decode cX0_workOut 115 = .ok (.getfield 45, 3) := by decide +kernel
theorem dX0_workOut_118 : decode cX0_workOut 118 = .ok (.invokevirtual 48, 3) := by decide +kernel
theorem dX0_workOut_121 : decode cX0_workOut 121 = .ok (.isub, 1) := by decide +kernel
theorem dX0_workOut_122 : decode cX0_workOut 122 = .ok (.istore 7, 2) := by decide +kernel
theorem dX0_workOut_124 : decode cX0_workOut 124 = .ok (.iload 7, 2) := by decide +kernel
theorem dX0_workOut_126 : decode cX0_workOut 126 = .ok (.ifCond .gt 23, 3) := by decide +kernel
theorem dX0_workOut_129 : decode cX0_workOut 129 = .ok (.iload 7, 2) := by decide +kernel
theorem dX0_workOut_131 : decode cX0_workOut 131 = .ok (.ifCond .ne 24, 3) := by decide +kernel
theorem dX0_workOut_134 : decode cX0_workOut 134 = .ok (.iload 6, 2) := by decide +kernel
theorem dX0_workOut_136 : decode cX0_workOut 136 = .ok (.invokestatic 52, 3) := by decide +kernel
theorem dX0_workOut_139 : decode cX0_workOut 139 = .ok (.aload_n 0, 1) := by decide +kernel
theorem dX0_workOut_140 : decode cX0_workOut 140 = .ok (.getfield 45, 3) := by decide +kernel
theorem dX0_workOut_143 : decode cX0_workOut 143 = .ok (.invokestatic 52, 3) := by decide +kernel
theorem dX0_workOut_146 : decode cX0_workOut 146 = .ok (.if_icmp .ge 9, 3) := by decide +kernel
theorem dX0_workOut_149 : decode cX0_workOut 149 = .ok (.aload_n 0, 1) := by decide +kernel
theorem dX0_workOut_150 : decode cX0_workOut 150 = .ok (.iload 6, 2) := by decide +kernel
theorem dX0_workOut_152 : decode cX0_workOut 152 = .ok (.putfield 45, 3) := by decide +kernel
theorem dX0_workOut_155 : decode cX0_workOut 155 = .ok (.iinc 6 1, 3) := by decide +kernel
theorem dX0_workOut_158 : decode cX0_workOut 158 = .ok (.goto (-60), 3) := by decide +kernel
theorem dX0_workOut_161 : decode cX0_workOut 161 = .ok (.return_, 1) := by decide +kernel
theorem dX0_lettersFor_0 : decode cX0_lettersFor 0 = .ok (.aload_n 0, 1) := by decide +kernel
theorem dX0_lettersFor_1 : decode cX0_lettersFor 1 = .ok (.iload_n 1, 1) := by decide +kernel
theorem dX0_lettersFor_2 : decode cX0_lettersFor 2 = .ok (.iconst 2, 1) := by decide +kernel
theorem dX0_lettersFor_3 : decode cX0_lettersFor 3 = .ok (.invokevirtual 57, 3) := by decide +kernel
theorem dX0_lettersFor_6 : decode cX0_lettersFor 6 = .ok (.iload_n 3, 1) := by decide +kernel
theorem dX0_lettersFor_7 : decode cX0_lettersFor 7 = .ok (.iadd, 1) := by decide +kernel
theorem dX0_lettersFor_8 : decode cX0_lettersFor 8 = .ok (.istore 5, 2) := by decide +kernel
theorem dX0_lettersFor_10 : decode cX0_lettersFor 10 = .ok (.aload_n 2, 1) := by decide +kernel
theorem dX0_lettersFor_11 : decode cX0_lettersFor 11 = .ok (.iconst 0, 1) := by decide +kernel
theorem dX0_lettersFor_12 : decode cX0_lettersFor 12 = .ok (.aload_n 0, 1) := by decide +kernel
theorem dX0_lettersFor_13 : decode cX0_lettersFor 13 = .ok (.iload_n 1, 1) := by decide +kernel
theorem dX0_lettersFor_14 : decode cX0_lettersFor 14 = .ok (.iconst 1, 1) := by decide +kernel
theorem dX0_lettersFor_15 : decode cX0_lettersFor 15 = .ok (.invokevirtual 57, 3) := by decide +kernel
theorem dX0_lettersFor_18 : decode cX0_lettersFor 18 = .ok (.invokevirtual 60, 3) := by decide +kernel
theorem dX0_lettersFor_21 : decode cX0_lettersFor 21 = .ok (.aload_n 2, 1) := by decide +kernel
theorem dX0_lettersFor_22 : decode cX0_lettersFor 22 = .ok (.iconst 1, 1) := by decide +kernel
theorem dX0_lettersFor_23 : decode cX0_lettersFor 23 = .ok (.aload_n 0, 1) := by decide +kernel
theorem dX0_lettersFor_24 : decode cX0_lettersFor 24 = .ok (.iload_n 1, 1) := by decide +kernel
theorem dX0_lettersFor_25 : decode cX0_lettersFor 25 = .ok (.iconst 0, 1) := by decide +kernel
theorem dX0_lettersFor_26 : decode cX0_lettersFor 26 = .ok (.invokevirtual 57, 3) := by decide +kernel
theorem dX0_lettersFor_29 : decode cX0_lettersFor 29 = .ok (.invokevirtual 60, 3) := by decide +kernel
theorem dX0_lettersFor_32 : decode cX0_lettersFor 32 = .ok (.iand, 1) := by decide +kernel
theorem dX0_lettersFor_33 : decode cX0_lettersFor 33 = .ok (.aload_n 2, 1) := by decide +kernel
theorem dX0_lettersFor_34 : decode cX0_lettersFor 34 = .ok (.iload 5, 2) := by decide +kernel
theorem dX0_lettersFor_36 : decode cX0_lettersFor 36 = .ok (.iload 4, 2) := by decide +kernel
theorem dX0_lettersFor_38 : decode cX0_lettersFor 38 = .ok (.iadd, 1) := by decide +kernel
theorem dX0_lettersFor_39 : decode cX0_lettersFor 39 = .ok (.invokevirtual 63, 3) := by decide +kernel
theorem dX0_lettersFor_42 : decode cX0_lettersFor 42 = .ok (.iand, 1) := by decide +kernel
theorem dX0_lettersFor_43 : decode cX0_lettersFor 43 = .ok (.aload_n 2, 1) := by decide +kernel
theorem dX0_lettersFor_44 : decode cX0_lettersFor 44 = .ok (.iload 5, 2) := by decide +kernel
theorem dX0_lettersFor_46 : decode cX0_lettersFor 46 = .ok (.iconst 1, 1) := by decide +kernel
theorem dX0_lettersFor_47 : decode cX0_lettersFor 47 = .ok (.isub, 1) := by decide +kernel
theorem dX0_lettersFor_48 : decode cX0_lettersFor 48 = .ok (.invokevirtual 63, 3) := by decide +kernel
theorem dX0_lettersFor_51 : decode cX0_lettersFor 51 = .ok (.iconst (-1), 1) := by decide +kernel
theorem dX0_lettersFor_52 : decode cX0_lettersFor 52 = .ok (.ixor, 1) := by decide +kernel
theorem dX0_lettersFor_53 : decode cX0_lettersFor 53 = .ok (.iand, 1) := by decide +kernel
theorem dX0_lettersFor_54 : decode cX0_lettersFor 54 = .ok (.ireturn, 1) := by decide +kernel
theorem dX0_fillTheirs_0 : decode cX0_fillTheirs 0 = .ok (.aload_n 0, 1) := by decide +kernel
theorem dX0_fillTheirs_1 : decode cX0_fillTheirs 1 = .ok (.getfield 15, 3) := by decide +kernel
theorem dX0_fillTheirs_4 : decode cX0_fillTheirs 4 = .ok (.iconst 0, 1) := by decide +kernel
theorem dX0_fillTheirs_5 : decode cX0_fillTheirs 5 = .ok (.iconst 0, 1) := by decide +kernel
theorem dX0_fillTheirs_6 : decode cX0_fillTheirs 6 = .ok (.iastore, 1) := by decide +kernel
theorem dX0_fillTheirs_7 : decode cX0_fillTheirs 7 = .ok (.iconst 0, 1) := by decide +kernel
theorem dX0_fillTheirs_8 : decode cX0_fillTheirs 8 = .ok (.istore_n 2, 1) := by decide +kernel
theorem dX0_fillTheirs_9 : decode cX0_fillTheirs 9 = .ok (.iload_n 2, 1) := by decide +kernel
theorem dX0_fillTheirs_10 : decode cX0_fillTheirs 10 = .ok (.iload_n 1, 1) := by decide +kernel
theorem dX0_fillTheirs_11 : decode cX0_fillTheirs 11 = .ok (.if_icmp .ge 61, 3) := by decide +kernel
theorem dX0_fillTheirs_14 : decode cX0_fillTheirs 14 = .ok (.iconst 1, 1) := by decide +kernel
theorem dX0_fillTheirs_15 : decode cX0_fillTheirs 15 = .ok (.iload_n 2, 1) := by decide +kernel
theorem dX0_fillTheirs_16 : decode cX0_fillTheirs 16 = .ok (.ishl, 1) := by decide +kernel
theorem dX0_fillTheirs_17 : decode cX0_fillTheirs 17 = .ok (.istore_n 3, 1) := by decide +kernel
theorem dX0_fillTheirs_18 : decode cX0_fillTheirs 18 = .ok (.iload_n 3, 1) := by decide +kernel
theorem dX0_fillTheirs_19 : decode cX0_fillTheirs 19 = .ok (.istore 4, 2) := by decide +kernel
theorem dX0_fillTheirs_21 : decode cX0_fillTheirs 21 = .ok (.iload 4, 2) := by decide +kernel
theorem dX0_fillTheirs_23 : decode cX0_fillTheirs 23 = .ok (.iconst 2, 1) := by decide +kernel
theorem dX0_fillTheirs_24 : decode cX0_fillTheirs 24 = .ok (.iload_n 3, 1) := by decide +kernel
theorem dX0_fillTheirs_25 : decode cX0_fillTheirs 25 = .ok (.imul, 1) := by decide +kernel
theorem dX0_fillTheirs_26 : decode cX0_fillTheirs 26 = .ok (.if_icmp .ge 40, 3) := by decide +kernel
theorem dX0_fillTheirs_29 : decode cX0_fillTheirs 29 = .ok (.iload 4, 2) := by decide +kernel
theorem dX0_fillTheirs_31 : decode cX0_fillTheirs 31 = .ok (.sipush 1024, 3) := by decide +kernel
theorem dX0_fillTheirs_34 : decode cX0_fillTheirs 34 = .ok (.if_icmp .ge 32, 3) := by decide +kernel
theorem dX0_fillTheirs_37 : decode cX0_fillTheirs 37 = .ok (.aload_n 0, 1) := by decide +kernel
theorem dX0_fillTheirs_38 : decode cX0_fillTheirs 38 = .ok (.getfield 15, 3) := by decide +kernel
theorem dX0_fillTheirs_41 : decode cX0_fillTheirs 41 = .ok (.iload 4, 2) := by decide +kernel
theorem dX0_fillTheirs_43 : decode cX0_fillTheirs 43 = .ok (.aload_n 0, 1) := by decide +kernel
theorem dX0_fillTheirs_44 : decode cX0_fillTheirs 44 = .ok (.getfield 15, 3) := by decide +kernel
theorem dX0_fillTheirs_47 : decode cX0_fillTheirs 47 = .ok (.iload 4, 2) := by decide +kernel
theorem dX0_fillTheirs_49 : decode cX0_fillTheirs 49 = .ok (.iload_n 3, 1) := by decide +kernel
theorem dX0_fillTheirs_50 : decode cX0_fillTheirs 50 = .ok (.isub, 1) := by decide +kernel
theorem dX0_fillTheirs_51 : decode cX0_fillTheirs 51 = .ok (.iaload, 1) := by decide +kernel
theorem dX0_fillTheirs_52 : decode cX0_fillTheirs 52 = .ok (.aload_n 0, 1) := by decide +kernel
theorem dX0_fillTheirs_53 : decode cX0_fillTheirs 53 = .ok (.getfield 9, 3) := by decide +kernel
theorem dX0_fillTheirs_56 : decode cX0_fillTheirs 56 = .ok (.iload_n 2, 1) := by decide +kernel
theorem dX0_fillTheirs_57 : decode cX0_fillTheirs 57 = .ok (.iaload, 1) := by decide +kernel
theorem dX0_fillTheirs_58 : decode cX0_fillTheirs 58 = .ok (.ior, 1) := by decide +kernel
theorem dX0_fillTheirs_59 : decode cX0_fillTheirs 59 = .ok (.iastore, 1) := by decide +kernel
theorem dX0_fillTheirs_60 : decode cX0_fillTheirs 60 = .ok (.iinc 4 1, 3) := by decide +kernel
theorem dX0_fillTheirs_63 : decode cX0_fillTheirs 63 = .ok (.goto (-42), 3) := by decide +kernel
theorem dX0_fillTheirs_66 : decode cX0_fillTheirs 66 = .ok (.iinc 2 1, 3) := by decide +kernel
theorem dX0_fillTheirs_69 : decode cX0_fillTheirs 69 = .ok (.goto (-60), 3) := by decide +kernel
theorem dX0_fillTheirs_72 : decode cX0_fillTheirs 72 = .ok (.return_, 1) := by decide +kernel
theorem dX0_excess_0 : decode cX0_excess 0 = .ok (.iload_n 1, 1) := by decide +kernel
theorem dX0_excess_1 : decode cX0_excess 1 = .ok (.invokestatic 52, 3) := by decide +kernel
theorem dX0_excess_4 : decode cX0_excess 4 = .ok (.aload_n 0, 1) := by decide +kernel
theorem dX0_excess_5 : decode cX0_excess 5 = .ok (.getfield 15, 3) := by decide +kernel
theorem dX0_excess_8 : decode cX0_excess 8 = .ok (.iload_n 1, 1) := by decide +kernel
theorem dX0_excess_9 : decode cX0_excess 9 = .ok (.aload_n 0, 1) := by decide +kernel
theorem dX0_excess_10 : decode cX0_excess 10 = .ok (.getfield 30, 3) := by decide +kernel
theorem dX0_excess_13 : decode cX0_excess 13 = .ok (.iand, 1) := by decide +kernel
theorem dX0_excess_14 : decode cX0_excess 14 = .ok (.iaload, 1) := by decide +kernel
theorem dX0_excess_15 : decode cX0_excess 15 = .ok (.invokestatic 52, 3) := by decide +kernel
theorem dX0_excess_18 : decode cX0_excess 18 = .ok (.isub, 1) := by decide +kernel
theorem dX0_excess_19 : decode cX0_excess 19 = .ok (.ireturn, 1) := by decide +kernel
theorem dX0_lacking_0 : decode cX0_lacking 0 = .ok (.aload_n 0, 1) := by decide +kernel
theorem dX0_lacking_1 : decode cX0_lacking 1 = .ok (.getfield 45, 3) := by decide +kernel
theorem dX0_lacking_4 : decode cX0_lacking 4 = .ok (.ireturn, 1) := by decide +kernel
theorem dX0_withoutReply_0 : decode cX0_withoutReply 0 = .ok (.aload_n 0, 1) := by decide +kernel
theorem dX0_withoutReply_1 : decode cX0_withoutReply 1 = .ok (.getfield 34, 3) := by decide +kernel
theorem dX0_withoutReply_4 : decode cX0_withoutReply 4 = .ok (.ireturn, 1) := by decide +kernel
theorem dX0_owedAmong_0 : decode cX0_owedAmong 0 = .ok (.aload_n 0, 1) := by decide +kernel
theorem dX0_owedAmong_1 : decode cX0_owedAmong 1 = .ok (.aload_n 0, 1) := by decide +kernel
theorem dX0_owedAmong_2 : decode cX0_owedAmong 2 = .ok (.getfield 45, 3) := by decide +kernel
theorem dX0_owedAmong_5 : decode cX0_owedAmong 5 = .ok (.iload_n 1, 1) := by decide +kernel
theorem dX0_owedAmong_6 : decode cX0_owedAmong 6 = .ok (.iand, 1) := by decide +kernel
theorem dX0_owedAmong_7 : decode cX0_owedAmong 7 = .ok (.invokevirtual 48, 3) := by decide +kernel
theorem dX0_owedAmong_10 : decode cX0_owedAmong 10 = .ok (.ireturn, 1) := by decide +kernel
theorem dX1_init_0 : decode cX1_init 0 = .ok (.aload_n 0, 1) := by decide +kernel
theorem dX1_init_1 : decode cX1_init 1 = .ok (.invokespecial 3, 3) := by decide +kernel
theorem dX1_init_4 : decode cX1_init 4 = .ok (.aload_n 0, 1) := by decide +kernel
theorem dX1_init_5 : decode cX1_init 5 = .ok (.bipush 60, 2) := by decide +kernel
theorem dX1_init_7 : decode cX1_init 7 = .ok (.newarray .int, 2) := by decide +kernel
theorem dX1_init_9 : decode cX1_init 9 = .ok (.putfield 9, 3) := by decide +kernel
theorem dX1_init_12 : decode cX1_init 12 = .ok (.aload_n 0, 1) := by decide +kernel
theorem dX1_init_13 : decode cX1_init 13 = .ok (.iconst (-1), 1) := by decide +kernel
theorem dX1_init_14 : decode cX1_init 14 = .ok (.putfield 15, 3) := by decide +kernel
theorem dX1_init_17 : decode cX1_init 17 = .ok (.aload_n 0, 1) := by decide +kernel
theorem dX1_init_18 : decode cX1_init 18 = .ok (.aload_n 1, 1) := by decide +kernel
theorem dX1_init_19 : decode cX1_init 19 = .ok (.putfield 19, 3) := by decide +kernel
theorem dX1_init_22 : decode cX1_init 22 = .ok (.return_, 1) := by decide +kernel
theorem dX1_howMany_0 : decode cX1_howMany 0 = .ok (.aload_n 0, 1) := by decide +kernel
theorem dX1_howMany_1 : decode cX1_howMany 1 = .ok (.getfield 22, 3) := by decide +kernel
theorem dX1_howMany_4 : decode cX1_howMany 4 = .ok (.ireturn, 1) := by decide +kernel
theorem dX1_faultPlace_0 : decode cX1_faultPlace 0 = .ok (.aload_n 0, 1) := by decide +kernel
theorem dX1_faultPlace_1 : decode cX1_faultPlace 1 = .ok (.getfield 15, 3) := by decide +kernel
theorem dX1_faultPlace_4 : decode cX1_faultPlace 4 = .ok (.iconst (-1), 1) := by decide +kernel
theorem dX1_faultPlace_5 : decode cX1_faultPlace 5 = .ok (.if_icmp .eq 8, 3) := by decide +kernel
theorem dX1_faultPlace_8 : decode cX1_faultPlace 8 = .ok (.aload_n 0, 1) := by decide +kernel
theorem dX1_faultPlace_9 : decode cX1_faultPlace 9 = .ok (.getfield 15, 3) := by decide +kernel
theorem dX1_faultPlace_12 : decode cX1_faultPlace 12 = .ok (.ireturn, 1) := by decide +kernel
theorem dX1_faultPlace_13 : decode cX1_faultPlace 13 = .ok (.aload_n 0, 1) := by decide +kernel
theorem dX1_faultPlace_14 : decode cX1_faultPlace 14 = .ok (.getfield 25, 3) := by decide +kernel
theorem dX1_faultPlace_17 : decode cX1_faultPlace 17 = .ok (.ifCond .eq 15, 3) := by decide +kernel
theorem dX1_faultPlace_20 : decode cX1_faultPlace 20 = .ok (.aload_n 0, 1) := by decide +kernel
theorem dX1_faultPlace_21 : decode cX1_faultPlace 21 = .ok (.getfield 28, 3) := by decide +kernel
theorem dX1_faultPlace_24 : decode cX1_faultPlace 24 = .ok (.aload_n 0, 1) := by decide +kernel
theorem dX1_faultPlace_25 : decode cX1_faultPlace 25 = .ok (.getfield 19, 3) := by decide +kernel
theorem dX1_faultPlace_28 : decode cX1_faultPlace 28 = .ok (.arraylength, 1) := by decide +kernel
theorem dX1_faultPlace_29 : decode cX1_faultPlace 29 = .ok (.if_icmp .ne 7, 3) := by decide +kernel
theorem dX1_faultPlace_32 : decode cX1_faultPlace 32 = .ok (.iconst (-1), 1) := by decide +kernel
theorem dX1_faultPlace_33 : decode cX1_faultPlace 33 = .ok (.goto 7, 3) := by decide +kernel
theorem dX1_faultPlace_36 : decode cX1_faultPlace 36 = .ok (.aload_n 0, 1) := by decide +kernel
theorem dX1_faultPlace_37 : decode cX1_faultPlace 37 = .ok (.getfield 25, 3) := by decide +kernel
theorem dX1_faultPlace_40 : decode cX1_faultPlace 40 = .ok (.ireturn, 1) := by decide +kernel
theorem dX1_part_0 : decode cX1_part 0 = .ok (.iload_n 1, 1) := by decide +kernel
theorem dX1_part_1 : decode cX1_part 1 = .ok (.ifCond .lt 31, 3) := by decide +kernel
theorem dX1_part_4 : decode cX1_part 4 = .ok (.iload_n 1, 1) := by decide +kernel
theorem dX1_part_5 : decode cX1_part 5 = .ok (.aload_n 0, 1) := by decide +kernel
theorem dX1_part_6 : decode cX1_part 6 = .ok (.getfield 22, 3) := by decide +kernel
theorem dX1_part_9 : decode cX1_part 9 = .ok (.if_icmp .ge 23, 3) := by decide +kernel
theorem dX1_part_12 : decode cX1_part 12 = .ok (.iload_n 1, 1) := by decide +kernel
theorem dX1_part_13 : decode cX1_part 13 = .ok (.bipush 10, 2) := by decide +kernel
theorem dX1_part_15 : decode cX1_part 15 = .ok (.if_icmp .ge 17, 3) := by decide +kernel
theorem dX1_part_18 : decode cX1_part 18 = .ok (.iload_n 2, 1) := by decide +kernel
theorem dX1_part_19 : decode cX1_part 19 = .ok (.ifCond .lt 13, 3) := by decide +kernel
theorem dX1_part_22 : decode cX1_part 22 = .ok (.iload_n 2, 1) := by decide +kernel
theorem dX1_part_23 : decode cX1_part 23 = .ok (.bipush 6, 2) := by decide +kernel
theorem dX1_part_25 : decode cX1_part 25 = .ok (.if_icmp .ge 7, 3) := by decide +kernel
theorem dX1_part_28 : decode cX1_part 28 = .ok (.iconst 1, 1) := by decide +kernel
theorem dX1_part_29 : decode cX1_part 29 = .ok (.goto 4, 3) := by decide +kernel
theorem dX1_part_32 : decode cX1_part 32 = .ok (.iconst 0, 1) := by decide +kernel
theorem dX1_part_33 : decode cX1_part 33 = .ok (.istore_n 3, 1) := by decide +kernel
theorem dX1_part_34 : decode cX1_part 34 = .ok (.iload_n 3, 1) := by decide +kernel
theorem dX1_part_35 : decode cX1_part 35 = .ok (.ifCond .eq 17, 3) := by decide +kernel
theorem dX1_part_38 : decode cX1_part 38 = .ok (.aload_n 0, 1) := by decide +kernel
theorem dX1_part_39 : decode cX1_part 39 = .ok (.getfield 9, 3) := by decide +kernel
theorem dX1_part_42 : decode cX1_part 42 = .ok (.iload_n 1, 1) := by decide +kernel
theorem dX1_part_43 : decode cX1_part 43 = .ok (.bipush 6, 2) := by decide +kernel
theorem dX1_part_45 : decode cX1_part 45 = .ok (.imul, 1) := by decide +kernel
theorem dX1_part_46 : decode cX1_part 46 = .ok (.iload_n 2, 1) := by decide +kernel
theorem dX1_part_47 : decode cX1_part 47 = .ok (.iadd, 1) := by decide +kernel
theorem dX1_part_48 : decode cX1_part 48 = .ok (.iaload, 1) := by decide +kernel
theorem dX1_part_49 : decode cX1_part 49 = .ok (.goto 4, 3) := by decide +kernel
theorem dX1_part_52 : decode cX1_part 52 = .ok (.iconst (-1), 1) := by decide +kernel
theorem dX1_part_53 : decode cX1_part 53 = .ok (.ireturn, 1) := by decide +kernel
theorem dX1_with_0 : decode cX1_with 0 = .ok (.iconst 0, 1) := by decide +kernel
theorem dX1_with_1 : decode cX1_with 1 = .ok (.istore_n 3, 1) := by decide +kernel
theorem dX1_with_2 : decode cX1_with 2 = .ok (.iconst 0, 1) := by decide +kernel
theorem dX1_with_3 : decode cX1_with 3 = .ok (.istore 4, 2) := by decide +kernel
theorem dX1_with_5 : decode cX1_with 5 = .ok (.iload 4, 2) := by decide +kernel
theorem dX1_with_7 : decode cX1_with 7 = .ok (.aload_n 0, 1) := by decide +kernel
theorem dX1_with_8 : decode cX1_with 8 = .ok (.getfield 22, 3) := by decide +kernel
theorem dX1_with_11 : decode cX1_with 11 = .ok (.if_icmp .ge 49, 3) := by decide +kernel
theorem dX1_with_14 : decode cX1_with 14 = .ok (.iload 4, 2) := by decide +kernel
theorem dX1_with_16 : decode cX1_with 16 = .ok (.bipush 10, 2) := by decide +kernel
theorem dX1_with_18 : decode cX1_with 18 = .ok (.if_icmp .ge 42, 3) := by decide +kernel
theorem dX1_with_21 : decode cX1_with 21 = .ok (.iload_n 1, 1) := by decide +kernel
theorem dX1_with_22 : decode cX1_with 22 = .ok (.ifCond .lt 32, 3) := by decide +kernel
theorem dX1_with_25 : decode cX1_with 25 = .ok (.iload_n 1, 1) := by decide +kernel
theorem dX1_with_26 : decode cX1_with 26 = .ok (.bipush 6, 2) := by decide +kernel
theorem dX1_with_28 : decode cX1_with 28 = .ok (.if_icmp .ge 26, 3) := by decide +kernel
theorem dX1_with_31 : decode cX1_with 31 = .ok (.aload_n 0, 1) := by decide +kernel
theorem dX1_with_32 : decode cX1_with 32 = .ok (.getfield 9, 3) := by decide +kernel
theorem dX1_with_35 : decode cX1_with 35 = .ok (.iload 4, 2) := by decide +kernel
theorem dX1_with_37 : decode cX1_with 37 = .ok (.bipush 6, 2) := by decide +kernel
theorem dX1_with_39 : decode cX1_with 39 = .ok (.imul, 1) := by decide +kernel
theorem dX1_with_40 : decode cX1_with 40 = .ok (.iload_n 1, 1) := by decide +kernel
theorem dX1_with_41 : decode cX1_with 41 = .ok (.iadd, 1) := by decide +kernel
theorem dX1_with_42 : decode cX1_with 42 = .ok (.iaload, 1) := by decide +kernel
theorem dX1_with_43 : decode cX1_with 43 = .ok (.iload_n 2, 1) := by decide +kernel
theorem dX1_with_44 : decode cX1_with 44 = .ok (.if_icmp .ne 10, 3) := by decide +kernel
theorem dX1_with_47 : decode cX1_with 47 = .ok (.iload_n 3, 1) := by decide +kernel
theorem dX1_with_48 : decode cX1_with 48 = .ok (.iconst 1, 1) := by decide +kernel
theorem dX1_with_49 : decode cX1_with 49 = .ok (.iload 4, 2) := by decide +kernel
theorem dX1_with_51 : decode cX1_with 51 = .ok (.ishl, 1) := by decide +kernel
theorem dX1_with_52 : decode cX1_with 52 = .ok (.ior, 1) := by decide +kernel
theorem dX1_with_53 : decode cX1_with 53 = .ok (.istore_n 3, 1) := by decide +kernel
theorem dX1_with_54 : decode cX1_with 54 = .ok (.iinc 4 1, 3) := by decide +kernel
theorem dX1_with_57 : decode cX1_with 57 = .ok (.goto (-52), 3) := by decide +kernel
theorem dX1_with_60 : decode cX1_with 60 = .ok (.iload_n 3, 1) := by decide +kernel
theorem dX1_with_61 : decode cX1_with 61 = .ok (.ireturn, 1) := by decide +kernel
theorem dX1_byDay_0 : decode cX1_byDay 0 = .ok (.iconst 0, 1) := by decide +kernel
theorem dX1_byDay_1 : decode cX1_byDay 1 = .ok (.istore_n 2, 1) := by decide +kernel
theorem dX1_byDay_2 : decode cX1_byDay 2 = .ok (.iconst 0, 1) := by decide +kernel
theorem dX1_byDay_3 : decode cX1_byDay 3 = .ok (.istore_n 3, 1) := by decide +kernel
theorem dX1_byDay_4 : decode cX1_byDay 4 = .ok (.iload_n 3, 1) := by decide +kernel
theorem dX1_byDay_5 : decode cX1_byDay 5 = .ok (.aload_n 0, 1) := by decide +kernel
theorem dX1_byDay_6 : decode cX1_byDay 6 = .ok (.getfield 22, 3) := by decide +kernel
theorem dX1_byDay_9 : decode cX1_byDay 9 = .ok (.if_icmp .ge 36, 3) := by decide +kernel
theorem dX1_byDay_12 : decode cX1_byDay 12 = .ok (.iload_n 3, 1) := by decide +kernel
theorem dX1_byDay_13 : decode cX1_byDay 13 = .ok (.bipush 10, 2) := by decide +kernel
theorem dX1_byDay_15 : decode cX1_byDay 15 = .ok (.if_icmp .ge 30, 3) := by decide +kernel
theorem dX1_byDay_18 : decode cX1_byDay 18 = .ok (.aload_n 0, 1) := by decide +kernel
theorem dX1_byDay_19 : decode cX1_byDay 19 = .ok (.getfield 9, 3) := by decide +kernel
theorem dX1_byDay_22 : decode cX1_byDay 22 = .ok (.iload_n 3, 1) := by decide +kernel
theorem dX1_byDay_23 : decode cX1_byDay 23 = .ok (.bipush 6, 2) := by decide +kernel
theorem dX1_byDay_25 : decode cX1_byDay 25 = .ok (.imul, 1) := by decide +kernel
theorem dX1_byDay_26 : decode cX1_byDay 26 = .ok (.iconst 2, 1) := by decide +kernel
theorem dX1_byDay_27 : decode cX1_byDay 27 = .ok (.iadd, 1) := by decide +kernel
theorem dX1_byDay_28 : decode cX1_byDay 28 = .ok (.iaload, 1) := by decide +kernel
theorem dX1_byDay_29 : decode cX1_byDay 29 = .ok (.iload_n 1, 1) := by decide +kernel
theorem dX1_byDay_30 : decode cX1_byDay 30 = .ok (.if_icmp .gt 9, 3) := by decide +kernel
theorem dX1_byDay_33 : decode cX1_byDay 33 = .ok (.iload_n 2, 1) := by decide +kernel
theorem dX1_byDay_34 : decode cX1_byDay 34 = .ok (.iconst 1, 1) := by decide +kernel
theorem dX1_byDay_35 : decode cX1_byDay 35 = .ok (.iload_n 3, 1) := by decide +kernel
theorem dX1_byDay_36 : decode cX1_byDay 36 = .ok (.ishl, 1) := by decide +kernel
theorem dX1_byDay_37 : decode cX1_byDay 37 = .ok (.ior, 1) := by decide +kernel
theorem dX1_byDay_38 : decode cX1_byDay 38 = .ok (.istore_n 2, 1) := by decide +kernel
theorem dX1_byDay_39 : decode cX1_byDay 39 = .ok (.iinc 3 1, 3) := by decide +kernel
theorem dX1_byDay_42 : decode cX1_byDay 42 = .ok (.goto (-38), 3) := by decide +kernel
theorem dX1_byDay_45 : decode cX1_byDay 45 = .ok (.iload_n 2, 1) := by decide +kernel
theorem dX1_byDay_46 : decode cX1_byDay 46 = .ok (.ireturn, 1) := by decide +kernel
theorem dX1_begin_0 : decode cX1_begin 0 = .ok (.aload_n 0, 1) := by decide +kernel
theorem dX1_begin_1 : decode cX1_begin 1 = .ok (.iconst 0, 1) := by decide +kernel
theorem dX1_begin_2 : decode cX1_begin 2 = .ok (.putfield 25, 3) := by decide +kernel
theorem dX1_begin_5 : decode cX1_begin 5 = .ok (.aload_n 0, 1) := by decide +kernel
theorem dX1_begin_6 : decode cX1_begin 6 = .ok (.iconst 0, 1) := by decide +kernel
theorem dX1_begin_7 : decode cX1_begin 7 = .ok (.putfield 31, 3) := by decide +kernel
theorem dX1_begin_10 : decode cX1_begin 10 = .ok (.aload_n 0, 1) := by decide +kernel
theorem dX1_begin_11 : decode cX1_begin 11 = .ok (.iconst 0, 1) := by decide +kernel
theorem dX1_begin_12 : decode cX1_begin 12 = .ok (.putfield 28, 3) := by decide +kernel
theorem dX1_begin_15 : decode cX1_begin 15 = .ok (.aload_n 0, 1) := by decide +kernel
theorem dX1_begin_16 : decode cX1_begin 16 = .ok (.iconst 0, 1) := by decide +kernel
theorem dX1_begin_17 : decode cX1_begin 17 = .ok (.putfield 22, 3) := by decide +kernel
theorem dX1_begin_20 : decode cX1_begin 20 = .ok (.aload_n 0, 1) := by decide +kernel
theorem dX1_begin_21 : decode cX1_begin 21 = .ok (.iconst (-1), 1) := by decide +kernel
theorem dX1_begin_22 : decode cX1_begin 22 = .ok (.putfield 15, 3) := by decide +kernel
theorem dX1_begin_25 : decode cX1_begin 25 = .ok (.return_, 1) := by decide +kernel
theorem dX1_readAgain_0 : decode cX1_readAgain 0 = .ok (.aload_n 0, 1) := by decide +kernel
theorem dX1_readAgain_1 : decode cX1_readAgain 1 = .ok (.invokevirtual 34, 3) := by decide +kernel
theorem dX1_readAgain_4 : decode cX1_readAgain 4 = .ok (.iconst 0, 1) := by decide +kernel
theorem dX1_readAgain_5 : decode cX1_readAgain 5 = .ok (.istore_n 2, 1) := by decide +kernel
theorem dX1_readAgain_6 : decode cX1_readAgain 6 = .ok (.iload_n 2, 1) := by decide +kernel
theorem dX1_readAgain_7 : decode cX1_readAgain 7 = .ok (.aload_n 1, 1) := by decide +kernel
theorem dX1_readAgain_8 : decode cX1_readAgain 8 = .ok (.invokevirtual 37, 3) := by decide +kernel
theorem dX1_readAgain_11 : decode cX1_readAgain 11 = .ok (.if_icmp .ge 18, 3) := by decide +kernel
theorem dX1_readAgain_14 : decode cX1_readAgain 14 = .ok (.aload_n 0, 1) := by decide +kernel
theorem dX1_readAgain_15 : decode cX1_readAgain 15 = .ok (.aload_n 1, 1) := by decide +kernel
theorem dX1_readAgain_16 : decode cX1_readAgain 16 = .ok (.iload_n 2, 1) := by decide +kernel
theorem dX1_readAgain_17 : decode cX1_readAgain 17 = .ok (.invokevirtual 43, 3) := by decide +kernel
theorem dX1_readAgain_20 : decode cX1_readAgain 20 = .ok (.invokevirtual 47, 3) := by decide +kernel
theorem dX1_readAgain_23 : decode cX1_readAgain 23 = .ok (.iinc 2 1, 3) := by decide +kernel
theorem dX1_readAgain_26 : decode cX1_readAgain 26 = .ok (.goto (-20), 3) := by decide +kernel
theorem dX1_readAgain_29 : decode cX1_readAgain 29 = .ok (.return_, 1) := by decide +kernel
theorem dX1_take_0 : decode cX1_take 0 = .ok (.aload_n 0, 1) := by decide +kernel
theorem dX1_take_1 : decode cX1_take 1 = .ok (.getfield 15, 3) := by decide +kernel
theorem dX1_take_4 : decode cX1_take 4 = .ok (.iconst (-1), 1) := by decide +kernel
theorem dX1_take_5 : decode cX1_take 5 = .ok (.if_icmp .ne 19, 3) := by decide +kernel
theorem dX1_take_8 : decode cX1_take 8 = .ok (.aload_n 0, 1) := by decide +kernel
theorem dX1_take_9 : decode cX1_take 9 = .ok (.iload_n 1, 1) := by decide +kernel
theorem dX1_take_10 : decode cX1_take 10 = .ok (.invokevirtual 51, 3) := by decide +kernel
theorem dX1_take_13 : decode cX1_take 13 = .ok (.ifCond .ne 11, 3) := by decide +kernel
theorem dX1_take_16 : decode cX1_take 16 = .ok (.aload_n 0, 1) := by decide +kernel
theorem dX1_take_17 : decode cX1_take 17 = .ok (.aload_n 0, 1) := by decide +kernel
theorem dX1_take_18 : decode cX1_take 18 = .ok (.getfield 25, 3) := by decide +kernel
theorem dX1_take_21 : decode cX1_take 21 = .ok (.putfield 15, 3) := by decide +kernel
theorem dX1_take_24 : decode cX1_take 24 = .ok (.aload_n 0, 1) := by decide +kernel
theorem dX1_take_25 : decode cX1_take 25 = .ok (.dup, 1) := by decide +kernel
theorem dX1_take_26 : decode cX1_take 26 = .ok (.getfield 25, 3) := by decide +kernel
theorem dX1_take_29 : decode cX1_take 29 = .ok (.iconst 1, 1) := by decide +kernel
theorem dX1_take_30 : decode cX1_take 30 = .ok (.iadd, 1) := by decide +kernel
theorem dX1_take_31 : decode cX1_take 31 = .ok (.putfield 25, 3) := by decide +kernel
theorem dX1_take_34 : decode cX1_take 34 = .ok (.aload_n 0, 1) := by decide +kernel
theorem dX1_take_35 : decode cX1_take 35 = .ok (.getfield 15, 3) := by decide +kernel
theorem dX1_take_38 : decode cX1_take 38 = .ok (.iconst (-1), 1) := by decide +kernel
theorem dX1_take_39 : decode cX1_take 39 = .ok (.if_icmp .ne 19, 3) := by decide +kernel
theorem dX1_take_42 : decode cX1_take 42 = .ok (.aload_n 0, 1) := by decide +kernel
theorem dX1_take_43 : decode cX1_take 43 = .ok (.getfield 28, 3) := by decide +kernel
theorem dX1_take_46 : decode cX1_take 46 = .ok (.aload_n 0, 1) := by decide +kernel
theorem dX1_take_47 : decode cX1_take 47 = .ok (.getfield 19, 3) := by decide +kernel
theorem dX1_take_50 : decode cX1_take 50 = .ok (.arraylength, 1) := by decide +kernel
theorem dX1_take_51 : decode cX1_take 51 = .ok (.if_icmp .ne 7, 3) := by decide +kernel
theorem dX1_take_54 : decode cX1_take 54 = .ok (.iconst 1, 1) := by decide +kernel
theorem dX1_take_55 : decode cX1_take 55 = .ok (.goto 4, 3) := by decide +kernel
theorem dX1_take_58 : decode cX1_take 58 = .ok (.iconst 0, 1) := by decide +kernel
theorem dX1_take_59 : decode cX1_take 59 = .ok (.istore_n 2, 1) := by decide +kernel
theorem dX1_take_60 : decode cX1_take 60 = .ok (.aload_n 0, 1) := by decide +kernel
theorem dX1_take_61 : decode cX1_take 61 = .ok (.iload_n 2, 1) := by decide +kernel
theorem dX1_take_62 : decode cX1_take 62 = .ok (.ifCond .eq 12, 3) := by decide +kernel
theorem dX1_take_65 : decode cX1_take 65 = .ok (.aload_n 0, 1) := by decide +kernel
theorem dX1_take_66 : decode cX1_take 66 = .ok (.getfield 31, 3) := by decide +kernel
theorem dX1_take_69 : decode cX1_take 69 = .ok (.iconst 1, 1) := by decide +kernel
theorem dX1_take_70 : decode cX1_take 70 = .ok (.iadd, 1) := by decide +kernel
theorem dX1_take_71 : decode cX1_take 71 = .ok (.goto 4, 3) := by decide +kernel
theorem dX1_take_74 : decode cX1_take 74 = .ok (.iconst 0, 1) := by decide +kernel
theorem dX1_take_75 : decode cX1_take 75 = .ok (.putfield 22, 3) := by decide +kernel
theorem dX1_take_78 : decode cX1_take 78 = .ok (.return_, 1) := by decide +kernel
theorem dX1_goesOnWith_0 : decode cX1_goesOnWith 0 = .ok (.aload_n 0, 1) := by decide +kernel
theorem dX1_goesOnWith_1 : decode cX1_goesOnWith 1 = .ok (.getfield 28, 3) := by decide +kernel
theorem dX1_goesOnWith_4 : decode cX1_goesOnWith 4 = .ok (.aload_n 0, 1) := by decide +kernel
theorem dX1_goesOnWith_5 : decode cX1_goesOnWith 5 = .ok (.getfield 19, 3) := by decide +kernel
theorem dX1_goesOnWith_8 : decode cX1_goesOnWith 8 = .ok (.arraylength, 1) := by decide +kernel
theorem dX1_goesOnWith_9 : decode cX1_goesOnWith 9 = .ok (.if_icmp .lt 30, 3) := by decide +kernel
theorem dX1_goesOnWith_12 : decode cX1_goesOnWith 12 = .ok (.aload_n 0, 1) := by decide +kernel
theorem dX1_goesOnWith_13 : decode cX1_goesOnWith 13 = .ok (.dup, 1) := by decide +kernel
theorem dX1_goesOnWith_14 : decode cX1_goesOnWith 14 = .ok (.getfield 31, 3) := by decide +kernel
theorem dX1_goesOnWith_17 : decode cX1_goesOnWith 17 = .ok (.iconst 1, 1) := by decide +kernel
theorem dX1_goesOnWith_18 : decode cX1_goesOnWith 18 = .ok (.iadd, 1) := by decide +kernel
theorem dX1_goesOnWith_19 : decode cX1_goesOnWith 19 = .ok (.putfield 31, 3) := by decide +kernel
theorem dX1_goesOnWith_22 : decode cX1_goesOnWith 22 = .ok (.aload_n 0, 1) := by decide +kernel
theorem dX1_goesOnWith_23 : decode cX1_goesOnWith 23 = .ok (.iconst 0, 1) := by decide +kernel
theorem dX1_goesOnWith_24 : decode cX1_goesOnWith 24 = .ok (.putfield 28, 3) := by decide +kernel
theorem dX1_goesOnWith_27 : decode cX1_goesOnWith 27 = .ok (.iload_n 1, 1) := by decide +kernel
theorem dX1_goesOnWith_28 : decode cX1_goesOnWith 28 = .ok (.bipush 59, 2) := by decide +kernel
theorem dX1_goesOnWith_30 : decode cX1_goesOnWith 30 = .ok (.if_icmp .ne 7, 3) := by decide +kernel
theorem dX1_goesOnWith_33 : decode cX1_goesOnWith 33 = .ok (.iconst 1, 1) := by decide +kernel
theorem dX1_goesOnWith_34 : decode cX1_goesOnWith 34 = .ok (.goto 4, 3) := by decide +kernel
theorem dX1_goesOnWith_37 : decode cX1_goesOnWith 37 = .ok (.iconst 0, 1) := by decide +kernel
theorem dX1_goesOnWith_38 : decode cX1_goesOnWith 38 = .ok (.ireturn, 1) := by decide +kernel
theorem dX1_goesOnWith_39 : decode cX1_goesOnWith 39 = .ok (.aload_n 0, 1) := by decide +kernel
theorem dX1_goesOnWith_40 : decode cX1_goesOnWith 40 = .ok (.getfield 28, 3) := by decide +kernel
theorem dX1_goesOnWith_43 : decode cX1_goesOnWith 43 = .ok (.ifCond .lt 19, 3) := by decide +kernel
theorem dX1_goesOnWith_46 : decode cX1_goesOnWith 46 = .ok (.aload_n 0, 1) := by decide +kernel
theorem dX1_goesOnWith_47 : decode cX1_goesOnWith 47 = .ok (.getfield 31, 3) := by decide +kernel
theorem dX1_goesOnWith_50 : decode cX1_goesOnWith 50 = .ok (.ifCond .lt 12, 3) := by decide +kernel
theorem dX1_goesOnWith_53 : decode cX1_goesOnWith 53 = .ok (.aload_n 0, 1) := by decide +kernel
theorem dX1_goesOnWith_54 : decode cX1_goesOnWith 54 = .ok (.getfield 31, 3) := by decide +kernel
theorem dX1_goesOnWith_57 : decode cX1_goesOnWith 57 = .ok (.bipush 10, 2) := by decide +kernel
theorem dX1_goesOnWith_59 : decode cX1_goesOnWith 59 = .ok (.if_icmp .lt 5, 3) := by decide +kernel
theorem dX1_goesOnWith_62 : decode cX1_goesOnWith 62 = .ok (.iconst 0, 1) := by decide +kernel
theorem dX1_goesOnWith_63 : decode cX1_goesOnWith 63 = .ok (.ireturn, 1) := by decide +kernel
theorem dX1_goesOnWith_64 : decode cX1_goesOnWith 64 = .ok (.aload_n 0, 1) := by decide +kernel
theorem dX1_goesOnWith_65 : decode cX1_goesOnWith 65 = .ok (.getfield 19, 3) := by decide +kernel
theorem dX1_goesOnWith_68 : decode cX1_goesOnWith 68 = .ok (.aload_n 0, 1) := by decide +kernel
theorem dX1_goesOnWith_69 : decode cX1_goesOnWith 69 = .ok (.getfield 28, 3) := by decide +kernel
theorem dX1_goesOnWith_72 : decode cX1_goesOnWith 72 = .ok (.iaload, 1) := by decide +kernel
theorem dX1_goesOnWith_73 : decode cX1_goesOnWith 73 = .ok (.istore_n 2, 1) := by decide +kernel
theorem dX1_goesOnWith_74 : decode cX1_goesOnWith 74 = .ok (.aload_n 0, 1) := by decide +kernel
theorem dX1_goesOnWith_75 : decode cX1_goesOnWith 75 = .ok (.iload_n 2, 1) := by decide +kernel
theorem dX1_goesOnWith_76 : decode cX1_goesOnWith 76 = .ok (.iload_n 1, 1) := by decide +kernel
theorem dX1_goesOnWith_77 : decode cX1_goesOnWith 77 = .ok (.invokevirtual 55, 3) := by decide +kernel
theorem dX1_goesOnWith_80 : decode cX1_goesOnWith 80 = .ok (.istore_n 3, 1) := by decide +kernel
theorem dX1_goesOnWith_81 : decode cX1_goesOnWith 81 = .ok (.iload_n 3, 1) := by decide +kernel
theorem dX1_goesOnWith_82 : decode cX1_goesOnWith 82 = .ok (.iconst (-1), 1) := by decide +kernel
theorem dX1_goesOnWith_83 : decode cX1_goesOnWith 83 = .ok (.if_icmp .ne 5, 3) := by decide +kernel
theorem dX1_goesOnWith_86 : decode cX1_goesOnWith 86 = .ok (.iconst 0, 1) := by decide +kernel
theorem dX1_goesOnWith_87 : decode cX1_goesOnWith 87 = .ok (.ireturn, 1) := by decide +kernel
theorem dX1_goesOnWith_88 : decode cX1_goesOnWith 88 = .ok (.aload_n 0, 1) := by decide +kernel
theorem dX1_goesOnWith_89 : decode cX1_goesOnWith 89 = .ok (.iload_n 2, 1) := by decide +kernel
theorem dX1_goesOnWith_90 : decode cX1_goesOnWith 90 = .ok (.iload_n 3, 1) := by decide +kernel
theorem dX1_goesOnWith_91 : decode cX1_goesOnWith 91 = .ok (.invokevirtual 59, 3) := by decide +kernel
theorem dX1_goesOnWith_94 : decode cX1_goesOnWith 94 = .ok (.aload_n 0, 1) := by decide +kernel
theorem dX1_goesOnWith_95 : decode cX1_goesOnWith 95 = .ok (.dup, 1) := by decide +kernel
theorem dX1_goesOnWith_96 : decode cX1_goesOnWith 96 = .ok (.getfield 28, 3) := by decide +kernel
theorem dX1_goesOnWith_99 : decode cX1_goesOnWith 99 = .ok (.iconst 1, 1) := by decide +kernel
theorem dX1_goesOnWith_100 : decode cX1_goesOnWith 100 = .ok (.iadd, 1) := by decide +kernel
theorem dX1_goesOnWith_101 : decode cX1_goesOnWith 101 = .ok (.putfield 28, 3) := by decide +kernel
theorem dX1_goesOnWith_104 : decode cX1_goesOnWith 104 = .ok (.iload_n 2, 1) := by decide +kernel
theorem dX1_goesOnWith_105 : decode cX1_goesOnWith 105 = .ok (.iconst 4, 1) := by decide +kernel
theorem dX1_goesOnWith_106 : decode cX1_goesOnWith 106 = .ok (.if_icmp .ne 23, 3) := by decide +kernel
theorem dX1_goesOnWith_109 : decode cX1_goesOnWith 109 = .ok (.iload_n 3, 1) := by decide +kernel
theorem dX1_goesOnWith_110 : decode cX1_goesOnWith 110 = .ok (.iconst 2, 1) := by decide +kernel
theorem dX1_goesOnWith_111 : decode cX1_goesOnWith 111 = .ok (.if_icmp .ge 18, 3) := by decide +kernel
theorem dX1_goesOnWith_114 : decode cX1_goesOnWith 114 = .ok (.aload_n 0, 1) := by decide +kernel
theorem dX1_goesOnWith_115 : decode cX1_goesOnWith 115 = .ok (.iconst 5, 1) := by decide +kernel
theorem dX1_goesOnWith_116 : decode cX1_goesOnWith 116 = .ok (.iconst (-1), 1) := by decide +kernel
theorem dX1_goesOnWith_117 : decode cX1_goesOnWith 117 = .ok (.invokevirtual 59, 3) := by decide +kernel
theorem dX1_goesOnWith_120 : decode cX1_goesOnWith 120 = .ok (.aload_n 0, 1) := by decide +kernel
theorem dX1_goesOnWith_121 : decode cX1_goesOnWith 121 = .ok (.aload_n 0, 1) := by decide +kernel
theorem dX1_goesOnWith_122 : decode cX1_goesOnWith 122 = .ok (.getfield 19, 3) := by decide +kernel
theorem dX1_goesOnWith_125 : decode cX1_goesOnWith 125 = .ok (.arraylength, 1) := by decide +kernel
theorem dX1_goesOnWith_126 : decode cX1_goesOnWith 126 = .ok (.putfield 28, 3) := by decide +kernel
theorem dX1_goesOnWith_129 : decode cX1_goesOnWith 129 = .ok (.iconst 1, 1) := by decide +kernel
theorem dX1_goesOnWith_130 : decode cX1_goesOnWith 130 = .ok (.ireturn, 1) := by decide +kernel
theorem dX1_valueOf_0 : decode cX1_valueOf 0 = .ok (.iload_n 1, 1) := by decide +kernel
theorem dX1_valueOf_1 : decode cX1_valueOf 1 = .ok (.tableswitch 78 0 4 #[35, 41, 78, 62, 70], 35) := by decide +kernel
theorem dX1_valueOf_36 : decode cX1_valueOf 36 = .ok (.iload_n 2, 1) := by decide +kernel
theorem dX1_valueOf_37 : decode cX1_valueOf 37 = .ok (.iconst 5, 1) := by decide +kernel
theorem dX1_valueOf_38 : decode cX1_valueOf 38 = .ok (.invokestatic 63, 3) := by decide +kernel
theorem dX1_valueOf_41 : decode cX1_valueOf 41 = .ok (.ireturn, 1) := by decide +kernel
theorem dX1_valueOf_42 : decode cX1_valueOf 42 = .ok (.iload_n 2, 1) := by decide +kernel
theorem dX1_valueOf_43 : decode cX1_valueOf 43 = .ok (.bipush 48, 2) := by decide +kernel
theorem dX1_valueOf_45 : decode cX1_valueOf 45 = .ok (.isub, 1) := by decide +kernel
theorem dX1_valueOf_46 : decode cX1_valueOf 46 = .ok (.aload_n 0, 1) := by decide +kernel
theorem dX1_valueOf_47 : decode cX1_valueOf 47 = .ok (.getfield 66, 3) := by decide +kernel
theorem dX1_valueOf_50 : decode cX1_valueOf 50 = .ok (.if_icmp .ne 7, 3) := by decide +kernel
theorem dX1_valueOf_53 : decode cX1_valueOf 53 = .ok (.iconst (-1), 1) := by decide +kernel
theorem dX1_valueOf_54 : decode cX1_valueOf 54 = .ok (.goto 8, 3) := by decide +kernel
theorem dX1_valueOf_57 : decode cX1_valueOf 57 = .ok (.iload_n 2, 1) := by decide +kernel
theorem dX1_valueOf_58 : decode cX1_valueOf 58 = .ok (.iconst 5, 1) := by decide +kernel
theorem dX1_valueOf_59 : decode cX1_valueOf 59 = .ok (.invokestatic 63, 3) := by decide +kernel
theorem dX1_valueOf_62 : decode cX1_valueOf 62 = .ok (.ireturn, 1) := by decide +kernel
theorem dX1_valueOf_63 : decode cX1_valueOf 63 = .ok (.ldc 69, 2) := by decide +kernel
theorem dX1_valueOf_65 : decode cX1_valueOf 65 = .ok (.iload_n 2, 1) := by decide +kernel
theorem dX1_valueOf_66 : decode cX1_valueOf 66 = .ok (.i2c, 1) := by decide +kernel
theorem dX1_valueOf_67 : decode cX1_valueOf 67 = .ok (.invokevirtual 71, 3) := by decide +kernel
theorem dX1_valueOf_70 : decode cX1_valueOf 70 = .ok (.ireturn, 1) := by decide +kernel
theorem dX1_valueOf_71 : decode cX1_valueOf 71 = .ok (.ldc 76, 2) := by decide +kernel
theorem dX1_valueOf_73 : decode cX1_valueOf 73 = .ok (.iload_n 2, 1) := by decide +kernel
theorem dX1_valueOf_74 : decode cX1_valueOf 74 = .ok (.i2c, 1) := by decide +kernel
theorem dX1_valueOf_75 : decode cX1_valueOf 75 = .ok (.invokevirtual 71, 3) := by decide +kernel
theorem dX1_valueOf_78 : decode cX1_valueOf 78 = .ok (.ireturn, 1) := by decide +kernel
theorem dX1_valueOf_79 : decode cX1_valueOf 79 = .ok (.iload_n 2, 1) := by decide +kernel
theorem dX1_valueOf_80 : decode cX1_valueOf 80 = .ok (.bipush 9, 2) := by decide +kernel
theorem dX1_valueOf_82 : decode cX1_valueOf 82 = .ok (.invokestatic 63, 3) := by decide +kernel
theorem dX1_valueOf_85 : decode cX1_valueOf 85 = .ok (.ireturn, 1) := by decide +kernel
theorem dX1_keep_0 : decode cX1_keep 0 = .ok (.aload_n 0, 1) := by decide +kernel
theorem dX1_keep_1 : decode cX1_keep 1 = .ok (.getfield 31, 3) := by decide +kernel
theorem dX1_keep_4 : decode cX1_keep 4 = .ok (.bipush 6, 2) := by decide +kernel
theorem dX1_keep_6 : decode cX1_keep 6 = .ok (.imul, 1) := by decide +kernel
theorem dX1_keep_7 : decode cX1_keep 7 = .ok (.iload_n 1, 1) := by decide +kernel
theorem dX1_keep_8 : decode cX1_keep 8 = .ok (.iadd, 1) := by decide +kernel
theorem dX1_keep_9 : decode cX1_keep 9 = .ok (.istore_n 3, 1) := by decide +kernel
theorem dX1_keep_10 : decode cX1_keep 10 = .ok (.iload_n 3, 1) := by decide +kernel
theorem dX1_keep_11 : decode cX1_keep 11 = .ok (.ifCond .lt 12, 3) := by decide +kernel
theorem dX1_keep_14 : decode cX1_keep 14 = .ok (.iload_n 3, 1) := by decide +kernel
theorem dX1_keep_15 : decode cX1_keep 15 = .ok (.aload_n 0, 1) := by decide +kernel
theorem dX1_keep_16 : decode cX1_keep 16 = .ok (.getfield 9, 3) := by decide +kernel
theorem dX1_keep_19 : decode cX1_keep 19 = .ok (.arraylength, 1) := by decide +kernel
theorem dX1_keep_20 : decode cX1_keep 20 = .ok (.if_icmp .lt 4, 3) := by decide +kernel
theorem dX1_keep_23 : decode cX1_keep 23 = .ok (.return_, 1) := by decide +kernel
theorem dX1_keep_24 : decode cX1_keep 24 = .ok (.iload_n 1, 1) := by decide +kernel
theorem dX1_keep_25 : decode cX1_keep 25 = .ok (.iconst 2, 1) := by decide +kernel
theorem dX1_keep_26 : decode cX1_keep 26 = .ok (.if_icmp .ne 41, 3) := by decide +kernel
theorem dX1_keep_29 : decode cX1_keep 29 = .ok (.aload_n 0, 1) := by decide +kernel
theorem dX1_keep_30 : decode cX1_keep 30 = .ok (.getfield 28, 3) := by decide +kernel
theorem dX1_keep_33 : decode cX1_keep 33 = .ok (.ifCond .le 34, 3) := by decide +kernel
theorem dX1_keep_36 : decode cX1_keep 36 = .ok (.aload_n 0, 1) := by decide +kernel
theorem dX1_keep_37 : decode cX1_keep 37 = .ok (.getfield 28, 3) := by decide +kernel
theorem dX1_keep_40 : decode cX1_keep 40 = .ok (.aload_n 0, 1) := by decide +kernel
theorem dX1_keep_41 : decode cX1_keep 41 = .ok (.getfield 19, 3) := by decide +kernel
theorem dX1_keep_44 : decode cX1_keep 44 = .ok (.arraylength, 1) := by decide +kernel
theorem dX1_keep_45 : decode cX1_keep 45 = .ok (.if_icmp .gt 22, 3) := by decide +kernel
theorem dX1_keep_48 : decode cX1_keep 48 = .ok (.aload_n 0, 1) := by decide +kernel
theorem dX1_keep_49 : decode cX1_keep 49 = .ok (.getfield 19, 3) := by decide +kernel
theorem dX1_keep_52 : decode cX1_keep 52 = .ok (.aload_n 0, 1) := by decide +kernel
theorem dX1_keep_53 : decode cX1_keep 53 = .ok (.getfield 28, 3) := by decide +kernel
theorem dX1_keep_56 : decode cX1_keep 56 = .ok (.iconst 1, 1) := by decide +kernel
theorem dX1_keep_57 : decode cX1_keep 57 = .ok (.isub, 1) := by decide +kernel
theorem dX1_keep_58 : decode cX1_keep 58 = .ok (.iaload, 1) := by decide +kernel
theorem dX1_keep_59 : decode cX1_keep 59 = .ok (.iconst 2, 1) := by decide +kernel
theorem dX1_keep_60 : decode cX1_keep 60 = .ok (.if_icmp .ne 7, 3) := by decide +kernel
theorem dX1_keep_63 : decode cX1_keep 63 = .ok (.iconst 1, 1) := by decide +kernel
theorem dX1_keep_64 : decode cX1_keep 64 = .ok (.goto 4, 3) := by decide +kernel
theorem dX1_keep_67 : decode cX1_keep 67 = .ok (.iconst 0, 1) := by decide +kernel
theorem dX1_keep_68 : decode cX1_keep 68 = .ok (.istore 4, 2) := by decide +kernel
theorem dX1_keep_70 : decode cX1_keep 70 = .ok (.aload_n 0, 1) := by decide +kernel
theorem dX1_keep_71 : decode cX1_keep 71 = .ok (.getfield 9, 3) := by decide +kernel
theorem dX1_keep_74 : decode cX1_keep 74 = .ok (.iload_n 3, 1) := by decide +kernel
theorem dX1_keep_75 : decode cX1_keep 75 = .ok (.iload 4, 2) := by decide +kernel
theorem dX1_keep_77 : decode cX1_keep 77 = .ok (.ifCond .eq 17, 3) := by decide +kernel
theorem dX1_keep_80 : decode cX1_keep 80 = .ok (.bipush 10, 2) := by decide +kernel
theorem dX1_keep_82 : decode cX1_keep 82 = .ok (.aload_n 0, 1) := by decide +kernel
theorem dX1_keep_83 : decode cX1_keep 83 = .ok (.getfield 9, 3) := by decide +kernel
theorem dX1_keep_86 : decode cX1_keep 86 = .ok (.iload_n 3, 1) := by decide +kernel
theorem dX1_keep_87 : decode cX1_keep 87 = .ok (.iaload, 1) := by decide +kernel
theorem dX1_keep_88 : decode cX1_keep 88 = .ok (.imul, 1) := by decide +kernel
theorem dX1_keep_89 : decode cX1_keep 89 = .ok (.iload_n 2, 1) := by decide +kernel
theorem dX1_keep_90 : decode cX1_keep 90 = .ok (.iadd, 1) := by decide +kernel
theorem dX1_keep_91 : decode cX1_keep 91 = .ok (.goto 4, 3) := by decide +kernel
theorem dX1_keep_94 : decode cX1_keep 94 = .ok (.iload_n 2, 1) := by decide +kernel
theorem dX1_keep_95 : decode cX1_keep 95 = .ok (.iastore, 1) := by decide +kernel
theorem dX1_keep_96 : decode cX1_keep 96 = .ok (.aload_n 0, 1) := by decide +kernel
theorem dX1_keep_97 : decode cX1_keep 97 = .ok (.iload_n 1, 1) := by decide +kernel
theorem dX1_keep_98 : decode cX1_keep 98 = .ok (.ifCond .ne 7, 3) := by decide +kernel
theorem dX1_keep_101 : decode cX1_keep 101 = .ok (.iload_n 2, 1) := by decide +kernel
theorem dX1_keep_102 : decode cX1_keep 102 = .ok (.goto 7, 3) := by decide +kernel
theorem dX1_keep_105 : decode cX1_keep 105 = .ok (.aload_n 0, 1) := by decide +kernel
theorem dX1_keep_106 : decode cX1_keep 106 = .ok (.getfield 66, 3) := by decide +kernel
theorem dX1_keep_109 : decode cX1_keep 109 = .ok (.putfield 66, 3) := by decide +kernel
theorem dX1_keep_112 : decode cX1_keep 112 = .ok (.return_, 1) := by decide +kernel
theorem dX1_figure_0 : decode cX1_figure 0 = .ok (.iload_n 0, 1) := by decide +kernel
theorem dX1_figure_1 : decode cX1_figure 1 = .ok (.bipush 48, 2) := by decide +kernel
theorem dX1_figure_3 : decode cX1_figure 3 = .ok (.isub, 1) := by decide +kernel
theorem dX1_figure_4 : decode cX1_figure 4 = .ok (.istore_n 2, 1) := by decide +kernel
theorem dX1_figure_5 : decode cX1_figure 5 = .ok (.iload_n 2, 1) := by decide +kernel
theorem dX1_figure_6 : decode cX1_figure 6 = .ok (.ifCond .lt 8, 3) := by decide +kernel
theorem dX1_figure_9 : decode cX1_figure 9 = .ok (.iload_n 2, 1) := by decide +kernel
theorem dX1_figure_10 : decode cX1_figure 10 = .ok (.iload_n 1, 1) := by decide +kernel
theorem dX1_figure_11 : decode cX1_figure 11 = .ok (.if_icmp .le 7, 3) := by decide +kernel
theorem dX1_figure_14 : decode cX1_figure 14 = .ok (.iconst (-1), 1) := by decide +kernel
theorem dX1_figure_15 : decode cX1_figure 15 = .ok (.goto 4, 3) := by decide +kernel
theorem dX1_figure_18 : decode cX1_figure 18 = .ok (.iload_n 2, 1) := by decide +kernel
theorem dX1_figure_19 : decode cX1_figure 19 = .ok (.ireturn, 1) := by decide +kernel
theorem dX2_init_0 : decode cX2_init 0 = .ok (.aload_n 0, 1) := by decide +kernel
theorem dX2_init_1 : decode cX2_init 1 = .ok (.invokespecial 1, 3) := by decide +kernel
theorem dX2_init_4 : decode cX2_init 4 = .ok (.return_, 1) := by decide +kernel
theorem dX2_beginWith_0 : decode cX2_beginWith 0 = .ok (.aload_n 0, 1) := by decide +kernel
theorem dX2_beginWith_1 : decode cX2_beginWith 1 = .ok (.iload_n 1, 1) := by decide +kernel
theorem dX2_beginWith_2 : decode cX2_beginWith 2 = .ok (.putfield 7, 3) := by decide +kernel
theorem dX2_beginWith_5 : decode cX2_beginWith 5 = .ok (.return_, 1) := by decide +kernel
theorem dX2_drawRow_0 : decode cX2_drawRow 0 = .ok (.iconst 0, 1) := by decide +kernel
theorem dX2_drawRow_1 : decode cX2_drawRow 1 = .ok (.istore_n 2, 1) := by decide +kernel
theorem dX2_drawRow_2 : decode cX2_drawRow 2 = .ok (.iconst 0, 1) := by decide +kernel
theorem dX2_drawRow_3 : decode cX2_drawRow 3 = .ok (.istore_n 3, 1) := by decide +kernel
theorem dX2_drawRow_4 : decode cX2_drawRow 4 = .ok (.iload_n 3, 1) := by decide +kernel
theorem dX2_drawRow_5 : decode cX2_drawRow 5 = .ok (.iload_n 1, 1) := by decide +kernel
theorem dX2_drawRow_6 : decode cX2_drawRow 6 = .ok (.if_icmp .ge 19, 3) := by decide +kernel
theorem dX2_drawRow_9 : decode cX2_drawRow 9 = .ok (.iload_n 2, 1) := by decide +kernel
theorem dX2_drawRow_10 : decode cX2_drawRow 10 = .ok (.aload_n 0, 1) := by decide +kernel
theorem dX2_drawRow_11 : decode cX2_drawRow 11 = .ok (.iconst 2, 1) := by decide +kernel
theorem dX2_drawRow_12 : decode cX2_drawRow 12 = .ok (.invokevirtual 13, 3) := by decide +kernel
theorem dX2_drawRow_15 : decode cX2_drawRow 15 = .ok (.iload_n 3, 1) := by decide +kernel
theorem dX2_drawRow_16 : decode cX2_drawRow 16 = .ok (.ishl, 1) := by decide +kernel
theorem dX2_drawRow_17 : decode cX2_drawRow 17 = .ok (.ior, 1) := by decide +kernel
theorem dX2_drawRow_18 : decode cX2_drawRow 18 = .ok (.istore_n 2, 1) := by decide +kernel
theorem dX2_drawRow_19 : decode cX2_drawRow 19 = .ok (.iinc 3 1, 3) := by decide +kernel
theorem dX2_drawRow_22 : decode cX2_drawRow 22 = .ok (.goto (-18), 3) := by decide +kernel
theorem dX2_drawRow_25 : decode cX2_drawRow 25 = .ok (.iload_n 2, 1) := by decide +kernel
theorem dX2_drawRow_26 : decode cX2_drawRow 26 = .ok (.ireturn, 1) := by decide +kernel
theorem dX2_draw_0 : decode cX2_draw 0 = .ok (.aload_n 0, 1) := by decide +kernel
theorem dX2_draw_1 : decode cX2_draw 1 = .ok (.ldc 17, 2) := by decide +kernel
theorem dX2_draw_3 : decode cX2_draw 3 = .ok (.aload_n 0, 1) := by decide +kernel
theorem dX2_draw_4 : decode cX2_draw 4 = .ok (.getfield 7, 3) := by decide +kernel
theorem dX2_draw_7 : decode cX2_draw 7 = .ok (.imul, 1) := by decide +kernel
theorem dX2_draw_8 : decode cX2_draw 8 = .ok (.sipush 12345, 3) := by decide +kernel
theorem dX2_draw_11 : decode cX2_draw 11 = .ok (.iadd, 1) := by decide +kernel
theorem dX2_draw_12 : decode cX2_draw 12 = .ok (.putfield 7, 3) := by decide +kernel
theorem dX2_draw_15 : decode cX2_draw 15 = .ok (.iload_n 1, 1) := by decide +kernel
theorem dX2_draw_16 : decode cX2_draw 16 = .ok (.ifCond .le 15, 3) := by decide +kernel
theorem dX2_draw_19 : decode cX2_draw 19 = .ok (.aload_n 0, 1) := by decide +kernel
theorem dX2_draw_20 : decode cX2_draw 20 = .ok (.getfield 7, 3) := by decide +kernel
theorem dX2_draw_23 : decode cX2_draw 23 = .ok (.bipush 16, 2) := by decide +kernel
theorem dX2_draw_25 : decode cX2_draw 25 = .ok (.iushr, 1) := by decide +kernel
theorem dX2_draw_26 : decode cX2_draw 26 = .ok (.iload_n 1, 1) := by decide +kernel
theorem dX2_draw_27 : decode cX2_draw 27 = .ok (.irem, 1) := by decide +kernel
theorem dX2_draw_28 : decode cX2_draw 28 = .ok (.goto 4, 3) := by decide +kernel
theorem dX2_draw_31 : decode cX2_draw 31 = .ok (.iconst 0, 1) := by decide +kernel
theorem dX2_draw_32 : decode cX2_draw 32 = .ok (.ireturn, 1) := by decide +kernel
theorem dX3_init_0 : decode cX3_init 0 = .ok (.aload_n 0, 1) := by decide +kernel
theorem dX3_init_1 : decode cX3_init 1 = .ok (.invokespecial 3, 3) := by decide +kernel
theorem dX3_init_4 : decode cX3_init 4 = .ok (.aload_n 0, 1) := by decide +kernel
theorem dX3_init_5 : decode cX3_init 5 = .ok (.sipush 1024, 3) := by decide +kernel
theorem dX3_init_8 : decode cX3_init 8 = .ok (.newarray .int, 2) := by decide +kernel
theorem dX3_init_10 : decode cX3_init 10 = .ok (.putfield 9, 3) := by decide +kernel
theorem dX3_init_13 : decode cX3_init 13 = .ok (.aload_n 0, 1) := by decide +kernel
theorem dX3_init_14 : decode cX3_init 14 = .ok (.sipush 1024, 3) := by decide +kernel
theorem dX3_init_17 : decode cX3_init 17 = .ok (.newarray .int, 2) := by decide +kernel
theorem dX3_init_19 : decode cX3_init 19 = .ok (.putfield 15, 3) := by decide +kernel
theorem dX3_init_22 : decode cX3_init 22 = .ok (.aload_n 0, 1) := by decide +kernel
theorem dX3_init_23 : decode cX3_init 23 = .ok (.sipush 1024, 3) := by decide +kernel
theorem dX3_init_26 : decode cX3_init 26 = .ok (.newarray .int, 2) := by decide +kernel
theorem dX3_init_28 : decode cX3_init 28 = .ok (.putfield 18, 3) := by decide +kernel
theorem dX3_init_31 : decode cX3_init 31 = .ok (.aload_n 0, 1) := by decide +kernel
theorem dX3_init_32 : decode cX3_init 32 = .ok (.bipush 10, 2) := by decide +kernel
theorem dX3_init_34 : decode cX3_init 34 = .ok (.newarray .int, 2) := by decide +kernel
theorem dX3_init_36 : decode cX3_init 36 = .ok (.putfield 21, 3) := by decide +kernel
theorem dX3_init_39 : decode cX3_init 39 = .ok (.aload_n 0, 1) := by decide +kernel
theorem dX3_init_40 : decode cX3_init 40 = .ok (.bipush 10, 2) := by decide +kernel
theorem dX3_init_42 : decode cX3_init 42 = .ok (.newarray .int, 2) := by decide +kernel
theorem dX3_init_44 : decode cX3_init 44 = .ok (.putfield 24, 3) := by decide +kernel
theorem dX3_init_47 : decode cX3_init 47 = .ok (.return_, 1) := by decide +kernel
theorem dX3_workOut_0 : decode cX3_workOut 0 = .ok (.aload_n 0, 1) := by decide +kernel
theorem dX3_workOut_1 : decode cX3_workOut 1 = .ok (.aload_n 1, 1) := by decide +kernel
theorem dX3_workOut_2 : decode cX3_workOut 2 = .ok (.invokevirtual 27, 3) := by decide +kernel
theorem dX3_workOut_5 : decode cX3_workOut 5 = .ok (.bipush 10, 2) := by decide +kernel
theorem dX3_workOut_7 : decode cX3_workOut 7 = .ok (.invokestatic 33, 3) := by decide +kernel
theorem dX3_workOut_10 : decode cX3_workOut 10 = .ok (.putfield 39, 3) := by decide +kernel
theorem dX3_workOut_13 : decode cX3_workOut 13 = .ok (.aload_n 0, 1) := by decide +kernel
theorem dX3_workOut_14 : decode cX3_workOut 14 = .ok (.iconst 1, 1) := by decide +kernel
theorem dX3_workOut_15 : decode cX3_workOut 15 = .ok (.aload_n 0, 1) := by decide +kernel
theorem dX3_workOut_16 : decode cX3_workOut 16 = .ok (.getfield 39, 3) := by decide +kernel
theorem dX3_workOut_19 : decode cX3_workOut 19 = .ok (.ishl, 1) := by decide +kernel
theorem dX3_workOut_20 : decode cX3_workOut 20 = .ok (.iconst 1, 1) := by decide +kernel
theorem dX3_workOut_21 : decode cX3_workOut 21 = .ok (.isub, 1) := by decide +kernel
theorem dX3_workOut_22 : decode cX3_workOut 22 = .ok (.putfield 43, 3) := by decide +kernel
theorem dX3_workOut_25 : decode cX3_workOut 25 = .ok (.aload_n 0, 1) := by decide +kernel
theorem dX3_workOut_26 : decode cX3_workOut 26 = .ok (.aload_n 1, 1) := by decide +kernel
theorem dX3_workOut_27 : decode cX3_workOut 27 = .ok (.iload_n 2, 1) := by decide +kernel
theorem dX3_workOut_28 : decode cX3_workOut 28 = .ok (.invokevirtual 46, 3) := by decide +kernel
theorem dX3_workOut_31 : decode cX3_workOut 31 = .ok (.aload_n 0, 1) := by decide +kernel
theorem dX3_workOut_32 : decode cX3_workOut 32 = .ok (.getfield 9, 3) := by decide +kernel
theorem dX3_workOut_35 : decode cX3_workOut 35 = .ok (.iconst 0, 1) := by decide +kernel
theorem dX3_workOut_36 : decode cX3_workOut 36 = .ok (.aload_n 1, 1) := by decide +kernel
theorem dX3_workOut_37 : decode cX3_workOut 37 = .ok (.invokestatic 50, 3) := by decide +kernel
theorem dX3_workOut_40 : decode cX3_workOut 40 = .ok (.iastore, 1) := by decide +kernel
theorem dX3_workOut_41 : decode cX3_workOut 41 = .ok (.aload_n 0, 1) := by decide +kernel
theorem dX3_workOut_42 : decode cX3_workOut 42 = .ok (.invokevirtual 54, 3) := by decide +kernel
theorem dX3_workOut_45 : decode cX3_workOut 45 = .ok (.aload_n 0, 1) := by decide +kernel
theorem dX3_workOut_46 : decode cX3_workOut 46 = .ok (.iconst 0, 1) := by decide +kernel
theorem dX3_workOut_47 : decode cX3_workOut 47 = .ok (.putfield 57, 3) := by decide +kernel
theorem dX3_workOut_50 : decode cX3_workOut 50 = .ok (.iconst 0, 1) := by decide +kernel
theorem dX3_workOut_51 : decode cX3_workOut 51 = .ok (.istore 4, 2) := by decide +kernel
theorem dX3_workOut_53 : decode cX3_workOut 53 = .ok (.iload 4, 2) := by decide +kernel
theorem dX3_workOut_55 : decode cX3_workOut 55 = .ok (.aload_n 0, 1) := by decide +kernel
theorem dX3_workOut_56 : decode cX3_workOut 56 = .ok (.getfield 43, 3) := by decide +kernel
theorem dX3_workOut_59 : decode cX3_workOut 59 = .ok (.if_icmp .gt 76, 3) := by decide +kernel
theorem dX3_workOut_62 : decode cX3_workOut 62 = .ok (.aload_n 0, 1) := by decide +kernel
theorem dX3_workOut_63 : decode cX3_workOut 63 = .ok (.getfield 9, 3) := by decide +kernel
theorem dX3_workOut_66 : decode cX3_workOut 66 = .ok (.iload 4, 2) := by decide +kernel
theorem dX3_workOut_68 : decode cX3_workOut 68 = .ok (.aload_n 0, 1) := by decide +kernel
theorem dX3_workOut_69 : decode cX3_workOut 69 = .ok (.getfield 9, 3) := by decide +kernel
theorem dX3_workOut_72 : decode cX3_workOut 72 = .ok (.iload 4, 2) := by decide +kernel
theorem dX3_workOut_74 : decode cX3_workOut 74 = .ok (.iaload, 1) := by decide +kernel
theorem dX3_workOut_75 : decode cX3_workOut 75 = .ok (.iload 4, 2) := by decide +kernel
theorem dX3_workOut_77 : decode cX3_workOut 77 = .ok (.ixor, 1) := by decide +kernel
theorem dX3_workOut_78 : decode cX3_workOut 78 = .ok (.aload_n 0, 1) := by decide +kernel
theorem dX3_workOut_79 : decode cX3_workOut 79 = .ok (.getfield 43, 3) := by decide +kernel
theorem dX3_workOut_82 : decode cX3_workOut 82 = .ok (.iand, 1) := by decide +kernel
theorem dX3_workOut_83 : decode cX3_workOut 83 = .ok (.iload_n 3, 1) := by decide +kernel
theorem dX3_workOut_84 : decode cX3_workOut 84 = .ok (.iconst (-1), 1) := by decide +kernel
theorem dX3_workOut_85 : decode cX3_workOut 85 = .ok (.ixor, 1) := by decide +kernel
theorem dX3_workOut_86 : decode cX3_workOut 86 = .ok (.iand, 1) := by decide +kernel
theorem dX3_workOut_87 : decode cX3_workOut 87 = .ok (.iastore, 1) := by decide +kernel
theorem dX3_workOut_88 : decode cX3_workOut 88 = .ok (.aload_n 0, 1) := by decide +kernel
theorem dX3_workOut_89 : decode cX3_workOut 89 = .ok (.getfield 9, 3) := by decide +kernel
theorem dX3_workOut_92 : decode cX3_workOut 92 = .ok (.iload 4, 2) := by decide +kernel
theorem dX3_workOut_94 : decode cX3_workOut 94 = .ok (.iaload, 1) := by decide +kernel
theorem dX3_workOut_95 : decode cX3_workOut 95 = .ok (.ifCond .ne 34, 3) := by decide +kernel
theorem dX3_workOut_98 : decode cX3_workOut 98 = .ok (.aload_n 0, 1) := by decide +kernel
theorem dX3_workOut_99 : decode cX3_workOut 99 = .ok (.getfield 57, 3) := by decide +kernel
theorem dX3_workOut_102 : decode cX3_workOut 102 = .ok (.sipush 1024, 3) := by decide +kernel
theorem dX3_workOut_105 : decode cX3_workOut 105 = .ok (.if_icmp .ge 24, 3) := by decide +kernel
theorem dX3_workOut_108 : decode cX3_workOut 108 = .ok (.aload_n 0, 1) := by decide +kernel
theorem dX3_workOut_109 : decode cX3_workOut 109 = .ok (.getfield 15, 3) := by decide +kernel
theorem dX3_workOut_112 : decode cX3_workOut 112 = .ok (.aload_n 0, 1) := by decide +kernel
theorem dX3_workOut_113 : decode cX3_workOut 113 = .ok (.getfield 57, 3) := by decide +kernel
theorem dX3_workOut_116 : decode cX3_workOut 116 = .ok (.iload 4, 2) := by decide +kernel
theorem dX3_workOut_118 : decode cX3_workOut 118 = .ok (.iastore, 1) := by decide +kernel
theorem dX3_workOut_119 : decode cX3_workOut 119 = .ok (.aload_n 0, 1) := by decide +kernel
theorem dX3_workOut_120 : decode cX3_workOut 120 = .ok (.dup, 1) := by decide +kernel
theorem dX3_workOut_121 : decode cX3_workOut 121 = .ok (.getfield 57, 3) := by decide +kernel
theorem dX3_workOut_124 : decode cX3_workOut 124 = .ok (.iconst 1, 1) := by decide +kernel
theorem dX3_workOut_125 : decode cX3_workOut 125 = .ok (.iadd, 1) := by decide +kernel
theorem dX3_workOut_126 : decode cX3_workOut 126 = .ok (.putfield 57, 3) := by decide +kernel
theorem dX3_workOut_129 : decode cX3_workOut 129 = .ok (.iinc 4 1, 3) := by decide +kernel
theorem dX3_workOut_132 : decode cX3_workOut 132 = .ok (.goto (-79), 3) := by decide +kernel
theorem dX3_workOut_135 : decode cX3_workOut 135 = .ok (.return_, 1) := by decide +kernel
theorem dX3_findTies_0 : decode cX3_findTies 0 = .ok (.aload_n 0, 1) := by decide +kernel
theorem dX3_findTies_1 : decode cX3_findTies 1 = .ok (.getfield 24, 3) := by decide +kernel
theorem dX3_findTies_4 : decode cX3_findTies 4 = .ok (.iconst 0, 1) := by decide +kernel
theorem dX3_findTies_5 : decode cX3_findTies 5 = .ok (.invokestatic 60, 3) := by decide +kernel
theorem dX3_findTies_8 : decode cX3_findTies 8 = .ok (.iconst 0, 1) := by decide +kernel
theorem dX3_findTies_9 : decode cX3_findTies 9 = .ok (.istore_n 3, 1) := by decide +kernel
theorem dX3_findTies_10 : decode cX3_findTies 10 = .ok (.iload_n 3, 1) := by decide +kernel
theorem dX3_findTies_11 : decode cX3_findTies 11 = .ok (.aload_n 0, 1) := by decide +kernel
theorem dX3_findTies_12 : decode cX3_findTies 12 = .ok (.getfield 39, 3) := by decide +kernel
theorem dX3_findTies_15 : decode cX3_findTies 15 = .ok (.if_icmp .ge 122, 3) := by decide +kernel
theorem dX3_findTies_18 : decode cX3_findTies 18 = .ok (.aload_n 1, 1) := by decide +kernel
theorem dX3_findTies_19 : decode cX3_findTies 19 = .ok (.iload_n 3, 1) := by decide +kernel
theorem dX3_findTies_20 : decode cX3_findTies 20 = .ok (.iconst 5, 1) := by decide +kernel
theorem dX3_findTies_21 : decode cX3_findTies 21 = .ok (.invokevirtual 66, 3) := by decide +kernel
theorem dX3_findTies_24 : decode cX3_findTies 24 = .ok (.istore 4, 2) := by decide +kernel
theorem dX3_findTies_26 : decode cX3_findTies 26 = .ok (.iload 4, 2) := by decide +kernel
theorem dX3_findTies_28 : decode cX3_findTies 28 = .ok (.ifCond .lt 16, 3) := by decide +kernel
theorem dX3_findTies_31 : decode cX3_findTies 31 = .ok (.iload 4, 2) := by decide +kernel
theorem dX3_findTies_33 : decode cX3_findTies 33 = .ok (.aload_n 0, 1) := by decide +kernel
theorem dX3_findTies_34 : decode cX3_findTies 34 = .ok (.getfield 39, 3) := by decide +kernel
theorem dX3_findTies_37 : decode cX3_findTies 37 = .ok (.if_icmp .ge 7, 3) := by decide +kernel
theorem dX3_findTies_40 : decode cX3_findTies 40 = .ok (.iconst 1, 1) := by decide +kernel
theorem dX3_findTies_41 : decode cX3_findTies 41 = .ok (.goto 4, 3) := by decide +kernel
theorem dX3_findTies_44 : decode cX3_findTies 44 = .ok (.iconst 0, 1) := by decide +kernel
theorem dX3_findTies_45 : decode cX3_findTies 45 = .ok (.istore 5, 2) := by decide +kernel
theorem dX3_findTies_47 : decode cX3_findTies 47 = .ok (.iload 5, 2) := by decide +kernel
theorem dX3_findTies_49 : decode cX3_findTies 49 = .ok (.ifCond .eq 25, 3) := by decide +kernel
theorem dX3_findTies_52 : decode cX3_findTies 52 = .ok (.aload_n 1, 1) := by decide +kernel
theorem dX3_findTies_53 : decode cX3_findTies 53 = .ok (.iload 4, 2) := by decide +kernel
theorem dX3_findTies_55 : decode cX3_findTies 55 = .ok (.iconst 2, 1) := by decide +kernel
theorem dX3_findTies_56 : decode cX3_findTies 56 = .ok (.invokevirtual 66, 3) := by decide +kernel
theorem dX3_findTies_59 : decode cX3_findTies 59 = .ok (.iload_n 2, 1) := by decide +kernel
theorem dX3_findTies_60 : decode cX3_findTies 60 = .ok (.isub, 1) := by decide +kernel
theorem dX3_findTies_61 : decode cX3_findTies 61 = .ok (.aload_n 1, 1) := by decide +kernel
theorem dX3_findTies_62 : decode cX3_findTies 62 = .ok (.iload_n 3, 1) := by decide +kernel
theorem dX3_findTies_63 : decode cX3_findTies 63 = .ok (.iconst 2, 1) := by decide +kernel
theorem dX3_findTies_64 : decode cX3_findTies 64 = .ok (.invokevirtual 66, 3) := by decide +kernel
theorem dX3_findTies_67 : decode cX3_findTies 67 = .ok (.if_icmp .gt 7, 3) := by decide +kernel
theorem dX3_findTies_70 : decode cX3_findTies 70 = .ok (.iconst 1, 1) := by decide +kernel
theorem dX3_findTies_71 : decode cX3_findTies 71 = .ok (.goto 4, 3) := by decide +kernel
theorem dX3_findTies_74 : decode cX3_findTies 74 = .ok (.iconst 0, 1) := by decide +kernel
theorem dX3_findTies_75 : decode cX3_findTies 75 = .ok (.istore 6, 2) := by decide +kernel
theorem dX3_findTies_77 : decode cX3_findTies 77 = .ok (.aload_n 0, 1) := by decide +kernel
theorem dX3_findTies_78 : decode cX3_findTies 78 = .ok (.getfield 21, 3) := by decide +kernel
theorem dX3_findTies_81 : decode cX3_findTies 81 = .ok (.iload_n 3, 1) := by decide +kernel
theorem dX3_findTies_82 : decode cX3_findTies 82 = .ok (.iload 6, 2) := by decide +kernel
theorem dX3_findTies_84 : decode cX3_findTies 84 = .ok (.ifCond .eq 8, 3) := by decide +kernel
theorem dX3_findTies_87 : decode cX3_findTies 87 = .ok (.iload 4, 2) := by decide +kernel
theorem dX3_findTies_89 : decode cX3_findTies 89 = .ok (.goto 4, 3) := by decide +kernel
theorem dX3_findTies_92 : decode cX3_findTies 92 = .ok (.iconst (-1), 1) := by decide +kernel
theorem dX3_findTies_93 : decode cX3_findTies 93 = .ok (.iastore, 1) := by decide +kernel
theorem dX3_findTies_94 : decode cX3_findTies 94 = .ok (.iload 6, 2) := by decide +kernel
theorem dX3_findTies_96 : decode cX3_findTies 96 = .ok (.ifCond .eq 35, 3) := by decide +kernel
theorem dX3_findTies_99 : decode cX3_findTies 99 = .ok (.aload_n 1, 1) := by decide +kernel
theorem dX3_findTies_100 : decode cX3_findTies 100 = .ok (.iload_n 3, 1) := by decide +kernel
theorem dX3_findTies_101 : decode cX3_findTies 101 = .ok (.iconst 4, 1) := by decide +kernel
theorem dX3_findTies_102 : decode cX3_findTies 102 = .ok (.invokevirtual 66, 3) := by decide +kernel
theorem dX3_findTies_105 : decode cX3_findTies 105 = .ok (.aload_n 1, 1) := by decide +kernel
theorem dX3_findTies_106 : decode cX3_findTies 106 = .ok (.iload 4, 2) := by decide +kernel
theorem dX3_findTies_108 : decode cX3_findTies 108 = .ok (.iconst 3, 1) := by decide +kernel
theorem dX3_findTies_109 : decode cX3_findTies 109 = .ok (.invokevirtual 66, 3) := by decide +kernel
theorem dX3_findTies_112 : decode cX3_findTies 112 = .ok (.invokestatic 69, 3) := by decide +kernel
theorem dX3_findTies_115 : decode cX3_findTies 115 = .ok (.ifCond .eq 16, 3) := by decide +kernel
theorem dX3_findTies_118 : decode cX3_findTies 118 = .ok (.aload_n 0, 1) := by decide +kernel
theorem dX3_findTies_119 : decode cX3_findTies 119 = .ok (.getfield 24, 3) := by decide +kernel
theorem dX3_findTies_122 : decode cX3_findTies 122 = .ok (.iload 4, 2) := by decide +kernel
theorem dX3_findTies_124 : decode cX3_findTies 124 = .ok (.dup2, 1) := by decide +kernel
theorem dX3_findTies_125 : decode cX3_findTies 125 = .ok (.iaload, 1) := by decide +kernel
theorem dX3_findTies_126 : decode cX3_findTies 126 = .ok (.iconst 1, 1) := by decide +kernel
theorem dX3_findTies_127 : decode cX3_findTies 127 = .ok (.iload_n 3, 1) := by decide +kernel
theorem dX3_findTies_128 : decode cX3_findTies 128 = .ok (.ishl, 1) := by decide +kernel
theorem dX3_findTies_129 : decode cX3_findTies 129 = .ok (.ior, 1) := by decide +kernel
theorem dX3_findTies_130 : decode cX3_findTies 130 = .ok (.iastore, 1) := by decide +kernel
theorem dX3_findTies_131 : decode cX3_findTies 131 = .ok (.iinc 3 1, 3) := by decide +kernel
theorem dX3_findTies_134 : decode cX3_findTies 134 = .ok (.goto (-124), 3) := by decide +kernel
theorem dX3_findTies_137 : decode cX3_findTies 137 = .ok (.return_, 1) := by decide +kernel
theorem dX3_isTurnedBy_0 : decode cX3_isTurnedBy 0 = .ok (.iload_n 0, 1) := by decide +kernel
theorem dX3_isTurnedBy_1 : decode cX3_isTurnedBy 1 = .ok (.iconst 4, 1) := by decide +kernel
theorem dX3_isTurnedBy_2 : decode cX3_isTurnedBy 2 = .ok (.if_icmp .eq 22, 3) := by decide +kernel
theorem dX3_isTurnedBy_5 : decode cX3_isTurnedBy 5 = .ok (.iload_n 0, 1) := by decide +kernel
theorem dX3_isTurnedBy_6 : decode cX3_isTurnedBy 6 = .ok (.iconst 2, 1) := by decide +kernel
theorem dX3_isTurnedBy_7 : decode cX3_isTurnedBy 7 = .ok (.if_icmp .ne 8, 3) := by decide +kernel
theorem dX3_isTurnedBy_10 : decode cX3_isTurnedBy 10 = .ok (.iload_n 1, 1) := by decide +kernel
theorem dX3_isTurnedBy_11 : decode cX3_isTurnedBy 11 = .ok (.iconst 1, 1) := by decide +kernel
theorem dX3_isTurnedBy_12 : decode cX3_isTurnedBy 12 = .ok (.if_icmp .eq 12, 3) := by decide +kernel
theorem dX3_isTurnedBy_15 : decode cX3_isTurnedBy 15 = .ok (.iload_n 0, 1) := by decide +kernel
theorem dX3_isTurnedBy_16 : decode cX3_isTurnedBy 16 = .ok (.iconst 3, 1) := by decide +kernel
theorem dX3_isTurnedBy_17 : decode cX3_isTurnedBy 17 = .ok (.if_icmp .ne 11, 3) := by decide +kernel
theorem dX3_isTurnedBy_20 : decode cX3_isTurnedBy 20 = .ok (.iload_n 1, 1) := by decide +kernel
theorem dX3_isTurnedBy_21 : decode cX3_isTurnedBy 21 = .ok (.ifCond .ne 7, 3) := by decide +kernel
theorem dX3_isTurnedBy_24 : decode cX3_isTurnedBy 24 = .ok (.iconst 1, 1) := by decide +kernel
theorem dX3_isTurnedBy_25 : decode cX3_isTurnedBy 25 = .ok (.goto 4, 3) := by decide +kernel
theorem dX3_isTurnedBy_28 : decode cX3_isTurnedBy 28 = .ok (.iconst 0, 1) := by decide +kernel
theorem dX3_isTurnedBy_29 : decode cX3_isTurnedBy 29 = .ok (.ireturn, 1) := by decide +kernel
theorem dX3_writtenUnanswered_0 : decode cX3_writtenUnanswered 0 = .ok (.aload_n 0, 1) := by decide +kernel
theorem dX3_writtenUnanswered_1 : decode cX3_writtenUnanswered 1 = .ok (.iconst 4, 1) := by decide +kernel
theorem dX3_writtenUnanswered_2 : decode cX3_writtenUnanswered 2 = .ok (.iconst 0, 1) := by decide +kernel
theorem dX3_writtenUnanswered_3 : decode cX3_writtenUnanswered 3 = .ok (.invokevirtual 73, 3) := by decide +kernel
theorem dX3_writtenUnanswered_6 : decode cX3_writtenUnanswered 6 = .ok (.aload_n 0, 1) := by decide +kernel
theorem dX3_writtenUnanswered_7 : decode cX3_writtenUnanswered 7 = .ok (.iconst 4, 1) := by decide +kernel
theorem dX3_writtenUnanswered_8 : decode cX3_writtenUnanswered 8 = .ok (.iconst 4, 1) := by decide +kernel
theorem dX3_writtenUnanswered_9 : decode cX3_writtenUnanswered 9 = .ok (.invokevirtual 73, 3) := by decide +kernel
theorem dX3_writtenUnanswered_12 : decode cX3_writtenUnanswered 12 = .ok (.ior, 1) := by decide +kernel
theorem dX3_writtenUnanswered_13 : decode cX3_writtenUnanswered 13 = .ok (.ireturn, 1) := by decide +kernel
theorem dX3_fillShould_0 : decode cX3_fillShould 0 = .ok (.iconst 0, 1) := by decide +kernel
theorem dX3_fillShould_1 : decode cX3_fillShould 1 = .ok (.istore_n 1, 1) := by decide +kernel
theorem dX3_fillShould_2 : decode cX3_fillShould 2 = .ok (.iload_n 1, 1) := by decide +kernel
theorem dX3_fillShould_3 : decode cX3_fillShould 3 = .ok (.aload_n 0, 1) := by decide +kernel
theorem dX3_fillShould_4 : decode cX3_fillShould 4 = .ok (.getfield 39, 3) := by decide +kernel
theorem dX3_fillShould_7 : decode cX3_fillShould 7 = .ok (.if_icmp .ge 56, 3) := by decide +kernel
theorem dX3_fillShould_10 : decode cX3_fillShould 10 = .ok (.iconst 1, 1) := by decide +kernel
theorem dX3_fillShould_11 : decode cX3_fillShould 11 = .ok (.iload_n 1, 1) := by decide +kernel
theorem dX3_fillShould_12 : decode cX3_fillShould 12 = .ok (.ishl, 1) := by decide +kernel
theorem dX3_fillShould_13 : decode cX3_fillShould 13 = .ok (.istore_n 2, 1) := by decide +kernel
theorem dX3_fillShould_14 : decode cX3_fillShould 14 = .ok (.iload_n 2, 1) := by decide +kernel
theorem dX3_fillShould_15 : decode cX3_fillShould 15 = .ok (.istore_n 3, 1) := by decide +kernel
theorem dX3_fillShould_16 : decode cX3_fillShould 16 = .ok (.iload_n 3, 1) := by decide +kernel
theorem dX3_fillShould_17 : decode cX3_fillShould 17 = .ok (.iconst 2, 1) := by decide +kernel
theorem dX3_fillShould_18 : decode cX3_fillShould 18 = .ok (.iload_n 2, 1) := by decide +kernel
theorem dX3_fillShould_19 : decode cX3_fillShould 19 = .ok (.imul, 1) := by decide +kernel
theorem dX3_fillShould_20 : decode cX3_fillShould 20 = .ok (.if_icmp .ge 37, 3) := by decide +kernel
theorem dX3_fillShould_23 : decode cX3_fillShould 23 = .ok (.iload_n 3, 1) := by decide +kernel
theorem dX3_fillShould_24 : decode cX3_fillShould 24 = .ok (.sipush 1024, 3) := by decide +kernel
theorem dX3_fillShould_27 : decode cX3_fillShould 27 = .ok (.if_icmp .ge 30, 3) := by decide +kernel
theorem dX3_fillShould_30 : decode cX3_fillShould 30 = .ok (.aload_n 0, 1) := by decide +kernel
theorem dX3_fillShould_31 : decode cX3_fillShould 31 = .ok (.getfield 9, 3) := by decide +kernel
theorem dX3_fillShould_34 : decode cX3_fillShould 34 = .ok (.iload_n 3, 1) := by decide +kernel
theorem dX3_fillShould_35 : decode cX3_fillShould 35 = .ok (.aload_n 0, 1) := by decide +kernel
theorem dX3_fillShould_36 : decode cX3_fillShould 36 = .ok (.getfield 9, 3) := by decide +kernel
theorem dX3_fillShould_39 : decode cX3_fillShould 39 = .ok (.iload_n 3, 1) := by decide +kernel
theorem dX3_fillShould_40 : decode cX3_fillShould 40 = .ok (.iload_n 2, 1) := by decide +kernel
theorem dX3_fillShould_41 : decode cX3_fillShould 41 = .ok (.isub, 1) := by decide +kernel
theorem dX3_fillShould_42 : decode cX3_fillShould 42 = .ok (.iaload, 1) := by decide +kernel
theorem dX3_fillShould_43 : decode cX3_fillShould 43 = .ok (.aload_n 0, 1) := by decide +kernel
theorem dX3_fillShould_44 : decode cX3_fillShould 44 = .ok (.getfield 24, 3) := by decide +kernel
theorem dX3_fillShould_47 : decode cX3_fillShould 47 = .ok (.iload_n 1, 1) := by decide +kernel
theorem dX3_fillShould_48 : decode cX3_fillShould 48 = .ok (.iaload, 1) := by decide +kernel
theorem dX3_fillShould_49 : decode cX3_fillShould 49 = .ok (.ixor, 1) := by decide +kernel
theorem dX3_fillShould_50 : decode cX3_fillShould 50 = .ok (.iastore, 1) := by decide +kernel
theorem dX3_fillShould_51 : decode cX3_fillShould 51 = .ok (.iinc 3 1, 3) := by decide +kernel
theorem dX3_fillShould_54 : decode cX3_fillShould 54 = .ok (.goto (-38), 3) := by decide +kernel
theorem dX3_fillShould_57 : decode cX3_fillShould 57 = .ok (.iinc 1 1, 3) := by decide +kernel
theorem dX3_fillShould_60 : decode cX3_fillShould 60 = .ok (.goto (-58), 3) := by decide +kernel
theorem dX3_fillShould_63 : decode cX3_fillShould 63 = .ok (.return_, 1) := by decide +kernel
theorem dX3_allBits_0 : decode cX3_allBits 0 = .ok (.aload_n 0, 1) := by decide +kernel
theorem dX3_allBits_1 : decode cX3_allBits 1 = .ok (.getfield 43, 3) := by decide +kernel
theorem dX3_allBits_4 : decode cX3_allBits 4 = .ok (.ireturn, 1) := by decide +kernel
theorem dX3_howMany_0 : decode cX3_howMany 0 = .ok (.aload_n 0, 1) := by decide +kernel
theorem dX3_howMany_1 : decode cX3_howMany 1 = .ok (.getfield 57, 3) := by decide +kernel
theorem dX3_howMany_4 : decode cX3_howMany 4 = .ok (.ireturn, 1) := by decide +kernel
theorem dX3_nth_0 : decode cX3_nth 0 = .ok (.iload_n 1, 1) := by decide +kernel
theorem dX3_nth_1 : decode cX3_nth 1 = .ok (.ifCond .lt 27, 3) := by decide +kernel
theorem dX3_nth_4 : decode cX3_nth 4 = .ok (.iload_n 1, 1) := by decide +kernel
theorem dX3_nth_5 : decode cX3_nth 5 = .ok (.aload_n 0, 1) := by decide +kernel
theorem dX3_nth_6 : decode cX3_nth 6 = .ok (.getfield 57, 3) := by decide +kernel
theorem dX3_nth_9 : decode cX3_nth 9 = .ok (.if_icmp .ge 19, 3) := by decide +kernel
theorem dX3_nth_12 : decode cX3_nth 12 = .ok (.iload_n 1, 1) := by decide +kernel
theorem dX3_nth_13 : decode cX3_nth 13 = .ok (.sipush 1024, 3) := by decide +kernel
theorem dX3_nth_16 : decode cX3_nth 16 = .ok (.if_icmp .ge 12, 3) := by decide +kernel
theorem dX3_nth_19 : decode cX3_nth 19 = .ok (.aload_n 0, 1) := by decide +kernel
theorem dX3_nth_20 : decode cX3_nth 20 = .ok (.getfield 15, 3) := by decide +kernel
theorem dX3_nth_23 : decode cX3_nth 23 = .ok (.iload_n 1, 1) := by decide +kernel
theorem dX3_nth_24 : decode cX3_nth 24 = .ok (.iaload, 1) := by decide +kernel
theorem dX3_nth_25 : decode cX3_nth 25 = .ok (.goto 4, 3) := by decide +kernel
theorem dX3_nth_28 : decode cX3_nth 28 = .ok (.iconst (-1), 1) := by decide +kernel
theorem dX3_nth_29 : decode cX3_nth 29 = .ok (.ireturn, 1) := by decide +kernel
theorem dX3_inAll_0 : decode cX3_inAll 0 = .ok (.aload_n 0, 1) := by decide +kernel
theorem dX3_inAll_1 : decode cX3_inAll 1 = .ok (.getfield 43, 3) := by decide +kernel
theorem dX3_inAll_4 : decode cX3_inAll 4 = .ok (.istore_n 1, 1) := by decide +kernel
theorem dX3_inAll_5 : decode cX3_inAll 5 = .ok (.iconst 0, 1) := by decide +kernel
theorem dX3_inAll_6 : decode cX3_inAll 6 = .ok (.istore_n 2, 1) := by decide +kernel
theorem dX3_inAll_7 : decode cX3_inAll 7 = .ok (.iload_n 2, 1) := by decide +kernel
theorem dX3_inAll_8 : decode cX3_inAll 8 = .ok (.aload_n 0, 1) := by decide +kernel
theorem dX3_inAll_9 : decode cX3_inAll 9 = .ok (.getfield 57, 3) := by decide +kernel
theorem dX3_inAll_12 : decode cX3_inAll 12 = .ok (.if_icmp .ge 18, 3) := by decide +kernel
theorem dX3_inAll_15 : decode cX3_inAll 15 = .ok (.iload_n 1, 1) := by decide +kernel
theorem dX3_inAll_16 : decode cX3_inAll 16 = .ok (.aload_n 0, 1) := by decide +kernel
theorem dX3_inAll_17 : decode cX3_inAll 17 = .ok (.getfield 15, 3) := by decide +kernel
theorem dX3_inAll_20 : decode cX3_inAll 20 = .ok (.iload_n 2, 1) := by decide +kernel
theorem dX3_inAll_21 : decode cX3_inAll 21 = .ok (.iaload, 1) := by decide +kernel
theorem dX3_inAll_22 : decode cX3_inAll 22 = .ok (.iand, 1) := by decide +kernel
theorem dX3_inAll_23 : decode cX3_inAll 23 = .ok (.istore_n 1, 1) := by decide +kernel
theorem dX3_inAll_24 : decode cX3_inAll 24 = .ok (.iinc 2 1, 3) := by decide +kernel
theorem dX3_inAll_27 : decode cX3_inAll 27 = .ok (.goto (-20), 3) := by decide +kernel
theorem dX3_inAll_30 : decode cX3_inAll 30 = .ok (.iload_n 1, 1) := by decide +kernel
theorem dX3_inAll_31 : decode cX3_inAll 31 = .ok (.ireturn, 1) := by decide +kernel
theorem dX3_inNone_0 : decode cX3_inNone 0 = .ok (.aload_n 0, 1) := by decide +kernel
theorem dX3_inNone_1 : decode cX3_inNone 1 = .ok (.getfield 43, 3) := by decide +kernel
theorem dX3_inNone_4 : decode cX3_inNone 4 = .ok (.istore_n 1, 1) := by decide +kernel
theorem dX3_inNone_5 : decode cX3_inNone 5 = .ok (.iconst 0, 1) := by decide +kernel
theorem dX3_inNone_6 : decode cX3_inNone 6 = .ok (.istore_n 2, 1) := by decide +kernel
theorem dX3_inNone_7 : decode cX3_inNone 7 = .ok (.iload_n 2, 1) := by decide +kernel
theorem dX3_inNone_8 : decode cX3_inNone 8 = .ok (.aload_n 0, 1) := by decide +kernel
theorem dX3_inNone_9 : decode cX3_inNone 9 = .ok (.getfield 57, 3) := by decide +kernel
theorem dX3_inNone_12 : decode cX3_inNone 12 = .ok (.if_icmp .ge 20, 3) := by decide +kernel
theorem dX3_inNone_15 : decode cX3_inNone 15 = .ok (.iload_n 1, 1) := by decide +kernel
theorem dX3_inNone_16 : decode cX3_inNone 16 = .ok (.aload_n 0, 1) := by decide +kernel
theorem dX3_inNone_17 : decode cX3_inNone 17 = .ok (.getfield 15, 3) := by decide +kernel
theorem dX3_inNone_20 : decode cX3_inNone 20 = .ok (.iload_n 2, 1) := by decide +kernel
theorem dX3_inNone_21 : decode cX3_inNone 21 = .ok (.iaload, 1) := by decide +kernel
theorem dX3_inNone_22 : decode cX3_inNone 22 = .ok (.iconst (-1), 1) := by decide +kernel
theorem dX3_inNone_23 : decode cX3_inNone 23 = .ok (.ixor, 1) := by decide +kernel
theorem dX3_inNone_24 : decode cX3_inNone 24 = .ok (.iand, 1) := by decide +kernel
theorem dX3_inNone_25 : decode cX3_inNone 25 = .ok (.istore_n 1, 1) := by decide +kernel
theorem dX3_inNone_26 : decode cX3_inNone 26 = .ok (.iinc 2 1, 3) := by decide +kernel
theorem dX3_inNone_29 : decode cX3_inNone 29 = .ok (.goto (-22), 3) := by decide +kernel
theorem dX3_inNone_32 : decode cX3_inNone 32 = .ok (.iload_n 1, 1) := by decide +kernel
theorem dX3_inNone_33 : decode cX3_inNone 33 = .ok (.ireturn, 1) := by decide +kernel
theorem dX3_fewestClashing_0 : decode cX3_fewestClashing 0 = .ok (.aload_n 0, 1) := by decide +kernel
theorem dX3_fewestClashing_1 : decode cX3_fewestClashing 1 = .ok (.getfield 57, 3) := by decide +kernel
theorem dX3_fewestClashing_4 : decode cX3_fewestClashing 4 = .ok (.ifCond .le 5, 3) := by decide +kernel
theorem dX3_fewestClashing_7 : decode cX3_fewestClashing 7 = .ok (.iconst (-1), 1) := by decide +kernel
theorem dX3_fewestClashing_8 : decode cX3_fewestClashing 8 = .ok (.ireturn, 1) := by decide +kernel
theorem dX3_fewestClashing_9 : decode cX3_fewestClashing 9 = .ok (.aload_n 0, 1) := by decide +kernel
theorem dX3_fewestClashing_10 : decode cX3_fewestClashing 10 = .ok (.invokevirtual 76, 3) := by decide +kernel
theorem dX3_fewestClashing_13 : decode cX3_fewestClashing 13 = .ok (.iconst (-1), 1) := by decide +kernel
theorem dX3_fewestClashing_14 : decode cX3_fewestClashing 14 = .ok (.istore_n 1, 1) := by decide +kernel
theorem dX3_fewestClashing_15 : decode cX3_fewestClashing 15 = .ok (.iconst 0, 1) := by decide +kernel
theorem dX3_fewestClashing_16 : decode cX3_fewestClashing 16 = .ok (.istore_n 2, 1) := by decide +kernel
theorem dX3_fewestClashing_17 : decode cX3_fewestClashing 17 = .ok (.iload_n 2, 1) := by decide +kernel
theorem dX3_fewestClashing_18 : decode cX3_fewestClashing 18 = .ok (.aload_n 0, 1) := by decide +kernel
theorem dX3_fewestClashing_19 : decode cX3_fewestClashing 19 = .ok (.getfield 43, 3) := by decide +kernel
theorem dX3_fewestClashing_22 : decode cX3_fewestClashing 22 = .ok (.if_icmp .gt 53, 3) := by decide +kernel
theorem dX3_fewestClashing_25 : decode cX3_fewestClashing 25 = .ok (.aload_n 0, 1) := by decide +kernel
theorem dX3_fewestClashing_26 : decode cX3_fewestClashing 26 = .ok (.getfield 18, 3) := by decide +kernel
theorem dX3_fewestClashing_29 : decode cX3_fewestClashing 29 = .ok (.aload_n 0, 1) := by decide +kernel
theorem dX3_fewestClashing_30 : decode cX3_fewestClashing 30 = .ok (.getfield 43, 3) := by decide +kernel
theorem dX3_fewestClashing_33 : decode cX3_fewestClashing 33 = .ok (.iload_n 2, 1) := by decide +kernel
theorem dX3_fewestClashing_34 : decode cX3_fewestClashing 34 = .ok (.iconst (-1), 1) := by decide +kernel
theorem dX3_fewestClashing_35 : decode cX3_fewestClashing 35 = .ok (.ixor, 1) := by decide +kernel
theorem dX3_fewestClashing_36 : decode cX3_fewestClashing 36 = .ok (.iand, 1) := by decide +kernel
theorem dX3_fewestClashing_37 : decode cX3_fewestClashing 37 = .ok (.iaload, 1) := by decide +kernel
theorem dX3_fewestClashing_38 : decode cX3_fewestClashing 38 = .ok (.ifCond .ne 7, 3) := by decide +kernel
theorem dX3_fewestClashing_41 : decode cX3_fewestClashing 41 = .ok (.iconst 1, 1) := by decide +kernel
theorem dX3_fewestClashing_42 : decode cX3_fewestClashing 42 = .ok (.goto 4, 3) := by decide +kernel
theorem dX3_fewestClashing_45 : decode cX3_fewestClashing 45 = .ok (.iconst 0, 1) := by decide +kernel
theorem dX3_fewestClashing_46 : decode cX3_fewestClashing 46 = .ok (.istore_n 3, 1) := by decide +kernel
theorem dX3_fewestClashing_47 : decode cX3_fewestClashing 47 = .ok (.iload_n 3, 1) := by decide +kernel
theorem dX3_fewestClashing_48 : decode cX3_fewestClashing 48 = .ok (.ifCond .eq 21, 3) := by decide +kernel
theorem dX3_fewestClashing_51 : decode cX3_fewestClashing 51 = .ok (.iload_n 1, 1) := by decide +kernel
theorem dX3_fewestClashing_52 : decode cX3_fewestClashing 52 = .ok (.iconst (-1), 1) := by decide +kernel
theorem dX3_fewestClashing_53 : decode cX3_fewestClashing 53 = .ok (.if_icmp .eq 14, 3) := by decide +kernel
theorem dX3_fewestClashing_56 : decode cX3_fewestClashing 56 = .ok (.iload_n 2, 1) := by decide +kernel
theorem dX3_fewestClashing_57 : decode cX3_fewestClashing 57 = .ok (.invokestatic 79, 3) := by decide +kernel
theorem dX3_fewestClashing_60 : decode cX3_fewestClashing 60 = .ok (.iload_n 1, 1) := by decide +kernel
theorem dX3_fewestClashing_61 : decode cX3_fewestClashing 61 = .ok (.invokestatic 79, 3) := by decide +kernel
theorem dX3_fewestClashing_64 : decode cX3_fewestClashing 64 = .ok (.if_icmp .ge 5, 3) := by decide +kernel
theorem dX3_fewestClashing_67 : decode cX3_fewestClashing 67 = .ok (.iload_n 2, 1) := by decide +kernel
theorem dX3_fewestClashing_68 : decode cX3_fewestClashing 68 = .ok (.istore_n 1, 1) := by decide +kernel
theorem dX3_fewestClashing_69 : decode cX3_fewestClashing 69 = .ok (.iinc 2 1, 3) := by decide +kernel
theorem dX3_fewestClashing_72 : decode cX3_fewestClashing 72 = .ok (.goto (-55), 3) := by decide +kernel
theorem dX3_fewestClashing_75 : decode cX3_fewestClashing 75 = .ok (.iload_n 1, 1) := by decide +kernel
theorem dX3_fewestClashing_76 : decode cX3_fewestClashing 76 = .ok (.ireturn, 1) := by decide +kernel
theorem dX3_markBreakable_0 : decode cX3_markBreakable 0 = .ok (.aload_n 0, 1) := by decide +kernel
theorem dX3_markBreakable_1 : decode cX3_markBreakable 1 = .ok (.iconst 0, 1) := by decide +kernel
theorem dX3_markBreakable_2 : decode cX3_markBreakable 2 = .ok (.invokevirtual 85, 3) := by decide +kernel
theorem dX3_markBreakable_5 : decode cX3_markBreakable 5 = .ok (.iconst 0, 1) := by decide +kernel
theorem dX3_markBreakable_6 : decode cX3_markBreakable 6 = .ok (.istore_n 1, 1) := by decide +kernel
theorem dX3_markBreakable_7 : decode cX3_markBreakable 7 = .ok (.iload_n 1, 1) := by decide +kernel
theorem dX3_markBreakable_8 : decode cX3_markBreakable 8 = .ok (.aload_n 0, 1) := by decide +kernel
theorem dX3_markBreakable_9 : decode cX3_markBreakable 9 = .ok (.getfield 43, 3) := by decide +kernel
theorem dX3_markBreakable_12 : decode cX3_markBreakable 12 = .ok (.if_icmp .gt 26, 3) := by decide +kernel
theorem dX3_markBreakable_15 : decode cX3_markBreakable 15 = .ok (.aload_n 0, 1) := by decide +kernel
theorem dX3_markBreakable_16 : decode cX3_markBreakable 16 = .ok (.getfield 18, 3) := by decide +kernel
theorem dX3_markBreakable_19 : decode cX3_markBreakable 19 = .ok (.aload_n 0, 1) := by decide +kernel
theorem dX3_markBreakable_20 : decode cX3_markBreakable 20 = .ok (.getfield 9, 3) := by decide +kernel
theorem dX3_markBreakable_23 : decode cX3_markBreakable 23 = .ok (.iload_n 1, 1) := by decide +kernel
theorem dX3_markBreakable_24 : decode cX3_markBreakable 24 = .ok (.iaload, 1) := by decide +kernel
theorem dX3_markBreakable_25 : decode cX3_markBreakable 25 = .ok (.aload_n 0, 1) := by decide +kernel
theorem dX3_markBreakable_26 : decode cX3_markBreakable 26 = .ok (.getfield 43, 3) := by decide +kernel
theorem dX3_markBreakable_29 : decode cX3_markBreakable 29 = .ok (.iand, 1) := by decide +kernel
theorem dX3_markBreakable_30 : decode cX3_markBreakable 30 = .ok (.iconst 1, 1) := by decide +kernel
theorem dX3_markBreakable_31 : decode cX3_markBreakable 31 = .ok (.iastore, 1) := by decide +kernel
theorem dX3_markBreakable_32 : decode cX3_markBreakable 32 = .ok (.iinc 1 1, 3) := by decide +kernel
theorem dX3_markBreakable_35 : decode cX3_markBreakable 35 = .ok (.goto (-28), 3) := by decide +kernel
theorem dX3_markBreakable_38 : decode cX3_markBreakable 38 = .ok (.iconst 0, 1) := by decide +kernel
theorem dX3_markBreakable_39 : decode cX3_markBreakable 39 = .ok (.istore_n 1, 1) := by decide +kernel
theorem dX3_markBreakable_40 : decode cX3_markBreakable 40 = .ok (.iload_n 1, 1) := by decide +kernel
theorem dX3_markBreakable_41 : decode cX3_markBreakable 41 = .ok (.aload_n 0, 1) := by decide +kernel
theorem dX3_markBreakable_42 : decode cX3_markBreakable 42 = .ok (.getfield 39, 3) := by decide +kernel
theorem dX3_markBreakable_45 : decode cX3_markBreakable 45 = .ok (.if_icmp .ge 56, 3) := by decide +kernel
theorem dX3_markBreakable_48 : decode cX3_markBreakable 48 = .ok (.iconst 1, 1) := by decide +kernel
theorem dX3_markBreakable_49 : decode cX3_markBreakable 49 = .ok (.iload_n 1, 1) := by decide +kernel
theorem dX3_markBreakable_50 : decode cX3_markBreakable 50 = .ok (.ishl, 1) := by decide +kernel
theorem dX3_markBreakable_51 : decode cX3_markBreakable 51 = .ok (.istore_n 2, 1) := by decide +kernel
theorem dX3_markBreakable_52 : decode cX3_markBreakable 52 = .ok (.iconst 0, 1) := by decide +kernel
theorem dX3_markBreakable_53 : decode cX3_markBreakable 53 = .ok (.istore_n 3, 1) := by decide +kernel
theorem dX3_markBreakable_54 : decode cX3_markBreakable 54 = .ok (.iload_n 3, 1) := by decide +kernel
theorem dX3_markBreakable_55 : decode cX3_markBreakable 55 = .ok (.aload_n 0, 1) := by decide +kernel
theorem dX3_markBreakable_56 : decode cX3_markBreakable 56 = .ok (.getfield 43, 3) := by decide +kernel
theorem dX3_markBreakable_59 : decode cX3_markBreakable 59 = .ok (.if_icmp .gt 36, 3) := by decide +kernel
theorem dX3_markBreakable_62 : decode cX3_markBreakable 62 = .ok (.iload_n 3, 1) := by decide +kernel
theorem dX3_markBreakable_63 : decode cX3_markBreakable 63 = .ok (.iload_n 2, 1) := by decide +kernel
theorem dX3_markBreakable_64 : decode cX3_markBreakable 64 = .ok (.iand, 1) := by decide +kernel
theorem dX3_markBreakable_65 : decode cX3_markBreakable 65 = .ok (.ifCond .eq 24, 3) := by decide +kernel
theorem dX3_markBreakable_68 : decode cX3_markBreakable 68 = .ok (.aload_n 0, 1) := by decide +kernel
theorem dX3_markBreakable_69 : decode cX3_markBreakable 69 = .ok (.getfield 18, 3) := by decide +kernel
theorem dX3_markBreakable_72 : decode cX3_markBreakable 72 = .ok (.iload_n 3, 1) := by decide +kernel
theorem dX3_markBreakable_73 : decode cX3_markBreakable 73 = .ok (.iload_n 2, 1) := by decide +kernel
theorem dX3_markBreakable_74 : decode cX3_markBreakable 74 = .ok (.iconst (-1), 1) := by decide +kernel
theorem dX3_markBreakable_75 : decode cX3_markBreakable 75 = .ok (.ixor, 1) := by decide +kernel
theorem dX3_markBreakable_76 : decode cX3_markBreakable 76 = .ok (.iand, 1) := by decide +kernel
theorem dX3_markBreakable_77 : decode cX3_markBreakable 77 = .ok (.iaload, 1) := by decide +kernel
theorem dX3_markBreakable_78 : decode cX3_markBreakable 78 = .ok (.iconst 1, 1) := by decide +kernel
theorem dX3_markBreakable_79 : decode cX3_markBreakable 79 = .ok (.if_icmp .ne 10, 3) := by decide +kernel
theorem dX3_markBreakable_82 : decode cX3_markBreakable 82 = .ok (.aload_n 0, 1) := by decide +kernel
theorem dX3_markBreakable_83 : decode cX3_markBreakable 83 = .ok (.getfield 18, 3) := by decide +kernel
theorem dX3_markBreakable_86 : decode cX3_markBreakable 86 = .ok (.iload_n 3, 1) := by decide +kernel
theorem dX3_markBreakable_87 : decode cX3_markBreakable 87 = .ok (.iconst 1, 1) := by decide +kernel
theorem dX3_markBreakable_88 : decode cX3_markBreakable 88 = .ok (.iastore, 1) := by decide +kernel
theorem dX3_markBreakable_89 : decode cX3_markBreakable 89 = .ok (.iinc 3 1, 3) := by decide +kernel
theorem dX3_markBreakable_92 : decode cX3_markBreakable 92 = .ok (.goto (-38), 3) := by decide +kernel
theorem dX3_markBreakable_95 : decode cX3_markBreakable 95 = .ok (.iinc 1 1, 3) := by decide +kernel
theorem dX3_markBreakable_98 : decode cX3_markBreakable 98 = .ok (.goto (-58), 3) := by decide +kernel
theorem dX3_markBreakable_101 : decode cX3_markBreakable 101 = .ok (.return_, 1) := by decide +kernel
theorem dX3_fewestBroken_0 : decode cX3_fewestBroken 0 = .ok (.aload_n 0, 1) := by decide +kernel
theorem dX3_fewestBroken_1 : decode cX3_fewestBroken 1 = .ok (.getfield 9, 3) := by decide +kernel
theorem dX3_fewestBroken_4 : decode cX3_fewestBroken 4 = .ok (.iconst 0, 1) := by decide +kernel
theorem dX3_fewestBroken_5 : decode cX3_fewestBroken 5 = .ok (.iaload, 1) := by decide +kernel
theorem dX3_fewestBroken_6 : decode cX3_fewestBroken 6 = .ok (.istore_n 1, 1) := by decide +kernel
theorem dX3_fewestBroken_7 : decode cX3_fewestBroken 7 = .ok (.iconst 1, 1) := by decide +kernel
theorem dX3_fewestBroken_8 : decode cX3_fewestBroken 8 = .ok (.istore_n 2, 1) := by decide +kernel
theorem dX3_fewestBroken_9 : decode cX3_fewestBroken 9 = .ok (.iload_n 2, 1) := by decide +kernel
theorem dX3_fewestBroken_10 : decode cX3_fewestBroken 10 = .ok (.aload_n 0, 1) := by decide +kernel
theorem dX3_fewestBroken_11 : decode cX3_fewestBroken 11 = .ok (.getfield 43, 3) := by decide +kernel
theorem dX3_fewestBroken_14 : decode cX3_fewestBroken 14 = .ok (.if_icmp .gt 49, 3) := by decide +kernel
theorem dX3_fewestBroken_17 : decode cX3_fewestBroken 17 = .ok (.aload_n 0, 1) := by decide +kernel
theorem dX3_fewestBroken_18 : decode cX3_fewestBroken 18 = .ok (.getfield 9, 3) := by decide +kernel
theorem dX3_fewestBroken_21 : decode cX3_fewestBroken 21 = .ok (.iload_n 2, 1) := by decide +kernel
theorem dX3_fewestBroken_22 : decode cX3_fewestBroken 22 = .ok (.iaload, 1) := by decide +kernel
theorem dX3_fewestBroken_23 : decode cX3_fewestBroken 23 = .ok (.invokestatic 79, 3) := by decide +kernel
theorem dX3_fewestBroken_26 : decode cX3_fewestBroken 26 = .ok (.iload_n 1, 1) := by decide +kernel
theorem dX3_fewestBroken_27 : decode cX3_fewestBroken 27 = .ok (.invokestatic 79, 3) := by decide +kernel
theorem dX3_fewestBroken_30 : decode cX3_fewestBroken 30 = .ok (.isub, 1) := by decide +kernel
theorem dX3_fewestBroken_31 : decode cX3_fewestBroken 31 = .ok (.istore_n 3, 1) := by decide +kernel
theorem dX3_fewestBroken_32 : decode cX3_fewestBroken 32 = .ok (.iload_n 3, 1) := by decide +kernel
theorem dX3_fewestBroken_33 : decode cX3_fewestBroken 33 = .ok (.ifCond .lt 17, 3) := by decide +kernel
theorem dX3_fewestBroken_36 : decode cX3_fewestBroken 36 = .ok (.iload_n 3, 1) := by decide +kernel
theorem dX3_fewestBroken_37 : decode cX3_fewestBroken 37 = .ok (.ifCond .ne 20, 3) := by decide +kernel
theorem dX3_fewestBroken_40 : decode cX3_fewestBroken 40 = .ok (.aload_n 0, 1) := by decide +kernel
theorem dX3_fewestBroken_41 : decode cX3_fewestBroken 41 = .ok (.getfield 9, 3) := by decide +kernel
theorem dX3_fewestBroken_44 : decode cX3_fewestBroken 44 = .ok (.iload_n 2, 1) := by decide +kernel
theorem dX3_fewestBroken_45 : decode cX3_fewestBroken 45 = .ok (.iaload, 1) := by decide +kernel
theorem dX3_fewestBroken_46 : decode cX3_fewestBroken 46 = .ok (.iload_n 1, 1) := by decide +kernel
theorem dX3_fewestBroken_47 : decode cX3_fewestBroken 47 = .ok (.if_icmp .ge 10, 3) := by decide +kernel
theorem dX3_fewestBroken_50 : decode cX3_fewestBroken 50 = .ok (.aload_n 0, 1) := by decide +kernel
theorem dX3_fewestBroken_51 : decode cX3_fewestBroken 51 = .ok (.getfield 9, 3) := by decide +kernel
theorem dX3_fewestBroken_54 : decode cX3_fewestBroken 54 = .ok (.iload_n 2, 1) := by decide +kernel
theorem dX3_fewestBroken_55 : decode cX3_fewestBroken 55 = .ok (.iaload, 1) := by decide +kernel
theorem dX3_fewestBroken_56 : decode cX3_fewestBroken 56 = .ok (.istore_n 1, 1) := by decide +kernel
theorem dX3_fewestBroken_57 : decode cX3_fewestBroken 57 = .ok (.iinc 2 1, 3) := by decide +kernel
theorem dX3_fewestBroken_60 : decode cX3_fewestBroken 60 = .ok (.goto (-51), 3) := by decide +kernel
theorem dX3_fewestBroken_63 : decode cX3_fewestBroken 63 = .ok (.iload_n 1, 1) := by decide +kernel
theorem dX3_fewestBroken_64 : decode cX3_fewestBroken 64 = .ok (.ireturn, 1) := by decide +kernel
theorem dX3_brokenBy_0 : decode cX3_brokenBy 0 = .ok (.aload_n 0, 1) := by decide +kernel
theorem dX3_brokenBy_1 : decode cX3_brokenBy 1 = .ok (.getfield 9, 3) := by decide +kernel
theorem dX3_brokenBy_4 : decode cX3_brokenBy 4 = .ok (.iload_n 1, 1) := by decide +kernel
theorem dX3_brokenBy_5 : decode cX3_brokenBy 5 = .ok (.aload_n 0, 1) := by decide +kernel
theorem dX3_brokenBy_6 : decode cX3_brokenBy 6 = .ok (.getfield 43, 3) := by decide +kernel
theorem dX3_brokenBy_9 : decode cX3_brokenBy 9 = .ok (.iand, 1) := by decide +kernel
theorem dX3_brokenBy_10 : decode cX3_brokenBy 10 = .ok (.iaload, 1) := by decide +kernel
theorem dX3_brokenBy_11 : decode cX3_brokenBy 11 = .ok (.ireturn, 1) := by decide +kernel
theorem dX3_closestTo_0 : decode cX3_closestTo 0 = .ok (.iconst (-1), 1) := by decide +kernel
theorem dX3_closestTo_1 : decode cX3_closestTo 1 = .ok (.istore_n 2, 1) := by decide +kernel
theorem dX3_closestTo_2 : decode cX3_closestTo 2 = .ok (.bipush 11, 2) := by decide +kernel
theorem dX3_closestTo_4 : decode cX3_closestTo 4 = .ok (.istore_n 3, 1) := by decide +kernel
theorem dX3_closestTo_5 : decode cX3_closestTo 5 = .ok (.iconst 0, 1) := by decide +kernel
theorem dX3_closestTo_6 : decode cX3_closestTo 6 = .ok (.istore 4, 2) := by decide +kernel
theorem dX3_closestTo_8 : decode cX3_closestTo 8 = .ok (.iload 4, 2) := by decide +kernel
theorem dX3_closestTo_10 : decode cX3_closestTo 10 = .ok (.aload_n 0, 1) := by decide +kernel
theorem dX3_closestTo_11 : decode cX3_closestTo 11 = .ok (.getfield 57, 3) := by decide +kernel
theorem dX3_closestTo_14 : decode cX3_closestTo 14 = .ok (.if_icmp .ge 45, 3) := by decide +kernel
theorem dX3_closestTo_17 : decode cX3_closestTo 17 = .ok (.aload_n 0, 1) := by decide +kernel
theorem dX3_closestTo_18 : decode cX3_closestTo 18 = .ok (.getfield 15, 3) := by decide +kernel
theorem dX3_closestTo_21 : decode cX3_closestTo 21 = .ok (.iload 4, 2) := by decide +kernel
theorem dX3_closestTo_23 : decode cX3_closestTo 23 = .ok (.iaload, 1) := by decide +kernel
theorem dX3_closestTo_24 : decode cX3_closestTo 24 = .ok (.iload_n 1, 1) := by decide +kernel
theorem dX3_closestTo_25 : decode cX3_closestTo 25 = .ok (.aload_n 0, 1) := by decide +kernel
theorem dX3_closestTo_26 : decode cX3_closestTo 26 = .ok (.getfield 43, 3) := by decide +kernel
theorem dX3_closestTo_29 : decode cX3_closestTo 29 = .ok (.iand, 1) := by decide +kernel
theorem dX3_closestTo_30 : decode cX3_closestTo 30 = .ok (.ixor, 1) := by decide +kernel
theorem dX3_closestTo_31 : decode cX3_closestTo 31 = .ok (.invokestatic 79, 3) := by decide +kernel
theorem dX3_closestTo_34 : decode cX3_closestTo 34 = .ok (.istore 5, 2) := by decide +kernel
theorem dX3_closestTo_36 : decode cX3_closestTo 36 = .ok (.iload 5, 2) := by decide +kernel
theorem dX3_closestTo_38 : decode cX3_closestTo 38 = .ok (.iload_n 3, 1) := by decide +kernel
theorem dX3_closestTo_39 : decode cX3_closestTo 39 = .ok (.if_icmp .ge 14, 3) := by decide +kernel
theorem dX3_closestTo_42 : decode cX3_closestTo 42 = .ok (.aload_n 0, 1) := by decide +kernel
theorem dX3_closestTo_43 : decode cX3_closestTo 43 = .ok (.getfield 15, 3) := by decide +kernel
theorem dX3_closestTo_46 : decode cX3_closestTo 46 = .ok (.iload 4, 2) := by decide +kernel
theorem dX3_closestTo_48 : decode cX3_closestTo 48 = .ok (.iaload, 1) := by decide +kernel
theorem dX3_closestTo_49 : decode cX3_closestTo 49 = .ok (.istore_n 2, 1) := by decide +kernel
theorem dX3_closestTo_50 : decode cX3_closestTo 50 = .ok (.iload 5, 2) := by decide +kernel
theorem dX3_closestTo_52 : decode cX3_closestTo 52 = .ok (.istore_n 3, 1) := by decide +kernel
theorem dX3_closestTo_53 : decode cX3_closestTo 53 = .ok (.iinc 4 1, 3) := by decide +kernel
theorem dX3_closestTo_56 : decode cX3_closestTo 56 = .ok (.goto (-48), 3) := by decide +kernel
theorem dX3_closestTo_59 : decode cX3_closestTo 59 = .ok (.iload_n 2, 1) := by decide +kernel
theorem dX3_closestTo_60 : decode cX3_closestTo 60 = .ok (.ireturn, 1) := by decide +kernel
theorem dX3_behindSteps_0 : decode cX3_behindSteps 0 = .ok (.iload_n 1, 1) := by decide +kernel
theorem dX3_behindSteps_1 : decode cX3_behindSteps 1 = .ok (.aload_n 0, 1) := by decide +kernel
theorem dX3_behindSteps_2 : decode cX3_behindSteps 2 = .ok (.getfield 43, 3) := by decide +kernel
theorem dX3_behindSteps_5 : decode cX3_behindSteps 5 = .ok (.iand, 1) := by decide +kernel
theorem dX3_behindSteps_6 : decode cX3_behindSteps 6 = .ok (.istore_n 3, 1) := by decide +kernel
theorem dX3_behindSteps_7 : decode cX3_behindSteps 7 = .ok (.iconst 0, 1) := by decide +kernel
theorem dX3_behindSteps_8 : decode cX3_behindSteps 8 = .ok (.istore 4, 2) := by decide +kernel
theorem dX3_behindSteps_10 : decode cX3_behindSteps 10 = .ok (.iload 4, 2) := by decide +kernel
theorem dX3_behindSteps_12 : decode cX3_behindSteps 12 = .ok (.iload_n 2, 1) := by decide +kernel
theorem dX3_behindSteps_13 : decode cX3_behindSteps 13 = .ok (.if_icmp .ge 18, 3) := by decide +kernel
theorem dX3_behindSteps_16 : decode cX3_behindSteps 16 = .ok (.iload_n 3, 1) := by decide +kernel
theorem dX3_behindSteps_17 : decode cX3_behindSteps 17 = .ok (.aload_n 0, 1) := by decide +kernel
theorem dX3_behindSteps_18 : decode cX3_behindSteps 18 = .ok (.getfield 9, 3) := by decide +kernel
theorem dX3_behindSteps_21 : decode cX3_behindSteps 21 = .ok (.iload_n 3, 1) := by decide +kernel
theorem dX3_behindSteps_22 : decode cX3_behindSteps 22 = .ok (.iaload, 1) := by decide +kernel
theorem dX3_behindSteps_23 : decode cX3_behindSteps 23 = .ok (.ixor, 1) := by decide +kernel
theorem dX3_behindSteps_24 : decode cX3_behindSteps 24 = .ok (.istore_n 3, 1) := by decide +kernel
theorem dX3_behindSteps_25 : decode cX3_behindSteps 25 = .ok (.iinc 4 1, 3) := by decide +kernel
theorem dX3_behindSteps_28 : decode cX3_behindSteps 28 = .ok (.goto (-18), 3) := by decide +kernel
theorem dX3_behindSteps_31 : decode cX3_behindSteps 31 = .ok (.iload_n 3, 1) := by decide +kernel
theorem dX3_behindSteps_32 : decode cX3_behindSteps 32 = .ok (.ireturn, 1) := by decide +kernel
theorem dX3_stepsToReturn_0 : decode cX3_stepsToReturn 0 = .ok (.aload_n 0, 1) := by decide +kernel
theorem dX3_stepsToReturn_1 : decode cX3_stepsToReturn 1 = .ok (.iconst (-1), 1) := by decide +kernel
theorem dX3_stepsToReturn_2 : decode cX3_stepsToReturn 2 = .ok (.invokevirtual 85, 3) := by decide +kernel
theorem dX3_stepsToReturn_5 : decode cX3_stepsToReturn 5 = .ok (.iload_n 1, 1) := by decide +kernel
theorem dX3_stepsToReturn_6 : decode cX3_stepsToReturn 6 = .ok (.aload_n 0, 1) := by decide +kernel
theorem dX3_stepsToReturn_7 : decode cX3_stepsToReturn 7 = .ok (.getfield 43, 3) := by decide +kernel
theorem dX3_stepsToReturn_10 : decode cX3_stepsToReturn 10 = .ok (.iand, 1) := by decide +kernel
theorem dX3_stepsToReturn_11 : decode cX3_stepsToReturn 11 = .ok (.istore_n 3, 1) := by decide +kernel
theorem dX3_stepsToReturn_12 : decode cX3_stepsToReturn 12 = .ok (.iconst 0, 1) := by decide +kernel
theorem dX3_stepsToReturn_13 : decode cX3_stepsToReturn 13 = .ok (.istore 4, 2) := by decide +kernel
theorem dX3_stepsToReturn_15 : decode cX3_stepsToReturn 15 = .ok (.iload 4, 2) := by decide +kernel
theorem dX3_stepsToReturn_17 : decode cX3_stepsToReturn 17 = .ok (.sipush 1024, 3) := by decide +kernel
theorem dX3_stepsToReturn_20 : decode cX3_stepsToReturn 20 = .ok (.if_icmp .gt 36, 3) := by decide +kernel
theorem dX3_stepsToReturn_23 : decode cX3_stepsToReturn 23 = .ok (.aload_n 0, 1) := by decide +kernel
theorem dX3_stepsToReturn_24 : decode cX3_stepsToReturn 24 = .ok (.getfield 18, 3) := by decide +kernel
theorem dX3_stepsToReturn_27 : decode cX3_stepsToReturn 27 = .ok (.iload_n 3, 1) := by decide +kernel
theorem dX3_stepsToReturn_28 : decode cX3_stepsToReturn 28 = .ok (.iaload, 1) := by decide +kernel
theorem dX3_stepsToReturn_29 : decode cX3_stepsToReturn 29 = .ok (.iconst (-1), 1) := by decide +kernel
theorem dX3_stepsToReturn_30 : decode cX3_stepsToReturn 30 = .ok (.if_icmp .ne 26, 3) := by decide +kernel
theorem dX3_stepsToReturn_33 : decode cX3_stepsToReturn 33 = .ok (.aload_n 0, 1) := by decide +kernel
theorem dX3_stepsToReturn_34 : decode cX3_stepsToReturn 34 = .ok (.getfield 18, 3) := by decide +kernel
theorem dX3_stepsToReturn_37 : decode cX3_stepsToReturn 37 = .ok (.iload_n 3, 1) := by decide +kernel
theorem dX3_stepsToReturn_38 : decode cX3_stepsToReturn 38 = .ok (.iload 4, 2) := by decide +kernel
theorem dX3_stepsToReturn_40 : decode cX3_stepsToReturn 40 = .ok (.iastore, 1) := by decide +kernel
theorem dX3_stepsToReturn_41 : decode cX3_stepsToReturn 41 = .ok (.iload_n 3, 1) := by decide +kernel
theorem dX3_stepsToReturn_42 : decode cX3_stepsToReturn 42 = .ok (.aload_n 0, 1) := by decide +kernel
theorem dX3_stepsToReturn_43 : decode cX3_stepsToReturn 43 = .ok (.getfield 9, 3) := by decide +kernel
theorem dX3_stepsToReturn_46 : decode cX3_stepsToReturn 46 = .ok (.iload_n 3, 1) := by decide +kernel
theorem dX3_stepsToReturn_47 : decode cX3_stepsToReturn 47 = .ok (.iaload, 1) := by decide +kernel
theorem dX3_stepsToReturn_48 : decode cX3_stepsToReturn 48 = .ok (.ixor, 1) := by decide +kernel
theorem dX3_stepsToReturn_49 : decode cX3_stepsToReturn 49 = .ok (.istore_n 3, 1) := by decide +kernel
theorem dX3_stepsToReturn_50 : decode cX3_stepsToReturn 50 = .ok (.iinc 4 1, 3) := by decide +kernel
theorem dX3_stepsToReturn_53 : decode cX3_stepsToReturn 53 = .ok (.goto (-38), 3) := by decide +kernel
theorem dX3_stepsToReturn_56 : decode cX3_stepsToReturn 56 = .ok (.iload_n 2, 1) := by decide +kernel
theorem dX3_stepsToReturn_57 : decode cX3_stepsToReturn 57 = .ok (.ifCond .eq 15, 3) := by decide +kernel
theorem dX3_stepsToReturn_60 : decode cX3_stepsToReturn 60 = .ok (.iload 4, 2) := by decide +kernel
theorem dX3_stepsToReturn_62 : decode cX3_stepsToReturn 62 = .ok (.aload_n 0, 1) := by decide +kernel
theorem dX3_stepsToReturn_63 : decode cX3_stepsToReturn 63 = .ok (.getfield 18, 3) := by decide +kernel
theorem dX3_stepsToReturn_66 : decode cX3_stepsToReturn 66 = .ok (.iload_n 3, 1) := by decide +kernel
theorem dX3_stepsToReturn_67 : decode cX3_stepsToReturn 67 = .ok (.iaload, 1) := by decide +kernel
theorem dX3_stepsToReturn_68 : decode cX3_stepsToReturn 68 = .ok (.isub, 1) := by decide +kernel
theorem dX3_stepsToReturn_69 : decode cX3_stepsToReturn 69 = .ok (.goto 5, 3) := by decide +kernel
theorem dX3_stepsToReturn_72 : decode cX3_stepsToReturn 72 = .ok (.iload 4, 2) := by decide +kernel
theorem dX3_stepsToReturn_74 : decode cX3_stepsToReturn 74 = .ok (.ireturn, 1) := by decide +kernel
theorem dX3_fillMarks_0 : decode cX3_fillMarks 0 = .ok (.iconst 0, 1) := by decide +kernel
theorem dX3_fillMarks_1 : decode cX3_fillMarks 1 = .ok (.istore_n 2, 1) := by decide +kernel
theorem dX3_fillMarks_2 : decode cX3_fillMarks 2 = .ok (.iload_n 2, 1) := by decide +kernel
theorem dX3_fillMarks_3 : decode cX3_fillMarks 3 = .ok (.aload_n 0, 1) := by decide +kernel
theorem dX3_fillMarks_4 : decode cX3_fillMarks 4 = .ok (.getfield 43, 3) := by decide +kernel
theorem dX3_fillMarks_7 : decode cX3_fillMarks 7 = .ok (.if_icmp .gt 16, 3) := by decide +kernel
theorem dX3_fillMarks_10 : decode cX3_fillMarks 10 = .ok (.aload_n 0, 1) := by decide +kernel
theorem dX3_fillMarks_11 : decode cX3_fillMarks 11 = .ok (.getfield 18, 3) := by decide +kernel
theorem dX3_fillMarks_14 : decode cX3_fillMarks 14 = .ok (.iload_n 2, 1) := by decide +kernel
theorem dX3_fillMarks_15 : decode cX3_fillMarks 15 = .ok (.iload_n 1, 1) := by decide +kernel
theorem dX3_fillMarks_16 : decode cX3_fillMarks 16 = .ok (.iastore, 1) := by decide +kernel
theorem dX3_fillMarks_17 : decode cX3_fillMarks 17 = .ok (.iinc 2 1, 3) := by decide +kernel
theorem dX3_fillMarks_20 : decode cX3_fillMarks 20 = .ok (.goto (-18), 3) := by decide +kernel
theorem dX3_fillMarks_23 : decode cX3_fillMarks 23 = .ok (.return_, 1) := by decide +kernel
theorem dX3_hangingOn_0 : decode cX3_hangingOn 0 = .ok (.iconst 0, 1) := by decide +kernel
theorem dX3_hangingOn_1 : decode cX3_hangingOn 1 = .ok (.istore_n 2, 1) := by decide +kernel
theorem dX3_hangingOn_2 : decode cX3_hangingOn 2 = .ok (.iload_n 1, 1) := by decide +kernel
theorem dX3_hangingOn_3 : decode cX3_hangingOn 3 = .ok (.istore_n 3, 1) := by decide +kernel
theorem dX3_hangingOn_4 : decode cX3_hangingOn 4 = .ok (.iconst 0, 1) := by decide +kernel
theorem dX3_hangingOn_5 : decode cX3_hangingOn 5 = .ok (.istore 4, 2) := by decide +kernel
theorem dX3_hangingOn_7 : decode cX3_hangingOn 7 = .ok (.iload 4, 2) := by decide +kernel
theorem dX3_hangingOn_9 : decode cX3_hangingOn 9 = .ok (.aload_n 0, 1) := by decide +kernel
theorem dX3_hangingOn_10 : decode cX3_hangingOn 10 = .ok (.getfield 39, 3) := by decide +kernel
theorem dX3_hangingOn_13 : decode cX3_hangingOn 13 = .ok (.if_icmp .ge 38, 3) := by decide +kernel
theorem dX3_hangingOn_16 : decode cX3_hangingOn 16 = .ok (.iload_n 3, 1) := by decide +kernel
theorem dX3_hangingOn_17 : decode cX3_hangingOn 17 = .ok (.ifCond .lt 34, 3) := by decide +kernel
theorem dX3_hangingOn_20 : decode cX3_hangingOn 20 = .ok (.iload_n 3, 1) := by decide +kernel
theorem dX3_hangingOn_21 : decode cX3_hangingOn 21 = .ok (.aload_n 0, 1) := by decide +kernel
theorem dX3_hangingOn_22 : decode cX3_hangingOn 22 = .ok (.getfield 39, 3) := by decide +kernel
theorem dX3_hangingOn_25 : decode cX3_hangingOn 25 = .ok (.if_icmp .ge 26, 3) := by decide +kernel
theorem dX3_hangingOn_28 : decode cX3_hangingOn 28 = .ok (.aload_n 0, 1) := by decide +kernel
theorem dX3_hangingOn_29 : decode cX3_hangingOn 29 = .ok (.getfield 21, 3) := by decide +kernel
theorem dX3_hangingOn_32 : decode cX3_hangingOn 32 = .ok (.iload_n 3, 1) := by decide +kernel
theorem dX3_hangingOn_33 : decode cX3_hangingOn 33 = .ok (.iaload, 1) := by decide +kernel
theorem dX3_hangingOn_34 : decode cX3_hangingOn 34 = .ok (.istore_n 3, 1) := by decide +kernel
theorem dX3_hangingOn_35 : decode cX3_hangingOn 35 = .ok (.iload_n 3, 1) := by decide +kernel
theorem dX3_hangingOn_36 : decode cX3_hangingOn 36 = .ok (.ifCond .lt 9, 3) := by decide +kernel
theorem dX3_hangingOn_39 : decode cX3_hangingOn 39 = .ok (.iload_n 2, 1) := by decide +kernel
theorem dX3_hangingOn_40 : decode cX3_hangingOn 40 = .ok (.iconst 1, 1) := by decide +kernel
theorem dX3_hangingOn_41 : decode cX3_hangingOn 41 = .ok (.iload_n 3, 1) := by decide +kernel
theorem dX3_hangingOn_42 : decode cX3_hangingOn 42 = .ok (.ishl, 1) := by decide +kernel
theorem dX3_hangingOn_43 : decode cX3_hangingOn 43 = .ok (.ior, 1) := by decide +kernel
theorem dX3_hangingOn_44 : decode cX3_hangingOn 44 = .ok (.istore_n 2, 1) := by decide +kernel
theorem dX3_hangingOn_45 : decode cX3_hangingOn 45 = .ok (.iinc 4 1, 3) := by decide +kernel
theorem dX3_hangingOn_48 : decode cX3_hangingOn 48 = .ok (.goto (-41), 3) := by decide +kernel
theorem dX3_hangingOn_51 : decode cX3_hangingOn 51 = .ok (.iload_n 2, 1) := by decide +kernel
theorem dX3_hangingOn_52 : decode cX3_hangingOn 52 = .ok (.ireturn, 1) := by decide +kernel
theorem dX3_inRings_0 : decode cX3_inRings 0 = .ok (.iconst 0, 1) := by decide +kernel
theorem dX3_inRings_1 : decode cX3_inRings 1 = .ok (.istore_n 1, 1) := by decide +kernel
theorem dX3_inRings_2 : decode cX3_inRings 2 = .ok (.iconst 0, 1) := by decide +kernel
theorem dX3_inRings_3 : decode cX3_inRings 3 = .ok (.istore_n 2, 1) := by decide +kernel
theorem dX3_inRings_4 : decode cX3_inRings 4 = .ok (.iload_n 2, 1) := by decide +kernel
theorem dX3_inRings_5 : decode cX3_inRings 5 = .ok (.aload_n 0, 1) := by decide +kernel
theorem dX3_inRings_6 : decode cX3_inRings 6 = .ok (.getfield 39, 3) := by decide +kernel
theorem dX3_inRings_9 : decode cX3_inRings 9 = .ok (.if_icmp .ge 21, 3) := by decide +kernel
theorem dX3_inRings_12 : decode cX3_inRings 12 = .ok (.iload_n 1, 1) := by decide +kernel
theorem dX3_inRings_13 : decode cX3_inRings 13 = .ok (.aload_n 0, 1) := by decide +kernel
theorem dX3_inRings_14 : decode cX3_inRings 14 = .ok (.iload_n 2, 1) := by decide +kernel
theorem dX3_inRings_15 : decode cX3_inRings 15 = .ok (.invokevirtual 89, 3) := by decide +kernel
theorem dX3_inRings_18 : decode cX3_inRings 18 = .ok (.iconst 1, 1) := by decide +kernel
theorem dX3_inRings_19 : decode cX3_inRings 19 = .ok (.iload_n 2, 1) := by decide +kernel
theorem dX3_inRings_20 : decode cX3_inRings 20 = .ok (.ishl, 1) := by decide +kernel
theorem dX3_inRings_21 : decode cX3_inRings 21 = .ok (.iand, 1) := by decide +kernel
theorem dX3_inRings_22 : decode cX3_inRings 22 = .ok (.ior, 1) := by decide +kernel
theorem dX3_inRings_23 : decode cX3_inRings 23 = .ok (.istore_n 1, 1) := by decide +kernel
theorem dX3_inRings_24 : decode cX3_inRings 24 = .ok (.iinc 2 1, 3) := by decide +kernel
theorem dX3_inRings_27 : decode cX3_inRings 27 = .ok (.goto (-23), 3) := by decide +kernel
theorem dX3_inRings_30 : decode cX3_inRings 30 = .ok (.iload_n 1, 1) := by decide +kernel
theorem dX3_inRings_31 : decode cX3_inRings 31 = .ok (.ireturn, 1) := by decide +kernel
theorem dX4_init_0 : decode cX4_init 0 = .ok (.aload_n 0, 1) := by decide +kernel
theorem dX4_init_1 : decode cX4_init 1 = .ok (.invokespecial 3, 3) := by decide +kernel
theorem dX4_init_4 : decode cX4_init 4 = .ok (.return_, 1) := by decide +kernel
theorem dX4_howMany_0 : decode cX4_howMany 0 = .ok (.aload_n 0, 1) := by decide +kernel
theorem dX4_howMany_1 : decode cX4_howMany 1 = .ok (.getfield 9, 3) := by decide +kernel
theorem dX4_howMany_4 : decode cX4_howMany 4 = .ok (.ireturn, 1) := by decide +kernel
theorem dX4_isFull_0 : decode cX4_isFull 0 = .ok (.aload_n 0, 1) := by decide +kernel
theorem dX4_isFull_1 : decode cX4_isFull 1 = .ok (.getfield 9, 3) := by decide +kernel
theorem dX4_isFull_4 : decode cX4_isFull 4 = .ok (.bipush 8, 2) := by decide +kernel
theorem dX4_isFull_6 : decode cX4_isFull 6 = .ok (.if_icmp .lt 7, 3) := by decide +kernel
theorem dX4_isFull_9 : decode cX4_isFull 9 = .ok (.iconst 1, 1) := by decide +kernel
theorem dX4_isFull_10 : decode cX4_isFull 10 = .ok (.goto 4, 3) := by decide +kernel
theorem dX4_isFull_13 : decode cX4_isFull 13 = .ok (.iconst 0, 1) := by decide +kernel
theorem dX4_isFull_14 : decode cX4_isFull 14 = .ok (.ireturn, 1) := by decide +kernel
theorem dX4_add_0 : decode cX4_add 0 = .ok (.iload_n 2, 1) := by decide +kernel
theorem dX4_add_1 : decode cX4_add 1 = .ok (.iconst 1, 1) := by decide +kernel
theorem dX4_add_2 : decode cX4_add 2 = .ok (.if_icmp .ne 18, 3) := by decide +kernel
theorem dX4_add_5 : decode cX4_add 5 = .ok (.aload_n 0, 1) := by decide +kernel
theorem dX4_add_6 : decode cX4_add 6 = .ok (.dup, 1) := by decide +kernel
theorem dX4_add_7 : decode cX4_add 7 = .ok (.getfield 15, 3) := by decide +kernel
theorem dX4_add_10 : decode cX4_add 10 = .ok (.iconst 1, 1) := by decide +kernel
theorem dX4_add_11 : decode cX4_add 11 = .ok (.iload_n 1, 1) := by decide +kernel
theorem dX4_add_12 : decode cX4_add 12 = .ok (.ishl, 1) := by decide +kernel
theorem dX4_add_13 : decode cX4_add 13 = .ok (.ior, 1) := by decide +kernel
theorem dX4_add_14 : decode cX4_add 14 = .ok (.putfield 15, 3) := by decide +kernel
theorem dX4_add_17 : decode cX4_add 17 = .ok (.goto 15, 3) := by decide +kernel
theorem dX4_add_20 : decode cX4_add 20 = .ok (.aload_n 0, 1) := by decide +kernel
theorem dX4_add_21 : decode cX4_add 21 = .ok (.dup, 1) := by decide +kernel
theorem dX4_add_22 : decode cX4_add 22 = .ok (.getfield 18, 3) := by decide +kernel
theorem dX4_add_25 : decode cX4_add 25 = .ok (.iconst 1, 1) := by decide +kernel
theorem dX4_add_26 : decode cX4_add 26 = .ok (.iload_n 1, 1) := by decide +kernel
theorem dX4_add_27 : decode cX4_add 27 = .ok (.ishl, 1) := by decide +kernel
theorem dX4_add_28 : decode cX4_add 28 = .ok (.ior, 1) := by decide +kernel
theorem dX4_add_29 : decode cX4_add 29 = .ok (.putfield 18, 3) := by decide +kernel
theorem dX4_add_32 : decode cX4_add 32 = .ok (.aload_n 0, 1) := by decide +kernel
theorem dX4_add_33 : decode cX4_add 33 = .ok (.dup, 1) := by decide +kernel
theorem dX4_add_34 : decode cX4_add 34 = .ok (.getfield 9, 3) := by decide +kernel
theorem dX4_add_37 : decode cX4_add 37 = .ok (.iconst 1, 1) := by decide +kernel
theorem dX4_add_38 : decode cX4_add 38 = .ok (.iadd, 1) := by decide +kernel
theorem dX4_add_39 : decode cX4_add 39 = .ok (.putfield 9, 3) := by decide +kernel
theorem dX4_add_42 : decode cX4_add 42 = .ok (.return_, 1) := by decide +kernel
theorem dX4_clearAll_0 : decode cX4_clearAll 0 = .ok (.aload_n 0, 1) := by decide +kernel
theorem dX4_clearAll_1 : decode cX4_clearAll 1 = .ok (.iconst 0, 1) := by decide +kernel
theorem dX4_clearAll_2 : decode cX4_clearAll 2 = .ok (.putfield 9, 3) := by decide +kernel
theorem dX4_clearAll_5 : decode cX4_clearAll 5 = .ok (.aload_n 0, 1) := by decide +kernel
theorem dX4_clearAll_6 : decode cX4_clearAll 6 = .ok (.iconst 0, 1) := by decide +kernel
theorem dX4_clearAll_7 : decode cX4_clearAll 7 = .ok (.putfield 15, 3) := by decide +kernel
theorem dX4_clearAll_10 : decode cX4_clearAll 10 = .ok (.aload_n 0, 1) := by decide +kernel
theorem dX4_clearAll_11 : decode cX4_clearAll 11 = .ok (.iconst 0, 1) := by decide +kernel
theorem dX4_clearAll_12 : decode cX4_clearAll 12 = .ok (.putfield 18, 3) := by decide +kernel
theorem dX4_clearAll_15 : decode cX4_clearAll 15 = .ok (.return_, 1) := by decide +kernel
theorem dX4_agreesWith_0 : decode cX4_agreesWith 0 = .ok (.iload_n 1, 1) := by decide +kernel
theorem dX4_agreesWith_1 : decode cX4_agreesWith 1 = .ok (.aload_n 0, 1) := by decide +kernel
theorem dX4_agreesWith_2 : decode cX4_agreesWith 2 = .ok (.getfield 15, 3) := by decide +kernel
theorem dX4_agreesWith_5 : decode cX4_agreesWith 5 = .ok (.iand, 1) := by decide +kernel
theorem dX4_agreesWith_6 : decode cX4_agreesWith 6 = .ok (.aload_n 0, 1) := by decide +kernel
theorem dX4_agreesWith_7 : decode cX4_agreesWith 7 = .ok (.getfield 15, 3) := by decide +kernel
theorem dX4_agreesWith_10 : decode cX4_agreesWith 10 = .ok (.if_icmp .ne 16, 3) := by decide +kernel
theorem dX4_agreesWith_13 : decode cX4_agreesWith 13 = .ok (.iload_n 1, 1) := by decide +kernel
theorem dX4_agreesWith_14 : decode cX4_agreesWith 14 = .ok (.aload_n 0, 1) := by decide +kernel
theorem dX4_agreesWith_15 : decode cX4_agreesWith 15 = .ok (.getfield 18, 3) := by decide +kernel
theorem dX4_agreesWith_18 : decode cX4_agreesWith 18 = .ok (.iand, 1) := by decide +kernel
theorem dX4_agreesWith_19 : decode cX4_agreesWith 19 = .ok (.ifCond .ne 7, 3) := by decide +kernel
theorem dX4_agreesWith_22 : decode cX4_agreesWith 22 = .ok (.iconst 1, 1) := by decide +kernel
theorem dX4_agreesWith_23 : decode cX4_agreesWith 23 = .ok (.goto 4, 3) := by decide +kernel
theorem dX4_agreesWith_26 : decode cX4_agreesWith 26 = .ok (.iconst 0, 1) := by decide +kernel
theorem dX4_agreesWith_27 : decode cX4_agreesWith 27 = .ok (.ireturn, 1) := by decide +kernel
theorem dX5_init_0 : decode cX5_init 0 = .ok (.aload_n 0, 1) := by decide +kernel
theorem dX5_init_1 : decode cX5_init 1 = .ok (.invokespecial 3, 3) := by decide +kernel
theorem dX5_init_4 : decode cX5_init 4 = .ok (.aload_n 0, 1) := by decide +kernel
theorem dX5_init_5 : decode cX5_init 5 = .ok (.bipush 48, 2) := by decide +kernel
theorem dX5_init_7 : decode cX5_init 7 = .ok (.newarray .int, 2) := by decide +kernel
theorem dX5_init_9 : decode cX5_init 9 = .ok (.putfield 9, 3) := by decide +kernel
theorem dX5_init_12 : decode cX5_init 12 = .ok (.aload_n 0, 1) := by decide +kernel
theorem dX5_init_13 : decode cX5_init 13 = .ok (.iconst (-1), 1) := by decide +kernel
theorem dX5_init_14 : decode cX5_init 14 = .ok (.putfield 15, 3) := by decide +kernel
theorem dX5_init_17 : decode cX5_init 17 = .ok (.return_, 1) := by decide +kernel
theorem dX5_isLost_0 : decode cX5_isLost 0 = .ok (.aload_n 0, 1) := by decide +kernel
theorem dX5_isLost_1 : decode cX5_isLost 1 = .ok (.getfield 15, 3) := by decide +kernel
theorem dX5_isLost_4 : decode cX5_isLost 4 = .ok (.iconst (-1), 1) := by decide +kernel
theorem dX5_isLost_5 : decode cX5_isLost 5 = .ok (.if_icmp .ne 7, 3) := by decide +kernel
theorem dX5_isLost_8 : decode cX5_isLost 8 = .ok (.iconst 1, 1) := by decide +kernel
theorem dX5_isLost_9 : decode cX5_isLost 9 = .ok (.goto 4, 3) := by decide +kernel
theorem dX5_isLost_12 : decode cX5_isLost 12 = .ok (.iconst 0, 1) := by decide +kernel
theorem dX5_isLost_13 : decode cX5_isLost 13 = .ok (.ireturn, 1) := by decide +kernel
theorem dX5_form_0 : decode cX5_form 0 = .ok (.aload_n 0, 1) := by decide +kernel
theorem dX5_form_1 : decode cX5_form 1 = .ok (.getfield 15, 3) := by decide +kernel
theorem dX5_form_4 : decode cX5_form 4 = .ok (.ireturn, 1) := by decide +kernel
theorem dX5_length_0 : decode cX5_length 0 = .ok (.aload_n 0, 1) := by decide +kernel
theorem dX5_length_1 : decode cX5_length 1 = .ok (.getfield 19, 3) := by decide +kernel
theorem dX5_length_4 : decode cX5_length 4 = .ok (.ireturn, 1) := by decide +kernel
theorem dX5_begin_0 : decode cX5_begin 0 = .ok (.aload_n 0, 1) := by decide +kernel
theorem dX5_begin_1 : decode cX5_begin 1 = .ok (.iload_n 1, 1) := by decide +kernel
theorem dX5_begin_2 : decode cX5_begin 2 = .ok (.putfield 15, 3) := by decide +kernel
theorem dX5_begin_5 : decode cX5_begin 5 = .ok (.aload_n 0, 1) := by decide +kernel
theorem dX5_begin_6 : decode cX5_begin 6 = .ok (.iconst 0, 1) := by decide +kernel
theorem dX5_begin_7 : decode cX5_begin 7 = .ok (.iload_n 2, 1) := by decide +kernel
theorem dX5_begin_8 : decode cX5_begin 8 = .ok (.bipush 48, 2) := by decide +kernel
theorem dX5_begin_10 : decode cX5_begin 10 = .ok (.invokestatic 22, 3) := by decide +kernel
theorem dX5_begin_13 : decode cX5_begin 13 = .ok (.invokestatic 28, 3) := by decide +kernel
theorem dX5_begin_16 : decode cX5_begin 16 = .ok (.putfield 19, 3) := by decide +kernel
theorem dX5_begin_19 : decode cX5_begin 19 = .ok (.aload_n 0, 1) := by decide +kernel
theorem dX5_begin_20 : decode cX5_begin 20 = .ok (.getfield 9, 3) := by decide +kernel
theorem dX5_begin_23 : decode cX5_begin 23 = .ok (.iconst 0, 1) := by decide +kernel
theorem dX5_begin_24 : decode cX5_begin 24 = .ok (.invokestatic 31, 3) := by decide +kernel
theorem dX5_begin_27 : decode cX5_begin 27 = .ok (.return_, 1) := by decide +kernel
theorem dX5_becomeLost_0 : decode cX5_becomeLost 0 = .ok (.aload_n 0, 1) := by decide +kernel
theorem dX5_becomeLost_1 : decode cX5_becomeLost 1 = .ok (.iconst (-1), 1) := by decide +kernel
theorem dX5_becomeLost_2 : decode cX5_becomeLost 2 = .ok (.putfield 15, 3) := by decide +kernel
theorem dX5_becomeLost_5 : decode cX5_becomeLost 5 = .ok (.aload_n 0, 1) := by decide +kernel
theorem dX5_becomeLost_6 : decode cX5_becomeLost 6 = .ok (.iconst 0, 1) := by decide +kernel
theorem dX5_becomeLost_7 : decode cX5_becomeLost 7 = .ok (.putfield 19, 3) := by decide +kernel
theorem dX5_becomeLost_10 : decode cX5_becomeLost 10 = .ok (.return_, 1) := by decide +kernel
theorem dX5_item_0 : decode cX5_item 0 = .ok (.iload_n 1, 1) := by decide +kernel
theorem dX5_item_1 : decode cX5_item 1 = .ok (.ifCond .lt 26, 3) := by decide +kernel
theorem dX5_item_4 : decode cX5_item 4 = .ok (.iload_n 1, 1) := by decide +kernel
theorem dX5_item_5 : decode cX5_item 5 = .ok (.aload_n 0, 1) := by decide +kernel
theorem dX5_item_6 : decode cX5_item 6 = .ok (.getfield 19, 3) := by decide +kernel
theorem dX5_item_9 : decode cX5_item 9 = .ok (.if_icmp .ge 18, 3) := by decide +kernel
theorem dX5_item_12 : decode cX5_item 12 = .ok (.iload_n 1, 1) := by decide +kernel
theorem dX5_item_13 : decode cX5_item 13 = .ok (.bipush 48, 2) := by decide +kernel
theorem dX5_item_15 : decode cX5_item 15 = .ok (.if_icmp .ge 12, 3) := by decide +kernel
theorem dX5_item_18 : decode cX5_item 18 = .ok (.aload_n 0, 1) := by decide +kernel
theorem dX5_item_19 : decode cX5_item 19 = .ok (.getfield 9, 3) := by decide +kernel
theorem dX5_item_22 : decode cX5_item 22 = .ok (.iload_n 1, 1) := by decide +kernel
theorem dX5_item_23 : decode cX5_item 23 = .ok (.iaload, 1) := by decide +kernel
theorem dX5_item_24 : decode cX5_item 24 = .ok (.goto 4, 3) := by decide +kernel
theorem dX5_item_27 : decode cX5_item 27 = .ok (.iconst 0, 1) := by decide +kernel
theorem dX5_item_28 : decode cX5_item 28 = .ok (.ireturn, 1) := by decide +kernel
theorem dX5_setItem_0 : decode cX5_setItem 0 = .ok (.iload_n 1, 1) := by decide +kernel
theorem dX5_setItem_1 : decode cX5_setItem 1 = .ok (.ifCond .lt 28, 3) := by decide +kernel
theorem dX5_setItem_4 : decode cX5_setItem 4 = .ok (.iload_n 1, 1) := by decide +kernel
theorem dX5_setItem_5 : decode cX5_setItem 5 = .ok (.aload_n 0, 1) := by decide +kernel
theorem dX5_setItem_6 : decode cX5_setItem 6 = .ok (.getfield 19, 3) := by decide +kernel
theorem dX5_setItem_9 : decode cX5_setItem 9 = .ok (.if_icmp .ge 20, 3) := by decide +kernel
theorem dX5_setItem_12 : decode cX5_setItem 12 = .ok (.iload_n 1, 1) := by decide +kernel
theorem dX5_setItem_13 : decode cX5_setItem 13 = .ok (.bipush 48, 2) := by decide +kernel
theorem dX5_setItem_15 : decode cX5_setItem 15 = .ok (.if_icmp .ge 14, 3) := by decide +kernel
theorem dX5_setItem_18 : decode cX5_setItem 18 = .ok (.aload_n 0, 1) := by decide +kernel
theorem dX5_setItem_19 : decode cX5_setItem 19 = .ok (.getfield 9, 3) := by decide +kernel
theorem dX5_setItem_22 : decode cX5_setItem 22 = .ok (.iload_n 1, 1) := by decide +kernel
theorem dX5_setItem_23 : decode cX5_setItem 23 = .ok (.aload_n 0, 1) := by decide +kernel
theorem dX5_setItem_24 : decode cX5_setItem 24 = .ok (.iload_n 2, 1) := by decide +kernel
theorem dX5_setItem_25 : decode cX5_setItem 25 = .ok (.invokevirtual 37, 3) := by decide +kernel
theorem dX5_setItem_28 : decode cX5_setItem 28 = .ok (.iastore, 1) := by decide +kernel
theorem dX5_setItem_29 : decode cX5_setItem 29 = .ok (.return_, 1) := by decide +kernel
theorem dX5_narrowed_0 : decode cX5_narrowed 0 = .ok (.aload_n 0, 1) := by decide +kernel
theorem dX5_narrowed_1 : decode cX5_narrowed 1 = .ok (.getfield 15, 3) := by decide +kernel
theorem dX5_narrowed_4 : decode cX5_narrowed 4 = .ok (.lookupswitch 34 #[(0, 28), (1, 31)], 28) := by decide +kernel
theorem dX5_narrowed_32 : decode cX5_narrowed 32 = .ok (.iload_n 1, 1) := by decide +kernel
theorem dX5_narrowed_33 : decode cX5_narrowed 33 = .ok (.i2b, 1) := by decide +kernel
theorem dX5_narrowed_34 : decode cX5_narrowed 34 = .ok (.ireturn, 1) := by decide +kernel
theorem dX5_narrowed_35 : decode cX5_narrowed 35 = .ok (.iload_n 1, 1) := by decide +kernel
theorem dX5_narrowed_36 : decode cX5_narrowed 36 = .ok (.i2s, 1) := by decide +kernel
theorem dX5_narrowed_37 : decode cX5_narrowed 37 = .ok (.ireturn, 1) := by decide +kernel
theorem dX5_narrowed_38 : decode cX5_narrowed 38 = .ok (.iload_n 1, 1) := by decide +kernel
theorem dX5_narrowed_39 : decode cX5_narrowed 39 = .ok (.ireturn, 1) := by decide +kernel
theorem dX5_hasRun_0 : decode cX5_hasRun 0 = .ok (.iload_n 1, 1) := by decide +kernel
theorem dX5_hasRun_1 : decode cX5_hasRun 1 = .ok (.ifCond .lt 29, 3) := by decide +kernel
theorem dX5_hasRun_4 : decode cX5_hasRun 4 = .ok (.iload_n 2, 1) := by decide +kernel
theorem dX5_hasRun_5 : decode cX5_hasRun 5 = .ok (.ifCond .lt 25, 3) := by decide +kernel
theorem dX5_hasRun_8 : decode cX5_hasRun 8 = .ok (.iload_n 1, 1) := by decide +kernel
theorem dX5_hasRun_9 : decode cX5_hasRun 9 = .ok (.aload_n 0, 1) := by decide +kernel
theorem dX5_hasRun_10 : decode cX5_hasRun 10 = .ok (.getfield 19, 3) := by decide +kernel
theorem dX5_hasRun_13 : decode cX5_hasRun 13 = .ok (.if_icmp .gt 17, 3) := by decide +kernel
theorem dX5_hasRun_16 : decode cX5_hasRun 16 = .ok (.iload_n 2, 1) := by decide +kernel
theorem dX5_hasRun_17 : decode cX5_hasRun 17 = .ok (.aload_n 0, 1) := by decide +kernel
theorem dX5_hasRun_18 : decode cX5_hasRun 18 = .ok (.getfield 19, 3) := by decide +kernel
theorem dX5_hasRun_21 : decode cX5_hasRun 21 = .ok (.iload_n 1, 1) := by decide +kernel
theorem dX5_hasRun_22 : decode cX5_hasRun 22 = .ok (.isub, 1) := by decide +kernel
theorem dX5_hasRun_23 : decode cX5_hasRun 23 = .ok (.if_icmp .gt 7, 3) := by decide +kernel
theorem dX5_hasRun_26 : decode cX5_hasRun 26 = .ok (.iconst 1, 1) := by decide +kernel
theorem dX5_hasRun_27 : decode cX5_hasRun 27 = .ok (.goto 4, 3) := by decide +kernel
theorem dX5_hasRun_30 : decode cX5_hasRun 30 = .ok (.iconst 0, 1) := by decide +kernel
theorem dX5_hasRun_31 : decode cX5_hasRun 31 = .ok (.ireturn, 1) := by decide +kernel
theorem dX5_takeRun_0 : decode cX5_takeRun 0 = .ok (.aload_n 1, 1) := by decide +kernel
theorem dX5_takeRun_1 : decode cX5_takeRun 1 = .ok (.ifnull 38, 3) := by decide +kernel
theorem dX5_takeRun_4 : decode cX5_takeRun 4 = .ok (.aload_n 1, 1) := by decide +kernel
theorem dX5_takeRun_5 : decode cX5_takeRun 5 = .ok (.iload_n 2, 1) := by decide +kernel
theorem dX5_takeRun_6 : decode cX5_takeRun 6 = .ok (.iload 4, 2) := by decide +kernel
theorem dX5_takeRun_8 : decode cX5_takeRun 8 = .ok (.invokevirtual 41, 3) := by decide +kernel
theorem dX5_takeRun_11 : decode cX5_takeRun 11 = .ok (.ifCond .eq 28, 3) := by decide +kernel
theorem dX5_takeRun_14 : decode cX5_takeRun 14 = .ok (.aload_n 0, 1) := by decide +kernel
theorem dX5_takeRun_15 : decode cX5_takeRun 15 = .ok (.iload_n 3, 1) := by decide +kernel
theorem dX5_takeRun_16 : decode cX5_takeRun 16 = .ok (.iload 4, 2) := by decide +kernel
theorem dX5_takeRun_18 : decode cX5_takeRun 18 = .ok (.invokevirtual 41, 3) := by decide +kernel
theorem dX5_takeRun_21 : decode cX5_takeRun 21 = .ok (.ifCond .eq 18, 3) := by decide +kernel
theorem dX5_takeRun_24 : decode cX5_takeRun 24 = .ok (.aload_n 1, 1) := by decide +kernel
theorem dX5_takeRun_25 : decode cX5_takeRun 25 = .ok (.getfield 9, 3) := by decide +kernel
theorem dX5_takeRun_28 : decode cX5_takeRun 28 = .ok (.iload_n 2, 1) := by decide +kernel
theorem dX5_takeRun_29 : decode cX5_takeRun 29 = .ok (.aload_n 0, 1) := by decide +kernel
theorem dX5_takeRun_30 : decode cX5_takeRun 30 = .ok (.getfield 9, 3) := by decide +kernel
theorem dX5_takeRun_33 : decode cX5_takeRun 33 = .ok (.iload_n 3, 1) := by decide +kernel
theorem dX5_takeRun_34 : decode cX5_takeRun 34 = .ok (.iload 4, 2) := by decide +kernel
theorem dX5_takeRun_36 : decode cX5_takeRun 36 = .ok (.invokestatic 45, 3) := by decide +kernel
theorem dX5_takeRun_39 : decode cX5_takeRun 39 = .ok (.return_, 1) := by decide +kernel
theorem dX6_init_0 : decode cX6_init 0 = .ok (.aload_n 0, 1) := by decide +kernel
theorem dX6_init_1 : decode cX6_init 1 = .ok (.invokespecial 3, 3) := by decide +kernel
theorem dX6_init_4 : decode cX6_init 4 = .ok (.aload_n 0, 1) := by decide +kernel
theorem dX6_init_5 : decode cX6_init 5 = .ok (.iconst 0, 1) := by decide +kernel
theorem dX6_init_6 : decode cX6_init 6 = .ok (.iload_n 1, 1) := by decide +kernel
theorem dX6_init_7 : decode cX6_init 7 = .ok (.invokestatic 9, 3) := by decide +kernel
theorem dX6_init_10 : decode cX6_init 10 = .ok (.newarray .byte, 2) := by decide +kernel
theorem dX6_init_12 : decode cX6_init 12 = .ok (.putfield 15, 3) := by decide +kernel
theorem dX6_init_15 : decode cX6_init 15 = .ok (.return_, 1) := by decide +kernel
theorem dX6_length_0 : decode cX6_length 0 = .ok (.aload_n 0, 1) := by decide +kernel
theorem dX6_length_1 : decode cX6_length 1 = .ok (.getfield 21, 3) := by decide +kernel
theorem dX6_length_4 : decode cX6_length 4 = .ok (.ireturn, 1) := by decide +kernel
theorem dX6_isFull_0 : decode cX6_isFull 0 = .ok (.aload_n 0, 1) := by decide +kernel
theorem dX6_isFull_1 : decode cX6_isFull 1 = .ok (.getfield 21, 3) := by decide +kernel
theorem dX6_isFull_4 : decode cX6_isFull 4 = .ok (.aload_n 0, 1) := by decide +kernel
theorem dX6_isFull_5 : decode cX6_isFull 5 = .ok (.getfield 15, 3) := by decide +kernel
theorem dX6_isFull_8 : decode cX6_isFull 8 = .ok (.arraylength, 1) := by decide +kernel
theorem dX6_isFull_9 : decode cX6_isFull 9 = .ok (.if_icmp .lt 7, 3) := by decide +kernel
theorem dX6_isFull_12 : decode cX6_isFull 12 = .ok (.iconst 1, 1) := by decide +kernel
theorem dX6_isFull_13 : decode cX6_isFull 13 = .ok (.goto 4, 3) := by decide +kernel
theorem dX6_isFull_16 : decode cX6_isFull 16 = .ok (.iconst 0, 1) := by decide +kernel
theorem dX6_isFull_17 : decode cX6_isFull 17 = .ok (.ireturn, 1) := by decide +kernel
theorem dX6_append_0 : decode cX6_append 0 = .ok (.aload_n 0, 1) := by decide +kernel
theorem dX6_append_1 : decode cX6_append 1 = .ok (.getfield 21, 3) := by decide +kernel
theorem dX6_append_4 : decode cX6_append 4 = .ok (.ifCond .lt 36, 3) := by decide +kernel
theorem dX6_append_7 : decode cX6_append 7 = .ok (.aload_n 0, 1) := by decide +kernel
theorem dX6_append_8 : decode cX6_append 8 = .ok (.getfield 21, 3) := by decide +kernel
theorem dX6_append_11 : decode cX6_append 11 = .ok (.aload_n 0, 1) := by decide +kernel
theorem dX6_append_12 : decode cX6_append 12 = .ok (.getfield 15, 3) := by decide +kernel
theorem dX6_append_15 : decode cX6_append 15 = .ok (.arraylength, 1) := by decide +kernel
theorem dX6_append_16 : decode cX6_append 16 = .ok (.if_icmp .ge 24, 3) := by decide +kernel
theorem dX6_append_19 : decode cX6_append 19 = .ok (.aload_n 0, 1) := by decide +kernel
theorem dX6_append_20 : decode cX6_append 20 = .ok (.getfield 15, 3) := by decide +kernel
theorem dX6_append_23 : decode cX6_append 23 = .ok (.aload_n 0, 1) := by decide +kernel
theorem dX6_append_24 : decode cX6_append 24 = .ok (.getfield 21, 3) := by decide +kernel
theorem dX6_append_27 : decode cX6_append 27 = .ok (.iload_n 1, 1) := by decide +kernel
theorem dX6_append_28 : decode cX6_append 28 = .ok (.i2b, 1) := by decide +kernel
theorem dX6_append_29 : decode cX6_append 29 = .ok (.bastore, 1) := by decide +kernel
theorem dX6_append_30 : decode cX6_append 30 = .ok (.aload_n 0, 1) := by decide +kernel
theorem dX6_append_31 : decode cX6_append 31 = .ok (.dup, 1) := by decide +kernel
theorem dX6_append_32 : decode cX6_append 32 = .ok (.getfield 21, 3) := by decide +kernel
theorem dX6_append_35 : decode cX6_append 35 = .ok (.iconst 1, 1) := by decide +kernel
theorem dX6_append_36 : decode cX6_append 36 = .ok (.iadd, 1) := by decide +kernel
theorem dX6_append_37 : decode cX6_append 37 = .ok (.putfield 21, 3) := by decide +kernel
theorem dX6_append_40 : decode cX6_append 40 = .ok (.return_, 1) := by decide +kernel
theorem dX6_dropLast_0 : decode cX6_dropLast 0 = .ok (.aload_n 0, 1) := by decide +kernel
theorem dX6_dropLast_1 : decode cX6_dropLast 1 = .ok (.getfield 21, 3) := by decide +kernel
theorem dX6_dropLast_4 : decode cX6_dropLast 4 = .ok (.ifCond .le 13, 3) := by decide +kernel
theorem dX6_dropLast_7 : decode cX6_dropLast 7 = .ok (.aload_n 0, 1) := by decide +kernel
theorem dX6_dropLast_8 : decode cX6_dropLast 8 = .ok (.dup, 1) := by decide +kernel
theorem dX6_dropLast_9 : decode cX6_dropLast 9 = .ok (.getfield 21, 3) := by decide +kernel
theorem dX6_dropLast_12 : decode cX6_dropLast 12 = .ok (.iconst 1, 1) := by decide +kernel
theorem dX6_dropLast_13 : decode cX6_dropLast 13 = .ok (.isub, 1) := by decide +kernel
theorem dX6_dropLast_14 : decode cX6_dropLast 14 = .ok (.putfield 21, 3) := by decide +kernel
theorem dX6_dropLast_17 : decode cX6_dropLast 17 = .ok (.return_, 1) := by decide +kernel
theorem dX6_clearAll_0 : decode cX6_clearAll 0 = .ok (.aload_n 0, 1) := by decide +kernel
theorem dX6_clearAll_1 : decode cX6_clearAll 1 = .ok (.iconst 0, 1) := by decide +kernel
theorem dX6_clearAll_2 : decode cX6_clearAll 2 = .ok (.putfield 21, 3) := by decide +kernel
theorem dX6_clearAll_5 : decode cX6_clearAll 5 = .ok (.return_, 1) := by decide +kernel
theorem dX6_at_0 : decode cX6_at 0 = .ok (.iload_n 1, 1) := by decide +kernel
theorem dX6_at_1 : decode cX6_at 1 = .ok (.ifCond .lt 33, 3) := by decide +kernel
theorem dX6_at_4 : decode cX6_at 4 = .ok (.iload_n 1, 1) := by decide +kernel
theorem dX6_at_5 : decode cX6_at 5 = .ok (.aload_n 0, 1) := by decide +kernel
theorem dX6_at_6 : decode cX6_at 6 = .ok (.getfield 21, 3) := by decide +kernel
theorem dX6_at_9 : decode cX6_at 9 = .ok (.if_icmp .ge 25, 3) := by decide +kernel
theorem dX6_at_12 : decode cX6_at 12 = .ok (.iload_n 1, 1) := by decide +kernel
theorem dX6_at_13 : decode cX6_at 13 = .ok (.aload_n 0, 1) := by decide +kernel
theorem dX6_at_14 : decode cX6_at 14 = .ok (.getfield 15, 3) := by decide +kernel
theorem dX6_at_17 : decode cX6_at 17 = .ok (.arraylength, 1) := by decide +kernel
theorem dX6_at_18 : decode cX6_at 18 = .ok (.if_icmp .ge 16, 3) := by decide +kernel
theorem dX6_at_21 : decode cX6_at 21 = .ok (.aload_n 0, 1) := by decide +kernel
theorem dX6_at_22 : decode cX6_at 22 = .ok (.getfield 15, 3) := by decide +kernel
theorem dX6_at_25 : decode cX6_at 25 = .ok (.iload_n 1, 1) := by decide +kernel
theorem dX6_at_26 : decode cX6_at 26 = .ok (.baload, 1) := by decide +kernel
theorem dX6_at_27 : decode cX6_at 27 = .ok (.sipush 255, 3) := by decide +kernel
theorem dX6_at_30 : decode cX6_at 30 = .ok (.iand, 1) := by decide +kernel
theorem dX6_at_31 : decode cX6_at 31 = .ok (.goto 4, 3) := by decide +kernel
theorem dX6_at_34 : decode cX6_at 34 = .ok (.iconst (-1), 1) := by decide +kernel
theorem dX6_at_35 : decode cX6_at 35 = .ok (.ireturn, 1) := by decide +kernel
theorem dX7_init_0 : decode cX7_init 0 = .ok (.aload_n 0, 1) := by decide +kernel
theorem dX7_init_1 : decode cX7_init 1 = .ok (.invokespecial 1, 3) := by decide +kernel
theorem dX7_init_4 : decode cX7_init 4 = .ok (.aload_n 0, 1) := by decide +kernel
theorem dX7_init_5 : decode cX7_init 5 = .ok (.iconst 3, 1) := by decide +kernel
theorem dX7_init_6 : decode cX7_init 6 = .ok (.anewarray 7, 3) := by decide +kernel
theorem dX7_init_9 : decode cX7_init 9 = .ok (.dup, 1) := by decide +kernel
theorem dX7_init_10 : decode cX7_init 10 = .ok (.iconst 0, 1) := by decide +kernel
theorem dX7_init_11 : decode cX7_init 11 = .ok (.new 7, 3) := by decide +kernel
theorem dX7_init_14 : decode cX7_init 14 = .ok (.dup, 1) := by decide +kernel
theorem dX7_init_15 : decode cX7_init 15 = .ok (.bipush 80, 2) := by decide +kernel
theorem dX7_init_17 : decode cX7_init 17 = .ok (.invokespecial 9, 3) := by decide +kernel
theorem dX7_init_20 : decode cX7_init 20 = .ok (.aastore, 1) := by decide +kernel
theorem dX7_init_21 : decode cX7_init 21 = .ok (.dup, 1) := by decide +kernel
theorem dX7_init_22 : decode cX7_init 22 = .ok (.iconst 1, 1) := by decide +kernel
theorem dX7_init_23 : decode cX7_init 23 = .ok (.new 7, 3) := by decide +kernel
theorem dX7_init_26 : decode cX7_init 26 = .ok (.dup, 1) := by decide +kernel
theorem dX7_init_27 : decode cX7_init 27 = .ok (.bipush 60, 2) := by decide +kernel
theorem dX7_init_29 : decode cX7_init 29 = .ok (.invokespecial 9, 3) := by decide +kernel
theorem dX7_init_32 : decode cX7_init 32 = .ok (.aastore, 1) := by decide +kernel
theorem dX7_init_33 : decode cX7_init 33 = .ok (.dup, 1) := by decide +kernel
theorem dX7_init_34 : decode cX7_init 34 = .ok (.iconst 2, 1) := by decide +kernel
theorem dX7_init_35 : decode cX7_init 35 = .ok (.new 7, 3) := by decide +kernel
theorem dX7_init_38 : decode cX7_init 38 = .ok (.dup, 1) := by decide +kernel
theorem dX7_init_39 : decode cX7_init 39 = .ok (.bipush 60, 2) := by decide +kernel
theorem dX7_init_41 : decode cX7_init 41 = .ok (.invokespecial 9, 3) := by decide +kernel
theorem dX7_init_44 : decode cX7_init 44 = .ok (.aastore, 1) := by decide +kernel
theorem dX7_init_45 : decode cX7_init 45 = .ok (.putfield 12, 3) := by decide +kernel
theorem dX7_init_48 : decode cX7_init 48 = .ok (.aload_n 0, 1) := by decide +kernel
theorem dX7_init_49 : decode cX7_init 49 = .ok (.iconst 3, 1) := by decide +kernel
theorem dX7_init_50 : decode cX7_init 50 = .ok (.anewarray 18, 3) := by decide +kernel
theorem dX7_init_53 : decode cX7_init 53 = .ok (.dup, 1) := by decide +kernel
theorem dX7_init_54 : decode cX7_init 54 = .ok (.iconst 0, 1) := by decide +kernel
theorem dX7_init_55 : decode cX7_init 55 = .ok (.new 18, 3) := by decide +kernel
theorem dX7_init_58 : decode cX7_init 58 = .ok (.dup, 1) := by decide +kernel
theorem dX7_init_59 : decode cX7_init 59 = .ok (.getstatic 20, 3) := by decide +kernel
theorem dX7_init_62 : decode cX7_init 62 = .ok (.invokespecial 24, 3) := by decide +kernel
theorem dX7_init_65 : decode cX7_init 65 = .ok (.aastore, 1) := by decide +kernel
theorem dX7_init_66 : decode cX7_init 66 = .ok (.dup, 1) := by decide +kernel
theorem dX7_init_67 : decode cX7_init 67 = .ok (.iconst 1, 1) := by decide +kernel
theorem dX7_init_68 : decode cX7_init 68 = .ok (.new 18, 3) := by decide +kernel
theorem dX7_init_71 : decode cX7_init 71 = .ok (.dup, 1) := by decide +kernel
theorem dX7_init_72 : decode cX7_init 72 = .ok (.getstatic 27, 3) := by decide +kernel
theorem dX7_init_75 : decode cX7_init 75 = .ok (.invokespecial 24, 3) := by decide +kernel
theorem dX7_init_78 : decode cX7_init 78 = .ok (.aastore, 1) := by decide +kernel
theorem dX7_init_79 : decode cX7_init 79 = .ok (.dup, 1) := by decide +kernel
theorem dX7_init_80 : decode cX7_init 80 = .ok (.iconst 2, 1) := by decide +kernel
theorem dX7_init_81 : decode cX7_init 81 = .ok (.new 18, 3) := by decide +kernel
theorem dX7_init_84 : decode cX7_init 84 = .ok (.dup, 1) := by decide +kernel
theorem dX7_init_85 : decode cX7_init 85 = .ok (.getstatic 27, 3) := by decide +kernel
theorem dX7_init_88 : decode cX7_init 88 = .ok (.invokespecial 24, 3) := by decide +kernel
theorem dX7_init_91 : decode cX7_init 91 = .ok (.aastore, 1) := by decide +kernel
theorem dX7_init_92 : decode cX7_init 92 = .ok (.putfield 30, 3) := by decide +kernel
theorem dX7_init_95 : decode cX7_init 95 = .ok (.aload_n 0, 1) := by decide +kernel
theorem dX7_init_96 : decode cX7_init 96 = .ok (.iconst 4, 1) := by decide +kernel
theorem dX7_init_97 : decode cX7_init 97 = .ok (.newarray .int, 2) := by decide +kernel
theorem dX7_init_99 : decode cX7_init 99 = .ok (.dup, 1) := by decide +kernel
theorem dX7_init_100 : decode cX7_init 100 = .ok (.iconst 0, 1) := by decide +kernel
theorem dX7_init_101 : decode cX7_init 101 = .ok (.bipush 9, 2) := by decide +kernel
theorem dX7_init_103 : decode cX7_init 103 = .ok (.iastore, 1) := by decide +kernel
theorem dX7_init_104 : decode cX7_init 104 = .ok (.dup, 1) := by decide +kernel
theorem dX7_init_105 : decode cX7_init 105 = .ok (.iconst 1, 1) := by decide +kernel
theorem dX7_init_106 : decode cX7_init 106 = .ok (.iconst 0, 1) := by decide +kernel
theorem dX7_init_107 : decode cX7_init 107 = .ok (.iastore, 1) := by decide +kernel
theorem dX7_init_108 : decode cX7_init 108 = .ok (.dup, 1) := by decide +kernel
theorem dX7_init_109 : decode cX7_init 109 = .ok (.iconst 2, 1) := by decide +kernel
theorem dX7_init_110 : decode cX7_init 110 = .ok (.iconst 5, 1) := by decide +kernel
theorem dX7_init_111 : decode cX7_init 111 = .ok (.iastore, 1) := by decide +kernel
theorem dX7_init_112 : decode cX7_init 112 = .ok (.dup, 1) := by decide +kernel
theorem dX7_init_113 : decode cX7_init 113 = .ok (.iconst 3, 1) := by decide +kernel
theorem dX7_init_114 : decode cX7_init 114 = .ok (.iconst 0, 1) := by decide +kernel
theorem dX7_init_115 : decode cX7_init 115 = .ok (.iastore, 1) := by decide +kernel
theorem dX7_init_116 : decode cX7_init 116 = .ok (.putfield 34, 3) := by decide +kernel
theorem dX7_init_119 : decode cX7_init 119 = .ok (.aload_n 0, 1) := by decide +kernel
theorem dX7_init_120 : decode cX7_init 120 = .ok (.bipush 10, 2) := by decide +kernel
theorem dX7_init_122 : decode cX7_init 122 = .ok (.newarray .int, 2) := by decide +kernel
theorem dX7_init_124 : decode cX7_init 124 = .ok (.dup, 1) := by decide +kernel
theorem dX7_init_125 : decode cX7_init 125 = .ok (.iconst 0, 1) := by decide +kernel
theorem dX7_init_126 : decode cX7_init 126 = .ok (.iconst 1, 1) := by decide +kernel
theorem dX7_init_127 : decode cX7_init 127 = .ok (.iastore, 1) := by decide +kernel
theorem dX7_init_128 : decode cX7_init 128 = .ok (.dup, 1) := by decide +kernel
theorem dX7_init_129 : decode cX7_init 129 = .ok (.iconst 1, 1) := by decide +kernel
theorem dX7_init_130 : decode cX7_init 130 = .ok (.iconst 1, 1) := by decide +kernel
theorem dX7_init_131 : decode cX7_init 131 = .ok (.iastore, 1) := by decide +kernel
theorem dX7_init_132 : decode cX7_init 132 = .ok (.dup, 1) := by decide +kernel
theorem dX7_init_133 : decode cX7_init 133 = .ok (.iconst 2, 1) := by decide +kernel
theorem dX7_init_134 : decode cX7_init 134 = .ok (.iconst 1, 1) := by decide +kernel
theorem dX7_init_135 : decode cX7_init 135 = .ok (.iastore, 1) := by decide +kernel
theorem dX7_init_136 : decode cX7_init 136 = .ok (.dup, 1) := by decide +kernel
theorem dX7_init_137 : decode cX7_init 137 = .ok (.iconst 3, 1) := by decide +kernel
theorem dX7_init_138 : decode cX7_init 138 = .ok (.iconst 1, 1) := by decide +kernel
theorem dX7_init_139 : decode cX7_init 139 = .ok (.iastore, 1) := by decide +kernel
theorem dX7_init_140 : decode cX7_init 140 = .ok (.dup, 1) := by decide +kernel
theorem dX7_init_141 : decode cX7_init 141 = .ok (.iconst 4, 1) := by decide +kernel
theorem dX7_init_142 : decode cX7_init 142 = .ok (.iconst 1, 1) := by decide +kernel
theorem dX7_init_143 : decode cX7_init 143 = .ok (.iastore, 1) := by decide +kernel
theorem dX7_init_144 : decode cX7_init 144 = .ok (.dup, 1) := by decide +kernel
theorem dX7_init_145 : decode cX7_init 145 = .ok (.iconst 5, 1) := by decide +kernel
theorem dX7_init_146 : decode cX7_init 146 = .ok (.iconst 1, 1) := by decide +kernel
theorem dX7_init_147 : decode cX7_init 147 = .ok (.iastore, 1) := by decide +kernel
theorem dX7_init_148 : decode cX7_init 148 = .ok (.dup, 1) := by decide +kernel
theorem dX7_init_149 : decode cX7_init 149 = .ok (.bipush 6, 2) := by decide +kernel
theorem dX7_init_151 : decode cX7_init 151 = .ok (.iconst 1, 1) := by decide +kernel
theorem dX7_init_152 : decode cX7_init 152 = .ok (.iastore, 1) := by decide +kernel
theorem dX7_init_153 : decode cX7_init 153 = .ok (.dup, 1) := by decide +kernel
theorem dX7_init_154 : decode cX7_init 154 = .ok (.bipush 7, 2) := by decide +kernel
theorem dX7_init_156 : decode cX7_init 156 = .ok (.iconst 1, 1) := by decide +kernel
theorem dX7_init_157 : decode cX7_init 157 = .ok (.iastore, 1) := by decide +kernel
theorem dX7_init_158 : decode cX7_init 158 = .ok (.dup, 1) := by decide +kernel
theorem dX7_init_159 : decode cX7_init 159 = .ok (.bipush 8, 2) := by decide +kernel
theorem dX7_init_161 : decode cX7_init 161 = .ok (.iconst 1, 1) := by decide +kernel
theorem dX7_init_162 : decode cX7_init 162 = .ok (.iastore, 1) := by decide +kernel
theorem dX7_init_163 : decode cX7_init 163 = .ok (.dup, 1) := by decide +kernel
theorem dX7_init_164 : decode cX7_init 164 = .ok (.bipush 9, 2) := by decide +kernel
theorem dX7_init_166 : decode cX7_init 166 = .ok (.iconst 1, 1) := by decide +kernel
theorem dX7_init_167 : decode cX7_init 167 = .ok (.iastore, 1) := by decide +kernel
theorem dX7_init_168 : decode cX7_init 168 = .ok (.putfield 37, 3) := by decide +kernel
theorem dX7_init_171 : decode cX7_init 171 = .ok (.aload_n 0, 1) := by decide +kernel
theorem dX7_init_172 : decode cX7_init 172 = .ok (.new 40, 3) := by decide +kernel
theorem dX7_init_175 : decode cX7_init 175 = .ok (.dup, 1) := by decide +kernel
theorem dX7_init_176 : decode cX7_init 176 = .ok (.invokespecial 42, 3) := by decide +kernel
theorem dX7_init_179 : decode cX7_init 179 = .ok (.putfield 43, 3) := by decide +kernel
theorem dX7_init_182 : decode cX7_init 182 = .ok (.aload_n 0, 1) := by decide +kernel
theorem dX7_init_183 : decode cX7_init 183 = .ok (.iconst 1, 1) := by decide +kernel
theorem dX7_init_184 : decode cX7_init 184 = .ok (.putfield 47, 3) := by decide +kernel
theorem dX7_init_187 : decode cX7_init 187 = .ok (.aload_n 0, 1) := by decide +kernel
theorem dX7_init_188 : decode cX7_init 188 = .ok (.new 51, 3) := by decide +kernel
theorem dX7_init_191 : decode cX7_init 191 = .ok (.dup, 1) := by decide +kernel
theorem dX7_init_192 : decode cX7_init 192 = .ok (.invokespecial 53, 3) := by decide +kernel
theorem dX7_init_195 : decode cX7_init 195 = .ok (.putfield 54, 3) := by decide +kernel
theorem dX7_init_198 : decode cX7_init 198 = .ok (.aload_n 0, 1) := by decide +kernel
theorem dX7_init_199 : decode cX7_init 199 = .ok (.iconst 1, 1) := by decide +kernel
theorem dX7_init_200 : decode cX7_init 200 = .ok (.putfield 58, 3) := by decide +kernel
theorem dX7_init_203 : decode cX7_init 203 = .ok (.aload_n 0, 1) := by decide +kernel
theorem dX7_init_204 : decode cX7_init 204 = .ok (.new 61, 3) := by decide +kernel
theorem dX7_init_207 : decode cX7_init 207 = .ok (.dup, 1) := by decide +kernel
theorem dX7_init_208 : decode cX7_init 208 = .ok (.invokespecial 63, 3) := by decide +kernel
theorem dX7_init_211 : decode cX7_init 211 = .ok (.putfield 64, 3) := by decide +kernel
theorem dX7_init_214 : decode cX7_init 214 = .ok (.aload_n 0, 1) := by decide +kernel
theorem dX7_init_215 : decode cX7_init 215 = .ok (.new 68, 3) := by decide +kernel
theorem dX7_init_218 : decode cX7_init 218 = .ok (.dup, 1) := by decide +kernel
theorem dX7_init_219 : decode cX7_init 219 = .ok (.invokespecial 70, 3) := by decide +kernel
theorem dX7_init_222 : decode cX7_init 222 = .ok (.putfield 71, 3) := by decide +kernel
theorem dX7_init_225 : decode cX7_init 225 = .ok (.aload_n 0, 1) := by decide +kernel
theorem dX7_init_226 : decode cX7_init 226 = .ok (.iconst 4, 1) := by decide +kernel
theorem dX7_init_227 : decode cX7_init 227 = .ok (.anewarray 75, 3) := by decide +kernel
theorem dX7_init_230 : decode cX7_init 230 = .ok (.dup, 1) := by decide +kernel
theorem dX7_init_231 : decode cX7_init 231 = .ok (.iconst 0, 1) := by decide +kernel
theorem dX7_init_232 : decode cX7_init 232 = .ok (.new 75, 3) := by decide +kernel
theorem dX7_init_235 : decode cX7_init 235 = .ok (.dup, 1) := by decide +kernel
theorem dX7_init_236 : decode cX7_init 236 = .ok (.invokespecial 77, 3) := by decide +kernel
theorem dX7_init_239 : decode cX7_init 239 = .ok (.aastore, 1) := by decide +kernel
theorem dX7_init_240 : decode cX7_init 240 = .ok (.dup, 1) := by decide +kernel
theorem dX7_init_241 : decode cX7_init 241 = .ok (.iconst 1, 1) := by decide +kernel
theorem dX7_init_242 : decode cX7_init 242 = .ok (.new 75, 3) := by decide +kernel
theorem dX7_init_245 : decode cX7_init 245 = .ok (.dup, 1) := by decide +kernel
theorem dX7_init_246 : decode cX7_init 246 = .ok (.invokespecial 77, 3) := by decide +kernel
theorem dX7_init_249 : decode cX7_init 249 = .ok (.aastore, 1) := by decide +kernel
theorem dX7_init_250 : decode cX7_init 250 = .ok (.dup, 1) := by decide +kernel
theorem dX7_init_251 : decode cX7_init 251 = .ok (.iconst 2, 1) := by decide +kernel
theorem dX7_init_252 : decode cX7_init 252 = .ok (.new 75, 3) := by decide +kernel
theorem dX7_init_255 : decode cX7_init 255 = .ok (.dup, 1) := by decide +kernel
theorem dX7_init_256 : decode cX7_init 256 = .ok (.invokespecial 77, 3) := by decide +kernel
theorem dX7_init_259 : decode cX7_init 259 = .ok (.aastore, 1) := by decide +kernel
theorem dX7_init_260 : decode cX7_init 260 = .ok (.dup, 1) := by decide +kernel
theorem dX7_init_261 : decode cX7_init 261 = .ok (.iconst 3, 1) := by decide +kernel
theorem dX7_init_262 : decode cX7_init 262 = .ok (.new 75, 3) := by decide +kernel
theorem dX7_init_265 : decode cX7_init 265 = .ok (.dup, 1) := by decide +kernel
theorem dX7_init_266 : decode cX7_init 266 = .ok (.invokespecial 77, 3) := by decide +kernel
theorem dX7_init_269 : decode cX7_init 269 = .ok (.aastore, 1) := by decide +kernel
theorem dX7_init_270 : decode cX7_init 270 = .ok (.putfield 78, 3) := by decide +kernel
theorem dX7_init_273 : decode cX7_init 273 = .ok (.return_, 1) := by decide +kernel
theorem dX7_type_0 : decode cX7_type 0 = .ok (.iload_n 1, 1) := by decide +kernel
theorem dX7_type_1 : decode cX7_type 1 = .ok (.iconst 3, 1) := by decide +kernel
theorem dX7_type_2 : decode cX7_type 2 = .ok (.invokestatic 82, 3) := by decide +kernel
theorem dX7_type_5 : decode cX7_type 5 = .ok (.ifCond .ne 14, 3) := by decide +kernel
theorem dX7_type_8 : decode cX7_type 8 = .ok (.iload_n 2, 1) := by decide +kernel
theorem dX7_type_9 : decode cX7_type 9 = .ok (.ifCond .lt 10, 3) := by decide +kernel
theorem dX7_type_12 : decode cX7_type 12 = .ok (.iload_n 2, 1) := by decide +kernel
theorem dX7_type_13 : decode cX7_type 13 = .ok (.sipush 255, 3) := by decide +kernel
theorem dX7_type_16 : decode cX7_type 16 = .ok (.if_icmp .le 6, 3) := by decide +kernel
theorem dX7_type_19 : decode cX7_type 19 = .ok (.bipush (-2), 2) := by decide +kernel
theorem dX7_type_21 : decode cX7_type 21 = .ok (.ireturn, 1) := by decide +kernel
theorem dX7_type_22 : decode cX7_type 22 = .ok (.aload_n 0, 1) := by decide +kernel
theorem dX7_type_23 : decode cX7_type 23 = .ok (.getfield 12, 3) := by decide +kernel
theorem dX7_type_26 : decode cX7_type 26 = .ok (.iload_n 1, 1) := by decide +kernel
theorem dX7_type_27 : decode cX7_type 27 = .ok (.aaload, 1) := by decide +kernel
theorem dX7_type_28 : decode cX7_type 28 = .ok (.invokevirtual 86, 3) := by decide +kernel
theorem dX7_type_31 : decode cX7_type 31 = .ok (.ifCond .eq 6, 3) := by decide +kernel
theorem dX7_type_34 : decode cX7_type 34 = .ok (.bipush (-4), 2) := by decide +kernel
theorem dX7_type_36 : decode cX7_type 36 = .ok (.ireturn, 1) := by decide +kernel
theorem dX7_type_37 : decode cX7_type 37 = .ok (.aload_n 0, 1) := by decide +kernel
theorem dX7_type_38 : decode cX7_type 38 = .ok (.getfield 12, 3) := by decide +kernel
theorem dX7_type_41 : decode cX7_type 41 = .ok (.iload_n 1, 1) := by decide +kernel
theorem dX7_type_42 : decode cX7_type 42 = .ok (.aaload, 1) := by decide +kernel
theorem dX7_type_43 : decode cX7_type 43 = .ok (.iload_n 2, 1) := by decide +kernel
theorem dX7_type_44 : decode cX7_type 44 = .ok (.invokevirtual 90, 3) := by decide +kernel
theorem dX7_type_47 : decode cX7_type 47 = .ok (.aload_n 0, 1) := by decide +kernel
theorem dX7_type_48 : decode cX7_type 48 = .ok (.getfield 30, 3) := by decide +kernel
theorem dX7_type_51 : decode cX7_type 51 = .ok (.iload_n 1, 1) := by decide +kernel
theorem dX7_type_52 : decode cX7_type 52 = .ok (.aaload, 1) := by decide +kernel
theorem dX7_type_53 : decode cX7_type 53 = .ok (.iload_n 2, 1) := by decide +kernel
theorem dX7_type_54 : decode cX7_type 54 = .ok (.invokevirtual 93, 3) := by decide +kernel
theorem dX7_type_57 : decode cX7_type 57 = .ok (.aload_n 0, 1) := by decide +kernel
theorem dX7_type_58 : decode cX7_type 58 = .ok (.invokevirtual 96, 3) := by decide +kernel
theorem dX7_type_61 : decode cX7_type 61 = .ok (.aload_n 0, 1) := by decide +kernel
theorem dX7_type_62 : decode cX7_type 62 = .ok (.getfield 12, 3) := by decide +kernel
theorem dX7_type_65 : decode cX7_type 65 = .ok (.iload_n 1, 1) := by decide +kernel
theorem dX7_type_66 : decode cX7_type 66 = .ok (.aaload, 1) := by decide +kernel
theorem dX7_type_67 : decode cX7_type 67 = .ok (.invokevirtual 99, 3) := by decide +kernel
theorem dX7_type_70 : decode cX7_type 70 = .ok (.ireturn, 1) := by decide +kernel
theorem dX7_wipe_0 : decode cX7_wipe 0 = .ok (.iload_n 1, 1) := by decide +kernel
theorem dX7_wipe_1 : decode cX7_wipe 1 = .ok (.iconst 3, 1) := by decide +kernel
theorem dX7_wipe_2 : decode cX7_wipe 2 = .ok (.invokestatic 82, 3) := by decide +kernel
theorem dX7_wipe_5 : decode cX7_wipe 5 = .ok (.ifCond .eq 6, 3) := by decide +kernel
theorem dX7_wipe_8 : decode cX7_wipe 8 = .ok (.bipush (-2), 2) := by decide +kernel
theorem dX7_wipe_10 : decode cX7_wipe 10 = .ok (.ireturn, 1) := by decide +kernel
theorem dX7_wipe_11 : decode cX7_wipe 11 = .ok (.aload_n 0, 1) := by decide +kernel
theorem dX7_wipe_12 : decode cX7_wipe 12 = .ok (.getfield 12, 3) := by decide +kernel
theorem dX7_wipe_15 : decode cX7_wipe 15 = .ok (.iload_n 1, 1) := by decide +kernel
theorem dX7_wipe_16 : decode cX7_wipe 16 = .ok (.aaload, 1) := by decide +kernel
theorem dX7_wipe_17 : decode cX7_wipe 17 = .ok (.invokevirtual 99, 3) := by decide +kernel
theorem dX7_wipe_20 : decode cX7_wipe 20 = .ok (.istore_n 2, 1) := by decide +kernel
theorem dX7_wipe_21 : decode cX7_wipe 21 = .ok (.aload_n 0, 1) := by decide +kernel
theorem dX7_wipe_22 : decode cX7_wipe 22 = .ok (.getfield 12, 3) := by decide +kernel
theorem dX7_wipe_25 : decode cX7_wipe 25 = .ok (.iload_n 1, 1) := by decide +kernel
theorem dX7_wipe_26 : decode cX7_wipe 26 = .ok (.aaload, 1) := by decide +kernel
theorem dX7_wipe_27 : decode cX7_wipe 27 = .ok (.invokevirtual 103, 3) := by decide +kernel
theorem dX7_wipe_30 : decode cX7_wipe 30 = .ok (.aload_n 0, 1) := by decide +kernel
theorem dX7_wipe_31 : decode cX7_wipe 31 = .ok (.getfield 30, 3) := by decide +kernel
theorem dX7_wipe_34 : decode cX7_wipe 34 = .ok (.iload_n 1, 1) := by decide +kernel
theorem dX7_wipe_35 : decode cX7_wipe 35 = .ok (.aaload, 1) := by decide +kernel
theorem dX7_wipe_36 : decode cX7_wipe 36 = .ok (.invokevirtual 106, 3) := by decide +kernel
theorem dX7_wipe_39 : decode cX7_wipe 39 = .ok (.aload_n 0, 1) := by decide +kernel
theorem dX7_wipe_40 : decode cX7_wipe 40 = .ok (.invokevirtual 96, 3) := by decide +kernel
theorem dX7_wipe_43 : decode cX7_wipe 43 = .ok (.iload_n 2, 1) := by decide +kernel
theorem dX7_wipe_44 : decode cX7_wipe 44 = .ok (.ireturn, 1) := by decide +kernel
theorem dX7_undo_0 : decode cX7_undo 0 = .ok (.iload_n 1, 1) := by decide +kernel
theorem dX7_undo_1 : decode cX7_undo 1 = .ok (.iconst 3, 1) := by decide +kernel
theorem dX7_undo_2 : decode cX7_undo 2 = .ok (.invokestatic 82, 3) := by decide +kernel
theorem dX7_undo_5 : decode cX7_undo 5 = .ok (.ifCond .eq 6, 3) := by decide +kernel
theorem dX7_undo_8 : decode cX7_undo 8 = .ok (.bipush (-2), 2) := by decide +kernel
theorem dX7_undo_10 : decode cX7_undo 10 = .ok (.ireturn, 1) := by decide +kernel
theorem dX7_undo_11 : decode cX7_undo 11 = .ok (.aload_n 0, 1) := by decide +kernel
theorem dX7_undo_12 : decode cX7_undo 12 = .ok (.getfield 12, 3) := by decide +kernel
theorem dX7_undo_15 : decode cX7_undo 15 = .ok (.iload_n 1, 1) := by decide +kernel
theorem dX7_undo_16 : decode cX7_undo 16 = .ok (.aaload, 1) := by decide +kernel
theorem dX7_undo_17 : decode cX7_undo 17 = .ok (.invokevirtual 99, 3) := by decide +kernel
theorem dX7_undo_20 : decode cX7_undo 20 = .ok (.ifCond .ne 6, 3) := by decide +kernel
theorem dX7_undo_23 : decode cX7_undo 23 = .ok (.bipush (-3), 2) := by decide +kernel
theorem dX7_undo_25 : decode cX7_undo 25 = .ok (.ireturn, 1) := by decide +kernel
theorem dX7_undo_26 : decode cX7_undo 26 = .ok (.aload_n 0, 1) := by decide +kernel
theorem dX7_undo_27 : decode cX7_undo 27 = .ok (.getfield 12, 3) := by decide +kernel
theorem dX7_undo_30 : decode cX7_undo 30 = .ok (.iload_n 1, 1) := by decide +kernel
theorem dX7_undo_31 : decode cX7_undo 31 = .ok (.aaload, 1) := by decide +kernel
theorem dX7_undo_32 : decode cX7_undo 32 = .ok (.invokevirtual 109, 3) := by decide +kernel
theorem dX7_undo_35 : decode cX7_undo 35 = .ok (.aload_n 0, 1) := by decide +kernel
theorem dX7_undo_36 : decode cX7_undo 36 = .ok (.getfield 30, 3) := by decide +kernel
theorem dX7_undo_39 : decode cX7_undo 39 = .ok (.iload_n 1, 1) := by decide +kernel
theorem dX7_undo_40 : decode cX7_undo 40 = .ok (.aaload, 1) := by decide +kernel
theorem dX7_undo_41 : decode cX7_undo 41 = .ok (.aload_n 0, 1) := by decide +kernel
theorem dX7_undo_42 : decode cX7_undo 42 = .ok (.getfield 12, 3) := by decide +kernel
theorem dX7_undo_45 : decode cX7_undo 45 = .ok (.iload_n 1, 1) := by decide +kernel
theorem dX7_undo_46 : decode cX7_undo 46 = .ok (.aaload, 1) := by decide +kernel
theorem dX7_undo_47 : decode cX7_undo 47 = .ok (.invokevirtual 112, 3) := by decide +kernel
theorem dX7_undo_50 : decode cX7_undo 50 = .ok (.aload_n 0, 1) := by decide +kernel
theorem dX7_undo_51 : decode cX7_undo 51 = .ok (.invokevirtual 96, 3) := by decide +kernel
theorem dX7_undo_54 : decode cX7_undo 54 = .ok (.aload_n 0, 1) := by decide +kernel
theorem dX7_undo_55 : decode cX7_undo 55 = .ok (.getfield 12, 3) := by decide +kernel
theorem dX7_undo_58 : decode cX7_undo 58 = .ok (.iload_n 1, 1) := by decide +kernel
theorem dX7_undo_59 : decode cX7_undo 59 = .ok (.aaload, 1) := by decide +kernel
theorem dX7_undo_60 : decode cX7_undo 60 = .ok (.invokevirtual 99, 3) := by decide +kernel
theorem dX7_undo_63 : decode cX7_undo 63 = .ok (.ireturn, 1) := by decide +kernel
theorem dX7_fault_0 : decode cX7_fault 0 = .ok (.iload_n 1, 1) := by decide +kernel
theorem dX7_fault_1 : decode cX7_fault 1 = .ok (.iconst 3, 1) := by decide +kernel
theorem dX7_fault_2 : decode cX7_fault 2 = .ok (.invokestatic 82, 3) := by decide +kernel
theorem dX7_fault_5 : decode cX7_fault 5 = .ok (.ifCond .eq 6, 3) := by decide +kernel
theorem dX7_fault_8 : decode cX7_fault 8 = .ok (.bipush (-2), 2) := by decide +kernel
theorem dX7_fault_10 : decode cX7_fault 10 = .ok (.ireturn, 1) := by decide +kernel
theorem dX7_fault_11 : decode cX7_fault 11 = .ok (.aload_n 0, 1) := by decide +kernel
theorem dX7_fault_12 : decode cX7_fault 12 = .ok (.getfield 30, 3) := by decide +kernel
theorem dX7_fault_15 : decode cX7_fault 15 = .ok (.iload_n 1, 1) := by decide +kernel
theorem dX7_fault_16 : decode cX7_fault 16 = .ok (.aaload, 1) := by decide +kernel
theorem dX7_fault_17 : decode cX7_fault 17 = .ok (.invokevirtual 116, 3) := by decide +kernel
theorem dX7_fault_20 : decode cX7_fault 20 = .ok (.ireturn, 1) := by decide +kernel
theorem dX7_matter_0 : decode cX7_matter 0 = .ok (.aload_n 0, 1) := by decide +kernel
theorem dX7_matter_1 : decode cX7_matter 1 = .ok (.iload_n 1, 1) := by decide +kernel
theorem dX7_matter_2 : decode cX7_matter 2 = .ok (.invokevirtual 119, 3) := by decide +kernel
theorem dX7_matter_5 : decode cX7_matter 5 = .ok (.ifCond .ne 12, 3) := by decide +kernel
theorem dX7_matter_8 : decode cX7_matter 8 = .ok (.iload_n 2, 1) := by decide +kernel
theorem dX7_matter_9 : decode cX7_matter 9 = .ok (.bipush 6, 2) := by decide +kernel
theorem dX7_matter_11 : decode cX7_matter 11 = .ok (.invokestatic 82, 3) := by decide +kernel
theorem dX7_matter_14 : decode cX7_matter 14 = .ok (.ifCond .eq 6, 3) := by decide +kernel
theorem dX7_matter_17 : decode cX7_matter 17 = .ok (.bipush (-2), 2) := by decide +kernel
theorem dX7_matter_19 : decode cX7_matter 19 = .ok (.ireturn, 1) := by decide +kernel
theorem dX7_matter_20 : decode cX7_matter 20 = .ok (.aload_n 0, 1) := by decide +kernel
theorem dX7_matter_21 : decode cX7_matter 21 = .ok (.getfield 30, 3) := by decide +kernel
theorem dX7_matter_24 : decode cX7_matter 24 = .ok (.iconst 0, 1) := by decide +kernel
theorem dX7_matter_25 : decode cX7_matter 25 = .ok (.aaload, 1) := by decide +kernel
theorem dX7_matter_26 : decode cX7_matter 26 = .ok (.iload_n 1, 1) := by decide +kernel
theorem dX7_matter_27 : decode cX7_matter 27 = .ok (.iload_n 2, 1) := by decide +kernel
theorem dX7_matter_28 : decode cX7_matter 28 = .ok (.invokevirtual 123, 3) := by decide +kernel
theorem dX7_matter_31 : decode cX7_matter 31 = .ok (.ireturn, 1) := by decide +kernel
theorem dX7_set_0 : decode cX7_set 0 = .ok (.iload_n 1, 1) := by decide +kernel
theorem dX7_set_1 : decode cX7_set 1 = .ok (.iconst 4, 1) := by decide +kernel
theorem dX7_set_2 : decode cX7_set 2 = .ok (.invokestatic 82, 3) := by decide +kernel
theorem dX7_set_5 : decode cX7_set 5 = .ok (.ifCond .ne 21, 3) := by decide +kernel
theorem dX7_set_8 : decode cX7_set 8 = .ok (.iload_n 2, 1) := by decide +kernel
theorem dX7_set_9 : decode cX7_set 9 = .ok (.getstatic 127, 3) := by decide +kernel
theorem dX7_set_12 : decode cX7_set 12 = .ok (.iload_n 1, 1) := by decide +kernel
theorem dX7_set_13 : decode cX7_set 13 = .ok (.iaload, 1) := by decide +kernel
theorem dX7_set_14 : decode cX7_set 14 = .ok (.if_icmp .lt 12, 3) := by decide +kernel
theorem dX7_set_17 : decode cX7_set 17 = .ok (.iload_n 2, 1) := by decide +kernel
theorem dX7_set_18 : decode cX7_set 18 = .ok (.getstatic 130, 3) := by decide +kernel
theorem dX7_set_21 : decode cX7_set 21 = .ok (.iload_n 1, 1) := by decide +kernel
theorem dX7_set_22 : decode cX7_set 22 = .ok (.iaload, 1) := by decide +kernel
theorem dX7_set_23 : decode cX7_set 23 = .ok (.if_icmp .le 6, 3) := by decide +kernel
theorem dX7_set_26 : decode cX7_set 26 = .ok (.bipush (-2), 2) := by decide +kernel
theorem dX7_set_28 : decode cX7_set 28 = .ok (.ireturn, 1) := by decide +kernel
theorem dX7_set_29 : decode cX7_set 29 = .ok (.aload_n 0, 1) := by decide +kernel
theorem dX7_set_30 : decode cX7_set 30 = .ok (.getfield 34, 3) := by decide +kernel
theorem dX7_set_33 : decode cX7_set 33 = .ok (.iload_n 1, 1) := by decide +kernel
theorem dX7_set_34 : decode cX7_set 34 = .ok (.iaload, 1) := by decide +kernel
theorem dX7_set_35 : decode cX7_set 35 = .ok (.istore_n 3, 1) := by decide +kernel
theorem dX7_set_36 : decode cX7_set 36 = .ok (.aload_n 0, 1) := by decide +kernel
theorem dX7_set_37 : decode cX7_set 37 = .ok (.getfield 34, 3) := by decide +kernel
theorem dX7_set_40 : decode cX7_set 40 = .ok (.iload_n 1, 1) := by decide +kernel
theorem dX7_set_41 : decode cX7_set 41 = .ok (.iload_n 2, 1) := by decide +kernel
theorem dX7_set_42 : decode cX7_set 42 = .ok (.iastore, 1) := by decide +kernel
theorem dX7_set_43 : decode cX7_set 43 = .ok (.aload_n 0, 1) := by decide +kernel
theorem dX7_set_44 : decode cX7_set 44 = .ok (.invokevirtual 96, 3) := by decide +kernel
theorem dX7_set_47 : decode cX7_set 47 = .ok (.iload_n 3, 1) := by decide +kernel
theorem dX7_set_48 : decode cX7_set 48 = .ok (.ireturn, 1) := by decide +kernel
theorem dX7_worth_0 : decode cX7_worth 0 = .ok (.iload_n 1, 1) := by decide +kernel
theorem dX7_worth_1 : decode cX7_worth 1 = .ok (.bipush 10, 2) := by decide +kernel
theorem dX7_worth_3 : decode cX7_worth 3 = .ok (.invokestatic 82, 3) := by decide +kernel
theorem dX7_worth_6 : decode cX7_worth 6 = .ok (.ifCond .ne 15, 3) := by decide +kernel
theorem dX7_worth_9 : decode cX7_worth 9 = .ok (.iload_n 2, 1) := by decide +kernel
theorem dX7_worth_10 : decode cX7_worth 10 = .ok (.bipush (-9), 2) := by decide +kernel
theorem dX7_worth_12 : decode cX7_worth 12 = .ok (.if_icmp .lt 9, 3) := by decide +kernel
theorem dX7_worth_15 : decode cX7_worth 15 = .ok (.iload_n 2, 1) := by decide +kernel
theorem dX7_worth_16 : decode cX7_worth 16 = .ok (.bipush 9, 2) := by decide +kernel
theorem dX7_worth_18 : decode cX7_worth 18 = .ok (.if_icmp .le 7, 3) := by decide +kernel
theorem dX7_worth_21 : decode cX7_worth 21 = .ok (.sipush (-1002), 3) := by decide +kernel
theorem dX7_worth_24 : decode cX7_worth 24 = .ok (.ireturn, 1) := by decide +kernel
theorem dX7_worth_25 : decode cX7_worth 25 = .ok (.aload_n 0, 1) := by decide +kernel
theorem dX7_worth_26 : decode cX7_worth 26 = .ok (.getfield 37, 3) := by decide +kernel
theorem dX7_worth_29 : decode cX7_worth 29 = .ok (.iload_n 1, 1) := by decide +kernel
theorem dX7_worth_30 : decode cX7_worth 30 = .ok (.iaload, 1) := by decide +kernel
theorem dX7_worth_31 : decode cX7_worth 31 = .ok (.istore_n 3, 1) := by decide +kernel
theorem dX7_worth_32 : decode cX7_worth 32 = .ok (.aload_n 0, 1) := by decide +kernel
theorem dX7_worth_33 : decode cX7_worth 33 = .ok (.getfield 37, 3) := by decide +kernel
theorem dX7_worth_36 : decode cX7_worth 36 = .ok (.iload_n 1, 1) := by decide +kernel
theorem dX7_worth_37 : decode cX7_worth 37 = .ok (.iload_n 2, 1) := by decide +kernel
theorem dX7_worth_38 : decode cX7_worth 38 = .ok (.iastore, 1) := by decide +kernel
theorem dX7_worth_39 : decode cX7_worth 39 = .ok (.iload_n 3, 1) := by decide +kernel
theorem dX7_worth_40 : decode cX7_worth 40 = .ok (.ireturn, 1) := by decide +kernel
theorem dX7_read_0 : decode cX7_read 0 = .ok (.iload_n 1, 1) := by decide +kernel
theorem dX7_read_1 : decode cX7_read 1 = .ok (.iconst 4, 1) := by decide +kernel
theorem dX7_read_2 : decode cX7_read 2 = .ok (.invokestatic 82, 3) := by decide +kernel
theorem dX7_read_5 : decode cX7_read 5 = .ok (.ifCond .eq 6, 3) := by decide +kernel
theorem dX7_read_8 : decode cX7_read 8 = .ok (.bipush (-2), 2) := by decide +kernel
theorem dX7_read_10 : decode cX7_read 10 = .ok (.ireturn, 1) := by decide +kernel
theorem dX7_read_11 : decode cX7_read 11 = .ok (.aload_n 0, 1) := by decide +kernel
theorem dX7_read_12 : decode cX7_read 12 = .ok (.getfield 78, 3) := by decide +kernel
theorem dX7_read_15 : decode cX7_read 15 = .ok (.iload_n 1, 1) := by decide +kernel
theorem dX7_read_16 : decode cX7_read 16 = .ok (.aaload, 1) := by decide +kernel
theorem dX7_read_17 : decode cX7_read 17 = .ok (.invokevirtual 133, 3) := by decide +kernel
theorem dX7_read_20 : decode cX7_read 20 = .ok (.ifCond .eq 9, 3) := by decide +kernel
theorem dX7_read_23 : decode cX7_read 23 = .ok (.aload_n 0, 1) := by decide +kernel
theorem dX7_read_24 : decode cX7_read 24 = .ok (.iconst 1, 1) := by decide +kernel
theorem dX7_read_25 : decode cX7_read 25 = .ok (.invokevirtual 136, 3) := by decide +kernel
theorem dX7_read_28 : decode cX7_read 28 = .ok (.ireturn, 1) := by decide +kernel
theorem dX7_read_29 : decode cX7_read 29 = .ok (.aload_n 0, 1) := by decide +kernel
theorem dX7_read_30 : decode cX7_read 30 = .ok (.getfield 64, 3) := by decide +kernel
theorem dX7_read_33 : decode cX7_read 33 = .ok (.invokevirtual 140, 3) := by decide +kernel
theorem dX7_read_36 : decode cX7_read 36 = .ok (.istore_n 2, 1) := by decide +kernel
theorem dX7_read_37 : decode cX7_read 37 = .ok (.iconst 0, 1) := by decide +kernel
theorem dX7_read_38 : decode cX7_read 38 = .ok (.istore_n 3, 1) := by decide +kernel
theorem dX7_read_39 : decode cX7_read 39 = .ok (.iload_n 3, 1) := by decide +kernel
theorem dX7_read_40 : decode cX7_read 40 = .ok (.iconst 1, 1) := by decide +kernel
theorem dX7_read_41 : decode cX7_read 41 = .ok (.iadd, 1) := by decide +kernel
theorem dX7_read_42 : decode cX7_read 42 = .ok (.aload_n 0, 1) := by decide +kernel
theorem dX7_read_43 : decode cX7_read 43 = .ok (.getfield 78, 3) := by decide +kernel
theorem dX7_read_46 : decode cX7_read 46 = .ok (.iload_n 1, 1) := by decide +kernel
theorem dX7_read_47 : decode cX7_read 47 = .ok (.aaload, 1) := by decide +kernel
theorem dX7_read_48 : decode cX7_read 48 = .ok (.invokevirtual 143, 3) := by decide +kernel
theorem dX7_read_51 : decode cX7_read 51 = .ok (.if_icmp .ge 69, 3) := by decide +kernel
theorem dX7_read_54 : decode cX7_read 54 = .ok (.aload_n 0, 1) := by decide +kernel
theorem dX7_read_55 : decode cX7_read 55 = .ok (.getfield 78, 3) := by decide +kernel
theorem dX7_read_58 : decode cX7_read 58 = .ok (.iload_n 1, 1) := by decide +kernel
theorem dX7_read_59 : decode cX7_read 59 = .ok (.aaload, 1) := by decide +kernel
theorem dX7_read_60 : decode cX7_read 60 = .ok (.iload_n 3, 1) := by decide +kernel
theorem dX7_read_61 : decode cX7_read 61 = .ok (.invokevirtual 144, 3) := by decide +kernel
theorem dX7_read_64 : decode cX7_read 64 = .ok (.istore 4, 2) := by decide +kernel
theorem dX7_read_66 : decode cX7_read 66 = .ok (.aload_n 0, 1) := by decide +kernel
theorem dX7_read_67 : decode cX7_read 67 = .ok (.getfield 78, 3) := by decide +kernel
theorem dX7_read_70 : decode cX7_read 70 = .ok (.iload_n 1, 1) := by decide +kernel
theorem dX7_read_71 : decode cX7_read 71 = .ok (.aaload, 1) := by decide +kernel
theorem dX7_read_72 : decode cX7_read 72 = .ok (.iload_n 3, 1) := by decide +kernel
theorem dX7_read_73 : decode cX7_read 73 = .ok (.iconst 1, 1) := by decide +kernel
theorem dX7_read_74 : decode cX7_read 74 = .ok (.iadd, 1) := by decide +kernel
theorem dX7_read_75 : decode cX7_read 75 = .ok (.invokevirtual 144, 3) := by decide +kernel
theorem dX7_read_78 : decode cX7_read 78 = .ok (.istore 5, 2) := by decide +kernel
theorem dX7_read_80 : decode cX7_read 80 = .ok (.iload 4, 2) := by decide +kernel
theorem dX7_read_82 : decode cX7_read 82 = .ok (.iload 5, 2) := by decide +kernel
theorem dX7_read_84 : decode cX7_read 84 = .ok (.invokestatic 147, 3) := by decide +kernel
theorem dX7_read_87 : decode cX7_read 87 = .ok (.ifCond .ne 33, 3) := by decide +kernel
theorem dX7_read_90 : decode cX7_read 90 = .ok (.aload_n 0, 1) := by decide +kernel
theorem dX7_read_91 : decode cX7_read 91 = .ok (.getfield 64, 3) := by decide +kernel
theorem dX7_read_94 : decode cX7_read 94 = .ok (.invokevirtual 150, 3) := by decide +kernel
theorem dX7_read_97 : decode cX7_read 97 = .ok (.ifCond .eq 6, 3) := by decide +kernel
theorem dX7_read_100 : decode cX7_read 100 = .ok (.goto 20, 3) := by decide +kernel
theorem dX7_read_103 : decode cX7_read 103 = .ok (.aload_n 0, 1) := by decide +kernel
theorem dX7_read_104 : decode cX7_read 104 = .ok (.getfield 64, 3) := by decide +kernel
theorem dX7_read_107 : decode cX7_read 107 = .ok (.iload 4, 2) := by decide +kernel
theorem dX7_read_109 : decode cX7_read 109 = .ok (.iload 5, 2) := by decide +kernel
theorem dX7_read_111 : decode cX7_read 111 = .ok (.invokevirtual 151, 3) := by decide +kernel
theorem dX7_read_114 : decode cX7_read 114 = .ok (.iinc 3 2, 3) := by decide +kernel
theorem dX7_read_117 : decode cX7_read 117 = .ok (.goto (-78), 3) := by decide +kernel
theorem dX7_read_120 : decode cX7_read 120 = .ok (.aload_n 0, 1) := by decide +kernel
theorem dX7_read_121 : decode cX7_read 121 = .ok (.getfield 64, 3) := by decide +kernel
theorem dX7_read_124 : decode cX7_read 124 = .ok (.invokevirtual 140, 3) := by decide +kernel
theorem dX7_read_127 : decode cX7_read 127 = .ok (.iload_n 2, 1) := by decide +kernel
theorem dX7_read_128 : decode cX7_read 128 = .ok (.isub, 1) := by decide +kernel
theorem dX7_read_129 : decode cX7_read 129 = .ok (.ireturn, 1) := by decide +kernel
theorem dX7_rows_0 : decode cX7_rows 0 = .ok (.iload_n 1, 1) := by decide +kernel
theorem dX7_rows_1 : decode cX7_rows 1 = .ok (.iconst (-1), 1) := by decide +kernel
theorem dX7_rows_2 : decode cX7_rows 2 = .ok (.if_icmp .lt 10, 3) := by decide +kernel
theorem dX7_rows_5 : decode cX7_rows 5 = .ok (.iload_n 1, 1) := by decide +kernel
theorem dX7_rows_6 : decode cX7_rows 6 = .ok (.sipush 1024, 3) := by decide +kernel
theorem dX7_rows_9 : decode cX7_rows 9 = .ok (.if_icmp .lt 6, 3) := by decide +kernel
theorem dX7_rows_12 : decode cX7_rows 12 = .ok (.bipush (-2), 2) := by decide +kernel
theorem dX7_rows_14 : decode cX7_rows 14 = .ok (.ireturn, 1) := by decide +kernel
theorem dX7_rows_15 : decode cX7_rows 15 = .ok (.iload_n 1, 1) := by decide +kernel
theorem dX7_rows_16 : decode cX7_rows 16 = .ok (.iconst (-1), 1) := by decide +kernel
theorem dX7_rows_17 : decode cX7_rows 17 = .ok (.if_icmp .ne 13, 3) := by decide +kernel
theorem dX7_rows_20 : decode cX7_rows 20 = .ok (.aload_n 0, 1) := by decide +kernel
theorem dX7_rows_21 : decode cX7_rows 21 = .ok (.invokevirtual 155, 3) := by decide +kernel
theorem dX7_rows_24 : decode cX7_rows 24 = .ok (.invokevirtual 159, 3) := by decide +kernel
theorem dX7_rows_27 : decode cX7_rows 27 = .ok (.goto 11, 3) := by decide +kernel
theorem dX7_rows_30 : decode cX7_rows 30 = .ok (.aload_n 0, 1) := by decide +kernel
theorem dX7_rows_31 : decode cX7_rows 31 = .ok (.invokevirtual 155, 3) := by decide +kernel
theorem dX7_rows_34 : decode cX7_rows 34 = .ok (.iload_n 1, 1) := by decide +kernel
theorem dX7_rows_35 : decode cX7_rows 35 = .ok (.invokevirtual 160, 3) := by decide +kernel
theorem dX7_rows_38 : decode cX7_rows 38 = .ok (.ireturn, 1) := by decide +kernel
theorem dX7_sure_0 : decode cX7_sure 0 = .ok (.iload_n 1, 1) := by decide +kernel
theorem dX7_sure_1 : decode cX7_sure 1 = .ok (.iconst 2, 1) := by decide +kernel
theorem dX7_sure_2 : decode cX7_sure 2 = .ok (.invokestatic 82, 3) := by decide +kernel
theorem dX7_sure_5 : decode cX7_sure 5 = .ok (.ifCond .eq 6, 3) := by decide +kernel
theorem dX7_sure_8 : decode cX7_sure 8 = .ok (.bipush (-2), 2) := by decide +kernel
theorem dX7_sure_10 : decode cX7_sure 10 = .ok (.ireturn, 1) := by decide +kernel
theorem dX7_sure_11 : decode cX7_sure 11 = .ok (.iload_n 1, 1) := by decide +kernel
theorem dX7_sure_12 : decode cX7_sure 12 = .ok (.iconst 1, 1) := by decide +kernel
theorem dX7_sure_13 : decode cX7_sure 13 = .ok (.if_icmp .ne 13, 3) := by decide +kernel
theorem dX7_sure_16 : decode cX7_sure 16 = .ok (.aload_n 0, 1) := by decide +kernel
theorem dX7_sure_17 : decode cX7_sure 17 = .ok (.invokevirtual 155, 3) := by decide +kernel
theorem dX7_sure_20 : decode cX7_sure 20 = .ok (.invokevirtual 163, 3) := by decide +kernel
theorem dX7_sure_23 : decode cX7_sure 23 = .ok (.goto 10, 3) := by decide +kernel
theorem dX7_sure_26 : decode cX7_sure 26 = .ok (.aload_n 0, 1) := by decide +kernel
theorem dX7_sure_27 : decode cX7_sure 27 = .ok (.invokevirtual 155, 3) := by decide +kernel
theorem dX7_sure_30 : decode cX7_sure 30 = .ok (.invokevirtual 166, 3) := by decide +kernel
theorem dX7_sure_33 : decode cX7_sure 33 = .ok (.ireturn, 1) := by decide +kernel
theorem dX7_cannot_0 : decode cX7_cannot 0 = .ok (.iload_n 1, 1) := by decide +kernel
theorem dX7_cannot_1 : decode cX7_cannot 1 = .ok (.iconst 2, 1) := by decide +kernel
theorem dX7_cannot_2 : decode cX7_cannot 2 = .ok (.invokestatic 82, 3) := by decide +kernel
theorem dX7_cannot_5 : decode cX7_cannot 5 = .ok (.ifCond .eq 6, 3) := by decide +kernel
theorem dX7_cannot_8 : decode cX7_cannot 8 = .ok (.bipush (-2), 2) := by decide +kernel
theorem dX7_cannot_10 : decode cX7_cannot 10 = .ok (.ireturn, 1) := by decide +kernel
theorem dX7_cannot_11 : decode cX7_cannot 11 = .ok (.aload_n 0, 1) := by decide +kernel
theorem dX7_cannot_12 : decode cX7_cannot 12 = .ok (.invokevirtual 155, 3) := by decide +kernel
theorem dX7_cannot_15 : decode cX7_cannot 15 = .ok (.invokevirtual 169, 3) := by decide +kernel
theorem dX7_cannot_18 : decode cX7_cannot 18 = .ok (.istore_n 2, 1) := by decide +kernel
theorem dX7_cannot_19 : decode cX7_cannot 19 = .ok (.iload_n 1, 1) := by decide +kernel
theorem dX7_cannot_20 : decode cX7_cannot 20 = .ok (.iconst 1, 1) := by decide +kernel
theorem dX7_cannot_21 : decode cX7_cannot 21 = .ok (.if_icmp .eq 8, 3) := by decide +kernel
theorem dX7_cannot_24 : decode cX7_cannot 24 = .ok (.iload_n 2, 1) := by decide +kernel
theorem dX7_cannot_25 : decode cX7_cannot 25 = .ok (.iconst (-1), 1) := by decide +kernel
theorem dX7_cannot_26 : decode cX7_cannot 26 = .ok (.if_icmp .ne 7, 3) := by decide +kernel
theorem dX7_cannot_29 : decode cX7_cannot 29 = .ok (.iload_n 2, 1) := by decide +kernel
theorem dX7_cannot_30 : decode cX7_cannot 30 = .ok (.goto 7, 3) := by decide +kernel
theorem dX7_cannot_33 : decode cX7_cannot 33 = .ok (.iload_n 2, 1) := by decide +kernel
theorem dX7_cannot_34 : decode cX7_cannot 34 = .ok (.invokestatic 172, 3) := by decide +kernel
theorem dX7_cannot_37 : decode cX7_cannot 37 = .ok (.ireturn, 1) := by decide +kernel
theorem dX7_freed_0 : decode cX7_freed 0 = .ok (.iload_n 1, 1) := by decide +kernel
theorem dX7_freed_1 : decode cX7_freed 1 = .ok (.iconst 2, 1) := by decide +kernel
theorem dX7_freed_2 : decode cX7_freed 2 = .ok (.invokestatic 82, 3) := by decide +kernel
theorem dX7_freed_5 : decode cX7_freed 5 = .ok (.ifCond .eq 6, 3) := by decide +kernel
theorem dX7_freed_8 : decode cX7_freed 8 = .ok (.bipush (-2), 2) := by decide +kernel
theorem dX7_freed_10 : decode cX7_freed 10 = .ok (.ireturn, 1) := by decide +kernel
theorem dX7_freed_11 : decode cX7_freed 11 = .ok (.aload_n 0, 1) := by decide +kernel
theorem dX7_freed_12 : decode cX7_freed 12 = .ok (.invokevirtual 155, 3) := by decide +kernel
theorem dX7_freed_15 : decode cX7_freed 15 = .ok (.invokevirtual 177, 3) := by decide +kernel
theorem dX7_freed_18 : decode cX7_freed 18 = .ok (.istore_n 2, 1) := by decide +kernel
theorem dX7_freed_19 : decode cX7_freed 19 = .ok (.iload_n 1, 1) := by decide +kernel
theorem dX7_freed_20 : decode cX7_freed 20 = .ok (.iconst 1, 1) := by decide +kernel
theorem dX7_freed_21 : decode cX7_freed 21 = .ok (.if_icmp .ne 7, 3) := by decide +kernel
theorem dX7_freed_24 : decode cX7_freed 24 = .ok (.iload_n 2, 1) := by decide +kernel
theorem dX7_freed_25 : decode cX7_freed 25 = .ok (.goto 7, 3) := by decide +kernel
theorem dX7_freed_28 : decode cX7_freed 28 = .ok (.iload_n 2, 1) := by decide +kernel
theorem dX7_freed_29 : decode cX7_freed 29 = .ok (.invokestatic 172, 3) := by decide +kernel
theorem dX7_freed_32 : decode cX7_freed 32 = .ok (.ireturn, 1) := by decide +kernel
theorem dX7_broken_0 : decode cX7_broken 0 = .ok (.iload_n 1, 1) := by decide +kernel
theorem dX7_broken_1 : decode cX7_broken 1 = .ok (.invokestatic 180, 3) := by decide +kernel
theorem dX7_broken_4 : decode cX7_broken 4 = .ok (.ifCond .eq 6, 3) := by decide +kernel
theorem dX7_broken_7 : decode cX7_broken 7 = .ok (.bipush (-2), 2) := by decide +kernel
theorem dX7_broken_9 : decode cX7_broken 9 = .ok (.ireturn, 1) := by decide +kernel
theorem dX7_broken_10 : decode cX7_broken 10 = .ok (.aload_n 0, 1) := by decide +kernel
theorem dX7_broken_11 : decode cX7_broken 11 = .ok (.invokevirtual 155, 3) := by decide +kernel
theorem dX7_broken_14 : decode cX7_broken 14 = .ok (.iload_n 1, 1) := by decide +kernel
theorem dX7_broken_15 : decode cX7_broken 15 = .ok (.invokevirtual 183, 3) := by decide +kernel
theorem dX7_broken_18 : decode cX7_broken 18 = .ok (.ireturn, 1) := by decide +kernel
theorem dX7_nearest_0 : decode cX7_nearest 0 = .ok (.iload_n 1, 1) := by decide +kernel
theorem dX7_nearest_1 : decode cX7_nearest 1 = .ok (.invokestatic 180, 3) := by decide +kernel
theorem dX7_nearest_4 : decode cX7_nearest 4 = .ok (.ifCond .eq 6, 3) := by decide +kernel
theorem dX7_nearest_7 : decode cX7_nearest 7 = .ok (.bipush (-2), 2) := by decide +kernel
theorem dX7_nearest_9 : decode cX7_nearest 9 = .ok (.ireturn, 1) := by decide +kernel
theorem dX7_nearest_10 : decode cX7_nearest 10 = .ok (.aload_n 0, 1) := by decide +kernel
theorem dX7_nearest_11 : decode cX7_nearest 11 = .ok (.invokevirtual 155, 3) := by decide +kernel
theorem dX7_nearest_14 : decode cX7_nearest 14 = .ok (.iload_n 1, 1) := by decide +kernel
theorem dX7_nearest_15 : decode cX7_nearest 15 = .ok (.invokevirtual 186, 3) := by decide +kernel
theorem dX7_nearest_18 : decode cX7_nearest 18 = .ok (.ireturn, 1) := by decide +kernel
theorem dX7_steps_0 : decode cX7_steps 0 = .ok (.iload_n 1, 1) := by decide +kernel
theorem dX7_steps_1 : decode cX7_steps 1 = .ok (.invokestatic 180, 3) := by decide +kernel
theorem dX7_steps_4 : decode cX7_steps 4 = .ok (.ifCond .ne 13, 3) := by decide +kernel
theorem dX7_steps_7 : decode cX7_steps 7 = .ok (.iload_n 2, 1) := by decide +kernel
theorem dX7_steps_8 : decode cX7_steps 8 = .ok (.ifCond .lt 9, 3) := by decide +kernel
theorem dX7_steps_11 : decode cX7_steps 11 = .ok (.iload_n 2, 1) := by decide +kernel
theorem dX7_steps_12 : decode cX7_steps 12 = .ok (.bipush 99, 2) := by decide +kernel
theorem dX7_steps_14 : decode cX7_steps 14 = .ok (.if_icmp .le 6, 3) := by decide +kernel
theorem dX7_steps_17 : decode cX7_steps 17 = .ok (.bipush (-2), 2) := by decide +kernel
theorem dX7_steps_19 : decode cX7_steps 19 = .ok (.ireturn, 1) := by decide +kernel
theorem dX7_steps_20 : decode cX7_steps 20 = .ok (.aload_n 0, 1) := by decide +kernel
theorem dX7_steps_21 : decode cX7_steps 21 = .ok (.invokevirtual 155, 3) := by decide +kernel
theorem dX7_steps_24 : decode cX7_steps 24 = .ok (.iload_n 1, 1) := by decide +kernel
theorem dX7_steps_25 : decode cX7_steps 25 = .ok (.iload_n 2, 1) := by decide +kernel
theorem dX7_steps_26 : decode cX7_steps 26 = .ok (.invokevirtual 189, 3) := by decide +kernel
theorem dX7_steps_29 : decode cX7_steps 29 = .ok (.ireturn, 1) := by decide +kernel
theorem dX7_returns_0 : decode cX7_returns 0 = .ok (.iload_n 1, 1) := by decide +kernel
theorem dX7_returns_1 : decode cX7_returns 1 = .ok (.invokestatic 180, 3) := by decide +kernel
theorem dX7_returns_4 : decode cX7_returns 4 = .ok (.ifCond .ne 11, 3) := by decide +kernel
theorem dX7_returns_7 : decode cX7_returns 7 = .ok (.iload_n 2, 1) := by decide +kernel
theorem dX7_returns_8 : decode cX7_returns 8 = .ok (.iconst 2, 1) := by decide +kernel
theorem dX7_returns_9 : decode cX7_returns 9 = .ok (.invokestatic 82, 3) := by decide +kernel
theorem dX7_returns_12 : decode cX7_returns 12 = .ok (.ifCond .eq 6, 3) := by decide +kernel
theorem dX7_returns_15 : decode cX7_returns 15 = .ok (.bipush (-2), 2) := by decide +kernel
theorem dX7_returns_17 : decode cX7_returns 17 = .ok (.ireturn, 1) := by decide +kernel
theorem dX7_returns_18 : decode cX7_returns 18 = .ok (.aload_n 0, 1) := by decide +kernel
theorem dX7_returns_19 : decode cX7_returns 19 = .ok (.invokevirtual 155, 3) := by decide +kernel
theorem dX7_returns_22 : decode cX7_returns 22 = .ok (.iload_n 1, 1) := by decide +kernel
theorem dX7_returns_23 : decode cX7_returns 23 = .ok (.iload_n 2, 1) := by decide +kernel
theorem dX7_returns_24 : decode cX7_returns 24 = .ok (.iconst 1, 1) := by decide +kernel
theorem dX7_returns_25 : decode cX7_returns 25 = .ok (.if_icmp .ne 7, 3) := by decide +kernel
theorem dX7_returns_28 : decode cX7_returns 28 = .ok (.iconst 1, 1) := by decide +kernel
theorem dX7_returns_29 : decode cX7_returns 29 = .ok (.goto 4, 3) := by decide +kernel
theorem dX7_returns_32 : decode cX7_returns 32 = .ok (.iconst 0, 1) := by decide +kernel
theorem dX7_returns_33 : decode cX7_returns 33 = .ok (.invokevirtual 192, 3) := by decide +kernel
theorem dX7_returns_36 : decode cX7_returns 36 = .ok (.ireturn, 1) := by decide +kernel
theorem dX7_hangs_0 : decode cX7_hangs 0 = .ok (.aload_n 0, 1) := by decide +kernel
theorem dX7_hangs_1 : decode cX7_hangs 1 = .ok (.iload_n 1, 1) := by decide +kernel
theorem dX7_hangs_2 : decode cX7_hangs 2 = .ok (.invokevirtual 119, 3) := by decide +kernel
theorem dX7_hangs_5 : decode cX7_hangs 5 = .ok (.ifCond .eq 6, 3) := by decide +kernel
theorem dX7_hangs_8 : decode cX7_hangs 8 = .ok (.bipush (-2), 2) := by decide +kernel
theorem dX7_hangs_10 : decode cX7_hangs 10 = .ok (.ireturn, 1) := by decide +kernel
theorem dX7_hangs_11 : decode cX7_hangs 11 = .ok (.aload_n 0, 1) := by decide +kernel
theorem dX7_hangs_12 : decode cX7_hangs 12 = .ok (.invokevirtual 155, 3) := by decide +kernel
theorem dX7_hangs_15 : decode cX7_hangs 15 = .ok (.iload_n 1, 1) := by decide +kernel
theorem dX7_hangs_16 : decode cX7_hangs 16 = .ok (.invokevirtual 196, 3) := by decide +kernel
theorem dX7_hangs_19 : decode cX7_hangs 19 = .ok (.ireturn, 1) := by decide +kernel
theorem dX7_rings_0 : decode cX7_rings 0 = .ok (.aload_n 0, 1) := by decide +kernel
theorem dX7_rings_1 : decode cX7_rings 1 = .ok (.invokevirtual 155, 3) := by decide +kernel
theorem dX7_rings_4 : decode cX7_rings 4 = .ok (.invokevirtual 199, 3) := by decide +kernel
theorem dX7_rings_7 : decode cX7_rings 7 = .ok (.ireturn, 1) := by decide +kernel
theorem dX7_had_0 : decode cX7_had 0 = .ok (.iload_n 1, 1) := by decide +kernel
theorem dX7_had_1 : decode cX7_had 1 = .ok (.invokestatic 180, 3) := by decide +kernel
theorem dX7_had_4 : decode cX7_had 4 = .ok (.ifCond .ne 19, 3) := by decide +kernel
theorem dX7_had_7 : decode cX7_had 7 = .ok (.iload_n 2, 1) := by decide +kernel
theorem dX7_had_8 : decode cX7_had 8 = .ok (.bipush 6, 2) := by decide +kernel
theorem dX7_had_10 : decode cX7_had 10 = .ok (.invokestatic 82, 3) := by decide +kernel
theorem dX7_had_13 : decode cX7_had 13 = .ok (.ifCond .ne 10, 3) := by decide +kernel
theorem dX7_had_16 : decode cX7_had 16 = .ok (.iload_n 3, 1) := by decide +kernel
theorem dX7_had_17 : decode cX7_had 17 = .ok (.invokestatic 202, 3) := by decide +kernel
theorem dX7_had_20 : decode cX7_had 20 = .ok (.ifCond .eq 6, 3) := by decide +kernel
theorem dX7_had_23 : decode cX7_had 23 = .ok (.bipush (-2), 2) := by decide +kernel
theorem dX7_had_25 : decode cX7_had 25 = .ok (.ireturn, 1) := by decide +kernel
theorem dX7_had_26 : decode cX7_had 26 = .ok (.iload_n 1, 1) := by decide +kernel
theorem dX7_had_27 : decode cX7_had 27 = .ok (.aload_n 0, 1) := by decide +kernel
theorem dX7_had_28 : decode cX7_had 28 = .ok (.getfield 30, 3) := by decide +kernel
theorem dX7_had_31 : decode cX7_had 31 = .ok (.iconst 0, 1) := by decide +kernel
theorem dX7_had_32 : decode cX7_had 32 = .ok (.aaload, 1) := by decide +kernel
theorem dX7_had_33 : decode cX7_had 33 = .ok (.iconst 0, 1) := by decide +kernel
theorem dX7_had_34 : decode cX7_had 34 = .ok (.iload_n 2, 1) := by decide +kernel
theorem dX7_had_35 : decode cX7_had 35 = .ok (.invokevirtual 205, 3) := by decide +kernel
theorem dX7_had_38 : decode cX7_had 38 = .ok (.iand, 1) := by decide +kernel
theorem dX7_had_39 : decode cX7_had 39 = .ok (.aload_n 0, 1) := by decide +kernel
theorem dX7_had_40 : decode cX7_had 40 = .ok (.getfield 30, 3) := by decide +kernel
theorem dX7_had_43 : decode cX7_had 43 = .ok (.iconst 0, 1) := by decide +kernel
theorem dX7_had_44 : decode cX7_had 44 = .ok (.aaload, 1) := by decide +kernel
theorem dX7_had_45 : decode cX7_had 45 = .ok (.iload_n 3, 1) := by decide +kernel
theorem dX7_had_46 : decode cX7_had 46 = .ok (.aload_n 0, 1) := by decide +kernel
theorem dX7_had_47 : decode cX7_had 47 = .ok (.getfield 34, 3) := by decide +kernel
theorem dX7_had_50 : decode cX7_had 50 = .ok (.iconst 0, 1) := by decide +kernel
theorem dX7_had_51 : decode cX7_had 51 = .ok (.iaload, 1) := by decide +kernel
theorem dX7_had_52 : decode cX7_had 52 = .ok (.iadd, 1) := by decide +kernel
theorem dX7_had_53 : decode cX7_had 53 = .ok (.invokevirtual 208, 3) := by decide +kernel
theorem dX7_had_56 : decode cX7_had 56 = .ok (.iand, 1) := by decide +kernel
theorem dX7_had_57 : decode cX7_had 57 = .ok (.ireturn, 1) := by decide +kernel
theorem dX7_asked_0 : decode cX7_asked 0 = .ok (.iload_n 1, 1) := by decide +kernel
theorem dX7_asked_1 : decode cX7_asked 1 = .ok (.invokestatic 180, 3) := by decide +kernel
theorem dX7_asked_4 : decode cX7_asked 4 = .ok (.ifCond .ne 19, 3) := by decide +kernel
theorem dX7_asked_7 : decode cX7_asked 7 = .ok (.iload_n 2, 1) := by decide +kernel
theorem dX7_asked_8 : decode cX7_asked 8 = .ok (.bipush 6, 2) := by decide +kernel
theorem dX7_asked_10 : decode cX7_asked 10 = .ok (.invokestatic 82, 3) := by decide +kernel
theorem dX7_asked_13 : decode cX7_asked 13 = .ok (.ifCond .ne 10, 3) := by decide +kernel
theorem dX7_asked_16 : decode cX7_asked 16 = .ok (.iload_n 3, 1) := by decide +kernel
theorem dX7_asked_17 : decode cX7_asked 17 = .ok (.invokestatic 202, 3) := by decide +kernel
theorem dX7_asked_20 : decode cX7_asked 20 = .ok (.ifCond .eq 6, 3) := by decide +kernel
theorem dX7_asked_23 : decode cX7_asked 23 = .ok (.bipush (-2), 2) := by decide +kernel
theorem dX7_asked_25 : decode cX7_asked 25 = .ok (.ireturn, 1) := by decide +kernel
theorem dX7_asked_26 : decode cX7_asked 26 = .ok (.iload_n 1, 1) := by decide +kernel
theorem dX7_asked_27 : decode cX7_asked 27 = .ok (.aload_n 0, 1) := by decide +kernel
theorem dX7_asked_28 : decode cX7_asked 28 = .ok (.getfield 30, 3) := by decide +kernel
theorem dX7_asked_31 : decode cX7_asked 31 = .ok (.iconst 0, 1) := by decide +kernel
theorem dX7_asked_32 : decode cX7_asked 32 = .ok (.aaload, 1) := by decide +kernel
theorem dX7_asked_33 : decode cX7_asked 33 = .ok (.iconst 0, 1) := by decide +kernel
theorem dX7_asked_34 : decode cX7_asked 34 = .ok (.iload_n 2, 1) := by decide +kernel
theorem dX7_asked_35 : decode cX7_asked 35 = .ok (.invokevirtual 205, 3) := by decide +kernel
theorem dX7_asked_38 : decode cX7_asked 38 = .ok (.iand, 1) := by decide +kernel
theorem dX7_asked_39 : decode cX7_asked 39 = .ok (.aload_n 0, 1) := by decide +kernel
theorem dX7_asked_40 : decode cX7_asked 40 = .ok (.getfield 30, 3) := by decide +kernel
theorem dX7_asked_43 : decode cX7_asked 43 = .ok (.iconst 0, 1) := by decide +kernel
theorem dX7_asked_44 : decode cX7_asked 44 = .ok (.aaload, 1) := by decide +kernel
theorem dX7_asked_45 : decode cX7_asked 45 = .ok (.iload_n 3, 1) := by decide +kernel
theorem dX7_asked_46 : decode cX7_asked 46 = .ok (.invokevirtual 208, 3) := by decide +kernel
theorem dX7_asked_49 : decode cX7_asked 49 = .ok (.iand, 1) := by decide +kernel
theorem dX7_asked_50 : decode cX7_asked 50 = .ok (.ireturn, 1) := by decide +kernel
theorem dX7_open_0 : decode cX7_open 0 = .ok (.iload_n 1, 1) := by decide +kernel
theorem dX7_open_1 : decode cX7_open 1 = .ok (.invokestatic 180, 3) := by decide +kernel
theorem dX7_open_4 : decode cX7_open 4 = .ok (.ifCond .ne 10, 3) := by decide +kernel
theorem dX7_open_7 : decode cX7_open 7 = .ok (.iload_n 2, 1) := by decide +kernel
theorem dX7_open_8 : decode cX7_open 8 = .ok (.invokestatic 202, 3) := by decide +kernel
theorem dX7_open_11 : decode cX7_open 11 = .ok (.ifCond .eq 6, 3) := by decide +kernel
theorem dX7_open_14 : decode cX7_open 14 = .ok (.bipush (-2), 2) := by decide +kernel
theorem dX7_open_16 : decode cX7_open 16 = .ok (.ireturn, 1) := by decide +kernel
theorem dX7_open_17 : decode cX7_open 17 = .ok (.iload_n 1, 1) := by decide +kernel
theorem dX7_open_18 : decode cX7_open 18 = .ok (.aload_n 0, 1) := by decide +kernel
theorem dX7_open_19 : decode cX7_open 19 = .ok (.getfield 30, 3) := by decide +kernel
theorem dX7_open_22 : decode cX7_open 22 = .ok (.iconst 0, 1) := by decide +kernel
theorem dX7_open_23 : decode cX7_open 23 = .ok (.aaload, 1) := by decide +kernel
theorem dX7_open_24 : decode cX7_open 24 = .ok (.iload_n 2, 1) := by decide +kernel
theorem dX7_open_25 : decode cX7_open 25 = .ok (.aload_n 0, 1) := by decide +kernel
theorem dX7_open_26 : decode cX7_open 26 = .ok (.getfield 34, 3) := by decide +kernel
theorem dX7_open_29 : decode cX7_open 29 = .ok (.iconst 0, 1) := by decide +kernel
theorem dX7_open_30 : decode cX7_open 30 = .ok (.iaload, 1) := by decide +kernel
theorem dX7_open_31 : decode cX7_open 31 = .ok (.iadd, 1) := by decide +kernel
theorem dX7_open_32 : decode cX7_open 32 = .ok (.invokevirtual 208, 3) := by decide +kernel
theorem dX7_open_35 : decode cX7_open 35 = .ok (.iand, 1) := by decide +kernel
theorem dX7_open_36 : decode cX7_open 36 = .ok (.aload_n 0, 1) := by decide +kernel
theorem dX7_open_37 : decode cX7_open 37 = .ok (.getfield 30, 3) := by decide +kernel
theorem dX7_open_40 : decode cX7_open 40 = .ok (.iconst 0, 1) := by decide +kernel
theorem dX7_open_41 : decode cX7_open 41 = .ok (.aaload, 1) := by decide +kernel
theorem dX7_open_42 : decode cX7_open 42 = .ok (.iload_n 2, 1) := by decide +kernel
theorem dX7_open_43 : decode cX7_open 43 = .ok (.invokevirtual 208, 3) := by decide +kernel
theorem dX7_open_46 : decode cX7_open 46 = .ok (.iconst (-1), 1) := by decide +kernel
theorem dX7_open_47 : decode cX7_open 47 = .ok (.ixor, 1) := by decide +kernel
theorem dX7_open_48 : decode cX7_open 48 = .ok (.iand, 1) := by decide +kernel
theorem dX7_open_49 : decode cX7_open 49 = .ok (.ireturn, 1) := by decide +kernel
theorem dX7_best_0 : decode cX7_best 0 = .ok (.iload_n 1, 1) := by decide +kernel
theorem dX7_best_1 : decode cX7_best 1 = .ok (.bipush 6, 2) := by decide +kernel
theorem dX7_best_3 : decode cX7_best 3 = .ok (.invokestatic 82, 3) := by decide +kernel
theorem dX7_best_6 : decode cX7_best 6 = .ok (.ifCond .ne 11, 3) := by decide +kernel
theorem dX7_best_9 : decode cX7_best 9 = .ok (.iload_n 2, 1) := by decide +kernel
theorem dX7_best_10 : decode cX7_best 10 = .ok (.iconst 2, 1) := by decide +kernel
theorem dX7_best_11 : decode cX7_best 11 = .ok (.invokestatic 82, 3) := by decide +kernel
theorem dX7_best_14 : decode cX7_best 14 = .ok (.ifCond .eq 7, 3) := by decide +kernel
theorem dX7_best_17 : decode cX7_best 17 = .ok (.sipush (-1002), 3) := by decide +kernel
theorem dX7_best_20 : decode cX7_best 20 = .ok (.ireturn, 1) := by decide +kernel
theorem dX7_best_21 : decode cX7_best 21 = .ok (.aload_n 0, 1) := by decide +kernel
theorem dX7_best_22 : decode cX7_best 22 = .ok (.getfield 30, 3) := by decide +kernel
theorem dX7_best_25 : decode cX7_best 25 = .ok (.iconst 0, 1) := by decide +kernel
theorem dX7_best_26 : decode cX7_best 26 = .ok (.aaload, 1) := by decide +kernel
theorem dX7_best_27 : decode cX7_best 27 = .ok (.iconst 0, 1) := by decide +kernel
theorem dX7_best_28 : decode cX7_best 28 = .ok (.iload_n 1, 1) := by decide +kernel
theorem dX7_best_29 : decode cX7_best 29 = .ok (.invokevirtual 205, 3) := by decide +kernel
theorem dX7_best_32 : decode cX7_best 32 = .ok (.istore_n 3, 1) := by decide +kernel
theorem dX7_best_33 : decode cX7_best 33 = .ok (.aload_n 0, 1) := by decide +kernel
theorem dX7_best_34 : decode cX7_best 34 = .ok (.aload_n 0, 1) := by decide +kernel
theorem dX7_best_35 : decode cX7_best 35 = .ok (.invokevirtual 155, 3) := by decide +kernel
theorem dX7_best_38 : decode cX7_best 38 = .ok (.iload_n 3, 1) := by decide +kernel
theorem dX7_best_39 : decode cX7_best 39 = .ok (.invokevirtual 211, 3) := by decide +kernel
theorem dX7_best_42 : decode cX7_best 42 = .ok (.istore 4, 2) := by decide +kernel
theorem dX7_best_44 : decode cX7_best 44 = .ok (.iload_n 2, 1) := by decide +kernel
theorem dX7_best_45 : decode cX7_best 45 = .ok (.iconst 1, 1) := by decide +kernel
theorem dX7_best_46 : decode cX7_best 46 = .ok (.if_icmp .ne 6, 3) := by decide +kernel
theorem dX7_best_49 : decode cX7_best 49 = .ok (.iload 4, 2) := by decide +kernel
theorem dX7_best_51 : decode cX7_best 51 = .ok (.ireturn, 1) := by decide +kernel
theorem dX7_best_52 : decode cX7_best 52 = .ok (.iload 4, 2) := by decide +kernel
theorem dX7_best_54 : decode cX7_best 54 = .ok (.iconst (-1), 1) := by decide +kernel
theorem dX7_best_55 : decode cX7_best 55 = .ok (.if_icmp .ne 9, 3) := by decide +kernel
theorem dX7_best_58 : decode cX7_best 58 = .ok (.sipush (-1003), 3) := by decide +kernel
theorem dX7_best_61 : decode cX7_best 61 = .ok (.goto 10, 3) := by decide +kernel
theorem dX7_best_64 : decode cX7_best 64 = .ok (.aload_n 0, 1) := by decide +kernel
theorem dX7_best_65 : decode cX7_best 65 = .ok (.iload 4, 2) := by decide +kernel
theorem dX7_best_67 : decode cX7_best 67 = .ok (.iload_n 3, 1) := by decide +kernel
theorem dX7_best_68 : decode cX7_best 68 = .ok (.invokevirtual 215, 3) := by decide +kernel
theorem dX7_best_71 : decode cX7_best 71 = .ok (.ireturn, 1) := by decide +kernel
theorem dX7_rest_0 : decode cX7_rest 0 = .ok (.iload_n 1, 1) := by decide +kernel
theorem dX7_rest_1 : decode cX7_rest 1 = .ok (.invokestatic 180, 3) := by decide +kernel
theorem dX7_rest_4 : decode cX7_rest 4 = .ok (.ifCond .ne 12, 3) := by decide +kernel
theorem dX7_rest_7 : decode cX7_rest 7 = .ok (.iload_n 2, 1) := by decide +kernel
theorem dX7_rest_8 : decode cX7_rest 8 = .ok (.bipush 6, 2) := by decide +kernel
theorem dX7_rest_10 : decode cX7_rest 10 = .ok (.invokestatic 82, 3) := by decide +kernel
theorem dX7_rest_13 : decode cX7_rest 13 = .ok (.ifCond .eq 6, 3) := by decide +kernel
theorem dX7_rest_16 : decode cX7_rest 16 = .ok (.bipush (-2), 2) := by decide +kernel
theorem dX7_rest_18 : decode cX7_rest 18 = .ok (.ireturn, 1) := by decide +kernel
theorem dX7_rest_19 : decode cX7_rest 19 = .ok (.aload_n 0, 1) := by decide +kernel
theorem dX7_rest_20 : decode cX7_rest 20 = .ok (.invokevirtual 155, 3) := by decide +kernel
theorem dX7_rest_23 : decode cX7_rest 23 = .ok (.astore_n 3, 1) := by decide +kernel
theorem dX7_rest_24 : decode cX7_rest 24 = .ok (.aload_n 3, 1) := by decide +kernel
theorem dX7_rest_25 : decode cX7_rest 25 = .ok (.iload_n 1, 1) := by decide +kernel
theorem dX7_rest_26 : decode cX7_rest 26 = .ok (.invokevirtual 183, 3) := by decide +kernel
theorem dX7_rest_29 : decode cX7_rest 29 = .ok (.ifCond .eq 6, 3) := by decide +kernel
theorem dX7_rest_32 : decode cX7_rest 32 = .ok (.bipush (-3), 2) := by decide +kernel
theorem dX7_rest_34 : decode cX7_rest 34 = .ok (.ireturn, 1) := by decide +kernel
theorem dX7_rest_35 : decode cX7_rest 35 = .ok (.aload_n 0, 1) := by decide +kernel
theorem dX7_rest_36 : decode cX7_rest 36 = .ok (.aload_n 3, 1) := by decide +kernel
theorem dX7_rest_37 : decode cX7_rest 37 = .ok (.iload_n 1, 1) := by decide +kernel
theorem dX7_rest_38 : decode cX7_rest 38 = .ok (.aload_n 0, 1) := by decide +kernel
theorem dX7_rest_39 : decode cX7_rest 39 = .ok (.getfield 30, 3) := by decide +kernel
theorem dX7_rest_42 : decode cX7_rest 42 = .ok (.iconst 0, 1) := by decide +kernel
theorem dX7_rest_43 : decode cX7_rest 43 = .ok (.aaload, 1) := by decide +kernel
theorem dX7_rest_44 : decode cX7_rest 44 = .ok (.iconst 0, 1) := by decide +kernel
theorem dX7_rest_45 : decode cX7_rest 45 = .ok (.iload_n 2, 1) := by decide +kernel
theorem dX7_rest_46 : decode cX7_rest 46 = .ok (.invokevirtual 205, 3) := by decide +kernel
theorem dX7_rest_49 : decode cX7_rest 49 = .ok (.invokevirtual 218, 3) := by decide +kernel
theorem dX7_rest_52 : decode cX7_rest 52 = .ok (.ifCond .eq 7, 3) := by decide +kernel
theorem dX7_rest_55 : decode cX7_rest 55 = .ok (.iconst 0, 1) := by decide +kernel
theorem dX7_rest_56 : decode cX7_rest 56 = .ok (.goto 4, 3) := by decide +kernel
theorem dX7_rest_59 : decode cX7_rest 59 = .ok (.iconst 1, 1) := by decide +kernel
theorem dX7_rest_60 : decode cX7_rest 60 = .ok (.ireturn, 1) := by decide +kernel
theorem dX7_owed_0 : decode cX7_owed 0 = .ok (.iload_n 1, 1) := by decide +kernel
theorem dX7_owed_1 : decode cX7_owed 1 = .ok (.iconst (-1), 1) := by decide +kernel
theorem dX7_owed_2 : decode cX7_owed 2 = .ok (.if_icmp .eq 15, 3) := by decide +kernel
theorem dX7_owed_5 : decode cX7_owed 5 = .ok (.iload_n 1, 1) := by decide +kernel
theorem dX7_owed_6 : decode cX7_owed 6 = .ok (.bipush 6, 2) := by decide +kernel
theorem dX7_owed_8 : decode cX7_owed 8 = .ok (.invokestatic 82, 3) := by decide +kernel
theorem dX7_owed_11 : decode cX7_owed 11 = .ok (.ifCond .eq 6, 3) := by decide +kernel
theorem dX7_owed_14 : decode cX7_owed 14 = .ok (.bipush (-2), 2) := by decide +kernel
theorem dX7_owed_16 : decode cX7_owed 16 = .ok (.ireturn, 1) := by decide +kernel
theorem dX7_owed_17 : decode cX7_owed 17 = .ok (.iload_n 1, 1) := by decide +kernel
theorem dX7_owed_18 : decode cX7_owed 18 = .ok (.iconst (-1), 1) := by decide +kernel
theorem dX7_owed_19 : decode cX7_owed 19 = .ok (.if_icmp .ne 9, 3) := by decide +kernel
theorem dX7_owed_22 : decode cX7_owed 22 = .ok (.sipush 1023, 3) := by decide +kernel
theorem dX7_owed_25 : decode cX7_owed 25 = .ok (.goto 14, 3) := by decide +kernel
theorem dX7_owed_28 : decode cX7_owed 28 = .ok (.aload_n 0, 1) := by decide +kernel
theorem dX7_owed_29 : decode cX7_owed 29 = .ok (.getfield 30, 3) := by decide +kernel
theorem dX7_owed_32 : decode cX7_owed 32 = .ok (.iconst 1, 1) := by decide +kernel
theorem dX7_owed_33 : decode cX7_owed 33 = .ok (.aaload, 1) := by decide +kernel
theorem dX7_owed_34 : decode cX7_owed 34 = .ok (.iconst 1, 1) := by decide +kernel
theorem dX7_owed_35 : decode cX7_owed 35 = .ok (.iload_n 1, 1) := by decide +kernel
theorem dX7_owed_36 : decode cX7_owed 36 = .ok (.invokevirtual 205, 3) := by decide +kernel
theorem dX7_owed_39 : decode cX7_owed 39 = .ok (.istore_n 2, 1) := by decide +kernel
theorem dX7_owed_40 : decode cX7_owed 40 = .ok (.aload_n 0, 1) := by decide +kernel
theorem dX7_owed_41 : decode cX7_owed 41 = .ok (.invokevirtual 222, 3) := by decide +kernel
theorem dX7_owed_44 : decode cX7_owed 44 = .ok (.iload_n 2, 1) := by decide +kernel
theorem dX7_owed_45 : decode cX7_owed 45 = .ok (.invokevirtual 226, 3) := by decide +kernel
theorem dX7_owed_48 : decode cX7_owed 48 = .ok (.ireturn, 1) := by decide +kernel
theorem dX7_lack_0 : decode cX7_lack 0 = .ok (.aload_n 0, 1) := by decide +kernel
theorem dX7_lack_1 : decode cX7_lack 1 = .ok (.invokevirtual 222, 3) := by decide +kernel
theorem dX7_lack_4 : decode cX7_lack 4 = .ok (.invokevirtual 229, 3) := by decide +kernel
theorem dX7_lack_7 : decode cX7_lack 7 = .ok (.ireturn, 1) := by decide +kernel
theorem dX7_unasked_0 : decode cX7_unasked 0 = .ok (.aload_n 0, 1) := by decide +kernel
theorem dX7_unasked_1 : decode cX7_unasked 1 = .ok (.invokevirtual 222, 3) := by decide +kernel
theorem dX7_unasked_4 : decode cX7_unasked 4 = .ok (.invokevirtual 232, 3) := by decide +kernel
theorem dX7_unasked_7 : decode cX7_unasked 7 = .ok (.ireturn, 1) := by decide +kernel
theorem dX7_fines_0 : decode cX7_fines 0 = .ok (.iload_n 1, 1) := by decide +kernel
theorem dX7_fines_1 : decode cX7_fines 1 = .ok (.bipush 6, 2) := by decide +kernel
theorem dX7_fines_3 : decode cX7_fines 3 = .ok (.invokestatic 82, 3) := by decide +kernel
theorem dX7_fines_6 : decode cX7_fines 6 = .ok (.ifCond .eq 6, 3) := by decide +kernel
theorem dX7_fines_9 : decode cX7_fines 9 = .ok (.bipush (-2), 2) := by decide +kernel
theorem dX7_fines_11 : decode cX7_fines 11 = .ok (.ireturn, 1) := by decide +kernel
theorem dX7_fines_12 : decode cX7_fines 12 = .ok (.aload_n 0, 1) := by decide +kernel
theorem dX7_fines_13 : decode cX7_fines 13 = .ok (.invokevirtual 222, 3) := by decide +kernel
theorem dX7_fines_16 : decode cX7_fines 16 = .ok (.aload_n 0, 1) := by decide +kernel
theorem dX7_fines_17 : decode cX7_fines 17 = .ok (.getfield 30, 3) := by decide +kernel
theorem dX7_fines_20 : decode cX7_fines 20 = .ok (.iconst 1, 1) := by decide +kernel
theorem dX7_fines_21 : decode cX7_fines 21 = .ok (.aaload, 1) := by decide +kernel
theorem dX7_fines_22 : decode cX7_fines 22 = .ok (.iconst 1, 1) := by decide +kernel
theorem dX7_fines_23 : decode cX7_fines 23 = .ok (.iload_n 1, 1) := by decide +kernel
theorem dX7_fines_24 : decode cX7_fines 24 = .ok (.invokevirtual 205, 3) := by decide +kernel
theorem dX7_fines_27 : decode cX7_fines 27 = .ok (.invokevirtual 226, 3) := by decide +kernel
theorem dX7_fines_30 : decode cX7_fines 30 = .ok (.aload_n 0, 1) := by decide +kernel
theorem dX7_fines_31 : decode cX7_fines 31 = .ok (.getfield 34, 3) := by decide +kernel
theorem dX7_fines_34 : decode cX7_fines 34 = .ok (.iconst 2, 1) := by decide +kernel
theorem dX7_fines_35 : decode cX7_fines 35 = .ok (.iaload, 1) := by decide +kernel
theorem dX7_fines_36 : decode cX7_fines 36 = .ok (.imul, 1) := by decide +kernel
theorem dX7_fines_37 : decode cX7_fines 37 = .ok (.ireturn, 1) := by decide +kernel
theorem dX7_seen_0 : decode cX7_seen 0 = .ok (.iload_n 1, 1) := by decide +kernel
theorem dX7_seen_1 : decode cX7_seen 1 = .ok (.iload_n 2, 1) := by decide +kernel
theorem dX7_seen_2 : decode cX7_seen 2 = .ok (.invokestatic 147, 3) := by decide +kernel
theorem dX7_seen_5 : decode cX7_seen 5 = .ok (.ifCond .eq 6, 3) := by decide +kernel
theorem dX7_seen_8 : decode cX7_seen 8 = .ok (.bipush (-2), 2) := by decide +kernel
theorem dX7_seen_10 : decode cX7_seen 10 = .ok (.ireturn, 1) := by decide +kernel
theorem dX7_seen_11 : decode cX7_seen 11 = .ok (.aload_n 0, 1) := by decide +kernel
theorem dX7_seen_12 : decode cX7_seen 12 = .ok (.getfield 64, 3) := by decide +kernel
theorem dX7_seen_15 : decode cX7_seen 15 = .ok (.invokevirtual 150, 3) := by decide +kernel
theorem dX7_seen_18 : decode cX7_seen 18 = .ok (.ifCond .eq 6, 3) := by decide +kernel
theorem dX7_seen_21 : decode cX7_seen 21 = .ok (.bipush (-4), 2) := by decide +kernel
theorem dX7_seen_23 : decode cX7_seen 23 = .ok (.ireturn, 1) := by decide +kernel
theorem dX7_seen_24 : decode cX7_seen 24 = .ok (.aload_n 0, 1) := by decide +kernel
theorem dX7_seen_25 : decode cX7_seen 25 = .ok (.getfield 64, 3) := by decide +kernel
theorem dX7_seen_28 : decode cX7_seen 28 = .ok (.iload_n 1, 1) := by decide +kernel
theorem dX7_seen_29 : decode cX7_seen 29 = .ok (.iload_n 2, 1) := by decide +kernel
theorem dX7_seen_30 : decode cX7_seen 30 = .ok (.invokevirtual 151, 3) := by decide +kernel
theorem dX7_seen_33 : decode cX7_seen 33 = .ok (.aload_n 0, 1) := by decide +kernel
theorem dX7_seen_34 : decode cX7_seen 34 = .ok (.getfield 64, 3) := by decide +kernel
theorem dX7_seen_37 : decode cX7_seen 37 = .ok (.invokevirtual 140, 3) := by decide +kernel
theorem dX7_seen_40 : decode cX7_seen 40 = .ok (.ireturn, 1) := by decide +kernel
theorem dX7_forget_0 : decode cX7_forget 0 = .ok (.aload_n 0, 1) := by decide +kernel
theorem dX7_forget_1 : decode cX7_forget 1 = .ok (.getfield 64, 3) := by decide +kernel
theorem dX7_forget_4 : decode cX7_forget 4 = .ok (.invokevirtual 140, 3) := by decide +kernel
theorem dX7_forget_7 : decode cX7_forget 7 = .ok (.istore_n 1, 1) := by decide +kernel
theorem dX7_forget_8 : decode cX7_forget 8 = .ok (.aload_n 0, 1) := by decide +kernel
theorem dX7_forget_9 : decode cX7_forget 9 = .ok (.getfield 64, 3) := by decide +kernel
theorem dX7_forget_12 : decode cX7_forget 12 = .ok (.invokevirtual 235, 3) := by decide +kernel
theorem dX7_forget_15 : decode cX7_forget 15 = .ok (.iload_n 1, 1) := by decide +kernel
theorem dX7_forget_16 : decode cX7_forget 16 = .ok (.ireturn, 1) := by decide +kernel
theorem dX7_refused_0 : decode cX7_refused 0 = .ok (.iload_n 1, 1) := by decide +kernel
theorem dX7_refused_1 : decode cX7_refused 1 = .ok (.iconst 2, 1) := by decide +kernel
theorem dX7_refused_2 : decode cX7_refused 2 = .ok (.invokestatic 82, 3) := by decide +kernel
theorem dX7_refused_5 : decode cX7_refused 5 = .ok (.ifCond .eq 6, 3) := by decide +kernel
theorem dX7_refused_8 : decode cX7_refused 8 = .ok (.bipush (-2), 2) := by decide +kernel
theorem dX7_refused_10 : decode cX7_refused 10 = .ok (.ireturn, 1) := by decide +kernel
theorem dX7_refused_11 : decode cX7_refused 11 = .ok (.aload_n 0, 1) := by decide +kernel
theorem dX7_refused_12 : decode cX7_refused 12 = .ok (.invokevirtual 155, 3) := by decide +kernel
theorem dX7_refused_15 : decode cX7_refused 15 = .ok (.astore_n 2, 1) := by decide +kernel
theorem dX7_refused_16 : decode cX7_refused 16 = .ok (.iconst 0, 1) := by decide +kernel
theorem dX7_refused_17 : decode cX7_refused 17 = .ok (.istore_n 3, 1) := by decide +kernel
theorem dX7_refused_18 : decode cX7_refused 18 = .ok (.aload_n 0, 1) := by decide +kernel
theorem dX7_refused_19 : decode cX7_refused 19 = .ok (.getfield 30, 3) := by decide +kernel
theorem dX7_refused_22 : decode cX7_refused 22 = .ok (.iconst 0, 1) := by decide +kernel
theorem dX7_refused_23 : decode cX7_refused 23 = .ok (.aaload, 1) := by decide +kernel
theorem dX7_refused_24 : decode cX7_refused 24 = .ok (.iconst 3, 1) := by decide +kernel
theorem dX7_refused_25 : decode cX7_refused 25 = .ok (.iconst 0, 1) := by decide +kernel
theorem dX7_refused_26 : decode cX7_refused 26 = .ok (.invokevirtual 205, 3) := by decide +kernel
theorem dX7_refused_29 : decode cX7_refused 29 = .ok (.istore 4, 2) := by decide +kernel
theorem dX7_refused_31 : decode cX7_refused 31 = .ok (.iconst 0, 1) := by decide +kernel
theorem dX7_refused_32 : decode cX7_refused 32 = .ok (.istore 5, 2) := by decide +kernel
theorem dX7_refused_34 : decode cX7_refused 34 = .ok (.iload 5, 2) := by decide +kernel
theorem dX7_refused_36 : decode cX7_refused 36 = .ok (.aload_n 2, 1) := by decide +kernel
theorem dX7_refused_37 : decode cX7_refused 37 = .ok (.invokevirtual 159, 3) := by decide +kernel
theorem dX7_refused_40 : decode cX7_refused 40 = .ok (.if_icmp .ge 39, 3) := by decide +kernel
theorem dX7_refused_43 : decode cX7_refused 43 = .ok (.aload_n 2, 1) := by decide +kernel
theorem dX7_refused_44 : decode cX7_refused 44 = .ok (.iload 5, 2) := by decide +kernel
theorem dX7_refused_46 : decode cX7_refused 46 = .ok (.invokevirtual 160, 3) := by decide +kernel
theorem dX7_refused_49 : decode cX7_refused 49 = .ok (.istore 6, 2) := by decide +kernel
theorem dX7_refused_51 : decode cX7_refused 51 = .ok (.aload_n 0, 1) := by decide +kernel
theorem dX7_refused_52 : decode cX7_refused 52 = .ok (.getfield 64, 3) := by decide +kernel
theorem dX7_refused_55 : decode cX7_refused 55 = .ok (.iload 6, 2) := by decide +kernel
theorem dX7_refused_57 : decode cX7_refused 57 = .ok (.invokevirtual 236, 3) := by decide +kernel
theorem dX7_refused_60 : decode cX7_refused 60 = .ok (.ifCond .eq 13, 3) := by decide +kernel
theorem dX7_refused_63 : decode cX7_refused 63 = .ok (.iinc 3 1, 3) := by decide +kernel
theorem dX7_refused_66 : decode cX7_refused 66 = .ok (.iload 4, 2) := by decide +kernel
theorem dX7_refused_68 : decode cX7_refused 68 = .ok (.iload 6, 2) := by decide +kernel
theorem dX7_refused_70 : decode cX7_refused 70 = .ok (.iand, 1) := by decide +kernel
theorem dX7_refused_71 : decode cX7_refused 71 = .ok (.istore 4, 2) := by decide +kernel
theorem dX7_refused_73 : decode cX7_refused 73 = .ok (.iinc 5 1, 3) := by decide +kernel
theorem dX7_refused_76 : decode cX7_refused 76 = .ok (.goto (-42), 3) := by decide +kernel
theorem dX7_refused_79 : decode cX7_refused 79 = .ok (.iload_n 1, 1) := by decide +kernel
theorem dX7_refused_80 : decode cX7_refused 80 = .ok (.ifCond .ne 5, 3) := by decide +kernel
theorem dX7_refused_83 : decode cX7_refused 83 = .ok (.iload_n 3, 1) := by decide +kernel
theorem dX7_refused_84 : decode cX7_refused 84 = .ok (.ireturn, 1) := by decide +kernel
theorem dX7_refused_85 : decode cX7_refused 85 = .ok (.iload_n 3, 1) := by decide +kernel
theorem dX7_refused_86 : decode cX7_refused 86 = .ok (.ifCond .ne 7, 3) := by decide +kernel
theorem dX7_refused_89 : decode cX7_refused 89 = .ok (.iconst 0, 1) := by decide +kernel
theorem dX7_refused_90 : decode cX7_refused 90 = .ok (.goto 5, 3) := by decide +kernel
theorem dX7_refused_93 : decode cX7_refused 93 = .ok (.iload 4, 2) := by decide +kernel
theorem dX7_refused_95 : decode cX7_refused 95 = .ok (.ireturn, 1) := by decide +kernel
theorem dX7_lot_0 : decode cX7_lot 0 = .ok (.iload_n 2, 1) := by decide +kernel
theorem dX7_lot_1 : decode cX7_lot 1 = .ok (.ifCond .lt 9, 3) := by decide +kernel
theorem dX7_lot_4 : decode cX7_lot 4 = .ok (.iload_n 2, 1) := by decide +kernel
theorem dX7_lot_5 : decode cX7_lot 5 = .ok (.bipush 99, 2) := by decide +kernel
theorem dX7_lot_7 : decode cX7_lot 7 = .ok (.if_icmp .le 6, 3) := by decide +kernel
theorem dX7_lot_10 : decode cX7_lot 10 = .ok (.bipush (-2), 2) := by decide +kernel
theorem dX7_lot_12 : decode cX7_lot 12 = .ok (.ireturn, 1) := by decide +kernel
theorem dX7_lot_13 : decode cX7_lot 13 = .ok (.aload_n 0, 1) := by decide +kernel
theorem dX7_lot_14 : decode cX7_lot 14 = .ok (.getfield 30, 3) := by decide +kernel
theorem dX7_lot_17 : decode cX7_lot 17 = .ok (.iconst 0, 1) := by decide +kernel
theorem dX7_lot_18 : decode cX7_lot 18 = .ok (.aaload, 1) := by decide +kernel
theorem dX7_lot_19 : decode cX7_lot 19 = .ok (.invokevirtual 239, 3) := by decide +kernel
theorem dX7_lot_22 : decode cX7_lot 22 = .ok (.istore_n 3, 1) := by decide +kernel
theorem dX7_lot_23 : decode cX7_lot 23 = .ok (.aload_n 0, 1) := by decide +kernel
theorem dX7_lot_24 : decode cX7_lot 24 = .ok (.getfield 71, 3) := by decide +kernel
theorem dX7_lot_27 : decode cX7_lot 27 = .ok (.iload_n 1, 1) := by decide +kernel
theorem dX7_lot_28 : decode cX7_lot 28 = .ok (.invokevirtual 240, 3) := by decide +kernel
theorem dX7_lot_31 : decode cX7_lot 31 = .ok (.iload_n 2, 1) := by decide +kernel
theorem dX7_lot_32 : decode cX7_lot 32 = .ok (.ifCond .ne 12, 3) := by decide +kernel
theorem dX7_lot_35 : decode cX7_lot 35 = .ok (.aload_n 0, 1) := by decide +kernel
theorem dX7_lot_36 : decode cX7_lot 36 = .ok (.getfield 71, 3) := by decide +kernel
theorem dX7_lot_39 : decode cX7_lot 39 = .ok (.iload_n 3, 1) := by decide +kernel
theorem dX7_lot_40 : decode cX7_lot 40 = .ok (.invokevirtual 243, 3) := by decide +kernel
theorem dX7_lot_43 : decode cX7_lot 43 = .ok (.ireturn, 1) := by decide +kernel
theorem dX7_lot_44 : decode cX7_lot 44 = .ok (.iconst 0, 1) := by decide +kernel
theorem dX7_lot_45 : decode cX7_lot 45 = .ok (.istore 4, 2) := by decide +kernel
theorem dX7_lot_47 : decode cX7_lot 47 = .ok (.iconst 0, 1) := by decide +kernel
theorem dX7_lot_48 : decode cX7_lot 48 = .ok (.istore 5, 2) := by decide +kernel
theorem dX7_lot_50 : decode cX7_lot 50 = .ok (.iload 5, 2) := by decide +kernel
theorem dX7_lot_52 : decode cX7_lot 52 = .ok (.iload_n 2, 1) := by decide +kernel
theorem dX7_lot_53 : decode cX7_lot 53 = .ok (.if_icmp .ge 30, 3) := by decide +kernel
theorem dX7_lot_56 : decode cX7_lot 56 = .ok (.aload_n 0, 1) := by decide +kernel
theorem dX7_lot_57 : decode cX7_lot 57 = .ok (.invokevirtual 155, 3) := by decide +kernel
theorem dX7_lot_60 : decode cX7_lot 60 = .ok (.aload_n 0, 1) := by decide +kernel
theorem dX7_lot_61 : decode cX7_lot 61 = .ok (.getfield 71, 3) := by decide +kernel
theorem dX7_lot_64 : decode cX7_lot 64 = .ok (.iload_n 3, 1) := by decide +kernel
theorem dX7_lot_65 : decode cX7_lot 65 = .ok (.invokevirtual 243, 3) := by decide +kernel
theorem dX7_lot_68 : decode cX7_lot 68 = .ok (.invokevirtual 183, 3) := by decide +kernel
theorem dX7_lot_71 : decode cX7_lot 71 = .ok (.ifCond .ne 6, 3) := by decide +kernel
theorem dX7_lot_74 : decode cX7_lot 74 = .ok (.iinc 4 1, 3) := by decide +kernel
theorem dX7_lot_77 : decode cX7_lot 77 = .ok (.iinc 5 1, 3) := by decide +kernel
theorem dX7_lot_80 : decode cX7_lot 80 = .ok (.goto (-30), 3) := by decide +kernel
theorem dX7_lot_83 : decode cX7_lot 83 = .ok (.iload 4, 2) := by decide +kernel
theorem dX7_lot_85 : decode cX7_lot 85 = .ok (.ireturn, 1) := by decide +kernel
theorem dX7_sheet_0 : decode cX7_sheet 0 = .ok (.iload_n 1, 1) := by decide +kernel
theorem dX7_sheet_1 : decode cX7_sheet 1 = .ok (.iconst 4, 1) := by decide +kernel
theorem dX7_sheet_2 : decode cX7_sheet 2 = .ok (.invokestatic 82, 3) := by decide +kernel
theorem dX7_sheet_5 : decode cX7_sheet 5 = .ok (.ifCond .ne 17, 3) := by decide +kernel
theorem dX7_sheet_8 : decode cX7_sheet 8 = .ok (.iload_n 2, 1) := by decide +kernel
theorem dX7_sheet_9 : decode cX7_sheet 9 = .ok (.iconst 3, 1) := by decide +kernel
theorem dX7_sheet_10 : decode cX7_sheet 10 = .ok (.invokestatic 82, 3) := by decide +kernel
theorem dX7_sheet_13 : decode cX7_sheet 13 = .ok (.ifCond .ne 9, 3) := by decide +kernel
theorem dX7_sheet_16 : decode cX7_sheet 16 = .ok (.iload_n 3, 1) := by decide +kernel
theorem dX7_sheet_17 : decode cX7_sheet 17 = .ok (.bipush 48, 2) := by decide +kernel
theorem dX7_sheet_19 : decode cX7_sheet 19 = .ok (.if_icmp .le 6, 3) := by decide +kernel
theorem dX7_sheet_22 : decode cX7_sheet 22 = .ok (.bipush (-2), 2) := by decide +kernel
theorem dX7_sheet_24 : decode cX7_sheet 24 = .ok (.ireturn, 1) := by decide +kernel
theorem dX7_sheet_25 : decode cX7_sheet 25 = .ok (.iload_n 3, 1) := by decide +kernel
theorem dX7_sheet_26 : decode cX7_sheet 26 = .ok (.ifCond .ge 9, 3) := by decide +kernel
theorem dX7_sheet_29 : decode cX7_sheet 29 = .ok (.aload_n 0, 1) := by decide +kernel
theorem dX7_sheet_30 : decode cX7_sheet 30 = .ok (.iconst 5, 1) := by decide +kernel
theorem dX7_sheet_31 : decode cX7_sheet 31 = .ok (.invokevirtual 136, 3) := by decide +kernel
theorem dX7_sheet_34 : decode cX7_sheet 34 = .ok (.ireturn, 1) := by decide +kernel
theorem dX7_sheet_35 : decode cX7_sheet 35 = .ok (.aload_n 0, 1) := by decide +kernel
theorem dX7_sheet_36 : decode cX7_sheet 36 = .ok (.getfield 78, 3) := by decide +kernel
theorem dX7_sheet_39 : decode cX7_sheet 39 = .ok (.iload_n 1, 1) := by decide +kernel
theorem dX7_sheet_40 : decode cX7_sheet 40 = .ok (.aaload, 1) := by decide +kernel
theorem dX7_sheet_41 : decode cX7_sheet 41 = .ok (.iload_n 2, 1) := by decide +kernel
theorem dX7_sheet_42 : decode cX7_sheet 42 = .ok (.iload_n 3, 1) := by decide +kernel
theorem dX7_sheet_43 : decode cX7_sheet 43 = .ok (.invokevirtual 246, 3) := by decide +kernel
theorem dX7_sheet_46 : decode cX7_sheet 46 = .ok (.iload_n 3, 1) := by decide +kernel
theorem dX7_sheet_47 : decode cX7_sheet 47 = .ok (.ireturn, 1) := by decide +kernel
theorem dX7_lose_0 : decode cX7_lose 0 = .ok (.iload_n 1, 1) := by decide +kernel
theorem dX7_lose_1 : decode cX7_lose 1 = .ok (.iconst 4, 1) := by decide +kernel
theorem dX7_lose_2 : decode cX7_lose 2 = .ok (.invokestatic 82, 3) := by decide +kernel
theorem dX7_lose_5 : decode cX7_lose 5 = .ok (.ifCond .eq 6, 3) := by decide +kernel
theorem dX7_lose_8 : decode cX7_lose 8 = .ok (.bipush (-2), 2) := by decide +kernel
theorem dX7_lose_10 : decode cX7_lose 10 = .ok (.ireturn, 1) := by decide +kernel
theorem dX7_lose_11 : decode cX7_lose 11 = .ok (.aload_n 0, 1) := by decide +kernel
theorem dX7_lose_12 : decode cX7_lose 12 = .ok (.getfield 78, 3) := by decide +kernel
theorem dX7_lose_15 : decode cX7_lose 15 = .ok (.iload_n 1, 1) := by decide +kernel
theorem dX7_lose_16 : decode cX7_lose 16 = .ok (.aaload, 1) := by decide +kernel
theorem dX7_lose_17 : decode cX7_lose 17 = .ok (.invokevirtual 133, 3) := by decide +kernel
theorem dX7_lose_20 : decode cX7_lose 20 = .ok (.ifCond .eq 9, 3) := by decide +kernel
theorem dX7_lose_23 : decode cX7_lose 23 = .ok (.aload_n 0, 1) := by decide +kernel
theorem dX7_lose_24 : decode cX7_lose 24 = .ok (.iconst 1, 1) := by decide +kernel
theorem dX7_lose_25 : decode cX7_lose 25 = .ok (.invokevirtual 136, 3) := by decide +kernel
theorem dX7_lose_28 : decode cX7_lose 28 = .ok (.ireturn, 1) := by decide +kernel
theorem dX7_lose_29 : decode cX7_lose 29 = .ok (.aload_n 0, 1) := by decide +kernel
theorem dX7_lose_30 : decode cX7_lose 30 = .ok (.getfield 78, 3) := by decide +kernel
theorem dX7_lose_33 : decode cX7_lose 33 = .ok (.iload_n 1, 1) := by decide +kernel
theorem dX7_lose_34 : decode cX7_lose 34 = .ok (.aaload, 1) := by decide +kernel
theorem dX7_lose_35 : decode cX7_lose 35 = .ok (.invokevirtual 143, 3) := by decide +kernel
theorem dX7_lose_38 : decode cX7_lose 38 = .ok (.istore_n 2, 1) := by decide +kernel
theorem dX7_lose_39 : decode cX7_lose 39 = .ok (.aload_n 0, 1) := by decide +kernel
theorem dX7_lose_40 : decode cX7_lose 40 = .ok (.getfield 78, 3) := by decide +kernel
theorem dX7_lose_43 : decode cX7_lose 43 = .ok (.iload_n 1, 1) := by decide +kernel
theorem dX7_lose_44 : decode cX7_lose 44 = .ok (.aaload, 1) := by decide +kernel
theorem dX7_lose_45 : decode cX7_lose 45 = .ok (.invokevirtual 248, 3) := by decide +kernel
theorem dX7_lose_48 : decode cX7_lose 48 = .ok (.iload_n 2, 1) := by decide +kernel
theorem dX7_lose_49 : decode cX7_lose 49 = .ok (.ireturn, 1) := by decide +kernel
theorem dX7_put_0 : decode cX7_put 0 = .ok (.iload_n 1, 1) := by decide +kernel
theorem dX7_put_1 : decode cX7_put 1 = .ok (.iconst 4, 1) := by decide +kernel
theorem dX7_put_2 : decode cX7_put 2 = .ok (.invokestatic 82, 3) := by decide +kernel
theorem dX7_put_5 : decode cX7_put 5 = .ok (.ifCond .eq 6, 3) := by decide +kernel
theorem dX7_put_8 : decode cX7_put 8 = .ok (.bipush (-2), 2) := by decide +kernel
theorem dX7_put_10 : decode cX7_put 10 = .ok (.ireturn, 1) := by decide +kernel
theorem dX7_put_11 : decode cX7_put 11 = .ok (.aload_n 0, 1) := by decide +kernel
theorem dX7_put_12 : decode cX7_put 12 = .ok (.aload_n 0, 1) := by decide +kernel
theorem dX7_put_13 : decode cX7_put 13 = .ok (.getfield 78, 3) := by decide +kernel
theorem dX7_put_16 : decode cX7_put 16 = .ok (.iload_n 1, 1) := by decide +kernel
theorem dX7_put_17 : decode cX7_put 17 = .ok (.aaload, 1) := by decide +kernel
theorem dX7_put_18 : decode cX7_put 18 = .ok (.iload_n 2, 1) := by decide +kernel
theorem dX7_put_19 : decode cX7_put 19 = .ok (.iload_n 3, 1) := by decide +kernel
theorem dX7_put_20 : decode cX7_put 20 = .ok (.invokevirtual 251, 3) := by decide +kernel
theorem dX7_put_23 : decode cX7_put 23 = .ok (.istore 5, 2) := by decide +kernel
theorem dX7_put_25 : decode cX7_put 25 = .ok (.iload 5, 2) := by decide +kernel
theorem dX7_put_27 : decode cX7_put 27 = .ok (.ifCond .eq 6, 3) := by decide +kernel
theorem dX7_put_30 : decode cX7_put 30 = .ok (.iload 5, 2) := by decide +kernel
theorem dX7_put_32 : decode cX7_put 32 = .ok (.ireturn, 1) := by decide +kernel
theorem dX7_put_33 : decode cX7_put 33 = .ok (.aload_n 0, 1) := by decide +kernel
theorem dX7_put_34 : decode cX7_put 34 = .ok (.getfield 78, 3) := by decide +kernel
theorem dX7_put_37 : decode cX7_put 37 = .ok (.iload_n 1, 1) := by decide +kernel
theorem dX7_put_38 : decode cX7_put 38 = .ok (.aaload, 1) := by decide +kernel
theorem dX7_put_39 : decode cX7_put 39 = .ok (.iload_n 3, 1) := by decide +kernel
theorem dX7_put_40 : decode cX7_put 40 = .ok (.iload 4, 2) := by decide +kernel
theorem dX7_put_42 : decode cX7_put 42 = .ok (.invokevirtual 255, 3) := by decide +kernel
theorem dX7_put_45 : decode cX7_put 45 = .ok (.iconst 1, 1) := by decide +kernel
theorem dX7_put_46 : decode cX7_put 46 = .ok (.ireturn, 1) := by decide +kernel
theorem dX7_get_0 : decode cX7_get 0 = .ok (.iload_n 1, 1) := by decide +kernel
theorem dX7_get_1 : decode cX7_get 1 = .ok (.iconst 4, 1) := by decide +kernel
theorem dX7_get_2 : decode cX7_get 2 = .ok (.invokestatic 82, 3) := by decide +kernel
theorem dX7_get_5 : decode cX7_get 5 = .ok (.ifCond .ne 18, 3) := by decide +kernel
theorem dX7_get_8 : decode cX7_get 8 = .ok (.aload_n 0, 1) := by decide +kernel
theorem dX7_get_9 : decode cX7_get 9 = .ok (.aload_n 0, 1) := by decide +kernel
theorem dX7_get_10 : decode cX7_get 10 = .ok (.getfield 78, 3) := by decide +kernel
theorem dX7_get_13 : decode cX7_get 13 = .ok (.iload_n 1, 1) := by decide +kernel
theorem dX7_get_14 : decode cX7_get 14 = .ok (.aaload, 1) := by decide +kernel
theorem dX7_get_15 : decode cX7_get 15 = .ok (.iload_n 2, 1) := by decide +kernel
theorem dX7_get_16 : decode cX7_get 16 = .ok (.iload_n 3, 1) := by decide +kernel
theorem dX7_get_17 : decode cX7_get 17 = .ok (.invokevirtual 251, 3) := by decide +kernel
theorem dX7_get_20 : decode cX7_get 20 = .ok (.ifCond .eq 7, 3) := by decide +kernel
theorem dX7_get_23 : decode cX7_get 23 = .ok (.ldc_w 258, 3) := by decide +kernel
theorem dX7_get_26 : decode cX7_get 26 = .ok (.ireturn, 1) := by decide +kernel
theorem dX7_get_27 : decode cX7_get 27 = .ok (.aload_n 0, 1) := by decide +kernel
theorem dX7_get_28 : decode cX7_get 28 = .ok (.getfield 78, 3) := by decide +kernel
theorem dX7_get_31 : decode cX7_get 31 = .ok (.iload_n 1, 1) := by decide +kernel
theorem dX7_get_32 : decode cX7_get 32 = .ok (.aaload, 1) := by decide +kernel
theorem dX7_get_33 : decode cX7_get 33 = .ok (.iload_n 3, 1) := by decide +kernel
theorem dX7_get_34 : decode cX7_get 34 = .ok (.invokevirtual 144, 3) := by decide +kernel
theorem dX7_get_37 : decode cX7_get 37 = .ok (.ireturn, 1) := by decide +kernel
theorem dX7_copy_0 : decode cX7_copy 0 = .ok (.iload_n 1, 1) := by decide +kernel
theorem dX7_copy_1 : decode cX7_copy 1 = .ok (.iconst 4, 1) := by decide +kernel
theorem dX7_copy_2 : decode cX7_copy 2 = .ok (.invokestatic 82, 3) := by decide +kernel
theorem dX7_copy_5 : decode cX7_copy 5 = .ok (.ifCond .ne 11, 3) := by decide +kernel
theorem dX7_copy_8 : decode cX7_copy 8 = .ok (.iload_n 3, 1) := by decide +kernel
theorem dX7_copy_9 : decode cX7_copy 9 = .ok (.iconst 4, 1) := by decide +kernel
theorem dX7_copy_10 : decode cX7_copy 10 = .ok (.invokestatic 82, 3) := by decide +kernel
theorem dX7_copy_13 : decode cX7_copy 13 = .ok (.ifCond .eq 6, 3) := by decide +kernel
theorem dX7_copy_16 : decode cX7_copy 16 = .ok (.bipush (-2), 2) := by decide +kernel
theorem dX7_copy_18 : decode cX7_copy 18 = .ok (.ireturn, 1) := by decide +kernel
theorem dX7_copy_19 : decode cX7_copy 19 = .ok (.aload_n 0, 1) := by decide +kernel
theorem dX7_copy_20 : decode cX7_copy 20 = .ok (.getfield 78, 3) := by decide +kernel
theorem dX7_copy_23 : decode cX7_copy 23 = .ok (.iload_n 1, 1) := by decide +kernel
theorem dX7_copy_24 : decode cX7_copy 24 = .ok (.aaload, 1) := by decide +kernel
theorem dX7_copy_25 : decode cX7_copy 25 = .ok (.invokevirtual 133, 3) := by decide +kernel
theorem dX7_copy_28 : decode cX7_copy 28 = .ok (.ifCond .ne 15, 3) := by decide +kernel
theorem dX7_copy_31 : decode cX7_copy 31 = .ok (.aload_n 0, 1) := by decide +kernel
theorem dX7_copy_32 : decode cX7_copy 32 = .ok (.getfield 78, 3) := by decide +kernel
theorem dX7_copy_35 : decode cX7_copy 35 = .ok (.iload_n 3, 1) := by decide +kernel
theorem dX7_copy_36 : decode cX7_copy 36 = .ok (.aaload, 1) := by decide +kernel
theorem dX7_copy_37 : decode cX7_copy 37 = .ok (.invokevirtual 133, 3) := by decide +kernel
theorem dX7_copy_40 : decode cX7_copy 40 = .ok (.ifCond .eq 9, 3) := by decide +kernel
theorem dX7_copy_43 : decode cX7_copy 43 = .ok (.aload_n 0, 1) := by decide +kernel
theorem dX7_copy_44 : decode cX7_copy 44 = .ok (.iconst 1, 1) := by decide +kernel
theorem dX7_copy_45 : decode cX7_copy 45 = .ok (.invokevirtual 136, 3) := by decide +kernel
theorem dX7_copy_48 : decode cX7_copy 48 = .ok (.ireturn, 1) := by decide +kernel
theorem dX7_copy_49 : decode cX7_copy 49 = .ok (.aload_n 0, 1) := by decide +kernel
theorem dX7_copy_50 : decode cX7_copy 50 = .ok (.getfield 78, 3) := by decide +kernel
theorem dX7_copy_53 : decode cX7_copy 53 = .ok (.iload_n 1, 1) := by decide +kernel
theorem dX7_copy_54 : decode cX7_copy 54 = .ok (.aaload, 1) := by decide +kernel
theorem dX7_copy_55 : decode cX7_copy 55 = .ok (.invokevirtual 259, 3) := by decide +kernel
theorem dX7_copy_58 : decode cX7_copy 58 = .ok (.aload_n 0, 1) := by decide +kernel
theorem dX7_copy_59 : decode cX7_copy 59 = .ok (.getfield 78, 3) := by decide +kernel
theorem dX7_copy_62 : decode cX7_copy 62 = .ok (.iload_n 3, 1) := by decide +kernel
theorem dX7_copy_63 : decode cX7_copy 63 = .ok (.aaload, 1) := by decide +kernel
theorem dX7_copy_64 : decode cX7_copy 64 = .ok (.invokevirtual 259, 3) := by decide +kernel
theorem dX7_copy_67 : decode cX7_copy 67 = .ok (.if_icmp .eq 9, 3) := by decide +kernel
theorem dX7_copy_70 : decode cX7_copy 70 = .ok (.aload_n 0, 1) := by decide +kernel
theorem dX7_copy_71 : decode cX7_copy 71 = .ok (.iconst 4, 1) := by decide +kernel
theorem dX7_copy_72 : decode cX7_copy 72 = .ok (.invokevirtual 136, 3) := by decide +kernel
theorem dX7_copy_75 : decode cX7_copy 75 = .ok (.ireturn, 1) := by decide +kernel
theorem dX7_copy_76 : decode cX7_copy 76 = .ok (.aload_n 0, 1) := by decide +kernel
theorem dX7_copy_77 : decode cX7_copy 77 = .ok (.getfield 78, 3) := by decide +kernel
theorem dX7_copy_80 : decode cX7_copy 80 = .ok (.iload_n 1, 1) := by decide +kernel
theorem dX7_copy_81 : decode cX7_copy 81 = .ok (.aaload, 1) := by decide +kernel
theorem dX7_copy_82 : decode cX7_copy 82 = .ok (.iload_n 2, 1) := by decide +kernel
theorem dX7_copy_83 : decode cX7_copy 83 = .ok (.iload 5, 2) := by decide +kernel
theorem dX7_copy_85 : decode cX7_copy 85 = .ok (.invokevirtual 262, 3) := by decide +kernel
theorem dX7_copy_88 : decode cX7_copy 88 = .ok (.ifCond .eq 19, 3) := by decide +kernel
theorem dX7_copy_91 : decode cX7_copy 91 = .ok (.aload_n 0, 1) := by decide +kernel
theorem dX7_copy_92 : decode cX7_copy 92 = .ok (.getfield 78, 3) := by decide +kernel
theorem dX7_copy_95 : decode cX7_copy 95 = .ok (.iload_n 3, 1) := by decide +kernel
theorem dX7_copy_96 : decode cX7_copy 96 = .ok (.aaload, 1) := by decide +kernel
theorem dX7_copy_97 : decode cX7_copy 97 = .ok (.iload 4, 2) := by decide +kernel
theorem dX7_copy_99 : decode cX7_copy 99 = .ok (.iload 5, 2) := by decide +kernel
theorem dX7_copy_101 : decode cX7_copy 101 = .ok (.invokevirtual 262, 3) := by decide +kernel
theorem dX7_copy_104 : decode cX7_copy 104 = .ok (.ifCond .ne 9, 3) := by decide +kernel
theorem dX7_copy_107 : decode cX7_copy 107 = .ok (.aload_n 0, 1) := by decide +kernel
theorem dX7_copy_108 : decode cX7_copy 108 = .ok (.iconst 2, 1) := by decide +kernel
theorem dX7_copy_109 : decode cX7_copy 109 = .ok (.invokevirtual 136, 3) := by decide +kernel
theorem dX7_copy_112 : decode cX7_copy 112 = .ok (.ireturn, 1) := by decide +kernel
theorem dX7_copy_113 : decode cX7_copy 113 = .ok (.aload_n 0, 1) := by decide +kernel
theorem dX7_copy_114 : decode cX7_copy 114 = .ok (.getfield 78, 3) := by decide +kernel
theorem dX7_copy_117 : decode cX7_copy 117 = .ok (.iload_n 3, 1) := by decide +kernel
theorem dX7_copy_118 : decode cX7_copy 118 = .ok (.aaload, 1) := by decide +kernel
theorem dX7_copy_119 : decode cX7_copy 119 = .ok (.aload_n 0, 1) := by decide +kernel
theorem dX7_copy_120 : decode cX7_copy 120 = .ok (.getfield 78, 3) := by decide +kernel
theorem dX7_copy_123 : decode cX7_copy 123 = .ok (.iload_n 1, 1) := by decide +kernel
theorem dX7_copy_124 : decode cX7_copy 124 = .ok (.aaload, 1) := by decide +kernel
theorem dX7_copy_125 : decode cX7_copy 125 = .ok (.iload_n 2, 1) := by decide +kernel
theorem dX7_copy_126 : decode cX7_copy 126 = .ok (.iload 4, 2) := by decide +kernel
theorem dX7_copy_128 : decode cX7_copy 128 = .ok (.iload 5, 2) := by decide +kernel
theorem dX7_copy_130 : decode cX7_copy 130 = .ok (.invokevirtual 265, 3) := by decide +kernel
theorem dX7_copy_133 : decode cX7_copy 133 = .ok (.iconst 1, 1) := by decide +kernel
theorem dX7_copy_134 : decode cX7_copy 134 = .ok (.ireturn, 1) := by decide +kernel
theorem dX7_write_0 : decode cX7_write 0 = .ok (.iload_n 1, 1) := by decide +kernel
theorem dX7_write_1 : decode cX7_write 1 = .ok (.iconst 4, 1) := by decide +kernel
theorem dX7_write_2 : decode cX7_write 2 = .ok (.invokestatic 82, 3) := by decide +kernel
theorem dX7_write_5 : decode cX7_write 5 = .ok (.ifCond .eq 6, 3) := by decide +kernel
theorem dX7_write_8 : decode cX7_write 8 = .ok (.bipush (-2), 2) := by decide +kernel
theorem dX7_write_10 : decode cX7_write 10 = .ok (.ireturn, 1) := by decide +kernel
theorem dX7_write_11 : decode cX7_write 11 = .ok (.aload_n 0, 1) := by decide +kernel
theorem dX7_write_12 : decode cX7_write 12 = .ok (.getfield 78, 3) := by decide +kernel
theorem dX7_write_15 : decode cX7_write 15 = .ok (.iload_n 1, 1) := by decide +kernel
theorem dX7_write_16 : decode cX7_write 16 = .ok (.aaload, 1) := by decide +kernel
theorem dX7_write_17 : decode cX7_write 17 = .ok (.invokevirtual 133, 3) := by decide +kernel
theorem dX7_write_20 : decode cX7_write 20 = .ok (.ifCond .eq 9, 3) := by decide +kernel
theorem dX7_write_23 : decode cX7_write 23 = .ok (.aload_n 0, 1) := by decide +kernel
theorem dX7_write_24 : decode cX7_write 24 = .ok (.iconst 1, 1) := by decide +kernel
theorem dX7_write_25 : decode cX7_write 25 = .ok (.invokevirtual 136, 3) := by decide +kernel
theorem dX7_write_28 : decode cX7_write 28 = .ok (.ireturn, 1) := by decide +kernel
theorem dX7_write_29 : decode cX7_write 29 = .ok (.aload_n 0, 1) := by decide +kernel
theorem dX7_write_30 : decode cX7_write 30 = .ok (.getfield 78, 3) := by decide +kernel
theorem dX7_write_33 : decode cX7_write 33 = .ok (.iload_n 1, 1) := by decide +kernel
theorem dX7_write_34 : decode cX7_write 34 = .ok (.aaload, 1) := by decide +kernel
theorem dX7_write_35 : decode cX7_write 35 = .ok (.invokevirtual 143, 3) := by decide +kernel
theorem dX7_write_38 : decode cX7_write 38 = .ok (.aload_n 0, 1) := by decide +kernel
theorem dX7_write_39 : decode cX7_write 39 = .ok (.invokevirtual 155, 3) := by decide +kernel
theorem dX7_write_42 : decode cX7_write 42 = .ok (.invokevirtual 159, 3) := by decide +kernel
theorem dX7_write_45 : decode cX7_write 45 = .ok (.invokestatic 269, 3) := by decide +kernel
theorem dX7_write_48 : decode cX7_write 48 = .ok (.istore_n 2, 1) := by decide +kernel
theorem dX7_write_49 : decode cX7_write 49 = .ok (.iconst 0, 1) := by decide +kernel
theorem dX7_write_50 : decode cX7_write 50 = .ok (.istore_n 3, 1) := by decide +kernel
theorem dX7_write_51 : decode cX7_write 51 = .ok (.iload_n 3, 1) := by decide +kernel
theorem dX7_write_52 : decode cX7_write 52 = .ok (.iload_n 2, 1) := by decide +kernel
theorem dX7_write_53 : decode cX7_write 53 = .ok (.if_icmp .ge 27, 3) := by decide +kernel
theorem dX7_write_56 : decode cX7_write 56 = .ok (.aload_n 0, 1) := by decide +kernel
theorem dX7_write_57 : decode cX7_write 57 = .ok (.getfield 78, 3) := by decide +kernel
theorem dX7_write_60 : decode cX7_write 60 = .ok (.iload_n 1, 1) := by decide +kernel
theorem dX7_write_61 : decode cX7_write 61 = .ok (.aaload, 1) := by decide +kernel
theorem dX7_write_62 : decode cX7_write 62 = .ok (.iload_n 3, 1) := by decide +kernel
theorem dX7_write_63 : decode cX7_write 63 = .ok (.aload_n 0, 1) := by decide +kernel
theorem dX7_write_64 : decode cX7_write 64 = .ok (.invokevirtual 155, 3) := by decide +kernel
theorem dX7_write_67 : decode cX7_write 67 = .ok (.iload_n 3, 1) := by decide +kernel
theorem dX7_write_68 : decode cX7_write 68 = .ok (.invokevirtual 160, 3) := by decide +kernel
theorem dX7_write_71 : decode cX7_write 71 = .ok (.invokevirtual 255, 3) := by decide +kernel
theorem dX7_write_74 : decode cX7_write 74 = .ok (.iinc 3 1, 3) := by decide +kernel
theorem dX7_write_77 : decode cX7_write 77 = .ok (.goto (-26), 3) := by decide +kernel
theorem dX7_write_80 : decode cX7_write 80 = .ok (.iload_n 2, 1) := by decide +kernel
theorem dX7_write_81 : decode cX7_write 81 = .ok (.ireturn, 1) := by decide +kernel
theorem dX7_count_0 : decode cX7_count 0 = .ok (.iload_n 1, 1) := by decide +kernel
theorem dX7_count_1 : decode cX7_count 1 = .ok (.tableswitch 93 0 8 #[51, 51, 51, 61, 61, 61, 73, 81, 88], 51) := by decide +kernel
theorem dX7_count_52 : decode cX7_count 52 = .ok (.aload_n 0, 1) := by decide +kernel
theorem dX7_count_53 : decode cX7_count 53 = .ok (.getfield 30, 3) := by decide +kernel
theorem dX7_count_56 : decode cX7_count 56 = .ok (.iload_n 1, 1) := by decide +kernel
theorem dX7_count_57 : decode cX7_count 57 = .ok (.aaload, 1) := by decide +kernel
theorem dX7_count_58 : decode cX7_count 58 = .ok (.invokevirtual 239, 3) := by decide +kernel
theorem dX7_count_61 : decode cX7_count 61 = .ok (.ireturn, 1) := by decide +kernel
theorem dX7_count_62 : decode cX7_count 62 = .ok (.aload_n 0, 1) := by decide +kernel
theorem dX7_count_63 : decode cX7_count 63 = .ok (.getfield 12, 3) := by decide +kernel
theorem dX7_count_66 : decode cX7_count 66 = .ok (.iload_n 1, 1) := by decide +kernel
theorem dX7_count_67 : decode cX7_count 67 = .ok (.iconst 3, 1) := by decide +kernel
theorem dX7_count_68 : decode cX7_count 68 = .ok (.isub, 1) := by decide +kernel
theorem dX7_count_69 : decode cX7_count 69 = .ok (.aaload, 1) := by decide +kernel
theorem dX7_count_70 : decode cX7_count 70 = .ok (.invokevirtual 99, 3) := by decide +kernel
theorem dX7_count_73 : decode cX7_count 73 = .ok (.ireturn, 1) := by decide +kernel
theorem dX7_count_74 : decode cX7_count 74 = .ok (.aload_n 0, 1) := by decide +kernel
theorem dX7_count_75 : decode cX7_count 75 = .ok (.getfield 64, 3) := by decide +kernel
theorem dX7_count_78 : decode cX7_count 78 = .ok (.invokevirtual 140, 3) := by decide +kernel
theorem dX7_count_81 : decode cX7_count 81 = .ok (.ireturn, 1) := by decide +kernel
theorem dX7_count_82 : decode cX7_count 82 = .ok (.aload_n 0, 1) := by decide +kernel
theorem dX7_count_83 : decode cX7_count 83 = .ok (.getfield 34, 3) := by decide +kernel
theorem dX7_count_86 : decode cX7_count 86 = .ok (.iconst 0, 1) := by decide +kernel
theorem dX7_count_87 : decode cX7_count 87 = .ok (.iaload, 1) := by decide +kernel
theorem dX7_count_88 : decode cX7_count 88 = .ok (.ireturn, 1) := by decide +kernel
theorem dX7_count_89 : decode cX7_count 89 = .ok (.aload_n 0, 1) := by decide +kernel
theorem dX7_count_90 : decode cX7_count 90 = .ok (.getfield 274, 3) := by decide +kernel
theorem dX7_count_93 : decode cX7_count 93 = .ok (.ireturn, 1) := by decide +kernel
theorem dX7_count_94 : decode cX7_count 94 = .ok (.bipush (-2), 2) := by decide +kernel
theorem dX7_count_96 : decode cX7_count 96 = .ok (.ireturn, 1) := by decide +kernel
theorem dX7_digest_0 : decode cX7_digest 0 = .ok (.ldc2_w 278, 3) := by decide +kernel
theorem dX7_digest_3 : decode cX7_digest 3 = .ok (.lstore_n 1, 1) := by decide +kernel
theorem dX7_digest_4 : decode cX7_digest 4 = .ok (.iconst 0, 1) := by decide +kernel
theorem dX7_digest_5 : decode cX7_digest 5 = .ok (.istore_n 3, 1) := by decide +kernel
theorem dX7_digest_6 : decode cX7_digest 6 = .ok (.iload_n 3, 1) := by decide +kernel
theorem dX7_digest_7 : decode cX7_digest 7 = .ok (.bipush 7, 2) := by decide +kernel
theorem dX7_digest_9 : decode cX7_digest 9 = .ok (.if_icmp .gt 19, 3) := by decide +kernel
theorem dX7_digest_12 : decode cX7_digest 12 = .ok (.lload_n 1, 1) := by decide +kernel
theorem dX7_digest_13 : decode cX7_digest 13 = .ok (.aload_n 0, 1) := by decide +kernel
theorem dX7_digest_14 : decode cX7_digest 14 = .ok (.iload_n 3, 1) := by decide +kernel
theorem dX7_digest_15 : decode cX7_digest 15 = .ok (.invokevirtual 280, 3) := by decide +kernel
theorem dX7_digest_18 : decode cX7_digest 18 = .ok (.invokestatic 283, 3) := by decide +kernel
theorem dX7_digest_21 : decode cX7_digest 21 = .ok (.lstore_n 1, 1) := by decide +kernel
theorem dX7_digest_22 : decode cX7_digest 22 = .ok (.iinc 3 1, 3) := by decide +kernel
theorem dX7_digest_25 : decode cX7_digest 25 = .ok (.goto (-19), 3) := by decide +kernel
theorem dX7_digest_28 : decode cX7_digest 28 = .ok (.iconst 0, 1) := by decide +kernel
theorem dX7_digest_29 : decode cX7_digest 29 = .ok (.istore_n 3, 1) := by decide +kernel
theorem dX7_digest_30 : decode cX7_digest 30 = .ok (.iload_n 3, 1) := by decide +kernel
theorem dX7_digest_31 : decode cX7_digest 31 = .ok (.iconst 3, 1) := by decide +kernel
theorem dX7_digest_32 : decode cX7_digest 32 = .ok (.if_icmp .ge 19, 3) := by decide +kernel
theorem dX7_digest_35 : decode cX7_digest 35 = .ok (.lload_n 1, 1) := by decide +kernel
theorem dX7_digest_36 : decode cX7_digest 36 = .ok (.aload_n 0, 1) := by decide +kernel
theorem dX7_digest_37 : decode cX7_digest 37 = .ok (.iload_n 3, 1) := by decide +kernel
theorem dX7_digest_38 : decode cX7_digest 38 = .ok (.invokevirtual 287, 3) := by decide +kernel
theorem dX7_digest_41 : decode cX7_digest 41 = .ok (.invokestatic 283, 3) := by decide +kernel
theorem dX7_digest_44 : decode cX7_digest 44 = .ok (.lstore_n 1, 1) := by decide +kernel
theorem dX7_digest_45 : decode cX7_digest 45 = .ok (.iinc 3 1, 3) := by decide +kernel
theorem dX7_digest_48 : decode cX7_digest 48 = .ok (.goto (-18), 3) := by decide +kernel
theorem dX7_digest_51 : decode cX7_digest 51 = .ok (.aload_n 0, 1) := by decide +kernel
theorem dX7_digest_52 : decode cX7_digest 52 = .ok (.lload_n 1, 1) := by decide +kernel
theorem dX7_digest_53 : decode cX7_digest 53 = .ok (.invokevirtual 290, 3) := by decide +kernel
theorem dX7_digest_56 : decode cX7_digest 56 = .ok (.lstore_n 1, 1) := by decide +kernel
theorem dX7_digest_57 : decode cX7_digest 57 = .ok (.aload_n 0, 1) := by decide +kernel
theorem dX7_digest_58 : decode cX7_digest 58 = .ok (.lload_n 1, 1) := by decide +kernel
theorem dX7_digest_59 : decode cX7_digest 59 = .ok (.invokevirtual 294, 3) := by decide +kernel
theorem dX7_digest_62 : decode cX7_digest 62 = .ok (.lstore_n 1, 1) := by decide +kernel
theorem dX7_digest_63 : decode cX7_digest 63 = .ok (.aload_n 0, 1) := by decide +kernel
theorem dX7_digest_64 : decode cX7_digest 64 = .ok (.lload_n 1, 1) := by decide +kernel
theorem dX7_digest_65 : decode cX7_digest 65 = .ok (.invokevirtual 297, 3) := by decide +kernel
theorem dX7_digest_68 : decode cX7_digest 68 = .ok (.lstore_n 1, 1) := by decide +kernel
theorem dX7_digest_69 : decode cX7_digest 69 = .ok (.aload_n 0, 1) := by decide +kernel
theorem dX7_digest_70 : decode cX7_digest 70 = .ok (.lload_n 1, 1) := by decide +kernel
theorem dX7_digest_71 : decode cX7_digest 71 = .ok (.invokevirtual 300, 3) := by decide +kernel
theorem dX7_digest_74 : decode cX7_digest 74 = .ok (.lreturn, 1) := by decide +kernel
theorem dX7_mixed_0 : decode cX7_mixed 0 = .ok (.ldc2_w 303, 3) := by decide +kernel
theorem dX7_mixed_3 : decode cX7_mixed 3 = .ok (.lload_n 0, 1) := by decide +kernel
theorem dX7_mixed_4 : decode cX7_mixed 4 = .ok (.lmul, 1) := by decide +kernel
theorem dX7_mixed_5 : decode cX7_mixed 5 = .ok (.iload_n 2, 1) := by decide +kernel
theorem dX7_mixed_6 : decode cX7_mixed 6 = .ok (.i2l, 1) := by decide +kernel
theorem dX7_mixed_7 : decode cX7_mixed 7 = .ok (.ladd, 1) := by decide +kernel
theorem dX7_mixed_8 : decode cX7_mixed 8 = .ok (.lreturn, 1) := by decide +kernel
theorem dX7_mixedWithMatters_0 : decode cX7_mixedWithMatters 0 = .ok (.lload_n 1, 1) := by decide +kernel
theorem dX7_mixedWithMatters_1 : decode cX7_mixedWithMatters 1 = .ok (.lstore_n 3, 1) := by decide +kernel
theorem dX7_mixedWithMatters_2 : decode cX7_mixedWithMatters 2 = .ok (.aload_n 0, 1) := by decide +kernel
theorem dX7_mixedWithMatters_3 : decode cX7_mixedWithMatters 3 = .ok (.getfield 30, 3) := by decide +kernel
theorem dX7_mixedWithMatters_6 : decode cX7_mixedWithMatters 6 = .ok (.iconst 0, 1) := by decide +kernel
theorem dX7_mixedWithMatters_7 : decode cX7_mixedWithMatters 7 = .ok (.aaload, 1) := by decide +kernel
theorem dX7_mixedWithMatters_8 : decode cX7_mixedWithMatters 8 = .ok (.invokevirtual 239, 3) := by decide +kernel
theorem dX7_mixedWithMatters_11 : decode cX7_mixedWithMatters 11 = .ok (.istore 5, 2) := by decide +kernel
theorem dX7_mixedWithMatters_13 : decode cX7_mixedWithMatters 13 = .ok (.iconst 0, 1) := by decide +kernel
theorem dX7_mixedWithMatters_14 : decode cX7_mixedWithMatters 14 = .ok (.istore 6, 2) := by decide +kernel
theorem dX7_mixedWithMatters_16 : decode cX7_mixedWithMatters 16 = .ok (.iload 6, 2) := by decide +kernel
theorem dX7_mixedWithMatters_18 : decode cX7_mixedWithMatters 18 = .ok (.iload 5, 2) := by decide +kernel
theorem dX7_mixedWithMatters_20 : decode cX7_mixedWithMatters 20 = .ok (.if_icmp .ge 49, 3) := by decide +kernel
theorem dX7_mixedWithMatters_23 : decode cX7_mixedWithMatters 23 = .ok (.iconst 0, 1) := by decide +kernel
theorem dX7_mixedWithMatters_24 : decode cX7_mixedWithMatters 24 = .ok (.istore 7, 2) := by decide +kernel
theorem dX7_mixedWithMatters_26 : decode cX7_mixedWithMatters 26 = .ok (.iload 7, 2) := by decide +kernel
theorem dX7_mixedWithMatters_28 : decode cX7_mixedWithMatters 28 = .ok (.bipush 6, 2) := by decide +kernel
theorem dX7_mixedWithMatters_30 : decode cX7_mixedWithMatters 30 = .ok (.if_icmp .ge 22, 3) := by decide +kernel
theorem dX7_mixedWithMatters_33 : decode cX7_mixedWithMatters 33 = .ok (.lload_n 3, 1) := by decide +kernel
theorem dX7_mixedWithMatters_34 : decode cX7_mixedWithMatters 34 = .ok (.aload_n 0, 1) := by decide +kernel
theorem dX7_mixedWithMatters_35 : decode cX7_mixedWithMatters 35 = .ok (.iload 6, 2) := by decide +kernel
theorem dX7_mixedWithMatters_37 : decode cX7_mixedWithMatters 37 = .ok (.iload 7, 2) := by decide +kernel
theorem dX7_mixedWithMatters_39 : decode cX7_mixedWithMatters 39 = .ok (.invokevirtual 305, 3) := by decide +kernel
theorem dX7_mixedWithMatters_42 : decode cX7_mixedWithMatters 42 = .ok (.invokestatic 283, 3) := by decide +kernel
theorem dX7_mixedWithMatters_45 : decode cX7_mixedWithMatters 45 = .ok (.lstore_n 3, 1) := by decide +kernel
theorem dX7_mixedWithMatters_46 : decode cX7_mixedWithMatters 46 = .ok (.iinc 7 1, 3) := by decide +kernel
theorem dX7_mixedWithMatters_49 : decode cX7_mixedWithMatters 49 = .ok (.goto (-23), 3) := by decide +kernel
theorem dX7_mixedWithMatters_52 : decode cX7_mixedWithMatters 52 = .ok (.lload_n 3, 1) := by decide +kernel
theorem dX7_mixedWithMatters_53 : decode cX7_mixedWithMatters 53 = .ok (.aload_n 0, 1) := by decide +kernel
theorem dX7_mixedWithMatters_54 : decode cX7_mixedWithMatters 54 = .ok (.iload 6, 2) := by decide +kernel
theorem dX7_mixedWithMatters_56 : decode cX7_mixedWithMatters 56 = .ok (.invokevirtual 308, 3) := by decide +kernel
theorem dX7_mixedWithMatters_59 : decode cX7_mixedWithMatters 59 = .ok (.invokestatic 283, 3) := by decide +kernel
theorem dX7_mixedWithMatters_62 : decode cX7_mixedWithMatters 62 = .ok (.lstore_n 3, 1) := by decide +kernel
theorem dX7_mixedWithMatters_63 : decode cX7_mixedWithMatters 63 = .ok (.iinc 6 1, 3) := by decide +kernel
theorem dX7_mixedWithMatters_66 : decode cX7_mixedWithMatters 66 = .ok (.goto (-50), 3) := by decide +kernel
theorem dX7_mixedWithMatters_69 : decode cX7_mixedWithMatters 69 = .ok (.lload_n 3, 1) := by decide +kernel
theorem dX7_mixedWithMatters_70 : decode cX7_mixedWithMatters 70 = .ok (.lreturn, 1) := by decide +kernel
theorem dX7_mixedWithRows_0 : decode cX7_mixedWithRows 0 = .ok (.lload_n 1, 1) := by decide +kernel
theorem dX7_mixedWithRows_1 : decode cX7_mixedWithRows 1 = .ok (.lstore_n 3, 1) := by decide +kernel
theorem dX7_mixedWithRows_2 : decode cX7_mixedWithRows 2 = .ok (.lload_n 3, 1) := by decide +kernel
theorem dX7_mixedWithRows_3 : decode cX7_mixedWithRows 3 = .ok (.aload_n 0, 1) := by decide +kernel
theorem dX7_mixedWithRows_4 : decode cX7_mixedWithRows 4 = .ok (.iconst (-1), 1) := by decide +kernel
theorem dX7_mixedWithRows_5 : decode cX7_mixedWithRows 5 = .ok (.invokevirtual 311, 3) := by decide +kernel
theorem dX7_mixedWithRows_8 : decode cX7_mixedWithRows 8 = .ok (.invokestatic 283, 3) := by decide +kernel
theorem dX7_mixedWithRows_11 : decode cX7_mixedWithRows 11 = .ok (.lstore_n 3, 1) := by decide +kernel
theorem dX7_mixedWithRows_12 : decode cX7_mixedWithRows 12 = .ok (.lload_n 3, 1) := by decide +kernel
theorem dX7_mixedWithRows_13 : decode cX7_mixedWithRows 13 = .ok (.aload_n 0, 1) := by decide +kernel
theorem dX7_mixedWithRows_14 : decode cX7_mixedWithRows 14 = .ok (.iconst 0, 1) := by decide +kernel
theorem dX7_mixedWithRows_15 : decode cX7_mixedWithRows 15 = .ok (.invokevirtual 311, 3) := by decide +kernel
theorem dX7_mixedWithRows_18 : decode cX7_mixedWithRows 18 = .ok (.invokestatic 283, 3) := by decide +kernel
theorem dX7_mixedWithRows_21 : decode cX7_mixedWithRows 21 = .ok (.lstore_n 3, 1) := by decide +kernel
theorem dX7_mixedWithRows_22 : decode cX7_mixedWithRows 22 = .ok (.lload_n 3, 1) := by decide +kernel
theorem dX7_mixedWithRows_23 : decode cX7_mixedWithRows 23 = .ok (.aload_n 0, 1) := by decide +kernel
theorem dX7_mixedWithRows_24 : decode cX7_mixedWithRows 24 = .ok (.iconst 1, 1) := by decide +kernel
theorem dX7_mixedWithRows_25 : decode cX7_mixedWithRows 25 = .ok (.invokevirtual 311, 3) := by decide +kernel
theorem dX7_mixedWithRows_28 : decode cX7_mixedWithRows 28 = .ok (.invokestatic 283, 3) := by decide +kernel
theorem dX7_mixedWithRows_31 : decode cX7_mixedWithRows 31 = .ok (.lstore_n 3, 1) := by decide +kernel
theorem dX7_mixedWithRows_32 : decode cX7_mixedWithRows 32 = .ok (.lload_n 3, 1) := by decide +kernel
theorem dX7_mixedWithRows_33 : decode cX7_mixedWithRows 33 = .ok (.aload_n 0, 1) := by decide +kernel
theorem dX7_mixedWithRows_34 : decode cX7_mixedWithRows 34 = .ok (.iconst 0, 1) := by decide +kernel
theorem dX7_mixedWithRows_35 : decode cX7_mixedWithRows 35 = .ok (.invokevirtual 313, 3) := by decide +kernel
theorem dX7_mixedWithRows_38 : decode cX7_mixedWithRows 38 = .ok (.invokestatic 283, 3) := by decide +kernel
theorem dX7_mixedWithRows_41 : decode cX7_mixedWithRows 41 = .ok (.lstore_n 3, 1) := by decide +kernel
theorem dX7_mixedWithRows_42 : decode cX7_mixedWithRows 42 = .ok (.lload_n 3, 1) := by decide +kernel
theorem dX7_mixedWithRows_43 : decode cX7_mixedWithRows 43 = .ok (.aload_n 0, 1) := by decide +kernel
theorem dX7_mixedWithRows_44 : decode cX7_mixedWithRows 44 = .ok (.iconst 1, 1) := by decide +kernel
theorem dX7_mixedWithRows_45 : decode cX7_mixedWithRows 45 = .ok (.invokevirtual 313, 3) := by decide +kernel
theorem dX7_mixedWithRows_48 : decode cX7_mixedWithRows 48 = .ok (.invokestatic 283, 3) := by decide +kernel
theorem dX7_mixedWithRows_51 : decode cX7_mixedWithRows 51 = .ok (.lstore_n 3, 1) := by decide +kernel
theorem dX7_mixedWithRows_52 : decode cX7_mixedWithRows 52 = .ok (.lload_n 3, 1) := by decide +kernel
theorem dX7_mixedWithRows_53 : decode cX7_mixedWithRows 53 = .ok (.aload_n 0, 1) := by decide +kernel
theorem dX7_mixedWithRows_54 : decode cX7_mixedWithRows 54 = .ok (.iconst 0, 1) := by decide +kernel
theorem dX7_mixedWithRows_55 : decode cX7_mixedWithRows 55 = .ok (.invokevirtual 316, 3) := by decide +kernel
theorem dX7_mixedWithRows_58 : decode cX7_mixedWithRows 58 = .ok (.invokestatic 283, 3) := by decide +kernel
theorem dX7_mixedWithRows_61 : decode cX7_mixedWithRows 61 = .ok (.lstore_n 3, 1) := by decide +kernel
theorem dX7_mixedWithRows_62 : decode cX7_mixedWithRows 62 = .ok (.lload_n 3, 1) := by decide +kernel
theorem dX7_mixedWithRows_63 : decode cX7_mixedWithRows 63 = .ok (.aload_n 0, 1) := by decide +kernel
theorem dX7_mixedWithRows_64 : decode cX7_mixedWithRows 64 = .ok (.iconst 1, 1) := by decide +kernel
theorem dX7_mixedWithRows_65 : decode cX7_mixedWithRows 65 = .ok (.invokevirtual 316, 3) := by decide +kernel
theorem dX7_mixedWithRows_68 : decode cX7_mixedWithRows 68 = .ok (.invokestatic 283, 3) := by decide +kernel
theorem dX7_mixedWithRows_71 : decode cX7_mixedWithRows 71 = .ok (.lstore_n 3, 1) := by decide +kernel
theorem dX7_mixedWithRows_72 : decode cX7_mixedWithRows 72 = .ok (.lload_n 3, 1) := by decide +kernel
theorem dX7_mixedWithRows_73 : decode cX7_mixedWithRows 73 = .ok (.aload_n 0, 1) := by decide +kernel
theorem dX7_mixedWithRows_74 : decode cX7_mixedWithRows 74 = .ok (.iconst 0, 1) := by decide +kernel
theorem dX7_mixedWithRows_75 : decode cX7_mixedWithRows 75 = .ok (.invokevirtual 319, 3) := by decide +kernel
theorem dX7_mixedWithRows_78 : decode cX7_mixedWithRows 78 = .ok (.invokestatic 283, 3) := by decide +kernel
theorem dX7_mixedWithRows_81 : decode cX7_mixedWithRows 81 = .ok (.lstore_n 3, 1) := by decide +kernel
theorem dX7_mixedWithRows_82 : decode cX7_mixedWithRows 82 = .ok (.lload_n 3, 1) := by decide +kernel
theorem dX7_mixedWithRows_83 : decode cX7_mixedWithRows 83 = .ok (.aload_n 0, 1) := by decide +kernel
theorem dX7_mixedWithRows_84 : decode cX7_mixedWithRows 84 = .ok (.iconst 1, 1) := by decide +kernel
theorem dX7_mixedWithRows_85 : decode cX7_mixedWithRows 85 = .ok (.invokevirtual 319, 3) := by decide +kernel
theorem dX7_mixedWithRows_88 : decode cX7_mixedWithRows 88 = .ok (.invokestatic 283, 3) := by decide +kernel
theorem dX7_mixedWithRows_91 : decode cX7_mixedWithRows 91 = .ok (.lstore_n 3, 1) := by decide +kernel
theorem dX7_mixedWithRows_92 : decode cX7_mixedWithRows 92 = .ok (.lload_n 3, 1) := by decide +kernel
theorem dX7_mixedWithRows_93 : decode cX7_mixedWithRows 93 = .ok (.aload_n 0, 1) := by decide +kernel
theorem dX7_mixedWithRows_94 : decode cX7_mixedWithRows 94 = .ok (.iconst 0, 1) := by decide +kernel
theorem dX7_mixedWithRows_95 : decode cX7_mixedWithRows 95 = .ok (.invokevirtual 322, 3) := by decide +kernel
theorem dX7_mixedWithRows_98 : decode cX7_mixedWithRows 98 = .ok (.invokestatic 283, 3) := by decide +kernel
theorem dX7_mixedWithRows_101 : decode cX7_mixedWithRows 101 = .ok (.lstore_n 3, 1) := by decide +kernel
theorem dX7_mixedWithRows_102 : decode cX7_mixedWithRows 102 = .ok (.lload_n 3, 1) := by decide +kernel
theorem dX7_mixedWithRows_103 : decode cX7_mixedWithRows 103 = .ok (.aload_n 0, 1) := by decide +kernel
theorem dX7_mixedWithRows_104 : decode cX7_mixedWithRows 104 = .ok (.iconst 5, 1) := by decide +kernel
theorem dX7_mixedWithRows_105 : decode cX7_mixedWithRows 105 = .ok (.invokevirtual 322, 3) := by decide +kernel
theorem dX7_mixedWithRows_108 : decode cX7_mixedWithRows 108 = .ok (.invokestatic 283, 3) := by decide +kernel
theorem dX7_mixedWithRows_111 : decode cX7_mixedWithRows 111 = .ok (.lstore_n 3, 1) := by decide +kernel
theorem dX7_mixedWithRows_112 : decode cX7_mixedWithRows 112 = .ok (.lload_n 3, 1) := by decide +kernel
theorem dX7_mixedWithRows_113 : decode cX7_mixedWithRows 113 = .ok (.aload_n 0, 1) := by decide +kernel
theorem dX7_mixedWithRows_114 : decode cX7_mixedWithRows 114 = .ok (.sipush 1023, 3) := by decide +kernel
theorem dX7_mixedWithRows_117 : decode cX7_mixedWithRows 117 = .ok (.invokevirtual 322, 3) := by decide +kernel
theorem dX7_mixedWithRows_120 : decode cX7_mixedWithRows 120 = .ok (.invokestatic 283, 3) := by decide +kernel
theorem dX7_mixedWithRows_123 : decode cX7_mixedWithRows 123 = .ok (.lstore_n 3, 1) := by decide +kernel
theorem dX7_mixedWithRows_124 : decode cX7_mixedWithRows 124 = .ok (.lload_n 3, 1) := by decide +kernel
theorem dX7_mixedWithRows_125 : decode cX7_mixedWithRows 125 = .ok (.aload_n 0, 1) := by decide +kernel
theorem dX7_mixedWithRows_126 : decode cX7_mixedWithRows 126 = .ok (.iconst 5, 1) := by decide +kernel
theorem dX7_mixedWithRows_127 : decode cX7_mixedWithRows 127 = .ok (.invokevirtual 325, 3) := by decide +kernel
theorem dX7_mixedWithRows_130 : decode cX7_mixedWithRows 130 = .ok (.invokestatic 283, 3) := by decide +kernel
theorem dX7_mixedWithRows_133 : decode cX7_mixedWithRows 133 = .ok (.lstore_n 3, 1) := by decide +kernel
theorem dX7_mixedWithRows_134 : decode cX7_mixedWithRows 134 = .ok (.lload_n 3, 1) := by decide +kernel
theorem dX7_mixedWithRows_135 : decode cX7_mixedWithRows 135 = .ok (.aload_n 0, 1) := by decide +kernel
theorem dX7_mixedWithRows_136 : decode cX7_mixedWithRows 136 = .ok (.iconst 0, 1) := by decide +kernel
theorem dX7_mixedWithRows_137 : decode cX7_mixedWithRows 137 = .ok (.iconst 3, 1) := by decide +kernel
theorem dX7_mixedWithRows_138 : decode cX7_mixedWithRows 138 = .ok (.invokevirtual 328, 3) := by decide +kernel
theorem dX7_mixedWithRows_141 : decode cX7_mixedWithRows 141 = .ok (.invokestatic 283, 3) := by decide +kernel
theorem dX7_mixedWithRows_144 : decode cX7_mixedWithRows 144 = .ok (.lstore_n 3, 1) := by decide +kernel
theorem dX7_mixedWithRows_145 : decode cX7_mixedWithRows 145 = .ok (.lload_n 3, 1) := by decide +kernel
theorem dX7_mixedWithRows_146 : decode cX7_mixedWithRows 146 = .ok (.aload_n 0, 1) := by decide +kernel
theorem dX7_mixedWithRows_147 : decode cX7_mixedWithRows 147 = .ok (.iconst 0, 1) := by decide +kernel
theorem dX7_mixedWithRows_148 : decode cX7_mixedWithRows 148 = .ok (.iconst 0, 1) := by decide +kernel
theorem dX7_mixedWithRows_149 : decode cX7_mixedWithRows 149 = .ok (.invokevirtual 331, 3) := by decide +kernel
theorem dX7_mixedWithRows_152 : decode cX7_mixedWithRows 152 = .ok (.invokestatic 283, 3) := by decide +kernel
theorem dX7_mixedWithRows_155 : decode cX7_mixedWithRows 155 = .ok (.lstore_n 3, 1) := by decide +kernel
theorem dX7_mixedWithRows_156 : decode cX7_mixedWithRows 156 = .ok (.lload_n 3, 1) := by decide +kernel
theorem dX7_mixedWithRows_157 : decode cX7_mixedWithRows 157 = .ok (.aload_n 0, 1) := by decide +kernel
theorem dX7_mixedWithRows_158 : decode cX7_mixedWithRows 158 = .ok (.iconst 0, 1) := by decide +kernel
theorem dX7_mixedWithRows_159 : decode cX7_mixedWithRows 159 = .ok (.iconst 1, 1) := by decide +kernel
theorem dX7_mixedWithRows_160 : decode cX7_mixedWithRows 160 = .ok (.invokevirtual 331, 3) := by decide +kernel
theorem dX7_mixedWithRows_163 : decode cX7_mixedWithRows 163 = .ok (.invokestatic 283, 3) := by decide +kernel
theorem dX7_mixedWithRows_166 : decode cX7_mixedWithRows 166 = .ok (.lstore_n 3, 1) := by decide +kernel
theorem dX7_mixedWithRows_167 : decode cX7_mixedWithRows 167 = .ok (.lload_n 3, 1) := by decide +kernel
theorem dX7_mixedWithRows_168 : decode cX7_mixedWithRows 168 = .ok (.aload_n 0, 1) := by decide +kernel
theorem dX7_mixedWithRows_169 : decode cX7_mixedWithRows 169 = .ok (.invokevirtual 334, 3) := by decide +kernel
theorem dX7_mixedWithRows_172 : decode cX7_mixedWithRows 172 = .ok (.invokestatic 283, 3) := by decide +kernel
theorem dX7_mixedWithRows_175 : decode cX7_mixedWithRows 175 = .ok (.lreturn, 1) := by decide +kernel
theorem dX7_mixedWithPersons_0 : decode cX7_mixedWithPersons 0 = .ok (.lload_n 1, 1) := by decide +kernel
theorem dX7_mixedWithPersons_1 : decode cX7_mixedWithPersons 1 = .ok (.lstore_n 3, 1) := by decide +kernel
theorem dX7_mixedWithPersons_2 : decode cX7_mixedWithPersons 2 = .ok (.iconst 0, 1) := by decide +kernel
theorem dX7_mixedWithPersons_3 : decode cX7_mixedWithPersons 3 = .ok (.istore 5, 2) := by decide +kernel
theorem dX7_mixedWithPersons_5 : decode cX7_mixedWithPersons 5 = .ok (.iload 5, 2) := by decide +kernel
theorem dX7_mixedWithPersons_7 : decode cX7_mixedWithPersons 7 = .ok (.bipush 6, 2) := by decide +kernel
theorem dX7_mixedWithPersons_9 : decode cX7_mixedWithPersons 9 = .ok (.if_icmp .ge 87, 3) := by decide +kernel
theorem dX7_mixedWithPersons_12 : decode cX7_mixedWithPersons 12 = .ok (.lload_n 3, 1) := by decide +kernel
theorem dX7_mixedWithPersons_13 : decode cX7_mixedWithPersons 13 = .ok (.aload_n 0, 1) := by decide +kernel
theorem dX7_mixedWithPersons_14 : decode cX7_mixedWithPersons 14 = .ok (.sipush 1023, 3) := by decide +kernel
theorem dX7_mixedWithPersons_17 : decode cX7_mixedWithPersons 17 = .ok (.iload 5, 2) := by decide +kernel
theorem dX7_mixedWithPersons_19 : decode cX7_mixedWithPersons 19 = .ok (.bipush 20, 2) := by decide +kernel
theorem dX7_mixedWithPersons_21 : decode cX7_mixedWithPersons 21 = .ok (.invokevirtual 337, 3) := by decide +kernel
theorem dX7_mixedWithPersons_24 : decode cX7_mixedWithPersons 24 = .ok (.invokestatic 283, 3) := by decide +kernel
theorem dX7_mixedWithPersons_27 : decode cX7_mixedWithPersons 27 = .ok (.lstore_n 3, 1) := by decide +kernel
theorem dX7_mixedWithPersons_28 : decode cX7_mixedWithPersons 28 = .ok (.lload_n 3, 1) := by decide +kernel
theorem dX7_mixedWithPersons_29 : decode cX7_mixedWithPersons 29 = .ok (.aload_n 0, 1) := by decide +kernel
theorem dX7_mixedWithPersons_30 : decode cX7_mixedWithPersons 30 = .ok (.sipush 1023, 3) := by decide +kernel
theorem dX7_mixedWithPersons_33 : decode cX7_mixedWithPersons 33 = .ok (.iload 5, 2) := by decide +kernel
theorem dX7_mixedWithPersons_35 : decode cX7_mixedWithPersons 35 = .ok (.bipush 20, 2) := by decide +kernel
theorem dX7_mixedWithPersons_37 : decode cX7_mixedWithPersons 37 = .ok (.invokevirtual 341, 3) := by decide +kernel
theorem dX7_mixedWithPersons_40 : decode cX7_mixedWithPersons 40 = .ok (.invokestatic 283, 3) := by decide +kernel
theorem dX7_mixedWithPersons_43 : decode cX7_mixedWithPersons 43 = .ok (.lstore_n 3, 1) := by decide +kernel
theorem dX7_mixedWithPersons_44 : decode cX7_mixedWithPersons 44 = .ok (.lload_n 3, 1) := by decide +kernel
theorem dX7_mixedWithPersons_45 : decode cX7_mixedWithPersons 45 = .ok (.aload_n 0, 1) := by decide +kernel
theorem dX7_mixedWithPersons_46 : decode cX7_mixedWithPersons 46 = .ok (.iload 5, 2) := by decide +kernel
theorem dX7_mixedWithPersons_48 : decode cX7_mixedWithPersons 48 = .ok (.iconst 0, 1) := by decide +kernel
theorem dX7_mixedWithPersons_49 : decode cX7_mixedWithPersons 49 = .ok (.invokevirtual 344, 3) := by decide +kernel
theorem dX7_mixedWithPersons_52 : decode cX7_mixedWithPersons 52 = .ok (.invokestatic 283, 3) := by decide +kernel
theorem dX7_mixedWithPersons_55 : decode cX7_mixedWithPersons 55 = .ok (.lstore_n 3, 1) := by decide +kernel
theorem dX7_mixedWithPersons_56 : decode cX7_mixedWithPersons 56 = .ok (.lload_n 3, 1) := by decide +kernel
theorem dX7_mixedWithPersons_57 : decode cX7_mixedWithPersons 57 = .ok (.aload_n 0, 1) := by decide +kernel
theorem dX7_mixedWithPersons_58 : decode cX7_mixedWithPersons 58 = .ok (.iload 5, 2) := by decide +kernel
theorem dX7_mixedWithPersons_60 : decode cX7_mixedWithPersons 60 = .ok (.iconst 1, 1) := by decide +kernel
theorem dX7_mixedWithPersons_61 : decode cX7_mixedWithPersons 61 = .ok (.invokevirtual 344, 3) := by decide +kernel
theorem dX7_mixedWithPersons_64 : decode cX7_mixedWithPersons 64 = .ok (.invokestatic 283, 3) := by decide +kernel
theorem dX7_mixedWithPersons_67 : decode cX7_mixedWithPersons 67 = .ok (.lstore_n 3, 1) := by decide +kernel
theorem dX7_mixedWithPersons_68 : decode cX7_mixedWithPersons 68 = .ok (.lload_n 3, 1) := by decide +kernel
theorem dX7_mixedWithPersons_69 : decode cX7_mixedWithPersons 69 = .ok (.aload_n 0, 1) := by decide +kernel
theorem dX7_mixedWithPersons_70 : decode cX7_mixedWithPersons 70 = .ok (.iload 5, 2) := by decide +kernel
theorem dX7_mixedWithPersons_72 : decode cX7_mixedWithPersons 72 = .ok (.invokevirtual 347, 3) := by decide +kernel
theorem dX7_mixedWithPersons_75 : decode cX7_mixedWithPersons 75 = .ok (.invokestatic 283, 3) := by decide +kernel
theorem dX7_mixedWithPersons_78 : decode cX7_mixedWithPersons 78 = .ok (.lstore_n 3, 1) := by decide +kernel
theorem dX7_mixedWithPersons_79 : decode cX7_mixedWithPersons 79 = .ok (.lload_n 3, 1) := by decide +kernel
theorem dX7_mixedWithPersons_80 : decode cX7_mixedWithPersons 80 = .ok (.aload_n 0, 1) := by decide +kernel
theorem dX7_mixedWithPersons_81 : decode cX7_mixedWithPersons 81 = .ok (.iload 5, 2) := by decide +kernel
theorem dX7_mixedWithPersons_83 : decode cX7_mixedWithPersons 83 = .ok (.invokevirtual 350, 3) := by decide +kernel
theorem dX7_mixedWithPersons_86 : decode cX7_mixedWithPersons 86 = .ok (.invokestatic 283, 3) := by decide +kernel
theorem dX7_mixedWithPersons_89 : decode cX7_mixedWithPersons 89 = .ok (.lstore_n 3, 1) := by decide +kernel
theorem dX7_mixedWithPersons_90 : decode cX7_mixedWithPersons 90 = .ok (.iinc 5 1, 3) := by decide +kernel
theorem dX7_mixedWithPersons_93 : decode cX7_mixedWithPersons 93 = .ok (.goto (-88), 3) := by decide +kernel
theorem dX7_mixedWithPersons_96 : decode cX7_mixedWithPersons 96 = .ok (.lload_n 3, 1) := by decide +kernel
theorem dX7_mixedWithPersons_97 : decode cX7_mixedWithPersons 97 = .ok (.lreturn, 1) := by decide +kernel
theorem dX7_mixedWithAll_0 : decode cX7_mixedWithAll 0 = .ok (.lload_n 1, 1) := by decide +kernel
theorem dX7_mixedWithAll_1 : decode cX7_mixedWithAll 1 = .ok (.lstore_n 3, 1) := by decide +kernel
theorem dX7_mixedWithAll_2 : decode cX7_mixedWithAll 2 = .ok (.lload_n 3, 1) := by decide +kernel
theorem dX7_mixedWithAll_3 : decode cX7_mixedWithAll 3 = .ok (.aload_n 0, 1) := by decide +kernel
theorem dX7_mixedWithAll_4 : decode cX7_mixedWithAll 4 = .ok (.sipush 1023, 3) := by decide +kernel
theorem dX7_mixedWithAll_7 : decode cX7_mixedWithAll 7 = .ok (.bipush 20, 2) := by decide +kernel
theorem dX7_mixedWithAll_9 : decode cX7_mixedWithAll 9 = .ok (.invokevirtual 353, 3) := by decide +kernel
theorem dX7_mixedWithAll_12 : decode cX7_mixedWithAll 12 = .ok (.invokestatic 283, 3) := by decide +kernel
theorem dX7_mixedWithAll_15 : decode cX7_mixedWithAll 15 = .ok (.lstore_n 3, 1) := by decide +kernel
theorem dX7_mixedWithAll_16 : decode cX7_mixedWithAll 16 = .ok (.lload_n 3, 1) := by decide +kernel
theorem dX7_mixedWithAll_17 : decode cX7_mixedWithAll 17 = .ok (.aload_n 0, 1) := by decide +kernel
theorem dX7_mixedWithAll_18 : decode cX7_mixedWithAll 18 = .ok (.iconst 0, 1) := by decide +kernel
theorem dX7_mixedWithAll_19 : decode cX7_mixedWithAll 19 = .ok (.aload_n 0, 1) := by decide +kernel
theorem dX7_mixedWithAll_20 : decode cX7_mixedWithAll 20 = .ok (.iconst 0, 1) := by decide +kernel
theorem dX7_mixedWithAll_21 : decode cX7_mixedWithAll 21 = .ok (.invokevirtual 311, 3) := by decide +kernel
theorem dX7_mixedWithAll_24 : decode cX7_mixedWithAll 24 = .ok (.invokestatic 356, 3) := by decide +kernel
theorem dX7_mixedWithAll_27 : decode cX7_mixedWithAll 27 = .ok (.iconst 0, 1) := by decide +kernel
theorem dX7_mixedWithAll_28 : decode cX7_mixedWithAll 28 = .ok (.invokevirtual 359, 3) := by decide +kernel
theorem dX7_mixedWithAll_31 : decode cX7_mixedWithAll 31 = .ok (.invokestatic 283, 3) := by decide +kernel
theorem dX7_mixedWithAll_34 : decode cX7_mixedWithAll 34 = .ok (.lstore_n 3, 1) := by decide +kernel
theorem dX7_mixedWithAll_35 : decode cX7_mixedWithAll 35 = .ok (.lload_n 3, 1) := by decide +kernel
theorem dX7_mixedWithAll_36 : decode cX7_mixedWithAll 36 = .ok (.aload_n 0, 1) := by decide +kernel
theorem dX7_mixedWithAll_37 : decode cX7_mixedWithAll 37 = .ok (.iconst (-1), 1) := by decide +kernel
theorem dX7_mixedWithAll_38 : decode cX7_mixedWithAll 38 = .ok (.invokevirtual 347, 3) := by decide +kernel
theorem dX7_mixedWithAll_41 : decode cX7_mixedWithAll 41 = .ok (.invokestatic 283, 3) := by decide +kernel
theorem dX7_mixedWithAll_44 : decode cX7_mixedWithAll 44 = .ok (.lstore_n 3, 1) := by decide +kernel
theorem dX7_mixedWithAll_45 : decode cX7_mixedWithAll 45 = .ok (.lload_n 3, 1) := by decide +kernel
theorem dX7_mixedWithAll_46 : decode cX7_mixedWithAll 46 = .ok (.aload_n 0, 1) := by decide +kernel
theorem dX7_mixedWithAll_47 : decode cX7_mixedWithAll 47 = .ok (.invokevirtual 362, 3) := by decide +kernel
theorem dX7_mixedWithAll_50 : decode cX7_mixedWithAll 50 = .ok (.invokestatic 283, 3) := by decide +kernel
theorem dX7_mixedWithAll_53 : decode cX7_mixedWithAll 53 = .ok (.lstore_n 3, 1) := by decide +kernel
theorem dX7_mixedWithAll_54 : decode cX7_mixedWithAll 54 = .ok (.lload_n 3, 1) := by decide +kernel
theorem dX7_mixedWithAll_55 : decode cX7_mixedWithAll 55 = .ok (.aload_n 0, 1) := by decide +kernel
theorem dX7_mixedWithAll_56 : decode cX7_mixedWithAll 56 = .ok (.invokevirtual 365, 3) := by decide +kernel
theorem dX7_mixedWithAll_59 : decode cX7_mixedWithAll 59 = .ok (.invokestatic 283, 3) := by decide +kernel
theorem dX7_mixedWithAll_62 : decode cX7_mixedWithAll 62 = .ok (.lstore_n 3, 1) := by decide +kernel
theorem dX7_mixedWithAll_63 : decode cX7_mixedWithAll 63 = .ok (.lload_n 3, 1) := by decide +kernel
theorem dX7_mixedWithAll_64 : decode cX7_mixedWithAll 64 = .ok (.aload_n 0, 1) := by decide +kernel
theorem dX7_mixedWithAll_65 : decode cX7_mixedWithAll 65 = .ok (.iconst 0, 1) := by decide +kernel
theorem dX7_mixedWithAll_66 : decode cX7_mixedWithAll 66 = .ok (.invokevirtual 368, 3) := by decide +kernel
theorem dX7_mixedWithAll_69 : decode cX7_mixedWithAll 69 = .ok (.invokestatic 283, 3) := by decide +kernel
theorem dX7_mixedWithAll_72 : decode cX7_mixedWithAll 72 = .ok (.lstore_n 3, 1) := by decide +kernel
theorem dX7_mixedWithAll_73 : decode cX7_mixedWithAll 73 = .ok (.lload_n 3, 1) := by decide +kernel
theorem dX7_mixedWithAll_74 : decode cX7_mixedWithAll 74 = .ok (.aload_n 0, 1) := by decide +kernel
theorem dX7_mixedWithAll_75 : decode cX7_mixedWithAll 75 = .ok (.iconst 1, 1) := by decide +kernel
theorem dX7_mixedWithAll_76 : decode cX7_mixedWithAll 76 = .ok (.invokevirtual 368, 3) := by decide +kernel
theorem dX7_mixedWithAll_79 : decode cX7_mixedWithAll 79 = .ok (.invokestatic 283, 3) := by decide +kernel
theorem dX7_mixedWithAll_82 : decode cX7_mixedWithAll 82 = .ok (.lstore_n 3, 1) := by decide +kernel
theorem dX7_mixedWithAll_83 : decode cX7_mixedWithAll 83 = .ok (.lload_n 3, 1) := by decide +kernel
theorem dX7_mixedWithAll_84 : decode cX7_mixedWithAll 84 = .ok (.aload_n 0, 1) := by decide +kernel
theorem dX7_mixedWithAll_85 : decode cX7_mixedWithAll 85 = .ok (.bipush 7, 2) := by decide +kernel
theorem dX7_mixedWithAll_87 : decode cX7_mixedWithAll 87 = .ok (.iconst 0, 1) := by decide +kernel
theorem dX7_mixedWithAll_88 : decode cX7_mixedWithAll 88 = .ok (.invokevirtual 371, 3) := by decide +kernel
theorem dX7_mixedWithAll_91 : decode cX7_mixedWithAll 91 = .ok (.invokestatic 283, 3) := by decide +kernel
theorem dX7_mixedWithAll_94 : decode cX7_mixedWithAll 94 = .ok (.lstore_n 3, 1) := by decide +kernel
theorem dX7_mixedWithAll_95 : decode cX7_mixedWithAll 95 = .ok (.lload_n 3, 1) := by decide +kernel
theorem dX7_mixedWithAll_96 : decode cX7_mixedWithAll 96 = .ok (.aload_n 0, 1) := by decide +kernel
theorem dX7_mixedWithAll_97 : decode cX7_mixedWithAll 97 = .ok (.bipush 7, 2) := by decide +kernel
theorem dX7_mixedWithAll_99 : decode cX7_mixedWithAll 99 = .ok (.bipush 20, 2) := by decide +kernel
theorem dX7_mixedWithAll_101 : decode cX7_mixedWithAll 101 = .ok (.invokevirtual 371, 3) := by decide +kernel
theorem dX7_mixedWithAll_104 : decode cX7_mixedWithAll 104 = .ok (.invokestatic 283, 3) := by decide +kernel
theorem dX7_mixedWithAll_107 : decode cX7_mixedWithAll 107 = .ok (.lreturn, 1) := by decide +kernel
theorem dX7_isOutside_0 : decode cX7_isOutside 0 = .ok (.iload_n 0, 1) := by decide +kernel
theorem dX7_isOutside_1 : decode cX7_isOutside 1 = .ok (.ifCond .lt 8, 3) := by decide +kernel
theorem dX7_isOutside_4 : decode cX7_isOutside 4 = .ok (.iload_n 0, 1) := by decide +kernel
theorem dX7_isOutside_5 : decode cX7_isOutside 5 = .ok (.iload_n 1, 1) := by decide +kernel
theorem dX7_isOutside_6 : decode cX7_isOutside 6 = .ok (.if_icmp .lt 7, 3) := by decide +kernel
theorem dX7_isOutside_9 : decode cX7_isOutside 9 = .ok (.iconst 1, 1) := by decide +kernel
theorem dX7_isOutside_10 : decode cX7_isOutside 10 = .ok (.goto 4, 3) := by decide +kernel
theorem dX7_isOutside_13 : decode cX7_isOutside 13 = .ok (.iconst 0, 1) := by decide +kernel
theorem dX7_isOutside_14 : decode cX7_isOutside 14 = .ok (.ireturn, 1) := by decide +kernel
theorem dX7_isNoRow_0 : decode cX7_isNoRow 0 = .ok (.iload_n 0, 1) := by decide +kernel
theorem dX7_isNoRow_1 : decode cX7_isNoRow 1 = .ok (.sipush 1024, 3) := by decide +kernel
theorem dX7_isNoRow_4 : decode cX7_isNoRow 4 = .ok (.invokestatic 82, 3) := by decide +kernel
theorem dX7_isNoRow_7 : decode cX7_isNoRow 7 = .ok (.ireturn, 1) := by decide +kernel
theorem dX7_isNoDay_0 : decode cX7_isNoDay 0 = .ok (.iload_n 0, 1) := by decide +kernel
theorem dX7_isNoDay_1 : decode cX7_isNoDay 1 = .ok (.ifCond .lt 9, 3) := by decide +kernel
theorem dX7_isNoDay_4 : decode cX7_isNoDay 4 = .ok (.iload_n 0, 1) := by decide +kernel
theorem dX7_isNoDay_5 : decode cX7_isNoDay 5 = .ok (.bipush 99, 2) := by decide +kernel
theorem dX7_isNoDay_7 : decode cX7_isNoDay 7 = .ok (.if_icmp .le 7, 3) := by decide +kernel
theorem dX7_isNoDay_10 : decode cX7_isNoDay 10 = .ok (.iconst 1, 1) := by decide +kernel
theorem dX7_isNoDay_11 : decode cX7_isNoDay 11 = .ok (.goto 4, 3) := by decide +kernel
theorem dX7_isNoDay_14 : decode cX7_isNoDay 14 = .ok (.iconst 0, 1) := by decide +kernel
theorem dX7_isNoDay_15 : decode cX7_isNoDay 15 = .ok (.ireturn, 1) := by decide +kernel
theorem dX7_isNotSeeable_0 : decode cX7_isNotSeeable 0 = .ok (.iload_n 0, 1) := by decide +kernel
theorem dX7_isNotSeeable_1 : decode cX7_isNotSeeable 1 = .ok (.bipush 10, 2) := by decide +kernel
theorem dX7_isNotSeeable_3 : decode cX7_isNotSeeable 3 = .ok (.invokestatic 82, 3) := by decide +kernel
theorem dX7_isNotSeeable_6 : decode cX7_isNotSeeable 6 = .ok (.ifCond .ne 11, 3) := by decide +kernel
theorem dX7_isNotSeeable_9 : decode cX7_isNotSeeable 9 = .ok (.iload_n 1, 1) := by decide +kernel
theorem dX7_isNotSeeable_10 : decode cX7_isNotSeeable 10 = .ok (.iconst 2, 1) := by decide +kernel
theorem dX7_isNotSeeable_11 : decode cX7_isNotSeeable 11 = .ok (.invokestatic 82, 3) := by decide +kernel
theorem dX7_isNotSeeable_14 : decode cX7_isNotSeeable 14 = .ok (.ifCond .eq 7, 3) := by decide +kernel
theorem dX7_isNotSeeable_17 : decode cX7_isNotSeeable 17 = .ok (.iconst 1, 1) := by decide +kernel
theorem dX7_isNotSeeable_18 : decode cX7_isNotSeeable 18 = .ok (.goto 4, 3) := by decide +kernel
theorem dX7_isNotSeeable_21 : decode cX7_isNotSeeable 21 = .ok (.iconst 0, 1) := by decide +kernel
theorem dX7_isNotSeeable_22 : decode cX7_isNotSeeable 22 = .ok (.ireturn, 1) := by decide +kernel
theorem dX7_isNoMatter_0 : decode cX7_isNoMatter 0 = .ok (.iload_n 1, 1) := by decide +kernel
theorem dX7_isNoMatter_1 : decode cX7_isNoMatter 1 = .ok (.aload_n 0, 1) := by decide +kernel
theorem dX7_isNoMatter_2 : decode cX7_isNoMatter 2 = .ok (.getfield 30, 3) := by decide +kernel
theorem dX7_isNoMatter_5 : decode cX7_isNoMatter 5 = .ok (.iconst 0, 1) := by decide +kernel
theorem dX7_isNoMatter_6 : decode cX7_isNoMatter 6 = .ok (.aaload, 1) := by decide +kernel
theorem dX7_isNoMatter_7 : decode cX7_isNoMatter 7 = .ok (.invokevirtual 239, 3) := by decide +kernel
theorem dX7_isNoMatter_10 : decode cX7_isNoMatter 10 = .ok (.invokestatic 82, 3) := by decide +kernel
theorem dX7_isNoMatter_13 : decode cX7_isNoMatter 13 = .ok (.ireturn, 1) := by decide +kernel
theorem dX7_finding_0 : decode cX7_finding 0 = .ok (.aload_n 0, 1) := by decide +kernel
theorem dX7_finding_1 : decode cX7_finding 1 = .ok (.iload_n 1, 1) := by decide +kernel
theorem dX7_finding_2 : decode cX7_finding 2 = .ok (.putfield 274, 3) := by decide +kernel
theorem dX7_finding_5 : decode cX7_finding 5 = .ok (.bipush (-10), 2) := by decide +kernel
theorem dX7_finding_7 : decode cX7_finding 7 = .ok (.iload_n 1, 1) := by decide +kernel
theorem dX7_finding_8 : decode cX7_finding 8 = .ok (.isub, 1) := by decide +kernel
theorem dX7_finding_9 : decode cX7_finding 9 = .ok (.ireturn, 1) := by decide +kernel
theorem dX7_itemRefusal_0 : decode cX7_itemRefusal 0 = .ok (.iload_n 2, 1) := by decide +kernel
theorem dX7_itemRefusal_1 : decode cX7_itemRefusal 1 = .ok (.iconst 3, 1) := by decide +kernel
theorem dX7_itemRefusal_2 : decode cX7_itemRefusal 2 = .ok (.invokestatic 82, 3) := by decide +kernel
theorem dX7_itemRefusal_5 : decode cX7_itemRefusal 5 = .ok (.ifCond .eq 6, 3) := by decide +kernel
theorem dX7_itemRefusal_8 : decode cX7_itemRefusal 8 = .ok (.bipush (-2), 2) := by decide +kernel
theorem dX7_itemRefusal_10 : decode cX7_itemRefusal 10 = .ok (.ireturn, 1) := by decide +kernel
theorem dX7_itemRefusal_11 : decode cX7_itemRefusal 11 = .ok (.aload_n 1, 1) := by decide +kernel
theorem dX7_itemRefusal_12 : decode cX7_itemRefusal 12 = .ok (.invokevirtual 133, 3) := by decide +kernel
theorem dX7_itemRefusal_15 : decode cX7_itemRefusal 15 = .ok (.ifCond .eq 9, 3) := by decide +kernel
theorem dX7_itemRefusal_18 : decode cX7_itemRefusal 18 = .ok (.aload_n 0, 1) := by decide +kernel
theorem dX7_itemRefusal_19 : decode cX7_itemRefusal 19 = .ok (.iconst 1, 1) := by decide +kernel
theorem dX7_itemRefusal_20 : decode cX7_itemRefusal 20 = .ok (.invokevirtual 136, 3) := by decide +kernel
theorem dX7_itemRefusal_23 : decode cX7_itemRefusal 23 = .ok (.ireturn, 1) := by decide +kernel
theorem dX7_itemRefusal_24 : decode cX7_itemRefusal 24 = .ok (.aload_n 1, 1) := by decide +kernel
theorem dX7_itemRefusal_25 : decode cX7_itemRefusal 25 = .ok (.invokevirtual 259, 3) := by decide +kernel
theorem dX7_itemRefusal_28 : decode cX7_itemRefusal 28 = .ok (.iload_n 2, 1) := by decide +kernel
theorem dX7_itemRefusal_29 : decode cX7_itemRefusal 29 = .ok (.if_icmp .eq 9, 3) := by decide +kernel
theorem dX7_itemRefusal_32 : decode cX7_itemRefusal 32 = .ok (.aload_n 0, 1) := by decide +kernel
theorem dX7_itemRefusal_33 : decode cX7_itemRefusal 33 = .ok (.iconst 3, 1) := by decide +kernel
theorem dX7_itemRefusal_34 : decode cX7_itemRefusal 34 = .ok (.invokevirtual 136, 3) := by decide +kernel
theorem dX7_itemRefusal_37 : decode cX7_itemRefusal 37 = .ok (.ireturn, 1) := by decide +kernel
theorem dX7_itemRefusal_38 : decode cX7_itemRefusal 38 = .ok (.iload_n 3, 1) := by decide +kernel
theorem dX7_itemRefusal_39 : decode cX7_itemRefusal 39 = .ok (.aload_n 1, 1) := by decide +kernel
theorem dX7_itemRefusal_40 : decode cX7_itemRefusal 40 = .ok (.invokevirtual 143, 3) := by decide +kernel
theorem dX7_itemRefusal_43 : decode cX7_itemRefusal 43 = .ok (.invokestatic 82, 3) := by decide +kernel
theorem dX7_itemRefusal_46 : decode cX7_itemRefusal 46 = .ok (.ifCond .eq 11, 3) := by decide +kernel
theorem dX7_itemRefusal_49 : decode cX7_itemRefusal 49 = .ok (.aload_n 0, 1) := by decide +kernel
theorem dX7_itemRefusal_50 : decode cX7_itemRefusal 50 = .ok (.iconst 2, 1) := by decide +kernel
theorem dX7_itemRefusal_51 : decode cX7_itemRefusal 51 = .ok (.invokevirtual 136, 3) := by decide +kernel
theorem dX7_itemRefusal_54 : decode cX7_itemRefusal 54 = .ok (.goto 4, 3) := by decide +kernel
theorem dX7_itemRefusal_57 : decode cX7_itemRefusal 57 = .ok (.iconst 0, 1) := by decide +kernel
theorem dX7_itemRefusal_58 : decode cX7_itemRefusal 58 = .ok (.ireturn, 1) := by decide +kernel
theorem dX7_markOld_0 : decode cX7_markOld 0 = .ok (.aload_n 0, 1) := by decide +kernel
theorem dX7_markOld_1 : decode cX7_markOld 1 = .ok (.iconst 1, 1) := by decide +kernel
theorem dX7_markOld_2 : decode cX7_markOld 2 = .ok (.putfield 47, 3) := by decide +kernel
theorem dX7_markOld_5 : decode cX7_markOld 5 = .ok (.aload_n 0, 1) := by decide +kernel
theorem dX7_markOld_6 : decode cX7_markOld 6 = .ok (.iconst 1, 1) := by decide +kernel
theorem dX7_markOld_7 : decode cX7_markOld 7 = .ok (.putfield 58, 3) := by decide +kernel
theorem dX7_markOld_10 : decode cX7_markOld 10 = .ok (.return_, 1) := by decide +kernel
theorem dX7_rowsNow_0 : decode cX7_rowsNow 0 = .ok (.aload_n 0, 1) := by decide +kernel
theorem dX7_rowsNow_1 : decode cX7_rowsNow 1 = .ok (.getfield 47, 3) := by decide +kernel
theorem dX7_rowsNow_4 : decode cX7_rowsNow 4 = .ok (.ifCond .eq 33, 3) := by decide +kernel
theorem dX7_rowsNow_7 : decode cX7_rowsNow 7 = .ok (.aload_n 0, 1) := by decide +kernel
theorem dX7_rowsNow_8 : decode cX7_rowsNow 8 = .ok (.getfield 43, 3) := by decide +kernel
theorem dX7_rowsNow_11 : decode cX7_rowsNow 11 = .ok (.aload_n 0, 1) := by decide +kernel
theorem dX7_rowsNow_12 : decode cX7_rowsNow 12 = .ok (.getfield 30, 3) := by decide +kernel
theorem dX7_rowsNow_15 : decode cX7_rowsNow 15 = .ok (.iconst 0, 1) := by decide +kernel
theorem dX7_rowsNow_16 : decode cX7_rowsNow 16 = .ok (.aaload, 1) := by decide +kernel
theorem dX7_rowsNow_17 : decode cX7_rowsNow 17 = .ok (.aload_n 0, 1) := by decide +kernel
theorem dX7_rowsNow_18 : decode cX7_rowsNow 18 = .ok (.getfield 34, 3) := by decide +kernel
theorem dX7_rowsNow_21 : decode cX7_rowsNow 21 = .ok (.iconst 0, 1) := by decide +kernel
theorem dX7_rowsNow_22 : decode cX7_rowsNow 22 = .ok (.iaload, 1) := by decide +kernel
theorem dX7_rowsNow_23 : decode cX7_rowsNow 23 = .ok (.aload_n 0, 1) := by decide +kernel
theorem dX7_rowsNow_24 : decode cX7_rowsNow 24 = .ok (.getfield 34, 3) := by decide +kernel
theorem dX7_rowsNow_27 : decode cX7_rowsNow 27 = .ok (.iconst 3, 1) := by decide +kernel
theorem dX7_rowsNow_28 : decode cX7_rowsNow 28 = .ok (.iaload, 1) := by decide +kernel
theorem dX7_rowsNow_29 : decode cX7_rowsNow 29 = .ok (.invokevirtual 374, 3) := by decide +kernel
theorem dX7_rowsNow_32 : decode cX7_rowsNow 32 = .ok (.aload_n 0, 1) := by decide +kernel
theorem dX7_rowsNow_33 : decode cX7_rowsNow 33 = .ok (.iconst 0, 1) := by decide +kernel
theorem dX7_rowsNow_34 : decode cX7_rowsNow 34 = .ok (.putfield 47, 3) := by decide +kernel
theorem dX7_rowsNow_37 : decode cX7_rowsNow 37 = .ok (.aload_n 0, 1) := by decide +kernel
theorem dX7_rowsNow_38 : decode cX7_rowsNow 38 = .ok (.getfield 43, 3) := by decide +kernel
theorem dX7_rowsNow_41 : decode cX7_rowsNow 41 = .ok (.areturn, 1) := by decide +kernel
theorem dX7_accountsNow_0 : decode cX7_accountsNow 0 = .ok (.aload_n 0, 1) := by decide +kernel
theorem dX7_accountsNow_1 : decode cX7_accountsNow 1 = .ok (.getfield 58, 3) := by decide +kernel
theorem dX7_accountsNow_4 : decode cX7_accountsNow 4 = .ok (.ifCond .eq 39, 3) := by decide +kernel
theorem dX7_accountsNow_7 : decode cX7_accountsNow 7 = .ok (.aload_n 0, 1) := by decide +kernel
theorem dX7_accountsNow_8 : decode cX7_accountsNow 8 = .ok (.getfield 54, 3) := by decide +kernel
theorem dX7_accountsNow_11 : decode cX7_accountsNow 11 = .ok (.aload_n 0, 1) := by decide +kernel
theorem dX7_accountsNow_12 : decode cX7_accountsNow 12 = .ok (.getfield 30, 3) := by decide +kernel
theorem dX7_accountsNow_15 : decode cX7_accountsNow 15 = .ok (.iconst 1, 1) := by decide +kernel
theorem dX7_accountsNow_16 : decode cX7_accountsNow 16 = .ok (.aaload, 1) := by decide +kernel
theorem dX7_accountsNow_17 : decode cX7_accountsNow 17 = .ok (.aload_n 0, 1) := by decide +kernel
theorem dX7_accountsNow_18 : decode cX7_accountsNow 18 = .ok (.getfield 30, 3) := by decide +kernel
theorem dX7_accountsNow_21 : decode cX7_accountsNow 21 = .ok (.iconst 2, 1) := by decide +kernel
theorem dX7_accountsNow_22 : decode cX7_accountsNow 22 = .ok (.aaload, 1) := by decide +kernel
theorem dX7_accountsNow_23 : decode cX7_accountsNow 23 = .ok (.aload_n 0, 1) := by decide +kernel
theorem dX7_accountsNow_24 : decode cX7_accountsNow 24 = .ok (.getfield 34, 3) := by decide +kernel
theorem dX7_accountsNow_27 : decode cX7_accountsNow 27 = .ok (.iconst 0, 1) := by decide +kernel
theorem dX7_accountsNow_28 : decode cX7_accountsNow 28 = .ok (.iaload, 1) := by decide +kernel
theorem dX7_accountsNow_29 : decode cX7_accountsNow 29 = .ok (.aload_n 0, 1) := by decide +kernel
theorem dX7_accountsNow_30 : decode cX7_accountsNow 30 = .ok (.getfield 34, 3) := by decide +kernel
theorem dX7_accountsNow_33 : decode cX7_accountsNow 33 = .ok (.iconst 1, 1) := by decide +kernel
theorem dX7_accountsNow_34 : decode cX7_accountsNow 34 = .ok (.iaload, 1) := by decide +kernel
theorem dX7_accountsNow_35 : decode cX7_accountsNow 35 = .ok (.invokevirtual 378, 3) := by decide +kernel
theorem dX7_accountsNow_38 : decode cX7_accountsNow 38 = .ok (.aload_n 0, 1) := by decide +kernel
theorem dX7_accountsNow_39 : decode cX7_accountsNow 39 = .ok (.iconst 0, 1) := by decide +kernel
theorem dX7_accountsNow_40 : decode cX7_accountsNow 40 = .ok (.putfield 58, 3) := by decide +kernel
theorem dX7_accountsNow_43 : decode cX7_accountsNow 43 = .ok (.aload_n 0, 1) := by decide +kernel
theorem dX7_accountsNow_44 : decode cX7_accountsNow 44 = .ok (.getfield 54, 3) := by decide +kernel
theorem dX7_accountsNow_47 : decode cX7_accountsNow 47 = .ok (.areturn, 1) := by decide +kernel
theorem dX7_worthOf_0 : decode cX7_worthOf 0 = .ok (.iload_n 1, 1) := by decide +kernel
theorem dX7_worthOf_1 : decode cX7_worthOf 1 = .ok (.iload_n 2, 1) := by decide +kernel
theorem dX7_worthOf_2 : decode cX7_worthOf 2 = .ok (.iand, 1) := by decide +kernel
theorem dX7_worthOf_3 : decode cX7_worthOf 3 = .ok (.istore_n 3, 1) := by decide +kernel
theorem dX7_worthOf_4 : decode cX7_worthOf 4 = .ok (.iconst 0, 1) := by decide +kernel
theorem dX7_worthOf_5 : decode cX7_worthOf 5 = .ok (.istore 4, 2) := by decide +kernel
theorem dX7_worthOf_7 : decode cX7_worthOf 7 = .ok (.iconst 0, 1) := by decide +kernel
theorem dX7_worthOf_8 : decode cX7_worthOf 8 = .ok (.istore 5, 2) := by decide +kernel
theorem dX7_worthOf_10 : decode cX7_worthOf 10 = .ok (.iload 5, 2) := by decide +kernel
theorem dX7_worthOf_12 : decode cX7_worthOf 12 = .ok (.bipush 10, 2) := by decide +kernel
theorem dX7_worthOf_14 : decode cX7_worthOf 14 = .ok (.if_icmp .ge 31, 3) := by decide +kernel
theorem dX7_worthOf_17 : decode cX7_worthOf 17 = .ok (.iload_n 3, 1) := by decide +kernel
theorem dX7_worthOf_18 : decode cX7_worthOf 18 = .ok (.iload 5, 2) := by decide +kernel
theorem dX7_worthOf_20 : decode cX7_worthOf 20 = .ok (.ishr, 1) := by decide +kernel
theorem dX7_worthOf_21 : decode cX7_worthOf 21 = .ok (.iconst 1, 1) := by decide +kernel
theorem dX7_worthOf_22 : decode cX7_worthOf 22 = .ok (.iand, 1) := by decide +kernel
theorem dX7_worthOf_23 : decode cX7_worthOf 23 = .ok (.iconst 1, 1) := by decide +kernel
theorem dX7_worthOf_24 : decode cX7_worthOf 24 = .ok (.if_icmp .ne 15, 3) := by decide +kernel
theorem dX7_worthOf_27 : decode cX7_worthOf 27 = .ok (.iload 4, 2) := by decide +kernel
theorem dX7_worthOf_29 : decode cX7_worthOf 29 = .ok (.aload_n 0, 1) := by decide +kernel
theorem dX7_worthOf_30 : decode cX7_worthOf 30 = .ok (.getfield 37, 3) := by decide +kernel
theorem dX7_worthOf_33 : decode cX7_worthOf 33 = .ok (.iload 5, 2) := by decide +kernel
theorem dX7_worthOf_35 : decode cX7_worthOf 35 = .ok (.iaload, 1) := by decide +kernel
theorem dX7_worthOf_36 : decode cX7_worthOf 36 = .ok (.iadd, 1) := by decide +kernel
theorem dX7_worthOf_37 : decode cX7_worthOf 37 = .ok (.istore 4, 2) := by decide +kernel
theorem dX7_worthOf_39 : decode cX7_worthOf 39 = .ok (.iinc 5 1, 3) := by decide +kernel
theorem dX7_worthOf_42 : decode cX7_worthOf 42 = .ok (.goto (-32), 3) := by decide +kernel
theorem dX7_worthOf_45 : decode cX7_worthOf 45 = .ok (.iload 4, 2) := by decide +kernel
theorem dX7_worthOf_47 : decode cX7_worthOf 47 = .ok (.ireturn, 1) := by decide +kernel
theorem dX7_bestRow_0 : decode cX7_bestRow 0 = .ok (.iconst (-1), 1) := by decide +kernel
theorem dX7_bestRow_1 : decode cX7_bestRow 1 = .ok (.istore_n 3, 1) := by decide +kernel
theorem dX7_bestRow_2 : decode cX7_bestRow 2 = .ok (.iconst 0, 1) := by decide +kernel
theorem dX7_bestRow_3 : decode cX7_bestRow 3 = .ok (.istore 4, 2) := by decide +kernel
theorem dX7_bestRow_5 : decode cX7_bestRow 5 = .ok (.iconst 0, 1) := by decide +kernel
theorem dX7_bestRow_6 : decode cX7_bestRow 6 = .ok (.istore 5, 2) := by decide +kernel
theorem dX7_bestRow_8 : decode cX7_bestRow 8 = .ok (.iload 5, 2) := by decide +kernel
theorem dX7_bestRow_10 : decode cX7_bestRow 10 = .ok (.aload_n 1, 1) := by decide +kernel
theorem dX7_bestRow_11 : decode cX7_bestRow 11 = .ok (.invokevirtual 159, 3) := by decide +kernel
theorem dX7_bestRow_14 : decode cX7_bestRow 14 = .ok (.if_icmp .ge 45, 3) := by decide +kernel
theorem dX7_bestRow_17 : decode cX7_bestRow 17 = .ok (.aload_n 0, 1) := by decide +kernel
theorem dX7_bestRow_18 : decode cX7_bestRow 18 = .ok (.aload_n 1, 1) := by decide +kernel
theorem dX7_bestRow_19 : decode cX7_bestRow 19 = .ok (.iload 5, 2) := by decide +kernel
theorem dX7_bestRow_21 : decode cX7_bestRow 21 = .ok (.invokevirtual 160, 3) := by decide +kernel
theorem dX7_bestRow_24 : decode cX7_bestRow 24 = .ok (.iload_n 2, 1) := by decide +kernel
theorem dX7_bestRow_25 : decode cX7_bestRow 25 = .ok (.invokevirtual 215, 3) := by decide +kernel
theorem dX7_bestRow_28 : decode cX7_bestRow 28 = .ok (.istore 6, 2) := by decide +kernel
theorem dX7_bestRow_30 : decode cX7_bestRow 30 = .ok (.iload_n 3, 1) := by decide +kernel
theorem dX7_bestRow_31 : decode cX7_bestRow 31 = .ok (.iconst (-1), 1) := by decide +kernel
theorem dX7_bestRow_32 : decode cX7_bestRow 32 = .ok (.if_icmp .eq 10, 3) := by decide +kernel
theorem dX7_bestRow_35 : decode cX7_bestRow 35 = .ok (.iload 6, 2) := by decide +kernel
theorem dX7_bestRow_37 : decode cX7_bestRow 37 = .ok (.iload 4, 2) := by decide +kernel
theorem dX7_bestRow_39 : decode cX7_bestRow 39 = .ok (.if_icmp .le 14, 3) := by decide +kernel
theorem dX7_bestRow_42 : decode cX7_bestRow 42 = .ok (.aload_n 1, 1) := by decide +kernel
theorem dX7_bestRow_43 : decode cX7_bestRow 43 = .ok (.iload 5, 2) := by decide +kernel
theorem dX7_bestRow_45 : decode cX7_bestRow 45 = .ok (.invokevirtual 160, 3) := by decide +kernel
theorem dX7_bestRow_48 : decode cX7_bestRow 48 = .ok (.istore_n 3, 1) := by decide +kernel
theorem dX7_bestRow_49 : decode cX7_bestRow 49 = .ok (.iload 6, 2) := by decide +kernel
theorem dX7_bestRow_51 : decode cX7_bestRow 51 = .ok (.istore 4, 2) := by decide +kernel
theorem dX7_bestRow_53 : decode cX7_bestRow 53 = .ok (.iinc 5 1, 3) := by decide +kernel
theorem dX7_bestRow_56 : decode cX7_bestRow 56 = .ok (.goto (-48), 3) := by decide +kernel
theorem dX7_bestRow_59 : decode cX7_bestRow 59 = .ok (.iload_n 3, 1) := by decide +kernel
theorem dX7_bestRow_60 : decode cX7_bestRow 60 = .ok (.ireturn, 1) := by decide +kernel
theorem dX7_hasBetter_0 : decode cX7_hasBetter 0 = .ok (.aload_n 0, 1) := by decide +kernel
theorem dX7_hasBetter_1 : decode cX7_hasBetter 1 = .ok (.iload_n 2, 1) := by decide +kernel
theorem dX7_hasBetter_2 : decode cX7_hasBetter 2 = .ok (.aload_n 1, 1) := by decide +kernel
theorem dX7_hasBetter_3 : decode cX7_hasBetter 3 = .ok (.invokevirtual 381, 3) := by decide +kernel
theorem dX7_hasBetter_6 : decode cX7_hasBetter 6 = .ok (.iand, 1) := by decide +kernel
theorem dX7_hasBetter_7 : decode cX7_hasBetter 7 = .ok (.iload_n 3, 1) := by decide +kernel
theorem dX7_hasBetter_8 : decode cX7_hasBetter 8 = .ok (.invokevirtual 215, 3) := by decide +kernel
theorem dX7_hasBetter_11 : decode cX7_hasBetter 11 = .ok (.istore 4, 2) := by decide +kernel
theorem dX7_hasBetter_13 : decode cX7_hasBetter 13 = .ok (.iconst 0, 1) := by decide +kernel
theorem dX7_hasBetter_14 : decode cX7_hasBetter 14 = .ok (.istore 5, 2) := by decide +kernel
theorem dX7_hasBetter_16 : decode cX7_hasBetter 16 = .ok (.iload 5, 2) := by decide +kernel
theorem dX7_hasBetter_18 : decode cX7_hasBetter 18 = .ok (.aload_n 1, 1) := by decide +kernel
theorem dX7_hasBetter_19 : decode cX7_hasBetter 19 = .ok (.invokevirtual 381, 3) := by decide +kernel
theorem dX7_hasBetter_22 : decode cX7_hasBetter 22 = .ok (.if_icmp .gt 48, 3) := by decide +kernel
theorem dX7_hasBetter_25 : decode cX7_hasBetter 25 = .ok (.aload_n 1, 1) := by decide +kernel
theorem dX7_hasBetter_26 : decode cX7_hasBetter 26 = .ok (.iload 5, 2) := by decide +kernel
theorem dX7_hasBetter_28 : decode cX7_hasBetter 28 = .ok (.invokevirtual 183, 3) := by decide +kernel
theorem dX7_hasBetter_31 : decode cX7_hasBetter 31 = .ok (.iload_n 3, 1) := by decide +kernel
theorem dX7_hasBetter_32 : decode cX7_hasBetter 32 = .ok (.iconst (-1), 1) := by decide +kernel
theorem dX7_hasBetter_33 : decode cX7_hasBetter 33 = .ok (.ixor, 1) := by decide +kernel
theorem dX7_hasBetter_34 : decode cX7_hasBetter 34 = .ok (.iand, 1) := by decide +kernel
theorem dX7_hasBetter_35 : decode cX7_hasBetter 35 = .ok (.ifCond .ne 7, 3) := by decide +kernel
theorem dX7_hasBetter_38 : decode cX7_hasBetter 38 = .ok (.iconst 1, 1) := by decide +kernel
theorem dX7_hasBetter_39 : decode cX7_hasBetter 39 = .ok (.goto 4, 3) := by decide +kernel
theorem dX7_hasBetter_42 : decode cX7_hasBetter 42 = .ok (.iconst 0, 1) := by decide +kernel
theorem dX7_hasBetter_43 : decode cX7_hasBetter 43 = .ok (.istore 6, 2) := by decide +kernel
theorem dX7_hasBetter_45 : decode cX7_hasBetter 45 = .ok (.iload 6, 2) := by decide +kernel
theorem dX7_hasBetter_47 : decode cX7_hasBetter 47 = .ok (.ifCond .eq 17, 3) := by decide +kernel
theorem dX7_hasBetter_50 : decode cX7_hasBetter 50 = .ok (.aload_n 0, 1) := by decide +kernel
theorem dX7_hasBetter_51 : decode cX7_hasBetter 51 = .ok (.iload 5, 2) := by decide +kernel
theorem dX7_hasBetter_53 : decode cX7_hasBetter 53 = .ok (.iload_n 3, 1) := by decide +kernel
theorem dX7_hasBetter_54 : decode cX7_hasBetter 54 = .ok (.invokevirtual 215, 3) := by decide +kernel
theorem dX7_hasBetter_57 : decode cX7_hasBetter 57 = .ok (.iload 4, 2) := by decide +kernel
theorem dX7_hasBetter_59 : decode cX7_hasBetter 59 = .ok (.if_icmp .le 5, 3) := by decide +kernel
theorem dX7_hasBetter_62 : decode cX7_hasBetter 62 = .ok (.iconst 1, 1) := by decide +kernel
theorem dX7_hasBetter_63 : decode cX7_hasBetter 63 = .ok (.ireturn, 1) := by decide +kernel
theorem dX7_hasBetter_64 : decode cX7_hasBetter 64 = .ok (.iinc 5 1, 3) := by decide +kernel
theorem dX7_hasBetter_67 : decode cX7_hasBetter 67 = .ok (.goto (-51), 3) := by decide +kernel
theorem dX7_hasBetter_70 : decode cX7_hasBetter 70 = .ok (.iconst 0, 1) := by decide +kernel
theorem dX7_hasBetter_71 : decode cX7_hasBetter 71 = .ok (.ireturn, 1) := by decide +kernel
theorem dJ6_bitCount_0f7a4_0 : decode cJ6_bitCount_0f7a4 0 = .ok (.iload_n 0, 1) := by decide +kernel
theorem dJ6_bitCount_0f7a4_1 : decode cJ6_bitCount_0f7a4 1 = .ok (.iload_n 0, 1) := by decide +kernel
theorem dJ6_bitCount_0f7a4_2 : decode cJ6_bitCount_0f7a4 2 = .ok (.iconst 1, 1) := by decide +kernel
theorem dJ6_bitCount_0f7a4_3 : decode cJ6_bitCount_0f7a4 3 = .ok (.iushr, 1) := by decide +kernel
theorem dJ6_bitCount_0f7a4_4 : decode cJ6_bitCount_0f7a4 4 = .ok (.ldc_w 265, 3) := by decide +kernel
theorem dJ6_bitCount_0f7a4_7 : decode cJ6_bitCount_0f7a4 7 = .ok (.iand, 1) := by decide +kernel
theorem dJ6_bitCount_0f7a4_8 : decode cJ6_bitCount_0f7a4 8 = .ok (.isub, 1) := by decide +kernel
theorem dJ6_bitCount_0f7a4_9 : decode cJ6_bitCount_0f7a4 9 = .ok (.istore_n 0, 1) := by decide +kernel
theorem dJ6_bitCount_0f7a4_10 : decode cJ6_bitCount_0f7a4 10 = .ok (.iload_n 0, 1) := by decide +kernel
theorem dJ6_bitCount_0f7a4_11 : decode cJ6_bitCount_0f7a4 11 = .ok (.ldc_w 266, 3) := by decide +kernel
theorem dJ6_bitCount_0f7a4_14 : decode cJ6_bitCount_0f7a4 14 = .ok (.iand, 1) := by decide +kernel
theorem dJ6_bitCount_0f7a4_15 : decode cJ6_bitCount_0f7a4 15 = .ok (.iload_n 0, 1) := by decide +kernel
theorem dJ6_bitCount_0f7a4_16 : decode cJ6_bitCount_0f7a4 16 = .ok (.iconst 2, 1) := by decide +kernel
theorem dJ6_bitCount_0f7a4_17 : decode cJ6_bitCount_0f7a4 17 = .ok (.iushr, 1) := by decide +kernel
theorem dJ6_bitCount_0f7a4_18 : decode cJ6_bitCount_0f7a4 18 = .ok (.ldc_w 266, 3) := by decide +kernel
theorem dJ6_bitCount_0f7a4_21 : decode cJ6_bitCount_0f7a4 21 = .ok (.iand, 1) := by decide +kernel
theorem dJ6_bitCount_0f7a4_22 : decode cJ6_bitCount_0f7a4 22 = .ok (.iadd, 1) := by decide +kernel
theorem dJ6_bitCount_0f7a4_23 : decode cJ6_bitCount_0f7a4 23 = .ok (.istore_n 0, 1) := by decide +kernel
theorem dJ6_bitCount_0f7a4_24 : decode cJ6_bitCount_0f7a4 24 = .ok (.iload_n 0, 1) := by decide +kernel
theorem dJ6_bitCount_0f7a4_25 : decode cJ6_bitCount_0f7a4 25 = .ok (.iload_n 0, 1) := by decide +kernel
theorem dJ6_bitCount_0f7a4_26 : decode cJ6_bitCount_0f7a4 26 = .ok (.iconst 4, 1) := by decide +kernel
theorem dJ6_bitCount_0f7a4_27 : decode cJ6_bitCount_0f7a4 27 = .ok (.iushr, 1) := by decide +kernel
theorem dJ6_bitCount_0f7a4_28 : decode cJ6_bitCount_0f7a4 28 = .ok (.iadd, 1) := by decide +kernel
theorem dJ6_bitCount_0f7a4_29 : decode cJ6_bitCount_0f7a4 29 = .ok (.ldc_w 267, 3) := by decide +kernel
theorem dJ6_bitCount_0f7a4_32 : decode cJ6_bitCount_0f7a4 32 = .ok (.iand, 1) := by decide +kernel
theorem dJ6_bitCount_0f7a4_33 : decode cJ6_bitCount_0f7a4 33 = .ok (.istore_n 0, 1) := by decide +kernel
theorem dJ6_bitCount_0f7a4_34 : decode cJ6_bitCount_0f7a4 34 = .ok (.iload_n 0, 1) := by decide +kernel
theorem dJ6_bitCount_0f7a4_35 : decode cJ6_bitCount_0f7a4 35 = .ok (.iload_n 0, 1) := by decide +kernel
theorem dJ6_bitCount_0f7a4_36 : decode cJ6_bitCount_0f7a4 36 = .ok (.bipush 8, 2) := by decide +kernel
theorem dJ6_bitCount_0f7a4_38 : decode cJ6_bitCount_0f7a4 38 = .ok (.iushr, 1) := by decide +kernel
theorem dJ6_bitCount_0f7a4_39 : decode cJ6_bitCount_0f7a4 39 = .ok (.iadd, 1) := by decide +kernel
theorem dJ6_bitCount_0f7a4_40 : decode cJ6_bitCount_0f7a4 40 = .ok (.istore_n 0, 1) := by decide +kernel
theorem dJ6_bitCount_0f7a4_41 : decode cJ6_bitCount_0f7a4 41 = .ok (.iload_n 0, 1) := by decide +kernel
theorem dJ6_bitCount_0f7a4_42 : decode cJ6_bitCount_0f7a4 42 = .ok (.iload_n 0, 1) := by decide +kernel
theorem dJ6_bitCount_0f7a4_43 : decode cJ6_bitCount_0f7a4 43 = .ok (.bipush 16, 2) := by decide +kernel
theorem dJ6_bitCount_0f7a4_45 : decode cJ6_bitCount_0f7a4 45 = .ok (.iushr, 1) := by decide +kernel
theorem dJ6_bitCount_0f7a4_46 : decode cJ6_bitCount_0f7a4 46 = .ok (.iadd, 1) := by decide +kernel
theorem dJ6_bitCount_0f7a4_47 : decode cJ6_bitCount_0f7a4 47 = .ok (.istore_n 0, 1) := by decide +kernel
theorem dJ6_bitCount_0f7a4_48 : decode cJ6_bitCount_0f7a4 48 = .ok (.iload_n 0, 1) := by decide +kernel
theorem dJ6_bitCount_0f7a4_49 : decode cJ6_bitCount_0f7a4 49 = .ok (.bipush 63, 2) := by decide +kernel
theorem dJ6_bitCount_0f7a4_51 : decode cJ6_bitCount_0f7a4 51 = .ok (.iand, 1) := by decide +kernel
theorem dJ6_bitCount_0f7a4_52 : decode cJ6_bitCount_0f7a4 52 = .ok (.ireturn, 1) := by decide +kernel
theorem dJ9_max_7cf53_0 : decode cJ9_max_7cf53 0 = .ok (.iload_n 0, 1) := by decide +kernel
theorem dJ9_max_7cf53_1 : decode cJ9_max_7cf53 1 = .ok (.iload_n 1, 1) := by decide +kernel
theorem dJ9_max_7cf53_2 : decode cJ9_max_7cf53 2 = .ok (.if_icmp .lt 7, 3) := by decide +kernel
theorem dJ9_max_7cf53_5 : decode cJ9_max_7cf53 5 = .ok (.iload_n 0, 1) := by decide +kernel
theorem dJ9_max_7cf53_6 : decode cJ9_max_7cf53 6 = .ok (.goto 4, 3) := by decide +kernel
theorem dJ9_max_7cf53_9 : decode cJ9_max_7cf53 9 = .ok (.iload_n 1, 1) := by decide +kernel
theorem dJ9_max_7cf53_10 : decode cJ9_max_7cf53 10 = .ok (.ireturn, 1) := by decide +kernel
theorem dJ9_min_7cf53_0 : decode cJ9_min_7cf53 0 = .ok (.iload_n 0, 1) := by decide +kernel
theorem dJ9_min_7cf53_1 : decode cJ9_min_7cf53 1 = .ok (.iload_n 1, 1) := by decide +kernel
theorem dJ9_min_7cf53_2 : decode cJ9_min_7cf53 2 = .ok (.if_icmp .gt 7, 3) := by decide +kernel
theorem dJ9_min_7cf53_5 : decode cJ9_min_7cf53 5 = .ok (.iload_n 0, 1) := by decide +kernel
theorem dJ9_min_7cf53_6 : decode cJ9_min_7cf53 6 = .ok (.goto 4, 3) := by decide +kernel
theorem dJ9_min_7cf53_9 : decode cJ9_min_7cf53 9 = .ok (.iload_n 1, 1) := by decide +kernel
theorem dJ9_min_7cf53_10 : decode cJ9_min_7cf53 10 = .ok (.ireturn, 1) := by decide +kernel
theorem dJ0_length_8abf5_0 : decode cJ0_length_8abf5 0 = .ok (.aload_n 0, 1) := by decide +kernel
theorem dJ0_length_8abf5_1 : decode cJ0_length_8abf5 1 = .ok (.getfield 9, 3) := by decide +kernel
theorem dJ0_length_8abf5_4 : decode cJ0_length_8abf5 4 = .ok (.arraylength, 1) := by decide +kernel
theorem dJ0_length_8abf5_5 : decode cJ0_length_8abf5 5 = .ok (.aload_n 0, 1) := by decide +kernel
theorem dJ0_length_8abf5_6 : decode cJ0_length_8abf5 6 = .ok (.invokevirtual 335, 3) := by decide +kernel
theorem dJ0_length_8abf5_9 : decode cJ0_length_8abf5 9 = .ok (.ishr, 1) := by decide +kernel
theorem dJ0_length_8abf5_10 : decode cJ0_length_8abf5 10 = .ok (.ireturn, 1) := by decide +kernel
theorem dJ0_indexOf_0f7a4_0 : decode cJ0_indexOf_0f7a4 0 = .ok (.aload_n 0, 1) := by decide +kernel
theorem dJ0_indexOf_0f7a4_1 : decode cJ0_indexOf_0f7a4 1 = .ok (.iload_n 1, 1) := by decide +kernel
theorem dJ0_indexOf_0f7a4_2 : decode cJ0_indexOf_0f7a4 2 = .ok (.iconst 0, 1) := by decide +kernel
theorem dJ0_indexOf_0f7a4_3 : decode cJ0_indexOf_0f7a4 3 = .ok (.invokevirtual 633, 3) := by decide +kernel
theorem dJ0_indexOf_0f7a4_6 : decode cJ0_indexOf_0f7a4 6 = .ok (.ireturn, 1) := by decide +kernel
theorem dJ0_indexOf_7cf53_0 : decode cJ0_indexOf_7cf53 0 = .ok (.aload_n 0, 1) := by decide +kernel
theorem dJ0_indexOf_7cf53_1 : decode cJ0_indexOf_7cf53 1 = .ok (.invokevirtual 492, 3) := by decide +kernel
theorem dJ0_indexOf_7cf53_4 : decode cJ0_indexOf_7cf53 4 = .ok (.ifCond .eq 19, 3) := by decide +kernel
theorem dJ0_indexOf_7cf53_7 : decode cJ0_indexOf_7cf53 7 = .ok (.aload_n 0, 1) := by decide +kernel
theorem dJ0_indexOf_7cf53_8 : decode cJ0_indexOf_7cf53 8 = .ok (.getfield 9, 3) := by decide +kernel
theorem dJ0_indexOf_7cf53_11 : decode cJ0_indexOf_7cf53 11 = .ok (.iload_n 1, 1) := by decide +kernel
theorem dJ0_indexOf_7cf53_12 : decode cJ0_indexOf_7cf53 12 = .ok (.iload_n 2, 1) := by decide +kernel
theorem dJ0_indexOf_7cf53_13 : decode cJ0_indexOf_7cf53 13 = .ok (.aload_n 0, 1) := by decide +kernel
theorem dJ0_indexOf_7cf53_14 : decode cJ0_indexOf_7cf53 14 = .ok (.invokevirtual 505, 3) := by decide +kernel
theorem dJ0_indexOf_7cf53_17 : decode cJ0_indexOf_7cf53 17 = .ok (.invokestatic 637, 3) := by decide +kernel
theorem dJ0_indexOf_7cf53_20 : decode cJ0_indexOf_7cf53 20 = .ok (.goto 16, 3) := by decide +kernel
theorem dJ0_indexOf_7cf53_23 : decode cJ0_indexOf_7cf53 23 = .ok (.aload_n 0, 1) := by decide +kernel
theorem dJ0_indexOf_7cf53_24 : decode cJ0_indexOf_7cf53 24 = .ok (.getfield 9, 3) := by decide +kernel
theorem dJ0_indexOf_7cf53_27 : decode cJ0_indexOf_7cf53 27 = .ok (.iload_n 1, 1) := by decide +kernel
theorem dJ0_indexOf_7cf53_28 : decode cJ0_indexOf_7cf53 28 = .ok (.iload_n 2, 1) := by decide +kernel
theorem dJ0_indexOf_7cf53_29 : decode cJ0_indexOf_7cf53 29 = .ok (.aload_n 0, 1) := by decide +kernel
theorem dJ0_indexOf_7cf53_30 : decode cJ0_indexOf_7cf53 30 = .ok (.invokevirtual 505, 3) := by decide +kernel
theorem dJ0_indexOf_7cf53_33 : decode cJ0_indexOf_7cf53 33 = .ok (.invokestatic 640, 3) := by decide +kernel
theorem dJ0_indexOf_7cf53_36 : decode cJ0_indexOf_7cf53 36 = .ok (.ireturn, 1) := by decide +kernel
theorem dJ0_coder_7d493_0 : decode cJ0_coder_7d493 0 = .ok (.getstatic 38, 3) := by decide +kernel
theorem dJ0_coder_7d493_3 : decode cJ0_coder_7d493 3 = .ok (.ifCond .eq 10, 3) := by decide +kernel
theorem dJ0_coder_7d493_6 : decode cJ0_coder_7d493 6 = .ok (.aload_n 0, 1) := by decide +kernel
theorem dJ0_coder_7d493_7 : decode cJ0_coder_7d493 7 = .ok (.getfield 15, 3) := by decide +kernel
theorem dJ0_coder_7d493_10 : decode cJ0_coder_7d493 10 = .ok (.goto 4, 3) := by decide +kernel
theorem dJ0_coder_7d493_13 : decode cJ0_coder_7d493 13 = .ok (.iconst 1, 1) := by decide +kernel
theorem dJ0_coder_7d493_14 : decode cJ0_coder_7d493 14 = .ok (.ireturn, 1) := by decide +kernel
theorem dJ0_isLatin1_aae02_0 : decode cJ0_isLatin1_aae02 0 = .ok (.getstatic 38, 3) := by decide +kernel
theorem dJ0_isLatin1_aae02_3 : decode cJ0_isLatin1_aae02 3 = .ok (.ifCond .eq 14, 3) := by decide +kernel
theorem dJ0_isLatin1_aae02_6 : decode cJ0_isLatin1_aae02 6 = .ok (.aload_n 0, 1) := by decide +kernel
theorem dJ0_isLatin1_aae02_7 : decode cJ0_isLatin1_aae02 7 = .ok (.getfield 15, 3) := by decide +kernel
theorem dJ0_isLatin1_aae02_10 : decode cJ0_isLatin1_aae02 10 = .ok (.ifCond .ne 7, 3) := by decide +kernel
theorem dJ0_isLatin1_aae02_13 : decode cJ0_isLatin1_aae02 13 = .ok (.iconst 1, 1) := by decide +kernel
theorem dJ0_isLatin1_aae02_14 : decode cJ0_isLatin1_aae02 14 = .ok (.goto 4, 3) := by decide +kernel
theorem dJ0_isLatin1_aae02_17 : decode cJ0_isLatin1_aae02 17 = .ok (.iconst 0, 1) := by decide +kernel
theorem dJ0_isLatin1_aae02_18 : decode cJ0_isLatin1_aae02 18 = .ok (.ireturn, 1) := by decide +kernel
theorem dJ1_canEncode_9a6ad_0 : decode cJ1_canEncode_9a6ad 0 = .ok (.iload_n 0, 1) := by decide +kernel
theorem dJ1_canEncode_9a6ad_1 : decode cJ1_canEncode_9a6ad 1 = .ok (.ifCond .lt 14, 3) := by decide +kernel
theorem dJ1_canEncode_9a6ad_4 : decode cJ1_canEncode_9a6ad 4 = .ok (.iload_n 0, 1) := by decide +kernel
theorem dJ1_canEncode_9a6ad_5 : decode cJ1_canEncode_9a6ad 5 = .ok (.sipush 255, 3) := by decide +kernel
theorem dJ1_canEncode_9a6ad_8 : decode cJ1_canEncode_9a6ad 8 = .ok (.if_icmp .gt 7, 3) := by decide +kernel
theorem dJ1_canEncode_9a6ad_11 : decode cJ1_canEncode_9a6ad 11 = .ok (.iconst 1, 1) := by decide +kernel
theorem dJ1_canEncode_9a6ad_12 : decode cJ1_canEncode_9a6ad 12 = .ok (.goto 4, 3) := by decide +kernel
theorem dJ1_canEncode_9a6ad_15 : decode cJ1_canEncode_9a6ad 15 = .ok (.iconst 0, 1) := by decide +kernel
theorem dJ1_canEncode_9a6ad_16 : decode cJ1_canEncode_9a6ad 16 = .ok (.ireturn, 1) := by decide +kernel
theorem dJ1_indexOf_4cfef_0 : decode cJ1_indexOf_4cfef 0 = .ok (.iload_n 1, 1) := by decide +kernel
theorem dJ1_indexOf_4cfef_1 : decode cJ1_indexOf_4cfef 1 = .ok (.invokestatic 88, 3) := by decide +kernel
theorem dJ1_indexOf_4cfef_4 : decode cJ1_indexOf_4cfef 4 = .ok (.ifCond .ne 5, 3) := by decide +kernel
theorem dJ1_indexOf_4cfef_7 : decode cJ1_indexOf_4cfef 7 = .ok (.iconst (-1), 1) := by decide +kernel
theorem dJ1_indexOf_4cfef_8 : decode cJ1_indexOf_4cfef 8 = .ok (.ireturn, 1) := by decide +kernel
theorem dJ1_indexOf_4cfef_9 : decode cJ1_indexOf_4cfef 9 = .ok (.iload_n 2, 1) := by decide +kernel
theorem dJ1_indexOf_4cfef_10 : decode cJ1_indexOf_4cfef 10 = .ok (.iconst 0, 1) := by decide +kernel
theorem dJ1_indexOf_4cfef_11 : decode cJ1_indexOf_4cfef 11 = .ok (.invokestatic 92, 3) := by decide +kernel
theorem dJ1_indexOf_4cfef_14 : decode cJ1_indexOf_4cfef 14 = .ok (.istore_n 2, 1) := by decide +kernel
theorem dJ1_indexOf_4cfef_15 : decode cJ1_indexOf_4cfef 15 = .ok (.iload_n 3, 1) := by decide +kernel
theorem dJ1_indexOf_4cfef_16 : decode cJ1_indexOf_4cfef 16 = .ok (.aload_n 0, 1) := by decide +kernel
theorem dJ1_indexOf_4cfef_17 : decode cJ1_indexOf_4cfef 17 = .ok (.arraylength, 1) := by decide +kernel
theorem dJ1_indexOf_4cfef_18 : decode cJ1_indexOf_4cfef 18 = .ok (.invokestatic 38, 3) := by decide +kernel
theorem dJ1_indexOf_4cfef_21 : decode cJ1_indexOf_4cfef 21 = .ok (.istore_n 3, 1) := by decide +kernel
theorem dJ1_indexOf_4cfef_22 : decode cJ1_indexOf_4cfef 22 = .ok (.iload_n 2, 1) := by decide +kernel
theorem dJ1_indexOf_4cfef_23 : decode cJ1_indexOf_4cfef 23 = .ok (.iload_n 3, 1) := by decide +kernel
theorem dJ1_indexOf_4cfef_24 : decode cJ1_indexOf_4cfef 24 = .ok (.if_icmp .lt 5, 3) := by decide +kernel
theorem dJ1_indexOf_4cfef_27 : decode cJ1_indexOf_4cfef 27 = .ok (.iconst (-1), 1) := by decide +kernel
theorem dJ1_indexOf_4cfef_28 : decode cJ1_indexOf_4cfef 28 = .ok (.ireturn, 1) := by decide +kernel
theorem dJ1_indexOf_4cfef_29 : decode cJ1_indexOf_4cfef 29 = .ok (.aload_n 0, 1) := by decide +kernel
theorem dJ1_indexOf_4cfef_30 : decode cJ1_indexOf_4cfef 30 = .ok (.iload_n 1, 1) := by decide +kernel
theorem dJ1_indexOf_4cfef_31 : decode cJ1_indexOf_4cfef 31 = .ok (.iload_n 2, 1) := by decide +kernel
theorem dJ1_indexOf_4cfef_32 : decode cJ1_indexOf_4cfef 32 = .ok (.iload_n 3, 1) := by decide +kernel
theorem dJ1_indexOf_4cfef_33 : decode cJ1_indexOf_4cfef 33 = .ok (.invokestatic 95, 3) := by decide +kernel
theorem dJ1_indexOf_4cfef_36 : decode cJ1_indexOf_4cfef 36 = .ok (.ireturn, 1) := by decide +kernel
theorem dJ1_indexOfChar_4cfef_0 : decode cJ1_indexOfChar_4cfef 0 = .ok (.iload_n 1, 1) := by decide +kernel
theorem dJ1_indexOfChar_4cfef_1 : decode cJ1_indexOfChar_4cfef 1 = .ok (.i2b, 1) := by decide +kernel
theorem dJ1_indexOfChar_4cfef_2 : decode cJ1_indexOfChar_4cfef 2 = .ok (.istore 4, 2) := by decide +kernel
theorem dJ1_indexOfChar_4cfef_4 : decode cJ1_indexOfChar_4cfef 4 = .ok (.iload_n 2, 1) := by decide +kernel
theorem dJ1_indexOfChar_4cfef_5 : decode cJ1_indexOfChar_4cfef 5 = .ok (.istore 5, 2) := by decide +kernel
theorem dJ1_indexOfChar_4cfef_7 : decode cJ1_indexOfChar_4cfef 7 = .ok (.iload 5, 2) := by decide +kernel
theorem dJ1_indexOfChar_4cfef_9 : decode cJ1_indexOfChar_4cfef 9 = .ok (.iload_n 3, 1) := by decide +kernel
theorem dJ1_indexOfChar_4cfef_10 : decode cJ1_indexOfChar_4cfef 10 = .ok (.if_icmp .ge 21, 3) := by decide +kernel
theorem dJ1_indexOfChar_4cfef_13 : decode cJ1_indexOfChar_4cfef 13 = .ok (.aload_n 0, 1) := by decide +kernel
theorem dJ1_indexOfChar_4cfef_14 : decode cJ1_indexOfChar_4cfef 14 = .ok (.iload 5, 2) := by decide +kernel
theorem dJ1_indexOfChar_4cfef_16 : decode cJ1_indexOfChar_4cfef 16 = .ok (.baload, 1) := by decide +kernel
theorem dJ1_indexOfChar_4cfef_17 : decode cJ1_indexOfChar_4cfef 17 = .ok (.iload 4, 2) := by decide +kernel
theorem dJ1_indexOfChar_4cfef_19 : decode cJ1_indexOfChar_4cfef 19 = .ok (.if_icmp .ne 6, 3) := by decide +kernel
theorem dJ1_indexOfChar_4cfef_22 : decode cJ1_indexOfChar_4cfef 22 = .ok (.iload 5, 2) := by decide +kernel
theorem dJ1_indexOfChar_4cfef_24 : decode cJ1_indexOfChar_4cfef 24 = .ok (.ireturn, 1) := by decide +kernel
theorem dJ1_indexOfChar_4cfef_25 : decode cJ1_indexOfChar_4cfef 25 = .ok (.iinc 5 1, 3) := by decide +kernel
theorem dJ1_indexOfChar_4cfef_28 : decode cJ1_indexOfChar_4cfef 28 = .ok (.goto (-21), 3) := by decide +kernel
theorem dJ1_indexOfChar_4cfef_31 : decode cJ1_indexOfChar_4cfef 31 = .ok (.iconst (-1), 1) := by decide +kernel
theorem dJ1_indexOfChar_4cfef_32 : decode cJ1_indexOfChar_4cfef 32 = .ok (.ireturn, 1) := by decide +kernel
theorem dJ7_fill_53178_0 : decode cJ7_fill_53178 0 = .ok (.iconst 0, 1) := by decide +kernel
theorem dJ7_fill_53178_1 : decode cJ7_fill_53178 1 = .ok (.istore_n 2, 1) := by decide +kernel
theorem dJ7_fill_53178_2 : decode cJ7_fill_53178 2 = .ok (.aload_n 0, 1) := by decide +kernel
theorem dJ7_fill_53178_3 : decode cJ7_fill_53178 3 = .ok (.arraylength, 1) := by decide +kernel
theorem dJ7_fill_53178_4 : decode cJ7_fill_53178 4 = .ok (.istore_n 3, 1) := by decide +kernel
theorem dJ7_fill_53178_5 : decode cJ7_fill_53178 5 = .ok (.iload_n 2, 1) := by decide +kernel
theorem dJ7_fill_53178_6 : decode cJ7_fill_53178 6 = .ok (.iload_n 3, 1) := by decide +kernel
theorem dJ7_fill_53178_7 : decode cJ7_fill_53178 7 = .ok (.if_icmp .ge 13, 3) := by decide +kernel
theorem dJ7_fill_53178_10 : decode cJ7_fill_53178 10 = .ok (.aload_n 0, 1) := by decide +kernel
theorem dJ7_fill_53178_11 : decode cJ7_fill_53178 11 = .ok (.iload_n 2, 1) := by decide +kernel
theorem dJ7_fill_53178_12 : decode cJ7_fill_53178 12 = .ok (.iload_n 1, 1) := by decide +kernel
theorem dJ7_fill_53178_13 : decode cJ7_fill_53178 13 = .ok (.iastore, 1) := by decide +kernel
theorem dJ7_fill_53178_14 : decode cJ7_fill_53178 14 = .ok (.iinc 2 1, 3) := by decide +kernel
theorem dJ7_fill_53178_17 : decode cJ7_fill_53178 17 = .ok (.goto (-12), 3) := by decide +kernel
theorem dJ7_fill_53178_20 : decode cJ7_fill_53178 20 = .ok (.return_, 1) := by decide +kernel
end
section
theorem dX8_init_0 : decode cX8_init 0 = .ok (.aload_n 0, 1) := by decide +kernel
theorem dX8_init_1 : decode cX8_init 1 = .ok (.invokespecial 1, 3) := by decide +kernel
theorem dX8_init_4 : decode cX8_init 4 = .ok (.aload_n 0, 1) := by decide +kernel
theorem dX8_init_5 : decode cX8_init 5 = .ok (.iconst 3, 1) := by decide +kernel
theorem dX8_init_6 : decode cX8_init 6 = .ok (.newarray .int, 2) := by decide +kernel
theorem dX8_init_8 : decode cX8_init 8 = .ok (.putfield 7, 3) := by decide +kernel
theorem dX8_init_11 : decode cX8_init 11 = .ok (.aload_n 0, 1) := by decide +kernel
theorem dX8_init_12 : decode cX8_init 12 = .ok (.sipush 240, 3) := by decide +kernel
theorem dX8_init_15 : decode cX8_init 15 = .ok (.newarray .int, 2) := by decide +kernel
theorem dX8_init_17 : decode cX8_init 17 = .ok (.putfield 13, 3) := by decide +kernel
theorem dX8_init_20 : decode cX8_init 20 = .ok (.aload_n 0, 1) := by decide +kernel
theorem dX8_init_21 : decode cX8_init 21 = .ok (.bipush 66, 2) := by decide +kernel
theorem dX8_init_23 : decode cX8_init 23 = .ok (.newarray .int, 2) := by decide +kernel
theorem dX8_init_25 : decode cX8_init 25 = .ok (.putfield 16, 3) := by decide +kernel
theorem dX8_init_28 : decode cX8_init 28 = .ok (.aload_n 0, 1) := by decide +kernel
theorem dX8_init_29 : decode cX8_init 29 = .ok (.iconst 2, 1) := by decide +kernel
theorem dX8_init_30 : decode cX8_init 30 = .ok (.newarray .int, 2) := by decide +kernel
theorem dX8_init_32 : decode cX8_init 32 = .ok (.putfield 19, 3) := by decide +kernel
theorem dX8_init_35 : decode cX8_init 35 = .ok (.aload_n 0, 1) := by decide +kernel
theorem dX8_init_36 : decode cX8_init 36 = .ok (.bipush 66, 2) := by decide +kernel
theorem dX8_init_38 : decode cX8_init 38 = .ok (.newarray .int, 2) := by decide +kernel
theorem dX8_init_40 : decode cX8_init 40 = .ok (.putfield 22, 3) := by decide +kernel
theorem dX8_init_43 : decode cX8_init 43 = .ok (.aload_n 0, 1) := by decide +kernel
theorem dX8_init_44 : decode cX8_init 44 = .ok (.bipush 10, 2) := by decide +kernel
theorem dX8_init_46 : decode cX8_init 46 = .ok (.newarray .int, 2) := by decide +kernel
theorem dX8_init_48 : decode cX8_init 48 = .ok (.putfield 25, 3) := by decide +kernel
theorem dX8_init_51 : decode cX8_init 51 = .ok (.aload_n 0, 1) := by decide +kernel
theorem dX8_init_52 : decode cX8_init 52 = .ok (.sipush 1024, 3) := by decide +kernel
theorem dX8_init_55 : decode cX8_init 55 = .ok (.newarray .int, 2) := by decide +kernel
theorem dX8_init_57 : decode cX8_init 57 = .ok (.putfield 28, 3) := by decide +kernel
theorem dX8_init_60 : decode cX8_init 60 = .ok (.aload_n 0, 1) := by decide +kernel
theorem dX8_init_61 : decode cX8_init 61 = .ok (.sipush 1024, 3) := by decide +kernel
theorem dX8_init_64 : decode cX8_init 64 = .ok (.newarray .int, 2) := by decide +kernel
theorem dX8_init_66 : decode cX8_init 66 = .ok (.putfield 31, 3) := by decide +kernel
theorem dX8_init_69 : decode cX8_init 69 = .ok (.aload_n 0, 1) := by decide +kernel
theorem dX8_init_70 : decode cX8_init 70 = .ok (.sipush 1024, 3) := by decide +kernel
theorem dX8_init_73 : decode cX8_init 73 = .ok (.newarray .int, 2) := by decide +kernel
theorem dX8_init_75 : decode cX8_init 75 = .ok (.putfield 34, 3) := by decide +kernel
theorem dX8_init_78 : decode cX8_init 78 = .ok (.aload_n 0, 1) := by decide +kernel
theorem dX8_init_79 : decode cX8_init 79 = .ok (.bipush 8, 2) := by decide +kernel
theorem dX8_init_81 : decode cX8_init 81 = .ok (.newarray .int, 2) := by decide +kernel
theorem dX8_init_83 : decode cX8_init 83 = .ok (.putfield 37, 3) := by decide +kernel
theorem dX8_init_86 : decode cX8_init 86 = .ok (.aload_n 0, 1) := by decide +kernel
theorem dX8_init_87 : decode cX8_init 87 = .ok (.bipush 8, 2) := by decide +kernel
theorem dX8_init_89 : decode cX8_init 89 = .ok (.newarray .int, 2) := by decide +kernel
theorem dX8_init_91 : decode cX8_init 91 = .ok (.putfield 40, 3) := by decide +kernel
theorem dX8_init_94 : decode cX8_init 94 = .ok (.aload_n 0, 1) := by decide +kernel
theorem dX8_init_95 : decode cX8_init 95 = .ok (.iconst 4, 1) := by decide +kernel
theorem dX8_init_96 : decode cX8_init 96 = .ok (.newarray .boolean, 2) := by decide +kernel
theorem dX8_init_98 : decode cX8_init 98 = .ok (.putfield 43, 3) := by decide +kernel
theorem dX8_init_101 : decode cX8_init 101 = .ok (.aload_n 0, 1) := by decide +kernel
theorem dX8_init_102 : decode cX8_init 102 = .ok (.iconst 4, 1) := by decide +kernel
theorem dX8_init_103 : decode cX8_init 103 = .ok (.newarray .int, 2) := by decide +kernel
theorem dX8_init_105 : decode cX8_init 105 = .ok (.putfield 47, 3) := by decide +kernel
theorem dX8_init_108 : decode cX8_init 108 = .ok (.aload_n 0, 1) := by decide +kernel
theorem dX8_init_109 : decode cX8_init 109 = .ok (.iconst 4, 1) := by decide +kernel
theorem dX8_init_110 : decode cX8_init 110 = .ok (.newarray .int, 2) := by decide +kernel
theorem dX8_init_112 : decode cX8_init 112 = .ok (.putfield 50, 3) := by decide +kernel
theorem dX8_init_115 : decode cX8_init 115 = .ok (.aload_n 0, 1) := by decide +kernel
theorem dX8_init_116 : decode cX8_init 116 = .ok (.sipush 192, 3) := by decide +kernel
theorem dX8_init_119 : decode cX8_init 119 = .ok (.newarray .int, 2) := by decide +kernel
theorem dX8_init_121 : decode cX8_init 121 = .ok (.putfield 53, 3) := by decide +kernel
theorem dX8_init_124 : decode cX8_init 124 = .ok (.aload_n 0, 1) := by decide +kernel
theorem dX8_init_125 : decode cX8_init 125 = .ok (.bipush 48, 2) := by decide +kernel
theorem dX8_init_127 : decode cX8_init 127 = .ok (.newarray .int, 2) := by decide +kernel
theorem dX8_init_129 : decode cX8_init 129 = .ok (.putfield 56, 3) := by decide +kernel
theorem dX8_init_132 : decode cX8_init 132 = .ok (.aload_n 0, 1) := by decide +kernel
theorem dX8_init_133 : decode cX8_init 133 = .ok (.bipush 9, 2) := by decide +kernel
theorem dX8_init_135 : decode cX8_init 135 = .ok (.putfield 59, 3) := by decide +kernel
theorem dX8_init_138 : decode cX8_init 138 = .ok (.aload_n 0, 1) := by decide +kernel
theorem dX8_init_139 : decode cX8_init 139 = .ok (.iconst 5, 1) := by decide +kernel
theorem dX8_init_140 : decode cX8_init 140 = .ok (.putfield 63, 3) := by decide +kernel
theorem dX8_init_143 : decode cX8_init 143 = .ok (.iconst 0, 1) := by decide +kernel
theorem dX8_init_144 : decode cX8_init 144 = .ok (.istore_n 1, 1) := by decide +kernel
theorem dX8_init_145 : decode cX8_init 145 = .ok (.iload_n 1, 1) := by decide +kernel
theorem dX8_init_146 : decode cX8_init 146 = .ok (.bipush 10, 2) := by decide +kernel
theorem dX8_init_148 : decode cX8_init 148 = .ok (.if_icmp .ge 16, 3) := by decide +kernel
theorem dX8_init_151 : decode cX8_init 151 = .ok (.aload_n 0, 1) := by decide +kernel
theorem dX8_init_152 : decode cX8_init 152 = .ok (.getfield 25, 3) := by decide +kernel
theorem dX8_init_155 : decode cX8_init 155 = .ok (.iload_n 1, 1) := by decide +kernel
theorem dX8_init_156 : decode cX8_init 156 = .ok (.iconst 1, 1) := by decide +kernel
theorem dX8_init_157 : decode cX8_init 157 = .ok (.iastore, 1) := by decide +kernel
theorem dX8_init_158 : decode cX8_init 158 = .ok (.iinc 1 1, 3) := by decide +kernel
theorem dX8_init_161 : decode cX8_init 161 = .ok (.goto (-16), 3) := by decide +kernel
theorem dX8_init_164 : decode cX8_init 164 = .ok (.return_, 1) := by decide +kernel
theorem dX8_in_0 : decode cX8_in 0 = .ok (.iload_n 0, 1) := by decide +kernel
theorem dX8_in_1 : decode cX8_in 1 = .ok (.iload_n 1, 1) := by decide +kernel
theorem dX8_in_2 : decode cX8_in 2 = .ok (.if_icmp .lt 12, 3) := by decide +kernel
theorem dX8_in_5 : decode cX8_in 5 = .ok (.iload_n 0, 1) := by decide +kernel
theorem dX8_in_6 : decode cX8_in 6 = .ok (.iload_n 2, 1) := by decide +kernel
theorem dX8_in_7 : decode cX8_in 7 = .ok (.if_icmp .gt 7, 3) := by decide +kernel
theorem dX8_in_10 : decode cX8_in 10 = .ok (.iconst 1, 1) := by decide +kernel
theorem dX8_in_11 : decode cX8_in 11 = .ok (.goto 4, 3) := by decide +kernel
theorem dX8_in_14 : decode cX8_in 14 = .ok (.iconst 0, 1) := by decide +kernel
theorem dX8_in_15 : decode cX8_in 15 = .ok (.ireturn, 1) := by decide +kernel
theorem dX8_isIn_0 : decode cX8_isIn 0 = .ok (.iload_n 0, 1) := by decide +kernel
theorem dX8_isIn_1 : decode cX8_isIn 1 = .ok (.iload_n 1, 1) := by decide +kernel
theorem dX8_isIn_2 : decode cX8_isIn 2 = .ok (.ishr, 1) := by decide +kernel
theorem dX8_isIn_3 : decode cX8_isIn 3 = .ok (.iconst 1, 1) := by decide +kernel
theorem dX8_isIn_4 : decode cX8_isIn 4 = .ok (.iand, 1) := by decide +kernel
theorem dX8_isIn_5 : decode cX8_isIn 5 = .ok (.iconst 1, 1) := by decide +kernel
theorem dX8_isIn_6 : decode cX8_isIn 6 = .ok (.if_icmp .ne 7, 3) := by decide +kernel
theorem dX8_isIn_9 : decode cX8_isIn 9 = .ok (.iconst 1, 1) := by decide +kernel
theorem dX8_isIn_10 : decode cX8_isIn 10 = .ok (.goto 4, 3) := by decide +kernel
theorem dX8_isIn_13 : decode cX8_isIn 13 = .ok (.iconst 0, 1) := by decide +kernel
theorem dX8_isIn_14 : decode cX8_isIn 14 = .ok (.ireturn, 1) := by decide +kernel
theorem dX8_ones_0 : decode cX8_ones 0 = .ok (.iconst 0, 1) := by decide +kernel
theorem dX8_ones_1 : decode cX8_ones 1 = .ok (.istore_n 1, 1) := by decide +kernel
theorem dX8_ones_2 : decode cX8_ones 2 = .ok (.iconst 0, 1) := by decide +kernel
theorem dX8_ones_3 : decode cX8_ones 3 = .ok (.istore_n 2, 1) := by decide +kernel
theorem dX8_ones_4 : decode cX8_ones 4 = .ok (.iload_n 2, 1) := by decide +kernel
theorem dX8_ones_5 : decode cX8_ones 5 = .ok (.bipush 10, 2) := by decide +kernel
theorem dX8_ones_7 : decode cX8_ones 7 = .ok (.if_icmp .ge 17, 3) := by decide +kernel
theorem dX8_ones_10 : decode cX8_ones 10 = .ok (.iload_n 1, 1) := by decide +kernel
theorem dX8_ones_11 : decode cX8_ones 11 = .ok (.iload_n 0, 1) := by decide +kernel
theorem dX8_ones_12 : decode cX8_ones 12 = .ok (.iload_n 2, 1) := by decide +kernel
theorem dX8_ones_13 : decode cX8_ones 13 = .ok (.ishr, 1) := by decide +kernel
theorem dX8_ones_14 : decode cX8_ones 14 = .ok (.iconst 1, 1) := by decide +kernel
theorem dX8_ones_15 : decode cX8_ones 15 = .ok (.iand, 1) := by decide +kernel
theorem dX8_ones_16 : decode cX8_ones 16 = .ok (.iadd, 1) := by decide +kernel
theorem dX8_ones_17 : decode cX8_ones 17 = .ok (.istore_n 1, 1) := by decide +kernel
theorem dX8_ones_18 : decode cX8_ones 18 = .ok (.iinc 2 1, 3) := by decide +kernel
theorem dX8_ones_21 : decode cX8_ones 21 = .ok (.goto (-17), 3) := by decide +kernel
theorem dX8_ones_24 : decode cX8_ones 24 = .ok (.iload_n 1, 1) := by decide +kernel
theorem dX8_ones_25 : decode cX8_ones 25 = .ok (.ireturn, 1) := by decide +kernel
theorem dX8_isText_0 : decode cX8_isText 0 = .ok (.iload_n 0, 1) := by decide +kernel
theorem dX8_isText_1 : decode cX8_isText 1 = .ok (.iconst 0, 1) := by decide +kernel
theorem dX8_isText_2 : decode cX8_isText 2 = .ok (.iconst 2, 1) := by decide +kernel
theorem dX8_isText_3 : decode cX8_isText 3 = .ok (.invokestatic 66, 3) := by decide +kernel
theorem dX8_isText_6 : decode cX8_isText 6 = .ok (.ireturn, 1) := by decide +kernel
theorem dX8_isTen_0 : decode cX8_isTen 0 = .ok (.iload_n 0, 1) := by decide +kernel
theorem dX8_isTen_1 : decode cX8_isTen 1 = .ok (.iconst 0, 1) := by decide +kernel
theorem dX8_isTen_2 : decode cX8_isTen 2 = .ok (.bipush 9, 2) := by decide +kernel
theorem dX8_isTen_4 : decode cX8_isTen 4 = .ok (.invokestatic 66, 3) := by decide +kernel
theorem dX8_isTen_7 : decode cX8_isTen 7 = .ok (.ireturn, 1) := by decide +kernel
theorem dX8_isPerson_0 : decode cX8_isPerson 0 = .ok (.iload_n 0, 1) := by decide +kernel
theorem dX8_isPerson_1 : decode cX8_isPerson 1 = .ok (.iconst 0, 1) := by decide +kernel
theorem dX8_isPerson_2 : decode cX8_isPerson 2 = .ok (.iconst 5, 1) := by decide +kernel
theorem dX8_isPerson_3 : decode cX8_isPerson 3 = .ok (.invokestatic 66, 3) := by decide +kernel
theorem dX8_isPerson_6 : decode cX8_isPerson 6 = .ok (.ireturn, 1) := by decide +kernel
theorem dX8_isDay_0 : decode cX8_isDay 0 = .ok (.iload_n 0, 1) := by decide +kernel
theorem dX8_isDay_1 : decode cX8_isDay 1 = .ok (.iconst 0, 1) := by decide +kernel
theorem dX8_isDay_2 : decode cX8_isDay 2 = .ok (.bipush 99, 2) := by decide +kernel
theorem dX8_isDay_4 : decode cX8_isDay 4 = .ok (.invokestatic 66, 3) := by decide +kernel
theorem dX8_isDay_7 : decode cX8_isDay 7 = .ok (.ireturn, 1) := by decide +kernel
theorem dX8_isRow_0 : decode cX8_isRow 0 = .ok (.iload_n 0, 1) := by decide +kernel
theorem dX8_isRow_1 : decode cX8_isRow 1 = .ok (.iconst 0, 1) := by decide +kernel
theorem dX8_isRow_2 : decode cX8_isRow 2 = .ok (.sipush 1023, 3) := by decide +kernel
theorem dX8_isRow_5 : decode cX8_isRow 5 = .ok (.invokestatic 66, 3) := by decide +kernel
theorem dX8_isRow_8 : decode cX8_isRow 8 = .ok (.ireturn, 1) := by decide +kernel
theorem dX8_type_0 : decode cX8_type 0 = .ok (.iload_n 1, 1) := by decide +kernel
theorem dX8_type_1 : decode cX8_type 1 = .ok (.invokestatic 70, 3) := by decide +kernel
theorem dX8_type_4 : decode cX8_type 4 = .ok (.ifCond .eq 14, 3) := by decide +kernel
theorem dX8_type_7 : decode cX8_type 7 = .ok (.iload_n 2, 1) := by decide +kernel
theorem dX8_type_8 : decode cX8_type 8 = .ok (.iconst 0, 1) := by decide +kernel
theorem dX8_type_9 : decode cX8_type 9 = .ok (.sipush 255, 3) := by decide +kernel
theorem dX8_type_12 : decode cX8_type 12 = .ok (.invokestatic 66, 3) := by decide +kernel
theorem dX8_type_15 : decode cX8_type 15 = .ok (.ifCond .ne 6, 3) := by decide +kernel
theorem dX8_type_18 : decode cX8_type 18 = .ok (.bipush (-2), 2) := by decide +kernel
theorem dX8_type_20 : decode cX8_type 20 = .ok (.ireturn, 1) := by decide +kernel
theorem dX8_type_21 : decode cX8_type 21 = .ok (.aload_n 0, 1) := by decide +kernel
theorem dX8_type_22 : decode cX8_type 22 = .ok (.getfield 7, 3) := by decide +kernel
theorem dX8_type_25 : decode cX8_type 25 = .ok (.iload_n 1, 1) := by decide +kernel
theorem dX8_type_26 : decode cX8_type 26 = .ok (.iaload, 1) := by decide +kernel
theorem dX8_type_27 : decode cX8_type 27 = .ok (.iload_n 1, 1) := by decide +kernel
theorem dX8_type_28 : decode cX8_type 28 = .ok (.ifCond .ne 8, 3) := by decide +kernel
theorem dX8_type_31 : decode cX8_type 31 = .ok (.bipush 80, 2) := by decide +kernel
theorem dX8_type_33 : decode cX8_type 33 = .ok (.goto 5, 3) := by decide +kernel
theorem dX8_type_36 : decode cX8_type 36 = .ok (.bipush 60, 2) := by decide +kernel
theorem dX8_type_38 : decode cX8_type 38 = .ok (.if_icmp .ne 6, 3) := by decide +kernel
theorem dX8_type_41 : decode cX8_type 41 = .ok (.bipush (-4), 2) := by decide +kernel
theorem dX8_type_43 : decode cX8_type 43 = .ok (.ireturn, 1) := by decide +kernel
theorem dX8_type_44 : decode cX8_type 44 = .ok (.aload_n 0, 1) := by decide +kernel
theorem dX8_type_45 : decode cX8_type 45 = .ok (.getfield 13, 3) := by decide +kernel
theorem dX8_type_48 : decode cX8_type 48 = .ok (.bipush 80, 2) := by decide +kernel
theorem dX8_type_50 : decode cX8_type 50 = .ok (.iload_n 1, 1) := by decide +kernel
theorem dX8_type_51 : decode cX8_type 51 = .ok (.imul, 1) := by decide +kernel
theorem dX8_type_52 : decode cX8_type 52 = .ok (.aload_n 0, 1) := by decide +kernel
theorem dX8_type_53 : decode cX8_type 53 = .ok (.getfield 7, 3) := by decide +kernel
theorem dX8_type_56 : decode cX8_type 56 = .ok (.iload_n 1, 1) := by decide +kernel
theorem dX8_type_57 : decode cX8_type 57 = .ok (.iaload, 1) := by decide +kernel
theorem dX8_type_58 : decode cX8_type 58 = .ok (.iadd, 1) := by decide +kernel
theorem dX8_type_59 : decode cX8_type 59 = .ok (.iload_n 2, 1) := by decide +kernel
theorem dX8_type_60 : decode cX8_type 60 = .ok (.iastore, 1) := by decide +kernel
theorem dX8_type_61 : decode cX8_type 61 = .ok (.aload_n 0, 1) := by decide +kernel
theorem dX8_type_62 : decode cX8_type 62 = .ok (.getfield 7, 3) := by decide +kernel
theorem dX8_type_65 : decode cX8_type 65 = .ok (.iload_n 1, 1) := by decide +kernel
theorem dX8_type_66 : decode cX8_type 66 = .ok (.dup2, 1) := by decide +kernel
theorem dX8_type_67 : decode cX8_type 67 = .ok (.iaload, 1) := by decide +kernel
theorem dX8_type_68 : decode cX8_type 68 = .ok (.iconst 1, 1) := by decide +kernel
theorem dX8_type_69 : decode cX8_type 69 = .ok (.iadd, 1) := by decide +kernel
theorem dX8_type_70 : decode cX8_type 70 = .ok (.iastore, 1) := by decide +kernel
theorem dX8_type_71 : decode cX8_type 71 = .ok (.aload_n 0, 1) := by decide +kernel
theorem dX8_type_72 : decode cX8_type 72 = .ok (.getfield 7, 3) := by decide +kernel
theorem dX8_type_75 : decode cX8_type 75 = .ok (.iload_n 1, 1) := by decide +kernel
theorem dX8_type_76 : decode cX8_type 76 = .ok (.iaload, 1) := by decide +kernel
theorem dX8_type_77 : decode cX8_type 77 = .ok (.ireturn, 1) := by decide +kernel
theorem dX8_wipe_0 : decode cX8_wipe 0 = .ok (.iload_n 1, 1) := by decide +kernel
theorem dX8_wipe_1 : decode cX8_wipe 1 = .ok (.invokestatic 70, 3) := by decide +kernel
theorem dX8_wipe_4 : decode cX8_wipe 4 = .ok (.ifCond .ne 6, 3) := by decide +kernel
theorem dX8_wipe_7 : decode cX8_wipe 7 = .ok (.bipush (-2), 2) := by decide +kernel
theorem dX8_wipe_9 : decode cX8_wipe 9 = .ok (.ireturn, 1) := by decide +kernel
theorem dX8_wipe_10 : decode cX8_wipe 10 = .ok (.aload_n 0, 1) := by decide +kernel
theorem dX8_wipe_11 : decode cX8_wipe 11 = .ok (.getfield 7, 3) := by decide +kernel
theorem dX8_wipe_14 : decode cX8_wipe 14 = .ok (.iload_n 1, 1) := by decide +kernel
theorem dX8_wipe_15 : decode cX8_wipe 15 = .ok (.iaload, 1) := by decide +kernel
theorem dX8_wipe_16 : decode cX8_wipe 16 = .ok (.istore_n 2, 1) := by decide +kernel
theorem dX8_wipe_17 : decode cX8_wipe 17 = .ok (.aload_n 0, 1) := by decide +kernel
theorem dX8_wipe_18 : decode cX8_wipe 18 = .ok (.getfield 7, 3) := by decide +kernel
theorem dX8_wipe_21 : decode cX8_wipe 21 = .ok (.iload_n 1, 1) := by decide +kernel
theorem dX8_wipe_22 : decode cX8_wipe 22 = .ok (.iconst 0, 1) := by decide +kernel
theorem dX8_wipe_23 : decode cX8_wipe 23 = .ok (.iastore, 1) := by decide +kernel
theorem dX8_wipe_24 : decode cX8_wipe 24 = .ok (.iload_n 2, 1) := by decide +kernel
theorem dX8_wipe_25 : decode cX8_wipe 25 = .ok (.ireturn, 1) := by decide +kernel
theorem dX8_undo_0 : decode cX8_undo 0 = .ok (.iload_n 1, 1) := by decide +kernel
theorem dX8_undo_1 : decode cX8_undo 1 = .ok (.invokestatic 70, 3) := by decide +kernel
theorem dX8_undo_4 : decode cX8_undo 4 = .ok (.ifCond .ne 6, 3) := by decide +kernel
theorem dX8_undo_7 : decode cX8_undo 7 = .ok (.bipush (-2), 2) := by decide +kernel
theorem dX8_undo_9 : decode cX8_undo 9 = .ok (.ireturn, 1) := by decide +kernel
theorem dX8_undo_10 : decode cX8_undo 10 = .ok (.aload_n 0, 1) := by decide +kernel
theorem dX8_undo_11 : decode cX8_undo 11 = .ok (.getfield 7, 3) := by decide +kernel
theorem dX8_undo_14 : decode cX8_undo 14 = .ok (.iload_n 1, 1) := by decide +kernel
theorem dX8_undo_15 : decode cX8_undo 15 = .ok (.iaload, 1) := by decide +kernel
theorem dX8_undo_16 : decode cX8_undo 16 = .ok (.ifCond .ne 6, 3) := by decide +kernel
theorem dX8_undo_19 : decode cX8_undo 19 = .ok (.bipush (-3), 2) := by decide +kernel
theorem dX8_undo_21 : decode cX8_undo 21 = .ok (.ireturn, 1) := by decide +kernel
theorem dX8_undo_22 : decode cX8_undo 22 = .ok (.aload_n 0, 1) := by decide +kernel
theorem dX8_undo_23 : decode cX8_undo 23 = .ok (.getfield 7, 3) := by decide +kernel
theorem dX8_undo_26 : decode cX8_undo 26 = .ok (.iload_n 1, 1) := by decide +kernel
theorem dX8_undo_27 : decode cX8_undo 27 = .ok (.dup2, 1) := by decide +kernel
theorem dX8_undo_28 : decode cX8_undo 28 = .ok (.iaload, 1) := by decide +kernel
theorem dX8_undo_29 : decode cX8_undo 29 = .ok (.iconst 1, 1) := by decide +kernel
theorem dX8_undo_30 : decode cX8_undo 30 = .ok (.isub, 1) := by decide +kernel
theorem dX8_undo_31 : decode cX8_undo 31 = .ok (.iastore, 1) := by decide +kernel
theorem dX8_undo_32 : decode cX8_undo 32 = .ok (.aload_n 0, 1) := by decide +kernel
theorem dX8_undo_33 : decode cX8_undo 33 = .ok (.getfield 7, 3) := by decide +kernel
theorem dX8_undo_36 : decode cX8_undo 36 = .ok (.iload_n 1, 1) := by decide +kernel
theorem dX8_undo_37 : decode cX8_undo 37 = .ok (.iaload, 1) := by decide +kernel
theorem dX8_undo_38 : decode cX8_undo 38 = .ok (.ireturn, 1) := by decide +kernel
theorem dX8_byteAt_0 : decode cX8_byteAt 0 = .ok (.iload_n 2, 1) := by decide +kernel
theorem dX8_byteAt_1 : decode cX8_byteAt 1 = .ok (.aload_n 0, 1) := by decide +kernel
theorem dX8_byteAt_2 : decode cX8_byteAt 2 = .ok (.getfield 7, 3) := by decide +kernel
theorem dX8_byteAt_5 : decode cX8_byteAt 5 = .ok (.iload_n 1, 1) := by decide +kernel
theorem dX8_byteAt_6 : decode cX8_byteAt 6 = .ok (.iaload, 1) := by decide +kernel
theorem dX8_byteAt_7 : decode cX8_byteAt 7 = .ok (.if_icmp .ge 17, 3) := by decide +kernel
theorem dX8_byteAt_10 : decode cX8_byteAt 10 = .ok (.aload_n 0, 1) := by decide +kernel
theorem dX8_byteAt_11 : decode cX8_byteAt 11 = .ok (.getfield 13, 3) := by decide +kernel
theorem dX8_byteAt_14 : decode cX8_byteAt 14 = .ok (.bipush 80, 2) := by decide +kernel
theorem dX8_byteAt_16 : decode cX8_byteAt 16 = .ok (.iload_n 1, 1) := by decide +kernel
theorem dX8_byteAt_17 : decode cX8_byteAt 17 = .ok (.imul, 1) := by decide +kernel
theorem dX8_byteAt_18 : decode cX8_byteAt 18 = .ok (.iload_n 2, 1) := by decide +kernel
theorem dX8_byteAt_19 : decode cX8_byteAt 19 = .ok (.iadd, 1) := by decide +kernel
theorem dX8_byteAt_20 : decode cX8_byteAt 20 = .ok (.iaload, 1) := by decide +kernel
theorem dX8_byteAt_21 : decode cX8_byteAt 21 = .ok (.goto 4, 3) := by decide +kernel
theorem dX8_byteAt_24 : decode cX8_byteAt 24 = .ok (.iconst (-1), 1) := by decide +kernel
theorem dX8_byteAt_25 : decode cX8_byteAt 25 = .ok (.ireturn, 1) := by decide +kernel
theorem dX8_figureAt_0 : decode cX8_figureAt 0 = .ok (.aload_n 0, 1) := by decide +kernel
theorem dX8_figureAt_1 : decode cX8_figureAt 1 = .ok (.iload_n 1, 1) := by decide +kernel
theorem dX8_figureAt_2 : decode cX8_figureAt 2 = .ok (.iload_n 2, 1) := by decide +kernel
theorem dX8_figureAt_3 : decode cX8_figureAt 3 = .ok (.invokevirtual 74, 3) := by decide +kernel
theorem dX8_figureAt_6 : decode cX8_figureAt 6 = .ok (.bipush 48, 2) := by decide +kernel
theorem dX8_figureAt_8 : decode cX8_figureAt 8 = .ok (.isub, 1) := by decide +kernel
theorem dX8_figureAt_9 : decode cX8_figureAt 9 = .ok (.istore 4, 2) := by decide +kernel
theorem dX8_figureAt_11 : decode cX8_figureAt 11 = .ok (.iload 4, 2) := by decide +kernel
theorem dX8_figureAt_13 : decode cX8_figureAt 13 = .ok (.iconst 0, 1) := by decide +kernel
theorem dX8_figureAt_14 : decode cX8_figureAt 14 = .ok (.iload_n 3, 1) := by decide +kernel
theorem dX8_figureAt_15 : decode cX8_figureAt 15 = .ok (.invokestatic 66, 3) := by decide +kernel
theorem dX8_figureAt_18 : decode cX8_figureAt 18 = .ok (.ifCond .eq 8, 3) := by decide +kernel
theorem dX8_figureAt_21 : decode cX8_figureAt 21 = .ok (.iload 4, 2) := by decide +kernel
theorem dX8_figureAt_23 : decode cX8_figureAt 23 = .ok (.goto 4, 3) := by decide +kernel
theorem dX8_figureAt_26 : decode cX8_figureAt 26 = .ok (.iconst (-1), 1) := by decide +kernel
theorem dX8_figureAt_27 : decode cX8_figureAt 27 = .ok (.ireturn, 1) := by decide +kernel
theorem dX8_whenAt_0 : decode cX8_whenAt 0 = .ok (.aload_n 0, 1) := by decide +kernel
theorem dX8_whenAt_1 : decode cX8_whenAt 1 = .ok (.iconst 0, 1) := by decide +kernel
theorem dX8_whenAt_2 : decode cX8_whenAt 2 = .ok (.iload_n 1, 1) := by decide +kernel
theorem dX8_whenAt_3 : decode cX8_whenAt 3 = .ok (.invokevirtual 74, 3) := by decide +kernel
theorem dX8_whenAt_6 : decode cX8_whenAt 6 = .ok (.istore_n 2, 1) := by decide +kernel
theorem dX8_whenAt_7 : decode cX8_whenAt 7 = .ok (.iload_n 2, 1) := by decide +kernel
theorem dX8_whenAt_8 : decode cX8_whenAt 8 = .ok (.bipush 97, 2) := by decide +kernel
theorem dX8_whenAt_10 : decode cX8_whenAt 10 = .ok (.if_icmp .ne 7, 3) := by decide +kernel
theorem dX8_whenAt_13 : decode cX8_whenAt 13 = .ok (.iconst 0, 1) := by decide +kernel
theorem dX8_whenAt_14 : decode cX8_whenAt 14 = .ok (.goto 44, 3) := by decide +kernel
theorem dX8_whenAt_17 : decode cX8_whenAt 17 = .ok (.iload_n 2, 1) := by decide +kernel
theorem dX8_whenAt_18 : decode cX8_whenAt 18 = .ok (.bipush 101, 2) := by decide +kernel
theorem dX8_whenAt_20 : decode cX8_whenAt 20 = .ok (.if_icmp .ne 7, 3) := by decide +kernel
theorem dX8_whenAt_23 : decode cX8_whenAt 23 = .ok (.iconst 1, 1) := by decide +kernel
theorem dX8_whenAt_24 : decode cX8_whenAt 24 = .ok (.goto 34, 3) := by decide +kernel
theorem dX8_whenAt_27 : decode cX8_whenAt 27 = .ok (.iload_n 2, 1) := by decide +kernel
theorem dX8_whenAt_28 : decode cX8_whenAt 28 = .ok (.bipush 121, 2) := by decide +kernel
theorem dX8_whenAt_30 : decode cX8_whenAt 30 = .ok (.if_icmp .ne 7, 3) := by decide +kernel
theorem dX8_whenAt_33 : decode cX8_whenAt 33 = .ok (.iconst 2, 1) := by decide +kernel
theorem dX8_whenAt_34 : decode cX8_whenAt 34 = .ok (.goto 24, 3) := by decide +kernel
theorem dX8_whenAt_37 : decode cX8_whenAt 37 = .ok (.iload_n 2, 1) := by decide +kernel
theorem dX8_whenAt_38 : decode cX8_whenAt 38 = .ok (.bipush 110, 2) := by decide +kernel
theorem dX8_whenAt_40 : decode cX8_whenAt 40 = .ok (.if_icmp .ne 7, 3) := by decide +kernel
theorem dX8_whenAt_43 : decode cX8_whenAt 43 = .ok (.iconst 3, 1) := by decide +kernel
theorem dX8_whenAt_44 : decode cX8_whenAt 44 = .ok (.goto 14, 3) := by decide +kernel
theorem dX8_whenAt_47 : decode cX8_whenAt 47 = .ok (.iload_n 2, 1) := by decide +kernel
theorem dX8_whenAt_48 : decode cX8_whenAt 48 = .ok (.bipush 115, 2) := by decide +kernel
theorem dX8_whenAt_50 : decode cX8_whenAt 50 = .ok (.if_icmp .ne 7, 3) := by decide +kernel
theorem dX8_whenAt_53 : decode cX8_whenAt 53 = .ok (.iconst 4, 1) := by decide +kernel
theorem dX8_whenAt_54 : decode cX8_whenAt 54 = .ok (.goto 4, 3) := by decide +kernel
theorem dX8_whenAt_57 : decode cX8_whenAt 57 = .ok (.iconst (-1), 1) := by decide +kernel
theorem dX8_whenAt_58 : decode cX8_whenAt 58 = .ok (.ireturn, 1) := by decide +kernel
theorem dX8_readsMatter_0 : decode cX8_readsMatter 0 = .ok (.aload_n 0, 1) := by decide +kernel
theorem dX8_readsMatter_1 : decode cX8_readsMatter 1 = .ok (.iconst 0, 1) := by decide +kernel
theorem dX8_readsMatter_2 : decode cX8_readsMatter 2 = .ok (.iload_n 2, 1) := by decide +kernel
theorem dX8_readsMatter_3 : decode cX8_readsMatter 3 = .ok (.iconst 5, 1) := by decide +kernel
theorem dX8_readsMatter_4 : decode cX8_readsMatter 4 = .ok (.invokevirtual 78, 3) := by decide +kernel
theorem dX8_readsMatter_7 : decode cX8_readsMatter 7 = .ok (.istore_n 3, 1) := by decide +kernel
theorem dX8_readsMatter_8 : decode cX8_readsMatter 8 = .ok (.aload_n 0, 1) := by decide +kernel
theorem dX8_readsMatter_9 : decode cX8_readsMatter 9 = .ok (.iconst 0, 1) := by decide +kernel
theorem dX8_readsMatter_10 : decode cX8_readsMatter 10 = .ok (.iload_n 2, 1) := by decide +kernel
theorem dX8_readsMatter_11 : decode cX8_readsMatter 11 = .ok (.iconst 1, 1) := by decide +kernel
theorem dX8_readsMatter_12 : decode cX8_readsMatter 12 = .ok (.iadd, 1) := by decide +kernel
theorem dX8_readsMatter_13 : decode cX8_readsMatter 13 = .ok (.iconst 5, 1) := by decide +kernel
theorem dX8_readsMatter_14 : decode cX8_readsMatter 14 = .ok (.invokevirtual 78, 3) := by decide +kernel
theorem dX8_readsMatter_17 : decode cX8_readsMatter 17 = .ok (.istore 4, 2) := by decide +kernel
theorem dX8_readsMatter_19 : decode cX8_readsMatter 19 = .ok (.aload_n 0, 1) := by decide +kernel
theorem dX8_readsMatter_20 : decode cX8_readsMatter 20 = .ok (.iconst 0, 1) := by decide +kernel
theorem dX8_readsMatter_21 : decode cX8_readsMatter 21 = .ok (.iload_n 2, 1) := by decide +kernel
theorem dX8_readsMatter_22 : decode cX8_readsMatter 22 = .ok (.iconst 2, 1) := by decide +kernel
theorem dX8_readsMatter_23 : decode cX8_readsMatter 23 = .ok (.iadd, 1) := by decide +kernel
theorem dX8_readsMatter_24 : decode cX8_readsMatter 24 = .ok (.bipush 9, 2) := by decide +kernel
theorem dX8_readsMatter_26 : decode cX8_readsMatter 26 = .ok (.invokevirtual 78, 3) := by decide +kernel
theorem dX8_readsMatter_29 : decode cX8_readsMatter 29 = .ok (.istore 5, 2) := by decide +kernel
theorem dX8_readsMatter_31 : decode cX8_readsMatter 31 = .ok (.aload_n 0, 1) := by decide +kernel
theorem dX8_readsMatter_32 : decode cX8_readsMatter 32 = .ok (.iconst 0, 1) := by decide +kernel
theorem dX8_readsMatter_33 : decode cX8_readsMatter 33 = .ok (.iload_n 2, 1) := by decide +kernel
theorem dX8_readsMatter_34 : decode cX8_readsMatter 34 = .ok (.iconst 3, 1) := by decide +kernel
theorem dX8_readsMatter_35 : decode cX8_readsMatter 35 = .ok (.iadd, 1) := by decide +kernel
theorem dX8_readsMatter_36 : decode cX8_readsMatter 36 = .ok (.bipush 9, 2) := by decide +kernel
theorem dX8_readsMatter_38 : decode cX8_readsMatter 38 = .ok (.invokevirtual 78, 3) := by decide +kernel
theorem dX8_readsMatter_41 : decode cX8_readsMatter 41 = .ok (.istore 6, 2) := by decide +kernel
theorem dX8_readsMatter_43 : decode cX8_readsMatter 43 = .ok (.aload_n 0, 1) := by decide +kernel
theorem dX8_readsMatter_44 : decode cX8_readsMatter 44 = .ok (.iconst 0, 1) := by decide +kernel
theorem dX8_readsMatter_45 : decode cX8_readsMatter 45 = .ok (.iload_n 2, 1) := by decide +kernel
theorem dX8_readsMatter_46 : decode cX8_readsMatter 46 = .ok (.iconst 4, 1) := by decide +kernel
theorem dX8_readsMatter_47 : decode cX8_readsMatter 47 = .ok (.iadd, 1) := by decide +kernel
theorem dX8_readsMatter_48 : decode cX8_readsMatter 48 = .ok (.invokevirtual 74, 3) := by decide +kernel
theorem dX8_readsMatter_51 : decode cX8_readsMatter 51 = .ok (.istore 7, 2) := by decide +kernel
theorem dX8_readsMatter_53 : decode cX8_readsMatter 53 = .ok (.aload_n 0, 1) := by decide +kernel
theorem dX8_readsMatter_54 : decode cX8_readsMatter 54 = .ok (.iload_n 2, 1) := by decide +kernel
theorem dX8_readsMatter_55 : decode cX8_readsMatter 55 = .ok (.iconst 5, 1) := by decide +kernel
theorem dX8_readsMatter_56 : decode cX8_readsMatter 56 = .ok (.iadd, 1) := by decide +kernel
theorem dX8_readsMatter_57 : decode cX8_readsMatter 57 = .ok (.invokevirtual 82, 3) := by decide +kernel
theorem dX8_readsMatter_60 : decode cX8_readsMatter 60 = .ok (.istore 8, 2) := by decide +kernel
theorem dX8_readsMatter_62 : decode cX8_readsMatter 62 = .ok (.aload_n 0, 1) := by decide +kernel
theorem dX8_readsMatter_63 : decode cX8_readsMatter 63 = .ok (.iconst 0, 1) := by decide +kernel
theorem dX8_readsMatter_64 : decode cX8_readsMatter 64 = .ok (.iload_n 2, 1) := by decide +kernel
theorem dX8_readsMatter_65 : decode cX8_readsMatter 65 = .ok (.bipush 6, 2) := by decide +kernel
theorem dX8_readsMatter_67 : decode cX8_readsMatter 67 = .ok (.iadd, 1) := by decide +kernel
theorem dX8_readsMatter_68 : decode cX8_readsMatter 68 = .ok (.bipush 9, 2) := by decide +kernel
theorem dX8_readsMatter_70 : decode cX8_readsMatter 70 = .ok (.invokevirtual 78, 3) := by decide +kernel
theorem dX8_readsMatter_73 : decode cX8_readsMatter 73 = .ok (.istore 9, 2) := by decide +kernel
theorem dX8_readsMatter_75 : decode cX8_readsMatter 75 = .ok (.iload_n 3, 1) := by decide +kernel
theorem dX8_readsMatter_76 : decode cX8_readsMatter 76 = .ok (.iconst (-1), 1) := by decide +kernel
theorem dX8_readsMatter_77 : decode cX8_readsMatter 77 = .ok (.if_icmp .ne 7, 3) := by decide +kernel
theorem dX8_readsMatter_80 : decode cX8_readsMatter 80 = .ok (.iconst 0, 1) := by decide +kernel
theorem dX8_readsMatter_81 : decode cX8_readsMatter 81 = .ok (.goto 86, 3) := by decide +kernel
theorem dX8_readsMatter_84 : decode cX8_readsMatter 84 = .ok (.iload 4, 2) := by decide +kernel
theorem dX8_readsMatter_86 : decode cX8_readsMatter 86 = .ok (.iconst (-1), 1) := by decide +kernel
theorem dX8_readsMatter_87 : decode cX8_readsMatter 87 = .ok (.if_icmp .eq 9, 3) := by decide +kernel
theorem dX8_readsMatter_90 : decode cX8_readsMatter 90 = .ok (.iload 4, 2) := by decide +kernel
theorem dX8_readsMatter_92 : decode cX8_readsMatter 92 = .ok (.iload_n 3, 1) := by decide +kernel
theorem dX8_readsMatter_93 : decode cX8_readsMatter 93 = .ok (.if_icmp .ne 7, 3) := by decide +kernel
theorem dX8_readsMatter_96 : decode cX8_readsMatter 96 = .ok (.iconst 1, 1) := by decide +kernel
theorem dX8_readsMatter_97 : decode cX8_readsMatter 97 = .ok (.goto 70, 3) := by decide +kernel
theorem dX8_readsMatter_100 : decode cX8_readsMatter 100 = .ok (.iload 5, 2) := by decide +kernel
theorem dX8_readsMatter_102 : decode cX8_readsMatter 102 = .ok (.iconst (-1), 1) := by decide +kernel
theorem dX8_readsMatter_103 : decode cX8_readsMatter 103 = .ok (.if_icmp .ne 7, 3) := by decide +kernel
theorem dX8_readsMatter_106 : decode cX8_readsMatter 106 = .ok (.iconst 2, 1) := by decide +kernel
theorem dX8_readsMatter_107 : decode cX8_readsMatter 107 = .ok (.goto 60, 3) := by decide +kernel
theorem dX8_readsMatter_110 : decode cX8_readsMatter 110 = .ok (.iload 6, 2) := by decide +kernel
theorem dX8_readsMatter_112 : decode cX8_readsMatter 112 = .ok (.iconst (-1), 1) := by decide +kernel
theorem dX8_readsMatter_113 : decode cX8_readsMatter 113 = .ok (.if_icmp .ne 7, 3) := by decide +kernel
theorem dX8_readsMatter_116 : decode cX8_readsMatter 116 = .ok (.iconst 3, 1) := by decide +kernel
theorem dX8_readsMatter_117 : decode cX8_readsMatter 117 = .ok (.goto 50, 3) := by decide +kernel
theorem dX8_readsMatter_120 : decode cX8_readsMatter 120 = .ok (.iload 7, 2) := by decide +kernel
theorem dX8_readsMatter_122 : decode cX8_readsMatter 122 = .ok (.bipush 121, 2) := by decide +kernel
theorem dX8_readsMatter_124 : decode cX8_readsMatter 124 = .ok (.if_icmp .eq 14, 3) := by decide +kernel
theorem dX8_readsMatter_127 : decode cX8_readsMatter 127 = .ok (.iload 7, 2) := by decide +kernel
theorem dX8_readsMatter_129 : decode cX8_readsMatter 129 = .ok (.bipush 110, 2) := by decide +kernel
theorem dX8_readsMatter_131 : decode cX8_readsMatter 131 = .ok (.if_icmp .eq 7, 3) := by decide +kernel
theorem dX8_readsMatter_134 : decode cX8_readsMatter 134 = .ok (.iconst 4, 1) := by decide +kernel
theorem dX8_readsMatter_135 : decode cX8_readsMatter 135 = .ok (.goto 32, 3) := by decide +kernel
theorem dX8_readsMatter_138 : decode cX8_readsMatter 138 = .ok (.iload 8, 2) := by decide +kernel
theorem dX8_readsMatter_140 : decode cX8_readsMatter 140 = .ok (.iconst (-1), 1) := by decide +kernel
theorem dX8_readsMatter_141 : decode cX8_readsMatter 141 = .ok (.if_icmp .ne 7, 3) := by decide +kernel
theorem dX8_readsMatter_144 : decode cX8_readsMatter 144 = .ok (.iconst 5, 1) := by decide +kernel
theorem dX8_readsMatter_145 : decode cX8_readsMatter 145 = .ok (.goto 22, 3) := by decide +kernel
theorem dX8_readsMatter_148 : decode cX8_readsMatter 148 = .ok (.iload 8, 2) := by decide +kernel
theorem dX8_readsMatter_150 : decode cX8_readsMatter 150 = .ok (.iconst 1, 1) := by decide +kernel
theorem dX8_readsMatter_151 : decode cX8_readsMatter 151 = .ok (.if_icmp .le 14, 3) := by decide +kernel
theorem dX8_readsMatter_154 : decode cX8_readsMatter 154 = .ok (.iload 9, 2) := by decide +kernel
theorem dX8_readsMatter_156 : decode cX8_readsMatter 156 = .ok (.iconst (-1), 1) := by decide +kernel
theorem dX8_readsMatter_157 : decode cX8_readsMatter 157 = .ok (.if_icmp .ne 8, 3) := by decide +kernel
theorem dX8_readsMatter_160 : decode cX8_readsMatter 160 = .ok (.bipush 6, 2) := by decide +kernel
theorem dX8_readsMatter_162 : decode cX8_readsMatter 162 = .ok (.goto 5, 3) := by decide +kernel
theorem dX8_readsMatter_165 : decode cX8_readsMatter 165 = .ok (.bipush 7, 2) := by decide +kernel
theorem dX8_readsMatter_167 : decode cX8_readsMatter 167 = .ok (.istore 10, 2) := by decide +kernel
theorem dX8_readsMatter_169 : decode cX8_readsMatter 169 = .ok (.iload 10, 2) := by decide +kernel
theorem dX8_readsMatter_171 : decode cX8_readsMatter 171 = .ok (.bipush 7, 2) := by decide +kernel
theorem dX8_readsMatter_173 : decode cX8_readsMatter 173 = .ok (.if_icmp .ge 11, 3) := by decide +kernel
theorem dX8_readsMatter_176 : decode cX8_readsMatter 176 = .ok (.iload_n 2, 1) := by decide +kernel
theorem dX8_readsMatter_177 : decode cX8_readsMatter 177 = .ok (.ineg, 1) := by decide +kernel
theorem dX8_readsMatter_178 : decode cX8_readsMatter 178 = .ok (.iload 10, 2) := by decide +kernel
theorem dX8_readsMatter_180 : decode cX8_readsMatter 180 = .ok (.isub, 1) := by decide +kernel
theorem dX8_readsMatter_181 : decode cX8_readsMatter 181 = .ok (.iconst 1, 1) := by decide +kernel
theorem dX8_readsMatter_182 : decode cX8_readsMatter 182 = .ok (.isub, 1) := by decide +kernel
theorem dX8_readsMatter_183 : decode cX8_readsMatter 183 = .ok (.ireturn, 1) := by decide +kernel
theorem dX8_readsMatter_184 : decode cX8_readsMatter 184 = .ok (.aload_n 0, 1) := by decide +kernel
theorem dX8_readsMatter_185 : decode cX8_readsMatter 185 = .ok (.getfield 16, 3) := by decide +kernel
theorem dX8_readsMatter_188 : decode cX8_readsMatter 188 = .ok (.bipush 6, 2) := by decide +kernel
theorem dX8_readsMatter_190 : decode cX8_readsMatter 190 = .ok (.iload_n 1, 1) := by decide +kernel
theorem dX8_readsMatter_191 : decode cX8_readsMatter 191 = .ok (.imul, 1) := by decide +kernel
theorem dX8_readsMatter_192 : decode cX8_readsMatter 192 = .ok (.iload_n 3, 1) := by decide +kernel
theorem dX8_readsMatter_193 : decode cX8_readsMatter 193 = .ok (.iastore, 1) := by decide +kernel
theorem dX8_readsMatter_194 : decode cX8_readsMatter 194 = .ok (.aload_n 0, 1) := by decide +kernel
theorem dX8_readsMatter_195 : decode cX8_readsMatter 195 = .ok (.getfield 16, 3) := by decide +kernel
theorem dX8_readsMatter_198 : decode cX8_readsMatter 198 = .ok (.bipush 6, 2) := by decide +kernel
theorem dX8_readsMatter_200 : decode cX8_readsMatter 200 = .ok (.iload_n 1, 1) := by decide +kernel
theorem dX8_readsMatter_201 : decode cX8_readsMatter 201 = .ok (.imul, 1) := by decide +kernel
theorem dX8_readsMatter_202 : decode cX8_readsMatter 202 = .ok (.iconst 1, 1) := by decide +kernel
theorem dX8_readsMatter_203 : decode cX8_readsMatter 203 = .ok (.iadd, 1) := by decide +kernel
theorem dX8_readsMatter_204 : decode cX8_readsMatter 204 = .ok (.iload 4, 2) := by decide +kernel
theorem dX8_readsMatter_206 : decode cX8_readsMatter 206 = .ok (.iastore, 1) := by decide +kernel
theorem dX8_readsMatter_207 : decode cX8_readsMatter 207 = .ok (.aload_n 0, 1) := by decide +kernel
theorem dX8_readsMatter_208 : decode cX8_readsMatter 208 = .ok (.getfield 16, 3) := by decide +kernel
theorem dX8_readsMatter_211 : decode cX8_readsMatter 211 = .ok (.bipush 6, 2) := by decide +kernel
theorem dX8_readsMatter_213 : decode cX8_readsMatter 213 = .ok (.iload_n 1, 1) := by decide +kernel
theorem dX8_readsMatter_214 : decode cX8_readsMatter 214 = .ok (.imul, 1) := by decide +kernel
theorem dX8_readsMatter_215 : decode cX8_readsMatter 215 = .ok (.iconst 2, 1) := by decide +kernel
theorem dX8_readsMatter_216 : decode cX8_readsMatter 216 = .ok (.iadd, 1) := by decide +kernel
theorem dX8_readsMatter_217 : decode cX8_readsMatter 217 = .ok (.bipush 10, 2) := by decide +kernel
theorem dX8_readsMatter_219 : decode cX8_readsMatter 219 = .ok (.iload 5, 2) := by decide +kernel
theorem dX8_readsMatter_221 : decode cX8_readsMatter 221 = .ok (.imul, 1) := by decide +kernel
theorem dX8_readsMatter_222 : decode cX8_readsMatter 222 = .ok (.iload 6, 2) := by decide +kernel
theorem dX8_readsMatter_224 : decode cX8_readsMatter 224 = .ok (.iadd, 1) := by decide +kernel
theorem dX8_readsMatter_225 : decode cX8_readsMatter 225 = .ok (.iastore, 1) := by decide +kernel
theorem dX8_readsMatter_226 : decode cX8_readsMatter 226 = .ok (.aload_n 0, 1) := by decide +kernel
theorem dX8_readsMatter_227 : decode cX8_readsMatter 227 = .ok (.getfield 16, 3) := by decide +kernel
theorem dX8_readsMatter_230 : decode cX8_readsMatter 230 = .ok (.bipush 6, 2) := by decide +kernel
theorem dX8_readsMatter_232 : decode cX8_readsMatter 232 = .ok (.iload_n 1, 1) := by decide +kernel
theorem dX8_readsMatter_233 : decode cX8_readsMatter 233 = .ok (.imul, 1) := by decide +kernel
theorem dX8_readsMatter_234 : decode cX8_readsMatter 234 = .ok (.iconst 3, 1) := by decide +kernel
theorem dX8_readsMatter_235 : decode cX8_readsMatter 235 = .ok (.iadd, 1) := by decide +kernel
theorem dX8_readsMatter_236 : decode cX8_readsMatter 236 = .ok (.iload 7, 2) := by decide +kernel
theorem dX8_readsMatter_238 : decode cX8_readsMatter 238 = .ok (.bipush 121, 2) := by decide +kernel
theorem dX8_readsMatter_240 : decode cX8_readsMatter 240 = .ok (.if_icmp .ne 7, 3) := by decide +kernel
theorem dX8_readsMatter_243 : decode cX8_readsMatter 243 = .ok (.iconst 1, 1) := by decide +kernel
theorem dX8_readsMatter_244 : decode cX8_readsMatter 244 = .ok (.goto 4, 3) := by decide +kernel
theorem dX8_readsMatter_247 : decode cX8_readsMatter 247 = .ok (.iconst 0, 1) := by decide +kernel
theorem dX8_readsMatter_248 : decode cX8_readsMatter 248 = .ok (.iastore, 1) := by decide +kernel
theorem dX8_readsMatter_249 : decode cX8_readsMatter 249 = .ok (.aload_n 0, 1) := by decide +kernel
theorem dX8_readsMatter_250 : decode cX8_readsMatter 250 = .ok (.getfield 16, 3) := by decide +kernel
theorem dX8_readsMatter_253 : decode cX8_readsMatter 253 = .ok (.bipush 6, 2) := by decide +kernel
theorem dX8_readsMatter_255 : decode cX8_readsMatter 255 = .ok (.iload_n 1, 1) := by decide +kernel
theorem dX8_readsMatter_256 : decode cX8_readsMatter 256 = .ok (.imul, 1) := by decide +kernel
theorem dX8_readsMatter_257 : decode cX8_readsMatter 257 = .ok (.iconst 4, 1) := by decide +kernel
theorem dX8_readsMatter_258 : decode cX8_readsMatter 258 = .ok (.iadd, 1) := by decide +kernel
theorem dX8_readsMatter_259 : decode cX8_readsMatter 259 = .ok (.iload 8, 2) := by decide +kernel
theorem dX8_readsMatter_261 : decode cX8_readsMatter 261 = .ok (.iastore, 1) := by decide +kernel
theorem dX8_readsMatter_262 : decode cX8_readsMatter 262 = .ok (.aload_n 0, 1) := by decide +kernel
theorem dX8_readsMatter_263 : decode cX8_readsMatter 263 = .ok (.getfield 16, 3) := by decide +kernel
theorem dX8_readsMatter_266 : decode cX8_readsMatter 266 = .ok (.bipush 6, 2) := by decide +kernel
theorem dX8_readsMatter_268 : decode cX8_readsMatter 268 = .ok (.iload_n 1, 1) := by decide +kernel
theorem dX8_readsMatter_269 : decode cX8_readsMatter 269 = .ok (.imul, 1) := by decide +kernel
theorem dX8_readsMatter_270 : decode cX8_readsMatter 270 = .ok (.iconst 5, 1) := by decide +kernel
theorem dX8_readsMatter_271 : decode cX8_readsMatter 271 = .ok (.iadd, 1) := by decide +kernel
theorem dX8_readsMatter_272 : decode cX8_readsMatter 272 = .ok (.iload 8, 2) := by decide +kernel
theorem dX8_readsMatter_274 : decode cX8_readsMatter 274 = .ok (.iconst 1, 1) := by decide +kernel
theorem dX8_readsMatter_275 : decode cX8_readsMatter 275 = .ok (.if_icmp .le 8, 3) := by decide +kernel
theorem dX8_readsMatter_278 : decode cX8_readsMatter 278 = .ok (.iload 9, 2) := by decide +kernel
theorem dX8_readsMatter_280 : decode cX8_readsMatter 280 = .ok (.goto 4, 3) := by decide +kernel
theorem dX8_readsMatter_283 : decode cX8_readsMatter 283 = .ok (.iconst (-1), 1) := by decide +kernel
theorem dX8_readsMatter_284 : decode cX8_readsMatter 284 = .ok (.iastore, 1) := by decide +kernel
theorem dX8_readsMatter_285 : decode cX8_readsMatter 285 = .ok (.iload 8, 2) := by decide +kernel
theorem dX8_readsMatter_287 : decode cX8_readsMatter 287 = .ok (.iconst 1, 1) := by decide +kernel
theorem dX8_readsMatter_288 : decode cX8_readsMatter 288 = .ok (.if_icmp .le 8, 3) := by decide +kernel
theorem dX8_readsMatter_291 : decode cX8_readsMatter 291 = .ok (.bipush 7, 2) := by decide +kernel
theorem dX8_readsMatter_293 : decode cX8_readsMatter 293 = .ok (.goto 5, 3) := by decide +kernel
theorem dX8_readsMatter_296 : decode cX8_readsMatter 296 = .ok (.bipush 6, 2) := by decide +kernel
theorem dX8_readsMatter_298 : decode cX8_readsMatter 298 = .ok (.ireturn, 1) := by decide +kernel
theorem dX8_readsMatters_0 : decode cX8_readsMatters 0 = .ok (.aload_n 0, 1) := by decide +kernel
theorem dX8_readsMatters_1 : decode cX8_readsMatters 1 = .ok (.iconst 0, 1) := by decide +kernel
theorem dX8_readsMatters_2 : decode cX8_readsMatters 2 = .ok (.putfield 86, 3) := by decide +kernel
theorem dX8_readsMatters_5 : decode cX8_readsMatters 5 = .ok (.iconst 0, 1) := by decide +kernel
theorem dX8_readsMatters_6 : decode cX8_readsMatters 6 = .ok (.istore_n 1, 1) := by decide +kernel
theorem dX8_readsMatters_7 : decode cX8_readsMatters 7 = .ok (.iconst 0, 1) := by decide +kernel
theorem dX8_readsMatters_8 : decode cX8_readsMatters 8 = .ok (.istore_n 2, 1) := by decide +kernel
theorem dX8_readsMatters_9 : decode cX8_readsMatters 9 = .ok (.iload_n 2, 1) := by decide +kernel
theorem dX8_readsMatters_10 : decode cX8_readsMatters 10 = .ok (.aload_n 0, 1) := by decide +kernel
theorem dX8_readsMatters_11 : decode cX8_readsMatters 11 = .ok (.getfield 7, 3) := by decide +kernel
theorem dX8_readsMatters_14 : decode cX8_readsMatters 14 = .ok (.iconst 0, 1) := by decide +kernel
theorem dX8_readsMatters_15 : decode cX8_readsMatters 15 = .ok (.iaload, 1) := by decide +kernel
theorem dX8_readsMatters_16 : decode cX8_readsMatters 16 = .ok (.if_icmp .lt 7, 3) := by decide +kernel
theorem dX8_readsMatters_19 : decode cX8_readsMatters 19 = .ok (.iload_n 2, 1) := by decide +kernel
theorem dX8_readsMatters_20 : decode cX8_readsMatters 20 = .ok (.ifCond .le 70, 3) := by decide +kernel
theorem dX8_readsMatters_23 : decode cX8_readsMatters 23 = .ok (.iload_n 1, 1) := by decide +kernel
theorem dX8_readsMatters_24 : decode cX8_readsMatters 24 = .ok (.bipush 10, 2) := by decide +kernel
theorem dX8_readsMatters_26 : decode cX8_readsMatters 26 = .ok (.if_icmp .ne 5, 3) := by decide +kernel
theorem dX8_readsMatters_29 : decode cX8_readsMatters 29 = .ok (.iload_n 2, 1) := by decide +kernel
theorem dX8_readsMatters_30 : decode cX8_readsMatters 30 = .ok (.ireturn, 1) := by decide +kernel
theorem dX8_readsMatters_31 : decode cX8_readsMatters 31 = .ok (.aload_n 0, 1) := by decide +kernel
theorem dX8_readsMatters_32 : decode cX8_readsMatters 32 = .ok (.iload_n 1, 1) := by decide +kernel
theorem dX8_readsMatters_33 : decode cX8_readsMatters 33 = .ok (.iload_n 2, 1) := by decide +kernel
theorem dX8_readsMatters_34 : decode cX8_readsMatters 34 = .ok (.invokevirtual 89, 3) := by decide +kernel
theorem dX8_readsMatters_37 : decode cX8_readsMatters 37 = .ok (.istore_n 3, 1) := by decide +kernel
theorem dX8_readsMatters_38 : decode cX8_readsMatters 38 = .ok (.iload_n 3, 1) := by decide +kernel
theorem dX8_readsMatters_39 : decode cX8_readsMatters 39 = .ok (.ifCond .ge 8, 3) := by decide +kernel
theorem dX8_readsMatters_42 : decode cX8_readsMatters 42 = .ok (.iload_n 3, 1) := by decide +kernel
theorem dX8_readsMatters_43 : decode cX8_readsMatters 43 = .ok (.ineg, 1) := by decide +kernel
theorem dX8_readsMatters_44 : decode cX8_readsMatters 44 = .ok (.iconst 1, 1) := by decide +kernel
theorem dX8_readsMatters_45 : decode cX8_readsMatters 45 = .ok (.isub, 1) := by decide +kernel
theorem dX8_readsMatters_46 : decode cX8_readsMatters 46 = .ok (.ireturn, 1) := by decide +kernel
theorem dX8_readsMatters_47 : decode cX8_readsMatters 47 = .ok (.iinc 1 1, 3) := by decide +kernel
theorem dX8_readsMatters_50 : decode cX8_readsMatters 50 = .ok (.iload_n 2, 1) := by decide +kernel
theorem dX8_readsMatters_51 : decode cX8_readsMatters 51 = .ok (.iload_n 3, 1) := by decide +kernel
theorem dX8_readsMatters_52 : decode cX8_readsMatters 52 = .ok (.iadd, 1) := by decide +kernel
theorem dX8_readsMatters_53 : decode cX8_readsMatters 53 = .ok (.istore_n 2, 1) := by decide +kernel
theorem dX8_readsMatters_54 : decode cX8_readsMatters 54 = .ok (.iload_n 2, 1) := by decide +kernel
theorem dX8_readsMatters_55 : decode cX8_readsMatters 55 = .ok (.aload_n 0, 1) := by decide +kernel
theorem dX8_readsMatters_56 : decode cX8_readsMatters 56 = .ok (.getfield 7, 3) := by decide +kernel
theorem dX8_readsMatters_59 : decode cX8_readsMatters 59 = .ok (.iconst 0, 1) := by decide +kernel
theorem dX8_readsMatters_60 : decode cX8_readsMatters 60 = .ok (.iaload, 1) := by decide +kernel
theorem dX8_readsMatters_61 : decode cX8_readsMatters 61 = .ok (.if_icmp .ne 10, 3) := by decide +kernel
theorem dX8_readsMatters_64 : decode cX8_readsMatters 64 = .ok (.aload_n 0, 1) := by decide +kernel
theorem dX8_readsMatters_65 : decode cX8_readsMatters 65 = .ok (.iload_n 1, 1) := by decide +kernel
theorem dX8_readsMatters_66 : decode cX8_readsMatters 66 = .ok (.putfield 86, 3) := by decide +kernel
theorem dX8_readsMatters_69 : decode cX8_readsMatters 69 = .ok (.iconst (-1), 1) := by decide +kernel
theorem dX8_readsMatters_70 : decode cX8_readsMatters 70 = .ok (.ireturn, 1) := by decide +kernel
theorem dX8_readsMatters_71 : decode cX8_readsMatters 71 = .ok (.aload_n 0, 1) := by decide +kernel
theorem dX8_readsMatters_72 : decode cX8_readsMatters 72 = .ok (.iconst 0, 1) := by decide +kernel
theorem dX8_readsMatters_73 : decode cX8_readsMatters 73 = .ok (.iload_n 2, 1) := by decide +kernel
theorem dX8_readsMatters_74 : decode cX8_readsMatters 74 = .ok (.invokevirtual 74, 3) := by decide +kernel
theorem dX8_readsMatters_77 : decode cX8_readsMatters 77 = .ok (.bipush 59, 2) := by decide +kernel
theorem dX8_readsMatters_79 : decode cX8_readsMatters 79 = .ok (.if_icmp .eq 5, 3) := by decide +kernel
theorem dX8_readsMatters_82 : decode cX8_readsMatters 82 = .ok (.iload_n 2, 1) := by decide +kernel
theorem dX8_readsMatters_83 : decode cX8_readsMatters 83 = .ok (.ireturn, 1) := by decide +kernel
theorem dX8_readsMatters_84 : decode cX8_readsMatters 84 = .ok (.iinc 2 1, 3) := by decide +kernel
theorem dX8_readsMatters_87 : decode cX8_readsMatters 87 = .ok (.goto (-78), 3) := by decide +kernel
theorem dX8_readsMatters_90 : decode cX8_readsMatters 90 = .ok (.iconst (-1), 1) := by decide +kernel
theorem dX8_readsMatters_91 : decode cX8_readsMatters 91 = .ok (.ireturn, 1) := by decide +kernel
theorem dX8_readsPosts_0 : decode cX8_readsPosts 0 = .ok (.iload_n 1, 1) := by decide +kernel
theorem dX8_readsPosts_1 : decode cX8_readsPosts 1 = .ok (.iconst 1, 1) := by decide +kernel
theorem dX8_readsPosts_2 : decode cX8_readsPosts 2 = .ok (.isub, 1) := by decide +kernel
theorem dX8_readsPosts_3 : decode cX8_readsPosts 3 = .ok (.istore_n 2, 1) := by decide +kernel
theorem dX8_readsPosts_4 : decode cX8_readsPosts 4 = .ok (.aload_n 0, 1) := by decide +kernel
theorem dX8_readsPosts_5 : decode cX8_readsPosts 5 = .ok (.getfield 19, 3) := by decide +kernel
theorem dX8_readsPosts_8 : decode cX8_readsPosts 8 = .ok (.iload_n 2, 1) := by decide +kernel
theorem dX8_readsPosts_9 : decode cX8_readsPosts 9 = .ok (.iconst 0, 1) := by decide +kernel
theorem dX8_readsPosts_10 : decode cX8_readsPosts 10 = .ok (.iastore, 1) := by decide +kernel
theorem dX8_readsPosts_11 : decode cX8_readsPosts 11 = .ok (.iconst 0, 1) := by decide +kernel
theorem dX8_readsPosts_12 : decode cX8_readsPosts 12 = .ok (.istore_n 3, 1) := by decide +kernel
theorem dX8_readsPosts_13 : decode cX8_readsPosts 13 = .ok (.iconst 0, 1) := by decide +kernel
theorem dX8_readsPosts_14 : decode cX8_readsPosts 14 = .ok (.istore 4, 2) := by decide +kernel
theorem dX8_readsPosts_16 : decode cX8_readsPosts 16 = .ok (.iload 4, 2) := by decide +kernel
theorem dX8_readsPosts_18 : decode cX8_readsPosts 18 = .ok (.aload_n 0, 1) := by decide +kernel
theorem dX8_readsPosts_19 : decode cX8_readsPosts 19 = .ok (.getfield 7, 3) := by decide +kernel
theorem dX8_readsPosts_22 : decode cX8_readsPosts 22 = .ok (.iload_n 1, 1) := by decide +kernel
theorem dX8_readsPosts_23 : decode cX8_readsPosts 23 = .ok (.iaload, 1) := by decide +kernel
theorem dX8_readsPosts_24 : decode cX8_readsPosts 24 = .ok (.if_icmp .lt 8, 3) := by decide +kernel
theorem dX8_readsPosts_27 : decode cX8_readsPosts 27 = .ok (.iload 4, 2) := by decide +kernel
theorem dX8_readsPosts_29 : decode cX8_readsPosts 29 = .ok (.ifCond .le 224, 3) := by decide +kernel
theorem dX8_readsPosts_32 : decode cX8_readsPosts 32 = .ok (.iload_n 3, 1) := by decide +kernel
theorem dX8_readsPosts_33 : decode cX8_readsPosts 33 = .ok (.bipush 10, 2) := by decide +kernel
theorem dX8_readsPosts_35 : decode cX8_readsPosts 35 = .ok (.if_icmp .ne 6, 3) := by decide +kernel
theorem dX8_readsPosts_38 : decode cX8_readsPosts 38 = .ok (.iload 4, 2) := by decide +kernel
theorem dX8_readsPosts_40 : decode cX8_readsPosts 40 = .ok (.ireturn, 1) := by decide +kernel
theorem dX8_readsPosts_41 : decode cX8_readsPosts 41 = .ok (.aload_n 0, 1) := by decide +kernel
theorem dX8_readsPosts_42 : decode cX8_readsPosts 42 = .ok (.iload_n 1, 1) := by decide +kernel
theorem dX8_readsPosts_43 : decode cX8_readsPosts 43 = .ok (.iload 4, 2) := by decide +kernel
theorem dX8_readsPosts_45 : decode cX8_readsPosts 45 = .ok (.bipush 9, 2) := by decide +kernel
theorem dX8_readsPosts_47 : decode cX8_readsPosts 47 = .ok (.invokevirtual 78, 3) := by decide +kernel
theorem dX8_readsPosts_50 : decode cX8_readsPosts 50 = .ok (.istore 5, 2) := by decide +kernel
theorem dX8_readsPosts_52 : decode cX8_readsPosts 52 = .ok (.aload_n 0, 1) := by decide +kernel
theorem dX8_readsPosts_53 : decode cX8_readsPosts 53 = .ok (.iload_n 1, 1) := by decide +kernel
theorem dX8_readsPosts_54 : decode cX8_readsPosts 54 = .ok (.iload 4, 2) := by decide +kernel
theorem dX8_readsPosts_56 : decode cX8_readsPosts 56 = .ok (.iconst 1, 1) := by decide +kernel
theorem dX8_readsPosts_57 : decode cX8_readsPosts 57 = .ok (.iadd, 1) := by decide +kernel
theorem dX8_readsPosts_58 : decode cX8_readsPosts 58 = .ok (.bipush 9, 2) := by decide +kernel
theorem dX8_readsPosts_60 : decode cX8_readsPosts 60 = .ok (.invokevirtual 78, 3) := by decide +kernel
theorem dX8_readsPosts_63 : decode cX8_readsPosts 63 = .ok (.istore 6, 2) := by decide +kernel
theorem dX8_readsPosts_65 : decode cX8_readsPosts 65 = .ok (.aload_n 0, 1) := by decide +kernel
theorem dX8_readsPosts_66 : decode cX8_readsPosts 66 = .ok (.iload_n 1, 1) := by decide +kernel
theorem dX8_readsPosts_67 : decode cX8_readsPosts 67 = .ok (.iload 4, 2) := by decide +kernel
theorem dX8_readsPosts_69 : decode cX8_readsPosts 69 = .ok (.iconst 2, 1) := by decide +kernel
theorem dX8_readsPosts_70 : decode cX8_readsPosts 70 = .ok (.iadd, 1) := by decide +kernel
theorem dX8_readsPosts_71 : decode cX8_readsPosts 71 = .ok (.iconst 5, 1) := by decide +kernel
theorem dX8_readsPosts_72 : decode cX8_readsPosts 72 = .ok (.invokevirtual 78, 3) := by decide +kernel
theorem dX8_readsPosts_75 : decode cX8_readsPosts 75 = .ok (.istore 7, 2) := by decide +kernel
theorem dX8_readsPosts_77 : decode cX8_readsPosts 77 = .ok (.aload_n 0, 1) := by decide +kernel
theorem dX8_readsPosts_78 : decode cX8_readsPosts 78 = .ok (.iload_n 1, 1) := by decide +kernel
theorem dX8_readsPosts_79 : decode cX8_readsPosts 79 = .ok (.iload 4, 2) := by decide +kernel
theorem dX8_readsPosts_81 : decode cX8_readsPosts 81 = .ok (.iconst 3, 1) := by decide +kernel
theorem dX8_readsPosts_82 : decode cX8_readsPosts 82 = .ok (.iadd, 1) := by decide +kernel
theorem dX8_readsPosts_83 : decode cX8_readsPosts 83 = .ok (.iconst 5, 1) := by decide +kernel
theorem dX8_readsPosts_84 : decode cX8_readsPosts 84 = .ok (.invokevirtual 78, 3) := by decide +kernel
theorem dX8_readsPosts_87 : decode cX8_readsPosts 87 = .ok (.istore 8, 2) := by decide +kernel
theorem dX8_readsPosts_89 : decode cX8_readsPosts 89 = .ok (.iload 5, 2) := by decide +kernel
theorem dX8_readsPosts_91 : decode cX8_readsPosts 91 = .ok (.iconst (-1), 1) := by decide +kernel
theorem dX8_readsPosts_92 : decode cX8_readsPosts 92 = .ok (.if_icmp .ne 7, 3) := by decide +kernel
theorem dX8_readsPosts_95 : decode cX8_readsPosts 95 = .ok (.iconst 0, 1) := by decide +kernel
theorem dX8_readsPosts_96 : decode cX8_readsPosts 96 = .ok (.goto 41, 3) := by decide +kernel
theorem dX8_readsPosts_99 : decode cX8_readsPosts 99 = .ok (.iload 6, 2) := by decide +kernel
theorem dX8_readsPosts_101 : decode cX8_readsPosts 101 = .ok (.iconst (-1), 1) := by decide +kernel
theorem dX8_readsPosts_102 : decode cX8_readsPosts 102 = .ok (.if_icmp .ne 7, 3) := by decide +kernel
theorem dX8_readsPosts_105 : decode cX8_readsPosts 105 = .ok (.iconst 1, 1) := by decide +kernel
theorem dX8_readsPosts_106 : decode cX8_readsPosts 106 = .ok (.goto 31, 3) := by decide +kernel
theorem dX8_readsPosts_109 : decode cX8_readsPosts 109 = .ok (.iload 7, 2) := by decide +kernel
theorem dX8_readsPosts_111 : decode cX8_readsPosts 111 = .ok (.iconst (-1), 1) := by decide +kernel
theorem dX8_readsPosts_112 : decode cX8_readsPosts 112 = .ok (.if_icmp .ne 7, 3) := by decide +kernel
theorem dX8_readsPosts_115 : decode cX8_readsPosts 115 = .ok (.iconst 2, 1) := by decide +kernel
theorem dX8_readsPosts_116 : decode cX8_readsPosts 116 = .ok (.goto 21, 3) := by decide +kernel
theorem dX8_readsPosts_119 : decode cX8_readsPosts 119 = .ok (.iload 8, 2) := by decide +kernel
theorem dX8_readsPosts_121 : decode cX8_readsPosts 121 = .ok (.iconst (-1), 1) := by decide +kernel
theorem dX8_readsPosts_122 : decode cX8_readsPosts 122 = .ok (.if_icmp .eq 10, 3) := by decide +kernel
theorem dX8_readsPosts_125 : decode cX8_readsPosts 125 = .ok (.iload 8, 2) := by decide +kernel
theorem dX8_readsPosts_127 : decode cX8_readsPosts 127 = .ok (.iload 7, 2) := by decide +kernel
theorem dX8_readsPosts_129 : decode cX8_readsPosts 129 = .ok (.if_icmp .ne 7, 3) := by decide +kernel
theorem dX8_readsPosts_132 : decode cX8_readsPosts 132 = .ok (.iconst 3, 1) := by decide +kernel
theorem dX8_readsPosts_133 : decode cX8_readsPosts 133 = .ok (.goto 4, 3) := by decide +kernel
theorem dX8_readsPosts_136 : decode cX8_readsPosts 136 = .ok (.iconst 4, 1) := by decide +kernel
theorem dX8_readsPosts_137 : decode cX8_readsPosts 137 = .ok (.istore 9, 2) := by decide +kernel
theorem dX8_readsPosts_139 : decode cX8_readsPosts 139 = .ok (.iload 9, 2) := by decide +kernel
theorem dX8_readsPosts_141 : decode cX8_readsPosts 141 = .ok (.iconst 4, 1) := by decide +kernel
theorem dX8_readsPosts_142 : decode cX8_readsPosts 142 = .ok (.if_icmp .ge 9, 3) := by decide +kernel
theorem dX8_readsPosts_145 : decode cX8_readsPosts 145 = .ok (.iload 4, 2) := by decide +kernel
theorem dX8_readsPosts_147 : decode cX8_readsPosts 147 = .ok (.iload 9, 2) := by decide +kernel
theorem dX8_readsPosts_149 : decode cX8_readsPosts 149 = .ok (.iadd, 1) := by decide +kernel
theorem dX8_readsPosts_150 : decode cX8_readsPosts 150 = .ok (.ireturn, 1) := by decide +kernel
theorem dX8_readsPosts_151 : decode cX8_readsPosts 151 = .ok (.aload_n 0, 1) := by decide +kernel
theorem dX8_readsPosts_152 : decode cX8_readsPosts 152 = .ok (.getfield 22, 3) := by decide +kernel
theorem dX8_readsPosts_155 : decode cX8_readsPosts 155 = .ok (.bipush 33, 2) := by decide +kernel
theorem dX8_readsPosts_157 : decode cX8_readsPosts 157 = .ok (.iload_n 2, 1) := by decide +kernel
theorem dX8_readsPosts_158 : decode cX8_readsPosts 158 = .ok (.imul, 1) := by decide +kernel
theorem dX8_readsPosts_159 : decode cX8_readsPosts 159 = .ok (.iconst 3, 1) := by decide +kernel
theorem dX8_readsPosts_160 : decode cX8_readsPosts 160 = .ok (.iload_n 3, 1) := by decide +kernel
theorem dX8_readsPosts_161 : decode cX8_readsPosts 161 = .ok (.imul, 1) := by decide +kernel
theorem dX8_readsPosts_162 : decode cX8_readsPosts 162 = .ok (.iadd, 1) := by decide +kernel
theorem dX8_readsPosts_163 : decode cX8_readsPosts 163 = .ok (.bipush 10, 2) := by decide +kernel
theorem dX8_readsPosts_165 : decode cX8_readsPosts 165 = .ok (.iload 5, 2) := by decide +kernel
theorem dX8_readsPosts_167 : decode cX8_readsPosts 167 = .ok (.imul, 1) := by decide +kernel
theorem dX8_readsPosts_168 : decode cX8_readsPosts 168 = .ok (.iload 6, 2) := by decide +kernel
theorem dX8_readsPosts_170 : decode cX8_readsPosts 170 = .ok (.iadd, 1) := by decide +kernel
theorem dX8_readsPosts_171 : decode cX8_readsPosts 171 = .ok (.iastore, 1) := by decide +kernel
theorem dX8_readsPosts_172 : decode cX8_readsPosts 172 = .ok (.aload_n 0, 1) := by decide +kernel
theorem dX8_readsPosts_173 : decode cX8_readsPosts 173 = .ok (.getfield 22, 3) := by decide +kernel
theorem dX8_readsPosts_176 : decode cX8_readsPosts 176 = .ok (.bipush 33, 2) := by decide +kernel
theorem dX8_readsPosts_178 : decode cX8_readsPosts 178 = .ok (.iload_n 2, 1) := by decide +kernel
theorem dX8_readsPosts_179 : decode cX8_readsPosts 179 = .ok (.imul, 1) := by decide +kernel
theorem dX8_readsPosts_180 : decode cX8_readsPosts 180 = .ok (.iconst 3, 1) := by decide +kernel
theorem dX8_readsPosts_181 : decode cX8_readsPosts 181 = .ok (.iload_n 3, 1) := by decide +kernel
theorem dX8_readsPosts_182 : decode cX8_readsPosts 182 = .ok (.imul, 1) := by decide +kernel
theorem dX8_readsPosts_183 : decode cX8_readsPosts 183 = .ok (.iadd, 1) := by decide +kernel
theorem dX8_readsPosts_184 : decode cX8_readsPosts 184 = .ok (.iconst 1, 1) := by decide +kernel
theorem dX8_readsPosts_185 : decode cX8_readsPosts 185 = .ok (.iadd, 1) := by decide +kernel
theorem dX8_readsPosts_186 : decode cX8_readsPosts 186 = .ok (.iload 7, 2) := by decide +kernel
theorem dX8_readsPosts_188 : decode cX8_readsPosts 188 = .ok (.iastore, 1) := by decide +kernel
theorem dX8_readsPosts_189 : decode cX8_readsPosts 189 = .ok (.aload_n 0, 1) := by decide +kernel
theorem dX8_readsPosts_190 : decode cX8_readsPosts 190 = .ok (.getfield 22, 3) := by decide +kernel
theorem dX8_readsPosts_193 : decode cX8_readsPosts 193 = .ok (.bipush 33, 2) := by decide +kernel
theorem dX8_readsPosts_195 : decode cX8_readsPosts 195 = .ok (.iload_n 2, 1) := by decide +kernel
theorem dX8_readsPosts_196 : decode cX8_readsPosts 196 = .ok (.imul, 1) := by decide +kernel
theorem dX8_readsPosts_197 : decode cX8_readsPosts 197 = .ok (.iconst 3, 1) := by decide +kernel
theorem dX8_readsPosts_198 : decode cX8_readsPosts 198 = .ok (.iload_n 3, 1) := by decide +kernel
theorem dX8_readsPosts_199 : decode cX8_readsPosts 199 = .ok (.imul, 1) := by decide +kernel
theorem dX8_readsPosts_200 : decode cX8_readsPosts 200 = .ok (.iadd, 1) := by decide +kernel
theorem dX8_readsPosts_201 : decode cX8_readsPosts 201 = .ok (.iconst 2, 1) := by decide +kernel
theorem dX8_readsPosts_202 : decode cX8_readsPosts 202 = .ok (.iadd, 1) := by decide +kernel
theorem dX8_readsPosts_203 : decode cX8_readsPosts 203 = .ok (.iload 8, 2) := by decide +kernel
theorem dX8_readsPosts_205 : decode cX8_readsPosts 205 = .ok (.iastore, 1) := by decide +kernel
theorem dX8_readsPosts_206 : decode cX8_readsPosts 206 = .ok (.iinc 3 1, 3) := by decide +kernel
theorem dX8_readsPosts_209 : decode cX8_readsPosts 209 = .ok (.iinc 4 4, 3) := by decide +kernel
theorem dX8_readsPosts_212 : decode cX8_readsPosts 212 = .ok (.iload 4, 2) := by decide +kernel
theorem dX8_readsPosts_214 : decode cX8_readsPosts 214 = .ok (.aload_n 0, 1) := by decide +kernel
theorem dX8_readsPosts_215 : decode cX8_readsPosts 215 = .ok (.getfield 7, 3) := by decide +kernel
theorem dX8_readsPosts_218 : decode cX8_readsPosts 218 = .ok (.iload_n 1, 1) := by decide +kernel
theorem dX8_readsPosts_219 : decode cX8_readsPosts 219 = .ok (.iaload, 1) := by decide +kernel
theorem dX8_readsPosts_220 : decode cX8_readsPosts 220 = .ok (.if_icmp .ne 12, 3) := by decide +kernel
theorem dX8_readsPosts_223 : decode cX8_readsPosts 223 = .ok (.aload_n 0, 1) := by decide +kernel
theorem dX8_readsPosts_224 : decode cX8_readsPosts 224 = .ok (.getfield 19, 3) := by decide +kernel
theorem dX8_readsPosts_227 : decode cX8_readsPosts 227 = .ok (.iload_n 2, 1) := by decide +kernel
theorem dX8_readsPosts_228 : decode cX8_readsPosts 228 = .ok (.iload_n 3, 1) := by decide +kernel
theorem dX8_readsPosts_229 : decode cX8_readsPosts 229 = .ok (.iastore, 1) := by decide +kernel
theorem dX8_readsPosts_230 : decode cX8_readsPosts 230 = .ok (.iconst (-1), 1) := by decide +kernel
theorem dX8_readsPosts_231 : decode cX8_readsPosts 231 = .ok (.ireturn, 1) := by decide +kernel
theorem dX8_readsPosts_232 : decode cX8_readsPosts 232 = .ok (.aload_n 0, 1) := by decide +kernel
theorem dX8_readsPosts_233 : decode cX8_readsPosts 233 = .ok (.iload_n 1, 1) := by decide +kernel
theorem dX8_readsPosts_234 : decode cX8_readsPosts 234 = .ok (.iload 4, 2) := by decide +kernel
theorem dX8_readsPosts_236 : decode cX8_readsPosts 236 = .ok (.invokevirtual 74, 3) := by decide +kernel
theorem dX8_readsPosts_239 : decode cX8_readsPosts 239 = .ok (.bipush 59, 2) := by decide +kernel
theorem dX8_readsPosts_241 : decode cX8_readsPosts 241 = .ok (.if_icmp .eq 6, 3) := by decide +kernel
theorem dX8_readsPosts_244 : decode cX8_readsPosts 244 = .ok (.iload 4, 2) := by decide +kernel
theorem dX8_readsPosts_246 : decode cX8_readsPosts 246 = .ok (.ireturn, 1) := by decide +kernel
theorem dX8_readsPosts_247 : decode cX8_readsPosts 247 = .ok (.iinc 4 1, 3) := by decide +kernel
theorem dX8_readsPosts_250 : decode cX8_readsPosts 250 = .ok (.goto (-234), 3) := by decide +kernel
theorem dX8_readsPosts_253 : decode cX8_readsPosts 253 = .ok (.iconst (-1), 1) := by decide +kernel
theorem dX8_readsPosts_254 : decode cX8_readsPosts 254 = .ok (.ireturn, 1) := by decide +kernel
theorem dX8_faultOf_0 : decode cX8_faultOf 0 = .ok (.aload_n 0, 1) := by decide +kernel
theorem dX8_faultOf_1 : decode cX8_faultOf 1 = .ok (.invokevirtual 92, 3) := by decide +kernel
theorem dX8_faultOf_4 : decode cX8_faultOf 4 = .ok (.istore_n 2, 1) := by decide +kernel
theorem dX8_faultOf_5 : decode cX8_faultOf 5 = .ok (.aload_n 0, 1) := by decide +kernel
theorem dX8_faultOf_6 : decode cX8_faultOf 6 = .ok (.iconst 1, 1) := by decide +kernel
theorem dX8_faultOf_7 : decode cX8_faultOf 7 = .ok (.invokevirtual 96, 3) := by decide +kernel
theorem dX8_faultOf_10 : decode cX8_faultOf 10 = .ok (.istore_n 3, 1) := by decide +kernel
theorem dX8_faultOf_11 : decode cX8_faultOf 11 = .ok (.aload_n 0, 1) := by decide +kernel
theorem dX8_faultOf_12 : decode cX8_faultOf 12 = .ok (.iconst 2, 1) := by decide +kernel
theorem dX8_faultOf_13 : decode cX8_faultOf 13 = .ok (.invokevirtual 96, 3) := by decide +kernel
theorem dX8_faultOf_16 : decode cX8_faultOf 16 = .ok (.istore 4, 2) := by decide +kernel
theorem dX8_faultOf_18 : decode cX8_faultOf 18 = .ok (.iload_n 1, 1) := by decide +kernel
theorem dX8_faultOf_19 : decode cX8_faultOf 19 = .ok (.ifCond .ne 7, 3) := by decide +kernel
theorem dX8_faultOf_22 : decode cX8_faultOf 22 = .ok (.iload_n 2, 1) := by decide +kernel
theorem dX8_faultOf_23 : decode cX8_faultOf 23 = .ok (.goto 14, 3) := by decide +kernel
theorem dX8_faultOf_26 : decode cX8_faultOf 26 = .ok (.iload_n 1, 1) := by decide +kernel
theorem dX8_faultOf_27 : decode cX8_faultOf 27 = .ok (.iconst 1, 1) := by decide +kernel
theorem dX8_faultOf_28 : decode cX8_faultOf 28 = .ok (.if_icmp .ne 7, 3) := by decide +kernel
theorem dX8_faultOf_31 : decode cX8_faultOf 31 = .ok (.iload_n 3, 1) := by decide +kernel
theorem dX8_faultOf_32 : decode cX8_faultOf 32 = .ok (.goto 5, 3) := by decide +kernel
theorem dX8_faultOf_35 : decode cX8_faultOf 35 = .ok (.iload 4, 2) := by decide +kernel
theorem dX8_faultOf_37 : decode cX8_faultOf 37 = .ok (.ireturn, 1) := by decide +kernel
theorem dX8_reads_0 : decode cX8_reads 0 = .ok (.aload_n 0, 1) := by decide +kernel
theorem dX8_reads_1 : decode cX8_reads 1 = .ok (.iconst 0, 1) := by decide +kernel
theorem dX8_reads_2 : decode cX8_reads 2 = .ok (.invokevirtual 99, 3) := by decide +kernel
theorem dX8_reads_5 : decode cX8_reads 5 = .ok (.istore_n 1, 1) := by decide +kernel
theorem dX8_reads_6 : decode cX8_reads 6 = .ok (.return_, 1) := by decide +kernel
theorem dX8_fault_0 : decode cX8_fault 0 = .ok (.iload_n 1, 1) := by decide +kernel
theorem dX8_fault_1 : decode cX8_fault 1 = .ok (.invokestatic 70, 3) := by decide +kernel
theorem dX8_fault_4 : decode cX8_fault 4 = .ok (.ifCond .eq 11, 3) := by decide +kernel
theorem dX8_fault_7 : decode cX8_fault 7 = .ok (.aload_n 0, 1) := by decide +kernel
theorem dX8_fault_8 : decode cX8_fault 8 = .ok (.iload_n 1, 1) := by decide +kernel
theorem dX8_fault_9 : decode cX8_fault 9 = .ok (.invokevirtual 99, 3) := by decide +kernel
theorem dX8_fault_12 : decode cX8_fault 12 = .ok (.goto 5, 3) := by decide +kernel
theorem dX8_fault_15 : decode cX8_fault 15 = .ok (.bipush (-2), 2) := by decide +kernel
theorem dX8_fault_17 : decode cX8_fault 17 = .ok (.ireturn, 1) := by decide +kernel
theorem dX8_isMatter_0 : decode cX8_isMatter 0 = .ok (.aload_n 0, 1) := by decide +kernel
theorem dX8_isMatter_1 : decode cX8_isMatter 1 = .ok (.invokevirtual 102, 3) := by decide +kernel
theorem dX8_isMatter_4 : decode cX8_isMatter 4 = .ok (.iload_n 1, 1) := by decide +kernel
theorem dX8_isMatter_5 : decode cX8_isMatter 5 = .ok (.iconst 0, 1) := by decide +kernel
theorem dX8_isMatter_6 : decode cX8_isMatter 6 = .ok (.aload_n 0, 1) := by decide +kernel
theorem dX8_isMatter_7 : decode cX8_isMatter 7 = .ok (.getfield 86, 3) := by decide +kernel
theorem dX8_isMatter_10 : decode cX8_isMatter 10 = .ok (.iconst 1, 1) := by decide +kernel
theorem dX8_isMatter_11 : decode cX8_isMatter 11 = .ok (.isub, 1) := by decide +kernel
theorem dX8_isMatter_12 : decode cX8_isMatter 12 = .ok (.invokestatic 66, 3) := by decide +kernel
theorem dX8_isMatter_15 : decode cX8_isMatter 15 = .ok (.ireturn, 1) := by decide +kernel
theorem dX8_matter_0 : decode cX8_matter 0 = .ok (.aload_n 0, 1) := by decide +kernel
theorem dX8_matter_1 : decode cX8_matter 1 = .ok (.iload_n 1, 1) := by decide +kernel
theorem dX8_matter_2 : decode cX8_matter 2 = .ok (.invokevirtual 105, 3) := by decide +kernel
theorem dX8_matter_5 : decode cX8_matter 5 = .ok (.ifCond .eq 26, 3) := by decide +kernel
theorem dX8_matter_8 : decode cX8_matter 8 = .ok (.iload_n 2, 1) := by decide +kernel
theorem dX8_matter_9 : decode cX8_matter 9 = .ok (.iconst 0, 1) := by decide +kernel
theorem dX8_matter_10 : decode cX8_matter 10 = .ok (.iconst 5, 1) := by decide +kernel
theorem dX8_matter_11 : decode cX8_matter 11 = .ok (.invokestatic 66, 3) := by decide +kernel
theorem dX8_matter_14 : decode cX8_matter 14 = .ok (.ifCond .eq 17, 3) := by decide +kernel
theorem dX8_matter_17 : decode cX8_matter 17 = .ok (.aload_n 0, 1) := by decide +kernel
theorem dX8_matter_18 : decode cX8_matter 18 = .ok (.getfield 16, 3) := by decide +kernel
theorem dX8_matter_21 : decode cX8_matter 21 = .ok (.bipush 6, 2) := by decide +kernel
theorem dX8_matter_23 : decode cX8_matter 23 = .ok (.iload_n 1, 1) := by decide +kernel
theorem dX8_matter_24 : decode cX8_matter 24 = .ok (.imul, 1) := by decide +kernel
theorem dX8_matter_25 : decode cX8_matter 25 = .ok (.iload_n 2, 1) := by decide +kernel
theorem dX8_matter_26 : decode cX8_matter 26 = .ok (.iadd, 1) := by decide +kernel
theorem dX8_matter_27 : decode cX8_matter 27 = .ok (.iaload, 1) := by decide +kernel
theorem dX8_matter_28 : decode cX8_matter 28 = .ok (.goto 5, 3) := by decide +kernel
theorem dX8_matter_31 : decode cX8_matter 31 = .ok (.bipush (-2), 2) := by decide +kernel
theorem dX8_matter_33 : decode cX8_matter 33 = .ok (.ireturn, 1) := by decide +kernel
theorem dX8_set_0 : decode cX8_set 0 = .ok (.iload_n 1, 1) := by decide +kernel
theorem dX8_set_1 : decode cX8_set 1 = .ok (.ifCond .ne 8, 3) := by decide +kernel
theorem dX8_set_4 : decode cX8_set 4 = .ok (.bipush 20, 2) := by decide +kernel
theorem dX8_set_6 : decode cX8_set 6 = .ok (.goto 26, 3) := by decide +kernel
theorem dX8_set_9 : decode cX8_set 9 = .ok (.iload_n 1, 1) := by decide +kernel
theorem dX8_set_10 : decode cX8_set 10 = .ok (.iconst 1, 1) := by decide +kernel
theorem dX8_set_11 : decode cX8_set 11 = .ok (.if_icmp .ne 8, 3) := by decide +kernel
theorem dX8_set_14 : decode cX8_set 14 = .ok (.bipush 9, 2) := by decide +kernel
theorem dX8_set_16 : decode cX8_set 16 = .ok (.goto 16, 3) := by decide +kernel
theorem dX8_set_19 : decode cX8_set 19 = .ok (.iload_n 1, 1) := by decide +kernel
theorem dX8_set_20 : decode cX8_set 20 = .ok (.iconst 2, 1) := by decide +kernel
theorem dX8_set_21 : decode cX8_set 21 = .ok (.if_icmp .ne 8, 3) := by decide +kernel
theorem dX8_set_24 : decode cX8_set 24 = .ok (.bipush 99, 2) := by decide +kernel
theorem dX8_set_26 : decode cX8_set 26 = .ok (.goto 6, 3) := by decide +kernel
theorem dX8_set_29 : decode cX8_set 29 = .ok (.sipush 1023, 3) := by decide +kernel
theorem dX8_set_32 : decode cX8_set 32 = .ok (.istore_n 3, 1) := by decide +kernel
theorem dX8_set_33 : decode cX8_set 33 = .ok (.iload_n 1, 1) := by decide +kernel
theorem dX8_set_34 : decode cX8_set 34 = .ok (.iconst 0, 1) := by decide +kernel
theorem dX8_set_35 : decode cX8_set 35 = .ok (.iconst 3, 1) := by decide +kernel
theorem dX8_set_36 : decode cX8_set 36 = .ok (.invokestatic 66, 3) := by decide +kernel
theorem dX8_set_39 : decode cX8_set 39 = .ok (.ifCond .eq 20, 3) := by decide +kernel
theorem dX8_set_42 : decode cX8_set 42 = .ok (.iload_n 2, 1) := by decide +kernel
theorem dX8_set_43 : decode cX8_set 43 = .ok (.iload_n 1, 1) := by decide +kernel
theorem dX8_set_44 : decode cX8_set 44 = .ok (.ifCond .ne 7, 3) := by decide +kernel
theorem dX8_set_47 : decode cX8_set 47 = .ok (.iconst 1, 1) := by decide +kernel
theorem dX8_set_48 : decode cX8_set 48 = .ok (.goto 4, 3) := by decide +kernel
theorem dX8_set_51 : decode cX8_set 51 = .ok (.iconst 0, 1) := by decide +kernel
theorem dX8_set_52 : decode cX8_set 52 = .ok (.iload_n 3, 1) := by decide +kernel
theorem dX8_set_53 : decode cX8_set 53 = .ok (.invokestatic 66, 3) := by decide +kernel
theorem dX8_set_56 : decode cX8_set 56 = .ok (.ifCond .ne 6, 3) := by decide +kernel
theorem dX8_set_59 : decode cX8_set 59 = .ok (.bipush (-2), 2) := by decide +kernel
theorem dX8_set_61 : decode cX8_set 61 = .ok (.ireturn, 1) := by decide +kernel
theorem dX8_set_62 : decode cX8_set 62 = .ok (.iload_n 1, 1) := by decide +kernel
theorem dX8_set_63 : decode cX8_set 63 = .ok (.ifCond .ne 10, 3) := by decide +kernel
theorem dX8_set_66 : decode cX8_set 66 = .ok (.aload_n 0, 1) := by decide +kernel
theorem dX8_set_67 : decode cX8_set 67 = .ok (.getfield 59, 3) := by decide +kernel
theorem dX8_set_70 : decode cX8_set 70 = .ok (.goto 31, 3) := by decide +kernel
theorem dX8_set_73 : decode cX8_set 73 = .ok (.iload_n 1, 1) := by decide +kernel
theorem dX8_set_74 : decode cX8_set 74 = .ok (.iconst 1, 1) := by decide +kernel
theorem dX8_set_75 : decode cX8_set 75 = .ok (.if_icmp .ne 10, 3) := by decide +kernel
theorem dX8_set_78 : decode cX8_set 78 = .ok (.aload_n 0, 1) := by decide +kernel
theorem dX8_set_79 : decode cX8_set 79 = .ok (.getfield 108, 3) := by decide +kernel
theorem dX8_set_82 : decode cX8_set 82 = .ok (.goto 19, 3) := by decide +kernel
theorem dX8_set_85 : decode cX8_set 85 = .ok (.iload_n 1, 1) := by decide +kernel
theorem dX8_set_86 : decode cX8_set 86 = .ok (.iconst 2, 1) := by decide +kernel
theorem dX8_set_87 : decode cX8_set 87 = .ok (.if_icmp .ne 10, 3) := by decide +kernel
theorem dX8_set_90 : decode cX8_set 90 = .ok (.aload_n 0, 1) := by decide +kernel
theorem dX8_set_91 : decode cX8_set 91 = .ok (.getfield 63, 3) := by decide +kernel
theorem dX8_set_94 : decode cX8_set 94 = .ok (.goto 7, 3) := by decide +kernel
theorem dX8_set_97 : decode cX8_set 97 = .ok (.aload_n 0, 1) := by decide +kernel
theorem dX8_set_98 : decode cX8_set 98 = .ok (.getfield 111, 3) := by decide +kernel
theorem dX8_set_101 : decode cX8_set 101 = .ok (.istore 4, 2) := by decide +kernel
theorem dX8_set_103 : decode cX8_set 103 = .ok (.aload_n 0, 1) := by decide +kernel
theorem dX8_set_104 : decode cX8_set 104 = .ok (.iload_n 1, 1) := by decide +kernel
theorem dX8_set_105 : decode cX8_set 105 = .ok (.ifCond .ne 7, 3) := by decide +kernel
theorem dX8_set_108 : decode cX8_set 108 = .ok (.iload_n 2, 1) := by decide +kernel
theorem dX8_set_109 : decode cX8_set 109 = .ok (.goto 7, 3) := by decide +kernel
theorem dX8_set_112 : decode cX8_set 112 = .ok (.aload_n 0, 1) := by decide +kernel
theorem dX8_set_113 : decode cX8_set 113 = .ok (.getfield 59, 3) := by decide +kernel
theorem dX8_set_116 : decode cX8_set 116 = .ok (.putfield 59, 3) := by decide +kernel
theorem dX8_set_119 : decode cX8_set 119 = .ok (.aload_n 0, 1) := by decide +kernel
theorem dX8_set_120 : decode cX8_set 120 = .ok (.iload_n 1, 1) := by decide +kernel
theorem dX8_set_121 : decode cX8_set 121 = .ok (.iconst 1, 1) := by decide +kernel
theorem dX8_set_122 : decode cX8_set 122 = .ok (.if_icmp .ne 7, 3) := by decide +kernel
theorem dX8_set_125 : decode cX8_set 125 = .ok (.iload_n 2, 1) := by decide +kernel
theorem dX8_set_126 : decode cX8_set 126 = .ok (.goto 7, 3) := by decide +kernel
theorem dX8_set_129 : decode cX8_set 129 = .ok (.aload_n 0, 1) := by decide +kernel
theorem dX8_set_130 : decode cX8_set 130 = .ok (.getfield 108, 3) := by decide +kernel
theorem dX8_set_133 : decode cX8_set 133 = .ok (.putfield 108, 3) := by decide +kernel
theorem dX8_set_136 : decode cX8_set 136 = .ok (.aload_n 0, 1) := by decide +kernel
theorem dX8_set_137 : decode cX8_set 137 = .ok (.iload_n 1, 1) := by decide +kernel
theorem dX8_set_138 : decode cX8_set 138 = .ok (.iconst 2, 1) := by decide +kernel
theorem dX8_set_139 : decode cX8_set 139 = .ok (.if_icmp .ne 7, 3) := by decide +kernel
theorem dX8_set_142 : decode cX8_set 142 = .ok (.iload_n 2, 1) := by decide +kernel
theorem dX8_set_143 : decode cX8_set 143 = .ok (.goto 7, 3) := by decide +kernel
theorem dX8_set_146 : decode cX8_set 146 = .ok (.aload_n 0, 1) := by decide +kernel
theorem dX8_set_147 : decode cX8_set 147 = .ok (.getfield 63, 3) := by decide +kernel
theorem dX8_set_150 : decode cX8_set 150 = .ok (.putfield 63, 3) := by decide +kernel
theorem dX8_set_153 : decode cX8_set 153 = .ok (.aload_n 0, 1) := by decide +kernel
theorem dX8_set_154 : decode cX8_set 154 = .ok (.iload_n 1, 1) := by decide +kernel
theorem dX8_set_155 : decode cX8_set 155 = .ok (.iconst 3, 1) := by decide +kernel
theorem dX8_set_156 : decode cX8_set 156 = .ok (.if_icmp .ne 7, 3) := by decide +kernel
theorem dX8_set_159 : decode cX8_set 159 = .ok (.iload_n 2, 1) := by decide +kernel
theorem dX8_set_160 : decode cX8_set 160 = .ok (.goto 7, 3) := by decide +kernel
theorem dX8_set_163 : decode cX8_set 163 = .ok (.aload_n 0, 1) := by decide +kernel
theorem dX8_set_164 : decode cX8_set 164 = .ok (.getfield 111, 3) := by decide +kernel
theorem dX8_set_167 : decode cX8_set 167 = .ok (.putfield 111, 3) := by decide +kernel
theorem dX8_set_170 : decode cX8_set 170 = .ok (.iload 4, 2) := by decide +kernel
theorem dX8_set_172 : decode cX8_set 172 = .ok (.ireturn, 1) := by decide +kernel
theorem dX8_worth_0 : decode cX8_worth 0 = .ok (.iload_n 1, 1) := by decide +kernel
theorem dX8_worth_1 : decode cX8_worth 1 = .ok (.invokestatic 114, 3) := by decide +kernel
theorem dX8_worth_4 : decode cX8_worth 4 = .ok (.ifCond .eq 14, 3) := by decide +kernel
theorem dX8_worth_7 : decode cX8_worth 7 = .ok (.iload_n 2, 1) := by decide +kernel
theorem dX8_worth_8 : decode cX8_worth 8 = .ok (.bipush (-9), 2) := by decide +kernel
theorem dX8_worth_10 : decode cX8_worth 10 = .ok (.bipush 9, 2) := by decide +kernel
theorem dX8_worth_12 : decode cX8_worth 12 = .ok (.invokestatic 66, 3) := by decide +kernel
theorem dX8_worth_15 : decode cX8_worth 15 = .ok (.ifCond .ne 7, 3) := by decide +kernel
theorem dX8_worth_18 : decode cX8_worth 18 = .ok (.sipush (-1002), 3) := by decide +kernel
theorem dX8_worth_21 : decode cX8_worth 21 = .ok (.ireturn, 1) := by decide +kernel
theorem dX8_worth_22 : decode cX8_worth 22 = .ok (.aload_n 0, 1) := by decide +kernel
theorem dX8_worth_23 : decode cX8_worth 23 = .ok (.getfield 25, 3) := by decide +kernel
theorem dX8_worth_26 : decode cX8_worth 26 = .ok (.iload_n 1, 1) := by decide +kernel
theorem dX8_worth_27 : decode cX8_worth 27 = .ok (.iaload, 1) := by decide +kernel
theorem dX8_worth_28 : decode cX8_worth 28 = .ok (.istore_n 3, 1) := by decide +kernel
theorem dX8_worth_29 : decode cX8_worth 29 = .ok (.aload_n 0, 1) := by decide +kernel
theorem dX8_worth_30 : decode cX8_worth 30 = .ok (.getfield 25, 3) := by decide +kernel
theorem dX8_worth_33 : decode cX8_worth 33 = .ok (.iload_n 1, 1) := by decide +kernel
theorem dX8_worth_34 : decode cX8_worth 34 = .ok (.iload_n 2, 1) := by decide +kernel
theorem dX8_worth_35 : decode cX8_worth 35 = .ok (.iastore, 1) := by decide +kernel
theorem dX8_worth_36 : decode cX8_worth 36 = .ok (.iload_n 3, 1) := by decide +kernel
theorem dX8_worth_37 : decode cX8_worth 37 = .ok (.ireturn, 1) := by decide +kernel
theorem dX8_read_0 : decode cX8_read 0 = .ok (.iload_n 1, 1) := by decide +kernel
theorem dX8_read_1 : decode cX8_read 1 = .ok (.invokestatic 117, 3) := by decide +kernel
theorem dX8_read_4 : decode cX8_read 4 = .ok (.ifCond .ne 6, 3) := by decide +kernel
theorem dX8_read_7 : decode cX8_read 7 = .ok (.bipush (-2), 2) := by decide +kernel
theorem dX8_read_9 : decode cX8_read 9 = .ok (.ireturn, 1) := by decide +kernel
theorem dX8_read_10 : decode cX8_read 10 = .ok (.aload_n 0, 1) := by decide +kernel
theorem dX8_read_11 : decode cX8_read 11 = .ok (.getfield 43, 3) := by decide +kernel
theorem dX8_read_14 : decode cX8_read 14 = .ok (.iload_n 1, 1) := by decide +kernel
theorem dX8_read_15 : decode cX8_read 15 = .ok (.baload, 1) := by decide +kernel
theorem dX8_read_16 : decode cX8_read 16 = .ok (.ifCond .ne 9, 3) := by decide +kernel
theorem dX8_read_19 : decode cX8_read 19 = .ok (.aload_n 0, 1) := by decide +kernel
theorem dX8_read_20 : decode cX8_read 20 = .ok (.iconst 1, 1) := by decide +kernel
theorem dX8_read_21 : decode cX8_read 21 = .ok (.invokevirtual 120, 3) := by decide +kernel
theorem dX8_read_24 : decode cX8_read 24 = .ok (.ireturn, 1) := by decide +kernel
theorem dX8_read_25 : decode cX8_read 25 = .ok (.iconst 0, 1) := by decide +kernel
theorem dX8_read_26 : decode cX8_read 26 = .ok (.istore_n 2, 1) := by decide +kernel
theorem dX8_read_27 : decode cX8_read 27 = .ok (.iconst 2, 1) := by decide +kernel
theorem dX8_read_28 : decode cX8_read 28 = .ok (.iload_n 2, 1) := by decide +kernel
theorem dX8_read_29 : decode cX8_read 29 = .ok (.imul, 1) := by decide +kernel
theorem dX8_read_30 : decode cX8_read 30 = .ok (.iconst 1, 1) := by decide +kernel
theorem dX8_read_31 : decode cX8_read 31 = .ok (.iadd, 1) := by decide +kernel
theorem dX8_read_32 : decode cX8_read 32 = .ok (.aload_n 0, 1) := by decide +kernel
theorem dX8_read_33 : decode cX8_read 33 = .ok (.getfield 50, 3) := by decide +kernel
theorem dX8_read_36 : decode cX8_read 36 = .ok (.iload_n 1, 1) := by decide +kernel
theorem dX8_read_37 : decode cX8_read 37 = .ok (.iaload, 1) := by decide +kernel
theorem dX8_read_38 : decode cX8_read 38 = .ok (.if_icmp .ge 44, 3) := by decide +kernel
theorem dX8_read_41 : decode cX8_read 41 = .ok (.aload_n 0, 1) := by decide +kernel
theorem dX8_read_42 : decode cX8_read 42 = .ok (.aload_n 0, 1) := by decide +kernel
theorem dX8_read_43 : decode cX8_read 43 = .ok (.getfield 53, 3) := by decide +kernel
theorem dX8_read_46 : decode cX8_read 46 = .ok (.bipush 48, 2) := by decide +kernel
theorem dX8_read_48 : decode cX8_read 48 = .ok (.iload_n 1, 1) := by decide +kernel
theorem dX8_read_49 : decode cX8_read 49 = .ok (.imul, 1) := by decide +kernel
theorem dX8_read_50 : decode cX8_read 50 = .ok (.iconst 2, 1) := by decide +kernel
theorem dX8_read_51 : decode cX8_read 51 = .ok (.iload_n 2, 1) := by decide +kernel
theorem dX8_read_52 : decode cX8_read 52 = .ok (.imul, 1) := by decide +kernel
theorem dX8_read_53 : decode cX8_read 53 = .ok (.iadd, 1) := by decide +kernel
theorem dX8_read_54 : decode cX8_read 54 = .ok (.iaload, 1) := by decide +kernel
theorem dX8_read_55 : decode cX8_read 55 = .ok (.aload_n 0, 1) := by decide +kernel
theorem dX8_read_56 : decode cX8_read 56 = .ok (.getfield 53, 3) := by decide +kernel
theorem dX8_read_59 : decode cX8_read 59 = .ok (.bipush 48, 2) := by decide +kernel
theorem dX8_read_61 : decode cX8_read 61 = .ok (.iload_n 1, 1) := by decide +kernel
theorem dX8_read_62 : decode cX8_read 62 = .ok (.imul, 1) := by decide +kernel
theorem dX8_read_63 : decode cX8_read 63 = .ok (.iconst 2, 1) := by decide +kernel
theorem dX8_read_64 : decode cX8_read 64 = .ok (.iload_n 2, 1) := by decide +kernel
theorem dX8_read_65 : decode cX8_read 65 = .ok (.imul, 1) := by decide +kernel
theorem dX8_read_66 : decode cX8_read 66 = .ok (.iadd, 1) := by decide +kernel
theorem dX8_read_67 : decode cX8_read 67 = .ok (.iconst 1, 1) := by decide +kernel
theorem dX8_read_68 : decode cX8_read 68 = .ok (.iadd, 1) := by decide +kernel
theorem dX8_read_69 : decode cX8_read 69 = .ok (.iaload, 1) := by decide +kernel
theorem dX8_read_70 : decode cX8_read 70 = .ok (.invokevirtual 123, 3) := by decide +kernel
theorem dX8_read_73 : decode cX8_read 73 = .ok (.ifCond .le 9, 3) := by decide +kernel
theorem dX8_read_76 : decode cX8_read 76 = .ok (.iinc 2 1, 3) := by decide +kernel
theorem dX8_read_79 : decode cX8_read 79 = .ok (.goto (-52), 3) := by decide +kernel
theorem dX8_read_82 : decode cX8_read 82 = .ok (.iload_n 2, 1) := by decide +kernel
theorem dX8_read_83 : decode cX8_read 83 = .ok (.ireturn, 1) := by decide +kernel
theorem dX8_isKnown_0 : decode cX8_isKnown 0 = .ok (.aload_n 0, 1) := by decide +kernel
theorem dX8_isKnown_1 : decode cX8_isKnown 1 = .ok (.getfield 16, 3) := by decide +kernel
theorem dX8_isKnown_4 : decode cX8_isKnown 4 = .ok (.bipush 6, 2) := by decide +kernel
theorem dX8_isKnown_6 : decode cX8_isKnown 6 = .ok (.iload_n 1, 1) := by decide +kernel
theorem dX8_isKnown_7 : decode cX8_isKnown 7 = .ok (.imul, 1) := by decide +kernel
theorem dX8_isKnown_8 : decode cX8_isKnown 8 = .ok (.iconst 2, 1) := by decide +kernel
theorem dX8_isKnown_9 : decode cX8_isKnown 9 = .ok (.iadd, 1) := by decide +kernel
theorem dX8_isKnown_10 : decode cX8_isKnown 10 = .ok (.iaload, 1) := by decide +kernel
theorem dX8_isKnown_11 : decode cX8_isKnown 11 = .ok (.aload_n 0, 1) := by decide +kernel
theorem dX8_isKnown_12 : decode cX8_isKnown 12 = .ok (.getfield 59, 3) := by decide +kernel
theorem dX8_isKnown_15 : decode cX8_isKnown 15 = .ok (.isub, 1) := by decide +kernel
theorem dX8_isKnown_16 : decode cX8_isKnown 16 = .ok (.aload_n 0, 1) := by decide +kernel
theorem dX8_isKnown_17 : decode cX8_isKnown 17 = .ok (.getfield 16, 3) := by decide +kernel
theorem dX8_isKnown_20 : decode cX8_isKnown 20 = .ok (.bipush 6, 2) := by decide +kernel
theorem dX8_isKnown_22 : decode cX8_isKnown 22 = .ok (.iload_n 2, 1) := by decide +kernel
theorem dX8_isKnown_23 : decode cX8_isKnown 23 = .ok (.imul, 1) := by decide +kernel
theorem dX8_isKnown_24 : decode cX8_isKnown 24 = .ok (.iconst 2, 1) := by decide +kernel
theorem dX8_isKnown_25 : decode cX8_isKnown 25 = .ok (.iadd, 1) := by decide +kernel
theorem dX8_isKnown_26 : decode cX8_isKnown 26 = .ok (.iaload, 1) := by decide +kernel
theorem dX8_isKnown_27 : decode cX8_isKnown 27 = .ok (.if_icmp .gt 7, 3) := by decide +kernel
theorem dX8_isKnown_30 : decode cX8_isKnown 30 = .ok (.iconst 1, 1) := by decide +kernel
theorem dX8_isKnown_31 : decode cX8_isKnown 31 = .ok (.goto 4, 3) := by decide +kernel
theorem dX8_isKnown_34 : decode cX8_isKnown 34 = .ok (.iconst 0, 1) := by decide +kernel
theorem dX8_isKnown_35 : decode cX8_isKnown 35 = .ok (.ireturn, 1) := by decide +kernel
theorem dX8_isWritten_0 : decode cX8_isWritten 0 = .ok (.aload_n 0, 1) := by decide +kernel
theorem dX8_isWritten_1 : decode cX8_isWritten 1 = .ok (.getfield 16, 3) := by decide +kernel
theorem dX8_isWritten_4 : decode cX8_isWritten 4 = .ok (.bipush 6, 2) := by decide +kernel
theorem dX8_isWritten_6 : decode cX8_isWritten 6 = .ok (.iload_n 1, 1) := by decide +kernel
theorem dX8_isWritten_7 : decode cX8_isWritten 7 = .ok (.imul, 1) := by decide +kernel
theorem dX8_isWritten_8 : decode cX8_isWritten 8 = .ok (.iconst 4, 1) := by decide +kernel
theorem dX8_isWritten_9 : decode cX8_isWritten 9 = .ok (.iadd, 1) := by decide +kernel
theorem dX8_isWritten_10 : decode cX8_isWritten 10 = .ok (.iaload, 1) := by decide +kernel
theorem dX8_isWritten_11 : decode cX8_isWritten 11 = .ok (.istore_n 3, 1) := by decide +kernel
theorem dX8_isWritten_12 : decode cX8_isWritten 12 = .ok (.aload_n 0, 1) := by decide +kernel
theorem dX8_isWritten_13 : decode cX8_isWritten 13 = .ok (.getfield 16, 3) := by decide +kernel
theorem dX8_isWritten_16 : decode cX8_isWritten 16 = .ok (.bipush 6, 2) := by decide +kernel
theorem dX8_isWritten_18 : decode cX8_isWritten 18 = .ok (.iload_n 1, 1) := by decide +kernel
theorem dX8_isWritten_19 : decode cX8_isWritten 19 = .ok (.imul, 1) := by decide +kernel
theorem dX8_isWritten_20 : decode cX8_isWritten 20 = .ok (.iconst 5, 1) := by decide +kernel
theorem dX8_isWritten_21 : decode cX8_isWritten 21 = .ok (.iadd, 1) := by decide +kernel
theorem dX8_isWritten_22 : decode cX8_isWritten 22 = .ok (.iaload, 1) := by decide +kernel
theorem dX8_isWritten_23 : decode cX8_isWritten 23 = .ok (.istore 4, 2) := by decide +kernel
theorem dX8_isWritten_25 : decode cX8_isWritten 25 = .ok (.iload_n 3, 1) := by decide +kernel
theorem dX8_isWritten_26 : decode cX8_isWritten 26 = .ok (.iconst 2, 1) := by decide +kernel
theorem dX8_isWritten_27 : decode cX8_isWritten 27 = .ok (.if_icmp .ge 13, 3) := by decide +kernel
theorem dX8_isWritten_30 : decode cX8_isWritten 30 = .ok (.iload_n 3, 1) := by decide +kernel
theorem dX8_isWritten_31 : decode cX8_isWritten 31 = .ok (.ifCond .ne 7, 3) := by decide +kernel
theorem dX8_isWritten_34 : decode cX8_isWritten 34 = .ok (.iconst 1, 1) := by decide +kernel
theorem dX8_isWritten_35 : decode cX8_isWritten 35 = .ok (.goto 4, 3) := by decide +kernel
theorem dX8_isWritten_38 : decode cX8_isWritten 38 = .ok (.iconst 0, 1) := by decide +kernel
theorem dX8_isWritten_39 : decode cX8_isWritten 39 = .ok (.ireturn, 1) := by decide +kernel
theorem dX8_isWritten_40 : decode cX8_isWritten 40 = .ok (.iload 4, 2) := by decide +kernel
theorem dX8_isWritten_42 : decode cX8_isWritten 42 = .ok (.aload_n 0, 1) := by decide +kernel
theorem dX8_isWritten_43 : decode cX8_isWritten 43 = .ok (.getfield 86, 3) := by decide +kernel
theorem dX8_isWritten_46 : decode cX8_isWritten 46 = .ok (.if_icmp .ge 26, 3) := by decide +kernel
theorem dX8_isWritten_49 : decode cX8_isWritten 49 = .ok (.iload_n 2, 1) := by decide +kernel
theorem dX8_isWritten_50 : decode cX8_isWritten 50 = .ok (.iload 4, 2) := by decide +kernel
theorem dX8_isWritten_52 : decode cX8_isWritten 52 = .ok (.invokestatic 126, 3) := by decide +kernel
theorem dX8_isWritten_55 : decode cX8_isWritten 55 = .ok (.ifCond .eq 17, 3) := by decide +kernel
theorem dX8_isWritten_58 : decode cX8_isWritten 58 = .ok (.aload_n 0, 1) := by decide +kernel
theorem dX8_isWritten_59 : decode cX8_isWritten 59 = .ok (.iload 4, 2) := by decide +kernel
theorem dX8_isWritten_61 : decode cX8_isWritten 61 = .ok (.iload_n 1, 1) := by decide +kernel
theorem dX8_isWritten_62 : decode cX8_isWritten 62 = .ok (.invokevirtual 130, 3) := by decide +kernel
theorem dX8_isWritten_65 : decode cX8_isWritten 65 = .ok (.ifCond .eq 7, 3) := by decide +kernel
theorem dX8_isWritten_68 : decode cX8_isWritten 68 = .ok (.iconst 1, 1) := by decide +kernel
theorem dX8_isWritten_69 : decode cX8_isWritten 69 = .ok (.goto 4, 3) := by decide +kernel
theorem dX8_isWritten_72 : decode cX8_isWritten 72 = .ok (.iconst 0, 1) := by decide +kernel
theorem dX8_isWritten_73 : decode cX8_isWritten 73 = .ok (.istore 5, 2) := by decide +kernel
theorem dX8_isWritten_75 : decode cX8_isWritten 75 = .ok (.iload_n 3, 1) := by decide +kernel
theorem dX8_isWritten_76 : decode cX8_isWritten 76 = .ok (.iconst 4, 1) := by decide +kernel
theorem dX8_isWritten_77 : decode cX8_isWritten 77 = .ok (.if_icmp .ne 16, 3) := by decide +kernel
theorem dX8_isWritten_80 : decode cX8_isWritten 80 = .ok (.iload 5, 2) := by decide +kernel
theorem dX8_isWritten_82 : decode cX8_isWritten 82 = .ok (.ifCond .ne 7, 3) := by decide +kernel
theorem dX8_isWritten_85 : decode cX8_isWritten 85 = .ok (.iconst 1, 1) := by decide +kernel
theorem dX8_isWritten_86 : decode cX8_isWritten 86 = .ok (.goto 42, 3) := by decide +kernel
theorem dX8_isWritten_89 : decode cX8_isWritten 89 = .ok (.iconst 0, 1) := by decide +kernel
theorem dX8_isWritten_90 : decode cX8_isWritten 90 = .ok (.goto 38, 3) := by decide +kernel
theorem dX8_isWritten_93 : decode cX8_isWritten 93 = .ok (.iload 5, 2) := by decide +kernel
theorem dX8_isWritten_95 : decode cX8_isWritten 95 = .ok (.ifCond .eq 32, 3) := by decide +kernel
theorem dX8_isWritten_98 : decode cX8_isWritten 98 = .ok (.aload_n 0, 1) := by decide +kernel
theorem dX8_isWritten_99 : decode cX8_isWritten 99 = .ok (.getfield 16, 3) := by decide +kernel
theorem dX8_isWritten_102 : decode cX8_isWritten 102 = .ok (.bipush 6, 2) := by decide +kernel
theorem dX8_isWritten_104 : decode cX8_isWritten 104 = .ok (.iload 4, 2) := by decide +kernel
theorem dX8_isWritten_106 : decode cX8_isWritten 106 = .ok (.imul, 1) := by decide +kernel
theorem dX8_isWritten_107 : decode cX8_isWritten 107 = .ok (.iconst 3, 1) := by decide +kernel
theorem dX8_isWritten_108 : decode cX8_isWritten 108 = .ok (.iadd, 1) := by decide +kernel
theorem dX8_isWritten_109 : decode cX8_isWritten 109 = .ok (.iaload, 1) := by decide +kernel
theorem dX8_isWritten_110 : decode cX8_isWritten 110 = .ok (.iload_n 3, 1) := by decide +kernel
theorem dX8_isWritten_111 : decode cX8_isWritten 111 = .ok (.iconst 2, 1) := by decide +kernel
theorem dX8_isWritten_112 : decode cX8_isWritten 112 = .ok (.if_icmp .ne 7, 3) := by decide +kernel
theorem dX8_isWritten_115 : decode cX8_isWritten 115 = .ok (.iconst 1, 1) := by decide +kernel
theorem dX8_isWritten_116 : decode cX8_isWritten 116 = .ok (.goto 4, 3) := by decide +kernel
theorem dX8_isWritten_119 : decode cX8_isWritten 119 = .ok (.iconst 0, 1) := by decide +kernel
theorem dX8_isWritten_120 : decode cX8_isWritten 120 = .ok (.if_icmp .ne 7, 3) := by decide +kernel
theorem dX8_isWritten_123 : decode cX8_isWritten 123 = .ok (.iconst 1, 1) := by decide +kernel
theorem dX8_isWritten_124 : decode cX8_isWritten 124 = .ok (.goto 4, 3) := by decide +kernel
theorem dX8_isWritten_127 : decode cX8_isWritten 127 = .ok (.iconst 0, 1) := by decide +kernel
theorem dX8_isWritten_128 : decode cX8_isWritten 128 = .ok (.ireturn, 1) := by decide +kernel
theorem dX8_next_0 : decode cX8_next 0 = .ok (.iconst 0, 1) := by decide +kernel
theorem dX8_next_1 : decode cX8_next 1 = .ok (.istore_n 3, 1) := by decide +kernel
theorem dX8_next_2 : decode cX8_next 2 = .ok (.iconst 0, 1) := by decide +kernel
theorem dX8_next_3 : decode cX8_next 3 = .ok (.istore 4, 2) := by decide +kernel
theorem dX8_next_5 : decode cX8_next 5 = .ok (.iload 4, 2) := by decide +kernel
theorem dX8_next_7 : decode cX8_next 7 = .ok (.aload_n 0, 1) := by decide +kernel
theorem dX8_next_8 : decode cX8_next 8 = .ok (.getfield 86, 3) := by decide +kernel
theorem dX8_next_11 : decode cX8_next 11 = .ok (.if_icmp .ge 52, 3) := by decide +kernel
theorem dX8_next_14 : decode cX8_next 14 = .ok (.iload_n 2, 1) := by decide +kernel
theorem dX8_next_15 : decode cX8_next 15 = .ok (.iload 4, 2) := by decide +kernel
theorem dX8_next_17 : decode cX8_next 17 = .ok (.invokestatic 126, 3) := by decide +kernel
theorem dX8_next_20 : decode cX8_next 20 = .ok (.ifCond .eq 12, 3) := by decide +kernel
theorem dX8_next_23 : decode cX8_next 23 = .ok (.iload_n 1, 1) := by decide +kernel
theorem dX8_next_24 : decode cX8_next 24 = .ok (.iload 4, 2) := by decide +kernel
theorem dX8_next_26 : decode cX8_next 26 = .ok (.invokestatic 126, 3) := by decide +kernel
theorem dX8_next_29 : decode cX8_next 29 = .ok (.goto 10, 3) := by decide +kernel
theorem dX8_next_32 : decode cX8_next 32 = .ok (.aload_n 0, 1) := by decide +kernel
theorem dX8_next_33 : decode cX8_next 33 = .ok (.iload 4, 2) := by decide +kernel
theorem dX8_next_35 : decode cX8_next 35 = .ok (.iload_n 1, 1) := by decide +kernel
theorem dX8_next_36 : decode cX8_next 36 = .ok (.invokevirtual 133, 3) := by decide +kernel
theorem dX8_next_39 : decode cX8_next 39 = .ok (.istore 5, 2) := by decide +kernel
theorem dX8_next_41 : decode cX8_next 41 = .ok (.iload_n 3, 1) := by decide +kernel
theorem dX8_next_42 : decode cX8_next 42 = .ok (.iload 5, 2) := by decide +kernel
theorem dX8_next_44 : decode cX8_next 44 = .ok (.ifCond .eq 10, 3) := by decide +kernel
theorem dX8_next_47 : decode cX8_next 47 = .ok (.iconst 1, 1) := by decide +kernel
theorem dX8_next_48 : decode cX8_next 48 = .ok (.iload 4, 2) := by decide +kernel
theorem dX8_next_50 : decode cX8_next 50 = .ok (.ishl, 1) := by decide +kernel
theorem dX8_next_51 : decode cX8_next 51 = .ok (.goto 4, 3) := by decide +kernel
theorem dX8_next_54 : decode cX8_next 54 = .ok (.iconst 0, 1) := by decide +kernel
theorem dX8_next_55 : decode cX8_next 55 = .ok (.ior, 1) := by decide +kernel
theorem dX8_next_56 : decode cX8_next 56 = .ok (.istore_n 3, 1) := by decide +kernel
theorem dX8_next_57 : decode cX8_next 57 = .ok (.iinc 4 1, 3) := by decide +kernel
theorem dX8_next_60 : decode cX8_next 60 = .ok (.goto (-55), 3) := by decide +kernel
theorem dX8_next_63 : decode cX8_next 63 = .ok (.iload_n 3, 1) := by decide +kernel
theorem dX8_next_64 : decode cX8_next 64 = .ok (.ireturn, 1) := by decide +kernel
theorem dX8_there_0 : decode cX8_there 0 = .ok (.aload_n 0, 1) := by decide +kernel
theorem dX8_there_1 : decode cX8_there 1 = .ok (.invokevirtual 102, 3) := by decide +kernel
theorem dX8_there_4 : decode cX8_there 4 = .ok (.iconst 1, 1) := by decide +kernel
theorem dX8_there_5 : decode cX8_there 5 = .ok (.aload_n 0, 1) := by decide +kernel
theorem dX8_there_6 : decode cX8_there 6 = .ok (.getfield 86, 3) := by decide +kernel
theorem dX8_there_9 : decode cX8_there 9 = .ok (.ishl, 1) := by decide +kernel
theorem dX8_there_10 : decode cX8_there 10 = .ok (.iconst 1, 1) := by decide +kernel
theorem dX8_there_11 : decode cX8_there 11 = .ok (.isub, 1) := by decide +kernel
theorem dX8_there_12 : decode cX8_there 12 = .ok (.ireturn, 1) := by decide +kernel
theorem dX8_brokenBy_0 : decode cX8_brokenBy 0 = .ok (.iload_n 1, 1) := by decide +kernel
theorem dX8_brokenBy_1 : decode cX8_brokenBy 1 = .ok (.aload_n 0, 1) := by decide +kernel
theorem dX8_brokenBy_2 : decode cX8_brokenBy 2 = .ok (.iload_n 1, 1) := by decide +kernel
theorem dX8_brokenBy_3 : decode cX8_brokenBy 3 = .ok (.iload_n 2, 1) := by decide +kernel
theorem dX8_brokenBy_4 : decode cX8_brokenBy 4 = .ok (.invokevirtual 136, 3) := by decide +kernel
theorem dX8_brokenBy_7 : decode cX8_brokenBy 7 = .ok (.ixor, 1) := by decide +kernel
theorem dX8_brokenBy_8 : decode cX8_brokenBy 8 = .ok (.ireturn, 1) := by decide +kernel
theorem dX8_brokenOf_0 : decode cX8_brokenOf 0 = .ok (.aload_n 0, 1) := by decide +kernel
theorem dX8_brokenOf_1 : decode cX8_brokenOf 1 = .ok (.iload_n 1, 1) := by decide +kernel
theorem dX8_brokenOf_2 : decode cX8_brokenOf 2 = .ok (.aload_n 0, 1) := by decide +kernel
theorem dX8_brokenOf_3 : decode cX8_brokenOf 3 = .ok (.invokevirtual 139, 3) := by decide +kernel
theorem dX8_brokenOf_6 : decode cX8_brokenOf 6 = .ok (.iand, 1) := by decide +kernel
theorem dX8_brokenOf_7 : decode cX8_brokenOf 7 = .ok (.aload_n 0, 1) := by decide +kernel
theorem dX8_brokenOf_8 : decode cX8_brokenOf 8 = .ok (.getfield 111, 3) := by decide +kernel
theorem dX8_brokenOf_11 : decode cX8_brokenOf 11 = .ok (.invokevirtual 142, 3) := by decide +kernel
theorem dX8_brokenOf_14 : decode cX8_brokenOf 14 = .ok (.ireturn, 1) := by decide +kernel
theorem dX8_broken_0 : decode cX8_broken 0 = .ok (.iload_n 1, 1) := by decide +kernel
theorem dX8_broken_1 : decode cX8_broken 1 = .ok (.invokestatic 145, 3) := by decide +kernel
theorem dX8_broken_4 : decode cX8_broken 4 = .ok (.ifCond .eq 11, 3) := by decide +kernel
theorem dX8_broken_7 : decode cX8_broken 7 = .ok (.aload_n 0, 1) := by decide +kernel
theorem dX8_broken_8 : decode cX8_broken 8 = .ok (.iload_n 1, 1) := by decide +kernel
theorem dX8_broken_9 : decode cX8_broken 9 = .ok (.invokevirtual 148, 3) := by decide +kernel
theorem dX8_broken_12 : decode cX8_broken 12 = .ok (.goto 5, 3) := by decide +kernel
theorem dX8_broken_15 : decode cX8_broken 15 = .ok (.bipush (-2), 2) := by decide +kernel
theorem dX8_broken_17 : decode cX8_broken 17 = .ok (.ireturn, 1) := by decide +kernel
theorem dX8_rowsOf_0 : decode cX8_rowsOf 0 = .ok (.aload_n 0, 1) := by decide +kernel
theorem dX8_rowsOf_1 : decode cX8_rowsOf 1 = .ok (.invokevirtual 139, 3) := by decide +kernel
theorem dX8_rowsOf_4 : decode cX8_rowsOf 4 = .ok (.istore_n 2, 1) := by decide +kernel
theorem dX8_rowsOf_5 : decode cX8_rowsOf 5 = .ok (.iconst 0, 1) := by decide +kernel
theorem dX8_rowsOf_6 : decode cX8_rowsOf 6 = .ok (.istore_n 3, 1) := by decide +kernel
theorem dX8_rowsOf_7 : decode cX8_rowsOf 7 = .ok (.iconst 0, 1) := by decide +kernel
theorem dX8_rowsOf_8 : decode cX8_rowsOf 8 = .ok (.istore 4, 2) := by decide +kernel
theorem dX8_rowsOf_10 : decode cX8_rowsOf 10 = .ok (.iload 4, 2) := by decide +kernel
theorem dX8_rowsOf_12 : decode cX8_rowsOf 12 = .ok (.iload_n 2, 1) := by decide +kernel
theorem dX8_rowsOf_13 : decode cX8_rowsOf 13 = .ok (.if_icmp .gt 33, 3) := by decide +kernel
theorem dX8_rowsOf_16 : decode cX8_rowsOf 16 = .ok (.aload_n 0, 1) := by decide +kernel
theorem dX8_rowsOf_17 : decode cX8_rowsOf 17 = .ok (.iload 4, 2) := by decide +kernel
theorem dX8_rowsOf_19 : decode cX8_rowsOf 19 = .ok (.aload_n 0, 1) := by decide +kernel
theorem dX8_rowsOf_20 : decode cX8_rowsOf 20 = .ok (.getfield 111, 3) := by decide +kernel
theorem dX8_rowsOf_23 : decode cX8_rowsOf 23 = .ok (.invokevirtual 142, 3) := by decide +kernel
theorem dX8_rowsOf_26 : decode cX8_rowsOf 26 = .ok (.ifCond .ne 14, 3) := by decide +kernel
theorem dX8_rowsOf_29 : decode cX8_rowsOf 29 = .ok (.iload_n 3, 1) := by decide +kernel
theorem dX8_rowsOf_30 : decode cX8_rowsOf 30 = .ok (.iload_n 1, 1) := by decide +kernel
theorem dX8_rowsOf_31 : decode cX8_rowsOf 31 = .ok (.if_icmp .ne 6, 3) := by decide +kernel
theorem dX8_rowsOf_34 : decode cX8_rowsOf 34 = .ok (.iload 4, 2) := by decide +kernel
theorem dX8_rowsOf_36 : decode cX8_rowsOf 36 = .ok (.ireturn, 1) := by decide +kernel
theorem dX8_rowsOf_37 : decode cX8_rowsOf 37 = .ok (.iinc 3 1, 3) := by decide +kernel
theorem dX8_rowsOf_40 : decode cX8_rowsOf 40 = .ok (.iinc 4 1, 3) := by decide +kernel
theorem dX8_rowsOf_43 : decode cX8_rowsOf 43 = .ok (.goto (-33), 3) := by decide +kernel
theorem dX8_rowsOf_46 : decode cX8_rowsOf 46 = .ok (.iload_n 1, 1) := by decide +kernel
theorem dX8_rowsOf_47 : decode cX8_rowsOf 47 = .ok (.iconst (-1), 1) := by decide +kernel
theorem dX8_rowsOf_48 : decode cX8_rowsOf 48 = .ok (.if_icmp .ne 7, 3) := by decide +kernel
theorem dX8_rowsOf_51 : decode cX8_rowsOf 51 = .ok (.iload_n 3, 1) := by decide +kernel
theorem dX8_rowsOf_52 : decode cX8_rowsOf 52 = .ok (.goto 4, 3) := by decide +kernel
theorem dX8_rowsOf_55 : decode cX8_rowsOf 55 = .ok (.iconst (-1), 1) := by decide +kernel
theorem dX8_rowsOf_56 : decode cX8_rowsOf 56 = .ok (.ireturn, 1) := by decide +kernel
theorem dX8_rows_0 : decode cX8_rows 0 = .ok (.iload_n 1, 1) := by decide +kernel
theorem dX8_rows_1 : decode cX8_rows 1 = .ok (.iconst (-1), 1) := by decide +kernel
theorem dX8_rows_2 : decode cX8_rows 2 = .ok (.sipush 1023, 3) := by decide +kernel
theorem dX8_rows_5 : decode cX8_rows 5 = .ok (.invokestatic 66, 3) := by decide +kernel
theorem dX8_rows_8 : decode cX8_rows 8 = .ok (.ifCond .eq 11, 3) := by decide +kernel
theorem dX8_rows_11 : decode cX8_rows 11 = .ok (.aload_n 0, 1) := by decide +kernel
theorem dX8_rows_12 : decode cX8_rows 12 = .ok (.iload_n 1, 1) := by decide +kernel
theorem dX8_rows_13 : decode cX8_rows 13 = .ok (.invokevirtual 151, 3) := by decide +kernel
theorem dX8_rows_16 : decode cX8_rows 16 = .ok (.goto 5, 3) := by decide +kernel
theorem dX8_rows_19 : decode cX8_rows 19 = .ok (.bipush (-2), 2) := by decide +kernel
theorem dX8_rows_21 : decode cX8_rows 21 = .ok (.ireturn, 1) := by decide +kernel
theorem dX8_sureOf_0 : decode cX8_sureOf 0 = .ok (.aload_n 0, 1) := by decide +kernel
theorem dX8_sureOf_1 : decode cX8_sureOf 1 = .ok (.invokevirtual 139, 3) := by decide +kernel
theorem dX8_sureOf_4 : decode cX8_sureOf 4 = .ok (.istore_n 2, 1) := by decide +kernel
theorem dX8_sureOf_5 : decode cX8_sureOf 5 = .ok (.iload_n 2, 1) := by decide +kernel
theorem dX8_sureOf_6 : decode cX8_sureOf 6 = .ok (.istore_n 3, 1) := by decide +kernel
theorem dX8_sureOf_7 : decode cX8_sureOf 7 = .ok (.iconst 0, 1) := by decide +kernel
theorem dX8_sureOf_8 : decode cX8_sureOf 8 = .ok (.istore 4, 2) := by decide +kernel
theorem dX8_sureOf_10 : decode cX8_sureOf 10 = .ok (.iload 4, 2) := by decide +kernel
theorem dX8_sureOf_12 : decode cX8_sureOf 12 = .ok (.iload_n 2, 1) := by decide +kernel
theorem dX8_sureOf_13 : decode cX8_sureOf 13 = .ok (.if_icmp .gt 43, 3) := by decide +kernel
theorem dX8_sureOf_16 : decode cX8_sureOf 16 = .ok (.iload_n 3, 1) := by decide +kernel
theorem dX8_sureOf_17 : decode cX8_sureOf 17 = .ok (.aload_n 0, 1) := by decide +kernel
theorem dX8_sureOf_18 : decode cX8_sureOf 18 = .ok (.iload 4, 2) := by decide +kernel
theorem dX8_sureOf_20 : decode cX8_sureOf 20 = .ok (.aload_n 0, 1) := by decide +kernel
theorem dX8_sureOf_21 : decode cX8_sureOf 21 = .ok (.getfield 111, 3) := by decide +kernel
theorem dX8_sureOf_24 : decode cX8_sureOf 24 = .ok (.invokevirtual 142, 3) := by decide +kernel
theorem dX8_sureOf_27 : decode cX8_sureOf 27 = .ok (.ifCond .eq 7, 3) := by decide +kernel
theorem dX8_sureOf_30 : decode cX8_sureOf 30 = .ok (.iload_n 2, 1) := by decide +kernel
theorem dX8_sureOf_31 : decode cX8_sureOf 31 = .ok (.goto 17, 3) := by decide +kernel
theorem dX8_sureOf_34 : decode cX8_sureOf 34 = .ok (.iload_n 1, 1) := by decide +kernel
theorem dX8_sureOf_35 : decode cX8_sureOf 35 = .ok (.iconst 1, 1) := by decide +kernel
theorem dX8_sureOf_36 : decode cX8_sureOf 36 = .ok (.if_icmp .ne 8, 3) := by decide +kernel
theorem dX8_sureOf_39 : decode cX8_sureOf 39 = .ok (.iload 4, 2) := by decide +kernel
theorem dX8_sureOf_41 : decode cX8_sureOf 41 = .ok (.goto 7, 3) := by decide +kernel
theorem dX8_sureOf_44 : decode cX8_sureOf 44 = .ok (.iload 4, 2) := by decide +kernel
theorem dX8_sureOf_46 : decode cX8_sureOf 46 = .ok (.iconst (-1), 1) := by decide +kernel
theorem dX8_sureOf_47 : decode cX8_sureOf 47 = .ok (.ixor, 1) := by decide +kernel
theorem dX8_sureOf_48 : decode cX8_sureOf 48 = .ok (.iand, 1) := by decide +kernel
theorem dX8_sureOf_49 : decode cX8_sureOf 49 = .ok (.istore_n 3, 1) := by decide +kernel
theorem dX8_sureOf_50 : decode cX8_sureOf 50 = .ok (.iinc 4 1, 3) := by decide +kernel
theorem dX8_sureOf_53 : decode cX8_sureOf 53 = .ok (.goto (-43), 3) := by decide +kernel
theorem dX8_sureOf_56 : decode cX8_sureOf 56 = .ok (.iload_n 3, 1) := by decide +kernel
theorem dX8_sureOf_57 : decode cX8_sureOf 57 = .ok (.ireturn, 1) := by decide +kernel
theorem dX8_sure_0 : decode cX8_sure 0 = .ok (.iload_n 1, 1) := by decide +kernel
theorem dX8_sure_1 : decode cX8_sure 1 = .ok (.iconst 0, 1) := by decide +kernel
theorem dX8_sure_2 : decode cX8_sure 2 = .ok (.iconst 1, 1) := by decide +kernel
theorem dX8_sure_3 : decode cX8_sure 3 = .ok (.invokestatic 66, 3) := by decide +kernel
theorem dX8_sure_6 : decode cX8_sure 6 = .ok (.ifCond .eq 11, 3) := by decide +kernel
theorem dX8_sure_9 : decode cX8_sure 9 = .ok (.aload_n 0, 1) := by decide +kernel
theorem dX8_sure_10 : decode cX8_sure 10 = .ok (.iload_n 1, 1) := by decide +kernel
theorem dX8_sure_11 : decode cX8_sure 11 = .ok (.invokevirtual 154, 3) := by decide +kernel
theorem dX8_sure_14 : decode cX8_sure 14 = .ok (.goto 5, 3) := by decide +kernel
theorem dX8_sure_17 : decode cX8_sure 17 = .ok (.bipush (-2), 2) := by decide +kernel
theorem dX8_sure_19 : decode cX8_sure 19 = .ok (.ireturn, 1) := by decide +kernel
theorem dX8_cannotOf_0 : decode cX8_cannotOf 0 = .ok (.aload_n 0, 1) := by decide +kernel
theorem dX8_cannotOf_1 : decode cX8_cannotOf 1 = .ok (.invokevirtual 139, 3) := by decide +kernel
theorem dX8_cannotOf_4 : decode cX8_cannotOf 4 = .ok (.istore_n 2, 1) := by decide +kernel
theorem dX8_cannotOf_5 : decode cX8_cannotOf 5 = .ok (.iconst 0, 1) := by decide +kernel
theorem dX8_cannotOf_6 : decode cX8_cannotOf 6 = .ok (.istore_n 3, 1) := by decide +kernel
theorem dX8_cannotOf_7 : decode cX8_cannotOf 7 = .ok (.iload_n 3, 1) := by decide +kernel
theorem dX8_cannotOf_8 : decode cX8_cannotOf 8 = .ok (.iload_n 2, 1) := by decide +kernel
theorem dX8_cannotOf_9 : decode cX8_cannotOf 9 = .ok (.if_icmp .gt 24, 3) := by decide +kernel
theorem dX8_cannotOf_12 : decode cX8_cannotOf 12 = .ok (.aload_n 0, 1) := by decide +kernel
theorem dX8_cannotOf_13 : decode cX8_cannotOf 13 = .ok (.getfield 28, 3) := by decide +kernel
theorem dX8_cannotOf_16 : decode cX8_cannotOf 16 = .ok (.iload_n 3, 1) := by decide +kernel
theorem dX8_cannotOf_17 : decode cX8_cannotOf 17 = .ok (.aload_n 0, 1) := by decide +kernel
theorem dX8_cannotOf_18 : decode cX8_cannotOf 18 = .ok (.iload_n 3, 1) := by decide +kernel
theorem dX8_cannotOf_19 : decode cX8_cannotOf 19 = .ok (.aload_n 0, 1) := by decide +kernel
theorem dX8_cannotOf_20 : decode cX8_cannotOf 20 = .ok (.getfield 111, 3) := by decide +kernel
theorem dX8_cannotOf_23 : decode cX8_cannotOf 23 = .ok (.invokevirtual 142, 3) := by decide +kernel
theorem dX8_cannotOf_26 : decode cX8_cannotOf 26 = .ok (.iastore, 1) := by decide +kernel
theorem dX8_cannotOf_27 : decode cX8_cannotOf 27 = .ok (.iinc 3 1, 3) := by decide +kernel
theorem dX8_cannotOf_30 : decode cX8_cannotOf 30 = .ok (.goto (-23), 3) := by decide +kernel
theorem dX8_cannotOf_33 : decode cX8_cannotOf 33 = .ok (.iconst (-1), 1) := by decide +kernel
theorem dX8_cannotOf_34 : decode cX8_cannotOf 34 = .ok (.istore_n 3, 1) := by decide +kernel
theorem dX8_cannotOf_35 : decode cX8_cannotOf 35 = .ok (.iconst 0, 1) := by decide +kernel
theorem dX8_cannotOf_36 : decode cX8_cannotOf 36 = .ok (.istore 4, 2) := by decide +kernel
theorem dX8_cannotOf_38 : decode cX8_cannotOf 38 = .ok (.iload 4, 2) := by decide +kernel
theorem dX8_cannotOf_40 : decode cX8_cannotOf 40 = .ok (.iload_n 2, 1) := by decide +kernel
theorem dX8_cannotOf_41 : decode cX8_cannotOf 41 = .ok (.if_icmp .gt 85, 3) := by decide +kernel
theorem dX8_cannotOf_44 : decode cX8_cannotOf 44 = .ok (.iload_n 3, 1) := by decide +kernel
theorem dX8_cannotOf_45 : decode cX8_cannotOf 45 = .ok (.iconst (-1), 1) := by decide +kernel
theorem dX8_cannotOf_46 : decode cX8_cannotOf 46 = .ok (.if_icmp .eq 15, 3) := by decide +kernel
theorem dX8_cannotOf_49 : decode cX8_cannotOf 49 = .ok (.iload 4, 2) := by decide +kernel
theorem dX8_cannotOf_51 : decode cX8_cannotOf 51 = .ok (.invokestatic 157, 3) := by decide +kernel
theorem dX8_cannotOf_54 : decode cX8_cannotOf 54 = .ok (.iload_n 3, 1) := by decide +kernel
theorem dX8_cannotOf_55 : decode cX8_cannotOf 55 = .ok (.invokestatic 157, 3) := by decide +kernel
theorem dX8_cannotOf_58 : decode cX8_cannotOf 58 = .ok (.if_icmp .ge 7, 3) := by decide +kernel
theorem dX8_cannotOf_61 : decode cX8_cannotOf 61 = .ok (.iconst 1, 1) := by decide +kernel
theorem dX8_cannotOf_62 : decode cX8_cannotOf 62 = .ok (.goto 4, 3) := by decide +kernel
theorem dX8_cannotOf_65 : decode cX8_cannotOf 65 = .ok (.iconst 0, 1) := by decide +kernel
theorem dX8_cannotOf_66 : decode cX8_cannotOf 66 = .ok (.istore 5, 2) := by decide +kernel
theorem dX8_cannotOf_68 : decode cX8_cannotOf 68 = .ok (.iconst 0, 1) := by decide +kernel
theorem dX8_cannotOf_69 : decode cX8_cannotOf 69 = .ok (.istore 6, 2) := by decide +kernel
theorem dX8_cannotOf_71 : decode cX8_cannotOf 71 = .ok (.iload 6, 2) := by decide +kernel
theorem dX8_cannotOf_73 : decode cX8_cannotOf 73 = .ok (.iload_n 2, 1) := by decide +kernel
theorem dX8_cannotOf_74 : decode cX8_cannotOf 74 = .ok (.if_icmp .gt 34, 3) := by decide +kernel
theorem dX8_cannotOf_77 : decode cX8_cannotOf 77 = .ok (.iload 5, 2) := by decide +kernel
theorem dX8_cannotOf_79 : decode cX8_cannotOf 79 = .ok (.ifCond .eq 29, 3) := by decide +kernel
theorem dX8_cannotOf_82 : decode cX8_cannotOf 82 = .ok (.aload_n 0, 1) := by decide +kernel
theorem dX8_cannotOf_83 : decode cX8_cannotOf 83 = .ok (.getfield 28, 3) := by decide +kernel
theorem dX8_cannotOf_86 : decode cX8_cannotOf 86 = .ok (.iload 6, 2) := by decide +kernel
theorem dX8_cannotOf_88 : decode cX8_cannotOf 88 = .ok (.iaload, 1) := by decide +kernel
theorem dX8_cannotOf_89 : decode cX8_cannotOf 89 = .ok (.iload 4, 2) := by decide +kernel
theorem dX8_cannotOf_91 : decode cX8_cannotOf 91 = .ok (.iand, 1) := by decide +kernel
theorem dX8_cannotOf_92 : decode cX8_cannotOf 92 = .ok (.ifCond .eq 7, 3) := by decide +kernel
theorem dX8_cannotOf_95 : decode cX8_cannotOf 95 = .ok (.iconst 1, 1) := by decide +kernel
theorem dX8_cannotOf_96 : decode cX8_cannotOf 96 = .ok (.goto 4, 3) := by decide +kernel
theorem dX8_cannotOf_99 : decode cX8_cannotOf 99 = .ok (.iconst 0, 1) := by decide +kernel
theorem dX8_cannotOf_100 : decode cX8_cannotOf 100 = .ok (.istore 5, 2) := by decide +kernel
theorem dX8_cannotOf_102 : decode cX8_cannotOf 102 = .ok (.iinc 6 1, 3) := by decide +kernel
theorem dX8_cannotOf_105 : decode cX8_cannotOf 105 = .ok (.goto (-34), 3) := by decide +kernel
theorem dX8_cannotOf_108 : decode cX8_cannotOf 108 = .ok (.iload 5, 2) := by decide +kernel
theorem dX8_cannotOf_110 : decode cX8_cannotOf 110 = .ok (.ifCond .eq 8, 3) := by decide +kernel
theorem dX8_cannotOf_113 : decode cX8_cannotOf 113 = .ok (.iload 4, 2) := by decide +kernel
theorem dX8_cannotOf_115 : decode cX8_cannotOf 115 = .ok (.goto 4, 3) := by decide +kernel
theorem dX8_cannotOf_118 : decode cX8_cannotOf 118 = .ok (.iload_n 3, 1) := by decide +kernel
theorem dX8_cannotOf_119 : decode cX8_cannotOf 119 = .ok (.istore_n 3, 1) := by decide +kernel
theorem dX8_cannotOf_120 : decode cX8_cannotOf 120 = .ok (.iinc 4 1, 3) := by decide +kernel
theorem dX8_cannotOf_123 : decode cX8_cannotOf 123 = .ok (.goto (-85), 3) := by decide +kernel
theorem dX8_cannotOf_126 : decode cX8_cannotOf 126 = .ok (.iload_n 3, 1) := by decide +kernel
theorem dX8_cannotOf_127 : decode cX8_cannotOf 127 = .ok (.iconst (-1), 1) := by decide +kernel
theorem dX8_cannotOf_128 : decode cX8_cannotOf 128 = .ok (.if_icmp .eq 8, 3) := by decide +kernel
theorem dX8_cannotOf_131 : decode cX8_cannotOf 131 = .ok (.iload_n 1, 1) := by decide +kernel
theorem dX8_cannotOf_132 : decode cX8_cannotOf 132 = .ok (.iconst 1, 1) := by decide +kernel
theorem dX8_cannotOf_133 : decode cX8_cannotOf 133 = .ok (.if_icmp .ne 7, 3) := by decide +kernel
theorem dX8_cannotOf_136 : decode cX8_cannotOf 136 = .ok (.iload_n 3, 1) := by decide +kernel
theorem dX8_cannotOf_137 : decode cX8_cannotOf 137 = .ok (.goto 7, 3) := by decide +kernel
theorem dX8_cannotOf_140 : decode cX8_cannotOf 140 = .ok (.iload_n 3, 1) := by decide +kernel
theorem dX8_cannotOf_141 : decode cX8_cannotOf 141 = .ok (.invokestatic 157, 3) := by decide +kernel
theorem dX8_cannotOf_144 : decode cX8_cannotOf 144 = .ok (.ireturn, 1) := by decide +kernel
theorem dX8_cannot_0 : decode cX8_cannot 0 = .ok (.iload_n 1, 1) := by decide +kernel
theorem dX8_cannot_1 : decode cX8_cannot 1 = .ok (.iconst 0, 1) := by decide +kernel
theorem dX8_cannot_2 : decode cX8_cannot 2 = .ok (.iconst 1, 1) := by decide +kernel
theorem dX8_cannot_3 : decode cX8_cannot 3 = .ok (.invokestatic 66, 3) := by decide +kernel
theorem dX8_cannot_6 : decode cX8_cannot 6 = .ok (.ifCond .eq 11, 3) := by decide +kernel
theorem dX8_cannot_9 : decode cX8_cannot 9 = .ok (.aload_n 0, 1) := by decide +kernel
theorem dX8_cannot_10 : decode cX8_cannot 10 = .ok (.iload_n 1, 1) := by decide +kernel
theorem dX8_cannot_11 : decode cX8_cannot 11 = .ok (.invokevirtual 160, 3) := by decide +kernel
theorem dX8_cannot_14 : decode cX8_cannot 14 = .ok (.goto 5, 3) := by decide +kernel
theorem dX8_cannot_17 : decode cX8_cannot 17 = .ok (.bipush (-2), 2) := by decide +kernel
theorem dX8_cannot_19 : decode cX8_cannot 19 = .ok (.ireturn, 1) := by decide +kernel
theorem dX8_freedOf_0 : decode cX8_freedOf 0 = .ok (.aload_n 0, 1) := by decide +kernel
theorem dX8_freedOf_1 : decode cX8_freedOf 1 = .ok (.invokevirtual 139, 3) := by decide +kernel
theorem dX8_freedOf_4 : decode cX8_freedOf 4 = .ok (.istore_n 2, 1) := by decide +kernel
theorem dX8_freedOf_5 : decode cX8_freedOf 5 = .ok (.iload_n 2, 1) := by decide +kernel
theorem dX8_freedOf_6 : decode cX8_freedOf 6 = .ok (.istore_n 3, 1) := by decide +kernel
theorem dX8_freedOf_7 : decode cX8_freedOf 7 = .ok (.iconst 0, 1) := by decide +kernel
theorem dX8_freedOf_8 : decode cX8_freedOf 8 = .ok (.istore 4, 2) := by decide +kernel
theorem dX8_freedOf_10 : decode cX8_freedOf 10 = .ok (.iload 4, 2) := by decide +kernel
theorem dX8_freedOf_12 : decode cX8_freedOf 12 = .ok (.iload_n 2, 1) := by decide +kernel
theorem dX8_freedOf_13 : decode cX8_freedOf 13 = .ok (.if_icmp .gt 70, 3) := by decide +kernel
theorem dX8_freedOf_16 : decode cX8_freedOf 16 = .ok (.aload_n 0, 1) := by decide +kernel
theorem dX8_freedOf_17 : decode cX8_freedOf 17 = .ok (.iload 4, 2) := by decide +kernel
theorem dX8_freedOf_19 : decode cX8_freedOf 19 = .ok (.aload_n 0, 1) := by decide +kernel
theorem dX8_freedOf_20 : decode cX8_freedOf 20 = .ok (.getfield 111, 3) := by decide +kernel
theorem dX8_freedOf_23 : decode cX8_freedOf 23 = .ok (.invokevirtual 142, 3) := by decide +kernel
theorem dX8_freedOf_26 : decode cX8_freedOf 26 = .ok (.istore 5, 2) := by decide +kernel
theorem dX8_freedOf_28 : decode cX8_freedOf 28 = .ok (.iload 5, 2) := by decide +kernel
theorem dX8_freedOf_30 : decode cX8_freedOf 30 = .ok (.invokestatic 157, 3) := by decide +kernel
theorem dX8_freedOf_33 : decode cX8_freedOf 33 = .ok (.iload_n 3, 1) := by decide +kernel
theorem dX8_freedOf_34 : decode cX8_freedOf 34 = .ok (.invokestatic 157, 3) := by decide +kernel
theorem dX8_freedOf_37 : decode cX8_freedOf 37 = .ok (.if_icmp .lt 21, 3) := by decide +kernel
theorem dX8_freedOf_40 : decode cX8_freedOf 40 = .ok (.iload 5, 2) := by decide +kernel
theorem dX8_freedOf_42 : decode cX8_freedOf 42 = .ok (.invokestatic 157, 3) := by decide +kernel
theorem dX8_freedOf_45 : decode cX8_freedOf 45 = .ok (.iload_n 3, 1) := by decide +kernel
theorem dX8_freedOf_46 : decode cX8_freedOf 46 = .ok (.invokestatic 157, 3) := by decide +kernel
theorem dX8_freedOf_49 : decode cX8_freedOf 49 = .ok (.if_icmp .ne 13, 3) := by decide +kernel
theorem dX8_freedOf_52 : decode cX8_freedOf 52 = .ok (.iload 5, 2) := by decide +kernel
theorem dX8_freedOf_54 : decode cX8_freedOf 54 = .ok (.iload_n 3, 1) := by decide +kernel
theorem dX8_freedOf_55 : decode cX8_freedOf 55 = .ok (.if_icmp .ge 7, 3) := by decide +kernel
theorem dX8_freedOf_58 : decode cX8_freedOf 58 = .ok (.iconst 1, 1) := by decide +kernel
theorem dX8_freedOf_59 : decode cX8_freedOf 59 = .ok (.goto 4, 3) := by decide +kernel
theorem dX8_freedOf_62 : decode cX8_freedOf 62 = .ok (.iconst 0, 1) := by decide +kernel
theorem dX8_freedOf_63 : decode cX8_freedOf 63 = .ok (.istore 6, 2) := by decide +kernel
theorem dX8_freedOf_65 : decode cX8_freedOf 65 = .ok (.iload 6, 2) := by decide +kernel
theorem dX8_freedOf_67 : decode cX8_freedOf 67 = .ok (.ifCond .eq 8, 3) := by decide +kernel
theorem dX8_freedOf_70 : decode cX8_freedOf 70 = .ok (.iload 5, 2) := by decide +kernel
theorem dX8_freedOf_72 : decode cX8_freedOf 72 = .ok (.goto 4, 3) := by decide +kernel
theorem dX8_freedOf_75 : decode cX8_freedOf 75 = .ok (.iload_n 3, 1) := by decide +kernel
theorem dX8_freedOf_76 : decode cX8_freedOf 76 = .ok (.istore_n 3, 1) := by decide +kernel
theorem dX8_freedOf_77 : decode cX8_freedOf 77 = .ok (.iinc 4 1, 3) := by decide +kernel
theorem dX8_freedOf_80 : decode cX8_freedOf 80 = .ok (.goto (-70), 3) := by decide +kernel
theorem dX8_freedOf_83 : decode cX8_freedOf 83 = .ok (.iload_n 1, 1) := by decide +kernel
theorem dX8_freedOf_84 : decode cX8_freedOf 84 = .ok (.ifCond .ne 10, 3) := by decide +kernel
theorem dX8_freedOf_87 : decode cX8_freedOf 87 = .ok (.iload_n 3, 1) := by decide +kernel
theorem dX8_freedOf_88 : decode cX8_freedOf 88 = .ok (.invokestatic 157, 3) := by decide +kernel
theorem dX8_freedOf_91 : decode cX8_freedOf 91 = .ok (.goto 4, 3) := by decide +kernel
theorem dX8_freedOf_94 : decode cX8_freedOf 94 = .ok (.iload_n 3, 1) := by decide +kernel
theorem dX8_freedOf_95 : decode cX8_freedOf 95 = .ok (.ireturn, 1) := by decide +kernel
theorem dX8_freed_0 : decode cX8_freed 0 = .ok (.iload_n 1, 1) := by decide +kernel
theorem dX8_freed_1 : decode cX8_freed 1 = .ok (.iconst 0, 1) := by decide +kernel
theorem dX8_freed_2 : decode cX8_freed 2 = .ok (.iconst 1, 1) := by decide +kernel
theorem dX8_freed_3 : decode cX8_freed 3 = .ok (.invokestatic 66, 3) := by decide +kernel
theorem dX8_freed_6 : decode cX8_freed 6 = .ok (.ifCond .eq 11, 3) := by decide +kernel
theorem dX8_freed_9 : decode cX8_freed 9 = .ok (.aload_n 0, 1) := by decide +kernel
theorem dX8_freed_10 : decode cX8_freed 10 = .ok (.iload_n 1, 1) := by decide +kernel
theorem dX8_freed_11 : decode cX8_freed 11 = .ok (.invokevirtual 163, 3) := by decide +kernel
theorem dX8_freed_14 : decode cX8_freed 14 = .ok (.goto 5, 3) := by decide +kernel
theorem dX8_freed_17 : decode cX8_freed 17 = .ok (.bipush (-2), 2) := by decide +kernel
theorem dX8_freed_19 : decode cX8_freed 19 = .ok (.ireturn, 1) := by decide +kernel
theorem dX8_nearestOf_0 : decode cX8_nearestOf 0 = .ok (.aload_n 0, 1) := by decide +kernel
theorem dX8_nearestOf_1 : decode cX8_nearestOf 1 = .ok (.invokevirtual 139, 3) := by decide +kernel
theorem dX8_nearestOf_4 : decode cX8_nearestOf 4 = .ok (.istore_n 2, 1) := by decide +kernel
theorem dX8_nearestOf_5 : decode cX8_nearestOf 5 = .ok (.iconst (-1), 1) := by decide +kernel
theorem dX8_nearestOf_6 : decode cX8_nearestOf 6 = .ok (.istore_n 3, 1) := by decide +kernel
theorem dX8_nearestOf_7 : decode cX8_nearestOf 7 = .ok (.bipush 99, 2) := by decide +kernel
theorem dX8_nearestOf_9 : decode cX8_nearestOf 9 = .ok (.istore 4, 2) := by decide +kernel
theorem dX8_nearestOf_11 : decode cX8_nearestOf 11 = .ok (.iconst 0, 1) := by decide +kernel
theorem dX8_nearestOf_12 : decode cX8_nearestOf 12 = .ok (.istore 5, 2) := by decide +kernel
theorem dX8_nearestOf_14 : decode cX8_nearestOf 14 = .ok (.iload 5, 2) := by decide +kernel
theorem dX8_nearestOf_16 : decode cX8_nearestOf 16 = .ok (.iload_n 2, 1) := by decide +kernel
theorem dX8_nearestOf_17 : decode cX8_nearestOf 17 = .ok (.if_icmp .gt 47, 3) := by decide +kernel
theorem dX8_nearestOf_20 : decode cX8_nearestOf 20 = .ok (.iload 5, 2) := by decide +kernel
theorem dX8_nearestOf_22 : decode cX8_nearestOf 22 = .ok (.iload_n 1, 1) := by decide +kernel
theorem dX8_nearestOf_23 : decode cX8_nearestOf 23 = .ok (.ixor, 1) := by decide +kernel
theorem dX8_nearestOf_24 : decode cX8_nearestOf 24 = .ok (.iload_n 2, 1) := by decide +kernel
theorem dX8_nearestOf_25 : decode cX8_nearestOf 25 = .ok (.iand, 1) := by decide +kernel
theorem dX8_nearestOf_26 : decode cX8_nearestOf 26 = .ok (.invokestatic 157, 3) := by decide +kernel
theorem dX8_nearestOf_29 : decode cX8_nearestOf 29 = .ok (.istore 6, 2) := by decide +kernel
theorem dX8_nearestOf_31 : decode cX8_nearestOf 31 = .ok (.aload_n 0, 1) := by decide +kernel
theorem dX8_nearestOf_32 : decode cX8_nearestOf 32 = .ok (.iload 5, 2) := by decide +kernel
theorem dX8_nearestOf_34 : decode cX8_nearestOf 34 = .ok (.aload_n 0, 1) := by decide +kernel
theorem dX8_nearestOf_35 : decode cX8_nearestOf 35 = .ok (.getfield 111, 3) := by decide +kernel
theorem dX8_nearestOf_38 : decode cX8_nearestOf 38 = .ok (.invokevirtual 142, 3) := by decide +kernel
theorem dX8_nearestOf_41 : decode cX8_nearestOf 41 = .ok (.ifCond .ne 17, 3) := by decide +kernel
theorem dX8_nearestOf_44 : decode cX8_nearestOf 44 = .ok (.iload 6, 2) := by decide +kernel
theorem dX8_nearestOf_46 : decode cX8_nearestOf 46 = .ok (.iload 4, 2) := by decide +kernel
theorem dX8_nearestOf_48 : decode cX8_nearestOf 48 = .ok (.if_icmp .ge 10, 3) := by decide +kernel
theorem dX8_nearestOf_51 : decode cX8_nearestOf 51 = .ok (.iload 5, 2) := by decide +kernel
theorem dX8_nearestOf_53 : decode cX8_nearestOf 53 = .ok (.istore_n 3, 1) := by decide +kernel
theorem dX8_nearestOf_54 : decode cX8_nearestOf 54 = .ok (.iload 6, 2) := by decide +kernel
theorem dX8_nearestOf_56 : decode cX8_nearestOf 56 = .ok (.istore 4, 2) := by decide +kernel
theorem dX8_nearestOf_58 : decode cX8_nearestOf 58 = .ok (.iinc 5 1, 3) := by decide +kernel
theorem dX8_nearestOf_61 : decode cX8_nearestOf 61 = .ok (.goto (-47), 3) := by decide +kernel
theorem dX8_nearestOf_64 : decode cX8_nearestOf 64 = .ok (.iload_n 3, 1) := by decide +kernel
theorem dX8_nearestOf_65 : decode cX8_nearestOf 65 = .ok (.ireturn, 1) := by decide +kernel
theorem dX8_nearest_0 : decode cX8_nearest 0 = .ok (.iload_n 1, 1) := by decide +kernel
theorem dX8_nearest_1 : decode cX8_nearest 1 = .ok (.invokestatic 145, 3) := by decide +kernel
theorem dX8_nearest_4 : decode cX8_nearest 4 = .ok (.ifCond .eq 11, 3) := by decide +kernel
theorem dX8_nearest_7 : decode cX8_nearest 7 = .ok (.aload_n 0, 1) := by decide +kernel
theorem dX8_nearest_8 : decode cX8_nearest 8 = .ok (.iload_n 1, 1) := by decide +kernel
theorem dX8_nearest_9 : decode cX8_nearest 9 = .ok (.invokevirtual 166, 3) := by decide +kernel
theorem dX8_nearest_12 : decode cX8_nearest 12 = .ok (.goto 5, 3) := by decide +kernel
theorem dX8_nearest_15 : decode cX8_nearest 15 = .ok (.bipush (-2), 2) := by decide +kernel
theorem dX8_nearest_17 : decode cX8_nearest 17 = .ok (.ireturn, 1) := by decide +kernel
theorem dX8_stepsOf_0 : decode cX8_stepsOf 0 = .ok (.iload_n 1, 1) := by decide +kernel
theorem dX8_stepsOf_1 : decode cX8_stepsOf 1 = .ok (.aload_n 0, 1) := by decide +kernel
theorem dX8_stepsOf_2 : decode cX8_stepsOf 2 = .ok (.invokevirtual 139, 3) := by decide +kernel
theorem dX8_stepsOf_5 : decode cX8_stepsOf 5 = .ok (.iand, 1) := by decide +kernel
theorem dX8_stepsOf_6 : decode cX8_stepsOf 6 = .ok (.istore_n 3, 1) := by decide +kernel
theorem dX8_stepsOf_7 : decode cX8_stepsOf 7 = .ok (.iconst 0, 1) := by decide +kernel
theorem dX8_stepsOf_8 : decode cX8_stepsOf 8 = .ok (.istore 4, 2) := by decide +kernel
theorem dX8_stepsOf_10 : decode cX8_stepsOf 10 = .ok (.iload 4, 2) := by decide +kernel
theorem dX8_stepsOf_12 : decode cX8_stepsOf 12 = .ok (.iload_n 2, 1) := by decide +kernel
theorem dX8_stepsOf_13 : decode cX8_stepsOf 13 = .ok (.if_icmp .ge 19, 3) := by decide +kernel
theorem dX8_stepsOf_16 : decode cX8_stepsOf 16 = .ok (.aload_n 0, 1) := by decide +kernel
theorem dX8_stepsOf_17 : decode cX8_stepsOf 17 = .ok (.iload_n 3, 1) := by decide +kernel
theorem dX8_stepsOf_18 : decode cX8_stepsOf 18 = .ok (.aload_n 0, 1) := by decide +kernel
theorem dX8_stepsOf_19 : decode cX8_stepsOf 19 = .ok (.getfield 111, 3) := by decide +kernel
theorem dX8_stepsOf_22 : decode cX8_stepsOf 22 = .ok (.invokevirtual 136, 3) := by decide +kernel
theorem dX8_stepsOf_25 : decode cX8_stepsOf 25 = .ok (.istore_n 3, 1) := by decide +kernel
theorem dX8_stepsOf_26 : decode cX8_stepsOf 26 = .ok (.iinc 4 1, 3) := by decide +kernel
theorem dX8_stepsOf_29 : decode cX8_stepsOf 29 = .ok (.goto (-19), 3) := by decide +kernel
theorem dX8_stepsOf_32 : decode cX8_stepsOf 32 = .ok (.iload_n 3, 1) := by decide +kernel
theorem dX8_stepsOf_33 : decode cX8_stepsOf 33 = .ok (.ireturn, 1) := by decide +kernel
theorem dX8_steps_0 : decode cX8_steps 0 = .ok (.iload_n 1, 1) := by decide +kernel
theorem dX8_steps_1 : decode cX8_steps 1 = .ok (.invokestatic 145, 3) := by decide +kernel
theorem dX8_steps_4 : decode cX8_steps 4 = .ok (.ifCond .eq 22, 3) := by decide +kernel
theorem dX8_steps_7 : decode cX8_steps 7 = .ok (.iload_n 2, 1) := by decide +kernel
theorem dX8_steps_8 : decode cX8_steps 8 = .ok (.iconst 0, 1) := by decide +kernel
theorem dX8_steps_9 : decode cX8_steps 9 = .ok (.bipush 99, 2) := by decide +kernel
theorem dX8_steps_11 : decode cX8_steps 11 = .ok (.invokestatic 66, 3) := by decide +kernel
theorem dX8_steps_14 : decode cX8_steps 14 = .ok (.ifCond .eq 12, 3) := by decide +kernel
theorem dX8_steps_17 : decode cX8_steps 17 = .ok (.aload_n 0, 1) := by decide +kernel
theorem dX8_steps_18 : decode cX8_steps 18 = .ok (.iload_n 1, 1) := by decide +kernel
theorem dX8_steps_19 : decode cX8_steps 19 = .ok (.iload_n 2, 1) := by decide +kernel
theorem dX8_steps_20 : decode cX8_steps 20 = .ok (.invokevirtual 169, 3) := by decide +kernel
theorem dX8_steps_23 : decode cX8_steps 23 = .ok (.goto 5, 3) := by decide +kernel
theorem dX8_steps_26 : decode cX8_steps 26 = .ok (.bipush (-2), 2) := by decide +kernel
theorem dX8_steps_28 : decode cX8_steps 28 = .ok (.ireturn, 1) := by decide +kernel
theorem dX8_returnsOf_0 : decode cX8_returnsOf 0 = .ok (.iload_n 1, 1) := by decide +kernel
theorem dX8_returnsOf_1 : decode cX8_returnsOf 1 = .ok (.aload_n 0, 1) := by decide +kernel
theorem dX8_returnsOf_2 : decode cX8_returnsOf 2 = .ok (.invokevirtual 139, 3) := by decide +kernel
theorem dX8_returnsOf_5 : decode cX8_returnsOf 5 = .ok (.iand, 1) := by decide +kernel
theorem dX8_returnsOf_6 : decode cX8_returnsOf 6 = .ok (.istore_n 3, 1) := by decide +kernel
theorem dX8_returnsOf_7 : decode cX8_returnsOf 7 = .ok (.iconst 0, 1) := by decide +kernel
theorem dX8_returnsOf_8 : decode cX8_returnsOf 8 = .ok (.istore 4, 2) := by decide +kernel
theorem dX8_returnsOf_10 : decode cX8_returnsOf 10 = .ok (.iload 4, 2) := by decide +kernel
theorem dX8_returnsOf_12 : decode cX8_returnsOf 12 = .ok (.sipush 1024, 3) := by decide +kernel
theorem dX8_returnsOf_15 : decode cX8_returnsOf 15 = .ok (.if_icmp .ge 17, 3) := by decide +kernel
theorem dX8_returnsOf_18 : decode cX8_returnsOf 18 = .ok (.aload_n 0, 1) := by decide +kernel
theorem dX8_returnsOf_19 : decode cX8_returnsOf 19 = .ok (.getfield 31, 3) := by decide +kernel
theorem dX8_returnsOf_22 : decode cX8_returnsOf 22 = .ok (.iload 4, 2) := by decide +kernel
theorem dX8_returnsOf_24 : decode cX8_returnsOf 24 = .ok (.iconst (-1), 1) := by decide +kernel
theorem dX8_returnsOf_25 : decode cX8_returnsOf 25 = .ok (.iastore, 1) := by decide +kernel
theorem dX8_returnsOf_26 : decode cX8_returnsOf 26 = .ok (.iinc 4 1, 3) := by decide +kernel
theorem dX8_returnsOf_29 : decode cX8_returnsOf 29 = .ok (.goto (-19), 3) := by decide +kernel
theorem dX8_returnsOf_32 : decode cX8_returnsOf 32 = .ok (.iconst 0, 1) := by decide +kernel
theorem dX8_returnsOf_33 : decode cX8_returnsOf 33 = .ok (.istore 4, 2) := by decide +kernel
theorem dX8_returnsOf_35 : decode cX8_returnsOf 35 = .ok (.aload_n 0, 1) := by decide +kernel
theorem dX8_returnsOf_36 : decode cX8_returnsOf 36 = .ok (.getfield 31, 3) := by decide +kernel
theorem dX8_returnsOf_39 : decode cX8_returnsOf 39 = .ok (.iload_n 3, 1) := by decide +kernel
theorem dX8_returnsOf_40 : decode cX8_returnsOf 40 = .ok (.iaload, 1) := by decide +kernel
theorem dX8_returnsOf_41 : decode cX8_returnsOf 41 = .ok (.iconst (-1), 1) := by decide +kernel
theorem dX8_returnsOf_42 : decode cX8_returnsOf 42 = .ok (.if_icmp .ne 27, 3) := by decide +kernel
theorem dX8_returnsOf_45 : decode cX8_returnsOf 45 = .ok (.aload_n 0, 1) := by decide +kernel
theorem dX8_returnsOf_46 : decode cX8_returnsOf 46 = .ok (.getfield 31, 3) := by decide +kernel
theorem dX8_returnsOf_49 : decode cX8_returnsOf 49 = .ok (.iload_n 3, 1) := by decide +kernel
theorem dX8_returnsOf_50 : decode cX8_returnsOf 50 = .ok (.iload 4, 2) := by decide +kernel
theorem dX8_returnsOf_52 : decode cX8_returnsOf 52 = .ok (.iastore, 1) := by decide +kernel
theorem dX8_returnsOf_53 : decode cX8_returnsOf 53 = .ok (.aload_n 0, 1) := by decide +kernel
theorem dX8_returnsOf_54 : decode cX8_returnsOf 54 = .ok (.iload_n 3, 1) := by decide +kernel
theorem dX8_returnsOf_55 : decode cX8_returnsOf 55 = .ok (.aload_n 0, 1) := by decide +kernel
theorem dX8_returnsOf_56 : decode cX8_returnsOf 56 = .ok (.getfield 111, 3) := by decide +kernel
theorem dX8_returnsOf_59 : decode cX8_returnsOf 59 = .ok (.invokevirtual 136, 3) := by decide +kernel
theorem dX8_returnsOf_62 : decode cX8_returnsOf 62 = .ok (.istore_n 3, 1) := by decide +kernel
theorem dX8_returnsOf_63 : decode cX8_returnsOf 63 = .ok (.iinc 4 1, 3) := by decide +kernel
theorem dX8_returnsOf_66 : decode cX8_returnsOf 66 = .ok (.goto (-31), 3) := by decide +kernel
theorem dX8_returnsOf_69 : decode cX8_returnsOf 69 = .ok (.iload_n 2, 1) := by decide +kernel
theorem dX8_returnsOf_70 : decode cX8_returnsOf 70 = .ok (.ifCond .ne 8, 3) := by decide +kernel
theorem dX8_returnsOf_73 : decode cX8_returnsOf 73 = .ok (.iload 4, 2) := by decide +kernel
theorem dX8_returnsOf_75 : decode cX8_returnsOf 75 = .ok (.goto 12, 3) := by decide +kernel
theorem dX8_returnsOf_78 : decode cX8_returnsOf 78 = .ok (.iload 4, 2) := by decide +kernel
theorem dX8_returnsOf_80 : decode cX8_returnsOf 80 = .ok (.aload_n 0, 1) := by decide +kernel
theorem dX8_returnsOf_81 : decode cX8_returnsOf 81 = .ok (.getfield 31, 3) := by decide +kernel
theorem dX8_returnsOf_84 : decode cX8_returnsOf 84 = .ok (.iload_n 3, 1) := by decide +kernel
theorem dX8_returnsOf_85 : decode cX8_returnsOf 85 = .ok (.iaload, 1) := by decide +kernel
theorem dX8_returnsOf_86 : decode cX8_returnsOf 86 = .ok (.isub, 1) := by decide +kernel
theorem dX8_returnsOf_87 : decode cX8_returnsOf 87 = .ok (.ireturn, 1) := by decide +kernel
theorem dX8_returns_0 : decode cX8_returns 0 = .ok (.iload_n 1, 1) := by decide +kernel
theorem dX8_returns_1 : decode cX8_returns 1 = .ok (.invokestatic 145, 3) := by decide +kernel
theorem dX8_returns_4 : decode cX8_returns 4 = .ok (.ifCond .eq 21, 3) := by decide +kernel
theorem dX8_returns_7 : decode cX8_returns 7 = .ok (.iload_n 2, 1) := by decide +kernel
theorem dX8_returns_8 : decode cX8_returns 8 = .ok (.iconst 0, 1) := by decide +kernel
theorem dX8_returns_9 : decode cX8_returns 9 = .ok (.iconst 1, 1) := by decide +kernel
theorem dX8_returns_10 : decode cX8_returns 10 = .ok (.invokestatic 66, 3) := by decide +kernel
theorem dX8_returns_13 : decode cX8_returns 13 = .ok (.ifCond .eq 12, 3) := by decide +kernel
theorem dX8_returns_16 : decode cX8_returns 16 = .ok (.aload_n 0, 1) := by decide +kernel
theorem dX8_returns_17 : decode cX8_returns 17 = .ok (.iload_n 1, 1) := by decide +kernel
theorem dX8_returns_18 : decode cX8_returns 18 = .ok (.iload_n 2, 1) := by decide +kernel
theorem dX8_returns_19 : decode cX8_returns 19 = .ok (.invokevirtual 172, 3) := by decide +kernel
theorem dX8_returns_22 : decode cX8_returns 22 = .ok (.goto 5, 3) := by decide +kernel
theorem dX8_returns_25 : decode cX8_returns 25 = .ok (.bipush (-2), 2) := by decide +kernel
theorem dX8_returns_27 : decode cX8_returns 27 = .ok (.ireturn, 1) := by decide +kernel
theorem dX8_hangsAt_0 : decode cX8_hangsAt 0 = .ok (.aload_n 0, 1) := by decide +kernel
theorem dX8_hangsAt_1 : decode cX8_hangsAt 1 = .ok (.getfield 16, 3) := by decide +kernel
theorem dX8_hangsAt_4 : decode cX8_hangsAt 4 = .ok (.bipush 6, 2) := by decide +kernel
theorem dX8_hangsAt_6 : decode cX8_hangsAt 6 = .ok (.iload_n 1, 1) := by decide +kernel
theorem dX8_hangsAt_7 : decode cX8_hangsAt 7 = .ok (.imul, 1) := by decide +kernel
theorem dX8_hangsAt_8 : decode cX8_hangsAt 8 = .ok (.iconst 5, 1) := by decide +kernel
theorem dX8_hangsAt_9 : decode cX8_hangsAt 9 = .ok (.iadd, 1) := by decide +kernel
theorem dX8_hangsAt_10 : decode cX8_hangsAt 10 = .ok (.iaload, 1) := by decide +kernel
theorem dX8_hangsAt_11 : decode cX8_hangsAt 11 = .ok (.istore_n 2, 1) := by decide +kernel
theorem dX8_hangsAt_12 : decode cX8_hangsAt 12 = .ok (.iload_n 2, 1) := by decide +kernel
theorem dX8_hangsAt_13 : decode cX8_hangsAt 13 = .ok (.iconst (-1), 1) := by decide +kernel
theorem dX8_hangsAt_14 : decode cX8_hangsAt 14 = .ok (.if_icmp .eq 26, 3) := by decide +kernel
theorem dX8_hangsAt_17 : decode cX8_hangsAt 17 = .ok (.iload_n 2, 1) := by decide +kernel
theorem dX8_hangsAt_18 : decode cX8_hangsAt 18 = .ok (.aload_n 0, 1) := by decide +kernel
theorem dX8_hangsAt_19 : decode cX8_hangsAt 19 = .ok (.getfield 86, 3) := by decide +kernel
theorem dX8_hangsAt_22 : decode cX8_hangsAt 22 = .ok (.if_icmp .ge 18, 3) := by decide +kernel
theorem dX8_hangsAt_25 : decode cX8_hangsAt 25 = .ok (.aload_n 0, 1) := by decide +kernel
theorem dX8_hangsAt_26 : decode cX8_hangsAt 26 = .ok (.iload_n 2, 1) := by decide +kernel
theorem dX8_hangsAt_27 : decode cX8_hangsAt 27 = .ok (.iload_n 1, 1) := by decide +kernel
theorem dX8_hangsAt_28 : decode cX8_hangsAt 28 = .ok (.invokevirtual 130, 3) := by decide +kernel
theorem dX8_hangsAt_31 : decode cX8_hangsAt 31 = .ok (.ifCond .eq 9, 3) := by decide +kernel
theorem dX8_hangsAt_34 : decode cX8_hangsAt 34 = .ok (.iconst 1, 1) := by decide +kernel
theorem dX8_hangsAt_35 : decode cX8_hangsAt 35 = .ok (.iload_n 2, 1) := by decide +kernel
theorem dX8_hangsAt_36 : decode cX8_hangsAt 36 = .ok (.ishl, 1) := by decide +kernel
theorem dX8_hangsAt_37 : decode cX8_hangsAt 37 = .ok (.goto 4, 3) := by decide +kernel
theorem dX8_hangsAt_40 : decode cX8_hangsAt 40 = .ok (.iconst 0, 1) := by decide +kernel
theorem dX8_hangsAt_41 : decode cX8_hangsAt 41 = .ok (.ireturn, 1) := by decide +kernel
theorem dX8_hangsOf_0 : decode cX8_hangsOf 0 = .ok (.aload_n 0, 1) := by decide +kernel
theorem dX8_hangsOf_1 : decode cX8_hangsOf 1 = .ok (.iload_n 1, 1) := by decide +kernel
theorem dX8_hangsOf_2 : decode cX8_hangsOf 2 = .ok (.invokevirtual 175, 3) := by decide +kernel
theorem dX8_hangsOf_5 : decode cX8_hangsOf 5 = .ok (.istore_n 2, 1) := by decide +kernel
theorem dX8_hangsOf_6 : decode cX8_hangsOf 6 = .ok (.iconst 0, 1) := by decide +kernel
theorem dX8_hangsOf_7 : decode cX8_hangsOf 7 = .ok (.istore_n 3, 1) := by decide +kernel
theorem dX8_hangsOf_8 : decode cX8_hangsOf 8 = .ok (.iload_n 3, 1) := by decide +kernel
theorem dX8_hangsOf_9 : decode cX8_hangsOf 9 = .ok (.bipush 10, 2) := by decide +kernel
theorem dX8_hangsOf_11 : decode cX8_hangsOf 11 = .ok (.if_icmp .ge 49, 3) := by decide +kernel
theorem dX8_hangsOf_14 : decode cX8_hangsOf 14 = .ok (.iconst 0, 1) := by decide +kernel
theorem dX8_hangsOf_15 : decode cX8_hangsOf 15 = .ok (.istore 4, 2) := by decide +kernel
theorem dX8_hangsOf_17 : decode cX8_hangsOf 17 = .ok (.iload 4, 2) := by decide +kernel
theorem dX8_hangsOf_19 : decode cX8_hangsOf 19 = .ok (.aload_n 0, 1) := by decide +kernel
theorem dX8_hangsOf_20 : decode cX8_hangsOf 20 = .ok (.getfield 86, 3) := by decide +kernel
theorem dX8_hangsOf_23 : decode cX8_hangsOf 23 = .ok (.if_icmp .ge 31, 3) := by decide +kernel
theorem dX8_hangsOf_26 : decode cX8_hangsOf 26 = .ok (.iload_n 2, 1) := by decide +kernel
theorem dX8_hangsOf_27 : decode cX8_hangsOf 27 = .ok (.iload_n 2, 1) := by decide +kernel
theorem dX8_hangsOf_28 : decode cX8_hangsOf 28 = .ok (.iload 4, 2) := by decide +kernel
theorem dX8_hangsOf_30 : decode cX8_hangsOf 30 = .ok (.invokestatic 126, 3) := by decide +kernel
theorem dX8_hangsOf_33 : decode cX8_hangsOf 33 = .ok (.ifCond .eq 12, 3) := by decide +kernel
theorem dX8_hangsOf_36 : decode cX8_hangsOf 36 = .ok (.aload_n 0, 1) := by decide +kernel
theorem dX8_hangsOf_37 : decode cX8_hangsOf 37 = .ok (.iload 4, 2) := by decide +kernel
theorem dX8_hangsOf_39 : decode cX8_hangsOf 39 = .ok (.invokevirtual 175, 3) := by decide +kernel
theorem dX8_hangsOf_42 : decode cX8_hangsOf 42 = .ok (.goto 4, 3) := by decide +kernel
theorem dX8_hangsOf_45 : decode cX8_hangsOf 45 = .ok (.iconst 0, 1) := by decide +kernel
theorem dX8_hangsOf_46 : decode cX8_hangsOf 46 = .ok (.ior, 1) := by decide +kernel
theorem dX8_hangsOf_47 : decode cX8_hangsOf 47 = .ok (.istore_n 2, 1) := by decide +kernel
theorem dX8_hangsOf_48 : decode cX8_hangsOf 48 = .ok (.iinc 4 1, 3) := by decide +kernel
theorem dX8_hangsOf_51 : decode cX8_hangsOf 51 = .ok (.goto (-34), 3) := by decide +kernel
theorem dX8_hangsOf_54 : decode cX8_hangsOf 54 = .ok (.iinc 3 1, 3) := by decide +kernel
theorem dX8_hangsOf_57 : decode cX8_hangsOf 57 = .ok (.goto (-49), 3) := by decide +kernel
theorem dX8_hangsOf_60 : decode cX8_hangsOf 60 = .ok (.iload_n 2, 1) := by decide +kernel
theorem dX8_hangsOf_61 : decode cX8_hangsOf 61 = .ok (.ireturn, 1) := by decide +kernel
theorem dX8_hangs_0 : decode cX8_hangs 0 = .ok (.aload_n 0, 1) := by decide +kernel
theorem dX8_hangs_1 : decode cX8_hangs 1 = .ok (.iload_n 1, 1) := by decide +kernel
theorem dX8_hangs_2 : decode cX8_hangs 2 = .ok (.invokevirtual 105, 3) := by decide +kernel
theorem dX8_hangs_5 : decode cX8_hangs 5 = .ok (.ifCond .eq 11, 3) := by decide +kernel
theorem dX8_hangs_8 : decode cX8_hangs 8 = .ok (.aload_n 0, 1) := by decide +kernel
theorem dX8_hangs_9 : decode cX8_hangs 9 = .ok (.iload_n 1, 1) := by decide +kernel
theorem dX8_hangs_10 : decode cX8_hangs 10 = .ok (.invokevirtual 178, 3) := by decide +kernel
theorem dX8_hangs_13 : decode cX8_hangs 13 = .ok (.goto 5, 3) := by decide +kernel
theorem dX8_hangs_16 : decode cX8_hangs 16 = .ok (.bipush (-2), 2) := by decide +kernel
theorem dX8_hangs_18 : decode cX8_hangs 18 = .ok (.ireturn, 1) := by decide +kernel
theorem dX8_ringsNow_0 : decode cX8_ringsNow 0 = .ok (.aload_n 0, 1) := by decide +kernel
theorem dX8_ringsNow_1 : decode cX8_ringsNow 1 = .ok (.invokevirtual 102, 3) := by decide +kernel
theorem dX8_ringsNow_4 : decode cX8_ringsNow 4 = .ok (.iconst 0, 1) := by decide +kernel
theorem dX8_ringsNow_5 : decode cX8_ringsNow 5 = .ok (.istore_n 1, 1) := by decide +kernel
theorem dX8_ringsNow_6 : decode cX8_ringsNow 6 = .ok (.iconst 0, 1) := by decide +kernel
theorem dX8_ringsNow_7 : decode cX8_ringsNow 7 = .ok (.istore_n 2, 1) := by decide +kernel
theorem dX8_ringsNow_8 : decode cX8_ringsNow 8 = .ok (.iload_n 2, 1) := by decide +kernel
theorem dX8_ringsNow_9 : decode cX8_ringsNow 9 = .ok (.aload_n 0, 1) := by decide +kernel
theorem dX8_ringsNow_10 : decode cX8_ringsNow 10 = .ok (.getfield 86, 3) := by decide +kernel
theorem dX8_ringsNow_13 : decode cX8_ringsNow 13 = .ok (.if_icmp .ge 31, 3) := by decide +kernel
theorem dX8_ringsNow_16 : decode cX8_ringsNow 16 = .ok (.iload_n 1, 1) := by decide +kernel
theorem dX8_ringsNow_17 : decode cX8_ringsNow 17 = .ok (.aload_n 0, 1) := by decide +kernel
theorem dX8_ringsNow_18 : decode cX8_ringsNow 18 = .ok (.iload_n 2, 1) := by decide +kernel
theorem dX8_ringsNow_19 : decode cX8_ringsNow 19 = .ok (.invokevirtual 178, 3) := by decide +kernel
theorem dX8_ringsNow_22 : decode cX8_ringsNow 22 = .ok (.iload_n 2, 1) := by decide +kernel
theorem dX8_ringsNow_23 : decode cX8_ringsNow 23 = .ok (.invokestatic 126, 3) := by decide +kernel
theorem dX8_ringsNow_26 : decode cX8_ringsNow 26 = .ok (.ifCond .eq 9, 3) := by decide +kernel
theorem dX8_ringsNow_29 : decode cX8_ringsNow 29 = .ok (.iconst 1, 1) := by decide +kernel
theorem dX8_ringsNow_30 : decode cX8_ringsNow 30 = .ok (.iload_n 2, 1) := by decide +kernel
theorem dX8_ringsNow_31 : decode cX8_ringsNow 31 = .ok (.ishl, 1) := by decide +kernel
theorem dX8_ringsNow_32 : decode cX8_ringsNow 32 = .ok (.goto 4, 3) := by decide +kernel
theorem dX8_ringsNow_35 : decode cX8_ringsNow 35 = .ok (.iconst 0, 1) := by decide +kernel
theorem dX8_ringsNow_36 : decode cX8_ringsNow 36 = .ok (.ior, 1) := by decide +kernel
theorem dX8_ringsNow_37 : decode cX8_ringsNow 37 = .ok (.istore_n 1, 1) := by decide +kernel
theorem dX8_ringsNow_38 : decode cX8_ringsNow 38 = .ok (.iinc 2 1, 3) := by decide +kernel
theorem dX8_ringsNow_41 : decode cX8_ringsNow 41 = .ok (.goto (-33), 3) := by decide +kernel
theorem dX8_ringsNow_44 : decode cX8_ringsNow 44 = .ok (.iload_n 1, 1) := by decide +kernel
theorem dX8_ringsNow_45 : decode cX8_ringsNow 45 = .ok (.ireturn, 1) := by decide +kernel
theorem dX8_rings_0 : decode cX8_rings 0 = .ok (.aload_n 0, 1) := by decide +kernel
theorem dX8_rings_1 : decode cX8_rings 1 = .ok (.invokevirtual 181, 3) := by decide +kernel
theorem dX8_rings_4 : decode cX8_rings 4 = .ok (.ireturn, 1) := by decide +kernel
theorem dX8_hadOf_0 : decode cX8_hadOf 0 = .ok (.iconst 0, 1) := by decide +kernel
theorem dX8_hadOf_1 : decode cX8_hadOf 1 = .ok (.istore 4, 2) := by decide +kernel
theorem dX8_hadOf_3 : decode cX8_hadOf 3 = .ok (.iload_n 1, 1) := by decide +kernel
theorem dX8_hadOf_4 : decode cX8_hadOf 4 = .ok (.aload_n 0, 1) := by decide +kernel
theorem dX8_hadOf_5 : decode cX8_hadOf 5 = .ok (.invokevirtual 139, 3) := by decide +kernel
theorem dX8_hadOf_8 : decode cX8_hadOf 8 = .ok (.iand, 1) := by decide +kernel
theorem dX8_hadOf_9 : decode cX8_hadOf 9 = .ok (.istore 5, 2) := by decide +kernel
theorem dX8_hadOf_11 : decode cX8_hadOf 11 = .ok (.iconst 0, 1) := by decide +kernel
theorem dX8_hadOf_12 : decode cX8_hadOf 12 = .ok (.istore 6, 2) := by decide +kernel
theorem dX8_hadOf_14 : decode cX8_hadOf 14 = .ok (.iload 6, 2) := by decide +kernel
theorem dX8_hadOf_16 : decode cX8_hadOf 16 = .ok (.aload_n 0, 1) := by decide +kernel
theorem dX8_hadOf_17 : decode cX8_hadOf 17 = .ok (.getfield 86, 3) := by decide +kernel
theorem dX8_hadOf_20 : decode cX8_hadOf 20 = .ok (.if_icmp .ge 67, 3) := by decide +kernel
theorem dX8_hadOf_23 : decode cX8_hadOf 23 = .ok (.iload 4, 2) := by decide +kernel
theorem dX8_hadOf_25 : decode cX8_hadOf 25 = .ok (.iload 5, 2) := by decide +kernel
theorem dX8_hadOf_27 : decode cX8_hadOf 27 = .ok (.iload 6, 2) := by decide +kernel
theorem dX8_hadOf_29 : decode cX8_hadOf 29 = .ok (.invokestatic 126, 3) := by decide +kernel
theorem dX8_hadOf_32 : decode cX8_hadOf 32 = .ok (.ifCond .eq 45, 3) := by decide +kernel
theorem dX8_hadOf_35 : decode cX8_hadOf 35 = .ok (.aload_n 0, 1) := by decide +kernel
theorem dX8_hadOf_36 : decode cX8_hadOf 36 = .ok (.getfield 16, 3) := by decide +kernel
theorem dX8_hadOf_39 : decode cX8_hadOf 39 = .ok (.bipush 6, 2) := by decide +kernel
theorem dX8_hadOf_41 : decode cX8_hadOf 41 = .ok (.iload 6, 2) := by decide +kernel
theorem dX8_hadOf_43 : decode cX8_hadOf 43 = .ok (.imul, 1) := by decide +kernel
theorem dX8_hadOf_44 : decode cX8_hadOf 44 = .ok (.iaload, 1) := by decide +kernel
theorem dX8_hadOf_45 : decode cX8_hadOf 45 = .ok (.iload_n 2, 1) := by decide +kernel
theorem dX8_hadOf_46 : decode cX8_hadOf 46 = .ok (.if_icmp .ne 31, 3) := by decide +kernel
theorem dX8_hadOf_49 : decode cX8_hadOf 49 = .ok (.aload_n 0, 1) := by decide +kernel
theorem dX8_hadOf_50 : decode cX8_hadOf 50 = .ok (.getfield 16, 3) := by decide +kernel
theorem dX8_hadOf_53 : decode cX8_hadOf 53 = .ok (.bipush 6, 2) := by decide +kernel
theorem dX8_hadOf_55 : decode cX8_hadOf 55 = .ok (.iload 6, 2) := by decide +kernel
theorem dX8_hadOf_57 : decode cX8_hadOf 57 = .ok (.imul, 1) := by decide +kernel
theorem dX8_hadOf_58 : decode cX8_hadOf 58 = .ok (.iconst 2, 1) := by decide +kernel
theorem dX8_hadOf_59 : decode cX8_hadOf 59 = .ok (.iadd, 1) := by decide +kernel
theorem dX8_hadOf_60 : decode cX8_hadOf 60 = .ok (.iaload, 1) := by decide +kernel
theorem dX8_hadOf_61 : decode cX8_hadOf 61 = .ok (.aload_n 0, 1) := by decide +kernel
theorem dX8_hadOf_62 : decode cX8_hadOf 62 = .ok (.getfield 59, 3) := by decide +kernel
theorem dX8_hadOf_65 : decode cX8_hadOf 65 = .ok (.isub, 1) := by decide +kernel
theorem dX8_hadOf_66 : decode cX8_hadOf 66 = .ok (.iload_n 3, 1) := by decide +kernel
theorem dX8_hadOf_67 : decode cX8_hadOf 67 = .ok (.if_icmp .gt 10, 3) := by decide +kernel
theorem dX8_hadOf_70 : decode cX8_hadOf 70 = .ok (.iconst 1, 1) := by decide +kernel
theorem dX8_hadOf_71 : decode cX8_hadOf 71 = .ok (.iload 6, 2) := by decide +kernel
theorem dX8_hadOf_73 : decode cX8_hadOf 73 = .ok (.ishl, 1) := by decide +kernel
theorem dX8_hadOf_74 : decode cX8_hadOf 74 = .ok (.goto 4, 3) := by decide +kernel
theorem dX8_hadOf_77 : decode cX8_hadOf 77 = .ok (.iconst 0, 1) := by decide +kernel
theorem dX8_hadOf_78 : decode cX8_hadOf 78 = .ok (.ior, 1) := by decide +kernel
theorem dX8_hadOf_79 : decode cX8_hadOf 79 = .ok (.istore 4, 2) := by decide +kernel
theorem dX8_hadOf_81 : decode cX8_hadOf 81 = .ok (.iinc 6 1, 3) := by decide +kernel
theorem dX8_hadOf_84 : decode cX8_hadOf 84 = .ok (.goto (-70), 3) := by decide +kernel
theorem dX8_hadOf_87 : decode cX8_hadOf 87 = .ok (.iload 4, 2) := by decide +kernel
theorem dX8_hadOf_89 : decode cX8_hadOf 89 = .ok (.ireturn, 1) := by decide +kernel
theorem dX8_had_0 : decode cX8_had 0 = .ok (.iload_n 1, 1) := by decide +kernel
theorem dX8_had_1 : decode cX8_had 1 = .ok (.invokestatic 145, 3) := by decide +kernel
theorem dX8_had_4 : decode cX8_had 4 = .ok (.ifCond .eq 27, 3) := by decide +kernel
theorem dX8_had_7 : decode cX8_had 7 = .ok (.iload_n 2, 1) := by decide +kernel
theorem dX8_had_8 : decode cX8_had 8 = .ok (.invokestatic 184, 3) := by decide +kernel
theorem dX8_had_11 : decode cX8_had 11 = .ok (.ifCond .eq 20, 3) := by decide +kernel
theorem dX8_had_14 : decode cX8_had 14 = .ok (.iload_n 3, 1) := by decide +kernel
theorem dX8_had_15 : decode cX8_had 15 = .ok (.invokestatic 187, 3) := by decide +kernel
theorem dX8_had_18 : decode cX8_had 18 = .ok (.ifCond .eq 13, 3) := by decide +kernel
theorem dX8_had_21 : decode cX8_had 21 = .ok (.aload_n 0, 1) := by decide +kernel
theorem dX8_had_22 : decode cX8_had 22 = .ok (.iload_n 1, 1) := by decide +kernel
theorem dX8_had_23 : decode cX8_had 23 = .ok (.iload_n 2, 1) := by decide +kernel
theorem dX8_had_24 : decode cX8_had 24 = .ok (.iload_n 3, 1) := by decide +kernel
theorem dX8_had_25 : decode cX8_had 25 = .ok (.invokevirtual 190, 3) := by decide +kernel
theorem dX8_had_28 : decode cX8_had 28 = .ok (.goto 5, 3) := by decide +kernel
theorem dX8_had_31 : decode cX8_had 31 = .ok (.bipush (-2), 2) := by decide +kernel
theorem dX8_had_33 : decode cX8_had 33 = .ok (.ireturn, 1) := by decide +kernel
theorem dX8_askedOf_0 : decode cX8_askedOf 0 = .ok (.iconst 0, 1) := by decide +kernel
theorem dX8_askedOf_1 : decode cX8_askedOf 1 = .ok (.istore 4, 2) := by decide +kernel
theorem dX8_askedOf_3 : decode cX8_askedOf 3 = .ok (.iload_n 1, 1) := by decide +kernel
theorem dX8_askedOf_4 : decode cX8_askedOf 4 = .ok (.aload_n 0, 1) := by decide +kernel
theorem dX8_askedOf_5 : decode cX8_askedOf 5 = .ok (.invokevirtual 139, 3) := by decide +kernel
theorem dX8_askedOf_8 : decode cX8_askedOf 8 = .ok (.iand, 1) := by decide +kernel
theorem dX8_askedOf_9 : decode cX8_askedOf 9 = .ok (.istore 5, 2) := by decide +kernel
theorem dX8_askedOf_11 : decode cX8_askedOf 11 = .ok (.iconst 0, 1) := by decide +kernel
theorem dX8_askedOf_12 : decode cX8_askedOf 12 = .ok (.istore 6, 2) := by decide +kernel
theorem dX8_askedOf_14 : decode cX8_askedOf 14 = .ok (.iload 6, 2) := by decide +kernel
theorem dX8_askedOf_16 : decode cX8_askedOf 16 = .ok (.aload_n 0, 1) := by decide +kernel
theorem dX8_askedOf_17 : decode cX8_askedOf 17 = .ok (.getfield 86, 3) := by decide +kernel
theorem dX8_askedOf_20 : decode cX8_askedOf 20 = .ok (.if_icmp .ge 62, 3) := by decide +kernel
theorem dX8_askedOf_23 : decode cX8_askedOf 23 = .ok (.iload 4, 2) := by decide +kernel
theorem dX8_askedOf_25 : decode cX8_askedOf 25 = .ok (.iload 5, 2) := by decide +kernel
theorem dX8_askedOf_27 : decode cX8_askedOf 27 = .ok (.iload 6, 2) := by decide +kernel
theorem dX8_askedOf_29 : decode cX8_askedOf 29 = .ok (.invokestatic 126, 3) := by decide +kernel
theorem dX8_askedOf_32 : decode cX8_askedOf 32 = .ok (.ifCond .eq 40, 3) := by decide +kernel
theorem dX8_askedOf_35 : decode cX8_askedOf 35 = .ok (.aload_n 0, 1) := by decide +kernel
theorem dX8_askedOf_36 : decode cX8_askedOf 36 = .ok (.getfield 16, 3) := by decide +kernel
theorem dX8_askedOf_39 : decode cX8_askedOf 39 = .ok (.bipush 6, 2) := by decide +kernel
theorem dX8_askedOf_41 : decode cX8_askedOf 41 = .ok (.iload 6, 2) := by decide +kernel
theorem dX8_askedOf_43 : decode cX8_askedOf 43 = .ok (.imul, 1) := by decide +kernel
theorem dX8_askedOf_44 : decode cX8_askedOf 44 = .ok (.iaload, 1) := by decide +kernel
theorem dX8_askedOf_45 : decode cX8_askedOf 45 = .ok (.iload_n 2, 1) := by decide +kernel
theorem dX8_askedOf_46 : decode cX8_askedOf 46 = .ok (.if_icmp .ne 26, 3) := by decide +kernel
theorem dX8_askedOf_49 : decode cX8_askedOf 49 = .ok (.aload_n 0, 1) := by decide +kernel
theorem dX8_askedOf_50 : decode cX8_askedOf 50 = .ok (.getfield 16, 3) := by decide +kernel
theorem dX8_askedOf_53 : decode cX8_askedOf 53 = .ok (.bipush 6, 2) := by decide +kernel
theorem dX8_askedOf_55 : decode cX8_askedOf 55 = .ok (.iload 6, 2) := by decide +kernel
theorem dX8_askedOf_57 : decode cX8_askedOf 57 = .ok (.imul, 1) := by decide +kernel
theorem dX8_askedOf_58 : decode cX8_askedOf 58 = .ok (.iconst 2, 1) := by decide +kernel
theorem dX8_askedOf_59 : decode cX8_askedOf 59 = .ok (.iadd, 1) := by decide +kernel
theorem dX8_askedOf_60 : decode cX8_askedOf 60 = .ok (.iaload, 1) := by decide +kernel
theorem dX8_askedOf_61 : decode cX8_askedOf 61 = .ok (.iload_n 3, 1) := by decide +kernel
theorem dX8_askedOf_62 : decode cX8_askedOf 62 = .ok (.if_icmp .gt 10, 3) := by decide +kernel
theorem dX8_askedOf_65 : decode cX8_askedOf 65 = .ok (.iconst 1, 1) := by decide +kernel
theorem dX8_askedOf_66 : decode cX8_askedOf 66 = .ok (.iload 6, 2) := by decide +kernel
theorem dX8_askedOf_68 : decode cX8_askedOf 68 = .ok (.ishl, 1) := by decide +kernel
theorem dX8_askedOf_69 : decode cX8_askedOf 69 = .ok (.goto 4, 3) := by decide +kernel
theorem dX8_askedOf_72 : decode cX8_askedOf 72 = .ok (.iconst 0, 1) := by decide +kernel
theorem dX8_askedOf_73 : decode cX8_askedOf 73 = .ok (.ior, 1) := by decide +kernel
theorem dX8_askedOf_74 : decode cX8_askedOf 74 = .ok (.istore 4, 2) := by decide +kernel
theorem dX8_askedOf_76 : decode cX8_askedOf 76 = .ok (.iinc 6 1, 3) := by decide +kernel
theorem dX8_askedOf_79 : decode cX8_askedOf 79 = .ok (.goto (-65), 3) := by decide +kernel
theorem dX8_askedOf_82 : decode cX8_askedOf 82 = .ok (.iload 4, 2) := by decide +kernel
theorem dX8_askedOf_84 : decode cX8_askedOf 84 = .ok (.ireturn, 1) := by decide +kernel
theorem dX8_asked_0 : decode cX8_asked 0 = .ok (.iload_n 1, 1) := by decide +kernel
theorem dX8_asked_1 : decode cX8_asked 1 = .ok (.invokestatic 145, 3) := by decide +kernel
theorem dX8_asked_4 : decode cX8_asked 4 = .ok (.ifCond .eq 27, 3) := by decide +kernel
theorem dX8_asked_7 : decode cX8_asked 7 = .ok (.iload_n 2, 1) := by decide +kernel
theorem dX8_asked_8 : decode cX8_asked 8 = .ok (.invokestatic 184, 3) := by decide +kernel
theorem dX8_asked_11 : decode cX8_asked 11 = .ok (.ifCond .eq 20, 3) := by decide +kernel
theorem dX8_asked_14 : decode cX8_asked 14 = .ok (.iload_n 3, 1) := by decide +kernel
theorem dX8_asked_15 : decode cX8_asked 15 = .ok (.invokestatic 187, 3) := by decide +kernel
theorem dX8_asked_18 : decode cX8_asked 18 = .ok (.ifCond .eq 13, 3) := by decide +kernel
theorem dX8_asked_21 : decode cX8_asked 21 = .ok (.aload_n 0, 1) := by decide +kernel
theorem dX8_asked_22 : decode cX8_asked 22 = .ok (.iload_n 1, 1) := by decide +kernel
theorem dX8_asked_23 : decode cX8_asked 23 = .ok (.iload_n 2, 1) := by decide +kernel
theorem dX8_asked_24 : decode cX8_asked 24 = .ok (.iload_n 3, 1) := by decide +kernel
theorem dX8_asked_25 : decode cX8_asked 25 = .ok (.invokevirtual 193, 3) := by decide +kernel
theorem dX8_asked_28 : decode cX8_asked 28 = .ok (.goto 5, 3) := by decide +kernel
theorem dX8_asked_31 : decode cX8_asked 31 = .ok (.bipush (-2), 2) := by decide +kernel
theorem dX8_asked_33 : decode cX8_asked 33 = .ok (.ireturn, 1) := by decide +kernel
theorem dX8_openOf_0 : decode cX8_openOf 0 = .ok (.iconst 0, 1) := by decide +kernel
theorem dX8_openOf_1 : decode cX8_openOf 1 = .ok (.istore_n 3, 1) := by decide +kernel
theorem dX8_openOf_2 : decode cX8_openOf 2 = .ok (.iload_n 1, 1) := by decide +kernel
theorem dX8_openOf_3 : decode cX8_openOf 3 = .ok (.aload_n 0, 1) := by decide +kernel
theorem dX8_openOf_4 : decode cX8_openOf 4 = .ok (.invokevirtual 139, 3) := by decide +kernel
theorem dX8_openOf_7 : decode cX8_openOf 7 = .ok (.iand, 1) := by decide +kernel
theorem dX8_openOf_8 : decode cX8_openOf 8 = .ok (.istore 4, 2) := by decide +kernel
theorem dX8_openOf_10 : decode cX8_openOf 10 = .ok (.iconst 0, 1) := by decide +kernel
theorem dX8_openOf_11 : decode cX8_openOf 11 = .ok (.istore 5, 2) := by decide +kernel
theorem dX8_openOf_13 : decode cX8_openOf 13 = .ok (.iload 5, 2) := by decide +kernel
theorem dX8_openOf_15 : decode cX8_openOf 15 = .ok (.aload_n 0, 1) := by decide +kernel
theorem dX8_openOf_16 : decode cX8_openOf 16 = .ok (.getfield 86, 3) := by decide +kernel
theorem dX8_openOf_19 : decode cX8_openOf 19 = .ok (.if_icmp .ge 67, 3) := by decide +kernel
theorem dX8_openOf_22 : decode cX8_openOf 22 = .ok (.iload_n 3, 1) := by decide +kernel
theorem dX8_openOf_23 : decode cX8_openOf 23 = .ok (.iload 4, 2) := by decide +kernel
theorem dX8_openOf_25 : decode cX8_openOf 25 = .ok (.iload 5, 2) := by decide +kernel
theorem dX8_openOf_27 : decode cX8_openOf 27 = .ok (.invokestatic 126, 3) := by decide +kernel
theorem dX8_openOf_30 : decode cX8_openOf 30 = .ok (.ifCond .eq 47, 3) := by decide +kernel
theorem dX8_openOf_33 : decode cX8_openOf 33 = .ok (.aload_n 0, 1) := by decide +kernel
theorem dX8_openOf_34 : decode cX8_openOf 34 = .ok (.getfield 16, 3) := by decide +kernel
theorem dX8_openOf_37 : decode cX8_openOf 37 = .ok (.bipush 6, 2) := by decide +kernel
theorem dX8_openOf_39 : decode cX8_openOf 39 = .ok (.iload 5, 2) := by decide +kernel
theorem dX8_openOf_41 : decode cX8_openOf 41 = .ok (.imul, 1) := by decide +kernel
theorem dX8_openOf_42 : decode cX8_openOf 42 = .ok (.iconst 2, 1) := by decide +kernel
theorem dX8_openOf_43 : decode cX8_openOf 43 = .ok (.iadd, 1) := by decide +kernel
theorem dX8_openOf_44 : decode cX8_openOf 44 = .ok (.iaload, 1) := by decide +kernel
theorem dX8_openOf_45 : decode cX8_openOf 45 = .ok (.aload_n 0, 1) := by decide +kernel
theorem dX8_openOf_46 : decode cX8_openOf 46 = .ok (.getfield 59, 3) := by decide +kernel
theorem dX8_openOf_49 : decode cX8_openOf 49 = .ok (.isub, 1) := by decide +kernel
theorem dX8_openOf_50 : decode cX8_openOf 50 = .ok (.iload_n 2, 1) := by decide +kernel
theorem dX8_openOf_51 : decode cX8_openOf 51 = .ok (.if_icmp .gt 26, 3) := by decide +kernel
theorem dX8_openOf_54 : decode cX8_openOf 54 = .ok (.aload_n 0, 1) := by decide +kernel
theorem dX8_openOf_55 : decode cX8_openOf 55 = .ok (.getfield 16, 3) := by decide +kernel
theorem dX8_openOf_58 : decode cX8_openOf 58 = .ok (.bipush 6, 2) := by decide +kernel
theorem dX8_openOf_60 : decode cX8_openOf 60 = .ok (.iload 5, 2) := by decide +kernel
theorem dX8_openOf_62 : decode cX8_openOf 62 = .ok (.imul, 1) := by decide +kernel
theorem dX8_openOf_63 : decode cX8_openOf 63 = .ok (.iconst 2, 1) := by decide +kernel
theorem dX8_openOf_64 : decode cX8_openOf 64 = .ok (.iadd, 1) := by decide +kernel
theorem dX8_openOf_65 : decode cX8_openOf 65 = .ok (.iaload, 1) := by decide +kernel
theorem dX8_openOf_66 : decode cX8_openOf 66 = .ok (.iload_n 2, 1) := by decide +kernel
theorem dX8_openOf_67 : decode cX8_openOf 67 = .ok (.if_icmp .le 10, 3) := by decide +kernel
theorem dX8_openOf_70 : decode cX8_openOf 70 = .ok (.iconst 1, 1) := by decide +kernel
theorem dX8_openOf_71 : decode cX8_openOf 71 = .ok (.iload 5, 2) := by decide +kernel
theorem dX8_openOf_73 : decode cX8_openOf 73 = .ok (.ishl, 1) := by decide +kernel
theorem dX8_openOf_74 : decode cX8_openOf 74 = .ok (.goto 4, 3) := by decide +kernel
theorem dX8_openOf_77 : decode cX8_openOf 77 = .ok (.iconst 0, 1) := by decide +kernel
theorem dX8_openOf_78 : decode cX8_openOf 78 = .ok (.ior, 1) := by decide +kernel
theorem dX8_openOf_79 : decode cX8_openOf 79 = .ok (.istore_n 3, 1) := by decide +kernel
theorem dX8_openOf_80 : decode cX8_openOf 80 = .ok (.iinc 5 1, 3) := by decide +kernel
theorem dX8_openOf_83 : decode cX8_openOf 83 = .ok (.goto (-70), 3) := by decide +kernel
theorem dX8_openOf_86 : decode cX8_openOf 86 = .ok (.iload_n 3, 1) := by decide +kernel
theorem dX8_openOf_87 : decode cX8_openOf 87 = .ok (.ireturn, 1) := by decide +kernel
theorem dX8_open_0 : decode cX8_open 0 = .ok (.iload_n 1, 1) := by decide +kernel
theorem dX8_open_1 : decode cX8_open 1 = .ok (.invokestatic 145, 3) := by decide +kernel
theorem dX8_open_4 : decode cX8_open 4 = .ok (.ifCond .eq 19, 3) := by decide +kernel
theorem dX8_open_7 : decode cX8_open 7 = .ok (.iload_n 2, 1) := by decide +kernel
theorem dX8_open_8 : decode cX8_open 8 = .ok (.invokestatic 187, 3) := by decide +kernel
theorem dX8_open_11 : decode cX8_open 11 = .ok (.ifCond .eq 12, 3) := by decide +kernel
theorem dX8_open_14 : decode cX8_open 14 = .ok (.aload_n 0, 1) := by decide +kernel
theorem dX8_open_15 : decode cX8_open 15 = .ok (.iload_n 1, 1) := by decide +kernel
theorem dX8_open_16 : decode cX8_open 16 = .ok (.iload_n 2, 1) := by decide +kernel
theorem dX8_open_17 : decode cX8_open 17 = .ok (.invokevirtual 196, 3) := by decide +kernel
theorem dX8_open_20 : decode cX8_open 20 = .ok (.goto 5, 3) := by decide +kernel
theorem dX8_open_23 : decode cX8_open 23 = .ok (.bipush (-2), 2) := by decide +kernel
theorem dX8_open_25 : decode cX8_open 25 = .ok (.ireturn, 1) := by decide +kernel
theorem dX8_worthOf_0 : decode cX8_worthOf 0 = .ok (.iconst 0, 1) := by decide +kernel
theorem dX8_worthOf_1 : decode cX8_worthOf 1 = .ok (.istore_n 3, 1) := by decide +kernel
theorem dX8_worthOf_2 : decode cX8_worthOf 2 = .ok (.iconst 0, 1) := by decide +kernel
theorem dX8_worthOf_3 : decode cX8_worthOf 3 = .ok (.istore 4, 2) := by decide +kernel
theorem dX8_worthOf_5 : decode cX8_worthOf 5 = .ok (.iload 4, 2) := by decide +kernel
theorem dX8_worthOf_7 : decode cX8_worthOf 7 = .ok (.aload_n 0, 1) := by decide +kernel
theorem dX8_worthOf_8 : decode cX8_worthOf 8 = .ok (.getfield 86, 3) := by decide +kernel
theorem dX8_worthOf_11 : decode cX8_worthOf 11 = .ok (.if_icmp .ge 46, 3) := by decide +kernel
theorem dX8_worthOf_14 : decode cX8_worthOf 14 = .ok (.iload_n 3, 1) := by decide +kernel
theorem dX8_worthOf_15 : decode cX8_worthOf 15 = .ok (.iload_n 1, 1) := by decide +kernel
theorem dX8_worthOf_16 : decode cX8_worthOf 16 = .ok (.iload 4, 2) := by decide +kernel
theorem dX8_worthOf_18 : decode cX8_worthOf 18 = .ok (.invokestatic 126, 3) := by decide +kernel
theorem dX8_worthOf_21 : decode cX8_worthOf 21 = .ok (.ifCond .eq 27, 3) := by decide +kernel
theorem dX8_worthOf_24 : decode cX8_worthOf 24 = .ok (.aload_n 0, 1) := by decide +kernel
theorem dX8_worthOf_25 : decode cX8_worthOf 25 = .ok (.getfield 16, 3) := by decide +kernel
theorem dX8_worthOf_28 : decode cX8_worthOf 28 = .ok (.bipush 6, 2) := by decide +kernel
theorem dX8_worthOf_30 : decode cX8_worthOf 30 = .ok (.iload 4, 2) := by decide +kernel
theorem dX8_worthOf_32 : decode cX8_worthOf 32 = .ok (.imul, 1) := by decide +kernel
theorem dX8_worthOf_33 : decode cX8_worthOf 33 = .ok (.iaload, 1) := by decide +kernel
theorem dX8_worthOf_34 : decode cX8_worthOf 34 = .ok (.iload_n 2, 1) := by decide +kernel
theorem dX8_worthOf_35 : decode cX8_worthOf 35 = .ok (.if_icmp .ne 13, 3) := by decide +kernel
theorem dX8_worthOf_38 : decode cX8_worthOf 38 = .ok (.aload_n 0, 1) := by decide +kernel
theorem dX8_worthOf_39 : decode cX8_worthOf 39 = .ok (.getfield 25, 3) := by decide +kernel
theorem dX8_worthOf_42 : decode cX8_worthOf 42 = .ok (.iload 4, 2) := by decide +kernel
theorem dX8_worthOf_44 : decode cX8_worthOf 44 = .ok (.iaload, 1) := by decide +kernel
theorem dX8_worthOf_45 : decode cX8_worthOf 45 = .ok (.goto 4, 3) := by decide +kernel
theorem dX8_worthOf_48 : decode cX8_worthOf 48 = .ok (.iconst 0, 1) := by decide +kernel
theorem dX8_worthOf_49 : decode cX8_worthOf 49 = .ok (.iadd, 1) := by decide +kernel
theorem dX8_worthOf_50 : decode cX8_worthOf 50 = .ok (.istore_n 3, 1) := by decide +kernel
theorem dX8_worthOf_51 : decode cX8_worthOf 51 = .ok (.iinc 4 1, 3) := by decide +kernel
theorem dX8_worthOf_54 : decode cX8_worthOf 54 = .ok (.goto (-49), 3) := by decide +kernel
theorem dX8_worthOf_57 : decode cX8_worthOf 57 = .ok (.iload_n 3, 1) := by decide +kernel
theorem dX8_worthOf_58 : decode cX8_worthOf 58 = .ok (.ireturn, 1) := by decide +kernel
theorem dX8_bestBy_0 : decode cX8_bestBy 0 = .ok (.aload_n 0, 1) := by decide +kernel
theorem dX8_bestBy_1 : decode cX8_bestBy 1 = .ok (.invokevirtual 139, 3) := by decide +kernel
theorem dX8_bestBy_4 : decode cX8_bestBy 4 = .ok (.istore_n 3, 1) := by decide +kernel
theorem dX8_bestBy_5 : decode cX8_bestBy 5 = .ok (.iconst (-1), 1) := by decide +kernel
theorem dX8_bestBy_6 : decode cX8_bestBy 6 = .ok (.istore 4, 2) := by decide +kernel
theorem dX8_bestBy_8 : decode cX8_bestBy 8 = .ok (.iconst 0, 1) := by decide +kernel
theorem dX8_bestBy_9 : decode cX8_bestBy 9 = .ok (.istore 5, 2) := by decide +kernel
theorem dX8_bestBy_11 : decode cX8_bestBy 11 = .ok (.iload 5, 2) := by decide +kernel
theorem dX8_bestBy_13 : decode cX8_bestBy 13 = .ok (.iload_n 3, 1) := by decide +kernel
theorem dX8_bestBy_14 : decode cX8_bestBy 14 = .ok (.if_icmp .gt 63, 3) := by decide +kernel
theorem dX8_bestBy_17 : decode cX8_bestBy 17 = .ok (.aload_n 0, 1) := by decide +kernel
theorem dX8_bestBy_18 : decode cX8_bestBy 18 = .ok (.iload 5, 2) := by decide +kernel
theorem dX8_bestBy_20 : decode cX8_bestBy 20 = .ok (.iload_n 2, 1) := by decide +kernel
theorem dX8_bestBy_21 : decode cX8_bestBy 21 = .ok (.invokevirtual 142, 3) := by decide +kernel
theorem dX8_bestBy_24 : decode cX8_bestBy 24 = .ok (.ifCond .ne 7, 3) := by decide +kernel
theorem dX8_bestBy_27 : decode cX8_bestBy 27 = .ok (.iconst 1, 1) := by decide +kernel
theorem dX8_bestBy_28 : decode cX8_bestBy 28 = .ok (.goto 4, 3) := by decide +kernel
theorem dX8_bestBy_31 : decode cX8_bestBy 31 = .ok (.iconst 0, 1) := by decide +kernel
theorem dX8_bestBy_32 : decode cX8_bestBy 32 = .ok (.istore 6, 2) := by decide +kernel
theorem dX8_bestBy_34 : decode cX8_bestBy 34 = .ok (.iload 6, 2) := by decide +kernel
theorem dX8_bestBy_36 : decode cX8_bestBy 36 = .ok (.ifCond .eq 31, 3) := by decide +kernel
theorem dX8_bestBy_39 : decode cX8_bestBy 39 = .ok (.iload 4, 2) := by decide +kernel
theorem dX8_bestBy_41 : decode cX8_bestBy 41 = .ok (.iconst (-1), 1) := by decide +kernel
theorem dX8_bestBy_42 : decode cX8_bestBy 42 = .ok (.if_icmp .eq 20, 3) := by decide +kernel
theorem dX8_bestBy_45 : decode cX8_bestBy 45 = .ok (.aload_n 0, 1) := by decide +kernel
theorem dX8_bestBy_46 : decode cX8_bestBy 46 = .ok (.iload 5, 2) := by decide +kernel
theorem dX8_bestBy_48 : decode cX8_bestBy 48 = .ok (.iload_n 1, 1) := by decide +kernel
theorem dX8_bestBy_49 : decode cX8_bestBy 49 = .ok (.invokevirtual 199, 3) := by decide +kernel
theorem dX8_bestBy_52 : decode cX8_bestBy 52 = .ok (.aload_n 0, 1) := by decide +kernel
theorem dX8_bestBy_53 : decode cX8_bestBy 53 = .ok (.iload 4, 2) := by decide +kernel
theorem dX8_bestBy_55 : decode cX8_bestBy 55 = .ok (.iload_n 1, 1) := by decide +kernel
theorem dX8_bestBy_56 : decode cX8_bestBy 56 = .ok (.invokevirtual 199, 3) := by decide +kernel
theorem dX8_bestBy_59 : decode cX8_bestBy 59 = .ok (.if_icmp .le 8, 3) := by decide +kernel
theorem dX8_bestBy_62 : decode cX8_bestBy 62 = .ok (.iload 5, 2) := by decide +kernel
theorem dX8_bestBy_64 : decode cX8_bestBy 64 = .ok (.goto 5, 3) := by decide +kernel
theorem dX8_bestBy_67 : decode cX8_bestBy 67 = .ok (.iload 4, 2) := by decide +kernel
theorem dX8_bestBy_69 : decode cX8_bestBy 69 = .ok (.istore 4, 2) := by decide +kernel
theorem dX8_bestBy_71 : decode cX8_bestBy 71 = .ok (.iinc 5 1, 3) := by decide +kernel
theorem dX8_bestBy_74 : decode cX8_bestBy 74 = .ok (.goto (-63), 3) := by decide +kernel
theorem dX8_bestBy_77 : decode cX8_bestBy 77 = .ok (.iload 4, 2) := by decide +kernel
theorem dX8_bestBy_79 : decode cX8_bestBy 79 = .ok (.ireturn, 1) := by decide +kernel
theorem dX8_bestOf_0 : decode cX8_bestOf 0 = .ok (.aload_n 0, 1) := by decide +kernel
theorem dX8_bestOf_1 : decode cX8_bestOf 1 = .ok (.iload_n 1, 1) := by decide +kernel
theorem dX8_bestOf_2 : decode cX8_bestOf 2 = .ok (.aload_n 0, 1) := by decide +kernel
theorem dX8_bestOf_3 : decode cX8_bestOf 3 = .ok (.getfield 111, 3) := by decide +kernel
theorem dX8_bestOf_6 : decode cX8_bestOf 6 = .ok (.invokevirtual 202, 3) := by decide +kernel
theorem dX8_bestOf_9 : decode cX8_bestOf 9 = .ok (.istore_n 3, 1) := by decide +kernel
theorem dX8_bestOf_10 : decode cX8_bestOf 10 = .ok (.iload_n 2, 1) := by decide +kernel
theorem dX8_bestOf_11 : decode cX8_bestOf 11 = .ok (.iconst 1, 1) := by decide +kernel
theorem dX8_bestOf_12 : decode cX8_bestOf 12 = .ok (.if_icmp .ne 7, 3) := by decide +kernel
theorem dX8_bestOf_15 : decode cX8_bestOf 15 = .ok (.iload_n 3, 1) := by decide +kernel
theorem dX8_bestOf_16 : decode cX8_bestOf 16 = .ok (.goto 20, 3) := by decide +kernel
theorem dX8_bestOf_19 : decode cX8_bestOf 19 = .ok (.iload_n 3, 1) := by decide +kernel
theorem dX8_bestOf_20 : decode cX8_bestOf 20 = .ok (.iconst (-1), 1) := by decide +kernel
theorem dX8_bestOf_21 : decode cX8_bestOf 21 = .ok (.if_icmp .ne 9, 3) := by decide +kernel
theorem dX8_bestOf_24 : decode cX8_bestOf 24 = .ok (.sipush (-1003), 3) := by decide +kernel
theorem dX8_bestOf_27 : decode cX8_bestOf 27 = .ok (.goto 9, 3) := by decide +kernel
theorem dX8_bestOf_30 : decode cX8_bestOf 30 = .ok (.aload_n 0, 1) := by decide +kernel
theorem dX8_bestOf_31 : decode cX8_bestOf 31 = .ok (.iload_n 3, 1) := by decide +kernel
theorem dX8_bestOf_32 : decode cX8_bestOf 32 = .ok (.iload_n 1, 1) := by decide +kernel
theorem dX8_bestOf_33 : decode cX8_bestOf 33 = .ok (.invokevirtual 199, 3) := by decide +kernel
theorem dX8_bestOf_36 : decode cX8_bestOf 36 = .ok (.ireturn, 1) := by decide +kernel
theorem dX8_best_0 : decode cX8_best 0 = .ok (.iload_n 1, 1) := by decide +kernel
theorem dX8_best_1 : decode cX8_best 1 = .ok (.invokestatic 184, 3) := by decide +kernel
theorem dX8_best_4 : decode cX8_best 4 = .ok (.ifCond .eq 21, 3) := by decide +kernel
theorem dX8_best_7 : decode cX8_best 7 = .ok (.iload_n 2, 1) := by decide +kernel
theorem dX8_best_8 : decode cX8_best 8 = .ok (.iconst 0, 1) := by decide +kernel
theorem dX8_best_9 : decode cX8_best 9 = .ok (.iconst 1, 1) := by decide +kernel
theorem dX8_best_10 : decode cX8_best 10 = .ok (.invokestatic 66, 3) := by decide +kernel
theorem dX8_best_13 : decode cX8_best 13 = .ok (.ifCond .eq 12, 3) := by decide +kernel
theorem dX8_best_16 : decode cX8_best 16 = .ok (.aload_n 0, 1) := by decide +kernel
theorem dX8_best_17 : decode cX8_best 17 = .ok (.iload_n 1, 1) := by decide +kernel
theorem dX8_best_18 : decode cX8_best 18 = .ok (.iload_n 2, 1) := by decide +kernel
theorem dX8_best_19 : decode cX8_best 19 = .ok (.invokevirtual 205, 3) := by decide +kernel
theorem dX8_best_22 : decode cX8_best 22 = .ok (.goto 6, 3) := by decide +kernel
theorem dX8_best_25 : decode cX8_best 25 = .ok (.sipush (-1002), 3) := by decide +kernel
theorem dX8_best_28 : decode cX8_best 28 = .ok (.ireturn, 1) := by decide +kernel
theorem dX8_restOf_0 : decode cX8_restOf 0 = .ok (.iload_n 1, 1) := by decide +kernel
theorem dX8_restOf_1 : decode cX8_restOf 1 = .ok (.aload_n 0, 1) := by decide +kernel
theorem dX8_restOf_2 : decode cX8_restOf 2 = .ok (.invokevirtual 139, 3) := by decide +kernel
theorem dX8_restOf_5 : decode cX8_restOf 5 = .ok (.iand, 1) := by decide +kernel
theorem dX8_restOf_6 : decode cX8_restOf 6 = .ok (.istore_n 3, 1) := by decide +kernel
theorem dX8_restOf_7 : decode cX8_restOf 7 = .ok (.aload_n 0, 1) := by decide +kernel
theorem dX8_restOf_8 : decode cX8_restOf 8 = .ok (.iload_n 3, 1) := by decide +kernel
theorem dX8_restOf_9 : decode cX8_restOf 9 = .ok (.aload_n 0, 1) := by decide +kernel
theorem dX8_restOf_10 : decode cX8_restOf 10 = .ok (.getfield 111, 3) := by decide +kernel
theorem dX8_restOf_13 : decode cX8_restOf 13 = .ok (.invokevirtual 142, 3) := by decide +kernel
theorem dX8_restOf_16 : decode cX8_restOf 16 = .ok (.ifCond .eq 6, 3) := by decide +kernel
theorem dX8_restOf_19 : decode cX8_restOf 19 = .ok (.bipush (-3), 2) := by decide +kernel
theorem dX8_restOf_21 : decode cX8_restOf 21 = .ok (.ireturn, 1) := by decide +kernel
theorem dX8_restOf_22 : decode cX8_restOf 22 = .ok (.aload_n 0, 1) := by decide +kernel
theorem dX8_restOf_23 : decode cX8_restOf 23 = .ok (.getfield 111, 3) := by decide +kernel
theorem dX8_restOf_26 : decode cX8_restOf 26 = .ok (.istore 4, 2) := by decide +kernel
theorem dX8_restOf_28 : decode cX8_restOf 28 = .ok (.iconst 0, 1) := by decide +kernel
theorem dX8_restOf_29 : decode cX8_restOf 29 = .ok (.istore 5, 2) := by decide +kernel
theorem dX8_restOf_31 : decode cX8_restOf 31 = .ok (.iload 5, 2) := by decide +kernel
theorem dX8_restOf_33 : decode cX8_restOf 33 = .ok (.aload_n 0, 1) := by decide +kernel
theorem dX8_restOf_34 : decode cX8_restOf 34 = .ok (.getfield 86, 3) := by decide +kernel
theorem dX8_restOf_37 : decode cX8_restOf 37 = .ok (.if_icmp .ge 36, 3) := by decide +kernel
theorem dX8_restOf_40 : decode cX8_restOf 40 = .ok (.iload 4, 2) := by decide +kernel
theorem dX8_restOf_42 : decode cX8_restOf 42 = .ok (.aload_n 0, 1) := by decide +kernel
theorem dX8_restOf_43 : decode cX8_restOf 43 = .ok (.getfield 16, 3) := by decide +kernel
theorem dX8_restOf_46 : decode cX8_restOf 46 = .ok (.bipush 6, 2) := by decide +kernel
theorem dX8_restOf_48 : decode cX8_restOf 48 = .ok (.iload 5, 2) := by decide +kernel
theorem dX8_restOf_50 : decode cX8_restOf 50 = .ok (.imul, 1) := by decide +kernel
theorem dX8_restOf_51 : decode cX8_restOf 51 = .ok (.iaload, 1) := by decide +kernel
theorem dX8_restOf_52 : decode cX8_restOf 52 = .ok (.iload_n 2, 1) := by decide +kernel
theorem dX8_restOf_53 : decode cX8_restOf 53 = .ok (.if_icmp .ne 10, 3) := by decide +kernel
theorem dX8_restOf_56 : decode cX8_restOf 56 = .ok (.iconst 1, 1) := by decide +kernel
theorem dX8_restOf_57 : decode cX8_restOf 57 = .ok (.iload 5, 2) := by decide +kernel
theorem dX8_restOf_59 : decode cX8_restOf 59 = .ok (.ishl, 1) := by decide +kernel
theorem dX8_restOf_60 : decode cX8_restOf 60 = .ok (.goto 4, 3) := by decide +kernel
theorem dX8_restOf_63 : decode cX8_restOf 63 = .ok (.iconst 0, 1) := by decide +kernel
theorem dX8_restOf_64 : decode cX8_restOf 64 = .ok (.ior, 1) := by decide +kernel
theorem dX8_restOf_65 : decode cX8_restOf 65 = .ok (.istore 4, 2) := by decide +kernel
theorem dX8_restOf_67 : decode cX8_restOf 67 = .ok (.iinc 5 1, 3) := by decide +kernel
theorem dX8_restOf_70 : decode cX8_restOf 70 = .ok (.goto (-39), 3) := by decide +kernel
theorem dX8_restOf_73 : decode cX8_restOf 73 = .ok (.aload_n 0, 1) := by decide +kernel
theorem dX8_restOf_74 : decode cX8_restOf 74 = .ok (.aload_n 0, 1) := by decide +kernel
theorem dX8_restOf_75 : decode cX8_restOf 75 = .ok (.iload_n 2, 1) := by decide +kernel
theorem dX8_restOf_76 : decode cX8_restOf 76 = .ok (.iload 4, 2) := by decide +kernel
theorem dX8_restOf_78 : decode cX8_restOf 78 = .ok (.invokevirtual 202, 3) := by decide +kernel
theorem dX8_restOf_81 : decode cX8_restOf 81 = .ok (.iload_n 2, 1) := by decide +kernel
theorem dX8_restOf_82 : decode cX8_restOf 82 = .ok (.invokevirtual 199, 3) := by decide +kernel
theorem dX8_restOf_85 : decode cX8_restOf 85 = .ok (.aload_n 0, 1) := by decide +kernel
theorem dX8_restOf_86 : decode cX8_restOf 86 = .ok (.iload_n 3, 1) := by decide +kernel
theorem dX8_restOf_87 : decode cX8_restOf 87 = .ok (.iload_n 2, 1) := by decide +kernel
theorem dX8_restOf_88 : decode cX8_restOf 88 = .ok (.invokevirtual 199, 3) := by decide +kernel
theorem dX8_restOf_91 : decode cX8_restOf 91 = .ok (.if_icmp .le 7, 3) := by decide +kernel
theorem dX8_restOf_94 : decode cX8_restOf 94 = .ok (.iconst 0, 1) := by decide +kernel
theorem dX8_restOf_95 : decode cX8_restOf 95 = .ok (.goto 4, 3) := by decide +kernel
theorem dX8_restOf_98 : decode cX8_restOf 98 = .ok (.iconst 1, 1) := by decide +kernel
theorem dX8_restOf_99 : decode cX8_restOf 99 = .ok (.ireturn, 1) := by decide +kernel
theorem dX8_rest_0 : decode cX8_rest 0 = .ok (.iload_n 1, 1) := by decide +kernel
theorem dX8_rest_1 : decode cX8_rest 1 = .ok (.invokestatic 145, 3) := by decide +kernel
theorem dX8_rest_4 : decode cX8_rest 4 = .ok (.ifCond .eq 19, 3) := by decide +kernel
theorem dX8_rest_7 : decode cX8_rest 7 = .ok (.iload_n 2, 1) := by decide +kernel
theorem dX8_rest_8 : decode cX8_rest 8 = .ok (.invokestatic 184, 3) := by decide +kernel
theorem dX8_rest_11 : decode cX8_rest 11 = .ok (.ifCond .eq 12, 3) := by decide +kernel
theorem dX8_rest_14 : decode cX8_rest 14 = .ok (.aload_n 0, 1) := by decide +kernel
theorem dX8_rest_15 : decode cX8_rest 15 = .ok (.iload_n 1, 1) := by decide +kernel
theorem dX8_rest_16 : decode cX8_rest 16 = .ok (.iload_n 2, 1) := by decide +kernel
theorem dX8_rest_17 : decode cX8_rest 17 = .ok (.invokevirtual 208, 3) := by decide +kernel
theorem dX8_rest_20 : decode cX8_rest 20 = .ok (.goto 5, 3) := by decide +kernel
theorem dX8_rest_23 : decode cX8_rest 23 = .ok (.bipush (-2), 2) := by decide +kernel
theorem dX8_rest_25 : decode cX8_rest 25 = .ok (.ireturn, 1) := by decide +kernel
theorem dX8_canBe_0 : decode cX8_canBe 0 = .ok (.iconst 3, 1) := by decide +kernel
theorem dX8_canBe_1 : decode cX8_canBe 1 = .ok (.iload_n 2, 1) := by decide +kernel
theorem dX8_canBe_2 : decode cX8_canBe 2 = .ok (.imul, 1) := by decide +kernel
theorem dX8_canBe_3 : decode cX8_canBe 3 = .ok (.istore_n 3, 1) := by decide +kernel
theorem dX8_canBe_4 : decode cX8_canBe 4 = .ok (.bipush 33, 2) := by decide +kernel
theorem dX8_canBe_6 : decode cX8_canBe 6 = .ok (.iconst 3, 1) := by decide +kernel
theorem dX8_canBe_7 : decode cX8_canBe 7 = .ok (.iload_n 1, 1) := by decide +kernel
theorem dX8_canBe_8 : decode cX8_canBe 8 = .ok (.imul, 1) := by decide +kernel
theorem dX8_canBe_9 : decode cX8_canBe 9 = .ok (.iadd, 1) := by decide +kernel
theorem dX8_canBe_10 : decode cX8_canBe 10 = .ok (.istore 4, 2) := by decide +kernel
theorem dX8_canBe_12 : decode cX8_canBe 12 = .ok (.aload_n 0, 1) := by decide +kernel
theorem dX8_canBe_13 : decode cX8_canBe 13 = .ok (.getfield 22, 3) := by decide +kernel
theorem dX8_canBe_16 : decode cX8_canBe 16 = .ok (.iload 4, 2) := by decide +kernel
theorem dX8_canBe_18 : decode cX8_canBe 18 = .ok (.iaload, 1) := by decide +kernel
theorem dX8_canBe_19 : decode cX8_canBe 19 = .ok (.aload_n 0, 1) := by decide +kernel
theorem dX8_canBe_20 : decode cX8_canBe 20 = .ok (.getfield 22, 3) := by decide +kernel
theorem dX8_canBe_23 : decode cX8_canBe 23 = .ok (.iload_n 3, 1) := by decide +kernel
theorem dX8_canBe_24 : decode cX8_canBe 24 = .ok (.iaload, 1) := by decide +kernel
theorem dX8_canBe_25 : decode cX8_canBe 25 = .ok (.isub, 1) := by decide +kernel
theorem dX8_canBe_26 : decode cX8_canBe 26 = .ok (.aload_n 0, 1) := by decide +kernel
theorem dX8_canBe_27 : decode cX8_canBe 27 = .ok (.getfield 59, 3) := by decide +kernel
theorem dX8_canBe_30 : decode cX8_canBe 30 = .ok (.isub, 1) := by decide +kernel
theorem dX8_canBe_31 : decode cX8_canBe 31 = .ok (.istore 5, 2) := by decide +kernel
theorem dX8_canBe_33 : decode cX8_canBe 33 = .ok (.aload_n 0, 1) := by decide +kernel
theorem dX8_canBe_34 : decode cX8_canBe 34 = .ok (.getfield 22, 3) := by decide +kernel
theorem dX8_canBe_37 : decode cX8_canBe 37 = .ok (.iload 4, 2) := by decide +kernel
theorem dX8_canBe_39 : decode cX8_canBe 39 = .ok (.iconst 1, 1) := by decide +kernel
theorem dX8_canBe_40 : decode cX8_canBe 40 = .ok (.iadd, 1) := by decide +kernel
theorem dX8_canBe_41 : decode cX8_canBe 41 = .ok (.iaload, 1) := by decide +kernel
theorem dX8_canBe_42 : decode cX8_canBe 42 = .ok (.aload_n 0, 1) := by decide +kernel
theorem dX8_canBe_43 : decode cX8_canBe 43 = .ok (.getfield 22, 3) := by decide +kernel
theorem dX8_canBe_46 : decode cX8_canBe 46 = .ok (.iload_n 3, 1) := by decide +kernel
theorem dX8_canBe_47 : decode cX8_canBe 47 = .ok (.iconst 2, 1) := by decide +kernel
theorem dX8_canBe_48 : decode cX8_canBe 48 = .ok (.iadd, 1) := by decide +kernel
theorem dX8_canBe_49 : decode cX8_canBe 49 = .ok (.iaload, 1) := by decide +kernel
theorem dX8_canBe_50 : decode cX8_canBe 50 = .ok (.if_icmp .ne 40, 3) := by decide +kernel
theorem dX8_canBe_53 : decode cX8_canBe 53 = .ok (.aload_n 0, 1) := by decide +kernel
theorem dX8_canBe_54 : decode cX8_canBe 54 = .ok (.getfield 22, 3) := by decide +kernel
theorem dX8_canBe_57 : decode cX8_canBe 57 = .ok (.iload 4, 2) := by decide +kernel
theorem dX8_canBe_59 : decode cX8_canBe 59 = .ok (.iconst 2, 1) := by decide +kernel
theorem dX8_canBe_60 : decode cX8_canBe 60 = .ok (.iadd, 1) := by decide +kernel
theorem dX8_canBe_61 : decode cX8_canBe 61 = .ok (.iaload, 1) := by decide +kernel
theorem dX8_canBe_62 : decode cX8_canBe 62 = .ok (.aload_n 0, 1) := by decide +kernel
theorem dX8_canBe_63 : decode cX8_canBe 63 = .ok (.getfield 22, 3) := by decide +kernel
theorem dX8_canBe_66 : decode cX8_canBe 66 = .ok (.iload_n 3, 1) := by decide +kernel
theorem dX8_canBe_67 : decode cX8_canBe 67 = .ok (.iconst 1, 1) := by decide +kernel
theorem dX8_canBe_68 : decode cX8_canBe 68 = .ok (.iadd, 1) := by decide +kernel
theorem dX8_canBe_69 : decode cX8_canBe 69 = .ok (.iaload, 1) := by decide +kernel
theorem dX8_canBe_70 : decode cX8_canBe 70 = .ok (.if_icmp .ne 20, 3) := by decide +kernel
theorem dX8_canBe_73 : decode cX8_canBe 73 = .ok (.iload 5, 2) := by decide +kernel
theorem dX8_canBe_75 : decode cX8_canBe 75 = .ok (.iconst 0, 1) := by decide +kernel
theorem dX8_canBe_76 : decode cX8_canBe 76 = .ok (.aload_n 0, 1) := by decide +kernel
theorem dX8_canBe_77 : decode cX8_canBe 77 = .ok (.getfield 108, 3) := by decide +kernel
theorem dX8_canBe_80 : decode cX8_canBe 80 = .ok (.invokestatic 66, 3) := by decide +kernel
theorem dX8_canBe_83 : decode cX8_canBe 83 = .ok (.ifCond .eq 7, 3) := by decide +kernel
theorem dX8_canBe_86 : decode cX8_canBe 86 = .ok (.iconst 1, 1) := by decide +kernel
theorem dX8_canBe_87 : decode cX8_canBe 87 = .ok (.goto 4, 3) := by decide +kernel
theorem dX8_canBe_90 : decode cX8_canBe 90 = .ok (.iconst 0, 1) := by decide +kernel
theorem dX8_canBe_91 : decode cX8_canBe 91 = .ok (.ireturn, 1) := by decide +kernel
theorem dX8_owedOf_0 : decode cX8_owedOf 0 = .ok (.aload_n 0, 1) := by decide +kernel
theorem dX8_owedOf_1 : decode cX8_owedOf 1 = .ok (.invokevirtual 102, 3) := by decide +kernel
theorem dX8_owedOf_4 : decode cX8_owedOf 4 = .ok (.iconst 0, 1) := by decide +kernel
theorem dX8_owedOf_5 : decode cX8_owedOf 5 = .ok (.istore_n 2, 1) := by decide +kernel
theorem dX8_owedOf_6 : decode cX8_owedOf 6 = .ok (.iload_n 2, 1) := by decide +kernel
theorem dX8_owedOf_7 : decode cX8_owedOf 7 = .ok (.sipush 1024, 3) := by decide +kernel
theorem dX8_owedOf_10 : decode cX8_owedOf 10 = .ok (.if_icmp .ge 24, 3) := by decide +kernel
theorem dX8_owedOf_13 : decode cX8_owedOf 13 = .ok (.aload_n 0, 1) := by decide +kernel
theorem dX8_owedOf_14 : decode cX8_owedOf 14 = .ok (.getfield 34, 3) := by decide +kernel
theorem dX8_owedOf_17 : decode cX8_owedOf 17 = .ok (.iload_n 2, 1) := by decide +kernel
theorem dX8_owedOf_18 : decode cX8_owedOf 18 = .ok (.iload_n 2, 1) := by decide +kernel
theorem dX8_owedOf_19 : decode cX8_owedOf 19 = .ok (.ifCond .ne 7, 3) := by decide +kernel
theorem dX8_owedOf_22 : decode cX8_owedOf 22 = .ok (.iconst 0, 1) := by decide +kernel
theorem dX8_owedOf_23 : decode cX8_owedOf 23 = .ok (.goto 4, 3) := by decide +kernel
theorem dX8_owedOf_26 : decode cX8_owedOf 26 = .ok (.iconst (-1), 1) := by decide +kernel
theorem dX8_owedOf_27 : decode cX8_owedOf 27 = .ok (.iastore, 1) := by decide +kernel
theorem dX8_owedOf_28 : decode cX8_owedOf 28 = .ok (.iinc 2 1, 3) := by decide +kernel
theorem dX8_owedOf_31 : decode cX8_owedOf 31 = .ok (.goto (-25), 3) := by decide +kernel
theorem dX8_owedOf_34 : decode cX8_owedOf 34 = .ok (.iconst 0, 1) := by decide +kernel
theorem dX8_owedOf_35 : decode cX8_owedOf 35 = .ok (.istore_n 2, 1) := by decide +kernel
theorem dX8_owedOf_36 : decode cX8_owedOf 36 = .ok (.iconst 0, 1) := by decide +kernel
theorem dX8_owedOf_37 : decode cX8_owedOf 37 = .ok (.istore_n 3, 1) := by decide +kernel
theorem dX8_owedOf_38 : decode cX8_owedOf 38 = .ok (.iload_n 3, 1) := by decide +kernel
theorem dX8_owedOf_39 : decode cX8_owedOf 39 = .ok (.aload_n 0, 1) := by decide +kernel
theorem dX8_owedOf_40 : decode cX8_owedOf 40 = .ok (.getfield 19, 3) := by decide +kernel
theorem dX8_owedOf_43 : decode cX8_owedOf 43 = .ok (.iconst 0, 1) := by decide +kernel
theorem dX8_owedOf_44 : decode cX8_owedOf 44 = .ok (.iaload, 1) := by decide +kernel
theorem dX8_owedOf_45 : decode cX8_owedOf 45 = .ok (.if_icmp .ge 146, 3) := by decide +kernel
theorem dX8_owedOf_48 : decode cX8_owedOf 48 = .ok (.iload_n 1, 1) := by decide +kernel
theorem dX8_owedOf_49 : decode cX8_owedOf 49 = .ok (.iconst (-1), 1) := by decide +kernel
theorem dX8_owedOf_50 : decode cX8_owedOf 50 = .ok (.if_icmp .eq 20, 3) := by decide +kernel
theorem dX8_owedOf_53 : decode cX8_owedOf 53 = .ok (.aload_n 0, 1) := by decide +kernel
theorem dX8_owedOf_54 : decode cX8_owedOf 54 = .ok (.getfield 22, 3) := by decide +kernel
theorem dX8_owedOf_57 : decode cX8_owedOf 57 = .ok (.iconst 3, 1) := by decide +kernel
theorem dX8_owedOf_58 : decode cX8_owedOf 58 = .ok (.iload_n 3, 1) := by decide +kernel
theorem dX8_owedOf_59 : decode cX8_owedOf 59 = .ok (.imul, 1) := by decide +kernel
theorem dX8_owedOf_60 : decode cX8_owedOf 60 = .ok (.iconst 2, 1) := by decide +kernel
theorem dX8_owedOf_61 : decode cX8_owedOf 61 = .ok (.iadd, 1) := by decide +kernel
theorem dX8_owedOf_62 : decode cX8_owedOf 62 = .ok (.iaload, 1) := by decide +kernel
theorem dX8_owedOf_63 : decode cX8_owedOf 63 = .ok (.iload_n 1, 1) := by decide +kernel
theorem dX8_owedOf_64 : decode cX8_owedOf 64 = .ok (.if_icmp .eq 6, 3) := by decide +kernel
theorem dX8_owedOf_67 : decode cX8_owedOf 67 = .ok (.goto 118, 3) := by decide +kernel
theorem dX8_owedOf_70 : decode cX8_owedOf 70 = .ok (.iinc 2 1, 3) := by decide +kernel
theorem dX8_owedOf_73 : decode cX8_owedOf 73 = .ok (.sipush 1023, 3) := by decide +kernel
theorem dX8_owedOf_76 : decode cX8_owedOf 76 = .ok (.istore 4, 2) := by decide +kernel
theorem dX8_owedOf_78 : decode cX8_owedOf 78 = .ok (.iload 4, 2) := by decide +kernel
theorem dX8_owedOf_80 : decode cX8_owedOf 80 = .ok (.ifCond .lt 105, 3) := by decide +kernel
theorem dX8_owedOf_83 : decode cX8_owedOf 83 = .ok (.iconst 0, 1) := by decide +kernel
theorem dX8_owedOf_84 : decode cX8_owedOf 84 = .ok (.istore 5, 2) := by decide +kernel
theorem dX8_owedOf_86 : decode cX8_owedOf 86 = .ok (.iload 5, 2) := by decide +kernel
theorem dX8_owedOf_88 : decode cX8_owedOf 88 = .ok (.aload_n 0, 1) := by decide +kernel
theorem dX8_owedOf_89 : decode cX8_owedOf 89 = .ok (.getfield 19, 3) := by decide +kernel
theorem dX8_owedOf_92 : decode cX8_owedOf 92 = .ok (.iconst 1, 1) := by decide +kernel
theorem dX8_owedOf_93 : decode cX8_owedOf 93 = .ok (.iaload, 1) := by decide +kernel
theorem dX8_owedOf_94 : decode cX8_owedOf 94 = .ok (.if_icmp .ge 85, 3) := by decide +kernel
theorem dX8_owedOf_97 : decode cX8_owedOf 97 = .ok (.aload_n 0, 1) := by decide +kernel
theorem dX8_owedOf_98 : decode cX8_owedOf 98 = .ok (.getfield 34, 3) := by decide +kernel
theorem dX8_owedOf_101 : decode cX8_owedOf 101 = .ok (.iload 4, 2) := by decide +kernel
theorem dX8_owedOf_103 : decode cX8_owedOf 103 = .ok (.iaload, 1) := by decide +kernel
theorem dX8_owedOf_104 : decode cX8_owedOf 104 = .ok (.iconst (-1), 1) := by decide +kernel
theorem dX8_owedOf_105 : decode cX8_owedOf 105 = .ok (.if_icmp .eq 74, 3) := by decide +kernel
theorem dX8_owedOf_108 : decode cX8_owedOf 108 = .ok (.iload 4, 2) := by decide +kernel
theorem dX8_owedOf_110 : decode cX8_owedOf 110 = .ok (.iload 5, 2) := by decide +kernel
theorem dX8_owedOf_112 : decode cX8_owedOf 112 = .ok (.invokestatic 126, 3) := by decide +kernel
theorem dX8_owedOf_115 : decode cX8_owedOf 115 = .ok (.ifCond .ne 58, 3) := by decide +kernel
theorem dX8_owedOf_118 : decode cX8_owedOf 118 = .ok (.aload_n 0, 1) := by decide +kernel
theorem dX8_owedOf_119 : decode cX8_owedOf 119 = .ok (.iload 5, 2) := by decide +kernel
theorem dX8_owedOf_121 : decode cX8_owedOf 121 = .ok (.iload_n 3, 1) := by decide +kernel
theorem dX8_owedOf_122 : decode cX8_owedOf 122 = .ok (.invokevirtual 211, 3) := by decide +kernel
theorem dX8_owedOf_125 : decode cX8_owedOf 125 = .ok (.ifCond .eq 48, 3) := by decide +kernel
theorem dX8_owedOf_128 : decode cX8_owedOf 128 = .ok (.aload_n 0, 1) := by decide +kernel
theorem dX8_owedOf_129 : decode cX8_owedOf 129 = .ok (.getfield 34, 3) := by decide +kernel
theorem dX8_owedOf_132 : decode cX8_owedOf 132 = .ok (.iload 4, 2) := by decide +kernel
theorem dX8_owedOf_134 : decode cX8_owedOf 134 = .ok (.iconst 1, 1) := by decide +kernel
theorem dX8_owedOf_135 : decode cX8_owedOf 135 = .ok (.iload 5, 2) := by decide +kernel
theorem dX8_owedOf_137 : decode cX8_owedOf 137 = .ok (.ishl, 1) := by decide +kernel
theorem dX8_owedOf_138 : decode cX8_owedOf 138 = .ok (.ior, 1) := by decide +kernel
theorem dX8_owedOf_139 : decode cX8_owedOf 139 = .ok (.iaload, 1) := by decide +kernel
theorem dX8_owedOf_140 : decode cX8_owedOf 140 = .ok (.aload_n 0, 1) := by decide +kernel
theorem dX8_owedOf_141 : decode cX8_owedOf 141 = .ok (.getfield 34, 3) := by decide +kernel
theorem dX8_owedOf_144 : decode cX8_owedOf 144 = .ok (.iload 4, 2) := by decide +kernel
theorem dX8_owedOf_146 : decode cX8_owedOf 146 = .ok (.iaload, 1) := by decide +kernel
theorem dX8_owedOf_147 : decode cX8_owedOf 147 = .ok (.iconst 1, 1) := by decide +kernel
theorem dX8_owedOf_148 : decode cX8_owedOf 148 = .ok (.iadd, 1) := by decide +kernel
theorem dX8_owedOf_149 : decode cX8_owedOf 149 = .ok (.if_icmp .ge 24, 3) := by decide +kernel
theorem dX8_owedOf_152 : decode cX8_owedOf 152 = .ok (.aload_n 0, 1) := by decide +kernel
theorem dX8_owedOf_153 : decode cX8_owedOf 153 = .ok (.getfield 34, 3) := by decide +kernel
theorem dX8_owedOf_156 : decode cX8_owedOf 156 = .ok (.iload 4, 2) := by decide +kernel
theorem dX8_owedOf_158 : decode cX8_owedOf 158 = .ok (.iconst 1, 1) := by decide +kernel
theorem dX8_owedOf_159 : decode cX8_owedOf 159 = .ok (.iload 5, 2) := by decide +kernel
theorem dX8_owedOf_161 : decode cX8_owedOf 161 = .ok (.ishl, 1) := by decide +kernel
theorem dX8_owedOf_162 : decode cX8_owedOf 162 = .ok (.ior, 1) := by decide +kernel
theorem dX8_owedOf_163 : decode cX8_owedOf 163 = .ok (.aload_n 0, 1) := by decide +kernel
theorem dX8_owedOf_164 : decode cX8_owedOf 164 = .ok (.getfield 34, 3) := by decide +kernel
theorem dX8_owedOf_167 : decode cX8_owedOf 167 = .ok (.iload 4, 2) := by decide +kernel
theorem dX8_owedOf_169 : decode cX8_owedOf 169 = .ok (.iaload, 1) := by decide +kernel
theorem dX8_owedOf_170 : decode cX8_owedOf 170 = .ok (.iconst 1, 1) := by decide +kernel
theorem dX8_owedOf_171 : decode cX8_owedOf 171 = .ok (.iadd, 1) := by decide +kernel
theorem dX8_owedOf_172 : decode cX8_owedOf 172 = .ok (.iastore, 1) := by decide +kernel
theorem dX8_owedOf_173 : decode cX8_owedOf 173 = .ok (.iinc 5 1, 3) := by decide +kernel
theorem dX8_owedOf_176 : decode cX8_owedOf 176 = .ok (.goto (-90), 3) := by decide +kernel
theorem dX8_owedOf_179 : decode cX8_owedOf 179 = .ok (.iinc 4 (-1), 3) := by decide +kernel
theorem dX8_owedOf_182 : decode cX8_owedOf 182 = .ok (.goto (-104), 3) := by decide +kernel
theorem dX8_owedOf_185 : decode cX8_owedOf 185 = .ok (.iinc 3 1, 3) := by decide +kernel
theorem dX8_owedOf_188 : decode cX8_owedOf 188 = .ok (.goto (-150), 3) := by decide +kernel
theorem dX8_owedOf_191 : decode cX8_owedOf 191 = .ok (.iconst 0, 1) := by decide +kernel
theorem dX8_owedOf_192 : decode cX8_owedOf 192 = .ok (.istore_n 3, 1) := by decide +kernel
theorem dX8_owedOf_193 : decode cX8_owedOf 193 = .ok (.iconst 0, 1) := by decide +kernel
theorem dX8_owedOf_194 : decode cX8_owedOf 194 = .ok (.istore 4, 2) := by decide +kernel
theorem dX8_owedOf_196 : decode cX8_owedOf 196 = .ok (.iload 4, 2) := by decide +kernel
theorem dX8_owedOf_198 : decode cX8_owedOf 198 = .ok (.sipush 1024, 3) := by decide +kernel
theorem dX8_owedOf_201 : decode cX8_owedOf 201 = .ok (.if_icmp .ge 32, 3) := by decide +kernel
theorem dX8_owedOf_204 : decode cX8_owedOf 204 = .ok (.aload_n 0, 1) := by decide +kernel
theorem dX8_owedOf_205 : decode cX8_owedOf 205 = .ok (.getfield 34, 3) := by decide +kernel
theorem dX8_owedOf_208 : decode cX8_owedOf 208 = .ok (.iload 4, 2) := by decide +kernel
theorem dX8_owedOf_210 : decode cX8_owedOf 210 = .ok (.iaload, 1) := by decide +kernel
theorem dX8_owedOf_211 : decode cX8_owedOf 211 = .ok (.iload_n 3, 1) := by decide +kernel
theorem dX8_owedOf_212 : decode cX8_owedOf 212 = .ok (.if_icmp .le 13, 3) := by decide +kernel
theorem dX8_owedOf_215 : decode cX8_owedOf 215 = .ok (.aload_n 0, 1) := by decide +kernel
theorem dX8_owedOf_216 : decode cX8_owedOf 216 = .ok (.getfield 34, 3) := by decide +kernel
theorem dX8_owedOf_219 : decode cX8_owedOf 219 = .ok (.iload 4, 2) := by decide +kernel
theorem dX8_owedOf_221 : decode cX8_owedOf 221 = .ok (.iaload, 1) := by decide +kernel
theorem dX8_owedOf_222 : decode cX8_owedOf 222 = .ok (.goto 4, 3) := by decide +kernel
theorem dX8_owedOf_225 : decode cX8_owedOf 225 = .ok (.iload_n 3, 1) := by decide +kernel
theorem dX8_owedOf_226 : decode cX8_owedOf 226 = .ok (.istore_n 3, 1) := by decide +kernel
theorem dX8_owedOf_227 : decode cX8_owedOf 227 = .ok (.iinc 4 1, 3) := by decide +kernel
theorem dX8_owedOf_230 : decode cX8_owedOf 230 = .ok (.goto (-34), 3) := by decide +kernel
theorem dX8_owedOf_233 : decode cX8_owedOf 233 = .ok (.iload_n 2, 1) := by decide +kernel
theorem dX8_owedOf_234 : decode cX8_owedOf 234 = .ok (.iload_n 3, 1) := by decide +kernel
theorem dX8_owedOf_235 : decode cX8_owedOf 235 = .ok (.isub, 1) := by decide +kernel
theorem dX8_owedOf_236 : decode cX8_owedOf 236 = .ok (.ireturn, 1) := by decide +kernel
theorem dX8_owed_0 : decode cX8_owed 0 = .ok (.iload_n 1, 1) := by decide +kernel
theorem dX8_owed_1 : decode cX8_owed 1 = .ok (.iconst (-1), 1) := by decide +kernel
theorem dX8_owed_2 : decode cX8_owed 2 = .ok (.if_icmp .eq 10, 3) := by decide +kernel
theorem dX8_owed_5 : decode cX8_owed 5 = .ok (.iload_n 1, 1) := by decide +kernel
theorem dX8_owed_6 : decode cX8_owed 6 = .ok (.invokestatic 184, 3) := by decide +kernel
theorem dX8_owed_9 : decode cX8_owed 9 = .ok (.ifCond .eq 11, 3) := by decide +kernel
theorem dX8_owed_12 : decode cX8_owed 12 = .ok (.aload_n 0, 1) := by decide +kernel
theorem dX8_owed_13 : decode cX8_owed 13 = .ok (.iload_n 1, 1) := by decide +kernel
theorem dX8_owed_14 : decode cX8_owed 14 = .ok (.invokevirtual 214, 3) := by decide +kernel
theorem dX8_owed_17 : decode cX8_owed 17 = .ok (.goto 5, 3) := by decide +kernel
theorem dX8_owed_20 : decode cX8_owed 20 = .ok (.bipush (-2), 2) := by decide +kernel
theorem dX8_owed_22 : decode cX8_owed 22 = .ok (.ireturn, 1) := by decide +kernel
theorem dX8_lackNow_0 : decode cX8_lackNow 0 = .ok (.aload_n 0, 1) := by decide +kernel
theorem dX8_lackNow_1 : decode cX8_lackNow 1 = .ok (.invokevirtual 102, 3) := by decide +kernel
theorem dX8_lackNow_4 : decode cX8_lackNow 4 = .ok (.iconst 0, 1) := by decide +kernel
theorem dX8_lackNow_5 : decode cX8_lackNow 5 = .ok (.istore_n 1, 1) := by decide +kernel
theorem dX8_lackNow_6 : decode cX8_lackNow 6 = .ok (.iconst 0, 1) := by decide +kernel
theorem dX8_lackNow_7 : decode cX8_lackNow 7 = .ok (.istore_n 2, 1) := by decide +kernel
theorem dX8_lackNow_8 : decode cX8_lackNow 8 = .ok (.iconst 1, 1) := by decide +kernel
theorem dX8_lackNow_9 : decode cX8_lackNow 9 = .ok (.istore_n 3, 1) := by decide +kernel
theorem dX8_lackNow_10 : decode cX8_lackNow 10 = .ok (.iload_n 3, 1) := by decide +kernel
theorem dX8_lackNow_11 : decode cX8_lackNow 11 = .ok (.iconst 1, 1) := by decide +kernel
theorem dX8_lackNow_12 : decode cX8_lackNow 12 = .ok (.aload_n 0, 1) := by decide +kernel
theorem dX8_lackNow_13 : decode cX8_lackNow 13 = .ok (.getfield 19, 3) := by decide +kernel
theorem dX8_lackNow_16 : decode cX8_lackNow 16 = .ok (.iconst 0, 1) := by decide +kernel
theorem dX8_lackNow_17 : decode cX8_lackNow 17 = .ok (.iaload, 1) := by decide +kernel
theorem dX8_lackNow_18 : decode cX8_lackNow 18 = .ok (.ishl, 1) := by decide +kernel
theorem dX8_lackNow_19 : decode cX8_lackNow 19 = .ok (.if_icmp .ge 164, 3) := by decide +kernel
theorem dX8_lackNow_22 : decode cX8_lackNow 22 = .ok (.iconst 0, 1) := by decide +kernel
theorem dX8_lackNow_23 : decode cX8_lackNow 23 = .ok (.istore 4, 2) := by decide +kernel
theorem dX8_lackNow_25 : decode cX8_lackNow 25 = .ok (.iconst 0, 1) := by decide +kernel
theorem dX8_lackNow_26 : decode cX8_lackNow 26 = .ok (.istore 5, 2) := by decide +kernel
theorem dX8_lackNow_28 : decode cX8_lackNow 28 = .ok (.iload 5, 2) := by decide +kernel
theorem dX8_lackNow_30 : decode cX8_lackNow 30 = .ok (.aload_n 0, 1) := by decide +kernel
theorem dX8_lackNow_31 : decode cX8_lackNow 31 = .ok (.getfield 19, 3) := by decide +kernel
theorem dX8_lackNow_34 : decode cX8_lackNow 34 = .ok (.iconst 1, 1) := by decide +kernel
theorem dX8_lackNow_35 : decode cX8_lackNow 35 = .ok (.iaload, 1) := by decide +kernel
theorem dX8_lackNow_36 : decode cX8_lackNow 36 = .ok (.if_icmp .ge 79, 3) := by decide +kernel
theorem dX8_lackNow_39 : decode cX8_lackNow 39 = .ok (.iconst 0, 1) := by decide +kernel
theorem dX8_lackNow_40 : decode cX8_lackNow 40 = .ok (.istore 6, 2) := by decide +kernel
theorem dX8_lackNow_42 : decode cX8_lackNow 42 = .ok (.iconst 0, 1) := by decide +kernel
theorem dX8_lackNow_43 : decode cX8_lackNow 43 = .ok (.istore 7, 2) := by decide +kernel
theorem dX8_lackNow_45 : decode cX8_lackNow 45 = .ok (.iload 7, 2) := by decide +kernel
theorem dX8_lackNow_47 : decode cX8_lackNow 47 = .ok (.aload_n 0, 1) := by decide +kernel
theorem dX8_lackNow_48 : decode cX8_lackNow 48 = .ok (.getfield 19, 3) := by decide +kernel
theorem dX8_lackNow_51 : decode cX8_lackNow 51 = .ok (.iconst 0, 1) := by decide +kernel
theorem dX8_lackNow_52 : decode cX8_lackNow 52 = .ok (.iaload, 1) := by decide +kernel
theorem dX8_lackNow_53 : decode cX8_lackNow 53 = .ok (.if_icmp .ge 41, 3) := by decide +kernel
theorem dX8_lackNow_56 : decode cX8_lackNow 56 = .ok (.iload 6, 2) := by decide +kernel
theorem dX8_lackNow_58 : decode cX8_lackNow 58 = .ok (.ifCond .ne 23, 3) := by decide +kernel
theorem dX8_lackNow_61 : decode cX8_lackNow 61 = .ok (.iload_n 3, 1) := by decide +kernel
theorem dX8_lackNow_62 : decode cX8_lackNow 62 = .ok (.iload 7, 2) := by decide +kernel
theorem dX8_lackNow_64 : decode cX8_lackNow 64 = .ok (.invokestatic 126, 3) := by decide +kernel
theorem dX8_lackNow_67 : decode cX8_lackNow 67 = .ok (.ifCond .eq 18, 3) := by decide +kernel
theorem dX8_lackNow_70 : decode cX8_lackNow 70 = .ok (.aload_n 0, 1) := by decide +kernel
theorem dX8_lackNow_71 : decode cX8_lackNow 71 = .ok (.iload 5, 2) := by decide +kernel
theorem dX8_lackNow_73 : decode cX8_lackNow 73 = .ok (.iload 7, 2) := by decide +kernel
theorem dX8_lackNow_75 : decode cX8_lackNow 75 = .ok (.invokevirtual 211, 3) := by decide +kernel
theorem dX8_lackNow_78 : decode cX8_lackNow 78 = .ok (.ifCond .eq 7, 3) := by decide +kernel
theorem dX8_lackNow_81 : decode cX8_lackNow 81 = .ok (.iconst 1, 1) := by decide +kernel
theorem dX8_lackNow_82 : decode cX8_lackNow 82 = .ok (.goto 4, 3) := by decide +kernel
theorem dX8_lackNow_85 : decode cX8_lackNow 85 = .ok (.iconst 0, 1) := by decide +kernel
theorem dX8_lackNow_86 : decode cX8_lackNow 86 = .ok (.istore 6, 2) := by decide +kernel
theorem dX8_lackNow_88 : decode cX8_lackNow 88 = .ok (.iinc 7 1, 3) := by decide +kernel
theorem dX8_lackNow_91 : decode cX8_lackNow 91 = .ok (.goto (-46), 3) := by decide +kernel
theorem dX8_lackNow_94 : decode cX8_lackNow 94 = .ok (.iload 4, 2) := by decide +kernel
theorem dX8_lackNow_96 : decode cX8_lackNow 96 = .ok (.iload 6, 2) := by decide +kernel
theorem dX8_lackNow_98 : decode cX8_lackNow 98 = .ok (.ifCond .eq 7, 3) := by decide +kernel
theorem dX8_lackNow_101 : decode cX8_lackNow 101 = .ok (.iconst 1, 1) := by decide +kernel
theorem dX8_lackNow_102 : decode cX8_lackNow 102 = .ok (.goto 4, 3) := by decide +kernel
theorem dX8_lackNow_105 : decode cX8_lackNow 105 = .ok (.iconst 0, 1) := by decide +kernel
theorem dX8_lackNow_106 : decode cX8_lackNow 106 = .ok (.iadd, 1) := by decide +kernel
theorem dX8_lackNow_107 : decode cX8_lackNow 107 = .ok (.istore 4, 2) := by decide +kernel
theorem dX8_lackNow_109 : decode cX8_lackNow 109 = .ok (.iinc 5 1, 3) := by decide +kernel
theorem dX8_lackNow_112 : decode cX8_lackNow 112 = .ok (.goto (-84), 3) := by decide +kernel
theorem dX8_lackNow_115 : decode cX8_lackNow 115 = .ok (.iload_n 3, 1) := by decide +kernel
theorem dX8_lackNow_116 : decode cX8_lackNow 116 = .ok (.invokestatic 157, 3) := by decide +kernel
theorem dX8_lackNow_119 : decode cX8_lackNow 119 = .ok (.iload 4, 2) := by decide +kernel
theorem dX8_lackNow_121 : decode cX8_lackNow 121 = .ok (.isub, 1) := by decide +kernel
theorem dX8_lackNow_122 : decode cX8_lackNow 122 = .ok (.istore 5, 2) := by decide +kernel
theorem dX8_lackNow_124 : decode cX8_lackNow 124 = .ok (.iload 5, 2) := by decide +kernel
theorem dX8_lackNow_126 : decode cX8_lackNow 126 = .ok (.iload_n 2, 1) := by decide +kernel
theorem dX8_lackNow_127 : decode cX8_lackNow 127 = .ok (.if_icmp .gt 20, 3) := by decide +kernel
theorem dX8_lackNow_130 : decode cX8_lackNow 130 = .ok (.iload 5, 2) := by decide +kernel
theorem dX8_lackNow_132 : decode cX8_lackNow 132 = .ok (.iload_n 2, 1) := by decide +kernel
theorem dX8_lackNow_133 : decode cX8_lackNow 133 = .ok (.if_icmp .ne 18, 3) := by decide +kernel
theorem dX8_lackNow_136 : decode cX8_lackNow 136 = .ok (.iload_n 3, 1) := by decide +kernel
theorem dX8_lackNow_137 : decode cX8_lackNow 137 = .ok (.invokestatic 157, 3) := by decide +kernel
theorem dX8_lackNow_140 : decode cX8_lackNow 140 = .ok (.iload_n 1, 1) := by decide +kernel
theorem dX8_lackNow_141 : decode cX8_lackNow 141 = .ok (.invokestatic 157, 3) := by decide +kernel
theorem dX8_lackNow_144 : decode cX8_lackNow 144 = .ok (.if_icmp .ge 7, 3) := by decide +kernel
theorem dX8_lackNow_147 : decode cX8_lackNow 147 = .ok (.iconst 1, 1) := by decide +kernel
theorem dX8_lackNow_148 : decode cX8_lackNow 148 = .ok (.goto 4, 3) := by decide +kernel
theorem dX8_lackNow_151 : decode cX8_lackNow 151 = .ok (.iconst 0, 1) := by decide +kernel
theorem dX8_lackNow_152 : decode cX8_lackNow 152 = .ok (.istore 6, 2) := by decide +kernel
theorem dX8_lackNow_154 : decode cX8_lackNow 154 = .ok (.iload 6, 2) := by decide +kernel
theorem dX8_lackNow_156 : decode cX8_lackNow 156 = .ok (.ifCond .eq 7, 3) := by decide +kernel
theorem dX8_lackNow_159 : decode cX8_lackNow 159 = .ok (.iload_n 3, 1) := by decide +kernel
theorem dX8_lackNow_160 : decode cX8_lackNow 160 = .ok (.goto 4, 3) := by decide +kernel
theorem dX8_lackNow_163 : decode cX8_lackNow 163 = .ok (.iload_n 1, 1) := by decide +kernel
theorem dX8_lackNow_164 : decode cX8_lackNow 164 = .ok (.istore_n 1, 1) := by decide +kernel
theorem dX8_lackNow_165 : decode cX8_lackNow 165 = .ok (.iload 6, 2) := by decide +kernel
theorem dX8_lackNow_167 : decode cX8_lackNow 167 = .ok (.ifCond .eq 8, 3) := by decide +kernel
theorem dX8_lackNow_170 : decode cX8_lackNow 170 = .ok (.iload 5, 2) := by decide +kernel
theorem dX8_lackNow_172 : decode cX8_lackNow 172 = .ok (.goto 4, 3) := by decide +kernel
theorem dX8_lackNow_175 : decode cX8_lackNow 175 = .ok (.iload_n 2, 1) := by decide +kernel
theorem dX8_lackNow_176 : decode cX8_lackNow 176 = .ok (.istore_n 2, 1) := by decide +kernel
theorem dX8_lackNow_177 : decode cX8_lackNow 177 = .ok (.iinc 3 1, 3) := by decide +kernel
theorem dX8_lackNow_180 : decode cX8_lackNow 180 = .ok (.goto (-170), 3) := by decide +kernel
theorem dX8_lackNow_183 : decode cX8_lackNow 183 = .ok (.iload_n 1, 1) := by decide +kernel
theorem dX8_lackNow_184 : decode cX8_lackNow 184 = .ok (.ireturn, 1) := by decide +kernel
theorem dX8_lack_0 : decode cX8_lack 0 = .ok (.aload_n 0, 1) := by decide +kernel
theorem dX8_lack_1 : decode cX8_lack 1 = .ok (.invokevirtual 217, 3) := by decide +kernel
theorem dX8_lack_4 : decode cX8_lack 4 = .ok (.ireturn, 1) := by decide +kernel
theorem dX8_unaskedNow_0 : decode cX8_unaskedNow 0 = .ok (.aload_n 0, 1) := by decide +kernel
theorem dX8_unaskedNow_1 : decode cX8_unaskedNow 1 = .ok (.invokevirtual 102, 3) := by decide +kernel
theorem dX8_unaskedNow_4 : decode cX8_unaskedNow 4 = .ok (.iconst 0, 1) := by decide +kernel
theorem dX8_unaskedNow_5 : decode cX8_unaskedNow 5 = .ok (.istore_n 1, 1) := by decide +kernel
theorem dX8_unaskedNow_6 : decode cX8_unaskedNow 6 = .ok (.iconst 0, 1) := by decide +kernel
theorem dX8_unaskedNow_7 : decode cX8_unaskedNow 7 = .ok (.istore_n 2, 1) := by decide +kernel
theorem dX8_unaskedNow_8 : decode cX8_unaskedNow 8 = .ok (.iload_n 2, 1) := by decide +kernel
theorem dX8_unaskedNow_9 : decode cX8_unaskedNow 9 = .ok (.aload_n 0, 1) := by decide +kernel
theorem dX8_unaskedNow_10 : decode cX8_unaskedNow 10 = .ok (.getfield 19, 3) := by decide +kernel
theorem dX8_unaskedNow_13 : decode cX8_unaskedNow 13 = .ok (.iconst 1, 1) := by decide +kernel
theorem dX8_unaskedNow_14 : decode cX8_unaskedNow 14 = .ok (.iaload, 1) := by decide +kernel
theorem dX8_unaskedNow_15 : decode cX8_unaskedNow 15 = .ok (.if_icmp .ge 65, 3) := by decide +kernel
theorem dX8_unaskedNow_18 : decode cX8_unaskedNow 18 = .ok (.iconst 0, 1) := by decide +kernel
theorem dX8_unaskedNow_19 : decode cX8_unaskedNow 19 = .ok (.istore_n 3, 1) := by decide +kernel
theorem dX8_unaskedNow_20 : decode cX8_unaskedNow 20 = .ok (.iconst 0, 1) := by decide +kernel
theorem dX8_unaskedNow_21 : decode cX8_unaskedNow 21 = .ok (.istore 4, 2) := by decide +kernel
theorem dX8_unaskedNow_23 : decode cX8_unaskedNow 23 = .ok (.iload 4, 2) := by decide +kernel
theorem dX8_unaskedNow_25 : decode cX8_unaskedNow 25 = .ok (.aload_n 0, 1) := by decide +kernel
theorem dX8_unaskedNow_26 : decode cX8_unaskedNow 26 = .ok (.getfield 19, 3) := by decide +kernel
theorem dX8_unaskedNow_29 : decode cX8_unaskedNow 29 = .ok (.iconst 0, 1) := by decide +kernel
theorem dX8_unaskedNow_30 : decode cX8_unaskedNow 30 = .ok (.iaload, 1) := by decide +kernel
theorem dX8_unaskedNow_31 : decode cX8_unaskedNow 31 = .ok (.if_icmp .ge 29, 3) := by decide +kernel
theorem dX8_unaskedNow_34 : decode cX8_unaskedNow 34 = .ok (.iload_n 3, 1) := by decide +kernel
theorem dX8_unaskedNow_35 : decode cX8_unaskedNow 35 = .ok (.ifCond .ne 13, 3) := by decide +kernel
theorem dX8_unaskedNow_38 : decode cX8_unaskedNow 38 = .ok (.aload_n 0, 1) := by decide +kernel
theorem dX8_unaskedNow_39 : decode cX8_unaskedNow 39 = .ok (.iload_n 2, 1) := by decide +kernel
theorem dX8_unaskedNow_40 : decode cX8_unaskedNow 40 = .ok (.iload 4, 2) := by decide +kernel
theorem dX8_unaskedNow_42 : decode cX8_unaskedNow 42 = .ok (.invokevirtual 211, 3) := by decide +kernel
theorem dX8_unaskedNow_45 : decode cX8_unaskedNow 45 = .ok (.ifCond .eq 7, 3) := by decide +kernel
theorem dX8_unaskedNow_48 : decode cX8_unaskedNow 48 = .ok (.iconst 1, 1) := by decide +kernel
theorem dX8_unaskedNow_49 : decode cX8_unaskedNow 49 = .ok (.goto 4, 3) := by decide +kernel
theorem dX8_unaskedNow_52 : decode cX8_unaskedNow 52 = .ok (.iconst 0, 1) := by decide +kernel
theorem dX8_unaskedNow_53 : decode cX8_unaskedNow 53 = .ok (.istore_n 3, 1) := by decide +kernel
theorem dX8_unaskedNow_54 : decode cX8_unaskedNow 54 = .ok (.iinc 4 1, 3) := by decide +kernel
theorem dX8_unaskedNow_57 : decode cX8_unaskedNow 57 = .ok (.goto (-34), 3) := by decide +kernel
theorem dX8_unaskedNow_60 : decode cX8_unaskedNow 60 = .ok (.iload_n 1, 1) := by decide +kernel
theorem dX8_unaskedNow_61 : decode cX8_unaskedNow 61 = .ok (.iload_n 3, 1) := by decide +kernel
theorem dX8_unaskedNow_62 : decode cX8_unaskedNow 62 = .ok (.ifCond .eq 7, 3) := by decide +kernel
theorem dX8_unaskedNow_65 : decode cX8_unaskedNow 65 = .ok (.iconst 0, 1) := by decide +kernel
theorem dX8_unaskedNow_66 : decode cX8_unaskedNow 66 = .ok (.goto 6, 3) := by decide +kernel
theorem dX8_unaskedNow_69 : decode cX8_unaskedNow 69 = .ok (.iconst 1, 1) := by decide +kernel
theorem dX8_unaskedNow_70 : decode cX8_unaskedNow 70 = .ok (.iload_n 2, 1) := by decide +kernel
theorem dX8_unaskedNow_71 : decode cX8_unaskedNow 71 = .ok (.ishl, 1) := by decide +kernel
theorem dX8_unaskedNow_72 : decode cX8_unaskedNow 72 = .ok (.ior, 1) := by decide +kernel
theorem dX8_unaskedNow_73 : decode cX8_unaskedNow 73 = .ok (.istore_n 1, 1) := by decide +kernel
theorem dX8_unaskedNow_74 : decode cX8_unaskedNow 74 = .ok (.iinc 2 1, 3) := by decide +kernel
theorem dX8_unaskedNow_77 : decode cX8_unaskedNow 77 = .ok (.goto (-69), 3) := by decide +kernel
theorem dX8_unaskedNow_80 : decode cX8_unaskedNow 80 = .ok (.iload_n 1, 1) := by decide +kernel
theorem dX8_unaskedNow_81 : decode cX8_unaskedNow 81 = .ok (.ireturn, 1) := by decide +kernel
theorem dX8_unasked_0 : decode cX8_unasked 0 = .ok (.aload_n 0, 1) := by decide +kernel
theorem dX8_unasked_1 : decode cX8_unasked 1 = .ok (.invokevirtual 220, 3) := by decide +kernel
theorem dX8_unasked_4 : decode cX8_unasked 4 = .ok (.ireturn, 1) := by decide +kernel
theorem dX8_fines_0 : decode cX8_fines 0 = .ok (.iload_n 1, 1) := by decide +kernel
theorem dX8_fines_1 : decode cX8_fines 1 = .ok (.invokestatic 184, 3) := by decide +kernel
theorem dX8_fines_4 : decode cX8_fines 4 = .ok (.ifCond .eq 16, 3) := by decide +kernel
theorem dX8_fines_7 : decode cX8_fines 7 = .ok (.aload_n 0, 1) := by decide +kernel
theorem dX8_fines_8 : decode cX8_fines 8 = .ok (.iload_n 1, 1) := by decide +kernel
theorem dX8_fines_9 : decode cX8_fines 9 = .ok (.invokevirtual 214, 3) := by decide +kernel
theorem dX8_fines_12 : decode cX8_fines 12 = .ok (.aload_n 0, 1) := by decide +kernel
theorem dX8_fines_13 : decode cX8_fines 13 = .ok (.getfield 63, 3) := by decide +kernel
theorem dX8_fines_16 : decode cX8_fines 16 = .ok (.imul, 1) := by decide +kernel
theorem dX8_fines_17 : decode cX8_fines 17 = .ok (.goto 5, 3) := by decide +kernel
theorem dX8_fines_20 : decode cX8_fines 20 = .ok (.bipush (-2), 2) := by decide +kernel
theorem dX8_fines_22 : decode cX8_fines 22 = .ok (.ireturn, 1) := by decide +kernel
theorem dX8_seen_0 : decode cX8_seen 0 = .ok (.iload_n 1, 1) := by decide +kernel
theorem dX8_seen_1 : decode cX8_seen 1 = .ok (.invokestatic 114, 3) := by decide +kernel
theorem dX8_seen_4 : decode cX8_seen 4 = .ok (.ifCond .eq 12, 3) := by decide +kernel
theorem dX8_seen_7 : decode cX8_seen 7 = .ok (.iload_n 2, 1) := by decide +kernel
theorem dX8_seen_8 : decode cX8_seen 8 = .ok (.iconst 0, 1) := by decide +kernel
theorem dX8_seen_9 : decode cX8_seen 9 = .ok (.iconst 1, 1) := by decide +kernel
theorem dX8_seen_10 : decode cX8_seen 10 = .ok (.invokestatic 66, 3) := by decide +kernel
theorem dX8_seen_13 : decode cX8_seen 13 = .ok (.ifCond .ne 6, 3) := by decide +kernel
theorem dX8_seen_16 : decode cX8_seen 16 = .ok (.bipush (-2), 2) := by decide +kernel
theorem dX8_seen_18 : decode cX8_seen 18 = .ok (.ireturn, 1) := by decide +kernel
theorem dX8_seen_19 : decode cX8_seen 19 = .ok (.aload_n 0, 1) := by decide +kernel
theorem dX8_seen_20 : decode cX8_seen 20 = .ok (.getfield 223, 3) := by decide +kernel
theorem dX8_seen_23 : decode cX8_seen 23 = .ok (.bipush 8, 2) := by decide +kernel
theorem dX8_seen_25 : decode cX8_seen 25 = .ok (.if_icmp .ne 6, 3) := by decide +kernel
theorem dX8_seen_28 : decode cX8_seen 28 = .ok (.bipush (-4), 2) := by decide +kernel
theorem dX8_seen_30 : decode cX8_seen 30 = .ok (.ireturn, 1) := by decide +kernel
theorem dX8_seen_31 : decode cX8_seen 31 = .ok (.aload_n 0, 1) := by decide +kernel
theorem dX8_seen_32 : decode cX8_seen 32 = .ok (.getfield 37, 3) := by decide +kernel
theorem dX8_seen_35 : decode cX8_seen 35 = .ok (.aload_n 0, 1) := by decide +kernel
theorem dX8_seen_36 : decode cX8_seen 36 = .ok (.getfield 223, 3) := by decide +kernel
theorem dX8_seen_39 : decode cX8_seen 39 = .ok (.iload_n 1, 1) := by decide +kernel
theorem dX8_seen_40 : decode cX8_seen 40 = .ok (.iastore, 1) := by decide +kernel
theorem dX8_seen_41 : decode cX8_seen 41 = .ok (.aload_n 0, 1) := by decide +kernel
theorem dX8_seen_42 : decode cX8_seen 42 = .ok (.getfield 40, 3) := by decide +kernel
theorem dX8_seen_45 : decode cX8_seen 45 = .ok (.aload_n 0, 1) := by decide +kernel
theorem dX8_seen_46 : decode cX8_seen 46 = .ok (.getfield 223, 3) := by decide +kernel
theorem dX8_seen_49 : decode cX8_seen 49 = .ok (.iload_n 2, 1) := by decide +kernel
theorem dX8_seen_50 : decode cX8_seen 50 = .ok (.iastore, 1) := by decide +kernel
theorem dX8_seen_51 : decode cX8_seen 51 = .ok (.aload_n 0, 1) := by decide +kernel
theorem dX8_seen_52 : decode cX8_seen 52 = .ok (.dup, 1) := by decide +kernel
theorem dX8_seen_53 : decode cX8_seen 53 = .ok (.getfield 223, 3) := by decide +kernel
theorem dX8_seen_56 : decode cX8_seen 56 = .ok (.iconst 1, 1) := by decide +kernel
theorem dX8_seen_57 : decode cX8_seen 57 = .ok (.iadd, 1) := by decide +kernel
theorem dX8_seen_58 : decode cX8_seen 58 = .ok (.putfield 223, 3) := by decide +kernel
theorem dX8_seen_61 : decode cX8_seen 61 = .ok (.aload_n 0, 1) := by decide +kernel
theorem dX8_seen_62 : decode cX8_seen 62 = .ok (.getfield 223, 3) := by decide +kernel
theorem dX8_seen_65 : decode cX8_seen 65 = .ok (.ireturn, 1) := by decide +kernel
theorem dX8_forget_0 : decode cX8_forget 0 = .ok (.aload_n 0, 1) := by decide +kernel
theorem dX8_forget_1 : decode cX8_forget 1 = .ok (.getfield 223, 3) := by decide +kernel
theorem dX8_forget_4 : decode cX8_forget 4 = .ok (.istore_n 1, 1) := by decide +kernel
theorem dX8_forget_5 : decode cX8_forget 5 = .ok (.aload_n 0, 1) := by decide +kernel
theorem dX8_forget_6 : decode cX8_forget 6 = .ok (.iconst 0, 1) := by decide +kernel
theorem dX8_forget_7 : decode cX8_forget 7 = .ok (.putfield 223, 3) := by decide +kernel
theorem dX8_forget_10 : decode cX8_forget 10 = .ok (.iload_n 1, 1) := by decide +kernel
theorem dX8_forget_11 : decode cX8_forget 11 = .ok (.ireturn, 1) := by decide +kernel
theorem dX8_refusedOf_0 : decode cX8_refusedOf 0 = .ok (.aload_n 0, 1) := by decide +kernel
theorem dX8_refusedOf_1 : decode cX8_refusedOf 1 = .ok (.invokevirtual 139, 3) := by decide +kernel
theorem dX8_refusedOf_4 : decode cX8_refusedOf 4 = .ok (.istore_n 2, 1) := by decide +kernel
theorem dX8_refusedOf_5 : decode cX8_refusedOf 5 = .ok (.iconst 0, 1) := by decide +kernel
theorem dX8_refusedOf_6 : decode cX8_refusedOf 6 = .ok (.istore_n 3, 1) := by decide +kernel
theorem dX8_refusedOf_7 : decode cX8_refusedOf 7 = .ok (.iconst 0, 1) := by decide +kernel
theorem dX8_refusedOf_8 : decode cX8_refusedOf 8 = .ok (.istore 4, 2) := by decide +kernel
theorem dX8_refusedOf_10 : decode cX8_refusedOf 10 = .ok (.iconst 0, 1) := by decide +kernel
theorem dX8_refusedOf_11 : decode cX8_refusedOf 11 = .ok (.istore 5, 2) := by decide +kernel
theorem dX8_refusedOf_13 : decode cX8_refusedOf 13 = .ok (.iload 5, 2) := by decide +kernel
theorem dX8_refusedOf_15 : decode cX8_refusedOf 15 = .ok (.aload_n 0, 1) := by decide +kernel
theorem dX8_refusedOf_16 : decode cX8_refusedOf 16 = .ok (.getfield 86, 3) := by decide +kernel
theorem dX8_refusedOf_19 : decode cX8_refusedOf 19 = .ok (.if_icmp .ge 37, 3) := by decide +kernel
theorem dX8_refusedOf_22 : decode cX8_refusedOf 22 = .ok (.iload 4, 2) := by decide +kernel
theorem dX8_refusedOf_24 : decode cX8_refusedOf 24 = .ok (.aload_n 0, 1) := by decide +kernel
theorem dX8_refusedOf_25 : decode cX8_refusedOf 25 = .ok (.getfield 16, 3) := by decide +kernel
theorem dX8_refusedOf_28 : decode cX8_refusedOf 28 = .ok (.bipush 6, 2) := by decide +kernel
theorem dX8_refusedOf_30 : decode cX8_refusedOf 30 = .ok (.iload 5, 2) := by decide +kernel
theorem dX8_refusedOf_32 : decode cX8_refusedOf 32 = .ok (.imul, 1) := by decide +kernel
theorem dX8_refusedOf_33 : decode cX8_refusedOf 33 = .ok (.iconst 3, 1) := by decide +kernel
theorem dX8_refusedOf_34 : decode cX8_refusedOf 34 = .ok (.iadd, 1) := by decide +kernel
theorem dX8_refusedOf_35 : decode cX8_refusedOf 35 = .ok (.iaload, 1) := by decide +kernel
theorem dX8_refusedOf_36 : decode cX8_refusedOf 36 = .ok (.ifCond .ne 10, 3) := by decide +kernel
theorem dX8_refusedOf_39 : decode cX8_refusedOf 39 = .ok (.iconst 1, 1) := by decide +kernel
theorem dX8_refusedOf_40 : decode cX8_refusedOf 40 = .ok (.iload 5, 2) := by decide +kernel
theorem dX8_refusedOf_42 : decode cX8_refusedOf 42 = .ok (.ishl, 1) := by decide +kernel
theorem dX8_refusedOf_43 : decode cX8_refusedOf 43 = .ok (.goto 4, 3) := by decide +kernel
theorem dX8_refusedOf_46 : decode cX8_refusedOf 46 = .ok (.iconst 0, 1) := by decide +kernel
theorem dX8_refusedOf_47 : decode cX8_refusedOf 47 = .ok (.ior, 1) := by decide +kernel
theorem dX8_refusedOf_48 : decode cX8_refusedOf 48 = .ok (.istore 4, 2) := by decide +kernel
theorem dX8_refusedOf_50 : decode cX8_refusedOf 50 = .ok (.iinc 5 1, 3) := by decide +kernel
theorem dX8_refusedOf_53 : decode cX8_refusedOf 53 = .ok (.goto (-40), 3) := by decide +kernel
theorem dX8_refusedOf_56 : decode cX8_refusedOf 56 = .ok (.iconst 0, 1) := by decide +kernel
theorem dX8_refusedOf_57 : decode cX8_refusedOf 57 = .ok (.istore 5, 2) := by decide +kernel
theorem dX8_refusedOf_59 : decode cX8_refusedOf 59 = .ok (.iload 5, 2) := by decide +kernel
theorem dX8_refusedOf_61 : decode cX8_refusedOf 61 = .ok (.iload_n 2, 1) := by decide +kernel
theorem dX8_refusedOf_62 : decode cX8_refusedOf 62 = .ok (.if_icmp .gt 110, 3) := by decide +kernel
theorem dX8_refusedOf_65 : decode cX8_refusedOf 65 = .ok (.aload_n 0, 1) := by decide +kernel
theorem dX8_refusedOf_66 : decode cX8_refusedOf 66 = .ok (.iload 5, 2) := by decide +kernel
theorem dX8_refusedOf_68 : decode cX8_refusedOf 68 = .ok (.aload_n 0, 1) := by decide +kernel
theorem dX8_refusedOf_69 : decode cX8_refusedOf 69 = .ok (.getfield 111, 3) := by decide +kernel
theorem dX8_refusedOf_72 : decode cX8_refusedOf 72 = .ok (.invokevirtual 142, 3) := by decide +kernel
theorem dX8_refusedOf_75 : decode cX8_refusedOf 75 = .ok (.ifCond .ne 7, 3) := by decide +kernel
theorem dX8_refusedOf_78 : decode cX8_refusedOf 78 = .ok (.iconst 1, 1) := by decide +kernel
theorem dX8_refusedOf_79 : decode cX8_refusedOf 79 = .ok (.goto 4, 3) := by decide +kernel
theorem dX8_refusedOf_82 : decode cX8_refusedOf 82 = .ok (.iconst 0, 1) := by decide +kernel
theorem dX8_refusedOf_83 : decode cX8_refusedOf 83 = .ok (.istore 6, 2) := by decide +kernel
theorem dX8_refusedOf_85 : decode cX8_refusedOf 85 = .ok (.iconst 0, 1) := by decide +kernel
theorem dX8_refusedOf_86 : decode cX8_refusedOf 86 = .ok (.istore 7, 2) := by decide +kernel
theorem dX8_refusedOf_88 : decode cX8_refusedOf 88 = .ok (.iload 7, 2) := by decide +kernel
theorem dX8_refusedOf_90 : decode cX8_refusedOf 90 = .ok (.aload_n 0, 1) := by decide +kernel
theorem dX8_refusedOf_91 : decode cX8_refusedOf 91 = .ok (.getfield 223, 3) := by decide +kernel
theorem dX8_refusedOf_94 : decode cX8_refusedOf 94 = .ok (.if_icmp .ge 43, 3) := by decide +kernel
theorem dX8_refusedOf_97 : decode cX8_refusedOf 97 = .ok (.iload 6, 2) := by decide +kernel
theorem dX8_refusedOf_99 : decode cX8_refusedOf 99 = .ok (.ifCond .eq 29, 3) := by decide +kernel
theorem dX8_refusedOf_102 : decode cX8_refusedOf 102 = .ok (.iload 5, 2) := by decide +kernel
theorem dX8_refusedOf_104 : decode cX8_refusedOf 104 = .ok (.aload_n 0, 1) := by decide +kernel
theorem dX8_refusedOf_105 : decode cX8_refusedOf 105 = .ok (.getfield 37, 3) := by decide +kernel
theorem dX8_refusedOf_108 : decode cX8_refusedOf 108 = .ok (.iload 7, 2) := by decide +kernel
theorem dX8_refusedOf_110 : decode cX8_refusedOf 110 = .ok (.iaload, 1) := by decide +kernel
theorem dX8_refusedOf_111 : decode cX8_refusedOf 111 = .ok (.ishr, 1) := by decide +kernel
theorem dX8_refusedOf_112 : decode cX8_refusedOf 112 = .ok (.iconst 1, 1) := by decide +kernel
theorem dX8_refusedOf_113 : decode cX8_refusedOf 113 = .ok (.iand, 1) := by decide +kernel
theorem dX8_refusedOf_114 : decode cX8_refusedOf 114 = .ok (.aload_n 0, 1) := by decide +kernel
theorem dX8_refusedOf_115 : decode cX8_refusedOf 115 = .ok (.getfield 40, 3) := by decide +kernel
theorem dX8_refusedOf_118 : decode cX8_refusedOf 118 = .ok (.iload 7, 2) := by decide +kernel
theorem dX8_refusedOf_120 : decode cX8_refusedOf 120 = .ok (.iaload, 1) := by decide +kernel
theorem dX8_refusedOf_121 : decode cX8_refusedOf 121 = .ok (.if_icmp .ne 7, 3) := by decide +kernel
theorem dX8_refusedOf_124 : decode cX8_refusedOf 124 = .ok (.iconst 1, 1) := by decide +kernel
theorem dX8_refusedOf_125 : decode cX8_refusedOf 125 = .ok (.goto 4, 3) := by decide +kernel
theorem dX8_refusedOf_128 : decode cX8_refusedOf 128 = .ok (.iconst 0, 1) := by decide +kernel
theorem dX8_refusedOf_129 : decode cX8_refusedOf 129 = .ok (.istore 6, 2) := by decide +kernel
theorem dX8_refusedOf_131 : decode cX8_refusedOf 131 = .ok (.iinc 7 1, 3) := by decide +kernel
theorem dX8_refusedOf_134 : decode cX8_refusedOf 134 = .ok (.goto (-46), 3) := by decide +kernel
theorem dX8_refusedOf_137 : decode cX8_refusedOf 137 = .ok (.iload_n 3, 1) := by decide +kernel
theorem dX8_refusedOf_138 : decode cX8_refusedOf 138 = .ok (.iload 6, 2) := by decide +kernel
theorem dX8_refusedOf_140 : decode cX8_refusedOf 140 = .ok (.ifCond .eq 7, 3) := by decide +kernel
theorem dX8_refusedOf_143 : decode cX8_refusedOf 143 = .ok (.iconst 1, 1) := by decide +kernel
theorem dX8_refusedOf_144 : decode cX8_refusedOf 144 = .ok (.goto 4, 3) := by decide +kernel
theorem dX8_refusedOf_147 : decode cX8_refusedOf 147 = .ok (.iconst 0, 1) := by decide +kernel
theorem dX8_refusedOf_148 : decode cX8_refusedOf 148 = .ok (.iadd, 1) := by decide +kernel
theorem dX8_refusedOf_149 : decode cX8_refusedOf 149 = .ok (.istore_n 3, 1) := by decide +kernel
theorem dX8_refusedOf_150 : decode cX8_refusedOf 150 = .ok (.iload 4, 2) := by decide +kernel
theorem dX8_refusedOf_152 : decode cX8_refusedOf 152 = .ok (.iload 6, 2) := by decide +kernel
theorem dX8_refusedOf_154 : decode cX8_refusedOf 154 = .ok (.ifCond .eq 8, 3) := by decide +kernel
theorem dX8_refusedOf_157 : decode cX8_refusedOf 157 = .ok (.iload 5, 2) := by decide +kernel
theorem dX8_refusedOf_159 : decode cX8_refusedOf 159 = .ok (.goto 4, 3) := by decide +kernel
theorem dX8_refusedOf_162 : decode cX8_refusedOf 162 = .ok (.iload_n 2, 1) := by decide +kernel
theorem dX8_refusedOf_163 : decode cX8_refusedOf 163 = .ok (.iand, 1) := by decide +kernel
theorem dX8_refusedOf_164 : decode cX8_refusedOf 164 = .ok (.istore 4, 2) := by decide +kernel
theorem dX8_refusedOf_166 : decode cX8_refusedOf 166 = .ok (.iinc 5 1, 3) := by decide +kernel
theorem dX8_refusedOf_169 : decode cX8_refusedOf 169 = .ok (.goto (-110), 3) := by decide +kernel
theorem dX8_refusedOf_172 : decode cX8_refusedOf 172 = .ok (.iload_n 1, 1) := by decide +kernel
theorem dX8_refusedOf_173 : decode cX8_refusedOf 173 = .ok (.ifCond .ne 7, 3) := by decide +kernel
theorem dX8_refusedOf_176 : decode cX8_refusedOf 176 = .ok (.iload_n 3, 1) := by decide +kernel
theorem dX8_refusedOf_177 : decode cX8_refusedOf 177 = .ok (.goto 13, 3) := by decide +kernel
theorem dX8_refusedOf_180 : decode cX8_refusedOf 180 = .ok (.iload_n 3, 1) := by decide +kernel
theorem dX8_refusedOf_181 : decode cX8_refusedOf 181 = .ok (.ifCond .ne 7, 3) := by decide +kernel
theorem dX8_refusedOf_184 : decode cX8_refusedOf 184 = .ok (.iconst 0, 1) := by decide +kernel
theorem dX8_refusedOf_185 : decode cX8_refusedOf 185 = .ok (.goto 5, 3) := by decide +kernel
theorem dX8_refusedOf_188 : decode cX8_refusedOf 188 = .ok (.iload 4, 2) := by decide +kernel
theorem dX8_refusedOf_190 : decode cX8_refusedOf 190 = .ok (.ireturn, 1) := by decide +kernel
theorem dX8_refused_0 : decode cX8_refused 0 = .ok (.iload_n 1, 1) := by decide +kernel
theorem dX8_refused_1 : decode cX8_refused 1 = .ok (.iconst 0, 1) := by decide +kernel
theorem dX8_refused_2 : decode cX8_refused 2 = .ok (.iconst 1, 1) := by decide +kernel
theorem dX8_refused_3 : decode cX8_refused 3 = .ok (.invokestatic 66, 3) := by decide +kernel
theorem dX8_refused_6 : decode cX8_refused 6 = .ok (.ifCond .eq 11, 3) := by decide +kernel
theorem dX8_refused_9 : decode cX8_refused 9 = .ok (.aload_n 0, 1) := by decide +kernel
theorem dX8_refused_10 : decode cX8_refused 10 = .ok (.iload_n 1, 1) := by decide +kernel
theorem dX8_refused_11 : decode cX8_refused 11 = .ok (.invokevirtual 226, 3) := by decide +kernel
theorem dX8_refused_14 : decode cX8_refused 14 = .ok (.goto 5, 3) := by decide +kernel
theorem dX8_refused_17 : decode cX8_refused 17 = .ok (.bipush (-2), 2) := by decide +kernel
theorem dX8_refused_19 : decode cX8_refused 19 = .ok (.ireturn, 1) := by decide +kernel
theorem dX8_lotOf_0 : decode cX8_lotOf 0 = .ok (.aload_n 0, 1) := by decide +kernel
theorem dX8_lotOf_1 : decode cX8_lotOf 1 = .ok (.invokevirtual 139, 3) := by decide +kernel
theorem dX8_lotOf_4 : decode cX8_lotOf 4 = .ok (.istore_n 3, 1) := by decide +kernel
theorem dX8_lotOf_5 : decode cX8_lotOf 5 = .ok (.iload_n 1, 1) := by decide +kernel
theorem dX8_lotOf_6 : decode cX8_lotOf 6 = .ok (.istore 4, 2) := by decide +kernel
theorem dX8_lotOf_8 : decode cX8_lotOf 8 = .ok (.iconst 0, 1) := by decide +kernel
theorem dX8_lotOf_9 : decode cX8_lotOf 9 = .ok (.istore 5, 2) := by decide +kernel
theorem dX8_lotOf_11 : decode cX8_lotOf 11 = .ok (.iconst 0, 1) := by decide +kernel
theorem dX8_lotOf_12 : decode cX8_lotOf 12 = .ok (.istore 6, 2) := by decide +kernel
theorem dX8_lotOf_14 : decode cX8_lotOf 14 = .ok (.iconst 0, 1) := by decide +kernel
theorem dX8_lotOf_15 : decode cX8_lotOf 15 = .ok (.istore 7, 2) := by decide +kernel
theorem dX8_lotOf_17 : decode cX8_lotOf 17 = .ok (.iload 7, 2) := by decide +kernel
theorem dX8_lotOf_19 : decode cX8_lotOf 19 = .ok (.iload_n 2, 1) := by decide +kernel
theorem dX8_lotOf_20 : decode cX8_lotOf 20 = .ok (.ifCond .ne 7, 3) := by decide +kernel
theorem dX8_lotOf_23 : decode cX8_lotOf 23 = .ok (.iconst 1, 1) := by decide +kernel
theorem dX8_lotOf_24 : decode cX8_lotOf 24 = .ok (.goto 4, 3) := by decide +kernel
theorem dX8_lotOf_27 : decode cX8_lotOf 27 = .ok (.iload_n 2, 1) := by decide +kernel
theorem dX8_lotOf_28 : decode cX8_lotOf 28 = .ok (.if_icmp .ge 81, 3) := by decide +kernel
theorem dX8_lotOf_31 : decode cX8_lotOf 31 = .ok (.iconst 0, 1) := by decide +kernel
theorem dX8_lotOf_32 : decode cX8_lotOf 32 = .ok (.istore 6, 2) := by decide +kernel
theorem dX8_lotOf_34 : decode cX8_lotOf 34 = .ok (.iconst 0, 1) := by decide +kernel
theorem dX8_lotOf_35 : decode cX8_lotOf 35 = .ok (.istore 8, 2) := by decide +kernel
theorem dX8_lotOf_37 : decode cX8_lotOf 37 = .ok (.iload 8, 2) := by decide +kernel
theorem dX8_lotOf_39 : decode cX8_lotOf 39 = .ok (.aload_n 0, 1) := by decide +kernel
theorem dX8_lotOf_40 : decode cX8_lotOf 40 = .ok (.getfield 86, 3) := by decide +kernel
theorem dX8_lotOf_43 : decode cX8_lotOf 43 = .ok (.if_icmp .ge 35, 3) := by decide +kernel
theorem dX8_lotOf_46 : decode cX8_lotOf 46 = .ok (.ldc 229, 2) := by decide +kernel
theorem dX8_lotOf_48 : decode cX8_lotOf 48 = .ok (.iload 4, 2) := by decide +kernel
theorem dX8_lotOf_50 : decode cX8_lotOf 50 = .ok (.imul, 1) := by decide +kernel
theorem dX8_lotOf_51 : decode cX8_lotOf 51 = .ok (.sipush 12345, 3) := by decide +kernel
theorem dX8_lotOf_54 : decode cX8_lotOf 54 = .ok (.iadd, 1) := by decide +kernel
theorem dX8_lotOf_55 : decode cX8_lotOf 55 = .ok (.istore 4, 2) := by decide +kernel
theorem dX8_lotOf_57 : decode cX8_lotOf 57 = .ok (.iload 6, 2) := by decide +kernel
theorem dX8_lotOf_59 : decode cX8_lotOf 59 = .ok (.iload 4, 2) := by decide +kernel
theorem dX8_lotOf_61 : decode cX8_lotOf 61 = .ok (.bipush 16, 2) := by decide +kernel
theorem dX8_lotOf_63 : decode cX8_lotOf 63 = .ok (.iushr, 1) := by decide +kernel
theorem dX8_lotOf_64 : decode cX8_lotOf 64 = .ok (.iconst 2, 1) := by decide +kernel
theorem dX8_lotOf_65 : decode cX8_lotOf 65 = .ok (.irem, 1) := by decide +kernel
theorem dX8_lotOf_66 : decode cX8_lotOf 66 = .ok (.iload 8, 2) := by decide +kernel
theorem dX8_lotOf_68 : decode cX8_lotOf 68 = .ok (.ishl, 1) := by decide +kernel
theorem dX8_lotOf_69 : decode cX8_lotOf 69 = .ok (.ior, 1) := by decide +kernel
theorem dX8_lotOf_70 : decode cX8_lotOf 70 = .ok (.istore 6, 2) := by decide +kernel
theorem dX8_lotOf_72 : decode cX8_lotOf 72 = .ok (.iinc 8 1, 3) := by decide +kernel
theorem dX8_lotOf_75 : decode cX8_lotOf 75 = .ok (.goto (-38), 3) := by decide +kernel
theorem dX8_lotOf_78 : decode cX8_lotOf 78 = .ok (.iload 5, 2) := by decide +kernel
theorem dX8_lotOf_80 : decode cX8_lotOf 80 = .ok (.aload_n 0, 1) := by decide +kernel
theorem dX8_lotOf_81 : decode cX8_lotOf 81 = .ok (.iload 6, 2) := by decide +kernel
theorem dX8_lotOf_83 : decode cX8_lotOf 83 = .ok (.iload_n 3, 1) := by decide +kernel
theorem dX8_lotOf_84 : decode cX8_lotOf 84 = .ok (.iand, 1) := by decide +kernel
theorem dX8_lotOf_85 : decode cX8_lotOf 85 = .ok (.aload_n 0, 1) := by decide +kernel
theorem dX8_lotOf_86 : decode cX8_lotOf 86 = .ok (.getfield 111, 3) := by decide +kernel
theorem dX8_lotOf_89 : decode cX8_lotOf 89 = .ok (.invokevirtual 142, 3) := by decide +kernel
theorem dX8_lotOf_92 : decode cX8_lotOf 92 = .ok (.ifCond .ne 7, 3) := by decide +kernel
theorem dX8_lotOf_95 : decode cX8_lotOf 95 = .ok (.iconst 1, 1) := by decide +kernel
theorem dX8_lotOf_96 : decode cX8_lotOf 96 = .ok (.goto 4, 3) := by decide +kernel
theorem dX8_lotOf_99 : decode cX8_lotOf 99 = .ok (.iconst 0, 1) := by decide +kernel
theorem dX8_lotOf_100 : decode cX8_lotOf 100 = .ok (.iadd, 1) := by decide +kernel
theorem dX8_lotOf_101 : decode cX8_lotOf 101 = .ok (.istore 5, 2) := by decide +kernel
theorem dX8_lotOf_103 : decode cX8_lotOf 103 = .ok (.iinc 7 1, 3) := by decide +kernel
theorem dX8_lotOf_106 : decode cX8_lotOf 106 = .ok (.goto (-89), 3) := by decide +kernel
theorem dX8_lotOf_109 : decode cX8_lotOf 109 = .ok (.iload_n 2, 1) := by decide +kernel
theorem dX8_lotOf_110 : decode cX8_lotOf 110 = .ok (.ifCond .ne 8, 3) := by decide +kernel
theorem dX8_lotOf_113 : decode cX8_lotOf 113 = .ok (.iload 6, 2) := by decide +kernel
theorem dX8_lotOf_115 : decode cX8_lotOf 115 = .ok (.goto 5, 3) := by decide +kernel
theorem dX8_lotOf_118 : decode cX8_lotOf 118 = .ok (.iload 5, 2) := by decide +kernel
theorem dX8_lotOf_120 : decode cX8_lotOf 120 = .ok (.ireturn, 1) := by decide +kernel
theorem dX8_lot_0 : decode cX8_lot 0 = .ok (.iload_n 2, 1) := by decide +kernel
theorem dX8_lot_1 : decode cX8_lot 1 = .ok (.iconst 0, 1) := by decide +kernel
theorem dX8_lot_2 : decode cX8_lot 2 = .ok (.bipush 99, 2) := by decide +kernel
theorem dX8_lot_4 : decode cX8_lot 4 = .ok (.invokestatic 66, 3) := by decide +kernel
theorem dX8_lot_7 : decode cX8_lot 7 = .ok (.ifCond .eq 12, 3) := by decide +kernel
theorem dX8_lot_10 : decode cX8_lot 10 = .ok (.aload_n 0, 1) := by decide +kernel
theorem dX8_lot_11 : decode cX8_lot 11 = .ok (.iload_n 1, 1) := by decide +kernel
theorem dX8_lot_12 : decode cX8_lot 12 = .ok (.iload_n 2, 1) := by decide +kernel
theorem dX8_lot_13 : decode cX8_lot 13 = .ok (.invokevirtual 230, 3) := by decide +kernel
theorem dX8_lot_16 : decode cX8_lot 16 = .ok (.goto 5, 3) := by decide +kernel
theorem dX8_lot_19 : decode cX8_lot 19 = .ok (.bipush (-2), 2) := by decide +kernel
theorem dX8_lot_21 : decode cX8_lot 21 = .ok (.ireturn, 1) := by decide +kernel
theorem dX8_meets_0 : decode cX8_meets 0 = .ok (.aload_n 0, 1) := by decide +kernel
theorem dX8_meets_1 : decode cX8_meets 1 = .ok (.iload_n 1, 1) := by decide +kernel
theorem dX8_meets_2 : decode cX8_meets 2 = .ok (.putfield 233, 3) := by decide +kernel
theorem dX8_meets_5 : decode cX8_meets 5 = .ok (.bipush (-10), 2) := by decide +kernel
theorem dX8_meets_7 : decode cX8_meets 7 = .ok (.iload_n 1, 1) := by decide +kernel
theorem dX8_meets_8 : decode cX8_meets 8 = .ok (.isub, 1) := by decide +kernel
theorem dX8_meets_9 : decode cX8_meets 9 = .ok (.ireturn, 1) := by decide +kernel
theorem dX8_isSheet_0 : decode cX8_isSheet 0 = .ok (.iload_n 0, 1) := by decide +kernel
theorem dX8_isSheet_1 : decode cX8_isSheet 1 = .ok (.iconst 0, 1) := by decide +kernel
theorem dX8_isSheet_2 : decode cX8_isSheet 2 = .ok (.iconst 3, 1) := by decide +kernel
theorem dX8_isSheet_3 : decode cX8_isSheet 3 = .ok (.invokestatic 66, 3) := by decide +kernel
theorem dX8_isSheet_6 : decode cX8_isSheet 6 = .ok (.ireturn, 1) := by decide +kernel
theorem dX8_sheet_0 : decode cX8_sheet 0 = .ok (.iload_n 1, 1) := by decide +kernel
theorem dX8_sheet_1 : decode cX8_sheet 1 = .ok (.invokestatic 117, 3) := by decide +kernel
theorem dX8_sheet_4 : decode cX8_sheet 4 = .ok (.ifCond .eq 18, 3) := by decide +kernel
theorem dX8_sheet_7 : decode cX8_sheet 7 = .ok (.iload_n 2, 1) := by decide +kernel
theorem dX8_sheet_8 : decode cX8_sheet 8 = .ok (.iconst 0, 1) := by decide +kernel
theorem dX8_sheet_9 : decode cX8_sheet 9 = .ok (.iconst 2, 1) := by decide +kernel
theorem dX8_sheet_10 : decode cX8_sheet 10 = .ok (.invokestatic 66, 3) := by decide +kernel
theorem dX8_sheet_13 : decode cX8_sheet 13 = .ok (.ifCond .eq 9, 3) := by decide +kernel
theorem dX8_sheet_16 : decode cX8_sheet 16 = .ok (.iload_n 3, 1) := by decide +kernel
theorem dX8_sheet_17 : decode cX8_sheet 17 = .ok (.bipush 48, 2) := by decide +kernel
theorem dX8_sheet_19 : decode cX8_sheet 19 = .ok (.if_icmp .le 6, 3) := by decide +kernel
theorem dX8_sheet_22 : decode cX8_sheet 22 = .ok (.bipush (-2), 2) := by decide +kernel
theorem dX8_sheet_24 : decode cX8_sheet 24 = .ok (.ireturn, 1) := by decide +kernel
theorem dX8_sheet_25 : decode cX8_sheet 25 = .ok (.iload_n 3, 1) := by decide +kernel
theorem dX8_sheet_26 : decode cX8_sheet 26 = .ok (.ifCond .ge 9, 3) := by decide +kernel
theorem dX8_sheet_29 : decode cX8_sheet 29 = .ok (.aload_n 0, 1) := by decide +kernel
theorem dX8_sheet_30 : decode cX8_sheet 30 = .ok (.iconst 5, 1) := by decide +kernel
theorem dX8_sheet_31 : decode cX8_sheet 31 = .ok (.invokevirtual 120, 3) := by decide +kernel
theorem dX8_sheet_34 : decode cX8_sheet 34 = .ok (.ireturn, 1) := by decide +kernel
theorem dX8_sheet_35 : decode cX8_sheet 35 = .ok (.aload_n 0, 1) := by decide +kernel
theorem dX8_sheet_36 : decode cX8_sheet 36 = .ok (.getfield 43, 3) := by decide +kernel
theorem dX8_sheet_39 : decode cX8_sheet 39 = .ok (.iload_n 1, 1) := by decide +kernel
theorem dX8_sheet_40 : decode cX8_sheet 40 = .ok (.iconst 1, 1) := by decide +kernel
theorem dX8_sheet_41 : decode cX8_sheet 41 = .ok (.bastore, 1) := by decide +kernel
theorem dX8_sheet_42 : decode cX8_sheet 42 = .ok (.aload_n 0, 1) := by decide +kernel
theorem dX8_sheet_43 : decode cX8_sheet 43 = .ok (.getfield 47, 3) := by decide +kernel
theorem dX8_sheet_46 : decode cX8_sheet 46 = .ok (.iload_n 1, 1) := by decide +kernel
theorem dX8_sheet_47 : decode cX8_sheet 47 = .ok (.iload_n 2, 1) := by decide +kernel
theorem dX8_sheet_48 : decode cX8_sheet 48 = .ok (.iastore, 1) := by decide +kernel
theorem dX8_sheet_49 : decode cX8_sheet 49 = .ok (.aload_n 0, 1) := by decide +kernel
theorem dX8_sheet_50 : decode cX8_sheet 50 = .ok (.getfield 50, 3) := by decide +kernel
theorem dX8_sheet_53 : decode cX8_sheet 53 = .ok (.iload_n 1, 1) := by decide +kernel
theorem dX8_sheet_54 : decode cX8_sheet 54 = .ok (.iload_n 3, 1) := by decide +kernel
theorem dX8_sheet_55 : decode cX8_sheet 55 = .ok (.iastore, 1) := by decide +kernel
theorem dX8_sheet_56 : decode cX8_sheet 56 = .ok (.iconst 0, 1) := by decide +kernel
theorem dX8_sheet_57 : decode cX8_sheet 57 = .ok (.istore 4, 2) := by decide +kernel
theorem dX8_sheet_59 : decode cX8_sheet 59 = .ok (.iload 4, 2) := by decide +kernel
theorem dX8_sheet_61 : decode cX8_sheet 61 = .ok (.bipush 48, 2) := by decide +kernel
theorem dX8_sheet_63 : decode cX8_sheet 63 = .ok (.if_icmp .ge 22, 3) := by decide +kernel
theorem dX8_sheet_66 : decode cX8_sheet 66 = .ok (.aload_n 0, 1) := by decide +kernel
theorem dX8_sheet_67 : decode cX8_sheet 67 = .ok (.getfield 53, 3) := by decide +kernel
theorem dX8_sheet_70 : decode cX8_sheet 70 = .ok (.bipush 48, 2) := by decide +kernel
theorem dX8_sheet_72 : decode cX8_sheet 72 = .ok (.iload_n 1, 1) := by decide +kernel
theorem dX8_sheet_73 : decode cX8_sheet 73 = .ok (.imul, 1) := by decide +kernel
theorem dX8_sheet_74 : decode cX8_sheet 74 = .ok (.iload 4, 2) := by decide +kernel
theorem dX8_sheet_76 : decode cX8_sheet 76 = .ok (.iadd, 1) := by decide +kernel
theorem dX8_sheet_77 : decode cX8_sheet 77 = .ok (.iconst 0, 1) := by decide +kernel
theorem dX8_sheet_78 : decode cX8_sheet 78 = .ok (.iastore, 1) := by decide +kernel
theorem dX8_sheet_79 : decode cX8_sheet 79 = .ok (.iinc 4 1, 3) := by decide +kernel
theorem dX8_sheet_82 : decode cX8_sheet 82 = .ok (.goto (-23), 3) := by decide +kernel
theorem dX8_sheet_85 : decode cX8_sheet 85 = .ok (.iload_n 3, 1) := by decide +kernel
theorem dX8_sheet_86 : decode cX8_sheet 86 = .ok (.ireturn, 1) := by decide +kernel
theorem dX8_lose_0 : decode cX8_lose 0 = .ok (.iload_n 1, 1) := by decide +kernel
theorem dX8_lose_1 : decode cX8_lose 1 = .ok (.invokestatic 117, 3) := by decide +kernel
theorem dX8_lose_4 : decode cX8_lose 4 = .ok (.ifCond .ne 6, 3) := by decide +kernel
theorem dX8_lose_7 : decode cX8_lose 7 = .ok (.bipush (-2), 2) := by decide +kernel
theorem dX8_lose_9 : decode cX8_lose 9 = .ok (.ireturn, 1) := by decide +kernel
theorem dX8_lose_10 : decode cX8_lose 10 = .ok (.aload_n 0, 1) := by decide +kernel
theorem dX8_lose_11 : decode cX8_lose 11 = .ok (.getfield 43, 3) := by decide +kernel
theorem dX8_lose_14 : decode cX8_lose 14 = .ok (.iload_n 1, 1) := by decide +kernel
theorem dX8_lose_15 : decode cX8_lose 15 = .ok (.baload, 1) := by decide +kernel
theorem dX8_lose_16 : decode cX8_lose 16 = .ok (.ifCond .ne 9, 3) := by decide +kernel
theorem dX8_lose_19 : decode cX8_lose 19 = .ok (.aload_n 0, 1) := by decide +kernel
theorem dX8_lose_20 : decode cX8_lose 20 = .ok (.iconst 1, 1) := by decide +kernel
theorem dX8_lose_21 : decode cX8_lose 21 = .ok (.invokevirtual 120, 3) := by decide +kernel
theorem dX8_lose_24 : decode cX8_lose 24 = .ok (.ireturn, 1) := by decide +kernel
theorem dX8_lose_25 : decode cX8_lose 25 = .ok (.aload_n 0, 1) := by decide +kernel
theorem dX8_lose_26 : decode cX8_lose 26 = .ok (.getfield 43, 3) := by decide +kernel
theorem dX8_lose_29 : decode cX8_lose 29 = .ok (.iload_n 1, 1) := by decide +kernel
theorem dX8_lose_30 : decode cX8_lose 30 = .ok (.iconst 0, 1) := by decide +kernel
theorem dX8_lose_31 : decode cX8_lose 31 = .ok (.bastore, 1) := by decide +kernel
theorem dX8_lose_32 : decode cX8_lose 32 = .ok (.aload_n 0, 1) := by decide +kernel
theorem dX8_lose_33 : decode cX8_lose 33 = .ok (.getfield 50, 3) := by decide +kernel
theorem dX8_lose_36 : decode cX8_lose 36 = .ok (.iload_n 1, 1) := by decide +kernel
theorem dX8_lose_37 : decode cX8_lose 37 = .ok (.iaload, 1) := by decide +kernel
theorem dX8_lose_38 : decode cX8_lose 38 = .ok (.ireturn, 1) := by decide +kernel
theorem dX8_lacks_0 : decode cX8_lacks 0 = .ok (.aload_n 0, 1) := by decide +kernel
theorem dX8_lacks_1 : decode cX8_lacks 1 = .ok (.getfield 43, 3) := by decide +kernel
theorem dX8_lacks_4 : decode cX8_lacks 4 = .ok (.iload_n 1, 1) := by decide +kernel
theorem dX8_lacks_5 : decode cX8_lacks 5 = .ok (.baload, 1) := by decide +kernel
theorem dX8_lacks_6 : decode cX8_lacks 6 = .ok (.ifCond .ne 7, 3) := by decide +kernel
theorem dX8_lacks_9 : decode cX8_lacks 9 = .ok (.iconst 1, 1) := by decide +kernel
theorem dX8_lacks_10 : decode cX8_lacks 10 = .ok (.goto 38, 3) := by decide +kernel
theorem dX8_lacks_13 : decode cX8_lacks 13 = .ok (.aload_n 0, 1) := by decide +kernel
theorem dX8_lacks_14 : decode cX8_lacks 14 = .ok (.getfield 47, 3) := by decide +kernel
theorem dX8_lacks_17 : decode cX8_lacks 17 = .ok (.iload_n 1, 1) := by decide +kernel
theorem dX8_lacks_18 : decode cX8_lacks 18 = .ok (.iaload, 1) := by decide +kernel
theorem dX8_lacks_19 : decode cX8_lacks 19 = .ok (.iload_n 2, 1) := by decide +kernel
theorem dX8_lacks_20 : decode cX8_lacks 20 = .ok (.if_icmp .eq 7, 3) := by decide +kernel
theorem dX8_lacks_23 : decode cX8_lacks 23 = .ok (.iconst 3, 1) := by decide +kernel
theorem dX8_lacks_24 : decode cX8_lacks 24 = .ok (.goto 24, 3) := by decide +kernel
theorem dX8_lacks_27 : decode cX8_lacks 27 = .ok (.iload_n 3, 1) := by decide +kernel
theorem dX8_lacks_28 : decode cX8_lacks 28 = .ok (.iconst 0, 1) := by decide +kernel
theorem dX8_lacks_29 : decode cX8_lacks 29 = .ok (.aload_n 0, 1) := by decide +kernel
theorem dX8_lacks_30 : decode cX8_lacks 30 = .ok (.getfield 50, 3) := by decide +kernel
theorem dX8_lacks_33 : decode cX8_lacks 33 = .ok (.iload_n 1, 1) := by decide +kernel
theorem dX8_lacks_34 : decode cX8_lacks 34 = .ok (.iaload, 1) := by decide +kernel
theorem dX8_lacks_35 : decode cX8_lacks 35 = .ok (.iconst 1, 1) := by decide +kernel
theorem dX8_lacks_36 : decode cX8_lacks 36 = .ok (.isub, 1) := by decide +kernel
theorem dX8_lacks_37 : decode cX8_lacks 37 = .ok (.invokestatic 66, 3) := by decide +kernel
theorem dX8_lacks_40 : decode cX8_lacks 40 = .ok (.ifCond .eq 7, 3) := by decide +kernel
theorem dX8_lacks_43 : decode cX8_lacks 43 = .ok (.iconst 0, 1) := by decide +kernel
theorem dX8_lacks_44 : decode cX8_lacks 44 = .ok (.goto 4, 3) := by decide +kernel
theorem dX8_lacks_47 : decode cX8_lacks 47 = .ok (.iconst 2, 1) := by decide +kernel
theorem dX8_lacks_48 : decode cX8_lacks 48 = .ok (.ireturn, 1) := by decide +kernel
theorem dX8_keep_0 : decode cX8_keep 0 = .ok (.aload_n 0, 1) := by decide +kernel
theorem dX8_keep_1 : decode cX8_keep 1 = .ok (.getfield 53, 3) := by decide +kernel
theorem dX8_keep_4 : decode cX8_keep 4 = .ok (.bipush 48, 2) := by decide +kernel
theorem dX8_keep_6 : decode cX8_keep 6 = .ok (.iload_n 1, 1) := by decide +kernel
theorem dX8_keep_7 : decode cX8_keep 7 = .ok (.imul, 1) := by decide +kernel
theorem dX8_keep_8 : decode cX8_keep 8 = .ok (.iload_n 2, 1) := by decide +kernel
theorem dX8_keep_9 : decode cX8_keep 9 = .ok (.iadd, 1) := by decide +kernel
theorem dX8_keep_10 : decode cX8_keep 10 = .ok (.aload_n 0, 1) := by decide +kernel
theorem dX8_keep_11 : decode cX8_keep 11 = .ok (.getfield 47, 3) := by decide +kernel
theorem dX8_keep_14 : decode cX8_keep 14 = .ok (.iload_n 1, 1) := by decide +kernel
theorem dX8_keep_15 : decode cX8_keep 15 = .ok (.iaload, 1) := by decide +kernel
theorem dX8_keep_16 : decode cX8_keep 16 = .ok (.ifCond .ne 8, 3) := by decide +kernel
theorem dX8_keep_19 : decode cX8_keep 19 = .ok (.iload_n 3, 1) := by decide +kernel
theorem dX8_keep_20 : decode cX8_keep 20 = .ok (.i2b, 1) := by decide +kernel
theorem dX8_keep_21 : decode cX8_keep 21 = .ok (.goto 19, 3) := by decide +kernel
theorem dX8_keep_24 : decode cX8_keep 24 = .ok (.aload_n 0, 1) := by decide +kernel
theorem dX8_keep_25 : decode cX8_keep 25 = .ok (.getfield 47, 3) := by decide +kernel
theorem dX8_keep_28 : decode cX8_keep 28 = .ok (.iload_n 1, 1) := by decide +kernel
theorem dX8_keep_29 : decode cX8_keep 29 = .ok (.iaload, 1) := by decide +kernel
theorem dX8_keep_30 : decode cX8_keep 30 = .ok (.iconst 1, 1) := by decide +kernel
theorem dX8_keep_31 : decode cX8_keep 31 = .ok (.if_icmp .ne 8, 3) := by decide +kernel
theorem dX8_keep_34 : decode cX8_keep 34 = .ok (.iload_n 3, 1) := by decide +kernel
theorem dX8_keep_35 : decode cX8_keep 35 = .ok (.i2s, 1) := by decide +kernel
theorem dX8_keep_36 : decode cX8_keep 36 = .ok (.goto 4, 3) := by decide +kernel
theorem dX8_keep_39 : decode cX8_keep 39 = .ok (.iload_n 3, 1) := by decide +kernel
theorem dX8_keep_40 : decode cX8_keep 40 = .ok (.iastore, 1) := by decide +kernel
theorem dX8_keep_41 : decode cX8_keep 41 = .ok (.return_, 1) := by decide +kernel
theorem dX8_put_0 : decode cX8_put 0 = .ok (.iload_n 1, 1) := by decide +kernel
theorem dX8_put_1 : decode cX8_put 1 = .ok (.invokestatic 117, 3) := by decide +kernel
theorem dX8_put_4 : decode cX8_put 4 = .ok (.ifCond .eq 12, 3) := by decide +kernel
theorem dX8_put_7 : decode cX8_put 7 = .ok (.iload_n 2, 1) := by decide +kernel
theorem dX8_put_8 : decode cX8_put 8 = .ok (.iconst 0, 1) := by decide +kernel
theorem dX8_put_9 : decode cX8_put 9 = .ok (.iconst 2, 1) := by decide +kernel
theorem dX8_put_10 : decode cX8_put 10 = .ok (.invokestatic 66, 3) := by decide +kernel
theorem dX8_put_13 : decode cX8_put 13 = .ok (.ifCond .ne 6, 3) := by decide +kernel
theorem dX8_put_16 : decode cX8_put 16 = .ok (.bipush (-2), 2) := by decide +kernel
theorem dX8_put_18 : decode cX8_put 18 = .ok (.ireturn, 1) := by decide +kernel
theorem dX8_put_19 : decode cX8_put 19 = .ok (.aload_n 0, 1) := by decide +kernel
theorem dX8_put_20 : decode cX8_put 20 = .ok (.iload_n 1, 1) := by decide +kernel
theorem dX8_put_21 : decode cX8_put 21 = .ok (.iload_n 2, 1) := by decide +kernel
theorem dX8_put_22 : decode cX8_put 22 = .ok (.iload_n 3, 1) := by decide +kernel
theorem dX8_put_23 : decode cX8_put 23 = .ok (.invokevirtual 236, 3) := by decide +kernel
theorem dX8_put_26 : decode cX8_put 26 = .ok (.istore 5, 2) := by decide +kernel
theorem dX8_put_28 : decode cX8_put 28 = .ok (.iload 5, 2) := by decide +kernel
theorem dX8_put_30 : decode cX8_put 30 = .ok (.ifCond .le 10, 3) := by decide +kernel
theorem dX8_put_33 : decode cX8_put 33 = .ok (.aload_n 0, 1) := by decide +kernel
theorem dX8_put_34 : decode cX8_put 34 = .ok (.iload 5, 2) := by decide +kernel
theorem dX8_put_36 : decode cX8_put 36 = .ok (.invokevirtual 120, 3) := by decide +kernel
theorem dX8_put_39 : decode cX8_put 39 = .ok (.ireturn, 1) := by decide +kernel
theorem dX8_put_40 : decode cX8_put 40 = .ok (.aload_n 0, 1) := by decide +kernel
theorem dX8_put_41 : decode cX8_put 41 = .ok (.iload_n 1, 1) := by decide +kernel
theorem dX8_put_42 : decode cX8_put 42 = .ok (.iload_n 3, 1) := by decide +kernel
theorem dX8_put_43 : decode cX8_put 43 = .ok (.iload 4, 2) := by decide +kernel
theorem dX8_put_45 : decode cX8_put 45 = .ok (.invokevirtual 239, 3) := by decide +kernel
theorem dX8_put_48 : decode cX8_put 48 = .ok (.iconst 1, 1) := by decide +kernel
theorem dX8_put_49 : decode cX8_put 49 = .ok (.ireturn, 1) := by decide +kernel
theorem dX8_get_0 : decode cX8_get 0 = .ok (.iload_n 1, 1) := by decide +kernel
theorem dX8_get_1 : decode cX8_get 1 = .ok (.invokestatic 117, 3) := by decide +kernel
theorem dX8_get_4 : decode cX8_get 4 = .ok (.ifCond .eq 12, 3) := by decide +kernel
theorem dX8_get_7 : decode cX8_get 7 = .ok (.iload_n 2, 1) := by decide +kernel
theorem dX8_get_8 : decode cX8_get 8 = .ok (.iconst 0, 1) := by decide +kernel
theorem dX8_get_9 : decode cX8_get 9 = .ok (.iconst 2, 1) := by decide +kernel
theorem dX8_get_10 : decode cX8_get 10 = .ok (.invokestatic 66, 3) := by decide +kernel
theorem dX8_get_13 : decode cX8_get 13 = .ok (.ifCond .ne 6, 3) := by decide +kernel
theorem dX8_get_16 : decode cX8_get 16 = .ok (.ldc 243, 2) := by decide +kernel
theorem dX8_get_18 : decode cX8_get 18 = .ok (.ireturn, 1) := by decide +kernel
theorem dX8_get_19 : decode cX8_get 19 = .ok (.aload_n 0, 1) := by decide +kernel
theorem dX8_get_20 : decode cX8_get 20 = .ok (.iload_n 1, 1) := by decide +kernel
theorem dX8_get_21 : decode cX8_get 21 = .ok (.iload_n 2, 1) := by decide +kernel
theorem dX8_get_22 : decode cX8_get 22 = .ok (.iload_n 3, 1) := by decide +kernel
theorem dX8_get_23 : decode cX8_get 23 = .ok (.invokevirtual 236, 3) := by decide +kernel
theorem dX8_get_26 : decode cX8_get 26 = .ok (.istore 4, 2) := by decide +kernel
theorem dX8_get_28 : decode cX8_get 28 = .ok (.iload 4, 2) := by decide +kernel
theorem dX8_get_30 : decode cX8_get 30 = .ok (.ifCond .le 12, 3) := by decide +kernel
theorem dX8_get_33 : decode cX8_get 33 = .ok (.aload_n 0, 1) := by decide +kernel
theorem dX8_get_34 : decode cX8_get 34 = .ok (.iload 4, 2) := by decide +kernel
theorem dX8_get_36 : decode cX8_get 36 = .ok (.putfield 233, 3) := by decide +kernel
theorem dX8_get_39 : decode cX8_get 39 = .ok (.ldc 243, 2) := by decide +kernel
theorem dX8_get_41 : decode cX8_get 41 = .ok (.ireturn, 1) := by decide +kernel
theorem dX8_get_42 : decode cX8_get 42 = .ok (.aload_n 0, 1) := by decide +kernel
theorem dX8_get_43 : decode cX8_get 43 = .ok (.getfield 53, 3) := by decide +kernel
theorem dX8_get_46 : decode cX8_get 46 = .ok (.bipush 48, 2) := by decide +kernel
theorem dX8_get_48 : decode cX8_get 48 = .ok (.iload_n 1, 1) := by decide +kernel
theorem dX8_get_49 : decode cX8_get 49 = .ok (.imul, 1) := by decide +kernel
theorem dX8_get_50 : decode cX8_get 50 = .ok (.iload_n 3, 1) := by decide +kernel
theorem dX8_get_51 : decode cX8_get 51 = .ok (.iadd, 1) := by decide +kernel
theorem dX8_get_52 : decode cX8_get 52 = .ok (.iaload, 1) := by decide +kernel
theorem dX8_get_53 : decode cX8_get 53 = .ok (.ireturn, 1) := by decide +kernel
theorem dX8_copy_0 : decode cX8_copy 0 = .ok (.iload_n 1, 1) := by decide +kernel
theorem dX8_copy_1 : decode cX8_copy 1 = .ok (.invokestatic 117, 3) := by decide +kernel
theorem dX8_copy_4 : decode cX8_copy 4 = .ok (.ifCond .eq 10, 3) := by decide +kernel
theorem dX8_copy_7 : decode cX8_copy 7 = .ok (.iload_n 3, 1) := by decide +kernel
theorem dX8_copy_8 : decode cX8_copy 8 = .ok (.invokestatic 117, 3) := by decide +kernel
theorem dX8_copy_11 : decode cX8_copy 11 = .ok (.ifCond .ne 6, 3) := by decide +kernel
theorem dX8_copy_14 : decode cX8_copy 14 = .ok (.bipush (-2), 2) := by decide +kernel
theorem dX8_copy_16 : decode cX8_copy 16 = .ok (.ireturn, 1) := by decide +kernel
theorem dX8_copy_17 : decode cX8_copy 17 = .ok (.aload_n 0, 1) := by decide +kernel
theorem dX8_copy_18 : decode cX8_copy 18 = .ok (.getfield 43, 3) := by decide +kernel
theorem dX8_copy_21 : decode cX8_copy 21 = .ok (.iload_n 1, 1) := by decide +kernel
theorem dX8_copy_22 : decode cX8_copy 22 = .ok (.baload, 1) := by decide +kernel
theorem dX8_copy_23 : decode cX8_copy 23 = .ok (.ifCond .eq 12, 3) := by decide +kernel
theorem dX8_copy_26 : decode cX8_copy 26 = .ok (.aload_n 0, 1) := by decide +kernel
theorem dX8_copy_27 : decode cX8_copy 27 = .ok (.getfield 43, 3) := by decide +kernel
theorem dX8_copy_30 : decode cX8_copy 30 = .ok (.iload_n 3, 1) := by decide +kernel
theorem dX8_copy_31 : decode cX8_copy 31 = .ok (.baload, 1) := by decide +kernel
theorem dX8_copy_32 : decode cX8_copy 32 = .ok (.ifCond .ne 9, 3) := by decide +kernel
theorem dX8_copy_35 : decode cX8_copy 35 = .ok (.aload_n 0, 1) := by decide +kernel
theorem dX8_copy_36 : decode cX8_copy 36 = .ok (.iconst 1, 1) := by decide +kernel
theorem dX8_copy_37 : decode cX8_copy 37 = .ok (.invokevirtual 120, 3) := by decide +kernel
theorem dX8_copy_40 : decode cX8_copy 40 = .ok (.ireturn, 1) := by decide +kernel
theorem dX8_copy_41 : decode cX8_copy 41 = .ok (.aload_n 0, 1) := by decide +kernel
theorem dX8_copy_42 : decode cX8_copy 42 = .ok (.getfield 47, 3) := by decide +kernel
theorem dX8_copy_45 : decode cX8_copy 45 = .ok (.iload_n 1, 1) := by decide +kernel
theorem dX8_copy_46 : decode cX8_copy 46 = .ok (.iaload, 1) := by decide +kernel
theorem dX8_copy_47 : decode cX8_copy 47 = .ok (.aload_n 0, 1) := by decide +kernel
theorem dX8_copy_48 : decode cX8_copy 48 = .ok (.getfield 47, 3) := by decide +kernel
theorem dX8_copy_51 : decode cX8_copy 51 = .ok (.iload_n 3, 1) := by decide +kernel
theorem dX8_copy_52 : decode cX8_copy 52 = .ok (.iaload, 1) := by decide +kernel
theorem dX8_copy_53 : decode cX8_copy 53 = .ok (.if_icmp .eq 9, 3) := by decide +kernel
theorem dX8_copy_56 : decode cX8_copy 56 = .ok (.aload_n 0, 1) := by decide +kernel
theorem dX8_copy_57 : decode cX8_copy 57 = .ok (.iconst 4, 1) := by decide +kernel
theorem dX8_copy_58 : decode cX8_copy 58 = .ok (.invokevirtual 120, 3) := by decide +kernel
theorem dX8_copy_61 : decode cX8_copy 61 = .ok (.ireturn, 1) := by decide +kernel
theorem dX8_copy_62 : decode cX8_copy 62 = .ok (.iload_n 2, 1) := by decide +kernel
theorem dX8_copy_63 : decode cX8_copy 63 = .ok (.ifCond .lt 48, 3) := by decide +kernel
theorem dX8_copy_66 : decode cX8_copy 66 = .ok (.iload 4, 2) := by decide +kernel
theorem dX8_copy_68 : decode cX8_copy 68 = .ok (.ifCond .lt 43, 3) := by decide +kernel
theorem dX8_copy_71 : decode cX8_copy 71 = .ok (.iload 5, 2) := by decide +kernel
theorem dX8_copy_73 : decode cX8_copy 73 = .ok (.ifCond .lt 38, 3) := by decide +kernel
theorem dX8_copy_76 : decode cX8_copy 76 = .ok (.iload_n 2, 1) := by decide +kernel
theorem dX8_copy_77 : decode cX8_copy 77 = .ok (.i2l, 1) := by decide +kernel
theorem dX8_copy_78 : decode cX8_copy 78 = .ok (.iload 5, 2) := by decide +kernel
theorem dX8_copy_80 : decode cX8_copy 80 = .ok (.i2l, 1) := by decide +kernel
theorem dX8_copy_81 : decode cX8_copy 81 = .ok (.ladd, 1) := by decide +kernel
theorem dX8_copy_82 : decode cX8_copy 82 = .ok (.aload_n 0, 1) := by decide +kernel
theorem dX8_copy_83 : decode cX8_copy 83 = .ok (.getfield 50, 3) := by decide +kernel
theorem dX8_copy_86 : decode cX8_copy 86 = .ok (.iload_n 1, 1) := by decide +kernel
theorem dX8_copy_87 : decode cX8_copy 87 = .ok (.iaload, 1) := by decide +kernel
theorem dX8_copy_88 : decode cX8_copy 88 = .ok (.i2l, 1) := by decide +kernel
theorem dX8_copy_89 : decode cX8_copy 89 = .ok (.lcmp, 1) := by decide +kernel
theorem dX8_copy_90 : decode cX8_copy 90 = .ok (.ifCond .gt 21, 3) := by decide +kernel
theorem dX8_copy_93 : decode cX8_copy 93 = .ok (.iload 4, 2) := by decide +kernel
theorem dX8_copy_95 : decode cX8_copy 95 = .ok (.i2l, 1) := by decide +kernel
theorem dX8_copy_96 : decode cX8_copy 96 = .ok (.iload 5, 2) := by decide +kernel
theorem dX8_copy_98 : decode cX8_copy 98 = .ok (.i2l, 1) := by decide +kernel
theorem dX8_copy_99 : decode cX8_copy 99 = .ok (.ladd, 1) := by decide +kernel
theorem dX8_copy_100 : decode cX8_copy 100 = .ok (.aload_n 0, 1) := by decide +kernel
theorem dX8_copy_101 : decode cX8_copy 101 = .ok (.getfield 50, 3) := by decide +kernel
theorem dX8_copy_104 : decode cX8_copy 104 = .ok (.iload_n 3, 1) := by decide +kernel
theorem dX8_copy_105 : decode cX8_copy 105 = .ok (.iaload, 1) := by decide +kernel
theorem dX8_copy_106 : decode cX8_copy 106 = .ok (.i2l, 1) := by decide +kernel
theorem dX8_copy_107 : decode cX8_copy 107 = .ok (.lcmp, 1) := by decide +kernel
theorem dX8_copy_108 : decode cX8_copy 108 = .ok (.ifCond .le 9, 3) := by decide +kernel
theorem dX8_copy_111 : decode cX8_copy 111 = .ok (.aload_n 0, 1) := by decide +kernel
theorem dX8_copy_112 : decode cX8_copy 112 = .ok (.iconst 2, 1) := by decide +kernel
theorem dX8_copy_113 : decode cX8_copy 113 = .ok (.invokevirtual 120, 3) := by decide +kernel
theorem dX8_copy_116 : decode cX8_copy 116 = .ok (.ireturn, 1) := by decide +kernel
theorem dX8_copy_117 : decode cX8_copy 117 = .ok (.iconst 0, 1) := by decide +kernel
theorem dX8_copy_118 : decode cX8_copy 118 = .ok (.istore 6, 2) := by decide +kernel
theorem dX8_copy_120 : decode cX8_copy 120 = .ok (.iload 6, 2) := by decide +kernel
theorem dX8_copy_122 : decode cX8_copy 122 = .ok (.iload 5, 2) := by decide +kernel
theorem dX8_copy_124 : decode cX8_copy 124 = .ok (.if_icmp .ge 30, 3) := by decide +kernel
theorem dX8_copy_127 : decode cX8_copy 127 = .ok (.aload_n 0, 1) := by decide +kernel
theorem dX8_copy_128 : decode cX8_copy 128 = .ok (.getfield 56, 3) := by decide +kernel
theorem dX8_copy_131 : decode cX8_copy 131 = .ok (.iload 6, 2) := by decide +kernel
theorem dX8_copy_133 : decode cX8_copy 133 = .ok (.aload_n 0, 1) := by decide +kernel
theorem dX8_copy_134 : decode cX8_copy 134 = .ok (.getfield 53, 3) := by decide +kernel
theorem dX8_copy_137 : decode cX8_copy 137 = .ok (.bipush 48, 2) := by decide +kernel
theorem dX8_copy_139 : decode cX8_copy 139 = .ok (.iload_n 1, 1) := by decide +kernel
theorem dX8_copy_140 : decode cX8_copy 140 = .ok (.imul, 1) := by decide +kernel
theorem dX8_copy_141 : decode cX8_copy 141 = .ok (.iload_n 2, 1) := by decide +kernel
theorem dX8_copy_142 : decode cX8_copy 142 = .ok (.iadd, 1) := by decide +kernel
theorem dX8_copy_143 : decode cX8_copy 143 = .ok (.iload 6, 2) := by decide +kernel
theorem dX8_copy_145 : decode cX8_copy 145 = .ok (.iadd, 1) := by decide +kernel
theorem dX8_copy_146 : decode cX8_copy 146 = .ok (.iaload, 1) := by decide +kernel
theorem dX8_copy_147 : decode cX8_copy 147 = .ok (.iastore, 1) := by decide +kernel
theorem dX8_copy_148 : decode cX8_copy 148 = .ok (.iinc 6 1, 3) := by decide +kernel
theorem dX8_copy_151 : decode cX8_copy 151 = .ok (.goto (-31), 3) := by decide +kernel
theorem dX8_copy_154 : decode cX8_copy 154 = .ok (.iconst 0, 1) := by decide +kernel
theorem dX8_copy_155 : decode cX8_copy 155 = .ok (.istore 6, 2) := by decide +kernel
theorem dX8_copy_157 : decode cX8_copy 157 = .ok (.iload 6, 2) := by decide +kernel
theorem dX8_copy_159 : decode cX8_copy 159 = .ok (.iload 5, 2) := by decide +kernel
theorem dX8_copy_161 : decode cX8_copy 161 = .ok (.if_icmp .ge 31, 3) := by decide +kernel
theorem dX8_copy_164 : decode cX8_copy 164 = .ok (.aload_n 0, 1) := by decide +kernel
theorem dX8_copy_165 : decode cX8_copy 165 = .ok (.getfield 53, 3) := by decide +kernel
theorem dX8_copy_168 : decode cX8_copy 168 = .ok (.bipush 48, 2) := by decide +kernel
theorem dX8_copy_170 : decode cX8_copy 170 = .ok (.iload_n 3, 1) := by decide +kernel
theorem dX8_copy_171 : decode cX8_copy 171 = .ok (.imul, 1) := by decide +kernel
theorem dX8_copy_172 : decode cX8_copy 172 = .ok (.iload 4, 2) := by decide +kernel
theorem dX8_copy_174 : decode cX8_copy 174 = .ok (.iadd, 1) := by decide +kernel
theorem dX8_copy_175 : decode cX8_copy 175 = .ok (.iload 6, 2) := by decide +kernel
theorem dX8_copy_177 : decode cX8_copy 177 = .ok (.iadd, 1) := by decide +kernel
theorem dX8_copy_178 : decode cX8_copy 178 = .ok (.aload_n 0, 1) := by decide +kernel
theorem dX8_copy_179 : decode cX8_copy 179 = .ok (.getfield 56, 3) := by decide +kernel
theorem dX8_copy_182 : decode cX8_copy 182 = .ok (.iload 6, 2) := by decide +kernel
theorem dX8_copy_184 : decode cX8_copy 184 = .ok (.iaload, 1) := by decide +kernel
theorem dX8_copy_185 : decode cX8_copy 185 = .ok (.iastore, 1) := by decide +kernel
theorem dX8_copy_186 : decode cX8_copy 186 = .ok (.iinc 6 1, 3) := by decide +kernel
theorem dX8_copy_189 : decode cX8_copy 189 = .ok (.goto (-32), 3) := by decide +kernel
theorem dX8_copy_192 : decode cX8_copy 192 = .ok (.iconst 1, 1) := by decide +kernel
theorem dX8_copy_193 : decode cX8_copy 193 = .ok (.ireturn, 1) := by decide +kernel
theorem dX8_write_0 : decode cX8_write 0 = .ok (.iload_n 1, 1) := by decide +kernel
theorem dX8_write_1 : decode cX8_write 1 = .ok (.invokestatic 117, 3) := by decide +kernel
theorem dX8_write_4 : decode cX8_write 4 = .ok (.ifCond .ne 6, 3) := by decide +kernel
theorem dX8_write_7 : decode cX8_write 7 = .ok (.bipush (-2), 2) := by decide +kernel
theorem dX8_write_9 : decode cX8_write 9 = .ok (.ireturn, 1) := by decide +kernel
theorem dX8_write_10 : decode cX8_write 10 = .ok (.aload_n 0, 1) := by decide +kernel
theorem dX8_write_11 : decode cX8_write 11 = .ok (.getfield 43, 3) := by decide +kernel
theorem dX8_write_14 : decode cX8_write 14 = .ok (.iload_n 1, 1) := by decide +kernel
theorem dX8_write_15 : decode cX8_write 15 = .ok (.baload, 1) := by decide +kernel
theorem dX8_write_16 : decode cX8_write 16 = .ok (.ifCond .ne 9, 3) := by decide +kernel
theorem dX8_write_19 : decode cX8_write 19 = .ok (.aload_n 0, 1) := by decide +kernel
theorem dX8_write_20 : decode cX8_write 20 = .ok (.iconst 1, 1) := by decide +kernel
theorem dX8_write_21 : decode cX8_write 21 = .ok (.invokevirtual 120, 3) := by decide +kernel
theorem dX8_write_24 : decode cX8_write 24 = .ok (.ireturn, 1) := by decide +kernel
theorem dX8_write_25 : decode cX8_write 25 = .ok (.aload_n 0, 1) := by decide +kernel
theorem dX8_write_26 : decode cX8_write 26 = .ok (.invokevirtual 139, 3) := by decide +kernel
theorem dX8_write_29 : decode cX8_write 29 = .ok (.istore_n 2, 1) := by decide +kernel
theorem dX8_write_30 : decode cX8_write 30 = .ok (.iconst 0, 1) := by decide +kernel
theorem dX8_write_31 : decode cX8_write 31 = .ok (.istore_n 3, 1) := by decide +kernel
theorem dX8_write_32 : decode cX8_write 32 = .ok (.iconst 0, 1) := by decide +kernel
theorem dX8_write_33 : decode cX8_write 33 = .ok (.istore 4, 2) := by decide +kernel
theorem dX8_write_35 : decode cX8_write 35 = .ok (.iload 4, 2) := by decide +kernel
theorem dX8_write_37 : decode cX8_write 37 = .ok (.iload_n 2, 1) := by decide +kernel
theorem dX8_write_38 : decode cX8_write 38 = .ok (.if_icmp .gt 43, 3) := by decide +kernel
theorem dX8_write_41 : decode cX8_write 41 = .ok (.iload_n 3, 1) := by decide +kernel
theorem dX8_write_42 : decode cX8_write 42 = .ok (.aload_n 0, 1) := by decide +kernel
theorem dX8_write_43 : decode cX8_write 43 = .ok (.getfield 50, 3) := by decide +kernel
theorem dX8_write_46 : decode cX8_write 46 = .ok (.iload_n 1, 1) := by decide +kernel
theorem dX8_write_47 : decode cX8_write 47 = .ok (.iaload, 1) := by decide +kernel
theorem dX8_write_48 : decode cX8_write 48 = .ok (.if_icmp .ge 33, 3) := by decide +kernel
theorem dX8_write_51 : decode cX8_write 51 = .ok (.aload_n 0, 1) := by decide +kernel
theorem dX8_write_52 : decode cX8_write 52 = .ok (.iload 4, 2) := by decide +kernel
theorem dX8_write_54 : decode cX8_write 54 = .ok (.aload_n 0, 1) := by decide +kernel
theorem dX8_write_55 : decode cX8_write 55 = .ok (.getfield 111, 3) := by decide +kernel
theorem dX8_write_58 : decode cX8_write 58 = .ok (.invokevirtual 142, 3) := by decide +kernel
theorem dX8_write_61 : decode cX8_write 61 = .ok (.ifCond .ne 14, 3) := by decide +kernel
theorem dX8_write_64 : decode cX8_write 64 = .ok (.aload_n 0, 1) := by decide +kernel
theorem dX8_write_65 : decode cX8_write 65 = .ok (.iload_n 1, 1) := by decide +kernel
theorem dX8_write_66 : decode cX8_write 66 = .ok (.iload_n 3, 1) := by decide +kernel
theorem dX8_write_67 : decode cX8_write 67 = .ok (.iload 4, 2) := by decide +kernel
theorem dX8_write_69 : decode cX8_write 69 = .ok (.invokevirtual 239, 3) := by decide +kernel
theorem dX8_write_72 : decode cX8_write 72 = .ok (.iinc 3 1, 3) := by decide +kernel
theorem dX8_write_75 : decode cX8_write 75 = .ok (.iinc 4 1, 3) := by decide +kernel
theorem dX8_write_78 : decode cX8_write 78 = .ok (.goto (-43), 3) := by decide +kernel
theorem dX8_write_81 : decode cX8_write 81 = .ok (.iload_n 3, 1) := by decide +kernel
theorem dX8_write_82 : decode cX8_write 82 = .ok (.ireturn, 1) := by decide +kernel
theorem dX8_readsMany_0 : decode cX8_readsMany 0 = .ok (.aload_n 0, 1) := by decide +kernel
theorem dX8_readsMany_1 : decode cX8_readsMany 1 = .ok (.invokevirtual 102, 3) := by decide +kernel
theorem dX8_readsMany_4 : decode cX8_readsMany 4 = .ok (.iload_n 1, 1) := by decide +kernel
theorem dX8_readsMany_5 : decode cX8_readsMany 5 = .ok (.ifCond .ne 10, 3) := by decide +kernel
theorem dX8_readsMany_8 : decode cX8_readsMany 8 = .ok (.aload_n 0, 1) := by decide +kernel
theorem dX8_readsMany_9 : decode cX8_readsMany 9 = .ok (.getfield 86, 3) := by decide +kernel
theorem dX8_readsMany_12 : decode cX8_readsMany 12 = .ok (.goto 11, 3) := by decide +kernel
theorem dX8_readsMany_15 : decode cX8_readsMany 15 = .ok (.aload_n 0, 1) := by decide +kernel
theorem dX8_readsMany_16 : decode cX8_readsMany 16 = .ok (.getfield 19, 3) := by decide +kernel
theorem dX8_readsMany_19 : decode cX8_readsMany 19 = .ok (.iload_n 1, 1) := by decide +kernel
theorem dX8_readsMany_20 : decode cX8_readsMany 20 = .ok (.iconst 1, 1) := by decide +kernel
theorem dX8_readsMany_21 : decode cX8_readsMany 21 = .ok (.isub, 1) := by decide +kernel
theorem dX8_readsMany_22 : decode cX8_readsMany 22 = .ok (.iaload, 1) := by decide +kernel
theorem dX8_readsMany_23 : decode cX8_readsMany 23 = .ok (.ireturn, 1) := by decide +kernel
theorem dX8_count_0 : decode cX8_count 0 = .ok (.iload_n 1, 1) := by decide +kernel
theorem dX8_count_1 : decode cX8_count 1 = .ok (.tableswitch 81 0 8 #[51, 51, 51, 57, 57, 57, 66, 71, 76], 51) := by decide +kernel
theorem dX8_count_52 : decode cX8_count 52 = .ok (.aload_n 0, 1) := by decide +kernel
theorem dX8_count_53 : decode cX8_count 53 = .ok (.iload_n 1, 1) := by decide +kernel
theorem dX8_count_54 : decode cX8_count 54 = .ok (.invokevirtual 244, 3) := by decide +kernel
theorem dX8_count_57 : decode cX8_count 57 = .ok (.ireturn, 1) := by decide +kernel
theorem dX8_count_58 : decode cX8_count 58 = .ok (.aload_n 0, 1) := by decide +kernel
theorem dX8_count_59 : decode cX8_count 59 = .ok (.getfield 7, 3) := by decide +kernel
theorem dX8_count_62 : decode cX8_count 62 = .ok (.iload_n 1, 1) := by decide +kernel
theorem dX8_count_63 : decode cX8_count 63 = .ok (.iconst 3, 1) := by decide +kernel
theorem dX8_count_64 : decode cX8_count 64 = .ok (.isub, 1) := by decide +kernel
theorem dX8_count_65 : decode cX8_count 65 = .ok (.iaload, 1) := by decide +kernel
theorem dX8_count_66 : decode cX8_count 66 = .ok (.ireturn, 1) := by decide +kernel
theorem dX8_count_67 : decode cX8_count 67 = .ok (.aload_n 0, 1) := by decide +kernel
theorem dX8_count_68 : decode cX8_count 68 = .ok (.getfield 223, 3) := by decide +kernel
theorem dX8_count_71 : decode cX8_count 71 = .ok (.ireturn, 1) := by decide +kernel
theorem dX8_count_72 : decode cX8_count 72 = .ok (.aload_n 0, 1) := by decide +kernel
theorem dX8_count_73 : decode cX8_count 73 = .ok (.getfield 59, 3) := by decide +kernel
theorem dX8_count_76 : decode cX8_count 76 = .ok (.ireturn, 1) := by decide +kernel
theorem dX8_count_77 : decode cX8_count 77 = .ok (.aload_n 0, 1) := by decide +kernel
theorem dX8_count_78 : decode cX8_count 78 = .ok (.getfield 233, 3) := by decide +kernel
theorem dX8_count_81 : decode cX8_count 81 = .ok (.ireturn, 1) := by decide +kernel
theorem dX8_count_82 : decode cX8_count 82 = .ok (.bipush (-2), 2) := by decide +kernel
theorem dX8_count_84 : decode cX8_count 84 = .ok (.ireturn, 1) := by decide +kernel
theorem dX8_digest_0 : decode cX8_digest 0 = .ok (.ldc2_w 247, 3) := by decide +kernel
theorem dX8_digest_3 : decode cX8_digest 3 = .ok (.lstore_n 1, 1) := by decide +kernel
theorem dX8_digest_4 : decode cX8_digest 4 = .ok (.iconst 0, 1) := by decide +kernel
theorem dX8_digest_5 : decode cX8_digest 5 = .ok (.istore_n 3, 1) := by decide +kernel
theorem dX8_digest_6 : decode cX8_digest 6 = .ok (.iload_n 3, 1) := by decide +kernel
theorem dX8_digest_7 : decode cX8_digest 7 = .ok (.bipush 8, 2) := by decide +kernel
theorem dX8_digest_9 : decode cX8_digest 9 = .ok (.if_icmp .ge 22, 3) := by decide +kernel
theorem dX8_digest_12 : decode cX8_digest 12 = .ok (.ldc2_w 249, 3) := by decide +kernel
theorem dX8_digest_15 : decode cX8_digest 15 = .ok (.lload_n 1, 1) := by decide +kernel
theorem dX8_digest_16 : decode cX8_digest 16 = .ok (.lmul, 1) := by decide +kernel
theorem dX8_digest_17 : decode cX8_digest 17 = .ok (.aload_n 0, 1) := by decide +kernel
theorem dX8_digest_18 : decode cX8_digest 18 = .ok (.iload_n 3, 1) := by decide +kernel
theorem dX8_digest_19 : decode cX8_digest 19 = .ok (.invokevirtual 251, 3) := by decide +kernel
theorem dX8_digest_22 : decode cX8_digest 22 = .ok (.i2l, 1) := by decide +kernel
theorem dX8_digest_23 : decode cX8_digest 23 = .ok (.ladd, 1) := by decide +kernel
theorem dX8_digest_24 : decode cX8_digest 24 = .ok (.lstore_n 1, 1) := by decide +kernel
theorem dX8_digest_25 : decode cX8_digest 25 = .ok (.iinc 3 1, 3) := by decide +kernel
theorem dX8_digest_28 : decode cX8_digest 28 = .ok (.goto (-22), 3) := by decide +kernel
theorem dX8_digest_31 : decode cX8_digest 31 = .ok (.iconst 0, 1) := by decide +kernel
theorem dX8_digest_32 : decode cX8_digest 32 = .ok (.istore_n 3, 1) := by decide +kernel
theorem dX8_digest_33 : decode cX8_digest 33 = .ok (.iload_n 3, 1) := by decide +kernel
theorem dX8_digest_34 : decode cX8_digest 34 = .ok (.iconst 3, 1) := by decide +kernel
theorem dX8_digest_35 : decode cX8_digest 35 = .ok (.if_icmp .ge 22, 3) := by decide +kernel
theorem dX8_digest_38 : decode cX8_digest 38 = .ok (.ldc2_w 249, 3) := by decide +kernel
theorem dX8_digest_41 : decode cX8_digest 41 = .ok (.lload_n 1, 1) := by decide +kernel
theorem dX8_digest_42 : decode cX8_digest 42 = .ok (.lmul, 1) := by decide +kernel
theorem dX8_digest_43 : decode cX8_digest 43 = .ok (.aload_n 0, 1) := by decide +kernel
theorem dX8_digest_44 : decode cX8_digest 44 = .ok (.iload_n 3, 1) := by decide +kernel
theorem dX8_digest_45 : decode cX8_digest 45 = .ok (.invokevirtual 99, 3) := by decide +kernel
theorem dX8_digest_48 : decode cX8_digest 48 = .ok (.i2l, 1) := by decide +kernel
theorem dX8_digest_49 : decode cX8_digest 49 = .ok (.ladd, 1) := by decide +kernel
theorem dX8_digest_50 : decode cX8_digest 50 = .ok (.lstore_n 1, 1) := by decide +kernel
theorem dX8_digest_51 : decode cX8_digest 51 = .ok (.iinc 3 1, 3) := by decide +kernel
theorem dX8_digest_54 : decode cX8_digest 54 = .ok (.goto (-21), 3) := by decide +kernel
theorem dX8_digest_57 : decode cX8_digest 57 = .ok (.iconst 0, 1) := by decide +kernel
theorem dX8_digest_58 : decode cX8_digest 58 = .ok (.istore_n 3, 1) := by decide +kernel
theorem dX8_digest_59 : decode cX8_digest 59 = .ok (.iload_n 3, 1) := by decide +kernel
theorem dX8_digest_60 : decode cX8_digest 60 = .ok (.aload_n 0, 1) := by decide +kernel
theorem dX8_digest_61 : decode cX8_digest 61 = .ok (.getfield 86, 3) := by decide +kernel
theorem dX8_digest_64 : decode cX8_digest 64 = .ok (.if_icmp .ge 58, 3) := by decide +kernel
theorem dX8_digest_67 : decode cX8_digest 67 = .ok (.iconst 0, 1) := by decide +kernel
theorem dX8_digest_68 : decode cX8_digest 68 = .ok (.istore 4, 2) := by decide +kernel
theorem dX8_digest_70 : decode cX8_digest 70 = .ok (.iload 4, 2) := by decide +kernel
theorem dX8_digest_72 : decode cX8_digest 72 = .ok (.bipush 6, 2) := by decide +kernel
theorem dX8_digest_74 : decode cX8_digest 74 = .ok (.if_icmp .ge 29, 3) := by decide +kernel
theorem dX8_digest_77 : decode cX8_digest 77 = .ok (.ldc2_w 249, 3) := by decide +kernel
theorem dX8_digest_80 : decode cX8_digest 80 = .ok (.lload_n 1, 1) := by decide +kernel
theorem dX8_digest_81 : decode cX8_digest 81 = .ok (.lmul, 1) := by decide +kernel
theorem dX8_digest_82 : decode cX8_digest 82 = .ok (.aload_n 0, 1) := by decide +kernel
theorem dX8_digest_83 : decode cX8_digest 83 = .ok (.getfield 16, 3) := by decide +kernel
theorem dX8_digest_86 : decode cX8_digest 86 = .ok (.bipush 6, 2) := by decide +kernel
theorem dX8_digest_88 : decode cX8_digest 88 = .ok (.iload_n 3, 1) := by decide +kernel
theorem dX8_digest_89 : decode cX8_digest 89 = .ok (.imul, 1) := by decide +kernel
theorem dX8_digest_90 : decode cX8_digest 90 = .ok (.iload 4, 2) := by decide +kernel
theorem dX8_digest_92 : decode cX8_digest 92 = .ok (.iadd, 1) := by decide +kernel
theorem dX8_digest_93 : decode cX8_digest 93 = .ok (.iaload, 1) := by decide +kernel
theorem dX8_digest_94 : decode cX8_digest 94 = .ok (.i2l, 1) := by decide +kernel
theorem dX8_digest_95 : decode cX8_digest 95 = .ok (.ladd, 1) := by decide +kernel
theorem dX8_digest_96 : decode cX8_digest 96 = .ok (.lstore_n 1, 1) := by decide +kernel
theorem dX8_digest_97 : decode cX8_digest 97 = .ok (.iinc 4 1, 3) := by decide +kernel
theorem dX8_digest_100 : decode cX8_digest 100 = .ok (.goto (-30), 3) := by decide +kernel
theorem dX8_digest_103 : decode cX8_digest 103 = .ok (.ldc2_w 249, 3) := by decide +kernel
theorem dX8_digest_106 : decode cX8_digest 106 = .ok (.lload_n 1, 1) := by decide +kernel
theorem dX8_digest_107 : decode cX8_digest 107 = .ok (.lmul, 1) := by decide +kernel
theorem dX8_digest_108 : decode cX8_digest 108 = .ok (.aload_n 0, 1) := by decide +kernel
theorem dX8_digest_109 : decode cX8_digest 109 = .ok (.iload_n 3, 1) := by decide +kernel
theorem dX8_digest_110 : decode cX8_digest 110 = .ok (.invokevirtual 178, 3) := by decide +kernel
theorem dX8_digest_113 : decode cX8_digest 113 = .ok (.i2l, 1) := by decide +kernel
theorem dX8_digest_114 : decode cX8_digest 114 = .ok (.ladd, 1) := by decide +kernel
theorem dX8_digest_115 : decode cX8_digest 115 = .ok (.lstore_n 1, 1) := by decide +kernel
theorem dX8_digest_116 : decode cX8_digest 116 = .ok (.iinc 3 1, 3) := by decide +kernel
theorem dX8_digest_119 : decode cX8_digest 119 = .ok (.goto (-60), 3) := by decide +kernel
theorem dX8_digest_122 : decode cX8_digest 122 = .ok (.iconst (-1), 1) := by decide +kernel
theorem dX8_digest_123 : decode cX8_digest 123 = .ok (.istore_n 3, 1) := by decide +kernel
theorem dX8_digest_124 : decode cX8_digest 124 = .ok (.iload_n 3, 1) := by decide +kernel
theorem dX8_digest_125 : decode cX8_digest 125 = .ok (.iconst 2, 1) := by decide +kernel
theorem dX8_digest_126 : decode cX8_digest 126 = .ok (.if_icmp .ge 22, 3) := by decide +kernel
theorem dX8_digest_129 : decode cX8_digest 129 = .ok (.ldc2_w 249, 3) := by decide +kernel
theorem dX8_digest_132 : decode cX8_digest 132 = .ok (.lload_n 1, 1) := by decide +kernel
theorem dX8_digest_133 : decode cX8_digest 133 = .ok (.lmul, 1) := by decide +kernel
theorem dX8_digest_134 : decode cX8_digest 134 = .ok (.aload_n 0, 1) := by decide +kernel
theorem dX8_digest_135 : decode cX8_digest 135 = .ok (.iload_n 3, 1) := by decide +kernel
theorem dX8_digest_136 : decode cX8_digest 136 = .ok (.invokevirtual 151, 3) := by decide +kernel
theorem dX8_digest_139 : decode cX8_digest 139 = .ok (.i2l, 1) := by decide +kernel
theorem dX8_digest_140 : decode cX8_digest 140 = .ok (.ladd, 1) := by decide +kernel
theorem dX8_digest_141 : decode cX8_digest 141 = .ok (.lstore_n 1, 1) := by decide +kernel
theorem dX8_digest_142 : decode cX8_digest 142 = .ok (.iinc 3 1, 3) := by decide +kernel
theorem dX8_digest_145 : decode cX8_digest 145 = .ok (.goto (-21), 3) := by decide +kernel
theorem dX8_digest_148 : decode cX8_digest 148 = .ok (.iconst 0, 1) := by decide +kernel
theorem dX8_digest_149 : decode cX8_digest 149 = .ok (.istore_n 3, 1) := by decide +kernel
theorem dX8_digest_150 : decode cX8_digest 150 = .ok (.iload_n 3, 1) := by decide +kernel
theorem dX8_digest_151 : decode cX8_digest 151 = .ok (.iconst 2, 1) := by decide +kernel
theorem dX8_digest_152 : decode cX8_digest 152 = .ok (.if_icmp .ge 22, 3) := by decide +kernel
theorem dX8_digest_155 : decode cX8_digest 155 = .ok (.ldc2_w 249, 3) := by decide +kernel
theorem dX8_digest_158 : decode cX8_digest 158 = .ok (.lload_n 1, 1) := by decide +kernel
theorem dX8_digest_159 : decode cX8_digest 159 = .ok (.lmul, 1) := by decide +kernel
theorem dX8_digest_160 : decode cX8_digest 160 = .ok (.aload_n 0, 1) := by decide +kernel
theorem dX8_digest_161 : decode cX8_digest 161 = .ok (.iload_n 3, 1) := by decide +kernel
theorem dX8_digest_162 : decode cX8_digest 162 = .ok (.invokevirtual 154, 3) := by decide +kernel
theorem dX8_digest_165 : decode cX8_digest 165 = .ok (.i2l, 1) := by decide +kernel
theorem dX8_digest_166 : decode cX8_digest 166 = .ok (.ladd, 1) := by decide +kernel
theorem dX8_digest_167 : decode cX8_digest 167 = .ok (.lstore_n 1, 1) := by decide +kernel
theorem dX8_digest_168 : decode cX8_digest 168 = .ok (.iinc 3 1, 3) := by decide +kernel
theorem dX8_digest_171 : decode cX8_digest 171 = .ok (.goto (-21), 3) := by decide +kernel
theorem dX8_digest_174 : decode cX8_digest 174 = .ok (.iconst 0, 1) := by decide +kernel
theorem dX8_digest_175 : decode cX8_digest 175 = .ok (.istore_n 3, 1) := by decide +kernel
theorem dX8_digest_176 : decode cX8_digest 176 = .ok (.iload_n 3, 1) := by decide +kernel
theorem dX8_digest_177 : decode cX8_digest 177 = .ok (.iconst 2, 1) := by decide +kernel
theorem dX8_digest_178 : decode cX8_digest 178 = .ok (.if_icmp .ge 22, 3) := by decide +kernel
theorem dX8_digest_181 : decode cX8_digest 181 = .ok (.ldc2_w 249, 3) := by decide +kernel
theorem dX8_digest_184 : decode cX8_digest 184 = .ok (.lload_n 1, 1) := by decide +kernel
theorem dX8_digest_185 : decode cX8_digest 185 = .ok (.lmul, 1) := by decide +kernel
theorem dX8_digest_186 : decode cX8_digest 186 = .ok (.aload_n 0, 1) := by decide +kernel
theorem dX8_digest_187 : decode cX8_digest 187 = .ok (.iload_n 3, 1) := by decide +kernel
theorem dX8_digest_188 : decode cX8_digest 188 = .ok (.invokevirtual 160, 3) := by decide +kernel
theorem dX8_digest_191 : decode cX8_digest 191 = .ok (.i2l, 1) := by decide +kernel
theorem dX8_digest_192 : decode cX8_digest 192 = .ok (.ladd, 1) := by decide +kernel
theorem dX8_digest_193 : decode cX8_digest 193 = .ok (.lstore_n 1, 1) := by decide +kernel
theorem dX8_digest_194 : decode cX8_digest 194 = .ok (.iinc 3 1, 3) := by decide +kernel
theorem dX8_digest_197 : decode cX8_digest 197 = .ok (.goto (-21), 3) := by decide +kernel
theorem dX8_digest_200 : decode cX8_digest 200 = .ok (.iconst 0, 1) := by decide +kernel
theorem dX8_digest_201 : decode cX8_digest 201 = .ok (.istore_n 3, 1) := by decide +kernel
theorem dX8_digest_202 : decode cX8_digest 202 = .ok (.iload_n 3, 1) := by decide +kernel
theorem dX8_digest_203 : decode cX8_digest 203 = .ok (.iconst 2, 1) := by decide +kernel
theorem dX8_digest_204 : decode cX8_digest 204 = .ok (.if_icmp .ge 22, 3) := by decide +kernel
theorem dX8_digest_207 : decode cX8_digest 207 = .ok (.ldc2_w 249, 3) := by decide +kernel
theorem dX8_digest_210 : decode cX8_digest 210 = .ok (.lload_n 1, 1) := by decide +kernel
theorem dX8_digest_211 : decode cX8_digest 211 = .ok (.lmul, 1) := by decide +kernel
theorem dX8_digest_212 : decode cX8_digest 212 = .ok (.aload_n 0, 1) := by decide +kernel
theorem dX8_digest_213 : decode cX8_digest 213 = .ok (.iload_n 3, 1) := by decide +kernel
theorem dX8_digest_214 : decode cX8_digest 214 = .ok (.invokevirtual 163, 3) := by decide +kernel
theorem dX8_digest_217 : decode cX8_digest 217 = .ok (.i2l, 1) := by decide +kernel
theorem dX8_digest_218 : decode cX8_digest 218 = .ok (.ladd, 1) := by decide +kernel
theorem dX8_digest_219 : decode cX8_digest 219 = .ok (.lstore_n 1, 1) := by decide +kernel
theorem dX8_digest_220 : decode cX8_digest 220 = .ok (.iinc 3 1, 3) := by decide +kernel
theorem dX8_digest_223 : decode cX8_digest 223 = .ok (.goto (-21), 3) := by decide +kernel
theorem dX8_digest_226 : decode cX8_digest 226 = .ok (.ldc2_w 249, 3) := by decide +kernel
theorem dX8_digest_229 : decode cX8_digest 229 = .ok (.lload_n 1, 1) := by decide +kernel
theorem dX8_digest_230 : decode cX8_digest 230 = .ok (.lmul, 1) := by decide +kernel
theorem dX8_digest_231 : decode cX8_digest 231 = .ok (.aload_n 0, 1) := by decide +kernel
theorem dX8_digest_232 : decode cX8_digest 232 = .ok (.iconst 0, 1) := by decide +kernel
theorem dX8_digest_233 : decode cX8_digest 233 = .ok (.invokevirtual 148, 3) := by decide +kernel
theorem dX8_digest_236 : decode cX8_digest 236 = .ok (.i2l, 1) := by decide +kernel
theorem dX8_digest_237 : decode cX8_digest 237 = .ok (.ladd, 1) := by decide +kernel
theorem dX8_digest_238 : decode cX8_digest 238 = .ok (.lstore_n 1, 1) := by decide +kernel
theorem dX8_digest_239 : decode cX8_digest 239 = .ok (.ldc2_w 249, 3) := by decide +kernel
theorem dX8_digest_242 : decode cX8_digest 242 = .ok (.lload_n 1, 1) := by decide +kernel
theorem dX8_digest_243 : decode cX8_digest 243 = .ok (.lmul, 1) := by decide +kernel
theorem dX8_digest_244 : decode cX8_digest 244 = .ok (.aload_n 0, 1) := by decide +kernel
theorem dX8_digest_245 : decode cX8_digest 245 = .ok (.iconst 5, 1) := by decide +kernel
theorem dX8_digest_246 : decode cX8_digest 246 = .ok (.invokevirtual 148, 3) := by decide +kernel
theorem dX8_digest_249 : decode cX8_digest 249 = .ok (.i2l, 1) := by decide +kernel
theorem dX8_digest_250 : decode cX8_digest 250 = .ok (.ladd, 1) := by decide +kernel
theorem dX8_digest_251 : decode cX8_digest 251 = .ok (.lstore_n 1, 1) := by decide +kernel
theorem dX8_digest_252 : decode cX8_digest 252 = .ok (.ldc2_w 249, 3) := by decide +kernel
theorem dX8_digest_255 : decode cX8_digest 255 = .ok (.lload_n 1, 1) := by decide +kernel
theorem dX8_digest_256 : decode cX8_digest 256 = .ok (.lmul, 1) := by decide +kernel
theorem dX8_digest_257 : decode cX8_digest 257 = .ok (.aload_n 0, 1) := by decide +kernel
theorem dX8_digest_258 : decode cX8_digest 258 = .ok (.sipush 1023, 3) := by decide +kernel
theorem dX8_digest_261 : decode cX8_digest 261 = .ok (.invokevirtual 148, 3) := by decide +kernel
theorem dX8_digest_264 : decode cX8_digest 264 = .ok (.i2l, 1) := by decide +kernel
theorem dX8_digest_265 : decode cX8_digest 265 = .ok (.ladd, 1) := by decide +kernel
theorem dX8_digest_266 : decode cX8_digest 266 = .ok (.lstore_n 1, 1) := by decide +kernel
theorem dX8_digest_267 : decode cX8_digest 267 = .ok (.ldc2_w 249, 3) := by decide +kernel
theorem dX8_digest_270 : decode cX8_digest 270 = .ok (.lload_n 1, 1) := by decide +kernel
theorem dX8_digest_271 : decode cX8_digest 271 = .ok (.lmul, 1) := by decide +kernel
theorem dX8_digest_272 : decode cX8_digest 272 = .ok (.aload_n 0, 1) := by decide +kernel
theorem dX8_digest_273 : decode cX8_digest 273 = .ok (.iconst 5, 1) := by decide +kernel
theorem dX8_digest_274 : decode cX8_digest 274 = .ok (.invokevirtual 166, 3) := by decide +kernel
theorem dX8_digest_277 : decode cX8_digest 277 = .ok (.i2l, 1) := by decide +kernel
theorem dX8_digest_278 : decode cX8_digest 278 = .ok (.ladd, 1) := by decide +kernel
theorem dX8_digest_279 : decode cX8_digest 279 = .ok (.lstore_n 1, 1) := by decide +kernel
theorem dX8_digest_280 : decode cX8_digest 280 = .ok (.ldc2_w 249, 3) := by decide +kernel
theorem dX8_digest_283 : decode cX8_digest 283 = .ok (.lload_n 1, 1) := by decide +kernel
theorem dX8_digest_284 : decode cX8_digest 284 = .ok (.lmul, 1) := by decide +kernel
theorem dX8_digest_285 : decode cX8_digest 285 = .ok (.aload_n 0, 1) := by decide +kernel
theorem dX8_digest_286 : decode cX8_digest 286 = .ok (.iconst 0, 1) := by decide +kernel
theorem dX8_digest_287 : decode cX8_digest 287 = .ok (.iconst 3, 1) := by decide +kernel
theorem dX8_digest_288 : decode cX8_digest 288 = .ok (.invokevirtual 169, 3) := by decide +kernel
theorem dX8_digest_291 : decode cX8_digest 291 = .ok (.i2l, 1) := by decide +kernel
theorem dX8_digest_292 : decode cX8_digest 292 = .ok (.ladd, 1) := by decide +kernel
theorem dX8_digest_293 : decode cX8_digest 293 = .ok (.lstore_n 1, 1) := by decide +kernel
theorem dX8_digest_294 : decode cX8_digest 294 = .ok (.ldc2_w 249, 3) := by decide +kernel
theorem dX8_digest_297 : decode cX8_digest 297 = .ok (.lload_n 1, 1) := by decide +kernel
theorem dX8_digest_298 : decode cX8_digest 298 = .ok (.lmul, 1) := by decide +kernel
theorem dX8_digest_299 : decode cX8_digest 299 = .ok (.aload_n 0, 1) := by decide +kernel
theorem dX8_digest_300 : decode cX8_digest 300 = .ok (.iconst 0, 1) := by decide +kernel
theorem dX8_digest_301 : decode cX8_digest 301 = .ok (.iconst 0, 1) := by decide +kernel
theorem dX8_digest_302 : decode cX8_digest 302 = .ok (.invokevirtual 172, 3) := by decide +kernel
theorem dX8_digest_305 : decode cX8_digest 305 = .ok (.i2l, 1) := by decide +kernel
theorem dX8_digest_306 : decode cX8_digest 306 = .ok (.ladd, 1) := by decide +kernel
theorem dX8_digest_307 : decode cX8_digest 307 = .ok (.lstore_n 1, 1) := by decide +kernel
theorem dX8_digest_308 : decode cX8_digest 308 = .ok (.ldc2_w 249, 3) := by decide +kernel
theorem dX8_digest_311 : decode cX8_digest 311 = .ok (.lload_n 1, 1) := by decide +kernel
theorem dX8_digest_312 : decode cX8_digest 312 = .ok (.lmul, 1) := by decide +kernel
theorem dX8_digest_313 : decode cX8_digest 313 = .ok (.aload_n 0, 1) := by decide +kernel
theorem dX8_digest_314 : decode cX8_digest 314 = .ok (.iconst 0, 1) := by decide +kernel
theorem dX8_digest_315 : decode cX8_digest 315 = .ok (.iconst 1, 1) := by decide +kernel
theorem dX8_digest_316 : decode cX8_digest 316 = .ok (.invokevirtual 172, 3) := by decide +kernel
theorem dX8_digest_319 : decode cX8_digest 319 = .ok (.i2l, 1) := by decide +kernel
theorem dX8_digest_320 : decode cX8_digest 320 = .ok (.ladd, 1) := by decide +kernel
theorem dX8_digest_321 : decode cX8_digest 321 = .ok (.lstore_n 1, 1) := by decide +kernel
theorem dX8_digest_322 : decode cX8_digest 322 = .ok (.ldc2_w 249, 3) := by decide +kernel
theorem dX8_digest_325 : decode cX8_digest 325 = .ok (.lload_n 1, 1) := by decide +kernel
theorem dX8_digest_326 : decode cX8_digest 326 = .ok (.lmul, 1) := by decide +kernel
theorem dX8_digest_327 : decode cX8_digest 327 = .ok (.aload_n 0, 1) := by decide +kernel
theorem dX8_digest_328 : decode cX8_digest 328 = .ok (.invokevirtual 181, 3) := by decide +kernel
theorem dX8_digest_331 : decode cX8_digest 331 = .ok (.i2l, 1) := by decide +kernel
theorem dX8_digest_332 : decode cX8_digest 332 = .ok (.ladd, 1) := by decide +kernel
theorem dX8_digest_333 : decode cX8_digest 333 = .ok (.lstore_n 1, 1) := by decide +kernel
theorem dX8_digest_334 : decode cX8_digest 334 = .ok (.iconst 0, 1) := by decide +kernel
theorem dX8_digest_335 : decode cX8_digest 335 = .ok (.istore_n 3, 1) := by decide +kernel
theorem dX8_digest_336 : decode cX8_digest 336 = .ok (.iload_n 3, 1) := by decide +kernel
theorem dX8_digest_337 : decode cX8_digest 337 = .ok (.bipush 6, 2) := by decide +kernel
theorem dX8_digest_339 : decode cX8_digest 339 = .ok (.if_icmp .ge 99, 3) := by decide +kernel
theorem dX8_digest_342 : decode cX8_digest 342 = .ok (.ldc2_w 249, 3) := by decide +kernel
theorem dX8_digest_345 : decode cX8_digest 345 = .ok (.lload_n 1, 1) := by decide +kernel
theorem dX8_digest_346 : decode cX8_digest 346 = .ok (.lmul, 1) := by decide +kernel
theorem dX8_digest_347 : decode cX8_digest 347 = .ok (.aload_n 0, 1) := by decide +kernel
theorem dX8_digest_348 : decode cX8_digest 348 = .ok (.sipush 1023, 3) := by decide +kernel
theorem dX8_digest_351 : decode cX8_digest 351 = .ok (.iload_n 3, 1) := by decide +kernel
theorem dX8_digest_352 : decode cX8_digest 352 = .ok (.bipush 20, 2) := by decide +kernel
theorem dX8_digest_354 : decode cX8_digest 354 = .ok (.invokevirtual 190, 3) := by decide +kernel
theorem dX8_digest_357 : decode cX8_digest 357 = .ok (.i2l, 1) := by decide +kernel
theorem dX8_digest_358 : decode cX8_digest 358 = .ok (.ladd, 1) := by decide +kernel
theorem dX8_digest_359 : decode cX8_digest 359 = .ok (.lstore_n 1, 1) := by decide +kernel
theorem dX8_digest_360 : decode cX8_digest 360 = .ok (.ldc2_w 249, 3) := by decide +kernel
theorem dX8_digest_363 : decode cX8_digest 363 = .ok (.lload_n 1, 1) := by decide +kernel
theorem dX8_digest_364 : decode cX8_digest 364 = .ok (.lmul, 1) := by decide +kernel
theorem dX8_digest_365 : decode cX8_digest 365 = .ok (.aload_n 0, 1) := by decide +kernel
theorem dX8_digest_366 : decode cX8_digest 366 = .ok (.sipush 1023, 3) := by decide +kernel
theorem dX8_digest_369 : decode cX8_digest 369 = .ok (.iload_n 3, 1) := by decide +kernel
theorem dX8_digest_370 : decode cX8_digest 370 = .ok (.bipush 20, 2) := by decide +kernel
theorem dX8_digest_372 : decode cX8_digest 372 = .ok (.invokevirtual 193, 3) := by decide +kernel
theorem dX8_digest_375 : decode cX8_digest 375 = .ok (.i2l, 1) := by decide +kernel
theorem dX8_digest_376 : decode cX8_digest 376 = .ok (.ladd, 1) := by decide +kernel
theorem dX8_digest_377 : decode cX8_digest 377 = .ok (.lstore_n 1, 1) := by decide +kernel
theorem dX8_digest_378 : decode cX8_digest 378 = .ok (.ldc2_w 249, 3) := by decide +kernel
theorem dX8_digest_381 : decode cX8_digest 381 = .ok (.lload_n 1, 1) := by decide +kernel
theorem dX8_digest_382 : decode cX8_digest 382 = .ok (.lmul, 1) := by decide +kernel
theorem dX8_digest_383 : decode cX8_digest 383 = .ok (.aload_n 0, 1) := by decide +kernel
theorem dX8_digest_384 : decode cX8_digest 384 = .ok (.iload_n 3, 1) := by decide +kernel
theorem dX8_digest_385 : decode cX8_digest 385 = .ok (.iconst 0, 1) := by decide +kernel
theorem dX8_digest_386 : decode cX8_digest 386 = .ok (.invokevirtual 205, 3) := by decide +kernel
theorem dX8_digest_389 : decode cX8_digest 389 = .ok (.i2l, 1) := by decide +kernel
theorem dX8_digest_390 : decode cX8_digest 390 = .ok (.ladd, 1) := by decide +kernel
theorem dX8_digest_391 : decode cX8_digest 391 = .ok (.lstore_n 1, 1) := by decide +kernel
theorem dX8_digest_392 : decode cX8_digest 392 = .ok (.ldc2_w 249, 3) := by decide +kernel
theorem dX8_digest_395 : decode cX8_digest 395 = .ok (.lload_n 1, 1) := by decide +kernel
theorem dX8_digest_396 : decode cX8_digest 396 = .ok (.lmul, 1) := by decide +kernel
theorem dX8_digest_397 : decode cX8_digest 397 = .ok (.aload_n 0, 1) := by decide +kernel
theorem dX8_digest_398 : decode cX8_digest 398 = .ok (.iload_n 3, 1) := by decide +kernel
theorem dX8_digest_399 : decode cX8_digest 399 = .ok (.iconst 1, 1) := by decide +kernel
theorem dX8_digest_400 : decode cX8_digest 400 = .ok (.invokevirtual 205, 3) := by decide +kernel
theorem dX8_digest_403 : decode cX8_digest 403 = .ok (.i2l, 1) := by decide +kernel
theorem dX8_digest_404 : decode cX8_digest 404 = .ok (.ladd, 1) := by decide +kernel
theorem dX8_digest_405 : decode cX8_digest 405 = .ok (.lstore_n 1, 1) := by decide +kernel
theorem dX8_digest_406 : decode cX8_digest 406 = .ok (.ldc2_w 249, 3) := by decide +kernel
theorem dX8_digest_409 : decode cX8_digest 409 = .ok (.lload_n 1, 1) := by decide +kernel
theorem dX8_digest_410 : decode cX8_digest 410 = .ok (.lmul, 1) := by decide +kernel
theorem dX8_digest_411 : decode cX8_digest 411 = .ok (.aload_n 0, 1) := by decide +kernel
theorem dX8_digest_412 : decode cX8_digest 412 = .ok (.iload_n 3, 1) := by decide +kernel
theorem dX8_digest_413 : decode cX8_digest 413 = .ok (.invokevirtual 214, 3) := by decide +kernel
theorem dX8_digest_416 : decode cX8_digest 416 = .ok (.i2l, 1) := by decide +kernel
theorem dX8_digest_417 : decode cX8_digest 417 = .ok (.ladd, 1) := by decide +kernel
theorem dX8_digest_418 : decode cX8_digest 418 = .ok (.lstore_n 1, 1) := by decide +kernel
theorem dX8_digest_419 : decode cX8_digest 419 = .ok (.ldc2_w 249, 3) := by decide +kernel
theorem dX8_digest_422 : decode cX8_digest 422 = .ok (.lload_n 1, 1) := by decide +kernel
theorem dX8_digest_423 : decode cX8_digest 423 = .ok (.lmul, 1) := by decide +kernel
theorem dX8_digest_424 : decode cX8_digest 424 = .ok (.aload_n 0, 1) := by decide +kernel
theorem dX8_digest_425 : decode cX8_digest 425 = .ok (.iload_n 3, 1) := by decide +kernel
theorem dX8_digest_426 : decode cX8_digest 426 = .ok (.invokevirtual 254, 3) := by decide +kernel
theorem dX8_digest_429 : decode cX8_digest 429 = .ok (.i2l, 1) := by decide +kernel
theorem dX8_digest_430 : decode cX8_digest 430 = .ok (.ladd, 1) := by decide +kernel
theorem dX8_digest_431 : decode cX8_digest 431 = .ok (.lstore_n 1, 1) := by decide +kernel
theorem dX8_digest_432 : decode cX8_digest 432 = .ok (.iinc 3 1, 3) := by decide +kernel
theorem dX8_digest_435 : decode cX8_digest 435 = .ok (.goto (-99), 3) := by decide +kernel
theorem dX8_digest_438 : decode cX8_digest 438 = .ok (.ldc2_w 249, 3) := by decide +kernel
theorem dX8_digest_441 : decode cX8_digest 441 = .ok (.lload_n 1, 1) := by decide +kernel
theorem dX8_digest_442 : decode cX8_digest 442 = .ok (.lmul, 1) := by decide +kernel
theorem dX8_digest_443 : decode cX8_digest 443 = .ok (.aload_n 0, 1) := by decide +kernel
theorem dX8_digest_444 : decode cX8_digest 444 = .ok (.sipush 1023, 3) := by decide +kernel
theorem dX8_digest_447 : decode cX8_digest 447 = .ok (.bipush 20, 2) := by decide +kernel
theorem dX8_digest_449 : decode cX8_digest 449 = .ok (.invokevirtual 196, 3) := by decide +kernel
theorem dX8_digest_452 : decode cX8_digest 452 = .ok (.i2l, 1) := by decide +kernel
theorem dX8_digest_453 : decode cX8_digest 453 = .ok (.ladd, 1) := by decide +kernel
theorem dX8_digest_454 : decode cX8_digest 454 = .ok (.lstore_n 1, 1) := by decide +kernel
theorem dX8_digest_455 : decode cX8_digest 455 = .ok (.aload_n 0, 1) := by decide +kernel
theorem dX8_digest_456 : decode cX8_digest 456 = .ok (.iconst 0, 1) := by decide +kernel
theorem dX8_digest_457 : decode cX8_digest 457 = .ok (.invokevirtual 151, 3) := by decide +kernel
theorem dX8_digest_460 : decode cX8_digest 460 = .ok (.istore_n 3, 1) := by decide +kernel
theorem dX8_digest_461 : decode cX8_digest 461 = .ok (.ldc2_w 249, 3) := by decide +kernel
theorem dX8_digest_464 : decode cX8_digest 464 = .ok (.lload_n 1, 1) := by decide +kernel
theorem dX8_digest_465 : decode cX8_digest 465 = .ok (.lmul, 1) := by decide +kernel
theorem dX8_digest_466 : decode cX8_digest 466 = .ok (.aload_n 0, 1) := by decide +kernel
theorem dX8_digest_467 : decode cX8_digest 467 = .ok (.iload_n 3, 1) := by decide +kernel
theorem dX8_digest_468 : decode cX8_digest 468 = .ok (.iconst (-1), 1) := by decide +kernel
theorem dX8_digest_469 : decode cX8_digest 469 = .ok (.if_icmp .ne 7, 3) := by decide +kernel
theorem dX8_digest_472 : decode cX8_digest 472 = .ok (.iconst 0, 1) := by decide +kernel
theorem dX8_digest_473 : decode cX8_digest 473 = .ok (.goto 4, 3) := by decide +kernel
theorem dX8_digest_476 : decode cX8_digest 476 = .ok (.iload_n 3, 1) := by decide +kernel
theorem dX8_digest_477 : decode cX8_digest 477 = .ok (.iconst 0, 1) := by decide +kernel
theorem dX8_digest_478 : decode cX8_digest 478 = .ok (.invokevirtual 208, 3) := by decide +kernel
theorem dX8_digest_481 : decode cX8_digest 481 = .ok (.i2l, 1) := by decide +kernel
theorem dX8_digest_482 : decode cX8_digest 482 = .ok (.ladd, 1) := by decide +kernel
theorem dX8_digest_483 : decode cX8_digest 483 = .ok (.lstore_n 1, 1) := by decide +kernel
theorem dX8_digest_484 : decode cX8_digest 484 = .ok (.ldc2_w 249, 3) := by decide +kernel
theorem dX8_digest_487 : decode cX8_digest 487 = .ok (.lload_n 1, 1) := by decide +kernel
theorem dX8_digest_488 : decode cX8_digest 488 = .ok (.lmul, 1) := by decide +kernel
theorem dX8_digest_489 : decode cX8_digest 489 = .ok (.aload_n 0, 1) := by decide +kernel
theorem dX8_digest_490 : decode cX8_digest 490 = .ok (.iconst (-1), 1) := by decide +kernel
theorem dX8_digest_491 : decode cX8_digest 491 = .ok (.invokevirtual 214, 3) := by decide +kernel
theorem dX8_digest_494 : decode cX8_digest 494 = .ok (.i2l, 1) := by decide +kernel
theorem dX8_digest_495 : decode cX8_digest 495 = .ok (.ladd, 1) := by decide +kernel
theorem dX8_digest_496 : decode cX8_digest 496 = .ok (.lstore_n 1, 1) := by decide +kernel
theorem dX8_digest_497 : decode cX8_digest 497 = .ok (.ldc2_w 249, 3) := by decide +kernel
theorem dX8_digest_500 : decode cX8_digest 500 = .ok (.lload_n 1, 1) := by decide +kernel
theorem dX8_digest_501 : decode cX8_digest 501 = .ok (.lmul, 1) := by decide +kernel
theorem dX8_digest_502 : decode cX8_digest 502 = .ok (.aload_n 0, 1) := by decide +kernel
theorem dX8_digest_503 : decode cX8_digest 503 = .ok (.invokevirtual 217, 3) := by decide +kernel
theorem dX8_digest_506 : decode cX8_digest 506 = .ok (.i2l, 1) := by decide +kernel
theorem dX8_digest_507 : decode cX8_digest 507 = .ok (.ladd, 1) := by decide +kernel
theorem dX8_digest_508 : decode cX8_digest 508 = .ok (.lstore_n 1, 1) := by decide +kernel
theorem dX8_digest_509 : decode cX8_digest 509 = .ok (.ldc2_w 249, 3) := by decide +kernel
theorem dX8_digest_512 : decode cX8_digest 512 = .ok (.lload_n 1, 1) := by decide +kernel
theorem dX8_digest_513 : decode cX8_digest 513 = .ok (.lmul, 1) := by decide +kernel
theorem dX8_digest_514 : decode cX8_digest 514 = .ok (.aload_n 0, 1) := by decide +kernel
theorem dX8_digest_515 : decode cX8_digest 515 = .ok (.invokevirtual 220, 3) := by decide +kernel
theorem dX8_digest_518 : decode cX8_digest 518 = .ok (.i2l, 1) := by decide +kernel
theorem dX8_digest_519 : decode cX8_digest 519 = .ok (.ladd, 1) := by decide +kernel
theorem dX8_digest_520 : decode cX8_digest 520 = .ok (.lstore_n 1, 1) := by decide +kernel
theorem dX8_digest_521 : decode cX8_digest 521 = .ok (.ldc2_w 249, 3) := by decide +kernel
theorem dX8_digest_524 : decode cX8_digest 524 = .ok (.lload_n 1, 1) := by decide +kernel
theorem dX8_digest_525 : decode cX8_digest 525 = .ok (.lmul, 1) := by decide +kernel
theorem dX8_digest_526 : decode cX8_digest 526 = .ok (.aload_n 0, 1) := by decide +kernel
theorem dX8_digest_527 : decode cX8_digest 527 = .ok (.iconst 0, 1) := by decide +kernel
theorem dX8_digest_528 : decode cX8_digest 528 = .ok (.invokevirtual 226, 3) := by decide +kernel
theorem dX8_digest_531 : decode cX8_digest 531 = .ok (.i2l, 1) := by decide +kernel
theorem dX8_digest_532 : decode cX8_digest 532 = .ok (.ladd, 1) := by decide +kernel
theorem dX8_digest_533 : decode cX8_digest 533 = .ok (.lstore_n 1, 1) := by decide +kernel
theorem dX8_digest_534 : decode cX8_digest 534 = .ok (.ldc2_w 249, 3) := by decide +kernel
theorem dX8_digest_537 : decode cX8_digest 537 = .ok (.lload_n 1, 1) := by decide +kernel
theorem dX8_digest_538 : decode cX8_digest 538 = .ok (.lmul, 1) := by decide +kernel
theorem dX8_digest_539 : decode cX8_digest 539 = .ok (.aload_n 0, 1) := by decide +kernel
theorem dX8_digest_540 : decode cX8_digest 540 = .ok (.iconst 1, 1) := by decide +kernel
theorem dX8_digest_541 : decode cX8_digest 541 = .ok (.invokevirtual 226, 3) := by decide +kernel
theorem dX8_digest_544 : decode cX8_digest 544 = .ok (.i2l, 1) := by decide +kernel
theorem dX8_digest_545 : decode cX8_digest 545 = .ok (.ladd, 1) := by decide +kernel
theorem dX8_digest_546 : decode cX8_digest 546 = .ok (.lstore_n 1, 1) := by decide +kernel
theorem dX8_digest_547 : decode cX8_digest 547 = .ok (.ldc2_w 249, 3) := by decide +kernel
theorem dX8_digest_550 : decode cX8_digest 550 = .ok (.lload_n 1, 1) := by decide +kernel
theorem dX8_digest_551 : decode cX8_digest 551 = .ok (.lmul, 1) := by decide +kernel
theorem dX8_digest_552 : decode cX8_digest 552 = .ok (.aload_n 0, 1) := by decide +kernel
theorem dX8_digest_553 : decode cX8_digest 553 = .ok (.bipush 7, 2) := by decide +kernel
theorem dX8_digest_555 : decode cX8_digest 555 = .ok (.iconst 0, 1) := by decide +kernel
theorem dX8_digest_556 : decode cX8_digest 556 = .ok (.invokevirtual 230, 3) := by decide +kernel
theorem dX8_digest_559 : decode cX8_digest 559 = .ok (.i2l, 1) := by decide +kernel
theorem dX8_digest_560 : decode cX8_digest 560 = .ok (.ladd, 1) := by decide +kernel
theorem dX8_digest_561 : decode cX8_digest 561 = .ok (.lstore_n 1, 1) := by decide +kernel
theorem dX8_digest_562 : decode cX8_digest 562 = .ok (.ldc2_w 249, 3) := by decide +kernel
theorem dX8_digest_565 : decode cX8_digest 565 = .ok (.lload_n 1, 1) := by decide +kernel
theorem dX8_digest_566 : decode cX8_digest 566 = .ok (.lmul, 1) := by decide +kernel
theorem dX8_digest_567 : decode cX8_digest 567 = .ok (.aload_n 0, 1) := by decide +kernel
theorem dX8_digest_568 : decode cX8_digest 568 = .ok (.bipush 7, 2) := by decide +kernel
theorem dX8_digest_570 : decode cX8_digest 570 = .ok (.bipush 20, 2) := by decide +kernel
theorem dX8_digest_572 : decode cX8_digest 572 = .ok (.invokevirtual 230, 3) := by decide +kernel
theorem dX8_digest_575 : decode cX8_digest 575 = .ok (.i2l, 1) := by decide +kernel
theorem dX8_digest_576 : decode cX8_digest 576 = .ok (.ladd, 1) := by decide +kernel
theorem dX8_digest_577 : decode cX8_digest 577 = .ok (.lreturn, 1) := by decide +kernel
end
section
theorem dL_law_0 : decode cL_law 0 = .ok (.new 7, 3) := by decide +kernel
theorem dL_law_3 : decode cL_law 3 = .ok (.dup, 1) := by decide +kernel
theorem dL_law_4 : decode cL_law 4 = .ok (.invokespecial 9, 3) := by decide +kernel
theorem dL_law_7 : decode cL_law 7 = .ok (.astore_n 1, 1) := by decide +kernel
theorem dL_law_8 : decode cL_law 8 = .ok (.new 10, 3) := by decide +kernel
theorem dL_law_11 : decode cL_law 11 = .ok (.dup, 1) := by decide +kernel
theorem dL_law_12 : decode cL_law 12 = .ok (.invokespecial 12, 3) := by decide +kernel
theorem dL_law_15 : decode cL_law 15 = .ok (.astore_n 2, 1) := by decide +kernel
theorem dL_law_16 : decode cL_law 16 = .ok (.iconst 0, 1) := by decide +kernel
theorem dL_law_17 : decode cL_law 17 = .ok (.istore_n 3, 1) := by decide +kernel
theorem dL_law_18 : decode cL_law 18 = .ok (.iload_n 3, 1) := by decide +kernel
theorem dL_law_19 : decode cL_law 19 = .ok (.aload_n 0, 1) := by decide +kernel
theorem dL_law_20 : decode cL_law 20 = .ok (.arraylength, 1) := by decide +kernel
theorem dL_law_21 : decode cL_law 21 = .ok (.bipush 6, 2) := by decide +kernel
theorem dL_law_23 : decode cL_law 23 = .ok (.isub, 1) := by decide +kernel
theorem dL_law_24 : decode cL_law 24 = .ok (.if_icmp .gt 1294, 3) := by decide +kernel
theorem dL_law_27 : decode cL_law 27 = .ok (.aload_n 0, 1) := by decide +kernel
theorem dL_law_28 : decode cL_law 28 = .ok (.iload_n 3, 1) := by decide +kernel
theorem dL_law_29 : decode cL_law 29 = .ok (.iaload, 1) := by decide +kernel
theorem dL_law_30 : decode cL_law 30 = .ok (.bipush 63, 2) := by decide +kernel
theorem dL_law_32 : decode cL_law 32 = .ok (.iand, 1) := by decide +kernel
theorem dL_law_33 : decode cL_law 33 = .ok (.tableswitch 1279 0 38 #[171, 204, 227, 250, 273, 306, 339, 372, 395, 418, 441, 464, 487, 510, 533, 566, 599, 622, 635, 678, 721, 754, 787, 820, 843, 856, 869, 892, 925, 938, 961, 994, 1037, 1060, 1113, 1156, 1219, 1242, 1265], 171) := by decide +kernel
theorem dL_law_204 : decode cL_law 204 = .ok (.aload_n 1, 1) := by decide +kernel
theorem dL_law_205 : decode cL_law 205 = .ok (.aload_n 0, 1) := by decide +kernel
theorem dL_law_206 : decode cL_law 206 = .ok (.iload_n 3, 1) := by decide +kernel
theorem dL_law_207 : decode cL_law 207 = .ok (.iconst 1, 1) := by decide +kernel
theorem dL_law_208 : decode cL_law 208 = .ok (.iadd, 1) := by decide +kernel
theorem dL_law_209 : decode cL_law 209 = .ok (.iaload, 1) := by decide +kernel
theorem dL_law_210 : decode cL_law 210 = .ok (.aload_n 0, 1) := by decide +kernel
theorem dL_law_211 : decode cL_law 211 = .ok (.iload_n 3, 1) := by decide +kernel
theorem dL_law_212 : decode cL_law 212 = .ok (.iconst 2, 1) := by decide +kernel
theorem dL_law_213 : decode cL_law 213 = .ok (.iadd, 1) := by decide +kernel
theorem dL_law_214 : decode cL_law 214 = .ok (.iaload, 1) := by decide +kernel
theorem dL_law_215 : decode cL_law 215 = .ok (.invokevirtual 13, 3) := by decide +kernel
theorem dL_law_218 : decode cL_law 218 = .ok (.aload_n 2, 1) := by decide +kernel
theorem dL_law_219 : decode cL_law 219 = .ok (.aload_n 0, 1) := by decide +kernel
theorem dL_law_220 : decode cL_law 220 = .ok (.iload_n 3, 1) := by decide +kernel
theorem dL_law_221 : decode cL_law 221 = .ok (.iconst 1, 1) := by decide +kernel
theorem dL_law_222 : decode cL_law 222 = .ok (.iadd, 1) := by decide +kernel
theorem dL_law_223 : decode cL_law 223 = .ok (.iaload, 1) := by decide +kernel
theorem dL_law_224 : decode cL_law 224 = .ok (.aload_n 0, 1) := by decide +kernel
theorem dL_law_225 : decode cL_law 225 = .ok (.iload_n 3, 1) := by decide +kernel
theorem dL_law_226 : decode cL_law 226 = .ok (.iconst 2, 1) := by decide +kernel
theorem dL_law_227 : decode cL_law 227 = .ok (.iadd, 1) := by decide +kernel
theorem dL_law_228 : decode cL_law 228 = .ok (.iaload, 1) := by decide +kernel
theorem dL_law_229 : decode cL_law 229 = .ok (.invokevirtual 17, 3) := by decide +kernel
theorem dL_law_232 : decode cL_law 232 = .ok (.if_icmp .eq 1080, 3) := by decide +kernel
theorem dL_law_235 : decode cL_law 235 = .ok (.iconst 0, 1) := by decide +kernel
theorem dL_law_236 : decode cL_law 236 = .ok (.ireturn, 1) := by decide +kernel
theorem dL_law_237 : decode cL_law 237 = .ok (.aload_n 1, 1) := by decide +kernel
theorem dL_law_238 : decode cL_law 238 = .ok (.aload_n 0, 1) := by decide +kernel
theorem dL_law_239 : decode cL_law 239 = .ok (.iload_n 3, 1) := by decide +kernel
theorem dL_law_240 : decode cL_law 240 = .ok (.iconst 1, 1) := by decide +kernel
theorem dL_law_241 : decode cL_law 241 = .ok (.iadd, 1) := by decide +kernel
theorem dL_law_242 : decode cL_law 242 = .ok (.iaload, 1) := by decide +kernel
theorem dL_law_243 : decode cL_law 243 = .ok (.invokevirtual 18, 3) := by decide +kernel
theorem dL_law_246 : decode cL_law 246 = .ok (.aload_n 2, 1) := by decide +kernel
theorem dL_law_247 : decode cL_law 247 = .ok (.aload_n 0, 1) := by decide +kernel
theorem dL_law_248 : decode cL_law 248 = .ok (.iload_n 3, 1) := by decide +kernel
theorem dL_law_249 : decode cL_law 249 = .ok (.iconst 1, 1) := by decide +kernel
theorem dL_law_250 : decode cL_law 250 = .ok (.iadd, 1) := by decide +kernel
theorem dL_law_251 : decode cL_law 251 = .ok (.iaload, 1) := by decide +kernel
theorem dL_law_252 : decode cL_law 252 = .ok (.invokevirtual 22, 3) := by decide +kernel
theorem dL_law_255 : decode cL_law 255 = .ok (.if_icmp .eq 1057, 3) := by decide +kernel
theorem dL_law_258 : decode cL_law 258 = .ok (.iconst 0, 1) := by decide +kernel
theorem dL_law_259 : decode cL_law 259 = .ok (.ireturn, 1) := by decide +kernel
theorem dL_law_260 : decode cL_law 260 = .ok (.aload_n 1, 1) := by decide +kernel
theorem dL_law_261 : decode cL_law 261 = .ok (.aload_n 0, 1) := by decide +kernel
theorem dL_law_262 : decode cL_law 262 = .ok (.iload_n 3, 1) := by decide +kernel
theorem dL_law_263 : decode cL_law 263 = .ok (.iconst 1, 1) := by decide +kernel
theorem dL_law_264 : decode cL_law 264 = .ok (.iadd, 1) := by decide +kernel
theorem dL_law_265 : decode cL_law 265 = .ok (.iaload, 1) := by decide +kernel
theorem dL_law_266 : decode cL_law 266 = .ok (.invokevirtual 23, 3) := by decide +kernel
theorem dL_law_269 : decode cL_law 269 = .ok (.aload_n 2, 1) := by decide +kernel
theorem dL_law_270 : decode cL_law 270 = .ok (.aload_n 0, 1) := by decide +kernel
theorem dL_law_271 : decode cL_law 271 = .ok (.iload_n 3, 1) := by decide +kernel
theorem dL_law_272 : decode cL_law 272 = .ok (.iconst 1, 1) := by decide +kernel
theorem dL_law_273 : decode cL_law 273 = .ok (.iadd, 1) := by decide +kernel
theorem dL_law_274 : decode cL_law 274 = .ok (.iaload, 1) := by decide +kernel
theorem dL_law_275 : decode cL_law 275 = .ok (.invokevirtual 26, 3) := by decide +kernel
theorem dL_law_278 : decode cL_law 278 = .ok (.if_icmp .eq 1034, 3) := by decide +kernel
theorem dL_law_281 : decode cL_law 281 = .ok (.iconst 0, 1) := by decide +kernel
theorem dL_law_282 : decode cL_law 282 = .ok (.ireturn, 1) := by decide +kernel
theorem dL_law_283 : decode cL_law 283 = .ok (.aload_n 1, 1) := by decide +kernel
theorem dL_law_284 : decode cL_law 284 = .ok (.aload_n 0, 1) := by decide +kernel
theorem dL_law_285 : decode cL_law 285 = .ok (.iload_n 3, 1) := by decide +kernel
theorem dL_law_286 : decode cL_law 286 = .ok (.iconst 1, 1) := by decide +kernel
theorem dL_law_287 : decode cL_law 287 = .ok (.iadd, 1) := by decide +kernel
theorem dL_law_288 : decode cL_law 288 = .ok (.iaload, 1) := by decide +kernel
theorem dL_law_289 : decode cL_law 289 = .ok (.invokevirtual 27, 3) := by decide +kernel
theorem dL_law_292 : decode cL_law 292 = .ok (.aload_n 2, 1) := by decide +kernel
theorem dL_law_293 : decode cL_law 293 = .ok (.aload_n 0, 1) := by decide +kernel
theorem dL_law_294 : decode cL_law 294 = .ok (.iload_n 3, 1) := by decide +kernel
theorem dL_law_295 : decode cL_law 295 = .ok (.iconst 1, 1) := by decide +kernel
theorem dL_law_296 : decode cL_law 296 = .ok (.iadd, 1) := by decide +kernel
theorem dL_law_297 : decode cL_law 297 = .ok (.iaload, 1) := by decide +kernel
theorem dL_law_298 : decode cL_law 298 = .ok (.invokevirtual 30, 3) := by decide +kernel
theorem dL_law_301 : decode cL_law 301 = .ok (.if_icmp .eq 1011, 3) := by decide +kernel
theorem dL_law_304 : decode cL_law 304 = .ok (.iconst 0, 1) := by decide +kernel
theorem dL_law_305 : decode cL_law 305 = .ok (.ireturn, 1) := by decide +kernel
theorem dL_law_306 : decode cL_law 306 = .ok (.aload_n 1, 1) := by decide +kernel
theorem dL_law_307 : decode cL_law 307 = .ok (.aload_n 0, 1) := by decide +kernel
theorem dL_law_308 : decode cL_law 308 = .ok (.iload_n 3, 1) := by decide +kernel
theorem dL_law_309 : decode cL_law 309 = .ok (.iconst 1, 1) := by decide +kernel
theorem dL_law_310 : decode cL_law 310 = .ok (.iadd, 1) := by decide +kernel
theorem dL_law_311 : decode cL_law 311 = .ok (.iaload, 1) := by decide +kernel
theorem dL_law_312 : decode cL_law 312 = .ok (.aload_n 0, 1) := by decide +kernel
theorem dL_law_313 : decode cL_law 313 = .ok (.iload_n 3, 1) := by decide +kernel
theorem dL_law_314 : decode cL_law 314 = .ok (.iconst 2, 1) := by decide +kernel
theorem dL_law_315 : decode cL_law 315 = .ok (.iadd, 1) := by decide +kernel
theorem dL_law_316 : decode cL_law 316 = .ok (.iaload, 1) := by decide +kernel
theorem dL_law_317 : decode cL_law 317 = .ok (.invokevirtual 31, 3) := by decide +kernel
theorem dL_law_320 : decode cL_law 320 = .ok (.aload_n 2, 1) := by decide +kernel
theorem dL_law_321 : decode cL_law 321 = .ok (.aload_n 0, 1) := by decide +kernel
theorem dL_law_322 : decode cL_law 322 = .ok (.iload_n 3, 1) := by decide +kernel
theorem dL_law_323 : decode cL_law 323 = .ok (.iconst 1, 1) := by decide +kernel
theorem dL_law_324 : decode cL_law 324 = .ok (.iadd, 1) := by decide +kernel
theorem dL_law_325 : decode cL_law 325 = .ok (.iaload, 1) := by decide +kernel
theorem dL_law_326 : decode cL_law 326 = .ok (.aload_n 0, 1) := by decide +kernel
theorem dL_law_327 : decode cL_law 327 = .ok (.iload_n 3, 1) := by decide +kernel
theorem dL_law_328 : decode cL_law 328 = .ok (.iconst 2, 1) := by decide +kernel
theorem dL_law_329 : decode cL_law 329 = .ok (.iadd, 1) := by decide +kernel
theorem dL_law_330 : decode cL_law 330 = .ok (.iaload, 1) := by decide +kernel
theorem dL_law_331 : decode cL_law 331 = .ok (.invokevirtual 34, 3) := by decide +kernel
theorem dL_law_334 : decode cL_law 334 = .ok (.if_icmp .eq 978, 3) := by decide +kernel
theorem dL_law_337 : decode cL_law 337 = .ok (.iconst 0, 1) := by decide +kernel
theorem dL_law_338 : decode cL_law 338 = .ok (.ireturn, 1) := by decide +kernel
theorem dL_law_339 : decode cL_law 339 = .ok (.aload_n 1, 1) := by decide +kernel
theorem dL_law_340 : decode cL_law 340 = .ok (.aload_n 0, 1) := by decide +kernel
theorem dL_law_341 : decode cL_law 341 = .ok (.iload_n 3, 1) := by decide +kernel
theorem dL_law_342 : decode cL_law 342 = .ok (.iconst 1, 1) := by decide +kernel
theorem dL_law_343 : decode cL_law 343 = .ok (.iadd, 1) := by decide +kernel
theorem dL_law_344 : decode cL_law 344 = .ok (.iaload, 1) := by decide +kernel
theorem dL_law_345 : decode cL_law 345 = .ok (.aload_n 0, 1) := by decide +kernel
theorem dL_law_346 : decode cL_law 346 = .ok (.iload_n 3, 1) := by decide +kernel
theorem dL_law_347 : decode cL_law 347 = .ok (.iconst 2, 1) := by decide +kernel
theorem dL_law_348 : decode cL_law 348 = .ok (.iadd, 1) := by decide +kernel
theorem dL_law_349 : decode cL_law 349 = .ok (.iaload, 1) := by decide +kernel
theorem dL_law_350 : decode cL_law 350 = .ok (.invokevirtual 35, 3) := by decide +kernel
theorem dL_law_353 : decode cL_law 353 = .ok (.aload_n 2, 1) := by decide +kernel
theorem dL_law_354 : decode cL_law 354 = .ok (.aload_n 0, 1) := by decide +kernel
theorem dL_law_355 : decode cL_law 355 = .ok (.iload_n 3, 1) := by decide +kernel
theorem dL_law_356 : decode cL_law 356 = .ok (.iconst 1, 1) := by decide +kernel
theorem dL_law_357 : decode cL_law 357 = .ok (.iadd, 1) := by decide +kernel
theorem dL_law_358 : decode cL_law 358 = .ok (.iaload, 1) := by decide +kernel
theorem dL_law_359 : decode cL_law 359 = .ok (.aload_n 0, 1) := by decide +kernel
theorem dL_law_360 : decode cL_law 360 = .ok (.iload_n 3, 1) := by decide +kernel
theorem dL_law_361 : decode cL_law 361 = .ok (.iconst 2, 1) := by decide +kernel
theorem dL_law_362 : decode cL_law 362 = .ok (.iadd, 1) := by decide +kernel
theorem dL_law_363 : decode cL_law 363 = .ok (.iaload, 1) := by decide +kernel
theorem dL_law_364 : decode cL_law 364 = .ok (.invokevirtual 38, 3) := by decide +kernel
theorem dL_law_367 : decode cL_law 367 = .ok (.if_icmp .eq 945, 3) := by decide +kernel
theorem dL_law_370 : decode cL_law 370 = .ok (.iconst 0, 1) := by decide +kernel
theorem dL_law_371 : decode cL_law 371 = .ok (.ireturn, 1) := by decide +kernel
theorem dL_law_372 : decode cL_law 372 = .ok (.aload_n 1, 1) := by decide +kernel
theorem dL_law_373 : decode cL_law 373 = .ok (.aload_n 0, 1) := by decide +kernel
theorem dL_law_374 : decode cL_law 374 = .ok (.iload_n 3, 1) := by decide +kernel
theorem dL_law_375 : decode cL_law 375 = .ok (.iconst 1, 1) := by decide +kernel
theorem dL_law_376 : decode cL_law 376 = .ok (.iadd, 1) := by decide +kernel
theorem dL_law_377 : decode cL_law 377 = .ok (.iaload, 1) := by decide +kernel
theorem dL_law_378 : decode cL_law 378 = .ok (.aload_n 0, 1) := by decide +kernel
theorem dL_law_379 : decode cL_law 379 = .ok (.iload_n 3, 1) := by decide +kernel
theorem dL_law_380 : decode cL_law 380 = .ok (.iconst 2, 1) := by decide +kernel
theorem dL_law_381 : decode cL_law 381 = .ok (.iadd, 1) := by decide +kernel
theorem dL_law_382 : decode cL_law 382 = .ok (.iaload, 1) := by decide +kernel
theorem dL_law_383 : decode cL_law 383 = .ok (.invokevirtual 39, 3) := by decide +kernel
theorem dL_law_386 : decode cL_law 386 = .ok (.aload_n 2, 1) := by decide +kernel
theorem dL_law_387 : decode cL_law 387 = .ok (.aload_n 0, 1) := by decide +kernel
theorem dL_law_388 : decode cL_law 388 = .ok (.iload_n 3, 1) := by decide +kernel
theorem dL_law_389 : decode cL_law 389 = .ok (.iconst 1, 1) := by decide +kernel
theorem dL_law_390 : decode cL_law 390 = .ok (.iadd, 1) := by decide +kernel
theorem dL_law_391 : decode cL_law 391 = .ok (.iaload, 1) := by decide +kernel
theorem dL_law_392 : decode cL_law 392 = .ok (.aload_n 0, 1) := by decide +kernel
theorem dL_law_393 : decode cL_law 393 = .ok (.iload_n 3, 1) := by decide +kernel
theorem dL_law_394 : decode cL_law 394 = .ok (.iconst 2, 1) := by decide +kernel
theorem dL_law_395 : decode cL_law 395 = .ok (.iadd, 1) := by decide +kernel
theorem dL_law_396 : decode cL_law 396 = .ok (.iaload, 1) := by decide +kernel
theorem dL_law_397 : decode cL_law 397 = .ok (.invokevirtual 42, 3) := by decide +kernel
theorem dL_law_400 : decode cL_law 400 = .ok (.if_icmp .eq 912, 3) := by decide +kernel
theorem dL_law_403 : decode cL_law 403 = .ok (.iconst 0, 1) := by decide +kernel
theorem dL_law_404 : decode cL_law 404 = .ok (.ireturn, 1) := by decide +kernel
theorem dL_law_405 : decode cL_law 405 = .ok (.aload_n 1, 1) := by decide +kernel
theorem dL_law_406 : decode cL_law 406 = .ok (.aload_n 0, 1) := by decide +kernel
theorem dL_law_407 : decode cL_law 407 = .ok (.iload_n 3, 1) := by decide +kernel
theorem dL_law_408 : decode cL_law 408 = .ok (.iconst 1, 1) := by decide +kernel
theorem dL_law_409 : decode cL_law 409 = .ok (.iadd, 1) := by decide +kernel
theorem dL_law_410 : decode cL_law 410 = .ok (.iaload, 1) := by decide +kernel
theorem dL_law_411 : decode cL_law 411 = .ok (.invokevirtual 43, 3) := by decide +kernel
theorem dL_law_414 : decode cL_law 414 = .ok (.aload_n 2, 1) := by decide +kernel
theorem dL_law_415 : decode cL_law 415 = .ok (.aload_n 0, 1) := by decide +kernel
theorem dL_law_416 : decode cL_law 416 = .ok (.iload_n 3, 1) := by decide +kernel
theorem dL_law_417 : decode cL_law 417 = .ok (.iconst 1, 1) := by decide +kernel
theorem dL_law_418 : decode cL_law 418 = .ok (.iadd, 1) := by decide +kernel
theorem dL_law_419 : decode cL_law 419 = .ok (.iaload, 1) := by decide +kernel
theorem dL_law_420 : decode cL_law 420 = .ok (.invokevirtual 46, 3) := by decide +kernel
theorem dL_law_423 : decode cL_law 423 = .ok (.if_icmp .eq 889, 3) := by decide +kernel
theorem dL_law_426 : decode cL_law 426 = .ok (.iconst 0, 1) := by decide +kernel
theorem dL_law_427 : decode cL_law 427 = .ok (.ireturn, 1) := by decide +kernel
theorem dL_law_428 : decode cL_law 428 = .ok (.aload_n 1, 1) := by decide +kernel
theorem dL_law_429 : decode cL_law 429 = .ok (.aload_n 0, 1) := by decide +kernel
theorem dL_law_430 : decode cL_law 430 = .ok (.iload_n 3, 1) := by decide +kernel
theorem dL_law_431 : decode cL_law 431 = .ok (.iconst 1, 1) := by decide +kernel
theorem dL_law_432 : decode cL_law 432 = .ok (.iadd, 1) := by decide +kernel
theorem dL_law_433 : decode cL_law 433 = .ok (.iaload, 1) := by decide +kernel
theorem dL_law_434 : decode cL_law 434 = .ok (.invokevirtual 47, 3) := by decide +kernel
theorem dL_law_437 : decode cL_law 437 = .ok (.aload_n 2, 1) := by decide +kernel
theorem dL_law_438 : decode cL_law 438 = .ok (.aload_n 0, 1) := by decide +kernel
theorem dL_law_439 : decode cL_law 439 = .ok (.iload_n 3, 1) := by decide +kernel
theorem dL_law_440 : decode cL_law 440 = .ok (.iconst 1, 1) := by decide +kernel
theorem dL_law_441 : decode cL_law 441 = .ok (.iadd, 1) := by decide +kernel
theorem dL_law_442 : decode cL_law 442 = .ok (.iaload, 1) := by decide +kernel
theorem dL_law_443 : decode cL_law 443 = .ok (.invokevirtual 50, 3) := by decide +kernel
theorem dL_law_446 : decode cL_law 446 = .ok (.if_icmp .eq 866, 3) := by decide +kernel
theorem dL_law_449 : decode cL_law 449 = .ok (.iconst 0, 1) := by decide +kernel
theorem dL_law_450 : decode cL_law 450 = .ok (.ireturn, 1) := by decide +kernel
theorem dL_law_451 : decode cL_law 451 = .ok (.aload_n 1, 1) := by decide +kernel
theorem dL_law_452 : decode cL_law 452 = .ok (.aload_n 0, 1) := by decide +kernel
theorem dL_law_453 : decode cL_law 453 = .ok (.iload_n 3, 1) := by decide +kernel
theorem dL_law_454 : decode cL_law 454 = .ok (.iconst 1, 1) := by decide +kernel
theorem dL_law_455 : decode cL_law 455 = .ok (.iadd, 1) := by decide +kernel
theorem dL_law_456 : decode cL_law 456 = .ok (.iaload, 1) := by decide +kernel
theorem dL_law_457 : decode cL_law 457 = .ok (.invokevirtual 51, 3) := by decide +kernel
theorem dL_law_460 : decode cL_law 460 = .ok (.aload_n 2, 1) := by decide +kernel
theorem dL_law_461 : decode cL_law 461 = .ok (.aload_n 0, 1) := by decide +kernel
theorem dL_law_462 : decode cL_law 462 = .ok (.iload_n 3, 1) := by decide +kernel
theorem dL_law_463 : decode cL_law 463 = .ok (.iconst 1, 1) := by decide +kernel
theorem dL_law_464 : decode cL_law 464 = .ok (.iadd, 1) := by decide +kernel
theorem dL_law_465 : decode cL_law 465 = .ok (.iaload, 1) := by decide +kernel
theorem dL_law_466 : decode cL_law 466 = .ok (.invokevirtual 54, 3) := by decide +kernel
theorem dL_law_469 : decode cL_law 469 = .ok (.if_icmp .eq 843, 3) := by decide +kernel
theorem dL_law_472 : decode cL_law 472 = .ok (.iconst 0, 1) := by decide +kernel
theorem dL_law_473 : decode cL_law 473 = .ok (.ireturn, 1) := by decide +kernel
theorem dL_law_474 : decode cL_law 474 = .ok (.aload_n 1, 1) := by decide +kernel
theorem dL_law_475 : decode cL_law 475 = .ok (.aload_n 0, 1) := by decide +kernel
theorem dL_law_476 : decode cL_law 476 = .ok (.iload_n 3, 1) := by decide +kernel
theorem dL_law_477 : decode cL_law 477 = .ok (.iconst 1, 1) := by decide +kernel
theorem dL_law_478 : decode cL_law 478 = .ok (.iadd, 1) := by decide +kernel
theorem dL_law_479 : decode cL_law 479 = .ok (.iaload, 1) := by decide +kernel
theorem dL_law_480 : decode cL_law 480 = .ok (.invokevirtual 55, 3) := by decide +kernel
theorem dL_law_483 : decode cL_law 483 = .ok (.aload_n 2, 1) := by decide +kernel
theorem dL_law_484 : decode cL_law 484 = .ok (.aload_n 0, 1) := by decide +kernel
theorem dL_law_485 : decode cL_law 485 = .ok (.iload_n 3, 1) := by decide +kernel
theorem dL_law_486 : decode cL_law 486 = .ok (.iconst 1, 1) := by decide +kernel
theorem dL_law_487 : decode cL_law 487 = .ok (.iadd, 1) := by decide +kernel
theorem dL_law_488 : decode cL_law 488 = .ok (.iaload, 1) := by decide +kernel
theorem dL_law_489 : decode cL_law 489 = .ok (.invokevirtual 58, 3) := by decide +kernel
theorem dL_law_492 : decode cL_law 492 = .ok (.if_icmp .eq 820, 3) := by decide +kernel
theorem dL_law_495 : decode cL_law 495 = .ok (.iconst 0, 1) := by decide +kernel
theorem dL_law_496 : decode cL_law 496 = .ok (.ireturn, 1) := by decide +kernel
theorem dL_law_497 : decode cL_law 497 = .ok (.aload_n 1, 1) := by decide +kernel
theorem dL_law_498 : decode cL_law 498 = .ok (.aload_n 0, 1) := by decide +kernel
theorem dL_law_499 : decode cL_law 499 = .ok (.iload_n 3, 1) := by decide +kernel
theorem dL_law_500 : decode cL_law 500 = .ok (.iconst 1, 1) := by decide +kernel
theorem dL_law_501 : decode cL_law 501 = .ok (.iadd, 1) := by decide +kernel
theorem dL_law_502 : decode cL_law 502 = .ok (.iaload, 1) := by decide +kernel
theorem dL_law_503 : decode cL_law 503 = .ok (.invokevirtual 59, 3) := by decide +kernel
theorem dL_law_506 : decode cL_law 506 = .ok (.aload_n 2, 1) := by decide +kernel
theorem dL_law_507 : decode cL_law 507 = .ok (.aload_n 0, 1) := by decide +kernel
theorem dL_law_508 : decode cL_law 508 = .ok (.iload_n 3, 1) := by decide +kernel
theorem dL_law_509 : decode cL_law 509 = .ok (.iconst 1, 1) := by decide +kernel
theorem dL_law_510 : decode cL_law 510 = .ok (.iadd, 1) := by decide +kernel
theorem dL_law_511 : decode cL_law 511 = .ok (.iaload, 1) := by decide +kernel
theorem dL_law_512 : decode cL_law 512 = .ok (.invokevirtual 62, 3) := by decide +kernel
theorem dL_law_515 : decode cL_law 515 = .ok (.if_icmp .eq 797, 3) := by decide +kernel
theorem dL_law_518 : decode cL_law 518 = .ok (.iconst 0, 1) := by decide +kernel
theorem dL_law_519 : decode cL_law 519 = .ok (.ireturn, 1) := by decide +kernel
theorem dL_law_520 : decode cL_law 520 = .ok (.aload_n 1, 1) := by decide +kernel
theorem dL_law_521 : decode cL_law 521 = .ok (.aload_n 0, 1) := by decide +kernel
theorem dL_law_522 : decode cL_law 522 = .ok (.iload_n 3, 1) := by decide +kernel
theorem dL_law_523 : decode cL_law 523 = .ok (.iconst 1, 1) := by decide +kernel
theorem dL_law_524 : decode cL_law 524 = .ok (.iadd, 1) := by decide +kernel
theorem dL_law_525 : decode cL_law 525 = .ok (.iaload, 1) := by decide +kernel
theorem dL_law_526 : decode cL_law 526 = .ok (.invokevirtual 63, 3) := by decide +kernel
theorem dL_law_529 : decode cL_law 529 = .ok (.aload_n 2, 1) := by decide +kernel
theorem dL_law_530 : decode cL_law 530 = .ok (.aload_n 0, 1) := by decide +kernel
theorem dL_law_531 : decode cL_law 531 = .ok (.iload_n 3, 1) := by decide +kernel
theorem dL_law_532 : decode cL_law 532 = .ok (.iconst 1, 1) := by decide +kernel
theorem dL_law_533 : decode cL_law 533 = .ok (.iadd, 1) := by decide +kernel
theorem dL_law_534 : decode cL_law 534 = .ok (.iaload, 1) := by decide +kernel
theorem dL_law_535 : decode cL_law 535 = .ok (.invokevirtual 66, 3) := by decide +kernel
theorem dL_law_538 : decode cL_law 538 = .ok (.if_icmp .eq 774, 3) := by decide +kernel
theorem dL_law_541 : decode cL_law 541 = .ok (.iconst 0, 1) := by decide +kernel
theorem dL_law_542 : decode cL_law 542 = .ok (.ireturn, 1) := by decide +kernel
theorem dL_law_543 : decode cL_law 543 = .ok (.aload_n 1, 1) := by decide +kernel
theorem dL_law_544 : decode cL_law 544 = .ok (.aload_n 0, 1) := by decide +kernel
theorem dL_law_545 : decode cL_law 545 = .ok (.iload_n 3, 1) := by decide +kernel
theorem dL_law_546 : decode cL_law 546 = .ok (.iconst 1, 1) := by decide +kernel
theorem dL_law_547 : decode cL_law 547 = .ok (.iadd, 1) := by decide +kernel
theorem dL_law_548 : decode cL_law 548 = .ok (.iaload, 1) := by decide +kernel
theorem dL_law_549 : decode cL_law 549 = .ok (.invokevirtual 67, 3) := by decide +kernel
theorem dL_law_552 : decode cL_law 552 = .ok (.aload_n 2, 1) := by decide +kernel
theorem dL_law_553 : decode cL_law 553 = .ok (.aload_n 0, 1) := by decide +kernel
theorem dL_law_554 : decode cL_law 554 = .ok (.iload_n 3, 1) := by decide +kernel
theorem dL_law_555 : decode cL_law 555 = .ok (.iconst 1, 1) := by decide +kernel
theorem dL_law_556 : decode cL_law 556 = .ok (.iadd, 1) := by decide +kernel
theorem dL_law_557 : decode cL_law 557 = .ok (.iaload, 1) := by decide +kernel
theorem dL_law_558 : decode cL_law 558 = .ok (.invokevirtual 70, 3) := by decide +kernel
theorem dL_law_561 : decode cL_law 561 = .ok (.if_icmp .eq 751, 3) := by decide +kernel
theorem dL_law_564 : decode cL_law 564 = .ok (.iconst 0, 1) := by decide +kernel
theorem dL_law_565 : decode cL_law 565 = .ok (.ireturn, 1) := by decide +kernel
theorem dL_law_566 : decode cL_law 566 = .ok (.aload_n 1, 1) := by decide +kernel
theorem dL_law_567 : decode cL_law 567 = .ok (.aload_n 0, 1) := by decide +kernel
theorem dL_law_568 : decode cL_law 568 = .ok (.iload_n 3, 1) := by decide +kernel
theorem dL_law_569 : decode cL_law 569 = .ok (.iconst 1, 1) := by decide +kernel
theorem dL_law_570 : decode cL_law 570 = .ok (.iadd, 1) := by decide +kernel
theorem dL_law_571 : decode cL_law 571 = .ok (.iaload, 1) := by decide +kernel
theorem dL_law_572 : decode cL_law 572 = .ok (.aload_n 0, 1) := by decide +kernel
theorem dL_law_573 : decode cL_law 573 = .ok (.iload_n 3, 1) := by decide +kernel
theorem dL_law_574 : decode cL_law 574 = .ok (.iconst 2, 1) := by decide +kernel
theorem dL_law_575 : decode cL_law 575 = .ok (.iadd, 1) := by decide +kernel
theorem dL_law_576 : decode cL_law 576 = .ok (.iaload, 1) := by decide +kernel
theorem dL_law_577 : decode cL_law 577 = .ok (.invokevirtual 71, 3) := by decide +kernel
theorem dL_law_580 : decode cL_law 580 = .ok (.aload_n 2, 1) := by decide +kernel
theorem dL_law_581 : decode cL_law 581 = .ok (.aload_n 0, 1) := by decide +kernel
theorem dL_law_582 : decode cL_law 582 = .ok (.iload_n 3, 1) := by decide +kernel
theorem dL_law_583 : decode cL_law 583 = .ok (.iconst 1, 1) := by decide +kernel
theorem dL_law_584 : decode cL_law 584 = .ok (.iadd, 1) := by decide +kernel
theorem dL_law_585 : decode cL_law 585 = .ok (.iaload, 1) := by decide +kernel
theorem dL_law_586 : decode cL_law 586 = .ok (.aload_n 0, 1) := by decide +kernel
theorem dL_law_587 : decode cL_law 587 = .ok (.iload_n 3, 1) := by decide +kernel
theorem dL_law_588 : decode cL_law 588 = .ok (.iconst 2, 1) := by decide +kernel
theorem dL_law_589 : decode cL_law 589 = .ok (.iadd, 1) := by decide +kernel
theorem dL_law_590 : decode cL_law 590 = .ok (.iaload, 1) := by decide +kernel
theorem dL_law_591 : decode cL_law 591 = .ok (.invokevirtual 74, 3) := by decide +kernel
theorem dL_law_594 : decode cL_law 594 = .ok (.if_icmp .eq 718, 3) := by decide +kernel
theorem dL_law_597 : decode cL_law 597 = .ok (.iconst 0, 1) := by decide +kernel
theorem dL_law_598 : decode cL_law 598 = .ok (.ireturn, 1) := by decide +kernel
theorem dL_law_599 : decode cL_law 599 = .ok (.aload_n 1, 1) := by decide +kernel
theorem dL_law_600 : decode cL_law 600 = .ok (.aload_n 0, 1) := by decide +kernel
theorem dL_law_601 : decode cL_law 601 = .ok (.iload_n 3, 1) := by decide +kernel
theorem dL_law_602 : decode cL_law 602 = .ok (.iconst 1, 1) := by decide +kernel
theorem dL_law_603 : decode cL_law 603 = .ok (.iadd, 1) := by decide +kernel
theorem dL_law_604 : decode cL_law 604 = .ok (.iaload, 1) := by decide +kernel
theorem dL_law_605 : decode cL_law 605 = .ok (.aload_n 0, 1) := by decide +kernel
theorem dL_law_606 : decode cL_law 606 = .ok (.iload_n 3, 1) := by decide +kernel
theorem dL_law_607 : decode cL_law 607 = .ok (.iconst 2, 1) := by decide +kernel
theorem dL_law_608 : decode cL_law 608 = .ok (.iadd, 1) := by decide +kernel
theorem dL_law_609 : decode cL_law 609 = .ok (.iaload, 1) := by decide +kernel
theorem dL_law_610 : decode cL_law 610 = .ok (.invokevirtual 75, 3) := by decide +kernel
theorem dL_law_613 : decode cL_law 613 = .ok (.aload_n 2, 1) := by decide +kernel
theorem dL_law_614 : decode cL_law 614 = .ok (.aload_n 0, 1) := by decide +kernel
theorem dL_law_615 : decode cL_law 615 = .ok (.iload_n 3, 1) := by decide +kernel
theorem dL_law_616 : decode cL_law 616 = .ok (.iconst 1, 1) := by decide +kernel
theorem dL_law_617 : decode cL_law 617 = .ok (.iadd, 1) := by decide +kernel
theorem dL_law_618 : decode cL_law 618 = .ok (.iaload, 1) := by decide +kernel
theorem dL_law_619 : decode cL_law 619 = .ok (.aload_n 0, 1) := by decide +kernel
theorem dL_law_620 : decode cL_law 620 = .ok (.iload_n 3, 1) := by decide +kernel
theorem dL_law_621 : decode cL_law 621 = .ok (.iconst 2, 1) := by decide +kernel
theorem dL_law_622 : decode cL_law 622 = .ok (.iadd, 1) := by decide +kernel
theorem dL_law_623 : decode cL_law 623 = .ok (.iaload, 1) := by decide +kernel
theorem dL_law_624 : decode cL_law 624 = .ok (.invokevirtual 78, 3) := by decide +kernel
theorem dL_law_627 : decode cL_law 627 = .ok (.if_icmp .eq 685, 3) := by decide +kernel
theorem dL_law_630 : decode cL_law 630 = .ok (.iconst 0, 1) := by decide +kernel
theorem dL_law_631 : decode cL_law 631 = .ok (.ireturn, 1) := by decide +kernel
theorem dL_law_632 : decode cL_law 632 = .ok (.aload_n 1, 1) := by decide +kernel
theorem dL_law_633 : decode cL_law 633 = .ok (.aload_n 0, 1) := by decide +kernel
theorem dL_law_634 : decode cL_law 634 = .ok (.iload_n 3, 1) := by decide +kernel
theorem dL_law_635 : decode cL_law 635 = .ok (.iconst 1, 1) := by decide +kernel
theorem dL_law_636 : decode cL_law 636 = .ok (.iadd, 1) := by decide +kernel
theorem dL_law_637 : decode cL_law 637 = .ok (.iaload, 1) := by decide +kernel
theorem dL_law_638 : decode cL_law 638 = .ok (.invokevirtual 79, 3) := by decide +kernel
theorem dL_law_641 : decode cL_law 641 = .ok (.aload_n 2, 1) := by decide +kernel
theorem dL_law_642 : decode cL_law 642 = .ok (.aload_n 0, 1) := by decide +kernel
theorem dL_law_643 : decode cL_law 643 = .ok (.iload_n 3, 1) := by decide +kernel
theorem dL_law_644 : decode cL_law 644 = .ok (.iconst 1, 1) := by decide +kernel
theorem dL_law_645 : decode cL_law 645 = .ok (.iadd, 1) := by decide +kernel
theorem dL_law_646 : decode cL_law 646 = .ok (.iaload, 1) := by decide +kernel
theorem dL_law_647 : decode cL_law 647 = .ok (.invokevirtual 82, 3) := by decide +kernel
theorem dL_law_650 : decode cL_law 650 = .ok (.if_icmp .eq 662, 3) := by decide +kernel
theorem dL_law_653 : decode cL_law 653 = .ok (.iconst 0, 1) := by decide +kernel
theorem dL_law_654 : decode cL_law 654 = .ok (.ireturn, 1) := by decide +kernel
theorem dL_law_655 : decode cL_law 655 = .ok (.aload_n 1, 1) := by decide +kernel
theorem dL_law_656 : decode cL_law 656 = .ok (.invokevirtual 83, 3) := by decide +kernel
theorem dL_law_659 : decode cL_law 659 = .ok (.aload_n 2, 1) := by decide +kernel
theorem dL_law_660 : decode cL_law 660 = .ok (.invokevirtual 87, 3) := by decide +kernel
theorem dL_law_663 : decode cL_law 663 = .ok (.if_icmp .eq 649, 3) := by decide +kernel
theorem dL_law_666 : decode cL_law 666 = .ok (.iconst 0, 1) := by decide +kernel
theorem dL_law_667 : decode cL_law 667 = .ok (.ireturn, 1) := by decide +kernel
theorem dL_law_668 : decode cL_law 668 = .ok (.aload_n 1, 1) := by decide +kernel
theorem dL_law_669 : decode cL_law 669 = .ok (.aload_n 0, 1) := by decide +kernel
theorem dL_law_670 : decode cL_law 670 = .ok (.iload_n 3, 1) := by decide +kernel
theorem dL_law_671 : decode cL_law 671 = .ok (.iconst 1, 1) := by decide +kernel
theorem dL_law_672 : decode cL_law 672 = .ok (.iadd, 1) := by decide +kernel
theorem dL_law_673 : decode cL_law 673 = .ok (.iaload, 1) := by decide +kernel
theorem dL_law_674 : decode cL_law 674 = .ok (.aload_n 0, 1) := by decide +kernel
theorem dL_law_675 : decode cL_law 675 = .ok (.iload_n 3, 1) := by decide +kernel
theorem dL_law_676 : decode cL_law 676 = .ok (.iconst 2, 1) := by decide +kernel
theorem dL_law_677 : decode cL_law 677 = .ok (.iadd, 1) := by decide +kernel
theorem dL_law_678 : decode cL_law 678 = .ok (.iaload, 1) := by decide +kernel
theorem dL_law_679 : decode cL_law 679 = .ok (.aload_n 0, 1) := by decide +kernel
theorem dL_law_680 : decode cL_law 680 = .ok (.iload_n 3, 1) := by decide +kernel
theorem dL_law_681 : decode cL_law 681 = .ok (.iconst 3, 1) := by decide +kernel
theorem dL_law_682 : decode cL_law 682 = .ok (.iadd, 1) := by decide +kernel
theorem dL_law_683 : decode cL_law 683 = .ok (.iaload, 1) := by decide +kernel
theorem dL_law_684 : decode cL_law 684 = .ok (.invokevirtual 88, 3) := by decide +kernel
theorem dL_law_687 : decode cL_law 687 = .ok (.aload_n 2, 1) := by decide +kernel
theorem dL_law_688 : decode cL_law 688 = .ok (.aload_n 0, 1) := by decide +kernel
theorem dL_law_689 : decode cL_law 689 = .ok (.iload_n 3, 1) := by decide +kernel
theorem dL_law_690 : decode cL_law 690 = .ok (.iconst 1, 1) := by decide +kernel
theorem dL_law_691 : decode cL_law 691 = .ok (.iadd, 1) := by decide +kernel
theorem dL_law_692 : decode cL_law 692 = .ok (.iaload, 1) := by decide +kernel
theorem dL_law_693 : decode cL_law 693 = .ok (.aload_n 0, 1) := by decide +kernel
theorem dL_law_694 : decode cL_law 694 = .ok (.iload_n 3, 1) := by decide +kernel
theorem dL_law_695 : decode cL_law 695 = .ok (.iconst 2, 1) := by decide +kernel
theorem dL_law_696 : decode cL_law 696 = .ok (.iadd, 1) := by decide +kernel
theorem dL_law_697 : decode cL_law 697 = .ok (.iaload, 1) := by decide +kernel
theorem dL_law_698 : decode cL_law 698 = .ok (.aload_n 0, 1) := by decide +kernel
theorem dL_law_699 : decode cL_law 699 = .ok (.iload_n 3, 1) := by decide +kernel
theorem dL_law_700 : decode cL_law 700 = .ok (.iconst 3, 1) := by decide +kernel
theorem dL_law_701 : decode cL_law 701 = .ok (.iadd, 1) := by decide +kernel
theorem dL_law_702 : decode cL_law 702 = .ok (.iaload, 1) := by decide +kernel
theorem dL_law_703 : decode cL_law 703 = .ok (.invokevirtual 92, 3) := by decide +kernel
theorem dL_law_706 : decode cL_law 706 = .ok (.if_icmp .eq 606, 3) := by decide +kernel
theorem dL_law_709 : decode cL_law 709 = .ok (.iconst 0, 1) := by decide +kernel
theorem dL_law_710 : decode cL_law 710 = .ok (.ireturn, 1) := by decide +kernel
theorem dL_law_711 : decode cL_law 711 = .ok (.aload_n 1, 1) := by decide +kernel
theorem dL_law_712 : decode cL_law 712 = .ok (.aload_n 0, 1) := by decide +kernel
theorem dL_law_713 : decode cL_law 713 = .ok (.iload_n 3, 1) := by decide +kernel
theorem dL_law_714 : decode cL_law 714 = .ok (.iconst 1, 1) := by decide +kernel
theorem dL_law_715 : decode cL_law 715 = .ok (.iadd, 1) := by decide +kernel
theorem dL_law_716 : decode cL_law 716 = .ok (.iaload, 1) := by decide +kernel
theorem dL_law_717 : decode cL_law 717 = .ok (.aload_n 0, 1) := by decide +kernel
theorem dL_law_718 : decode cL_law 718 = .ok (.iload_n 3, 1) := by decide +kernel
theorem dL_law_719 : decode cL_law 719 = .ok (.iconst 2, 1) := by decide +kernel
theorem dL_law_720 : decode cL_law 720 = .ok (.iadd, 1) := by decide +kernel
theorem dL_law_721 : decode cL_law 721 = .ok (.iaload, 1) := by decide +kernel
theorem dL_law_722 : decode cL_law 722 = .ok (.aload_n 0, 1) := by decide +kernel
theorem dL_law_723 : decode cL_law 723 = .ok (.iload_n 3, 1) := by decide +kernel
theorem dL_law_724 : decode cL_law 724 = .ok (.iconst 3, 1) := by decide +kernel
theorem dL_law_725 : decode cL_law 725 = .ok (.iadd, 1) := by decide +kernel
theorem dL_law_726 : decode cL_law 726 = .ok (.iaload, 1) := by decide +kernel
theorem dL_law_727 : decode cL_law 727 = .ok (.invokevirtual 93, 3) := by decide +kernel
theorem dL_law_730 : decode cL_law 730 = .ok (.aload_n 2, 1) := by decide +kernel
theorem dL_law_731 : decode cL_law 731 = .ok (.aload_n 0, 1) := by decide +kernel
theorem dL_law_732 : decode cL_law 732 = .ok (.iload_n 3, 1) := by decide +kernel
theorem dL_law_733 : decode cL_law 733 = .ok (.iconst 1, 1) := by decide +kernel
theorem dL_law_734 : decode cL_law 734 = .ok (.iadd, 1) := by decide +kernel
theorem dL_law_735 : decode cL_law 735 = .ok (.iaload, 1) := by decide +kernel
theorem dL_law_736 : decode cL_law 736 = .ok (.aload_n 0, 1) := by decide +kernel
theorem dL_law_737 : decode cL_law 737 = .ok (.iload_n 3, 1) := by decide +kernel
theorem dL_law_738 : decode cL_law 738 = .ok (.iconst 2, 1) := by decide +kernel
theorem dL_law_739 : decode cL_law 739 = .ok (.iadd, 1) := by decide +kernel
theorem dL_law_740 : decode cL_law 740 = .ok (.iaload, 1) := by decide +kernel
theorem dL_law_741 : decode cL_law 741 = .ok (.aload_n 0, 1) := by decide +kernel
theorem dL_law_742 : decode cL_law 742 = .ok (.iload_n 3, 1) := by decide +kernel
theorem dL_law_743 : decode cL_law 743 = .ok (.iconst 3, 1) := by decide +kernel
theorem dL_law_744 : decode cL_law 744 = .ok (.iadd, 1) := by decide +kernel
theorem dL_law_745 : decode cL_law 745 = .ok (.iaload, 1) := by decide +kernel
theorem dL_law_746 : decode cL_law 746 = .ok (.invokevirtual 96, 3) := by decide +kernel
theorem dL_law_749 : decode cL_law 749 = .ok (.if_icmp .eq 563, 3) := by decide +kernel
theorem dL_law_752 : decode cL_law 752 = .ok (.iconst 0, 1) := by decide +kernel
theorem dL_law_753 : decode cL_law 753 = .ok (.ireturn, 1) := by decide +kernel
theorem dL_law_754 : decode cL_law 754 = .ok (.aload_n 1, 1) := by decide +kernel
theorem dL_law_755 : decode cL_law 755 = .ok (.aload_n 0, 1) := by decide +kernel
theorem dL_law_756 : decode cL_law 756 = .ok (.iload_n 3, 1) := by decide +kernel
theorem dL_law_757 : decode cL_law 757 = .ok (.iconst 1, 1) := by decide +kernel
theorem dL_law_758 : decode cL_law 758 = .ok (.iadd, 1) := by decide +kernel
theorem dL_law_759 : decode cL_law 759 = .ok (.iaload, 1) := by decide +kernel
theorem dL_law_760 : decode cL_law 760 = .ok (.aload_n 0, 1) := by decide +kernel
theorem dL_law_761 : decode cL_law 761 = .ok (.iload_n 3, 1) := by decide +kernel
theorem dL_law_762 : decode cL_law 762 = .ok (.iconst 2, 1) := by decide +kernel
theorem dL_law_763 : decode cL_law 763 = .ok (.iadd, 1) := by decide +kernel
theorem dL_law_764 : decode cL_law 764 = .ok (.iaload, 1) := by decide +kernel
theorem dL_law_765 : decode cL_law 765 = .ok (.invokevirtual 97, 3) := by decide +kernel
theorem dL_law_768 : decode cL_law 768 = .ok (.aload_n 2, 1) := by decide +kernel
theorem dL_law_769 : decode cL_law 769 = .ok (.aload_n 0, 1) := by decide +kernel
theorem dL_law_770 : decode cL_law 770 = .ok (.iload_n 3, 1) := by decide +kernel
theorem dL_law_771 : decode cL_law 771 = .ok (.iconst 1, 1) := by decide +kernel
theorem dL_law_772 : decode cL_law 772 = .ok (.iadd, 1) := by decide +kernel
theorem dL_law_773 : decode cL_law 773 = .ok (.iaload, 1) := by decide +kernel
theorem dL_law_774 : decode cL_law 774 = .ok (.aload_n 0, 1) := by decide +kernel
theorem dL_law_775 : decode cL_law 775 = .ok (.iload_n 3, 1) := by decide +kernel
theorem dL_law_776 : decode cL_law 776 = .ok (.iconst 2, 1) := by decide +kernel
theorem dL_law_777 : decode cL_law 777 = .ok (.iadd, 1) := by decide +kernel
theorem dL_law_778 : decode cL_law 778 = .ok (.iaload, 1) := by decide +kernel
theorem dL_law_779 : decode cL_law 779 = .ok (.invokevirtual 100, 3) := by decide +kernel
theorem dL_law_782 : decode cL_law 782 = .ok (.if_icmp .eq 530, 3) := by decide +kernel
theorem dL_law_785 : decode cL_law 785 = .ok (.iconst 0, 1) := by decide +kernel
theorem dL_law_786 : decode cL_law 786 = .ok (.ireturn, 1) := by decide +kernel
theorem dL_law_787 : decode cL_law 787 = .ok (.aload_n 1, 1) := by decide +kernel
theorem dL_law_788 : decode cL_law 788 = .ok (.aload_n 0, 1) := by decide +kernel
theorem dL_law_789 : decode cL_law 789 = .ok (.iload_n 3, 1) := by decide +kernel
theorem dL_law_790 : decode cL_law 790 = .ok (.iconst 1, 1) := by decide +kernel
theorem dL_law_791 : decode cL_law 791 = .ok (.iadd, 1) := by decide +kernel
theorem dL_law_792 : decode cL_law 792 = .ok (.iaload, 1) := by decide +kernel
theorem dL_law_793 : decode cL_law 793 = .ok (.aload_n 0, 1) := by decide +kernel
theorem dL_law_794 : decode cL_law 794 = .ok (.iload_n 3, 1) := by decide +kernel
theorem dL_law_795 : decode cL_law 795 = .ok (.iconst 2, 1) := by decide +kernel
theorem dL_law_796 : decode cL_law 796 = .ok (.iadd, 1) := by decide +kernel
theorem dL_law_797 : decode cL_law 797 = .ok (.iaload, 1) := by decide +kernel
theorem dL_law_798 : decode cL_law 798 = .ok (.invokevirtual 101, 3) := by decide +kernel
theorem dL_law_801 : decode cL_law 801 = .ok (.aload_n 2, 1) := by decide +kernel
theorem dL_law_802 : decode cL_law 802 = .ok (.aload_n 0, 1) := by decide +kernel
theorem dL_law_803 : decode cL_law 803 = .ok (.iload_n 3, 1) := by decide +kernel
theorem dL_law_804 : decode cL_law 804 = .ok (.iconst 1, 1) := by decide +kernel
theorem dL_law_805 : decode cL_law 805 = .ok (.iadd, 1) := by decide +kernel
theorem dL_law_806 : decode cL_law 806 = .ok (.iaload, 1) := by decide +kernel
theorem dL_law_807 : decode cL_law 807 = .ok (.aload_n 0, 1) := by decide +kernel
theorem dL_law_808 : decode cL_law 808 = .ok (.iload_n 3, 1) := by decide +kernel
theorem dL_law_809 : decode cL_law 809 = .ok (.iconst 2, 1) := by decide +kernel
theorem dL_law_810 : decode cL_law 810 = .ok (.iadd, 1) := by decide +kernel
theorem dL_law_811 : decode cL_law 811 = .ok (.iaload, 1) := by decide +kernel
theorem dL_law_812 : decode cL_law 812 = .ok (.invokevirtual 104, 3) := by decide +kernel
theorem dL_law_815 : decode cL_law 815 = .ok (.if_icmp .eq 497, 3) := by decide +kernel
theorem dL_law_818 : decode cL_law 818 = .ok (.iconst 0, 1) := by decide +kernel
theorem dL_law_819 : decode cL_law 819 = .ok (.ireturn, 1) := by decide +kernel
theorem dL_law_820 : decode cL_law 820 = .ok (.aload_n 1, 1) := by decide +kernel
theorem dL_law_821 : decode cL_law 821 = .ok (.aload_n 0, 1) := by decide +kernel
theorem dL_law_822 : decode cL_law 822 = .ok (.iload_n 3, 1) := by decide +kernel
theorem dL_law_823 : decode cL_law 823 = .ok (.iconst 1, 1) := by decide +kernel
theorem dL_law_824 : decode cL_law 824 = .ok (.iadd, 1) := by decide +kernel
theorem dL_law_825 : decode cL_law 825 = .ok (.iaload, 1) := by decide +kernel
theorem dL_law_826 : decode cL_law 826 = .ok (.aload_n 0, 1) := by decide +kernel
theorem dL_law_827 : decode cL_law 827 = .ok (.iload_n 3, 1) := by decide +kernel
theorem dL_law_828 : decode cL_law 828 = .ok (.iconst 2, 1) := by decide +kernel
theorem dL_law_829 : decode cL_law 829 = .ok (.iadd, 1) := by decide +kernel
theorem dL_law_830 : decode cL_law 830 = .ok (.iaload, 1) := by decide +kernel
theorem dL_law_831 : decode cL_law 831 = .ok (.invokevirtual 105, 3) := by decide +kernel
theorem dL_law_834 : decode cL_law 834 = .ok (.aload_n 2, 1) := by decide +kernel
theorem dL_law_835 : decode cL_law 835 = .ok (.aload_n 0, 1) := by decide +kernel
theorem dL_law_836 : decode cL_law 836 = .ok (.iload_n 3, 1) := by decide +kernel
theorem dL_law_837 : decode cL_law 837 = .ok (.iconst 1, 1) := by decide +kernel
theorem dL_law_838 : decode cL_law 838 = .ok (.iadd, 1) := by decide +kernel
theorem dL_law_839 : decode cL_law 839 = .ok (.iaload, 1) := by decide +kernel
theorem dL_law_840 : decode cL_law 840 = .ok (.aload_n 0, 1) := by decide +kernel
theorem dL_law_841 : decode cL_law 841 = .ok (.iload_n 3, 1) := by decide +kernel
theorem dL_law_842 : decode cL_law 842 = .ok (.iconst 2, 1) := by decide +kernel
theorem dL_law_843 : decode cL_law 843 = .ok (.iadd, 1) := by decide +kernel
theorem dL_law_844 : decode cL_law 844 = .ok (.iaload, 1) := by decide +kernel
theorem dL_law_845 : decode cL_law 845 = .ok (.invokevirtual 108, 3) := by decide +kernel
theorem dL_law_848 : decode cL_law 848 = .ok (.if_icmp .eq 464, 3) := by decide +kernel
theorem dL_law_851 : decode cL_law 851 = .ok (.iconst 0, 1) := by decide +kernel
theorem dL_law_852 : decode cL_law 852 = .ok (.ireturn, 1) := by decide +kernel
theorem dL_law_853 : decode cL_law 853 = .ok (.aload_n 1, 1) := by decide +kernel
theorem dL_law_854 : decode cL_law 854 = .ok (.aload_n 0, 1) := by decide +kernel
theorem dL_law_855 : decode cL_law 855 = .ok (.iload_n 3, 1) := by decide +kernel
theorem dL_law_856 : decode cL_law 856 = .ok (.iconst 1, 1) := by decide +kernel
theorem dL_law_857 : decode cL_law 857 = .ok (.iadd, 1) := by decide +kernel
theorem dL_law_858 : decode cL_law 858 = .ok (.iaload, 1) := by decide +kernel
theorem dL_law_859 : decode cL_law 859 = .ok (.invokevirtual 109, 3) := by decide +kernel
theorem dL_law_862 : decode cL_law 862 = .ok (.aload_n 2, 1) := by decide +kernel
theorem dL_law_863 : decode cL_law 863 = .ok (.aload_n 0, 1) := by decide +kernel
theorem dL_law_864 : decode cL_law 864 = .ok (.iload_n 3, 1) := by decide +kernel
theorem dL_law_865 : decode cL_law 865 = .ok (.iconst 1, 1) := by decide +kernel
theorem dL_law_866 : decode cL_law 866 = .ok (.iadd, 1) := by decide +kernel
theorem dL_law_867 : decode cL_law 867 = .ok (.iaload, 1) := by decide +kernel
theorem dL_law_868 : decode cL_law 868 = .ok (.invokevirtual 112, 3) := by decide +kernel
theorem dL_law_871 : decode cL_law 871 = .ok (.if_icmp .eq 441, 3) := by decide +kernel
theorem dL_law_874 : decode cL_law 874 = .ok (.iconst 0, 1) := by decide +kernel
theorem dL_law_875 : decode cL_law 875 = .ok (.ireturn, 1) := by decide +kernel
theorem dL_law_876 : decode cL_law 876 = .ok (.aload_n 1, 1) := by decide +kernel
theorem dL_law_877 : decode cL_law 877 = .ok (.invokevirtual 113, 3) := by decide +kernel
theorem dL_law_880 : decode cL_law 880 = .ok (.aload_n 2, 1) := by decide +kernel
theorem dL_law_881 : decode cL_law 881 = .ok (.invokevirtual 116, 3) := by decide +kernel
theorem dL_law_884 : decode cL_law 884 = .ok (.if_icmp .eq 428, 3) := by decide +kernel
theorem dL_law_887 : decode cL_law 887 = .ok (.iconst 0, 1) := by decide +kernel
theorem dL_law_888 : decode cL_law 888 = .ok (.ireturn, 1) := by decide +kernel
theorem dL_law_889 : decode cL_law 889 = .ok (.aload_n 1, 1) := by decide +kernel
theorem dL_law_890 : decode cL_law 890 = .ok (.invokevirtual 117, 3) := by decide +kernel
theorem dL_law_893 : decode cL_law 893 = .ok (.aload_n 2, 1) := by decide +kernel
theorem dL_law_894 : decode cL_law 894 = .ok (.invokevirtual 120, 3) := by decide +kernel
theorem dL_law_897 : decode cL_law 897 = .ok (.if_icmp .eq 415, 3) := by decide +kernel
theorem dL_law_900 : decode cL_law 900 = .ok (.iconst 0, 1) := by decide +kernel
theorem dL_law_901 : decode cL_law 901 = .ok (.ireturn, 1) := by decide +kernel
theorem dL_law_902 : decode cL_law 902 = .ok (.aload_n 1, 1) := by decide +kernel
theorem dL_law_903 : decode cL_law 903 = .ok (.aload_n 0, 1) := by decide +kernel
theorem dL_law_904 : decode cL_law 904 = .ok (.iload_n 3, 1) := by decide +kernel
theorem dL_law_905 : decode cL_law 905 = .ok (.iconst 1, 1) := by decide +kernel
theorem dL_law_906 : decode cL_law 906 = .ok (.iadd, 1) := by decide +kernel
theorem dL_law_907 : decode cL_law 907 = .ok (.iaload, 1) := by decide +kernel
theorem dL_law_908 : decode cL_law 908 = .ok (.invokevirtual 121, 3) := by decide +kernel
theorem dL_law_911 : decode cL_law 911 = .ok (.aload_n 2, 1) := by decide +kernel
theorem dL_law_912 : decode cL_law 912 = .ok (.aload_n 0, 1) := by decide +kernel
theorem dL_law_913 : decode cL_law 913 = .ok (.iload_n 3, 1) := by decide +kernel
theorem dL_law_914 : decode cL_law 914 = .ok (.iconst 1, 1) := by decide +kernel
theorem dL_law_915 : decode cL_law 915 = .ok (.iadd, 1) := by decide +kernel
theorem dL_law_916 : decode cL_law 916 = .ok (.iaload, 1) := by decide +kernel
theorem dL_law_917 : decode cL_law 917 = .ok (.invokevirtual 124, 3) := by decide +kernel
theorem dL_law_920 : decode cL_law 920 = .ok (.if_icmp .eq 392, 3) := by decide +kernel
theorem dL_law_923 : decode cL_law 923 = .ok (.iconst 0, 1) := by decide +kernel
theorem dL_law_924 : decode cL_law 924 = .ok (.ireturn, 1) := by decide +kernel
theorem dL_law_925 : decode cL_law 925 = .ok (.aload_n 1, 1) := by decide +kernel
theorem dL_law_926 : decode cL_law 926 = .ok (.aload_n 0, 1) := by decide +kernel
theorem dL_law_927 : decode cL_law 927 = .ok (.iload_n 3, 1) := by decide +kernel
theorem dL_law_928 : decode cL_law 928 = .ok (.iconst 1, 1) := by decide +kernel
theorem dL_law_929 : decode cL_law 929 = .ok (.iadd, 1) := by decide +kernel
theorem dL_law_930 : decode cL_law 930 = .ok (.iaload, 1) := by decide +kernel
theorem dL_law_931 : decode cL_law 931 = .ok (.aload_n 0, 1) := by decide +kernel
theorem dL_law_932 : decode cL_law 932 = .ok (.iload_n 3, 1) := by decide +kernel
theorem dL_law_933 : decode cL_law 933 = .ok (.iconst 2, 1) := by decide +kernel
theorem dL_law_934 : decode cL_law 934 = .ok (.iadd, 1) := by decide +kernel
theorem dL_law_935 : decode cL_law 935 = .ok (.iaload, 1) := by decide +kernel
theorem dL_law_936 : decode cL_law 936 = .ok (.invokevirtual 125, 3) := by decide +kernel
theorem dL_law_939 : decode cL_law 939 = .ok (.aload_n 2, 1) := by decide +kernel
theorem dL_law_940 : decode cL_law 940 = .ok (.aload_n 0, 1) := by decide +kernel
theorem dL_law_941 : decode cL_law 941 = .ok (.iload_n 3, 1) := by decide +kernel
theorem dL_law_942 : decode cL_law 942 = .ok (.iconst 1, 1) := by decide +kernel
theorem dL_law_943 : decode cL_law 943 = .ok (.iadd, 1) := by decide +kernel
theorem dL_law_944 : decode cL_law 944 = .ok (.iaload, 1) := by decide +kernel
theorem dL_law_945 : decode cL_law 945 = .ok (.aload_n 0, 1) := by decide +kernel
theorem dL_law_946 : decode cL_law 946 = .ok (.iload_n 3, 1) := by decide +kernel
theorem dL_law_947 : decode cL_law 947 = .ok (.iconst 2, 1) := by decide +kernel
theorem dL_law_948 : decode cL_law 948 = .ok (.iadd, 1) := by decide +kernel
theorem dL_law_949 : decode cL_law 949 = .ok (.iaload, 1) := by decide +kernel
theorem dL_law_950 : decode cL_law 950 = .ok (.invokevirtual 128, 3) := by decide +kernel
theorem dL_law_953 : decode cL_law 953 = .ok (.if_icmp .eq 359, 3) := by decide +kernel
theorem dL_law_956 : decode cL_law 956 = .ok (.iconst 0, 1) := by decide +kernel
theorem dL_law_957 : decode cL_law 957 = .ok (.ireturn, 1) := by decide +kernel
theorem dL_law_958 : decode cL_law 958 = .ok (.aload_n 1, 1) := by decide +kernel
theorem dL_law_959 : decode cL_law 959 = .ok (.invokevirtual 129, 3) := by decide +kernel
theorem dL_law_962 : decode cL_law 962 = .ok (.aload_n 2, 1) := by decide +kernel
theorem dL_law_963 : decode cL_law 963 = .ok (.invokevirtual 132, 3) := by decide +kernel
theorem dL_law_966 : decode cL_law 966 = .ok (.if_icmp .eq 346, 3) := by decide +kernel
theorem dL_law_969 : decode cL_law 969 = .ok (.iconst 0, 1) := by decide +kernel
theorem dL_law_970 : decode cL_law 970 = .ok (.ireturn, 1) := by decide +kernel
theorem dL_law_971 : decode cL_law 971 = .ok (.aload_n 1, 1) := by decide +kernel
theorem dL_law_972 : decode cL_law 972 = .ok (.aload_n 0, 1) := by decide +kernel
theorem dL_law_973 : decode cL_law 973 = .ok (.iload_n 3, 1) := by decide +kernel
theorem dL_law_974 : decode cL_law 974 = .ok (.iconst 1, 1) := by decide +kernel
theorem dL_law_975 : decode cL_law 975 = .ok (.iadd, 1) := by decide +kernel
theorem dL_law_976 : decode cL_law 976 = .ok (.iaload, 1) := by decide +kernel
theorem dL_law_977 : decode cL_law 977 = .ok (.invokevirtual 133, 3) := by decide +kernel
theorem dL_law_980 : decode cL_law 980 = .ok (.aload_n 2, 1) := by decide +kernel
theorem dL_law_981 : decode cL_law 981 = .ok (.aload_n 0, 1) := by decide +kernel
theorem dL_law_982 : decode cL_law 982 = .ok (.iload_n 3, 1) := by decide +kernel
theorem dL_law_983 : decode cL_law 983 = .ok (.iconst 1, 1) := by decide +kernel
theorem dL_law_984 : decode cL_law 984 = .ok (.iadd, 1) := by decide +kernel
theorem dL_law_985 : decode cL_law 985 = .ok (.iaload, 1) := by decide +kernel
theorem dL_law_986 : decode cL_law 986 = .ok (.invokevirtual 136, 3) := by decide +kernel
theorem dL_law_989 : decode cL_law 989 = .ok (.if_icmp .eq 323, 3) := by decide +kernel
theorem dL_law_992 : decode cL_law 992 = .ok (.iconst 0, 1) := by decide +kernel
theorem dL_law_993 : decode cL_law 993 = .ok (.ireturn, 1) := by decide +kernel
theorem dL_law_994 : decode cL_law 994 = .ok (.aload_n 1, 1) := by decide +kernel
theorem dL_law_995 : decode cL_law 995 = .ok (.aload_n 0, 1) := by decide +kernel
theorem dL_law_996 : decode cL_law 996 = .ok (.iload_n 3, 1) := by decide +kernel
theorem dL_law_997 : decode cL_law 997 = .ok (.iconst 1, 1) := by decide +kernel
theorem dL_law_998 : decode cL_law 998 = .ok (.iadd, 1) := by decide +kernel
theorem dL_law_999 : decode cL_law 999 = .ok (.iaload, 1) := by decide +kernel
theorem dL_law_1000 : decode cL_law 1000 = .ok (.aload_n 0, 1) := by decide +kernel
theorem dL_law_1001 : decode cL_law 1001 = .ok (.iload_n 3, 1) := by decide +kernel
theorem dL_law_1002 : decode cL_law 1002 = .ok (.iconst 2, 1) := by decide +kernel
theorem dL_law_1003 : decode cL_law 1003 = .ok (.iadd, 1) := by decide +kernel
theorem dL_law_1004 : decode cL_law 1004 = .ok (.iaload, 1) := by decide +kernel
theorem dL_law_1005 : decode cL_law 1005 = .ok (.invokevirtual 137, 3) := by decide +kernel
theorem dL_law_1008 : decode cL_law 1008 = .ok (.aload_n 2, 1) := by decide +kernel
theorem dL_law_1009 : decode cL_law 1009 = .ok (.aload_n 0, 1) := by decide +kernel
theorem dL_law_1010 : decode cL_law 1010 = .ok (.iload_n 3, 1) := by decide +kernel
theorem dL_law_1011 : decode cL_law 1011 = .ok (.iconst 1, 1) := by decide +kernel
theorem dL_law_1012 : decode cL_law 1012 = .ok (.iadd, 1) := by decide +kernel
theorem dL_law_1013 : decode cL_law 1013 = .ok (.iaload, 1) := by decide +kernel
theorem dL_law_1014 : decode cL_law 1014 = .ok (.aload_n 0, 1) := by decide +kernel
theorem dL_law_1015 : decode cL_law 1015 = .ok (.iload_n 3, 1) := by decide +kernel
theorem dL_law_1016 : decode cL_law 1016 = .ok (.iconst 2, 1) := by decide +kernel
theorem dL_law_1017 : decode cL_law 1017 = .ok (.iadd, 1) := by decide +kernel
theorem dL_law_1018 : decode cL_law 1018 = .ok (.iaload, 1) := by decide +kernel
theorem dL_law_1019 : decode cL_law 1019 = .ok (.invokevirtual 140, 3) := by decide +kernel
theorem dL_law_1022 : decode cL_law 1022 = .ok (.if_icmp .eq 290, 3) := by decide +kernel
theorem dL_law_1025 : decode cL_law 1025 = .ok (.iconst 0, 1) := by decide +kernel
theorem dL_law_1026 : decode cL_law 1026 = .ok (.ireturn, 1) := by decide +kernel
theorem dL_law_1027 : decode cL_law 1027 = .ok (.aload_n 1, 1) := by decide +kernel
theorem dL_law_1028 : decode cL_law 1028 = .ok (.aload_n 0, 1) := by decide +kernel
theorem dL_law_1029 : decode cL_law 1029 = .ok (.iload_n 3, 1) := by decide +kernel
theorem dL_law_1030 : decode cL_law 1030 = .ok (.iconst 1, 1) := by decide +kernel
theorem dL_law_1031 : decode cL_law 1031 = .ok (.iadd, 1) := by decide +kernel
theorem dL_law_1032 : decode cL_law 1032 = .ok (.iaload, 1) := by decide +kernel
theorem dL_law_1033 : decode cL_law 1033 = .ok (.aload_n 0, 1) := by decide +kernel
theorem dL_law_1034 : decode cL_law 1034 = .ok (.iload_n 3, 1) := by decide +kernel
theorem dL_law_1035 : decode cL_law 1035 = .ok (.iconst 2, 1) := by decide +kernel
theorem dL_law_1036 : decode cL_law 1036 = .ok (.iadd, 1) := by decide +kernel
theorem dL_law_1037 : decode cL_law 1037 = .ok (.iaload, 1) := by decide +kernel
theorem dL_law_1038 : decode cL_law 1038 = .ok (.aload_n 0, 1) := by decide +kernel
theorem dL_law_1039 : decode cL_law 1039 = .ok (.iload_n 3, 1) := by decide +kernel
theorem dL_law_1040 : decode cL_law 1040 = .ok (.iconst 3, 1) := by decide +kernel
theorem dL_law_1041 : decode cL_law 1041 = .ok (.iadd, 1) := by decide +kernel
theorem dL_law_1042 : decode cL_law 1042 = .ok (.iaload, 1) := by decide +kernel
theorem dL_law_1043 : decode cL_law 1043 = .ok (.invokevirtual 141, 3) := by decide +kernel
theorem dL_law_1046 : decode cL_law 1046 = .ok (.aload_n 2, 1) := by decide +kernel
theorem dL_law_1047 : decode cL_law 1047 = .ok (.aload_n 0, 1) := by decide +kernel
theorem dL_law_1048 : decode cL_law 1048 = .ok (.iload_n 3, 1) := by decide +kernel
theorem dL_law_1049 : decode cL_law 1049 = .ok (.iconst 1, 1) := by decide +kernel
theorem dL_law_1050 : decode cL_law 1050 = .ok (.iadd, 1) := by decide +kernel
theorem dL_law_1051 : decode cL_law 1051 = .ok (.iaload, 1) := by decide +kernel
theorem dL_law_1052 : decode cL_law 1052 = .ok (.aload_n 0, 1) := by decide +kernel
theorem dL_law_1053 : decode cL_law 1053 = .ok (.iload_n 3, 1) := by decide +kernel
theorem dL_law_1054 : decode cL_law 1054 = .ok (.iconst 2, 1) := by decide +kernel
theorem dL_law_1055 : decode cL_law 1055 = .ok (.iadd, 1) := by decide +kernel
theorem dL_law_1056 : decode cL_law 1056 = .ok (.iaload, 1) := by decide +kernel
theorem dL_law_1057 : decode cL_law 1057 = .ok (.aload_n 0, 1) := by decide +kernel
theorem dL_law_1058 : decode cL_law 1058 = .ok (.iload_n 3, 1) := by decide +kernel
theorem dL_law_1059 : decode cL_law 1059 = .ok (.iconst 3, 1) := by decide +kernel
theorem dL_law_1060 : decode cL_law 1060 = .ok (.iadd, 1) := by decide +kernel
theorem dL_law_1061 : decode cL_law 1061 = .ok (.iaload, 1) := by decide +kernel
theorem dL_law_1062 : decode cL_law 1062 = .ok (.invokevirtual 144, 3) := by decide +kernel
theorem dL_law_1065 : decode cL_law 1065 = .ok (.if_icmp .eq 247, 3) := by decide +kernel
theorem dL_law_1068 : decode cL_law 1068 = .ok (.iconst 0, 1) := by decide +kernel
theorem dL_law_1069 : decode cL_law 1069 = .ok (.ireturn, 1) := by decide +kernel
theorem dL_law_1070 : decode cL_law 1070 = .ok (.aload_n 1, 1) := by decide +kernel
theorem dL_law_1071 : decode cL_law 1071 = .ok (.aload_n 0, 1) := by decide +kernel
theorem dL_law_1072 : decode cL_law 1072 = .ok (.iload_n 3, 1) := by decide +kernel
theorem dL_law_1073 : decode cL_law 1073 = .ok (.iconst 1, 1) := by decide +kernel
theorem dL_law_1074 : decode cL_law 1074 = .ok (.iadd, 1) := by decide +kernel
theorem dL_law_1075 : decode cL_law 1075 = .ok (.iaload, 1) := by decide +kernel
theorem dL_law_1076 : decode cL_law 1076 = .ok (.invokevirtual 145, 3) := by decide +kernel
theorem dL_law_1079 : decode cL_law 1079 = .ok (.aload_n 2, 1) := by decide +kernel
theorem dL_law_1080 : decode cL_law 1080 = .ok (.aload_n 0, 1) := by decide +kernel
theorem dL_law_1081 : decode cL_law 1081 = .ok (.iload_n 3, 1) := by decide +kernel
theorem dL_law_1082 : decode cL_law 1082 = .ok (.iconst 1, 1) := by decide +kernel
theorem dL_law_1083 : decode cL_law 1083 = .ok (.iadd, 1) := by decide +kernel
theorem dL_law_1084 : decode cL_law 1084 = .ok (.iaload, 1) := by decide +kernel
theorem dL_law_1085 : decode cL_law 1085 = .ok (.invokevirtual 148, 3) := by decide +kernel
theorem dL_law_1088 : decode cL_law 1088 = .ok (.if_icmp .eq 224, 3) := by decide +kernel
theorem dL_law_1091 : decode cL_law 1091 = .ok (.iconst 0, 1) := by decide +kernel
theorem dL_law_1092 : decode cL_law 1092 = .ok (.ireturn, 1) := by decide +kernel
theorem dL_law_1093 : decode cL_law 1093 = .ok (.aload_n 1, 1) := by decide +kernel
theorem dL_law_1094 : decode cL_law 1094 = .ok (.aload_n 0, 1) := by decide +kernel
theorem dL_law_1095 : decode cL_law 1095 = .ok (.iload_n 3, 1) := by decide +kernel
theorem dL_law_1096 : decode cL_law 1096 = .ok (.iconst 1, 1) := by decide +kernel
theorem dL_law_1097 : decode cL_law 1097 = .ok (.iadd, 1) := by decide +kernel
theorem dL_law_1098 : decode cL_law 1098 = .ok (.iaload, 1) := by decide +kernel
theorem dL_law_1099 : decode cL_law 1099 = .ok (.aload_n 0, 1) := by decide +kernel
theorem dL_law_1100 : decode cL_law 1100 = .ok (.iload_n 3, 1) := by decide +kernel
theorem dL_law_1101 : decode cL_law 1101 = .ok (.iconst 2, 1) := by decide +kernel
theorem dL_law_1102 : decode cL_law 1102 = .ok (.iadd, 1) := by decide +kernel
theorem dL_law_1103 : decode cL_law 1103 = .ok (.iaload, 1) := by decide +kernel
theorem dL_law_1104 : decode cL_law 1104 = .ok (.aload_n 0, 1) := by decide +kernel
theorem dL_law_1105 : decode cL_law 1105 = .ok (.iload_n 3, 1) := by decide +kernel
theorem dL_law_1106 : decode cL_law 1106 = .ok (.iconst 3, 1) := by decide +kernel
theorem dL_law_1107 : decode cL_law 1107 = .ok (.iadd, 1) := by decide +kernel
theorem dL_law_1108 : decode cL_law 1108 = .ok (.iaload, 1) := by decide +kernel
theorem dL_law_1109 : decode cL_law 1109 = .ok (.aload_n 0, 1) := by decide +kernel
theorem dL_law_1110 : decode cL_law 1110 = .ok (.iload_n 3, 1) := by decide +kernel
theorem dL_law_1111 : decode cL_law 1111 = .ok (.iconst 4, 1) := by decide +kernel
theorem dL_law_1112 : decode cL_law 1112 = .ok (.iadd, 1) := by decide +kernel
theorem dL_law_1113 : decode cL_law 1113 = .ok (.iaload, 1) := by decide +kernel
theorem dL_law_1114 : decode cL_law 1114 = .ok (.invokevirtual 149, 3) := by decide +kernel
theorem dL_law_1117 : decode cL_law 1117 = .ok (.aload_n 2, 1) := by decide +kernel
theorem dL_law_1118 : decode cL_law 1118 = .ok (.aload_n 0, 1) := by decide +kernel
theorem dL_law_1119 : decode cL_law 1119 = .ok (.iload_n 3, 1) := by decide +kernel
theorem dL_law_1120 : decode cL_law 1120 = .ok (.iconst 1, 1) := by decide +kernel
theorem dL_law_1121 : decode cL_law 1121 = .ok (.iadd, 1) := by decide +kernel
theorem dL_law_1122 : decode cL_law 1122 = .ok (.iaload, 1) := by decide +kernel
theorem dL_law_1123 : decode cL_law 1123 = .ok (.aload_n 0, 1) := by decide +kernel
theorem dL_law_1124 : decode cL_law 1124 = .ok (.iload_n 3, 1) := by decide +kernel
theorem dL_law_1125 : decode cL_law 1125 = .ok (.iconst 2, 1) := by decide +kernel
theorem dL_law_1126 : decode cL_law 1126 = .ok (.iadd, 1) := by decide +kernel
theorem dL_law_1127 : decode cL_law 1127 = .ok (.iaload, 1) := by decide +kernel
theorem dL_law_1128 : decode cL_law 1128 = .ok (.aload_n 0, 1) := by decide +kernel
theorem dL_law_1129 : decode cL_law 1129 = .ok (.iload_n 3, 1) := by decide +kernel
theorem dL_law_1130 : decode cL_law 1130 = .ok (.iconst 3, 1) := by decide +kernel
theorem dL_law_1131 : decode cL_law 1131 = .ok (.iadd, 1) := by decide +kernel
theorem dL_law_1132 : decode cL_law 1132 = .ok (.iaload, 1) := by decide +kernel
theorem dL_law_1133 : decode cL_law 1133 = .ok (.aload_n 0, 1) := by decide +kernel
theorem dL_law_1134 : decode cL_law 1134 = .ok (.iload_n 3, 1) := by decide +kernel
theorem dL_law_1135 : decode cL_law 1135 = .ok (.iconst 4, 1) := by decide +kernel
theorem dL_law_1136 : decode cL_law 1136 = .ok (.iadd, 1) := by decide +kernel
theorem dL_law_1137 : decode cL_law 1137 = .ok (.iaload, 1) := by decide +kernel
theorem dL_law_1138 : decode cL_law 1138 = .ok (.invokevirtual 153, 3) := by decide +kernel
theorem dL_law_1141 : decode cL_law 1141 = .ok (.if_icmp .eq 171, 3) := by decide +kernel
theorem dL_law_1144 : decode cL_law 1144 = .ok (.iconst 0, 1) := by decide +kernel
theorem dL_law_1145 : decode cL_law 1145 = .ok (.ireturn, 1) := by decide +kernel
theorem dL_law_1146 : decode cL_law 1146 = .ok (.aload_n 1, 1) := by decide +kernel
theorem dL_law_1147 : decode cL_law 1147 = .ok (.aload_n 0, 1) := by decide +kernel
theorem dL_law_1148 : decode cL_law 1148 = .ok (.iload_n 3, 1) := by decide +kernel
theorem dL_law_1149 : decode cL_law 1149 = .ok (.iconst 1, 1) := by decide +kernel
theorem dL_law_1150 : decode cL_law 1150 = .ok (.iadd, 1) := by decide +kernel
theorem dL_law_1151 : decode cL_law 1151 = .ok (.iaload, 1) := by decide +kernel
theorem dL_law_1152 : decode cL_law 1152 = .ok (.aload_n 0, 1) := by decide +kernel
theorem dL_law_1153 : decode cL_law 1153 = .ok (.iload_n 3, 1) := by decide +kernel
theorem dL_law_1154 : decode cL_law 1154 = .ok (.iconst 2, 1) := by decide +kernel
theorem dL_law_1155 : decode cL_law 1155 = .ok (.iadd, 1) := by decide +kernel
theorem dL_law_1156 : decode cL_law 1156 = .ok (.iaload, 1) := by decide +kernel
theorem dL_law_1157 : decode cL_law 1157 = .ok (.aload_n 0, 1) := by decide +kernel
theorem dL_law_1158 : decode cL_law 1158 = .ok (.iload_n 3, 1) := by decide +kernel
theorem dL_law_1159 : decode cL_law 1159 = .ok (.iconst 3, 1) := by decide +kernel
theorem dL_law_1160 : decode cL_law 1160 = .ok (.iadd, 1) := by decide +kernel
theorem dL_law_1161 : decode cL_law 1161 = .ok (.iaload, 1) := by decide +kernel
theorem dL_law_1162 : decode cL_law 1162 = .ok (.invokevirtual 154, 3) := by decide +kernel
theorem dL_law_1165 : decode cL_law 1165 = .ok (.aload_n 2, 1) := by decide +kernel
theorem dL_law_1166 : decode cL_law 1166 = .ok (.aload_n 0, 1) := by decide +kernel
theorem dL_law_1167 : decode cL_law 1167 = .ok (.iload_n 3, 1) := by decide +kernel
theorem dL_law_1168 : decode cL_law 1168 = .ok (.iconst 1, 1) := by decide +kernel
theorem dL_law_1169 : decode cL_law 1169 = .ok (.iadd, 1) := by decide +kernel
theorem dL_law_1170 : decode cL_law 1170 = .ok (.iaload, 1) := by decide +kernel
theorem dL_law_1171 : decode cL_law 1171 = .ok (.aload_n 0, 1) := by decide +kernel
theorem dL_law_1172 : decode cL_law 1172 = .ok (.iload_n 3, 1) := by decide +kernel
theorem dL_law_1173 : decode cL_law 1173 = .ok (.iconst 2, 1) := by decide +kernel
theorem dL_law_1174 : decode cL_law 1174 = .ok (.iadd, 1) := by decide +kernel
theorem dL_law_1175 : decode cL_law 1175 = .ok (.iaload, 1) := by decide +kernel
theorem dL_law_1176 : decode cL_law 1176 = .ok (.aload_n 0, 1) := by decide +kernel
theorem dL_law_1177 : decode cL_law 1177 = .ok (.iload_n 3, 1) := by decide +kernel
theorem dL_law_1178 : decode cL_law 1178 = .ok (.iconst 3, 1) := by decide +kernel
theorem dL_law_1179 : decode cL_law 1179 = .ok (.iadd, 1) := by decide +kernel
theorem dL_law_1180 : decode cL_law 1180 = .ok (.iaload, 1) := by decide +kernel
theorem dL_law_1181 : decode cL_law 1181 = .ok (.invokevirtual 157, 3) := by decide +kernel
theorem dL_law_1184 : decode cL_law 1184 = .ok (.if_icmp .eq 128, 3) := by decide +kernel
theorem dL_law_1187 : decode cL_law 1187 = .ok (.iconst 0, 1) := by decide +kernel
theorem dL_law_1188 : decode cL_law 1188 = .ok (.ireturn, 1) := by decide +kernel
theorem dL_law_1189 : decode cL_law 1189 = .ok (.aload_n 1, 1) := by decide +kernel
theorem dL_law_1190 : decode cL_law 1190 = .ok (.aload_n 0, 1) := by decide +kernel
theorem dL_law_1191 : decode cL_law 1191 = .ok (.iload_n 3, 1) := by decide +kernel
theorem dL_law_1192 : decode cL_law 1192 = .ok (.iconst 1, 1) := by decide +kernel
theorem dL_law_1193 : decode cL_law 1193 = .ok (.iadd, 1) := by decide +kernel
theorem dL_law_1194 : decode cL_law 1194 = .ok (.iaload, 1) := by decide +kernel
theorem dL_law_1195 : decode cL_law 1195 = .ok (.aload_n 0, 1) := by decide +kernel
theorem dL_law_1196 : decode cL_law 1196 = .ok (.iload_n 3, 1) := by decide +kernel
theorem dL_law_1197 : decode cL_law 1197 = .ok (.iconst 2, 1) := by decide +kernel
theorem dL_law_1198 : decode cL_law 1198 = .ok (.iadd, 1) := by decide +kernel
theorem dL_law_1199 : decode cL_law 1199 = .ok (.iaload, 1) := by decide +kernel
theorem dL_law_1200 : decode cL_law 1200 = .ok (.aload_n 0, 1) := by decide +kernel
theorem dL_law_1201 : decode cL_law 1201 = .ok (.iload_n 3, 1) := by decide +kernel
theorem dL_law_1202 : decode cL_law 1202 = .ok (.iconst 3, 1) := by decide +kernel
theorem dL_law_1203 : decode cL_law 1203 = .ok (.iadd, 1) := by decide +kernel
theorem dL_law_1204 : decode cL_law 1204 = .ok (.iaload, 1) := by decide +kernel
theorem dL_law_1205 : decode cL_law 1205 = .ok (.aload_n 0, 1) := by decide +kernel
theorem dL_law_1206 : decode cL_law 1206 = .ok (.iload_n 3, 1) := by decide +kernel
theorem dL_law_1207 : decode cL_law 1207 = .ok (.iconst 4, 1) := by decide +kernel
theorem dL_law_1208 : decode cL_law 1208 = .ok (.iadd, 1) := by decide +kernel
theorem dL_law_1209 : decode cL_law 1209 = .ok (.iaload, 1) := by decide +kernel
theorem dL_law_1210 : decode cL_law 1210 = .ok (.aload_n 0, 1) := by decide +kernel
theorem dL_law_1211 : decode cL_law 1211 = .ok (.iload_n 3, 1) := by decide +kernel
theorem dL_law_1212 : decode cL_law 1212 = .ok (.iconst 5, 1) := by decide +kernel
theorem dL_law_1213 : decode cL_law 1213 = .ok (.iadd, 1) := by decide +kernel
theorem dL_law_1214 : decode cL_law 1214 = .ok (.iaload, 1) := by decide +kernel
theorem dL_law_1215 : decode cL_law 1215 = .ok (.invokevirtual 158, 3) := by decide +kernel
theorem dL_law_1218 : decode cL_law 1218 = .ok (.aload_n 2, 1) := by decide +kernel
theorem dL_law_1219 : decode cL_law 1219 = .ok (.aload_n 0, 1) := by decide +kernel
theorem dL_law_1220 : decode cL_law 1220 = .ok (.iload_n 3, 1) := by decide +kernel
theorem dL_law_1221 : decode cL_law 1221 = .ok (.iconst 1, 1) := by decide +kernel
theorem dL_law_1222 : decode cL_law 1222 = .ok (.iadd, 1) := by decide +kernel
theorem dL_law_1223 : decode cL_law 1223 = .ok (.iaload, 1) := by decide +kernel
theorem dL_law_1224 : decode cL_law 1224 = .ok (.aload_n 0, 1) := by decide +kernel
theorem dL_law_1225 : decode cL_law 1225 = .ok (.iload_n 3, 1) := by decide +kernel
theorem dL_law_1226 : decode cL_law 1226 = .ok (.iconst 2, 1) := by decide +kernel
theorem dL_law_1227 : decode cL_law 1227 = .ok (.iadd, 1) := by decide +kernel
theorem dL_law_1228 : decode cL_law 1228 = .ok (.iaload, 1) := by decide +kernel
theorem dL_law_1229 : decode cL_law 1229 = .ok (.aload_n 0, 1) := by decide +kernel
theorem dL_law_1230 : decode cL_law 1230 = .ok (.iload_n 3, 1) := by decide +kernel
theorem dL_law_1231 : decode cL_law 1231 = .ok (.iconst 3, 1) := by decide +kernel
theorem dL_law_1232 : decode cL_law 1232 = .ok (.iadd, 1) := by decide +kernel
theorem dL_law_1233 : decode cL_law 1233 = .ok (.iaload, 1) := by decide +kernel
theorem dL_law_1234 : decode cL_law 1234 = .ok (.aload_n 0, 1) := by decide +kernel
theorem dL_law_1235 : decode cL_law 1235 = .ok (.iload_n 3, 1) := by decide +kernel
theorem dL_law_1236 : decode cL_law 1236 = .ok (.iconst 4, 1) := by decide +kernel
theorem dL_law_1237 : decode cL_law 1237 = .ok (.iadd, 1) := by decide +kernel
theorem dL_law_1238 : decode cL_law 1238 = .ok (.iaload, 1) := by decide +kernel
theorem dL_law_1239 : decode cL_law 1239 = .ok (.aload_n 0, 1) := by decide +kernel
theorem dL_law_1240 : decode cL_law 1240 = .ok (.iload_n 3, 1) := by decide +kernel
theorem dL_law_1241 : decode cL_law 1241 = .ok (.iconst 5, 1) := by decide +kernel
theorem dL_law_1242 : decode cL_law 1242 = .ok (.iadd, 1) := by decide +kernel
theorem dL_law_1243 : decode cL_law 1243 = .ok (.iaload, 1) := by decide +kernel
theorem dL_law_1244 : decode cL_law 1244 = .ok (.invokevirtual 162, 3) := by decide +kernel
theorem dL_law_1247 : decode cL_law 1247 = .ok (.if_icmp .eq 65, 3) := by decide +kernel
theorem dL_law_1250 : decode cL_law 1250 = .ok (.iconst 0, 1) := by decide +kernel
theorem dL_law_1251 : decode cL_law 1251 = .ok (.ireturn, 1) := by decide +kernel
theorem dL_law_1252 : decode cL_law 1252 = .ok (.aload_n 1, 1) := by decide +kernel
theorem dL_law_1253 : decode cL_law 1253 = .ok (.aload_n 0, 1) := by decide +kernel
theorem dL_law_1254 : decode cL_law 1254 = .ok (.iload_n 3, 1) := by decide +kernel
theorem dL_law_1255 : decode cL_law 1255 = .ok (.iconst 1, 1) := by decide +kernel
theorem dL_law_1256 : decode cL_law 1256 = .ok (.iadd, 1) := by decide +kernel
theorem dL_law_1257 : decode cL_law 1257 = .ok (.iaload, 1) := by decide +kernel
theorem dL_law_1258 : decode cL_law 1258 = .ok (.invokevirtual 163, 3) := by decide +kernel
theorem dL_law_1261 : decode cL_law 1261 = .ok (.aload_n 2, 1) := by decide +kernel
theorem dL_law_1262 : decode cL_law 1262 = .ok (.aload_n 0, 1) := by decide +kernel
theorem dL_law_1263 : decode cL_law 1263 = .ok (.iload_n 3, 1) := by decide +kernel
theorem dL_law_1264 : decode cL_law 1264 = .ok (.iconst 1, 1) := by decide +kernel
theorem dL_law_1265 : decode cL_law 1265 = .ok (.iadd, 1) := by decide +kernel
theorem dL_law_1266 : decode cL_law 1266 = .ok (.iaload, 1) := by decide +kernel
theorem dL_law_1267 : decode cL_law 1267 = .ok (.invokevirtual 166, 3) := by decide +kernel
theorem dL_law_1270 : decode cL_law 1270 = .ok (.if_icmp .eq 42, 3) := by decide +kernel
theorem dL_law_1273 : decode cL_law 1273 = .ok (.iconst 0, 1) := by decide +kernel
theorem dL_law_1274 : decode cL_law 1274 = .ok (.ireturn, 1) := by decide +kernel
theorem dL_law_1275 : decode cL_law 1275 = .ok (.aload_n 1, 1) := by decide +kernel
theorem dL_law_1276 : decode cL_law 1276 = .ok (.aload_n 0, 1) := by decide +kernel
theorem dL_law_1277 : decode cL_law 1277 = .ok (.iload_n 3, 1) := by decide +kernel
theorem dL_law_1278 : decode cL_law 1278 = .ok (.iconst 1, 1) := by decide +kernel
theorem dL_law_1279 : decode cL_law 1279 = .ok (.iadd, 1) := by decide +kernel
theorem dL_law_1280 : decode cL_law 1280 = .ok (.iaload, 1) := by decide +kernel
theorem dL_law_1281 : decode cL_law 1281 = .ok (.invokevirtual 167, 3) := by decide +kernel
theorem dL_law_1284 : decode cL_law 1284 = .ok (.aload_n 2, 1) := by decide +kernel
theorem dL_law_1285 : decode cL_law 1285 = .ok (.aload_n 0, 1) := by decide +kernel
theorem dL_law_1286 : decode cL_law 1286 = .ok (.iload_n 3, 1) := by decide +kernel
theorem dL_law_1287 : decode cL_law 1287 = .ok (.iconst 1, 1) := by decide +kernel
theorem dL_law_1288 : decode cL_law 1288 = .ok (.iadd, 1) := by decide +kernel
theorem dL_law_1289 : decode cL_law 1289 = .ok (.iaload, 1) := by decide +kernel
theorem dL_law_1290 : decode cL_law 1290 = .ok (.invokevirtual 170, 3) := by decide +kernel
theorem dL_law_1293 : decode cL_law 1293 = .ok (.if_icmp .eq 19, 3) := by decide +kernel
theorem dL_law_1296 : decode cL_law 1296 = .ok (.iconst 0, 1) := by decide +kernel
theorem dL_law_1297 : decode cL_law 1297 = .ok (.ireturn, 1) := by decide +kernel
theorem dL_law_1298 : decode cL_law 1298 = .ok (.aload_n 1, 1) := by decide +kernel
theorem dL_law_1299 : decode cL_law 1299 = .ok (.invokevirtual 171, 3) := by decide +kernel
theorem dL_law_1302 : decode cL_law 1302 = .ok (.aload_n 2, 1) := by decide +kernel
theorem dL_law_1303 : decode cL_law 1303 = .ok (.invokevirtual 175, 3) := by decide +kernel
theorem dL_law_1306 : decode cL_law 1306 = .ok (.lcmp, 1) := by decide +kernel
theorem dL_law_1307 : decode cL_law 1307 = .ok (.ifCond .eq 5, 3) := by decide +kernel
theorem dL_law_1310 : decode cL_law 1310 = .ok (.iconst 0, 1) := by decide +kernel
theorem dL_law_1311 : decode cL_law 1311 = .ok (.ireturn, 1) := by decide +kernel
theorem dL_law_1312 : decode cL_law 1312 = .ok (.iinc 3 6, 3) := by decide +kernel
theorem dL_law_1315 : decode cL_law 1315 = .ok (.goto (-1297), 3) := by decide +kernel
theorem dL_law_1318 : decode cL_law 1318 = .ok (.iconst 1, 1) := by decide +kernel
theorem dL_law_1319 : decode cL_law 1319 = .ok (.ireturn, 1) := by decide +kernel
end
section
/-! OUR WORLD: the cells that the class and its reference live in, by numbers 0 .. 53; the memory is what they hold, all of it ints -/
abbrev Mem := Nat → Nat → Int32
/-- where the cells lie; the class tables; the array classes by kind -/
abbrev Wx := (Nat → Nat) × va_G × (Nat → ClassId)
def stC (M : Mem) (k : Nat) (g : Nat → Int32) : Mem := fun j => if j = k then g else M j
def st2 (M : Mem) (k i : Nat) (v : Int32) : Mem := stC M k (upd (M k) i v)
theorem stC_same (M : Mem) (k : Nat) (g : Nat → Int32) : stC M k g k = g := by simp [stC]
theorem stC_ne (M : Mem) {k j : Nat} (g : Nat → Int32) (h : j ≠ k) : stC M k g j = M j := by simp [stC, h]
/-- kinds: 0 .. 8 an object of that class; 9 ints, 10 bytes, 11 booleans, 12 Entries, 13 Sheets, 14 Texts -/
def kdL : List Nat := [7, 14, 6, 6, 6, 10, 10, 10, 12, 1, 1, 1, 9, 9, 9, 9, 9, 3, 9, 9, 9, 9, 9, 0, 9, 9, 4, 2, 13, 5, 5, 5, 5, 9, 9, 9, 9, 8, 9, 9, 9, 9, 9, 9, 9, 9, 9, 9, 9, 11, 9, 9, 9, 9]
def kd (k : Nat) : Nat := kdL.getD k 99
def lnL : List Nat := [0, 3, 0, 0, 0, 80, 60, 60, 3, 0, 0, 0, 60, 60, 60, 4, 10, 0, 1024, 1024, 1024, 10, 10, 0, 10, 1024, 0, 0, 4, 0, 0, 0, 0, 48, 48, 48, 48, 0, 3, 240, 66, 2, 66, 10, 1024, 1024, 1024, 8, 8, 4, 4, 4, 192, 48]
def ln (k : Nat) : Nat := lnL.getD k 0
theorem kd_lt {k c : Nat} (h : kd k = c) (hc : c < 15) : k < 54 := by
  rcases Nat.lt_or_ge k 54 with q | q
  · exact q
  · have : kd k = 99 := by unfold kd; rw [List.getD_eq_getElem?_getD, List.getElem?_eq_none (by simpa [kdL] using q)]; rfl
    omega
def fm (k : Nat) : Nat := if k = 9 then 60 else 61
def rfO (c k j : Nat) : Option Nat := match c, j with
  | 0, 0 => some (k + 1)
  | 0, 1 => some (k + 2)
  | 1, 0 => some (fm k)
  | 1, 1 => some (k + 3)
  | 3, 0 => some (k + 1)
  | 3, 1 => some (k + 2)
  | 3, 2 => some (k + 3)
  | 3, 3 => some (k + 4)
  | 3, 4 => some (k + 5)
  | 5, 0 => some (k + 4)
  | 6, 0 => some (k + 3)
  | 7, 0 => some 1
  | 7, 1 => some 8
  | 7, 2 => some 15
  | 7, 3 => some 16
  | 7, 4 => some 17
  | 7, 6 => some 23
  | 7, 8 => some 26
  | 7, 9 => some 27
  | 7, 10 => some 28
  | 8, 0 => some 38
  | 8, 1 => some 39
  | 8, 3 => some 40
  | 8, 4 => some 41
  | 8, 5 => some 42
  | 8, 10 => some 43
  | 8, 11 => some 44
  | 8, 12 => some 45
  | 8, 13 => some 46
  | 8, 15 => some 47
  | 8, 16 => some 48
  | 8, 17 => some 49
  | 8, 18 => some 50
  | 8, 19 => some 51
  | 8, 20 => some 52
  | 8, 21 => some 53
  | _, _ => none
def nfL : List Nat := [5, 8, 1, 8, 3, 3, 2, 12, 23]
def fv (x : Wx) (M : Mem) (c k j : Nat) : Value := match rfO c k j with
  | some t => .ref (x.1 t)
  | none => .int (M k j)
def fsL (x : Wx) (M : Mem) (c k : Nat) : List Value := (List.range (nfL.getD c 0)).map (fv x M c k)
/-- what a cell is -/
def cE (x : Wx) (M : Mem) (k : Nat) : va_E :=
  if kd k < 9 then .inr (kd k, fsL x M (kd k) k)
  else if kd k < 12 then .inl (x.2.2 (kd k), ln k, .inl (M k))
  else .inl (x.2.2 (kd k), ln k, .inr (.inr (.inr (.inr (fun i => some (x.1 (k + 1 + i)))))))
def wl (x : Wx) (M : Mem) : va_W := (List.range 54).map fun k => (x.1 k, cE x M k)
abbrev tysX (x : Wx) : List (ClassId × FieldType) := [(x.2.2 9, .int), (x.2.2 10, .byte), (x.2.2 11, .boolean), (x.2.2 12, .object "AnswersFirst$Entries"), (x.2.2 13, .object "AnswersFirst$Sheet"), (x.2.2 14, .object "AnswersFirst$Text")]
def Wd (x : Wx) (M : Mem) (H : Heap) : Prop := va_P x.2.1 vwCl (wl x M) H
def Inj (x : Wx) : Prop := ∀ i j, i < 54 → j < 54 → x.1 i = x.1 j → i = j
def Ax (x : Wx) : Nat → Prop := fun q => ∃ k, k < 54 ∧ q = x.1 k
theorem wl_get {x : Wx} {M : Mem} {k : Nat} (h : k < 54) : (wl x M)[k]? = some (x.1 k, cE x M k) := by
  simp [wl, h]
theorem wl_D {x : Wx} {M : Mem} {A : Nat → Prop} (hI : Inj x) (hA : ∀ k, k < 54 → A (x.1 k)) : va_D A (wl x M) := by
  have key : ∀ (k : Nat) (q : Nat × va_E), (wl x M)[k]? = some q → k < 54 ∧ q.1 = x.1 k := by
    intro k q h
    have hk : k < 54 := by
      have := (List.getElem?_eq_some_iff.mp h).1
      simpa [wl] using this
    rw [wl_get hk] at h
    cases h
    exact ⟨hk, rfl⟩
  refine ⟨fun i j p q hi hj e => ?_, fun k q hk => ?_⟩
  · obtain ⟨a1, a2⟩ := key i p hi
    obtain ⟨b1, b2⟩ := key j q hj
    exact hI i j a1 b1 (by rw [← a2, ← b2, e])
  · obtain ⟨a1, a2⟩ := key k q hk
    rw [a2]
    exact hA k a1
theorem cE_congr {x : Wx} {M M' : Mem} {k : Nat} (h : M' k = M k) : cE x M' k = cE x M k := by
  have e : ∀ c j, fv x M' c k j = fv x M c k j := by
    intro c j
    unfold fv
    cases rfO c k j <;> simp [h]
  have e2 : ∀ c, fsL x M' c k = fsL x M c k := by
    intro c
    unfold fsL
    exact List.map_congr_left (fun j _ => e c j)
  unfold cE
  rw [e2, h]
theorem wl_set {x : Wx} {M M' : Mem} {k : Nat} {e : va_E} (he : cE x M' k = e) (hM : ∀ j, j ≠ k → M' j = M j) : (wl x M).set k (x.1 k, e) = wl x M' := by
  refine List.ext_getElem? (fun i => ?_)
  rw [List.getElem?_set]
  by_cases hik : k = i
  · subst hik
    rw [if_pos rfl]
    by_cases hk : k < 54
    · rw [if_pos (by simpa [wl] using hk), wl_get hk, he]
    · have h1 : (wl x M').length ≤ k := by simpa [wl] using hk
      rw [if_neg (by simpa [wl] using hk), List.getElem?_eq_none h1]
  · rw [if_neg hik]
    by_cases hi : i < 54
    · rw [wl_get hi, wl_get hi, cE_congr (hM i (fun q => hik q.symm))]
    · have h1 : (wl x M).length ≤ i := by simpa [wl] using hi
      have h2 : (wl x M').length ≤ i := by simpa [wl] using hi
      rw [List.getElem?_eq_none h1, List.getElem?_eq_none h2]
theorem cE_obj {x : Wx} {M : Mem} {k c : Nat} (h : kd k = c) (hc : c < 9) : cE x M k = .inr (c, fsL x M c k) := by
  unfold cE; rw [h, if_pos hc]
theorem cE_arr {x : Wx} {M : Mem} {k c : Nat} (h : kd k = c) (h1 : ¬ c < 9) (h2 : c < 12) : cE x M k = .inl (x.2.2 c, ln k, .inl (M k)) := by
  unfold cE; rw [h, if_neg h1, if_pos h2]
theorem cE_ref {x : Wx} {M : Mem} {k c : Nat} (h : kd k = c) (h1 : ¬ c < 9) (h2 : ¬ c < 12) : cE x M k = .inl (x.2.2 c, ln k, .inr (.inr (.inr (.inr (fun i => some (x.1 (k + 1 + i))))))) := by
  unfold cE; rw [h, if_neg h1, if_neg h2]
theorem fsL_get {x : Wx} {M : Mem} {c k j : Nat} (h : j < nfL.getD c 0) : (fsL x M c k)[j]? = some (fv x M c k j) := by
  unfold fsL
  rw [List.getElem?_map, List.getElem?_range h]
  rfl
theorem fsL_set {x : Wx} {M : Mem} {c k j : Nat} {v : Int32} (hr : rfO c k j = none) : (fsL x M c k).set j (.int v) = fsL x (st2 M k j v) c k := by
  refine List.ext_getElem? (fun i => ?_)
  rw [List.getElem?_set]
  have hlen : (fsL x M c k).length = nfL.getD c 0 := by simp [fsL]
  by_cases hij : j = i
  · subst hij
    rw [if_pos rfl, hlen]
    by_cases hj : j < nfL.getD c 0
    · rw [if_pos hj, fsL_get hj]
      unfold fv
      rw [hr]
      simp [st2, stC, upd]
    · rw [if_neg hj, List.getElem?_eq_none (by simpa [fsL] using hj)]
  · rw [if_neg hij]
    by_cases hi : i < nfL.getD c 0
    · rw [fsL_get hi, fsL_get hi]
      unfold fv
      cases rfO c k i with
      | some t => rfl
      | none =>
        have : st2 M k j v k i = M k i := by simp [st2, stC, upd, Ne.symm hij]
        rw [this]
    · rw [List.getElem?_eq_none (by simpa [fsL] using hi), List.getElem?_eq_none (by simpa [fsL] using hi)]
theorem st2_ne {M : Mem} {k i : Nat} {v : Int32} : ∀ j, j ≠ k → st2 M k i v j = M j := fun j h => stC_ne M _ h
/-! what nobody writes: static arrays, String constants -/
def roL (k : Nat) : Nat := if k = 60 then 7 else 4
def roT (k : Nat) : List Int32 := if k = 60 then [0, 1, 2, 2, 3, 4, 5] else if k = 61 then [2, 2, 0, 1] else if k = 62 then [1, 0, 0, 0] else [20, 9, 99, 1023]
def roI (k i : Nat) : Int32 := (roT k).getD i 0
def tx_len : List Nat := [2, 5]
def tx_byt : List (List Int32) := [[110, 121], [97, 101, 121, 110, 115]]
def RoX (x : Wx) (A : Nat → Prop) (U : State) (H : Heap) : Prop :=
  ((va_Z "AnswersFirst" "LEAST_SETTING" "[I" (.ref (x.1 62)) A U H ∧ va_Z "AnswersFirst" "MOST_SETTING" "[I" (.ref (x.1 63)) A U H ∧ va_Z "java/lang/String" "COMPACT_STRINGS" "Z" (.int 1) A U H) ∧
  (∀ k, 60 ≤ k → k < 64 → va_T .int (x.1 k) (roL k) (fun j => .int (roI k j)) A U H)) ∧
  vk_S 2 tx_len tx_byt (fun i => x.1 (64 + i)) (fun i => x.1 (66 + i)) A U H ∧
  vk_R "AnswersFirst$Entries" 69 "ny" (x.1 64) U ∧ vk_R "AnswersFirst$Entries" 76 "aeyns" (x.1 65) U
theorem RoX.go {x : Wx} {A B : Nat → Prop} {s U : State} {H H1 : Heap} (h : RoX x A s H) (hq : ∀ a : Nat, a < H.size → ¬ A a → H1[a]? = H[a]?) (hAB : ∀ q, B q → A q) (hW : s.WarmedH U.vm) : RoX x B U H1 := by
  obtain ⟨⟨⟨h1, h2, h3⟩, h4⟩, h5, h6, h7⟩ := h
  have z : ∀ {C n d : String} {v : Value}, va_Z C n d v A s H → va_Z C n d v B U H1 := fun q => va_Z.moved hW.alike ((q.kept hq).narrow hAB)
  exact ⟨⟨⟨z h1, z h2, z h3⟩, fun k a b => va_T.moved hW.alike (((h4 k a b).kept hq).narrow hAB)⟩, vk_S.moved hW.alike ((h5.kept hq).narrow hAB), vk_R.warm hW h6, vk_R.warm hW h7⟩
theorem RoX.same {x : Wx} {A : Nat → Prop} {u U : State} {H : Heap} (h : RoX x A u H) (hv : U.vm = u.vm) : RoX x A U H := by
  obtain ⟨⟨⟨h1, h2, h3⟩, h4⟩, h5, h6, h7⟩ := h
  have al : u.vm.Alike U.vm := by rw [hv]; exact Vm.Alike.refl u.vm
  exact ⟨⟨⟨va_Z.moved al h1, va_Z.moved al h2, va_Z.moved al h3⟩, fun k a b => va_T.moved al (h4 k a b)⟩, vk_S.moved al h5, vk_R.same hv h6, vk_R.same hv h7⟩
/-- the tables' words that last -/
def lw_g : List Cond := lw_tbl.filter goodWord
theorem lw_g_in {w : Cond} (i : Nat) (h : lw_tbl[i]? = some w) (hg : goodWord w = true) : w ∈ lw_g := List.mem_filter.mpr ⟨List.mem_of_getElem? h, hg⟩
theorem lw_g_sub {w : Cond} (h : w ∈ lw_g) : w ∈ lw_tbl := (List.mem_filter.mp h).1
theorem lw_g_good {y : Cond} (hy : y ∈ lw_g) : GoodIn lw_g (y :: lw_g) := fun w hw => by
  have hw : w ∈ lw_g := (List.mem_cons.mp hw).elim (fun e => e ▸ hy) id
  exact ⟨hw, good_of_word (List.mem_filter.mp hw).2⟩
end
section
/-! OUR JUDGEMENT: GG .. pc lv st M o: at pc, with locals lv, stack st, memory M, the machine comes to what o says (if o says anything) -/
abbrev Fx := Program × Launch × Env × Room × State × MethodId × Array Value × List Frame × Method × Code × (Nat → Prop) × Nat × Nat
abbrev fP (f : Fx) : Program := f.1
abbrev fL (f : Fx) : Launch := f.2.1
abbrev fE (f : Fx) : Env := f.2.2.1
abbrev fR (f : Fx) : Room := f.2.2.2.1
abbrev fS (f : Fx) : State := f.2.2.2.2.1
abbrev fM (f : Fx) : MethodId := f.2.2.2.2.2.1
abbrev fV (f : Fx) : Array Value := f.2.2.2.2.2.2.1
abbrev fB (f : Fx) : List Frame := f.2.2.2.2.2.2.2.1
abbrev fT (f : Fx) : Method := f.2.2.2.2.2.2.2.2.1
abbrev fC (f : Fx) : Code := f.2.2.2.2.2.2.2.2.2.1
abbrev fA (f : Fx) : Nat → Prop := f.2.2.2.2.2.2.2.2.2.2.1
abbrev fK (f : Fx) : Nat := f.2.2.2.2.2.2.2.2.2.2.2.1
abbrev fN (f : Fx) : Nat := f.2.2.2.2.2.2.2.2.2.2.2.2
abbrev GW (f : Fx) (H : Heap) (locs : List Loc) (Q : State → Prop) (g : JFrame) : Prop := W (fP f) (fL f) (fE f) (fR f) (fS f) (fM f) (fV f) (fB f) (fT f) (fC f) H locs (fK f) (fN f) Q g
def Cx (x : Wx) (f : Fx) (own : String) (cc : ByteArray) (nL : Nat) (R : Room) : Prop :=
  (fP f).tables.exec = Jvm.exec ∧ (fC f).code = cc ∧ (fC f).maxLocals = nL ∧ (fS f).vm.findClass own = some (fM f).cls ∧ (∀ w ∈ lw_g, w.before (fV f) (fS f) = true) ∧ va_K x.2.1 vwCl (tysX x) (fS f) ∧ Inj x ∧ (∀ k, k < 54 → fA f (x.1 k)) ∧ RoX x (fA f) (fS f) (fS f).heap ∧ fR f = R ∧ (fT f).locks = false ∧ fK f ≤ R.cells ∧ fN f ≤ R.slots
def GG {β : Type} (x : Wx) (f : Fx) (nL : Nat) (Qf : β → State → Prop) (pc : Nat) (lv : List (Nat × Value)) (st : List Value) (M : Mem) (o : Option β) : Prop :=
  ∀ r, o = some r → ∀ (H : Heap) (locs : List Loc) (ls : Array Slot), Wd x M H → va_S (fA f) (fS f).heap H locs → lv_has ls nL lv → GW f H locs (Qf r) (F0 (fM f) pc ls st)
/-! the words of what a method computes -/
def nm {α β : Type} (a : α) (g : α → β) : β := g a
def inb (i : Int32) (n : Nat) : Bool := !(decide (i < 0) || decide (n ≤ i.toNatClampNeg))
def ib {β : Type} (i : Int32) (n : Nat) (o : Option β) : Option β := if inb i n = true then o else none
def nz {β : Type} (y : Int32) (o : Option β) : Option β := if y = 0 then none else o
abbrev ix (i : Int32) : Nat := i.toNatClampNeg
def bi (b : Bool) : Int32 := if b = true then 1 else 0
def ush (a b : Int32) : Int32 := (a.toUInt32 >>> (b.toUInt32 &&& Int32.toUInt32 31)).toInt32
def i2c (a : Int32) : Int32 := (a.toUInt32 % 65536).toInt32
theorem inb_iff {i : Int32} {n : Nat} : inb i n = true ↔ vp_in i n := by
  unfold inb vp_in
  simp
section Rows
variable {β : Type} {x : Wx} {f : Fx} {own : String} {cc : ByteArray} {nL : Nat} {R : Room} {Qf : β → State → Prop} {pc : Nat} {lv lv' : List (Nat × Value)} {st : List Value} {M : Mem} {o o1 o2 : Option β}
theorem g_lv (ks : List Nat) (h : lv_pick lv ks = lv') (k : GG x f nL Qf pc lv' st M o) : GG x f nL Qf pc lv st M o :=
  fun r hr H locs ls hW hS hl => k r hr H locs ls hW hS (lv_sub hl ks h)
theorem g_nm {α : Type} {j : α} {κ : α → Option β} (P : α → Prop) (hj : P j) (hk : ∀ J, P J → GG x f nL Qf pc lv st M (κ J)) : GG x f nL Qf pc lv st M (nm j κ) := hk j hj
theorem g_none : GG x f nL Qf pc lv st M none := fun r hr => by cases hr
-- constants
theorem g_iconst (hC : Cx x f own cc nL R) {n : Int} {v : Int32} (hd : decode cc pc = .ok (.iconst n, 1)) (hv : Int32.ofInt n = v) (k : GG x f nL Qf (pc + 1) lv (.int v :: st) M o) : GG x f nL Qf pc lv st M o :=
  fun r hr H locs ls hW hS hl => lv_iconst hC.1 hC.2.1 hd hv (k r hr H locs ls hW hS hl)
theorem g_bipush (hC : Cx x f own cc nL R) {n : Int} {v : Int32} (hd : decode cc pc = .ok (.bipush n, 2)) (hv : (Int8.ofInt n).toInt32 = v) (k : GG x f nL Qf (pc + 2) lv (.int v :: st) M o) : GG x f nL Qf pc lv st M o :=
  fun r hr H locs ls hW hS hl => lv_bipush hC.1 hC.2.1 hd hv (k r hr H locs ls hW hS hl)
theorem g_sipush (hC : Cx x f own cc nL R) {n : Int} {v : Int32} (hd : decode cc pc = .ok (.sipush n, 3)) (hv : (Int16.ofInt n).toInt32 = v) (k : GG x f nL Qf (pc + 3) lv (.int v :: st) M o) : GG x f nL Qf pc lv st M o :=
  fun r hr H locs ls hW hS hl => lv_sipush hC.1 hC.2.1 hd hv (k r hr H locs ls hW hS hl)
theorem g_ldc (hC : Cx x f own cc nL R) {i : Nat} {v : Int32} (hm : Cond.constant own i v ∈ lw_g) (hd : decode cc pc = .ok (.ldc i, 2)) (k : GG x f nL Qf (pc + 2) lv (.int v :: st) M o) : GG x f nL Qf pc lv st M o :=
  fun r hr H locs ls hW hS hl => lv_ldc hC.1 hC.2.1 hC.2.2.2.1 (hC.2.2.2.2.1 _ hm) hd (k r hr H locs ls hW hS hl)
theorem g_ldc2 (hC : Cx x f own cc nL R) {i : Nat} {v : Int64} (hm : Cond.constantLong own i v ∈ lw_g) (hd : decode cc pc = .ok (.ldc2_w i, 3)) (k : GG x f nL Qf (pc + 3) lv (.long v :: st) M o) : GG x f nL Qf pc lv st M o :=
  fun r hr H locs ls hW hS hl => lv_ldc2 hC.1 hC.2.1 hC.2.2.2.1 (hC.2.2.2.2.1 _ hm) hd (k r hr H locs ls hW hS hl)
-- locals
theorem g_iload_n (hC : Cx x f own cc nL R) {j : Fin 4} {i : Nat} {a : Int32} (q : Nat) (hd : decode cc pc = .ok (.iload_n j, 1)) (hi : (j : Nat) = i) (hq : lv[q]? = some (i, .int a)) (k : GG x f nL Qf (pc + 1) lv (.int a :: st) M o) : GG x f nL Qf pc lv st M o :=
  fun r hr H locs ls hW hS hl => lv_iload_n hC.1 hC.2.1 hd hi (lv_at hl q hq) (k r hr H locs ls hW hS hl)
theorem g_iload (hC : Cx x f own cc nL R) {i : Nat} {a : Int32} (q : Nat) (hd : decode cc pc = .ok (.iload i, 2)) (hq : lv[q]? = some (i, .int a)) (k : GG x f nL Qf (pc + 2) lv (.int a :: st) M o) : GG x f nL Qf pc lv st M o :=
  fun r hr H locs ls hW hS hl => lv_iload hC.1 hC.2.1 hd (lv_at hl q hq) (k r hr H locs ls hW hS hl)
theorem g_lload_n (hC : Cx x f own cc nL R) {j : Fin 4} {i : Nat} {a : Int64} (q : Nat) (hd : decode cc pc = .ok (.lload_n j, 1)) (hi : (j : Nat) = i) (hq : lv[q]? = some (i, .long a)) (k : GG x f nL Qf (pc + 1) lv (.long a :: st) M o) : GG x f nL Qf pc lv st M o :=
  fun r hr H locs ls hW hS hl => lv_lload_n hC.1 hC.2.1 hd hi (lv_at hl q hq) (k r hr H locs ls hW hS hl)
theorem g_aload_n (hC : Cx x f own cc nL R) {j : Fin 4} {i : Nat} {a : Nat} (q : Nat) (hd : decode cc pc = .ok (.aload_n j, 1)) (hi : (j : Nat) = i) (hq : lv[q]? = some (i, .ref a)) (k : GG x f nL Qf (pc + 1) lv (.ref a :: st) M o) : GG x f nL Qf pc lv st M o :=
  fun r hr H locs ls hW hS hl => lv_aload_n hC.1 hC.2.1 hd hi (lv_at hl q hq) (k r hr H locs ls hW hS hl)
/-- the list of locals, sorted, with one more -/
theorem g_lvP {ls : Array Slot} {l : List (Nat × Value)} (h : lv_has ls nL l) (hs : ∀ q ∈ lv', q ∈ l) : lv_has ls nL lv' := ⟨h.1, h.2.1, fun q hq => h.2.2 q (hs q hq)⟩
theorem g_istore_n (hC : Cx x f own cc nL R) {j : Fin 4} {i : Nat} {a : Int32} (ks : List Nat) (hd : decode cc pc = .ok (.istore_n j, 1)) (hi : (j : Nat) = i) (hn : i < nL) (hl' : lv_pick ((i, Value.int a) :: lv.filter (fun q => !(q.1 == i) && !(q.1 + 1 == i && q.2.category == 2))) ks = lv') (k : GG x f nL Qf (pc + 1) lv' st M o) : GG x f nL Qf pc lv (.int a :: st) M o :=
  fun r hr H locs ls hW hS hl => lv_istore_n hC.1 hC.2.1 hd hi hl hn rfl (fun ls' h' => k r hr H locs ls' hW hS (lv_sub h' ks hl'))
theorem g_istore (hC : Cx x f own cc nL R) {i : Nat} {a : Int32} (ks : List Nat) (hd : decode cc pc = .ok (.istore i, 2)) (hn : i < nL) (hl' : lv_pick ((i, Value.int a) :: lv.filter (fun q => !(q.1 == i) && !(q.1 + 1 == i && q.2.category == 2))) ks = lv') (k : GG x f nL Qf (pc + 2) lv' st M o) : GG x f nL Qf pc lv (.int a :: st) M o :=
  fun r hr H locs ls hW hS hl => lv_istore hC.1 hC.2.1 hd hl hn rfl (fun ls' h' => k r hr H locs ls' hW hS (lv_sub h' ks hl'))
theorem g_astore_n (hC : Cx x f own cc nL R) {j : Fin 4} {i : Nat} {a : Nat} (ks : List Nat) (hd : decode cc pc = .ok (.astore_n j, 1)) (hi : (j : Nat) = i) (hn : i < nL) (hl' : lv_pick ((i, Value.ref a) :: lv.filter (fun q => !(q.1 == i) && !(q.1 + 1 == i && q.2.category == 2))) ks = lv') (k : GG x f nL Qf (pc + 1) lv' st M o) : GG x f nL Qf pc lv (.ref a :: st) M o :=
  fun r hr H locs ls hW hS hl => lv_astore_n hC.1 hC.2.1 hd hi hl hn rfl (fun ls' h' => k r hr H locs ls' hW hS (lv_sub h' ks hl'))
theorem g_lstore_n (hC : Cx x f own cc nL R) {j : Fin 4} {i : Nat} {a : Int64} (ks : List Nat) (hd : decode cc pc = .ok (.lstore_n j, 1)) (hi : (j : Nat) = i) (hn : i + 1 < nL) (hl' : lv_pick ((i, Value.long a) :: lv.filter (fun q => !(q.1 == i) && (!(q.1 == i + 1) && !(q.1 + 1 == i && q.2.category == 2)))) ks = lv') (k : GG x f nL Qf (pc + 1) lv' st M o) : GG x f nL Qf pc lv (.long a :: st) M o :=
  fun r hr H locs ls hW hS hl => lv_lstore_n hC.1 hC.2.1 hd hi hl hn rfl (fun ls' h' => k r hr H locs ls' hW hS (lv_sub h' ks hl'))
theorem g_iinc (hC : Cx x f own cc nL R) {i q : Nat} {n : Int} {a v : Int32} (ks : List Nat) (hd : decode cc pc = .ok (.iinc i n, 3)) (hq : lv[q]? = some (i, .int a)) (hv : Int32.ofInt n = v) (hn : i < nL) (hl' : lv_pick ((i, Value.int (a + v)) :: lv.filter (fun q => !(q.1 == i) && !(q.1 + 1 == i && q.2.category == 2))) ks = lv') (k : GG x f nL Qf (pc + 3) lv' st M o) : GG x f nL Qf pc lv st M o :=
  fun r hr H locs ls hW hS hl => lv_iinc hC.1 hC.2.1 hd hl hq (by rw [hv]) hn rfl (fun ls' h' => k r hr H locs ls' hW hS (lv_sub h' ks hl'))
-- numbers
theorem g_iadd (hC : Cx x f own cc nL R) {a b : Int32} (hd : decode cc pc = .ok (.iadd, 1)) (k : GG x f nL Qf (pc + 1) lv (.int (a + b) :: st) M o) : GG x f nL Qf pc lv (.int b :: .int a :: st) M o :=
  fun r hr H locs ls hW hS hl => lv_iadd hC.1 hC.2.1 hd (k r hr H locs ls hW hS hl)
theorem g_isub (hC : Cx x f own cc nL R) {a b : Int32} (hd : decode cc pc = .ok (.isub, 1)) (k : GG x f nL Qf (pc + 1) lv (.int (a - b) :: st) M o) : GG x f nL Qf pc lv (.int b :: .int a :: st) M o :=
  fun r hr H locs ls hW hS hl => lv_isub hC.1 hC.2.1 hd (k r hr H locs ls hW hS hl)
theorem g_imul (hC : Cx x f own cc nL R) {a b : Int32} (hd : decode cc pc = .ok (.imul, 1)) (k : GG x f nL Qf (pc + 1) lv (.int (a * b) :: st) M o) : GG x f nL Qf pc lv (.int b :: .int a :: st) M o :=
  fun r hr H locs ls hW hS hl => lv_imul hC.1 hC.2.1 hd (k r hr H locs ls hW hS hl)
theorem g_iand (hC : Cx x f own cc nL R) {a b : Int32} (hd : decode cc pc = .ok (.iand, 1)) (k : GG x f nL Qf (pc + 1) lv (.int (a &&& b) :: st) M o) : GG x f nL Qf pc lv (.int b :: .int a :: st) M o :=
  fun r hr H locs ls hW hS hl => lv_iand hC.1 hC.2.1 hd (k r hr H locs ls hW hS hl)
theorem g_ior (hC : Cx x f own cc nL R) {a b : Int32} (hd : decode cc pc = .ok (.ior, 1)) (k : GG x f nL Qf (pc + 1) lv (.int (a ||| b) :: st) M o) : GG x f nL Qf pc lv (.int b :: .int a :: st) M o :=
  fun r hr H locs ls hW hS hl => lv_ior hC.1 hC.2.1 hd (k r hr H locs ls hW hS hl)
theorem g_ixor (hC : Cx x f own cc nL R) {a b : Int32} (hd : decode cc pc = .ok (.ixor, 1)) (k : GG x f nL Qf (pc + 1) lv (.int (a ^^^ b) :: st) M o) : GG x f nL Qf pc lv (.int b :: .int a :: st) M o :=
  fun r hr H locs ls hW hS hl => lv_ixor hC.1 hC.2.1 hd (k r hr H locs ls hW hS hl)
theorem g_ishl (hC : Cx x f own cc nL R) {a b : Int32} (hd : decode cc pc = .ok (.ishl, 1)) (k : GG x f nL Qf (pc + 1) lv (.int (a <<< (b &&& 31)) :: st) M o) : GG x f nL Qf pc lv (.int b :: .int a :: st) M o :=
  fun r hr H locs ls hW hS hl => lv_ishl hC.1 hC.2.1 hd (k r hr H locs ls hW hS hl)
theorem g_ishr (hC : Cx x f own cc nL R) {a b : Int32} (hd : decode cc pc = .ok (.ishr, 1)) (k : GG x f nL Qf (pc + 1) lv (.int (a >>> (b &&& 31)) :: st) M o) : GG x f nL Qf pc lv (.int b :: .int a :: st) M o :=
  fun r hr H locs ls hW hS hl => lv_ishr hC.1 hC.2.1 hd (k r hr H locs ls hW hS hl)
theorem g_iushr (hC : Cx x f own cc nL R) {a b : Int32} (hd : decode cc pc = .ok (.iushr, 1)) (k : GG x f nL Qf (pc + 1) lv (.int (ush a b) :: st) M o) : GG x f nL Qf pc lv (.int b :: .int a :: st) M o :=
  fun r hr H locs ls hW hS hl => lv_iushr hC.1 hC.2.1 hd rfl (k r hr H locs ls hW hS hl)
theorem g_ineg (hC : Cx x f own cc nL R) {a : Int32} (hd : decode cc pc = .ok (.ineg, 1)) (k : GG x f nL Qf (pc + 1) lv (.int (-a) :: st) M o) : GG x f nL Qf pc lv (.int a :: st) M o :=
  fun r hr H locs ls hW hS hl => lv_ineg hC.1 hC.2.1 hd (k r hr H locs ls hW hS hl)
theorem g_irem (hC : Cx x f own cc nL R) {a b : Int32} (hd : decode cc pc = .ok (.irem, 1)) (k : GG x f nL Qf (pc + 1) lv (.int (a - a / b * b) :: st) M o) : GG x f nL Qf pc lv (.int b :: .int a :: st) M (nz b o) :=
  fun r hr H locs ls hW hS hl => by
    unfold nz at hr
    by_cases hb : b = 0
    · rw [if_pos hb] at hr; cases hr
    · rw [if_neg hb] at hr
      exact lv_irem hC.1 hC.2.1 hd hb (k r hr H locs ls hW hS hl)
theorem g_i2b (hC : Cx x f own cc nL R) {a : Int32} (hd : decode cc pc = .ok (.i2b, 1)) (k : GG x f nL Qf (pc + 1) lv (.int a.toInt8.toInt32 :: st) M o) : GG x f nL Qf pc lv (.int a :: st) M o :=
  fun r hr H locs ls hW hS hl => lv_i2b hC.1 hC.2.1 hd rfl (k r hr H locs ls hW hS hl)
theorem g_i2s (hC : Cx x f own cc nL R) {a : Int32} (hd : decode cc pc = .ok (.i2s, 1)) (k : GG x f nL Qf (pc + 1) lv (.int a.toInt16.toInt32 :: st) M o) : GG x f nL Qf pc lv (.int a :: st) M o :=
  fun r hr H locs ls hW hS hl => lv_i2s hC.1 hC.2.1 hd rfl (k r hr H locs ls hW hS hl)
theorem g_i2c (hC : Cx x f own cc nL R) {a : Int32} (hd : decode cc pc = .ok (.i2c, 1)) (k : GG x f nL Qf (pc + 1) lv (.int (i2c a) :: st) M o) : GG x f nL Qf pc lv (.int a :: st) M o :=
  fun r hr H locs ls hW hS hl => lv_i2c hC.1 hC.2.1 hd rfl (k r hr H locs ls hW hS hl)
theorem g_i2l (hC : Cx x f own cc nL R) {a : Int32} (hd : decode cc pc = .ok (.i2l, 1)) (k : GG x f nL Qf (pc + 1) lv (.long a.toInt64 :: st) M o) : GG x f nL Qf pc lv (.int a :: st) M o :=
  fun r hr H locs ls hW hS hl => lv_i2l hC.1 hC.2.1 hd rfl (k r hr H locs ls hW hS hl)
theorem g_ladd (hC : Cx x f own cc nL R) {a b : Int64} (hd : decode cc pc = .ok (.ladd, 1)) (k : GG x f nL Qf (pc + 1) lv (.long (a + b) :: st) M o) : GG x f nL Qf pc lv (.long b :: .long a :: st) M o :=
  fun r hr H locs ls hW hS hl => lv_ladd hC.1 hC.2.1 hd (k r hr H locs ls hW hS hl)
theorem g_lmul (hC : Cx x f own cc nL R) {a b : Int64} (hd : decode cc pc = .ok (.lmul, 1)) (k : GG x f nL Qf (pc + 1) lv (.long (a * b) :: st) M o) : GG x f nL Qf pc lv (.long b :: .long a :: st) M o :=
  fun r hr H locs ls hW hS hl => lv_lmul hC.1 hC.2.1 hd (k r hr H locs ls hW hS hl)
theorem g_dup (hC : Cx x f own cc nL R) {v : Value} (hd : decode cc pc = .ok (.dup, 1)) (hv : v.category = 1) (k : GG x f nL Qf (pc + 1) lv (v :: v :: st) M o) : GG x f nL Qf pc lv (v :: st) M o :=
  fun r hr H locs ls hW hS hl => lv_dup hC.1 hC.2.1 hd hv (k r hr H locs ls hW hS hl)
-- branches
theorem g_goto (hC : Cx x f own cc nL R) {off : Int} (tgt : Nat) (hd : decode cc pc = .ok (.goto off, 3)) (ht : (pc : Int) + off = (tgt : Int)) (k : GG x f nL Qf tgt lv st M o) : GG x f nL Qf pc lv st M o :=
  fun r hr H locs ls hW hS hl => lv_goto hC.1 hC.2.1 hd ht (k r hr H locs ls hW hS hl)
end Rows
end
section
section Branches
variable {β : Type} {x : Wx} {f : Fx} {own : String} {cc : ByteArray} {nL : Nat} {R : Room} {Qf : β → State → Prop} {pc : Nat} {lv lv' : List (Nat × Value)} {st : List Value} {M : Mem} {o o1 o2 : Option β}
theorem g_icmp_eq (hC : Cx x f own cc nL R) {a b : Int32} {off : Int} (tgt : Nat) {inst : Decidable (a = b)} (hd : decode cc pc = .ok (.if_icmp .eq off, 3)) (ht : (pc : Int) + off = (tgt : Int)) (k1 : GG x f nL Qf tgt lv st M o1) (k2 : GG x f nL Qf (pc + 3) lv st M o2) : GG x f nL Qf pc lv (.int b :: .int a :: st) M (@ite _ (a = b) inst o1 o2) :=
  fun r hr H locs ls hW hS hl => lv_icmp_eq hC.1 hC.2.1 hd ht (fun h => k1 r (by rw [if_pos h] at hr; exact hr) H locs ls hW hS hl) (fun h => k2 r (by rw [if_neg h] at hr; exact hr) H locs ls hW hS hl)
theorem g_if_eq (hC : Cx x f own cc nL R) {a : Int32} {off : Int} (tgt : Nat) {inst : Decidable (a = 0)} (hd : decode cc pc = .ok (.ifCond .eq off, 3)) (ht : (pc : Int) + off = (tgt : Int)) (k1 : GG x f nL Qf tgt lv st M o1) (k2 : GG x f nL Qf (pc + 3) lv st M o2) : GG x f nL Qf pc lv (.int a :: st) M (@ite _ (a = 0) inst o1 o2) :=
  fun r hr H locs ls hW hS hl => lv_if_eq hC.1 hC.2.1 hd ht (fun h => k1 r (by rw [if_pos h] at hr; exact hr) H locs ls hW hS hl) (fun h => k2 r (by rw [if_neg h] at hr; exact hr) H locs ls hW hS hl)
theorem g_icmp_ne (hC : Cx x f own cc nL R) {a b : Int32} {off : Int} (tgt : Nat) {inst : Decidable (¬ a = b)} (hd : decode cc pc = .ok (.if_icmp .ne off, 3)) (ht : (pc : Int) + off = (tgt : Int)) (k1 : GG x f nL Qf tgt lv st M o1) (k2 : GG x f nL Qf (pc + 3) lv st M o2) : GG x f nL Qf pc lv (.int b :: .int a :: st) M (@ite _ (¬ a = b) inst o1 o2) :=
  fun r hr H locs ls hW hS hl => lv_icmp_ne hC.1 hC.2.1 hd ht (fun h => k1 r (by rw [if_pos h] at hr; exact hr) H locs ls hW hS hl) (fun h => k2 r (by rw [if_neg (fun z => z h)] at hr; exact hr) H locs ls hW hS hl)
theorem g_if_ne (hC : Cx x f own cc nL R) {a : Int32} {off : Int} (tgt : Nat) {inst : Decidable (¬ a = 0)} (hd : decode cc pc = .ok (.ifCond .ne off, 3)) (ht : (pc : Int) + off = (tgt : Int)) (k1 : GG x f nL Qf tgt lv st M o1) (k2 : GG x f nL Qf (pc + 3) lv st M o2) : GG x f nL Qf pc lv (.int a :: st) M (@ite _ (¬ a = 0) inst o1 o2) :=
  fun r hr H locs ls hW hS hl => lv_if_ne hC.1 hC.2.1 hd ht (fun h => k1 r (by rw [if_pos h] at hr; exact hr) H locs ls hW hS hl) (fun h => k2 r (by rw [if_neg (fun z => z h)] at hr; exact hr) H locs ls hW hS hl)
theorem g_icmp_lt (hC : Cx x f own cc nL R) {a b : Int32} {off : Int} (tgt : Nat) {inst : Decidable (a < b)} (hd : decode cc pc = .ok (.if_icmp .lt off, 3)) (ht : (pc : Int) + off = (tgt : Int)) (k1 : GG x f nL Qf tgt lv st M o1) (k2 : GG x f nL Qf (pc + 3) lv st M o2) : GG x f nL Qf pc lv (.int b :: .int a :: st) M (@ite _ (a < b) inst o1 o2) :=
  fun r hr H locs ls hW hS hl => lv_icmp_lt hC.1 hC.2.1 hd ht (fun h => k1 r (by rw [if_pos h] at hr; exact hr) H locs ls hW hS hl) (fun h => k2 r (by rw [if_neg h] at hr; exact hr) H locs ls hW hS hl)
theorem g_if_lt (hC : Cx x f own cc nL R) {a : Int32} {off : Int} (tgt : Nat) {inst : Decidable (a < 0)} (hd : decode cc pc = .ok (.ifCond .lt off, 3)) (ht : (pc : Int) + off = (tgt : Int)) (k1 : GG x f nL Qf tgt lv st M o1) (k2 : GG x f nL Qf (pc + 3) lv st M o2) : GG x f nL Qf pc lv (.int a :: st) M (@ite _ (a < 0) inst o1 o2) :=
  fun r hr H locs ls hW hS hl => lv_if_lt hC.1 hC.2.1 hd ht (fun h => k1 r (by rw [if_pos h] at hr; exact hr) H locs ls hW hS hl) (fun h => k2 r (by rw [if_neg h] at hr; exact hr) H locs ls hW hS hl)
theorem g_icmp_ge (hC : Cx x f own cc nL R) {a b : Int32} {off : Int} (tgt : Nat) {inst : Decidable (b ≤ a)} (hd : decode cc pc = .ok (.if_icmp .ge off, 3)) (ht : (pc : Int) + off = (tgt : Int)) (k1 : GG x f nL Qf tgt lv st M o1) (k2 : GG x f nL Qf (pc + 3) lv st M o2) : GG x f nL Qf pc lv (.int b :: .int a :: st) M (@ite _ (b ≤ a) inst o1 o2) :=
  fun r hr H locs ls hW hS hl => lv_icmp_ge hC.1 hC.2.1 hd ht (fun h => k1 r (by rw [if_pos h] at hr; exact hr) H locs ls hW hS hl) (fun h => k2 r (by rw [if_neg h] at hr; exact hr) H locs ls hW hS hl)
theorem g_if_ge (hC : Cx x f own cc nL R) {a : Int32} {off : Int} (tgt : Nat) {inst : Decidable (0 ≤ a)} (hd : decode cc pc = .ok (.ifCond .ge off, 3)) (ht : (pc : Int) + off = (tgt : Int)) (k1 : GG x f nL Qf tgt lv st M o1) (k2 : GG x f nL Qf (pc + 3) lv st M o2) : GG x f nL Qf pc lv (.int a :: st) M (@ite _ (0 ≤ a) inst o1 o2) :=
  fun r hr H locs ls hW hS hl => lv_if_ge hC.1 hC.2.1 hd ht (fun h => k1 r (by rw [if_pos h] at hr; exact hr) H locs ls hW hS hl) (fun h => k2 r (by rw [if_neg h] at hr; exact hr) H locs ls hW hS hl)
theorem g_icmp_gt (hC : Cx x f own cc nL R) {a b : Int32} {off : Int} (tgt : Nat) {inst : Decidable (b < a)} (hd : decode cc pc = .ok (.if_icmp .gt off, 3)) (ht : (pc : Int) + off = (tgt : Int)) (k1 : GG x f nL Qf tgt lv st M o1) (k2 : GG x f nL Qf (pc + 3) lv st M o2) : GG x f nL Qf pc lv (.int b :: .int a :: st) M (@ite _ (b < a) inst o1 o2) :=
  fun r hr H locs ls hW hS hl => lv_icmp_gt hC.1 hC.2.1 hd ht (fun h => k1 r (by rw [if_pos h] at hr; exact hr) H locs ls hW hS hl) (fun h => k2 r (by rw [if_neg h] at hr; exact hr) H locs ls hW hS hl)
theorem g_if_gt (hC : Cx x f own cc nL R) {a : Int32} {off : Int} (tgt : Nat) {inst : Decidable (0 < a)} (hd : decode cc pc = .ok (.ifCond .gt off, 3)) (ht : (pc : Int) + off = (tgt : Int)) (k1 : GG x f nL Qf tgt lv st M o1) (k2 : GG x f nL Qf (pc + 3) lv st M o2) : GG x f nL Qf pc lv (.int a :: st) M (@ite _ (0 < a) inst o1 o2) :=
  fun r hr H locs ls hW hS hl => lv_if_gt hC.1 hC.2.1 hd ht (fun h => k1 r (by rw [if_pos h] at hr; exact hr) H locs ls hW hS hl) (fun h => k2 r (by rw [if_neg h] at hr; exact hr) H locs ls hW hS hl)
theorem g_icmp_le (hC : Cx x f own cc nL R) {a b : Int32} {off : Int} (tgt : Nat) {inst : Decidable (a ≤ b)} (hd : decode cc pc = .ok (.if_icmp .le off, 3)) (ht : (pc : Int) + off = (tgt : Int)) (k1 : GG x f nL Qf tgt lv st M o1) (k2 : GG x f nL Qf (pc + 3) lv st M o2) : GG x f nL Qf pc lv (.int b :: .int a :: st) M (@ite _ (a ≤ b) inst o1 o2) :=
  fun r hr H locs ls hW hS hl => lv_icmp_le hC.1 hC.2.1 hd ht (fun h => k1 r (by rw [if_pos h] at hr; exact hr) H locs ls hW hS hl) (fun h => k2 r (by rw [if_neg h] at hr; exact hr) H locs ls hW hS hl)
theorem g_if_le (hC : Cx x f own cc nL R) {a : Int32} {off : Int} (tgt : Nat) {inst : Decidable (a ≤ 0)} (hd : decode cc pc = .ok (.ifCond .le off, 3)) (ht : (pc : Int) + off = (tgt : Int)) (k1 : GG x f nL Qf tgt lv st M o1) (k2 : GG x f nL Qf (pc + 3) lv st M o2) : GG x f nL Qf pc lv (.int a :: st) M (@ite _ (a ≤ 0) inst o1 o2) :=
  fun r hr H locs ls hW hS hl => lv_if_le hC.1 hC.2.1 hd ht (fun h => k1 r (by rw [if_pos h] at hr; exact hr) H locs ls hW hS hl) (fun h => k2 r (by rw [if_neg h] at hr; exact hr) H locs ls hW hS hl)
theorem g_ifB_eq (hC : Cx x f own cc nL R) {a : Bool} {off : Int} (tgt : Nat) (hd : decode cc pc = .ok (.ifCond .eq off, 3)) (ht : (pc : Int) + off = (tgt : Int)) (k1 : GG x f nL Qf (pc + 3) lv st M o1) (k2 : GG x f nL Qf tgt lv st M o2) : GG x f nL Qf pc lv (.int (bi a) :: st) M (if a = true then o1 else o2) :=
  fun r hr H locs ls hW hS hl => lv_if_eq hC.1 hC.2.1 hd ht (fun h => k2 r (by cases a with | true => exact absurd h (by decide) | false => exact hr) H locs ls hW hS hl) (fun h => k1 r (by cases a with | true => exact hr | false => exact absurd rfl h) H locs ls hW hS hl)
theorem g_ifB_ne (hC : Cx x f own cc nL R) {a : Bool} {off : Int} (tgt : Nat) (hd : decode cc pc = .ok (.ifCond .ne off, 3)) (ht : (pc : Int) + off = (tgt : Int)) (k1 : GG x f nL Qf tgt lv st M o1) (k2 : GG x f nL Qf (pc + 3) lv st M o2) : GG x f nL Qf pc lv (.int (bi a) :: st) M (if a = true then o1 else o2) :=
  fun r hr H locs ls hW hS hl => lv_if_ne hC.1 hC.2.1 hd ht (fun h => k1 r (by cases a with | true => exact hr | false => exact absurd rfl h) H locs ls hW hS hl) (fun h => k2 r (by cases a with | true => exact absurd h (by decide) | false => exact hr) H locs ls hW hS hl)
/-- a long compare and the branch on it: if x > y -/
theorem g_lcmp_gt (hC : Cx x f own cc nL R) {a b : Int64} {off : Int} (tgt : Nat) (hd : decode cc pc = .ok (.lcmp, 1)) (hd2 : decode cc (pc + 1) = .ok (.ifCond .gt off, 3)) (ht : ((pc + 1 : Nat) : Int) + off = (tgt : Int)) (k1 : GG x f nL Qf tgt lv st M o1) (k2 : GG x f nL Qf (pc + 1 + 3) lv st M o2) : GG x f nL Qf pc lv (.long b :: .long a :: st) M (if b < a then o1 else o2) := by
  intro r hr H locs ls hW hS hl
  refine W.lcmp hC.1 hC.2.1 hd ?_
  have e : (0 < lg_cmp a b) ↔ b < a := by
    unfold lg_cmp
    by_cases q1 : a > b
    · rw [if_pos q1]
      exact ⟨fun _ => q1, fun _ => by decide⟩
    · rw [if_neg q1]
      refine ⟨fun h => ?_, fun h => absurd h q1⟩
      by_cases q2 : a = b
      · rw [if_pos q2] at h; exact absurd h (by decide)
      · rw [if_neg q2] at h; exact absurd h (by decide)
  first
    | exact lv_if_gt hC.1 hC.2.1 hd2 ht (fun h => k1 r (by rw [if_pos (e.mp h)] at hr; exact hr) H locs ls hW hS hl) (fun h => k2 r (by rw [if_neg (fun z => h (e.mpr z))] at hr; exact hr) H locs ls hW hS hl)
end Branches
end
section
/-! rows that read and write cells -/
/-- what is known of a class, by its number -/
def CF (c : Nat) (C : String) (T : u_T) (N : Nat) (ty : Nat → FieldType) : Prop :=
  c < 9 ∧ vwCl[c]? = some (C, T, N) ∧ (∀ w ∈ u_ws C T N, w ∈ lw_g) ∧ N = nfL.getD c 0 ∧ (∀ k, k < N → parseFieldDescriptor (T k).2.2.1 = some (ty k)) ∧ (∀ a, a < N → ∀ b, b < N → a ≠ b → (T a).2.1 ≠ (T b).2.1)
section Heap
variable {β : Type} {x : Wx} {f : Fx} {own : String} {cc : ByteArray} {nL : Nat} {R : Room} {Qf : β → State → Prop} {pc : Nat} {lv lv' : List (Nat × Value)} {st : List Value} {M : Mem} {o o1 o2 : Option β}
theorem Cx.D (hC : Cx x f own cc nL R) : va_D (fA f) (wl x M) := wl_D hC.2.2.2.2.2.2.1 hC.2.2.2.2.2.2.2.1
theorem g_getI (hC : Cx x f own cc nL R) {c : Nat} {C : String} {T : u_T} {N : Nat} {ty : Nat → FieldType} (hF : CF c C T N ty) {k i : Nat} (hk : kd k = c) (j : Nat) (hj : j < N) (hr : rfO c k j = none) (hm : Cond.fieldLink own i (T j).1 (T j).2.1 (T j).2.2.1 ∈ lw_g) (hd : decode cc pc = .ok (.getfield i, 3)) (kk : GG x f nL Qf (pc + 3) lv (.int (M k j) :: st) M o) : GG x f nL Qf pc lv (.ref (x.1 k) :: st) M o := by
  intro r h H locs ls hW hS hl
  obtain ⟨f1, f2, f3, f4, f5, f6⟩ := hF
  have he : (wl x M)[k]? = some (x.1 k, .inr (c, fsL x M c k)) := by rw [wl_get (kd_lt hk (by omega)), cE_obj hk f1]
  refine va_get (C := C) (T := T) (N := N) hC.1 hC.2.1 hC.2.2.2.2.1 f3 hC.2.2.2.1 hC.2.2.2.2.2.1 hW k he f2 j hj (hC.2.2.2.2.1 _ hm) (fun _ h => h) (v := .int (M k j)) ?_ hd (kk r h H locs ls hW hS hl)
  rw [fsL_get (by omega)]
  unfold fv
  rw [hr]
theorem g_getR (hC : Cx x f own cc nL R) {c : Nat} {C : String} {T : u_T} {N : Nat} {ty : Nat → FieldType} (hF : CF c C T N ty) {k i t : Nat} (hk : kd k = c) (j : Nat) (hj : j < N) (hr : rfO c k j = some t) (hm : Cond.fieldLink own i (T j).1 (T j).2.1 (T j).2.2.1 ∈ lw_g) (hd : decode cc pc = .ok (.getfield i, 3)) (kk : GG x f nL Qf (pc + 3) lv (.ref (x.1 t) :: st) M o) : GG x f nL Qf pc lv (.ref (x.1 k) :: st) M o := by
  intro r h H locs ls hW hS hl
  obtain ⟨f1, f2, f3, f4, f5, f6⟩ := hF
  have he : (wl x M)[k]? = some (x.1 k, .inr (c, fsL x M c k)) := by rw [wl_get (kd_lt hk (by omega)), cE_obj hk f1]
  refine va_get (C := C) (T := T) (N := N) hC.1 hC.2.1 hC.2.2.2.2.1 f3 hC.2.2.2.1 hC.2.2.2.2.2.1 hW k he f2 j hj (hC.2.2.2.2.1 _ hm) (fun _ h => h) (v := .ref (x.1 t)) ?_ hd (kk r h H locs ls hW hS hl)
  rw [fsL_get (by omega)]
  unfold fv
  rw [hr]
theorem g_put (hC : Cx x f own cc nL R) {c : Nat} {C : String} {T : u_T} {N : Nat} {ty : Nat → FieldType} (hF : CF c C T N ty) {k i : Nat} (hk : kd k = c) (j : Nat) {v : Int32} (hj : j < N) (hr : rfO c k j = none) (hm : Cond.fieldLink own i (T j).1 (T j).2.1 (T j).2.2.1 ∈ lw_g) (hfin : (T j).2.2.2 = false) (hn : narrow (ty j) (.int v) = .int v) (hfit : fits (ty j) (.int v) = true) (hd : decode cc pc = .ok (.putfield i, 3)) {κ : Mem → Option β} (kk : ∀ M1, GG x f nL Qf (pc + 3) lv st M1 (κ M1)) : GG x f nL Qf pc lv (.int v :: .ref (x.1 k) :: st) M (nm (st2 M k j v) κ) := by
  intro r h H locs ls hW hS hl
  obtain ⟨f1, f2, f3, f4, f5, f6⟩ := hF
  have he : (wl x M)[k]? = some (x.1 k, .inr (c, fsL x M c k)) := by rw [wl_get (kd_lt hk (by omega)), cE_obj hk f1]
  refine va_put (C := C) (T := T) (N := N) hC.1 hC.2.1 hC.2.2.2.2.1 f3 ty f5 f6 hC.2.2.2.1 hC.2.2.2.2.2.1 hW hC.D hS k he f2 j hj (hC.2.2.2.2.1 _ hm) (fun _ h => h) hfin (f5 j hj) hn hfit (by simp [fsL]; rw [List.getD_eq_getElem?_getD] at f4; omega) hd (fun H1 locs1 hP hD hS1 => ?_)
  rw [fsL_set hr, wl_set (M' := st2 M k j v) (cE_obj hk f1) st2_ne] at hP
  exact kk (st2 M k j v) r h H1 locs1 ls hP hS1 hl
theorem g_iald (hC : Cx x f own cc nL R) {k n : Nat} (hk : kd k = 9) (hn : ln k = n) {i : Int32} (hd : decode cc pc = .ok (.iaload, 1)) (kk : GG x f nL Qf (pc + 1) lv (.int (M k (ix i)) :: st) M o) : GG x f nL Qf pc lv (.int i :: .ref (x.1 k) :: st) M (ib i n o) := by
  intro r h H locs ls hW hS hl
  unfold ib at h
  by_cases hi : inb i n = true
  · rw [if_pos hi] at h
    have he : (wl x M)[k]? = some (x.1 k, .inl (x.2.2 9, ln k, .inl (M k))) := by rw [wl_get (kd_lt hk (by omega)), cE_arr hk (by omega) (by omega)]
    exact va_iald hC.1 hC.2.1 hC.2.2.2.2.2.1 hW k 0 he rfl (by rw [hn]; exact inb_iff.mp hi) hd (kk r h H locs ls hW hS hl)
  · rw [if_neg hi] at h; cases h
theorem g_bald (hC : Cx x f own cc nL R) {k n : Nat} (hk : kd k = 10) (hn : ln k = n) {i : Int32} (hd : decode cc pc = .ok (.baload, 1)) (kk : GG x f nL Qf (pc + 1) lv (.int (M k (ix i)) :: st) M o) : GG x f nL Qf pc lv (.int i :: .ref (x.1 k) :: st) M (ib i n o) := by
  intro r h H locs ls hW hS hl
  unfold ib at h
  by_cases hi : inb i n = true
  · rw [if_pos hi] at h
    have he : (wl x M)[k]? = some (x.1 k, .inl (x.2.2 10, ln k, .inl (M k))) := by rw [wl_get (kd_lt hk (by omega)), cE_arr hk (by omega) (by omega)]
    exact va_bald hC.1 hC.2.1 hC.2.2.2.2.2.1 hW k 1 he rfl (by rw [hn]; exact inb_iff.mp hi) hd (kk r h H locs ls hW hS hl)
  · rw [if_neg hi] at h; cases h
theorem g_zald (hC : Cx x f own cc nL R) {k n : Nat} (hk : kd k = 11) (hn : ln k = n) {i : Int32} (hd : decode cc pc = .ok (.baload, 1)) (kk : GG x f nL Qf (pc + 1) lv (.int (M k (ix i)) :: st) M o) : GG x f nL Qf pc lv (.int i :: .ref (x.1 k) :: st) M (ib i n o) := by
  intro r h H locs ls hW hS hl
  unfold ib at h
  by_cases hi : inb i n = true
  · rw [if_pos hi] at h
    have he : (wl x M)[k]? = some (x.1 k, .inl (x.2.2 11, ln k, .inl (M k))) := by rw [wl_get (kd_lt hk (by omega)), cE_arr hk (by omega) (by omega)]
    exact va_zald hC.1 hC.2.1 hC.2.2.2.2.2.1 hW k 2 he rfl (by rw [hn]; exact inb_iff.mp hi) hd (kk r h H locs ls hW hS hl)
  · rw [if_neg hi] at h; cases h
theorem g_roald (hC : Cx x f own cc nL R) {k n : Nat} (hk : 60 ≤ k ∧ k < 64) (hn : roL k = n) {i : Int32} (hd : decode cc pc = .ok (.iaload, 1)) (kk : GG x f nL Qf (pc + 1) lv (.int (roI k (ix i)) :: st) M o) : GG x f nL Qf pc lv (.int i :: .ref (x.1 k) :: st) M (ib i n o) := by
  intro r h H locs ls hW hS hl
  unfold ib at h
  by_cases hi : inb i n = true
  · rw [if_pos hi] at h
    exact va_ti hC.1 hC.2.1 (hC.2.2.2.2.2.2.2.2.1.1.2 k hk.1 hk.2) hS (by rw [hn]; exact inb_iff.mp hi) rfl hd (kk r h H locs ls hW hS hl)
  · rw [if_neg hi] at h; cases h
theorem g_alen (hC : Cx x f own cc nL R) {k : Nat} {n : Int32} (c t : Nat) (hk : kd k = c) (hc : ¬ c < 9 ∧ c < 12 ∧ t + 9 = c) (hn : Int32.ofNat (ln k) = n) (hd : decode cc pc = .ok (.arraylength, 1)) (kk : GG x f nL Qf (pc + 1) lv (.int n :: st) M o) : GG x f nL Qf pc lv (.ref (x.1 k) :: st) M o := by
  intro r h H locs ls hW hS hl
  obtain ⟨h1, h2, h3⟩ := hc
  have he : (wl x M)[k]? = some (x.1 k, .inl (x.2.2 c, ln k, .inl (M k))) := by rw [wl_get (kd_lt hk (by omega)), cE_arr hk h1 h2]
  rcases (show t = 0 ∨ t = 1 ∨ t = 2 by omega) with e | e | e <;> subst e <;> subst h3
  · exact va_alen hC.1 hC.2.1 hC.2.2.2.2.2.1 hW k 0 he rfl hn hd (kk r h H locs ls hW hS hl)
  · exact va_alen hC.1 hC.2.1 hC.2.2.2.2.2.1 hW k 1 he rfl hn hd (kk r h H locs ls hW hS hl)
  · exact va_alen hC.1 hC.2.1 hC.2.2.2.2.2.1 hW k 2 he rfl hn hd (kk r h H locs ls hW hS hl)
theorem g_rolen (hC : Cx x f own cc nL R) {k : Nat} {n : Int32} (hk : 60 ≤ k ∧ k < 64) (hn : Int32.ofNat (roL k) = n) (hd : decode cc pc = .ok (.arraylength, 1)) (kk : GG x f nL Qf (pc + 1) lv (.int n :: st) M o) : GG x f nL Qf pc lv (.ref (x.1 k) :: st) M o :=
  fun r h H locs ls hW hS hl => va_tlen hC.1 hC.2.1 (hC.2.2.2.2.2.2.2.2.1.1.2 k hk.1 hk.2) hS hn hd (kk r h H locs ls hW hS hl)
theorem g_aald (hC : Cx x f own cc nL R) {k n : Nat} (c : Nat) (hk : kd k = c) (hc : 12 ≤ c ∧ c < 15) (hn : ln k = n) {i : Int32} (hd : decode cc pc = .ok (.aaload, 1)) (kk : inb i n = true → GG x f nL Qf (pc + 1) lv (.ref (x.1 (k + 1 + ix i)) :: st) M o) : GG x f nL Qf pc lv (.int i :: .ref (x.1 k) :: st) M (ib i n o) := by
  intro r h H locs ls hW hS hl
  unfold ib at h
  by_cases hi : inb i n = true
  · rw [if_pos hi] at h
    have he : (wl x M)[k]? = some (x.1 k, .inl (x.2.2 c, ln k, .inr (.inr (.inr (.inr (fun i => some (x.1 (k + 1 + i)))))))) := by rw [wl_get (kd_lt hk (by omega)), cE_ref hk (by omega) (by omega)]
    rcases (show c = 12 ∨ c = 13 ∨ c = 14 by omega) with e | e | e <;> subst e
    · exact va_aldq hC.1 hC.2.1 hC.2.2.2.2.2.1 hW k 3 he rfl (by rw [hn]; exact inb_iff.mp hi) hd (kk hi r h H locs ls hW hS hl)
    · exact va_aldq hC.1 hC.2.1 hC.2.2.2.2.2.1 hW k 4 he rfl (by rw [hn]; exact inb_iff.mp hi) hd (kk hi r h H locs ls hW hS hl)
    · exact va_aldq hC.1 hC.2.1 hC.2.2.2.2.2.1 hW k 5 he rfl (by rw [hn]; exact inb_iff.mp hi) hd (kk hi r h H locs ls hW hS hl)
  · rw [if_neg hi] at h; cases h
theorem g_iast (hC : Cx x f own cc nL R) {k n : Nat} (hk : kd k = 9) (hn : ln k = n) {i v : Int32} (hd : decode cc pc = .ok (.iastore, 1)) {κ : Mem → Option β} (kk : ∀ M1, GG x f nL Qf (pc + 1) lv st M1 (κ M1)) : GG x f nL Qf pc lv (.int v :: .int i :: .ref (x.1 k) :: st) M (ib i n (nm (st2 M k (ix i) v) κ)) := by
  intro r h H locs ls hW hS hl
  unfold ib at h
  by_cases hi : inb i n = true
  · rw [if_pos hi] at h
    have he : (wl x M)[k]? = some (x.1 k, .inl (x.2.2 9, ln k, .inl (M k))) := by rw [wl_get (kd_lt hk (by omega)), cE_arr hk (by omega) (by omega)]
    refine va_iast hC.1 hC.2.1 hC.2.2.2.2.2.1 hW hC.D hS k 0 he rfl (by rw [hn]; exact inb_iff.mp hi) hd (fun H1 locs1 hP hD hS1 => ?_)
    rw [wl_set (M' := st2 M k (ix i) v) (by rw [cE_arr hk (by omega) (by omega)]; rw [st2, stC_same]) st2_ne] at hP
    exact kk _ r h H1 locs1 ls hP hS1 hl
  · rw [if_neg hi] at h; cases h
theorem g_bast (hC : Cx x f own cc nL R) {k n : Nat} (hk : kd k = 10) (hn : ln k = n) {i v : Int32} (hd : decode cc pc = .ok (.bastore, 1)) {κ : Mem → Option β} (kk : ∀ M1, GG x f nL Qf (pc + 1) lv st M1 (κ M1)) : GG x f nL Qf pc lv (.int v :: .int i :: .ref (x.1 k) :: st) M (ib i n (nm (st2 M k (ix i) v.toInt8.toInt32) κ)) := by
  intro r h H locs ls hW hS hl
  unfold ib at h
  by_cases hi : inb i n = true
  · rw [if_pos hi] at h
    have he : (wl x M)[k]? = some (x.1 k, .inl (x.2.2 10, ln k, .inl (M k))) := by rw [wl_get (kd_lt hk (by omega)), cE_arr hk (by omega) (by omega)]
    refine va_bast hC.1 hC.2.1 hC.2.2.2.2.2.1 hW hC.D hS k 1 he rfl (by rw [hn]; exact inb_iff.mp hi) hd (fun H1 locs1 hP hD hS1 => ?_)
    rw [vp_nar_byte, wl_set (M' := st2 M k (ix i) v.toInt8.toInt32) (by rw [cE_arr hk (by omega) (by omega)]; rw [st2, stC_same]) st2_ne] at hP
    exact kk _ r h H1 locs1 ls hP hS1 hl
  · rw [if_neg hi] at h; cases h
theorem g_zast (hC : Cx x f own cc nL R) {k n : Nat} (hk : kd k = 11) (hn : ln k = n) {i v : Int32} (hv : vp_nar .boolean v = v) (hd : decode cc pc = .ok (.bastore, 1)) {κ : Mem → Option β} (kk : ∀ M1, GG x f nL Qf (pc + 1) lv st M1 (κ M1)) : GG x f nL Qf pc lv (.int v :: .int i :: .ref (x.1 k) :: st) M (ib i n (nm (st2 M k (ix i) v) κ)) := by
  intro r h H locs ls hW hS hl
  unfold ib at h
  by_cases hi : inb i n = true
  · rw [if_pos hi] at h
    have he : (wl x M)[k]? = some (x.1 k, .inl (x.2.2 11, ln k, .inl (M k))) := by rw [wl_get (kd_lt hk (by omega)), cE_arr hk (by omega) (by omega)]
    refine va_zast hC.1 hC.2.1 hC.2.2.2.2.2.1 hW hC.D hS k 2 he rfl (by rw [hn]; exact inb_iff.mp hi) hd (fun H1 locs1 hP hD hS1 => ?_)
    rw [hv, wl_set (M' := st2 M k (ix i) v) (by rw [cE_arr hk (by omega) (by omega)]; rw [st2, stC_same]) st2_ne] at hP
    exact kk _ r h H1 locs1 ls hP hS1 hl
  · rw [if_neg hi] at h; cases h
end Heap
end
section
/-! contracts: what a method does to the memory, as a function; calls and returns -/
def Qx (x : Wx) (v : Option Value) (M : Mem) : Array Value → State → Outcome → State → Prop := fun _ st oc t => oc = .returned v ∧ Wd x M t.heap ∧ va_F (Ax x) st t
def Px (x : Wx) (av : List Value) (M : Mem) : Array Value → State → Prop := va_Pc av (fun U => Wd x M U.heap ∧ va_K x.2.1 vwCl (tysX x) U ∧ RoX x (Ax x) U U.heap ∧ Inj x)
def Qm {β : Type} (x : Wx) (f : Fx) (φ : β → Option Value × Mem) : β → State → Prop := fun r => MQ (fB f) (Qx x (φ r).1 (φ r).2) (fV f) (fS f) (fK f) (fN f) (fA f)
/-- the contract of a method: given the memory M and the arguments av, if o says r, it comes to φ r -/
def Ct {β : Type} (x : Wx) (y : MethodName) (cc : ByteArray) (nL : Nat) (rt : Option FieldType) (rm : Room) (φ : β → Option Value × Mem) (av : List Value) (M : Mem) (o : Option β) : Prop :=
  ∀ r, o = some r → ∀ l : Launch, Met l y (Cond.code y cc nL rt :: lw_g) rm (Px x av M) (Qx x (φ r).1 (φ r).2) 0 0 (Ax x)
def Mx (x : Wx) (f : Fx) (rt : Option FieldType) : Prop := fA f = Ax x ∧ (fT f).sig.returnType = rt
theorem FrameBlind.Px {x : Wx} {av : List Value} {M : Mem} : FrameBlind (Px x av M) := by
  intro a U g mk h
  obtain ⟨h1, h2, h3, h4, h5⟩ := h
  exact ⟨h1, h2, va_K.moved (u := U) (U := U.calling g mk a) (Vm.Alike.refl U.vm) h3, RoX.same h4 rfl, h5⟩
theorem ct_of {β : Type} {x : Wx} {y : MethodName} {cc : ByteArray} {nL : Nat} {rt : Option FieldType} {rm : Room} {φ : β → Option Value × Mem} {av : List Value} {M : Mem} {o : Option β} (hy : plainName y.cls = true) (hlen : (lg_sl av).length ≤ nL)
    (body : ∀ f, Cx x f y.cls cc nL rm → Mx x f rt → GG x f nL (Qm x f φ) 0 (lv_args 0 av) [] M o) : Ct x y cc nL rt rm φ av M o := by
  intro r hr l
  refine Met.ofW (cc := cc) (maxL := nL) (ret := rt) hy rfl ?_
  intro p e s m args below meth c s₁ B hml hv
  obtain ⟨rfl, hW, hK, hRo, hI⟩ := hv
  have hts := atoms_spec (ws := Cond.code y cc nL rt :: lw_g) B.pre
  have hl := lv_entry av (n := nL) hlen
  have hb := body (p, l, e, rm, s, m, av.toArray, below, meth, c, Ax x, 0, 0) ⟨B.exec, B.bytes, hml, findClass_of_methodNamed B.named, fun w hw => hts w (List.mem_cons_of_mem _ hw), hK, hI, fun k hk => ⟨k, hk, rfl⟩, hRo, rfl, B.notSynchronized, Nat.zero_le _, Nat.zero_le _⟩ ⟨rfl, B.returns⟩ r hr s.heap [] _ hW va_S.rf hl
  rw [lg_entry_eq]
  exact hb
/-- what is known of a method -/
def MA (y : MethodName) (cc : ByteArray) (nL : Nat) (rt : Option FieldType) (n : Nat) : Prop :=
  Cond.code y cc nL rt ∈ lw_g ∧ Cond.initialized y.cls ∈ lw_g ∧ (y.cls ≠ "java/lang/invoke/MethodHandle" ∧ y.cls ≠ "java/lang/invoke/VarHandle" ∧ (parseMethodDescriptor y.desc).map (fun d => d.parameters.length) = some n)
def MS (y : MethodName) (cc : ByteArray) (nL : Nat) (rt : Option FieldType) (n : Nat) : Prop := MA y cc nL rt n ∧ Cond.static y ∈ lw_g
def MV (y : MethodName) (cc : ByteArray) (nL : Nat) (rt : Option FieldType) (n : Nat) : Prop := MA y cc nL rt n ∧ Cond.instanceMethod y ∈ lw_g ∧ Cond.selects y.cls y y ∈ lw_g
section Calls
variable {β γ : Type} {x : Wx} {f : Fx} {own : String} {cc cc' : ByteArray} {nL nL' n idx : Nat} {R rm : Room} {Qf : β → State → Prop} {pc : Nat} {lv lv' : List (Nat × Value)} {st st0 av : List Value} {M : Mem} {o o1 o2 : Option β} {y : MethodName} {rt : Option FieldType} {φ : γ → Option Value × Mem} {oc : Option γ} {κ : γ → Option β}
theorem g_ran (hC : Cx x f own cc nL R) {r : β} {q : γ} {H : Heap} {locs : List Loc} {ls : Array Slot} {a : Array Value} (hS : va_S (fA f) (fS f).heap H locs) (hl : lv_has ls nL lv) (hr : κ q = some r)
    (run : va_Run (fP f) (fL f) (fE f) (fR f) (fS f) (fM f) (fV f) (fB f) (fT f) (fC f) H locs (fK f) (fN f) 0 0 (F0 (fM f) pc ls st0) st (Qx x (φ q).1 (φ q).2 a) (Ax x))
    (kk : ∀ q, GG x f nL Qf (pc + 3) lv ((φ q).1.toList ++ st) (φ q).2 (κ q)) : GW f H locs (Qf r) (F0 (fM f) pc ls st0) := by
  intro T hT X
  have hA : ∀ q, Ax x q → fA f q := fun q hq => by obtain ⟨k, hk, e⟩ := hq; rw [e]; exact hC.2.2.2.2.2.2.2.1 k hk
  obtain ⟨v, st₀, t, T', L, h0, X', hL, e1, e2, ⟨hv, hWd, hz, hk⟩, go⟩ := run T hT X
  have hv : v = (φ q).1 := by injection hv
  subst hv
  rw [h0] at hz hk
  obtain ⟨t2, a1, b1⟩ := kk q r hr T'.heap (locs ++ L) ls (by rw [e1]; exact hWd)
    ⟨Nat.le_trans hS.1 (by rw [e1]; exact hz), fun q h1 h2 => by rw [e1, hk q (Nat.lt_of_lt_of_le h1 hS.1) (fun z => h2 (hA q z))]; exact hS.2.1 q h1 h2, fun q hq => by
      rcases List.mem_append.mp hq with h | h
      · exact hS.2.2 q h
      · exact hA _ (hL q h)⟩ hl T' rfl X'
  exact ⟨t2, go t2 a1, b1⟩
theorem g_pre (hC : Cx x f own cc nL R) {H : Heap} {locs : List Loc} (hW : Wd x M H) (hS : va_S (fA f) (fS f).heap H locs) : FrameBlind (Px x av M) ∧ ∀ U : State, U.heap = H → (fS f).WarmedH U.vm → Px x av M av.toArray U := by
  refine ⟨FrameBlind.Px, fun U hU hWm => ⟨rfl, by rw [hU]; exact hW, va_K.moved hWm.alike hC.2.2.2.2.2.1, ?_, hC.2.2.2.2.2.2.1⟩⟩
  rw [hU]
  exact RoX.go hC.2.2.2.2.2.2.2.2.1 hS.2.1 (fun q hq => by obtain ⟨k, hk, e⟩ := hq; rw [e]; exact hC.2.2.2.2.2.2.2.1 k hk) hWm
theorem g_callB (hC : Cx x f own cc nL R) (hm : MA y cc' nL' rt n) (hlk : Cond.methodLink own idx y ∈ lw_g) (hrm : rm.cells = 0 ∧ rm.slots = 0 ∧ rm.frames + 1 ≤ R.frames ∧ 8 + (nL' + 11) + rm.locals ≤ R.locals) : CallB (fR f) (fS f) (fV f) own idx y cc' nL' rt (Cond.code y cc' nL' rt :: lw_g) rm 0 0 n := by
  rw [hC.2.2.2.2.2.2.2.2.2.1]
  exact callB_of n hC.2.2.2.2.1 (lw_g_good hm.1) rfl hrm.1 hrm.2.1 (hC.2.2.2.2.1 _ hm.2.1) (hC.2.2.2.2.1 _ hlk) hm.2.2 hrm.2.2
theorem g_room (hC : Cx x f own cc nL R) : fK f + 0 ≤ (fR f).cells ∧ fN f + 0 ≤ (fR f).slots := by
  rw [hC.2.2.2.2.2.2.2.2.2.1]
  exact hC.2.2.2.2.2.2.2.2.2.2.2
theorem g_calls (hC : Cx x f own cc nL R) (hct : Ct x y cc' nL' rt rm φ av M oc) (hm : MS y cc' nL' rt n) (hlk : Cond.methodLink own idx y ∈ lw_g) (hrm : rm.cells = 0 ∧ rm.slots = 0 ∧ rm.frames + 1 ≤ R.frames ∧ 8 + (nL' + 11) + rm.locals ≤ R.locals)
    (hn : av.length = n) (hst : st0 = av.reverse ++ st) (hcat : (st.map fun v => v.category).sum ≤ 8) (hd : decode cc pc = .ok (.invokestatic idx, 3)) (kk : ∀ q, GG x f nL Qf (pc + 3) lv ((φ q).1.toList ++ st) (φ q).2 (κ q)) : GG x f nL Qf pc lv st0 M (oc.bind κ) := by
  intro r hr H locs ls hW hS hl
  cases ho : oc with
  | none => rw [ho] at hr; cases hr
  | some q =>
    rw [ho] at hr
    exact g_ran (κ := κ) (q := q) (φ := φ) hC hS hl hr (va_runS (As := av) ⟨hC.1, hC.2.1, hC.2.2.1, hC.2.2.2.1, hC.2.2.2.2.1⟩ (hct q ho (fL f)) ⟨g_callB hC hm.1 hlk hrm, hC.2.2.2.2.1 _ hm.2⟩ (g_pre hC hW hS) rfl hn hl.1 hst (lv_room hcat) hd (g_room hC)) kk
theorem g_callv (hC : Cx x f own cc nL R) {c k N : Nat} {T : u_T} {as : List Value} (hc : vwCl[c]? = some (y.cls, T, N)) (hc9 : c < 9) (hk : kd k = c) (hct : Ct x y cc' nL' rt rm φ (.ref (x.1 k) :: as) M oc) (hm : MV y cc' nL' rt n) (hlk : Cond.methodLink own idx y ∈ lw_g) (hrm : rm.cells = 0 ∧ rm.slots = 0 ∧ rm.frames + 1 ≤ R.frames ∧ 8 + (nL' + 11) + rm.locals ≤ R.locals)
    (hn : as.length = n) (hst : st0 = as.reverse ++ .ref (x.1 k) :: st) (hcat : (st.map fun v => v.category).sum ≤ 8) (hd : decode cc pc = .ok (.invokevirtual idx, 3)) (kk : ∀ q, GG x f nL Qf (pc + 3) lv ((φ q).1.toList ++ st) (φ q).2 (κ q)) : GG x f nL Qf pc lv st0 M (oc.bind κ) := by
  intro r hr H locs ls hW hS hl
  cases ho : oc with
  | none => rw [ho] at hr; cases hr
  | some q =>
    rw [ho] at hr
    have he : (wl x M)[k]? = some (x.1 k, .inr (c, fsL x M c k)) := by rw [wl_get (kd_lt hk (by omega)), cE_obj hk hc9]
    have hp := g_pre (av := .ref (x.1 k) :: as) hC hW hS
    exact g_ran (κ := κ) (q := q) (φ := φ) hC hS hl hr (va_runV (C := y.cls) (As := as) ⟨hC.1, hC.2.1, hC.2.2.1, hC.2.2.2.1, hC.2.2.2.2.1⟩ (hct q ho (fL f)) ⟨g_callB hC hm.1 hlk hrm, hC.2.2.2.2.1 _ hm.2.1, hC.2.2.2.2.1 _ hm.2.2⟩ ⟨hp.1, va_recv hC.2.2.2.2.2.1 hW hc he, hp.2⟩ rfl hn hl.1 hst (lv_room hcat) hd (g_room hC)) kk
-- returns
theorem g_iret {ψ : β → Option Value × Mem} (hC : Cx x f own cc nL R) (hm : Mx x f (some .int)) {v : Int32} {r : β} (hφ : ψ r = (some (.int v), M)) (hd : decode cc pc = .ok (.ireturn, 1)) : GG x f nL (Qm x f ψ) pc lv [.int v] M (some r) := by
  intro r' hr H locs ls hW hS hl
  cases hr
  unfold Qm
  exact W.iret (v := v) hC.1 hC.2.1 hm.2 (fun t ht hWm => by
    rw [hφ]
    exact ⟨rfl, by rw [ht]; exact hW, by rw [← hm.1]; exact hS.F ht⟩) hS.2.2 hd hC.2.2.2.2.2.2.2.2.2.2.1
theorem g_zret {ψ : β → Option Value × Mem} (hC : Cx x f own cc nL R) (hm : Mx x f (some .boolean)) {v : Int32} {r : β} (hv : narrow .boolean (.int v) = .int v) (hφ : ψ r = (some (.int v), M)) (hd : decode cc pc = .ok (.ireturn, 1)) : GG x f nL (Qm x f ψ) pc lv [.int v] M (some r) := by
  intro r' hr H locs ls hW hS hl
  cases hr
  unfold Qm
  exact W.zret (v := v) hC.1 hC.2.1 hm.2 hv (fun t ht hWm => by
    rw [hφ]
    exact ⟨rfl, by rw [ht]; exact hW, by rw [← hm.1]; exact hS.F ht⟩) hS.2.2 hd hC.2.2.2.2.2.2.2.2.2.2.1
theorem g_lret {ψ : β → Option Value × Mem} (hC : Cx x f own cc nL R) (hm : Mx x f (some .long)) {v : Int64} {r : β} (hφ : ψ r = (some (.long v), M)) (hd : decode cc pc = .ok (.lreturn, 1)) : GG x f nL (Qm x f ψ) pc lv [.long v] M (some r) := by
  intro r' hr H locs ls hW hS hl
  cases hr
  unfold Qm
  exact W.lret (v := v) hC.1 hC.2.1 hm.2 (fun t ht hWm => by
    rw [hφ]
    exact ⟨rfl, by rw [ht]; exact hW, by rw [← hm.1]; exact hS.F ht⟩) hS.2.2 hd hC.2.2.2.2.2.2.2.2.2.2.1
theorem g_vret {ψ : β → Option Value × Mem} (hC : Cx x f own cc nL R) (hm : Mx x f none) {r : β} (hφ : ψ r = (none, M)) (hd : decode cc pc = .ok (.return_, 1)) : GG x f nL (Qm x f ψ) pc lv [] M (some r) := by
  intro r' hr H locs ls hW hS hl
  cases hr
  unfold Qm
  exact W.vret hC.1 hC.2.1 hm.2 (fun t ht hWm => by
    rw [hφ]
    exact ⟨rfl, by rw [ht]; exact hW, by rw [← hm.1]; exact hS.F ht⟩) hS.2.2 hd hC.2.2.2.2.2.2.2.2.2.2.1
theorem g_aret {ψ : β → Option Value × Mem} (hC : Cx x f own cc nL R) {ty : String} (hm : Mx x f (some (.object ty))) {k : Nat} {r : β} (hφ : ψ r = (some (.ref (x.1 k)), M)) (hd : decode cc pc = .ok (.areturn, 1)) : GG x f nL (Qm x f ψ) pc lv [.ref (x.1 k)] M (some r) := by
  intro r' hr H locs ls hW hS hl
  cases hr
  unfold Qm
  exact W.aret (v := .ref (x.1 k)) hC.1 hC.2.1 hm.2 (Or.inl ⟨ty, rfl⟩) (Or.inr ⟨_, rfl⟩) (fun t ht hWm => by
    rw [hφ]
    exact ⟨rfl, by rw [ht]; exact hW, by rw [← hm.1]; exact hS.F ht⟩) hS.2.2 hd hC.2.2.2.2.2.2.2.2.2.2.1
theorem bi_nar (b : Bool) : narrow .boolean (.int (bi b)) = .int (bi b) := by cases b <;> rfl
end Calls
/-! the forms that answers take -/
abbrev φI (M : Mem) : Int32 → Option Value × Mem := fun r => (some (.int r), M)
abbrev φB (M : Mem) : Bool → Option Value × Mem := fun r => (some (.int (bi r)), M)
abbrev φL (M : Mem) : Int64 → Option Value × Mem := fun r => (some (.long r), M)
abbrev φIM : Int32 × Mem → Option Value × Mem := fun r => (some (.int r.1), r.2)
abbrev φBM : Bool × Mem → Option Value × Mem := fun r => (some (.int (bi r.1)), r.2)
abbrev φLM : Int64 × Mem → Option Value × Mem := fun r => (some (.long r.1), r.2)
abbrev φM : Mem → Option Value × Mem := fun r => (none, r)
abbrev φR (x : Wx) (k : Nat) : Mem → Option Value × Mem := fun r => (some (.ref (x.1 k)), r)
/-! loops -/
def fx1 {A β : Type} : Nat → ((A → Option β) → A → Option β) → A → Option β
  | 0, _ => fun _ => none
  | n + 1, g => g (fx1 n g)
def fx2 {A B β : Type} : Nat → ((A → B → Option β) → A → B → Option β) → A → B → Option β
  | 0, _ => fun _ _ => none
  | n + 1, g => g (fx2 n g)
def fx3 {A B C β : Type} : Nat → ((A → B → C → Option β) → A → B → C → Option β) → A → B → C → Option β
  | 0, _ => fun _ _ _ => none
  | n + 1, g => g (fx3 n g)
def fx4 {A B C D β : Type} : Nat → ((A → B → C → D → Option β) → A → B → C → D → Option β) → A → B → C → D → Option β
  | 0, _ => fun _ _ _ _ => none
  | n + 1, g => g (fx4 n g)
def fx5 {A B C D E β : Type} : Nat → ((A → B → C → D → E → Option β) → A → B → C → D → E → Option β) → A → B → C → D → E → Option β
  | 0, _ => fun _ _ _ _ _ => none
  | n + 1, g => g (fx5 n g)
section Loops
variable {β A B C D E : Type} {x : Wx} {f : Fx} {nL : Nat} {Qf : β → State → Prop} {pc : Nat} {st : List Value}
theorem g_fx1 {g : (A → Option β) → A → Option β} (lv : A → List (Nat × Value)) (mm : A → Mem) (hb : ∀ rec, (∀ a, GG x f nL Qf pc (lv a) st (mm a) (rec a)) → ∀ a, GG x f nL Qf pc (lv a) st (mm a) (g rec a)) : ∀ n a, GG x f nL Qf pc (lv a) st (mm a) (fx1 n g a)
  | 0, _ => g_none
  | n + 1, a => hb _ (g_fx1 lv mm hb n) a
theorem g_fx2 {g : (A → B → Option β) → A → B → Option β} (lv : A → B → List (Nat × Value)) (mm : A → B → Mem) (hb : ∀ rec, (∀ a b, GG x f nL Qf pc (lv a b) st (mm a b) (rec a b)) → ∀ a b, GG x f nL Qf pc (lv a b) st (mm a b) (g rec a b)) : ∀ n a b, GG x f nL Qf pc (lv a b) st (mm a b) (fx2 n g a b)
  | 0, _, _ => g_none
  | n + 1, a, b => hb _ (g_fx2 lv mm hb n) a b
theorem g_fx3 {g : (A → B → C → Option β) → A → B → C → Option β} (lv : A → B → C → List (Nat × Value)) (mm : A → B → C → Mem) (hb : ∀ rec, (∀ a b c, GG x f nL Qf pc (lv a b c) st (mm a b c) (rec a b c)) → ∀ a b c, GG x f nL Qf pc (lv a b c) st (mm a b c) (g rec a b c)) : ∀ n a b c, GG x f nL Qf pc (lv a b c) st (mm a b c) (fx3 n g a b c)
  | 0, _, _, _ => g_none
  | n + 1, a, b, c => hb _ (g_fx3 lv mm hb n) a b c
theorem g_fx4 {g : (A → B → C → D → Option β) → A → B → C → D → Option β} (lv : A → B → C → D → List (Nat × Value)) (mm : A → B → C → D → Mem) (hb : ∀ rec, (∀ a b c d, GG x f nL Qf pc (lv a b c d) st (mm a b c d) (rec a b c d)) → ∀ a b c d, GG x f nL Qf pc (lv a b c d) st (mm a b c d) (g rec a b c d)) : ∀ n a b c d, GG x f nL Qf pc (lv a b c d) st (mm a b c d) (fx4 n g a b c d)
  | 0, _, _, _, _ => g_none
  | n + 1, a, b, c, d => hb _ (g_fx4 lv mm hb n) a b c d
theorem g_fx5 {g : (A → B → C → D → E → Option β) → A → B → C → D → E → Option β} (lv : A → B → C → D → E → List (Nat × Value)) (mm : A → B → C → D → E → Mem) (hb : ∀ rec, (∀ a b c d e, GG x f nL Qf pc (lv a b c d e) st (mm a b c d e) (rec a b c d e)) → ∀ a b c d e, GG x f nL Qf pc (lv a b c d e) st (mm a b c d e) (g rec a b c d e)) : ∀ n a b c d e, GG x f nL Qf pc (lv a b c d e) st (mm a b c d e) (fx5 n g a b c d e)
  | 0, _, _, _, _, _ => g_none
  | n + 1, a, b, c, d, e => hb _ (g_fx5 lv mm hb n) a b c d e
end Loops
end
section
section More
variable {β : Type} {x : Wx} {f : Fx} {own : String} {cc : ByteArray} {nL : Nat} {R : Room} {Qf : β → State → Prop} {pc : Nat} {lv lv' : List (Nat × Value)} {st : List Value} {M : Mem} {o o1 o2 : Option β}
theorem g_top {e : Int32} {κ : Int32 → Option β} (k : ∀ v : Int32, GG x f nL Qf pc lv (.int v :: st) M (κ v)) : GG x f nL Qf pc lv (.int e :: st) M (nm e κ) := k e
theorem g_topl {e : Int64} {κ : Int64 → Option β} (k : ∀ v : Int64, GG x f nL Qf pc lv (.long v :: st) M (κ v)) : GG x f nL Qf pc lv (.long e :: st) M (nm e κ) := k e
theorem g_dup2 (hC : Cx x f own cc nL R) {v w : Value} (hd : decode cc pc = .ok (.dup2, 1)) (hv : v.category = 1) (hw : w.category = 1) (k : GG x f nL Qf (pc + 1) lv (v :: w :: v :: w :: st) M o) : GG x f nL Qf pc lv (v :: w :: st) M o :=
  fun r hr H locs ls hW hS hl => lv_dup2_11 hC.1 hC.2.1 hd hv hw (k r hr H locs ls hW hS hl)
theorem g_pop (hC : Cx x f own cc nL R) {v : Value} (hd : decode cc pc = .ok (.pop, 1)) (hv : v.category = 1) (k : GG x f nL Qf (pc + 1) lv st M o) : GG x f nL Qf pc lv (v :: st) M o :=
  fun r hr H locs ls hW hS hl => lv_pop hC.1 hC.2.1 hd hv (k r hr H locs ls hW hS hl)
theorem g_ldcw (hC : Cx x f own cc nL R) {i : Nat} {v : Int32} (hm : Cond.constant own i v ∈ lw_g) (hd : decode cc pc = .ok (.ldc_w i, 3)) (k : GG x f nL Qf (pc + 3) lv (.int v :: st) M o) : GG x f nL Qf pc lv st M o :=
  fun r hr H locs ls hW hS hl => lv_ldcw hC.1 hC.2.1 hC.2.2.2.1 (hC.2.2.2.2.1 _ hm) hd (k r hr H locs ls hW hS hl)
theorem g_ifnull (hC : Cx x f own cc nL R) {k : Nat} {off : Int} (hd : decode cc pc = .ok (.ifnull off, 3)) (kk : GG x f nL Qf (pc + 3) lv st M o) : GG x f nL Qf pc lv (.ref (x.1 k) :: st) M o :=
  fun r hr H locs ls hW hS hl => lv_ifnull hC.1 hC.2.1 hd (kk r hr H locs ls hW hS hl)
theorem g_gets62 (hC : Cx x f own cc nL R) {i : Nat} (hm : Cond.fieldLink own i "AnswersFirst" "LEAST_SETTING" "[I" ∈ lw_g) (hd : decode cc pc = .ok (.getstatic i, 3)) (k : GG x f nL Qf (pc + 3) lv (.ref (x.1 62) :: st) M o) : GG x f nL Qf pc lv st M o :=
  fun r hr H locs ls hW hS hl => va_gets hC.1 hC.2.1 hC.2.2.2.2.2.2.2.2.1.1.1.1 hS hC.2.2.2.1 (hC.2.2.2.2.1 _ hm) (fun _ h => h) hd (k r hr H locs ls hW hS hl)
theorem g_gets63 (hC : Cx x f own cc nL R) {i : Nat} (hm : Cond.fieldLink own i "AnswersFirst" "MOST_SETTING" "[I" ∈ lw_g) (hd : decode cc pc = .ok (.getstatic i, 3)) (k : GG x f nL Qf (pc + 3) lv (.ref (x.1 63) :: st) M o) : GG x f nL Qf pc lv st M o :=
  fun r hr H locs ls hW hS hl => va_gets hC.1 hC.2.1 hC.2.2.2.2.2.2.2.2.1.1.1.2.1 hS hC.2.2.2.1 (hC.2.2.2.2.1 _ hm) (fun _ h => h) hd (k r hr H locs ls hW hS hl)
/-- a table switch, case by case -/
theorem g_tcase (hC : Cx x f own cc nL R) {dflt lo hi : Int} {offs : Array Int} {len : Nat} {v i : Int32} (off : Int) (tgt : Nat) (hd : decode cc pc = .ok (.tableswitch dflt lo hi offs, len)) (h1 : ¬ i.toInt < lo) (h2 : ¬ hi < i.toInt) (ho : offs[(i.toInt - lo).toNat]? = some off) (ht : (pc : Int) + off = (tgt : Int)) (k1 : GG x f nL Qf tgt lv st M o1) (k2 : ¬ v = i → GG x f nL Qf pc lv (.int v :: st) M o2) : GG x f nL Qf pc lv (.int v :: st) M (if v = i then o1 else o2) := by
  intro r hr H locs ls hW hS hl
  by_cases e : v = i
  · rw [if_pos e] at hr
    subst e
    exact lv_tableIn hC.1 hC.2.1 hd h1 h2 ho ht (k1 r hr H locs ls hW hS hl)
  · rw [if_neg e] at hr
    exact k2 e r hr H locs ls hW hS hl
theorem g_tout (hC : Cx x f own cc nL R) {dflt lo hi : Int} {offs : Array Int} {len : Nat} {v : Int32} (tgt : Nat) (hd : decode cc pc = .ok (.tableswitch dflt lo hi offs, len)) (h : v.toInt < lo ∨ hi < v.toInt) (ht : (pc : Int) + dflt = (tgt : Int)) (k1 : GG x f nL Qf tgt lv st M o) : GG x f nL Qf pc lv (.int v :: st) M o :=
  fun r hr H locs ls hW hS hl => lv_tableOut hC.1 hC.2.1 hd h ht (k1 r hr H locs ls hW hS hl)
theorem g_lookup2 (hC : Cx x f own cc nL R) {dflt a b : Int} {len : Nat} {v : Int32} (i j : Int32) (ti tj td : Nat) (hd : decode cc pc = .ok (.lookupswitch dflt #[(i.toInt, a), (j.toInt, b)], len)) (hij : i.toInt < j.toInt) (h1 : (pc : Int) + a = (ti : Int)) (h2 : (pc : Int) + b = (tj : Int)) (h3 : (pc : Int) + dflt = (td : Int)) (k1 : GG x f nL Qf ti lv st M o1) {o3 : Option β} (k2 : GG x f nL Qf tj lv st M o2) (k3 : GG x f nL Qf td lv st M o3) : GG x f nL Qf pc lv (.int v :: st) M (if v = i then o1 else if v = j then o2 else o3) := by
  intro r hr H locs ls hW hS hl
  have hp : ((#[(i.toInt, a), (j.toInt, b)] : Array (Int × Int)).toList.zip ((#[(i.toInt, a), (j.toInt, b)] : Array (Int × Int)).toList.drop 1)).all (fun (q, next) => q.1 < next.1) = true := by simp [hij]
  by_cases e : v = i
  · rw [if_pos e] at hr
    exact lv_lookup hC.1 hC.2.1 hd hp (off := a) (by subst e; simp [Op.lookupswitch.offset]) h1 (k1 r hr H locs ls hW hS hl)
  · rw [if_neg e] at hr
    have e' : ¬ v.toInt = i.toInt := fun z => e (Int32.toInt_inj.mp z)
    by_cases e2 : v = j
    · rw [if_pos e2] at hr
      exact lv_lookup hC.1 hC.2.1 hd hp (off := b) (by subst e2; simp [Op.lookupswitch.offset, Ne.symm e', e']) h2 (k2 r hr H locs ls hW hS hl)
    · rw [if_neg e2] at hr
      have e2' : ¬ v.toInt = j.toInt := fun z => e2 (Int32.toInt_inj.mp z)
      exact lv_lookup hC.1 hC.2.1 hd hp (off := dflt) (by simp [Op.lookupswitch.offset, Ne.symm e', e', Ne.symm e2', e2']) h3 (k3 r hr H locs ls hW hS hl)
/-- System.arraycopy over two rows of ints of the world -/
def cpb {β : Type} (n0 n1 : Nat) (sp dp n : Int32) (o : Option β) : Option β := if (¬ sp < 0 ∧ ¬ dp < 0 ∧ ¬ n < 0) ∧ ix sp + ix n ≤ n0 ∧ ix dp + ix n ≤ n1 then o else none
theorem g_copy (hC : Cx x f own cc nL R) {i a b n0 n1 : Nat} (ha : kd a = 9) (hb : kd b = 9) (hna : ln a = n0) (hnb : ln b = n1) (hm : Cond.methodLink own i arraycopyName ∈ lw_g) (hnat : Cond.native arraycopyName ∈ lw_g) (hst : Cond.static arraycopyName ∈ lw_g) (hini : Cond.initialized "java/lang/System" ∈ lw_g) (hfr : 1 ≤ R.frames) (hlo : (st.map fun v => v.category).sum + 18 ≤ R.locals) {sp dp n : Int32} (hd : decode cc pc = .ok (.invokestatic i, 3)) {κ : Mem → Option β} (kk : ∀ M1, GG x f nL Qf (pc + 3) lv st M1 (κ M1)) :
    GG x f nL Qf pc lv (.int n :: .int dp :: .ref (x.1 b) :: .int sp :: .ref (x.1 a) :: st) M (cpb n0 n1 sp dp n (nm (stC M b (va_cpy (M a) (M b) (ix sp) (ix dp) (ix n))) κ)) := by
  intro r h H locs ls hW hS hl
  unfold cpb at h
  by_cases hi : (¬ sp < 0 ∧ ¬ dp < 0 ∧ ¬ n < 0) ∧ ix sp + ix n ≤ n0 ∧ ix dp + ix n ≤ n1
  · rw [if_pos hi] at h
    obtain ⟨⟨h1, h2, h3⟩, h4, h5⟩ := hi
    have hea : (wl x M)[a]? = some (x.1 a, .inl (x.2.2 9, ln a, .inl (M a))) := by rw [wl_get (kd_lt ha (by omega)), cE_arr ha (by omega) (by omega)]
    have heb : (wl x M)[b]? = some (x.1 b, .inl (x.2.2 9, ln b, .inl (M b))) := by rw [wl_get (kd_lt hb (by omega)), cE_arr hb (by omega) (by omega)]
    have hR := hC.2.2.2.2.2.2.2.2.2.1
    refine va_copyi hC.1 hC.2.1 (hC.2.2.1.trans hl.1.symm) hC.2.2.2.1 (hC.2.2.2.2.1 _ hm) (hC.2.2.2.2.1 _ hnat) (hC.2.2.2.2.1 _ hst) (hC.2.2.2.2.1 _ hini) hC.2.2.2.2.2.1 hW hC.D hS a b 0 0 hea heb rfl rfl rfl h1 h2 h3 (by rw [hna]; exact h4) (by rw [hnb]; exact h5) (fun _ _ => rfl) (by rw [hR]; exact hfr) (by rw [hR]; exact hlo) hd (fun H1 locs1 hP hD hS1 => ?_)
    rw [wl_set (M' := stC M b (va_cpy (M a) (M b) (ix sp) (ix dp) (ix n))) (by rw [cE_arr hb (by omega) (by omega), stC_same]) (fun j hj => stC_ne M _ hj)] at hP
    exact kk _ r h H1 locs1 ls hP hS1 hl
  · rw [if_neg hi] at h; cases h
end More
/-! kinds of the cells that are many -/
theorem kdT {k : Nat} (h : kd k = 6) : k = 2 ∨ k = 3 ∨ k = 4 := by
  have h1 := kd_lt h (by omega)
  have : ∀ j, j < 54 → kd j = 6 → j = 2 ∨ j = 3 ∨ j = 4 := by decide
  exact this k h1 h
theorem kdE {k : Nat} (h : kd k = 1) : k = 9 ∨ k = 10 ∨ k = 11 := by
  have h1 := kd_lt h (by omega)
  have : ∀ j, j < 54 → kd j = 1 → j = 9 ∨ j = 10 ∨ j = 11 := by decide
  exact this k h1 h
theorem kdS {k : Nat} (h : kd k = 5) : k = 29 ∨ k = 30 ∨ k = 31 ∨ k = 32 := by
  have h1 := kd_lt h (by omega)
  have : ∀ j, j < 54 → kd j = 5 → j = 29 ∨ j = 30 ∨ j = 31 ∨ j = 32 := by decide
  exact this k h1 h
theorem kb_T {k : Nat} (h : kd k = 6) : kd (k + 3) = 10 := by rcases kdT h with e | e | e <;> subst e <;> rfl
theorem kp_E {k : Nat} (h : kd k = 1) : kd (k + 3) = 9 := by rcases kdE h with e | e | e <;> subst e <;> rfl
theorem lp_E {k : Nat} (h : kd k = 1) : ln (k + 3) = 60 := by rcases kdE h with e | e | e <;> subst e <;> rfl
theorem kf_E (k : Nat) : 60 ≤ fm k ∧ fm k < 64 := by unfold fm; split <;> omega
theorem ki_S {k : Nat} (h : kd k = 5) : kd (k + 4) = 9 := by rcases kdS h with e | e | e | e <;> subst e <;> rfl
theorem li_S {k : Nat} (h : kd k = 5) : ln (k + 4) = 48 := by rcases kdS h with e | e | e | e <;> subst e <;> rfl
theorem inb_lt {i : Int32} {n : Nat} (h : inb i n = true) : ix i < n := by
  have := inb_iff.mp h
  unfold vp_in at this
  exact Nat.not_le.mp fun q => this (Or.inr q)
theorem ka_T {i : Int32} (h : inb i 3 = true) : kd (1 + 1 + ix i) = 6 := by
  have := inb_lt h
  rcases (show ix i = 0 ∨ ix i = 1 ∨ ix i = 2 by omega) with e | e | e <;> rw [e] <;> rfl
theorem ka_E {i : Int32} (h : inb i 3 = true) : kd (8 + 1 + ix i) = 1 := by
  have := inb_lt h
  rcases (show ix i = 0 ∨ ix i = 1 ∨ ix i = 2 by omega) with e | e | e <;> rw [e] <;> rfl
theorem ka_S {i : Int32} (h : inb i 4 = true) : kd (28 + 1 + ix i) = 5 := by
  have := inb_lt h
  rcases (show ix i = 0 ∨ ix i = 1 ∨ ix i = 2 ∨ ix i = 3 by omega) with e | e | e | e <;> rw [e] <;> rfl
theorem q_tne {v i : Int32} (h : ¬ v = i) : ¬ v.toInt = i.toInt := fun e => h (Int32.toInt_inj.mp e)
end
section
/-! String constants: cells 64, 65; their bytes: 66, 67 -/
def roB (k i : Nat) : Int32 := (tx_byt.getD (k - 66) []).getD i 0
def rbL (k : Nat) : Nat := tx_len.getD (k - 66) 0
section Texts
variable {β γ : Type} {x : Wx} {f : Fx} {own : String} {cc cc' : ByteArray} {nL nL' n idx : Nat} {R rm : Room} {Qf : β → State → Prop} {pc : Nat} {lv lv' : List (Nat × Value)} {st st0 av : List Value} {M : Mem} {o o1 o2 : Option β} {y : MethodName} {rt : Option FieldType} {φ : γ → Option Value × Mem} {oc : Option γ} {κ : γ → Option β}
theorem Cx.tx (hC : Cx x f own cc nL R) : vk_S 2 tx_len tx_byt (fun i => x.1 (64 + i)) (fun i => x.1 (66 + i)) (fA f) (fS f) (fS f).heap := hC.2.2.2.2.2.2.2.2.1.2.1
theorem g_tval (hC : Cx x f own cc nL R) {k i : Nat} (hk : 64 ≤ k ∧ k < 66) (hm : Cond.fieldLink own i "java/lang/String" "value" "[B" ∈ lw_g) (hd : decode cc pc = .ok (.getfield i, 3)) (kk : GG x f nL Qf (pc + 3) lv (.ref (x.1 (k + 2)) :: st) M o) : GG x f nL Qf pc lv (.ref (x.1 k) :: st) M o := by
  intro r h H locs ls hW hS hl
  obtain ⟨j, rfl⟩ : ∃ j, k = 64 + j := ⟨k - 64, by omega⟩
  have e : 64 + j + 2 = 66 + j := by omega
  have := kk r h H locs ls hW hS hl
  rw [e] at this
  exact vk_getf hC.1 hC.2.1 (hC.tx.1 j (by omega)).2.2.1 hS hC.2.2.2.1 (hC.2.2.2.2.1 _ hm) (fun _ h => h) hd this
theorem g_tcod (hC : Cx x f own cc nL R) {k i : Nat} (hk : 64 ≤ k ∧ k < 66) (hm : Cond.fieldLink own i "java/lang/String" "coder" "B" ∈ lw_g) (hd : decode cc pc = .ok (.getfield i, 3)) (kk : GG x f nL Qf (pc + 3) lv (.int 0 :: st) M o) : GG x f nL Qf pc lv (.ref (x.1 k) :: st) M o := by
  intro r h H locs ls hW hS hl
  obtain ⟨j, rfl⟩ : ∃ j, k = 64 + j := ⟨k - 64, by omega⟩
  exact vk_getf hC.1 hC.2.1 (hC.tx.1 j (by omega)).2.1 hS hC.2.2.2.1 (hC.2.2.2.2.1 _ hm) (fun _ h => h) hd (kk r h H locs ls hW hS hl)
theorem g_tcs (hC : Cx x f own cc nL R) {i : Nat} (hm : Cond.fieldLink own i "java/lang/String" "COMPACT_STRINGS" "Z" ∈ lw_g) (hd : decode cc pc = .ok (.getstatic i, 3)) (k : GG x f nL Qf (pc + 3) lv (.int 1 :: st) M o) : GG x f nL Qf pc lv st M o :=
  fun r hr H locs ls hW hS hl => va_gets hC.1 hC.2.1 hC.2.2.2.2.2.2.2.2.1.1.1.2.2 hS hC.2.2.2.1 (hC.2.2.2.2.1 _ hm) (fun _ h => h) hd (k r hr H locs ls hW hS hl)
theorem g_tb (hC : Cx x f own cc nL R) {k : Nat} (hk : 66 ≤ k ∧ k < 68) : va_T .byte (x.1 k) (rbL k) (fun j => .int (roB k j)) (fA f) (fS f) (fS f).heap := by
  obtain ⟨j, rfl⟩ : ∃ j, k = 66 + j := ⟨k - 66, by omega⟩
  have := (hC.tx.1 j (by omega)).2.2.2
  unfold rbL roB
  rw [show 66 + j - 66 = j by omega]
  exact this
theorem g_tald (hC : Cx x f own cc nL R) {k n : Nat} (hk : 66 ≤ k ∧ k < 68) (hn : rbL k = n) {i : Int32} (hd : decode cc pc = .ok (.baload, 1)) (kk : GG x f nL Qf (pc + 1) lv (.int (roB k (ix i)) :: st) M o) : GG x f nL Qf pc lv (.int i :: .ref (x.1 k) :: st) M (ib i n o) := by
  intro r h H locs ls hW hS hl
  unfold ib at h
  by_cases hi : inb i n = true
  · rw [if_pos hi] at h
    exact va_tb hC.1 hC.2.1 (g_tb hC hk) hS (by rw [hn]; exact inb_iff.mp hi) rfl hd (kk r h H locs ls hW hS hl)
  · rw [if_neg hi] at h; cases h
theorem g_tlen (hC : Cx x f own cc nL R) {k : Nat} {n : Int32} (hk : 66 ≤ k ∧ k < 68) (hn : Int32.ofNat (rbL k) = n) (hd : decode cc pc = .ok (.arraylength, 1)) (kk : GG x f nL Qf (pc + 1) lv (.int n :: st) M o) : GG x f nL Qf pc lv (.ref (x.1 k) :: st) M o :=
  fun r h H locs ls hW hS hl => va_tlen hC.1 hC.2.1 (g_tb hC hk) hS hn hd (kk r h H locs ls hW hS hl)
theorem g_ldcS0 (hC : Cx x f "AnswersFirst$Entries" cc nL R) (hd : decode cc pc = .ok (.ldc 69, 2)) (k : GG x f nL Qf (pc + 2) lv (.ref (x.1 64) :: st) M o) : GG x f nL Qf pc lv st M o :=
  fun r hr H locs ls hW hS hl => va_ldcS hC.1 hC.2.1 hC.2.2.2.1 hC.2.2.2.2.2.2.2.2.1.2.2.1 hd (k r hr H locs ls hW hS hl)
theorem g_ldcS1 (hC : Cx x f "AnswersFirst$Entries" cc nL R) (hd : decode cc pc = .ok (.ldc 76, 2)) (k : GG x f nL Qf (pc + 2) lv (.ref (x.1 65) :: st) M o) : GG x f nL Qf pc lv st M o :=
  fun r hr H locs ls hW hS hl => va_ldcS hC.1 hC.2.1 hC.2.2.2.1 hC.2.2.2.2.2.2.2.2.1.2.2.2 hd (k r hr H locs ls hW hS hl)
theorem g_callt (hC : Cx x f own cc nL R) {k : Nat} {as : List Value} (hk : 64 ≤ k ∧ k < 66) (hy : y.cls = "java/lang/String") (hct : Ct x y cc' nL' rt rm φ (.ref (x.1 k) :: as) M oc) (hm : MV y cc' nL' rt n) (hlk : Cond.methodLink own idx y ∈ lw_g) (hrm : rm.cells = 0 ∧ rm.slots = 0 ∧ rm.frames + 1 ≤ R.frames ∧ 8 + (nL' + 11) + rm.locals ≤ R.locals)
    (hn : as.length = n) (hst : st0 = as.reverse ++ .ref (x.1 k) :: st) (hcat : (st.map fun v => v.category).sum ≤ 8) (hd : decode cc pc = .ok (.invokevirtual idx, 3)) (kk : ∀ q, GG x f nL Qf (pc + 3) lv ((φ q).1.toList ++ st) (φ q).2 (κ q)) : GG x f nL Qf pc lv st0 M (oc.bind κ) := by
  intro r hr H locs ls hW hS hl
  cases ho : oc with
  | none => rw [ho] at hr; cases hr
  | some q =>
    rw [ho] at hr
    have hp := g_pre (av := .ref (x.1 k) :: as) hC hW hS
    have hrec : ∃ cell : Cell, H[x.1 k]? = some cell ∧ cell.vm.isStatics = false ∧ (fS f).vm.findClass y.cls = some cell.cls := by
      obtain ⟨j, rfl⟩ : ∃ j, k = 64 + j := ⟨k - 64, by omega⟩
      rw [hy]
      exact vk_recv hC.tx (i := j) (by omega) hS
    exact g_ran (κ := κ) (q := q) (φ := φ) hC hS hl hr (va_runV (C := y.cls) (As := as) ⟨hC.1, hC.2.1, hC.2.2.1, hC.2.2.2.1, hC.2.2.2.2.1⟩ (hct q ho (fL f)) ⟨g_callB hC hm.1 hlk hrm, hC.2.2.2.2.1 _ hm.2.1, hC.2.2.2.2.1 _ hm.2.2⟩ ⟨hp.1, hrec, hp.2⟩ rfl hn hl.1 hst (lv_room hcat) hd (g_room hC)) kk
theorem g_bret {ψ : β → Option Value × Mem} (hC : Cx x f own cc nL R) (hm : Mx x f (some .byte)) {v : Int32} {r : β} (hv : narrow .byte (.int v) = .int v) (hφ : ψ r = (some (.int v), M)) (hd : decode cc pc = .ok (.ireturn, 1)) : GG x f nL (Qm x f ψ) pc lv [.int v] M (some r) := by
  intro r' hr H locs ls hW hS hl
  cases hr
  unfold Qm
  exact W.zret (v := v) hC.1 hC.2.1 hm.2 hv (fun t ht hWm => by
    rw [hφ]
    exact ⟨rfl, by rw [ht]; exact hW, by rw [← hm.1]; exact hS.F ht⟩) hS.2.2 hd hC.2.2.2.2.2.2.2.2.2.2.1
end Texts
theorem ka_t {k : Nat} (h : 64 ≤ k ∧ k < 66) : 66 ≤ k + 2 ∧ k + 2 < 68 := by omega
theorem q_out5 {v : Int32} (h0 : ¬ v = 0) (h1 : ¬ v = 1) (h2 : ¬ v = 2) (h3 : ¬ v = 3) (h4 : ¬ v = 4) : v.toInt < 0 ∨ 4 < v.toInt := by
  have a0 : ¬ v.toInt = 0 := q_tne h0
  have a1 : ¬ v.toInt = 1 := q_tne h1
  have a2 : ¬ v.toInt = 2 := q_tne h2
  have a3 : ¬ v.toInt = 3 := q_tne h3
  have a4 : ¬ v.toInt = 4 := q_tne h4
  omega
theorem q_out9 {v : Int32} (h0 : ¬ v = 0) (h1 : ¬ v = 1) (h2 : ¬ v = 2) (h3 : ¬ v = 3) (h4 : ¬ v = 4) (h5 : ¬ v = 5) (h6 : ¬ v = 6) (h7 : ¬ v = 7) (h8 : ¬ v = 8) : v.toInt < 0 ∨ 8 < v.toInt := by
  have a0 : ¬ v.toInt = 0 := q_tne h0
  have a1 : ¬ v.toInt = 1 := q_tne h1
  have a2 : ¬ v.toInt = 2 := q_tne h2
  have a3 : ¬ v.toInt = 3 := q_tne h3
  have a4 : ¬ v.toInt = 4 := q_tne h4
  have a5 : ¬ v.toInt = 5 := q_tne h5
  have a6 : ¬ v.toInt = 6 := q_tne h6
  have a7 : ¬ v.toInt = 7 := q_tne h7
  have a8 : ¬ v.toInt = 8 := q_tne h8
  omega
end
section
theorem m_0 : (Jvm.Cond.selects "AnswersFirst$Entries" ⟨"AnswersFirst$Entries", "goesOnWith", "(I)Z"⟩ ⟨"AnswersFirst$Entries", "goesOnWith", "(I)Z"⟩) ∈ lw_g := lw_g_in 0 (by decide +kernel) (by decide +kernel)
theorem m_1 : (Jvm.Cond.selects "AnswersFirst$Entries" ⟨"AnswersFirst$Entries", "valueOf", "(II)I"⟩ ⟨"AnswersFirst$Entries", "valueOf", "(II)I"⟩) ∈ lw_g := lw_g_in 1 (by decide +kernel) (by decide +kernel)
theorem m_2 : (Jvm.Cond.selects "AnswersFirst$Entries" ⟨"AnswersFirst$Entries", "keep", "(II)V"⟩ ⟨"AnswersFirst$Entries", "keep", "(II)V"⟩) ∈ lw_g := lw_g_in 2 (by decide +kernel) (by decide +kernel)
theorem m_3 : (Jvm.Cond.selects "AnswersFirst" ⟨"AnswersFirst", "markOld", "()V"⟩ ⟨"AnswersFirst", "markOld", "()V"⟩) ∈ lw_g := lw_g_in 3 (by decide +kernel) (by decide +kernel)
theorem m_67 : (Jvm.Cond.initialized "AnswersFirst") ∈ lw_g := lw_g_in 67 (by decide +kernel) (by decide +kernel)
theorem m_68 : (Jvm.Cond.initialized "AnswersFirst$Text") ∈ lw_g := lw_g_in 68 (by decide +kernel) (by decide +kernel)
theorem m_69 : (Jvm.Cond.initialized "java/lang/Math") ∈ lw_g := lw_g_in 69 (by decide +kernel) (by decide +kernel)
theorem m_70 : (Jvm.Cond.initialized "AnswersFirst$Entries") ∈ lw_g := lw_g_in 70 (by decide +kernel) (by decide +kernel)
theorem m_77 : (Jvm.Cond.initialized "java/lang/String") ∈ lw_g := lw_g_in 77 (by decide +kernel) (by decide +kernel)
theorem m_78 : (Jvm.Cond.initialized "java/lang/StringLatin1") ∈ lw_g := lw_g_in 78 (by decide +kernel) (by decide +kernel)
theorem m_101 : (Jvm.Cond.static ({ cls := "java/lang/Math", name := "max", desc := "(II)I" } : Jvm.MethodName)) ∈ lw_g := lw_g_in 101 (by decide +kernel) (by decide +kernel)
theorem m_102 : (Jvm.Cond.code ({ cls := "java/lang/Math", name := "max", desc := "(II)I" } : Jvm.MethodName) prog_13_method_65_code (2 : Nat) (Option.some Jvm.ClassFile.FieldType.int)) ∈ lw_g := lw_g_in 102 (by decide +kernel) (by decide +kernel)
theorem m_103 : (Jvm.Cond.fieldLink "AnswersFirst$Text" (15 : Nat) "AnswersFirst$Text" "bytes" "[B") ∈ lw_g := lw_g_in 103 (by decide +kernel) (by decide +kernel)
theorem m_104 : (Jvm.Cond.fieldLink "AnswersFirst$Text" (21 : Nat) "AnswersFirst$Text" "size" "I") ∈ lw_g := lw_g_in 104 (by decide +kernel) (by decide +kernel)
theorem m_120 : (Jvm.Cond.fieldLink "AnswersFirst$Entries" (19 : Nat) "AnswersFirst$Entries" "form" "[I") ∈ lw_g := lw_g_in 120 (by decide +kernel) (by decide +kernel)
theorem m_121 : (Jvm.Cond.fieldLink "AnswersFirst$Entries" (9 : Nat) "AnswersFirst$Entries" "parts" "[I") ∈ lw_g := lw_g_in 121 (by decide +kernel) (by decide +kernel)
theorem m_122 : (Jvm.Cond.fieldLink "AnswersFirst$Entries" (25 : Nat) "AnswersFirst$Entries" "bytes" "I") ∈ lw_g := lw_g_in 122 (by decide +kernel) (by decide +kernel)
theorem m_123 : (Jvm.Cond.fieldLink "AnswersFirst$Entries" (31 : Nat) "AnswersFirst$Entries" "entry" "I") ∈ lw_g := lw_g_in 123 (by decide +kernel) (by decide +kernel)
theorem m_124 : (Jvm.Cond.fieldLink "AnswersFirst$Entries" (28 : Nat) "AnswersFirst$Entries" "next" "I") ∈ lw_g := lw_g_in 124 (by decide +kernel) (by decide +kernel)
theorem m_125 : (Jvm.Cond.fieldLink "AnswersFirst$Entries" (66 : Nat) "AnswersFirst$Entries" "who" "I") ∈ lw_g := lw_g_in 125 (by decide +kernel) (by decide +kernel)
theorem m_126 : (Jvm.Cond.fieldLink "AnswersFirst$Entries" (22 : Nat) "AnswersFirst$Entries" "size" "I") ∈ lw_g := lw_g_in 126 (by decide +kernel) (by decide +kernel)
theorem m_127 : (Jvm.Cond.fieldLink "AnswersFirst$Entries" (15 : Nat) "AnswersFirst$Entries" "stop" "I") ∈ lw_g := lw_g_in 127 (by decide +kernel) (by decide +kernel)
theorem m_244 : (Jvm.Cond.fieldLink "AnswersFirst" (12 : Nat) "AnswersFirst" "texts" "[LAnswersFirst$Text;") ∈ lw_g := lw_g_in 244 (by decide +kernel) (by decide +kernel)
theorem m_245 : (Jvm.Cond.fieldLink "AnswersFirst" (30 : Nat) "AnswersFirst" "entries" "[LAnswersFirst$Entries;") ∈ lw_g := lw_g_in 245 (by decide +kernel) (by decide +kernel)
theorem m_249 : (Jvm.Cond.fieldLink "AnswersFirst" (47 : Nat) "AnswersFirst" "rowsAreOld" "Z") ∈ lw_g := lw_g_in 249 (by decide +kernel) (by decide +kernel)
theorem m_251 : (Jvm.Cond.fieldLink "AnswersFirst" (58 : Nat) "AnswersFirst" "accountsAreOld" "Z") ∈ lw_g := lw_g_in 251 (by decide +kernel) (by decide +kernel)
theorem m_282 : (Jvm.Cond.instanceMethod ({ cls := "AnswersFirst", name := "type", desc := "(II)I" } : Jvm.MethodName)) ∈ lw_g := lw_g_in 282 (by decide +kernel) (by decide +kernel)
theorem m_283 : (Jvm.Cond.selects "AnswersFirst" ({ cls := "AnswersFirst", name := "type", desc := "(II)I" } : Jvm.MethodName) ({ cls := "AnswersFirst", name := "type", desc := "(II)I" } : Jvm.MethodName)) ∈ lw_g := lw_g_in 283 (by decide +kernel) (by decide +kernel)
theorem m_284 : (Jvm.Cond.code ({ cls := "AnswersFirst", name := "type", desc := "(II)I" } : Jvm.MethodName) prog_1_method_2_code (3 : Nat) (Option.some Jvm.ClassFile.FieldType.int)) ∈ lw_g := lw_g_in 284 (by decide +kernel) (by decide +kernel)
theorem m_285 : (Jvm.Cond.methodLink "AnswersFirst" (82 : Nat) ({ cls := "AnswersFirst", name := "isOutside", desc := "(II)Z" } : Jvm.MethodName)) ∈ lw_g := lw_g_in 285 (by decide +kernel) (by decide +kernel)
theorem m_286 : (Jvm.Cond.static ({ cls := "AnswersFirst", name := "isOutside", desc := "(II)Z" } : Jvm.MethodName)) ∈ lw_g := lw_g_in 286 (by decide +kernel) (by decide +kernel)
theorem m_287 : (Jvm.Cond.code ({ cls := "AnswersFirst", name := "isOutside", desc := "(II)Z" } : Jvm.MethodName) prog_1_method_46_code (2 : Nat) (Option.some Jvm.ClassFile.FieldType.boolean)) ∈ lw_g := lw_g_in 287 (by decide +kernel) (by decide +kernel)
theorem m_288 : (Jvm.Cond.methodLink "AnswersFirst" (86 : Nat) ({ cls := "AnswersFirst$Text", name := "isFull", desc := "()Z" } : Jvm.MethodName)) ∈ lw_g := lw_g_in 288 (by decide +kernel) (by decide +kernel)
theorem m_289 : (Jvm.Cond.instanceMethod ({ cls := "AnswersFirst$Text", name := "isFull", desc := "()Z" } : Jvm.MethodName)) ∈ lw_g := lw_g_in 289 (by decide +kernel) (by decide +kernel)
theorem m_290 : (Jvm.Cond.selects "AnswersFirst$Text" ({ cls := "AnswersFirst$Text", name := "isFull", desc := "()Z" } : Jvm.MethodName) ({ cls := "AnswersFirst$Text", name := "isFull", desc := "()Z" } : Jvm.MethodName)) ∈ lw_g := lw_g_in 290 (by decide +kernel) (by decide +kernel)
theorem m_291 : (Jvm.Cond.code ({ cls := "AnswersFirst$Text", name := "isFull", desc := "()Z" } : Jvm.MethodName) prog_8_method_3_code (1 : Nat) (Option.some Jvm.ClassFile.FieldType.boolean)) ∈ lw_g := lw_g_in 291 (by decide +kernel) (by decide +kernel)
theorem m_292 : (Jvm.Cond.methodLink "AnswersFirst" (90 : Nat) ({ cls := "AnswersFirst$Text", name := "append", desc := "(I)V" } : Jvm.MethodName)) ∈ lw_g := lw_g_in 292 (by decide +kernel) (by decide +kernel)
theorem m_293 : (Jvm.Cond.instanceMethod ({ cls := "AnswersFirst$Text", name := "append", desc := "(I)V" } : Jvm.MethodName)) ∈ lw_g := lw_g_in 293 (by decide +kernel) (by decide +kernel)
theorem m_294 : (Jvm.Cond.selects "AnswersFirst$Text" ({ cls := "AnswersFirst$Text", name := "append", desc := "(I)V" } : Jvm.MethodName) ({ cls := "AnswersFirst$Text", name := "append", desc := "(I)V" } : Jvm.MethodName)) ∈ lw_g := lw_g_in 294 (by decide +kernel) (by decide +kernel)
theorem m_295 : (Jvm.Cond.code ({ cls := "AnswersFirst$Text", name := "append", desc := "(I)V" } : Jvm.MethodName) prog_8_method_4_code (2 : Nat) (Option.none : Option Jvm.ClassFile.FieldType)) ∈ lw_g := lw_g_in 295 (by decide +kernel) (by decide +kernel)
theorem m_296 : (Jvm.Cond.methodLink "AnswersFirst" (93 : Nat) ({ cls := "AnswersFirst$Entries", name := "take", desc := "(I)V" } : Jvm.MethodName)) ∈ lw_g := lw_g_in 296 (by decide +kernel) (by decide +kernel)
theorem m_297 : (Jvm.Cond.instanceMethod ({ cls := "AnswersFirst$Entries", name := "take", desc := "(I)V" } : Jvm.MethodName)) ∈ lw_g := lw_g_in 297 (by decide +kernel) (by decide +kernel)
theorem m_298 : (Jvm.Cond.selects "AnswersFirst$Entries" ({ cls := "AnswersFirst$Entries", name := "take", desc := "(I)V" } : Jvm.MethodName) ({ cls := "AnswersFirst$Entries", name := "take", desc := "(I)V" } : Jvm.MethodName)) ∈ lw_g := lw_g_in 298 (by decide +kernel) (by decide +kernel)
theorem m_299 : (Jvm.Cond.code ({ cls := "AnswersFirst$Entries", name := "take", desc := "(I)V" } : Jvm.MethodName) prog_3_method_9_code (3 : Nat) (Option.none : Option Jvm.ClassFile.FieldType)) ∈ lw_g := lw_g_in 299 (by decide +kernel) (by decide +kernel)
theorem m_300 : (Jvm.Cond.methodLink "AnswersFirst$Entries" (51 : Nat) ({ cls := "AnswersFirst$Entries", name := "goesOnWith", desc := "(I)Z" } : Jvm.MethodName)) ∈ lw_g := lw_g_in 300 (by decide +kernel) (by decide +kernel)
theorem m_302 : (Jvm.Cond.instanceMethod ({ cls := "AnswersFirst$Entries", name := "goesOnWith", desc := "(I)Z" } : Jvm.MethodName)) ∈ lw_g := lw_g_in 302 (by decide +kernel) (by decide +kernel)
theorem m_303 : (Jvm.Cond.code ({ cls := "AnswersFirst$Entries", name := "goesOnWith", desc := "(I)Z" } : Jvm.MethodName) prog_3_method_10_code (4 : Nat) (Option.some Jvm.ClassFile.FieldType.boolean)) ∈ lw_g := lw_g_in 303 (by decide +kernel) (by decide +kernel)
theorem m_304 : (Jvm.Cond.methodLink "AnswersFirst$Entries" (55 : Nat) ({ cls := "AnswersFirst$Entries", name := "valueOf", desc := "(II)I" } : Jvm.MethodName)) ∈ lw_g := lw_g_in 304 (by decide +kernel) (by decide +kernel)
theorem m_306 : (Jvm.Cond.instanceMethod ({ cls := "AnswersFirst$Entries", name := "valueOf", desc := "(II)I" } : Jvm.MethodName)) ∈ lw_g := lw_g_in 306 (by decide +kernel) (by decide +kernel)
theorem m_307 : (Jvm.Cond.code ({ cls := "AnswersFirst$Entries", name := "valueOf", desc := "(II)I" } : Jvm.MethodName) prog_3_method_11_code (3 : Nat) (Option.some Jvm.ClassFile.FieldType.int)) ∈ lw_g := lw_g_in 307 (by decide +kernel) (by decide +kernel)
theorem m_308 : (Jvm.Cond.methodLink "AnswersFirst$Entries" (63 : Nat) ({ cls := "AnswersFirst$Entries", name := "figure", desc := "(II)I" } : Jvm.MethodName)) ∈ lw_g := lw_g_in 308 (by decide +kernel) (by decide +kernel)
theorem m_309 : (Jvm.Cond.static ({ cls := "AnswersFirst$Entries", name := "figure", desc := "(II)I" } : Jvm.MethodName)) ∈ lw_g := lw_g_in 309 (by decide +kernel) (by decide +kernel)
theorem m_310 : (Jvm.Cond.code ({ cls := "AnswersFirst$Entries", name := "figure", desc := "(II)I" } : Jvm.MethodName) prog_3_method_13_code (3 : Nat) (Option.some Jvm.ClassFile.FieldType.int)) ∈ lw_g := lw_g_in 310 (by decide +kernel) (by decide +kernel)
theorem m_312 : (Jvm.Cond.methodLink "AnswersFirst$Entries" (71 : Nat) ({ cls := "java/lang/String", name := "indexOf", desc := "(I)I" } : Jvm.MethodName)) ∈ lw_g := lw_g_in 312 (by decide +kernel) (by decide +kernel)
theorem m_313 : (Jvm.Cond.instanceMethod ({ cls := "java/lang/String", name := "indexOf", desc := "(I)I" } : Jvm.MethodName)) ∈ lw_g := lw_g_in 313 (by decide +kernel) (by decide +kernel)
theorem m_314 : (Jvm.Cond.selects "java/lang/String" ({ cls := "java/lang/String", name := "indexOf", desc := "(I)I" } : Jvm.MethodName) ({ cls := "java/lang/String", name := "indexOf", desc := "(I)I" } : Jvm.MethodName)) ∈ lw_g := lw_g_in 314 (by decide +kernel) (by decide +kernel)
theorem m_315 : (Jvm.Cond.code ({ cls := "java/lang/String", name := "indexOf", desc := "(I)I" } : Jvm.MethodName) prog_14_method_79_code (2 : Nat) (Option.some Jvm.ClassFile.FieldType.int)) ∈ lw_g := lw_g_in 315 (by decide +kernel) (by decide +kernel)
theorem m_316 : (Jvm.Cond.methodLink "java/lang/String" (633 : Nat) ({ cls := "java/lang/String", name := "indexOf", desc := "(II)I" } : Jvm.MethodName)) ∈ lw_g := lw_g_in 316 (by decide +kernel) (by decide +kernel)
theorem m_317 : (Jvm.Cond.instanceMethod ({ cls := "java/lang/String", name := "indexOf", desc := "(II)I" } : Jvm.MethodName)) ∈ lw_g := lw_g_in 317 (by decide +kernel) (by decide +kernel)
theorem m_318 : (Jvm.Cond.selects "java/lang/String" ({ cls := "java/lang/String", name := "indexOf", desc := "(II)I" } : Jvm.MethodName) ({ cls := "java/lang/String", name := "indexOf", desc := "(II)I" } : Jvm.MethodName)) ∈ lw_g := lw_g_in 318 (by decide +kernel) (by decide +kernel)
theorem m_319 : (Jvm.Cond.code ({ cls := "java/lang/String", name := "indexOf", desc := "(II)I" } : Jvm.MethodName) prog_14_method_80_code (3 : Nat) (Option.some Jvm.ClassFile.FieldType.int)) ∈ lw_g := lw_g_in 319 (by decide +kernel) (by decide +kernel)
theorem m_320 : (Jvm.Cond.methodLink "java/lang/String" (492 : Nat) ({ cls := "java/lang/String", name := "isLatin1", desc := "()Z" } : Jvm.MethodName)) ∈ lw_g := lw_g_in 320 (by decide +kernel) (by decide +kernel)
theorem m_321 : (Jvm.Cond.instanceMethod ({ cls := "java/lang/String", name := "isLatin1", desc := "()Z" } : Jvm.MethodName)) ∈ lw_g := lw_g_in 321 (by decide +kernel) (by decide +kernel)
theorem m_322 : (Jvm.Cond.selects "java/lang/String" ({ cls := "java/lang/String", name := "isLatin1", desc := "()Z" } : Jvm.MethodName) ({ cls := "java/lang/String", name := "isLatin1", desc := "()Z" } : Jvm.MethodName)) ∈ lw_g := lw_g_in 322 (by decide +kernel) (by decide +kernel)
theorem m_323 : (Jvm.Cond.code ({ cls := "java/lang/String", name := "isLatin1", desc := "()Z" } : Jvm.MethodName) prog_14_method_154_code (1 : Nat) (Option.some Jvm.ClassFile.FieldType.boolean)) ∈ lw_g := lw_g_in 323 (by decide +kernel) (by decide +kernel)
theorem m_324 : (Jvm.Cond.fieldLink "java/lang/String" (38 : Nat) "java/lang/String" "COMPACT_STRINGS" "Z") ∈ lw_g := lw_g_in 324 (by decide +kernel) (by decide +kernel)
theorem m_326 : (Jvm.Cond.methodLink "java/lang/String" (505 : Nat) ({ cls := "java/lang/String", name := "length", desc := "()I" } : Jvm.MethodName)) ∈ lw_g := lw_g_in 326 (by decide +kernel) (by decide +kernel)
theorem m_327 : (Jvm.Cond.instanceMethod ({ cls := "java/lang/String", name := "length", desc := "()I" } : Jvm.MethodName)) ∈ lw_g := lw_g_in 327 (by decide +kernel) (by decide +kernel)
theorem m_328 : (Jvm.Cond.selects "java/lang/String" ({ cls := "java/lang/String", name := "length", desc := "()I" } : Jvm.MethodName) ({ cls := "java/lang/String", name := "length", desc := "()I" } : Jvm.MethodName)) ∈ lw_g := lw_g_in 328 (by decide +kernel) (by decide +kernel)
theorem m_329 : (Jvm.Cond.code ({ cls := "java/lang/String", name := "length", desc := "()I" } : Jvm.MethodName) prog_14_method_54_code (1 : Nat) (Option.some Jvm.ClassFile.FieldType.int)) ∈ lw_g := lw_g_in 329 (by decide +kernel) (by decide +kernel)
theorem m_330 : (Jvm.Cond.methodLink "java/lang/String" (335 : Nat) ({ cls := "java/lang/String", name := "coder", desc := "()B" } : Jvm.MethodName)) ∈ lw_g := lw_g_in 330 (by decide +kernel) (by decide +kernel)
theorem m_331 : (Jvm.Cond.instanceMethod ({ cls := "java/lang/String", name := "coder", desc := "()B" } : Jvm.MethodName)) ∈ lw_g := lw_g_in 331 (by decide +kernel) (by decide +kernel)
theorem m_332 : (Jvm.Cond.selects "java/lang/String" ({ cls := "java/lang/String", name := "coder", desc := "()B" } : Jvm.MethodName) ({ cls := "java/lang/String", name := "coder", desc := "()B" } : Jvm.MethodName)) ∈ lw_g := lw_g_in 332 (by decide +kernel) (by decide +kernel)
theorem m_333 : (Jvm.Cond.code ({ cls := "java/lang/String", name := "coder", desc := "()B" } : Jvm.MethodName) prog_14_method_152_code (1 : Nat) (Option.some Jvm.ClassFile.FieldType.byte)) ∈ lw_g := lw_g_in 333 (by decide +kernel) (by decide +kernel)
theorem m_334 : (Jvm.Cond.methodLink "java/lang/String" (637 : Nat) ({ cls := "java/lang/StringLatin1", name := "indexOf", desc := "([BIII)I" } : Jvm.MethodName)) ∈ lw_g := lw_g_in 334 (by decide +kernel) (by decide +kernel)
theorem m_335 : (Jvm.Cond.static ({ cls := "java/lang/StringLatin1", name := "indexOf", desc := "([BIII)I" } : Jvm.MethodName)) ∈ lw_g := lw_g_in 335 (by decide +kernel) (by decide +kernel)
theorem m_336 : (Jvm.Cond.code ({ cls := "java/lang/StringLatin1", name := "indexOf", desc := "([BIII)I" } : Jvm.MethodName) prog_15_method_22_code (4 : Nat) (Option.some Jvm.ClassFile.FieldType.int)) ∈ lw_g := lw_g_in 336 (by decide +kernel) (by decide +kernel)
theorem m_337 : (Jvm.Cond.methodLink "java/lang/StringLatin1" (88 : Nat) ({ cls := "java/lang/StringLatin1", name := "canEncode", desc := "(I)Z" } : Jvm.MethodName)) ∈ lw_g := lw_g_in 337 (by decide +kernel) (by decide +kernel)
theorem m_338 : (Jvm.Cond.static ({ cls := "java/lang/StringLatin1", name := "canEncode", desc := "(I)Z" } : Jvm.MethodName)) ∈ lw_g := lw_g_in 338 (by decide +kernel) (by decide +kernel)
theorem m_339 : (Jvm.Cond.code ({ cls := "java/lang/StringLatin1", name := "canEncode", desc := "(I)Z" } : Jvm.MethodName) prog_15_method_4_code (1 : Nat) (Option.some Jvm.ClassFile.FieldType.boolean)) ∈ lw_g := lw_g_in 339 (by decide +kernel) (by decide +kernel)
theorem m_340 : (Jvm.Cond.methodLink "java/lang/StringLatin1" (92 : Nat) ({ cls := "java/lang/Math", name := "max", desc := "(II)I" } : Jvm.MethodName)) ∈ lw_g := lw_g_in 340 (by decide +kernel) (by decide +kernel)
theorem m_341 : (Jvm.Cond.methodLink "java/lang/StringLatin1" (38 : Nat) ({ cls := "java/lang/Math", name := "min", desc := "(II)I" } : Jvm.MethodName)) ∈ lw_g := lw_g_in 341 (by decide +kernel) (by decide +kernel)
theorem m_342 : (Jvm.Cond.static ({ cls := "java/lang/Math", name := "min", desc := "(II)I" } : Jvm.MethodName)) ∈ lw_g := lw_g_in 342 (by decide +kernel) (by decide +kernel)
theorem m_343 : (Jvm.Cond.code ({ cls := "java/lang/Math", name := "min", desc := "(II)I" } : Jvm.MethodName) prog_13_method_69_code (2 : Nat) (Option.some Jvm.ClassFile.FieldType.int)) ∈ lw_g := lw_g_in 343 (by decide +kernel) (by decide +kernel)
theorem m_344 : (Jvm.Cond.methodLink "java/lang/StringLatin1" (95 : Nat) ({ cls := "java/lang/StringLatin1", name := "indexOfChar", desc := "([BIII)I" } : Jvm.MethodName)) ∈ lw_g := lw_g_in 344 (by decide +kernel) (by decide +kernel)
theorem m_345 : (Jvm.Cond.static ({ cls := "java/lang/StringLatin1", name := "indexOfChar", desc := "([BIII)I" } : Jvm.MethodName)) ∈ lw_g := lw_g_in 345 (by decide +kernel) (by decide +kernel)
theorem m_346 : (Jvm.Cond.code ({ cls := "java/lang/StringLatin1", name := "indexOfChar", desc := "([BIII)I" } : Jvm.MethodName) prog_15_method_23_code (6 : Nat) (Option.some Jvm.ClassFile.FieldType.int)) ∈ lw_g := lw_g_in 346 (by decide +kernel) (by decide +kernel)
theorem m_397 : (Jvm.Cond.methodLink "AnswersFirst$Entries" (59 : Nat) ({ cls := "AnswersFirst$Entries", name := "keep", desc := "(II)V" } : Jvm.MethodName)) ∈ lw_g := lw_g_in 397 (by decide +kernel) (by decide +kernel)
theorem m_399 : (Jvm.Cond.instanceMethod ({ cls := "AnswersFirst$Entries", name := "keep", desc := "(II)V" } : Jvm.MethodName)) ∈ lw_g := lw_g_in 399 (by decide +kernel) (by decide +kernel)
theorem m_400 : (Jvm.Cond.code ({ cls := "AnswersFirst$Entries", name := "keep", desc := "(II)V" } : Jvm.MethodName) prog_3_method_12_code (5 : Nat) (Option.none : Option Jvm.ClassFile.FieldType)) ∈ lw_g := lw_g_in 400 (by decide +kernel) (by decide +kernel)
theorem m_401 : (Jvm.Cond.methodLink "AnswersFirst" (96 : Nat) ({ cls := "AnswersFirst", name := "markOld", desc := "()V" } : Jvm.MethodName)) ∈ lw_g := lw_g_in 401 (by decide +kernel) (by decide +kernel)
theorem m_403 : (Jvm.Cond.instanceMethod ({ cls := "AnswersFirst", name := "markOld", desc := "()V" } : Jvm.MethodName)) ∈ lw_g := lw_g_in 403 (by decide +kernel) (by decide +kernel)
theorem m_404 : (Jvm.Cond.code ({ cls := "AnswersFirst", name := "markOld", desc := "()V" } : Jvm.MethodName) prog_1_method_53_code (1 : Nat) (Option.none : Option Jvm.ClassFile.FieldType)) ∈ lw_g := lw_g_in 404 (by decide +kernel) (by decide +kernel)
theorem m_405 : (Jvm.Cond.methodLink "AnswersFirst" (99 : Nat) ({ cls := "AnswersFirst$Text", name := "length", desc := "()I" } : Jvm.MethodName)) ∈ lw_g := lw_g_in 405 (by decide +kernel) (by decide +kernel)
theorem m_406 : (Jvm.Cond.instanceMethod ({ cls := "AnswersFirst$Text", name := "length", desc := "()I" } : Jvm.MethodName)) ∈ lw_g := lw_g_in 406 (by decide +kernel) (by decide +kernel)
theorem m_407 : (Jvm.Cond.selects "AnswersFirst$Text" ({ cls := "AnswersFirst$Text", name := "length", desc := "()I" } : Jvm.MethodName) ({ cls := "AnswersFirst$Text", name := "length", desc := "()I" } : Jvm.MethodName)) ∈ lw_g := lw_g_in 407 (by decide +kernel) (by decide +kernel)
theorem m_408 : (Jvm.Cond.code ({ cls := "AnswersFirst$Text", name := "length", desc := "()I" } : Jvm.MethodName) prog_8_method_2_code (1 : Nat) (Option.some Jvm.ClassFile.FieldType.int)) ∈ lw_g := lw_g_in 408 (by decide +kernel) (by decide +kernel)
theorem m_1338 : (Jvm.Cond.fieldLink "java/lang/String" (15 : Nat) "java/lang/String" "coder" "B") ∈ lw_g := lw_g_in 1338 (by decide +kernel) (by decide +kernel)
theorem m_1339 : (Jvm.Cond.fieldLink "java/lang/String" (9 : Nat) "java/lang/String" "value" "[B") ∈ lw_g := lw_g_in 1339 (by decide +kernel) (by decide +kernel)

theorem cf0 : CF 0 RX0 TX0 5 tyX0 := ⟨by decide, rfl, by decide +kernel, rfl, tyX0_ok, nmX0⟩
theorem cf1 : CF 1 RX1 TX1 8 tyX1 := ⟨by decide, rfl, by decide +kernel, rfl, tyX1_ok, nmX1⟩
theorem cf2 : CF 2 RX2 TX2 1 tyX2 := ⟨by decide, rfl, by decide +kernel, rfl, tyX2_ok, nmX2⟩
theorem cf3 : CF 3 RX3 TX3 8 tyX3 := ⟨by decide, rfl, by decide +kernel, rfl, tyX3_ok, nmX3⟩
theorem cf4 : CF 4 RX4 TX4 3 tyX4 := ⟨by decide, rfl, by decide +kernel, rfl, tyX4_ok, nmX4⟩
theorem cf5 : CF 5 RX5 TX5 3 tyX5 := ⟨by decide, rfl, by decide +kernel, rfl, tyX5_ok, nmX5⟩
theorem cf6 : CF 6 RX6 TX6 2 tyX6 := ⟨by decide, rfl, by decide +kernel, rfl, tyX6_ok, nmX6⟩
theorem cf7 : CF 7 RX7 TX7 12 tyX7 := ⟨by decide, rfl, by decide +kernel, rfl, tyX7_ok, nmX7⟩
theorem cf8 : CF 8 RX8 TX8 23 tyX8 := ⟨by decide, rfl, by decide +kernel, rfl, tyX8_ok, nmX8⟩

def sX7_isOutside (F : Nat) (a1 : Int32) (a2 : Int32) (M : Mem) : Option Bool :=
if a1 < 0 then
(some true)
else
(if a1 < a2 then
(some false)
else
(some true))

theorem msX7_isOutside : MS yX7_isOutside cX7_isOutside 2 (some .boolean) 2 := ⟨⟨m_287, m_67, by decide, by decide, by decide⟩, m_286⟩
set_option maxHeartbeats 4000000 in
set_option maxRecDepth 100000 in
theorem ctX7_isOutside (x : Wx) (F : Nat) (a1 : Int32) (a2 : Int32) (M : Mem) : Ct x yX7_isOutside cX7_isOutside 2 (some .boolean) { frames := 0, cells := 0, slots := 0, locals := 0 } (φB M) [.int a1, .int a2] M (sX7_isOutside F a1 a2 M) := by
  refine ct_of (by decide) (Nat.le_of_ble_eq_true rfl) (fun f hC hm => ?_)
  have hC : Cx x f "AnswersFirst" cX7_isOutside 2 { frames := 0, cells := 0, slots := 0, locals := 0 } := hC
  show GG x f 2 (Qm x f (φB M)) 0 [(0, .int a1), (1, .int a2)] [] M _
  unfold sX7_isOutside
  refine g_iload_n hC 0 dX7_isOutside_0 rfl rfl ?_
  refine g_if_lt hC 9 dX7_isOutside_1 (by decide) ?_ ?_
  · refine g_iconst hC (v := (1 : Int32)) dX7_isOutside_9 (by decide) ?_
    refine g_goto hC 14 dX7_isOutside_10 (by decide) ?_
    exact g_zret hC hm rfl rfl dX7_isOutside_14
  · refine g_iload_n hC 0 dX7_isOutside_4 rfl rfl ?_
    refine g_iload_n hC 1 dX7_isOutside_5 rfl rfl ?_
    refine g_icmp_lt hC 13 dX7_isOutside_6 (by decide) ?_ ?_
    · refine g_iconst hC (v := (0 : Int32)) dX7_isOutside_13 (by decide) ?_
      exact g_zret hC hm rfl rfl dX7_isOutside_14
    · refine g_iconst hC (v := (1 : Int32)) dX7_isOutside_9 (by decide) ?_
      refine g_goto hC 14 dX7_isOutside_10 (by decide) ?_
      exact g_zret hC hm rfl rfl dX7_isOutside_14

def sX6_isFull (F : Nat) (k : Nat) (M : Mem) : Option Bool :=
if (M k 1) < (Int32.ofNat (ln (k + 3))) then
(some false)
else
(some true)

theorem mvX6_isFull : MV yX6_isFull cX6_isFull 1 (some .boolean) 0 := ⟨⟨m_291, m_68, by decide, by decide, by decide⟩, m_289, m_290⟩
set_option maxHeartbeats 4000000 in
set_option maxRecDepth 100000 in
theorem ctX6_isFull (x : Wx) (F : Nat) (k : Nat) (hk : kd k = 6) (M : Mem) : Ct x yX6_isFull cX6_isFull 1 (some .boolean) { frames := 0, cells := 0, slots := 0, locals := 0 } (φB M) [.ref (x.1 k)] M (sX6_isFull F k M) := by
  refine ct_of (by decide) (Nat.le_of_ble_eq_true rfl) (fun f hC hm => ?_)
  have hC : Cx x f "AnswersFirst$Text" cX6_isFull 1 { frames := 0, cells := 0, slots := 0, locals := 0 } := hC
  show GG x f 1 (Qm x f (φB M)) 0 [(0, .ref (x.1 k))] [] M _
  unfold sX6_isFull
  refine g_aload_n hC 0 dX6_isFull_0 rfl rfl ?_
  refine g_getI hC cf6 hk 1 (by decide) rfl m_104 dX6_isFull_1 ?_
  refine g_aload_n hC 0 dX6_isFull_4 rfl rfl ?_
  refine g_getR hC cf6 (t := (k + 3)) hk 0 (by decide) rfl m_103 dX6_isFull_5 ?_
  refine g_alen hC (n := (Int32.ofNat (ln (k + 3)))) 10 1 (kb_T hk) (by decide) rfl dX6_isFull_8 ?_
  refine g_icmp_lt hC 16 dX6_isFull_9 (by decide) ?_ ?_
  · refine g_iconst hC (v := (0 : Int32)) dX6_isFull_16 (by decide) ?_
    exact g_zret hC hm rfl rfl dX6_isFull_17
  · refine g_iconst hC (v := (1 : Int32)) dX6_isFull_12 (by decide) ?_
    refine g_goto hC 17 dX6_isFull_13 (by decide) ?_
    exact g_zret hC hm rfl rfl dX6_isFull_17

def sX6_append (F : Nat) (k : Nat) (a1 : Int32) (M : Mem) : Option Mem :=
if (M k 1) < 0 then
(some M)
else
(if (Int32.ofNat (ln (k + 3))) ≤ (M k 1) then
(some M)
else
(ib (M k 1) (ln (k + 3)) (
nm (st2 M (k + 3) (ix (M k 1)) (a1.toInt8.toInt32).toInt8.toInt32) (fun M1 =>
nm (st2 M1 k 1 ((M1 k 1) + (1 : Int32))) (fun M2 =>
some M2)))))

theorem mvX6_append : MV yX6_append cX6_append 2 none 1 := ⟨⟨m_295, m_68, by decide, by decide, by decide⟩, m_293, m_294⟩
set_option maxHeartbeats 4000000 in
set_option maxRecDepth 100000 in
theorem ctX6_append (x : Wx) (F : Nat) (k : Nat) (a1 : Int32) (hk : kd k = 6) (M : Mem) : Ct x yX6_append cX6_append 2 none { frames := 0, cells := 0, slots := 0, locals := 0 } φM [.ref (x.1 k), .int a1] M (sX6_append F k a1 M) := by
  refine ct_of (by decide) (Nat.le_of_ble_eq_true rfl) (fun f hC hm => ?_)
  have hC : Cx x f "AnswersFirst$Text" cX6_append 2 { frames := 0, cells := 0, slots := 0, locals := 0 } := hC
  show GG x f 2 (Qm x f φM) 0 [(0, .ref (x.1 k)), (1, .int a1)] [] M _
  unfold sX6_append
  refine g_aload_n hC 0 dX6_append_0 rfl rfl ?_
  refine g_getI hC cf6 hk 1 (by decide) rfl m_104 dX6_append_1 ?_
  refine g_if_lt hC 40 dX6_append_4 (by decide) ?_ ?_
  · exact g_vret hC hm rfl dX6_append_40
  · refine g_aload_n hC 0 dX6_append_7 rfl rfl ?_
    refine g_getI hC cf6 hk 1 (by decide) rfl m_104 dX6_append_8 ?_
    refine g_aload_n hC 0 dX6_append_11 rfl rfl ?_
    refine g_getR hC cf6 (t := (k + 3)) hk 0 (by decide) rfl m_103 dX6_append_12 ?_
    refine g_alen hC (n := (Int32.ofNat (ln (k + 3)))) 10 1 (kb_T hk) (by decide) rfl dX6_append_15 ?_
    refine g_icmp_ge hC 40 dX6_append_16 (by decide) ?_ ?_
    · exact g_vret hC hm rfl dX6_append_40
    · refine g_aload_n hC 0 dX6_append_19 rfl rfl ?_
      refine g_getR hC cf6 (t := (k + 3)) hk 0 (by decide) rfl m_103 dX6_append_20 ?_
      refine g_aload_n hC 0 dX6_append_23 rfl rfl ?_
      refine g_getI hC cf6 hk 1 (by decide) rfl m_104 dX6_append_24 ?_
      refine g_iload_n hC 1 dX6_append_27 rfl rfl ?_
      refine g_i2b hC dX6_append_28 ?_
      refine g_bast hC (kb_T hk) rfl dX6_append_29 (fun M1 => ?_)
      show GG x f 2 (Qm x f φM) 30 [(0, .ref (x.1 k)), (1, .int a1)] [] M1 _
      refine g_aload_n hC 0 dX6_append_30 rfl rfl ?_
      refine g_dup hC dX6_append_31 rfl ?_
      refine g_getI hC cf6 hk 1 (by decide) rfl m_104 dX6_append_32 ?_
      refine g_iconst hC (v := (1 : Int32)) dX6_append_35 (by decide) ?_
      refine g_iadd hC dX6_append_36 ?_
      refine g_put hC cf6 hk 1 (by decide) rfl m_104 rfl rfl rfl dX6_append_37 (fun M2 => ?_)
      show GG x f 2 (Qm x f φM) 40 [(0, .ref (x.1 k)), (1, .int a1)] [] M2 _
      exact g_vret hC hm rfl dX6_append_40

def sX1_figure (F : Nat) (a1 : Int32) (a2 : Int32) (M : Mem) : Option Int32 :=
nm (a1 - (48 : Int32)) (fun v1 =>
if v1 < 0 then
(some (-1 : Int32))
else
(if v1 ≤ a2 then
(some v1)
else
(some (-1 : Int32))))

theorem msX1_figure : MS yX1_figure cX1_figure 3 (some .int) 2 := ⟨⟨m_310, m_70, by decide, by decide, by decide⟩, m_309⟩
set_option maxHeartbeats 4000000 in
set_option maxRecDepth 100000 in
theorem ctX1_figure (x : Wx) (F : Nat) (a1 : Int32) (a2 : Int32) (M : Mem) : Ct x yX1_figure cX1_figure 3 (some .int) { frames := 0, cells := 0, slots := 0, locals := 0 } (φI M) [.int a1, .int a2] M (sX1_figure F a1 a2 M) := by
  refine ct_of (by decide) (Nat.le_of_ble_eq_true rfl) (fun f hC hm => ?_)
  have hC : Cx x f "AnswersFirst$Entries" cX1_figure 3 { frames := 0, cells := 0, slots := 0, locals := 0 } := hC
  show GG x f 3 (Qm x f (φI M)) 0 [(0, .int a1), (1, .int a2)] [] M _
  unfold sX1_figure
  refine g_iload_n hC 0 dX1_figure_0 rfl rfl ?_
  refine g_bipush hC (v := (48 : Int32)) dX1_figure_1 (by decide) ?_
  refine g_isub hC dX1_figure_3 ?_
  refine g_top (fun v1 => ?_)
  show GG x f 3 (Qm x f (φI M)) 4 [(0, .int a1), (1, .int a2)] [.int v1] M _
  refine g_istore_n hC (lv' := [(1, .int a2), (2, .int v1)]) [2, 0] dX1_figure_4 rfl (by decide) rfl ?_
  refine g_iload_n hC 1 dX1_figure_5 rfl rfl ?_
  refine g_if_lt hC 14 dX1_figure_6 (by decide) ?_ ?_
  · refine g_iconst hC (v := (-1 : Int32)) dX1_figure_14 (by decide) ?_
    refine g_goto hC 19 dX1_figure_15 (by decide) ?_
    exact g_iret hC hm rfl dX1_figure_19
  · refine g_iload_n hC 1 dX1_figure_9 rfl rfl ?_
    refine g_iload_n hC 0 dX1_figure_10 rfl rfl ?_
    refine g_icmp_le hC 18 dX1_figure_11 (by decide) ?_ ?_
    · refine g_iload_n hC 1 dX1_figure_18 rfl rfl ?_
      exact g_iret hC hm rfl dX1_figure_19
    · refine g_iconst hC (v := (-1 : Int32)) dX1_figure_14 (by decide) ?_
      refine g_goto hC 19 dX1_figure_15 (by decide) ?_
      exact g_iret hC hm rfl dX1_figure_19

def sJ0_isLatin1_aae02 (F : Nat) (k : Nat) (M : Mem) : Option Bool :=
if (1 : Int32) = 0 then
(some false)
else
(if ¬ (0 : Int32) = 0 then
(some false)
else
(some true))

theorem mvJ0_isLatin1_aae02 : MV yJ0_isLatin1_aae02 cJ0_isLatin1_aae02 1 (some .boolean) 0 := ⟨⟨m_323, m_77, by decide, by decide, by decide⟩, m_321, m_322⟩
set_option maxHeartbeats 4000000 in
set_option maxRecDepth 100000 in
theorem ctJ0_isLatin1_aae02 (x : Wx) (F : Nat) (k : Nat) (hk : 64 ≤ k ∧ k < 66) (M : Mem) : Ct x yJ0_isLatin1_aae02 cJ0_isLatin1_aae02 1 (some .boolean) { frames := 0, cells := 0, slots := 0, locals := 0 } (φB M) [.ref (x.1 k)] M (sJ0_isLatin1_aae02 F k M) := by
  refine ct_of (by decide) (Nat.le_of_ble_eq_true rfl) (fun f hC hm => ?_)
  have hC : Cx x f "java/lang/String" cJ0_isLatin1_aae02 1 { frames := 0, cells := 0, slots := 0, locals := 0 } := hC
  show GG x f 1 (Qm x f (φB M)) 0 [(0, .ref (x.1 k))] [] M _
  unfold sJ0_isLatin1_aae02
  refine g_tcs hC m_324 dJ0_isLatin1_aae02_0 ?_
  refine g_if_eq hC 17 dJ0_isLatin1_aae02_3 (by decide) ?_ ?_
  · refine g_iconst hC (v := (0 : Int32)) dJ0_isLatin1_aae02_17 (by decide) ?_
    exact g_zret hC hm rfl rfl dJ0_isLatin1_aae02_18
  · refine g_aload_n hC 0 dJ0_isLatin1_aae02_6 rfl rfl ?_
    refine g_tcod hC hk m_1338 dJ0_isLatin1_aae02_7 ?_
    refine g_if_ne hC 17 dJ0_isLatin1_aae02_10 (by decide) ?_ ?_
    · refine g_iconst hC (v := (0 : Int32)) dJ0_isLatin1_aae02_17 (by decide) ?_
      exact g_zret hC hm rfl rfl dJ0_isLatin1_aae02_18
    · refine g_iconst hC (v := (1 : Int32)) dJ0_isLatin1_aae02_13 (by decide) ?_
      refine g_goto hC 18 dJ0_isLatin1_aae02_14 (by decide) ?_
      exact g_zret hC hm rfl rfl dJ0_isLatin1_aae02_18

def sJ0_coder_7d493 (F : Nat) (k : Nat) (M : Mem) : Option Int32 :=
if (1 : Int32) = 0 then
(some (1 : Int32))
else
(some (0 : Int32))

theorem mvJ0_coder_7d493 : MV yJ0_coder_7d493 cJ0_coder_7d493 1 (some .byte) 0 := ⟨⟨m_333, m_77, by decide, by decide, by decide⟩, m_331, m_332⟩
set_option maxHeartbeats 4000000 in
set_option maxRecDepth 100000 in
theorem ctJ0_coder_7d493 (x : Wx) (F : Nat) (k : Nat) (hk : 64 ≤ k ∧ k < 66) (M : Mem) : Ct x yJ0_coder_7d493 cJ0_coder_7d493 1 (some .byte) { frames := 0, cells := 0, slots := 0, locals := 0 } (φI M) [.ref (x.1 k)] M (sJ0_coder_7d493 F k M) := by
  refine ct_of (by decide) (Nat.le_of_ble_eq_true rfl) (fun f hC hm => ?_)
  have hC : Cx x f "java/lang/String" cJ0_coder_7d493 1 { frames := 0, cells := 0, slots := 0, locals := 0 } := hC
  show GG x f 1 (Qm x f (φI M)) 0 [(0, .ref (x.1 k))] [] M _
  unfold sJ0_coder_7d493
  refine g_tcs hC m_324 dJ0_coder_7d493_0 ?_
  refine g_if_eq hC 13 dJ0_coder_7d493_3 (by decide) ?_ ?_
  · refine g_iconst hC (v := (1 : Int32)) dJ0_coder_7d493_13 (by decide) ?_
    exact g_bret hC hm rfl rfl dJ0_coder_7d493_14
  · refine g_aload_n hC 0 dJ0_coder_7d493_6 rfl rfl ?_
    refine g_tcod hC hk m_1338 dJ0_coder_7d493_7 ?_
    refine g_goto hC 14 dJ0_coder_7d493_10 (by decide) ?_
    exact g_bret hC hm rfl rfl dJ0_coder_7d493_14

def sJ0_length_8abf5 (F : Nat) (k : Nat) (M : Mem) : Option Int32 :=
(sJ0_coder_7d493 F k M).bind (fun r1 =>
some ((Int32.ofNat (rbL (k + 2))) >>> (r1 &&& 31)))

theorem mvJ0_length_8abf5 : MV yJ0_length_8abf5 cJ0_length_8abf5 1 (some .int) 0 := ⟨⟨m_329, m_77, by decide, by decide, by decide⟩, m_327, m_328⟩
set_option maxHeartbeats 4000000 in
set_option maxRecDepth 100000 in
theorem ctJ0_length_8abf5 (x : Wx) (F : Nat) (k : Nat) (hk : 64 ≤ k ∧ k < 66) (M : Mem) : Ct x yJ0_length_8abf5 cJ0_length_8abf5 1 (some .int) { frames := 1, cells := 0, slots := 0, locals := 20 } (φI M) [.ref (x.1 k)] M (sJ0_length_8abf5 F k M) := by
  refine ct_of (by decide) (Nat.le_of_ble_eq_true rfl) (fun f hC hm => ?_)
  have hC : Cx x f "java/lang/String" cJ0_length_8abf5 1 { frames := 1, cells := 0, slots := 0, locals := 20 } := hC
  show GG x f 1 (Qm x f (φI M)) 0 [(0, .ref (x.1 k))] [] M _
  unfold sJ0_length_8abf5
  refine g_aload_n hC 0 dJ0_length_8abf5_0 rfl rfl ?_
  refine g_tval hC hk m_1339 dJ0_length_8abf5_1 ?_
  refine g_tlen hC (n := (Int32.ofNat (rbL (k + 2)))) (ka_t hk) rfl dJ0_length_8abf5_4 ?_
  refine g_aload_n hC 0 dJ0_length_8abf5_5 rfl rfl ?_
  refine g_callt hC (st := [.int (Int32.ofNat (rbL (k + 2)))]) hk rfl (ctJ0_coder_7d493 x F k hk M) mvJ0_coder_7d493 m_330 (by decide) rfl rfl (Nat.le_of_ble_eq_true rfl) dJ0_length_8abf5_6 (fun r1 => ?_)
  show GG x f 1 (Qm x f (φI M)) 9 [(0, .ref (x.1 k))] [.int r1, .int (Int32.ofNat (rbL (k + 2)))] M _
  refine g_ishr hC dJ0_length_8abf5_9 ?_
  exact g_iret hC hm rfl dJ0_length_8abf5_10

def sJ1_canEncode_9a6ad (F : Nat) (a1 : Int32) (M : Mem) : Option Bool :=
if a1 < 0 then
(some false)
else
(if (255 : Int32) < a1 then
(some false)
else
(some true))

theorem msJ1_canEncode_9a6ad : MS yJ1_canEncode_9a6ad cJ1_canEncode_9a6ad 1 (some .boolean) 1 := ⟨⟨m_339, m_78, by decide, by decide, by decide⟩, m_338⟩
set_option maxHeartbeats 4000000 in
set_option maxRecDepth 100000 in
theorem ctJ1_canEncode_9a6ad (x : Wx) (F : Nat) (a1 : Int32) (M : Mem) : Ct x yJ1_canEncode_9a6ad cJ1_canEncode_9a6ad 1 (some .boolean) { frames := 0, cells := 0, slots := 0, locals := 0 } (φB M) [.int a1] M (sJ1_canEncode_9a6ad F a1 M) := by
  refine ct_of (by decide) (Nat.le_of_ble_eq_true rfl) (fun f hC hm => ?_)
  have hC : Cx x f "java/lang/StringLatin1" cJ1_canEncode_9a6ad 1 { frames := 0, cells := 0, slots := 0, locals := 0 } := hC
  show GG x f 1 (Qm x f (φB M)) 0 [(0, .int a1)] [] M _
  unfold sJ1_canEncode_9a6ad
  refine g_iload_n hC 0 dJ1_canEncode_9a6ad_0 rfl rfl ?_
  refine g_if_lt hC 15 dJ1_canEncode_9a6ad_1 (by decide) ?_ ?_
  · refine g_iconst hC (v := (0 : Int32)) dJ1_canEncode_9a6ad_15 (by decide) ?_
    exact g_zret hC hm rfl rfl dJ1_canEncode_9a6ad_16
  · refine g_iload_n hC 0 dJ1_canEncode_9a6ad_4 rfl rfl ?_
    refine g_sipush hC (v := (255 : Int32)) dJ1_canEncode_9a6ad_5 (by decide) ?_
    refine g_icmp_gt hC 15 dJ1_canEncode_9a6ad_8 (by decide) ?_ ?_
    · refine g_iconst hC (v := (0 : Int32)) dJ1_canEncode_9a6ad_15 (by decide) ?_
      exact g_zret hC hm rfl rfl dJ1_canEncode_9a6ad_16
    · refine g_iconst hC (v := (1 : Int32)) dJ1_canEncode_9a6ad_11 (by decide) ?_
      refine g_goto hC 16 dJ1_canEncode_9a6ad_12 (by decide) ?_
      exact g_zret hC hm rfl rfl dJ1_canEncode_9a6ad_16

def sJ9_max_7cf53 (F : Nat) (a1 : Int32) (a2 : Int32) (M : Mem) : Option Int32 :=
if a1 < a2 then
(some a2)
else
(some a1)

theorem msJ9_max_7cf53 : MS yJ9_max_7cf53 cJ9_max_7cf53 2 (some .int) 2 := ⟨⟨m_102, m_69, by decide, by decide, by decide⟩, m_101⟩
set_option maxHeartbeats 4000000 in
set_option maxRecDepth 100000 in
theorem ctJ9_max_7cf53 (x : Wx) (F : Nat) (a1 : Int32) (a2 : Int32) (M : Mem) : Ct x yJ9_max_7cf53 cJ9_max_7cf53 2 (some .int) { frames := 0, cells := 0, slots := 0, locals := 0 } (φI M) [.int a1, .int a2] M (sJ9_max_7cf53 F a1 a2 M) := by
  refine ct_of (by decide) (Nat.le_of_ble_eq_true rfl) (fun f hC hm => ?_)
  have hC : Cx x f "java/lang/Math" cJ9_max_7cf53 2 { frames := 0, cells := 0, slots := 0, locals := 0 } := hC
  show GG x f 2 (Qm x f (φI M)) 0 [(0, .int a1), (1, .int a2)] [] M _
  unfold sJ9_max_7cf53
  refine g_iload_n hC 0 dJ9_max_7cf53_0 rfl rfl ?_
  refine g_iload_n hC 1 dJ9_max_7cf53_1 rfl rfl ?_
  refine g_icmp_lt hC 9 dJ9_max_7cf53_2 (by decide) ?_ ?_
  · refine g_iload_n hC 1 dJ9_max_7cf53_9 rfl rfl ?_
    exact g_iret hC hm rfl dJ9_max_7cf53_10
  · refine g_iload_n hC 0 dJ9_max_7cf53_5 rfl rfl ?_
    refine g_goto hC 10 dJ9_max_7cf53_6 (by decide) ?_
    exact g_iret hC hm rfl dJ9_max_7cf53_10

def sJ9_min_7cf53 (F : Nat) (a1 : Int32) (a2 : Int32) (M : Mem) : Option Int32 :=
if a2 < a1 then
(some a2)
else
(some a1)

theorem msJ9_min_7cf53 : MS yJ9_min_7cf53 cJ9_min_7cf53 2 (some .int) 2 := ⟨⟨m_343, m_69, by decide, by decide, by decide⟩, m_342⟩
set_option maxHeartbeats 4000000 in
set_option maxRecDepth 100000 in
theorem ctJ9_min_7cf53 (x : Wx) (F : Nat) (a1 : Int32) (a2 : Int32) (M : Mem) : Ct x yJ9_min_7cf53 cJ9_min_7cf53 2 (some .int) { frames := 0, cells := 0, slots := 0, locals := 0 } (φI M) [.int a1, .int a2] M (sJ9_min_7cf53 F a1 a2 M) := by
  refine ct_of (by decide) (Nat.le_of_ble_eq_true rfl) (fun f hC hm => ?_)
  have hC : Cx x f "java/lang/Math" cJ9_min_7cf53 2 { frames := 0, cells := 0, slots := 0, locals := 0 } := hC
  show GG x f 2 (Qm x f (φI M)) 0 [(0, .int a1), (1, .int a2)] [] M _
  unfold sJ9_min_7cf53
  refine g_iload_n hC 0 dJ9_min_7cf53_0 rfl rfl ?_
  refine g_iload_n hC 1 dJ9_min_7cf53_1 rfl rfl ?_
  refine g_icmp_gt hC 9 dJ9_min_7cf53_2 (by decide) ?_ ?_
  · refine g_iload_n hC 1 dJ9_min_7cf53_9 rfl rfl ?_
    exact g_iret hC hm rfl dJ9_min_7cf53_10
  · refine g_iload_n hC 0 dJ9_min_7cf53_5 rfl rfl ?_
    refine g_goto hC 10 dJ9_min_7cf53_6 (by decide) ?_
    exact g_iret hC hm rfl dJ9_min_7cf53_10

def sJ1_indexOfChar_4cfef_L7 (F : Nat) (k1 : Nat) (a4 : Int32) (v1 : Int32) (rec3 : Int32 → Option Int32) (p2 : Int32) : Option Int32 :=
if a4 ≤ p2 then
(some (-1 : Int32))
else
(ib p2 (rbL k1) (
if ¬ (roB k1 (ix p2)) = v1 then
(rec3 (p2 + (1 : Int32)))
else
(some p2)))
def sJ1_indexOfChar_4cfef (F : Nat) (k1 : Nat) (a2 : Int32) (a3 : Int32) (a4 : Int32) (M : Mem) : Option Int32 :=
nm (a2.toInt8.toInt32) (fun v1 =>
fx1 F (sJ1_indexOfChar_4cfef_L7 F k1 a4 v1) a3)

theorem msJ1_indexOfChar_4cfef : MS yJ1_indexOfChar_4cfef cJ1_indexOfChar_4cfef 6 (some .int) 4 := ⟨⟨m_346, m_78, by decide, by decide, by decide⟩, m_345⟩
set_option maxHeartbeats 4000000 in
set_option maxRecDepth 100000 in
theorem ctJ1_indexOfChar_4cfef (x : Wx) (F : Nat) (k1 : Nat) (a2 : Int32) (a3 : Int32) (a4 : Int32) (h1 : 66 ≤ k1 ∧ k1 < 68) (M : Mem) : Ct x yJ1_indexOfChar_4cfef cJ1_indexOfChar_4cfef 6 (some .int) { frames := 0, cells := 0, slots := 0, locals := 0 } (φI M) [.ref (x.1 k1), .int a2, .int a3, .int a4] M (sJ1_indexOfChar_4cfef F k1 a2 a3 a4 M) := by
  refine ct_of (by decide) (Nat.le_of_ble_eq_true rfl) (fun f hC hm => ?_)
  have hC : Cx x f "java/lang/StringLatin1" cJ1_indexOfChar_4cfef 6 { frames := 0, cells := 0, slots := 0, locals := 0 } := hC
  show GG x f 6 (Qm x f (φI M)) 0 [(0, .ref (x.1 k1)), (1, .int a2), (2, .int a3), (3, .int a4)] [] M _
  unfold sJ1_indexOfChar_4cfef
  refine g_iload_n hC 1 dJ1_indexOfChar_4cfef_0 rfl rfl ?_
  refine g_i2b hC dJ1_indexOfChar_4cfef_1 ?_
  refine g_top (fun v1 => ?_)
  show GG x f 6 (Qm x f (φI M)) 2 [(0, .ref (x.1 k1)), (1, .int a2), (2, .int a3), (3, .int a4)] [.int v1] M _
  refine g_istore hC (lv' := [(0, .ref (x.1 k1)), (2, .int a3), (3, .int a4), (4, .int v1)]) [1, 3, 4, 0] dJ1_indexOfChar_4cfef_2 (by decide) rfl ?_
  refine g_iload_n hC 1 dJ1_indexOfChar_4cfef_4 rfl rfl ?_
  refine g_istore hC (lv' := [(0, .ref (x.1 k1)), (3, .int a4), (4, .int v1), (5, .int a3)]) [1, 3, 4, 0] dJ1_indexOfChar_4cfef_5 (by decide) rfl ?_
  refine g_fx1 (fun (p2 : Int32) => [(0, .ref (x.1 k1)), (3, .int a4), (4, .int v1), (5, .int p2)]) (fun (p2 : Int32) => M) (fun rec3 hrec3 p2 => ?_) F _
  show GG x f 6 (Qm x f (φI M)) 7 [(0, .ref (x.1 k1)), (3, .int a4), (4, .int v1), (5, .int p2)] [] M _
  unfold sJ1_indexOfChar_4cfef_L7
  refine g_iload hC 3 dJ1_indexOfChar_4cfef_7 rfl ?_
  refine g_iload_n hC 1 dJ1_indexOfChar_4cfef_9 rfl rfl ?_
  refine g_icmp_ge hC 31 dJ1_indexOfChar_4cfef_10 (by decide) ?_ ?_
  · refine g_iconst hC (v := (-1 : Int32)) dJ1_indexOfChar_4cfef_31 (by decide) ?_
    exact g_iret hC hm rfl dJ1_indexOfChar_4cfef_32
  · refine g_aload_n hC 0 dJ1_indexOfChar_4cfef_13 rfl rfl ?_
    refine g_iload hC 3 dJ1_indexOfChar_4cfef_14 rfl ?_
    refine g_tald hC h1 rfl dJ1_indexOfChar_4cfef_16 ?_
    refine g_iload hC 2 dJ1_indexOfChar_4cfef_17 rfl ?_
    refine g_icmp_ne hC 25 dJ1_indexOfChar_4cfef_19 (by decide) ?_ ?_
    · refine g_iinc hC (q := 3) (v := (1 : Int32)) (lv' := [(0, .ref (x.1 k1)), (3, .int a4), (4, .int v1), (5, .int (p2 + (1 : Int32)))]) [1, 2, 3, 0] dJ1_indexOfChar_4cfef_25 rfl (by decide) (by decide) rfl ?_
      refine g_goto hC 7 dJ1_indexOfChar_4cfef_28 (by decide) ?_
      exact hrec3 (p2 + (1 : Int32))
    · refine g_iload hC 3 dJ1_indexOfChar_4cfef_22 rfl ?_
      exact g_iret hC hm rfl dJ1_indexOfChar_4cfef_24

def sJ1_indexOf_4cfef (F : Nat) (k1 : Nat) (a2 : Int32) (a3 : Int32) (a4 : Int32) (M : Mem) : Option Int32 :=
(sJ1_canEncode_9a6ad F a2 M).bind (fun r1 =>
if r1 = true then
((sJ9_max_7cf53 F a3 (0 : Int32) M).bind (fun r2 =>
(sJ9_min_7cf53 F a4 (Int32.ofNat (rbL k1)) M).bind (fun r3 =>
if r2 < r3 then
((sJ1_indexOfChar_4cfef F k1 a2 r2 r3 M).bind (fun r4 =>
some r4))
else
(some (-1 : Int32)))))
else
(some (-1 : Int32)))

theorem msJ1_indexOf_4cfef : MS yJ1_indexOf_4cfef cJ1_indexOf_4cfef 4 (some .int) 4 := ⟨⟨m_336, m_78, by decide, by decide, by decide⟩, m_335⟩
set_option maxHeartbeats 4000000 in
set_option maxRecDepth 100000 in
theorem ctJ1_indexOf_4cfef (x : Wx) (F : Nat) (k1 : Nat) (a2 : Int32) (a3 : Int32) (a4 : Int32) (h1 : 66 ≤ k1 ∧ k1 < 68) (M : Mem) : Ct x yJ1_indexOf_4cfef cJ1_indexOf_4cfef 4 (some .int) { frames := 1, cells := 0, slots := 0, locals := 25 } (φI M) [.ref (x.1 k1), .int a2, .int a3, .int a4] M (sJ1_indexOf_4cfef F k1 a2 a3 a4 M) := by
  refine ct_of (by decide) (Nat.le_of_ble_eq_true rfl) (fun f hC hm => ?_)
  have hC : Cx x f "java/lang/StringLatin1" cJ1_indexOf_4cfef 4 { frames := 1, cells := 0, slots := 0, locals := 25 } := hC
  show GG x f 4 (Qm x f (φI M)) 0 [(0, .ref (x.1 k1)), (1, .int a2), (2, .int a3), (3, .int a4)] [] M _
  unfold sJ1_indexOf_4cfef
  refine g_iload_n hC 1 dJ1_indexOf_4cfef_0 rfl rfl ?_
  refine g_calls hC (st := []) (ctJ1_canEncode_9a6ad x F a2 M) msJ1_canEncode_9a6ad m_337 (by decide) rfl rfl (Nat.le_of_ble_eq_true rfl) dJ1_indexOf_4cfef_1 (fun r1 => ?_)
  show GG x f 4 (Qm x f (φI M)) 4 [(0, .ref (x.1 k1)), (1, .int a2), (2, .int a3), (3, .int a4)] [.int (bi r1)] M _
  refine g_ifB_ne hC 9 dJ1_indexOf_4cfef_4 (by decide) ?_ ?_
  · refine g_iload_n hC 2 dJ1_indexOf_4cfef_9 rfl rfl ?_
    refine g_iconst hC (v := (0 : Int32)) dJ1_indexOf_4cfef_10 (by decide) ?_
    refine g_calls hC (st := []) (ctJ9_max_7cf53 x F a3 (0 : Int32) M) msJ9_max_7cf53 m_340 (by decide) rfl rfl (Nat.le_of_ble_eq_true rfl) dJ1_indexOf_4cfef_11 (fun r2 => ?_)
    show GG x f 4 (Qm x f (φI M)) 14 [(0, .ref (x.1 k1)), (1, .int a2), (2, .int a3), (3, .int a4)] [.int r2] M _
    refine g_istore_n hC (lv' := [(0, .ref (x.1 k1)), (1, .int a2), (2, .int r2), (3, .int a4)]) [1, 2, 0, 3] dJ1_indexOf_4cfef_14 rfl (by decide) rfl ?_
    refine g_iload_n hC 3 dJ1_indexOf_4cfef_15 rfl rfl ?_
    refine g_aload_n hC 0 dJ1_indexOf_4cfef_16 rfl rfl ?_
    refine g_tlen hC (n := (Int32.ofNat (rbL k1))) h1 rfl dJ1_indexOf_4cfef_17 ?_
    refine g_calls hC (st := []) (ctJ9_min_7cf53 x F a4 (Int32.ofNat (rbL k1)) M) msJ9_min_7cf53 m_341 (by decide) rfl rfl (Nat.le_of_ble_eq_true rfl) dJ1_indexOf_4cfef_18 (fun r3 => ?_)
    show GG x f 4 (Qm x f (φI M)) 21 [(0, .ref (x.1 k1)), (1, .int a2), (2, .int r2), (3, .int a4)] [.int r3] M _
    refine g_istore_n hC (lv' := [(0, .ref (x.1 k1)), (1, .int a2), (2, .int r2), (3, .int r3)]) [1, 2, 3, 0] dJ1_indexOf_4cfef_21 rfl (by decide) rfl ?_
    refine g_iload_n hC 2 dJ1_indexOf_4cfef_22 rfl rfl ?_
    refine g_iload_n hC 3 dJ1_indexOf_4cfef_23 rfl rfl ?_
    refine g_icmp_lt hC 29 dJ1_indexOf_4cfef_24 (by decide) ?_ ?_
    · refine g_aload_n hC 0 dJ1_indexOf_4cfef_29 rfl rfl ?_
      refine g_iload_n hC 1 dJ1_indexOf_4cfef_30 rfl rfl ?_
      refine g_iload_n hC 2 dJ1_indexOf_4cfef_31 rfl rfl ?_
      refine g_iload_n hC 3 dJ1_indexOf_4cfef_32 rfl rfl ?_
      refine g_calls hC (st := []) (ctJ1_indexOfChar_4cfef x F k1 a2 r2 r3 h1 M) msJ1_indexOfChar_4cfef m_344 (by decide) rfl rfl (Nat.le_of_ble_eq_true rfl) dJ1_indexOf_4cfef_33 (fun r4 => ?_)
      show GG x f 4 (Qm x f (φI M)) 36 [(0, .ref (x.1 k1)), (1, .int a2), (2, .int r2), (3, .int r3)] [.int r4] M _
      exact g_iret hC hm rfl dJ1_indexOf_4cfef_36
    · refine g_iconst hC (v := (-1 : Int32)) dJ1_indexOf_4cfef_27 (by decide) ?_
      exact g_iret hC hm rfl dJ1_indexOf_4cfef_28
  · refine g_iconst hC (v := (-1 : Int32)) dJ1_indexOf_4cfef_7 (by decide) ?_
    exact g_iret hC hm rfl dJ1_indexOf_4cfef_8

def sJ0_indexOf_7cf53 (F : Nat) (k : Nat) (a1 : Int32) (a2 : Int32) (M : Mem) : Option Int32 :=
(sJ0_isLatin1_aae02 F k M).bind (fun r1 =>
if r1 = true then
((sJ0_length_8abf5 F k M).bind (fun r2 =>
(sJ1_indexOf_4cfef F (k + 2) a1 a2 r2 M).bind (fun r3 =>
some r3)))
else
((sJ0_length_8abf5 F k M).bind (fun r4 =>
none)))

theorem mvJ0_indexOf_7cf53 : MV yJ0_indexOf_7cf53 cJ0_indexOf_7cf53 3 (some .int) 2 := ⟨⟨m_319, m_77, by decide, by decide, by decide⟩, m_317, m_318⟩
set_option maxHeartbeats 4000000 in
set_option maxRecDepth 100000 in
theorem ctJ0_indexOf_7cf53 (x : Wx) (F : Nat) (k : Nat) (a1 : Int32) (a2 : Int32) (hk : 64 ≤ k ∧ k < 66) (M : Mem) : Ct x yJ0_indexOf_7cf53 cJ0_indexOf_7cf53 3 (some .int) { frames := 2, cells := 0, slots := 0, locals := 48 } (φI M) [.ref (x.1 k), .int a1, .int a2] M (sJ0_indexOf_7cf53 F k a1 a2 M) := by
  refine ct_of (by decide) (Nat.le_of_ble_eq_true rfl) (fun f hC hm => ?_)
  have hC : Cx x f "java/lang/String" cJ0_indexOf_7cf53 3 { frames := 2, cells := 0, slots := 0, locals := 48 } := hC
  show GG x f 3 (Qm x f (φI M)) 0 [(0, .ref (x.1 k)), (1, .int a1), (2, .int a2)] [] M _
  unfold sJ0_indexOf_7cf53
  refine g_aload_n hC 0 dJ0_indexOf_7cf53_0 rfl rfl ?_
  refine g_callt hC (st := []) hk rfl (ctJ0_isLatin1_aae02 x F k hk M) mvJ0_isLatin1_aae02 m_320 (by decide) rfl rfl (Nat.le_of_ble_eq_true rfl) dJ0_indexOf_7cf53_1 (fun r1 => ?_)
  show GG x f 3 (Qm x f (φI M)) 4 [(0, .ref (x.1 k)), (1, .int a1), (2, .int a2)] [.int (bi r1)] M _
  refine g_ifB_eq hC 23 dJ0_indexOf_7cf53_4 (by decide) ?_ ?_
  · refine g_aload_n hC 0 dJ0_indexOf_7cf53_7 rfl rfl ?_
    refine g_tval hC hk m_1339 dJ0_indexOf_7cf53_8 ?_
    refine g_iload_n hC 1 dJ0_indexOf_7cf53_11 rfl rfl ?_
    refine g_iload_n hC 2 dJ0_indexOf_7cf53_12 rfl rfl ?_
    refine g_aload_n hC 0 dJ0_indexOf_7cf53_13 rfl rfl ?_
    refine g_callt hC (st := [.int a2, .int a1, .ref (x.1 (k + 2))]) hk rfl (ctJ0_length_8abf5 x F k hk M) mvJ0_length_8abf5 m_326 (by decide) rfl rfl (Nat.le_of_ble_eq_true rfl) dJ0_indexOf_7cf53_14 (fun r2 => ?_)
    show GG x f 3 (Qm x f (φI M)) 17 [(0, .ref (x.1 k)), (1, .int a1), (2, .int a2)] [.int r2, .int a2, .int a1, .ref (x.1 (k + 2))] M _
    refine g_calls hC (st := []) (ctJ1_indexOf_4cfef x F (k + 2) a1 a2 r2 (ka_t hk) M) msJ1_indexOf_4cfef m_334 (by decide) rfl rfl (Nat.le_of_ble_eq_true rfl) dJ0_indexOf_7cf53_17 (fun r3 => ?_)
    show GG x f 3 (Qm x f (φI M)) 20 [(0, .ref (x.1 k)), (1, .int a1), (2, .int a2)] [.int r3] M _
    refine g_goto hC 36 dJ0_indexOf_7cf53_20 (by decide) ?_
    exact g_iret hC hm rfl dJ0_indexOf_7cf53_36
  · refine g_aload_n hC 0 dJ0_indexOf_7cf53_23 rfl rfl ?_
    refine g_tval hC hk m_1339 dJ0_indexOf_7cf53_24 ?_
    refine g_iload_n hC 1 dJ0_indexOf_7cf53_27 rfl rfl ?_
    refine g_iload_n hC 2 dJ0_indexOf_7cf53_28 rfl rfl ?_
    refine g_aload_n hC 0 dJ0_indexOf_7cf53_29 rfl rfl ?_
    refine g_callt hC (st := [.int a2, .int a1, .ref (x.1 (k + 2))]) hk rfl (ctJ0_length_8abf5 x F k hk M) mvJ0_length_8abf5 m_326 (by decide) rfl rfl (Nat.le_of_ble_eq_true rfl) dJ0_indexOf_7cf53_30 (fun r4 => ?_)
    show GG x f 3 (Qm x f (φI M)) 33 [(0, .ref (x.1 k)), (1, .int a1), (2, .int a2)] [.int r4, .int a2, .int a1, .ref (x.1 (k + 2))] M _
    exact g_none

def sJ0_indexOf_0f7a4 (F : Nat) (k : Nat) (a1 : Int32) (M : Mem) : Option Int32 :=
(sJ0_indexOf_7cf53 F k a1 (0 : Int32) M).bind (fun r1 =>
some r1)

theorem mvJ0_indexOf_0f7a4 : MV yJ0_indexOf_0f7a4 cJ0_indexOf_0f7a4 2 (some .int) 1 := ⟨⟨m_315, m_77, by decide, by decide, by decide⟩, m_313, m_314⟩
set_option maxHeartbeats 4000000 in
set_option maxRecDepth 100000 in
theorem ctJ0_indexOf_0f7a4 (x : Wx) (F : Nat) (k : Nat) (a1 : Int32) (hk : 64 ≤ k ∧ k < 66) (M : Mem) : Ct x yJ0_indexOf_0f7a4 cJ0_indexOf_0f7a4 2 (some .int) { frames := 3, cells := 0, slots := 0, locals := 70 } (φI M) [.ref (x.1 k), .int a1] M (sJ0_indexOf_0f7a4 F k a1 M) := by
  refine ct_of (by decide) (Nat.le_of_ble_eq_true rfl) (fun f hC hm => ?_)
  have hC : Cx x f "java/lang/String" cJ0_indexOf_0f7a4 2 { frames := 3, cells := 0, slots := 0, locals := 70 } := hC
  show GG x f 2 (Qm x f (φI M)) 0 [(0, .ref (x.1 k)), (1, .int a1)] [] M _
  unfold sJ0_indexOf_0f7a4
  refine g_aload_n hC 0 dJ0_indexOf_0f7a4_0 rfl rfl ?_
  refine g_iload_n hC 1 dJ0_indexOf_0f7a4_1 rfl rfl ?_
  refine g_iconst hC (v := (0 : Int32)) dJ0_indexOf_0f7a4_2 (by decide) ?_
  refine g_callt hC (st := []) hk rfl (ctJ0_indexOf_7cf53 x F k a1 (0 : Int32) hk M) mvJ0_indexOf_7cf53 m_316 (by decide) rfl rfl (Nat.le_of_ble_eq_true rfl) dJ0_indexOf_0f7a4_3 (fun r1 => ?_)
  show GG x f 2 (Qm x f (φI M)) 6 [(0, .ref (x.1 k)), (1, .int a1)] [.int r1] M _
  exact g_iret hC hm rfl dJ0_indexOf_0f7a4_6

def sX1_valueOf (F : Nat) (k : Nat) (a1 : Int32) (a2 : Int32) (M : Mem) : Option Int32 :=
if a1 = (0 : Int32) then
((sX1_figure F a2 (5 : Int32) M).bind (fun r1 =>
some r1))
else if a1 = (1 : Int32) then
(if ¬ (a2 - (48 : Int32)) = (M k 5) then
((sX1_figure F a2 (5 : Int32) M).bind (fun r2 =>
some r2))
else
(some (-1 : Int32)))
else if a1 = (2 : Int32) then
((sX1_figure F a2 (9 : Int32) M).bind (fun r3 =>
some r3))
else if a1 = (3 : Int32) then
((sJ0_indexOf_0f7a4 F 64 (i2c a2) M).bind (fun r4 =>
some r4))
else if a1 = (4 : Int32) then
((sJ0_indexOf_0f7a4 F 65 (i2c a2) M).bind (fun r5 =>
some r5))
else ((sX1_figure F a2 (9 : Int32) M).bind (fun r6 =>
some r6))

theorem mvX1_valueOf : MV yX1_valueOf cX1_valueOf 3 (some .int) 2 := ⟨⟨m_307, m_70, by decide, by decide, by decide⟩, m_306, m_1⟩
set_option maxHeartbeats 4000000 in
set_option maxRecDepth 100000 in
theorem ctX1_valueOf (x : Wx) (F : Nat) (k : Nat) (a1 : Int32) (a2 : Int32) (hk : kd k = 1) (M : Mem) : Ct x yX1_valueOf cX1_valueOf 3 (some .int) { frames := 4, cells := 0, slots := 0, locals := 91 } (φI M) [.ref (x.1 k), .int a1, .int a2] M (sX1_valueOf F k a1 a2 M) := by
  refine ct_of (by decide) (Nat.le_of_ble_eq_true rfl) (fun f hC hm => ?_)
  have hC : Cx x f "AnswersFirst$Entries" cX1_valueOf 3 { frames := 4, cells := 0, slots := 0, locals := 91 } := hC
  show GG x f 3 (Qm x f (φI M)) 0 [(0, .ref (x.1 k)), (1, .int a1), (2, .int a2)] [] M _
  unfold sX1_valueOf
  refine g_iload_n hC 1 dX1_valueOf_0 rfl rfl ?_
  refine g_tcase hC (i := (0 : Int32)) (35) 36 dX1_valueOf_1 (by decide) (by decide) (by decide) (by decide) ?_ (fun hn0 => ?_)
  · refine g_iload_n hC 2 dX1_valueOf_36 rfl rfl ?_
    refine g_iconst hC (v := (5 : Int32)) dX1_valueOf_37 (by decide) ?_
    refine g_calls hC (st := []) (ctX1_figure x F a2 (5 : Int32) M) msX1_figure m_308 (by decide) rfl rfl (Nat.le_of_ble_eq_true rfl) dX1_valueOf_38 (fun r1 => ?_)
    show GG x f 3 (Qm x f (φI M)) 41 [(0, .ref (x.1 k)), (1, .int a1), (2, .int a2)] [.int r1] M _
    exact g_iret hC hm rfl dX1_valueOf_41
  refine g_tcase hC (i := (1 : Int32)) (41) 42 dX1_valueOf_1 (by decide) (by decide) (by decide) (by decide) ?_ (fun hn1 => ?_)
  · refine g_iload_n hC 2 dX1_valueOf_42 rfl rfl ?_
    refine g_bipush hC (v := (48 : Int32)) dX1_valueOf_43 (by decide) ?_
    refine g_isub hC dX1_valueOf_45 ?_
    refine g_aload_n hC 0 dX1_valueOf_46 rfl rfl ?_
    refine g_getI hC cf1 hk 5 (by decide) rfl m_125 dX1_valueOf_47 ?_
    refine g_icmp_ne hC 57 dX1_valueOf_50 (by decide) ?_ ?_
    · refine g_iload_n hC 2 dX1_valueOf_57 rfl rfl ?_
      refine g_iconst hC (v := (5 : Int32)) dX1_valueOf_58 (by decide) ?_
      refine g_calls hC (st := []) (ctX1_figure x F a2 (5 : Int32) M) msX1_figure m_308 (by decide) rfl rfl (Nat.le_of_ble_eq_true rfl) dX1_valueOf_59 (fun r2 => ?_)
      show GG x f 3 (Qm x f (φI M)) 62 [(0, .ref (x.1 k)), (1, .int a1), (2, .int a2)] [.int r2] M _
      exact g_iret hC hm rfl dX1_valueOf_62
    · refine g_iconst hC (v := (-1 : Int32)) dX1_valueOf_53 (by decide) ?_
      refine g_goto hC 62 dX1_valueOf_54 (by decide) ?_
      exact g_iret hC hm rfl dX1_valueOf_62
  refine g_tcase hC (i := (2 : Int32)) (78) 79 dX1_valueOf_1 (by decide) (by decide) (by decide) (by decide) ?_ (fun hn2 => ?_)
  · refine g_iload_n hC 2 dX1_valueOf_79 rfl rfl ?_
    refine g_bipush hC (v := (9 : Int32)) dX1_valueOf_80 (by decide) ?_
    refine g_calls hC (st := []) (ctX1_figure x F a2 (9 : Int32) M) msX1_figure m_308 (by decide) rfl rfl (Nat.le_of_ble_eq_true rfl) dX1_valueOf_82 (fun r3 => ?_)
    show GG x f 3 (Qm x f (φI M)) 85 [(0, .ref (x.1 k)), (1, .int a1), (2, .int a2)] [.int r3] M _
    exact g_iret hC hm rfl dX1_valueOf_85
  refine g_tcase hC (i := (3 : Int32)) (62) 63 dX1_valueOf_1 (by decide) (by decide) (by decide) (by decide) ?_ (fun hn3 => ?_)
  · refine g_ldcS0 hC dX1_valueOf_63 ?_
    refine g_iload_n hC 2 dX1_valueOf_65 rfl rfl ?_
    refine g_i2c hC dX1_valueOf_66 ?_
    refine g_callt hC (st := []) (by decide) rfl (ctJ0_indexOf_0f7a4 x F 64 (i2c a2) (by decide) M) mvJ0_indexOf_0f7a4 m_312 (by decide) rfl rfl (Nat.le_of_ble_eq_true rfl) dX1_valueOf_67 (fun r4 => ?_)
    show GG x f 3 (Qm x f (φI M)) 70 [(0, .ref (x.1 k)), (1, .int a1), (2, .int a2)] [.int r4] M _
    exact g_iret hC hm rfl dX1_valueOf_70
  refine g_tcase hC (i := (4 : Int32)) (70) 71 dX1_valueOf_1 (by decide) (by decide) (by decide) (by decide) ?_ (fun hn4 => ?_)
  · refine g_ldcS1 hC dX1_valueOf_71 ?_
    refine g_iload_n hC 2 dX1_valueOf_73 rfl rfl ?_
    refine g_i2c hC dX1_valueOf_74 ?_
    refine g_callt hC (st := []) (by decide) rfl (ctJ0_indexOf_0f7a4 x F 65 (i2c a2) (by decide) M) mvJ0_indexOf_0f7a4 m_312 (by decide) rfl rfl (Nat.le_of_ble_eq_true rfl) dX1_valueOf_75 (fun r5 => ?_)
    show GG x f 3 (Qm x f (φI M)) 78 [(0, .ref (x.1 k)), (1, .int a1), (2, .int a2)] [.int r5] M _
    exact g_iret hC hm rfl dX1_valueOf_78
  refine g_tout hC 79 dX1_valueOf_1 (q_out5 hn0 hn1 hn2 hn3 hn4) (by decide) ?_
  refine g_iload_n hC 2 dX1_valueOf_79 rfl rfl ?_
  refine g_bipush hC (v := (9 : Int32)) dX1_valueOf_80 (by decide) ?_
  refine g_calls hC (st := []) (ctX1_figure x F a2 (9 : Int32) M) msX1_figure m_308 (by decide) rfl rfl (Nat.le_of_ble_eq_true rfl) dX1_valueOf_82 (fun r6 => ?_)
  show GG x f 3 (Qm x f (φI M)) 85 [(0, .ref (x.1 k)), (1, .int a1), (2, .int a2)] [.int r6] M _
  exact g_iret hC hm rfl dX1_valueOf_85

def sX1_keep (F : Nat) (k : Nat) (a1 : Int32) (a2 : Int32) (M : Mem) : Option Mem :=
nm (((M k 3) * (6 : Int32)) + a1) (fun v1 =>
if v1 < 0 then
(some M)
else
(if v1 < (60 : Int32) then
(nm (fun (q2 : Int32) =>
nm (fun (q4 : Int32) =>
ib v1 60 (
nm (st2 M (k + 3) (ix v1) q4) (fun M6 =>
nm (fun (q7 : Int32) =>
nm (st2 M6 k 5 q7) (fun M9 =>
some M9)) (fun J8 =>
if ¬ a1 = 0 then
(J8 (M6 k 5))
else
(J8 a2))))) (fun J5 =>
if q2 = 0 then
(J5 a2)
else
(ib v1 60 (
J5 (((10 : Int32) * (M (k + 3) (ix v1))) + a2))))) (fun J3 =>
nm (J3 (0 : Int32)) (fun J10 =>
if ¬ a1 = (2 : Int32) then
(J10)
else
(if (M k 4) ≤ 0 then
(J10)
else
(if (Int32.ofNat (roL (fm k))) < (M k 4) then
(J10)
else
(ib ((M k 4) - (1 : Int32)) (roL (fm k)) (
if ¬ (roI (fm k) (ix ((M k 4) - (1 : Int32)))) = (2 : Int32) then
(J10)
else
(J3 (1 : Int32)))))))))
else
(some M)))

theorem mvX1_keep : MV yX1_keep cX1_keep 5 none 2 := ⟨⟨m_400, m_70, by decide, by decide, by decide⟩, m_399, m_2⟩
set_option maxHeartbeats 4000000 in
set_option maxRecDepth 100000 in
theorem ctX1_keep (x : Wx) (F : Nat) (k : Nat) (a1 : Int32) (a2 : Int32) (hk : kd k = 1) (M : Mem) : Ct x yX1_keep cX1_keep 5 none { frames := 0, cells := 0, slots := 0, locals := 0 } φM [.ref (x.1 k), .int a1, .int a2] M (sX1_keep F k a1 a2 M) := by
  refine ct_of (by decide) (Nat.le_of_ble_eq_true rfl) (fun f hC hm => ?_)
  have hC : Cx x f "AnswersFirst$Entries" cX1_keep 5 { frames := 0, cells := 0, slots := 0, locals := 0 } := hC
  show GG x f 5 (Qm x f φM) 0 [(0, .ref (x.1 k)), (1, .int a1), (2, .int a2)] [] M _
  unfold sX1_keep
  refine g_aload_n hC 0 dX1_keep_0 rfl rfl ?_
  refine g_getI hC cf1 hk 3 (by decide) rfl m_123 dX1_keep_1 ?_
  refine g_bipush hC (v := (6 : Int32)) dX1_keep_4 (by decide) ?_
  refine g_imul hC dX1_keep_6 ?_
  refine g_iload_n hC 1 dX1_keep_7 rfl rfl ?_
  refine g_iadd hC dX1_keep_8 ?_
  refine g_top (fun v1 => ?_)
  show GG x f 5 (Qm x f φM) 9 [(0, .ref (x.1 k)), (1, .int a1), (2, .int a2)] [.int v1] M _
  refine g_istore_n hC (lv' := [(0, .ref (x.1 k)), (1, .int a1), (2, .int a2), (3, .int v1)]) [1, 2, 3, 0] dX1_keep_9 rfl (by decide) rfl ?_
  refine g_iload_n hC 3 dX1_keep_10 rfl rfl ?_
  refine g_if_lt hC 23 dX1_keep_11 (by decide) ?_ ?_
  · exact g_vret hC hm rfl dX1_keep_23
  · refine g_iload_n hC 3 dX1_keep_14 rfl rfl ?_
    refine g_aload_n hC 0 dX1_keep_15 rfl rfl ?_
    refine g_getR hC cf1 (t := (k + 3)) hk 1 (by decide) rfl m_121 dX1_keep_16 ?_
    refine g_alen hC (n := (60 : Int32)) 9 0 (kp_E hk) (by decide) (by rw [lp_E hk]; rfl) dX1_keep_19 ?_
    refine g_icmp_lt hC 24 dX1_keep_20 (by decide) ?_ ?_
    · refine g_iload_n hC 1 dX1_keep_24 rfl rfl ?_
      refine g_iconst hC (v := (2 : Int32)) dX1_keep_25 (by decide) ?_
      refine g_nm (fun (J3 : Int32 → Option Mem) => ∀ (q2 : Int32), GG x f 5 (Qm x f φM) 68 [(0, .ref (x.1 k)), (1, .int a1), (2, .int a2), (3, .int v1)] [.int q2] M (J3 q2)) (fun q2 => ?_) (fun J3 hJ3 => ?_)
      · show GG x f 5 (Qm x f φM) 68 [(0, .ref (x.1 k)), (1, .int a1), (2, .int a2), (3, .int v1)] [.int q2] M _
        refine g_istore hC (lv' := [(0, .ref (x.1 k)), (1, .int a1), (2, .int a2), (3, .int v1), (4, .int q2)]) [1, 2, 3, 4, 0] dX1_keep_68 (by decide) rfl ?_
        refine g_aload_n hC 0 dX1_keep_70 rfl rfl ?_
        refine g_getR hC cf1 (t := (k + 3)) hk 1 (by decide) rfl m_121 dX1_keep_71 ?_
        refine g_iload_n hC 3 dX1_keep_74 rfl rfl ?_
        refine g_iload hC 4 dX1_keep_75 rfl ?_
        refine g_nm (fun (J5 : Int32 → Option Mem) => ∀ (q4 : Int32), GG x f 5 (Qm x f φM) 95 [(0, .ref (x.1 k)), (1, .int a1), (2, .int a2)] [.int q4, .int v1, .ref (x.1 (k + 3))] M (J5 q4)) (fun q4 => ?_) (fun J5 hJ5 => ?_)
        · show GG x f 5 (Qm x f φM) 95 [(0, .ref (x.1 k)), (1, .int a1), (2, .int a2)] [.int q4, .int v1, .ref (x.1 (k + 3))] M _
          refine g_iast hC (kp_E hk) (lp_E hk) dX1_keep_95 (fun M6 => ?_)
          show GG x f 5 (Qm x f φM) 96 [(0, .ref (x.1 k)), (1, .int a1), (2, .int a2)] [] M6 _
          refine g_aload_n hC 0 dX1_keep_96 rfl rfl ?_
          refine g_iload_n hC 1 dX1_keep_97 rfl rfl ?_
          refine g_nm (fun (J8 : Int32 → Option Mem) => ∀ (q7 : Int32), GG x f 5 (Qm x f φM) 109 [] [.int q7, .ref (x.1 k)] M6 (J8 q7)) (fun q7 => ?_) (fun J8 hJ8 => ?_)
          · show GG x f 5 (Qm x f φM) 109 [] [.int q7, .ref (x.1 k)] M6 _
            refine g_put hC cf1 hk 5 (by decide) rfl m_125 rfl rfl rfl dX1_keep_109 (fun M9 => ?_)
            show GG x f 5 (Qm x f φM) 112 [] [] M9 _
            exact g_vret hC hm rfl dX1_keep_112
          refine g_if_ne hC 105 dX1_keep_98 (by decide) ?_ ?_
          · refine g_aload_n hC 0 dX1_keep_105 rfl rfl ?_
            refine g_getI hC cf1 hk 5 (by decide) rfl m_125 dX1_keep_106 ?_
            refine g_lv (lv' := []) [] rfl ?_
            exact hJ8 (M6 k 5)
          · refine g_iload_n hC 2 dX1_keep_101 rfl rfl ?_
            refine g_goto hC 109 dX1_keep_102 (by decide) ?_
            refine g_lv (lv' := []) [] rfl ?_
            exact hJ8 a2
        refine g_if_eq hC 94 dX1_keep_77 (by decide) ?_ ?_
        · refine g_iload_n hC 2 dX1_keep_94 rfl rfl ?_
          refine g_lv (lv' := [(0, .ref (x.1 k)), (1, .int a1), (2, .int a2)]) [0, 1, 2] rfl ?_
          exact hJ5 a2
        · refine g_bipush hC (v := (10 : Int32)) dX1_keep_80 (by decide) ?_
          refine g_aload_n hC 0 dX1_keep_82 rfl rfl ?_
          refine g_getR hC cf1 (t := (k + 3)) hk 1 (by decide) rfl m_121 dX1_keep_83 ?_
          refine g_iload_n hC 3 dX1_keep_86 rfl rfl ?_
          refine g_iald hC (kp_E hk) (lp_E hk) dX1_keep_87 ?_
          refine g_imul hC dX1_keep_88 ?_
          refine g_iload_n hC 2 dX1_keep_89 rfl rfl ?_
          refine g_iadd hC dX1_keep_90 ?_
          refine g_goto hC 95 dX1_keep_91 (by decide) ?_
          refine g_lv (lv' := [(0, .ref (x.1 k)), (1, .int a1), (2, .int a2)]) [0, 1, 2] rfl ?_
          exact hJ5 (((10 : Int32) * (M (k + 3) (ix v1))) + a2)
      refine g_nm (fun (J10 : Option Mem) => GG x f 5 (Qm x f φM) 67 [(0, .ref (x.1 k)), (1, .int a1), (2, .int a2), (3, .int v1)] [] M J10) ?_ (fun J10 hJ10 => ?_)
      · show GG x f 5 (Qm x f φM) 67 [(0, .ref (x.1 k)), (1, .int a1), (2, .int a2), (3, .int v1)] [] M _
        refine g_iconst hC (v := (0 : Int32)) dX1_keep_67 (by decide) ?_
        exact hJ3 (0 : Int32)
      refine g_icmp_ne hC 67 dX1_keep_26 (by decide) ?_ ?_
      · exact hJ10
      · refine g_aload_n hC 0 dX1_keep_29 rfl rfl ?_
        refine g_getI hC cf1 hk 4 (by decide) rfl m_124 dX1_keep_30 ?_
        refine g_if_le hC 67 dX1_keep_33 (by decide) ?_ ?_
        · exact hJ10
        · refine g_aload_n hC 0 dX1_keep_36 rfl rfl ?_
          refine g_getI hC cf1 hk 4 (by decide) rfl m_124 dX1_keep_37 ?_
          refine g_aload_n hC 0 dX1_keep_40 rfl rfl ?_
          refine g_getR hC cf1 (t := (fm k)) hk 0 (by decide) rfl m_120 dX1_keep_41 ?_
          refine g_rolen hC (n := (Int32.ofNat (roL (fm k)))) (kf_E k) rfl dX1_keep_44 ?_
          refine g_icmp_gt hC 67 dX1_keep_45 (by decide) ?_ ?_
          · exact hJ10
          · refine g_aload_n hC 0 dX1_keep_48 rfl rfl ?_
            refine g_getR hC cf1 (t := (fm k)) hk 0 (by decide) rfl m_120 dX1_keep_49 ?_
            refine g_aload_n hC 0 dX1_keep_52 rfl rfl ?_
            refine g_getI hC cf1 hk 4 (by decide) rfl m_124 dX1_keep_53 ?_
            refine g_iconst hC (v := (1 : Int32)) dX1_keep_56 (by decide) ?_
            refine g_isub hC dX1_keep_57 ?_
            refine g_roald hC (kf_E k) rfl dX1_keep_58 ?_
            refine g_iconst hC (v := (2 : Int32)) dX1_keep_59 (by decide) ?_
            refine g_icmp_ne hC 67 dX1_keep_60 (by decide) ?_ ?_
            · exact hJ10
            · refine g_iconst hC (v := (1 : Int32)) dX1_keep_63 (by decide) ?_
              refine g_goto hC 68 dX1_keep_64 (by decide) ?_
              exact hJ3 (1 : Int32)
    · exact g_vret hC hm rfl dX1_keep_23

def sX1_goesOnWith (F : Nat) (k : Nat) (a1 : Int32) (M : Mem) : Option (Bool × Mem) :=
if (M k 4) < (Int32.ofNat (roL (fm k))) then
(if (M k 4) < 0 then
(some (false, M))
else
(if (M k 3) < 0 then
(some (false, M))
else
(if (M k 3) < (10 : Int32) then
(ib (M k 4) (roL (fm k)) (
nm (roI (fm k) (ix (M k 4))) (fun v1 =>
(sX1_valueOf F k v1 a1 M).bind (fun r2 =>
if ¬ r2 = (-1 : Int32) then
((sX1_keep F k v1 r2 M).bind (fun r3 =>
nm (st2 r3 k 4 ((r3 k 4) + (1 : Int32))) (fun M4 =>
if ¬ v1 = (4 : Int32) then
(some (true, M4))
else
(if (2 : Int32) ≤ r2 then
(some (true, M4))
else
((sX1_keep F k (5 : Int32) (-1 : Int32) M4).bind (fun r5 =>
nm (st2 r5 k 4 (Int32.ofNat (roL (fm k)))) (fun M6 =>
some (true, M6))))))))
else
(some (false, M))))))
else
(some (false, M)))))
else
(nm (st2 M k 3 ((M k 3) + (1 : Int32))) (fun M7 =>
nm (st2 M7 k 4 (0 : Int32)) (fun M8 =>
if ¬ a1 = (59 : Int32) then
(some (false, M8))
else
(some (true, M8)))))

theorem mvX1_goesOnWith : MV yX1_goesOnWith cX1_goesOnWith 4 (some .boolean) 1 := ⟨⟨m_303, m_70, by decide, by decide, by decide⟩, m_302, m_0⟩
set_option maxHeartbeats 4000000 in
set_option maxRecDepth 100000 in
theorem ctX1_goesOnWith (x : Wx) (F : Nat) (k : Nat) (a1 : Int32) (hk : kd k = 1) (M : Mem) : Ct x yX1_goesOnWith cX1_goesOnWith 4 (some .boolean) { frames := 5, cells := 0, slots := 0, locals := 113 } φBM [.ref (x.1 k), .int a1] M (sX1_goesOnWith F k a1 M) := by
  refine ct_of (by decide) (Nat.le_of_ble_eq_true rfl) (fun f hC hm => ?_)
  have hC : Cx x f "AnswersFirst$Entries" cX1_goesOnWith 4 { frames := 5, cells := 0, slots := 0, locals := 113 } := hC
  show GG x f 4 (Qm x f φBM) 0 [(0, .ref (x.1 k)), (1, .int a1)] [] M _
  unfold sX1_goesOnWith
  refine g_aload_n hC 0 dX1_goesOnWith_0 rfl rfl ?_
  refine g_getI hC cf1 hk 4 (by decide) rfl m_124 dX1_goesOnWith_1 ?_
  refine g_aload_n hC 0 dX1_goesOnWith_4 rfl rfl ?_
  refine g_getR hC cf1 (t := (fm k)) hk 0 (by decide) rfl m_120 dX1_goesOnWith_5 ?_
  refine g_rolen hC (n := (Int32.ofNat (roL (fm k)))) (kf_E k) rfl dX1_goesOnWith_8 ?_
  refine g_icmp_lt hC 39 dX1_goesOnWith_9 (by decide) ?_ ?_
  · refine g_aload_n hC 0 dX1_goesOnWith_39 rfl rfl ?_
    refine g_getI hC cf1 hk 4 (by decide) rfl m_124 dX1_goesOnWith_40 ?_
    refine g_if_lt hC 62 dX1_goesOnWith_43 (by decide) ?_ ?_
    · refine g_iconst hC (v := (0 : Int32)) dX1_goesOnWith_62 (by decide) ?_
      exact g_zret hC hm rfl rfl dX1_goesOnWith_63
    · refine g_aload_n hC 0 dX1_goesOnWith_46 rfl rfl ?_
      refine g_getI hC cf1 hk 3 (by decide) rfl m_123 dX1_goesOnWith_47 ?_
      refine g_if_lt hC 62 dX1_goesOnWith_50 (by decide) ?_ ?_
      · refine g_iconst hC (v := (0 : Int32)) dX1_goesOnWith_62 (by decide) ?_
        exact g_zret hC hm rfl rfl dX1_goesOnWith_63
      · refine g_aload_n hC 0 dX1_goesOnWith_53 rfl rfl ?_
        refine g_getI hC cf1 hk 3 (by decide) rfl m_123 dX1_goesOnWith_54 ?_
        refine g_bipush hC (v := (10 : Int32)) dX1_goesOnWith_57 (by decide) ?_
        refine g_icmp_lt hC 64 dX1_goesOnWith_59 (by decide) ?_ ?_
        · refine g_aload_n hC 0 dX1_goesOnWith_64 rfl rfl ?_
          refine g_getR hC cf1 (t := (fm k)) hk 0 (by decide) rfl m_120 dX1_goesOnWith_65 ?_
          refine g_aload_n hC 0 dX1_goesOnWith_68 rfl rfl ?_
          refine g_getI hC cf1 hk 4 (by decide) rfl m_124 dX1_goesOnWith_69 ?_
          refine g_roald hC (kf_E k) rfl dX1_goesOnWith_72 ?_
          refine g_top (fun v1 => ?_)
          show GG x f 4 (Qm x f φBM) 73 [(0, .ref (x.1 k)), (1, .int a1)] [.int v1] M _
          refine g_istore_n hC (lv' := [(0, .ref (x.1 k)), (1, .int a1), (2, .int v1)]) [1, 2, 0] dX1_goesOnWith_73 rfl (by decide) rfl ?_
          refine g_aload_n hC 0 dX1_goesOnWith_74 rfl rfl ?_
          refine g_iload_n hC 2 dX1_goesOnWith_75 rfl rfl ?_
          refine g_iload_n hC 1 dX1_goesOnWith_76 rfl rfl ?_
          refine g_callv hC (st := []) (c := 1) rfl (by decide) hk (ctX1_valueOf x F k v1 a1 hk M) mvX1_valueOf m_304 (by decide) rfl rfl (Nat.le_of_ble_eq_true rfl) dX1_goesOnWith_77 (fun r2 => ?_)
          show GG x f 4 (Qm x f φBM) 80 [(0, .ref (x.1 k)), (1, .int a1), (2, .int v1)] [.int r2] M _
          refine g_istore_n hC (lv' := [(0, .ref (x.1 k)), (2, .int v1), (3, .int r2)]) [1, 3, 0] dX1_goesOnWith_80 rfl (by decide) rfl ?_
          refine g_iload_n hC 2 dX1_goesOnWith_81 rfl rfl ?_
          refine g_iconst hC (v := (-1 : Int32)) dX1_goesOnWith_82 (by decide) ?_
          refine g_icmp_ne hC 88 dX1_goesOnWith_83 (by decide) ?_ ?_
          · refine g_aload_n hC 0 dX1_goesOnWith_88 rfl rfl ?_
            refine g_iload_n hC 1 dX1_goesOnWith_89 rfl rfl ?_
            refine g_iload_n hC 2 dX1_goesOnWith_90 rfl rfl ?_
            refine g_callv hC (st := []) (c := 1) rfl (by decide) hk (ctX1_keep x F k v1 r2 hk M) mvX1_keep m_397 (by decide) rfl rfl (Nat.le_of_ble_eq_true rfl) dX1_goesOnWith_91 (fun r3 => ?_)
            show GG x f 4 (Qm x f φBM) 94 [(0, .ref (x.1 k)), (2, .int v1), (3, .int r2)] [] r3 _
            refine g_aload_n hC 0 dX1_goesOnWith_94 rfl rfl ?_
            refine g_dup hC dX1_goesOnWith_95 rfl ?_
            refine g_getI hC cf1 hk 4 (by decide) rfl m_124 dX1_goesOnWith_96 ?_
            refine g_iconst hC (v := (1 : Int32)) dX1_goesOnWith_99 (by decide) ?_
            refine g_iadd hC dX1_goesOnWith_100 ?_
            refine g_put hC cf1 hk 4 (by decide) rfl m_124 rfl rfl rfl dX1_goesOnWith_101 (fun M4 => ?_)
            show GG x f 4 (Qm x f φBM) 104 [(0, .ref (x.1 k)), (2, .int v1), (3, .int r2)] [] M4 _
            refine g_iload_n hC 1 dX1_goesOnWith_104 rfl rfl ?_
            refine g_iconst hC (v := (4 : Int32)) dX1_goesOnWith_105 (by decide) ?_
            refine g_icmp_ne hC 129 dX1_goesOnWith_106 (by decide) ?_ ?_
            · refine g_iconst hC (v := (1 : Int32)) dX1_goesOnWith_129 (by decide) ?_
              exact g_zret hC hm rfl rfl dX1_goesOnWith_130
            · refine g_iload_n hC 2 dX1_goesOnWith_109 rfl rfl ?_
              refine g_iconst hC (v := (2 : Int32)) dX1_goesOnWith_110 (by decide) ?_
              refine g_icmp_ge hC 129 dX1_goesOnWith_111 (by decide) ?_ ?_
              · refine g_iconst hC (v := (1 : Int32)) dX1_goesOnWith_129 (by decide) ?_
                exact g_zret hC hm rfl rfl dX1_goesOnWith_130
              · refine g_aload_n hC 0 dX1_goesOnWith_114 rfl rfl ?_
                refine g_iconst hC (v := (5 : Int32)) dX1_goesOnWith_115 (by decide) ?_
                refine g_iconst hC (v := (-1 : Int32)) dX1_goesOnWith_116 (by decide) ?_
                refine g_callv hC (st := []) (c := 1) rfl (by decide) hk (ctX1_keep x F k (5 : Int32) (-1 : Int32) hk M4) mvX1_keep m_397 (by decide) rfl rfl (Nat.le_of_ble_eq_true rfl) dX1_goesOnWith_117 (fun r5 => ?_)
                show GG x f 4 (Qm x f φBM) 120 [(0, .ref (x.1 k)), (2, .int v1), (3, .int r2)] [] r5 _
                refine g_aload_n hC 0 dX1_goesOnWith_120 rfl rfl ?_
                refine g_aload_n hC 0 dX1_goesOnWith_121 rfl rfl ?_
                refine g_getR hC cf1 (t := (fm k)) hk 0 (by decide) rfl m_120 dX1_goesOnWith_122 ?_
                refine g_rolen hC (n := (Int32.ofNat (roL (fm k)))) (kf_E k) rfl dX1_goesOnWith_125 ?_
                refine g_put hC cf1 hk 4 (by decide) rfl m_124 rfl rfl rfl dX1_goesOnWith_126 (fun M6 => ?_)
                show GG x f 4 (Qm x f φBM) 129 [(0, .ref (x.1 k)), (2, .int v1), (3, .int r2)] [] M6 _
                refine g_iconst hC (v := (1 : Int32)) dX1_goesOnWith_129 (by decide) ?_
                exact g_zret hC hm rfl rfl dX1_goesOnWith_130
          · refine g_iconst hC (v := (0 : Int32)) dX1_goesOnWith_86 (by decide) ?_
            exact g_zret hC hm rfl rfl dX1_goesOnWith_87
        · refine g_iconst hC (v := (0 : Int32)) dX1_goesOnWith_62 (by decide) ?_
          exact g_zret hC hm rfl rfl dX1_goesOnWith_63
  · refine g_aload_n hC 0 dX1_goesOnWith_12 rfl rfl ?_
    refine g_dup hC dX1_goesOnWith_13 rfl ?_
    refine g_getI hC cf1 hk 3 (by decide) rfl m_123 dX1_goesOnWith_14 ?_
    refine g_iconst hC (v := (1 : Int32)) dX1_goesOnWith_17 (by decide) ?_
    refine g_iadd hC dX1_goesOnWith_18 ?_
    refine g_put hC cf1 hk 3 (by decide) rfl m_123 rfl rfl rfl dX1_goesOnWith_19 (fun M7 => ?_)
    show GG x f 4 (Qm x f φBM) 22 [(0, .ref (x.1 k)), (1, .int a1)] [] M7 _
    refine g_aload_n hC 0 dX1_goesOnWith_22 rfl rfl ?_
    refine g_iconst hC (v := (0 : Int32)) dX1_goesOnWith_23 (by decide) ?_
    refine g_put hC cf1 hk 4 (by decide) rfl m_124 rfl rfl rfl dX1_goesOnWith_24 (fun M8 => ?_)
    show GG x f 4 (Qm x f φBM) 27 [(0, .ref (x.1 k)), (1, .int a1)] [] M8 _
    refine g_iload_n hC 1 dX1_goesOnWith_27 rfl rfl ?_
    refine g_bipush hC (v := (59 : Int32)) dX1_goesOnWith_28 (by decide) ?_
    refine g_icmp_ne hC 37 dX1_goesOnWith_30 (by decide) ?_ ?_
    · refine g_iconst hC (v := (0 : Int32)) dX1_goesOnWith_37 (by decide) ?_
      exact g_zret hC hm rfl rfl dX1_goesOnWith_38
    · refine g_iconst hC (v := (1 : Int32)) dX1_goesOnWith_33 (by decide) ?_
      refine g_goto hC 38 dX1_goesOnWith_34 (by decide) ?_
      exact g_zret hC hm rfl rfl dX1_goesOnWith_38

def sX1_take (F : Nat) (k : Nat) (a1 : Int32) (M : Mem) : Option Mem :=
nm (fun (M1 : Mem) =>
nm (st2 M1 k 2 ((M1 k 2) + (1 : Int32))) (fun M3 =>
nm (fun (q4 : Int32) =>
nm (fun (q6 : Int32) =>
nm (st2 M3 k 6 q6) (fun M8 =>
some M8)) (fun J7 =>
if q4 = 0 then
(J7 (0 : Int32))
else
(J7 ((M3 k 3) + (1 : Int32))))) (fun J5 =>
nm (J5 (0 : Int32)) (fun J9 =>
if ¬ (M3 k 7) = (-1 : Int32) then
(J9)
else
(if ¬ (M3 k 4) = (Int32.ofNat (roL (fm k))) then
(J9)
else
(J5 (1 : Int32))))))) (fun J2 =>
if ¬ (M k 7) = (-1 : Int32) then
(J2 M)
else
((sX1_goesOnWith F k a1 M).bind (fun r10 =>
if r10.1 = true then
(J2 r10.2)
else
(nm (st2 r10.2 k 7 (r10.2 k 2)) (fun M11 =>
J2 M11)))))

theorem mvX1_take : MV yX1_take cX1_take 3 none 1 := ⟨⟨m_299, m_70, by decide, by decide, by decide⟩, m_297, m_298⟩
set_option maxHeartbeats 4000000 in
set_option maxRecDepth 100000 in
theorem ctX1_take (x : Wx) (F : Nat) (k : Nat) (a1 : Int32) (hk : kd k = 1) (M : Mem) : Ct x yX1_take cX1_take 3 none { frames := 6, cells := 0, slots := 0, locals := 136 } φM [.ref (x.1 k), .int a1] M (sX1_take F k a1 M) := by
  refine ct_of (by decide) (Nat.le_of_ble_eq_true rfl) (fun f hC hm => ?_)
  have hC : Cx x f "AnswersFirst$Entries" cX1_take 3 { frames := 6, cells := 0, slots := 0, locals := 136 } := hC
  show GG x f 3 (Qm x f φM) 0 [(0, .ref (x.1 k)), (1, .int a1)] [] M _
  unfold sX1_take
  refine g_aload_n hC 0 dX1_take_0 rfl rfl ?_
  refine g_getI hC cf1 hk 7 (by decide) rfl m_127 dX1_take_1 ?_
  refine g_iconst hC (v := (-1 : Int32)) dX1_take_4 (by decide) ?_
  refine g_nm (fun (J2 : Mem → Option Mem) => ∀ (M1 : Mem), GG x f 3 (Qm x f φM) 24 [(0, .ref (x.1 k))] [] M1 (J2 M1)) (fun M1 => ?_) (fun J2 hJ2 => ?_)
  · show GG x f 3 (Qm x f φM) 24 [(0, .ref (x.1 k))] [] M1 _
    refine g_aload_n hC 0 dX1_take_24 rfl rfl ?_
    refine g_dup hC dX1_take_25 rfl ?_
    refine g_getI hC cf1 hk 2 (by decide) rfl m_122 dX1_take_26 ?_
    refine g_iconst hC (v := (1 : Int32)) dX1_take_29 (by decide) ?_
    refine g_iadd hC dX1_take_30 ?_
    refine g_put hC cf1 hk 2 (by decide) rfl m_122 rfl rfl rfl dX1_take_31 (fun M3 => ?_)
    show GG x f 3 (Qm x f φM) 34 [(0, .ref (x.1 k))] [] M3 _
    refine g_aload_n hC 0 dX1_take_34 rfl rfl ?_
    refine g_getI hC cf1 hk 7 (by decide) rfl m_127 dX1_take_35 ?_
    refine g_iconst hC (v := (-1 : Int32)) dX1_take_38 (by decide) ?_
    refine g_nm (fun (J5 : Int32 → Option Mem) => ∀ (q4 : Int32), GG x f 3 (Qm x f φM) 59 [(0, .ref (x.1 k))] [.int q4] M3 (J5 q4)) (fun q4 => ?_) (fun J5 hJ5 => ?_)
    · show GG x f 3 (Qm x f φM) 59 [(0, .ref (x.1 k))] [.int q4] M3 _
      refine g_istore_n hC (lv' := [(0, .ref (x.1 k)), (2, .int q4)]) [1, 0] dX1_take_59 rfl (by decide) rfl ?_
      refine g_aload_n hC 0 dX1_take_60 rfl rfl ?_
      refine g_iload_n hC 1 dX1_take_61 rfl rfl ?_
      refine g_nm (fun (J7 : Int32 → Option Mem) => ∀ (q6 : Int32), GG x f 3 (Qm x f φM) 75 [] [.int q6, .ref (x.1 k)] M3 (J7 q6)) (fun q6 => ?_) (fun J7 hJ7 => ?_)
      · show GG x f 3 (Qm x f φM) 75 [] [.int q6, .ref (x.1 k)] M3 _
        refine g_put hC cf1 hk 6 (by decide) rfl m_126 rfl rfl rfl dX1_take_75 (fun M8 => ?_)
        show GG x f 3 (Qm x f φM) 78 [] [] M8 _
        exact g_vret hC hm rfl dX1_take_78
      refine g_if_eq hC 74 dX1_take_62 (by decide) ?_ ?_
      · refine g_iconst hC (v := (0 : Int32)) dX1_take_74 (by decide) ?_
        refine g_lv (lv' := []) [] rfl ?_
        exact hJ7 (0 : Int32)
      · refine g_aload_n hC 0 dX1_take_65 rfl rfl ?_
        refine g_getI hC cf1 hk 3 (by decide) rfl m_123 dX1_take_66 ?_
        refine g_iconst hC (v := (1 : Int32)) dX1_take_69 (by decide) ?_
        refine g_iadd hC dX1_take_70 ?_
        refine g_goto hC 75 dX1_take_71 (by decide) ?_
        refine g_lv (lv' := []) [] rfl ?_
        exact hJ7 ((M3 k 3) + (1 : Int32))
    refine g_nm (fun (J9 : Option Mem) => GG x f 3 (Qm x f φM) 58 [(0, .ref (x.1 k))] [] M3 J9) ?_ (fun J9 hJ9 => ?_)
    · show GG x f 3 (Qm x f φM) 58 [(0, .ref (x.1 k))] [] M3 _
      refine g_iconst hC (v := (0 : Int32)) dX1_take_58 (by decide) ?_
      exact hJ5 (0 : Int32)
    refine g_icmp_ne hC 58 dX1_take_39 (by decide) ?_ ?_
    · exact hJ9
    · refine g_aload_n hC 0 dX1_take_42 rfl rfl ?_
      refine g_getI hC cf1 hk 4 (by decide) rfl m_124 dX1_take_43 ?_
      refine g_aload_n hC 0 dX1_take_46 rfl rfl ?_
      refine g_getR hC cf1 (t := (fm k)) hk 0 (by decide) rfl m_120 dX1_take_47 ?_
      refine g_rolen hC (n := (Int32.ofNat (roL (fm k)))) (kf_E k) rfl dX1_take_50 ?_
      refine g_icmp_ne hC 58 dX1_take_51 (by decide) ?_ ?_
      · exact hJ9
      · refine g_iconst hC (v := (1 : Int32)) dX1_take_54 (by decide) ?_
        refine g_goto hC 59 dX1_take_55 (by decide) ?_
        exact hJ5 (1 : Int32)
  refine g_icmp_ne hC 24 dX1_take_5 (by decide) ?_ ?_
  · refine g_lv (lv' := [(0, .ref (x.1 k))]) [0] rfl ?_
    exact hJ2 M
  · refine g_aload_n hC 0 dX1_take_8 rfl rfl ?_
    refine g_iload_n hC 1 dX1_take_9 rfl rfl ?_
    refine g_callv hC (st := []) (c := 1) rfl (by decide) hk (ctX1_goesOnWith x F k a1 hk M) mvX1_goesOnWith m_300 (by decide) rfl rfl (Nat.le_of_ble_eq_true rfl) dX1_take_10 (fun r10 => ?_)
    show GG x f 3 (Qm x f φM) 13 [(0, .ref (x.1 k)), (1, .int a1)] [.int (bi r10.1)] r10.2 _
    refine g_ifB_ne hC 24 dX1_take_13 (by decide) ?_ ?_
    · refine g_lv (lv' := [(0, .ref (x.1 k))]) [0] rfl ?_
      exact hJ2 r10.2
    · refine g_aload_n hC 0 dX1_take_16 rfl rfl ?_
      refine g_aload_n hC 0 dX1_take_17 rfl rfl ?_
      refine g_getI hC cf1 hk 2 (by decide) rfl m_122 dX1_take_18 ?_
      refine g_put hC cf1 hk 7 (by decide) rfl m_127 rfl rfl rfl dX1_take_21 (fun M11 => ?_)
      show GG x f 3 (Qm x f φM) 24 [(0, .ref (x.1 k)), (1, .int a1)] [] M11 _
      refine g_lv (lv' := [(0, .ref (x.1 k))]) [0] rfl ?_
      exact hJ2 M11

def sX7_markOld (F : Nat) (M : Mem) : Option Mem :=
nm (st2 M 0 5 (1 : Int32)) (fun M1 =>
nm (st2 M1 0 7 (1 : Int32)) (fun M2 =>
some M2))

theorem mvX7_markOld : MV yX7_markOld cX7_markOld 1 none 0 := ⟨⟨m_404, m_67, by decide, by decide, by decide⟩, m_403, m_3⟩
set_option maxHeartbeats 4000000 in
set_option maxRecDepth 100000 in
theorem ctX7_markOld (x : Wx) (F : Nat) (M : Mem) : Ct x yX7_markOld cX7_markOld 1 none { frames := 0, cells := 0, slots := 0, locals := 0 } φM [.ref (x.1 0)] M (sX7_markOld F M) := by
  refine ct_of (by decide) (Nat.le_of_ble_eq_true rfl) (fun f hC hm => ?_)
  have hC : Cx x f "AnswersFirst" cX7_markOld 1 { frames := 0, cells := 0, slots := 0, locals := 0 } := hC
  show GG x f 1 (Qm x f φM) 0 [(0, .ref (x.1 0))] [] M _
  unfold sX7_markOld
  refine g_aload_n hC 0 dX7_markOld_0 rfl rfl ?_
  refine g_iconst hC (v := (1 : Int32)) dX7_markOld_1 (by decide) ?_
  refine g_put hC cf7 rfl 5 (by decide) rfl m_249 rfl rfl rfl dX7_markOld_2 (fun M1 => ?_)
  show GG x f 1 (Qm x f φM) 5 [(0, .ref (x.1 0))] [] M1 _
  refine g_aload_n hC 0 dX7_markOld_5 rfl rfl ?_
  refine g_iconst hC (v := (1 : Int32)) dX7_markOld_6 (by decide) ?_
  refine g_put hC cf7 rfl 7 (by decide) rfl m_251 rfl rfl rfl dX7_markOld_7 (fun M2 => ?_)
  show GG x f 1 (Qm x f φM) 10 [(0, .ref (x.1 0))] [] M2 _
  exact g_vret hC hm rfl dX7_markOld_10

def sX6_length (F : Nat) (k : Nat) (M : Mem) : Option Int32 :=
some (M k 1)

theorem mvX6_length : MV yX6_length cX6_length 1 (some .int) 0 := ⟨⟨m_408, m_68, by decide, by decide, by decide⟩, m_406, m_407⟩
set_option maxHeartbeats 4000000 in
set_option maxRecDepth 100000 in
theorem ctX6_length (x : Wx) (F : Nat) (k : Nat) (hk : kd k = 6) (M : Mem) : Ct x yX6_length cX6_length 1 (some .int) { frames := 0, cells := 0, slots := 0, locals := 0 } (φI M) [.ref (x.1 k)] M (sX6_length F k M) := by
  refine ct_of (by decide) (Nat.le_of_ble_eq_true rfl) (fun f hC hm => ?_)
  have hC : Cx x f "AnswersFirst$Text" cX6_length 1 { frames := 0, cells := 0, slots := 0, locals := 0 } := hC
  show GG x f 1 (Qm x f (φI M)) 0 [(0, .ref (x.1 k))] [] M _
  unfold sX6_length
  refine g_aload_n hC 0 dX6_length_0 rfl rfl ?_
  refine g_getI hC cf6 hk 1 (by decide) rfl m_104 dX6_length_1 ?_
  exact g_iret hC hm rfl dX6_length_4

def sX7_type (F : Nat) (a1 : Int32) (a2 : Int32) (M : Mem) : Option (Int32 × Mem) :=
(sX7_isOutside F a1 (3 : Int32) M).bind (fun r1 =>
if r1 = true then
(some ((-2 : Int32), M))
else
(if a2 < 0 then
(some ((-2 : Int32), M))
else
(if a2 ≤ (255 : Int32) then
(ib a1 3 (
(sX6_isFull F (1 + 1 + ix a1) M).bind (fun r3 =>
if r3 = true then
(some ((-4 : Int32), M))
else
(ib a1 3 (
(sX6_append F (1 + 1 + ix a1) a2 M).bind (fun r5 =>
ib a1 3 (
(sX1_take F (8 + 1 + ix a1) a2 r5).bind (fun r7 =>
(sX7_markOld F r7).bind (fun r8 =>
ib a1 3 (
(sX6_length F (1 + 1 + ix a1) r8).bind (fun r10 =>
some (r10, r8))))))))))))
else
(some ((-2 : Int32), M)))))

theorem mvX7_type : MV yX7_type cX7_type 3 (some .int) 2 := ⟨⟨m_284, m_67, by decide, by decide, by decide⟩, m_282, m_283⟩
set_option maxHeartbeats 4000000 in
set_option maxRecDepth 100000 in
theorem ctX7_type (x : Wx) (F : Nat) (a1 : Int32) (a2 : Int32) (M : Mem) : Ct x yX7_type cX7_type 3 (some .int) { frames := 7, cells := 0, slots := 0, locals := 158 } φIM [.ref (x.1 0), .int a1, .int a2] M (sX7_type F a1 a2 M) := by
  refine ct_of (by decide) (Nat.le_of_ble_eq_true rfl) (fun f hC hm => ?_)
  have hC : Cx x f "AnswersFirst" cX7_type 3 { frames := 7, cells := 0, slots := 0, locals := 158 } := hC
  show GG x f 3 (Qm x f φIM) 0 [(0, .ref (x.1 0)), (1, .int a1), (2, .int a2)] [] M _
  unfold sX7_type
  refine g_iload_n hC 1 dX7_type_0 rfl rfl ?_
  refine g_iconst hC (v := (3 : Int32)) dX7_type_1 (by decide) ?_
  refine g_calls hC (st := []) (ctX7_isOutside x F a1 (3 : Int32) M) msX7_isOutside m_285 (by decide) rfl rfl (Nat.le_of_ble_eq_true rfl) dX7_type_2 (fun r1 => ?_)
  show GG x f 3 (Qm x f φIM) 5 [(0, .ref (x.1 0)), (1, .int a1), (2, .int a2)] [.int (bi r1)] M _
  refine g_ifB_ne hC 19 dX7_type_5 (by decide) ?_ ?_
  · refine g_bipush hC (v := (-2 : Int32)) dX7_type_19 (by decide) ?_
    exact g_iret hC hm rfl dX7_type_21
  · refine g_iload_n hC 2 dX7_type_8 rfl rfl ?_
    refine g_if_lt hC 19 dX7_type_9 (by decide) ?_ ?_
    · refine g_bipush hC (v := (-2 : Int32)) dX7_type_19 (by decide) ?_
      exact g_iret hC hm rfl dX7_type_21
    · refine g_iload_n hC 2 dX7_type_12 rfl rfl ?_
      refine g_sipush hC (v := (255 : Int32)) dX7_type_13 (by decide) ?_
      refine g_icmp_le hC 22 dX7_type_16 (by decide) ?_ ?_
      · refine g_aload_n hC 0 dX7_type_22 rfl rfl ?_
        refine g_getR hC cf7 (t := 1) rfl 0 (by decide) rfl m_244 dX7_type_23 ?_
        refine g_iload_n hC 1 dX7_type_26 rfl rfl ?_
        refine g_aald hC 14 rfl (by decide) rfl dX7_type_27 (fun hi2 => ?_)
        show GG x f 3 (Qm x f φIM) 28 [(0, .ref (x.1 0)), (1, .int a1), (2, .int a2)] [.ref (x.1 (1 + 1 + ix a1))] M _
        refine g_callv hC (st := []) (c := 6) rfl (by decide) (ka_T hi2) (ctX6_isFull x F (1 + 1 + ix a1) (ka_T hi2) M) mvX6_isFull m_288 (by decide) rfl rfl (Nat.le_of_ble_eq_true rfl) dX7_type_28 (fun r3 => ?_)
        show GG x f 3 (Qm x f φIM) 31 [(0, .ref (x.1 0)), (1, .int a1), (2, .int a2)] [.int (bi r3)] M _
        refine g_ifB_eq hC 37 dX7_type_31 (by decide) ?_ ?_
        · refine g_bipush hC (v := (-4 : Int32)) dX7_type_34 (by decide) ?_
          exact g_iret hC hm rfl dX7_type_36
        · refine g_aload_n hC 0 dX7_type_37 rfl rfl ?_
          refine g_getR hC cf7 (t := 1) rfl 0 (by decide) rfl m_244 dX7_type_38 ?_
          refine g_iload_n hC 1 dX7_type_41 rfl rfl ?_
          refine g_aald hC 14 rfl (by decide) rfl dX7_type_42 (fun hi4 => ?_)
          show GG x f 3 (Qm x f φIM) 43 [(0, .ref (x.1 0)), (1, .int a1), (2, .int a2)] [.ref (x.1 (1 + 1 + ix a1))] M _
          refine g_iload_n hC 2 dX7_type_43 rfl rfl ?_
          refine g_callv hC (st := []) (c := 6) rfl (by decide) (ka_T hi4) (ctX6_append x F (1 + 1 + ix a1) a2 (ka_T hi4) M) mvX6_append m_292 (by decide) rfl rfl (Nat.le_of_ble_eq_true rfl) dX7_type_44 (fun r5 => ?_)
          show GG x f 3 (Qm x f φIM) 47 [(0, .ref (x.1 0)), (1, .int a1), (2, .int a2)] [] r5 _
          refine g_aload_n hC 0 dX7_type_47 rfl rfl ?_
          refine g_getR hC cf7 (t := 8) rfl 1 (by decide) rfl m_245 dX7_type_48 ?_
          refine g_iload_n hC 1 dX7_type_51 rfl rfl ?_
          refine g_aald hC 12 rfl (by decide) rfl dX7_type_52 (fun hi6 => ?_)
          show GG x f 3 (Qm x f φIM) 53 [(0, .ref (x.1 0)), (1, .int a1), (2, .int a2)] [.ref (x.1 (8 + 1 + ix a1))] r5 _
          refine g_iload_n hC 2 dX7_type_53 rfl rfl ?_
          refine g_callv hC (st := []) (c := 1) rfl (by decide) (ka_E hi6) (ctX1_take x F (8 + 1 + ix a1) a2 (ka_E hi6) r5) mvX1_take m_296 (by decide) rfl rfl (Nat.le_of_ble_eq_true rfl) dX7_type_54 (fun r7 => ?_)
          show GG x f 3 (Qm x f φIM) 57 [(0, .ref (x.1 0)), (1, .int a1), (2, .int a2)] [] r7 _
          refine g_aload_n hC 0 dX7_type_57 rfl rfl ?_
          refine g_callv hC (st := []) (c := 7) rfl (by decide) rfl (ctX7_markOld x F r7) mvX7_markOld m_401 (by decide) rfl rfl (Nat.le_of_ble_eq_true rfl) dX7_type_58 (fun r8 => ?_)
          show GG x f 3 (Qm x f φIM) 61 [(0, .ref (x.1 0)), (1, .int a1), (2, .int a2)] [] r8 _
          refine g_aload_n hC 0 dX7_type_61 rfl rfl ?_
          refine g_getR hC cf7 (t := 1) rfl 0 (by decide) rfl m_244 dX7_type_62 ?_
          refine g_iload_n hC 1 dX7_type_65 rfl rfl ?_
          refine g_aald hC 14 rfl (by decide) rfl dX7_type_66 (fun hi9 => ?_)
          show GG x f 3 (Qm x f φIM) 67 [(0, .ref (x.1 0)), (1, .int a1), (2, .int a2)] [.ref (x.1 (1 + 1 + ix a1))] r8 _
          refine g_callv hC (st := []) (c := 6) rfl (by decide) (ka_T hi9) (ctX6_length x F (1 + 1 + ix a1) (ka_T hi9) r8) mvX6_length m_405 (by decide) rfl rfl (Nat.le_of_ble_eq_true rfl) dX7_type_67 (fun r10 => ?_)
          show GG x f 3 (Qm x f φIM) 70 [(0, .ref (x.1 0)), (1, .int a1), (2, .int a2)] [.int r10] r8 _
          exact g_iret hC hm rfl dX7_type_70
      · refine g_bipush hC (v := (-2 : Int32)) dX7_type_19 (by decide) ?_
        exact g_iret hC hm rfl dX7_type_21
end
