section
-- ===== PART A: goes FIRST, ahead of the names: the tables' words, and 'selects' of the private methods out of them =====
/-- a private method of a class that the tables say can be made, by its rows of tables_1 -/
def lw_okq (q : MethodName × Nat) : Prop := (q.1.cls ≠ "java/lang/invoke/MethodHandle" ∧ q.1.cls ≠ "java/lang/invoke/VarHandle") ∧ Cond.instantiable q.1.cls q.2 ∈ tables_1 ∧ Cond.privateMethod q.1 ∈ tables_1 ∧ Cond.instanceMethod q.1 ∈ tables_1
theorem lw_p0 : lw_okq (⟨"BestMenDuel", "deny", "(I)Z"⟩, 20) := ⟨⟨by decide +kernel, by decide +kernel⟩, List.mem_of_getElem? (i := 22) (by decide +kernel), List.mem_of_getElem? (i := 598) (by decide +kernel), List.mem_of_getElem? (i := 599) (by decide +kernel)⟩
theorem lw_p1 : lw_okq (⟨"BestMenDuel", "grant", "()Z"⟩, 20) := ⟨⟨by decide +kernel, by decide +kernel⟩, List.mem_of_getElem? (i := 22) (by decide +kernel), List.mem_of_getElem? (i := 606) (by decide +kernel), List.mem_of_getElem? (i := 607) (by decide +kernel)⟩
theorem lw_p2 : lw_okq (⟨"BestMenDuel", "refuse", "(I)I"⟩, 20) := ⟨⟨by decide +kernel, by decide +kernel⟩, List.mem_of_getElem? (i := 22) (by decide +kernel), List.mem_of_getElem? (i := 634) (by decide +kernel), List.mem_of_getElem? (i := 635) (by decide +kernel)⟩
theorem lw_p3 : lw_okq (⟨"BestMenDuel", "putOnTape", "(I)V"⟩, 20) := ⟨⟨by decide +kernel, by decide +kernel⟩, List.mem_of_getElem? (i := 22) (by decide +kernel), List.mem_of_getElem? (i := 664) (by decide +kernel), List.mem_of_getElem? (i := 665) (by decide +kernel)⟩
theorem lw_p4 : lw_okq (⟨"BestMenDuel$Tokens", "splitOne", "(I)I"⟩, 14) := ⟨⟨by decide +kernel, by decide +kernel⟩, List.mem_of_getElem? (i := 50) (by decide +kernel), List.mem_of_getElem? (i := 684) (by decide +kernel), List.mem_of_getElem? (i := 685) (by decide +kernel)⟩
theorem lw_p5 : lw_okq (⟨"BestMenDuel$Tokens", "endOfWord", "(I)I"⟩, 14) := ⟨⟨by decide +kernel, by decide +kernel⟩, List.mem_of_getElem? (i := 50) (by decide +kernel), List.mem_of_getElem? (i := 691) (by decide +kernel), List.mem_of_getElem? (i := 692) (by decide +kernel)⟩
theorem lw_p6 : lw_okq (⟨"BestMenDuel$Tokens", "endOfNumber", "(I)I"⟩, 14) := ⟨⟨by decide +kernel, by decide +kernel⟩, List.mem_of_getElem? (i := 50) (by decide +kernel), List.mem_of_getElem? (i := 698) (by decide +kernel), List.mem_of_getElem? (i := 699) (by decide +kernel)⟩
theorem lw_p7 : lw_okq (⟨"BestMenDuel$Tokens", "lettersOf", "(II)J"⟩, 14) := ⟨⟨by decide +kernel, by decide +kernel⟩, List.mem_of_getElem? (i := 50) (by decide +kernel), List.mem_of_getElem? (i := 702) (by decide +kernel), List.mem_of_getElem? (i := 703) (by decide +kernel)⟩
theorem lw_p8 : lw_okq (⟨"BestMenDuel$Tokens", "numberOf", "(II)I"⟩, 14) := ⟨⟨by decide +kernel, by decide +kernel⟩, List.mem_of_getElem? (i := 50) (by decide +kernel), List.mem_of_getElem? (i := 706) (by decide +kernel), List.mem_of_getElem? (i := 707) (by decide +kernel)⟩
theorem lw_p9 : lw_okq (⟨"BestMenDuel$DawnReader", "takesPart", "()Z"⟩, 3) := ⟨⟨by decide +kernel, by decide +kernel⟩, List.mem_of_getElem? (i := 158) (by decide +kernel), List.mem_of_getElem? (i := 714) (by decide +kernel), List.mem_of_getElem? (i := 715) (by decide +kernel)⟩
theorem lw_p10 : lw_okq (⟨"BestMenDuel$DawnReader", "takesRule", "(I)Z"⟩, 3) := ⟨⟨by decide +kernel, by decide +kernel⟩, List.mem_of_getElem? (i := 158) (by decide +kernel), List.mem_of_getElem? (i := 718) (by decide +kernel), List.mem_of_getElem? (i := 719) (by decide +kernel)⟩
theorem lw_p11 : lw_okq (⟨"BestMenDuel$DawnReader", "takesThing", "()Z"⟩, 3) := ⟨⟨by decide +kernel, by decide +kernel⟩, List.mem_of_getElem? (i := 158) (by decide +kernel), List.mem_of_getElem? (i := 744) (by decide +kernel), List.mem_of_getElem? (i := 745) (by decide +kernel)⟩
theorem lw_p12 : lw_okq (⟨"BestMenDuel$DawnReader", "takesNewName", "()Z"⟩, 3) := ⟨⟨by decide +kernel, by decide +kernel⟩, List.mem_of_getElem? (i := 158) (by decide +kernel), List.mem_of_getElem? (i := 748) (by decide +kernel), List.mem_of_getElem? (i := 749) (by decide +kernel)⟩
theorem lw_p13 : lw_okq (⟨"BestMenDuel$DawnReader", "takesNumber", "(III)I"⟩, 3) := ⟨⟨by decide +kernel, by decide +kernel⟩, List.mem_of_getElem? (i := 158) (by decide +kernel), List.mem_of_getElem? (i := 764) (by decide +kernel), List.mem_of_getElem? (i := 765) (by decide +kernel)⟩
theorem lw_p14 : lw_okq (⟨"BestMenDuel$DawnReader", "takesMan", "()Z"⟩, 3) := ⟨⟨by decide +kernel, by decide +kernel⟩, List.mem_of_getElem? (i := 158) (by decide +kernel), List.mem_of_getElem? (i := 776) (by decide +kernel), List.mem_of_getElem? (i := 777) (by decide +kernel)⟩
theorem lw_p15 : lw_okq (⟨"BestMenDuel$DawnReader", "takesHeld", "(I)Z"⟩, 3) := ⟨⟨by decide +kernel, by decide +kernel⟩, List.mem_of_getElem? (i := 158) (by decide +kernel), List.mem_of_getElem? (i := 784) (by decide +kernel), List.mem_of_getElem? (i := 785) (by decide +kernel)⟩
def lw_privs_1 : List (MethodName × Nat) := [(⟨"BestMenDuel", "deny", "(I)Z"⟩, 20), (⟨"BestMenDuel", "grant", "()Z"⟩, 20), (⟨"BestMenDuel", "refuse", "(I)I"⟩, 20), (⟨"BestMenDuel", "putOnTape", "(I)V"⟩, 20), (⟨"BestMenDuel$Tokens", "splitOne", "(I)I"⟩, 14), (⟨"BestMenDuel$Tokens", "endOfWord", "(I)I"⟩, 14), (⟨"BestMenDuel$Tokens", "endOfNumber", "(I)I"⟩, 14), (⟨"BestMenDuel$Tokens", "lettersOf", "(II)J"⟩, 14), (⟨"BestMenDuel$Tokens", "numberOf", "(II)I"⟩, 14), (⟨"BestMenDuel$DawnReader", "takesPart", "()Z"⟩, 3), (⟨"BestMenDuel$DawnReader", "takesRule", "(I)Z"⟩, 3), (⟨"BestMenDuel$DawnReader", "takesThing", "()Z"⟩, 3), (⟨"BestMenDuel$DawnReader", "takesNewName", "()Z"⟩, 3), (⟨"BestMenDuel$DawnReader", "takesNumber", "(III)I"⟩, 3), (⟨"BestMenDuel$DawnReader", "takesMan", "()Z"⟩, 3), (⟨"BestMenDuel$DawnReader", "takesHeld", "(I)Z"⟩, 3)]
theorem lw_r1 : ∀ q ∈ lw_privs_1, lw_okq q := List.forall_mem_cons.mpr ⟨lw_p0, List.forall_mem_cons.mpr ⟨lw_p1, List.forall_mem_cons.mpr ⟨lw_p2, List.forall_mem_cons.mpr ⟨lw_p3, List.forall_mem_cons.mpr ⟨lw_p4, List.forall_mem_cons.mpr ⟨lw_p5, List.forall_mem_cons.mpr ⟨lw_p6, List.forall_mem_cons.mpr ⟨lw_p7, List.forall_mem_cons.mpr ⟨lw_p8, List.forall_mem_cons.mpr ⟨lw_p9, List.forall_mem_cons.mpr ⟨lw_p10, List.forall_mem_cons.mpr ⟨lw_p11, List.forall_mem_cons.mpr ⟨lw_p12, List.forall_mem_cons.mpr ⟨lw_p13, List.forall_mem_cons.mpr ⟨lw_p14, List.forall_mem_cons.mpr ⟨lw_p15, fun _ h => absurd h List.not_mem_nil⟩⟩⟩⟩⟩⟩⟩⟩⟩⟩⟩⟩⟩⟩⟩⟩
theorem lw_p16 : lw_okq (⟨"BestMenDuel", "keepFault", "()V"⟩, 20) := ⟨⟨by decide +kernel, by decide +kernel⟩, List.mem_of_getElem? (i := 22) (by decide +kernel), List.mem_of_getElem? (i := 793) (by decide +kernel), List.mem_of_getElem? (i := 794) (by decide +kernel)⟩
theorem lw_p17 : lw_okq (⟨"BestMenDuel", "tell", "(I)I"⟩, 20) := ⟨⟨by decide +kernel, by decide +kernel⟩, List.mem_of_getElem? (i := 22) (by decide +kernel), List.mem_of_getElem? (i := 806) (by decide +kernel), List.mem_of_getElem? (i := 807) (by decide +kernel)⟩
theorem lw_p18 : lw_okq (⟨"BestMenDuel$YearsReader", "takesStep", "(I)Z"⟩, 5) := ⟨⟨by decide +kernel, by decide +kernel⟩, List.mem_of_getElem? (i := 174) (by decide +kernel), List.mem_of_getElem? (i := 822) (by decide +kernel), List.mem_of_getElem? (i := 823) (by decide +kernel)⟩
theorem lw_p19 : lw_okq (⟨"BestMenDuel$YearsReader", "takesRestOf", "(I)Z"⟩, 5) := ⟨⟨by decide +kernel, by decide +kernel⟩, List.mem_of_getElem? (i := 174) (by decide +kernel), List.mem_of_getElem? (i := 834) (by decide +kernel), List.mem_of_getElem? (i := 835) (by decide +kernel)⟩
theorem lw_p20 : lw_okq (⟨"BestMenDuel$YearsReader", "takesMan", "()I"⟩, 5) := ⟨⟨by decide +kernel, by decide +kernel⟩, List.mem_of_getElem? (i := 174) (by decide +kernel), List.mem_of_getElem? (i := 838) (by decide +kernel), List.mem_of_getElem? (i := 839) (by decide +kernel)⟩
theorem lw_p21 : lw_okq (⟨"BestMenDuel$YearsReader", "takesNumber", "(III)Z"⟩, 5) := ⟨⟨by decide +kernel, by decide +kernel⟩, List.mem_of_getElem? (i := 174) (by decide +kernel), List.mem_of_getElem? (i := 844) (by decide +kernel), List.mem_of_getElem? (i := 845) (by decide +kernel)⟩
theorem lw_p22 : lw_okq (⟨"BestMenDuel$YearsReader", "takesTest", "(II)Z"⟩, 5) := ⟨⟨by decide +kernel, by decide +kernel⟩, List.mem_of_getElem? (i := 174) (by decide +kernel), List.mem_of_getElem? (i := 849) (by decide +kernel), List.mem_of_getElem? (i := 850) (by decide +kernel)⟩
theorem lw_p23 : lw_okq (⟨"BestMenDuel$YearsReader", "takesCompare", "(I)Z"⟩, 5) := ⟨⟨by decide +kernel, by decide +kernel⟩, List.mem_of_getElem? (i := 174) (by decide +kernel), List.mem_of_getElem? (i := 853) (by decide +kernel), List.mem_of_getElem? (i := 854) (by decide +kernel)⟩
theorem lw_p24 : lw_okq (⟨"BestMenDuel$YearsReader", "takesThing", "()I"⟩, 5) := ⟨⟨by decide +kernel, by decide +kernel⟩, List.mem_of_getElem? (i := 174) (by decide +kernel), List.mem_of_getElem? (i := 859) (by decide +kernel), List.mem_of_getElem? (i := 860) (by decide +kernel)⟩
theorem lw_p25 : lw_okq (⟨"BestMenDuel", "tellFound", "(I)I"⟩, 20) := ⟨⟨by decide +kernel, by decide +kernel⟩, List.mem_of_getElem? (i := 22) (by decide +kernel), List.mem_of_getElem? (i := 916) (by decide +kernel), List.mem_of_getElem? (i := 917) (by decide +kernel)⟩
theorem lw_p26 : lw_okq (⟨"BestMenDuel$Bout", "enter", "(LBestMenDuel$Dawn;II)V"⟩, 13) := ⟨⟨by decide +kernel, by decide +kernel⟩, List.mem_of_getElem? (i := 378) (by decide +kernel), List.mem_of_getElem? (i := 993) (by decide +kernel), List.mem_of_getElem? (i := 994) (by decide +kernel)⟩
theorem lw_p27 : lw_okq (⟨"BestMenDuel$Bout", "hit", "(I)V"⟩, 13) := ⟨⟨by decide +kernel, by decide +kernel⟩, List.mem_of_getElem? (i := 378) (by decide +kernel), List.mem_of_getElem? (i := 1021) (by decide +kernel), List.mem_of_getElem? (i := 1022) (by decide +kernel)⟩
theorem lw_p28 : lw_okq (⟨"BestMenDuel$Bout", "putBack", "(ILBestMenDuel$Dawn;I)V"⟩, 13) := ⟨⟨by decide +kernel, by decide +kernel⟩, List.mem_of_getElem? (i := 378) (by decide +kernel), List.mem_of_getElem? (i := 1029) (by decide +kernel), List.mem_of_getElem? (i := 1030) (by decide +kernel)⟩
theorem lw_p29 : lw_okq (⟨"BestMenDuel", "isThingOrNone", "(I)Z"⟩, 20) := ⟨⟨by decide +kernel, by decide +kernel⟩, List.mem_of_getElem? (i := 22) (by decide +kernel), List.mem_of_getElem? (i := 1052) (by decide +kernel), List.mem_of_getElem? (i := 1053) (by decide +kernel)⟩
theorem lw_p30 : lw_okq (⟨"BestMenDuel", "isSetWithout", "(II)Z"⟩, 20) := ⟨⟨by decide +kernel, by decide +kernel⟩, List.mem_of_getElem? (i := 22) (by decide +kernel), List.mem_of_getElem? (i := 1191) (by decide +kernel), List.mem_of_getElem? (i := 1192) (by decide +kernel)⟩
theorem lw_p31 : lw_okq (⟨"BestMenDuel", "tellFraction", "(JJ)V"⟩, 20) := ⟨⟨by decide +kernel, by decide +kernel⟩, List.mem_of_getElem? (i := 22) (by decide +kernel), List.mem_of_getElem? (i := 1223) (by decide +kernel), List.mem_of_getElem? (i := 1224) (by decide +kernel)⟩
def lw_privs_2 : List (MethodName × Nat) := [(⟨"BestMenDuel", "keepFault", "()V"⟩, 20), (⟨"BestMenDuel", "tell", "(I)I"⟩, 20), (⟨"BestMenDuel$YearsReader", "takesStep", "(I)Z"⟩, 5), (⟨"BestMenDuel$YearsReader", "takesRestOf", "(I)Z"⟩, 5), (⟨"BestMenDuel$YearsReader", "takesMan", "()I"⟩, 5), (⟨"BestMenDuel$YearsReader", "takesNumber", "(III)Z"⟩, 5), (⟨"BestMenDuel$YearsReader", "takesTest", "(II)Z"⟩, 5), (⟨"BestMenDuel$YearsReader", "takesCompare", "(I)Z"⟩, 5), (⟨"BestMenDuel$YearsReader", "takesThing", "()I"⟩, 5), (⟨"BestMenDuel", "tellFound", "(I)I"⟩, 20), (⟨"BestMenDuel$Bout", "enter", "(LBestMenDuel$Dawn;II)V"⟩, 13), (⟨"BestMenDuel$Bout", "hit", "(I)V"⟩, 13), (⟨"BestMenDuel$Bout", "putBack", "(ILBestMenDuel$Dawn;I)V"⟩, 13), (⟨"BestMenDuel", "isThingOrNone", "(I)Z"⟩, 20), (⟨"BestMenDuel", "isSetWithout", "(II)Z"⟩, 20), (⟨"BestMenDuel", "tellFraction", "(JJ)V"⟩, 20)]
theorem lw_r2 : ∀ q ∈ lw_privs_2, lw_okq q := List.forall_mem_cons.mpr ⟨lw_p16, List.forall_mem_cons.mpr ⟨lw_p17, List.forall_mem_cons.mpr ⟨lw_p18, List.forall_mem_cons.mpr ⟨lw_p19, List.forall_mem_cons.mpr ⟨lw_p20, List.forall_mem_cons.mpr ⟨lw_p21, List.forall_mem_cons.mpr ⟨lw_p22, List.forall_mem_cons.mpr ⟨lw_p23, List.forall_mem_cons.mpr ⟨lw_p24, List.forall_mem_cons.mpr ⟨lw_p25, List.forall_mem_cons.mpr ⟨lw_p26, List.forall_mem_cons.mpr ⟨lw_p27, List.forall_mem_cons.mpr ⟨lw_p28, List.forall_mem_cons.mpr ⟨lw_p29, List.forall_mem_cons.mpr ⟨lw_p30, List.forall_mem_cons.mpr ⟨lw_p31, fun _ h => absurd h List.not_mem_nil⟩⟩⟩⟩⟩⟩⟩⟩⟩⟩⟩⟩⟩⟩⟩⟩
theorem lw_p32 : lw_okq (⟨"BestMenDuel", "replay", "(IIII)I"⟩, 20) := ⟨⟨by decide +kernel, by decide +kernel⟩, List.mem_of_getElem? (i := 22) (by decide +kernel), List.mem_of_getElem? (i := 1249) (by decide +kernel), List.mem_of_getElem? (i := 1250) (by decide +kernel)⟩
theorem lw_p33 : lw_okq (⟨"BestMenDuel", "hurtsOfTray", "(I)I"⟩, 20) := ⟨⟨by decide +kernel, by decide +kernel⟩, List.mem_of_getElem? (i := 22) (by decide +kernel), List.mem_of_getElem? (i := 1272) (by decide +kernel), List.mem_of_getElem? (i := 1273) (by decide +kernel)⟩
theorem lw_p34 : lw_okq (⟨"BestMenDuel$Order", "hurtsAtEnd", "(LBestMenDuel$Dawn;I)I"⟩, 3) := ⟨⟨by decide +kernel, by decide +kernel⟩, List.mem_of_getElem? (i := 458) (by decide +kernel), List.mem_of_getElem? (i := 1288) (by decide +kernel), List.mem_of_getElem? (i := 1289) (by decide +kernel)⟩
theorem lw_p35 : lw_okq (⟨"BestMenDuel$Living", "timesInside", "(LBestMenDuel$Dawn;I)I"⟩, 9) := ⟨⟨by decide +kernel, by decide +kernel⟩, List.mem_of_getElem? (i := 476) (by decide +kernel), List.mem_of_getElem? (i := 1312) (by decide +kernel), List.mem_of_getElem? (i := 1313) (by decide +kernel)⟩
theorem lw_p36 : lw_okq (⟨"BestMenDuel$Living", "step", "(LBestMenDuel$Dawn;I)V"⟩, 9) := ⟨⟨by decide +kernel, by decide +kernel⟩, List.mem_of_getElem? (i := 476) (by decide +kernel), List.mem_of_getElem? (i := 1326) (by decide +kernel), List.mem_of_getElem? (i := 1327) (by decide +kernel)⟩
theorem lw_p37 : lw_okq (⟨"BestMenDuel$Living", "drawn", "(I)I"⟩, 9) := ⟨⟨by decide +kernel, by decide +kernel⟩, List.mem_of_getElem? (i := 476) (by decide +kernel), List.mem_of_getElem? (i := 1332) (by decide +kernel), List.mem_of_getElem? (i := 1333) (by decide +kernel)⟩
theorem lw_p38 : lw_okq (⟨"BestMenDuel$Living", "countAct", "(Z)V"⟩, 9) := ⟨⟨by decide +kernel, by decide +kernel⟩, List.mem_of_getElem? (i := 476) (by decide +kernel), List.mem_of_getElem? (i := 1338) (by decide +kernel), List.mem_of_getElem? (i := 1339) (by decide +kernel)⟩
theorem lw_p39 : lw_okq (⟨"BestMenDuelModel", "plain", "(I)V"⟩, 40) := ⟨⟨by decide +kernel, by decide +kernel⟩, List.mem_of_getElem? (i := 1359) (by decide +kernel), List.mem_of_getElem? (i := 1365) (by decide +kernel), List.mem_of_getElem? (i := 1366) (by decide +kernel)⟩
theorem lw_p40 : lw_okq (⟨"BestMenDuelModel", "is", "(I)Z"⟩, 40) := ⟨⟨by decide +kernel, by decide +kernel⟩, List.mem_of_getElem? (i := 1359) (by decide +kernel), List.mem_of_getElem? (i := 1509) (by decide +kernel), List.mem_of_getElem? (i := 1510) (by decide +kernel)⟩
theorem lw_p41 : lw_okq (⟨"BestMenDuelModel", "wrongPlace", "(II)I"⟩, 40) := ⟨⟨by decide +kernel, by decide +kernel⟩, List.mem_of_getElem? (i := 1359) (by decide +kernel), List.mem_of_getElem? (i := 1517) (by decide +kernel), List.mem_of_getElem? (i := 1518) (by decide +kernel)⟩
theorem lw_p42 : lw_okq (⟨"BestMenDuelModel", "four", "(I)V"⟩, 40) := ⟨⟨by decide +kernel, by decide +kernel⟩, List.mem_of_getElem? (i := 1359) (by decide +kernel), List.mem_of_getElem? (i := 1537) (by decide +kernel), List.mem_of_getElem? (i := 1538) (by decide +kernel)⟩
theorem lw_p43 : lw_okq (⟨"BestMenDuelModel", "begins", "(II)Z"⟩, 40) := ⟨⟨by decide +kernel, by decide +kernel⟩, List.mem_of_getElem? (i := 1359) (by decide +kernel), List.mem_of_getElem? (i := 1549) (by decide +kernel), List.mem_of_getElem? (i := 1550) (by decide +kernel)⟩
theorem lw_p44 : lw_okq (⟨"BestMenDuelModel", "ahead", "()V"⟩, 40) := ⟨⟨by decide +kernel, by decide +kernel⟩, List.mem_of_getElem? (i := 1359) (by decide +kernel), List.mem_of_getElem? (i := 1553) (by decide +kernel), List.mem_of_getElem? (i := 1554) (by decide +kernel)⟩
theorem lw_p45 : lw_okq (⟨"BestMenDuelModel", "byteAt", "(I)I"⟩, 40) := ⟨⟨by decide +kernel, by decide +kernel⟩, List.mem_of_getElem? (i := 1359) (by decide +kernel), List.mem_of_getElem? (i := 1557) (by decide +kernel), List.mem_of_getElem? (i := 1558) (by decide +kernel)⟩
theorem lw_p46 : lw_okq (⟨"BestMenDuelModel", "refuse", "(I)I"⟩, 40) := ⟨⟨by decide +kernel, by decide +kernel⟩, List.mem_of_getElem? (i := 1359) (by decide +kernel), List.mem_of_getElem? (i := 1569) (by decide +kernel), List.mem_of_getElem? (i := 1570) (by decide +kernel)⟩
theorem lw_p47 : lw_okq (⟨"BestMenDuelModel", "dawnPart", "()Z"⟩, 40) := ⟨⟨by decide +kernel, by decide +kernel⟩, List.mem_of_getElem? (i := 1359) (by decide +kernel), List.mem_of_getElem? (i := 1573) (by decide +kernel), List.mem_of_getElem? (i := 1574) (by decide +kernel)⟩
def lw_privs_3 : List (MethodName × Nat) := [(⟨"BestMenDuel", "replay", "(IIII)I"⟩, 20), (⟨"BestMenDuel", "hurtsOfTray", "(I)I"⟩, 20), (⟨"BestMenDuel$Order", "hurtsAtEnd", "(LBestMenDuel$Dawn;I)I"⟩, 3), (⟨"BestMenDuel$Living", "timesInside", "(LBestMenDuel$Dawn;I)I"⟩, 9), (⟨"BestMenDuel$Living", "step", "(LBestMenDuel$Dawn;I)V"⟩, 9), (⟨"BestMenDuel$Living", "drawn", "(I)I"⟩, 9), (⟨"BestMenDuel$Living", "countAct", "(Z)V"⟩, 9), (⟨"BestMenDuelModel", "plain", "(I)V"⟩, 40), (⟨"BestMenDuelModel", "is", "(I)Z"⟩, 40), (⟨"BestMenDuelModel", "wrongPlace", "(II)I"⟩, 40), (⟨"BestMenDuelModel", "four", "(I)V"⟩, 40), (⟨"BestMenDuelModel", "begins", "(II)Z"⟩, 40), (⟨"BestMenDuelModel", "ahead", "()V"⟩, 40), (⟨"BestMenDuelModel", "byteAt", "(I)I"⟩, 40), (⟨"BestMenDuelModel", "refuse", "(I)I"⟩, 40), (⟨"BestMenDuelModel", "dawnPart", "()Z"⟩, 40)]
theorem lw_r3 : ∀ q ∈ lw_privs_3, lw_okq q := List.forall_mem_cons.mpr ⟨lw_p32, List.forall_mem_cons.mpr ⟨lw_p33, List.forall_mem_cons.mpr ⟨lw_p34, List.forall_mem_cons.mpr ⟨lw_p35, List.forall_mem_cons.mpr ⟨lw_p36, List.forall_mem_cons.mpr ⟨lw_p37, List.forall_mem_cons.mpr ⟨lw_p38, List.forall_mem_cons.mpr ⟨lw_p39, List.forall_mem_cons.mpr ⟨lw_p40, List.forall_mem_cons.mpr ⟨lw_p41, List.forall_mem_cons.mpr ⟨lw_p42, List.forall_mem_cons.mpr ⟨lw_p43, List.forall_mem_cons.mpr ⟨lw_p44, List.forall_mem_cons.mpr ⟨lw_p45, List.forall_mem_cons.mpr ⟨lw_p46, List.forall_mem_cons.mpr ⟨lw_p47, fun _ h => absurd h List.not_mem_nil⟩⟩⟩⟩⟩⟩⟩⟩⟩⟩⟩⟩⟩⟩⟩⟩
theorem lw_p48 : lw_okq (⟨"BestMenDuelModel", "inWords", "(Ljava/lang/String;)I"⟩, 40) := ⟨⟨by decide +kernel, by decide +kernel⟩, List.mem_of_getElem? (i := 1359) (by decide +kernel), List.mem_of_getElem? (i := 1578) (by decide +kernel), List.mem_of_getElem? (i := 1579) (by decide +kernel)⟩
theorem lw_p49 : lw_okq (⟨"BestMenDuelModel", "fails", "(I)Z"⟩, 40) := ⟨⟨by decide +kernel, by decide +kernel⟩, List.mem_of_getElem? (i := 1359) (by decide +kernel), List.mem_of_getElem? (i := 1584) (by decide +kernel), List.mem_of_getElem? (i := 1585) (by decide +kernel)⟩
theorem lw_p50 : lw_okq (⟨"BestMenDuelModel", "number", "(III)Z"⟩, 40) := ⟨⟨by decide +kernel, by decide +kernel⟩, List.mem_of_getElem? (i := 1359) (by decide +kernel), List.mem_of_getElem? (i := 1588) (by decide +kernel), List.mem_of_getElem? (i := 1589) (by decide +kernel)⟩
theorem lw_p51 : lw_okq (⟨"BestMenDuelModel", "aThing", "()Z"⟩, 40) := ⟨⟨by decide +kernel, by decide +kernel⟩, List.mem_of_getElem? (i := 1359) (by decide +kernel), List.mem_of_getElem? (i := 1592) (by decide +kernel), List.mem_of_getElem? (i := 1593) (by decide +kernel)⟩
theorem lw_p52 : lw_okq (⟨"BestMenDuelModel", "newOne", "(III)Z"⟩, 40) := ⟨⟨by decide +kernel, by decide +kernel⟩, List.mem_of_getElem? (i := 1359) (by decide +kernel), List.mem_of_getElem? (i := 1599) (by decide +kernel), List.mem_of_getElem? (i := 1600) (by decide +kernel)⟩
theorem lw_p53 : lw_okq (⟨"BestMenDuelModel", "isName", "(Ljava/lang/String;)Z"⟩, 40) := ⟨⟨by decide +kernel, by decide +kernel⟩, List.mem_of_getElem? (i := 1359) (by decide +kernel), List.mem_of_getElem? (i := 1603) (by decide +kernel), List.mem_of_getElem? (i := 1604) (by decide +kernel)⟩
theorem lw_p54 : lw_okq (⟨"BestMenDuelModel", "findHere", "(II)I"⟩, 40) := ⟨⟨by decide +kernel, by decide +kernel⟩, List.mem_of_getElem? (i := 1359) (by decide +kernel), List.mem_of_getElem? (i := 1607) (by decide +kernel), List.mem_of_getElem? (i := 1608) (by decide +kernel)⟩
theorem lw_p55 : lw_okq (⟨"BestMenDuelModel", "nameHere", "()J"⟩, 40) := ⟨⟨by decide +kernel, by decide +kernel⟩, List.mem_of_getElem? (i := 1359) (by decide +kernel), List.mem_of_getElem? (i := 1611) (by decide +kernel), List.mem_of_getElem? (i := 1612) (by decide +kernel)⟩
theorem lw_p56 : lw_okq (⟨"BestMenDuelModel", "wantWord", "(Ljava/lang/String;I)Z"⟩, 40) := ⟨⟨by decide +kernel, by decide +kernel⟩, List.mem_of_getElem? (i := 1359) (by decide +kernel), List.mem_of_getElem? (i := 1615) (by decide +kernel), List.mem_of_getElem? (i := 1616) (by decide +kernel)⟩
theorem lw_p57 : lw_okq (⟨"BestMenDuelModel", "aMan", "()Z"⟩, 40) := ⟨⟨by decide +kernel, by decide +kernel⟩, List.mem_of_getElem? (i := 1359) (by decide +kernel), List.mem_of_getElem? (i := 1619) (by decide +kernel), List.mem_of_getElem? (i := 1620) (by decide +kernel)⟩
theorem lw_p58 : lw_okq (⟨"BestMenDuelModel", "isThere", "(I)Z"⟩, 40) := ⟨⟨by decide +kernel, by decide +kernel⟩, List.mem_of_getElem? (i := 1359) (by decide +kernel), List.mem_of_getElem? (i := 1626) (by decide +kernel), List.mem_of_getElem? (i := 1627) (by decide +kernel)⟩
theorem lw_p59 : lw_okq (⟨"BestMenDuelModel", "newHolding", "(I)Z"⟩, 40) := ⟨⟨by decide +kernel, by decide +kernel⟩, List.mem_of_getElem? (i := 1359) (by decide +kernel), List.mem_of_getElem? (i := 1630) (by decide +kernel), List.mem_of_getElem? (i := 1631) (by decide +kernel)⟩
theorem lw_p60 : lw_okq (⟨"BestMenDuelModel", "oldOne", "(III)Z"⟩, 40) := ⟨⟨by decide +kernel, by decide +kernel⟩, List.mem_of_getElem? (i := 1359) (by decide +kernel), List.mem_of_getElem? (i := 1634) (by decide +kernel), List.mem_of_getElem? (i := 1635) (by decide +kernel)⟩
theorem lw_p61 : lw_okq (⟨"BestMenDuelModel", "wantSign", "(I)Z"⟩, 40) := ⟨⟨by decide +kernel, by decide +kernel⟩, List.mem_of_getElem? (i := 1359) (by decide +kernel), List.mem_of_getElem? (i := 1638) (by decide +kernel), List.mem_of_getElem? (i := 1639) (by decide +kernel)⟩
theorem lw_p62 : lw_okq (⟨"BestMenDuelModel", "isSign", "(I)Z"⟩, 40) := ⟨⟨by decide +kernel, by decide +kernel⟩, List.mem_of_getElem? (i := 1359) (by decide +kernel), List.mem_of_getElem? (i := 1642) (by decide +kernel), List.mem_of_getElem? (i := 1643) (by decide +kernel)⟩
theorem lw_p63 : lw_okq (⟨"BestMenDuelModel", "taken", "(I)I"⟩, 40) := ⟨⟨by decide +kernel, by decide +kernel⟩, List.mem_of_getElem? (i := 1359) (by decide +kernel), List.mem_of_getElem? (i := 1646) (by decide +kernel), List.mem_of_getElem? (i := 1647) (by decide +kernel)⟩
def lw_privs_4 : List (MethodName × Nat) := [(⟨"BestMenDuelModel", "inWords", "(Ljava/lang/String;)I"⟩, 40), (⟨"BestMenDuelModel", "fails", "(I)Z"⟩, 40), (⟨"BestMenDuelModel", "number", "(III)Z"⟩, 40), (⟨"BestMenDuelModel", "aThing", "()Z"⟩, 40), (⟨"BestMenDuelModel", "newOne", "(III)Z"⟩, 40), (⟨"BestMenDuelModel", "isName", "(Ljava/lang/String;)Z"⟩, 40), (⟨"BestMenDuelModel", "findHere", "(II)I"⟩, 40), (⟨"BestMenDuelModel", "nameHere", "()J"⟩, 40), (⟨"BestMenDuelModel", "wantWord", "(Ljava/lang/String;I)Z"⟩, 40), (⟨"BestMenDuelModel", "aMan", "()Z"⟩, 40), (⟨"BestMenDuelModel", "isThere", "(I)Z"⟩, 40), (⟨"BestMenDuelModel", "newHolding", "(I)Z"⟩, 40), (⟨"BestMenDuelModel", "oldOne", "(III)Z"⟩, 40), (⟨"BestMenDuelModel", "wantSign", "(I)Z"⟩, 40), (⟨"BestMenDuelModel", "isSign", "(I)Z"⟩, 40), (⟨"BestMenDuelModel", "taken", "(I)I"⟩, 40)]
theorem lw_r4 : ∀ q ∈ lw_privs_4, lw_okq q := List.forall_mem_cons.mpr ⟨lw_p48, List.forall_mem_cons.mpr ⟨lw_p49, List.forall_mem_cons.mpr ⟨lw_p50, List.forall_mem_cons.mpr ⟨lw_p51, List.forall_mem_cons.mpr ⟨lw_p52, List.forall_mem_cons.mpr ⟨lw_p53, List.forall_mem_cons.mpr ⟨lw_p54, List.forall_mem_cons.mpr ⟨lw_p55, List.forall_mem_cons.mpr ⟨lw_p56, List.forall_mem_cons.mpr ⟨lw_p57, List.forall_mem_cons.mpr ⟨lw_p58, List.forall_mem_cons.mpr ⟨lw_p59, List.forall_mem_cons.mpr ⟨lw_p60, List.forall_mem_cons.mpr ⟨lw_p61, List.forall_mem_cons.mpr ⟨lw_p62, List.forall_mem_cons.mpr ⟨lw_p63, fun _ h => absurd h List.not_mem_nil⟩⟩⟩⟩⟩⟩⟩⟩⟩⟩⟩⟩⟩⟩⟩⟩
theorem lw_p64 : lw_okq (⟨"BestMenDuelModel", "gives", "(I)I"⟩, 40) := ⟨⟨by decide +kernel, by decide +kernel⟩, List.mem_of_getElem? (i := 1359) (by decide +kernel), List.mem_of_getElem? (i := 1650) (by decide +kernel), List.mem_of_getElem? (i := 1651) (by decide +kernel)⟩
theorem lw_p65 : lw_okq (⟨"BestMenDuelModel", "yearStep", "()Z"⟩, 40) := ⟨⟨by decide +kernel, by decide +kernel⟩, List.mem_of_getElem? (i := 1359) (by decide +kernel), List.mem_of_getElem? (i := 1658) (by decide +kernel), List.mem_of_getElem? (i := 1659) (by decide +kernel)⟩
theorem lw_p66 : lw_okq (⟨"BestMenDuelModel", "yearOrder", "(II)Z"⟩, 40) := ⟨⟨by decide +kernel, by decide +kernel⟩, List.mem_of_getElem? (i := 1359) (by decide +kernel), List.mem_of_getElem? (i := 1662) (by decide +kernel), List.mem_of_getElem? (i := 1663) (by decide +kernel)⟩
theorem lw_p67 : lw_okq (⟨"BestMenDuelModel", "manTo", "(I)Z"⟩, 40) := ⟨⟨by decide +kernel, by decide +kernel⟩, List.mem_of_getElem? (i := 1359) (by decide +kernel), List.mem_of_getElem? (i := 1666) (by decide +kernel), List.mem_of_getElem? (i := 1667) (by decide +kernel)⟩
theorem lw_p68 : lw_okq (⟨"BestMenDuelModel", "test", "(I)Z"⟩, 40) := ⟨⟨by decide +kernel, by decide +kernel⟩, List.mem_of_getElem? (i := 1359) (by decide +kernel), List.mem_of_getElem? (i := 1670) (by decide +kernel), List.mem_of_getElem? (i := 1671) (by decide +kernel)⟩
theorem lw_p69 : lw_okq (⟨"BestMenDuelModel", "allWon", "()I"⟩, 40) := ⟨⟨by decide +kernel, by decide +kernel⟩, List.mem_of_getElem? (i := 1359) (by decide +kernel), List.mem_of_getElem? (i := 1678) (by decide +kernel), List.mem_of_getElem? (i := 1679) (by decide +kernel)⟩
theorem lw_p70 : lw_okq (⟨"BestMenDuelModel", "wonBy", "(I)I"⟩, 40) := ⟨⟨by decide +kernel, by decide +kernel⟩, List.mem_of_getElem? (i := 1359) (by decide +kernel), List.mem_of_getElem? (i := 1682) (by decide +kernel), List.mem_of_getElem? (i := 1683) (by decide +kernel)⟩
theorem lw_p71 : lw_okq (⟨"BestMenDuelModel", "manOf", "(II)I"⟩, 40) := ⟨⟨by decide +kernel, by decide +kernel⟩, List.mem_of_getElem? (i := 1359) (by decide +kernel), List.mem_of_getElem? (i := 1686) (by decide +kernel), List.mem_of_getElem? (i := 1687) (by decide +kernel)⟩
theorem lw_p72 : lw_okq (⟨"BestMenDuelModel", "setOf", "(I)I"⟩, 40) := ⟨⟨by decide +kernel, by decide +kernel⟩, List.mem_of_getElem? (i := 1359) (by decide +kernel), List.mem_of_getElem? (i := 1690) (by decide +kernel), List.mem_of_getElem? (i := 1691) (by decide +kernel)⟩
theorem lw_p73 : lw_okq (⟨"BestMenDuelModel", "holderOf", "(I)I"⟩, 40) := ⟨⟨by decide +kernel, by decide +kernel⟩, List.mem_of_getElem? (i := 1359) (by decide +kernel), List.mem_of_getElem? (i := 1694) (by decide +kernel), List.mem_of_getElem? (i := 1695) (by decide +kernel)⟩
theorem lw_p74 : lw_okq (⟨"BestMenDuelModel", "isBroken", "(I)Z"⟩, 40) := ⟨⟨by decide +kernel, by decide +kernel⟩, List.mem_of_getElem? (i := 1359) (by decide +kernel), List.mem_of_getElem? (i := 1698) (by decide +kernel), List.mem_of_getElem? (i := 1699) (by decide +kernel)⟩
theorem lw_p75 : lw_okq (⟨"BestMenDuelModel", "thingOf", "(II)I"⟩, 40) := ⟨⟨by decide +kernel, by decide +kernel⟩, List.mem_of_getElem? (i := 1359) (by decide +kernel), List.mem_of_getElem? (i := 1702) (by decide +kernel), List.mem_of_getElem? (i := 1703) (by decide +kernel)⟩
theorem lw_p76 : lw_okq (⟨"BestMenDuelModel", "isThing", "(I)Z"⟩, 40) := ⟨⟨by decide +kernel, by decide +kernel⟩, List.mem_of_getElem? (i := 1359) (by decide +kernel), List.mem_of_getElem? (i := 1710) (by decide +kernel), List.mem_of_getElem? (i := 1711) (by decide +kernel)⟩
theorem lw_p77 : lw_okq (⟨"BestMenDuelModel", "orNone", "(I)I"⟩, 40) := ⟨⟨by decide +kernel, by decide +kernel⟩, List.mem_of_getElem? (i := 1359) (by decide +kernel), List.mem_of_getElem? (i := 1718) (by decide +kernel), List.mem_of_getElem? (i := 1719) (by decide +kernel)⟩
theorem lw_p78 : lw_okq (⟨"BestMenDuelModel", "isMan", "(I)Z"⟩, 40) := ⟨⟨by decide +kernel, by decide +kernel⟩, List.mem_of_getElem? (i := 1359) (by decide +kernel), List.mem_of_getElem? (i := 1726) (by decide +kernel), List.mem_of_getElem? (i := 1727) (by decide +kernel)⟩
theorem lw_p79 : lw_okq (⟨"BestMenDuelModel", "reachOf", "(I)I"⟩, 40) := ⟨⟨by decide +kernel, by decide +kernel⟩, List.mem_of_getElem? (i := 1359) (by decide +kernel), List.mem_of_getElem? (i := 1730) (by decide +kernel), List.mem_of_getElem? (i := 1731) (by decide +kernel)⟩
def lw_privs_5 : List (MethodName × Nat) := [(⟨"BestMenDuelModel", "gives", "(I)I"⟩, 40), (⟨"BestMenDuelModel", "yearStep", "()Z"⟩, 40), (⟨"BestMenDuelModel", "yearOrder", "(II)Z"⟩, 40), (⟨"BestMenDuelModel", "manTo", "(I)Z"⟩, 40), (⟨"BestMenDuelModel", "test", "(I)Z"⟩, 40), (⟨"BestMenDuelModel", "allWon", "()I"⟩, 40), (⟨"BestMenDuelModel", "wonBy", "(I)I"⟩, 40), (⟨"BestMenDuelModel", "manOf", "(II)I"⟩, 40), (⟨"BestMenDuelModel", "setOf", "(I)I"⟩, 40), (⟨"BestMenDuelModel", "holderOf", "(I)I"⟩, 40), (⟨"BestMenDuelModel", "isBroken", "(I)Z"⟩, 40), (⟨"BestMenDuelModel", "thingOf", "(II)I"⟩, 40), (⟨"BestMenDuelModel", "isThing", "(I)Z"⟩, 40), (⟨"BestMenDuelModel", "orNone", "(I)I"⟩, 40), (⟨"BestMenDuelModel", "isMan", "(I)Z"⟩, 40), (⟨"BestMenDuelModel", "reachOf", "(I)I"⟩, 40)]
theorem lw_r5 : ∀ q ∈ lw_privs_5, lw_okq q := List.forall_mem_cons.mpr ⟨lw_p64, List.forall_mem_cons.mpr ⟨lw_p65, List.forall_mem_cons.mpr ⟨lw_p66, List.forall_mem_cons.mpr ⟨lw_p67, List.forall_mem_cons.mpr ⟨lw_p68, List.forall_mem_cons.mpr ⟨lw_p69, List.forall_mem_cons.mpr ⟨lw_p70, List.forall_mem_cons.mpr ⟨lw_p71, List.forall_mem_cons.mpr ⟨lw_p72, List.forall_mem_cons.mpr ⟨lw_p73, List.forall_mem_cons.mpr ⟨lw_p74, List.forall_mem_cons.mpr ⟨lw_p75, List.forall_mem_cons.mpr ⟨lw_p76, List.forall_mem_cons.mpr ⟨lw_p77, List.forall_mem_cons.mpr ⟨lw_p78, List.forall_mem_cons.mpr ⟨lw_p79, fun _ h => absurd h List.not_mem_nil⟩⟩⟩⟩⟩⟩⟩⟩⟩⟩⟩⟩⟩⟩⟩⟩
theorem lw_p80 : lw_okq (⟨"BestMenDuelModel", "isArmed", "(I)Z"⟩, 40) := ⟨⟨by decide +kernel, by decide +kernel⟩, List.mem_of_getElem? (i := 1359) (by decide +kernel), List.mem_of_getElem? (i := 1734) (by decide +kernel), List.mem_of_getElem? (i := 1735) (by decide +kernel)⟩
theorem lw_p81 : lw_okq (⟨"BestMenDuelModel", "blowOf", "(I)I"⟩, 40) := ⟨⟨by decide +kernel, by decide +kernel⟩, List.mem_of_getElem? (i := 1359) (by decide +kernel), List.mem_of_getElem? (i := 1738) (by decide +kernel), List.mem_of_getElem? (i := 1739) (by decide +kernel)⟩
theorem lw_p82 : lw_okq (⟨"BestMenDuelModel", "wonAgainst", "(I)I"⟩, 40) := ⟨⟨by decide +kernel, by decide +kernel⟩, List.mem_of_getElem? (i := 1359) (by decide +kernel), List.mem_of_getElem? (i := 1742) (by decide +kernel), List.mem_of_getElem? (i := 1743) (by decide +kernel)⟩
theorem lw_p83 : lw_okq (⟨"BestMenDuelModel", "areTwo", "(II)Z"⟩, 40) := ⟨⟨by decide +kernel, by decide +kernel⟩, List.mem_of_getElem? (i := 1359) (by decide +kernel), List.mem_of_getElem? (i := 1754) (by decide +kernel), List.mem_of_getElem? (i := 1755) (by decide +kernel)⟩
theorem lw_p84 : lw_okq (⟨"BestMenDuelModel", "isDuel", "()Z"⟩, 40) := ⟨⟨by decide +kernel, by decide +kernel⟩, List.mem_of_getElem? (i := 1359) (by decide +kernel), List.mem_of_getElem? (i := 1762) (by decide +kernel), List.mem_of_getElem? (i := 1763) (by decide +kernel)⟩
theorem lw_p85 : lw_okq (⟨"BestMenDuelModel", "near", "()I"⟩, 40) := ⟨⟨by decide +kernel, by decide +kernel⟩, List.mem_of_getElem? (i := 1359) (by decide +kernel), List.mem_of_getElem? (i := 1766) (by decide +kernel), List.mem_of_getElem? (i := 1767) (by decide +kernel)⟩
theorem lw_p86 : lw_okq (⟨"BestMenDuelModel", "actor", "()I"⟩, 40) := ⟨⟨by decide +kernel, by decide +kernel⟩, List.mem_of_getElem? (i := 1359) (by decide +kernel), List.mem_of_getElem? (i := 1770) (by decide +kernel), List.mem_of_getElem? (i := 1771) (by decide +kernel)⟩
theorem lw_p87 : lw_okq (⟨"BestMenDuelModel", "turn", "()I"⟩, 40) := ⟨⟨by decide +kernel, by decide +kernel⟩, List.mem_of_getElem? (i := 1359) (by decide +kernel), List.mem_of_getElem? (i := 1774) (by decide +kernel), List.mem_of_getElem? (i := 1775) (by decide +kernel)⟩
theorem lw_p88 : lw_okq (⟨"BestMenDuelModel", "meets", "(II)Z"⟩, 40) := ⟨⟨by decide +kernel, by decide +kernel⟩, List.mem_of_getElem? (i := 1359) (by decide +kernel), List.mem_of_getElem? (i := 1782) (by decide +kernel), List.mem_of_getElem? (i := 1783) (by decide +kernel)⟩
theorem lw_p89 : lw_okq (⟨"BestMenDuelModel", "canAct", "(I)Z"⟩, 40) := ⟨⟨by decide +kernel, by decide +kernel⟩, List.mem_of_getElem? (i := 1359) (by decide +kernel), List.mem_of_getElem? (i := 1790) (by decide +kernel), List.mem_of_getElem? (i := 1791) (by decide +kernel)⟩
theorem lw_p90 : lw_okq (⟨"BestMenDuelModel", "acts0", "(I)I"⟩, 40) := ⟨⟨by decide +kernel, by decide +kernel⟩, List.mem_of_getElem? (i := 1359) (by decide +kernel), List.mem_of_getElem? (i := 1794) (by decide +kernel), List.mem_of_getElem? (i := 1795) (by decide +kernel)⟩
theorem lw_p91 : lw_okq (⟨"BestMenDuelModel", "strikes", "()I"⟩, 40) := ⟨⟨by decide +kernel, by decide +kernel⟩, List.mem_of_getElem? (i := 1359) (by decide +kernel), List.mem_of_getElem? (i := 1798) (by decide +kernel), List.mem_of_getElem? (i := 1799) (by decide +kernel)⟩
theorem lw_p92 : lw_okq (⟨"BestMenDuelModel", "woundNow", "()I"⟩, 40) := ⟨⟨by decide +kernel, by decide +kernel⟩, List.mem_of_getElem? (i := 1359) (by decide +kernel), List.mem_of_getElem? (i := 1802) (by decide +kernel), List.mem_of_getElem? (i := 1803) (by decide +kernel)⟩
theorem lw_p93 : lw_okq (⟨"BestMenDuelModel", "ends", "()V"⟩, 40) := ⟨⟨by decide +kernel, by decide +kernel⟩, List.mem_of_getElem? (i := 1359) (by decide +kernel), List.mem_of_getElem? (i := 1807) (by decide +kernel), List.mem_of_getElem? (i := 1808) (by decide +kernel)⟩
theorem lw_p94 : lw_okq (⟨"BestMenDuelModel", "heals", "(II)Z"⟩, 40) := ⟨⟨by decide +kernel, by decide +kernel⟩, List.mem_of_getElem? (i := 1359) (by decide +kernel), List.mem_of_getElem? (i := 1839) (by decide +kernel), List.mem_of_getElem? (i := 1840) (by decide +kernel)⟩
theorem lw_p95 : lw_okq (⟨"BestMenDuelModel", "plays", "(IZ)I"⟩, 40) := ⟨⟨by decide +kernel, by decide +kernel⟩, List.mem_of_getElem? (i := 1359) (by decide +kernel), List.mem_of_getElem? (i := 1865) (by decide +kernel), List.mem_of_getElem? (i := 1866) (by decide +kernel)⟩
def lw_privs_6 : List (MethodName × Nat) := [(⟨"BestMenDuelModel", "isArmed", "(I)Z"⟩, 40), (⟨"BestMenDuelModel", "blowOf", "(I)I"⟩, 40), (⟨"BestMenDuelModel", "wonAgainst", "(I)I"⟩, 40), (⟨"BestMenDuelModel", "areTwo", "(II)Z"⟩, 40), (⟨"BestMenDuelModel", "isDuel", "()Z"⟩, 40), (⟨"BestMenDuelModel", "near", "()I"⟩, 40), (⟨"BestMenDuelModel", "actor", "()I"⟩, 40), (⟨"BestMenDuelModel", "turn", "()I"⟩, 40), (⟨"BestMenDuelModel", "meets", "(II)Z"⟩, 40), (⟨"BestMenDuelModel", "canAct", "(I)Z"⟩, 40), (⟨"BestMenDuelModel", "acts0", "(I)I"⟩, 40), (⟨"BestMenDuelModel", "strikes", "()I"⟩, 40), (⟨"BestMenDuelModel", "woundNow", "()I"⟩, 40), (⟨"BestMenDuelModel", "ends", "()V"⟩, 40), (⟨"BestMenDuelModel", "heals", "(II)Z"⟩, 40), (⟨"BestMenDuelModel", "plays", "(IZ)I"⟩, 40)]
theorem lw_r6 : ∀ q ∈ lw_privs_6, lw_okq q := List.forall_mem_cons.mpr ⟨lw_p80, List.forall_mem_cons.mpr ⟨lw_p81, List.forall_mem_cons.mpr ⟨lw_p82, List.forall_mem_cons.mpr ⟨lw_p83, List.forall_mem_cons.mpr ⟨lw_p84, List.forall_mem_cons.mpr ⟨lw_p85, List.forall_mem_cons.mpr ⟨lw_p86, List.forall_mem_cons.mpr ⟨lw_p87, List.forall_mem_cons.mpr ⟨lw_p88, List.forall_mem_cons.mpr ⟨lw_p89, List.forall_mem_cons.mpr ⟨lw_p90, List.forall_mem_cons.mpr ⟨lw_p91, List.forall_mem_cons.mpr ⟨lw_p92, List.forall_mem_cons.mpr ⟨lw_p93, List.forall_mem_cons.mpr ⟨lw_p94, List.forall_mem_cons.mpr ⟨lw_p95, fun _ h => absurd h List.not_mem_nil⟩⟩⟩⟩⟩⟩⟩⟩⟩⟩⟩⟩⟩⟩⟩⟩
theorem lw_p96 : lw_okq (⟨"BestMenDuelModel", "keeps", "(I)V"⟩, 40) := ⟨⟨by decide +kernel, by decide +kernel⟩, List.mem_of_getElem? (i := 1359) (by decide +kernel), List.mem_of_getElem? (i := 1872) (by decide +kernel), List.mem_of_getElem? (i := 1873) (by decide +kernel)⟩
theorem lw_p97 : lw_okq (⟨"BestMenDuelModel", "restores", "(I)V"⟩, 40) := ⟨⟨by decide +kernel, by decide +kernel⟩, List.mem_of_getElem? (i := 1359) (by decide +kernel), List.mem_of_getElem? (i := 1876) (by decide +kernel), List.mem_of_getElem? (i := 1877) (by decide +kernel)⟩
theorem lw_p98 : lw_okq (⟨"BestMenDuelModel", "settles", "(IIZ)V"⟩, 40) := ⟨⟨by decide +kernel, by decide +kernel⟩, List.mem_of_getElem? (i := 1359) (by decide +kernel), List.mem_of_getElem? (i := 1880) (by decide +kernel), List.mem_of_getElem? (i := 1881) (by decide +kernel)⟩
theorem lw_p99 : lw_okq (⟨"BestMenDuelModel", "needsNow", "(II)I"⟩, 40) := ⟨⟨by decide +kernel, by decide +kernel⟩, List.mem_of_getElem? (i := 1359) (by decide +kernel), List.mem_of_getElem? (i := 1900) (by decide +kernel), List.mem_of_getElem? (i := 1901) (by decide +kernel)⟩
theorem lw_p100 : lw_okq (⟨"BestMenDuelModel", "needsBy", "(III)I"⟩, 40) := ⟨⟨by decide +kernel, by decide +kernel⟩, List.mem_of_getElem? (i := 1359) (by decide +kernel), List.mem_of_getElem? (i := 1904) (by decide +kernel), List.mem_of_getElem? (i := 1905) (by decide +kernel)⟩
theorem lw_p101 : lw_okq (⟨"BestMenDuelModel", "orNever", "(I)I"⟩, 40) := ⟨⟨by decide +kernel, by decide +kernel⟩, List.mem_of_getElem? (i := 1359) (by decide +kernel), List.mem_of_getElem? (i := 1909) (by decide +kernel), List.mem_of_getElem? (i := 1910) (by decide +kernel)⟩
theorem lw_p102 : lw_okq (⟨"BestMenDuelModel", "laysFair", "(II)V"⟩, 40) := ⟨⟨by decide +kernel, by decide +kernel⟩, List.mem_of_getElem? (i := 1359) (by decide +kernel), List.mem_of_getElem? (i := 1925) (by decide +kernel), List.mem_of_getElem? (i := 1926) (by decide +kernel)⟩
theorem lw_p103 : lw_okq (⟨"BestMenDuelModel", "areArmed", "(II)Z"⟩, 40) := ⟨⟨by decide +kernel, by decide +kernel⟩, List.mem_of_getElem? (i := 1359) (by decide +kernel), List.mem_of_getElem? (i := 1933) (by decide +kernel), List.mem_of_getElem? (i := 1934) (by decide +kernel)⟩
theorem lw_p104 : lw_okq (⟨"BestMenDuelModel", "areMen", "(I)Z"⟩, 40) := ⟨⟨by decide +kernel, by decide +kernel⟩, List.mem_of_getElem? (i := 1359) (by decide +kernel), List.mem_of_getElem? (i := 1937) (by decide +kernel), List.mem_of_getElem? (i := 1938) (by decide +kernel)⟩
theorem lw_p105 : lw_okq (⟨"BestMenDuelModel", "isIn", "(II)Z"⟩, 40) := ⟨⟨by decide +kernel, by decide +kernel⟩, List.mem_of_getElem? (i := 1359) (by decide +kernel), List.mem_of_getElem? (i := 1941) (by decide +kernel), List.mem_of_getElem? (i := 1942) (by decide +kernel)⟩
theorem lw_p106 : lw_okq (⟨"BestMenDuelModel", "laysArms", "(II)I"⟩, 40) := ⟨⟨by decide +kernel, by decide +kernel⟩, List.mem_of_getElem? (i := 1359) (by decide +kernel), List.mem_of_getElem? (i := 1945) (by decide +kernel), List.mem_of_getElem? (i := 1946) (by decide +kernel)⟩
theorem lw_p107 : lw_okq (⟨"BestMenDuelModel", "bestArms", "(IIII)I"⟩, 40) := ⟨⟨by decide +kernel, by decide +kernel⟩, List.mem_of_getElem? (i := 1359) (by decide +kernel), List.mem_of_getElem? (i := 1949) (by decide +kernel), List.mem_of_getElem? (i := 1950) (by decide +kernel)⟩
theorem lw_p108 : lw_okq (⟨"BestMenDuelModel", "tellsBy", "(JJ)Z"⟩, 40) := ⟨⟨by decide +kernel, by decide +kernel⟩, List.mem_of_getElem? (i := 1359) (by decide +kernel), List.mem_of_getElem? (i := 1961) (by decide +kernel), List.mem_of_getElem? (i := 1962) (by decide +kernel)⟩
theorem lw_p109 : lw_okq (⟨"BestMenDuelModel", "wrongActs", "(II)I"⟩, 40) := ⟨⟨by decide +kernel, by decide +kernel⟩, List.mem_of_getElem? (i := 1359) (by decide +kernel), List.mem_of_getElem? (i := 1978) (by decide +kernel), List.mem_of_getElem? (i := 1979) (by decide +kernel)⟩
theorem lw_p110 : lw_okq (⟨"BestMenDuelModel", "goesThrough", "(IIII)Z"⟩, 40) := ⟨⟨by decide +kernel, by decide +kernel⟩, List.mem_of_getElem? (i := 1359) (by decide +kernel), List.mem_of_getElem? (i := 1984) (by decide +kernel), List.mem_of_getElem? (i := 1985) (by decide +kernel)⟩
theorem lw_p111 : lw_okq (⟨"BestMenDuelModel", "hurtsOf", "(II)I"⟩, 40) := ⟨⟨by decide +kernel, by decide +kernel⟩, List.mem_of_getElem? (i := 1359) (by decide +kernel), List.mem_of_getElem? (i := 1996) (by decide +kernel), List.mem_of_getElem? (i := 1997) (by decide +kernel)⟩
def lw_privs_7 : List (MethodName × Nat) := [(⟨"BestMenDuelModel", "keeps", "(I)V"⟩, 40), (⟨"BestMenDuelModel", "restores", "(I)V"⟩, 40), (⟨"BestMenDuelModel", "settles", "(IIZ)V"⟩, 40), (⟨"BestMenDuelModel", "needsNow", "(II)I"⟩, 40), (⟨"BestMenDuelModel", "needsBy", "(III)I"⟩, 40), (⟨"BestMenDuelModel", "orNever", "(I)I"⟩, 40), (⟨"BestMenDuelModel", "laysFair", "(II)V"⟩, 40), (⟨"BestMenDuelModel", "areArmed", "(II)Z"⟩, 40), (⟨"BestMenDuelModel", "areMen", "(I)Z"⟩, 40), (⟨"BestMenDuelModel", "isIn", "(II)Z"⟩, 40), (⟨"BestMenDuelModel", "laysArms", "(II)I"⟩, 40), (⟨"BestMenDuelModel", "bestArms", "(IIII)I"⟩, 40), (⟨"BestMenDuelModel", "tellsBy", "(JJ)Z"⟩, 40), (⟨"BestMenDuelModel", "wrongActs", "(II)I"⟩, 40), (⟨"BestMenDuelModel", "goesThrough", "(IIII)Z"⟩, 40), (⟨"BestMenDuelModel", "hurtsOf", "(II)I"⟩, 40)]
theorem lw_r7 : ∀ q ∈ lw_privs_7, lw_okq q := List.forall_mem_cons.mpr ⟨lw_p96, List.forall_mem_cons.mpr ⟨lw_p97, List.forall_mem_cons.mpr ⟨lw_p98, List.forall_mem_cons.mpr ⟨lw_p99, List.forall_mem_cons.mpr ⟨lw_p100, List.forall_mem_cons.mpr ⟨lw_p101, List.forall_mem_cons.mpr ⟨lw_p102, List.forall_mem_cons.mpr ⟨lw_p103, List.forall_mem_cons.mpr ⟨lw_p104, List.forall_mem_cons.mpr ⟨lw_p105, List.forall_mem_cons.mpr ⟨lw_p106, List.forall_mem_cons.mpr ⟨lw_p107, List.forall_mem_cons.mpr ⟨lw_p108, List.forall_mem_cons.mpr ⟨lw_p109, List.forall_mem_cons.mpr ⟨lw_p110, List.forall_mem_cons.mpr ⟨lw_p111, fun _ h => absurd h List.not_mem_nil⟩⟩⟩⟩⟩⟩⟩⟩⟩⟩⟩⟩⟩⟩⟩⟩
theorem lw_p112 : lw_okq (⟨"BestMenDuelModel", "laysLeast", "()V"⟩, 40) := ⟨⟨by decide +kernel, by decide +kernel⟩, List.mem_of_getElem? (i := 1359) (by decide +kernel), List.mem_of_getElem? (i := 2004) (by decide +kernel), List.mem_of_getElem? (i := 2005) (by decide +kernel)⟩
theorem lw_p113 : lw_okq (⟨"BestMenDuelModel", "lives", "(I)V"⟩, 40) := ⟨⟨by decide +kernel, by decide +kernel⟩, List.mem_of_getElem? (i := 1359) (by decide +kernel), List.mem_of_getElem? (i := 2021) (by decide +kernel), List.mem_of_getElem? (i := 2022) (by decide +kernel)⟩
theorem lw_p114 : lw_okq (⟨"BestMenDuelModel", "does", "(I)Z"⟩, 40) := ⟨⟨by decide +kernel, by decide +kernel⟩, List.mem_of_getElem? (i := 1359) (by decide +kernel), List.mem_of_getElem? (i := 2025) (by decide +kernel), List.mem_of_getElem? (i := 2026) (by decide +kernel)⟩
theorem lw_p115 : lw_okq (⟨"BestMenDuelModel", "draw", "(I)I"⟩, 40) := ⟨⟨by decide +kernel, by decide +kernel⟩, List.mem_of_getElem? (i := 1359) (by decide +kernel), List.mem_of_getElem? (i := 2029) (by decide +kernel), List.mem_of_getElem? (i := 2030) (by decide +kernel)⟩
theorem lw_p116 : lw_okq (⟨"BestMenDuelModel", "actsBy", "(I)Z"⟩, 40) := ⟨⟨by decide +kernel, by decide +kernel⟩, List.mem_of_getElem? (i := 1359) (by decide +kernel), List.mem_of_getElem? (i := 2034) (by decide +kernel), List.mem_of_getElem? (i := 2035) (by decide +kernel)⟩
theorem lw_p117 : lw_okq (⟨"BestMenDuelModel", "isSo", "(I)Z"⟩, 40) := ⟨⟨by decide +kernel, by decide +kernel⟩, List.mem_of_getElem? (i := 1359) (by decide +kernel), List.mem_of_getElem? (i := 2038) (by decide +kernel), List.mem_of_getElem? (i := 2039) (by decide +kernel)⟩
theorem lw_p118 : lw_okq (⟨"BestMenDuelModel", "behindEnds", "(I)I"⟩, 40) := ⟨⟨by decide +kernel, by decide +kernel⟩, List.mem_of_getElem? (i := 1359) (by decide +kernel), List.mem_of_getElem? (i := 2042) (by decide +kernel), List.mem_of_getElem? (i := 2043) (by decide +kernel)⟩
theorem lw_p119 : lw_okq (⟨"BestMenDuelModel", "copies", "(II)V"⟩, 40) := ⟨⟨by decide +kernel, by decide +kernel⟩, List.mem_of_getElem? (i := 1359) (by decide +kernel), List.mem_of_getElem? (i := 2058) (by decide +kernel), List.mem_of_getElem? (i := 2059) (by decide +kernel)⟩
def lw_privs_8 : List (MethodName × Nat) := [(⟨"BestMenDuelModel", "laysLeast", "()V"⟩, 40), (⟨"BestMenDuelModel", "lives", "(I)V"⟩, 40), (⟨"BestMenDuelModel", "does", "(I)Z"⟩, 40), (⟨"BestMenDuelModel", "draw", "(I)I"⟩, 40), (⟨"BestMenDuelModel", "actsBy", "(I)Z"⟩, 40), (⟨"BestMenDuelModel", "isSo", "(I)Z"⟩, 40), (⟨"BestMenDuelModel", "behindEnds", "(I)I"⟩, 40), (⟨"BestMenDuelModel", "copies", "(II)V"⟩, 40)]
theorem lw_r8 : ∀ q ∈ lw_privs_8, lw_okq q := List.forall_mem_cons.mpr ⟨lw_p112, List.forall_mem_cons.mpr ⟨lw_p113, List.forall_mem_cons.mpr ⟨lw_p114, List.forall_mem_cons.mpr ⟨lw_p115, List.forall_mem_cons.mpr ⟨lw_p116, List.forall_mem_cons.mpr ⟨lw_p117, List.forall_mem_cons.mpr ⟨lw_p118, List.forall_mem_cons.mpr ⟨lw_p119, fun _ h => absurd h List.not_mem_nil⟩⟩⟩⟩⟩⟩⟩⟩
def lw_privs : List (MethodName × Nat) := lw_privs_1 ++ (lw_privs_2 ++ (lw_privs_3 ++ (lw_privs_4 ++ (lw_privs_5 ++ (lw_privs_6 ++ (lw_privs_7 ++ (lw_privs_8)))))))
def lw_tbl : List Cond := k2_sels lw_privs ++ tables_1
theorem lw_privs_ok : ∀ q ∈ lw_privs, lw_okq q := by
  show ∀ q ∈ lw_privs_1 ++ (lw_privs_2 ++ (lw_privs_3 ++ (lw_privs_4 ++ (lw_privs_5 ++ (lw_privs_6 ++ (lw_privs_7 ++ (lw_privs_8))))))), lw_okq q
  exact List.forall_mem_append.mpr ⟨lw_r1, List.forall_mem_append.mpr ⟨lw_r2, List.forall_mem_append.mpr ⟨lw_r3, List.forall_mem_append.mpr ⟨lw_r4, List.forall_mem_append.mpr ⟨lw_r5, List.forall_mem_append.mpr ⟨lw_r6, List.forall_mem_append.mpr ⟨lw_r7, lw_r8⟩⟩⟩⟩⟩⟩⟩
def am_words : List Int := [108, 111, 110, 103, 32, 115, 117, 110, 32, 103, 108, 97, 114, 101, 32, 111, 100, 100, 115, 32, 116, 104, 105, 110, 103, 32, 114, 101, 97, 99, 104, 32, 119, 101, 105, 103, 104, 116, 32, 98, 114, 101, 97, 107, 115, 32, 109, 97, 110, 32, 115, 116, 114, 101, 110, 103, 116, 104, 32, 108, 105, 102, 101, 32, 104, 111, 108, 100, 115, 32, 109, 101, 101, 116, 32, 114, 101, 115, 116, 32, 103, 111, 32, 98, 97, 99, 107, 32, 115, 116, 114, 105, 107, 101, 32, 104, 101, 97, 108, 32, 97, 110, 121, 32, 119, 104, 101, 110, 32, 110, 101, 97, 114, 32, 98, 114, 111, 107, 101, 110, 32, 102, 105, 103, 104, 116, 115, 32, 108, 111, 111, 112, 32, 101, 110, 100, 32, 115, 116, 111, 112, 32]
def am_keys : List Int := [32, 108, 111, 110, 103, 32, 115, 117, 110, 32, 103, 108, 97, 114, 101, 32, 111, 100, 100, 115, 32, 116, 104, 105, 110, 103, 32, 109, 97, 110, 32, 114, 101, 97, 99, 104, 32, 119, 101, 105, 103, 104, 116, 32, 98, 114, 101, 97, 107, 115, 32, 115, 116, 114, 101, 110, 103, 116, 104, 32, 108, 105, 102, 101, 32, 104, 111, 108, 100, 115, 32, 109, 101, 101, 116, 32, 114, 101, 115, 116, 32, 103, 111, 32, 98, 97, 99, 107, 32, 115, 116, 114, 105, 107, 101, 32, 104, 101, 97, 108, 32, 97, 110, 121, 32, 119, 104, 101, 110, 32, 108, 111, 111, 112, 32, 101, 110, 100, 32, 115, 116, 111, 112, 32, 110, 101, 97, 114, 32, 98, 114, 111, 107, 101, 110, 32, 102, 105, 103, 104, 116, 115, 32]
end
section
/-! THE ABSTRACT MACHINE: ints, longs and references as whole numbers; the cells of the two systems as numbers 1, 2 ..; RO cells below 0. -/
abbrev AV : Type := Int ⊕ Int ⊕ Int
abbrev Sh : Type := List (Nat × Nat)
abbrev Mem : Type := Nat → Nat → Int
abbrev Lv : Type := List (Option AV)
abbrev Res : Type := Option AV × Sh × Mem
abbrev Xs : Type := Nat × (Nat → Int)
abbrev TE : Type := Nat × (Instr × Nat) × (Nat × Nat × Nat × Int)
def w32 (x : Int) : Int := Int.bmod x 4294967296
def w64 (x : Int) : Int := Int.bmod x 18446744073709551616
def w16 (x : Int) : Int := Int.bmod x 65536
def w8 (x : Int) : Int := Int.bmod x 256
def am_and (a b : Int) : Int := (Int32.ofInt a &&& Int32.ofInt b).toInt
def am_or (a b : Int) : Int := (Int32.ofInt a ||| Int32.ofInt b).toInt
def am_shl (a b : Int) : Int := (Int32.ofInt a <<< (Int32.ofInt b &&& 31)).toInt
def am_shr (a b : Int) : Int := (Int32.ofInt a >>> (Int32.ofInt b &&& 31)).toInt
def am_ushr (a b : Int) : Int := (((Int32.ofInt a).toUInt32 >>> ((Int32.ofInt b).toUInt32 &&& Int32.toUInt32 31)).toInt32).toInt
def am_land (a b : Int) : Int := (Int64.ofInt a &&& Int64.ofInt b).toInt
def am_lor (a b : Int) : Int := (Int64.ofInt a ||| Int64.ofInt b).toInt
def am_lshl (a b : Int) : Int := (Int64.ofInt a <<< ((Int32.ofInt b).toInt64 &&& 63)).toInt
def am_lshr (a b : Int) : Int := (Int64.ofInt a >>> ((Int32.ofInt b).toInt64 &&& 63)).toInt
def am_div (a b : Int) : Int := w32 (Int.tdiv a b)
def am_rem (a b : Int) : Int := Int.tmod a b
def am_ldiv (a b : Int) : Int := w64 (Int.tdiv a b)
def am_lrem (a b : Int) : Int := Int.tmod a b
def am_lcmp (a b : Int) : Int := if a < b then -1 else if a = b then 0 else 1
def am_i2c (a : Int) : Int := a % 65536
/-- the read-only cells: -2 the script, -3 RULE_LOW, -4 RULE_HIGH, -5 RULE_USUAL, -6 and -7 the bytes of the two texts (objects -8, -9) -/
def am_str (r : Int) : List Int := if r = -6 then am_words else if r = -7 then am_keys else []
def am_ro (X : Xs) (r : Int) : Nat × (Nat → Int) :=
  if r = -2 then X else if r = -3 then (4, fun j => [2, 0, 0, 0].getD j 0) else if r = -4 then (4, fun j => [12, 99, 9, 16].getD j 0) else if r = -5 then (4, fun j => [6, 0, 2, 2].getD j 0) else (0, fun _ => 0)
def kd (S : Sh) (r : Int) : Nat := match S[r.toNat]? with
  | some q => q.1
  | none => 99
def ln (S : Sh) (r : Int) : Nat := match S[r.toNat]? with
  | some q => q.2
  | none => 0
def up (h : Mem) (k j : Nat) (x : Int) : Mem := fun a b => if a = k ∧ b = j then x else h a b
def cpy (h : Mem) (sk : Nat) (f : Nat → Int) (sp dp n : Nat) : Mem := fun a b => if a = sk ∧ dp ≤ b ∧ b < dp + n then f (sp + (b - dp)) else h a b
def getf (S : Sh) (h : Mem) (ci : Nat) (r : Int) (j : Nat) : Option Int := if kd S r = ci then some (h r.toNat j) else none
def ald (S : Sh) (h : Mem) (K : Nat) (r i : Int) : Option Int := if kd S r = K ∧ 0 ≤ i ∧ i < (ln S r : Int) then some (h r.toNat i.toNat) else none
def aldI (X : Xs) (S : Sh) (h : Mem) (r i : Int) : Option Int := if r < 0 then (if 0 ≤ i ∧ i < ((am_ro X r).1 : Int) then some ((am_ro X r).2 i.toNat) else none) else ald S h 20 r i
def aldB (S : Sh) (h : Mem) (r i : Int) : Option Int := if r < 0 then (if 0 ≤ i ∧ i < ((am_str r).length : Int) then some ((am_str r).getD i.toNat 0) else none) else ald S h 22 r i
def aln (X : Xs) (S : Sh) (r : Int) : Option Int := if r < 0 then (if r = -2 then some (X.1 : Int) else if r = -6 ∨ r = -7 then some ((am_str r).length : Int) else none) else if 20 ≤ kd S r ∧ kd S r ≤ 25 then some (ln S r : Int) else none
def ast (S : Sh) (h : Mem) (K : Nat) (r i x : Int) : Option Mem := if kd S r = K ∧ 0 ≤ i ∧ i < (ln S r : Int) then some (up h r.toNat i.toNat x) else none
def putf (S : Sh) (h : Mem) (ci : Nat) (r : Int) (j : Nat) (x : Int) : Option Mem := if kd S r = ci then some (up h r.toNat j x) else none
/-- arraycopy: int arrays (from RULE_USUAL too), long arrays -/
def acp (X : Xs) (S : Sh) (h : Mem) (r p q d n : Int) : Option Mem :=
  if r = -5 then (if kd S q = 20 ∧ 0 ≤ p ∧ 0 ≤ d ∧ 0 ≤ n ∧ p + n ≤ 4 ∧ d + n ≤ (ln S q : Int) then some (cpy h q.toNat (am_ro X r).2 p.toNat d.toNat n.toNat) else none)
  else if (kd S r = 20 ∨ kd S r = 21) ∧ kd S q = kd S r ∧ 0 ≤ p ∧ 0 ≤ d ∧ 0 ≤ n ∧ p + n ≤ (ln S r : Int) ∧ d + n ≤ (ln S q : Int) then some (cpy h q.toNat (h r.toNat) p.toNat d.toNat n.toNat) else none
def mkV (t : Nat) (x : Int) : AV := match t with
  | 1 => .inr (.inl x)
  | 2 => .inr (.inr x)
  | _ => .inl x
def unV (t : Nat) (v : AV) : Option Int := match t, v with
  | 0, .inl x => some x
  | 1, .inr (.inl x) => some x
  | 2, .inr (.inr x) => if 0 ≤ x then some x else none
  | 3, .inl x => if x = 0 ∨ x = 1 then some x else none
  | _, _ => none
def cat (v : AV) : Nat := match v with
  | .inr (.inl _) => 2
  | _ => 1
def catS (l : List AV) : Nat := (l.map cat).sum
def ldI (ls : Lv) (i : Nat) : Option Int := match ls[i]? with
  | some (some (.inl x)) => some x
  | _ => none
def ldJ (ls : Lv) (i : Nat) : Option Int := match ls[i]? with
  | some (some (.inr (.inl x))) => some x
  | _ => none
def ldA (ls : Lv) (i : Nat) : Option Int := match ls[i]? with
  | some (some (.inr (.inr x))) => some x
  | _ => none
def clrP (ls : Lv) (i : Nat) : Lv := match i with
  | 0 => ls
  | j + 1 => match ls[j]? with
    | some (some (.inr (.inl _))) => ls.set j none
    | _ => ls
def st1 (ls : Lv) (i : Nat) (v : AV) : Lv := (clrP ls i).set i (some v)
def st2 (ls : Lv) (i : Nat) (v : AV) : Lv := ((clrP ls i).set i (some v)).set (i + 1) none
def tgt (pc : Nat) (off : Int) : Nat := ((pc : Int) + off).toNat
section AK
variable {α : Type}
def pI (st : List AV) (fail : α) (f : Int → List AV → α) : α := match st with
  | .inl a :: r => f a r
  | _ => fail
def pII (st : List AV) (fail : α) (f : Int → Int → List AV → α) : α := match st with
  | .inl b :: .inl a :: r => f a b r
  | _ => fail
def pJ (st : List AV) (fail : α) (f : Int → List AV → α) : α := match st with
  | .inr (.inl a) :: r => f a r
  | _ => fail
def pJJ (st : List AV) (fail : α) (f : Int → Int → List AV → α) : α := match st with
  | .inr (.inl b) :: .inr (.inl a) :: r => f a b r
  | _ => fail
def pJI (st : List AV) (fail : α) (f : Int → Int → List AV → α) : α := match st with
  | .inl b :: .inr (.inl a) :: r => f a b r
  | _ => fail
def pA (st : List AV) (fail : α) (f : Int → List AV → α) : α := match st with
  | .inr (.inr a) :: r => f a r
  | _ => fail
def pAI (st : List AV) (fail : α) (f : Int → Int → List AV → α) : α := match st with
  | .inl b :: .inr (.inr a) :: r => f a b r
  | _ => fail
def pAII (st : List AV) (fail : α) (f : Int → Int → Int → List AV → α) : α := match st with
  | .inl c :: .inl b :: .inr (.inr a) :: r => f a b c r
  | _ => fail
def pAIJ (st : List AV) (fail : α) (f : Int → Int → Int → List AV → α) : α := match st with
  | .inr (.inl c) :: .inl b :: .inr (.inr a) :: r => f a b c r
  | _ => fail
def pAIA (st : List AV) (fail : α) (f : Int → Int → Int → List AV → α) : α := match st with
  | .inr (.inr c) :: .inl b :: .inr (.inr a) :: r => f a b c r
  | _ => fail
def pVA (st : List AV) (fail : α) (f : AV → Int → List AV → α) : α := match st with
  | v :: .inr (.inr a) :: r => f v a r
  | _ => fail
def pV (st : List AV) (fail : α) (f : AV → List AV → α) : α := match st with
  | v :: r => f v r
  | _ => fail
def pVV (st : List AV) (fail : α) (f : AV → AV → List AV → α) : α := match st with
  | v :: w :: r => f v w r
  | _ => fail
def pCP (st : List AV) (fail : α) (f : Int → Int → Int → Int → Int → List AV → α) : α := match st with
  | .inl n :: .inl d :: .inr (.inr q) :: .inl p :: .inr (.inr r) :: rest => f r p q d n rest
  | _ => fail
def tsw (a : Int) (f : Int → α) (d : α) : Int → List Int → α
  | _, [] => d
  | lo, o :: l => if a = lo then f o else tsw a f d (lo + 1) l
def lsw (a : Int) (f : Int → α) (d : α) : List (Int × Int) → α
  | [] => d
  | q :: l => if a = q.1 then f q.2 else lsw a f d l
def oK {β : Type} (x : Option β) (fail : α) (f : β → α) : α := match x with
  | some v => f v
  | none => fail
def stepK (X : Xs) (rk : Nat) (i : Instr) (len : Nat) (ax : Nat × Nat × Nat × Int) (pc : Nat) (ls : Lv) (st : List AV) (S : Sh) (h : Mem) (fail : α)
    (k : Nat → Lv → List AV → Sh → Mem → α) (call : Nat → List AV → Nat → Lv → List AV → Sh → Mem → α) (ret : Option AV → Sh → Mem → α) : α :=
  match i with
  | .iconst n => k (pc + 1) ls (.inl n :: st) S h
  | .bipush n => k (pc + 2) ls (.inl n :: st) S h
  | .sipush n => k (pc + 3) ls (.inl n :: st) S h
  | .lconst n => k (pc + 1) ls (.inr (.inl (n.val : Int)) :: st) S h
  | .ldc _ => if ax.1 = 1 then k (pc + 2) ls (.inr (.inr ax.2.2.2) :: st) S h else k (pc + 2) ls (.inl ax.2.2.2 :: st) S h
  | .ldc_w _ => if ax.1 = 1 then k (pc + 3) ls (.inr (.inr ax.2.2.2) :: st) S h else k (pc + 3) ls (.inl ax.2.2.2 :: st) S h
  | .ldc2_w _ => k (pc + 3) ls (.inr (.inl ax.2.2.2) :: st) S h
  | .iload_n n => oK (ldI ls n.val) fail fun x => k (pc + 1) ls (.inl x :: st) S h
  | .iload n => oK (ldI ls n) fail fun x => k (pc + 2) ls (.inl x :: st) S h
  | .lload_n n => oK (ldJ ls n.val) fail fun x => k (pc + 1) ls (.inr (.inl x) :: st) S h
  | .lload n => oK (ldJ ls n) fail fun x => k (pc + 2) ls (.inr (.inl x) :: st) S h
  | .aload_n n => oK (ldA ls n.val) fail fun x => k (pc + 1) ls (.inr (.inr x) :: st) S h
  | .aload n => oK (ldA ls n) fail fun x => k (pc + 2) ls (.inr (.inr x) :: st) S h
  | .istore_n n => pI st fail fun x r => k (pc + 1) (st1 ls n.val (.inl x)) r S h
  | .istore n => pI st fail fun x r => k (pc + 2) (st1 ls n (.inl x)) r S h
  | .lstore_n n => pJ st fail fun x r => k (pc + 1) (st2 ls n.val (.inr (.inl x))) r S h
  | .lstore n => pJ st fail fun x r => k (pc + 2) (st2 ls n (.inr (.inl x))) r S h
  | .astore_n n => pA st fail fun x r => k (pc + 1) (st1 ls n.val (.inr (.inr x))) r S h
  | .astore n => pA st fail fun x r => k (pc + 2) (st1 ls n (.inr (.inr x))) r S h
  | .iinc n d => oK (ldI ls n) fail fun x => k (pc + 3) (st1 ls n (.inl (w32 (x + d)))) st S h
  | .dup => pV st fail fun v r => if cat v = 1 then k (pc + 1) ls (v :: v :: r) S h else fail
  | .pop => pV st fail fun v r => if cat v = 1 then k (pc + 1) ls r S h else fail
  | .dup2 => pVV st fail fun v w r => if cat v = 1 ∧ cat w = 1 then k (pc + 1) ls (v :: w :: v :: w :: r) S h else fail
  | .iadd => pII st fail fun a b r => k (pc + 1) ls (.inl (w32 (a + b)) :: r) S h
  | .isub => pII st fail fun a b r => k (pc + 1) ls (.inl (w32 (a - b)) :: r) S h
  | .imul => pII st fail fun a b r => k (pc + 1) ls (.inl (w32 (a * b)) :: r) S h
  | .idiv => pII st fail fun a b r => if b = 0 then fail else k (pc + 1) ls (.inl (am_div a b) :: r) S h
  | .irem => pII st fail fun a b r => if b = 0 then fail else k (pc + 1) ls (.inl (am_rem a b) :: r) S h
  | .ineg => pI st fail fun a r => k (pc + 1) ls (.inl (w32 (-a)) :: r) S h
  | .iand => pII st fail fun a b r => k (pc + 1) ls (.inl (am_and a b) :: r) S h
  | .ior => pII st fail fun a b r => k (pc + 1) ls (.inl (am_or a b) :: r) S h
  | .ishl => pII st fail fun a b r => k (pc + 1) ls (.inl (am_shl a b) :: r) S h
  | .ishr => pII st fail fun a b r => k (pc + 1) ls (.inl (am_shr a b) :: r) S h
  | .iushr => pII st fail fun a b r => k (pc + 1) ls (.inl (am_ushr a b) :: r) S h
  | .ladd => pJJ st fail fun a b r => k (pc + 1) ls (.inr (.inl (w64 (a + b))) :: r) S h
  | .lsub => pJJ st fail fun a b r => k (pc + 1) ls (.inr (.inl (w64 (a - b))) :: r) S h
  | .lmul => pJJ st fail fun a b r => k (pc + 1) ls (.inr (.inl (w64 (a * b))) :: r) S h
  | .ldiv => pJJ st fail fun a b r => if b = 0 then fail else k (pc + 1) ls (.inr (.inl (am_ldiv a b)) :: r) S h
  | .lrem => pJJ st fail fun a b r => if b = 0 then fail else k (pc + 1) ls (.inr (.inl (am_lrem a b)) :: r) S h
  | .land => pJJ st fail fun a b r => k (pc + 1) ls (.inr (.inl (am_land a b)) :: r) S h
  | .lor => pJJ st fail fun a b r => k (pc + 1) ls (.inr (.inl (am_lor a b)) :: r) S h
  | .lshl => pJI st fail fun a b r => k (pc + 1) ls (.inr (.inl (am_lshl a b)) :: r) S h
  | .lshr => pJI st fail fun a b r => k (pc + 1) ls (.inr (.inl (am_lshr a b)) :: r) S h
  | .lcmp => pJJ st fail fun a b r => k (pc + 1) ls (.inl (am_lcmp a b) :: r) S h
  | .i2l => pI st fail fun a r => k (pc + 1) ls (.inr (.inl a) :: r) S h
  | .l2i => pJ st fail fun a r => k (pc + 1) ls (.inl (w32 a) :: r) S h
  | .i2b => pI st fail fun a r => k (pc + 1) ls (.inl (w8 a) :: r) S h
  | .i2s => pI st fail fun a r => k (pc + 1) ls (.inl (w16 a) :: r) S h
  | .i2c => pI st fail fun a r => k (pc + 1) ls (.inl (am_i2c a) :: r) S h
  | .goto o => k (tgt pc o) ls st S h
  | .ifCond .eq o => pI st fail fun a r => if a = 0 then k (tgt pc o) ls r S h else k (pc + 3) ls r S h
  | .ifCond .ne o => pI st fail fun a r => if a = 0 then k (pc + 3) ls r S h else k (tgt pc o) ls r S h
  | .ifCond .lt o => pI st fail fun a r => if a < 0 then k (tgt pc o) ls r S h else k (pc + 3) ls r S h
  | .ifCond .ge o => pI st fail fun a r => if a < 0 then k (pc + 3) ls r S h else k (tgt pc o) ls r S h
  | .ifCond .gt o => pI st fail fun a r => if 0 < a then k (tgt pc o) ls r S h else k (pc + 3) ls r S h
  | .ifCond .le o => pI st fail fun a r => if 0 < a then k (pc + 3) ls r S h else k (tgt pc o) ls r S h
  | .if_icmp .eq o => pII st fail fun a b r => if a = b then k (tgt pc o) ls r S h else k (pc + 3) ls r S h
  | .if_icmp .ne o => pII st fail fun a b r => if a = b then k (pc + 3) ls r S h else k (tgt pc o) ls r S h
  | .if_icmp .lt o => pII st fail fun a b r => if a < b then k (tgt pc o) ls r S h else k (pc + 3) ls r S h
  | .if_icmp .ge o => pII st fail fun a b r => if a < b then k (pc + 3) ls r S h else k (tgt pc o) ls r S h
  | .if_icmp .gt o => pII st fail fun a b r => if b < a then k (tgt pc o) ls r S h else k (pc + 3) ls r S h
  | .if_icmp .le o => pII st fail fun a b r => if b < a then k (pc + 3) ls r S h else k (tgt pc o) ls r S h
  | .tableswitch d lo hi offs => pI st fail fun a r => if hi + 1 - lo = (offs.toList.length : Int) then tsw a (fun o => k (tgt pc o) ls r S h) (k (tgt pc d) ls r S h) lo offs.toList else fail
  | .lookupswitch d ps => pI st fail fun a r => lsw a (fun o => k (tgt pc o) ls r S h) (k (tgt pc d) ls r S h) ps.toList
  | .getfield _ => pA st fail fun a r => if ax.1 = 40 then (if a = -8 ∨ a = -9 then (if ax.2.1 = 0 then k (pc + 3) ls (.inr (.inr (a + 2)) :: r) S h else k (pc + 3) ls (.inl 0 :: r) S h) else fail) else oK (getf S h ax.1 a ax.2.1) fail fun x => k (pc + 3) ls (mkV ax.2.2.1 x :: r) S h
  | .putfield _ => pVA st fail fun v a r => oK (unV ax.2.2.1 v) fail fun x => oK (putf S h ax.1 a ax.2.1 x) fail fun h' => k (pc + 3) ls r S h'
  | .getstatic _ => if ax.1 = 1 then k (pc + 3) ls (.inr (.inr ax.2.2.2) :: st) S h else k (pc + 3) ls (.inl ax.2.2.2 :: st) S h
  | .iaload => pAI st fail fun a b r => oK (aldI X S h a b) fail fun x => k (pc + 1) ls (.inl x :: r) S h
  | .laload => pAI st fail fun a b r => oK (ald S h 21 a b) fail fun x => k (pc + 1) ls (.inr (.inl x) :: r) S h
  | .baload => pAI st fail fun a b r => oK (aldB S h a b) fail fun x => k (pc + 1) ls (.inl x :: r) S h
  | .saload => pAI st fail fun a b r => oK (ald S h 23 a b) fail fun x => k (pc + 1) ls (.inl x :: r) S h
  | .aaload => pAI st fail fun a b r => oK (ald S h ax.1 a b) fail fun x => k (pc + 1) ls (.inr (.inr x) :: r) S h
  | .iastore => pAII st fail fun a b x r => oK (ast S h 20 a b x) fail fun h' => k (pc + 1) ls r S h'
  | .lastore => pAIJ st fail fun a b x r => oK (ast S h 21 a b x) fail fun h' => k (pc + 1) ls r S h'
  | .bastore => pAII st fail fun a b x r => oK (ast S h 22 a b (w8 x)) fail fun h' => k (pc + 1) ls r S h'
  | .sastore => pAII st fail fun a b x r => oK (ast S h 23 a b (w16 x)) fail fun h' => k (pc + 1) ls r S h'
  | .aastore => pAIA st fail fun a b x r => if kd S x = 1 then oK (ast S h 24 a b x) fail fun h' => k (pc + 1) ls r S h' else fail
  | .arraylength => pA st fail fun a r => oK (aln X S a) fail fun x => k (pc + 1) ls (.inl x :: r) S h
  | .new _ => k (pc + 3) ls (.inr (.inr (S.length : Int)) :: st) (S ++ [(ax.1, ax.2.1)]) h
  | .newarray _ => pI st fail fun n r => if 0 ≤ n ∧ n ≤ 100000 then k (pc + 2) ls (.inr (.inr (S.length : Int)) :: r) (S ++ [(ax.1, n.toNat)]) h else fail
  | .anewarray _ => pI st fail fun n r => if 0 ≤ n ∧ n ≤ 100000 then k (pc + 3) ls (.inr (.inr (S.length : Int)) :: r) (S ++ [(24, n.toNat)]) h else fail
  | .multianewarray _ _ => pII st fail fun n b r => if n = 4 ∧ b = 60 then k (pc + 4) ls (.inr (.inr (S.length : Int)) :: r) (S ++ [(25, 4), (21, 60), (21, 60), (21, 60), (21, 60)]) (fun a j => if a = S.length ∧ j < 4 then (S.length : Int) + 1 + j else h a j) else fail
  | .invokevirtual _ => pA (st.drop ax.2.1) fail fun a r => if catS r ≤ 8 then (if ax.2.2.1 = 40 then (if a = -8 ∨ a = -9 then call ax.1 (.inr (.inr a) :: (st.take ax.2.1).reverse) (pc + 3) ls r S h else fail) else if kd S a = ax.2.2.1 then call ax.1 (.inr (.inr a) :: (st.take ax.2.1).reverse) (pc + 3) ls r S h else fail) else fail
  | .invokespecial _ => if ax.2.2.2 = 1 then (pA st fail fun a r => if catS r ≤ 8 then (if kd S a = ax.1 then k (pc + 3) ls r S h else fail) else fail) else pA (st.drop ax.2.1) fail fun a r => if catS r ≤ 8 then (if kd S a = ax.2.2.1 then call ax.1 (.inr (.inr a) :: (st.take ax.2.1).reverse) (pc + 3) ls r S h else fail) else fail
  | .invokestatic _ => if ax.2.2.2 = 1 then (pCP st fail fun a p q d n r => if catS r ≤ 8 then (oK (acp X S h a p q d n) fail fun h' => k (pc + 3) ls r S h') else fail) else if (st.take ax.2.1).length = ax.2.1 then (if catS (st.drop ax.2.1) ≤ 8 then call ax.1 (st.take ax.2.1).reverse (pc + 3) ls (st.drop ax.2.1) S h else fail) else fail
  | .ireturn => pI st fail fun a r => match r with
    | [] => if rk = 1 then ret (some (.inl a)) S h else if rk = 3 then (if a = 0 ∨ a = 1 then ret (some (.inl a)) S h else fail) else if rk = 4 then (if 0 ≤ a ∧ a < 128 then ret (some (.inl a)) S h else fail) else fail
    | _ :: _ => fail
  | .lreturn => pJ st fail fun a r => match r with
    | [] => if rk = 2 then ret (some (.inr (.inl a))) S h else fail
    | _ :: _ => fail
  | .return_ => match st with
    | [] => if rk = 0 then ret none S h else fail
    | _ :: _ => fail
  | _ => fail
end AK
end
section
/-! THE METHODS: each instruction with what its entries of the pool come to (written by wip/tools/gentabs.py) -/
noncomputable def tb_0 : List TE := [ -- X0_init
  (0, (.aload_n 0, 1), (0, 0, 0, 0)),
  (1, (.invokespecial 3, 3), (0, 0, 0, 1)),
  (4, (.aload_n 0, 1), (0, 0, 0, 0)),
  (5, (.iconst 2, 1), (0, 0, 0, 0)),
  (6, (.newarray .int, 2), (20, 0, 0, 0)),
  (8, (.putfield 9, 3), (0, 0, 2, 0)),
  (11, (.aload_n 0, 1), (0, 0, 0, 0)),
  (12, (.iconst 2, 1), (0, 0, 0, 0)),
  (13, (.newarray .int, 2), (20, 0, 0, 0)),
  (15, (.putfield 15, 3), (0, 1, 2, 0)),
  (18, (.aload_n 0, 1), (0, 0, 0, 0)),
  (19, (.iconst 2, 1), (0, 0, 0, 0)),
  (20, (.newarray .int, 2), (20, 0, 0, 0)),
  (22, (.putfield 18, 3), (0, 2, 2, 0)),
  (25, (.aload_n 0, 1), (0, 0, 0, 0)),
  (26, (.iconst 2, 1), (0, 0, 0, 0)),
  (27, (.newarray .int, 2), (20, 0, 0, 0)),
  (29, (.putfield 21, 3), (0, 3, 2, 0)),
  (32, (.aload_n 0, 1), (0, 0, 0, 0)),
  (33, (.iconst 2, 1), (0, 0, 0, 0)),
  (34, (.newarray .int, 2), (20, 0, 0, 0)),
  (36, (.putfield 24, 3), (0, 4, 2, 0)),
  (39, (.aload_n 0, 1), (0, 0, 0, 0)),
  (40, (.iconst 2, 1), (0, 0, 0, 0)),
  (41, (.newarray .int, 2), (20, 0, 0, 0)),
  (43, (.putfield 27, 3), (0, 5, 2, 0)),
  (46, (.aload_n 0, 1), (0, 0, 0, 0)),
  (47, (.iconst 2, 1), (0, 0, 0, 0)),
  (48, (.newarray .int, 2), (20, 0, 0, 0)),
  (50, (.putfield 30, 3), (0, 6, 2, 0)),
  (53, (.aload_n 0, 1), (0, 0, 0, 0)),
  (54, (.iconst 2, 1), (0, 0, 0, 0)),
  (55, (.newarray .int, 2), (20, 0, 0, 0)),
  (57, (.putfield 33, 3), (0, 7, 2, 0)),
  (60, (.return_, 1), (0, 0, 0, 0))]
noncomputable def tb_1 : List TE := [ -- X0_open
  (0, (.aload_n 0, 1), (0, 0, 0, 0)),
  (1, (.aload_n 1, 1), (0, 0, 0, 0)),
  (2, (.iload_n 2, 1), (0, 0, 0, 0)),
  (3, (.iload_n 3, 1), (0, 0, 0, 0)),
  (4, (.invokevirtual 36, 3), (3, 3, 0, 0)),
  (7, (.aload_n 0, 1), (0, 0, 0, 0)),
  (8, (.getfield 9, 3), (0, 0, 2, 0)),
  (11, (.iconst 0, 1), (0, 0, 0, 0)),
  (12, (.aload_n 0, 1), (0, 0, 0, 0)),
  (13, (.getfield 18, 3), (0, 2, 2, 0)),
  (16, (.iconst 0, 1), (0, 0, 0, 0)),
  (17, (.iaload, 1), (0, 0, 0, 0)),
  (18, (.iastore, 1), (0, 0, 0, 0)),
  (19, (.aload_n 0, 1), (0, 0, 0, 0)),
  (20, (.getfield 9, 3), (0, 0, 2, 0)),
  (23, (.iconst 1, 1), (0, 0, 0, 0)),
  (24, (.aload_n 0, 1), (0, 0, 0, 0)),
  (25, (.getfield 18, 3), (0, 2, 2, 0)),
  (28, (.iconst 1, 1), (0, 0, 0, 0)),
  (29, (.iaload, 1), (0, 0, 0, 0)),
  (30, (.iastore, 1), (0, 0, 0, 0)),
  (31, (.aload_n 0, 1), (0, 0, 0, 0)),
  (32, (.getfield 33, 3), (0, 7, 2, 0)),
  (35, (.iconst 0, 1), (0, 0, 0, 0)),
  (36, (.iconst 0, 1), (0, 0, 0, 0)),
  (37, (.iastore, 1), (0, 0, 0, 0)),
  (38, (.aload_n 0, 1), (0, 0, 0, 0)),
  (39, (.getfield 33, 3), (0, 7, 2, 0)),
  (42, (.iconst 1, 1), (0, 0, 0, 0)),
  (43, (.aload_n 0, 1), (0, 0, 0, 0)),
  (44, (.getfield 40, 3), (0, 8, 0, 0)),
  (47, (.iastore, 1), (0, 0, 0, 0)),
  (48, (.aload_n 0, 1), (0, 0, 0, 0)),
  (49, (.iconst 0, 1), (0, 0, 0, 0)),
  (50, (.putfield 44, 3), (0, 11, 0, 0)),
  (53, (.aload_n 0, 1), (0, 0, 0, 0)),
  (54, (.getfield 15, 3), (0, 1, 2, 0)),
  (57, (.iconst 0, 1), (0, 0, 0, 0)),
  (58, (.iconst 0, 1), (0, 0, 0, 0)),
  (59, (.iastore, 1), (0, 0, 0, 0)),
  (60, (.aload_n 0, 1), (0, 0, 0, 0)),
  (61, (.getfield 15, 3), (0, 1, 2, 0)),
  (64, (.iconst 1, 1), (0, 0, 0, 0)),
  (65, (.iconst 0, 1), (0, 0, 0, 0)),
  (66, (.iastore, 1), (0, 0, 0, 0)),
  (67, (.return_, 1), (0, 0, 0, 0))]
noncomputable def tb_2 : List TE := [ -- X0_resume
  (0, (.aload_n 0, 1), (0, 0, 0, 0)),
  (1, (.aload_n 1, 1), (0, 0, 0, 0)),
  (2, (.aload_n 1, 1), (0, 0, 0, 0)),
  (3, (.getfield 47, 3), (1, 14, 0, 0)),
  (6, (.aload_n 1, 1), (0, 0, 0, 0)),
  (7, (.getfield 52, 3), (1, 15, 0, 0)),
  (10, (.invokevirtual 36, 3), (3, 3, 0, 0)),
  (13, (.aload_n 0, 1), (0, 0, 0, 0)),
  (14, (.getfield 9, 3), (0, 0, 2, 0)),
  (17, (.iconst 0, 1), (0, 0, 0, 0)),
  (18, (.aload_n 1, 1), (0, 0, 0, 0)),
  (19, (.getfield 55, 3), (1, 8, 2, 0)),
  (22, (.aload_n 1, 1), (0, 0, 0, 0)),
  (23, (.getfield 47, 3), (1, 14, 0, 0)),
  (26, (.iaload, 1), (0, 0, 0, 0)),
  (27, (.iastore, 1), (0, 0, 0, 0)),
  (28, (.aload_n 0, 1), (0, 0, 0, 0)),
  (29, (.getfield 9, 3), (0, 0, 2, 0)),
  (32, (.iconst 1, 1), (0, 0, 0, 0)),
  (33, (.aload_n 1, 1), (0, 0, 0, 0)),
  (34, (.getfield 55, 3), (1, 8, 2, 0)),
  (37, (.aload_n 1, 1), (0, 0, 0, 0)),
  (38, (.getfield 52, 3), (1, 15, 0, 0)),
  (41, (.iaload, 1), (0, 0, 0, 0)),
  (42, (.iastore, 1), (0, 0, 0, 0)),
  (43, (.aload_n 0, 1), (0, 0, 0, 0)),
  (44, (.getfield 33, 3), (0, 7, 2, 0)),
  (47, (.iconst 0, 1), (0, 0, 0, 0)),
  (48, (.aload_n 1, 1), (0, 0, 0, 0)),
  (49, (.getfield 56, 3), (1, 16, 0, 0)),
  (52, (.iastore, 1), (0, 0, 0, 0)),
  (53, (.aload_n 0, 1), (0, 0, 0, 0)),
  (54, (.getfield 33, 3), (0, 7, 2, 0)),
  (57, (.iconst 1, 1), (0, 0, 0, 0)),
  (58, (.aload_n 1, 1), (0, 0, 0, 0)),
  (59, (.getfield 59, 3), (1, 17, 0, 0)),
  (62, (.iastore, 1), (0, 0, 0, 0)),
  (63, (.aload_n 0, 1), (0, 0, 0, 0)),
  (64, (.aload_n 1, 1), (0, 0, 0, 0)),
  (65, (.getfield 62, 3), (1, 18, 0, 0)),
  (68, (.putfield 44, 3), (0, 11, 0, 0)),
  (71, (.return_, 1), (0, 0, 0, 0))]
noncomputable def tb_3 : List TE := [ -- X0_enter
  (0, (.aload_n 0, 1), (0, 0, 0, 0)),
  (1, (.aload_n 1, 1), (0, 0, 0, 0)),
  (2, (.getfield 63, 3), (1, 2, 2, 0)),
  (5, (.iconst 0, 1), (0, 0, 0, 0)),
  (6, (.iaload, 1), (0, 0, 0, 0)),
  (7, (.putfield 40, 3), (0, 8, 0, 0)),
  (10, (.aload_n 0, 1), (0, 0, 0, 0)),
  (11, (.aload_n 1, 1), (0, 0, 0, 0)),
  (12, (.getfield 63, 3), (1, 2, 2, 0)),
  (15, (.iconst 1, 1), (0, 0, 0, 0)),
  (16, (.iaload, 1), (0, 0, 0, 0)),
  (17, (.putfield 66, 3), (0, 9, 0, 0)),
  (20, (.aload_n 0, 1), (0, 0, 0, 0)),
  (21, (.aload_n 1, 1), (0, 0, 0, 0)),
  (22, (.getfield 63, 3), (1, 2, 2, 0)),
  (25, (.iconst 2, 1), (0, 0, 0, 0)),
  (26, (.iaload, 1), (0, 0, 0, 0)),
  (27, (.putfield 69, 3), (0, 10, 0, 0)),
  (30, (.iconst 0, 1), (0, 0, 0, 0)),
  (31, (.istore 4, 2), (0, 0, 0, 0)),
  (33, (.iload 4, 2), (0, 0, 0, 0)),
  (35, (.iconst 2, 1), (0, 0, 0, 0)),
  (36, (.if_icmp .ge 119, 3), (0, 0, 0, 0)),
  (39, (.iload 4, 2), (0, 0, 0, 0)),
  (41, (.ifCond .ne 7, 3), (0, 0, 0, 0)),
  (44, (.iload_n 2, 1), (0, 0, 0, 0)),
  (45, (.goto 4, 3), (0, 0, 0, 0)),
  (48, (.iload_n 3, 1), (0, 0, 0, 0)),
  (49, (.istore 5, 2), (0, 0, 0, 0)),
  (51, (.aload_n 1, 1), (0, 0, 0, 0)),
  (52, (.getfield 72, 3), (1, 10, 2, 0)),
  (55, (.iload 5, 2), (0, 0, 0, 0)),
  (57, (.iaload, 1), (0, 0, 0, 0)),
  (58, (.istore 6, 2), (0, 0, 0, 0)),
  (60, (.aload_n 0, 1), (0, 0, 0, 0)),
  (61, (.getfield 18, 3), (0, 2, 2, 0)),
  (64, (.iload 4, 2), (0, 0, 0, 0)),
  (66, (.aload_n 1, 1), (0, 0, 0, 0)),
  (67, (.getfield 75, 3), (1, 9, 2, 0)),
  (70, (.iload 5, 2), (0, 0, 0, 0)),
  (72, (.iaload, 1), (0, 0, 0, 0)),
  (73, (.iastore, 1), (0, 0, 0, 0)),
  (74, (.aload_n 0, 1), (0, 0, 0, 0)),
  (75, (.getfield 21, 3), (0, 3, 2, 0)),
  (78, (.iload 4, 2), (0, 0, 0, 0)),
  (80, (.aload_n 1, 1), (0, 0, 0, 0)),
  (81, (.getfield 76, 3), (1, 7, 2, 0)),
  (84, (.iload 5, 2), (0, 0, 0, 0)),
  (86, (.iaload, 1), (0, 0, 0, 0)),
  (87, (.iastore, 1), (0, 0, 0, 0)),
  (88, (.aload_n 0, 1), (0, 0, 0, 0)),
  (89, (.getfield 30, 3), (0, 6, 2, 0)),
  (92, (.iload 4, 2), (0, 0, 0, 0)),
  (94, (.aload_n 1, 1), (0, 0, 0, 0)),
  (95, (.iload 6, 2), (0, 0, 0, 0)),
  (97, (.invokevirtual 77, 3), (29, 1, 1, 0)),
  (100, (.iastore, 1), (0, 0, 0, 0)),
  (101, (.aload_n 0, 1), (0, 0, 0, 0)),
  (102, (.getfield 24, 3), (0, 4, 2, 0)),
  (105, (.iload 4, 2), (0, 0, 0, 0)),
  (107, (.iload 6, 2), (0, 0, 0, 0)),
  (109, (.iconst (-1), 1), (0, 0, 0, 0)),
  (110, (.if_icmp .ne 7, 3), (0, 0, 0, 0)),
  (113, (.iconst 1, 1), (0, 0, 0, 0)),
  (114, (.goto 10, 3), (0, 0, 0, 0)),
  (117, (.aload_n 1, 1), (0, 0, 0, 0)),
  (118, (.getfield 81, 3), (1, 3, 2, 0)),
  (121, (.iload 6, 2), (0, 0, 0, 0)),
  (123, (.iaload, 1), (0, 0, 0, 0)),
  (124, (.iastore, 1), (0, 0, 0, 0)),
  (125, (.aload_n 0, 1), (0, 0, 0, 0)),
  (126, (.getfield 27, 3), (0, 5, 2, 0)),
  (129, (.iload 4, 2), (0, 0, 0, 0)),
  (131, (.iload 6, 2), (0, 0, 0, 0)),
  (133, (.iconst (-1), 1), (0, 0, 0, 0)),
  (134, (.if_icmp .ne 7, 3), (0, 0, 0, 0)),
  (137, (.iconst 0, 1), (0, 0, 0, 0)),
  (138, (.goto 10, 3), (0, 0, 0, 0)),
  (141, (.aload_n 1, 1), (0, 0, 0, 0)),
  (142, (.getfield 82, 3), (1, 4, 2, 0)),
  (145, (.iload 6, 2), (0, 0, 0, 0)),
  (147, (.iaload, 1), (0, 0, 0, 0)),
  (148, (.iastore, 1), (0, 0, 0, 0)),
  (149, (.iinc 4 1, 3), (0, 0, 0, 0)),
  (152, (.goto (-119), 3), (0, 0, 0, 0)),
  (155, (.return_, 1), (0, 0, 0, 0))]
noncomputable def tb_4 : List TE := [ -- X0_actsIn
  (0, (.aload_n 1, 1), (0, 0, 0, 0)),
  (1, (.invokevirtual 83, 3), (40, 0, 1, 0)),
  (4, (.ifCond .ne 5, 3), (0, 0, 0, 0)),
  (7, (.iconst 0, 1), (0, 0, 0, 0)),
  (8, (.ireturn, 1), (0, 0, 0, 0)),
  (9, (.aload_n 0, 1), (0, 0, 0, 0)),
  (10, (.aload_n 1, 1), (0, 0, 0, 0)),
  (11, (.invokevirtual 87, 3), (2, 1, 0, 0)),
  (14, (.aload_n 0, 1), (0, 0, 0, 0)),
  (15, (.iload_n 2, 1), (0, 0, 0, 0)),
  (16, (.invokevirtual 91, 3), (11, 1, 0, 0)),
  (19, (.ifCond .ne 5, 3), (0, 0, 0, 0)),
  (22, (.iconst 0, 1), (0, 0, 0, 0)),
  (23, (.ireturn, 1), (0, 0, 0, 0)),
  (24, (.aload_n 0, 1), (0, 0, 0, 0)),
  (25, (.iload_n 2, 1), (0, 0, 0, 0)),
  (26, (.invokevirtual 95, 3), (13, 1, 0, 0)),
  (29, (.aload_n 0, 1), (0, 0, 0, 0)),
  (30, (.iconst 0, 1), (0, 0, 0, 0)),
  (31, (.aload_n 1, 1), (0, 0, 0, 0)),
  (32, (.aload_n 1, 1), (0, 0, 0, 0)),
  (33, (.getfield 47, 3), (1, 14, 0, 0)),
  (36, (.invokevirtual 99, 3), (5, 3, 0, 0)),
  (39, (.aload_n 0, 1), (0, 0, 0, 0)),
  (40, (.iconst 1, 1), (0, 0, 0, 0)),
  (41, (.aload_n 1, 1), (0, 0, 0, 0)),
  (42, (.aload_n 1, 1), (0, 0, 0, 0)),
  (43, (.getfield 52, 3), (1, 15, 0, 0)),
  (46, (.invokevirtual 99, 3), (5, 3, 0, 0)),
  (49, (.aload_n 1, 1), (0, 0, 0, 0)),
  (50, (.aload_n 0, 1), (0, 0, 0, 0)),
  (51, (.getfield 33, 3), (0, 7, 2, 0)),
  (54, (.iconst 0, 1), (0, 0, 0, 0)),
  (55, (.iaload, 1), (0, 0, 0, 0)),
  (56, (.putfield 56, 3), (1, 16, 0, 0)),
  (59, (.aload_n 1, 1), (0, 0, 0, 0)),
  (60, (.aload_n 0, 1), (0, 0, 0, 0)),
  (61, (.getfield 33, 3), (0, 7, 2, 0)),
  (64, (.iconst 1, 1), (0, 0, 0, 0)),
  (65, (.iaload, 1), (0, 0, 0, 0)),
  (66, (.putfield 59, 3), (1, 17, 0, 0)),
  (69, (.aload_n 1, 1), (0, 0, 0, 0)),
  (70, (.aload_n 0, 1), (0, 0, 0, 0)),
  (71, (.getfield 44, 3), (0, 11, 0, 0)),
  (74, (.putfield 62, 3), (1, 18, 0, 0)),
  (77, (.aload_n 0, 1), (0, 0, 0, 0)),
  (78, (.invokevirtual 103, 3), (7, 0, 0, 0)),
  (81, (.ifCond .eq 25, 3), (0, 0, 0, 0)),
  (84, (.aload_n 1, 1), (0, 0, 0, 0)),
  (85, (.aload_n 0, 1), (0, 0, 0, 0)),
  (86, (.getfield 9, 3), (0, 0, 2, 0)),
  (89, (.iconst 0, 1), (0, 0, 0, 0)),
  (90, (.iaload, 1), (0, 0, 0, 0)),
  (91, (.ifCond .ne 7, 3), (0, 0, 0, 0)),
  (94, (.iconst 1, 1), (0, 0, 0, 0)),
  (95, (.goto 4, 3), (0, 0, 0, 0)),
  (98, (.iconst 0, 1), (0, 0, 0, 0)),
  (99, (.invokevirtual 106, 3), (36, 1, 1, 0)),
  (102, (.aload_n 1, 1), (0, 0, 0, 0)),
  (103, (.invokevirtual 110, 3), (43, 0, 1, 0)),
  (106, (.iconst 1, 1), (0, 0, 0, 0)),
  (107, (.ireturn, 1), (0, 0, 0, 0))]
noncomputable def tb_5 : List TE := [ -- X0_putBack
  (0, (.aload_n 2, 1), (0, 0, 0, 0)),
  (1, (.getfield 55, 3), (1, 8, 2, 0)),
  (4, (.iload_n 3, 1), (0, 0, 0, 0)),
  (5, (.aload_n 0, 1), (0, 0, 0, 0)),
  (6, (.getfield 9, 3), (0, 0, 2, 0)),
  (9, (.iload_n 1, 1), (0, 0, 0, 0)),
  (10, (.iaload, 1), (0, 0, 0, 0)),
  (11, (.iastore, 1), (0, 0, 0, 0)),
  (12, (.aload_n 2, 1), (0, 0, 0, 0)),
  (13, (.getfield 72, 3), (1, 10, 2, 0)),
  (16, (.iload_n 3, 1), (0, 0, 0, 0)),
  (17, (.iaload, 1), (0, 0, 0, 0)),
  (18, (.istore 4, 2), (0, 0, 0, 0)),
  (20, (.iload 4, 2), (0, 0, 0, 0)),
  (22, (.iconst (-1), 1), (0, 0, 0, 0)),
  (23, (.if_icmp .eq 24, 3), (0, 0, 0, 0)),
  (26, (.aload_n 2, 1), (0, 0, 0, 0)),
  (27, (.getfield 113, 3), (1, 6, 2, 0)),
  (30, (.iload 4, 2), (0, 0, 0, 0)),
  (32, (.aload_n 2, 1), (0, 0, 0, 0)),
  (33, (.getfield 116, 3), (1, 5, 2, 0)),
  (36, (.iload 4, 2), (0, 0, 0, 0)),
  (38, (.iaload, 1), (0, 0, 0, 0)),
  (39, (.aload_n 0, 1), (0, 0, 0, 0)),
  (40, (.getfield 30, 3), (0, 6, 2, 0)),
  (43, (.iload_n 1, 1), (0, 0, 0, 0)),
  (44, (.iaload, 1), (0, 0, 0, 0)),
  (45, (.isub, 1), (0, 0, 0, 0)),
  (46, (.iastore, 1), (0, 0, 0, 0)),
  (47, (.return_, 1), (0, 0, 0, 0))]
noncomputable def tb_6 : List TE := [ -- X0_mover
  (0, (.aload_n 0, 1), (0, 0, 0, 0)),
  (1, (.getfield 44, 3), (0, 11, 0, 0)),
  (4, (.iconst 1, 1), (0, 0, 0, 0)),
  (5, (.iand, 1), (0, 0, 0, 0)),
  (6, (.ireturn, 1), (0, 0, 0, 0))]
noncomputable def tb_7 : List TE := [ -- X0_over
  (0, (.aload_n 0, 1), (0, 0, 0, 0)),
  (1, (.getfield 9, 3), (0, 0, 2, 0)),
  (4, (.iconst 0, 1), (0, 0, 0, 0)),
  (5, (.iaload, 1), (0, 0, 0, 0)),
  (6, (.ifCond .eq 12, 3), (0, 0, 0, 0)),
  (9, (.aload_n 0, 1), (0, 0, 0, 0)),
  (10, (.getfield 9, 3), (0, 0, 2, 0)),
  (13, (.iconst 1, 1), (0, 0, 0, 0)),
  (14, (.iaload, 1), (0, 0, 0, 0)),
  (15, (.ifCond .ne 7, 3), (0, 0, 0, 0)),
  (18, (.iconst 1, 1), (0, 0, 0, 0)),
  (19, (.goto 4, 3), (0, 0, 0, 0)),
  (22, (.iconst 0, 1), (0, 0, 0, 0)),
  (23, (.ireturn, 1), (0, 0, 0, 0))]
noncomputable def tb_8 : List TE := [ -- X0_apart
  (0, (.aload_n 0, 1), (0, 0, 0, 0)),
  (1, (.getfield 33, 3), (0, 7, 2, 0)),
  (4, (.iconst 1, 1), (0, 0, 0, 0)),
  (5, (.iaload, 1), (0, 0, 0, 0)),
  (6, (.aload_n 0, 1), (0, 0, 0, 0)),
  (7, (.getfield 33, 3), (0, 7, 2, 0)),
  (10, (.iconst 0, 1), (0, 0, 0, 0)),
  (11, (.iaload, 1), (0, 0, 0, 0)),
  (12, (.isub, 1), (0, 0, 0, 0)),
  (13, (.ireturn, 1), (0, 0, 0, 0))]
noncomputable def tb_9 : List TE := [ -- X0_reachNow
  (0, (.aload_n 0, 1), (0, 0, 0, 0)),
  (1, (.getfield 30, 3), (0, 6, 2, 0)),
  (4, (.iload_n 1, 1), (0, 0, 0, 0)),
  (5, (.iaload, 1), (0, 0, 0, 0)),
  (6, (.ifCond .le 12, 3), (0, 0, 0, 0)),
  (9, (.aload_n 0, 1), (0, 0, 0, 0)),
  (10, (.getfield 24, 3), (0, 4, 2, 0)),
  (13, (.iload_n 1, 1), (0, 0, 0, 0)),
  (14, (.iaload, 1), (0, 0, 0, 0)),
  (15, (.goto 4, 3), (0, 0, 0, 0)),
  (18, (.iconst 1, 1), (0, 0, 0, 0)),
  (19, (.ireturn, 1), (0, 0, 0, 0))]
noncomputable def tb_10 : List TE := [ -- X0_hurtBy
  (0, (.aload_n 0, 1), (0, 0, 0, 0)),
  (1, (.getfield 30, 3), (0, 6, 2, 0)),
  (4, (.iload_n 1, 1), (0, 0, 0, 0)),
  (5, (.iaload, 1), (0, 0, 0, 0)),
  (6, (.ifCond .le 19, 3), (0, 0, 0, 0)),
  (9, (.aload_n 0, 1), (0, 0, 0, 0)),
  (10, (.getfield 21, 3), (0, 3, 2, 0)),
  (13, (.iload_n 1, 1), (0, 0, 0, 0)),
  (14, (.iaload, 1), (0, 0, 0, 0)),
  (15, (.aload_n 0, 1), (0, 0, 0, 0)),
  (16, (.getfield 27, 3), (0, 5, 2, 0)),
  (19, (.iload_n 1, 1), (0, 0, 0, 0)),
  (20, (.iaload, 1), (0, 0, 0, 0)),
  (21, (.iadd, 1), (0, 0, 0, 0)),
  (22, (.goto 9, 3), (0, 0, 0, 0)),
  (25, (.aload_n 0, 1), (0, 0, 0, 0)),
  (26, (.getfield 21, 3), (0, 3, 2, 0)),
  (29, (.iload_n 1, 1), (0, 0, 0, 0)),
  (30, (.iaload, 1), (0, 0, 0, 0)),
  (31, (.istore_n 2, 1), (0, 0, 0, 0)),
  (32, (.iload_n 1, 1), (0, 0, 0, 0)),
  (33, (.iconst 1, 1), (0, 0, 0, 0)),
  (34, (.if_icmp .ne 23, 3), (0, 0, 0, 0)),
  (37, (.aload_n 0, 1), (0, 0, 0, 0)),
  (38, (.getfield 44, 3), (0, 11, 0, 0)),
  (41, (.aload_n 0, 1), (0, 0, 0, 0)),
  (42, (.getfield 66, 3), (0, 9, 0, 0)),
  (45, (.if_icmp .ge 12, 3), (0, 0, 0, 0)),
  (48, (.iload_n 2, 1), (0, 0, 0, 0)),
  (49, (.aload_n 0, 1), (0, 0, 0, 0)),
  (50, (.getfield 69, 3), (0, 10, 0, 0)),
  (53, (.isub, 1), (0, 0, 0, 0)),
  (54, (.goto 4, 3), (0, 0, 0, 0)),
  (57, (.iload_n 2, 1), (0, 0, 0, 0)),
  (58, (.istore_n 3, 1), (0, 0, 0, 0)),
  (59, (.iload_n 3, 1), (0, 0, 0, 0)),
  (60, (.ifCond .ge 7, 3), (0, 0, 0, 0)),
  (63, (.iconst 0, 1), (0, 0, 0, 0)),
  (64, (.goto 4, 3), (0, 0, 0, 0)),
  (67, (.iload_n 3, 1), (0, 0, 0, 0)),
  (68, (.ireturn, 1), (0, 0, 0, 0))]
noncomputable def tb_11 : List TE := [ -- X0_can
  (0, (.aload_n 0, 1), (0, 0, 0, 0)),
  (1, (.invokevirtual 119, 3), (6, 0, 0, 0)),
  (4, (.istore_n 2, 1), (0, 0, 0, 0)),
  (5, (.iload_n 1, 1), (0, 0, 0, 0)),
  (6, (.tableswitch 104 0 3 #[30, 32, 46, 86], 30), (0, 0, 0, 0)),
  (36, (.iconst 1, 1), (0, 0, 0, 0)),
  (37, (.ireturn, 1), (0, 0, 0, 0)),
  (38, (.aload_n 0, 1), (0, 0, 0, 0)),
  (39, (.invokevirtual 123, 3), (8, 0, 0, 0)),
  (42, (.iconst 1, 1), (0, 0, 0, 0)),
  (43, (.if_icmp .le 7, 3), (0, 0, 0, 0)),
  (46, (.iconst 1, 1), (0, 0, 0, 0)),
  (47, (.goto 4, 3), (0, 0, 0, 0)),
  (50, (.iconst 0, 1), (0, 0, 0, 0)),
  (51, (.ireturn, 1), (0, 0, 0, 0)),
  (52, (.iload_n 2, 1), (0, 0, 0, 0)),
  (53, (.ifCond .ne 20, 3), (0, 0, 0, 0)),
  (56, (.aload_n 0, 1), (0, 0, 0, 0)),
  (57, (.getfield 33, 3), (0, 7, 2, 0)),
  (60, (.iconst 0, 1), (0, 0, 0, 0)),
  (61, (.iaload, 1), (0, 0, 0, 0)),
  (62, (.ifCond .le 7, 3), (0, 0, 0, 0)),
  (65, (.iconst 1, 1), (0, 0, 0, 0)),
  (66, (.goto 25, 3), (0, 0, 0, 0)),
  (69, (.iconst 0, 1), (0, 0, 0, 0)),
  (70, (.goto 21, 3), (0, 0, 0, 0)),
  (73, (.aload_n 0, 1), (0, 0, 0, 0)),
  (74, (.getfield 33, 3), (0, 7, 2, 0)),
  (77, (.iconst 1, 1), (0, 0, 0, 0)),
  (78, (.iaload, 1), (0, 0, 0, 0)),
  (79, (.aload_n 0, 1), (0, 0, 0, 0)),
  (80, (.getfield 40, 3), (0, 8, 0, 0)),
  (83, (.if_icmp .ge 7, 3), (0, 0, 0, 0)),
  (86, (.iconst 1, 1), (0, 0, 0, 0)),
  (87, (.goto 4, 3), (0, 0, 0, 0)),
  (90, (.iconst 0, 1), (0, 0, 0, 0)),
  (91, (.ireturn, 1), (0, 0, 0, 0)),
  (92, (.aload_n 0, 1), (0, 0, 0, 0)),
  (93, (.invokevirtual 123, 3), (8, 0, 0, 0)),
  (96, (.aload_n 0, 1), (0, 0, 0, 0)),
  (97, (.iload_n 2, 1), (0, 0, 0, 0)),
  (98, (.invokevirtual 126, 3), (9, 1, 0, 0)),
  (101, (.if_icmp .gt 7, 3), (0, 0, 0, 0)),
  (104, (.iconst 1, 1), (0, 0, 0, 0)),
  (105, (.goto 4, 3), (0, 0, 0, 0)),
  (108, (.iconst 0, 1), (0, 0, 0, 0)),
  (109, (.ireturn, 1), (0, 0, 0, 0)),
  (110, (.iconst 0, 1), (0, 0, 0, 0)),
  (111, (.ireturn, 1), (0, 0, 0, 0))]
noncomputable def tb_12 : List TE := [ -- X0_countSpared
  (0, (.iload_n 1, 1), (0, 0, 0, 0)),
  (1, (.iconst 3, 1), (0, 0, 0, 0)),
  (2, (.if_icmp .eq 24, 3), (0, 0, 0, 0)),
  (5, (.aload_n 0, 1), (0, 0, 0, 0)),
  (6, (.iconst 3, 1), (0, 0, 0, 0)),
  (7, (.invokevirtual 91, 3), (11, 1, 0, 0)),
  (10, (.ifCond .eq 16, 3), (0, 0, 0, 0)),
  (13, (.aload_n 0, 1), (0, 0, 0, 0)),
  (14, (.getfield 15, 3), (0, 1, 2, 0)),
  (17, (.aload_n 0, 1), (0, 0, 0, 0)),
  (18, (.invokevirtual 119, 3), (6, 0, 0, 0)),
  (21, (.dup2, 1), (0, 0, 0, 0)),
  (22, (.iaload, 1), (0, 0, 0, 0)),
  (23, (.iconst 1, 1), (0, 0, 0, 0)),
  (24, (.iadd, 1), (0, 0, 0, 0)),
  (25, (.iastore, 1), (0, 0, 0, 0)),
  (26, (.return_, 1), (0, 0, 0, 0))]
noncomputable def tb_13 : List TE := [ -- X0_play
  (0, (.aload_n 0, 1), (0, 0, 0, 0)),
  (1, (.invokevirtual 119, 3), (6, 0, 0, 0)),
  (4, (.istore_n 2, 1), (0, 0, 0, 0)),
  (5, (.iload_n 2, 1), (0, 0, 0, 0)),
  (6, (.ifCond .ne 7, 3), (0, 0, 0, 0)),
  (9, (.iconst 1, 1), (0, 0, 0, 0)),
  (10, (.goto 4, 3), (0, 0, 0, 0)),
  (13, (.iconst (-1), 1), (0, 0, 0, 0)),
  (14, (.istore_n 3, 1), (0, 0, 0, 0)),
  (15, (.aload_n 0, 1), (0, 0, 0, 0)),
  (16, (.iconst 0, 1), (0, 0, 0, 0)),
  (17, (.putfield 129, 3), (0, 12, 0, 0)),
  (20, (.iload_n 1, 1), (0, 0, 0, 0)),
  (21, (.tableswitch 79 0 2 #[27, 53, 66], 27), (0, 0, 0, 0)),
  (48, (.aload_n 0, 1), (0, 0, 0, 0)),
  (49, (.getfield 9, 3), (0, 0, 2, 0)),
  (52, (.iload_n 2, 1), (0, 0, 0, 0)),
  (53, (.aload_n 0, 1), (0, 0, 0, 0)),
  (54, (.getfield 18, 3), (0, 2, 2, 0)),
  (57, (.iload_n 2, 1), (0, 0, 0, 0)),
  (58, (.iaload, 1), (0, 0, 0, 0)),
  (59, (.aload_n 0, 1), (0, 0, 0, 0)),
  (60, (.getfield 9, 3), (0, 0, 2, 0)),
  (63, (.iload_n 2, 1), (0, 0, 0, 0)),
  (64, (.iaload, 1), (0, 0, 0, 0)),
  (65, (.iconst 1, 1), (0, 0, 0, 0)),
  (66, (.iadd, 1), (0, 0, 0, 0)),
  (67, (.invokestatic 132, 3), (342, 2, 0, 0)),
  (70, (.iastore, 1), (0, 0, 0, 0)),
  (71, (.goto 34, 3), (0, 0, 0, 0)),
  (74, (.aload_n 0, 1), (0, 0, 0, 0)),
  (75, (.getfield 33, 3), (0, 7, 2, 0)),
  (78, (.iload_n 2, 1), (0, 0, 0, 0)),
  (79, (.dup2, 1), (0, 0, 0, 0)),
  (80, (.iaload, 1), (0, 0, 0, 0)),
  (81, (.iload_n 3, 1), (0, 0, 0, 0)),
  (82, (.iadd, 1), (0, 0, 0, 0)),
  (83, (.iastore, 1), (0, 0, 0, 0)),
  (84, (.goto 21, 3), (0, 0, 0, 0)),
  (87, (.aload_n 0, 1), (0, 0, 0, 0)),
  (88, (.getfield 33, 3), (0, 7, 2, 0)),
  (91, (.iload_n 2, 1), (0, 0, 0, 0)),
  (92, (.dup2, 1), (0, 0, 0, 0)),
  (93, (.iaload, 1), (0, 0, 0, 0)),
  (94, (.iload_n 3, 1), (0, 0, 0, 0)),
  (95, (.isub, 1), (0, 0, 0, 0)),
  (96, (.iastore, 1), (0, 0, 0, 0)),
  (97, (.goto 8, 3), (0, 0, 0, 0)),
  (100, (.aload_n 0, 1), (0, 0, 0, 0)),
  (101, (.iload_n 2, 1), (0, 0, 0, 0)),
  (102, (.invokevirtual 138, 3), (14, 1, 0, 0)),
  (105, (.aload_n 0, 1), (0, 0, 0, 0)),
  (106, (.dup, 1), (0, 0, 0, 0)),
  (107, (.getfield 44, 3), (0, 11, 0, 0)),
  (110, (.iconst 1, 1), (0, 0, 0, 0)),
  (111, (.iadd, 1), (0, 0, 0, 0)),
  (112, (.putfield 44, 3), (0, 11, 0, 0)),
  (115, (.return_, 1), (0, 0, 0, 0))]
noncomputable def tb_14 : List TE := [ -- X0_hit
  (0, (.iconst 1, 1), (0, 0, 0, 0)),
  (1, (.iload_n 1, 1), (0, 0, 0, 0)),
  (2, (.isub, 1), (0, 0, 0, 0)),
  (3, (.istore_n 2, 1), (0, 0, 0, 0)),
  (4, (.aload_n 0, 1), (0, 0, 0, 0)),
  (5, (.aload_n 0, 1), (0, 0, 0, 0)),
  (6, (.getfield 9, 3), (0, 0, 2, 0)),
  (9, (.iload_n 2, 1), (0, 0, 0, 0)),
  (10, (.iaload, 1), (0, 0, 0, 0)),
  (11, (.aload_n 0, 1), (0, 0, 0, 0)),
  (12, (.iload_n 1, 1), (0, 0, 0, 0)),
  (13, (.invokevirtual 141, 3), (10, 1, 0, 0)),
  (16, (.invokestatic 132, 3), (342, 2, 0, 0)),
  (19, (.putfield 129, 3), (0, 12, 0, 0)),
  (22, (.aload_n 0, 1), (0, 0, 0, 0)),
  (23, (.getfield 9, 3), (0, 0, 2, 0)),
  (26, (.iload_n 2, 1), (0, 0, 0, 0)),
  (27, (.dup2, 1), (0, 0, 0, 0)),
  (28, (.iaload, 1), (0, 0, 0, 0)),
  (29, (.aload_n 0, 1), (0, 0, 0, 0)),
  (30, (.getfield 129, 3), (0, 12, 0, 0)),
  (33, (.isub, 1), (0, 0, 0, 0)),
  (34, (.iastore, 1), (0, 0, 0, 0)),
  (35, (.aload_n 0, 1), (0, 0, 0, 0)),
  (36, (.getfield 30, 3), (0, 6, 2, 0)),
  (39, (.iload_n 1, 1), (0, 0, 0, 0)),
  (40, (.iaload, 1), (0, 0, 0, 0)),
  (41, (.ifCond .le 13, 3), (0, 0, 0, 0)),
  (44, (.aload_n 0, 1), (0, 0, 0, 0)),
  (45, (.getfield 30, 3), (0, 6, 2, 0)),
  (48, (.iload_n 1, 1), (0, 0, 0, 0)),
  (49, (.dup2, 1), (0, 0, 0, 0)),
  (50, (.iaload, 1), (0, 0, 0, 0)),
  (51, (.iconst 1, 1), (0, 0, 0, 0)),
  (52, (.isub, 1), (0, 0, 0, 0)),
  (53, (.iastore, 1), (0, 0, 0, 0)),
  (54, (.return_, 1), (0, 0, 0, 0))]
noncomputable def tb_15 : List TE := [ -- X0_packed
  (0, (.aload_n 0, 1), (0, 0, 0, 0)),
  (1, (.getfield 9, 3), (0, 0, 2, 0)),
  (4, (.iconst 0, 1), (0, 0, 0, 0)),
  (5, (.iaload, 1), (0, 0, 0, 0)),
  (6, (.aload_n 0, 1), (0, 0, 0, 0)),
  (7, (.getfield 9, 3), (0, 0, 2, 0)),
  (10, (.iconst 1, 1), (0, 0, 0, 0)),
  (11, (.iaload, 1), (0, 0, 0, 0)),
  (12, (.bipush 6, 2), (0, 0, 0, 0)),
  (14, (.ishl, 1), (0, 0, 0, 0)),
  (15, (.ior, 1), (0, 0, 0, 0)),
  (16, (.aload_n 0, 1), (0, 0, 0, 0)),
  (17, (.getfield 30, 3), (0, 6, 2, 0)),
  (20, (.iconst 0, 1), (0, 0, 0, 0)),
  (21, (.iaload, 1), (0, 0, 0, 0)),
  (22, (.bipush 12, 2), (0, 0, 0, 0)),
  (24, (.ishl, 1), (0, 0, 0, 0)),
  (25, (.ior, 1), (0, 0, 0, 0)),
  (26, (.aload_n 0, 1), (0, 0, 0, 0)),
  (27, (.getfield 30, 3), (0, 6, 2, 0)),
  (30, (.iconst 1, 1), (0, 0, 0, 0)),
  (31, (.iaload, 1), (0, 0, 0, 0)),
  (32, (.bipush 17, 2), (0, 0, 0, 0)),
  (34, (.ishl, 1), (0, 0, 0, 0)),
  (35, (.ior, 1), (0, 0, 0, 0)),
  (36, (.istore_n 1, 1), (0, 0, 0, 0)),
  (37, (.aload_n 0, 1), (0, 0, 0, 0)),
  (38, (.getfield 33, 3), (0, 7, 2, 0)),
  (41, (.iconst 0, 1), (0, 0, 0, 0)),
  (42, (.iaload, 1), (0, 0, 0, 0)),
  (43, (.bipush 22, 2), (0, 0, 0, 0)),
  (45, (.ishl, 1), (0, 0, 0, 0)),
  (46, (.aload_n 0, 1), (0, 0, 0, 0)),
  (47, (.getfield 33, 3), (0, 7, 2, 0)),
  (50, (.iconst 1, 1), (0, 0, 0, 0)),
  (51, (.iaload, 1), (0, 0, 0, 0)),
  (52, (.bipush 26, 2), (0, 0, 0, 0)),
  (54, (.ishl, 1), (0, 0, 0, 0)),
  (55, (.ior, 1), (0, 0, 0, 0)),
  (56, (.istore_n 2, 1), (0, 0, 0, 0)),
  (57, (.iload_n 1, 1), (0, 0, 0, 0)),
  (58, (.iload_n 2, 1), (0, 0, 0, 0)),
  (59, (.ior, 1), (0, 0, 0, 0)),
  (60, (.i2l, 1), (0, 0, 0, 0)),
  (61, (.aload_n 0, 1), (0, 0, 0, 0)),
  (62, (.getfield 44, 3), (0, 11, 0, 0)),
  (65, (.i2l, 1), (0, 0, 0, 0)),
  (66, (.bipush 30, 2), (0, 0, 0, 0)),
  (68, (.lshl, 1), (0, 0, 0, 0)),
  (69, (.lor, 1), (0, 0, 0, 0)),
  (70, (.lreturn, 1), (0, 0, 0, 0))]
noncomputable def tb_16 : List TE := [ -- X0_unpack
  (0, (.aload_n 0, 1), (0, 0, 0, 0)),
  (1, (.getfield 9, 3), (0, 0, 2, 0)),
  (4, (.iconst 0, 1), (0, 0, 0, 0)),
  (5, (.lload_n 1, 1), (0, 0, 0, 0)),
  (6, (.l2i, 1), (0, 0, 0, 0)),
  (7, (.bipush 63, 2), (0, 0, 0, 0)),
  (9, (.iand, 1), (0, 0, 0, 0)),
  (10, (.iastore, 1), (0, 0, 0, 0)),
  (11, (.aload_n 0, 1), (0, 0, 0, 0)),
  (12, (.getfield 9, 3), (0, 0, 2, 0)),
  (15, (.iconst 1, 1), (0, 0, 0, 0)),
  (16, (.lload_n 1, 1), (0, 0, 0, 0)),
  (17, (.bipush 6, 2), (0, 0, 0, 0)),
  (19, (.lshr, 1), (0, 0, 0, 0)),
  (20, (.l2i, 1), (0, 0, 0, 0)),
  (21, (.bipush 63, 2), (0, 0, 0, 0)),
  (23, (.iand, 1), (0, 0, 0, 0)),
  (24, (.iastore, 1), (0, 0, 0, 0)),
  (25, (.aload_n 0, 1), (0, 0, 0, 0)),
  (26, (.getfield 30, 3), (0, 6, 2, 0)),
  (29, (.iconst 0, 1), (0, 0, 0, 0)),
  (30, (.lload_n 1, 1), (0, 0, 0, 0)),
  (31, (.bipush 12, 2), (0, 0, 0, 0)),
  (33, (.lshr, 1), (0, 0, 0, 0)),
  (34, (.l2i, 1), (0, 0, 0, 0)),
  (35, (.bipush 31, 2), (0, 0, 0, 0)),
  (37, (.iand, 1), (0, 0, 0, 0)),
  (38, (.iastore, 1), (0, 0, 0, 0)),
  (39, (.aload_n 0, 1), (0, 0, 0, 0)),
  (40, (.getfield 30, 3), (0, 6, 2, 0)),
  (43, (.iconst 1, 1), (0, 0, 0, 0)),
  (44, (.lload_n 1, 1), (0, 0, 0, 0)),
  (45, (.bipush 17, 2), (0, 0, 0, 0)),
  (47, (.lshr, 1), (0, 0, 0, 0)),
  (48, (.l2i, 1), (0, 0, 0, 0)),
  (49, (.bipush 31, 2), (0, 0, 0, 0)),
  (51, (.iand, 1), (0, 0, 0, 0)),
  (52, (.iastore, 1), (0, 0, 0, 0)),
  (53, (.aload_n 0, 1), (0, 0, 0, 0)),
  (54, (.getfield 33, 3), (0, 7, 2, 0)),
  (57, (.iconst 0, 1), (0, 0, 0, 0)),
  (58, (.lload_n 1, 1), (0, 0, 0, 0)),
  (59, (.bipush 22, 2), (0, 0, 0, 0)),
  (61, (.lshr, 1), (0, 0, 0, 0)),
  (62, (.l2i, 1), (0, 0, 0, 0)),
  (63, (.bipush 15, 2), (0, 0, 0, 0)),
  (65, (.iand, 1), (0, 0, 0, 0)),
  (66, (.iastore, 1), (0, 0, 0, 0)),
  (67, (.aload_n 0, 1), (0, 0, 0, 0)),
  (68, (.getfield 33, 3), (0, 7, 2, 0)),
  (71, (.iconst 1, 1), (0, 0, 0, 0)),
  (72, (.lload_n 1, 1), (0, 0, 0, 0)),
  (73, (.bipush 26, 2), (0, 0, 0, 0)),
  (75, (.lshr, 1), (0, 0, 0, 0)),
  (76, (.l2i, 1), (0, 0, 0, 0)),
  (77, (.bipush 15, 2), (0, 0, 0, 0)),
  (79, (.iand, 1), (0, 0, 0, 0)),
  (80, (.iastore, 1), (0, 0, 0, 0)),
  (81, (.aload_n 0, 1), (0, 0, 0, 0)),
  (82, (.lload_n 1, 1), (0, 0, 0, 0)),
  (83, (.bipush 30, 2), (0, 0, 0, 0)),
  (85, (.lshr, 1), (0, 0, 0, 0)),
  (86, (.l2i, 1), (0, 0, 0, 0)),
  (87, (.putfield 44, 3), (0, 11, 0, 0)),
  (90, (.return_, 1), (0, 0, 0, 0))]
noncomputable def tb_17 : List TE := [ -- X1_init
  (0, (.aload_n 0, 1), (0, 0, 0, 0)),
  (1, (.invokespecial 3, 3), (1, 0, 0, 1)),
  (4, (.aload_n 0, 1), (0, 0, 0, 0)),
  (5, (.iconst 4, 1), (0, 0, 0, 0)),
  (6, (.newarray .int, 2), (20, 0, 0, 0)),
  (8, (.putfield 9, 3), (1, 2, 2, 0)),
  (11, (.aload_n 0, 1), (0, 0, 0, 0)),
  (12, (.bipush 8, 2), (0, 0, 0, 0)),
  (14, (.newarray .int, 2), (20, 0, 0, 0)),
  (16, (.putfield 15, 3), (1, 3, 2, 0)),
  (19, (.aload_n 0, 1), (0, 0, 0, 0)),
  (20, (.bipush 8, 2), (0, 0, 0, 0)),
  (22, (.newarray .int, 2), (20, 0, 0, 0)),
  (24, (.putfield 18, 3), (1, 4, 2, 0)),
  (27, (.aload_n 0, 1), (0, 0, 0, 0)),
  (28, (.bipush 8, 2), (0, 0, 0, 0)),
  (30, (.newarray .int, 2), (20, 0, 0, 0)),
  (32, (.putfield 21, 3), (1, 5, 2, 0)),
  (35, (.aload_n 0, 1), (0, 0, 0, 0)),
  (36, (.bipush 8, 2), (0, 0, 0, 0)),
  (38, (.newarray .int, 2), (20, 0, 0, 0)),
  (40, (.putfield 24, 3), (1, 6, 2, 0)),
  (43, (.aload_n 0, 1), (0, 0, 0, 0)),
  (44, (.bipush 6, 2), (0, 0, 0, 0)),
  (46, (.newarray .int, 2), (20, 0, 0, 0)),
  (48, (.putfield 27, 3), (1, 7, 2, 0)),
  (51, (.aload_n 0, 1), (0, 0, 0, 0)),
  (52, (.bipush 6, 2), (0, 0, 0, 0)),
  (54, (.newarray .int, 2), (20, 0, 0, 0)),
  (56, (.putfield 30, 3), (1, 8, 2, 0)),
  (59, (.aload_n 0, 1), (0, 0, 0, 0)),
  (60, (.bipush 6, 2), (0, 0, 0, 0)),
  (62, (.newarray .int, 2), (20, 0, 0, 0)),
  (64, (.putfield 33, 3), (1, 9, 2, 0)),
  (67, (.aload_n 0, 1), (0, 0, 0, 0)),
  (68, (.bipush 6, 2), (0, 0, 0, 0)),
  (70, (.newarray .int, 2), (20, 0, 0, 0)),
  (72, (.putfield 36, 3), (1, 10, 2, 0)),
  (75, (.aload_n 0, 1), (0, 0, 0, 0)),
  (76, (.bipush 36, 2), (0, 0, 0, 0)),
  (78, (.newarray .int, 2), (20, 0, 0, 0)),
  (80, (.putfield 39, 3), (1, 11, 2, 0)),
  (83, (.aload_n 0, 1), (0, 0, 0, 0)),
  (84, (.bipush 8, 2), (0, 0, 0, 0)),
  (86, (.newarray .long, 2), (21, 0, 0, 0)),
  (88, (.putfield 42, 3), (1, 12, 2, 0)),
  (91, (.aload_n 0, 1), (0, 0, 0, 0)),
  (92, (.bipush 6, 2), (0, 0, 0, 0)),
  (94, (.newarray .long, 2), (21, 0, 0, 0)),
  (96, (.putfield 46, 3), (1, 13, 2, 0)),
  (99, (.aload_n 0, 1), (0, 0, 0, 0)),
  (100, (.new 49, 3), (8, 9, 0, 0)),
  (103, (.dup, 1), (0, 0, 0, 0)),
  (104, (.invokespecial 51, 3), (113, 0, 8, 0)),
  (107, (.putfield 52, 3), (1, 19, 2, 0)),
  (110, (.aload_n 0, 1), (0, 0, 0, 0)),
  (111, (.invokevirtual 56, 3), (18, 0, 1, 0)),
  (114, (.return_, 1), (0, 0, 0, 0))]
noncomputable def tb_18 : List TE := [ -- X1_clear
  (0, (.aload_n 0, 1), (0, 0, 0, 0)),
  (1, (.iconst 0, 1), (0, 0, 0, 0)),
  (2, (.putfield 59, 3), (1, 0, 0, 0)),
  (5, (.aload_n 0, 1), (0, 0, 0, 0)),
  (6, (.iconst 0, 1), (0, 0, 0, 0)),
  (7, (.putfield 63, 3), (1, 1, 0, 0)),
  (10, (.getstatic 66, 3), (1, 0, 0, (-5))),
  (13, (.iconst 0, 1), (0, 0, 0, 0)),
  (14, (.aload_n 0, 1), (0, 0, 0, 0)),
  (15, (.getfield 9, 3), (1, 2, 2, 0)),
  (18, (.iconst 0, 1), (0, 0, 0, 0)),
  (19, (.iconst 4, 1), (0, 0, 0, 0)),
  (20, (.invokestatic 69, 3), (0, 5, 0, 1)),
  (23, (.iconst 0, 1), (0, 0, 0, 0)),
  (24, (.istore_n 1, 1), (0, 0, 0, 0)),
  (25, (.iload_n 1, 1), (0, 0, 0, 0)),
  (26, (.aload_n 0, 1), (0, 0, 0, 0)),
  (27, (.getfield 39, 3), (1, 11, 2, 0)),
  (30, (.arraylength, 1), (0, 0, 0, 0)),
  (31, (.if_icmp .ge 16, 3), (0, 0, 0, 0)),
  (34, (.aload_n 0, 1), (0, 0, 0, 0)),
  (35, (.getfield 39, 3), (1, 11, 2, 0)),
  (38, (.iload_n 1, 1), (0, 0, 0, 0)),
  (39, (.iconst 0, 1), (0, 0, 0, 0)),
  (40, (.iastore, 1), (0, 0, 0, 0)),
  (41, (.iinc 1 1, 3), (0, 0, 0, 0)),
  (44, (.goto (-19), 3), (0, 0, 0, 0)),
  (47, (.aload_n 0, 1), (0, 0, 0, 0)),
  (48, (.invokevirtual 75, 3), (43, 0, 1, 0)),
  (51, (.aload_n 0, 1), (0, 0, 0, 0)),
  (52, (.getfield 52, 3), (1, 19, 2, 0)),
  (55, (.invokevirtual 78, 3), (114, 0, 8, 0)),
  (58, (.return_, 1), (0, 0, 0, 0))]
noncomputable def tb_19 : List TE := [ -- X1_take
  (0, (.aload_n 0, 1), (0, 0, 0, 0)),
  (1, (.aload_n 1, 1), (0, 0, 0, 0)),
  (2, (.getfield 59, 3), (1, 0, 0, 0)),
  (5, (.putfield 59, 3), (1, 0, 0, 0)),
  (8, (.aload_n 0, 1), (0, 0, 0, 0)),
  (9, (.aload_n 1, 1), (0, 0, 0, 0)),
  (10, (.getfield 63, 3), (1, 1, 0, 0)),
  (13, (.putfield 63, 3), (1, 1, 0, 0)),
  (16, (.aload_n 1, 1), (0, 0, 0, 0)),
  (17, (.getfield 9, 3), (1, 2, 2, 0)),
  (20, (.iconst 0, 1), (0, 0, 0, 0)),
  (21, (.aload_n 0, 1), (0, 0, 0, 0)),
  (22, (.getfield 9, 3), (1, 2, 2, 0)),
  (25, (.iconst 0, 1), (0, 0, 0, 0)),
  (26, (.iconst 4, 1), (0, 0, 0, 0)),
  (27, (.invokestatic 69, 3), (0, 5, 0, 1)),
  (30, (.aload_n 1, 1), (0, 0, 0, 0)),
  (31, (.getfield 15, 3), (1, 3, 2, 0)),
  (34, (.iconst 0, 1), (0, 0, 0, 0)),
  (35, (.aload_n 0, 1), (0, 0, 0, 0)),
  (36, (.getfield 15, 3), (1, 3, 2, 0)),
  (39, (.iconst 0, 1), (0, 0, 0, 0)),
  (40, (.bipush 8, 2), (0, 0, 0, 0)),
  (42, (.invokestatic 69, 3), (0, 5, 0, 1)),
  (45, (.aload_n 1, 1), (0, 0, 0, 0)),
  (46, (.getfield 18, 3), (1, 4, 2, 0)),
  (49, (.iconst 0, 1), (0, 0, 0, 0)),
  (50, (.aload_n 0, 1), (0, 0, 0, 0)),
  (51, (.getfield 18, 3), (1, 4, 2, 0)),
  (54, (.iconst 0, 1), (0, 0, 0, 0)),
  (55, (.bipush 8, 2), (0, 0, 0, 0)),
  (57, (.invokestatic 69, 3), (0, 5, 0, 1)),
  (60, (.aload_n 1, 1), (0, 0, 0, 0)),
  (61, (.getfield 21, 3), (1, 5, 2, 0)),
  (64, (.iconst 0, 1), (0, 0, 0, 0)),
  (65, (.aload_n 0, 1), (0, 0, 0, 0)),
  (66, (.getfield 21, 3), (1, 5, 2, 0)),
  (69, (.iconst 0, 1), (0, 0, 0, 0)),
  (70, (.bipush 8, 2), (0, 0, 0, 0)),
  (72, (.invokestatic 69, 3), (0, 5, 0, 1)),
  (75, (.aload_n 1, 1), (0, 0, 0, 0)),
  (76, (.getfield 24, 3), (1, 6, 2, 0)),
  (79, (.iconst 0, 1), (0, 0, 0, 0)),
  (80, (.aload_n 0, 1), (0, 0, 0, 0)),
  (81, (.getfield 24, 3), (1, 6, 2, 0)),
  (84, (.iconst 0, 1), (0, 0, 0, 0)),
  (85, (.bipush 8, 2), (0, 0, 0, 0)),
  (87, (.invokestatic 69, 3), (0, 5, 0, 1)),
  (90, (.aload_n 1, 1), (0, 0, 0, 0)),
  (91, (.getfield 27, 3), (1, 7, 2, 0)),
  (94, (.iconst 0, 1), (0, 0, 0, 0)),
  (95, (.aload_n 0, 1), (0, 0, 0, 0)),
  (96, (.getfield 27, 3), (1, 7, 2, 0)),
  (99, (.iconst 0, 1), (0, 0, 0, 0)),
  (100, (.bipush 6, 2), (0, 0, 0, 0)),
  (102, (.invokestatic 69, 3), (0, 5, 0, 1)),
  (105, (.aload_n 1, 1), (0, 0, 0, 0)),
  (106, (.getfield 30, 3), (1, 8, 2, 0)),
  (109, (.iconst 0, 1), (0, 0, 0, 0)),
  (110, (.aload_n 0, 1), (0, 0, 0, 0)),
  (111, (.getfield 30, 3), (1, 8, 2, 0)),
  (114, (.iconst 0, 1), (0, 0, 0, 0)),
  (115, (.bipush 6, 2), (0, 0, 0, 0)),
  (117, (.invokestatic 69, 3), (0, 5, 0, 1)),
  (120, (.aload_n 1, 1), (0, 0, 0, 0)),
  (121, (.getfield 33, 3), (1, 9, 2, 0)),
  (124, (.iconst 0, 1), (0, 0, 0, 0)),
  (125, (.aload_n 0, 1), (0, 0, 0, 0)),
  (126, (.getfield 33, 3), (1, 9, 2, 0)),
  (129, (.iconst 0, 1), (0, 0, 0, 0)),
  (130, (.bipush 6, 2), (0, 0, 0, 0)),
  (132, (.invokestatic 69, 3), (0, 5, 0, 1)),
  (135, (.aload_n 1, 1), (0, 0, 0, 0)),
  (136, (.getfield 36, 3), (1, 10, 2, 0)),
  (139, (.iconst 0, 1), (0, 0, 0, 0)),
  (140, (.aload_n 0, 1), (0, 0, 0, 0)),
  (141, (.getfield 36, 3), (1, 10, 2, 0)),
  (144, (.iconst 0, 1), (0, 0, 0, 0)),
  (145, (.bipush 6, 2), (0, 0, 0, 0)),
  (147, (.invokestatic 69, 3), (0, 5, 0, 1)),
  (150, (.aload_n 1, 1), (0, 0, 0, 0)),
  (151, (.getfield 39, 3), (1, 11, 2, 0)),
  (154, (.iconst 0, 1), (0, 0, 0, 0)),
  (155, (.aload_n 0, 1), (0, 0, 0, 0)),
  (156, (.getfield 39, 3), (1, 11, 2, 0)),
  (159, (.iconst 0, 1), (0, 0, 0, 0)),
  (160, (.bipush 36, 2), (0, 0, 0, 0)),
  (162, (.invokestatic 69, 3), (0, 5, 0, 1)),
  (165, (.aload_n 1, 1), (0, 0, 0, 0)),
  (166, (.getfield 42, 3), (1, 12, 2, 0)),
  (169, (.iconst 0, 1), (0, 0, 0, 0)),
  (170, (.aload_n 0, 1), (0, 0, 0, 0)),
  (171, (.getfield 42, 3), (1, 12, 2, 0)),
  (174, (.iconst 0, 1), (0, 0, 0, 0)),
  (175, (.bipush 8, 2), (0, 0, 0, 0)),
  (177, (.invokestatic 69, 3), (0, 5, 0, 1)),
  (180, (.aload_n 1, 1), (0, 0, 0, 0)),
  (181, (.getfield 46, 3), (1, 13, 2, 0)),
  (184, (.iconst 0, 1), (0, 0, 0, 0)),
  (185, (.aload_n 0, 1), (0, 0, 0, 0)),
  (186, (.getfield 46, 3), (1, 13, 2, 0)),
  (189, (.iconst 0, 1), (0, 0, 0, 0)),
  (190, (.bipush 6, 2), (0, 0, 0, 0)),
  (192, (.invokestatic 69, 3), (0, 5, 0, 1)),
  (195, (.aload_n 0, 1), (0, 0, 0, 0)),
  (196, (.aload_n 1, 1), (0, 0, 0, 0)),
  (197, (.getfield 79, 3), (1, 14, 0, 0)),
  (200, (.putfield 79, 3), (1, 14, 0, 0)),
  (203, (.aload_n 0, 1), (0, 0, 0, 0)),
  (204, (.aload_n 1, 1), (0, 0, 0, 0)),
  (205, (.getfield 82, 3), (1, 15, 0, 0)),
  (208, (.putfield 82, 3), (1, 15, 0, 0)),
  (211, (.aload_n 0, 1), (0, 0, 0, 0)),
  (212, (.aload_n 1, 1), (0, 0, 0, 0)),
  (213, (.getfield 85, 3), (1, 16, 0, 0)),
  (216, (.putfield 85, 3), (1, 16, 0, 0)),
  (219, (.aload_n 0, 1), (0, 0, 0, 0)),
  (220, (.aload_n 1, 1), (0, 0, 0, 0)),
  (221, (.getfield 88, 3), (1, 17, 0, 0)),
  (224, (.putfield 88, 3), (1, 17, 0, 0)),
  (227, (.aload_n 0, 1), (0, 0, 0, 0)),
  (228, (.aload_n 1, 1), (0, 0, 0, 0)),
  (229, (.getfield 91, 3), (1, 18, 0, 0)),
  (232, (.putfield 91, 3), (1, 18, 0, 0)),
  (235, (.aload_n 0, 1), (0, 0, 0, 0)),
  (236, (.getfield 52, 3), (1, 19, 2, 0)),
  (239, (.aload_n 1, 1), (0, 0, 0, 0)),
  (240, (.getfield 52, 3), (1, 19, 2, 0)),
  (243, (.invokevirtual 94, 3), (116, 1, 8, 0)),
  (246, (.return_, 1), (0, 0, 0, 0))]
noncomputable def tb_20 : List TE := [ -- X1_addThing
  (0, (.aload_n 0, 1), (0, 0, 0, 0)),
  (1, (.getfield 59, 3), (1, 0, 0, 0)),
  (4, (.istore 6, 2), (0, 0, 0, 0)),
  (6, (.aload_n 0, 1), (0, 0, 0, 0)),
  (7, (.dup, 1), (0, 0, 0, 0)),
  (8, (.getfield 59, 3), (1, 0, 0, 0)),
  (11, (.iconst 1, 1), (0, 0, 0, 0)),
  (12, (.iadd, 1), (0, 0, 0, 0)),
  (13, (.putfield 59, 3), (1, 0, 0, 0)),
  (16, (.aload_n 0, 1), (0, 0, 0, 0)),
  (17, (.getfield 42, 3), (1, 12, 2, 0)),
  (20, (.iload 6, 2), (0, 0, 0, 0)),
  (22, (.lload_n 1, 1), (0, 0, 0, 0)),
  (23, (.lastore, 1), (0, 0, 0, 0)),
  (24, (.aload_n 0, 1), (0, 0, 0, 0)),
  (25, (.getfield 15, 3), (1, 3, 2, 0)),
  (28, (.iload 6, 2), (0, 0, 0, 0)),
  (30, (.iload_n 3, 1), (0, 0, 0, 0)),
  (31, (.iastore, 1), (0, 0, 0, 0)),
  (32, (.aload_n 0, 1), (0, 0, 0, 0)),
  (33, (.getfield 18, 3), (1, 4, 2, 0)),
  (36, (.iload 6, 2), (0, 0, 0, 0)),
  (38, (.iload 4, 2), (0, 0, 0, 0)),
  (40, (.iastore, 1), (0, 0, 0, 0)),
  (41, (.aload_n 0, 1), (0, 0, 0, 0)),
  (42, (.getfield 21, 3), (1, 5, 2, 0)),
  (45, (.iload 6, 2), (0, 0, 0, 0)),
  (47, (.iload 5, 2), (0, 0, 0, 0)),
  (49, (.iastore, 1), (0, 0, 0, 0)),
  (50, (.aload_n 0, 1), (0, 0, 0, 0)),
  (51, (.getfield 24, 3), (1, 6, 2, 0)),
  (54, (.iload 6, 2), (0, 0, 0, 0)),
  (56, (.iconst 0, 1), (0, 0, 0, 0)),
  (57, (.iastore, 1), (0, 0, 0, 0)),
  (58, (.iload 6, 2), (0, 0, 0, 0)),
  (60, (.ireturn, 1), (0, 0, 0, 0))]
noncomputable def tb_21 : List TE := [ -- X1_addMan
  (0, (.aload_n 0, 1), (0, 0, 0, 0)),
  (1, (.getfield 63, 3), (1, 1, 0, 0)),
  (4, (.istore 5, 2), (0, 0, 0, 0)),
  (6, (.aload_n 0, 1), (0, 0, 0, 0)),
  (7, (.dup, 1), (0, 0, 0, 0)),
  (8, (.getfield 63, 3), (1, 1, 0, 0)),
  (11, (.iconst 1, 1), (0, 0, 0, 0)),
  (12, (.iadd, 1), (0, 0, 0, 0)),
  (13, (.putfield 63, 3), (1, 1, 0, 0)),
  (16, (.aload_n 0, 1), (0, 0, 0, 0)),
  (17, (.getfield 46, 3), (1, 13, 2, 0)),
  (20, (.iload 5, 2), (0, 0, 0, 0)),
  (22, (.lload_n 1, 1), (0, 0, 0, 0)),
  (23, (.lastore, 1), (0, 0, 0, 0)),
  (24, (.aload_n 0, 1), (0, 0, 0, 0)),
  (25, (.getfield 27, 3), (1, 7, 2, 0)),
  (28, (.iload 5, 2), (0, 0, 0, 0)),
  (30, (.iload_n 3, 1), (0, 0, 0, 0)),
  (31, (.iastore, 1), (0, 0, 0, 0)),
  (32, (.aload_n 0, 1), (0, 0, 0, 0)),
  (33, (.getfield 30, 3), (1, 8, 2, 0)),
  (36, (.iload 5, 2), (0, 0, 0, 0)),
  (38, (.iload 4, 2), (0, 0, 0, 0)),
  (40, (.iastore, 1), (0, 0, 0, 0)),
  (41, (.aload_n 0, 1), (0, 0, 0, 0)),
  (42, (.getfield 33, 3), (1, 9, 2, 0)),
  (45, (.iload 5, 2), (0, 0, 0, 0)),
  (47, (.iload 4, 2), (0, 0, 0, 0)),
  (49, (.iastore, 1), (0, 0, 0, 0)),
  (50, (.aload_n 0, 1), (0, 0, 0, 0)),
  (51, (.getfield 36, 3), (1, 10, 2, 0)),
  (54, (.iload 5, 2), (0, 0, 0, 0)),
  (56, (.iconst (-1), 1), (0, 0, 0, 0)),
  (57, (.iastore, 1), (0, 0, 0, 0)),
  (58, (.iload 5, 2), (0, 0, 0, 0)),
  (60, (.ireturn, 1), (0, 0, 0, 0))]
noncomputable def tb_22 : List TE := [ -- X1_isThing
  (0, (.iload_n 1, 1), (0, 0, 0, 0)),
  (1, (.ifCond .lt 15, 3), (0, 0, 0, 0)),
  (4, (.iload_n 1, 1), (0, 0, 0, 0)),
  (5, (.aload_n 0, 1), (0, 0, 0, 0)),
  (6, (.getfield 59, 3), (1, 0, 0, 0)),
  (9, (.if_icmp .ge 7, 3), (0, 0, 0, 0)),
  (12, (.iconst 1, 1), (0, 0, 0, 0)),
  (13, (.goto 4, 3), (0, 0, 0, 0)),
  (16, (.iconst 0, 1), (0, 0, 0, 0)),
  (17, (.ireturn, 1), (0, 0, 0, 0))]
noncomputable def tb_23 : List TE := [ -- X1_isMan
  (0, (.iload_n 1, 1), (0, 0, 0, 0)),
  (1, (.ifCond .lt 15, 3), (0, 0, 0, 0)),
  (4, (.iload_n 1, 1), (0, 0, 0, 0)),
  (5, (.aload_n 0, 1), (0, 0, 0, 0)),
  (6, (.getfield 63, 3), (1, 1, 0, 0)),
  (9, (.if_icmp .ge 7, 3), (0, 0, 0, 0)),
  (12, (.iconst 1, 1), (0, 0, 0, 0)),
  (13, (.goto 4, 3), (0, 0, 0, 0)),
  (16, (.iconst 0, 1), (0, 0, 0, 0)),
  (17, (.ireturn, 1), (0, 0, 0, 0))]
noncomputable def tb_24 : List TE := [ -- X1_isPair
  (0, (.aload_n 0, 1), (0, 0, 0, 0)),
  (1, (.iload_n 1, 1), (0, 0, 0, 0)),
  (2, (.invokevirtual 98, 3), (23, 1, 1, 0)),
  (5, (.ifCond .eq 20, 3), (0, 0, 0, 0)),
  (8, (.aload_n 0, 1), (0, 0, 0, 0)),
  (9, (.iload_n 2, 1), (0, 0, 0, 0)),
  (10, (.invokevirtual 98, 3), (23, 1, 1, 0)),
  (13, (.ifCond .eq 12, 3), (0, 0, 0, 0)),
  (16, (.iload_n 1, 1), (0, 0, 0, 0)),
  (17, (.iload_n 2, 1), (0, 0, 0, 0)),
  (18, (.if_icmp .eq 7, 3), (0, 0, 0, 0)),
  (21, (.iconst 1, 1), (0, 0, 0, 0)),
  (22, (.goto 4, 3), (0, 0, 0, 0)),
  (25, (.iconst 0, 1), (0, 0, 0, 0)),
  (26, (.ireturn, 1), (0, 0, 0, 0))]
noncomputable def tb_25 : List TE := [ -- X1_thingNamed
  (0, (.iconst 0, 1), (0, 0, 0, 0)),
  (1, (.istore_n 3, 1), (0, 0, 0, 0)),
  (2, (.iload_n 3, 1), (0, 0, 0, 0)),
  (3, (.aload_n 0, 1), (0, 0, 0, 0)),
  (4, (.getfield 59, 3), (1, 0, 0, 0)),
  (7, (.if_icmp .ge 22, 3), (0, 0, 0, 0)),
  (10, (.aload_n 0, 1), (0, 0, 0, 0)),
  (11, (.getfield 42, 3), (1, 12, 2, 0)),
  (14, (.iload_n 3, 1), (0, 0, 0, 0)),
  (15, (.laload, 1), (0, 0, 0, 0)),
  (16, (.lload_n 1, 1), (0, 0, 0, 0)),
  (17, (.lcmp, 1), (0, 0, 0, 0)),
  (18, (.ifCond .ne 5, 3), (0, 0, 0, 0)),
  (21, (.iload_n 3, 1), (0, 0, 0, 0)),
  (22, (.ireturn, 1), (0, 0, 0, 0)),
  (23, (.iinc 3 1, 3), (0, 0, 0, 0)),
  (26, (.goto (-24), 3), (0, 0, 0, 0)),
  (29, (.iconst (-1), 1), (0, 0, 0, 0)),
  (30, (.ireturn, 1), (0, 0, 0, 0))]
noncomputable def tb_26 : List TE := [ -- X1_manNamed
  (0, (.iconst 0, 1), (0, 0, 0, 0)),
  (1, (.istore_n 3, 1), (0, 0, 0, 0)),
  (2, (.iload_n 3, 1), (0, 0, 0, 0)),
  (3, (.aload_n 0, 1), (0, 0, 0, 0)),
  (4, (.getfield 63, 3), (1, 1, 0, 0)),
  (7, (.if_icmp .ge 22, 3), (0, 0, 0, 0)),
  (10, (.aload_n 0, 1), (0, 0, 0, 0)),
  (11, (.getfield 46, 3), (1, 13, 2, 0)),
  (14, (.iload_n 3, 1), (0, 0, 0, 0)),
  (15, (.laload, 1), (0, 0, 0, 0)),
  (16, (.lload_n 1, 1), (0, 0, 0, 0)),
  (17, (.lcmp, 1), (0, 0, 0, 0)),
  (18, (.ifCond .ne 5, 3), (0, 0, 0, 0)),
  (21, (.iload_n 3, 1), (0, 0, 0, 0)),
  (22, (.ireturn, 1), (0, 0, 0, 0)),
  (23, (.iinc 3 1, 3), (0, 0, 0, 0)),
  (26, (.goto (-24), 3), (0, 0, 0, 0)),
  (29, (.iconst (-1), 1), (0, 0, 0, 0)),
  (30, (.ireturn, 1), (0, 0, 0, 0))]
noncomputable def tb_27 : List TE := [ -- X1_holderOf
  (0, (.iconst 0, 1), (0, 0, 0, 0)),
  (1, (.istore_n 2, 1), (0, 0, 0, 0)),
  (2, (.iload_n 2, 1), (0, 0, 0, 0)),
  (3, (.aload_n 0, 1), (0, 0, 0, 0)),
  (4, (.getfield 63, 3), (1, 1, 0, 0)),
  (7, (.if_icmp .ge 21, 3), (0, 0, 0, 0)),
  (10, (.aload_n 0, 1), (0, 0, 0, 0)),
  (11, (.getfield 36, 3), (1, 10, 2, 0)),
  (14, (.iload_n 2, 1), (0, 0, 0, 0)),
  (15, (.iaload, 1), (0, 0, 0, 0)),
  (16, (.iload_n 1, 1), (0, 0, 0, 0)),
  (17, (.if_icmp .ne 5, 3), (0, 0, 0, 0)),
  (20, (.iload_n 2, 1), (0, 0, 0, 0)),
  (21, (.ireturn, 1), (0, 0, 0, 0)),
  (22, (.iinc 2 1, 3), (0, 0, 0, 0)),
  (25, (.goto (-23), 3), (0, 0, 0, 0)),
  (28, (.iconst (-1), 1), (0, 0, 0, 0)),
  (29, (.ireturn, 1), (0, 0, 0, 0))]
noncomputable def tb_28 : List TE := [ -- X1_isBroken
  (0, (.aload_n 0, 1), (0, 0, 0, 0)),
  (1, (.getfield 24, 3), (1, 6, 2, 0)),
  (4, (.iload_n 1, 1), (0, 0, 0, 0)),
  (5, (.iaload, 1), (0, 0, 0, 0)),
  (6, (.aload_n 0, 1), (0, 0, 0, 0)),
  (7, (.getfield 21, 3), (1, 5, 2, 0)),
  (10, (.iload_n 1, 1), (0, 0, 0, 0)),
  (11, (.iaload, 1), (0, 0, 0, 0)),
  (12, (.if_icmp .lt 7, 3), (0, 0, 0, 0)),
  (15, (.iconst 1, 1), (0, 0, 0, 0)),
  (16, (.goto 4, 3), (0, 0, 0, 0)),
  (19, (.iconst 0, 1), (0, 0, 0, 0)),
  (20, (.ireturn, 1), (0, 0, 0, 0))]
noncomputable def tb_29 : List TE := [ -- X1_bearsYet
  (0, (.iload_n 1, 1), (0, 0, 0, 0)),
  (1, (.iconst (-1), 1), (0, 0, 0, 0)),
  (2, (.if_icmp .eq 18, 3), (0, 0, 0, 0)),
  (5, (.aload_n 0, 1), (0, 0, 0, 0)),
  (6, (.getfield 24, 3), (1, 6, 2, 0)),
  (9, (.iload_n 1, 1), (0, 0, 0, 0)),
  (10, (.iaload, 1), (0, 0, 0, 0)),
  (11, (.aload_n 0, 1), (0, 0, 0, 0)),
  (12, (.getfield 21, 3), (1, 5, 2, 0)),
  (15, (.iload_n 1, 1), (0, 0, 0, 0)),
  (16, (.iaload, 1), (0, 0, 0, 0)),
  (17, (.if_icmp .lt 7, 3), (0, 0, 0, 0)),
  (20, (.iconst 0, 1), (0, 0, 0, 0)),
  (21, (.goto 16, 3), (0, 0, 0, 0)),
  (24, (.aload_n 0, 1), (0, 0, 0, 0)),
  (25, (.getfield 21, 3), (1, 5, 2, 0)),
  (28, (.iload_n 1, 1), (0, 0, 0, 0)),
  (29, (.iaload, 1), (0, 0, 0, 0)),
  (30, (.aload_n 0, 1), (0, 0, 0, 0)),
  (31, (.getfield 24, 3), (1, 6, 2, 0)),
  (34, (.iload_n 1, 1), (0, 0, 0, 0)),
  (35, (.iaload, 1), (0, 0, 0, 0)),
  (36, (.isub, 1), (0, 0, 0, 0)),
  (37, (.ireturn, 1), (0, 0, 0, 0))]
noncomputable def tb_30 : List TE := [ -- X1_reachOf
  (0, (.aload_n 0, 1), (0, 0, 0, 0)),
  (1, (.getfield 36, 3), (1, 10, 2, 0)),
  (4, (.iload_n 1, 1), (0, 0, 0, 0)),
  (5, (.iaload, 1), (0, 0, 0, 0)),
  (6, (.istore_n 2, 1), (0, 0, 0, 0)),
  (7, (.aload_n 0, 1), (0, 0, 0, 0)),
  (8, (.iload_n 2, 1), (0, 0, 0, 0)),
  (9, (.invokevirtual 102, 3), (29, 1, 1, 0)),
  (12, (.ifCond .le 12, 3), (0, 0, 0, 0)),
  (15, (.aload_n 0, 1), (0, 0, 0, 0)),
  (16, (.getfield 15, 3), (1, 3, 2, 0)),
  (19, (.iload_n 2, 1), (0, 0, 0, 0)),
  (20, (.iaload, 1), (0, 0, 0, 0)),
  (21, (.goto 4, 3), (0, 0, 0, 0)),
  (24, (.iconst 1, 1), (0, 0, 0, 0)),
  (25, (.ireturn, 1), (0, 0, 0, 0))]
noncomputable def tb_31 : List TE := [ -- X1_blowOf
  (0, (.aload_n 0, 1), (0, 0, 0, 0)),
  (1, (.getfield 36, 3), (1, 10, 2, 0)),
  (4, (.iload_n 1, 1), (0, 0, 0, 0)),
  (5, (.iaload, 1), (0, 0, 0, 0)),
  (6, (.istore_n 2, 1), (0, 0, 0, 0)),
  (7, (.aload_n 0, 1), (0, 0, 0, 0)),
  (8, (.iload_n 2, 1), (0, 0, 0, 0)),
  (9, (.invokevirtual 102, 3), (29, 1, 1, 0)),
  (12, (.ifCond .le 19, 3), (0, 0, 0, 0)),
  (15, (.aload_n 0, 1), (0, 0, 0, 0)),
  (16, (.getfield 27, 3), (1, 7, 2, 0)),
  (19, (.iload_n 1, 1), (0, 0, 0, 0)),
  (20, (.iaload, 1), (0, 0, 0, 0)),
  (21, (.aload_n 0, 1), (0, 0, 0, 0)),
  (22, (.getfield 18, 3), (1, 4, 2, 0)),
  (25, (.iload_n 2, 1), (0, 0, 0, 0)),
  (26, (.iaload, 1), (0, 0, 0, 0)),
  (27, (.iadd, 1), (0, 0, 0, 0)),
  (28, (.goto 9, 3), (0, 0, 0, 0)),
  (31, (.aload_n 0, 1), (0, 0, 0, 0)),
  (32, (.getfield 27, 3), (1, 7, 2, 0)),
  (35, (.iload_n 1, 1), (0, 0, 0, 0)),
  (36, (.iaload, 1), (0, 0, 0, 0)),
  (37, (.ireturn, 1), (0, 0, 0, 0))]
noncomputable def tb_32 : List TE := [ -- X1_brokenSet
  (0, (.iconst 0, 1), (0, 0, 0, 0)),
  (1, (.istore_n 1, 1), (0, 0, 0, 0)),
  (2, (.iconst 0, 1), (0, 0, 0, 0)),
  (3, (.istore_n 2, 1), (0, 0, 0, 0)),
  (4, (.iload_n 2, 1), (0, 0, 0, 0)),
  (5, (.aload_n 0, 1), (0, 0, 0, 0)),
  (6, (.getfield 59, 3), (1, 0, 0, 0)),
  (9, (.if_icmp .ge 27, 3), (0, 0, 0, 0)),
  (12, (.iload_n 1, 1), (0, 0, 0, 0)),
  (13, (.aload_n 0, 1), (0, 0, 0, 0)),
  (14, (.iload_n 2, 1), (0, 0, 0, 0)),
  (15, (.invokevirtual 106, 3), (28, 1, 1, 0)),
  (18, (.ifCond .eq 9, 3), (0, 0, 0, 0)),
  (21, (.iconst 1, 1), (0, 0, 0, 0)),
  (22, (.iload_n 2, 1), (0, 0, 0, 0)),
  (23, (.ishl, 1), (0, 0, 0, 0)),
  (24, (.goto 4, 3), (0, 0, 0, 0)),
  (27, (.iconst 0, 1), (0, 0, 0, 0)),
  (28, (.ior, 1), (0, 0, 0, 0)),
  (29, (.istore_n 1, 1), (0, 0, 0, 0)),
  (30, (.iinc 2 1, 3), (0, 0, 0, 0)),
  (33, (.goto (-29), 3), (0, 0, 0, 0)),
  (36, (.iload_n 1, 1), (0, 0, 0, 0)),
  (37, (.ireturn, 1), (0, 0, 0, 0))]
noncomputable def tb_33 : List TE := [ -- X1_unheldSet
  (0, (.iconst 0, 1), (0, 0, 0, 0)),
  (1, (.istore_n 1, 1), (0, 0, 0, 0)),
  (2, (.iconst 0, 1), (0, 0, 0, 0)),
  (3, (.istore_n 2, 1), (0, 0, 0, 0)),
  (4, (.iload_n 2, 1), (0, 0, 0, 0)),
  (5, (.aload_n 0, 1), (0, 0, 0, 0)),
  (6, (.getfield 59, 3), (1, 0, 0, 0)),
  (9, (.if_icmp .ge 28, 3), (0, 0, 0, 0)),
  (12, (.iload_n 1, 1), (0, 0, 0, 0)),
  (13, (.aload_n 0, 1), (0, 0, 0, 0)),
  (14, (.iload_n 2, 1), (0, 0, 0, 0)),
  (15, (.invokevirtual 109, 3), (27, 1, 1, 0)),
  (18, (.iconst (-1), 1), (0, 0, 0, 0)),
  (19, (.if_icmp .ne 9, 3), (0, 0, 0, 0)),
  (22, (.iconst 1, 1), (0, 0, 0, 0)),
  (23, (.iload_n 2, 1), (0, 0, 0, 0)),
  (24, (.ishl, 1), (0, 0, 0, 0)),
  (25, (.goto 4, 3), (0, 0, 0, 0)),
  (28, (.iconst 0, 1), (0, 0, 0, 0)),
  (29, (.ior, 1), (0, 0, 0, 0)),
  (30, (.istore_n 1, 1), (0, 0, 0, 0)),
  (31, (.iinc 2 1, 3), (0, 0, 0, 0)),
  (34, (.goto (-30), 3), (0, 0, 0, 0)),
  (37, (.iload_n 1, 1), (0, 0, 0, 0)),
  (38, (.ireturn, 1), (0, 0, 0, 0))]
noncomputable def tb_34 : List TE := [ -- X1_livingSet
  (0, (.iconst 0, 1), (0, 0, 0, 0)),
  (1, (.istore_n 1, 1), (0, 0, 0, 0)),
  (2, (.iconst 0, 1), (0, 0, 0, 0)),
  (3, (.istore_n 2, 1), (0, 0, 0, 0)),
  (4, (.iload_n 2, 1), (0, 0, 0, 0)),
  (5, (.aload_n 0, 1), (0, 0, 0, 0)),
  (6, (.getfield 63, 3), (1, 1, 0, 0)),
  (9, (.if_icmp .ge 28, 3), (0, 0, 0, 0)),
  (12, (.iload_n 1, 1), (0, 0, 0, 0)),
  (13, (.aload_n 0, 1), (0, 0, 0, 0)),
  (14, (.getfield 30, 3), (1, 8, 2, 0)),
  (17, (.iload_n 2, 1), (0, 0, 0, 0)),
  (18, (.iaload, 1), (0, 0, 0, 0)),
  (19, (.ifCond .le 9, 3), (0, 0, 0, 0)),
  (22, (.iconst 1, 1), (0, 0, 0, 0)),
  (23, (.iload_n 2, 1), (0, 0, 0, 0)),
  (24, (.ishl, 1), (0, 0, 0, 0)),
  (25, (.goto 4, 3), (0, 0, 0, 0)),
  (28, (.iconst 0, 1), (0, 0, 0, 0)),
  (29, (.ior, 1), (0, 0, 0, 0)),
  (30, (.istore_n 1, 1), (0, 0, 0, 0)),
  (31, (.iinc 2 1, 3), (0, 0, 0, 0)),
  (34, (.goto (-30), 3), (0, 0, 0, 0)),
  (37, (.iload_n 1, 1), (0, 0, 0, 0)),
  (38, (.ireturn, 1), (0, 0, 0, 0))]
noncomputable def tb_35 : List TE := [ -- X1_wonAgainst
  (0, (.aload_n 0, 1), (0, 0, 0, 0)),
  (1, (.getfield 39, 3), (1, 11, 2, 0)),
  (4, (.iload_n 1, 1), (0, 0, 0, 0)),
  (5, (.bipush 6, 2), (0, 0, 0, 0)),
  (7, (.imul, 1), (0, 0, 0, 0)),
  (8, (.iload_n 2, 1), (0, 0, 0, 0)),
  (9, (.iadd, 1), (0, 0, 0, 0)),
  (10, (.iaload, 1), (0, 0, 0, 0)),
  (11, (.ireturn, 1), (0, 0, 0, 0))]
noncomputable def tb_36 : List TE := [ -- X1_addWin
  (0, (.iload_n 1, 1), (0, 0, 0, 0)),
  (1, (.ifCond .eq 10, 3), (0, 0, 0, 0)),
  (4, (.aload_n 0, 1), (0, 0, 0, 0)),
  (5, (.getfield 82, 3), (1, 15, 0, 0)),
  (8, (.goto 7, 3), (0, 0, 0, 0)),
  (11, (.aload_n 0, 1), (0, 0, 0, 0)),
  (12, (.getfield 79, 3), (1, 14, 0, 0)),
  (15, (.istore_n 2, 1), (0, 0, 0, 0)),
  (16, (.iload_n 1, 1), (0, 0, 0, 0)),
  (17, (.ifCond .eq 10, 3), (0, 0, 0, 0)),
  (20, (.aload_n 0, 1), (0, 0, 0, 0)),
  (21, (.getfield 79, 3), (1, 14, 0, 0)),
  (24, (.goto 7, 3), (0, 0, 0, 0)),
  (27, (.aload_n 0, 1), (0, 0, 0, 0)),
  (28, (.getfield 82, 3), (1, 15, 0, 0)),
  (31, (.istore_n 3, 1), (0, 0, 0, 0)),
  (32, (.aload_n 0, 1), (0, 0, 0, 0)),
  (33, (.getfield 39, 3), (1, 11, 2, 0)),
  (36, (.iload_n 2, 1), (0, 0, 0, 0)),
  (37, (.bipush 6, 2), (0, 0, 0, 0)),
  (39, (.imul, 1), (0, 0, 0, 0)),
  (40, (.iload_n 3, 1), (0, 0, 0, 0)),
  (41, (.iadd, 1), (0, 0, 0, 0)),
  (42, (.dup2, 1), (0, 0, 0, 0)),
  (43, (.iaload, 1), (0, 0, 0, 0)),
  (44, (.iconst 1, 1), (0, 0, 0, 0)),
  (45, (.iadd, 1), (0, 0, 0, 0)),
  (46, (.iastore, 1), (0, 0, 0, 0)),
  (47, (.return_, 1), (0, 0, 0, 0))]
noncomputable def tb_37 : List TE := [ -- X1_wonBy
  (0, (.iconst 0, 1), (0, 0, 0, 0)),
  (1, (.istore_n 2, 1), (0, 0, 0, 0)),
  (2, (.iconst 0, 1), (0, 0, 0, 0)),
  (3, (.istore_n 3, 1), (0, 0, 0, 0)),
  (4, (.iload_n 3, 1), (0, 0, 0, 0)),
  (5, (.aload_n 0, 1), (0, 0, 0, 0)),
  (6, (.getfield 63, 3), (1, 1, 0, 0)),
  (9, (.if_icmp .ge 18, 3), (0, 0, 0, 0)),
  (12, (.iload_n 2, 1), (0, 0, 0, 0)),
  (13, (.aload_n 0, 1), (0, 0, 0, 0)),
  (14, (.iload_n 1, 1), (0, 0, 0, 0)),
  (15, (.iload_n 3, 1), (0, 0, 0, 0)),
  (16, (.invokevirtual 112, 3), (35, 2, 1, 0)),
  (19, (.iadd, 1), (0, 0, 0, 0)),
  (20, (.istore_n 2, 1), (0, 0, 0, 0)),
  (21, (.iinc 3 1, 3), (0, 0, 0, 0)),
  (24, (.goto (-20), 3), (0, 0, 0, 0)),
  (27, (.iload_n 2, 1), (0, 0, 0, 0)),
  (28, (.ireturn, 1), (0, 0, 0, 0))]
noncomputable def tb_38 : List TE := [ -- X1_lostBy
  (0, (.iconst 0, 1), (0, 0, 0, 0)),
  (1, (.istore_n 2, 1), (0, 0, 0, 0)),
  (2, (.iconst 0, 1), (0, 0, 0, 0)),
  (3, (.istore_n 3, 1), (0, 0, 0, 0)),
  (4, (.iload_n 3, 1), (0, 0, 0, 0)),
  (5, (.aload_n 0, 1), (0, 0, 0, 0)),
  (6, (.getfield 63, 3), (1, 1, 0, 0)),
  (9, (.if_icmp .ge 18, 3), (0, 0, 0, 0)),
  (12, (.iload_n 2, 1), (0, 0, 0, 0)),
  (13, (.aload_n 0, 1), (0, 0, 0, 0)),
  (14, (.iload_n 3, 1), (0, 0, 0, 0)),
  (15, (.iload_n 1, 1), (0, 0, 0, 0)),
  (16, (.invokevirtual 112, 3), (35, 2, 1, 0)),
  (19, (.iadd, 1), (0, 0, 0, 0)),
  (20, (.istore_n 2, 1), (0, 0, 0, 0)),
  (21, (.iinc 3 1, 3), (0, 0, 0, 0)),
  (24, (.goto (-20), 3), (0, 0, 0, 0)),
  (27, (.iload_n 2, 1), (0, 0, 0, 0)),
  (28, (.ireturn, 1), (0, 0, 0, 0))]
noncomputable def tb_39 : List TE := [ -- X1_wonInAll
  (0, (.iconst 0, 1), (0, 0, 0, 0)),
  (1, (.istore_n 1, 1), (0, 0, 0, 0)),
  (2, (.iconst 0, 1), (0, 0, 0, 0)),
  (3, (.istore_n 2, 1), (0, 0, 0, 0)),
  (4, (.iload_n 2, 1), (0, 0, 0, 0)),
  (5, (.aload_n 0, 1), (0, 0, 0, 0)),
  (6, (.getfield 63, 3), (1, 1, 0, 0)),
  (9, (.if_icmp .ge 17, 3), (0, 0, 0, 0)),
  (12, (.iload_n 1, 1), (0, 0, 0, 0)),
  (13, (.aload_n 0, 1), (0, 0, 0, 0)),
  (14, (.iload_n 2, 1), (0, 0, 0, 0)),
  (15, (.invokevirtual 116, 3), (37, 1, 1, 0)),
  (18, (.iadd, 1), (0, 0, 0, 0)),
  (19, (.istore_n 1, 1), (0, 0, 0, 0)),
  (20, (.iinc 2 1, 3), (0, 0, 0, 0)),
  (23, (.goto (-19), 3), (0, 0, 0, 0)),
  (26, (.iload_n 1, 1), (0, 0, 0, 0)),
  (27, (.ireturn, 1), (0, 0, 0, 0))]
noncomputable def tb_40 : List TE := [ -- X1_fighting
  (0, (.aload_n 0, 1), (0, 0, 0, 0)),
  (1, (.getfield 79, 3), (1, 14, 0, 0)),
  (4, (.iconst (-1), 1), (0, 0, 0, 0)),
  (5, (.if_icmp .eq 7, 3), (0, 0, 0, 0)),
  (8, (.iconst 1, 1), (0, 0, 0, 0)),
  (9, (.goto 4, 3), (0, 0, 0, 0)),
  (12, (.iconst 0, 1), (0, 0, 0, 0)),
  (13, (.ireturn, 1), (0, 0, 0, 0))]
noncomputable def tb_41 : List TE := [ -- X1_nearness
  (0, (.aload_n 0, 1), (0, 0, 0, 0)),
  (1, (.invokevirtual 119, 3), (40, 0, 1, 0)),
  (4, (.ifCond .eq 15, 3), (0, 0, 0, 0)),
  (7, (.aload_n 0, 1), (0, 0, 0, 0)),
  (8, (.getfield 88, 3), (1, 17, 0, 0)),
  (11, (.aload_n 0, 1), (0, 0, 0, 0)),
  (12, (.getfield 85, 3), (1, 16, 0, 0)),
  (15, (.isub, 1), (0, 0, 0, 0)),
  (16, (.goto 4, 3), (0, 0, 0, 0)),
  (19, (.iconst 0, 1), (0, 0, 0, 0)),
  (20, (.ireturn, 1), (0, 0, 0, 0))]
noncomputable def tb_42 : List TE := [ -- X1_begins
  (0, (.iload_n 1, 1), (0, 0, 0, 0)),
  (1, (.iload_n 2, 1), (0, 0, 0, 0)),
  (2, (.if_icmp .eq 21, 3), (0, 0, 0, 0)),
  (5, (.aload_n 0, 1), (0, 0, 0, 0)),
  (6, (.getfield 30, 3), (1, 8, 2, 0)),
  (9, (.iload_n 1, 1), (0, 0, 0, 0)),
  (10, (.iaload, 1), (0, 0, 0, 0)),
  (11, (.ifCond .eq 12, 3), (0, 0, 0, 0)),
  (14, (.aload_n 0, 1), (0, 0, 0, 0)),
  (15, (.getfield 30, 3), (1, 8, 2, 0)),
  (18, (.iload_n 2, 1), (0, 0, 0, 0)),
  (19, (.iaload, 1), (0, 0, 0, 0)),
  (20, (.ifCond .ne 5, 3), (0, 0, 0, 0)),
  (23, (.iconst 0, 1), (0, 0, 0, 0)),
  (24, (.ireturn, 1), (0, 0, 0, 0)),
  (25, (.aload_n 0, 1), (0, 0, 0, 0)),
  (26, (.iload_n 1, 1), (0, 0, 0, 0)),
  (27, (.putfield 79, 3), (1, 14, 0, 0)),
  (30, (.aload_n 0, 1), (0, 0, 0, 0)),
  (31, (.iload_n 2, 1), (0, 0, 0, 0)),
  (32, (.putfield 82, 3), (1, 15, 0, 0)),
  (35, (.aload_n 0, 1), (0, 0, 0, 0)),
  (36, (.iconst 0, 1), (0, 0, 0, 0)),
  (37, (.putfield 85, 3), (1, 16, 0, 0)),
  (40, (.aload_n 0, 1), (0, 0, 0, 0)),
  (41, (.aload_n 0, 1), (0, 0, 0, 0)),
  (42, (.getfield 9, 3), (1, 2, 2, 0)),
  (45, (.iconst 0, 1), (0, 0, 0, 0)),
  (46, (.iaload, 1), (0, 0, 0, 0)),
  (47, (.putfield 88, 3), (1, 17, 0, 0)),
  (50, (.aload_n 0, 1), (0, 0, 0, 0)),
  (51, (.iconst 0, 1), (0, 0, 0, 0)),
  (52, (.putfield 91, 3), (1, 18, 0, 0)),
  (55, (.iconst 1, 1), (0, 0, 0, 0)),
  (56, (.ireturn, 1), (0, 0, 0, 0))]
noncomputable def tb_43 : List TE := [ -- X1_endDuel
  (0, (.aload_n 0, 1), (0, 0, 0, 0)),
  (1, (.iconst (-1), 1), (0, 0, 0, 0)),
  (2, (.putfield 79, 3), (1, 14, 0, 0)),
  (5, (.aload_n 0, 1), (0, 0, 0, 0)),
  (6, (.iconst (-1), 1), (0, 0, 0, 0)),
  (7, (.putfield 82, 3), (1, 15, 0, 0)),
  (10, (.aload_n 0, 1), (0, 0, 0, 0)),
  (11, (.iconst 0, 1), (0, 0, 0, 0)),
  (12, (.putfield 85, 3), (1, 16, 0, 0)),
  (15, (.aload_n 0, 1), (0, 0, 0, 0)),
  (16, (.iconst 0, 1), (0, 0, 0, 0)),
  (17, (.putfield 88, 3), (1, 17, 0, 0)),
  (20, (.aload_n 0, 1), (0, 0, 0, 0)),
  (21, (.iconst 0, 1), (0, 0, 0, 0)),
  (22, (.putfield 91, 3), (1, 18, 0, 0)),
  (25, (.return_, 1), (0, 0, 0, 0))]
noncomputable def tb_44 : List TE := [ -- X1_cures
  (0, (.aload_n 0, 1), (0, 0, 0, 0)),
  (1, (.getfield 30, 3), (1, 8, 2, 0)),
  (4, (.iload_n 1, 1), (0, 0, 0, 0)),
  (5, (.iaload, 1), (0, 0, 0, 0)),
  (6, (.aload_n 0, 1), (0, 0, 0, 0)),
  (7, (.getfield 33, 3), (1, 9, 2, 0)),
  (10, (.iload_n 1, 1), (0, 0, 0, 0)),
  (11, (.iaload, 1), (0, 0, 0, 0)),
  (12, (.if_icmp .lt 5, 3), (0, 0, 0, 0)),
  (15, (.iconst 0, 1), (0, 0, 0, 0)),
  (16, (.ireturn, 1), (0, 0, 0, 0)),
  (17, (.aload_n 0, 1), (0, 0, 0, 0)),
  (18, (.getfield 30, 3), (1, 8, 2, 0)),
  (21, (.iload_n 1, 1), (0, 0, 0, 0)),
  (22, (.aload_n 0, 1), (0, 0, 0, 0)),
  (23, (.getfield 33, 3), (1, 9, 2, 0)),
  (26, (.iload_n 1, 1), (0, 0, 0, 0)),
  (27, (.iaload, 1), (0, 0, 0, 0)),
  (28, (.aload_n 0, 1), (0, 0, 0, 0)),
  (29, (.getfield 30, 3), (1, 8, 2, 0)),
  (32, (.iload_n 1, 1), (0, 0, 0, 0)),
  (33, (.iaload, 1), (0, 0, 0, 0)),
  (34, (.iload_n 2, 1), (0, 0, 0, 0)),
  (35, (.iadd, 1), (0, 0, 0, 0)),
  (36, (.invokestatic 123, 3), (342, 2, 0, 0)),
  (39, (.iastore, 1), (0, 0, 0, 0)),
  (40, (.iconst 1, 1), (0, 0, 0, 0)),
  (41, (.ireturn, 1), (0, 0, 0, 0))]
noncomputable def tb_45 : List TE := [ -- X2_init
  (0, (.aload_n 0, 1), (0, 0, 0, 0)),
  (1, (.invokespecial 3, 3), (2, 0, 0, 1)),
  (4, (.aload_n 0, 1), (0, 0, 0, 0)),
  (5, (.aload_n 1, 1), (0, 0, 0, 0)),
  (6, (.putfield 9, 3), (2, 0, 2, 0)),
  (9, (.return_, 1), (0, 0, 0, 0))]
noncomputable def tb_46 : List TE := [ -- X2_takes
  (0, (.aload_n 0, 1), (0, 0, 0, 0)),
  (1, (.aload_n 1, 1), (0, 0, 0, 0)),
  (2, (.putfield 15, 3), (2, 1, 2, 0)),
  (5, (.aload_n 0, 1), (0, 0, 0, 0)),
  (6, (.getfield 15, 3), (2, 1, 2, 0)),
  (9, (.invokevirtual 19, 3), (18, 0, 1, 0)),
  (12, (.aload_n 0, 1), (0, 0, 0, 0)),
  (13, (.iconst 0, 1), (0, 0, 0, 0)),
  (14, (.putfield 24, 3), (2, 2, 0, 0)),
  (17, (.aload_n 0, 1), (0, 0, 0, 0)),
  (18, (.getfield 9, 3), (2, 0, 2, 0)),
  (21, (.iload_n 2, 1), (0, 0, 0, 0)),
  (22, (.invokevirtual 28, 3), (86, 1, 6, 0)),
  (25, (.iconst 0, 1), (0, 0, 0, 0)),
  (26, (.istore_n 3, 1), (0, 0, 0, 0)),
  (27, (.iload_n 3, 1), (0, 0, 0, 0)),
  (28, (.iload_n 2, 1), (0, 0, 0, 0)),
  (29, (.if_icmp .gt 37, 3), (0, 0, 0, 0)),
  (32, (.aload_n 0, 1), (0, 0, 0, 0)),
  (33, (.getfield 9, 3), (2, 0, 2, 0)),
  (36, (.invokevirtual 34, 3), (92, 0, 6, 0)),
  (39, (.aload_n 0, 1), (0, 0, 0, 0)),
  (40, (.getfield 9, 3), (2, 0, 2, 0)),
  (43, (.getfield 37, 3), (6, 9, 0, 0)),
  (46, (.ifCond .ne 5, 3), (0, 0, 0, 0)),
  (49, (.iconst 1, 1), (0, 0, 0, 0)),
  (50, (.ireturn, 1), (0, 0, 0, 0)),
  (51, (.aload_n 0, 1), (0, 0, 0, 0)),
  (52, (.invokevirtual 40, 3), (47, 0, 2, 0)),
  (55, (.ifCond .ne 5, 3), (0, 0, 0, 0)),
  (58, (.iconst 0, 1), (0, 0, 0, 0)),
  (59, (.ireturn, 1), (0, 0, 0, 0)),
  (60, (.iinc 3 1, 3), (0, 0, 0, 0)),
  (63, (.goto (-36), 3), (0, 0, 0, 0)),
  (66, (.aload_n 0, 1), (0, 0, 0, 0)),
  (67, (.getfield 9, 3), (2, 0, 2, 0)),
  (70, (.iconst 2, 1), (0, 0, 0, 0)),
  (71, (.invokevirtual 44, 3), (93, 1, 6, 0)),
  (74, (.ireturn, 1), (0, 0, 0, 0))]
noncomputable def tb_47 : List TE := [ -- X2_takesPart
  (0, (.aload_n 0, 1), (0, 0, 0, 0)),
  (1, (.getfield 9, 3), (2, 0, 2, 0)),
  (4, (.getfield 48, 3), (6, 10, 0, 0)),
  (7, (.istore_n 1, 1), (0, 0, 0, 0)),
  (8, (.iload_n 1, 1), (0, 0, 0, 0)),
  (9, (.ifCond .lt 14, 3), (0, 0, 0, 0)),
  (12, (.iload_n 1, 1), (0, 0, 0, 0)),
  (13, (.iconst 4, 1), (0, 0, 0, 0)),
  (14, (.if_icmp .ge 9, 3), (0, 0, 0, 0)),
  (17, (.aload_n 0, 1), (0, 0, 0, 0)),
  (18, (.iload_n 1, 1), (0, 0, 0, 0)),
  (19, (.invokevirtual 51, 3), (48, 1, 2, 0)),
  (22, (.ireturn, 1), (0, 0, 0, 0)),
  (23, (.iload_n 1, 1), (0, 0, 0, 0)),
  (24, (.iconst 4, 1), (0, 0, 0, 0)),
  (25, (.if_icmp .ne 8, 3), (0, 0, 0, 0)),
  (28, (.aload_n 0, 1), (0, 0, 0, 0)),
  (29, (.invokevirtual 54, 3), (49, 0, 2, 0)),
  (32, (.ireturn, 1), (0, 0, 0, 0)),
  (33, (.iload_n 1, 1), (0, 0, 0, 0)),
  (34, (.bipush 8, 2), (0, 0, 0, 0)),
  (36, (.if_icmp .ne 8, 3), (0, 0, 0, 0)),
  (39, (.aload_n 0, 1), (0, 0, 0, 0)),
  (40, (.invokevirtual 57, 3), (50, 0, 2, 0)),
  (43, (.ireturn, 1), (0, 0, 0, 0)),
  (44, (.aload_n 0, 1), (0, 0, 0, 0)),
  (45, (.getfield 9, 3), (2, 0, 2, 0)),
  (48, (.iconst 2, 1), (0, 0, 0, 0)),
  (49, (.invokevirtual 44, 3), (93, 1, 6, 0)),
  (52, (.ireturn, 1), (0, 0, 0, 0))]
noncomputable def tb_48 : List TE := [ -- X2_takesRule
  (0, (.aload_n 0, 1), (0, 0, 0, 0)),
  (1, (.getfield 24, 3), (2, 2, 0, 0)),
  (4, (.iload_n 1, 1), (0, 0, 0, 0)),
  (5, (.ishr, 1), (0, 0, 0, 0)),
  (6, (.iconst 1, 1), (0, 0, 0, 0)),
  (7, (.iand, 1), (0, 0, 0, 0)),
  (8, (.ifCond .eq 12, 3), (0, 0, 0, 0)),
  (11, (.aload_n 0, 1), (0, 0, 0, 0)),
  (12, (.getfield 9, 3), (2, 0, 2, 0)),
  (15, (.iconst 5, 1), (0, 0, 0, 0)),
  (16, (.invokevirtual 44, 3), (93, 1, 6, 0)),
  (19, (.ireturn, 1), (0, 0, 0, 0)),
  (20, (.aload_n 0, 1), (0, 0, 0, 0)),
  (21, (.dup, 1), (0, 0, 0, 0)),
  (22, (.getfield 24, 3), (2, 2, 0, 0)),
  (25, (.iconst 1, 1), (0, 0, 0, 0)),
  (26, (.iload_n 1, 1), (0, 0, 0, 0)),
  (27, (.ishl, 1), (0, 0, 0, 0)),
  (28, (.ior, 1), (0, 0, 0, 0)),
  (29, (.putfield 24, 3), (2, 2, 0, 0)),
  (32, (.aload_n 0, 1), (0, 0, 0, 0)),
  (33, (.getfield 9, 3), (2, 0, 2, 0)),
  (36, (.getstatic 60, 3), (1, 0, 0, (-3))),
  (39, (.iload_n 1, 1), (0, 0, 0, 0)),
  (40, (.iaload, 1), (0, 0, 0, 0)),
  (41, (.getstatic 64, 3), (1, 0, 0, (-4))),
  (44, (.iload_n 1, 1), (0, 0, 0, 0)),
  (45, (.iaload, 1), (0, 0, 0, 0)),
  (46, (.invokevirtual 67, 3), (97, 2, 6, 0)),
  (49, (.istore_n 2, 1), (0, 0, 0, 0)),
  (50, (.iload_n 2, 1), (0, 0, 0, 0)),
  (51, (.iconst (-1), 1), (0, 0, 0, 0)),
  (52, (.if_icmp .ne 5, 3), (0, 0, 0, 0)),
  (55, (.iconst 0, 1), (0, 0, 0, 0)),
  (56, (.ireturn, 1), (0, 0, 0, 0)),
  (57, (.aload_n 0, 1), (0, 0, 0, 0)),
  (58, (.getfield 15, 3), (2, 1, 2, 0)),
  (61, (.getfield 71, 3), (1, 2, 2, 0)),
  (64, (.iload_n 1, 1), (0, 0, 0, 0)),
  (65, (.iload_n 2, 1), (0, 0, 0, 0)),
  (66, (.iastore, 1), (0, 0, 0, 0)),
  (67, (.aload_n 0, 1), (0, 0, 0, 0)),
  (68, (.getfield 9, 3), (2, 0, 2, 0)),
  (71, (.invokevirtual 74, 3), (95, 0, 6, 0)),
  (74, (.ireturn, 1), (0, 0, 0, 0))]
noncomputable def tb_49 : List TE := [ -- X2_takesThing
  (0, (.aload_n 0, 1), (0, 0, 0, 0)),
  (1, (.getfield 15, 3), (2, 1, 2, 0)),
  (4, (.getfield 77, 3), (1, 0, 0, 0)),
  (7, (.bipush 8, 2), (0, 0, 0, 0)),
  (9, (.if_icmp .lt 13, 3), (0, 0, 0, 0)),
  (12, (.aload_n 0, 1), (0, 0, 0, 0)),
  (13, (.getfield 9, 3), (2, 0, 2, 0)),
  (16, (.bipush 6, 2), (0, 0, 0, 0)),
  (18, (.invokevirtual 44, 3), (93, 1, 6, 0)),
  (21, (.ireturn, 1), (0, 0, 0, 0)),
  (22, (.aload_n 0, 1), (0, 0, 0, 0)),
  (23, (.invokevirtual 80, 3), (52, 0, 2, 0)),
  (26, (.ifCond .ne 5, 3), (0, 0, 0, 0)),
  (29, (.iconst 0, 1), (0, 0, 0, 0)),
  (30, (.ireturn, 1), (0, 0, 0, 0)),
  (31, (.aload_n 0, 1), (0, 0, 0, 0)),
  (32, (.getfield 9, 3), (2, 0, 2, 0)),
  (35, (.getfield 83, 3), (6, 11, 1, 0)),
  (38, (.lstore_n 1, 1), (0, 0, 0, 0)),
  (39, (.aload_n 0, 1), (0, 0, 0, 0)),
  (40, (.iconst 5, 1), (0, 0, 0, 0)),
  (41, (.iconst 1, 1), (0, 0, 0, 0)),
  (42, (.bipush 6, 2), (0, 0, 0, 0)),
  (44, (.invokevirtual 87, 3), (51, 3, 2, 0)),
  (47, (.istore_n 3, 1), (0, 0, 0, 0)),
  (48, (.iload_n 3, 1), (0, 0, 0, 0)),
  (49, (.iconst (-1), 1), (0, 0, 0, 0)),
  (50, (.if_icmp .ne 7, 3), (0, 0, 0, 0)),
  (53, (.iconst (-1), 1), (0, 0, 0, 0)),
  (54, (.goto 12, 3), (0, 0, 0, 0)),
  (57, (.aload_n 0, 1), (0, 0, 0, 0)),
  (58, (.bipush 6, 2), (0, 0, 0, 0)),
  (60, (.iconst 0, 1), (0, 0, 0, 0)),
  (61, (.bipush 9, 2), (0, 0, 0, 0)),
  (63, (.invokevirtual 87, 3), (51, 3, 2, 0)),
  (66, (.istore 4, 2), (0, 0, 0, 0)),
  (68, (.iload 4, 2), (0, 0, 0, 0)),
  (70, (.iconst (-1), 1), (0, 0, 0, 0)),
  (71, (.if_icmp .ne 7, 3), (0, 0, 0, 0)),
  (74, (.iconst (-1), 1), (0, 0, 0, 0)),
  (75, (.goto 12, 3), (0, 0, 0, 0)),
  (78, (.aload_n 0, 1), (0, 0, 0, 0)),
  (79, (.bipush 7, 2), (0, 0, 0, 0)),
  (81, (.iconst 1, 1), (0, 0, 0, 0)),
  (82, (.bipush 30, 2), (0, 0, 0, 0)),
  (84, (.invokevirtual 87, 3), (51, 3, 2, 0)),
  (87, (.istore 5, 2), (0, 0, 0, 0)),
  (89, (.iload 5, 2), (0, 0, 0, 0)),
  (91, (.iconst (-1), 1), (0, 0, 0, 0)),
  (92, (.if_icmp .ne 5, 3), (0, 0, 0, 0)),
  (95, (.iconst 0, 1), (0, 0, 0, 0)),
  (96, (.ireturn, 1), (0, 0, 0, 0)),
  (97, (.aload_n 0, 1), (0, 0, 0, 0)),
  (98, (.getfield 15, 3), (2, 1, 2, 0)),
  (101, (.lload_n 1, 1), (0, 0, 0, 0)),
  (102, (.iload_n 3, 1), (0, 0, 0, 0)),
  (103, (.iload 4, 2), (0, 0, 0, 0)),
  (105, (.iload 5, 2), (0, 0, 0, 0)),
  (107, (.invokevirtual 91, 3), (20, 4, 1, 0)),
  (110, (.pop, 1), (0, 0, 0, 0)),
  (111, (.aload_n 0, 1), (0, 0, 0, 0)),
  (112, (.getfield 9, 3), (2, 0, 2, 0)),
  (115, (.invokevirtual 74, 3), (95, 0, 6, 0)),
  (118, (.ireturn, 1), (0, 0, 0, 0))]
noncomputable def tb_50 : List TE := [ -- X2_takesMan
  (0, (.aload_n 0, 1), (0, 0, 0, 0)),
  (1, (.getfield 15, 3), (2, 1, 2, 0)),
  (4, (.getfield 95, 3), (1, 1, 0, 0)),
  (7, (.bipush 6, 2), (0, 0, 0, 0)),
  (9, (.if_icmp .lt 13, 3), (0, 0, 0, 0)),
  (12, (.aload_n 0, 1), (0, 0, 0, 0)),
  (13, (.getfield 9, 3), (2, 0, 2, 0)),
  (16, (.bipush 6, 2), (0, 0, 0, 0)),
  (18, (.invokevirtual 44, 3), (93, 1, 6, 0)),
  (21, (.ireturn, 1), (0, 0, 0, 0)),
  (22, (.aload_n 0, 1), (0, 0, 0, 0)),
  (23, (.invokevirtual 80, 3), (52, 0, 2, 0)),
  (26, (.ifCond .ne 5, 3), (0, 0, 0, 0)),
  (29, (.iconst 0, 1), (0, 0, 0, 0)),
  (30, (.ireturn, 1), (0, 0, 0, 0)),
  (31, (.aload_n 0, 1), (0, 0, 0, 0)),
  (32, (.getfield 9, 3), (2, 0, 2, 0)),
  (35, (.getfield 83, 3), (6, 11, 1, 0)),
  (38, (.lstore_n 1, 1), (0, 0, 0, 0)),
  (39, (.aload_n 0, 1), (0, 0, 0, 0)),
  (40, (.bipush 9, 2), (0, 0, 0, 0)),
  (42, (.iconst 0, 1), (0, 0, 0, 0)),
  (43, (.bipush 9, 2), (0, 0, 0, 0)),
  (45, (.invokevirtual 87, 3), (51, 3, 2, 0)),
  (48, (.istore_n 3, 1), (0, 0, 0, 0)),
  (49, (.iload_n 3, 1), (0, 0, 0, 0)),
  (50, (.iconst (-1), 1), (0, 0, 0, 0)),
  (51, (.if_icmp .ne 7, 3), (0, 0, 0, 0)),
  (54, (.iconst (-1), 1), (0, 0, 0, 0)),
  (55, (.goto 12, 3), (0, 0, 0, 0)),
  (58, (.aload_n 0, 1), (0, 0, 0, 0)),
  (59, (.bipush 10, 2), (0, 0, 0, 0)),
  (61, (.iconst 1, 1), (0, 0, 0, 0)),
  (62, (.bipush 60, 2), (0, 0, 0, 0)),
  (64, (.invokevirtual 87, 3), (51, 3, 2, 0)),
  (67, (.istore 4, 2), (0, 0, 0, 0)),
  (69, (.iload 4, 2), (0, 0, 0, 0)),
  (71, (.iconst (-1), 1), (0, 0, 0, 0)),
  (72, (.if_icmp .ne 5, 3), (0, 0, 0, 0)),
  (75, (.iconst 0, 1), (0, 0, 0, 0)),
  (76, (.ireturn, 1), (0, 0, 0, 0)),
  (77, (.aload_n 0, 1), (0, 0, 0, 0)),
  (78, (.getfield 15, 3), (2, 1, 2, 0)),
  (81, (.lload_n 1, 1), (0, 0, 0, 0)),
  (82, (.iload_n 3, 1), (0, 0, 0, 0)),
  (83, (.iload 4, 2), (0, 0, 0, 0)),
  (85, (.invokevirtual 98, 3), (21, 3, 1, 0)),
  (88, (.istore 5, 2), (0, 0, 0, 0)),
  (90, (.aload_n 0, 1), (0, 0, 0, 0)),
  (91, (.getfield 9, 3), (2, 0, 2, 0)),
  (94, (.invokevirtual 34, 3), (92, 0, 6, 0)),
  (97, (.aload_n 0, 1), (0, 0, 0, 0)),
  (98, (.getfield 9, 3), (2, 0, 2, 0)),
  (101, (.getfield 48, 3), (6, 10, 0, 0)),
  (104, (.bipush 11, 2), (0, 0, 0, 0)),
  (106, (.if_icmp .ne 28, 3), (0, 0, 0, 0)),
  (109, (.aload_n 0, 1), (0, 0, 0, 0)),
  (110, (.iload 5, 2), (0, 0, 0, 0)),
  (112, (.invokevirtual 102, 3), (53, 1, 2, 0)),
  (115, (.ifCond .eq 17, 3), (0, 0, 0, 0)),
  (118, (.aload_n 0, 1), (0, 0, 0, 0)),
  (119, (.getfield 9, 3), (2, 0, 2, 0)),
  (122, (.invokevirtual 74, 3), (95, 0, 6, 0)),
  (125, (.ifCond .eq 7, 3), (0, 0, 0, 0)),
  (128, (.iconst 1, 1), (0, 0, 0, 0)),
  (129, (.goto 4, 3), (0, 0, 0, 0)),
  (132, (.iconst 0, 1), (0, 0, 0, 0)),
  (133, (.ireturn, 1), (0, 0, 0, 0)),
  (134, (.aload_n 0, 1), (0, 0, 0, 0)),
  (135, (.getfield 9, 3), (2, 0, 2, 0)),
  (138, (.bipush 59, 2), (0, 0, 0, 0)),
  (140, (.invokevirtual 105, 3), (94, 1, 6, 0)),
  (143, (.ifCond .ne 14, 3), (0, 0, 0, 0)),
  (146, (.aload_n 0, 1), (0, 0, 0, 0)),
  (147, (.getfield 9, 3), (2, 0, 2, 0)),
  (150, (.iconst 2, 1), (0, 0, 0, 0)),
  (151, (.invokevirtual 44, 3), (93, 1, 6, 0)),
  (154, (.ifCond .eq 7, 3), (0, 0, 0, 0)),
  (157, (.iconst 1, 1), (0, 0, 0, 0)),
  (158, (.goto 4, 3), (0, 0, 0, 0)),
  (161, (.iconst 0, 1), (0, 0, 0, 0)),
  (162, (.ireturn, 1), (0, 0, 0, 0))]
noncomputable def tb_51 : List TE := [ -- X2_takesNumber
  (0, (.aload_n 0, 1), (0, 0, 0, 0)),
  (1, (.getfield 9, 3), (2, 0, 2, 0)),
  (4, (.iload_n 1, 1), (0, 0, 0, 0)),
  (5, (.invokevirtual 108, 3), (96, 1, 6, 0)),
  (8, (.ifCond .eq 15, 3), (0, 0, 0, 0)),
  (11, (.aload_n 0, 1), (0, 0, 0, 0)),
  (12, (.getfield 9, 3), (2, 0, 2, 0)),
  (15, (.iload_n 2, 1), (0, 0, 0, 0)),
  (16, (.iload_n 3, 1), (0, 0, 0, 0)),
  (17, (.invokevirtual 67, 3), (97, 2, 6, 0)),
  (20, (.goto 4, 3), (0, 0, 0, 0)),
  (23, (.iconst (-1), 1), (0, 0, 0, 0)),
  (24, (.ireturn, 1), (0, 0, 0, 0))]
noncomputable def tb_52 : List TE := [ -- X2_takesNewName
  (0, (.aload_n 0, 1), (0, 0, 0, 0)),
  (1, (.getfield 9, 3), (2, 0, 2, 0)),
  (4, (.invokevirtual 111, 3), (98, 0, 6, 0)),
  (7, (.ifCond .ne 5, 3), (0, 0, 0, 0)),
  (10, (.iconst 0, 1), (0, 0, 0, 0)),
  (11, (.ireturn, 1), (0, 0, 0, 0)),
  (12, (.aload_n 0, 1), (0, 0, 0, 0)),
  (13, (.getfield 9, 3), (2, 0, 2, 0)),
  (16, (.getfield 83, 3), (6, 11, 1, 0)),
  (19, (.lstore_n 1, 1), (0, 0, 0, 0)),
  (20, (.aload_n 0, 1), (0, 0, 0, 0)),
  (21, (.getfield 15, 3), (2, 1, 2, 0)),
  (24, (.lload_n 1, 1), (0, 0, 0, 0)),
  (25, (.invokevirtual 114, 3), (25, 1, 1, 0)),
  (28, (.iconst (-1), 1), (0, 0, 0, 0)),
  (29, (.if_icmp .ne 15, 3), (0, 0, 0, 0)),
  (32, (.aload_n 0, 1), (0, 0, 0, 0)),
  (33, (.getfield 15, 3), (2, 1, 2, 0)),
  (36, (.lload_n 1, 1), (0, 0, 0, 0)),
  (37, (.invokevirtual 118, 3), (26, 1, 1, 0)),
  (40, (.iconst (-1), 1), (0, 0, 0, 0)),
  (41, (.if_icmp .eq 7, 3), (0, 0, 0, 0)),
  (44, (.iconst 1, 1), (0, 0, 0, 0)),
  (45, (.goto 4, 3), (0, 0, 0, 0)),
  (48, (.iconst 0, 1), (0, 0, 0, 0)),
  (49, (.istore_n 3, 1), (0, 0, 0, 0)),
  (50, (.iload_n 3, 1), (0, 0, 0, 0)),
  (51, (.ifCond .eq 14, 3), (0, 0, 0, 0)),
  (54, (.aload_n 0, 1), (0, 0, 0, 0)),
  (55, (.getfield 9, 3), (2, 0, 2, 0)),
  (58, (.iconst 3, 1), (0, 0, 0, 0)),
  (59, (.invokevirtual 44, 3), (93, 1, 6, 0)),
  (62, (.ifCond .eq 7, 3), (0, 0, 0, 0)),
  (65, (.iconst 1, 1), (0, 0, 0, 0)),
  (66, (.goto 4, 3), (0, 0, 0, 0)),
  (69, (.iconst 0, 1), (0, 0, 0, 0)),
  (70, (.ireturn, 1), (0, 0, 0, 0))]
noncomputable def tb_53 : List TE := [ -- X2_takesHeld
  (0, (.aload_n 0, 1), (0, 0, 0, 0)),
  (1, (.getfield 9, 3), (2, 0, 2, 0)),
  (4, (.invokevirtual 111, 3), (98, 0, 6, 0)),
  (7, (.ifCond .ne 5, 3), (0, 0, 0, 0)),
  (10, (.iconst 0, 1), (0, 0, 0, 0)),
  (11, (.ireturn, 1), (0, 0, 0, 0)),
  (12, (.aload_n 0, 1), (0, 0, 0, 0)),
  (13, (.getfield 15, 3), (2, 1, 2, 0)),
  (16, (.aload_n 0, 1), (0, 0, 0, 0)),
  (17, (.getfield 9, 3), (2, 0, 2, 0)),
  (20, (.getfield 83, 3), (6, 11, 1, 0)),
  (23, (.invokevirtual 114, 3), (25, 1, 1, 0)),
  (26, (.istore_n 2, 1), (0, 0, 0, 0)),
  (27, (.iload_n 2, 1), (0, 0, 0, 0)),
  (28, (.iconst (-1), 1), (0, 0, 0, 0)),
  (29, (.if_icmp .ne 12, 3), (0, 0, 0, 0)),
  (32, (.aload_n 0, 1), (0, 0, 0, 0)),
  (33, (.getfield 9, 3), (2, 0, 2, 0)),
  (36, (.iconst 3, 1), (0, 0, 0, 0)),
  (37, (.invokevirtual 44, 3), (93, 1, 6, 0)),
  (40, (.ireturn, 1), (0, 0, 0, 0)),
  (41, (.aload_n 0, 1), (0, 0, 0, 0)),
  (42, (.getfield 15, 3), (2, 1, 2, 0)),
  (45, (.iload_n 2, 1), (0, 0, 0, 0)),
  (46, (.invokevirtual 121, 3), (27, 1, 1, 0)),
  (49, (.iconst (-1), 1), (0, 0, 0, 0)),
  (50, (.if_icmp .eq 12, 3), (0, 0, 0, 0)),
  (53, (.aload_n 0, 1), (0, 0, 0, 0)),
  (54, (.getfield 9, 3), (2, 0, 2, 0)),
  (57, (.iconst 5, 1), (0, 0, 0, 0)),
  (58, (.invokevirtual 44, 3), (93, 1, 6, 0)),
  (61, (.ireturn, 1), (0, 0, 0, 0)),
  (62, (.aload_n 0, 1), (0, 0, 0, 0)),
  (63, (.getfield 15, 3), (2, 1, 2, 0)),
  (66, (.getfield 125, 3), (1, 10, 2, 0)),
  (69, (.iload_n 1, 1), (0, 0, 0, 0)),
  (70, (.iload_n 2, 1), (0, 0, 0, 0)),
  (71, (.iastore, 1), (0, 0, 0, 0)),
  (72, (.iconst 1, 1), (0, 0, 0, 0)),
  (73, (.ireturn, 1), (0, 0, 0, 0))]
noncomputable def tb_54 : List TE := [ -- X3_init
  (0, (.aload_n 0, 1), (0, 0, 0, 0)),
  (1, (.invokespecial 3, 3), (3, 0, 0, 1)),
  (4, (.aload_n 0, 1), (0, 0, 0, 0)),
  (5, (.bipush 6, 2), (0, 0, 0, 0)),
  (7, (.newarray .int, 2), (20, 0, 0, 0)),
  (9, (.putfield 9, 3), (3, 0, 2, 0)),
  (12, (.aload_n 0, 1), (0, 0, 0, 0)),
  (13, (.bipush 6, 2), (0, 0, 0, 0)),
  (15, (.newarray .int, 2), (20, 0, 0, 0)),
  (17, (.putfield 15, 3), (3, 2, 2, 0)),
  (20, (.aload_n 0, 1), (0, 0, 0, 0)),
  (21, (.bipush 48, 2), (0, 0, 0, 0)),
  (23, (.newarray .int, 2), (20, 0, 0, 0)),
  (25, (.putfield 18, 3), (3, 3, 2, 0)),
  (28, (.return_, 1), (0, 0, 0, 0))]
noncomputable def tb_55 : List TE := [ -- X3_blowsNeeded
  (0, (.aload_n 0, 1), (0, 0, 0, 0)),
  (1, (.getfield 21, 3), (1, 7, 2, 0)),
  (4, (.iload_n 1, 1), (0, 0, 0, 0)),
  (5, (.iaload, 1), (0, 0, 0, 0)),
  (6, (.istore 4, 2), (0, 0, 0, 0)),
  (8, (.aload_n 0, 1), (0, 0, 0, 0)),
  (9, (.iload_n 3, 1), (0, 0, 0, 0)),
  (10, (.invokevirtual 26, 3), (29, 1, 1, 0)),
  (13, (.istore 5, 2), (0, 0, 0, 0)),
  (15, (.iload 5, 2), (0, 0, 0, 0)),
  (17, (.ifCond .le 12, 3), (0, 0, 0, 0)),
  (20, (.aload_n 0, 1), (0, 0, 0, 0)),
  (21, (.getfield 30, 3), (1, 4, 2, 0)),
  (24, (.iload_n 3, 1), (0, 0, 0, 0)),
  (25, (.iaload, 1), (0, 0, 0, 0)),
  (26, (.goto 4, 3), (0, 0, 0, 0)),
  (29, (.iconst 0, 1), (0, 0, 0, 0)),
  (30, (.istore 6, 2), (0, 0, 0, 0)),
  (32, (.aload_n 0, 1), (0, 0, 0, 0)),
  (33, (.getfield 33, 3), (1, 8, 2, 0)),
  (36, (.iload_n 2, 1), (0, 0, 0, 0)),
  (37, (.iaload, 1), (0, 0, 0, 0)),
  (38, (.istore 7, 2), (0, 0, 0, 0)),
  (40, (.iconst 0, 1), (0, 0, 0, 0)),
  (41, (.istore 8, 2), (0, 0, 0, 0)),
  (43, (.iload 7, 2), (0, 0, 0, 0)),
  (45, (.ifCond .le 38, 3), (0, 0, 0, 0)),
  (48, (.iload 8, 2), (0, 0, 0, 0)),
  (50, (.bipush 60, 2), (0, 0, 0, 0)),
  (52, (.if_icmp .ge 31, 3), (0, 0, 0, 0)),
  (55, (.iload 7, 2), (0, 0, 0, 0)),
  (57, (.iload 8, 2), (0, 0, 0, 0)),
  (59, (.iload 5, 2), (0, 0, 0, 0)),
  (61, (.if_icmp .ge 11, 3), (0, 0, 0, 0)),
  (64, (.iload 4, 2), (0, 0, 0, 0)),
  (66, (.iload 6, 2), (0, 0, 0, 0)),
  (68, (.iadd, 1), (0, 0, 0, 0)),
  (69, (.goto 5, 3), (0, 0, 0, 0)),
  (72, (.iload 4, 2), (0, 0, 0, 0)),
  (74, (.isub, 1), (0, 0, 0, 0)),
  (75, (.istore 7, 2), (0, 0, 0, 0)),
  (77, (.iinc 8 1, 3), (0, 0, 0, 0)),
  (80, (.goto (-37), 3), (0, 0, 0, 0)),
  (83, (.iload 7, 2), (0, 0, 0, 0)),
  (85, (.ifCond .le 7, 3), (0, 0, 0, 0)),
  (88, (.iconst (-1), 1), (0, 0, 0, 0)),
  (89, (.goto 5, 3), (0, 0, 0, 0)),
  (92, (.iload 8, 2), (0, 0, 0, 0)),
  (94, (.ireturn, 1), (0, 0, 0, 0))]
noncomputable def tb_56 : List TE := [ -- X3_bestThing
  (0, (.iconst (-1), 1), (0, 0, 0, 0)),
  (1, (.istore_n 3, 1), (0, 0, 0, 0)),
  (2, (.bipush 61, 2), (0, 0, 0, 0)),
  (4, (.istore 4, 2), (0, 0, 0, 0)),
  (6, (.iconst 0, 1), (0, 0, 0, 0)),
  (7, (.istore 5, 2), (0, 0, 0, 0)),
  (9, (.iload 5, 2), (0, 0, 0, 0)),
  (11, (.aload_n 0, 1), (0, 0, 0, 0)),
  (12, (.getfield 36, 3), (1, 0, 0, 0)),
  (15, (.if_icmp .ge 39, 3), (0, 0, 0, 0)),
  (18, (.aload_n 0, 1), (0, 0, 0, 0)),
  (19, (.iload_n 1, 1), (0, 0, 0, 0)),
  (20, (.iload_n 2, 1), (0, 0, 0, 0)),
  (21, (.iload 5, 2), (0, 0, 0, 0)),
  (23, (.invokestatic 40, 3), (55, 4, 0, 0)),
  (26, (.istore 6, 2), (0, 0, 0, 0)),
  (28, (.iload 6, 2), (0, 0, 0, 0)),
  (30, (.iconst (-1), 1), (0, 0, 0, 0)),
  (31, (.if_icmp .eq 17, 3), (0, 0, 0, 0)),
  (34, (.iload 6, 2), (0, 0, 0, 0)),
  (36, (.iload 4, 2), (0, 0, 0, 0)),
  (38, (.if_icmp .ge 10, 3), (0, 0, 0, 0)),
  (41, (.iload 6, 2), (0, 0, 0, 0)),
  (43, (.istore 4, 2), (0, 0, 0, 0)),
  (45, (.iload 5, 2), (0, 0, 0, 0)),
  (47, (.istore_n 3, 1), (0, 0, 0, 0)),
  (48, (.iinc 5 1, 3), (0, 0, 0, 0)),
  (51, (.goto (-42), 3), (0, 0, 0, 0)),
  (54, (.iload_n 3, 1), (0, 0, 0, 0)),
  (55, (.ireturn, 1), (0, 0, 0, 0))]
noncomputable def tb_57 : List TE := [ -- X3_soonestMan
  (0, (.iconst (-1), 1), (0, 0, 0, 0)),
  (1, (.istore_n 2, 1), (0, 0, 0, 0)),
  (2, (.bipush 61, 2), (0, 0, 0, 0)),
  (4, (.istore_n 3, 1), (0, 0, 0, 0)),
  (5, (.iconst 0, 1), (0, 0, 0, 0)),
  (6, (.istore 4, 2), (0, 0, 0, 0)),
  (8, (.iload 4, 2), (0, 0, 0, 0)),
  (10, (.aload_n 0, 1), (0, 0, 0, 0)),
  (11, (.getfield 44, 3), (1, 1, 0, 0)),
  (14, (.if_icmp .ge 53, 3), (0, 0, 0, 0)),
  (17, (.iload 4, 2), (0, 0, 0, 0)),
  (19, (.iload_n 1, 1), (0, 0, 0, 0)),
  (20, (.if_icmp .ne 7, 3), (0, 0, 0, 0)),
  (23, (.iconst (-1), 1), (0, 0, 0, 0)),
  (24, (.goto 17, 3), (0, 0, 0, 0)),
  (27, (.aload_n 0, 1), (0, 0, 0, 0)),
  (28, (.iload 4, 2), (0, 0, 0, 0)),
  (30, (.iload_n 1, 1), (0, 0, 0, 0)),
  (31, (.aload_n 0, 1), (0, 0, 0, 0)),
  (32, (.getfield 47, 3), (1, 10, 2, 0)),
  (35, (.iload 4, 2), (0, 0, 0, 0)),
  (37, (.iaload, 1), (0, 0, 0, 0)),
  (38, (.invokestatic 40, 3), (55, 4, 0, 0)),
  (41, (.istore 5, 2), (0, 0, 0, 0)),
  (43, (.iload 5, 2), (0, 0, 0, 0)),
  (45, (.iconst (-1), 1), (0, 0, 0, 0)),
  (46, (.if_icmp .eq 15, 3), (0, 0, 0, 0)),
  (49, (.iload 5, 2), (0, 0, 0, 0)),
  (51, (.iload_n 3, 1), (0, 0, 0, 0)),
  (52, (.if_icmp .ge 9, 3), (0, 0, 0, 0)),
  (55, (.iload 5, 2), (0, 0, 0, 0)),
  (57, (.istore_n 3, 1), (0, 0, 0, 0)),
  (58, (.iload 4, 2), (0, 0, 0, 0)),
  (60, (.istore_n 2, 1), (0, 0, 0, 0)),
  (61, (.iinc 4 1, 3), (0, 0, 0, 0)),
  (64, (.goto (-56), 3), (0, 0, 0, 0)),
  (67, (.iload_n 2, 1), (0, 0, 0, 0)),
  (68, (.ireturn, 1), (0, 0, 0, 0))]
noncomputable def tb_58 : List TE := [ -- X3_fairest
  (0, (.iconst (-1), 1), (0, 0, 0, 0)),
  (1, (.istore_n 3, 1), (0, 0, 0, 0)),
  (2, (.iconst 0, 1), (0, 0, 0, 0)),
  (3, (.istore 4, 2), (0, 0, 0, 0)),
  (5, (.iload 4, 2), (0, 0, 0, 0)),
  (7, (.aload_n 0, 1), (0, 0, 0, 0)),
  (8, (.getfield 36, 3), (1, 0, 0, 0)),
  (11, (.if_icmp .ge 104, 3), (0, 0, 0, 0)),
  (14, (.aload_n 0, 1), (0, 0, 0, 0)),
  (15, (.iload_n 1, 1), (0, 0, 0, 0)),
  (16, (.iload_n 2, 1), (0, 0, 0, 0)),
  (17, (.iload 4, 2), (0, 0, 0, 0)),
  (19, (.invokestatic 40, 3), (55, 4, 0, 0)),
  (22, (.istore 5, 2), (0, 0, 0, 0)),
  (24, (.iconst 0, 1), (0, 0, 0, 0)),
  (25, (.istore 6, 2), (0, 0, 0, 0)),
  (27, (.iload 5, 2), (0, 0, 0, 0)),
  (29, (.iconst (-1), 1), (0, 0, 0, 0)),
  (30, (.if_icmp .eq 79, 3), (0, 0, 0, 0)),
  (33, (.iload 6, 2), (0, 0, 0, 0)),
  (35, (.aload_n 0, 1), (0, 0, 0, 0)),
  (36, (.getfield 36, 3), (1, 0, 0, 0)),
  (39, (.if_icmp .ge 70, 3), (0, 0, 0, 0)),
  (42, (.aload_n 0, 1), (0, 0, 0, 0)),
  (43, (.iload_n 2, 1), (0, 0, 0, 0)),
  (44, (.iload_n 1, 1), (0, 0, 0, 0)),
  (45, (.iload 6, 2), (0, 0, 0, 0)),
  (47, (.invokestatic 40, 3), (55, 4, 0, 0)),
  (50, (.istore 7, 2), (0, 0, 0, 0)),
  (52, (.iload 6, 2), (0, 0, 0, 0)),
  (54, (.iload 4, 2), (0, 0, 0, 0)),
  (56, (.if_icmp .eq 47, 3), (0, 0, 0, 0)),
  (59, (.iload 7, 2), (0, 0, 0, 0)),
  (61, (.iconst (-1), 1), (0, 0, 0, 0)),
  (62, (.if_icmp .eq 41, 3), (0, 0, 0, 0)),
  (65, (.iload 5, 2), (0, 0, 0, 0)),
  (67, (.iload 7, 2), (0, 0, 0, 0)),
  (69, (.isub, 1), (0, 0, 0, 0)),
  (70, (.invokestatic 50, 3), (340, 1, 0, 0)),
  (73, (.bipush 6, 2), (0, 0, 0, 0)),
  (75, (.ishl, 1), (0, 0, 0, 0)),
  (76, (.iload 4, 2), (0, 0, 0, 0)),
  (78, (.iconst 3, 1), (0, 0, 0, 0)),
  (79, (.ishl, 1), (0, 0, 0, 0)),
  (80, (.ior, 1), (0, 0, 0, 0)),
  (81, (.iload 6, 2), (0, 0, 0, 0)),
  (83, (.ior, 1), (0, 0, 0, 0)),
  (84, (.istore 8, 2), (0, 0, 0, 0)),
  (86, (.iload_n 3, 1), (0, 0, 0, 0)),
  (87, (.iconst (-1), 1), (0, 0, 0, 0)),
  (88, (.if_icmp .ne 8, 3), (0, 0, 0, 0)),
  (91, (.iload 8, 2), (0, 0, 0, 0)),
  (93, (.goto 9, 3), (0, 0, 0, 0)),
  (96, (.iload_n 3, 1), (0, 0, 0, 0)),
  (97, (.iload 8, 2), (0, 0, 0, 0)),
  (99, (.invokestatic 55, 3), (342, 2, 0, 0)),
  (102, (.istore_n 3, 1), (0, 0, 0, 0)),
  (103, (.iinc 6 1, 3), (0, 0, 0, 0)),
  (106, (.goto (-79), 3), (0, 0, 0, 0)),
  (109, (.iinc 4 1, 3), (0, 0, 0, 0)),
  (112, (.goto (-107), 3), (0, 0, 0, 0)),
  (115, (.iload_n 3, 1), (0, 0, 0, 0)),
  (116, (.ireturn, 1), (0, 0, 0, 0))]
noncomputable def tb_59 : List TE := [ -- X3_differenceOf
  (0, (.iload_n 0, 1), (0, 0, 0, 0)),
  (1, (.bipush 6, 2), (0, 0, 0, 0)),
  (3, (.ishr, 1), (0, 0, 0, 0)),
  (4, (.ireturn, 1), (0, 0, 0, 0))]
noncomputable def tb_60 : List TE := [ -- X3_firstOf
  (0, (.iload_n 0, 1), (0, 0, 0, 0)),
  (1, (.iconst 3, 1), (0, 0, 0, 0)),
  (2, (.ishr, 1), (0, 0, 0, 0)),
  (3, (.bipush 7, 2), (0, 0, 0, 0)),
  (5, (.iand, 1), (0, 0, 0, 0)),
  (6, (.ireturn, 1), (0, 0, 0, 0))]
noncomputable def tb_61 : List TE := [ -- X3_secondOf
  (0, (.iload_n 0, 1), (0, 0, 0, 0)),
  (1, (.bipush 7, 2), (0, 0, 0, 0)),
  (3, (.iand, 1), (0, 0, 0, 0)),
  (4, (.ireturn, 1), (0, 0, 0, 0))]
noncomputable def tb_62 : List TE := [ -- X3_fasterWays
  (0, (.iconst 0, 1), (0, 0, 0, 0)),
  (1, (.istore 4, 2), (0, 0, 0, 0)),
  (3, (.iconst 0, 1), (0, 0, 0, 0)),
  (4, (.istore 5, 2), (0, 0, 0, 0)),
  (6, (.iload 5, 2), (0, 0, 0, 0)),
  (8, (.aload_n 0, 1), (0, 0, 0, 0)),
  (9, (.getfield 36, 3), (1, 0, 0, 0)),
  (12, (.if_icmp .ge 98, 3), (0, 0, 0, 0)),
  (15, (.iload_n 3, 1), (0, 0, 0, 0)),
  (16, (.iload 5, 2), (0, 0, 0, 0)),
  (18, (.ishr, 1), (0, 0, 0, 0)),
  (19, (.iconst 1, 1), (0, 0, 0, 0)),
  (20, (.iand, 1), (0, 0, 0, 0)),
  (21, (.ifCond .ne 7, 3), (0, 0, 0, 0)),
  (24, (.iconst (-1), 1), (0, 0, 0, 0)),
  (25, (.goto 11, 3), (0, 0, 0, 0)),
  (28, (.aload_n 0, 1), (0, 0, 0, 0)),
  (29, (.iload_n 1, 1), (0, 0, 0, 0)),
  (30, (.iload_n 2, 1), (0, 0, 0, 0)),
  (31, (.iload 5, 2), (0, 0, 0, 0)),
  (33, (.invokestatic 40, 3), (55, 4, 0, 0)),
  (36, (.istore 6, 2), (0, 0, 0, 0)),
  (38, (.iconst 0, 1), (0, 0, 0, 0)),
  (39, (.istore 7, 2), (0, 0, 0, 0)),
  (41, (.iload 6, 2), (0, 0, 0, 0)),
  (43, (.iconst (-1), 1), (0, 0, 0, 0)),
  (44, (.if_icmp .eq 60, 3), (0, 0, 0, 0)),
  (47, (.iload 7, 2), (0, 0, 0, 0)),
  (49, (.aload_n 0, 1), (0, 0, 0, 0)),
  (50, (.getfield 36, 3), (1, 0, 0, 0)),
  (53, (.if_icmp .ge 51, 3), (0, 0, 0, 0)),
  (56, (.iload_n 3, 1), (0, 0, 0, 0)),
  (57, (.iload 7, 2), (0, 0, 0, 0)),
  (59, (.ishr, 1), (0, 0, 0, 0)),
  (60, (.iconst 1, 1), (0, 0, 0, 0)),
  (61, (.iand, 1), (0, 0, 0, 0)),
  (62, (.ifCond .eq 36, 3), (0, 0, 0, 0)),
  (65, (.aload_n 0, 1), (0, 0, 0, 0)),
  (66, (.iload_n 2, 1), (0, 0, 0, 0)),
  (67, (.iload_n 1, 1), (0, 0, 0, 0)),
  (68, (.iload 7, 2), (0, 0, 0, 0)),
  (70, (.invokestatic 40, 3), (55, 4, 0, 0)),
  (73, (.istore 8, 2), (0, 0, 0, 0)),
  (75, (.iload 4, 2), (0, 0, 0, 0)),
  (77, (.iload 8, 2), (0, 0, 0, 0)),
  (79, (.iconst (-1), 1), (0, 0, 0, 0)),
  (80, (.if_icmp .eq 10, 3), (0, 0, 0, 0)),
  (83, (.iload 6, 2), (0, 0, 0, 0)),
  (85, (.iload 8, 2), (0, 0, 0, 0)),
  (87, (.if_icmp .ge 7, 3), (0, 0, 0, 0)),
  (90, (.iconst 1, 1), (0, 0, 0, 0)),
  (91, (.goto 4, 3), (0, 0, 0, 0)),
  (94, (.iconst 0, 1), (0, 0, 0, 0)),
  (95, (.iadd, 1), (0, 0, 0, 0)),
  (96, (.istore 4, 2), (0, 0, 0, 0)),
  (98, (.iinc 7 1, 3), (0, 0, 0, 0)),
  (101, (.goto (-60), 3), (0, 0, 0, 0)),
  (104, (.iinc 5 1, 3), (0, 0, 0, 0)),
  (107, (.goto (-101), 3), (0, 0, 0, 0)),
  (110, (.iload 4, 2), (0, 0, 0, 0)),
  (112, (.ireturn, 1), (0, 0, 0, 0))]
noncomputable def tb_63 : List TE := [ -- X3_waysToHit
  (0, (.lconst 0, 1), (0, 0, 0, 0)),
  (1, (.lstore_n 3, 1), (0, 0, 0, 0)),
  (2, (.lconst 1, 1), (0, 0, 0, 0)),
  (3, (.lstore 5, 2), (0, 0, 0, 0)),
  (5, (.iconst 0, 1), (0, 0, 0, 0)),
  (6, (.istore 7, 2), (0, 0, 0, 0)),
  (8, (.iload 7, 2), (0, 0, 0, 0)),
  (10, (.iload_n 1, 1), (0, 0, 0, 0)),
  (11, (.if_icmp .gt 55, 3), (0, 0, 0, 0)),
  (14, (.iload 7, 2), (0, 0, 0, 0)),
  (16, (.iload_n 0, 1), (0, 0, 0, 0)),
  (17, (.if_icmp .lt 27, 3), (0, 0, 0, 0)),
  (20, (.lload_n 3, 1), (0, 0, 0, 0)),
  (21, (.lload 5, 2), (0, 0, 0, 0)),
  (23, (.bipush 16, 2), (0, 0, 0, 0)),
  (25, (.iload_n 2, 1), (0, 0, 0, 0)),
  (26, (.isub, 1), (0, 0, 0, 0)),
  (27, (.iload 7, 2), (0, 0, 0, 0)),
  (29, (.invokestatic 59, 3), (64, 2, 0, 0)),
  (32, (.lmul, 1), (0, 0, 0, 0)),
  (33, (.iload_n 2, 1), (0, 0, 0, 0)),
  (34, (.iload_n 1, 1), (0, 0, 0, 0)),
  (35, (.iload 7, 2), (0, 0, 0, 0)),
  (37, (.isub, 1), (0, 0, 0, 0)),
  (38, (.invokestatic 59, 3), (64, 2, 0, 0)),
  (41, (.lmul, 1), (0, 0, 0, 0)),
  (42, (.ladd, 1), (0, 0, 0, 0)),
  (43, (.lstore_n 3, 1), (0, 0, 0, 0)),
  (44, (.lload 5, 2), (0, 0, 0, 0)),
  (46, (.iload_n 1, 1), (0, 0, 0, 0)),
  (47, (.iload 7, 2), (0, 0, 0, 0)),
  (49, (.isub, 1), (0, 0, 0, 0)),
  (50, (.i2l, 1), (0, 0, 0, 0)),
  (51, (.lmul, 1), (0, 0, 0, 0)),
  (52, (.iload 7, 2), (0, 0, 0, 0)),
  (54, (.iconst 1, 1), (0, 0, 0, 0)),
  (55, (.iadd, 1), (0, 0, 0, 0)),
  (56, (.i2l, 1), (0, 0, 0, 0)),
  (57, (.ldiv, 1), (0, 0, 0, 0)),
  (58, (.lstore 5, 2), (0, 0, 0, 0)),
  (60, (.iinc 7 1, 3), (0, 0, 0, 0)),
  (63, (.goto (-55), 3), (0, 0, 0, 0)),
  (66, (.lload_n 3, 1), (0, 0, 0, 0)),
  (67, (.lreturn, 1), (0, 0, 0, 0))]
noncomputable def tb_64 : List TE := [ -- X3_power
  (0, (.lconst 1, 1), (0, 0, 0, 0)),
  (1, (.lstore_n 2, 1), (0, 0, 0, 0)),
  (2, (.iconst 0, 1), (0, 0, 0, 0)),
  (3, (.istore 4, 2), (0, 0, 0, 0)),
  (5, (.iload 4, 2), (0, 0, 0, 0)),
  (7, (.iload_n 1, 1), (0, 0, 0, 0)),
  (8, (.if_icmp .ge 14, 3), (0, 0, 0, 0)),
  (11, (.lload_n 2, 1), (0, 0, 0, 0)),
  (12, (.iload_n 0, 1), (0, 0, 0, 0)),
  (13, (.i2l, 1), (0, 0, 0, 0)),
  (14, (.lmul, 1), (0, 0, 0, 0)),
  (15, (.lstore_n 2, 1), (0, 0, 0, 0)),
  (16, (.iinc 4 1, 3), (0, 0, 0, 0)),
  (19, (.goto (-14), 3), (0, 0, 0, 0)),
  (22, (.lload_n 2, 1), (0, 0, 0, 0)),
  (23, (.lreturn, 1), (0, 0, 0, 0))]
noncomputable def tb_65 : List TE := [ -- X3_seekArms
  (0, (.aload_n 0, 1), (0, 0, 0, 0)),
  (1, (.aload_n 1, 1), (0, 0, 0, 0)),
  (2, (.getfield 44, 3), (1, 1, 0, 0)),
  (5, (.putfield 63, 3), (3, 4, 0, 0)),
  (8, (.aload_n 0, 1), (0, 0, 0, 0)),
  (9, (.aload_n 1, 1), (0, 0, 0, 0)),
  (10, (.getfield 36, 3), (1, 0, 0, 0)),
  (13, (.putfield 64, 3), (3, 5, 0, 0)),
  (16, (.aload_n 0, 1), (0, 0, 0, 0)),
  (17, (.iload_n 2, 1), (0, 0, 0, 0)),
  (18, (.putfield 65, 3), (3, 6, 0, 0)),
  (21, (.aload_n 0, 1), (0, 0, 0, 0)),
  (22, (.iconst (-1), 1), (0, 0, 0, 0)),
  (23, (.putfield 68, 3), (3, 1, 0, 0)),
  (26, (.iconst 0, 1), (0, 0, 0, 0)),
  (27, (.istore 4, 2), (0, 0, 0, 0)),
  (29, (.iload 4, 2), (0, 0, 0, 0)),
  (31, (.aload_n 0, 1), (0, 0, 0, 0)),
  (32, (.getfield 63, 3), (3, 4, 0, 0)),
  (35, (.if_icmp .ge 55, 3), (0, 0, 0, 0)),
  (38, (.iconst 0, 1), (0, 0, 0, 0)),
  (39, (.istore 5, 2), (0, 0, 0, 0)),
  (41, (.iload 4, 2), (0, 0, 0, 0)),
  (43, (.iload_n 3, 1), (0, 0, 0, 0)),
  (44, (.if_icmp .eq 40, 3), (0, 0, 0, 0)),
  (47, (.iload 5, 2), (0, 0, 0, 0)),
  (49, (.aload_n 0, 1), (0, 0, 0, 0)),
  (50, (.getfield 64, 3), (3, 5, 0, 0)),
  (53, (.if_icmp .ge 31, 3), (0, 0, 0, 0)),
  (56, (.aload_n 0, 1), (0, 0, 0, 0)),
  (57, (.getfield 18, 3), (3, 3, 2, 0)),
  (60, (.iload 4, 2), (0, 0, 0, 0)),
  (62, (.bipush 8, 2), (0, 0, 0, 0)),
  (64, (.imul, 1), (0, 0, 0, 0)),
  (65, (.iload 5, 2), (0, 0, 0, 0)),
  (67, (.iadd, 1), (0, 0, 0, 0)),
  (68, (.aload_n 1, 1), (0, 0, 0, 0)),
  (69, (.iload 4, 2), (0, 0, 0, 0)),
  (71, (.iload_n 3, 1), (0, 0, 0, 0)),
  (72, (.iload 5, 2), (0, 0, 0, 0)),
  (74, (.invokestatic 40, 3), (55, 4, 0, 0)),
  (77, (.iastore, 1), (0, 0, 0, 0)),
  (78, (.iinc 5 1, 3), (0, 0, 0, 0)),
  (81, (.goto (-40), 3), (0, 0, 0, 0)),
  (84, (.iinc 4 1, 3), (0, 0, 0, 0)),
  (87, (.goto (-58), 3), (0, 0, 0, 0)),
  (90, (.aload_n 0, 1), (0, 0, 0, 0)),
  (91, (.iconst 0, 1), (0, 0, 0, 0)),
  (92, (.iconst 0, 1), (0, 0, 0, 0)),
  (93, (.iconst 0, 1), (0, 0, 0, 0)),
  (94, (.invokestatic 71, 3), (66, 4, 0, 0)),
  (97, (.return_, 1), (0, 0, 0, 0))]
noncomputable def tb_66 : List TE := [ -- X3_arm
  (0, (.aload_n 0, 1), (0, 0, 0, 0)),
  (1, (.getfield 68, 3), (3, 1, 0, 0)),
  (4, (.iconst (-1), 1), (0, 0, 0, 0)),
  (5, (.if_icmp .eq 12, 3), (0, 0, 0, 0)),
  (8, (.iload_n 3, 1), (0, 0, 0, 0)),
  (9, (.aload_n 0, 1), (0, 0, 0, 0)),
  (10, (.getfield 68, 3), (3, 1, 0, 0)),
  (13, (.if_icmp .lt 4, 3), (0, 0, 0, 0)),
  (16, (.return_, 1), (0, 0, 0, 0)),
  (17, (.iload_n 1, 1), (0, 0, 0, 0)),
  (18, (.aload_n 0, 1), (0, 0, 0, 0)),
  (19, (.getfield 63, 3), (3, 4, 0, 0)),
  (22, (.if_icmp .lt 24, 3), (0, 0, 0, 0)),
  (25, (.aload_n 0, 1), (0, 0, 0, 0)),
  (26, (.iload_n 3, 1), (0, 0, 0, 0)),
  (27, (.putfield 68, 3), (3, 1, 0, 0)),
  (30, (.aload_n 0, 1), (0, 0, 0, 0)),
  (31, (.getfield 15, 3), (3, 2, 2, 0)),
  (34, (.iconst 0, 1), (0, 0, 0, 0)),
  (35, (.aload_n 0, 1), (0, 0, 0, 0)),
  (36, (.getfield 9, 3), (3, 0, 2, 0)),
  (39, (.iconst 0, 1), (0, 0, 0, 0)),
  (40, (.bipush 6, 2), (0, 0, 0, 0)),
  (42, (.invokestatic 75, 3), (0, 5, 0, 1)),
  (45, (.return_, 1), (0, 0, 0, 0)),
  (46, (.aload_n 0, 1), (0, 0, 0, 0)),
  (47, (.getfield 65, 3), (3, 6, 0, 0)),
  (50, (.iload_n 1, 1), (0, 0, 0, 0)),
  (51, (.ishr, 1), (0, 0, 0, 0)),
  (52, (.iconst 1, 1), (0, 0, 0, 0)),
  (53, (.iand, 1), (0, 0, 0, 0)),
  (54, (.ifCond .ne 13, 3), (0, 0, 0, 0)),
  (57, (.aload_n 0, 1), (0, 0, 0, 0)),
  (58, (.iload_n 1, 1), (0, 0, 0, 0)),
  (59, (.iconst 1, 1), (0, 0, 0, 0)),
  (60, (.iadd, 1), (0, 0, 0, 0)),
  (61, (.iload_n 2, 1), (0, 0, 0, 0)),
  (62, (.iload_n 3, 1), (0, 0, 0, 0)),
  (63, (.invokestatic 71, 3), (66, 4, 0, 0)),
  (66, (.return_, 1), (0, 0, 0, 0)),
  (67, (.iconst 0, 1), (0, 0, 0, 0)),
  (68, (.istore 4, 2), (0, 0, 0, 0)),
  (70, (.iload 4, 2), (0, 0, 0, 0)),
  (72, (.aload_n 0, 1), (0, 0, 0, 0)),
  (73, (.getfield 64, 3), (3, 5, 0, 0)),
  (76, (.if_icmp .ge 63, 3), (0, 0, 0, 0)),
  (79, (.aload_n 0, 1), (0, 0, 0, 0)),
  (80, (.getfield 18, 3), (3, 3, 2, 0)),
  (83, (.iload_n 1, 1), (0, 0, 0, 0)),
  (84, (.bipush 8, 2), (0, 0, 0, 0)),
  (86, (.imul, 1), (0, 0, 0, 0)),
  (87, (.iload 4, 2), (0, 0, 0, 0)),
  (89, (.iadd, 1), (0, 0, 0, 0)),
  (90, (.iaload, 1), (0, 0, 0, 0)),
  (91, (.istore 5, 2), (0, 0, 0, 0)),
  (93, (.iload_n 2, 1), (0, 0, 0, 0)),
  (94, (.iload 4, 2), (0, 0, 0, 0)),
  (96, (.ishr, 1), (0, 0, 0, 0)),
  (97, (.iconst 1, 1), (0, 0, 0, 0)),
  (98, (.iand, 1), (0, 0, 0, 0)),
  (99, (.ifCond .ne 34, 3), (0, 0, 0, 0)),
  (102, (.iload 5, 2), (0, 0, 0, 0)),
  (104, (.iconst (-1), 1), (0, 0, 0, 0)),
  (105, (.if_icmp .eq 28, 3), (0, 0, 0, 0)),
  (108, (.aload_n 0, 1), (0, 0, 0, 0)),
  (109, (.getfield 15, 3), (3, 2, 2, 0)),
  (112, (.iload_n 1, 1), (0, 0, 0, 0)),
  (113, (.iload 4, 2), (0, 0, 0, 0)),
  (115, (.iastore, 1), (0, 0, 0, 0)),
  (116, (.aload_n 0, 1), (0, 0, 0, 0)),
  (117, (.iload_n 1, 1), (0, 0, 0, 0)),
  (118, (.iconst 1, 1), (0, 0, 0, 0)),
  (119, (.iadd, 1), (0, 0, 0, 0)),
  (120, (.iload_n 2, 1), (0, 0, 0, 0)),
  (121, (.iconst 1, 1), (0, 0, 0, 0)),
  (122, (.iload 4, 2), (0, 0, 0, 0)),
  (124, (.ishl, 1), (0, 0, 0, 0)),
  (125, (.ior, 1), (0, 0, 0, 0)),
  (126, (.iload_n 3, 1), (0, 0, 0, 0)),
  (127, (.iload 5, 2), (0, 0, 0, 0)),
  (129, (.iadd, 1), (0, 0, 0, 0)),
  (130, (.invokestatic 71, 3), (66, 4, 0, 0)),
  (133, (.iinc 4 1, 3), (0, 0, 0, 0)),
  (136, (.goto (-66), 3), (0, 0, 0, 0)),
  (139, (.return_, 1), (0, 0, 0, 0))]
noncomputable def tb_67 : List TE := [ -- X4_init
  (0, (.aload_n 0, 1), (0, 0, 0, 0)),
  (1, (.invokespecial 3, 3), (4, 0, 0, 1)),
  (4, (.aload_n 0, 1), (0, 0, 0, 0)),
  (5, (.aload_n 1, 1), (0, 0, 0, 0)),
  (6, (.putfield 9, 3), (4, 0, 2, 0)),
  (9, (.return_, 1), (0, 0, 0, 0))]
noncomputable def tb_68 : List TE := [ -- X4_goThrough
  (0, (.aload_n 0, 1), (0, 0, 0, 0)),
  (1, (.iload_n 2, 1), (0, 0, 0, 0)),
  (2, (.putfield 15, 3), (4, 1, 0, 0)),
  (5, (.aload_n 0, 1), (0, 0, 0, 0)),
  (6, (.iconst 1, 1), (0, 0, 0, 0)),
  (7, (.putfield 19, 3), (4, 2, 3, 0)),
  (10, (.aload_n 0, 1), (0, 0, 0, 0)),
  (11, (.iconst 0, 1), (0, 0, 0, 0)),
  (12, (.putfield 23, 3), (4, 3, 0, 0)),
  (15, (.aload_n 0, 1), (0, 0, 0, 0)),
  (16, (.iconst 0, 1), (0, 0, 0, 0)),
  (17, (.putfield 26, 3), (4, 4, 0, 0)),
  (20, (.aload_n 0, 1), (0, 0, 0, 0)),
  (21, (.iconst 0, 1), (0, 0, 0, 0)),
  (22, (.putfield 29, 3), (4, 5, 0, 0)),
  (25, (.aload_n 0, 1), (0, 0, 0, 0)),
  (26, (.iconst 0, 1), (0, 0, 0, 0)),
  (27, (.putfield 32, 3), (4, 6, 0, 0)),
  (30, (.aload_n 0, 1), (0, 0, 0, 0)),
  (31, (.iconst 0, 1), (0, 0, 0, 0)),
  (32, (.putfield 35, 3), (4, 7, 0, 0)),
  (35, (.aload_n 0, 1), (0, 0, 0, 0)),
  (36, (.iconst 0, 1), (0, 0, 0, 0)),
  (37, (.putfield 38, 3), (4, 8, 3, 0)),
  (40, (.aload_n 0, 1), (0, 0, 0, 0)),
  (41, (.aload_n 1, 1), (0, 0, 0, 0)),
  (42, (.iconst 0, 1), (0, 0, 0, 0)),
  (43, (.aload_n 1, 1), (0, 0, 0, 0)),
  (44, (.getfield 41, 3), (1, 19, 2, 0)),
  (47, (.getfield 47, 3), (8, 1, 0, 0)),
  (50, (.iconst 0, 1), (0, 0, 0, 0)),
  (51, (.invokestatic 50, 3), (69, 5, 0, 0)),
  (54, (.pop, 1), (0, 0, 0, 0)),
  (55, (.return_, 1), (0, 0, 0, 0))]
noncomputable def tb_69 : List TE := [ -- X4_walk
  (0, (.aload_n 1, 1), (0, 0, 0, 0)),
  (1, (.getfield 41, 3), (1, 19, 2, 0)),
  (4, (.astore 5, 2), (0, 0, 0, 0)),
  (6, (.iload_n 2, 1), (0, 0, 0, 0)),
  (7, (.istore 6, 2), (0, 0, 0, 0)),
  (9, (.iload 6, 2), (0, 0, 0, 0)),
  (11, (.iload_n 3, 1), (0, 0, 0, 0)),
  (12, (.if_icmp .ge 145, 3), (0, 0, 0, 0)),
  (15, (.iload 4, 2), (0, 0, 0, 0)),
  (17, (.iconst 3, 1), (0, 0, 0, 0)),
  (18, (.if_icmp .gt 139, 3), (0, 0, 0, 0)),
  (21, (.aload_n 0, 1), (0, 0, 0, 0)),
  (22, (.getfield 23, 3), (4, 3, 0, 0)),
  (25, (.sipush 300, 3), (0, 0, 0, 0)),
  (28, (.if_icmp .lt 10, 3), (0, 0, 0, 0)),
  (31, (.aload_n 0, 1), (0, 0, 0, 0)),
  (32, (.iconst 1, 1), (0, 0, 0, 0)),
  (33, (.putfield 38, 3), (4, 8, 3, 0)),
  (36, (.iconst 0, 1), (0, 0, 0, 0)),
  (37, (.ireturn, 1), (0, 0, 0, 0)),
  (38, (.aload_n 0, 1), (0, 0, 0, 0)),
  (39, (.dup, 1), (0, 0, 0, 0)),
  (40, (.getfield 23, 3), (4, 3, 0, 0)),
  (43, (.iconst 1, 1), (0, 0, 0, 0)),
  (44, (.iadd, 1), (0, 0, 0, 0)),
  (45, (.putfield 23, 3), (4, 3, 0, 0)),
  (48, (.aload 5, 2), (0, 0, 0, 0)),
  (50, (.getfield 54, 3), (8, 2, 2, 0)),
  (53, (.iload 6, 2), (0, 0, 0, 0)),
  (55, (.iaload, 1), (0, 0, 0, 0)),
  (56, (.istore 7, 2), (0, 0, 0, 0)),
  (58, (.iload 7, 2), (0, 0, 0, 0)),
  (60, (.bipush 25, 2), (0, 0, 0, 0)),
  (62, (.if_icmp .ne 5, 3), (0, 0, 0, 0)),
  (65, (.iconst 0, 1), (0, 0, 0, 0)),
  (66, (.ireturn, 1), (0, 0, 0, 0)),
  (67, (.aload_n 0, 1), (0, 0, 0, 0)),
  (68, (.aload_n 1, 1), (0, 0, 0, 0)),
  (69, (.iload 6, 2), (0, 0, 0, 0)),
  (71, (.invokevirtual 58, 3), (70, 2, 4, 0)),
  (74, (.istore 8, 2), (0, 0, 0, 0)),
  (76, (.iload 6, 2), (0, 0, 0, 0)),
  (78, (.iconst 1, 1), (0, 0, 0, 0)),
  (79, (.iadd, 1), (0, 0, 0, 0)),
  (80, (.aload 5, 2), (0, 0, 0, 0)),
  (82, (.getfield 62, 3), (8, 8, 2, 0)),
  (85, (.iload 6, 2), (0, 0, 0, 0)),
  (87, (.iaload, 1), (0, 0, 0, 0)),
  (88, (.invokestatic 65, 3), (341, 2, 0, 0)),
  (91, (.istore 9, 2), (0, 0, 0, 0)),
  (93, (.iconst 0, 1), (0, 0, 0, 0)),
  (94, (.istore 10, 2), (0, 0, 0, 0)),
  (96, (.iload 10, 2), (0, 0, 0, 0)),
  (98, (.iload 8, 2), (0, 0, 0, 0)),
  (100, (.if_icmp .ge 29, 3), (0, 0, 0, 0)),
  (103, (.aload_n 0, 1), (0, 0, 0, 0)),
  (104, (.aload_n 1, 1), (0, 0, 0, 0)),
  (105, (.iload 6, 2), (0, 0, 0, 0)),
  (107, (.iconst 1, 1), (0, 0, 0, 0)),
  (108, (.iadd, 1), (0, 0, 0, 0)),
  (109, (.iload 9, 2), (0, 0, 0, 0)),
  (111, (.iload 4, 2), (0, 0, 0, 0)),
  (113, (.iconst 1, 1), (0, 0, 0, 0)),
  (114, (.iadd, 1), (0, 0, 0, 0)),
  (115, (.invokestatic 50, 3), (69, 5, 0, 0)),
  (118, (.ifCond .ne 5, 3), (0, 0, 0, 0)),
  (121, (.iconst 0, 1), (0, 0, 0, 0)),
  (122, (.ireturn, 1), (0, 0, 0, 0)),
  (123, (.iinc 10 1, 3), (0, 0, 0, 0)),
  (126, (.goto (-30), 3), (0, 0, 0, 0)),
  (129, (.iload 7, 2), (0, 0, 0, 0)),
  (131, (.bipush 19, 2), (0, 0, 0, 0)),
  (133, (.if_icmp .eq 17, 3), (0, 0, 0, 0)),
  (136, (.iload 7, 2), (0, 0, 0, 0)),
  (138, (.bipush 23, 2), (0, 0, 0, 0)),
  (140, (.if_icmp .eq 10, 3), (0, 0, 0, 0)),
  (143, (.aload_n 0, 1), (0, 0, 0, 0)),
  (144, (.aload_n 1, 1), (0, 0, 0, 0)),
  (145, (.iload 6, 2), (0, 0, 0, 0)),
  (147, (.invokevirtual 71, 3), (73, 2, 4, 0)),
  (150, (.iload 9, 2), (0, 0, 0, 0)),
  (152, (.istore 6, 2), (0, 0, 0, 0)),
  (154, (.goto (-145), 3), (0, 0, 0, 0)),
  (157, (.iconst 1, 1), (0, 0, 0, 0)),
  (158, (.ireturn, 1), (0, 0, 0, 0))]
noncomputable def tb_70 : List TE := [ -- X4_timesInside
  (0, (.aload_n 1, 1), (0, 0, 0, 0)),
  (1, (.getfield 41, 3), (1, 19, 2, 0)),
  (4, (.astore_n 3, 1), (0, 0, 0, 0)),
  (5, (.aload_n 3, 1), (0, 0, 0, 0)),
  (6, (.getfield 54, 3), (8, 2, 2, 0)),
  (9, (.iload_n 2, 1), (0, 0, 0, 0)),
  (10, (.iaload, 1), (0, 0, 0, 0)),
  (11, (.bipush 23, 2), (0, 0, 0, 0)),
  (13, (.if_icmp .ne 10, 3), (0, 0, 0, 0)),
  (16, (.aload_n 3, 1), (0, 0, 0, 0)),
  (17, (.getfield 75, 3), (8, 7, 2, 0)),
  (20, (.iload_n 2, 1), (0, 0, 0, 0)),
  (21, (.iaload, 1), (0, 0, 0, 0)),
  (22, (.ireturn, 1), (0, 0, 0, 0)),
  (23, (.aload_n 3, 1), (0, 0, 0, 0)),
  (24, (.getfield 54, 3), (8, 2, 2, 0)),
  (27, (.iload_n 2, 1), (0, 0, 0, 0)),
  (28, (.iaload, 1), (0, 0, 0, 0)),
  (29, (.bipush 19, 2), (0, 0, 0, 0)),
  (31, (.if_icmp .ne 15, 3), (0, 0, 0, 0)),
  (34, (.aload_n 1, 1), (0, 0, 0, 0)),
  (35, (.iload_n 2, 1), (0, 0, 0, 0)),
  (36, (.invokestatic 78, 3), (71, 2, 0, 0)),
  (39, (.ifCond .eq 7, 3), (0, 0, 0, 0)),
  (42, (.iconst 1, 1), (0, 0, 0, 0)),
  (43, (.goto 4, 3), (0, 0, 0, 0)),
  (46, (.iconst 0, 1), (0, 0, 0, 0)),
  (47, (.ireturn, 1), (0, 0, 0, 0))]
noncomputable def tb_71 : List TE := [ -- X4_holdsTrue
  (0, (.aload_n 0, 1), (0, 0, 0, 0)),
  (1, (.getfield 41, 3), (1, 19, 2, 0)),
  (4, (.astore_n 2, 1), (0, 0, 0, 0)),
  (5, (.aload_n 2, 1), (0, 0, 0, 0)),
  (6, (.getfield 82, 3), (8, 5, 2, 0)),
  (9, (.iload_n 1, 1), (0, 0, 0, 0)),
  (10, (.iaload, 1), (0, 0, 0, 0)),
  (11, (.istore_n 3, 1), (0, 0, 0, 0)),
  (12, (.aload_n 2, 1), (0, 0, 0, 0)),
  (13, (.getfield 85, 3), (8, 3, 2, 0)),
  (16, (.iload_n 1, 1), (0, 0, 0, 0)),
  (17, (.iaload, 1), (0, 0, 0, 0)),
  (18, (.lookupswitch 82 #[(10, 54), (20, 34), (21, 76)], 34), (0, 0, 0, 0)),
  (52, (.aload_n 0, 1), (0, 0, 0, 0)),
  (53, (.invokevirtual 88, 3), (41, 0, 1, 0)),
  (56, (.aload_n 2, 1), (0, 0, 0, 0)),
  (57, (.getfield 92, 3), (8, 4, 2, 0)),
  (60, (.iload_n 1, 1), (0, 0, 0, 0)),
  (61, (.iaload, 1), (0, 0, 0, 0)),
  (62, (.aload_n 2, 1), (0, 0, 0, 0)),
  (63, (.getfield 75, 3), (8, 7, 2, 0)),
  (66, (.iload_n 1, 1), (0, 0, 0, 0)),
  (67, (.iaload, 1), (0, 0, 0, 0)),
  (68, (.invokestatic 95, 3), (72, 3, 0, 0)),
  (71, (.ireturn, 1), (0, 0, 0, 0)),
  (72, (.aload_n 0, 1), (0, 0, 0, 0)),
  (73, (.getfield 99, 3), (1, 8, 2, 0)),
  (76, (.iload_n 3, 1), (0, 0, 0, 0)),
  (77, (.iaload, 1), (0, 0, 0, 0)),
  (78, (.aload_n 2, 1), (0, 0, 0, 0)),
  (79, (.getfield 92, 3), (8, 4, 2, 0)),
  (82, (.iload_n 1, 1), (0, 0, 0, 0)),
  (83, (.iaload, 1), (0, 0, 0, 0)),
  (84, (.aload_n 2, 1), (0, 0, 0, 0)),
  (85, (.getfield 75, 3), (8, 7, 2, 0)),
  (88, (.iload_n 1, 1), (0, 0, 0, 0)),
  (89, (.iaload, 1), (0, 0, 0, 0)),
  (90, (.invokestatic 95, 3), (72, 3, 0, 0)),
  (93, (.ireturn, 1), (0, 0, 0, 0)),
  (94, (.aload_n 0, 1), (0, 0, 0, 0)),
  (95, (.iload_n 3, 1), (0, 0, 0, 0)),
  (96, (.invokevirtual 102, 3), (28, 1, 1, 0)),
  (99, (.ireturn, 1), (0, 0, 0, 0)),
  (100, (.aload_n 0, 1), (0, 0, 0, 0)),
  (101, (.invokevirtual 106, 3), (40, 0, 1, 0)),
  (104, (.ireturn, 1), (0, 0, 0, 0))]
noncomputable def tb_72 : List TE := [ -- X4_compares
  (0, (.iload_n 1, 1), (0, 0, 0, 0)),
  (1, (.bipush 60, 2), (0, 0, 0, 0)),
  (3, (.if_icmp .ne 14, 3), (0, 0, 0, 0)),
  (6, (.iload_n 0, 1), (0, 0, 0, 0)),
  (7, (.iload_n 2, 1), (0, 0, 0, 0)),
  (8, (.if_icmp .ge 7, 3), (0, 0, 0, 0)),
  (11, (.iconst 1, 1), (0, 0, 0, 0)),
  (12, (.goto 4, 3), (0, 0, 0, 0)),
  (15, (.iconst 0, 1), (0, 0, 0, 0)),
  (16, (.ireturn, 1), (0, 0, 0, 0)),
  (17, (.iload_n 1, 1), (0, 0, 0, 0)),
  (18, (.bipush 62, 2), (0, 0, 0, 0)),
  (20, (.if_icmp .ne 16, 3), (0, 0, 0, 0)),
  (23, (.iload_n 0, 1), (0, 0, 0, 0)),
  (24, (.iload_n 2, 1), (0, 0, 0, 0)),
  (25, (.if_icmp .le 7, 3), (0, 0, 0, 0)),
  (28, (.iconst 1, 1), (0, 0, 0, 0)),
  (29, (.goto 17, 3), (0, 0, 0, 0)),
  (32, (.iconst 0, 1), (0, 0, 0, 0)),
  (33, (.goto 13, 3), (0, 0, 0, 0)),
  (36, (.iload_n 0, 1), (0, 0, 0, 0)),
  (37, (.iload_n 2, 1), (0, 0, 0, 0)),
  (38, (.if_icmp .ne 7, 3), (0, 0, 0, 0)),
  (41, (.iconst 1, 1), (0, 0, 0, 0)),
  (42, (.goto 4, 3), (0, 0, 0, 0)),
  (45, (.iconst 0, 1), (0, 0, 0, 0)),
  (46, (.ireturn, 1), (0, 0, 0, 0))]
noncomputable def tb_73 : List TE := [ -- X4_step
  (0, (.aload_n 1, 1), (0, 0, 0, 0)),
  (1, (.getfield 41, 3), (1, 19, 2, 0)),
  (4, (.astore_n 3, 1), (0, 0, 0, 0)),
  (5, (.aload_n 3, 1), (0, 0, 0, 0)),
  (6, (.getfield 54, 3), (8, 2, 2, 0)),
  (9, (.iload_n 2, 1), (0, 0, 0, 0)),
  (10, (.iaload, 1), (0, 0, 0, 0)),
  (11, (.istore 4, 2), (0, 0, 0, 0)),
  (13, (.iload 4, 2), (0, 0, 0, 0)),
  (15, (.bipush 12, 2), (0, 0, 0, 0)),
  (17, (.if_icmp .ne 24, 3), (0, 0, 0, 0)),
  (20, (.aload_n 1, 1), (0, 0, 0, 0)),
  (21, (.aload_n 3, 1), (0, 0, 0, 0)),
  (22, (.getfield 82, 3), (8, 5, 2, 0)),
  (25, (.iload_n 2, 1), (0, 0, 0, 0)),
  (26, (.iaload, 1), (0, 0, 0, 0)),
  (27, (.aload_n 3, 1), (0, 0, 0, 0)),
  (28, (.getfield 110, 3), (8, 6, 2, 0)),
  (31, (.iload_n 2, 1), (0, 0, 0, 0)),
  (32, (.iaload, 1), (0, 0, 0, 0)),
  (33, (.invokevirtual 113, 3), (42, 2, 1, 0)),
  (36, (.istore 5, 2), (0, 0, 0, 0)),
  (38, (.goto 67, 3), (0, 0, 0, 0)),
  (41, (.iload 4, 2), (0, 0, 0, 0)),
  (43, (.bipush 17, 2), (0, 0, 0, 0)),
  (45, (.if_icmp .ne 24, 3), (0, 0, 0, 0)),
  (48, (.aload_n 1, 1), (0, 0, 0, 0)),
  (49, (.aload_n 3, 1), (0, 0, 0, 0)),
  (50, (.getfield 82, 3), (8, 5, 2, 0)),
  (53, (.iload_n 2, 1), (0, 0, 0, 0)),
  (54, (.iaload, 1), (0, 0, 0, 0)),
  (55, (.aload_n 3, 1), (0, 0, 0, 0)),
  (56, (.getfield 75, 3), (8, 7, 2, 0)),
  (59, (.iload_n 2, 1), (0, 0, 0, 0)),
  (60, (.iaload, 1), (0, 0, 0, 0)),
  (61, (.invokevirtual 117, 3), (44, 2, 1, 0)),
  (64, (.istore 5, 2), (0, 0, 0, 0)),
  (66, (.goto 39, 3), (0, 0, 0, 0)),
  (69, (.aload_n 0, 1), (0, 0, 0, 0)),
  (70, (.getfield 9, 3), (4, 0, 2, 0)),
  (73, (.aload_n 1, 1), (0, 0, 0, 0)),
  (74, (.iload 4, 2), (0, 0, 0, 0)),
  (76, (.bipush 18, 2), (0, 0, 0, 0)),
  (78, (.if_icmp .ne 11, 3), (0, 0, 0, 0)),
  (81, (.aload_n 0, 1), (0, 0, 0, 0)),
  (82, (.iconst 4, 1), (0, 0, 0, 0)),
  (83, (.invokevirtual 120, 3), (75, 1, 4, 0)),
  (86, (.goto 8, 3), (0, 0, 0, 0)),
  (89, (.iload 4, 2), (0, 0, 0, 0)),
  (91, (.bipush 13, 2), (0, 0, 0, 0)),
  (93, (.isub, 1), (0, 0, 0, 0)),
  (94, (.invokevirtual 124, 3), (4, 2, 0, 0)),
  (97, (.istore 5, 2), (0, 0, 0, 0)),
  (99, (.aload_n 0, 1), (0, 0, 0, 0)),
  (100, (.iload 5, 2), (0, 0, 0, 0)),
  (102, (.invokevirtual 129, 3), (74, 1, 4, 0)),
  (105, (.aload_n 0, 1), (0, 0, 0, 0)),
  (106, (.dup, 1), (0, 0, 0, 0)),
  (107, (.getfield 26, 3), (4, 4, 0, 0)),
  (110, (.iload 5, 2), (0, 0, 0, 0)),
  (112, (.ifCond .eq 7, 3), (0, 0, 0, 0)),
  (115, (.iconst 0, 1), (0, 0, 0, 0)),
  (116, (.goto 4, 3), (0, 0, 0, 0)),
  (119, (.iconst 1, 1), (0, 0, 0, 0)),
  (120, (.iadd, 1), (0, 0, 0, 0)),
  (121, (.putfield 26, 3), (4, 4, 0, 0)),
  (124, (.return_, 1), (0, 0, 0, 0))]
noncomputable def tb_74 : List TE := [ -- X4_countAct
  (0, (.iload_n 1, 1), (0, 0, 0, 0)),
  (1, (.ifCond .eq 53, 3), (0, 0, 0, 0)),
  (4, (.aload_n 0, 1), (0, 0, 0, 0)),
  (5, (.dup, 1), (0, 0, 0, 0)),
  (6, (.getfield 29, 3), (4, 5, 0, 0)),
  (9, (.iconst 1, 1), (0, 0, 0, 0)),
  (10, (.iadd, 1), (0, 0, 0, 0)),
  (11, (.putfield 29, 3), (4, 5, 0, 0)),
  (14, (.aload_n 0, 1), (0, 0, 0, 0)),
  (15, (.dup, 1), (0, 0, 0, 0)),
  (16, (.getfield 35, 3), (4, 7, 0, 0)),
  (19, (.aload_n 0, 1), (0, 0, 0, 0)),
  (20, (.getfield 9, 3), (4, 0, 2, 0)),
  (23, (.getfield 133, 3), (0, 12, 0, 0)),
  (26, (.iadd, 1), (0, 0, 0, 0)),
  (27, (.putfield 35, 3), (4, 7, 0, 0)),
  (30, (.aload_n 0, 1), (0, 0, 0, 0)),
  (31, (.dup, 1), (0, 0, 0, 0)),
  (32, (.getfield 32, 3), (4, 6, 0, 0)),
  (35, (.aload_n 0, 1), (0, 0, 0, 0)),
  (36, (.getfield 9, 3), (4, 0, 2, 0)),
  (39, (.invokevirtual 136, 3), (7, 0, 0, 0)),
  (42, (.ifCond .eq 7, 3), (0, 0, 0, 0)),
  (45, (.iconst 1, 1), (0, 0, 0, 0)),
  (46, (.goto 4, 3), (0, 0, 0, 0)),
  (49, (.iconst 0, 1), (0, 0, 0, 0)),
  (50, (.iadd, 1), (0, 0, 0, 0)),
  (51, (.putfield 32, 3), (4, 6, 0, 0)),
  (54, (.return_, 1), (0, 0, 0, 0))]
noncomputable def tb_75 : List TE := [ -- X4_drawn
  (0, (.aload_n 0, 1), (0, 0, 0, 0)),
  (1, (.aload_n 0, 1), (0, 0, 0, 0)),
  (2, (.getfield 15, 3), (4, 1, 0, 0)),
  (5, (.sipush 3137, 3), (0, 0, 0, 0)),
  (8, (.imul, 1), (0, 0, 0, 0)),
  (9, (.sipush 11353, 3), (0, 0, 0, 0)),
  (12, (.iadd, 1), (0, 0, 0, 0)),
  (13, (.ldc 139, 2), (0, 0, 0, 65536)),
  (15, (.irem, 1), (0, 0, 0, 0)),
  (16, (.putfield 15, 3), (4, 1, 0, 0)),
  (19, (.aload_n 0, 1), (0, 0, 0, 0)),
  (20, (.getfield 15, 3), (4, 1, 0, 0)),
  (23, (.bipush 8, 2), (0, 0, 0, 0)),
  (25, (.idiv, 1), (0, 0, 0, 0)),
  (26, (.iload_n 1, 1), (0, 0, 0, 0)),
  (27, (.irem, 1), (0, 0, 0, 0)),
  (28, (.ireturn, 1), (0, 0, 0, 0))]
noncomputable def tb_76 : List TE := [ -- X5_init
  (0, (.aload_n 0, 1), (0, 0, 0, 0)),
  (1, (.invokespecial 3, 3), (5, 0, 0, 1)),
  (4, (.aload_n 0, 1), (0, 0, 0, 0)),
  (5, (.bipush 6, 2), (0, 0, 0, 0)),
  (7, (.newarray .int, 2), (20, 0, 0, 0)),
  (9, (.putfield 9, 3), (5, 0, 2, 0)),
  (12, (.aload_n 0, 1), (0, 0, 0, 0)),
  (13, (.bipush 6, 2), (0, 0, 0, 0)),
  (15, (.newarray .int, 2), (20, 0, 0, 0)),
  (17, (.putfield 15, 3), (5, 2, 2, 0)),
  (20, (.return_, 1), (0, 0, 0, 0))]
noncomputable def tb_77 : List TE := [ -- X5_seek
  (0, (.aload_n 0, 1), (0, 0, 0, 0)),
  (1, (.iconst (-1), 1), (0, 0, 0, 0)),
  (2, (.putfield 18, 3), (5, 1, 0, 0)),
  (5, (.aload_n 0, 1), (0, 0, 0, 0)),
  (6, (.aload_n 1, 1), (0, 0, 0, 0)),
  (7, (.iconst 0, 1), (0, 0, 0, 0)),
  (8, (.iconst 0, 1), (0, 0, 0, 0)),
  (9, (.iconst 0, 1), (0, 0, 0, 0)),
  (10, (.invokestatic 22, 3), (78, 5, 0, 0)),
  (13, (.return_, 1), (0, 0, 0, 0))]
noncomputable def tb_78 : List TE := [ -- X5_stand
  (0, (.aload_n 0, 1), (0, 0, 0, 0)),
  (1, (.getfield 18, 3), (5, 1, 0, 0)),
  (4, (.iconst (-1), 1), (0, 0, 0, 0)),
  (5, (.if_icmp .eq 13, 3), (0, 0, 0, 0)),
  (8, (.iload 4, 2), (0, 0, 0, 0)),
  (10, (.aload_n 0, 1), (0, 0, 0, 0)),
  (11, (.getfield 18, 3), (5, 1, 0, 0)),
  (14, (.if_icmp .lt 4, 3), (0, 0, 0, 0)),
  (17, (.return_, 1), (0, 0, 0, 0)),
  (18, (.iload_n 2, 1), (0, 0, 0, 0)),
  (19, (.aload_n 1, 1), (0, 0, 0, 0)),
  (20, (.getfield 26, 3), (1, 1, 0, 0)),
  (23, (.if_icmp .lt 25, 3), (0, 0, 0, 0)),
  (26, (.aload_n 0, 1), (0, 0, 0, 0)),
  (27, (.iload 4, 2), (0, 0, 0, 0)),
  (29, (.putfield 18, 3), (5, 1, 0, 0)),
  (32, (.aload_n 0, 1), (0, 0, 0, 0)),
  (33, (.getfield 15, 3), (5, 2, 2, 0)),
  (36, (.iconst 0, 1), (0, 0, 0, 0)),
  (37, (.aload_n 0, 1), (0, 0, 0, 0)),
  (38, (.getfield 9, 3), (5, 0, 2, 0)),
  (41, (.iconst 0, 1), (0, 0, 0, 0)),
  (42, (.bipush 6, 2), (0, 0, 0, 0)),
  (44, (.invokestatic 31, 3), (0, 5, 0, 1)),
  (47, (.return_, 1), (0, 0, 0, 0)),
  (48, (.iconst 0, 1), (0, 0, 0, 0)),
  (49, (.istore 5, 2), (0, 0, 0, 0)),
  (51, (.iload 5, 2), (0, 0, 0, 0)),
  (53, (.aload_n 1, 1), (0, 0, 0, 0)),
  (54, (.getfield 26, 3), (1, 1, 0, 0)),
  (57, (.if_icmp .ge 53, 3), (0, 0, 0, 0)),
  (60, (.iload_n 3, 1), (0, 0, 0, 0)),
  (61, (.iload 5, 2), (0, 0, 0, 0)),
  (63, (.ishr, 1), (0, 0, 0, 0)),
  (64, (.iconst 1, 1), (0, 0, 0, 0)),
  (65, (.iand, 1), (0, 0, 0, 0)),
  (66, (.ifCond .ne 38, 3), (0, 0, 0, 0)),
  (69, (.aload_n 0, 1), (0, 0, 0, 0)),
  (70, (.getfield 15, 3), (5, 2, 2, 0)),
  (73, (.iload_n 2, 1), (0, 0, 0, 0)),
  (74, (.iload 5, 2), (0, 0, 0, 0)),
  (76, (.iastore, 1), (0, 0, 0, 0)),
  (77, (.aload_n 0, 1), (0, 0, 0, 0)),
  (78, (.aload_n 1, 1), (0, 0, 0, 0)),
  (79, (.iload_n 2, 1), (0, 0, 0, 0)),
  (80, (.invokevirtual 37, 3), (79, 2, 5, 0)),
  (83, (.istore 6, 2), (0, 0, 0, 0)),
  (85, (.aload_n 0, 1), (0, 0, 0, 0)),
  (86, (.aload_n 1, 1), (0, 0, 0, 0)),
  (87, (.iload_n 2, 1), (0, 0, 0, 0)),
  (88, (.iconst 1, 1), (0, 0, 0, 0)),
  (89, (.iadd, 1), (0, 0, 0, 0)),
  (90, (.iload_n 3, 1), (0, 0, 0, 0)),
  (91, (.iconst 1, 1), (0, 0, 0, 0)),
  (92, (.iload 5, 2), (0, 0, 0, 0)),
  (94, (.ishl, 1), (0, 0, 0, 0)),
  (95, (.ior, 1), (0, 0, 0, 0)),
  (96, (.iload 4, 2), (0, 0, 0, 0)),
  (98, (.iload 6, 2), (0, 0, 0, 0)),
  (100, (.iadd, 1), (0, 0, 0, 0)),
  (101, (.invokestatic 22, 3), (78, 5, 0, 0)),
  (104, (.iinc 5 1, 3), (0, 0, 0, 0)),
  (107, (.goto (-56), 3), (0, 0, 0, 0)),
  (110, (.return_, 1), (0, 0, 0, 0))]
noncomputable def tb_79 : List TE := [ -- X5_hurtsAtEnd
  (0, (.iconst 0, 1), (0, 0, 0, 0)),
  (1, (.istore_n 3, 1), (0, 0, 0, 0)),
  (2, (.iconst 0, 1), (0, 0, 0, 0)),
  (3, (.istore 4, 2), (0, 0, 0, 0)),
  (5, (.iload 4, 2), (0, 0, 0, 0)),
  (7, (.iload_n 2, 1), (0, 0, 0, 0)),
  (8, (.if_icmp .ge 29, 3), (0, 0, 0, 0)),
  (11, (.iload_n 3, 1), (0, 0, 0, 0)),
  (12, (.aload_n 1, 1), (0, 0, 0, 0)),
  (13, (.aload_n 0, 1), (0, 0, 0, 0)),
  (14, (.getfield 15, 3), (5, 2, 2, 0)),
  (17, (.iload 4, 2), (0, 0, 0, 0)),
  (19, (.iaload, 1), (0, 0, 0, 0)),
  (20, (.aload_n 0, 1), (0, 0, 0, 0)),
  (21, (.getfield 15, 3), (5, 2, 2, 0)),
  (24, (.iload_n 2, 1), (0, 0, 0, 0)),
  (25, (.iaload, 1), (0, 0, 0, 0)),
  (26, (.invokevirtual 41, 3), (35, 2, 1, 0)),
  (29, (.iadd, 1), (0, 0, 0, 0)),
  (30, (.istore_n 3, 1), (0, 0, 0, 0)),
  (31, (.iinc 4 1, 3), (0, 0, 0, 0)),
  (34, (.goto (-29), 3), (0, 0, 0, 0)),
  (37, (.iload_n 3, 1), (0, 0, 0, 0)),
  (38, (.ireturn, 1), (0, 0, 0, 0))]
noncomputable def tb_80 : List TE := [ -- X6_worth
  (0, (.aload_n 0, 1), (0, 0, 0, 0)),
  (1, (.iload_n 1, 1), (0, 0, 0, 0)),
  (2, (.sipush (-1000), 3), (0, 0, 0, 0)),
  (5, (.sipush 1000, 3), (0, 0, 0, 0)),
  (8, (.invokestatic 11, 3), (82, 4, 0, 0)),
  (11, (.ireturn, 1), (0, 0, 0, 0))]
noncomputable def tb_81 : List TE := [ -- X6_choice
  (0, (.aload_n 0, 1), (0, 0, 0, 0)),
  (1, (.invokevirtual 15, 3), (6, 0, 0, 0)),
  (4, (.ifCond .ne 7, 3), (0, 0, 0, 0)),
  (7, (.iconst 1, 1), (0, 0, 0, 0)),
  (8, (.goto 4, 3), (0, 0, 0, 0)),
  (11, (.iconst 0, 1), (0, 0, 0, 0)),
  (12, (.istore_n 2, 1), (0, 0, 0, 0)),
  (13, (.sipush (-1000), 3), (0, 0, 0, 0)),
  (16, (.istore_n 3, 1), (0, 0, 0, 0)),
  (17, (.sipush 1000, 3), (0, 0, 0, 0)),
  (20, (.istore 4, 2), (0, 0, 0, 0)),
  (22, (.iconst (-1), 1), (0, 0, 0, 0)),
  (23, (.istore 5, 2), (0, 0, 0, 0)),
  (25, (.aload_n 0, 1), (0, 0, 0, 0)),
  (26, (.invokevirtual 21, 3), (15, 0, 0, 0)),
  (29, (.lstore 6, 2), (0, 0, 0, 0)),
  (31, (.iconst 0, 1), (0, 0, 0, 0)),
  (32, (.istore 8, 2), (0, 0, 0, 0)),
  (34, (.iload 8, 2), (0, 0, 0, 0)),
  (36, (.iconst 4, 1), (0, 0, 0, 0)),
  (37, (.if_icmp .ge 81, 3), (0, 0, 0, 0)),
  (40, (.aload_n 0, 1), (0, 0, 0, 0)),
  (41, (.iload 8, 2), (0, 0, 0, 0)),
  (43, (.invokevirtual 25, 3), (11, 1, 0, 0)),
  (46, (.ifCond .eq 66, 3), (0, 0, 0, 0)),
  (49, (.aload_n 0, 1), (0, 0, 0, 0)),
  (50, (.iload 8, 2), (0, 0, 0, 0)),
  (52, (.invokevirtual 29, 3), (13, 1, 0, 0)),
  (55, (.aload_n 0, 1), (0, 0, 0, 0)),
  (56, (.iload_n 1, 1), (0, 0, 0, 0)),
  (57, (.iconst 1, 1), (0, 0, 0, 0)),
  (58, (.isub, 1), (0, 0, 0, 0)),
  (59, (.iload_n 3, 1), (0, 0, 0, 0)),
  (60, (.iload 4, 2), (0, 0, 0, 0)),
  (62, (.invokestatic 11, 3), (82, 4, 0, 0)),
  (65, (.istore 9, 2), (0, 0, 0, 0)),
  (67, (.aload_n 0, 1), (0, 0, 0, 0)),
  (68, (.lload 6, 2), (0, 0, 0, 0)),
  (70, (.invokevirtual 33, 3), (16, 1, 0, 0)),
  (73, (.iload_n 2, 1), (0, 0, 0, 0)),
  (74, (.ifCond .eq 19, 3), (0, 0, 0, 0)),
  (77, (.iload 9, 2), (0, 0, 0, 0)),
  (79, (.iload_n 3, 1), (0, 0, 0, 0)),
  (80, (.if_icmp .le 13, 3), (0, 0, 0, 0)),
  (83, (.iload 9, 2), (0, 0, 0, 0)),
  (85, (.istore_n 3, 1), (0, 0, 0, 0)),
  (86, (.iload 8, 2), (0, 0, 0, 0)),
  (88, (.istore 5, 2), (0, 0, 0, 0)),
  (90, (.goto 22, 3), (0, 0, 0, 0)),
  (93, (.iload_n 2, 1), (0, 0, 0, 0)),
  (94, (.ifCond .ne 18, 3), (0, 0, 0, 0)),
  (97, (.iload 9, 2), (0, 0, 0, 0)),
  (99, (.iload 4, 2), (0, 0, 0, 0)),
  (101, (.if_icmp .ge 11, 3), (0, 0, 0, 0)),
  (104, (.iload 9, 2), (0, 0, 0, 0)),
  (106, (.istore 4, 2), (0, 0, 0, 0)),
  (108, (.iload 8, 2), (0, 0, 0, 0)),
  (110, (.istore 5, 2), (0, 0, 0, 0)),
  (112, (.iinc 8 1, 3), (0, 0, 0, 0)),
  (115, (.goto (-81), 3), (0, 0, 0, 0)),
  (118, (.iload 5, 2), (0, 0, 0, 0)),
  (120, (.ireturn, 1), (0, 0, 0, 0))]
noncomputable def tb_82 : List TE := [ -- X6_best
  (0, (.iload_n 1, 1), (0, 0, 0, 0)),
  (1, (.ifCond .le 10, 3), (0, 0, 0, 0)),
  (4, (.aload_n 0, 1), (0, 0, 0, 0)),
  (5, (.invokevirtual 37, 3), (7, 0, 0, 0)),
  (8, (.ifCond .eq 17, 3), (0, 0, 0, 0)),
  (11, (.aload_n 0, 1), (0, 0, 0, 0)),
  (12, (.getfield 41, 3), (0, 0, 2, 0)),
  (15, (.iconst 0, 1), (0, 0, 0, 0)),
  (16, (.iaload, 1), (0, 0, 0, 0)),
  (17, (.aload_n 0, 1), (0, 0, 0, 0)),
  (18, (.getfield 41, 3), (0, 0, 2, 0)),
  (21, (.iconst 1, 1), (0, 0, 0, 0)),
  (22, (.iaload, 1), (0, 0, 0, 0)),
  (23, (.isub, 1), (0, 0, 0, 0)),
  (24, (.ireturn, 1), (0, 0, 0, 0)),
  (25, (.aload_n 0, 1), (0, 0, 0, 0)),
  (26, (.invokevirtual 15, 3), (6, 0, 0, 0)),
  (29, (.ifCond .ne 7, 3), (0, 0, 0, 0)),
  (32, (.iconst 1, 1), (0, 0, 0, 0)),
  (33, (.goto 4, 3), (0, 0, 0, 0)),
  (36, (.iconst 0, 1), (0, 0, 0, 0)),
  (37, (.istore 4, 2), (0, 0, 0, 0)),
  (39, (.iload 4, 2), (0, 0, 0, 0)),
  (41, (.ifCond .eq 9, 3), (0, 0, 0, 0)),
  (44, (.sipush (-1000), 3), (0, 0, 0, 0)),
  (47, (.goto 6, 3), (0, 0, 0, 0)),
  (50, (.sipush 1000, 3), (0, 0, 0, 0)),
  (53, (.istore 5, 2), (0, 0, 0, 0)),
  (55, (.aload_n 0, 1), (0, 0, 0, 0)),
  (56, (.invokevirtual 21, 3), (15, 0, 0, 0)),
  (59, (.lstore 6, 2), (0, 0, 0, 0)),
  (61, (.iconst 0, 1), (0, 0, 0, 0)),
  (62, (.istore 8, 2), (0, 0, 0, 0)),
  (64, (.iload 8, 2), (0, 0, 0, 0)),
  (66, (.iconst 4, 1), (0, 0, 0, 0)),
  (67, (.if_icmp .ge 86, 3), (0, 0, 0, 0)),
  (70, (.iload_n 2, 1), (0, 0, 0, 0)),
  (71, (.iload_n 3, 1), (0, 0, 0, 0)),
  (72, (.if_icmp .ge 81, 3), (0, 0, 0, 0)),
  (75, (.aload_n 0, 1), (0, 0, 0, 0)),
  (76, (.iload 8, 2), (0, 0, 0, 0)),
  (78, (.invokevirtual 25, 3), (11, 1, 0, 0)),
  (81, (.ifCond .eq 66, 3), (0, 0, 0, 0)),
  (84, (.aload_n 0, 1), (0, 0, 0, 0)),
  (85, (.iload 8, 2), (0, 0, 0, 0)),
  (87, (.invokevirtual 29, 3), (13, 1, 0, 0)),
  (90, (.aload_n 0, 1), (0, 0, 0, 0)),
  (91, (.iload_n 1, 1), (0, 0, 0, 0)),
  (92, (.iconst 1, 1), (0, 0, 0, 0)),
  (93, (.isub, 1), (0, 0, 0, 0)),
  (94, (.iload_n 2, 1), (0, 0, 0, 0)),
  (95, (.iload_n 3, 1), (0, 0, 0, 0)),
  (96, (.invokestatic 11, 3), (82, 4, 0, 0)),
  (99, (.istore 9, 2), (0, 0, 0, 0)),
  (101, (.aload_n 0, 1), (0, 0, 0, 0)),
  (102, (.lload 6, 2), (0, 0, 0, 0)),
  (104, (.invokevirtual 33, 3), (16, 1, 0, 0)),
  (107, (.iload 4, 2), (0, 0, 0, 0)),
  (109, (.ifCond .eq 22, 3), (0, 0, 0, 0)),
  (112, (.iload 5, 2), (0, 0, 0, 0)),
  (114, (.iload 9, 2), (0, 0, 0, 0)),
  (116, (.invokestatic 45, 3), (341, 2, 0, 0)),
  (119, (.istore 5, 2), (0, 0, 0, 0)),
  (121, (.iload_n 2, 1), (0, 0, 0, 0)),
  (122, (.iload 9, 2), (0, 0, 0, 0)),
  (124, (.invokestatic 45, 3), (341, 2, 0, 0)),
  (127, (.istore_n 2, 1), (0, 0, 0, 0)),
  (128, (.goto 19, 3), (0, 0, 0, 0)),
  (131, (.iload 5, 2), (0, 0, 0, 0)),
  (133, (.iload 9, 2), (0, 0, 0, 0)),
  (135, (.invokestatic 51, 3), (342, 2, 0, 0)),
  (138, (.istore 5, 2), (0, 0, 0, 0)),
  (140, (.iload_n 3, 1), (0, 0, 0, 0)),
  (141, (.iload 9, 2), (0, 0, 0, 0)),
  (143, (.invokestatic 51, 3), (342, 2, 0, 0)),
  (146, (.istore_n 3, 1), (0, 0, 0, 0)),
  (147, (.iinc 8 1, 3), (0, 0, 0, 0)),
  (150, (.goto (-86), 3), (0, 0, 0, 0)),
  (153, (.iload 5, 2), (0, 0, 0, 0)),
  (155, (.ireturn, 1), (0, 0, 0, 0))]
noncomputable def tb_83 : List TE := [ -- X6_fewestTurns
  (0, (.aload_n 0, 1), (0, 0, 0, 0)),
  (1, (.invokevirtual 15, 3), (6, 0, 0, 0)),
  (4, (.istore_n 1, 1), (0, 0, 0, 0)),
  (5, (.iconst 1, 1), (0, 0, 0, 0)),
  (6, (.istore_n 2, 1), (0, 0, 0, 0)),
  (7, (.iload_n 2, 1), (0, 0, 0, 0)),
  (8, (.bipush 8, 2), (0, 0, 0, 0)),
  (10, (.if_icmp .gt 20, 3), (0, 0, 0, 0)),
  (13, (.aload_n 0, 1), (0, 0, 0, 0)),
  (14, (.iload_n 2, 1), (0, 0, 0, 0)),
  (15, (.iload_n 1, 1), (0, 0, 0, 0)),
  (16, (.invokestatic 54, 3), (84, 3, 0, 0)),
  (19, (.ifCond .eq 5, 3), (0, 0, 0, 0)),
  (22, (.iload_n 2, 1), (0, 0, 0, 0)),
  (23, (.ireturn, 1), (0, 0, 0, 0)),
  (24, (.iinc 2 2, 3), (0, 0, 0, 0)),
  (27, (.goto (-20), 3), (0, 0, 0, 0)),
  (30, (.iconst (-1), 1), (0, 0, 0, 0)),
  (31, (.ireturn, 1), (0, 0, 0, 0))]
noncomputable def tb_84 : List TE := [ -- X6_fells
  (0, (.aload_n 0, 1), (0, 0, 0, 0)),
  (1, (.invokevirtual 37, 3), (7, 0, 0, 0)),
  (4, (.ifCond .eq 20, 3), (0, 0, 0, 0)),
  (7, (.aload_n 0, 1), (0, 0, 0, 0)),
  (8, (.getfield 41, 3), (0, 0, 2, 0)),
  (11, (.iconst 1, 1), (0, 0, 0, 0)),
  (12, (.iload_n 2, 1), (0, 0, 0, 0)),
  (13, (.isub, 1), (0, 0, 0, 0)),
  (14, (.iaload, 1), (0, 0, 0, 0)),
  (15, (.ifCond .ne 7, 3), (0, 0, 0, 0)),
  (18, (.iconst 1, 1), (0, 0, 0, 0)),
  (19, (.goto 4, 3), (0, 0, 0, 0)),
  (22, (.iconst 0, 1), (0, 0, 0, 0)),
  (23, (.ireturn, 1), (0, 0, 0, 0)),
  (24, (.iload_n 1, 1), (0, 0, 0, 0)),
  (25, (.ifCond .gt 5, 3), (0, 0, 0, 0)),
  (28, (.iconst 0, 1), (0, 0, 0, 0)),
  (29, (.ireturn, 1), (0, 0, 0, 0)),
  (30, (.aload_n 0, 1), (0, 0, 0, 0)),
  (31, (.invokevirtual 15, 3), (6, 0, 0, 0)),
  (34, (.iload_n 2, 1), (0, 0, 0, 0)),
  (35, (.if_icmp .ne 7, 3), (0, 0, 0, 0)),
  (38, (.iconst 1, 1), (0, 0, 0, 0)),
  (39, (.goto 4, 3), (0, 0, 0, 0)),
  (42, (.iconst 0, 1), (0, 0, 0, 0)),
  (43, (.istore_n 3, 1), (0, 0, 0, 0)),
  (44, (.aload_n 0, 1), (0, 0, 0, 0)),
  (45, (.invokevirtual 21, 3), (15, 0, 0, 0)),
  (48, (.lstore 4, 2), (0, 0, 0, 0)),
  (50, (.iconst 0, 1), (0, 0, 0, 0)),
  (51, (.istore 6, 2), (0, 0, 0, 0)),
  (53, (.iload 6, 2), (0, 0, 0, 0)),
  (55, (.iconst 4, 1), (0, 0, 0, 0)),
  (56, (.if_icmp .ge 48, 3), (0, 0, 0, 0)),
  (59, (.aload_n 0, 1), (0, 0, 0, 0)),
  (60, (.iload 6, 2), (0, 0, 0, 0)),
  (62, (.invokevirtual 25, 3), (11, 1, 0, 0)),
  (65, (.ifCond .eq 33, 3), (0, 0, 0, 0)),
  (68, (.aload_n 0, 1), (0, 0, 0, 0)),
  (69, (.iload 6, 2), (0, 0, 0, 0)),
  (71, (.invokevirtual 29, 3), (13, 1, 0, 0)),
  (74, (.aload_n 0, 1), (0, 0, 0, 0)),
  (75, (.iload_n 1, 1), (0, 0, 0, 0)),
  (76, (.iconst 1, 1), (0, 0, 0, 0)),
  (77, (.isub, 1), (0, 0, 0, 0)),
  (78, (.iload_n 2, 1), (0, 0, 0, 0)),
  (79, (.invokestatic 54, 3), (84, 3, 0, 0)),
  (82, (.istore 7, 2), (0, 0, 0, 0)),
  (84, (.aload_n 0, 1), (0, 0, 0, 0)),
  (85, (.lload 4, 2), (0, 0, 0, 0)),
  (87, (.invokevirtual 33, 3), (16, 1, 0, 0)),
  (90, (.iload 7, 2), (0, 0, 0, 0)),
  (92, (.iload_n 3, 1), (0, 0, 0, 0)),
  (93, (.if_icmp .ne 5, 3), (0, 0, 0, 0)),
  (96, (.iload_n 3, 1), (0, 0, 0, 0)),
  (97, (.ireturn, 1), (0, 0, 0, 0)),
  (98, (.iinc 6 1, 3), (0, 0, 0, 0)),
  (101, (.goto (-48), 3), (0, 0, 0, 0)),
  (104, (.iload_n 3, 1), (0, 0, 0, 0)),
  (105, (.ifCond .ne 7, 3), (0, 0, 0, 0)),
  (108, (.iconst 1, 1), (0, 0, 0, 0)),
  (109, (.goto 4, 3), (0, 0, 0, 0)),
  (112, (.iconst 0, 1), (0, 0, 0, 0)),
  (113, (.ireturn, 1), (0, 0, 0, 0))]
noncomputable def tb_85 : List TE := [ -- X7_init
  (0, (.aload_n 0, 1), (0, 0, 0, 0)),
  (1, (.invokespecial 3, 3), (6, 0, 0, 1)),
  (4, (.aload_n 0, 1), (0, 0, 0, 0)),
  (5, (.aload_n 1, 1), (0, 0, 0, 0)),
  (6, (.putfield 9, 3), (6, 0, 2, 0)),
  (9, (.aload_n 0, 1), (0, 0, 0, 0)),
  (10, (.sipush 901, 3), (0, 0, 0, 0)),
  (13, (.newarray .byte, 2), (22, 0, 0, 0)),
  (15, (.putfield 15, 3), (6, 2, 2, 0)),
  (18, (.aload_n 0, 1), (0, 0, 0, 0)),
  (19, (.sipush 901, 3), (0, 0, 0, 0)),
  (22, (.newarray .short, 2), (23, 0, 0, 0)),
  (24, (.putfield 18, 3), (6, 3, 2, 0)),
  (27, (.aload_n 0, 1), (0, 0, 0, 0)),
  (28, (.sipush 901, 3), (0, 0, 0, 0)),
  (31, (.newarray .long, 2), (21, 0, 0, 0)),
  (33, (.putfield 22, 3), (6, 4, 2, 0)),
  (36, (.aload_n 0, 1), (0, 0, 0, 0)),
  (37, (.bipush 26, 2), (0, 0, 0, 0)),
  (39, (.newarray .long, 2), (21, 0, 0, 0)),
  (41, (.putfield 26, 3), (6, 1, 2, 0)),
  (44, (.iconst 0, 1), (0, 0, 0, 0)),
  (45, (.istore_n 2, 1), (0, 0, 0, 0)),
  (46, (.iconst 0, 1), (0, 0, 0, 0)),
  (47, (.istore_n 3, 1), (0, 0, 0, 0)),
  (48, (.iload_n 3, 1), (0, 0, 0, 0)),
  (49, (.ldc 29, 2), (1, 0, 0, (-8))),
  (51, (.invokevirtual 31, 3), (343, 0, 40, 0)),
  (54, (.if_icmp .ge 55, 3), (0, 0, 0, 0)),
  (57, (.iload_n 2, 1), (0, 0, 0, 0)),
  (58, (.bipush 26, 2), (0, 0, 0, 0)),
  (60, (.if_icmp .ge 49, 3), (0, 0, 0, 0)),
  (63, (.ldc 29, 2), (1, 0, 0, (-8))),
  (65, (.iload_n 3, 1), (0, 0, 0, 0)),
  (66, (.invokevirtual 37, 3), (344, 1, 40, 0)),
  (69, (.istore 4, 2), (0, 0, 0, 0)),
  (71, (.iload 4, 2), (0, 0, 0, 0)),
  (73, (.bipush 32, 2), (0, 0, 0, 0)),
  (75, (.if_icmp .ne 9, 3), (0, 0, 0, 0)),
  (78, (.iinc 2 1, 3), (0, 0, 0, 0)),
  (81, (.goto 22, 3), (0, 0, 0, 0)),
  (84, (.aload_n 0, 1), (0, 0, 0, 0)),
  (85, (.getfield 26, 3), (6, 1, 2, 0)),
  (88, (.iload_n 2, 1), (0, 0, 0, 0)),
  (89, (.aload_n 0, 1), (0, 0, 0, 0)),
  (90, (.getfield 26, 3), (6, 1, 2, 0)),
  (93, (.iload_n 2, 1), (0, 0, 0, 0)),
  (94, (.laload, 1), (0, 0, 0, 0)),
  (95, (.bipush 8, 2), (0, 0, 0, 0)),
  (97, (.lshl, 1), (0, 0, 0, 0)),
  (98, (.iload 4, 2), (0, 0, 0, 0)),
  (100, (.i2l, 1), (0, 0, 0, 0)),
  (101, (.lor, 1), (0, 0, 0, 0)),
  (102, (.lastore, 1), (0, 0, 0, 0)),
  (103, (.iinc 3 1, 3), (0, 0, 0, 0)),
  (106, (.goto (-58), 3), (0, 0, 0, 0)),
  (109, (.return_, 1), (0, 0, 0, 0))]
noncomputable def tb_86 : List TE := [ -- X7_split
  (0, (.aload_n 0, 1), (0, 0, 0, 0)),
  (1, (.iload_n 1, 1), (0, 0, 0, 0)),
  (2, (.sipush 900, 3), (0, 0, 0, 0)),
  (5, (.if_icmp .ge 7, 3), (0, 0, 0, 0)),
  (8, (.iload_n 1, 1), (0, 0, 0, 0)),
  (9, (.goto 6, 3), (0, 0, 0, 0)),
  (12, (.sipush 900, 3), (0, 0, 0, 0)),
  (15, (.putfield 41, 3), (6, 5, 0, 0)),
  (18, (.aload_n 0, 1), (0, 0, 0, 0)),
  (19, (.iconst 0, 1), (0, 0, 0, 0)),
  (20, (.putfield 44, 3), (6, 6, 0, 0)),
  (23, (.aload_n 0, 1), (0, 0, 0, 0)),
  (24, (.iconst 0, 1), (0, 0, 0, 0)),
  (25, (.putfield 47, 3), (6, 7, 0, 0)),
  (28, (.aload_n 0, 1), (0, 0, 0, 0)),
  (29, (.iconst 0, 1), (0, 0, 0, 0)),
  (30, (.putfield 50, 3), (6, 12, 0, 0)),
  (33, (.aload_n 0, 1), (0, 0, 0, 0)),
  (34, (.iconst (-1), 1), (0, 0, 0, 0)),
  (35, (.putfield 53, 3), (6, 13, 0, 0)),
  (38, (.iconst 0, 1), (0, 0, 0, 0)),
  (39, (.istore_n 2, 1), (0, 0, 0, 0)),
  (40, (.iload_n 2, 1), (0, 0, 0, 0)),
  (41, (.aload_n 0, 1), (0, 0, 0, 0)),
  (42, (.getfield 41, 3), (6, 5, 0, 0)),
  (45, (.if_icmp .ge 44, 3), (0, 0, 0, 0)),
  (48, (.aload_n 0, 1), (0, 0, 0, 0)),
  (49, (.getfield 9, 3), (6, 0, 2, 0)),
  (52, (.iload_n 2, 1), (0, 0, 0, 0)),
  (53, (.baload, 1), (0, 0, 0, 0)),
  (54, (.invokestatic 56, 3), (99, 1, 0, 0)),
  (57, (.ifCond .eq 9, 3), (0, 0, 0, 0)),
  (60, (.iload_n 2, 1), (0, 0, 0, 0)),
  (61, (.iconst 1, 1), (0, 0, 0, 0)),
  (62, (.iadd, 1), (0, 0, 0, 0)),
  (63, (.goto 8, 3), (0, 0, 0, 0)),
  (66, (.aload_n 0, 1), (0, 0, 0, 0)),
  (67, (.iload_n 2, 1), (0, 0, 0, 0)),
  (68, (.invokevirtual 60, 3), (87, 1, 6, 0)),
  (71, (.istore_n 3, 1), (0, 0, 0, 0)),
  (72, (.iload_n 3, 1), (0, 0, 0, 0)),
  (73, (.iload_n 2, 1), (0, 0, 0, 0)),
  (74, (.if_icmp .le 7, 3), (0, 0, 0, 0)),
  (77, (.iload_n 3, 1), (0, 0, 0, 0)),
  (78, (.goto 7, 3), (0, 0, 0, 0)),
  (81, (.aload_n 0, 1), (0, 0, 0, 0)),
  (82, (.getfield 41, 3), (6, 5, 0, 0)),
  (85, (.istore_n 2, 1), (0, 0, 0, 0)),
  (86, (.goto (-46), 3), (0, 0, 0, 0)),
  (89, (.aload_n 0, 1), (0, 0, 0, 0)),
  (90, (.getfield 15, 3), (6, 2, 2, 0)),
  (93, (.aload_n 0, 1), (0, 0, 0, 0)),
  (94, (.getfield 44, 3), (6, 6, 0, 0)),
  (97, (.iconst 0, 1), (0, 0, 0, 0)),
  (98, (.bastore, 1), (0, 0, 0, 0)),
  (99, (.aload_n 0, 1), (0, 0, 0, 0)),
  (100, (.getfield 18, 3), (6, 3, 2, 0)),
  (103, (.aload_n 0, 1), (0, 0, 0, 0)),
  (104, (.getfield 44, 3), (6, 6, 0, 0)),
  (107, (.aload_n 0, 1), (0, 0, 0, 0)),
  (108, (.getfield 41, 3), (6, 5, 0, 0)),
  (111, (.i2s, 1), (0, 0, 0, 0)),
  (112, (.sastore, 1), (0, 0, 0, 0)),
  (113, (.aload_n 0, 1), (0, 0, 0, 0)),
  (114, (.getfield 22, 3), (6, 4, 2, 0)),
  (117, (.aload_n 0, 1), (0, 0, 0, 0)),
  (118, (.getfield 44, 3), (6, 6, 0, 0)),
  (121, (.lconst 0, 1), (0, 0, 0, 0)),
  (122, (.lastore, 1), (0, 0, 0, 0)),
  (123, (.return_, 1), (0, 0, 0, 0))]
noncomputable def tb_87 : List TE := [ -- X7_splitOne
  (0, (.aload_n 0, 1), (0, 0, 0, 0)),
  (1, (.getfield 9, 3), (6, 0, 2, 0)),
  (4, (.iload_n 1, 1), (0, 0, 0, 0)),
  (5, (.baload, 1), (0, 0, 0, 0)),
  (6, (.istore_n 2, 1), (0, 0, 0, 0)),
  (7, (.iload_n 2, 1), (0, 0, 0, 0)),
  (8, (.invokestatic 64, 3), (100, 1, 0, 0)),
  (11, (.ifCond .eq 11, 3), (0, 0, 0, 0)),
  (14, (.aload_n 0, 1), (0, 0, 0, 0)),
  (15, (.iload_n 1, 1), (0, 0, 0, 0)),
  (16, (.invokevirtual 67, 3), (88, 1, 6, 0)),
  (19, (.goto 21, 3), (0, 0, 0, 0)),
  (22, (.iload_n 2, 1), (0, 0, 0, 0)),
  (23, (.invokestatic 70, 3), (101, 1, 0, 0)),
  (26, (.ifCond .eq 11, 3), (0, 0, 0, 0)),
  (29, (.aload_n 0, 1), (0, 0, 0, 0)),
  (30, (.iload_n 1, 1), (0, 0, 0, 0)),
  (31, (.invokevirtual 73, 3), (89, 1, 6, 0)),
  (34, (.goto 6, 3), (0, 0, 0, 0)),
  (37, (.iload_n 1, 1), (0, 0, 0, 0)),
  (38, (.iconst 1, 1), (0, 0, 0, 0)),
  (39, (.iadd, 1), (0, 0, 0, 0)),
  (40, (.istore_n 3, 1), (0, 0, 0, 0)),
  (41, (.iload_n 2, 1), (0, 0, 0, 0)),
  (42, (.bipush 59, 2), (0, 0, 0, 0)),
  (44, (.if_icmp .eq 21, 3), (0, 0, 0, 0)),
  (47, (.iload_n 2, 1), (0, 0, 0, 0)),
  (48, (.bipush 60, 2), (0, 0, 0, 0)),
  (50, (.if_icmp .eq 15, 3), (0, 0, 0, 0)),
  (53, (.iload_n 2, 1), (0, 0, 0, 0)),
  (54, (.bipush 62, 2), (0, 0, 0, 0)),
  (56, (.if_icmp .eq 9, 3), (0, 0, 0, 0)),
  (59, (.iload_n 2, 1), (0, 0, 0, 0)),
  (60, (.bipush 61, 2), (0, 0, 0, 0)),
  (62, (.if_icmp .ne 7, 3), (0, 0, 0, 0)),
  (65, (.iconst 1, 1), (0, 0, 0, 0)),
  (66, (.goto 4, 3), (0, 0, 0, 0)),
  (69, (.iconst 0, 1), (0, 0, 0, 0)),
  (70, (.istore 4, 2), (0, 0, 0, 0)),
  (72, (.aload_n 0, 1), (0, 0, 0, 0)),
  (73, (.getfield 18, 3), (6, 3, 2, 0)),
  (76, (.aload_n 0, 1), (0, 0, 0, 0)),
  (77, (.getfield 44, 3), (6, 6, 0, 0)),
  (80, (.iload_n 1, 1), (0, 0, 0, 0)),
  (81, (.i2s, 1), (0, 0, 0, 0)),
  (82, (.sastore, 1), (0, 0, 0, 0)),
  (83, (.iload_n 2, 1), (0, 0, 0, 0)),
  (84, (.invokestatic 64, 3), (100, 1, 0, 0)),
  (87, (.ifCond .eq 43, 3), (0, 0, 0, 0)),
  (90, (.aload_n 0, 1), (0, 0, 0, 0)),
  (91, (.getfield 15, 3), (6, 2, 2, 0)),
  (94, (.aload_n 0, 1), (0, 0, 0, 0)),
  (95, (.getfield 44, 3), (6, 6, 0, 0)),
  (98, (.iconst 1, 1), (0, 0, 0, 0)),
  (99, (.bastore, 1), (0, 0, 0, 0)),
  (100, (.aload_n 0, 1), (0, 0, 0, 0)),
  (101, (.getfield 22, 3), (6, 4, 2, 0)),
  (104, (.aload_n 0, 1), (0, 0, 0, 0)),
  (105, (.getfield 44, 3), (6, 6, 0, 0)),
  (108, (.iload_n 3, 1), (0, 0, 0, 0)),
  (109, (.iload_n 1, 1), (0, 0, 0, 0)),
  (110, (.isub, 1), (0, 0, 0, 0)),
  (111, (.bipush 8, 2), (0, 0, 0, 0)),
  (113, (.if_icmp .le 7, 3), (0, 0, 0, 0)),
  (116, (.lconst 0, 1), (0, 0, 0, 0)),
  (117, (.goto 9, 3), (0, 0, 0, 0)),
  (120, (.aload_n 0, 1), (0, 0, 0, 0)),
  (121, (.iload_n 1, 1), (0, 0, 0, 0)),
  (122, (.iload_n 3, 1), (0, 0, 0, 0)),
  (123, (.invokevirtual 76, 3), (90, 2, 6, 0)),
  (126, (.lastore, 1), (0, 0, 0, 0)),
  (127, (.goto 76, 3), (0, 0, 0, 0)),
  (130, (.iload_n 2, 1), (0, 0, 0, 0)),
  (131, (.invokestatic 70, 3), (101, 1, 0, 0)),
  (134, (.ifCond .eq 39, 3), (0, 0, 0, 0)),
  (137, (.iload_n 3, 1), (0, 0, 0, 0)),
  (138, (.iload_n 1, 1), (0, 0, 0, 0)),
  (139, (.isub, 1), (0, 0, 0, 0)),
  (140, (.iconst 4, 1), (0, 0, 0, 0)),
  (141, (.if_icmp .gt 32, 3), (0, 0, 0, 0)),
  (144, (.aload_n 0, 1), (0, 0, 0, 0)),
  (145, (.getfield 15, 3), (6, 2, 2, 0)),
  (148, (.aload_n 0, 1), (0, 0, 0, 0)),
  (149, (.getfield 44, 3), (6, 6, 0, 0)),
  (152, (.iconst 2, 1), (0, 0, 0, 0)),
  (153, (.bastore, 1), (0, 0, 0, 0)),
  (154, (.aload_n 0, 1), (0, 0, 0, 0)),
  (155, (.getfield 22, 3), (6, 4, 2, 0)),
  (158, (.aload_n 0, 1), (0, 0, 0, 0)),
  (159, (.getfield 44, 3), (6, 6, 0, 0)),
  (162, (.aload_n 0, 1), (0, 0, 0, 0)),
  (163, (.iload_n 1, 1), (0, 0, 0, 0)),
  (164, (.iload_n 3, 1), (0, 0, 0, 0)),
  (165, (.invokevirtual 80, 3), (91, 2, 6, 0)),
  (168, (.i2l, 1), (0, 0, 0, 0)),
  (169, (.lastore, 1), (0, 0, 0, 0)),
  (170, (.goto 33, 3), (0, 0, 0, 0)),
  (173, (.aload_n 0, 1), (0, 0, 0, 0)),
  (174, (.getfield 15, 3), (6, 2, 2, 0)),
  (177, (.aload_n 0, 1), (0, 0, 0, 0)),
  (178, (.getfield 44, 3), (6, 6, 0, 0)),
  (181, (.iload 4, 2), (0, 0, 0, 0)),
  (183, (.ifCond .eq 7, 3), (0, 0, 0, 0)),
  (186, (.iconst 3, 1), (0, 0, 0, 0)),
  (187, (.goto 4, 3), (0, 0, 0, 0)),
  (190, (.iconst 4, 1), (0, 0, 0, 0)),
  (191, (.bastore, 1), (0, 0, 0, 0)),
  (192, (.aload_n 0, 1), (0, 0, 0, 0)),
  (193, (.getfield 22, 3), (6, 4, 2, 0)),
  (196, (.aload_n 0, 1), (0, 0, 0, 0)),
  (197, (.getfield 44, 3), (6, 6, 0, 0)),
  (200, (.iload_n 2, 1), (0, 0, 0, 0)),
  (201, (.i2l, 1), (0, 0, 0, 0)),
  (202, (.lastore, 1), (0, 0, 0, 0)),
  (203, (.aload_n 0, 1), (0, 0, 0, 0)),
  (204, (.dup, 1), (0, 0, 0, 0)),
  (205, (.getfield 44, 3), (6, 6, 0, 0)),
  (208, (.iconst 1, 1), (0, 0, 0, 0)),
  (209, (.iadd, 1), (0, 0, 0, 0)),
  (210, (.putfield 44, 3), (6, 6, 0, 0)),
  (213, (.aload_n 0, 1), (0, 0, 0, 0)),
  (214, (.getfield 15, 3), (6, 2, 2, 0)),
  (217, (.aload_n 0, 1), (0, 0, 0, 0)),
  (218, (.getfield 44, 3), (6, 6, 0, 0)),
  (221, (.iconst 1, 1), (0, 0, 0, 0)),
  (222, (.isub, 1), (0, 0, 0, 0)),
  (223, (.baload, 1), (0, 0, 0, 0)),
  (224, (.iconst 4, 1), (0, 0, 0, 0)),
  (225, (.if_icmp .ne 7, 3), (0, 0, 0, 0)),
  (228, (.iload_n 1, 1), (0, 0, 0, 0)),
  (229, (.goto 4, 3), (0, 0, 0, 0)),
  (232, (.iload_n 3, 1), (0, 0, 0, 0)),
  (233, (.ireturn, 1), (0, 0, 0, 0))]
noncomputable def tb_88 : List TE := [ -- X7_endOfWord
  (0, (.iload_n 1, 1), (0, 0, 0, 0)),
  (1, (.istore_n 2, 1), (0, 0, 0, 0)),
  (2, (.iload_n 2, 1), (0, 0, 0, 0)),
  (3, (.aload_n 0, 1), (0, 0, 0, 0)),
  (4, (.getfield 41, 3), (6, 5, 0, 0)),
  (7, (.if_icmp .ge 21, 3), (0, 0, 0, 0)),
  (10, (.aload_n 0, 1), (0, 0, 0, 0)),
  (11, (.getfield 9, 3), (6, 0, 2, 0)),
  (14, (.iload_n 2, 1), (0, 0, 0, 0)),
  (15, (.baload, 1), (0, 0, 0, 0)),
  (16, (.invokestatic 64, 3), (100, 1, 0, 0)),
  (19, (.ifCond .eq 9, 3), (0, 0, 0, 0)),
  (22, (.iinc 2 1, 3), (0, 0, 0, 0)),
  (25, (.goto (-23), 3), (0, 0, 0, 0)),
  (28, (.iload_n 2, 1), (0, 0, 0, 0)),
  (29, (.ireturn, 1), (0, 0, 0, 0))]
noncomputable def tb_89 : List TE := [ -- X7_endOfNumber
  (0, (.iload_n 1, 1), (0, 0, 0, 0)),
  (1, (.istore_n 2, 1), (0, 0, 0, 0)),
  (2, (.iload_n 2, 1), (0, 0, 0, 0)),
  (3, (.aload_n 0, 1), (0, 0, 0, 0)),
  (4, (.getfield 41, 3), (6, 5, 0, 0)),
  (7, (.if_icmp .ge 21, 3), (0, 0, 0, 0)),
  (10, (.aload_n 0, 1), (0, 0, 0, 0)),
  (11, (.getfield 9, 3), (6, 0, 2, 0)),
  (14, (.iload_n 2, 1), (0, 0, 0, 0)),
  (15, (.baload, 1), (0, 0, 0, 0)),
  (16, (.invokestatic 70, 3), (101, 1, 0, 0)),
  (19, (.ifCond .eq 9, 3), (0, 0, 0, 0)),
  (22, (.iinc 2 1, 3), (0, 0, 0, 0)),
  (25, (.goto (-23), 3), (0, 0, 0, 0)),
  (28, (.iload_n 2, 1), (0, 0, 0, 0)),
  (29, (.ireturn, 1), (0, 0, 0, 0))]
noncomputable def tb_90 : List TE := [ -- X7_lettersOf
  (0, (.lconst 0, 1), (0, 0, 0, 0)),
  (1, (.lstore_n 3, 1), (0, 0, 0, 0)),
  (2, (.iload_n 1, 1), (0, 0, 0, 0)),
  (3, (.istore 5, 2), (0, 0, 0, 0)),
  (5, (.iload 5, 2), (0, 0, 0, 0)),
  (7, (.iload_n 2, 1), (0, 0, 0, 0)),
  (8, (.if_icmp .ge 23, 3), (0, 0, 0, 0)),
  (11, (.lload_n 3, 1), (0, 0, 0, 0)),
  (12, (.bipush 8, 2), (0, 0, 0, 0)),
  (14, (.lshl, 1), (0, 0, 0, 0)),
  (15, (.aload_n 0, 1), (0, 0, 0, 0)),
  (16, (.getfield 9, 3), (6, 0, 2, 0)),
  (19, (.iload 5, 2), (0, 0, 0, 0)),
  (21, (.baload, 1), (0, 0, 0, 0)),
  (22, (.i2l, 1), (0, 0, 0, 0)),
  (23, (.lor, 1), (0, 0, 0, 0)),
  (24, (.lstore_n 3, 1), (0, 0, 0, 0)),
  (25, (.iinc 5 1, 3), (0, 0, 0, 0)),
  (28, (.goto (-23), 3), (0, 0, 0, 0)),
  (31, (.lload_n 3, 1), (0, 0, 0, 0)),
  (32, (.lreturn, 1), (0, 0, 0, 0))]
noncomputable def tb_91 : List TE := [ -- X7_numberOf
  (0, (.iconst 0, 1), (0, 0, 0, 0)),
  (1, (.istore_n 3, 1), (0, 0, 0, 0)),
  (2, (.iload_n 1, 1), (0, 0, 0, 0)),
  (3, (.istore 4, 2), (0, 0, 0, 0)),
  (5, (.iload 4, 2), (0, 0, 0, 0)),
  (7, (.iload_n 2, 1), (0, 0, 0, 0)),
  (8, (.if_icmp .ge 25, 3), (0, 0, 0, 0)),
  (11, (.iload_n 3, 1), (0, 0, 0, 0)),
  (12, (.bipush 10, 2), (0, 0, 0, 0)),
  (14, (.imul, 1), (0, 0, 0, 0)),
  (15, (.aload_n 0, 1), (0, 0, 0, 0)),
  (16, (.getfield 9, 3), (6, 0, 2, 0)),
  (19, (.iload 4, 2), (0, 0, 0, 0)),
  (21, (.baload, 1), (0, 0, 0, 0)),
  (22, (.bipush 48, 2), (0, 0, 0, 0)),
  (24, (.isub, 1), (0, 0, 0, 0)),
  (25, (.iadd, 1), (0, 0, 0, 0)),
  (26, (.istore_n 3, 1), (0, 0, 0, 0)),
  (27, (.iinc 4 1, 3), (0, 0, 0, 0)),
  (30, (.goto (-25), 3), (0, 0, 0, 0)),
  (33, (.iload_n 3, 1), (0, 0, 0, 0)),
  (34, (.ireturn, 1), (0, 0, 0, 0))]
noncomputable def tb_92 : List TE := [ -- X7_advance
  (0, (.aload_n 0, 1), (0, 0, 0, 0)),
  (1, (.getfield 47, 3), (6, 7, 0, 0)),
  (4, (.aload_n 0, 1), (0, 0, 0, 0)),
  (5, (.getfield 44, 3), (6, 6, 0, 0)),
  (8, (.if_icmp .ge 10, 3), (0, 0, 0, 0)),
  (11, (.aload_n 0, 1), (0, 0, 0, 0)),
  (12, (.getfield 47, 3), (6, 7, 0, 0)),
  (15, (.goto 7, 3), (0, 0, 0, 0)),
  (18, (.aload_n 0, 1), (0, 0, 0, 0)),
  (19, (.getfield 44, 3), (6, 6, 0, 0)),
  (22, (.istore_n 1, 1), (0, 0, 0, 0)),
  (23, (.aload_n 0, 1), (0, 0, 0, 0)),
  (24, (.aload_n 0, 1), (0, 0, 0, 0)),
  (25, (.getfield 15, 3), (6, 2, 2, 0)),
  (28, (.iload_n 1, 1), (0, 0, 0, 0)),
  (29, (.baload, 1), (0, 0, 0, 0)),
  (30, (.putfield 84, 3), (6, 9, 0, 0)),
  (33, (.aload_n 0, 1), (0, 0, 0, 0)),
  (34, (.aload_n 0, 1), (0, 0, 0, 0)),
  (35, (.getfield 22, 3), (6, 4, 2, 0)),
  (38, (.iload_n 1, 1), (0, 0, 0, 0)),
  (39, (.laload, 1), (0, 0, 0, 0)),
  (40, (.putfield 87, 3), (6, 11, 1, 0)),
  (43, (.aload_n 0, 1), (0, 0, 0, 0)),
  (44, (.aload_n 0, 1), (0, 0, 0, 0)),
  (45, (.getfield 18, 3), (6, 3, 2, 0)),
  (48, (.iload_n 1, 1), (0, 0, 0, 0)),
  (49, (.saload, 1), (0, 0, 0, 0)),
  (50, (.putfield 91, 3), (6, 8, 0, 0)),
  (53, (.aload_n 0, 1), (0, 0, 0, 0)),
  (54, (.iconst (-1), 1), (0, 0, 0, 0)),
  (55, (.putfield 94, 3), (6, 10, 0, 0)),
  (58, (.iconst 0, 1), (0, 0, 0, 0)),
  (59, (.istore_n 2, 1), (0, 0, 0, 0)),
  (60, (.aload_n 0, 1), (0, 0, 0, 0)),
  (61, (.getfield 84, 3), (6, 9, 0, 0)),
  (64, (.iconst 1, 1), (0, 0, 0, 0)),
  (65, (.if_icmp .ne 34, 3), (0, 0, 0, 0)),
  (68, (.iload_n 2, 1), (0, 0, 0, 0)),
  (69, (.bipush 26, 2), (0, 0, 0, 0)),
  (71, (.if_icmp .ge 28, 3), (0, 0, 0, 0)),
  (74, (.aload_n 0, 1), (0, 0, 0, 0)),
  (75, (.getfield 26, 3), (6, 1, 2, 0)),
  (78, (.iload_n 2, 1), (0, 0, 0, 0)),
  (79, (.laload, 1), (0, 0, 0, 0)),
  (80, (.aload_n 0, 1), (0, 0, 0, 0)),
  (81, (.getfield 87, 3), (6, 11, 1, 0)),
  (84, (.lcmp, 1), (0, 0, 0, 0)),
  (85, (.ifCond .ne 8, 3), (0, 0, 0, 0)),
  (88, (.aload_n 0, 1), (0, 0, 0, 0)),
  (89, (.iload_n 2, 1), (0, 0, 0, 0)),
  (90, (.putfield 94, 3), (6, 10, 0, 0)),
  (93, (.iinc 2 1, 3), (0, 0, 0, 0)),
  (96, (.goto (-36), 3), (0, 0, 0, 0)),
  (99, (.aload_n 0, 1), (0, 0, 0, 0)),
  (100, (.iload_n 1, 1), (0, 0, 0, 0)),
  (101, (.iconst 1, 1), (0, 0, 0, 0)),
  (102, (.iadd, 1), (0, 0, 0, 0)),
  (103, (.putfield 47, 3), (6, 7, 0, 0)),
  (106, (.return_, 1), (0, 0, 0, 0))]
noncomputable def tb_93 : List TE := [ -- X7_fails
  (0, (.aload_n 0, 1), (0, 0, 0, 0)),
  (1, (.aload_n 0, 1), (0, 0, 0, 0)),
  (2, (.getfield 84, 3), (6, 9, 0, 0)),
  (5, (.iconst 4, 1), (0, 0, 0, 0)),
  (6, (.if_icmp .ne 7, 3), (0, 0, 0, 0)),
  (9, (.iconst 1, 1), (0, 0, 0, 0)),
  (10, (.goto 4, 3), (0, 0, 0, 0)),
  (13, (.iload_n 1, 1), (0, 0, 0, 0)),
  (14, (.putfield 50, 3), (6, 12, 0, 0)),
  (17, (.aload_n 0, 1), (0, 0, 0, 0)),
  (18, (.aload_n 0, 1), (0, 0, 0, 0)),
  (19, (.getfield 91, 3), (6, 8, 0, 0)),
  (22, (.putfield 53, 3), (6, 13, 0, 0)),
  (25, (.iconst 0, 1), (0, 0, 0, 0)),
  (26, (.ireturn, 1), (0, 0, 0, 0))]
noncomputable def tb_94 : List TE := [ -- X7_isSign
  (0, (.aload_n 0, 1), (0, 0, 0, 0)),
  (1, (.getfield 84, 3), (6, 9, 0, 0)),
  (4, (.iconst 3, 1), (0, 0, 0, 0)),
  (5, (.if_icmp .ne 17, 3), (0, 0, 0, 0)),
  (8, (.aload_n 0, 1), (0, 0, 0, 0)),
  (9, (.getfield 87, 3), (6, 11, 1, 0)),
  (12, (.iload_n 1, 1), (0, 0, 0, 0)),
  (13, (.i2l, 1), (0, 0, 0, 0)),
  (14, (.lcmp, 1), (0, 0, 0, 0)),
  (15, (.ifCond .ne 7, 3), (0, 0, 0, 0)),
  (18, (.iconst 1, 1), (0, 0, 0, 0)),
  (19, (.goto 4, 3), (0, 0, 0, 0)),
  (22, (.iconst 0, 1), (0, 0, 0, 0)),
  (23, (.ireturn, 1), (0, 0, 0, 0))]
noncomputable def tb_95 : List TE := [ -- X7_wantsStop
  (0, (.aload_n 0, 1), (0, 0, 0, 0)),
  (1, (.invokevirtual 97, 3), (92, 0, 6, 0)),
  (4, (.aload_n 0, 1), (0, 0, 0, 0)),
  (5, (.bipush 59, 2), (0, 0, 0, 0)),
  (7, (.invokevirtual 100, 3), (94, 1, 6, 0)),
  (10, (.ifCond .ne 11, 3), (0, 0, 0, 0)),
  (13, (.aload_n 0, 1), (0, 0, 0, 0)),
  (14, (.iconst 2, 1), (0, 0, 0, 0)),
  (15, (.invokevirtual 103, 3), (93, 1, 6, 0)),
  (18, (.ifCond .eq 7, 3), (0, 0, 0, 0)),
  (21, (.iconst 1, 1), (0, 0, 0, 0)),
  (22, (.goto 4, 3), (0, 0, 0, 0)),
  (25, (.iconst 0, 1), (0, 0, 0, 0)),
  (26, (.ireturn, 1), (0, 0, 0, 0))]
noncomputable def tb_96 : List TE := [ -- X7_wantsWord
  (0, (.aload_n 0, 1), (0, 0, 0, 0)),
  (1, (.invokevirtual 97, 3), (92, 0, 6, 0)),
  (4, (.aload_n 0, 1), (0, 0, 0, 0)),
  (5, (.getfield 94, 3), (6, 10, 0, 0)),
  (8, (.iload_n 1, 1), (0, 0, 0, 0)),
  (9, (.if_icmp .eq 11, 3), (0, 0, 0, 0)),
  (12, (.aload_n 0, 1), (0, 0, 0, 0)),
  (13, (.iconst 2, 1), (0, 0, 0, 0)),
  (14, (.invokevirtual 103, 3), (93, 1, 6, 0)),
  (17, (.ifCond .eq 7, 3), (0, 0, 0, 0)),
  (20, (.iconst 1, 1), (0, 0, 0, 0)),
  (21, (.goto 4, 3), (0, 0, 0, 0)),
  (24, (.iconst 0, 1), (0, 0, 0, 0)),
  (25, (.ireturn, 1), (0, 0, 0, 0))]
noncomputable def tb_97 : List TE := [ -- X7_wantsNumber
  (0, (.aload_n 0, 1), (0, 0, 0, 0)),
  (1, (.invokevirtual 97, 3), (92, 0, 6, 0)),
  (4, (.aload_n 0, 1), (0, 0, 0, 0)),
  (5, (.getfield 84, 3), (6, 9, 0, 0)),
  (8, (.iconst 2, 1), (0, 0, 0, 0)),
  (9, (.if_icmp .ne 29, 3), (0, 0, 0, 0)),
  (12, (.aload_n 0, 1), (0, 0, 0, 0)),
  (13, (.getfield 87, 3), (6, 11, 1, 0)),
  (16, (.iload_n 1, 1), (0, 0, 0, 0)),
  (17, (.i2l, 1), (0, 0, 0, 0)),
  (18, (.lcmp, 1), (0, 0, 0, 0)),
  (19, (.ifCond .lt 19, 3), (0, 0, 0, 0)),
  (22, (.aload_n 0, 1), (0, 0, 0, 0)),
  (23, (.getfield 87, 3), (6, 11, 1, 0)),
  (26, (.iload_n 2, 1), (0, 0, 0, 0)),
  (27, (.i2l, 1), (0, 0, 0, 0)),
  (28, (.lcmp, 1), (0, 0, 0, 0)),
  (29, (.ifCond .gt 9, 3), (0, 0, 0, 0)),
  (32, (.aload_n 0, 1), (0, 0, 0, 0)),
  (33, (.getfield 87, 3), (6, 11, 1, 0)),
  (36, (.l2i, 1), (0, 0, 0, 0)),
  (37, (.ireturn, 1), (0, 0, 0, 0)),
  (38, (.aload_n 0, 1), (0, 0, 0, 0)),
  (39, (.aload_n 0, 1), (0, 0, 0, 0)),
  (40, (.getfield 84, 3), (6, 9, 0, 0)),
  (43, (.iconst 2, 1), (0, 0, 0, 0)),
  (44, (.if_icmp .ne 7, 3), (0, 0, 0, 0)),
  (47, (.iconst 4, 1), (0, 0, 0, 0)),
  (48, (.goto 4, 3), (0, 0, 0, 0)),
  (51, (.iconst 2, 1), (0, 0, 0, 0)),
  (52, (.invokevirtual 103, 3), (93, 1, 6, 0)),
  (55, (.pop, 1), (0, 0, 0, 0)),
  (56, (.iconst (-1), 1), (0, 0, 0, 0)),
  (57, (.ireturn, 1), (0, 0, 0, 0))]
noncomputable def tb_98 : List TE := [ -- X7_wantsName
  (0, (.aload_n 0, 1), (0, 0, 0, 0)),
  (1, (.invokevirtual 97, 3), (92, 0, 6, 0)),
  (4, (.aload_n 0, 1), (0, 0, 0, 0)),
  (5, (.getfield 84, 3), (6, 9, 0, 0)),
  (8, (.iconst 1, 1), (0, 0, 0, 0)),
  (9, (.if_icmp .ne 20, 3), (0, 0, 0, 0)),
  (12, (.aload_n 0, 1), (0, 0, 0, 0)),
  (13, (.getfield 87, 3), (6, 11, 1, 0)),
  (16, (.lconst 0, 1), (0, 0, 0, 0)),
  (17, (.lcmp, 1), (0, 0, 0, 0)),
  (18, (.ifCond .eq 11, 3), (0, 0, 0, 0)),
  (21, (.aload_n 0, 1), (0, 0, 0, 0)),
  (22, (.getfield 94, 3), (6, 10, 0, 0)),
  (25, (.iconst (-1), 1), (0, 0, 0, 0)),
  (26, (.if_icmp .eq 11, 3), (0, 0, 0, 0)),
  (29, (.aload_n 0, 1), (0, 0, 0, 0)),
  (30, (.iconst 2, 1), (0, 0, 0, 0)),
  (31, (.invokevirtual 103, 3), (93, 1, 6, 0)),
  (34, (.ifCond .eq 7, 3), (0, 0, 0, 0)),
  (37, (.iconst 1, 1), (0, 0, 0, 0)),
  (38, (.goto 4, 3), (0, 0, 0, 0)),
  (41, (.iconst 0, 1), (0, 0, 0, 0)),
  (42, (.ireturn, 1), (0, 0, 0, 0))]
noncomputable def tb_99 : List TE := [ -- X7_isBlank
  (0, (.iload_n 0, 1), (0, 0, 0, 0)),
  (1, (.bipush 10, 2), (0, 0, 0, 0)),
  (3, (.if_icmp .eq 9, 3), (0, 0, 0, 0)),
  (6, (.iload_n 0, 1), (0, 0, 0, 0)),
  (7, (.bipush 32, 2), (0, 0, 0, 0)),
  (9, (.if_icmp .ne 7, 3), (0, 0, 0, 0)),
  (12, (.iconst 1, 1), (0, 0, 0, 0)),
  (13, (.goto 4, 3), (0, 0, 0, 0)),
  (16, (.iconst 0, 1), (0, 0, 0, 0)),
  (17, (.ireturn, 1), (0, 0, 0, 0))]
noncomputable def tb_100 : List TE := [ -- X7_isLetter
  (0, (.iload_n 0, 1), (0, 0, 0, 0)),
  (1, (.bipush 97, 2), (0, 0, 0, 0)),
  (3, (.if_icmp .lt 13, 3), (0, 0, 0, 0)),
  (6, (.iload_n 0, 1), (0, 0, 0, 0)),
  (7, (.bipush 122, 2), (0, 0, 0, 0)),
  (9, (.if_icmp .gt 7, 3), (0, 0, 0, 0)),
  (12, (.iconst 1, 1), (0, 0, 0, 0)),
  (13, (.goto 4, 3), (0, 0, 0, 0)),
  (16, (.iconst 0, 1), (0, 0, 0, 0)),
  (17, (.ireturn, 1), (0, 0, 0, 0))]
noncomputable def tb_101 : List TE := [ -- X7_isDigit
  (0, (.iload_n 0, 1), (0, 0, 0, 0)),
  (1, (.bipush 48, 2), (0, 0, 0, 0)),
  (3, (.if_icmp .lt 13, 3), (0, 0, 0, 0)),
  (6, (.iload_n 0, 1), (0, 0, 0, 0)),
  (7, (.bipush 57, 2), (0, 0, 0, 0)),
  (9, (.if_icmp .gt 7, 3), (0, 0, 0, 0)),
  (12, (.iconst 1, 1), (0, 0, 0, 0)),
  (13, (.goto 4, 3), (0, 0, 0, 0)),
  (16, (.iconst 0, 1), (0, 0, 0, 0)),
  (17, (.ireturn, 1), (0, 0, 0, 0))]
noncomputable def tb_102 : List TE := [ -- X8_init
  (0, (.aload_n 0, 1), (0, 0, 0, 0)),
  (1, (.invokespecial 3, 3), (7, 0, 0, 1)),
  (4, (.aload_n 0, 1), (0, 0, 0, 0)),
  (5, (.iconst 4, 1), (0, 0, 0, 0)),
  (6, (.bipush 60, 2), (0, 0, 0, 0)),
  (8, (.multianewarray 11 2, 4), (0, 0, 0, 0)),
  (12, (.putfield 13, 3), (7, 0, 2, 0)),
  (15, (.aload_n 0, 1), (0, 0, 0, 0)),
  (16, (.iconst 4, 1), (0, 0, 0, 0)),
  (17, (.newarray .int, 2), (20, 0, 0, 0)),
  (19, (.putfield 16, 3), (7, 1, 2, 0)),
  (22, (.aload_n 0, 1), (0, 0, 0, 0)),
  (23, (.iconst 4, 1), (0, 0, 0, 0)),
  (24, (.newarray .int, 2), (20, 0, 0, 0)),
  (26, (.putfield 20, 3), (7, 2, 2, 0)),
  (29, (.iconst 0, 1), (0, 0, 0, 0)),
  (30, (.istore_n 1, 1), (0, 0, 0, 0)),
  (31, (.iload_n 1, 1), (0, 0, 0, 0)),
  (32, (.iconst 4, 1), (0, 0, 0, 0)),
  (33, (.if_icmp .ge 16, 3), (0, 0, 0, 0)),
  (36, (.aload_n 0, 1), (0, 0, 0, 0)),
  (37, (.getfield 16, 3), (7, 1, 2, 0)),
  (40, (.iload_n 1, 1), (0, 0, 0, 0)),
  (41, (.iconst (-1), 1), (0, 0, 0, 0)),
  (42, (.iastore, 1), (0, 0, 0, 0)),
  (43, (.iinc 1 1, 3), (0, 0, 0, 0)),
  (46, (.goto (-15), 3), (0, 0, 0, 0)),
  (49, (.return_, 1), (0, 0, 0, 0))]
noncomputable def tb_103 : List TE := [ -- X8_isTray
  (0, (.iload_n 1, 1), (0, 0, 0, 0)),
  (1, (.ifCond .lt 12, 3), (0, 0, 0, 0)),
  (4, (.iload_n 1, 1), (0, 0, 0, 0)),
  (5, (.iconst 4, 1), (0, 0, 0, 0)),
  (6, (.if_icmp .ge 7, 3), (0, 0, 0, 0)),
  (9, (.iconst 1, 1), (0, 0, 0, 0)),
  (10, (.goto 4, 3), (0, 0, 0, 0)),
  (13, (.iconst 0, 1), (0, 0, 0, 0)),
  (14, (.ireturn, 1), (0, 0, 0, 0))]
noncomputable def tb_104 : List TE := [ -- X8_isMissing
  (0, (.aload_n 0, 1), (0, 0, 0, 0)),
  (1, (.getfield 16, 3), (7, 1, 2, 0)),
  (4, (.iload_n 1, 1), (0, 0, 0, 0)),
  (5, (.iaload, 1), (0, 0, 0, 0)),
  (6, (.iconst (-1), 1), (0, 0, 0, 0)),
  (7, (.if_icmp .ne 7, 3), (0, 0, 0, 0)),
  (10, (.iconst 1, 1), (0, 0, 0, 0)),
  (11, (.goto 4, 3), (0, 0, 0, 0)),
  (14, (.iconst 0, 1), (0, 0, 0, 0)),
  (15, (.ireturn, 1), (0, 0, 0, 0))]
noncomputable def tb_105 : List TE := [ -- X8_areAlike
  (0, (.aload_n 0, 1), (0, 0, 0, 0)),
  (1, (.getfield 16, 3), (7, 1, 2, 0)),
  (4, (.iload_n 1, 1), (0, 0, 0, 0)),
  (5, (.iaload, 1), (0, 0, 0, 0)),
  (6, (.aload_n 0, 1), (0, 0, 0, 0)),
  (7, (.getfield 16, 3), (7, 1, 2, 0)),
  (10, (.iload_n 2, 1), (0, 0, 0, 0)),
  (11, (.iaload, 1), (0, 0, 0, 0)),
  (12, (.if_icmp .ne 7, 3), (0, 0, 0, 0)),
  (15, (.iconst 1, 1), (0, 0, 0, 0)),
  (16, (.goto 4, 3), (0, 0, 0, 0)),
  (19, (.iconst 0, 1), (0, 0, 0, 0)),
  (20, (.ireturn, 1), (0, 0, 0, 0))]
noncomputable def tb_106 : List TE := [ -- X8_hasRun
  (0, (.iload_n 2, 1), (0, 0, 0, 0)),
  (1, (.aload_n 0, 1), (0, 0, 0, 0)),
  (2, (.getfield 20, 3), (7, 2, 2, 0)),
  (5, (.iload_n 1, 1), (0, 0, 0, 0)),
  (6, (.iaload, 1), (0, 0, 0, 0)),
  (7, (.if_icmp .gt 19, 3), (0, 0, 0, 0)),
  (10, (.iload_n 3, 1), (0, 0, 0, 0)),
  (11, (.aload_n 0, 1), (0, 0, 0, 0)),
  (12, (.getfield 20, 3), (7, 2, 2, 0)),
  (15, (.iload_n 1, 1), (0, 0, 0, 0)),
  (16, (.iaload, 1), (0, 0, 0, 0)),
  (17, (.iload_n 2, 1), (0, 0, 0, 0)),
  (18, (.isub, 1), (0, 0, 0, 0)),
  (19, (.if_icmp .gt 7, 3), (0, 0, 0, 0)),
  (22, (.iconst 1, 1), (0, 0, 0, 0)),
  (23, (.goto 4, 3), (0, 0, 0, 0)),
  (26, (.iconst 0, 1), (0, 0, 0, 0)),
  (27, (.ireturn, 1), (0, 0, 0, 0))]
noncomputable def tb_107 : List TE := [ -- X8_whyNot
  (0, (.aload_n 0, 1), (0, 0, 0, 0)),
  (1, (.iload_n 1, 1), (0, 0, 0, 0)),
  (2, (.invokevirtual 23, 3), (103, 1, 7, 0)),
  (5, (.ifCond .ne 5, 3), (0, 0, 0, 0)),
  (8, (.iconst 1, 1), (0, 0, 0, 0)),
  (9, (.ireturn, 1), (0, 0, 0, 0)),
  (10, (.aload_n 0, 1), (0, 0, 0, 0)),
  (11, (.iload_n 1, 1), (0, 0, 0, 0)),
  (12, (.invokevirtual 27, 3), (104, 1, 7, 0)),
  (15, (.ifCond .eq 5, 3), (0, 0, 0, 0)),
  (18, (.iconst 2, 1), (0, 0, 0, 0)),
  (19, (.ireturn, 1), (0, 0, 0, 0)),
  (20, (.iload_n 2, 1), (0, 0, 0, 0)),
  (21, (.ifCond .lt 13, 3), (0, 0, 0, 0)),
  (24, (.iload_n 2, 1), (0, 0, 0, 0)),
  (25, (.aload_n 0, 1), (0, 0, 0, 0)),
  (26, (.getfield 20, 3), (7, 2, 2, 0)),
  (29, (.iload_n 1, 1), (0, 0, 0, 0)),
  (30, (.iaload, 1), (0, 0, 0, 0)),
  (31, (.if_icmp .lt 7, 3), (0, 0, 0, 0)),
  (34, (.iconst 3, 1), (0, 0, 0, 0)),
  (35, (.goto 4, 3), (0, 0, 0, 0)),
  (38, (.iconst 0, 1), (0, 0, 0, 0)),
  (39, (.ireturn, 1), (0, 0, 0, 0))]
noncomputable def tb_108 : List TE := [ -- X8_lay
  (0, (.aload_n 0, 1), (0, 0, 0, 0)),
  (1, (.getfield 16, 3), (7, 1, 2, 0)),
  (4, (.iload_n 1, 1), (0, 0, 0, 0)),
  (5, (.iload_n 2, 1), (0, 0, 0, 0)),
  (6, (.iastore, 1), (0, 0, 0, 0)),
  (7, (.aload_n 0, 1), (0, 0, 0, 0)),
  (8, (.getfield 20, 3), (7, 2, 2, 0)),
  (11, (.iload_n 1, 1), (0, 0, 0, 0)),
  (12, (.iload_n 3, 1), (0, 0, 0, 0)),
  (13, (.iastore, 1), (0, 0, 0, 0)),
  (14, (.iconst 0, 1), (0, 0, 0, 0)),
  (15, (.istore 4, 2), (0, 0, 0, 0)),
  (17, (.iload 4, 2), (0, 0, 0, 0)),
  (19, (.bipush 60, 2), (0, 0, 0, 0)),
  (21, (.if_icmp .ge 19, 3), (0, 0, 0, 0)),
  (24, (.aload_n 0, 1), (0, 0, 0, 0)),
  (25, (.getfield 13, 3), (7, 0, 2, 0)),
  (28, (.iload_n 1, 1), (0, 0, 0, 0)),
  (29, (.aaload, 1), (25, 0, 0, 0)),
  (30, (.iload 4, 2), (0, 0, 0, 0)),
  (32, (.lconst 0, 1), (0, 0, 0, 0)),
  (33, (.lastore, 1), (0, 0, 0, 0)),
  (34, (.iinc 4 1, 3), (0, 0, 0, 0)),
  (37, (.goto (-20), 3), (0, 0, 0, 0)),
  (40, (.return_, 1), (0, 0, 0, 0))]
noncomputable def tb_109 : List TE := [ -- X8_put
  (0, (.aload_n 0, 1), (0, 0, 0, 0)),
  (1, (.getfield 13, 3), (7, 0, 2, 0)),
  (4, (.iload_n 1, 1), (0, 0, 0, 0)),
  (5, (.aaload, 1), (25, 0, 0, 0)),
  (6, (.iload_n 2, 1), (0, 0, 0, 0)),
  (7, (.aload_n 0, 1), (0, 0, 0, 0)),
  (8, (.getfield 16, 3), (7, 1, 2, 0)),
  (11, (.iload_n 1, 1), (0, 0, 0, 0)),
  (12, (.iaload, 1), (0, 0, 0, 0)),
  (13, (.lload_n 3, 1), (0, 0, 0, 0)),
  (14, (.invokestatic 30, 3), (112, 2, 0, 0)),
  (17, (.lastore, 1), (0, 0, 0, 0)),
  (18, (.return_, 1), (0, 0, 0, 0))]
noncomputable def tb_110 : List TE := [ -- X8_at
  (0, (.aload_n 0, 1), (0, 0, 0, 0)),
  (1, (.getfield 13, 3), (7, 0, 2, 0)),
  (4, (.iload_n 1, 1), (0, 0, 0, 0)),
  (5, (.aaload, 1), (25, 0, 0, 0)),
  (6, (.iload_n 2, 1), (0, 0, 0, 0)),
  (7, (.laload, 1), (0, 0, 0, 0)),
  (8, (.lreturn, 1), (0, 0, 0, 0))]
noncomputable def tb_111 : List TE := [ -- X8_carry
  (0, (.aload_n 0, 1), (0, 0, 0, 0)),
  (1, (.getfield 13, 3), (7, 0, 2, 0)),
  (4, (.iload_n 1, 1), (0, 0, 0, 0)),
  (5, (.aaload, 1), (25, 0, 0, 0)),
  (6, (.iload_n 2, 1), (0, 0, 0, 0)),
  (7, (.aload_n 0, 1), (0, 0, 0, 0)),
  (8, (.getfield 13, 3), (7, 0, 2, 0)),
  (11, (.iload_n 3, 1), (0, 0, 0, 0)),
  (12, (.aaload, 1), (25, 0, 0, 0)),
  (13, (.iload 4, 2), (0, 0, 0, 0)),
  (15, (.iload 5, 2), (0, 0, 0, 0)),
  (17, (.invokestatic 34, 3), (0, 5, 0, 1)),
  (20, (.return_, 1), (0, 0, 0, 0))]
noncomputable def tb_112 : List TE := [ -- X8_cut
  (0, (.iload_n 0, 1), (0, 0, 0, 0)),
  (1, (.tableswitch 41 0 2 #[27, 32, 37], 27), (0, 0, 0, 0)),
  (28, (.lload_n 1, 1), (0, 0, 0, 0)),
  (29, (.l2i, 1), (0, 0, 0, 0)),
  (30, (.i2b, 1), (0, 0, 0, 0)),
  (31, (.i2l, 1), (0, 0, 0, 0)),
  (32, (.lreturn, 1), (0, 0, 0, 0)),
  (33, (.lload_n 1, 1), (0, 0, 0, 0)),
  (34, (.l2i, 1), (0, 0, 0, 0)),
  (35, (.i2s, 1), (0, 0, 0, 0)),
  (36, (.i2l, 1), (0, 0, 0, 0)),
  (37, (.lreturn, 1), (0, 0, 0, 0)),
  (38, (.lload_n 1, 1), (0, 0, 0, 0)),
  (39, (.l2i, 1), (0, 0, 0, 0)),
  (40, (.i2l, 1), (0, 0, 0, 0)),
  (41, (.lreturn, 1), (0, 0, 0, 0)),
  (42, (.lload_n 1, 1), (0, 0, 0, 0)),
  (43, (.lreturn, 1), (0, 0, 0, 0))]
noncomputable def tb_113 : List TE := [ -- X9_init
  (0, (.aload_n 0, 1), (0, 0, 0, 0)),
  (1, (.invokespecial 1, 3), (8, 0, 0, 1)),
  (4, (.aload_n 0, 1), (0, 0, 0, 0)),
  (5, (.bipush 30, 2), (0, 0, 0, 0)),
  (7, (.newarray .int, 2), (20, 0, 0, 0)),
  (9, (.putfield 9, 3), (8, 2, 2, 0)),
  (12, (.aload_n 0, 1), (0, 0, 0, 0)),
  (13, (.bipush 30, 2), (0, 0, 0, 0)),
  (15, (.newarray .int, 2), (20, 0, 0, 0)),
  (17, (.putfield 13, 3), (8, 3, 2, 0)),
  (20, (.aload_n 0, 1), (0, 0, 0, 0)),
  (21, (.bipush 30, 2), (0, 0, 0, 0)),
  (23, (.newarray .int, 2), (20, 0, 0, 0)),
  (25, (.putfield 16, 3), (8, 4, 2, 0)),
  (28, (.aload_n 0, 1), (0, 0, 0, 0)),
  (29, (.bipush 30, 2), (0, 0, 0, 0)),
  (31, (.newarray .int, 2), (20, 0, 0, 0)),
  (33, (.putfield 19, 3), (8, 5, 2, 0)),
  (36, (.aload_n 0, 1), (0, 0, 0, 0)),
  (37, (.bipush 30, 2), (0, 0, 0, 0)),
  (39, (.newarray .int, 2), (20, 0, 0, 0)),
  (41, (.putfield 22, 3), (8, 6, 2, 0)),
  (44, (.aload_n 0, 1), (0, 0, 0, 0)),
  (45, (.bipush 30, 2), (0, 0, 0, 0)),
  (47, (.newarray .int, 2), (20, 0, 0, 0)),
  (49, (.putfield 25, 3), (8, 7, 2, 0)),
  (52, (.aload_n 0, 1), (0, 0, 0, 0)),
  (53, (.bipush 30, 2), (0, 0, 0, 0)),
  (55, (.newarray .int, 2), (20, 0, 0, 0)),
  (57, (.putfield 28, 3), (8, 8, 2, 0)),
  (60, (.return_, 1), (0, 0, 0, 0))]
noncomputable def tb_114 : List TE := [ -- X9_clear
  (0, (.aload_n 0, 1), (0, 0, 0, 0)),
  (1, (.iconst 0, 1), (0, 0, 0, 0)),
  (2, (.putfield 31, 3), (8, 0, 3, 0)),
  (5, (.aload_n 0, 1), (0, 0, 0, 0)),
  (6, (.iconst 0, 1), (0, 0, 0, 0)),
  (7, (.putfield 35, 3), (8, 1, 0, 0)),
  (10, (.return_, 1), (0, 0, 0, 0))]
noncomputable def tb_115 : List TE := [ -- X9_addStep
  (0, (.aload_n 0, 1), (0, 0, 0, 0)),
  (1, (.getfield 35, 3), (8, 1, 0, 0)),
  (4, (.istore_n 2, 1), (0, 0, 0, 0)),
  (5, (.aload_n 0, 1), (0, 0, 0, 0)),
  (6, (.dup, 1), (0, 0, 0, 0)),
  (7, (.getfield 35, 3), (8, 1, 0, 0)),
  (10, (.iconst 1, 1), (0, 0, 0, 0)),
  (11, (.iadd, 1), (0, 0, 0, 0)),
  (12, (.putfield 35, 3), (8, 1, 0, 0)),
  (15, (.aload_n 0, 1), (0, 0, 0, 0)),
  (16, (.getfield 9, 3), (8, 2, 2, 0)),
  (19, (.iload_n 2, 1), (0, 0, 0, 0)),
  (20, (.iload_n 1, 1), (0, 0, 0, 0)),
  (21, (.iastore, 1), (0, 0, 0, 0)),
  (22, (.aload_n 0, 1), (0, 0, 0, 0)),
  (23, (.getfield 28, 3), (8, 8, 2, 0)),
  (26, (.iload_n 2, 1), (0, 0, 0, 0)),
  (27, (.aload_n 0, 1), (0, 0, 0, 0)),
  (28, (.getfield 35, 3), (8, 1, 0, 0)),
  (31, (.iastore, 1), (0, 0, 0, 0)),
  (32, (.iload_n 2, 1), (0, 0, 0, 0)),
  (33, (.ireturn, 1), (0, 0, 0, 0))]
noncomputable def tb_116 : List TE := [ -- X9_take
  (0, (.aload_n 0, 1), (0, 0, 0, 0)),
  (1, (.aload_n 1, 1), (0, 0, 0, 0)),
  (2, (.getfield 31, 3), (8, 0, 3, 0)),
  (5, (.putfield 31, 3), (8, 0, 3, 0)),
  (8, (.aload_n 0, 1), (0, 0, 0, 0)),
  (9, (.aload_n 1, 1), (0, 0, 0, 0)),
  (10, (.getfield 35, 3), (8, 1, 0, 0)),
  (13, (.putfield 35, 3), (8, 1, 0, 0)),
  (16, (.aload_n 1, 1), (0, 0, 0, 0)),
  (17, (.getfield 9, 3), (8, 2, 2, 0)),
  (20, (.iconst 0, 1), (0, 0, 0, 0)),
  (21, (.aload_n 0, 1), (0, 0, 0, 0)),
  (22, (.getfield 9, 3), (8, 2, 2, 0)),
  (25, (.iconst 0, 1), (0, 0, 0, 0)),
  (26, (.aload_n 0, 1), (0, 0, 0, 0)),
  (27, (.getfield 35, 3), (8, 1, 0, 0)),
  (30, (.invokestatic 39, 3), (0, 5, 0, 1)),
  (33, (.aload_n 1, 1), (0, 0, 0, 0)),
  (34, (.getfield 13, 3), (8, 3, 2, 0)),
  (37, (.iconst 0, 1), (0, 0, 0, 0)),
  (38, (.aload_n 0, 1), (0, 0, 0, 0)),
  (39, (.getfield 13, 3), (8, 3, 2, 0)),
  (42, (.iconst 0, 1), (0, 0, 0, 0)),
  (43, (.aload_n 0, 1), (0, 0, 0, 0)),
  (44, (.getfield 35, 3), (8, 1, 0, 0)),
  (47, (.invokestatic 39, 3), (0, 5, 0, 1)),
  (50, (.aload_n 1, 1), (0, 0, 0, 0)),
  (51, (.getfield 16, 3), (8, 4, 2, 0)),
  (54, (.iconst 0, 1), (0, 0, 0, 0)),
  (55, (.aload_n 0, 1), (0, 0, 0, 0)),
  (56, (.getfield 16, 3), (8, 4, 2, 0)),
  (59, (.iconst 0, 1), (0, 0, 0, 0)),
  (60, (.aload_n 0, 1), (0, 0, 0, 0)),
  (61, (.getfield 35, 3), (8, 1, 0, 0)),
  (64, (.invokestatic 39, 3), (0, 5, 0, 1)),
  (67, (.aload_n 1, 1), (0, 0, 0, 0)),
  (68, (.getfield 19, 3), (8, 5, 2, 0)),
  (71, (.iconst 0, 1), (0, 0, 0, 0)),
  (72, (.aload_n 0, 1), (0, 0, 0, 0)),
  (73, (.getfield 19, 3), (8, 5, 2, 0)),
  (76, (.iconst 0, 1), (0, 0, 0, 0)),
  (77, (.aload_n 0, 1), (0, 0, 0, 0)),
  (78, (.getfield 35, 3), (8, 1, 0, 0)),
  (81, (.invokestatic 39, 3), (0, 5, 0, 1)),
  (84, (.aload_n 1, 1), (0, 0, 0, 0)),
  (85, (.getfield 22, 3), (8, 6, 2, 0)),
  (88, (.iconst 0, 1), (0, 0, 0, 0)),
  (89, (.aload_n 0, 1), (0, 0, 0, 0)),
  (90, (.getfield 22, 3), (8, 6, 2, 0)),
  (93, (.iconst 0, 1), (0, 0, 0, 0)),
  (94, (.aload_n 0, 1), (0, 0, 0, 0)),
  (95, (.getfield 35, 3), (8, 1, 0, 0)),
  (98, (.invokestatic 39, 3), (0, 5, 0, 1)),
  (101, (.aload_n 1, 1), (0, 0, 0, 0)),
  (102, (.getfield 25, 3), (8, 7, 2, 0)),
  (105, (.iconst 0, 1), (0, 0, 0, 0)),
  (106, (.aload_n 0, 1), (0, 0, 0, 0)),
  (107, (.getfield 25, 3), (8, 7, 2, 0)),
  (110, (.iconst 0, 1), (0, 0, 0, 0)),
  (111, (.aload_n 0, 1), (0, 0, 0, 0)),
  (112, (.getfield 35, 3), (8, 1, 0, 0)),
  (115, (.invokestatic 39, 3), (0, 5, 0, 1)),
  (118, (.aload_n 1, 1), (0, 0, 0, 0)),
  (119, (.getfield 28, 3), (8, 8, 2, 0)),
  (122, (.iconst 0, 1), (0, 0, 0, 0)),
  (123, (.aload_n 0, 1), (0, 0, 0, 0)),
  (124, (.getfield 28, 3), (8, 8, 2, 0)),
  (127, (.iconst 0, 1), (0, 0, 0, 0)),
  (128, (.aload_n 0, 1), (0, 0, 0, 0)),
  (129, (.getfield 35, 3), (8, 1, 0, 0)),
  (132, (.invokestatic 39, 3), (0, 5, 0, 1)),
  (135, (.return_, 1), (0, 0, 0, 0))]
noncomputable def tb_117 : List TE := [ -- X10_init
  (0, (.aload_n 0, 1), (0, 0, 0, 0)),
  (1, (.invokespecial 3, 3), (9, 0, 0, 1)),
  (4, (.aload_n 0, 1), (0, 0, 0, 0)),
  (5, (.aload_n 1, 1), (0, 0, 0, 0)),
  (6, (.putfield 9, 3), (9, 0, 2, 0)),
  (9, (.aload_n 0, 1), (0, 0, 0, 0)),
  (10, (.iconst 3, 1), (0, 0, 0, 0)),
  (11, (.newarray .int, 2), (20, 0, 0, 0)),
  (13, (.putfield 15, 3), (9, 1, 2, 0)),
  (16, (.return_, 1), (0, 0, 0, 0))]
noncomputable def tb_118 : List TE := [ -- X10_takes
  (0, (.aload_n 0, 1), (0, 0, 0, 0)),
  (1, (.aload_n 1, 1), (0, 0, 0, 0)),
  (2, (.putfield 19, 3), (9, 2, 2, 0)),
  (5, (.aload_n 0, 1), (0, 0, 0, 0)),
  (6, (.aload_n 2, 1), (0, 0, 0, 0)),
  (7, (.putfield 23, 3), (9, 3, 2, 0)),
  (10, (.aload_n 0, 1), (0, 0, 0, 0)),
  (11, (.getfield 23, 3), (9, 3, 2, 0)),
  (14, (.invokevirtual 27, 3), (114, 0, 8, 0)),
  (17, (.aload_n 0, 1), (0, 0, 0, 0)),
  (18, (.getfield 23, 3), (9, 3, 2, 0)),
  (21, (.iconst 1, 1), (0, 0, 0, 0)),
  (22, (.putfield 32, 3), (8, 0, 3, 0)),
  (25, (.aload_n 0, 1), (0, 0, 0, 0)),
  (26, (.iconst 0, 1), (0, 0, 0, 0)),
  (27, (.putfield 36, 3), (9, 4, 0, 0)),
  (30, (.aload_n 0, 1), (0, 0, 0, 0)),
  (31, (.getfield 9, 3), (9, 0, 2, 0)),
  (34, (.iload_n 3, 1), (0, 0, 0, 0)),
  (35, (.invokevirtual 40, 3), (86, 1, 6, 0)),
  (38, (.iconst 0, 1), (0, 0, 0, 0)),
  (39, (.istore 4, 2), (0, 0, 0, 0)),
  (41, (.iload 4, 2), (0, 0, 0, 0)),
  (43, (.iload_n 3, 1), (0, 0, 0, 0)),
  (44, (.if_icmp .gt 66, 3), (0, 0, 0, 0)),
  (47, (.aload_n 0, 1), (0, 0, 0, 0)),
  (48, (.getfield 9, 3), (9, 0, 2, 0)),
  (51, (.invokevirtual 46, 3), (92, 0, 6, 0)),
  (54, (.aload_n 0, 1), (0, 0, 0, 0)),
  (55, (.getfield 9, 3), (9, 0, 2, 0)),
  (58, (.getfield 49, 3), (6, 9, 0, 0)),
  (61, (.ifCond .ne 27, 3), (0, 0, 0, 0)),
  (64, (.aload_n 0, 1), (0, 0, 0, 0)),
  (65, (.getfield 36, 3), (9, 4, 0, 0)),
  (68, (.ifCond .eq 14, 3), (0, 0, 0, 0)),
  (71, (.aload_n 0, 1), (0, 0, 0, 0)),
  (72, (.getfield 9, 3), (9, 0, 2, 0)),
  (75, (.iconst 2, 1), (0, 0, 0, 0)),
  (76, (.invokevirtual 52, 3), (93, 1, 6, 0)),
  (79, (.ifCond .eq 7, 3), (0, 0, 0, 0)),
  (82, (.iconst 1, 1), (0, 0, 0, 0)),
  (83, (.goto 4, 3), (0, 0, 0, 0)),
  (86, (.iconst 0, 1), (0, 0, 0, 0)),
  (87, (.ireturn, 1), (0, 0, 0, 0)),
  (88, (.aload_n 0, 1), (0, 0, 0, 0)),
  (89, (.aload_n 0, 1), (0, 0, 0, 0)),
  (90, (.getfield 9, 3), (9, 0, 2, 0)),
  (93, (.getfield 56, 3), (6, 10, 0, 0)),
  (96, (.invokevirtual 59, 3), (119, 1, 9, 0)),
  (99, (.ifCond .ne 5, 3), (0, 0, 0, 0)),
  (102, (.iconst 0, 1), (0, 0, 0, 0)),
  (103, (.ireturn, 1), (0, 0, 0, 0)),
  (104, (.iinc 4 1, 3), (0, 0, 0, 0)),
  (107, (.goto (-66), 3), (0, 0, 0, 0)),
  (110, (.aload_n 0, 1), (0, 0, 0, 0)),
  (111, (.getfield 9, 3), (9, 0, 2, 0)),
  (114, (.iconst 2, 1), (0, 0, 0, 0)),
  (115, (.invokevirtual 52, 3), (93, 1, 6, 0)),
  (118, (.ireturn, 1), (0, 0, 0, 0))]
noncomputable def tb_119 : List TE := [ -- X10_takesStep
  (0, (.iload_n 1, 1), (0, 0, 0, 0)),
  (1, (.bipush 24, 2), (0, 0, 0, 0)),
  (3, (.if_icmp .ne 52, 3), (0, 0, 0, 0)),
  (6, (.aload_n 0, 1), (0, 0, 0, 0)),
  (7, (.getfield 36, 3), (9, 4, 0, 0)),
  (10, (.ifCond .le 45, 3), (0, 0, 0, 0)),
  (13, (.aload_n 0, 1), (0, 0, 0, 0)),
  (14, (.dup, 1), (0, 0, 0, 0)),
  (15, (.getfield 36, 3), (9, 4, 0, 0)),
  (18, (.iconst 1, 1), (0, 0, 0, 0)),
  (19, (.isub, 1), (0, 0, 0, 0)),
  (20, (.putfield 36, 3), (9, 4, 0, 0)),
  (23, (.aload_n 0, 1), (0, 0, 0, 0)),
  (24, (.getfield 23, 3), (9, 3, 2, 0)),
  (27, (.getfield 62, 3), (8, 8, 2, 0)),
  (30, (.aload_n 0, 1), (0, 0, 0, 0)),
  (31, (.getfield 15, 3), (9, 1, 2, 0)),
  (34, (.aload_n 0, 1), (0, 0, 0, 0)),
  (35, (.getfield 36, 3), (9, 4, 0, 0)),
  (38, (.iaload, 1), (0, 0, 0, 0)),
  (39, (.aload_n 0, 1), (0, 0, 0, 0)),
  (40, (.getfield 23, 3), (9, 3, 2, 0)),
  (43, (.getfield 65, 3), (8, 1, 0, 0)),
  (46, (.iastore, 1), (0, 0, 0, 0)),
  (47, (.aload_n 0, 1), (0, 0, 0, 0)),
  (48, (.getfield 9, 3), (9, 0, 2, 0)),
  (51, (.invokevirtual 68, 3), (95, 0, 6, 0)),
  (54, (.ireturn, 1), (0, 0, 0, 0)),
  (55, (.iload_n 1, 1), (0, 0, 0, 0)),
  (56, (.invokestatic 72, 3), (120, 1, 0, 0)),
  (59, (.ifCond .ne 12, 3), (0, 0, 0, 0)),
  (62, (.aload_n 0, 1), (0, 0, 0, 0)),
  (63, (.getfield 9, 3), (9, 0, 2, 0)),
  (66, (.iconst 2, 1), (0, 0, 0, 0)),
  (67, (.invokevirtual 52, 3), (93, 1, 6, 0)),
  (70, (.ireturn, 1), (0, 0, 0, 0)),
  (71, (.aload_n 0, 1), (0, 0, 0, 0)),
  (72, (.getfield 23, 3), (9, 3, 2, 0)),
  (75, (.getfield 65, 3), (8, 1, 0, 0)),
  (78, (.bipush 30, 2), (0, 0, 0, 0)),
  (80, (.if_icmp .lt 13, 3), (0, 0, 0, 0)),
  (83, (.aload_n 0, 1), (0, 0, 0, 0)),
  (84, (.getfield 9, 3), (9, 0, 2, 0)),
  (87, (.bipush 6, 2), (0, 0, 0, 0)),
  (89, (.invokevirtual 52, 3), (93, 1, 6, 0)),
  (92, (.ireturn, 1), (0, 0, 0, 0)),
  (93, (.iload_n 1, 1), (0, 0, 0, 0)),
  (94, (.bipush 19, 2), (0, 0, 0, 0)),
  (96, (.if_icmp .eq 9, 3), (0, 0, 0, 0)),
  (99, (.iload_n 1, 1), (0, 0, 0, 0)),
  (100, (.bipush 23, 2), (0, 0, 0, 0)),
  (102, (.if_icmp .ne 7, 3), (0, 0, 0, 0)),
  (105, (.iconst 1, 1), (0, 0, 0, 0)),
  (106, (.goto 4, 3), (0, 0, 0, 0)),
  (109, (.iconst 0, 1), (0, 0, 0, 0)),
  (110, (.istore_n 2, 1), (0, 0, 0, 0)),
  (111, (.iload_n 2, 1), (0, 0, 0, 0)),
  (112, (.ifCond .eq 21, 3), (0, 0, 0, 0)),
  (115, (.aload_n 0, 1), (0, 0, 0, 0)),
  (116, (.getfield 36, 3), (9, 4, 0, 0)),
  (119, (.iconst 3, 1), (0, 0, 0, 0)),
  (120, (.if_icmp .lt 13, 3), (0, 0, 0, 0)),
  (123, (.aload_n 0, 1), (0, 0, 0, 0)),
  (124, (.getfield 9, 3), (9, 0, 2, 0)),
  (127, (.bipush 7, 2), (0, 0, 0, 0)),
  (129, (.invokevirtual 52, 3), (93, 1, 6, 0)),
  (132, (.ireturn, 1), (0, 0, 0, 0)),
  (133, (.aload_n 0, 1), (0, 0, 0, 0)),
  (134, (.getfield 23, 3), (9, 3, 2, 0)),
  (137, (.iload_n 1, 1), (0, 0, 0, 0)),
  (138, (.invokevirtual 75, 3), (115, 1, 8, 0)),
  (141, (.istore_n 3, 1), (0, 0, 0, 0)),
  (142, (.iload_n 2, 1), (0, 0, 0, 0)),
  (143, (.ifCond .eq 23, 3), (0, 0, 0, 0)),
  (146, (.aload_n 0, 1), (0, 0, 0, 0)),
  (147, (.getfield 15, 3), (9, 1, 2, 0)),
  (150, (.aload_n 0, 1), (0, 0, 0, 0)),
  (151, (.getfield 36, 3), (9, 4, 0, 0)),
  (154, (.iload_n 3, 1), (0, 0, 0, 0)),
  (155, (.iastore, 1), (0, 0, 0, 0)),
  (156, (.aload_n 0, 1), (0, 0, 0, 0)),
  (157, (.dup, 1), (0, 0, 0, 0)),
  (158, (.getfield 36, 3), (9, 4, 0, 0)),
  (161, (.iconst 1, 1), (0, 0, 0, 0)),
  (162, (.iadd, 1), (0, 0, 0, 0)),
  (163, (.putfield 36, 3), (9, 4, 0, 0)),
  (166, (.aload_n 0, 1), (0, 0, 0, 0)),
  (167, (.iload_n 3, 1), (0, 0, 0, 0)),
  (168, (.invokevirtual 79, 3), (121, 1, 9, 0)),
  (171, (.ifCond .eq 17, 3), (0, 0, 0, 0)),
  (174, (.aload_n 0, 1), (0, 0, 0, 0)),
  (175, (.getfield 9, 3), (9, 0, 2, 0)),
  (178, (.invokevirtual 68, 3), (95, 0, 6, 0)),
  (181, (.ifCond .eq 7, 3), (0, 0, 0, 0)),
  (184, (.iconst 1, 1), (0, 0, 0, 0)),
  (185, (.goto 4, 3), (0, 0, 0, 0)),
  (188, (.iconst 0, 1), (0, 0, 0, 0)),
  (189, (.ireturn, 1), (0, 0, 0, 0))]
noncomputable def tb_120 : List TE := [ -- X10_isStep
  (0, (.iload_n 0, 1), (0, 0, 0, 0)),
  (1, (.bipush 12, 2), (0, 0, 0, 0)),
  (3, (.if_icmp .lt 9, 3), (0, 0, 0, 0)),
  (6, (.iload_n 0, 1), (0, 0, 0, 0)),
  (7, (.bipush 19, 2), (0, 0, 0, 0)),
  (9, (.if_icmp .le 15, 3), (0, 0, 0, 0)),
  (12, (.iload_n 0, 1), (0, 0, 0, 0)),
  (13, (.bipush 23, 2), (0, 0, 0, 0)),
  (15, (.if_icmp .eq 9, 3), (0, 0, 0, 0)),
  (18, (.iload_n 0, 1), (0, 0, 0, 0)),
  (19, (.bipush 25, 2), (0, 0, 0, 0)),
  (21, (.if_icmp .ne 7, 3), (0, 0, 0, 0)),
  (24, (.iconst 1, 1), (0, 0, 0, 0)),
  (25, (.goto 4, 3), (0, 0, 0, 0)),
  (28, (.iconst 0, 1), (0, 0, 0, 0)),
  (29, (.ireturn, 1), (0, 0, 0, 0))]
noncomputable def tb_121 : List TE := [ -- X10_takesRestOf
  (0, (.aload_n 0, 1), (0, 0, 0, 0)),
  (1, (.getfield 23, 3), (9, 3, 2, 0)),
  (4, (.getfield 82, 3), (8, 2, 2, 0)),
  (7, (.iload_n 1, 1), (0, 0, 0, 0)),
  (8, (.iaload, 1), (0, 0, 0, 0)),
  (9, (.lookupswitch 177 #[(12, 43), (17, 105), (19, 148), (23, 168)], 43), (0, 0, 0, 0)),
  (52, (.aload_n 0, 1), (0, 0, 0, 0)),
  (53, (.getfield 23, 3), (9, 3, 2, 0)),
  (56, (.getfield 84, 3), (8, 5, 2, 0)),
  (59, (.iload_n 1, 1), (0, 0, 0, 0)),
  (60, (.aload_n 0, 1), (0, 0, 0, 0)),
  (61, (.invokevirtual 87, 3), (125, 0, 9, 0)),
  (64, (.iastore, 1), (0, 0, 0, 0)),
  (65, (.aload_n 0, 1), (0, 0, 0, 0)),
  (66, (.getfield 23, 3), (9, 3, 2, 0)),
  (69, (.getfield 91, 3), (8, 6, 2, 0)),
  (72, (.iload_n 1, 1), (0, 0, 0, 0)),
  (73, (.aload_n 0, 1), (0, 0, 0, 0)),
  (74, (.getfield 23, 3), (9, 3, 2, 0)),
  (77, (.getfield 84, 3), (8, 5, 2, 0)),
  (80, (.iload_n 1, 1), (0, 0, 0, 0)),
  (81, (.iaload, 1), (0, 0, 0, 0)),
  (82, (.iconst (-1), 1), (0, 0, 0, 0)),
  (83, (.if_icmp .ne 7, 3), (0, 0, 0, 0)),
  (86, (.iconst (-1), 1), (0, 0, 0, 0)),
  (87, (.goto 7, 3), (0, 0, 0, 0)),
  (90, (.aload_n 0, 1), (0, 0, 0, 0)),
  (91, (.invokevirtual 87, 3), (125, 0, 9, 0)),
  (94, (.iastore, 1), (0, 0, 0, 0)),
  (95, (.aload_n 0, 1), (0, 0, 0, 0)),
  (96, (.getfield 23, 3), (9, 3, 2, 0)),
  (99, (.getfield 91, 3), (8, 6, 2, 0)),
  (102, (.iload_n 1, 1), (0, 0, 0, 0)),
  (103, (.iaload, 1), (0, 0, 0, 0)),
  (104, (.iconst (-1), 1), (0, 0, 0, 0)),
  (105, (.if_icmp .eq 7, 3), (0, 0, 0, 0)),
  (108, (.iconst 1, 1), (0, 0, 0, 0)),
  (109, (.goto 4, 3), (0, 0, 0, 0)),
  (112, (.iconst 0, 1), (0, 0, 0, 0)),
  (113, (.ireturn, 1), (0, 0, 0, 0)),
  (114, (.aload_n 0, 1), (0, 0, 0, 0)),
  (115, (.getfield 23, 3), (9, 3, 2, 0)),
  (118, (.getfield 84, 3), (8, 5, 2, 0)),
  (121, (.iload_n 1, 1), (0, 0, 0, 0)),
  (122, (.aload_n 0, 1), (0, 0, 0, 0)),
  (123, (.invokevirtual 87, 3), (125, 0, 9, 0)),
  (126, (.iastore, 1), (0, 0, 0, 0)),
  (127, (.aload_n 0, 1), (0, 0, 0, 0)),
  (128, (.getfield 23, 3), (9, 3, 2, 0)),
  (131, (.getfield 84, 3), (8, 5, 2, 0)),
  (134, (.iload_n 1, 1), (0, 0, 0, 0)),
  (135, (.iaload, 1), (0, 0, 0, 0)),
  (136, (.iconst (-1), 1), (0, 0, 0, 0)),
  (137, (.if_icmp .eq 18, 3), (0, 0, 0, 0)),
  (140, (.aload_n 0, 1), (0, 0, 0, 0)),
  (141, (.iload_n 1, 1), (0, 0, 0, 0)),
  (142, (.iconst 1, 1), (0, 0, 0, 0)),
  (143, (.bipush 60, 2), (0, 0, 0, 0)),
  (145, (.invokevirtual 94, 3), (124, 3, 9, 0)),
  (148, (.ifCond .eq 7, 3), (0, 0, 0, 0)),
  (151, (.iconst 1, 1), (0, 0, 0, 0)),
  (152, (.goto 4, 3), (0, 0, 0, 0)),
  (155, (.iconst 0, 1), (0, 0, 0, 0)),
  (156, (.ireturn, 1), (0, 0, 0, 0)),
  (157, (.aload_n 0, 1), (0, 0, 0, 0)),
  (158, (.getfield 9, 3), (9, 0, 2, 0)),
  (161, (.invokevirtual 46, 3), (92, 0, 6, 0)),
  (164, (.aload_n 0, 1), (0, 0, 0, 0)),
  (165, (.iload_n 1, 1), (0, 0, 0, 0)),
  (166, (.aload_n 0, 1), (0, 0, 0, 0)),
  (167, (.getfield 9, 3), (9, 0, 2, 0)),
  (170, (.getfield 56, 3), (6, 10, 0, 0)),
  (173, (.invokevirtual 98, 3), (122, 2, 9, 0)),
  (176, (.ireturn, 1), (0, 0, 0, 0)),
  (177, (.aload_n 0, 1), (0, 0, 0, 0)),
  (178, (.iload_n 1, 1), (0, 0, 0, 0)),
  (179, (.iconst 1, 1), (0, 0, 0, 0)),
  (180, (.bipush 99, 2), (0, 0, 0, 0)),
  (182, (.invokevirtual 94, 3), (124, 3, 9, 0)),
  (185, (.ireturn, 1), (0, 0, 0, 0)),
  (186, (.iconst 1, 1), (0, 0, 0, 0)),
  (187, (.ireturn, 1), (0, 0, 0, 0))]
noncomputable def tb_122 : List TE := [ -- X10_takesTest
  (0, (.aload_n 0, 1), (0, 0, 0, 0)),
  (1, (.getfield 23, 3), (9, 3, 2, 0)),
  (4, (.getfield 102, 3), (8, 3, 2, 0)),
  (7, (.iload_n 1, 1), (0, 0, 0, 0)),
  (8, (.iload_n 2, 1), (0, 0, 0, 0)),
  (9, (.iastore, 1), (0, 0, 0, 0)),
  (10, (.iload_n 2, 1), (0, 0, 0, 0)),
  (11, (.lookupswitch 154 #[(10, 69), (20, 41), (21, 120), (22, 152)], 41), (0, 0, 0, 0)),
  (52, (.aload_n 0, 1), (0, 0, 0, 0)),
  (53, (.iload_n 1, 1), (0, 0, 0, 0)),
  (54, (.invokevirtual 105, 3), (123, 1, 9, 0)),
  (57, (.ifCond .eq 21, 3), (0, 0, 0, 0)),
  (60, (.aload_n 0, 1), (0, 0, 0, 0)),
  (61, (.iload_n 1, 1), (0, 0, 0, 0)),
  (62, (.iconst 0, 1), (0, 0, 0, 0)),
  (63, (.getstatic 108, 3), (1, 0, 0, (-4))),
  (66, (.iconst 0, 1), (0, 0, 0, 0)),
  (67, (.iaload, 1), (0, 0, 0, 0)),
  (68, (.invokevirtual 94, 3), (124, 3, 9, 0)),
  (71, (.ifCond .eq 7, 3), (0, 0, 0, 0)),
  (74, (.iconst 1, 1), (0, 0, 0, 0)),
  (75, (.goto 4, 3), (0, 0, 0, 0)),
  (78, (.iconst 0, 1), (0, 0, 0, 0)),
  (79, (.ireturn, 1), (0, 0, 0, 0)),
  (80, (.aload_n 0, 1), (0, 0, 0, 0)),
  (81, (.getfield 23, 3), (9, 3, 2, 0)),
  (84, (.getfield 84, 3), (8, 5, 2, 0)),
  (87, (.iload_n 1, 1), (0, 0, 0, 0)),
  (88, (.aload_n 0, 1), (0, 0, 0, 0)),
  (89, (.invokevirtual 87, 3), (125, 0, 9, 0)),
  (92, (.iastore, 1), (0, 0, 0, 0)),
  (93, (.aload_n 0, 1), (0, 0, 0, 0)),
  (94, (.getfield 23, 3), (9, 3, 2, 0)),
  (97, (.getfield 84, 3), (8, 5, 2, 0)),
  (100, (.iload_n 1, 1), (0, 0, 0, 0)),
  (101, (.iaload, 1), (0, 0, 0, 0)),
  (102, (.iconst (-1), 1), (0, 0, 0, 0)),
  (103, (.if_icmp .eq 26, 3), (0, 0, 0, 0)),
  (106, (.aload_n 0, 1), (0, 0, 0, 0)),
  (107, (.iload_n 1, 1), (0, 0, 0, 0)),
  (108, (.invokevirtual 105, 3), (123, 1, 9, 0)),
  (111, (.ifCond .eq 18, 3), (0, 0, 0, 0)),
  (114, (.aload_n 0, 1), (0, 0, 0, 0)),
  (115, (.iload_n 1, 1), (0, 0, 0, 0)),
  (116, (.iconst 0, 1), (0, 0, 0, 0)),
  (117, (.bipush 60, 2), (0, 0, 0, 0)),
  (119, (.invokevirtual 94, 3), (124, 3, 9, 0)),
  (122, (.ifCond .eq 7, 3), (0, 0, 0, 0)),
  (125, (.iconst 1, 1), (0, 0, 0, 0)),
  (126, (.goto 4, 3), (0, 0, 0, 0)),
  (129, (.iconst 0, 1), (0, 0, 0, 0)),
  (130, (.ireturn, 1), (0, 0, 0, 0)),
  (131, (.aload_n 0, 1), (0, 0, 0, 0)),
  (132, (.getfield 23, 3), (9, 3, 2, 0)),
  (135, (.getfield 84, 3), (8, 5, 2, 0)),
  (138, (.iload_n 1, 1), (0, 0, 0, 0)),
  (139, (.aload_n 0, 1), (0, 0, 0, 0)),
  (140, (.invokevirtual 111, 3), (126, 0, 9, 0)),
  (143, (.iastore, 1), (0, 0, 0, 0)),
  (144, (.aload_n 0, 1), (0, 0, 0, 0)),
  (145, (.getfield 23, 3), (9, 3, 2, 0)),
  (148, (.getfield 84, 3), (8, 5, 2, 0)),
  (151, (.iload_n 1, 1), (0, 0, 0, 0)),
  (152, (.iaload, 1), (0, 0, 0, 0)),
  (153, (.iconst (-1), 1), (0, 0, 0, 0)),
  (154, (.if_icmp .eq 7, 3), (0, 0, 0, 0)),
  (157, (.iconst 1, 1), (0, 0, 0, 0)),
  (158, (.goto 4, 3), (0, 0, 0, 0)),
  (161, (.iconst 0, 1), (0, 0, 0, 0)),
  (162, (.ireturn, 1), (0, 0, 0, 0)),
  (163, (.iconst 1, 1), (0, 0, 0, 0)),
  (164, (.ireturn, 1), (0, 0, 0, 0)),
  (165, (.aload_n 0, 1), (0, 0, 0, 0)),
  (166, (.getfield 9, 3), (9, 0, 2, 0)),
  (169, (.iconst 2, 1), (0, 0, 0, 0)),
  (170, (.invokevirtual 52, 3), (93, 1, 6, 0)),
  (173, (.ireturn, 1), (0, 0, 0, 0))]
noncomputable def tb_123 : List TE := [ -- X10_takesCompare
  (0, (.aload_n 0, 1), (0, 0, 0, 0)),
  (1, (.getfield 9, 3), (9, 0, 2, 0)),
  (4, (.invokevirtual 46, 3), (92, 0, 6, 0)),
  (7, (.aload_n 0, 1), (0, 0, 0, 0)),
  (8, (.getfield 9, 3), (9, 0, 2, 0)),
  (11, (.bipush 60, 2), (0, 0, 0, 0)),
  (13, (.invokevirtual 114, 3), (94, 1, 6, 0)),
  (16, (.ifCond .ne 36, 3), (0, 0, 0, 0)),
  (19, (.aload_n 0, 1), (0, 0, 0, 0)),
  (20, (.getfield 9, 3), (9, 0, 2, 0)),
  (23, (.bipush 62, 2), (0, 0, 0, 0)),
  (25, (.invokevirtual 114, 3), (94, 1, 6, 0)),
  (28, (.ifCond .ne 24, 3), (0, 0, 0, 0)),
  (31, (.aload_n 0, 1), (0, 0, 0, 0)),
  (32, (.getfield 9, 3), (9, 0, 2, 0)),
  (35, (.bipush 61, 2), (0, 0, 0, 0)),
  (37, (.invokevirtual 114, 3), (94, 1, 6, 0)),
  (40, (.ifCond .ne 12, 3), (0, 0, 0, 0)),
  (43, (.aload_n 0, 1), (0, 0, 0, 0)),
  (44, (.getfield 9, 3), (9, 0, 2, 0)),
  (47, (.iconst 2, 1), (0, 0, 0, 0)),
  (48, (.invokevirtual 52, 3), (93, 1, 6, 0)),
  (51, (.ireturn, 1), (0, 0, 0, 0)),
  (52, (.aload_n 0, 1), (0, 0, 0, 0)),
  (53, (.getfield 23, 3), (9, 3, 2, 0)),
  (56, (.getfield 117, 3), (8, 4, 2, 0)),
  (59, (.iload_n 1, 1), (0, 0, 0, 0)),
  (60, (.aload_n 0, 1), (0, 0, 0, 0)),
  (61, (.getfield 9, 3), (9, 0, 2, 0)),
  (64, (.getfield 120, 3), (6, 11, 1, 0)),
  (67, (.l2i, 1), (0, 0, 0, 0)),
  (68, (.iastore, 1), (0, 0, 0, 0)),
  (69, (.iconst 1, 1), (0, 0, 0, 0)),
  (70, (.ireturn, 1), (0, 0, 0, 0))]
noncomputable def tb_124 : List TE := [ -- X10_takesNumber
  (0, (.aload_n 0, 1), (0, 0, 0, 0)),
  (1, (.getfield 23, 3), (9, 3, 2, 0)),
  (4, (.getfield 124, 3), (8, 7, 2, 0)),
  (7, (.iload_n 1, 1), (0, 0, 0, 0)),
  (8, (.aload_n 0, 1), (0, 0, 0, 0)),
  (9, (.getfield 9, 3), (9, 0, 2, 0)),
  (12, (.iload_n 2, 1), (0, 0, 0, 0)),
  (13, (.iload_n 3, 1), (0, 0, 0, 0)),
  (14, (.invokevirtual 127, 3), (97, 2, 6, 0)),
  (17, (.iastore, 1), (0, 0, 0, 0)),
  (18, (.aload_n 0, 1), (0, 0, 0, 0)),
  (19, (.getfield 23, 3), (9, 3, 2, 0)),
  (22, (.getfield 124, 3), (8, 7, 2, 0)),
  (25, (.iload_n 1, 1), (0, 0, 0, 0)),
  (26, (.iaload, 1), (0, 0, 0, 0)),
  (27, (.iconst (-1), 1), (0, 0, 0, 0)),
  (28, (.if_icmp .eq 7, 3), (0, 0, 0, 0)),
  (31, (.iconst 1, 1), (0, 0, 0, 0)),
  (32, (.goto 4, 3), (0, 0, 0, 0)),
  (35, (.iconst 0, 1), (0, 0, 0, 0)),
  (36, (.ireturn, 1), (0, 0, 0, 0))]
noncomputable def tb_125 : List TE := [ -- X10_takesMan
  (0, (.aload_n 0, 1), (0, 0, 0, 0)),
  (1, (.getfield 9, 3), (9, 0, 2, 0)),
  (4, (.invokevirtual 131, 3), (98, 0, 6, 0)),
  (7, (.ifCond .ne 5, 3), (0, 0, 0, 0)),
  (10, (.iconst (-1), 1), (0, 0, 0, 0)),
  (11, (.ireturn, 1), (0, 0, 0, 0)),
  (12, (.aload_n 0, 1), (0, 0, 0, 0)),
  (13, (.getfield 19, 3), (9, 2, 2, 0)),
  (16, (.aload_n 0, 1), (0, 0, 0, 0)),
  (17, (.getfield 9, 3), (9, 0, 2, 0)),
  (20, (.getfield 120, 3), (6, 11, 1, 0)),
  (23, (.invokevirtual 134, 3), (26, 1, 1, 0)),
  (26, (.istore_n 1, 1), (0, 0, 0, 0)),
  (27, (.iload_n 1, 1), (0, 0, 0, 0)),
  (28, (.iconst (-1), 1), (0, 0, 0, 0)),
  (29, (.if_icmp .ne 12, 3), (0, 0, 0, 0)),
  (32, (.aload_n 0, 1), (0, 0, 0, 0)),
  (33, (.getfield 9, 3), (9, 0, 2, 0)),
  (36, (.iconst 3, 1), (0, 0, 0, 0)),
  (37, (.invokevirtual 52, 3), (93, 1, 6, 0)),
  (40, (.pop, 1), (0, 0, 0, 0)),
  (41, (.iload_n 1, 1), (0, 0, 0, 0)),
  (42, (.ireturn, 1), (0, 0, 0, 0))]
noncomputable def tb_126 : List TE := [ -- X10_takesThing
  (0, (.aload_n 0, 1), (0, 0, 0, 0)),
  (1, (.getfield 9, 3), (9, 0, 2, 0)),
  (4, (.invokevirtual 131, 3), (98, 0, 6, 0)),
  (7, (.ifCond .ne 5, 3), (0, 0, 0, 0)),
  (10, (.iconst (-1), 1), (0, 0, 0, 0)),
  (11, (.ireturn, 1), (0, 0, 0, 0)),
  (12, (.aload_n 0, 1), (0, 0, 0, 0)),
  (13, (.getfield 19, 3), (9, 2, 2, 0)),
  (16, (.aload_n 0, 1), (0, 0, 0, 0)),
  (17, (.getfield 9, 3), (9, 0, 2, 0)),
  (20, (.getfield 120, 3), (6, 11, 1, 0)),
  (23, (.invokevirtual 140, 3), (25, 1, 1, 0)),
  (26, (.istore_n 1, 1), (0, 0, 0, 0)),
  (27, (.iload_n 1, 1), (0, 0, 0, 0)),
  (28, (.iconst (-1), 1), (0, 0, 0, 0)),
  (29, (.if_icmp .ne 12, 3), (0, 0, 0, 0)),
  (32, (.aload_n 0, 1), (0, 0, 0, 0)),
  (33, (.getfield 9, 3), (9, 0, 2, 0)),
  (36, (.iconst 3, 1), (0, 0, 0, 0)),
  (37, (.invokevirtual 52, 3), (93, 1, 6, 0)),
  (40, (.pop, 1), (0, 0, 0, 0)),
  (41, (.iload_n 1, 1), (0, 0, 0, 0)),
  (42, (.ireturn, 1), (0, 0, 0, 0))]
noncomputable def tb_127 : List TE := [ -- X11_init
  (0, (.aload_n 0, 1), (0, 0, 0, 0)),
  (1, (.invokespecial 1, 3), (10, 0, 0, 1)),
  (4, (.aload_n 0, 1), (0, 0, 0, 0)),
  (5, (.new 7, 3), (7, 3, 0, 0)),
  (8, (.dup, 1), (0, 0, 0, 0)),
  (9, (.invokespecial 9, 3), (102, 0, 7, 0)),
  (12, (.putfield 10, 3), (10, 0, 2, 0)),
  (15, (.aload_n 0, 1), (0, 0, 0, 0)),
  (16, (.sipush 900, 3), (0, 0, 0, 0)),
  (19, (.newarray .byte, 2), (22, 0, 0, 0)),
  (21, (.putfield 16, 3), (10, 1, 2, 0)),
  (24, (.aload_n 0, 1), (0, 0, 0, 0)),
  (25, (.new 20, 3), (6, 14, 0, 0)),
  (28, (.dup, 1), (0, 0, 0, 0)),
  (29, (.aload_n 0, 1), (0, 0, 0, 0)),
  (30, (.getfield 16, 3), (10, 1, 2, 0)),
  (33, (.invokespecial 22, 3), (85, 1, 6, 0)),
  (36, (.putfield 25, 3), (10, 2, 2, 0)),
  (39, (.aload_n 0, 1), (0, 0, 0, 0)),
  (40, (.new 29, 3), (2, 3, 0, 0)),
  (43, (.dup, 1), (0, 0, 0, 0)),
  (44, (.aload_n 0, 1), (0, 0, 0, 0)),
  (45, (.getfield 25, 3), (10, 2, 2, 0)),
  (48, (.invokespecial 31, 3), (45, 1, 2, 0)),
  (51, (.putfield 34, 3), (10, 3, 2, 0)),
  (54, (.aload_n 0, 1), (0, 0, 0, 0)),
  (55, (.new 38, 3), (9, 5, 0, 0)),
  (58, (.dup, 1), (0, 0, 0, 0)),
  (59, (.aload_n 0, 1), (0, 0, 0, 0)),
  (60, (.getfield 25, 3), (10, 2, 2, 0)),
  (63, (.invokespecial 40, 3), (117, 1, 9, 0)),
  (66, (.putfield 41, 3), (10, 4, 2, 0)),
  (69, (.aload_n 0, 1), (0, 0, 0, 0)),
  (70, (.new 45, 3), (1, 20, 0, 0)),
  (73, (.dup, 1), (0, 0, 0, 0)),
  (74, (.invokespecial 47, 3), (17, 0, 1, 0)),
  (77, (.putfield 48, 3), (10, 5, 2, 0)),
  (80, (.aload_n 0, 1), (0, 0, 0, 0)),
  (81, (.new 45, 3), (1, 20, 0, 0)),
  (84, (.dup, 1), (0, 0, 0, 0)),
  (85, (.invokespecial 47, 3), (17, 0, 1, 0)),
  (88, (.putfield 52, 3), (10, 6, 2, 0)),
  (91, (.aload_n 0, 1), (0, 0, 0, 0)),
  (92, (.iconst 3, 1), (0, 0, 0, 0)),
  (93, (.anewarray 45, 3), (0, 0, 0, 0)),
  (96, (.putfield 55, 3), (10, 7, 2, 0)),
  (99, (.iconst 0, 1), (0, 0, 0, 0)),
  (100, (.istore_n 1, 1), (0, 0, 0, 0)),
  (101, (.iload_n 1, 1), (0, 0, 0, 0)),
  (102, (.iconst 3, 1), (0, 0, 0, 0)),
  (103, (.if_icmp .ge 22, 3), (0, 0, 0, 0)),
  (106, (.aload_n 0, 1), (0, 0, 0, 0)),
  (107, (.getfield 55, 3), (10, 7, 2, 0)),
  (110, (.iload_n 1, 1), (0, 0, 0, 0)),
  (111, (.new 45, 3), (1, 20, 0, 0)),
  (114, (.dup, 1), (0, 0, 0, 0)),
  (115, (.invokespecial 47, 3), (17, 0, 1, 0)),
  (118, (.aastore, 1), (0, 0, 0, 0)),
  (119, (.iinc 1 1, 3), (0, 0, 0, 0)),
  (122, (.goto (-21), 3), (0, 0, 0, 0)),
  (125, (.aload_n 0, 1), (0, 0, 0, 0)),
  (126, (.new 59, 3), (0, 13, 0, 0)),
  (129, (.dup, 1), (0, 0, 0, 0)),
  (130, (.invokespecial 61, 3), (0, 0, 0, 0)),
  (133, (.putfield 62, 3), (10, 8, 2, 0)),
  (136, (.aload_n 0, 1), (0, 0, 0, 0)),
  (137, (.new 66, 3), (3, 7, 0, 0)),
  (140, (.dup, 1), (0, 0, 0, 0)),
  (141, (.invokespecial 68, 3), (54, 0, 3, 0)),
  (144, (.putfield 69, 3), (10, 9, 2, 0)),
  (147, (.aload_n 0, 1), (0, 0, 0, 0)),
  (148, (.new 73, 3), (5, 3, 0, 0)),
  (151, (.dup, 1), (0, 0, 0, 0)),
  (152, (.invokespecial 75, 3), (76, 0, 5, 0)),
  (155, (.putfield 76, 3), (10, 10, 2, 0)),
  (158, (.aload_n 0, 1), (0, 0, 0, 0)),
  (159, (.new 80, 3), (4, 9, 0, 0)),
  (162, (.dup, 1), (0, 0, 0, 0)),
  (163, (.aload_n 0, 1), (0, 0, 0, 0)),
  (164, (.getfield 62, 3), (10, 8, 2, 0)),
  (167, (.invokespecial 82, 3), (67, 1, 4, 0)),
  (170, (.putfield 85, 3), (10, 11, 2, 0)),
  (173, (.aload_n 0, 1), (0, 0, 0, 0)),
  (174, (.new 80, 3), (4, 9, 0, 0)),
  (177, (.dup, 1), (0, 0, 0, 0)),
  (178, (.aload_n 0, 1), (0, 0, 0, 0)),
  (179, (.getfield 62, 3), (10, 8, 2, 0)),
  (182, (.invokespecial 82, 3), (67, 1, 4, 0)),
  (185, (.putfield 89, 3), (10, 12, 2, 0)),
  (188, (.aload_n 0, 1), (0, 0, 0, 0)),
  (189, (.iconst (-1), 1), (0, 0, 0, 0)),
  (190, (.putfield 92, 3), (10, 16, 0, 0)),
  (193, (.aload_n 0, 1), (0, 0, 0, 0)),
  (194, (.iconst (-1), 1), (0, 0, 0, 0)),
  (195, (.putfield 96, 3), (10, 17, 0, 0)),
  (198, (.aload_n 0, 1), (0, 0, 0, 0)),
  (199, (.lconst 1, 1), (0, 0, 0, 0)),
  (200, (.putfield 99, 3), (10, 19, 1, 0)),
  (203, (.return_, 1), (0, 0, 0, 0))]
noncomputable def tb_128 : List TE := [ -- X11_status
  (0, (.aload_n 0, 1), (0, 0, 0, 0)),
  (1, (.getfield 103, 3), (10, 15, 0, 0)),
  (4, (.ireturn, 1), (0, 0, 0, 0))]
noncomputable def tb_129 : List TE := [ -- X11_top
  (0, (.aload_n 0, 1), (0, 0, 0, 0)),
  (1, (.getfield 106, 3), (10, 18, 1, 0)),
  (4, (.lreturn, 1), (0, 0, 0, 0))]
noncomputable def tb_130 : List TE := [ -- X11_bottom
  (0, (.aload_n 0, 1), (0, 0, 0, 0)),
  (1, (.getfield 99, 3), (10, 19, 1, 0)),
  (4, (.lreturn, 1), (0, 0, 0, 0))]
noncomputable def tb_131 : List TE := [ -- X11_tray
  (0, (.aload_n 0, 1), (0, 0, 0, 0)),
  (1, (.getfield 10, 3), (10, 0, 2, 0)),
  (4, (.iload_n 1, 1), (0, 0, 0, 0)),
  (5, (.invokevirtual 109, 3), (103, 1, 7, 0)),
  (8, (.ifCond .eq 22, 3), (0, 0, 0, 0)),
  (11, (.iload_n 2, 1), (0, 0, 0, 0)),
  (12, (.ifCond .lt 18, 3), (0, 0, 0, 0)),
  (15, (.iload_n 2, 1), (0, 0, 0, 0)),
  (16, (.iconst 3, 1), (0, 0, 0, 0)),
  (17, (.if_icmp .gt 13, 3), (0, 0, 0, 0)),
  (20, (.iload_n 3, 1), (0, 0, 0, 0)),
  (21, (.ifCond .lt 9, 3), (0, 0, 0, 0)),
  (24, (.iload_n 3, 1), (0, 0, 0, 0)),
  (25, (.bipush 60, 2), (0, 0, 0, 0)),
  (27, (.if_icmp .le 9, 3), (0, 0, 0, 0)),
  (30, (.aload_n 0, 1), (0, 0, 0, 0)),
  (31, (.iconst 1, 1), (0, 0, 0, 0)),
  (32, (.invokevirtual 113, 3), (185, 1, 10, 0)),
  (35, (.ireturn, 1), (0, 0, 0, 0)),
  (36, (.aload_n 0, 1), (0, 0, 0, 0)),
  (37, (.getfield 10, 3), (10, 0, 2, 0)),
  (40, (.iload_n 1, 1), (0, 0, 0, 0)),
  (41, (.iload_n 2, 1), (0, 0, 0, 0)),
  (42, (.iload_n 3, 1), (0, 0, 0, 0)),
  (43, (.invokevirtual 116, 3), (108, 3, 7, 0)),
  (46, (.aload_n 0, 1), (0, 0, 0, 0)),
  (47, (.invokevirtual 120, 3), (184, 0, 10, 0)),
  (50, (.ireturn, 1), (0, 0, 0, 0))]
noncomputable def tb_132 : List TE := [ -- X11_write
  (0, (.aload_n 0, 1), (0, 0, 0, 0)),
  (1, (.getfield 10, 3), (10, 0, 2, 0)),
  (4, (.iload_n 1, 1), (0, 0, 0, 0)),
  (5, (.iload_n 2, 1), (0, 0, 0, 0)),
  (6, (.invokevirtual 124, 3), (107, 2, 7, 0)),
  (9, (.istore 5, 2), (0, 0, 0, 0)),
  (11, (.iload 5, 2), (0, 0, 0, 0)),
  (13, (.ifCond .eq 10, 3), (0, 0, 0, 0)),
  (16, (.aload_n 0, 1), (0, 0, 0, 0)),
  (17, (.iload 5, 2), (0, 0, 0, 0)),
  (19, (.invokevirtual 113, 3), (185, 1, 10, 0)),
  (22, (.ireturn, 1), (0, 0, 0, 0)),
  (23, (.aload_n 0, 1), (0, 0, 0, 0)),
  (24, (.getfield 10, 3), (10, 0, 2, 0)),
  (27, (.iload_n 1, 1), (0, 0, 0, 0)),
  (28, (.iload_n 2, 1), (0, 0, 0, 0)),
  (29, (.lload_n 3, 1), (0, 0, 0, 0)),
  (30, (.invokevirtual 128, 3), (109, 3, 7, 0)),
  (33, (.aload_n 0, 1), (0, 0, 0, 0)),
  (34, (.invokevirtual 120, 3), (184, 0, 10, 0)),
  (37, (.ireturn, 1), (0, 0, 0, 0))]
noncomputable def tb_133 : List TE := [ -- X11_read
  (0, (.aload_n 0, 1), (0, 0, 0, 0)),
  (1, (.getfield 10, 3), (10, 0, 2, 0)),
  (4, (.iload_n 1, 1), (0, 0, 0, 0)),
  (5, (.iload_n 2, 1), (0, 0, 0, 0)),
  (6, (.invokevirtual 124, 3), (107, 2, 7, 0)),
  (9, (.istore_n 3, 1), (0, 0, 0, 0)),
  (10, (.iload_n 3, 1), (0, 0, 0, 0)),
  (11, (.ifCond .eq 10, 3), (0, 0, 0, 0)),
  (14, (.aload_n 0, 1), (0, 0, 0, 0)),
  (15, (.iload_n 3, 1), (0, 0, 0, 0)),
  (16, (.invokevirtual 132, 3), (183, 1, 10, 0)),
  (19, (.i2l, 1), (0, 0, 0, 0)),
  (20, (.lreturn, 1), (0, 0, 0, 0)),
  (21, (.aload_n 0, 1), (0, 0, 0, 0)),
  (22, (.iconst 0, 1), (0, 0, 0, 0)),
  (23, (.putfield 103, 3), (10, 15, 0, 0)),
  (26, (.aload_n 0, 1), (0, 0, 0, 0)),
  (27, (.getfield 10, 3), (10, 0, 2, 0)),
  (30, (.iload_n 1, 1), (0, 0, 0, 0)),
  (31, (.iload_n 2, 1), (0, 0, 0, 0)),
  (32, (.invokevirtual 136, 3), (110, 2, 7, 0)),
  (35, (.lreturn, 1), (0, 0, 0, 0))]
noncomputable def tb_134 : List TE := [ -- X11_pour
  (0, (.aload_n 0, 1), (0, 0, 0, 0)),
  (1, (.getfield 10, 3), (10, 0, 2, 0)),
  (4, (.iload_n 1, 1), (0, 0, 0, 0)),
  (5, (.invokevirtual 109, 3), (103, 1, 7, 0)),
  (8, (.ifCond .eq 28, 3), (0, 0, 0, 0)),
  (11, (.aload_n 0, 1), (0, 0, 0, 0)),
  (12, (.getfield 10, 3), (10, 0, 2, 0)),
  (15, (.iload_n 3, 1), (0, 0, 0, 0)),
  (16, (.invokevirtual 109, 3), (103, 1, 7, 0)),
  (19, (.ifCond .eq 17, 3), (0, 0, 0, 0)),
  (22, (.iload_n 2, 1), (0, 0, 0, 0)),
  (23, (.ifCond .lt 13, 3), (0, 0, 0, 0)),
  (26, (.iload 4, 2), (0, 0, 0, 0)),
  (28, (.ifCond .lt 8, 3), (0, 0, 0, 0)),
  (31, (.iload 5, 2), (0, 0, 0, 0)),
  (33, (.ifCond .ge 9, 3), (0, 0, 0, 0)),
  (36, (.aload_n 0, 1), (0, 0, 0, 0)),
  (37, (.iconst 1, 1), (0, 0, 0, 0)),
  (38, (.invokevirtual 113, 3), (185, 1, 10, 0)),
  (41, (.ireturn, 1), (0, 0, 0, 0)),
  (42, (.aload_n 0, 1), (0, 0, 0, 0)),
  (43, (.getfield 10, 3), (10, 0, 2, 0)),
  (46, (.iload_n 1, 1), (0, 0, 0, 0)),
  (47, (.invokevirtual 140, 3), (104, 1, 7, 0)),
  (50, (.ifCond .ne 14, 3), (0, 0, 0, 0)),
  (53, (.aload_n 0, 1), (0, 0, 0, 0)),
  (54, (.getfield 10, 3), (10, 0, 2, 0)),
  (57, (.iload_n 3, 1), (0, 0, 0, 0)),
  (58, (.invokevirtual 140, 3), (104, 1, 7, 0)),
  (61, (.ifCond .eq 9, 3), (0, 0, 0, 0)),
  (64, (.aload_n 0, 1), (0, 0, 0, 0)),
  (65, (.iconst 2, 1), (0, 0, 0, 0)),
  (66, (.invokevirtual 113, 3), (185, 1, 10, 0)),
  (69, (.ireturn, 1), (0, 0, 0, 0)),
  (70, (.aload_n 0, 1), (0, 0, 0, 0)),
  (71, (.getfield 10, 3), (10, 0, 2, 0)),
  (74, (.iload_n 1, 1), (0, 0, 0, 0)),
  (75, (.iload_n 3, 1), (0, 0, 0, 0)),
  (76, (.invokevirtual 143, 3), (105, 2, 7, 0)),
  (79, (.ifCond .ne 10, 3), (0, 0, 0, 0)),
  (82, (.aload_n 0, 1), (0, 0, 0, 0)),
  (83, (.bipush 8, 2), (0, 0, 0, 0)),
  (85, (.invokevirtual 113, 3), (185, 1, 10, 0)),
  (88, (.ireturn, 1), (0, 0, 0, 0)),
  (89, (.aload_n 0, 1), (0, 0, 0, 0)),
  (90, (.getfield 10, 3), (10, 0, 2, 0)),
  (93, (.iload_n 1, 1), (0, 0, 0, 0)),
  (94, (.iload_n 2, 1), (0, 0, 0, 0)),
  (95, (.iload 5, 2), (0, 0, 0, 0)),
  (97, (.invokevirtual 147, 3), (106, 3, 7, 0)),
  (100, (.ifCond .eq 18, 3), (0, 0, 0, 0)),
  (103, (.aload_n 0, 1), (0, 0, 0, 0)),
  (104, (.getfield 10, 3), (10, 0, 2, 0)),
  (107, (.iload_n 3, 1), (0, 0, 0, 0)),
  (108, (.iload 4, 2), (0, 0, 0, 0)),
  (110, (.iload 5, 2), (0, 0, 0, 0)),
  (112, (.invokevirtual 147, 3), (106, 3, 7, 0)),
  (115, (.ifCond .ne 9, 3), (0, 0, 0, 0)),
  (118, (.aload_n 0, 1), (0, 0, 0, 0)),
  (119, (.iconst 3, 1), (0, 0, 0, 0)),
  (120, (.invokevirtual 113, 3), (185, 1, 10, 0)),
  (123, (.ireturn, 1), (0, 0, 0, 0)),
  (124, (.aload_n 0, 1), (0, 0, 0, 0)),
  (125, (.getfield 10, 3), (10, 0, 2, 0)),
  (128, (.iload_n 1, 1), (0, 0, 0, 0)),
  (129, (.iload_n 2, 1), (0, 0, 0, 0)),
  (130, (.iload_n 3, 1), (0, 0, 0, 0)),
  (131, (.iload 4, 2), (0, 0, 0, 0)),
  (133, (.iload 5, 2), (0, 0, 0, 0)),
  (135, (.invokevirtual 151, 3), (111, 5, 7, 0)),
  (138, (.aload_n 0, 1), (0, 0, 0, 0)),
  (139, (.invokevirtual 120, 3), (184, 0, 10, 0)),
  (142, (.ireturn, 1), (0, 0, 0, 0))]
noncomputable def tb_135 : List TE := [ -- X11_feed
  (0, (.aload_n 0, 1), (0, 0, 0, 0)),
  (1, (.getfield 155, 3), (10, 14, 0, 0)),
  (4, (.bipush 20, 2), (0, 0, 0, 0)),
  (6, (.iadd, 1), (0, 0, 0, 0)),
  (7, (.sipush 900, 3), (0, 0, 0, 0)),
  (10, (.if_icmp .le 5, 3), (0, 0, 0, 0)),
  (13, (.iconst (-1), 1), (0, 0, 0, 0)),
  (14, (.ireturn, 1), (0, 0, 0, 0)),
  (15, (.aload_n 0, 1), (0, 0, 0, 0)),
  (16, (.iload_n 1, 1), (0, 0, 0, 0)),
  (17, (.invokevirtual 158, 3), (187, 1, 10, 0)),
  (20, (.aload_n 0, 1), (0, 0, 0, 0)),
  (21, (.iload_n 2, 1), (0, 0, 0, 0)),
  (22, (.invokevirtual 158, 3), (187, 1, 10, 0)),
  (25, (.aload_n 0, 1), (0, 0, 0, 0)),
  (26, (.iload_n 3, 1), (0, 0, 0, 0)),
  (27, (.invokevirtual 158, 3), (187, 1, 10, 0)),
  (30, (.aload_n 0, 1), (0, 0, 0, 0)),
  (31, (.iload 4, 2), (0, 0, 0, 0)),
  (33, (.invokevirtual 158, 3), (187, 1, 10, 0)),
  (36, (.aload_n 0, 1), (0, 0, 0, 0)),
  (37, (.iload 5, 2), (0, 0, 0, 0)),
  (39, (.invokevirtual 158, 3), (187, 1, 10, 0)),
  (42, (.aload_n 0, 1), (0, 0, 0, 0)),
  (43, (.getfield 155, 3), (10, 14, 0, 0)),
  (46, (.ireturn, 1), (0, 0, 0, 0))]
noncomputable def tb_136 : List TE := [ -- X11_dawn
  (0, (.iload_n 1, 1), (0, 0, 0, 0)),
  (1, (.ifCond .lt 11, 3), (0, 0, 0, 0)),
  (4, (.iload_n 1, 1), (0, 0, 0, 0)),
  (5, (.aload_n 0, 1), (0, 0, 0, 0)),
  (6, (.getfield 155, 3), (10, 14, 0, 0)),
  (9, (.if_icmp .le 9, 3), (0, 0, 0, 0)),
  (12, (.aload_n 0, 1), (0, 0, 0, 0)),
  (13, (.iconst 1, 1), (0, 0, 0, 0)),
  (14, (.invokevirtual 132, 3), (183, 1, 10, 0)),
  (17, (.ireturn, 1), (0, 0, 0, 0)),
  (18, (.aload_n 0, 1), (0, 0, 0, 0)),
  (19, (.getfield 34, 3), (10, 3, 2, 0)),
  (22, (.aload_n 0, 1), (0, 0, 0, 0)),
  (23, (.getfield 52, 3), (10, 6, 2, 0)),
  (26, (.iload_n 1, 1), (0, 0, 0, 0)),
  (27, (.invokevirtual 162, 3), (46, 2, 2, 0)),
  (30, (.istore_n 2, 1), (0, 0, 0, 0)),
  (31, (.aload_n 0, 1), (0, 0, 0, 0)),
  (32, (.invokevirtual 166, 3), (188, 0, 10, 0)),
  (35, (.iload_n 2, 1), (0, 0, 0, 0)),
  (36, (.ifCond .ne 10, 3), (0, 0, 0, 0)),
  (39, (.aload_n 0, 1), (0, 0, 0, 0)),
  (40, (.bipush 9, 2), (0, 0, 0, 0)),
  (42, (.invokevirtual 132, 3), (183, 1, 10, 0)),
  (45, (.ireturn, 1), (0, 0, 0, 0)),
  (46, (.aload_n 0, 1), (0, 0, 0, 0)),
  (47, (.getfield 48, 3), (10, 5, 2, 0)),
  (50, (.aload_n 0, 1), (0, 0, 0, 0)),
  (51, (.getfield 52, 3), (10, 6, 2, 0)),
  (54, (.invokevirtual 169, 3), (19, 1, 1, 0)),
  (57, (.aload_n 0, 1), (0, 0, 0, 0)),
  (58, (.aload_n 0, 1), (0, 0, 0, 0)),
  (59, (.getfield 48, 3), (10, 5, 2, 0)),
  (62, (.getfield 173, 3), (1, 1, 0, 0)),
  (65, (.invokevirtual 176, 3), (181, 1, 10, 0)),
  (68, (.ireturn, 1), (0, 0, 0, 0))]
noncomputable def tb_137 : List TE := [ -- X11_years
  (0, (.iload_n 1, 1), (0, 0, 0, 0)),
  (1, (.ifCond .lt 18, 3), (0, 0, 0, 0)),
  (4, (.iload_n 1, 1), (0, 0, 0, 0)),
  (5, (.aload_n 0, 1), (0, 0, 0, 0)),
  (6, (.getfield 155, 3), (10, 14, 0, 0)),
  (9, (.if_icmp .gt 10, 3), (0, 0, 0, 0)),
  (12, (.iload_n 1, 1), (0, 0, 0, 0)),
  (13, (.sipush 300, 3), (0, 0, 0, 0)),
  (16, (.if_icmp .le 9, 3), (0, 0, 0, 0)),
  (19, (.aload_n 0, 1), (0, 0, 0, 0)),
  (20, (.iconst 1, 1), (0, 0, 0, 0)),
  (21, (.invokevirtual 132, 3), (183, 1, 10, 0)),
  (24, (.ireturn, 1), (0, 0, 0, 0)),
  (25, (.aload_n 0, 1), (0, 0, 0, 0)),
  (26, (.getfield 41, 3), (10, 4, 2, 0)),
  (29, (.aload_n 0, 1), (0, 0, 0, 0)),
  (30, (.getfield 48, 3), (10, 5, 2, 0)),
  (33, (.aload_n 0, 1), (0, 0, 0, 0)),
  (34, (.getfield 52, 3), (10, 6, 2, 0)),
  (37, (.getfield 179, 3), (1, 19, 2, 0)),
  (40, (.iload_n 1, 1), (0, 0, 0, 0)),
  (41, (.invokevirtual 183, 3), (118, 3, 9, 0)),
  (44, (.istore_n 2, 1), (0, 0, 0, 0)),
  (45, (.aload_n 0, 1), (0, 0, 0, 0)),
  (46, (.invokevirtual 166, 3), (188, 0, 10, 0)),
  (49, (.iload_n 2, 1), (0, 0, 0, 0)),
  (50, (.ifCond .ne 10, 3), (0, 0, 0, 0)),
  (53, (.aload_n 0, 1), (0, 0, 0, 0)),
  (54, (.bipush 9, 2), (0, 0, 0, 0)),
  (56, (.invokevirtual 132, 3), (183, 1, 10, 0)),
  (59, (.ireturn, 1), (0, 0, 0, 0)),
  (60, (.aload_n 0, 1), (0, 0, 0, 0)),
  (61, (.getfield 48, 3), (10, 5, 2, 0)),
  (64, (.getfield 179, 3), (1, 19, 2, 0)),
  (67, (.aload_n 0, 1), (0, 0, 0, 0)),
  (68, (.getfield 52, 3), (10, 6, 2, 0)),
  (71, (.getfield 179, 3), (1, 19, 2, 0)),
  (74, (.invokevirtual 186, 3), (116, 1, 8, 0)),
  (77, (.aload_n 0, 1), (0, 0, 0, 0)),
  (78, (.aload_n 0, 1), (0, 0, 0, 0)),
  (79, (.getfield 48, 3), (10, 5, 2, 0)),
  (82, (.getfield 179, 3), (1, 19, 2, 0)),
  (85, (.getfield 191, 3), (8, 1, 0, 0)),
  (88, (.invokevirtual 176, 3), (181, 1, 10, 0)),
  (91, (.ireturn, 1), (0, 0, 0, 0))]
noncomputable def tb_138 : List TE := [ -- X11_fault
  (0, (.iload_n 1, 1), (0, 0, 0, 0)),
  (1, (.ifCond .ne 8, 3), (0, 0, 0, 0)),
  (4, (.aload_n 0, 1), (0, 0, 0, 0)),
  (5, (.getfield 92, 3), (10, 16, 0, 0)),
  (8, (.ireturn, 1), (0, 0, 0, 0)),
  (9, (.iload_n 1, 1), (0, 0, 0, 0)),
  (10, (.iconst 1, 1), (0, 0, 0, 0)),
  (11, (.if_icmp .ne 10, 3), (0, 0, 0, 0)),
  (14, (.aload_n 0, 1), (0, 0, 0, 0)),
  (15, (.getfield 96, 3), (10, 17, 0, 0)),
  (18, (.goto 4, 3), (0, 0, 0, 0)),
  (21, (.iconst (-1), 1), (0, 0, 0, 0)),
  (22, (.ireturn, 1), (0, 0, 0, 0))]
noncomputable def tb_139 : List TE := [ -- X11_told
  (0, (.iload_n 1, 1), (0, 0, 0, 0)),
  (1, (.tableswitch 143 0 9 #[55, 67, 79, 79, 79, 79, 95, 107, 119, 131], 55), (0, 0, 0, 0)),
  (56, (.aload_n 0, 1), (0, 0, 0, 0)),
  (57, (.aload_n 0, 1), (0, 0, 0, 0)),
  (58, (.getfield 48, 3), (10, 5, 2, 0)),
  (61, (.getfield 194, 3), (1, 0, 0, 0)),
  (64, (.invokevirtual 176, 3), (181, 1, 10, 0)),
  (67, (.ireturn, 1), (0, 0, 0, 0)),
  (68, (.aload_n 0, 1), (0, 0, 0, 0)),
  (69, (.aload_n 0, 1), (0, 0, 0, 0)),
  (70, (.getfield 48, 3), (10, 5, 2, 0)),
  (73, (.getfield 173, 3), (1, 1, 0, 0)),
  (76, (.invokevirtual 176, 3), (181, 1, 10, 0)),
  (79, (.ireturn, 1), (0, 0, 0, 0)),
  (80, (.aload_n 0, 1), (0, 0, 0, 0)),
  (81, (.aload_n 0, 1), (0, 0, 0, 0)),
  (82, (.getfield 48, 3), (10, 5, 2, 0)),
  (85, (.getfield 197, 3), (1, 2, 2, 0)),
  (88, (.iload_n 1, 1), (0, 0, 0, 0)),
  (89, (.iconst 2, 1), (0, 0, 0, 0)),
  (90, (.isub, 1), (0, 0, 0, 0)),
  (91, (.iaload, 1), (0, 0, 0, 0)),
  (92, (.invokevirtual 176, 3), (181, 1, 10, 0)),
  (95, (.ireturn, 1), (0, 0, 0, 0)),
  (96, (.aload_n 0, 1), (0, 0, 0, 0)),
  (97, (.aload_n 0, 1), (0, 0, 0, 0)),
  (98, (.getfield 48, 3), (10, 5, 2, 0)),
  (101, (.invokevirtual 201, 3), (32, 0, 1, 0)),
  (104, (.invokevirtual 176, 3), (181, 1, 10, 0)),
  (107, (.ireturn, 1), (0, 0, 0, 0)),
  (108, (.aload_n 0, 1), (0, 0, 0, 0)),
  (109, (.aload_n 0, 1), (0, 0, 0, 0)),
  (110, (.getfield 48, 3), (10, 5, 2, 0)),
  (113, (.invokevirtual 205, 3), (33, 0, 1, 0)),
  (116, (.invokevirtual 176, 3), (181, 1, 10, 0)),
  (119, (.ireturn, 1), (0, 0, 0, 0)),
  (120, (.aload_n 0, 1), (0, 0, 0, 0)),
  (121, (.aload_n 0, 1), (0, 0, 0, 0)),
  (122, (.getfield 48, 3), (10, 5, 2, 0)),
  (125, (.invokevirtual 208, 3), (34, 0, 1, 0)),
  (128, (.invokevirtual 176, 3), (181, 1, 10, 0)),
  (131, (.ireturn, 1), (0, 0, 0, 0)),
  (132, (.aload_n 0, 1), (0, 0, 0, 0)),
  (133, (.aload_n 0, 1), (0, 0, 0, 0)),
  (134, (.getfield 48, 3), (10, 5, 2, 0)),
  (137, (.invokevirtual 211, 3), (39, 0, 1, 0)),
  (140, (.invokevirtual 176, 3), (181, 1, 10, 0)),
  (143, (.ireturn, 1), (0, 0, 0, 0)),
  (144, (.aload_n 0, 1), (0, 0, 0, 0)),
  (145, (.iconst 1, 1), (0, 0, 0, 0)),
  (146, (.invokevirtual 132, 3), (183, 1, 10, 0)),
  (149, (.ireturn, 1), (0, 0, 0, 0))]
noncomputable def tb_140 : List TE := [ -- X11_thing
  (0, (.aload_n 0, 1), (0, 0, 0, 0)),
  (1, (.getfield 48, 3), (10, 5, 2, 0)),
  (4, (.iload_n 1, 1), (0, 0, 0, 0)),
  (5, (.invokevirtual 214, 3), (22, 1, 1, 0)),
  (8, (.ifCond .ne 9, 3), (0, 0, 0, 0)),
  (11, (.aload_n 0, 1), (0, 0, 0, 0)),
  (12, (.iconst 1, 1), (0, 0, 0, 0)),
  (13, (.invokevirtual 132, 3), (183, 1, 10, 0)),
  (16, (.ireturn, 1), (0, 0, 0, 0)),
  (17, (.iload_n 2, 1), (0, 0, 0, 0)),
  (18, (.tableswitch 111 0 4 #[34, 48, 62, 76, 90], 34), (0, 0, 0, 0)),
  (52, (.aload_n 0, 1), (0, 0, 0, 0)),
  (53, (.aload_n 0, 1), (0, 0, 0, 0)),
  (54, (.getfield 48, 3), (10, 5, 2, 0)),
  (57, (.getfield 217, 3), (1, 3, 2, 0)),
  (60, (.iload_n 1, 1), (0, 0, 0, 0)),
  (61, (.iaload, 1), (0, 0, 0, 0)),
  (62, (.invokevirtual 176, 3), (181, 1, 10, 0)),
  (65, (.ireturn, 1), (0, 0, 0, 0)),
  (66, (.aload_n 0, 1), (0, 0, 0, 0)),
  (67, (.aload_n 0, 1), (0, 0, 0, 0)),
  (68, (.getfield 48, 3), (10, 5, 2, 0)),
  (71, (.getfield 220, 3), (1, 4, 2, 0)),
  (74, (.iload_n 1, 1), (0, 0, 0, 0)),
  (75, (.iaload, 1), (0, 0, 0, 0)),
  (76, (.invokevirtual 176, 3), (181, 1, 10, 0)),
  (79, (.ireturn, 1), (0, 0, 0, 0)),
  (80, (.aload_n 0, 1), (0, 0, 0, 0)),
  (81, (.aload_n 0, 1), (0, 0, 0, 0)),
  (82, (.getfield 48, 3), (10, 5, 2, 0)),
  (85, (.getfield 223, 3), (1, 5, 2, 0)),
  (88, (.iload_n 1, 1), (0, 0, 0, 0)),
  (89, (.iaload, 1), (0, 0, 0, 0)),
  (90, (.invokevirtual 176, 3), (181, 1, 10, 0)),
  (93, (.ireturn, 1), (0, 0, 0, 0)),
  (94, (.aload_n 0, 1), (0, 0, 0, 0)),
  (95, (.aload_n 0, 1), (0, 0, 0, 0)),
  (96, (.getfield 48, 3), (10, 5, 2, 0)),
  (99, (.getfield 226, 3), (1, 6, 2, 0)),
  (102, (.iload_n 1, 1), (0, 0, 0, 0)),
  (103, (.iaload, 1), (0, 0, 0, 0)),
  (104, (.invokevirtual 176, 3), (181, 1, 10, 0)),
  (107, (.ireturn, 1), (0, 0, 0, 0)),
  (108, (.aload_n 0, 1), (0, 0, 0, 0)),
  (109, (.aload_n 0, 1), (0, 0, 0, 0)),
  (110, (.getfield 48, 3), (10, 5, 2, 0)),
  (113, (.iload_n 1, 1), (0, 0, 0, 0)),
  (114, (.invokevirtual 229, 3), (28, 1, 1, 0)),
  (117, (.ifCond .eq 7, 3), (0, 0, 0, 0)),
  (120, (.iconst 1, 1), (0, 0, 0, 0)),
  (121, (.goto 4, 3), (0, 0, 0, 0)),
  (124, (.iconst 0, 1), (0, 0, 0, 0)),
  (125, (.invokevirtual 176, 3), (181, 1, 10, 0)),
  (128, (.ireturn, 1), (0, 0, 0, 0)),
  (129, (.aload_n 0, 1), (0, 0, 0, 0)),
  (130, (.iconst 1, 1), (0, 0, 0, 0)),
  (131, (.invokevirtual 132, 3), (183, 1, 10, 0)),
  (134, (.ireturn, 1), (0, 0, 0, 0))]
noncomputable def tb_141 : List TE := [ -- X11_holder
  (0, (.aload_n 0, 1), (0, 0, 0, 0)),
  (1, (.getfield 48, 3), (10, 5, 2, 0)),
  (4, (.iload_n 1, 1), (0, 0, 0, 0)),
  (5, (.invokevirtual 214, 3), (22, 1, 1, 0)),
  (8, (.ifCond .ne 9, 3), (0, 0, 0, 0)),
  (11, (.aload_n 0, 1), (0, 0, 0, 0)),
  (12, (.iconst 1, 1), (0, 0, 0, 0)),
  (13, (.invokevirtual 132, 3), (183, 1, 10, 0)),
  (16, (.ireturn, 1), (0, 0, 0, 0)),
  (17, (.aload_n 0, 1), (0, 0, 0, 0)),
  (18, (.aload_n 0, 1), (0, 0, 0, 0)),
  (19, (.getfield 48, 3), (10, 5, 2, 0)),
  (22, (.iload_n 1, 1), (0, 0, 0, 0)),
  (23, (.invokevirtual 232, 3), (27, 1, 1, 0)),
  (26, (.invokevirtual 235, 3), (182, 1, 10, 0)),
  (29, (.ireturn, 1), (0, 0, 0, 0))]
noncomputable def tb_142 : List TE := [ -- X11_man
  (0, (.aload_n 0, 1), (0, 0, 0, 0)),
  (1, (.getfield 48, 3), (10, 5, 2, 0)),
  (4, (.iload_n 1, 1), (0, 0, 0, 0)),
  (5, (.invokevirtual 238, 3), (23, 1, 1, 0)),
  (8, (.ifCond .ne 9, 3), (0, 0, 0, 0)),
  (11, (.aload_n 0, 1), (0, 0, 0, 0)),
  (12, (.iconst 1, 1), (0, 0, 0, 0)),
  (13, (.invokevirtual 132, 3), (183, 1, 10, 0)),
  (16, (.ireturn, 1), (0, 0, 0, 0)),
  (17, (.iload_n 2, 1), (0, 0, 0, 0)),
  (18, (.tableswitch 136 0 6 #[42, 56, 70, 84, 97, 110, 123], 42), (0, 0, 0, 0)),
  (60, (.aload_n 0, 1), (0, 0, 0, 0)),
  (61, (.aload_n 0, 1), (0, 0, 0, 0)),
  (62, (.getfield 48, 3), (10, 5, 2, 0)),
  (65, (.getfield 241, 3), (1, 7, 2, 0)),
  (68, (.iload_n 1, 1), (0, 0, 0, 0)),
  (69, (.iaload, 1), (0, 0, 0, 0)),
  (70, (.invokevirtual 176, 3), (181, 1, 10, 0)),
  (73, (.ireturn, 1), (0, 0, 0, 0)),
  (74, (.aload_n 0, 1), (0, 0, 0, 0)),
  (75, (.aload_n 0, 1), (0, 0, 0, 0)),
  (76, (.getfield 48, 3), (10, 5, 2, 0)),
  (79, (.getfield 244, 3), (1, 8, 2, 0)),
  (82, (.iload_n 1, 1), (0, 0, 0, 0)),
  (83, (.iaload, 1), (0, 0, 0, 0)),
  (84, (.invokevirtual 176, 3), (181, 1, 10, 0)),
  (87, (.ireturn, 1), (0, 0, 0, 0)),
  (88, (.aload_n 0, 1), (0, 0, 0, 0)),
  (89, (.aload_n 0, 1), (0, 0, 0, 0)),
  (90, (.getfield 48, 3), (10, 5, 2, 0)),
  (93, (.getfield 247, 3), (1, 9, 2, 0)),
  (96, (.iload_n 1, 1), (0, 0, 0, 0)),
  (97, (.iaload, 1), (0, 0, 0, 0)),
  (98, (.invokevirtual 176, 3), (181, 1, 10, 0)),
  (101, (.ireturn, 1), (0, 0, 0, 0)),
  (102, (.aload_n 0, 1), (0, 0, 0, 0)),
  (103, (.aload_n 0, 1), (0, 0, 0, 0)),
  (104, (.getfield 48, 3), (10, 5, 2, 0)),
  (107, (.iload_n 1, 1), (0, 0, 0, 0)),
  (108, (.invokevirtual 250, 3), (30, 1, 1, 0)),
  (111, (.invokevirtual 176, 3), (181, 1, 10, 0)),
  (114, (.ireturn, 1), (0, 0, 0, 0)),
  (115, (.aload_n 0, 1), (0, 0, 0, 0)),
  (116, (.aload_n 0, 1), (0, 0, 0, 0)),
  (117, (.getfield 48, 3), (10, 5, 2, 0)),
  (120, (.iload_n 1, 1), (0, 0, 0, 0)),
  (121, (.invokevirtual 253, 3), (31, 1, 1, 0)),
  (124, (.invokevirtual 176, 3), (181, 1, 10, 0)),
  (127, (.ireturn, 1), (0, 0, 0, 0)),
  (128, (.aload_n 0, 1), (0, 0, 0, 0)),
  (129, (.aload_n 0, 1), (0, 0, 0, 0)),
  (130, (.getfield 48, 3), (10, 5, 2, 0)),
  (133, (.iload_n 1, 1), (0, 0, 0, 0)),
  (134, (.invokevirtual 256, 3), (37, 1, 1, 0)),
  (137, (.invokevirtual 176, 3), (181, 1, 10, 0)),
  (140, (.ireturn, 1), (0, 0, 0, 0)),
  (141, (.aload_n 0, 1), (0, 0, 0, 0)),
  (142, (.aload_n 0, 1), (0, 0, 0, 0)),
  (143, (.getfield 48, 3), (10, 5, 2, 0)),
  (146, (.iload_n 1, 1), (0, 0, 0, 0)),
  (147, (.invokevirtual 259, 3), (38, 1, 1, 0)),
  (150, (.invokevirtual 176, 3), (181, 1, 10, 0)),
  (153, (.ireturn, 1), (0, 0, 0, 0)),
  (154, (.aload_n 0, 1), (0, 0, 0, 0)),
  (155, (.iconst 1, 1), (0, 0, 0, 0)),
  (156, (.invokevirtual 132, 3), (183, 1, 10, 0)),
  (159, (.ireturn, 1), (0, 0, 0, 0))]
noncomputable def tb_143 : List TE := [ -- X11_holds
  (0, (.aload_n 0, 1), (0, 0, 0, 0)),
  (1, (.getfield 48, 3), (10, 5, 2, 0)),
  (4, (.iload_n 1, 1), (0, 0, 0, 0)),
  (5, (.invokevirtual 238, 3), (23, 1, 1, 0)),
  (8, (.ifCond .ne 9, 3), (0, 0, 0, 0)),
  (11, (.aload_n 0, 1), (0, 0, 0, 0)),
  (12, (.iconst 1, 1), (0, 0, 0, 0)),
  (13, (.invokevirtual 132, 3), (183, 1, 10, 0)),
  (16, (.ireturn, 1), (0, 0, 0, 0)),
  (17, (.aload_n 0, 1), (0, 0, 0, 0)),
  (18, (.aload_n 0, 1), (0, 0, 0, 0)),
  (19, (.getfield 48, 3), (10, 5, 2, 0)),
  (22, (.getfield 262, 3), (1, 10, 2, 0)),
  (25, (.iload_n 1, 1), (0, 0, 0, 0)),
  (26, (.iaload, 1), (0, 0, 0, 0)),
  (27, (.invokevirtual 235, 3), (182, 1, 10, 0)),
  (30, (.ireturn, 1), (0, 0, 0, 0))]
noncomputable def tb_144 : List TE := [ -- X11_won
  (0, (.aload_n 0, 1), (0, 0, 0, 0)),
  (1, (.getfield 48, 3), (10, 5, 2, 0)),
  (4, (.iload_n 1, 1), (0, 0, 0, 0)),
  (5, (.iload_n 2, 1), (0, 0, 0, 0)),
  (6, (.invokevirtual 265, 3), (24, 2, 1, 0)),
  (9, (.ifCond .ne 9, 3), (0, 0, 0, 0)),
  (12, (.aload_n 0, 1), (0, 0, 0, 0)),
  (13, (.iconst 1, 1), (0, 0, 0, 0)),
  (14, (.invokevirtual 132, 3), (183, 1, 10, 0)),
  (17, (.ireturn, 1), (0, 0, 0, 0)),
  (18, (.aload_n 0, 1), (0, 0, 0, 0)),
  (19, (.aload_n 0, 1), (0, 0, 0, 0)),
  (20, (.getfield 48, 3), (10, 5, 2, 0)),
  (23, (.iload_n 1, 1), (0, 0, 0, 0)),
  (24, (.iload_n 2, 1), (0, 0, 0, 0)),
  (25, (.invokevirtual 268, 3), (35, 2, 1, 0)),
  (28, (.invokevirtual 176, 3), (181, 1, 10, 0)),
  (31, (.ireturn, 1), (0, 0, 0, 0))]
noncomputable def tb_145 : List TE := [ -- X11_duel
  (0, (.iload_n 1, 1), (0, 0, 0, 0)),
  (1, (.ifCond .lt 9, 3), (0, 0, 0, 0)),
  (4, (.iload_n 1, 1), (0, 0, 0, 0)),
  (5, (.bipush 6, 2), (0, 0, 0, 0)),
  (7, (.if_icmp .le 9, 3), (0, 0, 0, 0)),
  (10, (.aload_n 0, 1), (0, 0, 0, 0)),
  (11, (.iconst 1, 1), (0, 0, 0, 0)),
  (12, (.invokevirtual 132, 3), (183, 1, 10, 0)),
  (15, (.ireturn, 1), (0, 0, 0, 0)),
  (16, (.aload_n 0, 1), (0, 0, 0, 0)),
  (17, (.getfield 48, 3), (10, 5, 2, 0)),
  (20, (.invokevirtual 271, 3), (40, 0, 1, 0)),
  (23, (.ifCond .ne 10, 3), (0, 0, 0, 0)),
  (26, (.aload_n 0, 1), (0, 0, 0, 0)),
  (27, (.bipush 6, 2), (0, 0, 0, 0)),
  (29, (.invokevirtual 132, 3), (183, 1, 10, 0)),
  (32, (.ireturn, 1), (0, 0, 0, 0)),
  (33, (.iload_n 1, 1), (0, 0, 0, 0)),
  (34, (.tableswitch 110 0 5 #[38, 50, 62, 74, 86, 98], 38), (0, 0, 0, 0)),
  (72, (.aload_n 0, 1), (0, 0, 0, 0)),
  (73, (.aload_n 0, 1), (0, 0, 0, 0)),
  (74, (.getfield 48, 3), (10, 5, 2, 0)),
  (77, (.getfield 274, 3), (1, 14, 0, 0)),
  (80, (.invokevirtual 176, 3), (181, 1, 10, 0)),
  (83, (.ireturn, 1), (0, 0, 0, 0)),
  (84, (.aload_n 0, 1), (0, 0, 0, 0)),
  (85, (.aload_n 0, 1), (0, 0, 0, 0)),
  (86, (.getfield 48, 3), (10, 5, 2, 0)),
  (89, (.getfield 277, 3), (1, 15, 0, 0)),
  (92, (.invokevirtual 176, 3), (181, 1, 10, 0)),
  (95, (.ireturn, 1), (0, 0, 0, 0)),
  (96, (.aload_n 0, 1), (0, 0, 0, 0)),
  (97, (.aload_n 0, 1), (0, 0, 0, 0)),
  (98, (.getfield 48, 3), (10, 5, 2, 0)),
  (101, (.getfield 280, 3), (1, 16, 0, 0)),
  (104, (.invokevirtual 176, 3), (181, 1, 10, 0)),
  (107, (.ireturn, 1), (0, 0, 0, 0)),
  (108, (.aload_n 0, 1), (0, 0, 0, 0)),
  (109, (.aload_n 0, 1), (0, 0, 0, 0)),
  (110, (.getfield 48, 3), (10, 5, 2, 0)),
  (113, (.getfield 283, 3), (1, 17, 0, 0)),
  (116, (.invokevirtual 176, 3), (181, 1, 10, 0)),
  (119, (.ireturn, 1), (0, 0, 0, 0)),
  (120, (.aload_n 0, 1), (0, 0, 0, 0)),
  (121, (.aload_n 0, 1), (0, 0, 0, 0)),
  (122, (.getfield 48, 3), (10, 5, 2, 0)),
  (125, (.invokevirtual 286, 3), (41, 0, 1, 0)),
  (128, (.invokevirtual 176, 3), (181, 1, 10, 0)),
  (131, (.ireturn, 1), (0, 0, 0, 0)),
  (132, (.aload_n 0, 1), (0, 0, 0, 0)),
  (133, (.aload_n 0, 1), (0, 0, 0, 0)),
  (134, (.getfield 48, 3), (10, 5, 2, 0)),
  (137, (.getfield 289, 3), (1, 18, 0, 0)),
  (140, (.invokevirtual 176, 3), (181, 1, 10, 0)),
  (143, (.ireturn, 1), (0, 0, 0, 0)),
  (144, (.aload_n 0, 1), (0, 0, 0, 0)),
  (145, (.aload_n 0, 1), (0, 0, 0, 0)),
  (146, (.getfield 48, 3), (10, 5, 2, 0)),
  (149, (.getfield 289, 3), (1, 18, 0, 0)),
  (152, (.iconst 1, 1), (0, 0, 0, 0)),
  (153, (.iand, 1), (0, 0, 0, 0)),
  (154, (.ifCond .ne 13, 3), (0, 0, 0, 0)),
  (157, (.aload_n 0, 1), (0, 0, 0, 0)),
  (158, (.getfield 48, 3), (10, 5, 2, 0)),
  (161, (.getfield 274, 3), (1, 14, 0, 0)),
  (164, (.goto 10, 3), (0, 0, 0, 0)),
  (167, (.aload_n 0, 1), (0, 0, 0, 0)),
  (168, (.getfield 48, 3), (10, 5, 2, 0)),
  (171, (.getfield 277, 3), (1, 15, 0, 0)),
  (174, (.invokevirtual 176, 3), (181, 1, 10, 0)),
  (177, (.ireturn, 1), (0, 0, 0, 0))]
noncomputable def tb_146 : List TE := [ -- X11_meet
  (0, (.aload_n 0, 1), (0, 0, 0, 0)),
  (1, (.getfield 48, 3), (10, 5, 2, 0)),
  (4, (.iload_n 1, 1), (0, 0, 0, 0)),
  (5, (.iload_n 2, 1), (0, 0, 0, 0)),
  (6, (.invokevirtual 265, 3), (24, 2, 1, 0)),
  (9, (.ifCond .ne 9, 3), (0, 0, 0, 0)),
  (12, (.aload_n 0, 1), (0, 0, 0, 0)),
  (13, (.iconst 1, 1), (0, 0, 0, 0)),
  (14, (.invokevirtual 132, 3), (183, 1, 10, 0)),
  (17, (.ireturn, 1), (0, 0, 0, 0)),
  (18, (.aload_n 0, 1), (0, 0, 0, 0)),
  (19, (.getfield 48, 3), (10, 5, 2, 0)),
  (22, (.iload_n 1, 1), (0, 0, 0, 0)),
  (23, (.iload_n 2, 1), (0, 0, 0, 0)),
  (24, (.invokevirtual 292, 3), (42, 2, 1, 0)),
  (27, (.ifCond .ne 10, 3), (0, 0, 0, 0)),
  (30, (.aload_n 0, 1), (0, 0, 0, 0)),
  (31, (.bipush 7, 2), (0, 0, 0, 0)),
  (33, (.invokevirtual 132, 3), (183, 1, 10, 0)),
  (36, (.ireturn, 1), (0, 0, 0, 0)),
  (37, (.aload_n 0, 1), (0, 0, 0, 0)),
  (38, (.aload_n 0, 1), (0, 0, 0, 0)),
  (39, (.getfield 48, 3), (10, 5, 2, 0)),
  (42, (.invokevirtual 286, 3), (41, 0, 1, 0)),
  (45, (.invokevirtual 176, 3), (181, 1, 10, 0)),
  (48, (.ireturn, 1), (0, 0, 0, 0))]
noncomputable def tb_147 : List TE := [ -- X11_act
  (0, (.iload_n 1, 1), (0, 0, 0, 0)),
  (1, (.ifCond .lt 8, 3), (0, 0, 0, 0)),
  (4, (.iload_n 1, 1), (0, 0, 0, 0)),
  (5, (.iconst 4, 1), (0, 0, 0, 0)),
  (6, (.if_icmp .lt 9, 3), (0, 0, 0, 0)),
  (9, (.aload_n 0, 1), (0, 0, 0, 0)),
  (10, (.iconst 1, 1), (0, 0, 0, 0)),
  (11, (.invokevirtual 132, 3), (183, 1, 10, 0)),
  (14, (.ireturn, 1), (0, 0, 0, 0)),
  (15, (.aload_n 0, 1), (0, 0, 0, 0)),
  (16, (.getfield 48, 3), (10, 5, 2, 0)),
  (19, (.invokevirtual 271, 3), (40, 0, 1, 0)),
  (22, (.ifCond .ne 10, 3), (0, 0, 0, 0)),
  (25, (.aload_n 0, 1), (0, 0, 0, 0)),
  (26, (.bipush 6, 2), (0, 0, 0, 0)),
  (28, (.invokevirtual 132, 3), (183, 1, 10, 0)),
  (31, (.ireturn, 1), (0, 0, 0, 0)),
  (32, (.aload_n 0, 1), (0, 0, 0, 0)),
  (33, (.getfield 62, 3), (10, 8, 2, 0)),
  (36, (.aload_n 0, 1), (0, 0, 0, 0)),
  (37, (.getfield 48, 3), (10, 5, 2, 0)),
  (40, (.iload_n 1, 1), (0, 0, 0, 0)),
  (41, (.invokevirtual 295, 3), (4, 2, 0, 0)),
  (44, (.ifCond .ne 10, 3), (0, 0, 0, 0)),
  (47, (.aload_n 0, 1), (0, 0, 0, 0)),
  (48, (.bipush 7, 2), (0, 0, 0, 0)),
  (50, (.invokevirtual 132, 3), (183, 1, 10, 0)),
  (53, (.ireturn, 1), (0, 0, 0, 0)),
  (54, (.aload_n 0, 1), (0, 0, 0, 0)),
  (55, (.aload_n 0, 1), (0, 0, 0, 0)),
  (56, (.getfield 62, 3), (10, 8, 2, 0)),
  (59, (.getfield 298, 3), (0, 0, 2, 0)),
  (62, (.aload_n 0, 1), (0, 0, 0, 0)),
  (63, (.getfield 62, 3), (10, 8, 2, 0)),
  (66, (.invokevirtual 299, 3), (6, 0, 0, 0)),
  (69, (.iaload, 1), (0, 0, 0, 0)),
  (70, (.invokevirtual 176, 3), (181, 1, 10, 0)),
  (73, (.ireturn, 1), (0, 0, 0, 0))]
noncomputable def tb_148 : List TE := [ -- X11_part
  (0, (.aload_n 0, 1), (0, 0, 0, 0)),
  (1, (.getfield 48, 3), (10, 5, 2, 0)),
  (4, (.invokevirtual 271, 3), (40, 0, 1, 0)),
  (7, (.ifCond .ne 10, 3), (0, 0, 0, 0)),
  (10, (.aload_n 0, 1), (0, 0, 0, 0)),
  (11, (.bipush 6, 2), (0, 0, 0, 0)),
  (13, (.invokevirtual 132, 3), (183, 1, 10, 0)),
  (16, (.ireturn, 1), (0, 0, 0, 0)),
  (17, (.aload_n 0, 1), (0, 0, 0, 0)),
  (18, (.getfield 48, 3), (10, 5, 2, 0)),
  (21, (.getfield 289, 3), (1, 18, 0, 0)),
  (24, (.istore_n 1, 1), (0, 0, 0, 0)),
  (25, (.aload_n 0, 1), (0, 0, 0, 0)),
  (26, (.getfield 48, 3), (10, 5, 2, 0)),
  (29, (.invokevirtual 302, 3), (43, 0, 1, 0)),
  (32, (.aload_n 0, 1), (0, 0, 0, 0)),
  (33, (.iload_n 1, 1), (0, 0, 0, 0)),
  (34, (.invokevirtual 176, 3), (181, 1, 10, 0)),
  (37, (.ireturn, 1), (0, 0, 0, 0))]
noncomputable def tb_149 : List TE := [ -- X11_give
  (0, (.aload_n 0, 1), (0, 0, 0, 0)),
  (1, (.getfield 48, 3), (10, 5, 2, 0)),
  (4, (.iload_n 1, 1), (0, 0, 0, 0)),
  (5, (.invokevirtual 238, 3), (23, 1, 1, 0)),
  (8, (.ifCond .eq 11, 3), (0, 0, 0, 0)),
  (11, (.aload_n 0, 1), (0, 0, 0, 0)),
  (12, (.iload_n 2, 1), (0, 0, 0, 0)),
  (13, (.invokevirtual 305, 3), (189, 1, 10, 0)),
  (16, (.ifCond .ne 9, 3), (0, 0, 0, 0)),
  (19, (.aload_n 0, 1), (0, 0, 0, 0)),
  (20, (.iconst 1, 1), (0, 0, 0, 0)),
  (21, (.invokevirtual 113, 3), (185, 1, 10, 0)),
  (24, (.ireturn, 1), (0, 0, 0, 0)),
  (25, (.iload_n 2, 1), (0, 0, 0, 0)),
  (26, (.invokestatic 308, 3), (190, 1, 0, 0)),
  (29, (.istore_n 3, 1), (0, 0, 0, 0)),
  (30, (.iload_n 3, 1), (0, 0, 0, 0)),
  (31, (.iconst (-1), 1), (0, 0, 0, 0)),
  (32, (.if_icmp .ne 24, 3), (0, 0, 0, 0)),
  (35, (.aload_n 0, 1), (0, 0, 0, 0)),
  (36, (.getfield 48, 3), (10, 5, 2, 0)),
  (39, (.getfield 262, 3), (1, 10, 2, 0)),
  (42, (.iload_n 1, 1), (0, 0, 0, 0)),
  (43, (.iaload, 1), (0, 0, 0, 0)),
  (44, (.iconst (-1), 1), (0, 0, 0, 0)),
  (45, (.if_icmp .eq 7, 3), (0, 0, 0, 0)),
  (48, (.iconst 1, 1), (0, 0, 0, 0)),
  (49, (.goto 24, 3), (0, 0, 0, 0)),
  (52, (.iconst 0, 1), (0, 0, 0, 0)),
  (53, (.goto 20, 3), (0, 0, 0, 0)),
  (56, (.aload_n 0, 1), (0, 0, 0, 0)),
  (57, (.getfield 48, 3), (10, 5, 2, 0)),
  (60, (.iload_n 3, 1), (0, 0, 0, 0)),
  (61, (.invokevirtual 232, 3), (27, 1, 1, 0)),
  (64, (.iconst (-1), 1), (0, 0, 0, 0)),
  (65, (.if_icmp .ne 7, 3), (0, 0, 0, 0)),
  (68, (.iconst 1, 1), (0, 0, 0, 0)),
  (69, (.goto 4, 3), (0, 0, 0, 0)),
  (72, (.iconst 0, 1), (0, 0, 0, 0)),
  (73, (.istore 4, 2), (0, 0, 0, 0)),
  (75, (.iload 4, 2), (0, 0, 0, 0)),
  (77, (.ifCond .ne 10, 3), (0, 0, 0, 0)),
  (80, (.aload_n 0, 1), (0, 0, 0, 0)),
  (81, (.bipush 7, 2), (0, 0, 0, 0)),
  (83, (.invokevirtual 113, 3), (185, 1, 10, 0)),
  (86, (.ireturn, 1), (0, 0, 0, 0)),
  (87, (.aload_n 0, 1), (0, 0, 0, 0)),
  (88, (.getfield 48, 3), (10, 5, 2, 0)),
  (91, (.getfield 262, 3), (1, 10, 2, 0)),
  (94, (.iload_n 1, 1), (0, 0, 0, 0)),
  (95, (.iload_n 3, 1), (0, 0, 0, 0)),
  (96, (.iastore, 1), (0, 0, 0, 0)),
  (97, (.aload_n 0, 1), (0, 0, 0, 0)),
  (98, (.invokevirtual 120, 3), (184, 0, 10, 0)),
  (101, (.ireturn, 1), (0, 0, 0, 0))]
noncomputable def tb_150 : List TE := [ -- X11_mend
  (0, (.aload_n 0, 1), (0, 0, 0, 0)),
  (1, (.getfield 48, 3), (10, 5, 2, 0)),
  (4, (.iload_n 1, 1), (0, 0, 0, 0)),
  (5, (.invokevirtual 214, 3), (22, 1, 1, 0)),
  (8, (.ifCond .ne 9, 3), (0, 0, 0, 0)),
  (11, (.aload_n 0, 1), (0, 0, 0, 0)),
  (12, (.iconst 1, 1), (0, 0, 0, 0)),
  (13, (.invokevirtual 132, 3), (183, 1, 10, 0)),
  (16, (.ireturn, 1), (0, 0, 0, 0)),
  (17, (.aload_n 0, 1), (0, 0, 0, 0)),
  (18, (.getfield 48, 3), (10, 5, 2, 0)),
  (21, (.getfield 226, 3), (1, 6, 2, 0)),
  (24, (.iload_n 1, 1), (0, 0, 0, 0)),
  (25, (.iaload, 1), (0, 0, 0, 0)),
  (26, (.istore_n 2, 1), (0, 0, 0, 0)),
  (27, (.iload_n 2, 1), (0, 0, 0, 0)),
  (28, (.ifCond .ne 10, 3), (0, 0, 0, 0)),
  (31, (.aload_n 0, 1), (0, 0, 0, 0)),
  (32, (.bipush 7, 2), (0, 0, 0, 0)),
  (34, (.invokevirtual 132, 3), (183, 1, 10, 0)),
  (37, (.ireturn, 1), (0, 0, 0, 0)),
  (38, (.aload_n 0, 1), (0, 0, 0, 0)),
  (39, (.getfield 48, 3), (10, 5, 2, 0)),
  (42, (.getfield 226, 3), (1, 6, 2, 0)),
  (45, (.iload_n 1, 1), (0, 0, 0, 0)),
  (46, (.iconst 0, 1), (0, 0, 0, 0)),
  (47, (.iastore, 1), (0, 0, 0, 0)),
  (48, (.aload_n 0, 1), (0, 0, 0, 0)),
  (49, (.iload_n 2, 1), (0, 0, 0, 0)),
  (50, (.invokevirtual 176, 3), (181, 1, 10, 0)),
  (53, (.ireturn, 1), (0, 0, 0, 0))]
noncomputable def tb_151 : List TE := [ -- X11_heal
  (0, (.aload_n 0, 1), (0, 0, 0, 0)),
  (1, (.getfield 48, 3), (10, 5, 2, 0)),
  (4, (.iload_n 1, 1), (0, 0, 0, 0)),
  (5, (.invokevirtual 238, 3), (23, 1, 1, 0)),
  (8, (.ifCond .eq 14, 3), (0, 0, 0, 0)),
  (11, (.iload_n 2, 1), (0, 0, 0, 0)),
  (12, (.iconst 1, 1), (0, 0, 0, 0)),
  (13, (.if_icmp .lt 9, 3), (0, 0, 0, 0)),
  (16, (.iload_n 2, 1), (0, 0, 0, 0)),
  (17, (.bipush 60, 2), (0, 0, 0, 0)),
  (19, (.if_icmp .le 9, 3), (0, 0, 0, 0)),
  (22, (.aload_n 0, 1), (0, 0, 0, 0)),
  (23, (.iconst 1, 1), (0, 0, 0, 0)),
  (24, (.invokevirtual 132, 3), (183, 1, 10, 0)),
  (27, (.ireturn, 1), (0, 0, 0, 0)),
  (28, (.aload_n 0, 1), (0, 0, 0, 0)),
  (29, (.getfield 48, 3), (10, 5, 2, 0)),
  (32, (.iload_n 1, 1), (0, 0, 0, 0)),
  (33, (.iload_n 2, 1), (0, 0, 0, 0)),
  (34, (.invokevirtual 311, 3), (44, 2, 1, 0)),
  (37, (.ifCond .ne 10, 3), (0, 0, 0, 0)),
  (40, (.aload_n 0, 1), (0, 0, 0, 0)),
  (41, (.bipush 7, 2), (0, 0, 0, 0)),
  (43, (.invokevirtual 132, 3), (183, 1, 10, 0)),
  (46, (.ireturn, 1), (0, 0, 0, 0)),
  (47, (.aload_n 0, 1), (0, 0, 0, 0)),
  (48, (.aload_n 0, 1), (0, 0, 0, 0)),
  (49, (.getfield 48, 3), (10, 5, 2, 0)),
  (52, (.getfield 244, 3), (1, 8, 2, 0)),
  (55, (.iload_n 1, 1), (0, 0, 0, 0)),
  (56, (.iaload, 1), (0, 0, 0, 0)),
  (57, (.invokevirtual 176, 3), (181, 1, 10, 0)),
  (60, (.ireturn, 1), (0, 0, 0, 0))]
noncomputable def tb_152 : List TE := [ -- X11_train
  (0, (.aload_n 0, 1), (0, 0, 0, 0)),
  (1, (.getfield 48, 3), (10, 5, 2, 0)),
  (4, (.iload_n 1, 1), (0, 0, 0, 0)),
  (5, (.invokevirtual 238, 3), (23, 1, 1, 0)),
  (8, (.ifCond .eq 13, 3), (0, 0, 0, 0)),
  (11, (.iload_n 2, 1), (0, 0, 0, 0)),
  (12, (.ifCond .lt 9, 3), (0, 0, 0, 0)),
  (15, (.iload_n 2, 1), (0, 0, 0, 0)),
  (16, (.bipush 9, 2), (0, 0, 0, 0)),
  (18, (.if_icmp .le 9, 3), (0, 0, 0, 0)),
  (21, (.aload_n 0, 1), (0, 0, 0, 0)),
  (22, (.iconst 1, 1), (0, 0, 0, 0)),
  (23, (.invokevirtual 113, 3), (185, 1, 10, 0)),
  (26, (.ireturn, 1), (0, 0, 0, 0)),
  (27, (.aload_n 0, 1), (0, 0, 0, 0)),
  (28, (.getfield 48, 3), (10, 5, 2, 0)),
  (31, (.getfield 241, 3), (1, 7, 2, 0)),
  (34, (.iload_n 1, 1), (0, 0, 0, 0)),
  (35, (.iload_n 2, 1), (0, 0, 0, 0)),
  (36, (.iastore, 1), (0, 0, 0, 0)),
  (37, (.aload_n 0, 1), (0, 0, 0, 0)),
  (38, (.invokevirtual 120, 3), (184, 0, 10, 0)),
  (41, (.ireturn, 1), (0, 0, 0, 0))]
noncomputable def tb_153 : List TE := [ -- X11_forge
  (0, (.iload_n 1, 1), (0, 0, 0, 0)),
  (1, (.iconst 1, 1), (0, 0, 0, 0)),
  (2, (.if_icmp .lt 19, 3), (0, 0, 0, 0)),
  (5, (.iload_n 1, 1), (0, 0, 0, 0)),
  (6, (.bipush 6, 2), (0, 0, 0, 0)),
  (8, (.if_icmp .gt 13, 3), (0, 0, 0, 0)),
  (11, (.iload_n 2, 1), (0, 0, 0, 0)),
  (12, (.ifCond .lt 9, 3), (0, 0, 0, 0)),
  (15, (.iload_n 2, 1), (0, 0, 0, 0)),
  (16, (.bipush 9, 2), (0, 0, 0, 0)),
  (18, (.if_icmp .le 9, 3), (0, 0, 0, 0)),
  (21, (.aload_n 0, 1), (0, 0, 0, 0)),
  (22, (.iconst 1, 1), (0, 0, 0, 0)),
  (23, (.invokevirtual 132, 3), (183, 1, 10, 0)),
  (26, (.ireturn, 1), (0, 0, 0, 0)),
  (27, (.iload_n 3, 1), (0, 0, 0, 0)),
  (28, (.iconst 1, 1), (0, 0, 0, 0)),
  (29, (.if_icmp .lt 9, 3), (0, 0, 0, 0)),
  (32, (.iload_n 3, 1), (0, 0, 0, 0)),
  (33, (.bipush 30, 2), (0, 0, 0, 0)),
  (35, (.if_icmp .le 9, 3), (0, 0, 0, 0)),
  (38, (.aload_n 0, 1), (0, 0, 0, 0)),
  (39, (.iconst 1, 1), (0, 0, 0, 0)),
  (40, (.invokevirtual 132, 3), (183, 1, 10, 0)),
  (43, (.ireturn, 1), (0, 0, 0, 0)),
  (44, (.aload_n 0, 1), (0, 0, 0, 0)),
  (45, (.getfield 48, 3), (10, 5, 2, 0)),
  (48, (.getfield 194, 3), (1, 0, 0, 0)),
  (51, (.bipush 8, 2), (0, 0, 0, 0)),
  (53, (.if_icmp .lt 9, 3), (0, 0, 0, 0)),
  (56, (.aload_n 0, 1), (0, 0, 0, 0)),
  (57, (.iconst 4, 1), (0, 0, 0, 0)),
  (58, (.invokevirtual 132, 3), (183, 1, 10, 0)),
  (61, (.ireturn, 1), (0, 0, 0, 0)),
  (62, (.aload_n 0, 1), (0, 0, 0, 0)),
  (63, (.aload_n 0, 1), (0, 0, 0, 0)),
  (64, (.getfield 48, 3), (10, 5, 2, 0)),
  (67, (.lconst 0, 1), (0, 0, 0, 0)),
  (68, (.iload_n 1, 1), (0, 0, 0, 0)),
  (69, (.iload_n 2, 1), (0, 0, 0, 0)),
  (70, (.iload_n 3, 1), (0, 0, 0, 0)),
  (71, (.invokevirtual 314, 3), (20, 4, 1, 0)),
  (74, (.invokevirtual 176, 3), (181, 1, 10, 0)),
  (77, (.ireturn, 1), (0, 0, 0, 0))]
noncomputable def tb_154 : List TE := [ -- X11_rule
  (0, (.iload_n 1, 1), (0, 0, 0, 0)),
  (1, (.ifCond .ge 7, 3), (0, 0, 0, 0)),
  (4, (.iconst (-1), 1), (0, 0, 0, 0)),
  (5, (.goto 6, 3), (0, 0, 0, 0)),
  (8, (.iload_n 1, 1), (0, 0, 0, 0)),
  (9, (.iconst 2, 1), (0, 0, 0, 0)),
  (10, (.isub, 1), (0, 0, 0, 0)),
  (11, (.istore_n 3, 1), (0, 0, 0, 0)),
  (12, (.iload_n 3, 1), (0, 0, 0, 0)),
  (13, (.iconst 1, 1), (0, 0, 0, 0)),
  (14, (.if_icmp .lt 26, 3), (0, 0, 0, 0)),
  (17, (.iload_n 3, 1), (0, 0, 0, 0)),
  (18, (.iconst 3, 1), (0, 0, 0, 0)),
  (19, (.if_icmp .gt 21, 3), (0, 0, 0, 0)),
  (22, (.iload_n 2, 1), (0, 0, 0, 0)),
  (23, (.getstatic 318, 3), (1, 0, 0, (-3))),
  (26, (.iload_n 3, 1), (0, 0, 0, 0)),
  (27, (.iaload, 1), (0, 0, 0, 0)),
  (28, (.if_icmp .lt 12, 3), (0, 0, 0, 0)),
  (31, (.iload_n 2, 1), (0, 0, 0, 0)),
  (32, (.getstatic 321, 3), (1, 0, 0, (-4))),
  (35, (.iload_n 3, 1), (0, 0, 0, 0)),
  (36, (.iaload, 1), (0, 0, 0, 0)),
  (37, (.if_icmp .le 9, 3), (0, 0, 0, 0)),
  (40, (.aload_n 0, 1), (0, 0, 0, 0)),
  (41, (.iconst 1, 1), (0, 0, 0, 0)),
  (42, (.invokevirtual 113, 3), (185, 1, 10, 0)),
  (45, (.ireturn, 1), (0, 0, 0, 0)),
  (46, (.aload_n 0, 1), (0, 0, 0, 0)),
  (47, (.getfield 48, 3), (10, 5, 2, 0)),
  (50, (.getfield 197, 3), (1, 2, 2, 0)),
  (53, (.iload_n 3, 1), (0, 0, 0, 0)),
  (54, (.iload_n 2, 1), (0, 0, 0, 0)),
  (55, (.iastore, 1), (0, 0, 0, 0)),
  (56, (.aload_n 0, 1), (0, 0, 0, 0)),
  (57, (.invokevirtual 120, 3), (184, 0, 10, 0)),
  (60, (.ireturn, 1), (0, 0, 0, 0))]
noncomputable def tb_155 : List TE := [ -- X11_acts
  (0, (.aload_n 0, 1), (0, 0, 0, 0)),
  (1, (.getfield 48, 3), (10, 5, 2, 0)),
  (4, (.invokevirtual 271, 3), (40, 0, 1, 0)),
  (7, (.ifCond .ne 10, 3), (0, 0, 0, 0)),
  (10, (.aload_n 0, 1), (0, 0, 0, 0)),
  (11, (.bipush 6, 2), (0, 0, 0, 0)),
  (13, (.invokevirtual 132, 3), (183, 1, 10, 0)),
  (16, (.ireturn, 1), (0, 0, 0, 0)),
  (17, (.aload_n 0, 1), (0, 0, 0, 0)),
  (18, (.getfield 62, 3), (10, 8, 2, 0)),
  (21, (.aload_n 0, 1), (0, 0, 0, 0)),
  (22, (.getfield 48, 3), (10, 5, 2, 0)),
  (25, (.invokevirtual 324, 3), (2, 1, 0, 0)),
  (28, (.iconst 0, 1), (0, 0, 0, 0)),
  (29, (.istore_n 1, 1), (0, 0, 0, 0)),
  (30, (.iconst 0, 1), (0, 0, 0, 0)),
  (31, (.istore_n 2, 1), (0, 0, 0, 0)),
  (32, (.iload_n 2, 1), (0, 0, 0, 0)),
  (33, (.iconst 4, 1), (0, 0, 0, 0)),
  (34, (.if_icmp .ge 26, 3), (0, 0, 0, 0)),
  (37, (.aload_n 0, 1), (0, 0, 0, 0)),
  (38, (.getfield 62, 3), (10, 8, 2, 0)),
  (41, (.iload_n 2, 1), (0, 0, 0, 0)),
  (42, (.invokevirtual 327, 3), (11, 1, 0, 0)),
  (45, (.ifCond .eq 9, 3), (0, 0, 0, 0)),
  (48, (.iload_n 1, 1), (0, 0, 0, 0)),
  (49, (.iconst 1, 1), (0, 0, 0, 0)),
  (50, (.iload_n 2, 1), (0, 0, 0, 0)),
  (51, (.ishl, 1), (0, 0, 0, 0)),
  (52, (.ior, 1), (0, 0, 0, 0)),
  (53, (.istore_n 1, 1), (0, 0, 0, 0)),
  (54, (.iinc 2 1, 3), (0, 0, 0, 0)),
  (57, (.goto (-25), 3), (0, 0, 0, 0)),
  (60, (.aload_n 0, 1), (0, 0, 0, 0)),
  (61, (.iload_n 1, 1), (0, 0, 0, 0)),
  (62, (.invokevirtual 176, 3), (181, 1, 10, 0)),
  (65, (.ireturn, 1), (0, 0, 0, 0))]
noncomputable def tb_156 : List TE := [ -- X11_wound
  (0, (.aload_n 0, 1), (0, 0, 0, 0)),
  (1, (.getfield 48, 3), (10, 5, 2, 0)),
  (4, (.invokevirtual 271, 3), (40, 0, 1, 0)),
  (7, (.ifCond .ne 10, 3), (0, 0, 0, 0)),
  (10, (.aload_n 0, 1), (0, 0, 0, 0)),
  (11, (.bipush 6, 2), (0, 0, 0, 0)),
  (13, (.invokevirtual 132, 3), (183, 1, 10, 0)),
  (16, (.ireturn, 1), (0, 0, 0, 0)),
  (17, (.aload_n 0, 1), (0, 0, 0, 0)),
  (18, (.getfield 62, 3), (10, 8, 2, 0)),
  (21, (.aload_n 0, 1), (0, 0, 0, 0)),
  (22, (.getfield 48, 3), (10, 5, 2, 0)),
  (25, (.invokevirtual 324, 3), (2, 1, 0, 0)),
  (28, (.aload_n 0, 1), (0, 0, 0, 0)),
  (29, (.aload_n 0, 1), (0, 0, 0, 0)),
  (30, (.getfield 62, 3), (10, 8, 2, 0)),
  (33, (.aload_n 0, 1), (0, 0, 0, 0)),
  (34, (.getfield 62, 3), (10, 8, 2, 0)),
  (37, (.invokevirtual 299, 3), (6, 0, 0, 0)),
  (40, (.invokevirtual 330, 3), (10, 1, 0, 0)),
  (43, (.invokevirtual 176, 3), (181, 1, 10, 0)),
  (46, (.ireturn, 1), (0, 0, 0, 0))]
noncomputable def tb_157 : List TE := [ -- X11_value
  (0, (.iload_n 1, 1), (0, 0, 0, 0)),
  (1, (.ifCond .lt 9, 3), (0, 0, 0, 0)),
  (4, (.iload_n 1, 1), (0, 0, 0, 0)),
  (5, (.bipush 7, 2), (0, 0, 0, 0)),
  (7, (.if_icmp .le 9, 3), (0, 0, 0, 0)),
  (10, (.aload_n 0, 1), (0, 0, 0, 0)),
  (11, (.iconst 1, 1), (0, 0, 0, 0)),
  (12, (.invokevirtual 132, 3), (183, 1, 10, 0)),
  (15, (.ireturn, 1), (0, 0, 0, 0)),
  (16, (.aload_n 0, 1), (0, 0, 0, 0)),
  (17, (.getfield 48, 3), (10, 5, 2, 0)),
  (20, (.invokevirtual 271, 3), (40, 0, 1, 0)),
  (23, (.ifCond .ne 10, 3), (0, 0, 0, 0)),
  (26, (.aload_n 0, 1), (0, 0, 0, 0)),
  (27, (.bipush 6, 2), (0, 0, 0, 0)),
  (29, (.invokevirtual 132, 3), (183, 1, 10, 0)),
  (32, (.ireturn, 1), (0, 0, 0, 0)),
  (33, (.aload_n 0, 1), (0, 0, 0, 0)),
  (34, (.getfield 62, 3), (10, 8, 2, 0)),
  (37, (.aload_n 0, 1), (0, 0, 0, 0)),
  (38, (.getfield 48, 3), (10, 5, 2, 0)),
  (41, (.invokevirtual 324, 3), (2, 1, 0, 0)),
  (44, (.aload_n 0, 1), (0, 0, 0, 0)),
  (45, (.aload_n 0, 1), (0, 0, 0, 0)),
  (46, (.getfield 62, 3), (10, 8, 2, 0)),
  (49, (.iload_n 1, 1), (0, 0, 0, 0)),
  (50, (.invokestatic 333, 3), (80, 2, 0, 0)),
  (53, (.invokevirtual 176, 3), (181, 1, 10, 0)),
  (56, (.ireturn, 1), (0, 0, 0, 0))]
noncomputable def tb_158 : List TE := [ -- X11_move
  (0, (.iload_n 1, 1), (0, 0, 0, 0)),
  (1, (.iconst 1, 1), (0, 0, 0, 0)),
  (2, (.if_icmp .lt 9, 3), (0, 0, 0, 0)),
  (5, (.iload_n 1, 1), (0, 0, 0, 0)),
  (6, (.bipush 7, 2), (0, 0, 0, 0)),
  (8, (.if_icmp .le 9, 3), (0, 0, 0, 0)),
  (11, (.aload_n 0, 1), (0, 0, 0, 0)),
  (12, (.iconst 1, 1), (0, 0, 0, 0)),
  (13, (.invokevirtual 132, 3), (183, 1, 10, 0)),
  (16, (.ireturn, 1), (0, 0, 0, 0)),
  (17, (.aload_n 0, 1), (0, 0, 0, 0)),
  (18, (.getfield 48, 3), (10, 5, 2, 0)),
  (21, (.invokevirtual 271, 3), (40, 0, 1, 0)),
  (24, (.ifCond .ne 10, 3), (0, 0, 0, 0)),
  (27, (.aload_n 0, 1), (0, 0, 0, 0)),
  (28, (.bipush 6, 2), (0, 0, 0, 0)),
  (30, (.invokevirtual 132, 3), (183, 1, 10, 0)),
  (33, (.ireturn, 1), (0, 0, 0, 0)),
  (34, (.aload_n 0, 1), (0, 0, 0, 0)),
  (35, (.getfield 62, 3), (10, 8, 2, 0)),
  (38, (.aload_n 0, 1), (0, 0, 0, 0)),
  (39, (.getfield 48, 3), (10, 5, 2, 0)),
  (42, (.invokevirtual 324, 3), (2, 1, 0, 0)),
  (45, (.aload_n 0, 1), (0, 0, 0, 0)),
  (46, (.aload_n 0, 1), (0, 0, 0, 0)),
  (47, (.getfield 62, 3), (10, 8, 2, 0)),
  (50, (.iload_n 1, 1), (0, 0, 0, 0)),
  (51, (.invokestatic 339, 3), (81, 2, 0, 0)),
  (54, (.invokevirtual 176, 3), (181, 1, 10, 0)),
  (57, (.ireturn, 1), (0, 0, 0, 0))]
noncomputable def tb_159 : List TE := [ -- X11_forced
  (0, (.aload_n 0, 1), (0, 0, 0, 0)),
  (1, (.getfield 48, 3), (10, 5, 2, 0)),
  (4, (.invokevirtual 271, 3), (40, 0, 1, 0)),
  (7, (.ifCond .ne 10, 3), (0, 0, 0, 0)),
  (10, (.aload_n 0, 1), (0, 0, 0, 0)),
  (11, (.bipush 6, 2), (0, 0, 0, 0)),
  (13, (.invokevirtual 132, 3), (183, 1, 10, 0)),
  (16, (.ireturn, 1), (0, 0, 0, 0)),
  (17, (.aload_n 0, 1), (0, 0, 0, 0)),
  (18, (.getfield 62, 3), (10, 8, 2, 0)),
  (21, (.aload_n 0, 1), (0, 0, 0, 0)),
  (22, (.getfield 48, 3), (10, 5, 2, 0)),
  (25, (.invokevirtual 324, 3), (2, 1, 0, 0)),
  (28, (.aload_n 0, 1), (0, 0, 0, 0)),
  (29, (.aload_n 0, 1), (0, 0, 0, 0)),
  (30, (.getfield 62, 3), (10, 8, 2, 0)),
  (33, (.invokestatic 342, 3), (83, 1, 0, 0)),
  (36, (.invokevirtual 235, 3), (182, 1, 10, 0)),
  (39, (.ireturn, 1), (0, 0, 0, 0))]
noncomputable def tb_160 : List TE := [ -- X11_reached
  (0, (.aload_n 0, 1), (0, 0, 0, 0)),
  (1, (.getfield 48, 3), (10, 5, 2, 0)),
  (4, (.invokevirtual 271, 3), (40, 0, 1, 0)),
  (7, (.ifCond .ne 10, 3), (0, 0, 0, 0)),
  (10, (.aload_n 0, 1), (0, 0, 0, 0)),
  (11, (.bipush 6, 2), (0, 0, 0, 0)),
  (13, (.invokevirtual 132, 3), (183, 1, 10, 0)),
  (16, (.ireturn, 1), (0, 0, 0, 0)),
  (17, (.aload_n 0, 1), (0, 0, 0, 0)),
  (18, (.getfield 62, 3), (10, 8, 2, 0)),
  (21, (.aload_n 0, 1), (0, 0, 0, 0)),
  (22, (.getfield 48, 3), (10, 5, 2, 0)),
  (25, (.invokevirtual 324, 3), (2, 1, 0, 0)),
  (28, (.aload_n 0, 1), (0, 0, 0, 0)),
  (29, (.getfield 62, 3), (10, 8, 2, 0)),
  (32, (.invokevirtual 346, 3), (8, 0, 0, 0)),
  (35, (.aload_n 0, 1), (0, 0, 0, 0)),
  (36, (.getfield 62, 3), (10, 8, 2, 0)),
  (39, (.aload_n 0, 1), (0, 0, 0, 0)),
  (40, (.getfield 62, 3), (10, 8, 2, 0)),
  (43, (.invokevirtual 299, 3), (6, 0, 0, 0)),
  (46, (.invokevirtual 349, 3), (9, 1, 0, 0)),
  (49, (.isub, 1), (0, 0, 0, 0)),
  (50, (.istore_n 1, 1), (0, 0, 0, 0)),
  (51, (.aload_n 0, 1), (0, 0, 0, 0)),
  (52, (.iload_n 1, 1), (0, 0, 0, 0)),
  (53, (.ifCond .gt 7, 3), (0, 0, 0, 0)),
  (56, (.iconst 0, 1), (0, 0, 0, 0)),
  (57, (.goto 8, 3), (0, 0, 0, 0)),
  (60, (.iload_n 1, 1), (0, 0, 0, 0)),
  (61, (.iload_n 1, 1), (0, 0, 0, 0)),
  (62, (.iconst 1, 1), (0, 0, 0, 0)),
  (63, (.iand, 1), (0, 0, 0, 0)),
  (64, (.iadd, 1), (0, 0, 0, 0)),
  (65, (.invokevirtual 176, 3), (181, 1, 10, 0)),
  (68, (.ireturn, 1), (0, 0, 0, 0))]
noncomputable def tb_161 : List TE := [ -- X11_needs
  (0, (.aload_n 0, 1), (0, 0, 0, 0)),
  (1, (.getfield 48, 3), (10, 5, 2, 0)),
  (4, (.iload_n 1, 1), (0, 0, 0, 0)),
  (5, (.iload_n 2, 1), (0, 0, 0, 0)),
  (6, (.invokevirtual 265, 3), (24, 2, 1, 0)),
  (9, (.ifCond .ne 9, 3), (0, 0, 0, 0)),
  (12, (.aload_n 0, 1), (0, 0, 0, 0)),
  (13, (.iconst 1, 1), (0, 0, 0, 0)),
  (14, (.invokevirtual 132, 3), (183, 1, 10, 0)),
  (17, (.ireturn, 1), (0, 0, 0, 0)),
  (18, (.aload_n 0, 1), (0, 0, 0, 0)),
  (19, (.aload_n 0, 1), (0, 0, 0, 0)),
  (20, (.getfield 48, 3), (10, 5, 2, 0)),
  (23, (.iload_n 1, 1), (0, 0, 0, 0)),
  (24, (.iload_n 2, 1), (0, 0, 0, 0)),
  (25, (.aload_n 0, 1), (0, 0, 0, 0)),
  (26, (.getfield 48, 3), (10, 5, 2, 0)),
  (29, (.getfield 262, 3), (1, 10, 2, 0)),
  (32, (.iload_n 1, 1), (0, 0, 0, 0)),
  (33, (.iaload, 1), (0, 0, 0, 0)),
  (34, (.invokestatic 352, 3), (55, 4, 0, 0)),
  (37, (.invokevirtual 235, 3), (182, 1, 10, 0)),
  (40, (.ireturn, 1), (0, 0, 0, 0))]
noncomputable def tb_162 : List TE := [ -- X11_needsWith
  (0, (.aload_n 0, 1), (0, 0, 0, 0)),
  (1, (.getfield 48, 3), (10, 5, 2, 0)),
  (4, (.iload_n 1, 1), (0, 0, 0, 0)),
  (5, (.iload_n 2, 1), (0, 0, 0, 0)),
  (6, (.invokevirtual 265, 3), (24, 2, 1, 0)),
  (9, (.ifCond .eq 11, 3), (0, 0, 0, 0)),
  (12, (.aload_n 0, 1), (0, 0, 0, 0)),
  (13, (.iload_n 3, 1), (0, 0, 0, 0)),
  (14, (.invokevirtual 305, 3), (189, 1, 10, 0)),
  (17, (.ifCond .ne 9, 3), (0, 0, 0, 0)),
  (20, (.aload_n 0, 1), (0, 0, 0, 0)),
  (21, (.iconst 1, 1), (0, 0, 0, 0)),
  (22, (.invokevirtual 132, 3), (183, 1, 10, 0)),
  (25, (.ireturn, 1), (0, 0, 0, 0)),
  (26, (.aload_n 0, 1), (0, 0, 0, 0)),
  (27, (.aload_n 0, 1), (0, 0, 0, 0)),
  (28, (.getfield 48, 3), (10, 5, 2, 0)),
  (31, (.iload_n 1, 1), (0, 0, 0, 0)),
  (32, (.iload_n 2, 1), (0, 0, 0, 0)),
  (33, (.iload_n 3, 1), (0, 0, 0, 0)),
  (34, (.invokestatic 308, 3), (190, 1, 0, 0)),
  (37, (.invokestatic 352, 3), (55, 4, 0, 0)),
  (40, (.invokevirtual 235, 3), (182, 1, 10, 0)),
  (43, (.ireturn, 1), (0, 0, 0, 0))]
noncomputable def tb_163 : List TE := [ -- X11_gift
  (0, (.aload_n 0, 1), (0, 0, 0, 0)),
  (1, (.getfield 48, 3), (10, 5, 2, 0)),
  (4, (.iload_n 1, 1), (0, 0, 0, 0)),
  (5, (.iload_n 2, 1), (0, 0, 0, 0)),
  (6, (.invokevirtual 265, 3), (24, 2, 1, 0)),
  (9, (.ifCond .ne 9, 3), (0, 0, 0, 0)),
  (12, (.aload_n 0, 1), (0, 0, 0, 0)),
  (13, (.iconst 1, 1), (0, 0, 0, 0)),
  (14, (.invokevirtual 132, 3), (183, 1, 10, 0)),
  (17, (.ireturn, 1), (0, 0, 0, 0)),
  (18, (.aload_n 0, 1), (0, 0, 0, 0)),
  (19, (.aload_n 0, 1), (0, 0, 0, 0)),
  (20, (.getfield 48, 3), (10, 5, 2, 0)),
  (23, (.iload_n 1, 1), (0, 0, 0, 0)),
  (24, (.iload_n 2, 1), (0, 0, 0, 0)),
  (25, (.invokestatic 356, 3), (56, 3, 0, 0)),
  (28, (.invokevirtual 235, 3), (182, 1, 10, 0)),
  (31, (.ireturn, 1), (0, 0, 0, 0))]
noncomputable def tb_164 : List TE := [ -- X11_fair
  (0, (.aload_n 0, 1), (0, 0, 0, 0)),
  (1, (.getfield 48, 3), (10, 5, 2, 0)),
  (4, (.iload_n 1, 1), (0, 0, 0, 0)),
  (5, (.iload_n 2, 1), (0, 0, 0, 0)),
  (6, (.invokevirtual 265, 3), (24, 2, 1, 0)),
  (9, (.ifCond .eq 12, 3), (0, 0, 0, 0)),
  (12, (.iload_n 3, 1), (0, 0, 0, 0)),
  (13, (.ifCond .lt 8, 3), (0, 0, 0, 0)),
  (16, (.iload_n 3, 1), (0, 0, 0, 0)),
  (17, (.iconst 2, 1), (0, 0, 0, 0)),
  (18, (.if_icmp .le 9, 3), (0, 0, 0, 0)),
  (21, (.aload_n 0, 1), (0, 0, 0, 0)),
  (22, (.iconst 1, 1), (0, 0, 0, 0)),
  (23, (.invokevirtual 132, 3), (183, 1, 10, 0)),
  (26, (.ireturn, 1), (0, 0, 0, 0)),
  (27, (.aload_n 0, 1), (0, 0, 0, 0)),
  (28, (.getfield 48, 3), (10, 5, 2, 0)),
  (31, (.iload_n 1, 1), (0, 0, 0, 0)),
  (32, (.iload_n 2, 1), (0, 0, 0, 0)),
  (33, (.invokestatic 360, 3), (58, 3, 0, 0)),
  (36, (.istore 4, 2), (0, 0, 0, 0)),
  (38, (.iload 4, 2), (0, 0, 0, 0)),
  (40, (.iconst (-1), 1), (0, 0, 0, 0)),
  (41, (.if_icmp .ne 10, 3), (0, 0, 0, 0)),
  (44, (.aload_n 0, 1), (0, 0, 0, 0)),
  (45, (.bipush 6, 2), (0, 0, 0, 0)),
  (47, (.invokevirtual 132, 3), (183, 1, 10, 0)),
  (50, (.ireturn, 1), (0, 0, 0, 0)),
  (51, (.iload_n 3, 1), (0, 0, 0, 0)),
  (52, (.lookupswitch 48 #[(0, 28), (1, 38)], 28), (0, 0, 0, 0)),
  (80, (.aload_n 0, 1), (0, 0, 0, 0)),
  (81, (.iload 4, 2), (0, 0, 0, 0)),
  (83, (.invokestatic 363, 3), (59, 1, 0, 0)),
  (86, (.invokevirtual 176, 3), (181, 1, 10, 0)),
  (89, (.ireturn, 1), (0, 0, 0, 0)),
  (90, (.aload_n 0, 1), (0, 0, 0, 0)),
  (91, (.iload 4, 2), (0, 0, 0, 0)),
  (93, (.invokestatic 366, 3), (60, 1, 0, 0)),
  (96, (.invokevirtual 176, 3), (181, 1, 10, 0)),
  (99, (.ireturn, 1), (0, 0, 0, 0)),
  (100, (.aload_n 0, 1), (0, 0, 0, 0)),
  (101, (.iload 4, 2), (0, 0, 0, 0)),
  (103, (.invokestatic 369, 3), (61, 1, 0, 0)),
  (106, (.invokevirtual 176, 3), (181, 1, 10, 0)),
  (109, (.ireturn, 1), (0, 0, 0, 0))]
noncomputable def tb_165 : List TE := [ -- X11_arms
  (0, (.aload_n 0, 1), (0, 0, 0, 0)),
  (1, (.iload_n 1, 1), (0, 0, 0, 0)),
  (2, (.iload_n 2, 1), (0, 0, 0, 0)),
  (3, (.invokevirtual 372, 3), (192, 2, 10, 0)),
  (6, (.ifCond .ne 9, 3), (0, 0, 0, 0)),
  (9, (.aload_n 0, 1), (0, 0, 0, 0)),
  (10, (.iconst 1, 1), (0, 0, 0, 0)),
  (11, (.invokevirtual 132, 3), (183, 1, 10, 0)),
  (14, (.ireturn, 1), (0, 0, 0, 0)),
  (15, (.aload_n 0, 1), (0, 0, 0, 0)),
  (16, (.getfield 69, 3), (10, 9, 2, 0)),
  (19, (.aload_n 0, 1), (0, 0, 0, 0)),
  (20, (.getfield 48, 3), (10, 5, 2, 0)),
  (23, (.iload_n 1, 1), (0, 0, 0, 0)),
  (24, (.iload_n 2, 1), (0, 0, 0, 0)),
  (25, (.invokevirtual 375, 3), (65, 3, 3, 0)),
  (28, (.aload_n 0, 1), (0, 0, 0, 0)),
  (29, (.aload_n 0, 1), (0, 0, 0, 0)),
  (30, (.getfield 69, 3), (10, 9, 2, 0)),
  (33, (.getfield 379, 3), (3, 1, 0, 0)),
  (36, (.invokevirtual 235, 3), (182, 1, 10, 0)),
  (39, (.ireturn, 1), (0, 0, 0, 0))]
noncomputable def tb_166 : List TE := [ -- X11_armOf
  (0, (.aload_n 0, 1), (0, 0, 0, 0)),
  (1, (.iload_n 1, 1), (0, 0, 0, 0)),
  (2, (.iload_n 2, 1), (0, 0, 0, 0)),
  (3, (.invokevirtual 372, 3), (192, 2, 10, 0)),
  (6, (.ifCond .eq 22, 3), (0, 0, 0, 0)),
  (9, (.aload_n 0, 1), (0, 0, 0, 0)),
  (10, (.getfield 48, 3), (10, 5, 2, 0)),
  (13, (.iload_n 3, 1), (0, 0, 0, 0)),
  (14, (.invokevirtual 238, 3), (23, 1, 1, 0)),
  (17, (.ifCond .eq 11, 3), (0, 0, 0, 0)),
  (20, (.iload_n 1, 1), (0, 0, 0, 0)),
  (21, (.iload_n 3, 1), (0, 0, 0, 0)),
  (22, (.ishr, 1), (0, 0, 0, 0)),
  (23, (.iconst 1, 1), (0, 0, 0, 0)),
  (24, (.iand, 1), (0, 0, 0, 0)),
  (25, (.ifCond .ne 9, 3), (0, 0, 0, 0)),
  (28, (.aload_n 0, 1), (0, 0, 0, 0)),
  (29, (.iconst 1, 1), (0, 0, 0, 0)),
  (30, (.invokevirtual 132, 3), (183, 1, 10, 0)),
  (33, (.ireturn, 1), (0, 0, 0, 0)),
  (34, (.aload_n 0, 1), (0, 0, 0, 0)),
  (35, (.getfield 69, 3), (10, 9, 2, 0)),
  (38, (.aload_n 0, 1), (0, 0, 0, 0)),
  (39, (.getfield 48, 3), (10, 5, 2, 0)),
  (42, (.iload_n 1, 1), (0, 0, 0, 0)),
  (43, (.iload_n 2, 1), (0, 0, 0, 0)),
  (44, (.invokevirtual 375, 3), (65, 3, 3, 0)),
  (47, (.aload_n 0, 1), (0, 0, 0, 0)),
  (48, (.getfield 69, 3), (10, 9, 2, 0)),
  (51, (.getfield 379, 3), (3, 1, 0, 0)),
  (54, (.iconst (-1), 1), (0, 0, 0, 0)),
  (55, (.if_icmp .ne 10, 3), (0, 0, 0, 0)),
  (58, (.aload_n 0, 1), (0, 0, 0, 0)),
  (59, (.bipush 6, 2), (0, 0, 0, 0)),
  (61, (.invokevirtual 132, 3), (183, 1, 10, 0)),
  (64, (.ireturn, 1), (0, 0, 0, 0)),
  (65, (.aload_n 0, 1), (0, 0, 0, 0)),
  (66, (.aload_n 0, 1), (0, 0, 0, 0)),
  (67, (.getfield 69, 3), (10, 9, 2, 0)),
  (70, (.getfield 382, 3), (3, 0, 2, 0)),
  (73, (.iload_n 3, 1), (0, 0, 0, 0)),
  (74, (.iaload, 1), (0, 0, 0, 0)),
  (75, (.invokevirtual 176, 3), (181, 1, 10, 0)),
  (78, (.ireturn, 1), (0, 0, 0, 0))]
noncomputable def tb_167 : List TE := [ -- X11_faster
  (0, (.aload_n 0, 1), (0, 0, 0, 0)),
  (1, (.getfield 48, 3), (10, 5, 2, 0)),
  (4, (.iload_n 1, 1), (0, 0, 0, 0)),
  (5, (.iload_n 2, 1), (0, 0, 0, 0)),
  (6, (.invokevirtual 265, 3), (24, 2, 1, 0)),
  (9, (.ifCond .eq 21, 3), (0, 0, 0, 0)),
  (12, (.iload_n 3, 1), (0, 0, 0, 0)),
  (13, (.ifCond .eq 17, 3), (0, 0, 0, 0)),
  (16, (.iload_n 3, 1), (0, 0, 0, 0)),
  (17, (.aload_n 0, 1), (0, 0, 0, 0)),
  (18, (.getfield 48, 3), (10, 5, 2, 0)),
  (21, (.getfield 194, 3), (1, 0, 0, 0)),
  (24, (.invokestatic 385, 3), (191, 2, 0, 0)),
  (27, (.ifCond .ne 9, 3), (0, 0, 0, 0)),
  (30, (.aload_n 0, 1), (0, 0, 0, 0)),
  (31, (.iconst 1, 1), (0, 0, 0, 0)),
  (32, (.invokevirtual 113, 3), (185, 1, 10, 0)),
  (35, (.ireturn, 1), (0, 0, 0, 0)),
  (36, (.iload_n 3, 1), (0, 0, 0, 0)),
  (37, (.invokestatic 388, 3), (339, 1, 0, 0)),
  (40, (.i2l, 1), (0, 0, 0, 0)),
  (41, (.lstore 4, 2), (0, 0, 0, 0)),
  (43, (.aload_n 0, 1), (0, 0, 0, 0)),
  (44, (.aload_n 0, 1), (0, 0, 0, 0)),
  (45, (.getfield 48, 3), (10, 5, 2, 0)),
  (48, (.iload_n 1, 1), (0, 0, 0, 0)),
  (49, (.iload_n 2, 1), (0, 0, 0, 0)),
  (50, (.iload_n 3, 1), (0, 0, 0, 0)),
  (51, (.invokestatic 393, 3), (62, 4, 0, 0)),
  (54, (.i2l, 1), (0, 0, 0, 0)),
  (55, (.lload 4, 2), (0, 0, 0, 0)),
  (57, (.lload 4, 2), (0, 0, 0, 0)),
  (59, (.lmul, 1), (0, 0, 0, 0)),
  (60, (.invokevirtual 396, 3), (186, 2, 10, 0)),
  (63, (.aload_n 0, 1), (0, 0, 0, 0)),
  (64, (.invokevirtual 120, 3), (184, 0, 10, 0)),
  (67, (.ireturn, 1), (0, 0, 0, 0))]
noncomputable def tb_168 : List TE := [ -- X11_enough
  (0, (.aload_n 0, 1), (0, 0, 0, 0)),
  (1, (.getfield 48, 3), (10, 5, 2, 0)),
  (4, (.iload_n 1, 1), (0, 0, 0, 0)),
  (5, (.iload_n 2, 1), (0, 0, 0, 0)),
  (6, (.invokevirtual 265, 3), (24, 2, 1, 0)),
  (9, (.ifCond .eq 13, 3), (0, 0, 0, 0)),
  (12, (.iload_n 3, 1), (0, 0, 0, 0)),
  (13, (.ifCond .lt 9, 3), (0, 0, 0, 0)),
  (16, (.iload_n 3, 1), (0, 0, 0, 0)),
  (17, (.bipush 12, 2), (0, 0, 0, 0)),
  (19, (.if_icmp .le 9, 3), (0, 0, 0, 0)),
  (22, (.aload_n 0, 1), (0, 0, 0, 0)),
  (23, (.iconst 1, 1), (0, 0, 0, 0)),
  (24, (.invokevirtual 113, 3), (185, 1, 10, 0)),
  (27, (.ireturn, 1), (0, 0, 0, 0)),
  (28, (.aload_n 0, 1), (0, 0, 0, 0)),
  (29, (.getfield 48, 3), (10, 5, 2, 0)),
  (32, (.iload_n 1, 1), (0, 0, 0, 0)),
  (33, (.iload_n 2, 1), (0, 0, 0, 0)),
  (34, (.aload_n 0, 1), (0, 0, 0, 0)),
  (35, (.getfield 48, 3), (10, 5, 2, 0)),
  (38, (.getfield 262, 3), (1, 10, 2, 0)),
  (41, (.iload_n 1, 1), (0, 0, 0, 0)),
  (42, (.iaload, 1), (0, 0, 0, 0)),
  (43, (.invokestatic 352, 3), (55, 4, 0, 0)),
  (46, (.istore 4, 2), (0, 0, 0, 0)),
  (48, (.aload_n 0, 1), (0, 0, 0, 0)),
  (49, (.getfield 48, 3), (10, 5, 2, 0)),
  (52, (.getfield 197, 3), (1, 2, 2, 0)),
  (55, (.iconst 3, 1), (0, 0, 0, 0)),
  (56, (.iaload, 1), (0, 0, 0, 0)),
  (57, (.istore 5, 2), (0, 0, 0, 0)),
  (59, (.iload 4, 2), (0, 0, 0, 0)),
  (61, (.iconst (-1), 1), (0, 0, 0, 0)),
  (62, (.if_icmp .ne 7, 3), (0, 0, 0, 0)),
  (65, (.lconst 0, 1), (0, 0, 0, 0)),
  (66, (.goto 11, 3), (0, 0, 0, 0)),
  (69, (.iload 4, 2), (0, 0, 0, 0)),
  (71, (.iload_n 3, 1), (0, 0, 0, 0)),
  (72, (.iload 5, 2), (0, 0, 0, 0)),
  (74, (.invokestatic 400, 3), (63, 3, 0, 0)),
  (77, (.lstore 6, 2), (0, 0, 0, 0)),
  (79, (.aload_n 0, 1), (0, 0, 0, 0)),
  (80, (.lload 6, 2), (0, 0, 0, 0)),
  (82, (.bipush 16, 2), (0, 0, 0, 0)),
  (84, (.iload_n 3, 1), (0, 0, 0, 0)),
  (85, (.invokestatic 404, 3), (64, 2, 0, 0)),
  (88, (.invokevirtual 396, 3), (186, 2, 10, 0)),
  (91, (.aload_n 0, 1), (0, 0, 0, 0)),
  (92, (.invokevirtual 120, 3), (184, 0, 10, 0)),
  (95, (.ireturn, 1), (0, 0, 0, 0))]
noncomputable def tb_169 : List TE := [ -- X11_champion
  (0, (.aload_n 0, 1), (0, 0, 0, 0)),
  (1, (.getfield 48, 3), (10, 5, 2, 0)),
  (4, (.iload_n 1, 1), (0, 0, 0, 0)),
  (5, (.invokevirtual 238, 3), (23, 1, 1, 0)),
  (8, (.ifCond .ne 9, 3), (0, 0, 0, 0)),
  (11, (.aload_n 0, 1), (0, 0, 0, 0)),
  (12, (.iconst 1, 1), (0, 0, 0, 0)),
  (13, (.invokevirtual 132, 3), (183, 1, 10, 0)),
  (16, (.ireturn, 1), (0, 0, 0, 0)),
  (17, (.aload_n 0, 1), (0, 0, 0, 0)),
  (18, (.aload_n 0, 1), (0, 0, 0, 0)),
  (19, (.getfield 48, 3), (10, 5, 2, 0)),
  (22, (.iload_n 1, 1), (0, 0, 0, 0)),
  (23, (.invokestatic 407, 3), (57, 2, 0, 0)),
  (26, (.invokevirtual 235, 3), (182, 1, 10, 0)),
  (29, (.ireturn, 1), (0, 0, 0, 0))]
noncomputable def tb_170 : List TE := [ -- X11_heldBack
  (0, (.iload 5, 2), (0, 0, 0, 0)),
  (2, (.ifCond .lt 9, 3), (0, 0, 0, 0)),
  (5, (.iload 5, 2), (0, 0, 0, 0)),
  (7, (.iconst 1, 1), (0, 0, 0, 0)),
  (8, (.if_icmp .le 7, 3), (0, 0, 0, 0)),
  (11, (.iconst 1, 1), (0, 0, 0, 0)),
  (12, (.goto 12, 3), (0, 0, 0, 0)),
  (15, (.aload_n 0, 1), (0, 0, 0, 0)),
  (16, (.iload_n 1, 1), (0, 0, 0, 0)),
  (17, (.iload_n 2, 1), (0, 0, 0, 0)),
  (18, (.iload_n 3, 1), (0, 0, 0, 0)),
  (19, (.iload 4, 2), (0, 0, 0, 0)),
  (21, (.invokevirtual 411, 3), (194, 4, 10, 0)),
  (24, (.istore 6, 2), (0, 0, 0, 0)),
  (26, (.iload 6, 2), (0, 0, 0, 0)),
  (28, (.ifCond .eq 10, 3), (0, 0, 0, 0)),
  (31, (.aload_n 0, 1), (0, 0, 0, 0)),
  (32, (.iload 6, 2), (0, 0, 0, 0)),
  (34, (.invokevirtual 132, 3), (183, 1, 10, 0)),
  (37, (.ireturn, 1), (0, 0, 0, 0)),
  (38, (.aload_n 0, 1), (0, 0, 0, 0)),
  (39, (.aload_n 0, 1), (0, 0, 0, 0)),
  (40, (.getfield 62, 3), (10, 8, 2, 0)),
  (43, (.getfield 415, 3), (0, 1, 2, 0)),
  (46, (.iload 5, 2), (0, 0, 0, 0)),
  (48, (.iaload, 1), (0, 0, 0, 0)),
  (49, (.invokevirtual 176, 3), (181, 1, 10, 0)),
  (52, (.ireturn, 1), (0, 0, 0, 0))]
noncomputable def tb_171 : List TE := [ -- X11_fallen
  (0, (.aload_n 0, 1), (0, 0, 0, 0)),
  (1, (.iload_n 1, 1), (0, 0, 0, 0)),
  (2, (.iload_n 2, 1), (0, 0, 0, 0)),
  (3, (.iload_n 3, 1), (0, 0, 0, 0)),
  (4, (.iload 4, 2), (0, 0, 0, 0)),
  (6, (.invokevirtual 411, 3), (194, 4, 10, 0)),
  (9, (.istore 5, 2), (0, 0, 0, 0)),
  (11, (.iload 5, 2), (0, 0, 0, 0)),
  (13, (.ifCond .eq 10, 3), (0, 0, 0, 0)),
  (16, (.aload_n 0, 1), (0, 0, 0, 0)),
  (17, (.iload 5, 2), (0, 0, 0, 0)),
  (19, (.invokevirtual 132, 3), (183, 1, 10, 0)),
  (22, (.ireturn, 1), (0, 0, 0, 0)),
  (23, (.aload_n 0, 1), (0, 0, 0, 0)),
  (24, (.getfield 62, 3), (10, 8, 2, 0)),
  (27, (.invokevirtual 418, 3), (7, 0, 0, 0)),
  (30, (.ifCond .ne 10, 3), (0, 0, 0, 0)),
  (33, (.aload_n 0, 1), (0, 0, 0, 0)),
  (34, (.bipush 6, 2), (0, 0, 0, 0)),
  (36, (.invokevirtual 132, 3), (183, 1, 10, 0)),
  (39, (.ireturn, 1), (0, 0, 0, 0)),
  (40, (.aload_n 0, 1), (0, 0, 0, 0)),
  (41, (.aload_n 0, 1), (0, 0, 0, 0)),
  (42, (.getfield 62, 3), (10, 8, 2, 0)),
  (45, (.getfield 298, 3), (0, 0, 2, 0)),
  (48, (.iconst 0, 1), (0, 0, 0, 0)),
  (49, (.iaload, 1), (0, 0, 0, 0)),
  (50, (.ifCond .ne 7, 3), (0, 0, 0, 0)),
  (53, (.iload_n 1, 1), (0, 0, 0, 0)),
  (54, (.goto 4, 3), (0, 0, 0, 0)),
  (57, (.iload_n 2, 1), (0, 0, 0, 0)),
  (58, (.invokevirtual 176, 3), (181, 1, 10, 0)),
  (61, (.ireturn, 1), (0, 0, 0, 0))]
noncomputable def tb_172 : List TE := [ -- X11_hurts
  (0, (.aload_n 0, 1), (0, 0, 0, 0)),
  (1, (.getfield 10, 3), (10, 0, 2, 0)),
  (4, (.iload_n 1, 1), (0, 0, 0, 0)),
  (5, (.invokevirtual 109, 3), (103, 1, 7, 0)),
  (8, (.ifCond .ne 9, 3), (0, 0, 0, 0)),
  (11, (.aload_n 0, 1), (0, 0, 0, 0)),
  (12, (.iconst 1, 1), (0, 0, 0, 0)),
  (13, (.invokevirtual 132, 3), (183, 1, 10, 0)),
  (16, (.ireturn, 1), (0, 0, 0, 0)),
  (17, (.aload_n 0, 1), (0, 0, 0, 0)),
  (18, (.getfield 10, 3), (10, 0, 2, 0)),
  (21, (.iload_n 1, 1), (0, 0, 0, 0)),
  (22, (.invokevirtual 140, 3), (104, 1, 7, 0)),
  (25, (.ifCond .eq 9, 3), (0, 0, 0, 0)),
  (28, (.aload_n 0, 1), (0, 0, 0, 0)),
  (29, (.iconst 2, 1), (0, 0, 0, 0)),
  (30, (.invokevirtual 132, 3), (183, 1, 10, 0)),
  (33, (.ireturn, 1), (0, 0, 0, 0)),
  (34, (.aload_n 0, 1), (0, 0, 0, 0)),
  (35, (.getfield 10, 3), (10, 0, 2, 0)),
  (38, (.iload_n 1, 1), (0, 0, 0, 0)),
  (39, (.iconst 0, 1), (0, 0, 0, 0)),
  (40, (.aload_n 0, 1), (0, 0, 0, 0)),
  (41, (.getfield 48, 3), (10, 5, 2, 0)),
  (44, (.getfield 173, 3), (1, 1, 0, 0)),
  (47, (.invokevirtual 147, 3), (106, 3, 7, 0)),
  (50, (.ifCond .ne 9, 3), (0, 0, 0, 0)),
  (53, (.aload_n 0, 1), (0, 0, 0, 0)),
  (54, (.iconst 3, 1), (0, 0, 0, 0)),
  (55, (.invokevirtual 132, 3), (183, 1, 10, 0)),
  (58, (.ireturn, 1), (0, 0, 0, 0)),
  (59, (.iconst 0, 1), (0, 0, 0, 0)),
  (60, (.istore_n 2, 1), (0, 0, 0, 0)),
  (61, (.iconst 0, 1), (0, 0, 0, 0)),
  (62, (.istore_n 3, 1), (0, 0, 0, 0)),
  (63, (.iload_n 3, 1), (0, 0, 0, 0)),
  (64, (.aload_n 0, 1), (0, 0, 0, 0)),
  (65, (.getfield 48, 3), (10, 5, 2, 0)),
  (68, (.getfield 173, 3), (1, 1, 0, 0)),
  (71, (.if_icmp .ge 65, 3), (0, 0, 0, 0)),
  (74, (.aload_n 0, 1), (0, 0, 0, 0)),
  (75, (.getfield 10, 3), (10, 0, 2, 0)),
  (78, (.iload_n 1, 1), (0, 0, 0, 0)),
  (79, (.iload_n 3, 1), (0, 0, 0, 0)),
  (80, (.invokevirtual 136, 3), (110, 2, 7, 0)),
  (83, (.lstore 4, 2), (0, 0, 0, 0)),
  (85, (.lload 4, 2), (0, 0, 0, 0)),
  (87, (.lconst 0, 1), (0, 0, 0, 0)),
  (88, (.lcmp, 1), (0, 0, 0, 0)),
  (89, (.ifCond .lt 27, 3), (0, 0, 0, 0)),
  (92, (.lload 4, 2), (0, 0, 0, 0)),
  (94, (.aload_n 0, 1), (0, 0, 0, 0)),
  (95, (.getfield 48, 3), (10, 5, 2, 0)),
  (98, (.getfield 173, 3), (1, 1, 0, 0)),
  (101, (.i2l, 1), (0, 0, 0, 0)),
  (102, (.lcmp, 1), (0, 0, 0, 0)),
  (103, (.ifCond .ge 13, 3), (0, 0, 0, 0)),
  (106, (.iload_n 2, 1), (0, 0, 0, 0)),
  (107, (.lload 4, 2), (0, 0, 0, 0)),
  (109, (.l2i, 1), (0, 0, 0, 0)),
  (110, (.ishr, 1), (0, 0, 0, 0)),
  (111, (.iconst 1, 1), (0, 0, 0, 0)),
  (112, (.iand, 1), (0, 0, 0, 0)),
  (113, (.ifCond .eq 9, 3), (0, 0, 0, 0)),
  (116, (.aload_n 0, 1), (0, 0, 0, 0)),
  (117, (.iconst 5, 1), (0, 0, 0, 0)),
  (118, (.invokevirtual 132, 3), (183, 1, 10, 0)),
  (121, (.ireturn, 1), (0, 0, 0, 0)),
  (122, (.iload_n 2, 1), (0, 0, 0, 0)),
  (123, (.iconst 1, 1), (0, 0, 0, 0)),
  (124, (.lload 4, 2), (0, 0, 0, 0)),
  (126, (.l2i, 1), (0, 0, 0, 0)),
  (127, (.ishl, 1), (0, 0, 0, 0)),
  (128, (.ior, 1), (0, 0, 0, 0)),
  (129, (.istore_n 2, 1), (0, 0, 0, 0)),
  (130, (.iinc 3 1, 3), (0, 0, 0, 0)),
  (133, (.goto (-70), 3), (0, 0, 0, 0)),
  (136, (.aload_n 0, 1), (0, 0, 0, 0)),
  (137, (.aload_n 0, 1), (0, 0, 0, 0)),
  (138, (.iload_n 1, 1), (0, 0, 0, 0)),
  (139, (.invokevirtual 421, 3), (193, 1, 10, 0)),
  (142, (.invokevirtual 176, 3), (181, 1, 10, 0)),
  (145, (.ireturn, 1), (0, 0, 0, 0))]
noncomputable def tb_173 : List TE := [ -- X11_least
  (0, (.aload_n 0, 1), (0, 0, 0, 0)),
  (1, (.getfield 76, 3), (10, 10, 2, 0)),
  (4, (.aload_n 0, 1), (0, 0, 0, 0)),
  (5, (.getfield 48, 3), (10, 5, 2, 0)),
  (8, (.invokevirtual 424, 3), (77, 1, 5, 0)),
  (11, (.aload_n 0, 1), (0, 0, 0, 0)),
  (12, (.aload_n 0, 1), (0, 0, 0, 0)),
  (13, (.getfield 76, 3), (10, 10, 2, 0)),
  (16, (.getfield 427, 3), (5, 1, 0, 0)),
  (19, (.invokevirtual 176, 3), (181, 1, 10, 0)),
  (22, (.ireturn, 1), (0, 0, 0, 0))]
noncomputable def tb_174 : List TE := [ -- X11_leastAt
  (0, (.iload_n 1, 1), (0, 0, 0, 0)),
  (1, (.ifCond .lt 14, 3), (0, 0, 0, 0)),
  (4, (.iload_n 1, 1), (0, 0, 0, 0)),
  (5, (.aload_n 0, 1), (0, 0, 0, 0)),
  (6, (.getfield 48, 3), (10, 5, 2, 0)),
  (9, (.getfield 173, 3), (1, 1, 0, 0)),
  (12, (.if_icmp .lt 9, 3), (0, 0, 0, 0)),
  (15, (.aload_n 0, 1), (0, 0, 0, 0)),
  (16, (.iconst 1, 1), (0, 0, 0, 0)),
  (17, (.invokevirtual 132, 3), (183, 1, 10, 0)),
  (20, (.ireturn, 1), (0, 0, 0, 0)),
  (21, (.aload_n 0, 1), (0, 0, 0, 0)),
  (22, (.getfield 76, 3), (10, 10, 2, 0)),
  (25, (.aload_n 0, 1), (0, 0, 0, 0)),
  (26, (.getfield 48, 3), (10, 5, 2, 0)),
  (29, (.invokevirtual 424, 3), (77, 1, 5, 0)),
  (32, (.aload_n 0, 1), (0, 0, 0, 0)),
  (33, (.aload_n 0, 1), (0, 0, 0, 0)),
  (34, (.getfield 76, 3), (10, 10, 2, 0)),
  (37, (.getfield 428, 3), (5, 0, 2, 0)),
  (40, (.iload_n 1, 1), (0, 0, 0, 0)),
  (41, (.iaload, 1), (0, 0, 0, 0)),
  (42, (.invokevirtual 176, 3), (181, 1, 10, 0)),
  (45, (.ireturn, 1), (0, 0, 0, 0))]
noncomputable def tb_175 : List TE := [ -- X11_copyLife
  (0, (.aload_n 0, 1), (0, 0, 0, 0)),
  (1, (.getfield 10, 3), (10, 0, 2, 0)),
  (4, (.iload_n 1, 1), (0, 0, 0, 0)),
  (5, (.invokevirtual 109, 3), (103, 1, 7, 0)),
  (8, (.ifCond .ne 9, 3), (0, 0, 0, 0)),
  (11, (.aload_n 0, 1), (0, 0, 0, 0)),
  (12, (.iconst 1, 1), (0, 0, 0, 0)),
  (13, (.invokevirtual 132, 3), (183, 1, 10, 0)),
  (16, (.ireturn, 1), (0, 0, 0, 0)),
  (17, (.aload_n 0, 1), (0, 0, 0, 0)),
  (18, (.getfield 10, 3), (10, 0, 2, 0)),
  (21, (.iload_n 1, 1), (0, 0, 0, 0)),
  (22, (.invokevirtual 140, 3), (104, 1, 7, 0)),
  (25, (.ifCond .eq 9, 3), (0, 0, 0, 0)),
  (28, (.aload_n 0, 1), (0, 0, 0, 0)),
  (29, (.iconst 2, 1), (0, 0, 0, 0)),
  (30, (.invokevirtual 132, 3), (183, 1, 10, 0)),
  (33, (.ireturn, 1), (0, 0, 0, 0)),
  (34, (.aload_n 0, 1), (0, 0, 0, 0)),
  (35, (.getfield 10, 3), (10, 0, 2, 0)),
  (38, (.iload_n 1, 1), (0, 0, 0, 0)),
  (39, (.iconst 0, 1), (0, 0, 0, 0)),
  (40, (.aload_n 0, 1), (0, 0, 0, 0)),
  (41, (.getfield 48, 3), (10, 5, 2, 0)),
  (44, (.getfield 173, 3), (1, 1, 0, 0)),
  (47, (.invokevirtual 147, 3), (106, 3, 7, 0)),
  (50, (.ifCond .ne 9, 3), (0, 0, 0, 0)),
  (53, (.aload_n 0, 1), (0, 0, 0, 0)),
  (54, (.iconst 3, 1), (0, 0, 0, 0)),
  (55, (.invokevirtual 132, 3), (183, 1, 10, 0)),
  (58, (.ireturn, 1), (0, 0, 0, 0)),
  (59, (.iconst 0, 1), (0, 0, 0, 0)),
  (60, (.istore_n 2, 1), (0, 0, 0, 0)),
  (61, (.iload_n 2, 1), (0, 0, 0, 0)),
  (62, (.aload_n 0, 1), (0, 0, 0, 0)),
  (63, (.getfield 48, 3), (10, 5, 2, 0)),
  (66, (.getfield 173, 3), (1, 1, 0, 0)),
  (69, (.if_icmp .ge 28, 3), (0, 0, 0, 0)),
  (72, (.aload_n 0, 1), (0, 0, 0, 0)),
  (73, (.getfield 10, 3), (10, 0, 2, 0)),
  (76, (.iload_n 1, 1), (0, 0, 0, 0)),
  (77, (.iload_n 2, 1), (0, 0, 0, 0)),
  (78, (.aload_n 0, 1), (0, 0, 0, 0)),
  (79, (.getfield 48, 3), (10, 5, 2, 0)),
  (82, (.getfield 244, 3), (1, 8, 2, 0)),
  (85, (.iload_n 2, 1), (0, 0, 0, 0)),
  (86, (.iaload, 1), (0, 0, 0, 0)),
  (87, (.i2l, 1), (0, 0, 0, 0)),
  (88, (.invokevirtual 128, 3), (109, 3, 7, 0)),
  (91, (.iinc 2 1, 3), (0, 0, 0, 0)),
  (94, (.goto (-33), 3), (0, 0, 0, 0)),
  (97, (.aload_n 0, 1), (0, 0, 0, 0)),
  (98, (.aload_n 0, 1), (0, 0, 0, 0)),
  (99, (.getfield 48, 3), (10, 5, 2, 0)),
  (102, (.getfield 173, 3), (1, 1, 0, 0)),
  (105, (.invokevirtual 176, 3), (181, 1, 10, 0)),
  (108, (.ireturn, 1), (0, 0, 0, 0))]
noncomputable def tb_176 : List TE := [ -- X11_live
  (0, (.iload_n 1, 1), (0, 0, 0, 0)),
  (1, (.ifCond .lt 10, 3), (0, 0, 0, 0)),
  (4, (.iload_n 1, 1), (0, 0, 0, 0)),
  (5, (.sipush 9999, 3), (0, 0, 0, 0)),
  (8, (.if_icmp .le 9, 3), (0, 0, 0, 0)),
  (11, (.aload_n 0, 1), (0, 0, 0, 0)),
  (12, (.iconst 1, 1), (0, 0, 0, 0)),
  (13, (.invokevirtual 132, 3), (183, 1, 10, 0)),
  (16, (.ireturn, 1), (0, 0, 0, 0)),
  (17, (.aload_n 0, 1), (0, 0, 0, 0)),
  (18, (.getfield 48, 3), (10, 5, 2, 0)),
  (21, (.getfield 179, 3), (1, 19, 2, 0)),
  (24, (.getfield 429, 3), (8, 0, 3, 0)),
  (27, (.ifCond .ne 10, 3), (0, 0, 0, 0)),
  (30, (.aload_n 0, 1), (0, 0, 0, 0)),
  (31, (.bipush 6, 2), (0, 0, 0, 0)),
  (33, (.invokevirtual 132, 3), (183, 1, 10, 0)),
  (36, (.ireturn, 1), (0, 0, 0, 0)),
  (37, (.aload_n 0, 1), (0, 0, 0, 0)),
  (38, (.getfield 85, 3), (10, 11, 2, 0)),
  (41, (.aload_n 0, 1), (0, 0, 0, 0)),
  (42, (.getfield 48, 3), (10, 5, 2, 0)),
  (45, (.iload_n 1, 1), (0, 0, 0, 0)),
  (46, (.invokevirtual 433, 3), (68, 2, 4, 0)),
  (49, (.aload_n 0, 1), (0, 0, 0, 0)),
  (50, (.aload_n 0, 1), (0, 0, 0, 0)),
  (51, (.getfield 85, 3), (10, 11, 2, 0)),
  (54, (.getfield 437, 3), (4, 3, 0, 0)),
  (57, (.invokevirtual 176, 3), (181, 1, 10, 0)),
  (60, (.ireturn, 1), (0, 0, 0, 0))]
noncomputable def tb_177 : List TE := [ -- X11_lived
  (0, (.iload_n 1, 1), (0, 0, 0, 0)),
  (1, (.ifCond .lt 8, 3), (0, 0, 0, 0)),
  (4, (.iload_n 1, 1), (0, 0, 0, 0)),
  (5, (.iconst 4, 1), (0, 0, 0, 0)),
  (6, (.if_icmp .le 9, 3), (0, 0, 0, 0)),
  (9, (.aload_n 0, 1), (0, 0, 0, 0)),
  (10, (.iconst 1, 1), (0, 0, 0, 0)),
  (11, (.invokevirtual 132, 3), (183, 1, 10, 0)),
  (14, (.ireturn, 1), (0, 0, 0, 0)),
  (15, (.aload_n 0, 1), (0, 0, 0, 0)),
  (16, (.getfield 85, 3), (10, 11, 2, 0)),
  (19, (.getfield 438, 3), (4, 2, 3, 0)),
  (22, (.ifCond .ne 10, 3), (0, 0, 0, 0)),
  (25, (.aload_n 0, 1), (0, 0, 0, 0)),
  (26, (.bipush 6, 2), (0, 0, 0, 0)),
  (28, (.invokevirtual 132, 3), (183, 1, 10, 0)),
  (31, (.ireturn, 1), (0, 0, 0, 0)),
  (32, (.iload_n 1, 1), (0, 0, 0, 0)),
  (33, (.tableswitch 79 0 3 #[31, 43, 55, 67], 31), (0, 0, 0, 0)),
  (64, (.aload_n 0, 1), (0, 0, 0, 0)),
  (65, (.aload_n 0, 1), (0, 0, 0, 0)),
  (66, (.getfield 85, 3), (10, 11, 2, 0)),
  (69, (.getfield 441, 3), (4, 4, 0, 0)),
  (72, (.invokevirtual 176, 3), (181, 1, 10, 0)),
  (75, (.ireturn, 1), (0, 0, 0, 0)),
  (76, (.aload_n 0, 1), (0, 0, 0, 0)),
  (77, (.aload_n 0, 1), (0, 0, 0, 0)),
  (78, (.getfield 85, 3), (10, 11, 2, 0)),
  (81, (.getfield 444, 3), (4, 5, 0, 0)),
  (84, (.invokevirtual 176, 3), (181, 1, 10, 0)),
  (87, (.ireturn, 1), (0, 0, 0, 0)),
  (88, (.aload_n 0, 1), (0, 0, 0, 0)),
  (89, (.aload_n 0, 1), (0, 0, 0, 0)),
  (90, (.getfield 85, 3), (10, 11, 2, 0)),
  (93, (.getfield 447, 3), (4, 6, 0, 0)),
  (96, (.invokevirtual 176, 3), (181, 1, 10, 0)),
  (99, (.ireturn, 1), (0, 0, 0, 0)),
  (100, (.aload_n 0, 1), (0, 0, 0, 0)),
  (101, (.aload_n 0, 1), (0, 0, 0, 0)),
  (102, (.getfield 85, 3), (10, 11, 2, 0)),
  (105, (.getfield 450, 3), (4, 7, 0, 0)),
  (108, (.invokevirtual 176, 3), (181, 1, 10, 0)),
  (111, (.ireturn, 1), (0, 0, 0, 0)),
  (112, (.aload_n 0, 1), (0, 0, 0, 0)),
  (113, (.aload_n 0, 1), (0, 0, 0, 0)),
  (114, (.getfield 85, 3), (10, 11, 2, 0)),
  (117, (.getfield 453, 3), (4, 8, 3, 0)),
  (120, (.ifCond .eq 7, 3), (0, 0, 0, 0)),
  (123, (.iconst 1, 1), (0, 0, 0, 0)),
  (124, (.goto 4, 3), (0, 0, 0, 0)),
  (127, (.iconst 0, 1), (0, 0, 0, 0)),
  (128, (.invokevirtual 176, 3), (181, 1, 10, 0)),
  (131, (.ireturn, 1), (0, 0, 0, 0))]
noncomputable def tb_178 : List TE := [ -- X11_mean
  (0, (.iload_n 1, 1), (0, 0, 0, 0)),
  (1, (.ifCond .lt 21, 3), (0, 0, 0, 0)),
  (4, (.iload_n 1, 1), (0, 0, 0, 0)),
  (5, (.sipush 9999, 3), (0, 0, 0, 0)),
  (8, (.if_icmp .gt 14, 3), (0, 0, 0, 0)),
  (11, (.iload_n 2, 1), (0, 0, 0, 0)),
  (12, (.iconst 1, 1), (0, 0, 0, 0)),
  (13, (.if_icmp .lt 9, 3), (0, 0, 0, 0)),
  (16, (.iload_n 2, 1), (0, 0, 0, 0)),
  (17, (.bipush 20, 2), (0, 0, 0, 0)),
  (19, (.if_icmp .le 9, 3), (0, 0, 0, 0)),
  (22, (.aload_n 0, 1), (0, 0, 0, 0)),
  (23, (.iconst 1, 1), (0, 0, 0, 0)),
  (24, (.invokevirtual 113, 3), (185, 1, 10, 0)),
  (27, (.ireturn, 1), (0, 0, 0, 0)),
  (28, (.iload_n 1, 1), (0, 0, 0, 0)),
  (29, (.iload_n 2, 1), (0, 0, 0, 0)),
  (30, (.iadd, 1), (0, 0, 0, 0)),
  (31, (.iconst 1, 1), (0, 0, 0, 0)),
  (32, (.isub, 1), (0, 0, 0, 0)),
  (33, (.sipush 9999, 3), (0, 0, 0, 0)),
  (36, (.if_icmp .le 9, 3), (0, 0, 0, 0)),
  (39, (.aload_n 0, 1), (0, 0, 0, 0)),
  (40, (.iconst 1, 1), (0, 0, 0, 0)),
  (41, (.invokevirtual 113, 3), (185, 1, 10, 0)),
  (44, (.ireturn, 1), (0, 0, 0, 0)),
  (45, (.aload_n 0, 1), (0, 0, 0, 0)),
  (46, (.getfield 48, 3), (10, 5, 2, 0)),
  (49, (.getfield 179, 3), (1, 19, 2, 0)),
  (52, (.getfield 429, 3), (8, 0, 3, 0)),
  (55, (.ifCond .ne 10, 3), (0, 0, 0, 0)),
  (58, (.aload_n 0, 1), (0, 0, 0, 0)),
  (59, (.bipush 6, 2), (0, 0, 0, 0)),
  (61, (.invokevirtual 113, 3), (185, 1, 10, 0)),
  (64, (.ireturn, 1), (0, 0, 0, 0)),
  (65, (.lconst 0, 1), (0, 0, 0, 0)),
  (66, (.lstore_n 3, 1), (0, 0, 0, 0)),
  (67, (.iconst 0, 1), (0, 0, 0, 0)),
  (68, (.istore 5, 2), (0, 0, 0, 0)),
  (70, (.iload 5, 2), (0, 0, 0, 0)),
  (72, (.iload_n 2, 1), (0, 0, 0, 0)),
  (73, (.if_icmp .ge 46, 3), (0, 0, 0, 0)),
  (76, (.aload_n 0, 1), (0, 0, 0, 0)),
  (77, (.getfield 52, 3), (10, 6, 2, 0)),
  (80, (.aload_n 0, 1), (0, 0, 0, 0)),
  (81, (.getfield 48, 3), (10, 5, 2, 0)),
  (84, (.invokevirtual 169, 3), (19, 1, 1, 0)),
  (87, (.aload_n 0, 1), (0, 0, 0, 0)),
  (88, (.getfield 89, 3), (10, 12, 2, 0)),
  (91, (.aload_n 0, 1), (0, 0, 0, 0)),
  (92, (.getfield 52, 3), (10, 6, 2, 0)),
  (95, (.iload_n 1, 1), (0, 0, 0, 0)),
  (96, (.iload 5, 2), (0, 0, 0, 0)),
  (98, (.iadd, 1), (0, 0, 0, 0)),
  (99, (.invokevirtual 433, 3), (68, 2, 4, 0)),
  (102, (.lload_n 3, 1), (0, 0, 0, 0)),
  (103, (.aload_n 0, 1), (0, 0, 0, 0)),
  (104, (.getfield 52, 3), (10, 6, 2, 0)),
  (107, (.invokevirtual 211, 3), (39, 0, 1, 0)),
  (110, (.i2l, 1), (0, 0, 0, 0)),
  (111, (.ladd, 1), (0, 0, 0, 0)),
  (112, (.lstore_n 3, 1), (0, 0, 0, 0)),
  (113, (.iinc 5 1, 3), (0, 0, 0, 0)),
  (116, (.goto (-46), 3), (0, 0, 0, 0)),
  (119, (.aload_n 0, 1), (0, 0, 0, 0)),
  (120, (.lload_n 3, 1), (0, 0, 0, 0)),
  (121, (.iload_n 2, 1), (0, 0, 0, 0)),
  (122, (.i2l, 1), (0, 0, 0, 0)),
  (123, (.invokevirtual 396, 3), (186, 2, 10, 0)),
  (126, (.aload_n 0, 1), (0, 0, 0, 0)),
  (127, (.invokevirtual 120, 3), (184, 0, 10, 0)),
  (130, (.ireturn, 1), (0, 0, 0, 0))]
noncomputable def tb_179 : List TE := [ -- X11_mark
  (0, (.aload_n 0, 1), (0, 0, 0, 0)),
  (1, (.getfield 456, 3), (10, 13, 0, 0)),
  (4, (.iconst 3, 1), (0, 0, 0, 0)),
  (5, (.if_icmp .lt 9, 3), (0, 0, 0, 0)),
  (8, (.aload_n 0, 1), (0, 0, 0, 0)),
  (9, (.iconst 4, 1), (0, 0, 0, 0)),
  (10, (.invokevirtual 132, 3), (183, 1, 10, 0)),
  (13, (.ireturn, 1), (0, 0, 0, 0)),
  (14, (.aload_n 0, 1), (0, 0, 0, 0)),
  (15, (.getfield 55, 3), (10, 7, 2, 0)),
  (18, (.aload_n 0, 1), (0, 0, 0, 0)),
  (19, (.getfield 456, 3), (10, 13, 0, 0)),
  (22, (.aaload, 1), (24, 0, 0, 0)),
  (23, (.aload_n 0, 1), (0, 0, 0, 0)),
  (24, (.getfield 48, 3), (10, 5, 2, 0)),
  (27, (.invokevirtual 169, 3), (19, 1, 1, 0)),
  (30, (.aload_n 0, 1), (0, 0, 0, 0)),
  (31, (.dup, 1), (0, 0, 0, 0)),
  (32, (.getfield 456, 3), (10, 13, 0, 0)),
  (35, (.iconst 1, 1), (0, 0, 0, 0)),
  (36, (.iadd, 1), (0, 0, 0, 0)),
  (37, (.putfield 456, 3), (10, 13, 0, 0)),
  (40, (.aload_n 0, 1), (0, 0, 0, 0)),
  (41, (.aload_n 0, 1), (0, 0, 0, 0)),
  (42, (.getfield 456, 3), (10, 13, 0, 0)),
  (45, (.invokevirtual 176, 3), (181, 1, 10, 0)),
  (48, (.ireturn, 1), (0, 0, 0, 0))]
noncomputable def tb_180 : List TE := [ -- X11_undo
  (0, (.aload_n 0, 1), (0, 0, 0, 0)),
  (1, (.getfield 456, 3), (10, 13, 0, 0)),
  (4, (.ifCond .gt 10, 3), (0, 0, 0, 0)),
  (7, (.aload_n 0, 1), (0, 0, 0, 0)),
  (8, (.bipush 6, 2), (0, 0, 0, 0)),
  (10, (.invokevirtual 132, 3), (183, 1, 10, 0)),
  (13, (.ireturn, 1), (0, 0, 0, 0)),
  (14, (.aload_n 0, 1), (0, 0, 0, 0)),
  (15, (.dup, 1), (0, 0, 0, 0)),
  (16, (.getfield 456, 3), (10, 13, 0, 0)),
  (19, (.iconst 1, 1), (0, 0, 0, 0)),
  (20, (.isub, 1), (0, 0, 0, 0)),
  (21, (.putfield 456, 3), (10, 13, 0, 0)),
  (24, (.aload_n 0, 1), (0, 0, 0, 0)),
  (25, (.getfield 48, 3), (10, 5, 2, 0)),
  (28, (.aload_n 0, 1), (0, 0, 0, 0)),
  (29, (.getfield 55, 3), (10, 7, 2, 0)),
  (32, (.aload_n 0, 1), (0, 0, 0, 0)),
  (33, (.getfield 456, 3), (10, 13, 0, 0)),
  (36, (.aaload, 1), (24, 0, 0, 0)),
  (37, (.invokevirtual 169, 3), (19, 1, 1, 0)),
  (40, (.aload_n 0, 1), (0, 0, 0, 0)),
  (41, (.aload_n 0, 1), (0, 0, 0, 0)),
  (42, (.getfield 456, 3), (10, 13, 0, 0)),
  (45, (.invokevirtual 176, 3), (181, 1, 10, 0)),
  (48, (.ireturn, 1), (0, 0, 0, 0))]
noncomputable def tb_181 : List TE := [ -- X11_tell
  (0, (.aload_n 0, 1), (0, 0, 0, 0)),
  (1, (.iconst 0, 1), (0, 0, 0, 0)),
  (2, (.putfield 103, 3), (10, 15, 0, 0)),
  (5, (.iload_n 1, 1), (0, 0, 0, 0)),
  (6, (.ireturn, 1), (0, 0, 0, 0))]
noncomputable def tb_182 : List TE := [ -- X11_tellFound
  (0, (.iload_n 1, 1), (0, 0, 0, 0)),
  (1, (.iconst (-1), 1), (0, 0, 0, 0)),
  (2, (.if_icmp .ne 12, 3), (0, 0, 0, 0)),
  (5, (.aload_n 0, 1), (0, 0, 0, 0)),
  (6, (.bipush 6, 2), (0, 0, 0, 0)),
  (8, (.invokevirtual 132, 3), (183, 1, 10, 0)),
  (11, (.goto 8, 3), (0, 0, 0, 0)),
  (14, (.aload_n 0, 1), (0, 0, 0, 0)),
  (15, (.iload_n 1, 1), (0, 0, 0, 0)),
  (16, (.invokevirtual 176, 3), (181, 1, 10, 0)),
  (19, (.ireturn, 1), (0, 0, 0, 0))]
noncomputable def tb_183 : List TE := [ -- X11_refuse
  (0, (.aload_n 0, 1), (0, 0, 0, 0)),
  (1, (.iload_n 1, 1), (0, 0, 0, 0)),
  (2, (.putfield 103, 3), (10, 15, 0, 0)),
  (5, (.iconst (-1), 1), (0, 0, 0, 0)),
  (6, (.ireturn, 1), (0, 0, 0, 0))]
noncomputable def tb_184 : List TE := [ -- X11_grant
  (0, (.aload_n 0, 1), (0, 0, 0, 0)),
  (1, (.iconst 0, 1), (0, 0, 0, 0)),
  (2, (.putfield 103, 3), (10, 15, 0, 0)),
  (5, (.iconst 1, 1), (0, 0, 0, 0)),
  (6, (.ireturn, 1), (0, 0, 0, 0))]
noncomputable def tb_185 : List TE := [ -- X11_deny
  (0, (.aload_n 0, 1), (0, 0, 0, 0)),
  (1, (.iload_n 1, 1), (0, 0, 0, 0)),
  (2, (.putfield 103, 3), (10, 15, 0, 0)),
  (5, (.iconst 0, 1), (0, 0, 0, 0)),
  (6, (.ireturn, 1), (0, 0, 0, 0))]
noncomputable def tb_186 : List TE := [ -- X11_tellFraction
  (0, (.lload_n 1, 1), (0, 0, 0, 0)),
  (1, (.lstore 5, 2), (0, 0, 0, 0)),
  (3, (.lload_n 3, 1), (0, 0, 0, 0)),
  (4, (.lstore 7, 2), (0, 0, 0, 0)),
  (6, (.iconst 0, 1), (0, 0, 0, 0)),
  (7, (.istore 9, 2), (0, 0, 0, 0)),
  (9, (.iload 9, 2), (0, 0, 0, 0)),
  (11, (.bipush 100, 2), (0, 0, 0, 0)),
  (13, (.if_icmp .ge 31, 3), (0, 0, 0, 0)),
  (16, (.lload 7, 2), (0, 0, 0, 0)),
  (18, (.lconst 0, 1), (0, 0, 0, 0)),
  (19, (.lcmp, 1), (0, 0, 0, 0)),
  (20, (.ifCond .eq 24, 3), (0, 0, 0, 0)),
  (23, (.lload 5, 2), (0, 0, 0, 0)),
  (25, (.lload 7, 2), (0, 0, 0, 0)),
  (27, (.lrem, 1), (0, 0, 0, 0)),
  (28, (.lstore 10, 2), (0, 0, 0, 0)),
  (30, (.lload 7, 2), (0, 0, 0, 0)),
  (32, (.lstore 5, 2), (0, 0, 0, 0)),
  (34, (.lload 10, 2), (0, 0, 0, 0)),
  (36, (.lstore 7, 2), (0, 0, 0, 0)),
  (38, (.iinc 9 1, 3), (0, 0, 0, 0)),
  (41, (.goto (-32), 3), (0, 0, 0, 0)),
  (44, (.lload 5, 2), (0, 0, 0, 0)),
  (46, (.lconst 0, 1), (0, 0, 0, 0)),
  (47, (.lcmp, 1), (0, 0, 0, 0)),
  (48, (.ifCond .ne 7, 3), (0, 0, 0, 0)),
  (51, (.lconst 1, 1), (0, 0, 0, 0)),
  (52, (.goto 5, 3), (0, 0, 0, 0)),
  (55, (.lload 5, 2), (0, 0, 0, 0)),
  (57, (.lstore 9, 2), (0, 0, 0, 0)),
  (59, (.aload_n 0, 1), (0, 0, 0, 0)),
  (60, (.lload_n 1, 1), (0, 0, 0, 0)),
  (61, (.lload 9, 2), (0, 0, 0, 0)),
  (63, (.ldiv, 1), (0, 0, 0, 0)),
  (64, (.putfield 106, 3), (10, 18, 1, 0)),
  (67, (.aload_n 0, 1), (0, 0, 0, 0)),
  (68, (.lload_n 3, 1), (0, 0, 0, 0)),
  (69, (.lload 9, 2), (0, 0, 0, 0)),
  (71, (.ldiv, 1), (0, 0, 0, 0)),
  (72, (.putfield 99, 3), (10, 19, 1, 0)),
  (75, (.return_, 1), (0, 0, 0, 0))]
noncomputable def tb_187 : List TE := [ -- X11_putOnTape
  (0, (.bipush 24, 2), (0, 0, 0, 0)),
  (2, (.istore_n 2, 1), (0, 0, 0, 0)),
  (3, (.iload_n 2, 1), (0, 0, 0, 0)),
  (4, (.ifCond .lt 42, 3), (0, 0, 0, 0)),
  (7, (.aload_n 0, 1), (0, 0, 0, 0)),
  (8, (.getfield 155, 3), (10, 14, 0, 0)),
  (11, (.sipush 900, 3), (0, 0, 0, 0)),
  (14, (.if_icmp .ge 32, 3), (0, 0, 0, 0)),
  (17, (.aload_n 0, 1), (0, 0, 0, 0)),
  (18, (.getfield 16, 3), (10, 1, 2, 0)),
  (21, (.aload_n 0, 1), (0, 0, 0, 0)),
  (22, (.getfield 155, 3), (10, 14, 0, 0)),
  (25, (.iload_n 1, 1), (0, 0, 0, 0)),
  (26, (.iload_n 2, 1), (0, 0, 0, 0)),
  (27, (.ishr, 1), (0, 0, 0, 0)),
  (28, (.i2b, 1), (0, 0, 0, 0)),
  (29, (.bastore, 1), (0, 0, 0, 0)),
  (30, (.aload_n 0, 1), (0, 0, 0, 0)),
  (31, (.dup, 1), (0, 0, 0, 0)),
  (32, (.getfield 155, 3), (10, 14, 0, 0)),
  (35, (.iconst 1, 1), (0, 0, 0, 0)),
  (36, (.iadd, 1), (0, 0, 0, 0)),
  (37, (.putfield 155, 3), (10, 14, 0, 0)),
  (40, (.iinc 2 (-8), 3), (0, 0, 0, 0)),
  (43, (.goto (-40), 3), (0, 0, 0, 0)),
  (46, (.return_, 1), (0, 0, 0, 0))]
noncomputable def tb_188 : List TE := [ -- X11_keepFault
  (0, (.aload_n 0, 1), (0, 0, 0, 0)),
  (1, (.iconst 0, 1), (0, 0, 0, 0)),
  (2, (.putfield 155, 3), (10, 14, 0, 0)),
  (5, (.aload_n 0, 1), (0, 0, 0, 0)),
  (6, (.aload_n 0, 1), (0, 0, 0, 0)),
  (7, (.getfield 25, 3), (10, 2, 2, 0)),
  (10, (.getfield 459, 3), (6, 12, 0, 0)),
  (13, (.putfield 92, 3), (10, 16, 0, 0)),
  (16, (.aload_n 0, 1), (0, 0, 0, 0)),
  (17, (.aload_n 0, 1), (0, 0, 0, 0)),
  (18, (.getfield 25, 3), (10, 2, 2, 0)),
  (21, (.getfield 460, 3), (6, 13, 0, 0)),
  (24, (.putfield 96, 3), (10, 17, 0, 0)),
  (27, (.return_, 1), (0, 0, 0, 0))]
noncomputable def tb_189 : List TE := [ -- X11_isThingOrNone
  (0, (.iload_n 1, 1), (0, 0, 0, 0)),
  (1, (.bipush 8, 2), (0, 0, 0, 0)),
  (3, (.if_icmp .eq 14, 3), (0, 0, 0, 0)),
  (6, (.aload_n 0, 1), (0, 0, 0, 0)),
  (7, (.getfield 48, 3), (10, 5, 2, 0)),
  (10, (.iload_n 1, 1), (0, 0, 0, 0)),
  (11, (.invokevirtual 214, 3), (22, 1, 1, 0)),
  (14, (.ifCond .eq 7, 3), (0, 0, 0, 0)),
  (17, (.iconst 1, 1), (0, 0, 0, 0)),
  (18, (.goto 4, 3), (0, 0, 0, 0)),
  (21, (.iconst 0, 1), (0, 0, 0, 0)),
  (22, (.ireturn, 1), (0, 0, 0, 0))]
noncomputable def tb_190 : List TE := [ -- X11_asHeld
  (0, (.iload_n 0, 1), (0, 0, 0, 0)),
  (1, (.bipush 8, 2), (0, 0, 0, 0)),
  (3, (.if_icmp .ne 7, 3), (0, 0, 0, 0)),
  (6, (.iconst (-1), 1), (0, 0, 0, 0)),
  (7, (.goto 4, 3), (0, 0, 0, 0)),
  (10, (.iload_n 0, 1), (0, 0, 0, 0)),
  (11, (.ireturn, 1), (0, 0, 0, 0))]
noncomputable def tb_191 : List TE := [ -- X11_isSetOf
  (0, (.iload_n 0, 1), (0, 0, 0, 0)),
  (1, (.ifCond .lt 13, 3), (0, 0, 0, 0)),
  (4, (.iload_n 0, 1), (0, 0, 0, 0)),
  (5, (.iload_n 1, 1), (0, 0, 0, 0)),
  (6, (.ishr, 1), (0, 0, 0, 0)),
  (7, (.ifCond .ne 7, 3), (0, 0, 0, 0)),
  (10, (.iconst 1, 1), (0, 0, 0, 0)),
  (11, (.goto 4, 3), (0, 0, 0, 0)),
  (14, (.iconst 0, 1), (0, 0, 0, 0)),
  (15, (.ireturn, 1), (0, 0, 0, 0))]
noncomputable def tb_192 : List TE := [ -- X11_isSetWithout
  (0, (.aload_n 0, 1), (0, 0, 0, 0)),
  (1, (.getfield 48, 3), (10, 5, 2, 0)),
  (4, (.iload_n 2, 1), (0, 0, 0, 0)),
  (5, (.invokevirtual 238, 3), (23, 1, 1, 0)),
  (8, (.ifCond .eq 29, 3), (0, 0, 0, 0)),
  (11, (.iload_n 1, 1), (0, 0, 0, 0)),
  (12, (.aload_n 0, 1), (0, 0, 0, 0)),
  (13, (.getfield 48, 3), (10, 5, 2, 0)),
  (16, (.getfield 173, 3), (1, 1, 0, 0)),
  (19, (.invokestatic 385, 3), (191, 2, 0, 0)),
  (22, (.ifCond .eq 15, 3), (0, 0, 0, 0)),
  (25, (.iload_n 1, 1), (0, 0, 0, 0)),
  (26, (.iload_n 2, 1), (0, 0, 0, 0)),
  (27, (.ishr, 1), (0, 0, 0, 0)),
  (28, (.iconst 1, 1), (0, 0, 0, 0)),
  (29, (.iand, 1), (0, 0, 0, 0)),
  (30, (.ifCond .ne 7, 3), (0, 0, 0, 0)),
  (33, (.iconst 1, 1), (0, 0, 0, 0)),
  (34, (.goto 4, 3), (0, 0, 0, 0)),
  (37, (.iconst 0, 1), (0, 0, 0, 0)),
  (38, (.ireturn, 1), (0, 0, 0, 0))]
noncomputable def tb_193 : List TE := [ -- X11_hurtsOfTray
  (0, (.iconst 0, 1), (0, 0, 0, 0)),
  (1, (.istore_n 2, 1), (0, 0, 0, 0)),
  (2, (.iconst 0, 1), (0, 0, 0, 0)),
  (3, (.istore_n 3, 1), (0, 0, 0, 0)),
  (4, (.iload_n 3, 1), (0, 0, 0, 0)),
  (5, (.aload_n 0, 1), (0, 0, 0, 0)),
  (6, (.getfield 48, 3), (10, 5, 2, 0)),
  (9, (.getfield 173, 3), (1, 1, 0, 0)),
  (12, (.if_icmp .ge 63, 3), (0, 0, 0, 0)),
  (15, (.iload_n 3, 1), (0, 0, 0, 0)),
  (16, (.iconst 1, 1), (0, 0, 0, 0)),
  (17, (.iadd, 1), (0, 0, 0, 0)),
  (18, (.istore 4, 2), (0, 0, 0, 0)),
  (20, (.iload 4, 2), (0, 0, 0, 0)),
  (22, (.aload_n 0, 1), (0, 0, 0, 0)),
  (23, (.getfield 48, 3), (10, 5, 2, 0)),
  (26, (.getfield 173, 3), (1, 1, 0, 0)),
  (29, (.if_icmp .ge 40, 3), (0, 0, 0, 0)),
  (32, (.iload_n 2, 1), (0, 0, 0, 0)),
  (33, (.aload_n 0, 1), (0, 0, 0, 0)),
  (34, (.getfield 48, 3), (10, 5, 2, 0)),
  (37, (.aload_n 0, 1), (0, 0, 0, 0)),
  (38, (.getfield 10, 3), (10, 0, 2, 0)),
  (41, (.iload_n 1, 1), (0, 0, 0, 0)),
  (42, (.iload_n 3, 1), (0, 0, 0, 0)),
  (43, (.invokevirtual 136, 3), (110, 2, 7, 0)),
  (46, (.l2i, 1), (0, 0, 0, 0)),
  (47, (.aload_n 0, 1), (0, 0, 0, 0)),
  (48, (.getfield 10, 3), (10, 0, 2, 0)),
  (51, (.iload_n 1, 1), (0, 0, 0, 0)),
  (52, (.iload 4, 2), (0, 0, 0, 0)),
  (54, (.invokevirtual 136, 3), (110, 2, 7, 0)),
  (57, (.l2i, 1), (0, 0, 0, 0)),
  (58, (.invokevirtual 268, 3), (35, 2, 1, 0)),
  (61, (.iadd, 1), (0, 0, 0, 0)),
  (62, (.istore_n 2, 1), (0, 0, 0, 0)),
  (63, (.iinc 4 1, 3), (0, 0, 0, 0)),
  (66, (.goto (-46), 3), (0, 0, 0, 0)),
  (69, (.iinc 3 1, 3), (0, 0, 0, 0)),
  (72, (.goto (-68), 3), (0, 0, 0, 0)),
  (75, (.iload_n 2, 1), (0, 0, 0, 0)),
  (76, (.ireturn, 1), (0, 0, 0, 0))]
noncomputable def tb_194 : List TE := [ -- X11_replay
  (0, (.aload_n 0, 1), (0, 0, 0, 0)),
  (1, (.getfield 48, 3), (10, 5, 2, 0)),
  (4, (.iload_n 1, 1), (0, 0, 0, 0)),
  (5, (.iload_n 2, 1), (0, 0, 0, 0)),
  (6, (.invokevirtual 265, 3), (24, 2, 1, 0)),
  (9, (.ifCond .eq 26, 3), (0, 0, 0, 0)),
  (12, (.aload_n 0, 1), (0, 0, 0, 0)),
  (13, (.getfield 10, 3), (10, 0, 2, 0)),
  (16, (.iload_n 3, 1), (0, 0, 0, 0)),
  (17, (.invokevirtual 109, 3), (103, 1, 7, 0)),
  (20, (.ifCond .eq 15, 3), (0, 0, 0, 0)),
  (23, (.iload 4, 2), (0, 0, 0, 0)),
  (25, (.ifCond .lt 10, 3), (0, 0, 0, 0)),
  (28, (.iload 4, 2), (0, 0, 0, 0)),
  (30, (.bipush 20, 2), (0, 0, 0, 0)),
  (32, (.if_icmp .le 5, 3), (0, 0, 0, 0)),
  (35, (.iconst 1, 1), (0, 0, 0, 0)),
  (36, (.ireturn, 1), (0, 0, 0, 0)),
  (37, (.aload_n 0, 1), (0, 0, 0, 0)),
  (38, (.getfield 10, 3), (10, 0, 2, 0)),
  (41, (.iload_n 3, 1), (0, 0, 0, 0)),
  (42, (.invokevirtual 140, 3), (104, 1, 7, 0)),
  (45, (.ifCond .eq 5, 3), (0, 0, 0, 0)),
  (48, (.iconst 2, 1), (0, 0, 0, 0)),
  (49, (.ireturn, 1), (0, 0, 0, 0)),
  (50, (.aload_n 0, 1), (0, 0, 0, 0)),
  (51, (.getfield 10, 3), (10, 0, 2, 0)),
  (54, (.iload_n 3, 1), (0, 0, 0, 0)),
  (55, (.iconst 0, 1), (0, 0, 0, 0)),
  (56, (.iload 4, 2), (0, 0, 0, 0)),
  (58, (.invokevirtual 147, 3), (106, 3, 7, 0)),
  (61, (.ifCond .ne 5, 3), (0, 0, 0, 0)),
  (64, (.iconst 3, 1), (0, 0, 0, 0)),
  (65, (.ireturn, 1), (0, 0, 0, 0)),
  (66, (.iconst 0, 1), (0, 0, 0, 0)),
  (67, (.istore 5, 2), (0, 0, 0, 0)),
  (69, (.iload 5, 2), (0, 0, 0, 0)),
  (71, (.iload 4, 2), (0, 0, 0, 0)),
  (73, (.if_icmp .ge 39, 3), (0, 0, 0, 0)),
  (76, (.aload_n 0, 1), (0, 0, 0, 0)),
  (77, (.getfield 10, 3), (10, 0, 2, 0)),
  (80, (.iload_n 3, 1), (0, 0, 0, 0)),
  (81, (.iload 5, 2), (0, 0, 0, 0)),
  (83, (.invokevirtual 136, 3), (110, 2, 7, 0)),
  (86, (.lstore 6, 2), (0, 0, 0, 0)),
  (88, (.lload 6, 2), (0, 0, 0, 0)),
  (90, (.lconst 0, 1), (0, 0, 0, 0)),
  (91, (.lcmp, 1), (0, 0, 0, 0)),
  (92, (.ifCond .lt 12, 3), (0, 0, 0, 0)),
  (95, (.lload 6, 2), (0, 0, 0, 0)),
  (97, (.ldc2_w 463, 3), (0, 0, 0, 4)),
  (100, (.lcmp, 1), (0, 0, 0, 0)),
  (101, (.ifCond .lt 5, 3), (0, 0, 0, 0)),
  (104, (.iconst 5, 1), (0, 0, 0, 0)),
  (105, (.ireturn, 1), (0, 0, 0, 0)),
  (106, (.iinc 5 1, 3), (0, 0, 0, 0)),
  (109, (.goto (-40), 3), (0, 0, 0, 0)),
  (112, (.aload_n 0, 1), (0, 0, 0, 0)),
  (113, (.getfield 62, 3), (10, 8, 2, 0)),
  (116, (.aload_n 0, 1), (0, 0, 0, 0)),
  (117, (.getfield 48, 3), (10, 5, 2, 0)),
  (120, (.iload_n 1, 1), (0, 0, 0, 0)),
  (121, (.iload_n 2, 1), (0, 0, 0, 0)),
  (122, (.invokevirtual 465, 3), (1, 3, 0, 0)),
  (125, (.iconst 0, 1), (0, 0, 0, 0)),
  (126, (.istore 5, 2), (0, 0, 0, 0)),
  (128, (.iload 5, 2), (0, 0, 0, 0)),
  (130, (.iload 4, 2), (0, 0, 0, 0)),
  (132, (.if_icmp .ge 65, 3), (0, 0, 0, 0)),
  (135, (.aload_n 0, 1), (0, 0, 0, 0)),
  (136, (.getfield 10, 3), (10, 0, 2, 0)),
  (139, (.iload_n 3, 1), (0, 0, 0, 0)),
  (140, (.iload 5, 2), (0, 0, 0, 0)),
  (142, (.invokevirtual 136, 3), (110, 2, 7, 0)),
  (145, (.l2i, 1), (0, 0, 0, 0)),
  (146, (.istore 6, 2), (0, 0, 0, 0)),
  (148, (.aload_n 0, 1), (0, 0, 0, 0)),
  (149, (.getfield 62, 3), (10, 8, 2, 0)),
  (152, (.invokevirtual 418, 3), (7, 0, 0, 0)),
  (155, (.ifCond .ne 15, 3), (0, 0, 0, 0)),
  (158, (.aload_n 0, 1), (0, 0, 0, 0)),
  (159, (.getfield 62, 3), (10, 8, 2, 0)),
  (162, (.iload 6, 2), (0, 0, 0, 0)),
  (164, (.invokevirtual 327, 3), (11, 1, 0, 0)),
  (167, (.ifCond .ne 6, 3), (0, 0, 0, 0)),
  (170, (.bipush 7, 2), (0, 0, 0, 0)),
  (172, (.ireturn, 1), (0, 0, 0, 0)),
  (173, (.aload_n 0, 1), (0, 0, 0, 0)),
  (174, (.getfield 62, 3), (10, 8, 2, 0)),
  (177, (.iload 6, 2), (0, 0, 0, 0)),
  (179, (.invokevirtual 468, 3), (12, 1, 0, 0)),
  (182, (.aload_n 0, 1), (0, 0, 0, 0)),
  (183, (.getfield 62, 3), (10, 8, 2, 0)),
  (186, (.iload 6, 2), (0, 0, 0, 0)),
  (188, (.invokevirtual 471, 3), (13, 1, 0, 0)),
  (191, (.iinc 5 1, 3), (0, 0, 0, 0)),
  (194, (.goto (-66), 3), (0, 0, 0, 0)),
  (197, (.iconst 0, 1), (0, 0, 0, 0)),
  (198, (.ireturn, 1), (0, 0, 0, 0))]
noncomputable def tb_195 : List TE := [ -- X12_init
  (0, (.aload_n 0, 1), (0, 0, 0, 0)),
  (1, (.invokespecial 1, 3), (11, 0, 0, 1)),
  (4, (.aload_n 0, 1), (0, 0, 0, 0)),
  (5, (.sipush 3768, 3), (0, 0, 0, 0)),
  (8, (.newarray .int, 2), (20, 0, 0, 0)),
  (10, (.putfield 7, 3), (11, 0, 2, 0)),
  (13, (.aload_n 0, 1), (0, 0, 0, 0)),
  (14, (.bipush 84, 2), (0, 0, 0, 0)),
  (16, (.newarray .long, 2), (21, 0, 0, 0)),
  (18, (.putfield 13, 3), (11, 1, 2, 0)),
  (21, (.aload_n 0, 1), (0, 0, 0, 0)),
  (22, (.lconst 1, 1), (0, 0, 0, 0)),
  (23, (.putfield 17, 3), (11, 4, 1, 0)),
  (26, (.aload_n 0, 1), (0, 0, 0, 0)),
  (27, (.iconst 4, 1), (0, 0, 0, 0)),
  (28, (.newarray .int, 2), (20, 0, 0, 0)),
  (30, (.putfield 21, 3), (11, 5, 2, 0)),
  (33, (.aload_n 0, 1), (0, 0, 0, 0)),
  (34, (.iconst 4, 1), (0, 0, 0, 0)),
  (35, (.newarray .int, 2), (20, 0, 0, 0)),
  (37, (.dup, 1), (0, 0, 0, 0)),
  (38, (.iconst 0, 1), (0, 0, 0, 0)),
  (39, (.iconst (-1), 1), (0, 0, 0, 0)),
  (40, (.iastore, 1), (0, 0, 0, 0)),
  (41, (.dup, 1), (0, 0, 0, 0)),
  (42, (.iconst 1, 1), (0, 0, 0, 0)),
  (43, (.iconst (-1), 1), (0, 0, 0, 0)),
  (44, (.iastore, 1), (0, 0, 0, 0)),
  (45, (.dup, 1), (0, 0, 0, 0)),
  (46, (.iconst 2, 1), (0, 0, 0, 0)),
  (47, (.iconst (-1), 1), (0, 0, 0, 0)),
  (48, (.iastore, 1), (0, 0, 0, 0)),
  (49, (.dup, 1), (0, 0, 0, 0)),
  (50, (.iconst 3, 1), (0, 0, 0, 0)),
  (51, (.iconst (-1), 1), (0, 0, 0, 0)),
  (52, (.iastore, 1), (0, 0, 0, 0)),
  (53, (.putfield 24, 3), (11, 6, 2, 0)),
  (56, (.aload_n 0, 1), (0, 0, 0, 0)),
  (57, (.sipush 240, 3), (0, 0, 0, 0)),
  (60, (.newarray .long, 2), (21, 0, 0, 0)),
  (62, (.putfield 27, 3), (11, 7, 2, 0)),
  (65, (.aload_n 0, 1), (0, 0, 0, 0)),
  (66, (.sipush 900, 3), (0, 0, 0, 0)),
  (69, (.newarray .byte, 2), (22, 0, 0, 0)),
  (71, (.putfield 30, 3), (11, 8, 2, 0)),
  (74, (.aload_n 0, 1), (0, 0, 0, 0)),
  (75, (.sipush 900, 3), (0, 0, 0, 0)),
  (78, (.newarray .byte, 2), (22, 0, 0, 0)),
  (80, (.putfield 34, 3), (11, 9, 2, 0)),
  (83, (.aload_n 0, 1), (0, 0, 0, 0)),
  (84, (.iconst (-1), 1), (0, 0, 0, 0)),
  (85, (.putfield 37, 3), (11, 16, 0, 0)),
  (88, (.aload_n 0, 1), (0, 0, 0, 0)),
  (89, (.iconst (-1), 1), (0, 0, 0, 0)),
  (90, (.putfield 41, 3), (11, 17, 0, 0)),
  (93, (.aload_n 0, 1), (0, 0, 0, 0)),
  (94, (.iconst 3, 1), (0, 0, 0, 0)),
  (95, (.newarray .int, 2), (20, 0, 0, 0)),
  (97, (.putfield 44, 3), (11, 21, 2, 0)),
  (100, (.aload_n 0, 1), (0, 0, 0, 0)),
  (101, (.bipush 9, 2), (0, 0, 0, 0)),
  (103, (.newarray .int, 2), (20, 0, 0, 0)),
  (105, (.putfield 47, 3), (11, 24, 2, 0)),
  (108, (.aload_n 0, 1), (0, 0, 0, 0)),
  (109, (.bipush 9, 2), (0, 0, 0, 0)),
  (111, (.newarray .int, 2), (20, 0, 0, 0)),
  (113, (.putfield 50, 3), (11, 25, 2, 0)),
  (116, (.aload_n 0, 1), (0, 0, 0, 0)),
  (117, (.bipush 9, 2), (0, 0, 0, 0)),
  (119, (.newarray .int, 2), (20, 0, 0, 0)),
  (121, (.putfield 53, 3), (11, 26, 2, 0)),
  (124, (.aload_n 0, 1), (0, 0, 0, 0)),
  (125, (.iconst 3, 1), (0, 0, 0, 0)),
  (126, (.newarray .int, 2), (20, 0, 0, 0)),
  (128, (.putfield 56, 3), (11, 27, 2, 0)),
  (131, (.aload_n 0, 1), (0, 0, 0, 0)),
  (132, (.sipush 1792, 3), (0, 0, 0, 0)),
  (135, (.newarray .int, 2), (20, 0, 0, 0)),
  (137, (.putfield 59, 3), (11, 28, 2, 0)),
  (140, (.aload_n 0, 1), (0, 0, 0, 0)),
  (141, (.bipush 13, 2), (0, 0, 0, 0)),
  (143, (.newarray .long, 2), (21, 0, 0, 0)),
  (145, (.putfield 62, 3), (11, 29, 2, 0)),
  (148, (.aload_n 0, 1), (0, 0, 0, 0)),
  (149, (.iconst 2, 1), (0, 0, 0, 0)),
  (150, (.newarray .int, 2), (20, 0, 0, 0)),
  (152, (.putfield 65, 3), (11, 30, 2, 0)),
  (155, (.aload_n 0, 1), (0, 0, 0, 0)),
  (156, (.bipush 64, 2), (0, 0, 0, 0)),
  (158, (.newarray .int, 2), (20, 0, 0, 0)),
  (160, (.putfield 68, 3), (11, 32, 2, 0)),
  (163, (.aload_n 0, 1), (0, 0, 0, 0)),
  (164, (.bipush 80, 2), (0, 0, 0, 0)),
  (166, (.newarray .int, 2), (20, 0, 0, 0)),
  (168, (.putfield 71, 3), (11, 35, 2, 0)),
  (171, (.aload_n 0, 1), (0, 0, 0, 0)),
  (172, (.iconst 5, 1), (0, 0, 0, 0)),
  (173, (.newarray .int, 2), (20, 0, 0, 0)),
  (175, (.putfield 74, 3), (11, 36, 2, 0)),
  (178, (.aload_n 0, 1), (0, 0, 0, 0)),
  (179, (.iconst 5, 1), (0, 0, 0, 0)),
  (180, (.newarray .int, 2), (20, 0, 0, 0)),
  (182, (.putfield 77, 3), (11, 37, 2, 0)),
  (185, (.aload_n 0, 1), (0, 0, 0, 0)),
  (186, (.iconst 0, 1), (0, 0, 0, 0)),
  (187, (.invokevirtual 80, 3), (196, 1, 11, 0)),
  (190, (.return_, 1), (0, 0, 0, 0))]
noncomputable def tb_196 : List TE := [ -- X12_plain
  (0, (.iconst 0, 1), (0, 0, 0, 0)),
  (1, (.istore_n 2, 1), (0, 0, 0, 0)),
  (2, (.iload_n 2, 1), (0, 0, 0, 0)),
  (3, (.sipush 472, 3), (0, 0, 0, 0)),
  (6, (.if_icmp .ge 18, 3), (0, 0, 0, 0)),
  (9, (.aload_n 0, 1), (0, 0, 0, 0)),
  (10, (.getfield 7, 3), (11, 0, 2, 0)),
  (13, (.iload_n 1, 1), (0, 0, 0, 0)),
  (14, (.iload_n 2, 1), (0, 0, 0, 0)),
  (15, (.iadd, 1), (0, 0, 0, 0)),
  (16, (.iconst 0, 1), (0, 0, 0, 0)),
  (17, (.iastore, 1), (0, 0, 0, 0)),
  (18, (.iinc 2 1, 3), (0, 0, 0, 0)),
  (21, (.goto (-19), 3), (0, 0, 0, 0)),
  (24, (.aload_n 0, 1), (0, 0, 0, 0)),
  (25, (.getfield 7, 3), (11, 0, 2, 0)),
  (28, (.iload_n 1, 1), (0, 0, 0, 0)),
  (29, (.iconst 2, 1), (0, 0, 0, 0)),
  (30, (.iadd, 1), (0, 0, 0, 0)),
  (31, (.bipush 6, 2), (0, 0, 0, 0)),
  (33, (.iastore, 1), (0, 0, 0, 0)),
  (34, (.aload_n 0, 1), (0, 0, 0, 0)),
  (35, (.getfield 7, 3), (11, 0, 2, 0)),
  (38, (.iload_n 1, 1), (0, 0, 0, 0)),
  (39, (.iconst 4, 1), (0, 0, 0, 0)),
  (40, (.iadd, 1), (0, 0, 0, 0)),
  (41, (.iconst 2, 1), (0, 0, 0, 0)),
  (42, (.iastore, 1), (0, 0, 0, 0)),
  (43, (.aload_n 0, 1), (0, 0, 0, 0)),
  (44, (.getfield 7, 3), (11, 0, 2, 0)),
  (47, (.iload_n 1, 1), (0, 0, 0, 0)),
  (48, (.iconst 5, 1), (0, 0, 0, 0)),
  (49, (.iadd, 1), (0, 0, 0, 0)),
  (50, (.iconst 2, 1), (0, 0, 0, 0)),
  (51, (.iastore, 1), (0, 0, 0, 0)),
  (52, (.aload_n 0, 1), (0, 0, 0, 0)),
  (53, (.getfield 7, 3), (11, 0, 2, 0)),
  (56, (.iload_n 1, 1), (0, 0, 0, 0)),
  (57, (.bipush 6, 2), (0, 0, 0, 0)),
  (59, (.iadd, 1), (0, 0, 0, 0)),
  (60, (.iconst (-1), 1), (0, 0, 0, 0)),
  (61, (.iastore, 1), (0, 0, 0, 0)),
  (62, (.aload_n 0, 1), (0, 0, 0, 0)),
  (63, (.getfield 7, 3), (11, 0, 2, 0)),
  (66, (.iload_n 1, 1), (0, 0, 0, 0)),
  (67, (.bipush 7, 2), (0, 0, 0, 0)),
  (69, (.iadd, 1), (0, 0, 0, 0)),
  (70, (.iconst (-1), 1), (0, 0, 0, 0)),
  (71, (.iastore, 1), (0, 0, 0, 0)),
  (72, (.aload_n 0, 1), (0, 0, 0, 0)),
  (73, (.getfield 7, 3), (11, 0, 2, 0)),
  (76, (.iload_n 1, 1), (0, 0, 0, 0)),
  (77, (.bipush 11, 2), (0, 0, 0, 0)),
  (79, (.iadd, 1), (0, 0, 0, 0)),
  (80, (.iconst (-1), 1), (0, 0, 0, 0)),
  (81, (.iastore, 1), (0, 0, 0, 0)),
  (82, (.return_, 1), (0, 0, 0, 0))]
noncomputable def tb_197 : List TE := [ -- X12_status
  (0, (.aload_n 0, 1), (0, 0, 0, 0)),
  (1, (.getfield 84, 3), (11, 2, 0, 0)),
  (4, (.ireturn, 1), (0, 0, 0, 0))]
noncomputable def tb_198 : List TE := [ -- X12_top
  (0, (.aload_n 0, 1), (0, 0, 0, 0)),
  (1, (.getfield 87, 3), (11, 3, 1, 0)),
  (4, (.lreturn, 1), (0, 0, 0, 0))]
noncomputable def tb_199 : List TE := [ -- X12_bottom
  (0, (.aload_n 0, 1), (0, 0, 0, 0)),
  (1, (.getfield 17, 3), (11, 4, 1, 0)),
  (4, (.lreturn, 1), (0, 0, 0, 0))]
noncomputable def tb_200 : List TE := [ -- X12_is
  (0, (.aload_n 0, 1), (0, 0, 0, 0)),
  (1, (.iload_n 1, 1), (0, 0, 0, 0)),
  (2, (.putfield 84, 3), (11, 2, 0, 0)),
  (5, (.iload_n 1, 1), (0, 0, 0, 0)),
  (6, (.ifCond .ne 7, 3), (0, 0, 0, 0)),
  (9, (.iconst 1, 1), (0, 0, 0, 0)),
  (10, (.goto 4, 3), (0, 0, 0, 0)),
  (13, (.iconst 0, 1), (0, 0, 0, 0)),
  (14, (.ireturn, 1), (0, 0, 0, 0))]
noncomputable def tb_201 : List TE := [ -- X12_refuse
  (0, (.aload_n 0, 1), (0, 0, 0, 0)),
  (1, (.iload_n 1, 1), (0, 0, 0, 0)),
  (2, (.putfield 84, 3), (11, 2, 0, 0)),
  (5, (.iconst (-1), 1), (0, 0, 0, 0)),
  (6, (.ireturn, 1), (0, 0, 0, 0))]
noncomputable def tb_202 : List TE := [ -- X12_gives
  (0, (.aload_n 0, 1), (0, 0, 0, 0)),
  (1, (.iconst 0, 1), (0, 0, 0, 0)),
  (2, (.putfield 84, 3), (11, 2, 0, 0)),
  (5, (.iload_n 1, 1), (0, 0, 0, 0)),
  (6, (.ireturn, 1), (0, 0, 0, 0))]
noncomputable def tb_203 : List TE := [ -- X12_orNone
  (0, (.iload_n 1, 1), (0, 0, 0, 0)),
  (1, (.iconst (-1), 1), (0, 0, 0, 0)),
  (2, (.if_icmp .ne 12, 3), (0, 0, 0, 0)),
  (5, (.aload_n 0, 1), (0, 0, 0, 0)),
  (6, (.bipush 6, 2), (0, 0, 0, 0)),
  (8, (.invokevirtual 90, 3), (201, 1, 11, 0)),
  (11, (.goto 8, 3), (0, 0, 0, 0)),
  (14, (.aload_n 0, 1), (0, 0, 0, 0)),
  (15, (.iload_n 1, 1), (0, 0, 0, 0)),
  (16, (.invokevirtual 94, 3), (202, 1, 11, 0)),
  (19, (.ireturn, 1), (0, 0, 0, 0))]
noncomputable def tb_204 : List TE := [ -- X12_tellsBy
  (0, (.lload_n 1, 1), (0, 0, 0, 0)),
  (1, (.lstore 5, 2), (0, 0, 0, 0)),
  (3, (.lload_n 3, 1), (0, 0, 0, 0)),
  (4, (.lstore 7, 2), (0, 0, 0, 0)),
  (6, (.lload 7, 2), (0, 0, 0, 0)),
  (8, (.lconst 0, 1), (0, 0, 0, 0)),
  (9, (.lcmp, 1), (0, 0, 0, 0)),
  (10, (.ifCond .eq 21, 3), (0, 0, 0, 0)),
  (13, (.lload 5, 2), (0, 0, 0, 0)),
  (15, (.lload 7, 2), (0, 0, 0, 0)),
  (17, (.lrem, 1), (0, 0, 0, 0)),
  (18, (.lstore 9, 2), (0, 0, 0, 0)),
  (20, (.lload 7, 2), (0, 0, 0, 0)),
  (22, (.lstore 5, 2), (0, 0, 0, 0)),
  (24, (.lload 9, 2), (0, 0, 0, 0)),
  (26, (.lstore 7, 2), (0, 0, 0, 0)),
  (28, (.goto (-22), 3), (0, 0, 0, 0)),
  (31, (.aload_n 0, 1), (0, 0, 0, 0)),
  (32, (.lload_n 1, 1), (0, 0, 0, 0)),
  (33, (.lload 5, 2), (0, 0, 0, 0)),
  (35, (.ldiv, 1), (0, 0, 0, 0)),
  (36, (.putfield 87, 3), (11, 3, 1, 0)),
  (39, (.aload_n 0, 1), (0, 0, 0, 0)),
  (40, (.lload_n 3, 1), (0, 0, 0, 0)),
  (41, (.lload 5, 2), (0, 0, 0, 0)),
  (43, (.ldiv, 1), (0, 0, 0, 0)),
  (44, (.putfield 17, 3), (11, 4, 1, 0)),
  (47, (.aload_n 0, 1), (0, 0, 0, 0)),
  (48, (.iconst 0, 1), (0, 0, 0, 0)),
  (49, (.invokevirtual 97, 3), (200, 1, 11, 0)),
  (52, (.ireturn, 1), (0, 0, 0, 0))]
noncomputable def tb_205 : List TE := [ -- X12_isTray
  (0, (.iload_n 0, 1), (0, 0, 0, 0)),
  (1, (.ifCond .lt 12, 3), (0, 0, 0, 0)),
  (4, (.iload_n 0, 1), (0, 0, 0, 0)),
  (5, (.iconst 4, 1), (0, 0, 0, 0)),
  (6, (.if_icmp .ge 7, 3), (0, 0, 0, 0)),
  (9, (.iconst 1, 1), (0, 0, 0, 0)),
  (10, (.goto 4, 3), (0, 0, 0, 0)),
  (13, (.iconst 0, 1), (0, 0, 0, 0)),
  (14, (.ireturn, 1), (0, 0, 0, 0))]
noncomputable def tb_206 : List TE := [ -- X12_cut
  (0, (.iload_n 2, 1), (0, 0, 0, 0)),
  (1, (.ifCond .ne 10, 3), (0, 0, 0, 0)),
  (4, (.lload_n 0, 1), (0, 0, 0, 0)),
  (5, (.l2i, 1), (0, 0, 0, 0)),
  (6, (.i2b, 1), (0, 0, 0, 0)),
  (7, (.i2l, 1), (0, 0, 0, 0)),
  (8, (.goto 27, 3), (0, 0, 0, 0)),
  (11, (.iload_n 2, 1), (0, 0, 0, 0)),
  (12, (.iconst 1, 1), (0, 0, 0, 0)),
  (13, (.if_icmp .ne 10, 3), (0, 0, 0, 0)),
  (16, (.lload_n 0, 1), (0, 0, 0, 0)),
  (17, (.l2i, 1), (0, 0, 0, 0)),
  (18, (.i2s, 1), (0, 0, 0, 0)),
  (19, (.i2l, 1), (0, 0, 0, 0)),
  (20, (.goto 15, 3), (0, 0, 0, 0)),
  (23, (.iload_n 2, 1), (0, 0, 0, 0)),
  (24, (.iconst 2, 1), (0, 0, 0, 0)),
  (25, (.if_icmp .ne 9, 3), (0, 0, 0, 0)),
  (28, (.lload_n 0, 1), (0, 0, 0, 0)),
  (29, (.l2i, 1), (0, 0, 0, 0)),
  (30, (.i2l, 1), (0, 0, 0, 0)),
  (31, (.goto 4, 3), (0, 0, 0, 0)),
  (34, (.lload_n 0, 1), (0, 0, 0, 0)),
  (35, (.lreturn, 1), (0, 0, 0, 0))]
noncomputable def tb_207 : List TE := [ -- X12_tray
  (0, (.iload_n 1, 1), (0, 0, 0, 0)),
  (1, (.invokestatic 101, 3), (205, 1, 0, 0)),
  (4, (.ifCond .eq 22, 3), (0, 0, 0, 0)),
  (7, (.iload_n 2, 1), (0, 0, 0, 0)),
  (8, (.ifCond .lt 18, 3), (0, 0, 0, 0)),
  (11, (.iload_n 2, 1), (0, 0, 0, 0)),
  (12, (.iconst 3, 1), (0, 0, 0, 0)),
  (13, (.if_icmp .gt 13, 3), (0, 0, 0, 0)),
  (16, (.iload_n 3, 1), (0, 0, 0, 0)),
  (17, (.ifCond .lt 9, 3), (0, 0, 0, 0)),
  (20, (.iload_n 3, 1), (0, 0, 0, 0)),
  (21, (.bipush 60, 2), (0, 0, 0, 0)),
  (23, (.if_icmp .le 9, 3), (0, 0, 0, 0)),
  (26, (.aload_n 0, 1), (0, 0, 0, 0)),
  (27, (.iconst 1, 1), (0, 0, 0, 0)),
  (28, (.invokevirtual 97, 3), (200, 1, 11, 0)),
  (31, (.ireturn, 1), (0, 0, 0, 0)),
  (32, (.aload_n 0, 1), (0, 0, 0, 0)),
  (33, (.getfield 21, 3), (11, 5, 2, 0)),
  (36, (.iload_n 1, 1), (0, 0, 0, 0)),
  (37, (.iload_n 2, 1), (0, 0, 0, 0)),
  (38, (.iastore, 1), (0, 0, 0, 0)),
  (39, (.aload_n 0, 1), (0, 0, 0, 0)),
  (40, (.getfield 24, 3), (11, 6, 2, 0)),
  (43, (.iload_n 1, 1), (0, 0, 0, 0)),
  (44, (.iload_n 3, 1), (0, 0, 0, 0)),
  (45, (.iastore, 1), (0, 0, 0, 0)),
  (46, (.iconst 0, 1), (0, 0, 0, 0)),
  (47, (.istore 4, 2), (0, 0, 0, 0)),
  (49, (.iload 4, 2), (0, 0, 0, 0)),
  (51, (.iload_n 3, 1), (0, 0, 0, 0)),
  (52, (.if_icmp .ge 22, 3), (0, 0, 0, 0)),
  (55, (.aload_n 0, 1), (0, 0, 0, 0)),
  (56, (.getfield 27, 3), (11, 7, 2, 0)),
  (59, (.bipush 60, 2), (0, 0, 0, 0)),
  (61, (.iload_n 1, 1), (0, 0, 0, 0)),
  (62, (.imul, 1), (0, 0, 0, 0)),
  (63, (.iload 4, 2), (0, 0, 0, 0)),
  (65, (.iadd, 1), (0, 0, 0, 0)),
  (66, (.lconst 0, 1), (0, 0, 0, 0)),
  (67, (.lastore, 1), (0, 0, 0, 0)),
  (68, (.iinc 4 1, 3), (0, 0, 0, 0)),
  (71, (.goto (-22), 3), (0, 0, 0, 0)),
  (74, (.aload_n 0, 1), (0, 0, 0, 0)),
  (75, (.iconst 0, 1), (0, 0, 0, 0)),
  (76, (.invokevirtual 97, 3), (200, 1, 11, 0)),
  (79, (.ireturn, 1), (0, 0, 0, 0))]
noncomputable def tb_208 : List TE := [ -- X12_wrongPlace
  (0, (.iload_n 1, 1), (0, 0, 0, 0)),
  (1, (.invokestatic 101, 3), (205, 1, 0, 0)),
  (4, (.ifCond .ne 7, 3), (0, 0, 0, 0)),
  (7, (.iconst 1, 1), (0, 0, 0, 0)),
  (8, (.goto 36, 3), (0, 0, 0, 0)),
  (11, (.aload_n 0, 1), (0, 0, 0, 0)),
  (12, (.getfield 24, 3), (11, 6, 2, 0)),
  (15, (.iload_n 1, 1), (0, 0, 0, 0)),
  (16, (.iaload, 1), (0, 0, 0, 0)),
  (17, (.iconst (-1), 1), (0, 0, 0, 0)),
  (18, (.if_icmp .ne 7, 3), (0, 0, 0, 0)),
  (21, (.iconst 2, 1), (0, 0, 0, 0)),
  (22, (.goto 22, 3), (0, 0, 0, 0)),
  (25, (.iload_n 2, 1), (0, 0, 0, 0)),
  (26, (.ifCond .lt 13, 3), (0, 0, 0, 0)),
  (29, (.iload_n 2, 1), (0, 0, 0, 0)),
  (30, (.aload_n 0, 1), (0, 0, 0, 0)),
  (31, (.getfield 24, 3), (11, 6, 2, 0)),
  (34, (.iload_n 1, 1), (0, 0, 0, 0)),
  (35, (.iaload, 1), (0, 0, 0, 0)),
  (36, (.if_icmp .lt 7, 3), (0, 0, 0, 0)),
  (39, (.iconst 3, 1), (0, 0, 0, 0)),
  (40, (.goto 4, 3), (0, 0, 0, 0)),
  (43, (.iconst 0, 1), (0, 0, 0, 0)),
  (44, (.ireturn, 1), (0, 0, 0, 0))]
noncomputable def tb_209 : List TE := [ -- X12_write
  (0, (.aload_n 0, 1), (0, 0, 0, 0)),
  (1, (.iload_n 1, 1), (0, 0, 0, 0)),
  (2, (.iload_n 2, 1), (0, 0, 0, 0)),
  (3, (.invokevirtual 104, 3), (208, 2, 11, 0)),
  (6, (.istore 5, 2), (0, 0, 0, 0)),
  (8, (.iload 5, 2), (0, 0, 0, 0)),
  (10, (.ifCond .ne 24, 3), (0, 0, 0, 0)),
  (13, (.aload_n 0, 1), (0, 0, 0, 0)),
  (14, (.getfield 27, 3), (11, 7, 2, 0)),
  (17, (.bipush 60, 2), (0, 0, 0, 0)),
  (19, (.iload_n 1, 1), (0, 0, 0, 0)),
  (20, (.imul, 1), (0, 0, 0, 0)),
  (21, (.iload_n 2, 1), (0, 0, 0, 0)),
  (22, (.iadd, 1), (0, 0, 0, 0)),
  (23, (.lload_n 3, 1), (0, 0, 0, 0)),
  (24, (.aload_n 0, 1), (0, 0, 0, 0)),
  (25, (.getfield 21, 3), (11, 5, 2, 0)),
  (28, (.iload_n 1, 1), (0, 0, 0, 0)),
  (29, (.iaload, 1), (0, 0, 0, 0)),
  (30, (.invokestatic 108, 3), (206, 2, 0, 0)),
  (33, (.lastore, 1), (0, 0, 0, 0)),
  (34, (.aload_n 0, 1), (0, 0, 0, 0)),
  (35, (.iload 5, 2), (0, 0, 0, 0)),
  (37, (.invokevirtual 97, 3), (200, 1, 11, 0)),
  (40, (.ireturn, 1), (0, 0, 0, 0))]
noncomputable def tb_210 : List TE := [ -- X12_read
  (0, (.aload_n 0, 1), (0, 0, 0, 0)),
  (1, (.aload_n 0, 1), (0, 0, 0, 0)),
  (2, (.iload_n 1, 1), (0, 0, 0, 0)),
  (3, (.iload_n 2, 1), (0, 0, 0, 0)),
  (4, (.invokevirtual 104, 3), (208, 2, 11, 0)),
  (7, (.putfield 84, 3), (11, 2, 0, 0)),
  (10, (.aload_n 0, 1), (0, 0, 0, 0)),
  (11, (.getfield 84, 3), (11, 2, 0, 0)),
  (14, (.ifCond .le 9, 3), (0, 0, 0, 0)),
  (17, (.ldc2_w 112, 3), (0, 0, 0, (-1))),
  (20, (.goto 14, 3), (0, 0, 0, 0)),
  (23, (.aload_n 0, 1), (0, 0, 0, 0)),
  (24, (.getfield 27, 3), (11, 7, 2, 0)),
  (27, (.bipush 60, 2), (0, 0, 0, 0)),
  (29, (.iload_n 1, 1), (0, 0, 0, 0)),
  (30, (.imul, 1), (0, 0, 0, 0)),
  (31, (.iload_n 2, 1), (0, 0, 0, 0)),
  (32, (.iadd, 1), (0, 0, 0, 0)),
  (33, (.laload, 1), (0, 0, 0, 0)),
  (34, (.lreturn, 1), (0, 0, 0, 0))]
noncomputable def tb_211 : List TE := [ -- X12_pour
  (0, (.iload_n 1, 1), (0, 0, 0, 0)),
  (1, (.invokestatic 101, 3), (205, 1, 0, 0)),
  (4, (.ifCond .eq 24, 3), (0, 0, 0, 0)),
  (7, (.iload_n 3, 1), (0, 0, 0, 0)),
  (8, (.invokestatic 101, 3), (205, 1, 0, 0)),
  (11, (.ifCond .eq 17, 3), (0, 0, 0, 0)),
  (14, (.iload_n 2, 1), (0, 0, 0, 0)),
  (15, (.ifCond .lt 13, 3), (0, 0, 0, 0)),
  (18, (.iload 4, 2), (0, 0, 0, 0)),
  (20, (.ifCond .lt 8, 3), (0, 0, 0, 0)),
  (23, (.iload 5, 2), (0, 0, 0, 0)),
  (25, (.ifCond .ge 9, 3), (0, 0, 0, 0)),
  (28, (.aload_n 0, 1), (0, 0, 0, 0)),
  (29, (.iconst 1, 1), (0, 0, 0, 0)),
  (30, (.invokevirtual 97, 3), (200, 1, 11, 0)),
  (33, (.ireturn, 1), (0, 0, 0, 0)),
  (34, (.aload_n 0, 1), (0, 0, 0, 0)),
  (35, (.getfield 24, 3), (11, 6, 2, 0)),
  (38, (.iload_n 1, 1), (0, 0, 0, 0)),
  (39, (.iaload, 1), (0, 0, 0, 0)),
  (40, (.iconst (-1), 1), (0, 0, 0, 0)),
  (41, (.if_icmp .eq 13, 3), (0, 0, 0, 0)),
  (44, (.aload_n 0, 1), (0, 0, 0, 0)),
  (45, (.getfield 24, 3), (11, 6, 2, 0)),
  (48, (.iload_n 3, 1), (0, 0, 0, 0)),
  (49, (.iaload, 1), (0, 0, 0, 0)),
  (50, (.iconst (-1), 1), (0, 0, 0, 0)),
  (51, (.if_icmp .ne 9, 3), (0, 0, 0, 0)),
  (54, (.aload_n 0, 1), (0, 0, 0, 0)),
  (55, (.iconst 2, 1), (0, 0, 0, 0)),
  (56, (.invokevirtual 97, 3), (200, 1, 11, 0)),
  (59, (.ireturn, 1), (0, 0, 0, 0)),
  (60, (.aload_n 0, 1), (0, 0, 0, 0)),
  (61, (.getfield 21, 3), (11, 5, 2, 0)),
  (64, (.iload_n 1, 1), (0, 0, 0, 0)),
  (65, (.iaload, 1), (0, 0, 0, 0)),
  (66, (.aload_n 0, 1), (0, 0, 0, 0)),
  (67, (.getfield 21, 3), (11, 5, 2, 0)),
  (70, (.iload_n 3, 1), (0, 0, 0, 0)),
  (71, (.iaload, 1), (0, 0, 0, 0)),
  (72, (.if_icmp .eq 10, 3), (0, 0, 0, 0)),
  (75, (.aload_n 0, 1), (0, 0, 0, 0)),
  (76, (.bipush 8, 2), (0, 0, 0, 0)),
  (78, (.invokevirtual 97, 3), (200, 1, 11, 0)),
  (81, (.ireturn, 1), (0, 0, 0, 0)),
  (82, (.iload 5, 2), (0, 0, 0, 0)),
  (84, (.aload_n 0, 1), (0, 0, 0, 0)),
  (85, (.getfield 24, 3), (11, 6, 2, 0)),
  (88, (.iload_n 1, 1), (0, 0, 0, 0)),
  (89, (.iaload, 1), (0, 0, 0, 0)),
  (90, (.iload_n 2, 1), (0, 0, 0, 0)),
  (91, (.isub, 1), (0, 0, 0, 0)),
  (92, (.if_icmp .gt 17, 3), (0, 0, 0, 0)),
  (95, (.iload 5, 2), (0, 0, 0, 0)),
  (97, (.aload_n 0, 1), (0, 0, 0, 0)),
  (98, (.getfield 24, 3), (11, 6, 2, 0)),
  (101, (.iload_n 3, 1), (0, 0, 0, 0)),
  (102, (.iaload, 1), (0, 0, 0, 0)),
  (103, (.iload 4, 2), (0, 0, 0, 0)),
  (105, (.isub, 1), (0, 0, 0, 0)),
  (106, (.if_icmp .le 9, 3), (0, 0, 0, 0)),
  (109, (.aload_n 0, 1), (0, 0, 0, 0)),
  (110, (.iconst 3, 1), (0, 0, 0, 0)),
  (111, (.invokevirtual 97, 3), (200, 1, 11, 0)),
  (114, (.ireturn, 1), (0, 0, 0, 0)),
  (115, (.iconst 0, 1), (0, 0, 0, 0)),
  (116, (.istore 6, 2), (0, 0, 0, 0)),
  (118, (.iload 6, 2), (0, 0, 0, 0)),
  (120, (.iload 5, 2), (0, 0, 0, 0)),
  (122, (.if_icmp .ge 58, 3), (0, 0, 0, 0)),
  (125, (.iload_n 2, 1), (0, 0, 0, 0)),
  (126, (.iload 4, 2), (0, 0, 0, 0)),
  (128, (.if_icmp .ge 13, 3), (0, 0, 0, 0)),
  (131, (.iload 5, 2), (0, 0, 0, 0)),
  (133, (.iconst 1, 1), (0, 0, 0, 0)),
  (134, (.isub, 1), (0, 0, 0, 0)),
  (135, (.iload 6, 2), (0, 0, 0, 0)),
  (137, (.isub, 1), (0, 0, 0, 0)),
  (138, (.goto 5, 3), (0, 0, 0, 0)),
  (141, (.iload 6, 2), (0, 0, 0, 0)),
  (143, (.istore 7, 2), (0, 0, 0, 0)),
  (145, (.aload_n 0, 1), (0, 0, 0, 0)),
  (146, (.getfield 27, 3), (11, 7, 2, 0)),
  (149, (.bipush 60, 2), (0, 0, 0, 0)),
  (151, (.iload_n 3, 1), (0, 0, 0, 0)),
  (152, (.imul, 1), (0, 0, 0, 0)),
  (153, (.iload 4, 2), (0, 0, 0, 0)),
  (155, (.iadd, 1), (0, 0, 0, 0)),
  (156, (.iload 7, 2), (0, 0, 0, 0)),
  (158, (.iadd, 1), (0, 0, 0, 0)),
  (159, (.aload_n 0, 1), (0, 0, 0, 0)),
  (160, (.getfield 27, 3), (11, 7, 2, 0)),
  (163, (.bipush 60, 2), (0, 0, 0, 0)),
  (165, (.iload_n 1, 1), (0, 0, 0, 0)),
  (166, (.imul, 1), (0, 0, 0, 0)),
  (167, (.iload_n 2, 1), (0, 0, 0, 0)),
  (168, (.iadd, 1), (0, 0, 0, 0)),
  (169, (.iload 7, 2), (0, 0, 0, 0)),
  (171, (.iadd, 1), (0, 0, 0, 0)),
  (172, (.laload, 1), (0, 0, 0, 0)),
  (173, (.lastore, 1), (0, 0, 0, 0)),
  (174, (.iinc 6 1, 3), (0, 0, 0, 0)),
  (177, (.goto (-59), 3), (0, 0, 0, 0)),
  (180, (.aload_n 0, 1), (0, 0, 0, 0)),
  (181, (.iconst 0, 1), (0, 0, 0, 0)),
  (182, (.invokevirtual 97, 3), (200, 1, 11, 0)),
  (185, (.ireturn, 1), (0, 0, 0, 0))]
noncomputable def tb_212 : List TE := [ -- X12_isFrom
  (0, (.lload_n 0, 1), (0, 0, 0, 0)),
  (1, (.lload_n 2, 1), (0, 0, 0, 0)),
  (2, (.lcmp, 1), (0, 0, 0, 0)),
  (3, (.ifCond .lt 14, 3), (0, 0, 0, 0)),
  (6, (.lload_n 0, 1), (0, 0, 0, 0)),
  (7, (.lload 4, 2), (0, 0, 0, 0)),
  (9, (.lcmp, 1), (0, 0, 0, 0)),
  (10, (.ifCond .gt 7, 3), (0, 0, 0, 0)),
  (13, (.iconst 1, 1), (0, 0, 0, 0)),
  (14, (.goto 4, 3), (0, 0, 0, 0)),
  (17, (.iconst 0, 1), (0, 0, 0, 0)),
  (18, (.ireturn, 1), (0, 0, 0, 0))]
noncomputable def tb_213 : List TE := [ -- X12_feed
  (0, (.aload_n 0, 1), (0, 0, 0, 0)),
  (1, (.getfield 114, 3), (11, 10, 0, 0)),
  (4, (.bipush 20, 2), (0, 0, 0, 0)),
  (6, (.iadd, 1), (0, 0, 0, 0)),
  (7, (.sipush 900, 3), (0, 0, 0, 0)),
  (10, (.if_icmp .le 5, 3), (0, 0, 0, 0)),
  (13, (.iconst (-1), 1), (0, 0, 0, 0)),
  (14, (.ireturn, 1), (0, 0, 0, 0)),
  (15, (.aload_n 0, 1), (0, 0, 0, 0)),
  (16, (.iload_n 1, 1), (0, 0, 0, 0)),
  (17, (.invokevirtual 117, 3), (214, 1, 11, 0)),
  (20, (.aload_n 0, 1), (0, 0, 0, 0)),
  (21, (.iload_n 2, 1), (0, 0, 0, 0)),
  (22, (.invokevirtual 117, 3), (214, 1, 11, 0)),
  (25, (.aload_n 0, 1), (0, 0, 0, 0)),
  (26, (.iload_n 3, 1), (0, 0, 0, 0)),
  (27, (.invokevirtual 117, 3), (214, 1, 11, 0)),
  (30, (.aload_n 0, 1), (0, 0, 0, 0)),
  (31, (.iload 4, 2), (0, 0, 0, 0)),
  (33, (.invokevirtual 117, 3), (214, 1, 11, 0)),
  (36, (.aload_n 0, 1), (0, 0, 0, 0)),
  (37, (.iload 5, 2), (0, 0, 0, 0)),
  (39, (.invokevirtual 117, 3), (214, 1, 11, 0)),
  (42, (.aload_n 0, 1), (0, 0, 0, 0)),
  (43, (.getfield 114, 3), (11, 10, 0, 0)),
  (46, (.ireturn, 1), (0, 0, 0, 0))]
noncomputable def tb_214 : List TE := [ -- X12_four
  (0, (.bipush 24, 2), (0, 0, 0, 0)),
  (2, (.istore_n 2, 1), (0, 0, 0, 0)),
  (3, (.iload_n 2, 1), (0, 0, 0, 0)),
  (4, (.ifCond .lt 32, 3), (0, 0, 0, 0)),
  (7, (.aload_n 0, 1), (0, 0, 0, 0)),
  (8, (.getfield 30, 3), (11, 8, 2, 0)),
  (11, (.aload_n 0, 1), (0, 0, 0, 0)),
  (12, (.getfield 114, 3), (11, 10, 0, 0)),
  (15, (.iload_n 1, 1), (0, 0, 0, 0)),
  (16, (.iload_n 2, 1), (0, 0, 0, 0)),
  (17, (.ishr, 1), (0, 0, 0, 0)),
  (18, (.i2b, 1), (0, 0, 0, 0)),
  (19, (.bastore, 1), (0, 0, 0, 0)),
  (20, (.aload_n 0, 1), (0, 0, 0, 0)),
  (21, (.dup, 1), (0, 0, 0, 0)),
  (22, (.getfield 114, 3), (11, 10, 0, 0)),
  (25, (.iconst 1, 1), (0, 0, 0, 0)),
  (26, (.iadd, 1), (0, 0, 0, 0)),
  (27, (.putfield 114, 3), (11, 10, 0, 0)),
  (30, (.iinc 2 (-8), 3), (0, 0, 0, 0)),
  (33, (.goto (-30), 3), (0, 0, 0, 0)),
  (36, (.return_, 1), (0, 0, 0, 0))]
noncomputable def tb_215 : List TE := [ -- X12_byteAt
  (0, (.iload_n 1, 1), (0, 0, 0, 0)),
  (1, (.aload_n 0, 1), (0, 0, 0, 0)),
  (2, (.getfield 120, 3), (11, 11, 0, 0)),
  (5, (.if_icmp .ge 16, 3), (0, 0, 0, 0)),
  (8, (.aload_n 0, 1), (0, 0, 0, 0)),
  (9, (.getfield 34, 3), (11, 9, 2, 0)),
  (12, (.iload_n 1, 1), (0, 0, 0, 0)),
  (13, (.baload, 1), (0, 0, 0, 0)),
  (14, (.sipush 255, 3), (0, 0, 0, 0)),
  (17, (.iand, 1), (0, 0, 0, 0)),
  (18, (.goto 4, 3), (0, 0, 0, 0)),
  (21, (.iconst (-1), 1), (0, 0, 0, 0)),
  (22, (.ireturn, 1), (0, 0, 0, 0))]
noncomputable def tb_216 : List TE := [ -- X12_isSmall
  (0, (.iload_n 0, 1), (0, 0, 0, 0)),
  (1, (.bipush 97, 2), (0, 0, 0, 0)),
  (3, (.if_icmp .lt 13, 3), (0, 0, 0, 0)),
  (6, (.iload_n 0, 1), (0, 0, 0, 0)),
  (7, (.bipush 122, 2), (0, 0, 0, 0)),
  (9, (.if_icmp .gt 7, 3), (0, 0, 0, 0)),
  (12, (.iconst 1, 1), (0, 0, 0, 0)),
  (13, (.goto 4, 3), (0, 0, 0, 0)),
  (16, (.iconst 0, 1), (0, 0, 0, 0)),
  (17, (.ireturn, 1), (0, 0, 0, 0))]
noncomputable def tb_217 : List TE := [ -- X12_isDigit
  (0, (.iload_n 0, 1), (0, 0, 0, 0)),
  (1, (.bipush 48, 2), (0, 0, 0, 0)),
  (3, (.if_icmp .lt 13, 3), (0, 0, 0, 0)),
  (6, (.iload_n 0, 1), (0, 0, 0, 0)),
  (7, (.bipush 57, 2), (0, 0, 0, 0)),
  (9, (.if_icmp .gt 7, 3), (0, 0, 0, 0)),
  (12, (.iconst 1, 1), (0, 0, 0, 0)),
  (13, (.goto 4, 3), (0, 0, 0, 0)),
  (16, (.iconst 0, 1), (0, 0, 0, 0)),
  (17, (.ireturn, 1), (0, 0, 0, 0))]
noncomputable def tb_218 : List TE := [ -- X12_ahead
  (0, (.aload_n 0, 1), (0, 0, 0, 0)),
  (1, (.aload_n 0, 1), (0, 0, 0, 0)),
  (2, (.getfield 123, 3), (11, 14, 0, 0)),
  (5, (.invokevirtual 126, 3), (215, 1, 11, 0)),
  (8, (.bipush 32, 2), (0, 0, 0, 0)),
  (10, (.if_icmp .eq 16, 3), (0, 0, 0, 0)),
  (13, (.aload_n 0, 1), (0, 0, 0, 0)),
  (14, (.aload_n 0, 1), (0, 0, 0, 0)),
  (15, (.getfield 123, 3), (11, 14, 0, 0)),
  (18, (.invokevirtual 126, 3), (215, 1, 11, 0)),
  (21, (.bipush 10, 2), (0, 0, 0, 0)),
  (23, (.if_icmp .ne 16, 3), (0, 0, 0, 0)),
  (26, (.aload_n 0, 1), (0, 0, 0, 0)),
  (27, (.dup, 1), (0, 0, 0, 0)),
  (28, (.getfield 123, 3), (11, 14, 0, 0)),
  (31, (.iconst 1, 1), (0, 0, 0, 0)),
  (32, (.iadd, 1), (0, 0, 0, 0)),
  (33, (.putfield 123, 3), (11, 14, 0, 0)),
  (36, (.goto (-36), 3), (0, 0, 0, 0)),
  (39, (.aload_n 0, 1), (0, 0, 0, 0)),
  (40, (.aload_n 0, 1), (0, 0, 0, 0)),
  (41, (.getfield 123, 3), (11, 14, 0, 0)),
  (44, (.putfield 129, 3), (11, 13, 0, 0)),
  (47, (.aload_n 0, 1), (0, 0, 0, 0)),
  (48, (.aload_n 0, 1), (0, 0, 0, 0)),
  (49, (.getfield 123, 3), (11, 14, 0, 0)),
  (52, (.invokevirtual 126, 3), (215, 1, 11, 0)),
  (55, (.istore_n 1, 1), (0, 0, 0, 0)),
  (56, (.aload_n 0, 1), (0, 0, 0, 0)),
  (57, (.iload_n 1, 1), (0, 0, 0, 0)),
  (58, (.putfield 132, 3), (11, 15, 0, 0)),
  (61, (.iload_n 1, 1), (0, 0, 0, 0)),
  (62, (.iconst (-1), 1), (0, 0, 0, 0)),
  (63, (.if_icmp .ne 11, 3), (0, 0, 0, 0)),
  (66, (.aload_n 0, 1), (0, 0, 0, 0)),
  (67, (.iconst 0, 1), (0, 0, 0, 0)),
  (68, (.putfield 135, 3), (11, 12, 0, 0)),
  (71, (.goto 180, 3), (0, 0, 0, 0)),
  (74, (.iload_n 1, 1), (0, 0, 0, 0)),
  (75, (.invokestatic 138, 3), (216, 1, 0, 0)),
  (78, (.ifCond .eq 38, 3), (0, 0, 0, 0)),
  (81, (.aload_n 0, 1), (0, 0, 0, 0)),
  (82, (.aload_n 0, 1), (0, 0, 0, 0)),
  (83, (.getfield 123, 3), (11, 14, 0, 0)),
  (86, (.invokevirtual 126, 3), (215, 1, 11, 0)),
  (89, (.invokestatic 138, 3), (216, 1, 0, 0)),
  (92, (.ifCond .eq 16, 3), (0, 0, 0, 0)),
  (95, (.aload_n 0, 1), (0, 0, 0, 0)),
  (96, (.dup, 1), (0, 0, 0, 0)),
  (97, (.getfield 123, 3), (11, 14, 0, 0)),
  (100, (.iconst 1, 1), (0, 0, 0, 0)),
  (101, (.iadd, 1), (0, 0, 0, 0)),
  (102, (.putfield 123, 3), (11, 14, 0, 0)),
  (105, (.goto (-24), 3), (0, 0, 0, 0)),
  (108, (.aload_n 0, 1), (0, 0, 0, 0)),
  (109, (.iconst 2, 1), (0, 0, 0, 0)),
  (110, (.putfield 135, 3), (11, 12, 0, 0)),
  (113, (.goto 138, 3), (0, 0, 0, 0)),
  (116, (.iload_n 1, 1), (0, 0, 0, 0)),
  (117, (.invokestatic 141, 3), (217, 1, 0, 0)),
  (120, (.ifCond .eq 88, 3), (0, 0, 0, 0)),
  (123, (.aload_n 0, 1), (0, 0, 0, 0)),
  (124, (.iconst 0, 1), (0, 0, 0, 0)),
  (125, (.putfield 132, 3), (11, 15, 0, 0)),
  (128, (.aload_n 0, 1), (0, 0, 0, 0)),
  (129, (.aload_n 0, 1), (0, 0, 0, 0)),
  (130, (.getfield 123, 3), (11, 14, 0, 0)),
  (133, (.invokevirtual 126, 3), (215, 1, 11, 0)),
  (136, (.invokestatic 141, 3), (217, 1, 0, 0)),
  (139, (.ifCond .eq 44, 3), (0, 0, 0, 0)),
  (142, (.aload_n 0, 1), (0, 0, 0, 0)),
  (143, (.ldc 144, 2), (0, 0, 0, 100000)),
  (145, (.bipush 10, 2), (0, 0, 0, 0)),
  (147, (.aload_n 0, 1), (0, 0, 0, 0)),
  (148, (.getfield 132, 3), (11, 15, 0, 0)),
  (151, (.imul, 1), (0, 0, 0, 0)),
  (152, (.aload_n 0, 1), (0, 0, 0, 0)),
  (153, (.aload_n 0, 1), (0, 0, 0, 0)),
  (154, (.getfield 123, 3), (11, 14, 0, 0)),
  (157, (.invokevirtual 126, 3), (215, 1, 11, 0)),
  (160, (.iadd, 1), (0, 0, 0, 0)),
  (161, (.bipush 48, 2), (0, 0, 0, 0)),
  (163, (.isub, 1), (0, 0, 0, 0)),
  (164, (.invokestatic 145, 3), (342, 2, 0, 0)),
  (167, (.putfield 132, 3), (11, 15, 0, 0)),
  (170, (.aload_n 0, 1), (0, 0, 0, 0)),
  (171, (.dup, 1), (0, 0, 0, 0)),
  (172, (.getfield 123, 3), (11, 14, 0, 0)),
  (175, (.iconst 1, 1), (0, 0, 0, 0)),
  (176, (.iadd, 1), (0, 0, 0, 0)),
  (177, (.putfield 123, 3), (11, 14, 0, 0)),
  (180, (.goto (-52), 3), (0, 0, 0, 0)),
  (183, (.aload_n 0, 1), (0, 0, 0, 0)),
  (184, (.aload_n 0, 1), (0, 0, 0, 0)),
  (185, (.getfield 123, 3), (11, 14, 0, 0)),
  (188, (.aload_n 0, 1), (0, 0, 0, 0)),
  (189, (.getfield 129, 3), (11, 13, 0, 0)),
  (192, (.isub, 1), (0, 0, 0, 0)),
  (193, (.iconst 4, 1), (0, 0, 0, 0)),
  (194, (.if_icmp .le 7, 3), (0, 0, 0, 0)),
  (197, (.iconst 1, 1), (0, 0, 0, 0)),
  (198, (.goto 4, 3), (0, 0, 0, 0)),
  (201, (.iconst 3, 1), (0, 0, 0, 0)),
  (202, (.putfield 135, 3), (11, 12, 0, 0)),
  (205, (.goto 46, 3), (0, 0, 0, 0)),
  (208, (.aload_n 0, 1), (0, 0, 0, 0)),
  (209, (.dup, 1), (0, 0, 0, 0)),
  (210, (.getfield 123, 3), (11, 14, 0, 0)),
  (213, (.iconst 1, 1), (0, 0, 0, 0)),
  (214, (.iadd, 1), (0, 0, 0, 0)),
  (215, (.putfield 123, 3), (11, 14, 0, 0)),
  (218, (.aload_n 0, 1), (0, 0, 0, 0)),
  (219, (.iload_n 1, 1), (0, 0, 0, 0)),
  (220, (.bipush 59, 2), (0, 0, 0, 0)),
  (222, (.if_icmp .eq 21, 3), (0, 0, 0, 0)),
  (225, (.iload_n 1, 1), (0, 0, 0, 0)),
  (226, (.bipush 60, 2), (0, 0, 0, 0)),
  (228, (.if_icmp .eq 15, 3), (0, 0, 0, 0)),
  (231, (.iload_n 1, 1), (0, 0, 0, 0)),
  (232, (.bipush 62, 2), (0, 0, 0, 0)),
  (234, (.if_icmp .eq 9, 3), (0, 0, 0, 0)),
  (237, (.iload_n 1, 1), (0, 0, 0, 0)),
  (238, (.bipush 61, 2), (0, 0, 0, 0)),
  (240, (.if_icmp .ne 7, 3), (0, 0, 0, 0)),
  (243, (.iconst 4, 1), (0, 0, 0, 0)),
  (244, (.goto 4, 3), (0, 0, 0, 0)),
  (247, (.iconst 1, 1), (0, 0, 0, 0)),
  (248, (.putfield 135, 3), (11, 12, 0, 0)),
  (251, (.return_, 1), (0, 0, 0, 0))]
noncomputable def tb_219 : List TE := [ -- X12_isSign
  (0, (.aload_n 0, 1), (0, 0, 0, 0)),
  (1, (.getfield 135, 3), (11, 12, 0, 0)),
  (4, (.iconst 4, 1), (0, 0, 0, 0)),
  (5, (.if_icmp .ne 15, 3), (0, 0, 0, 0)),
  (8, (.aload_n 0, 1), (0, 0, 0, 0)),
  (9, (.getfield 132, 3), (11, 15, 0, 0)),
  (12, (.iload_n 1, 1), (0, 0, 0, 0)),
  (13, (.if_icmp .ne 7, 3), (0, 0, 0, 0)),
  (16, (.iconst 1, 1), (0, 0, 0, 0)),
  (17, (.goto 4, 3), (0, 0, 0, 0)),
  (20, (.iconst 0, 1), (0, 0, 0, 0)),
  (21, (.ireturn, 1), (0, 0, 0, 0))]
noncomputable def tb_220 : List TE := [ -- X12_inWords
  (0, (.aload_n 0, 1), (0, 0, 0, 0)),
  (1, (.getfield 135, 3), (11, 12, 0, 0)),
  (4, (.iconst 2, 1), (0, 0, 0, 0)),
  (5, (.if_icmp .eq 5, 3), (0, 0, 0, 0)),
  (8, (.iconst (-1), 1), (0, 0, 0, 0)),
  (9, (.ireturn, 1), (0, 0, 0, 0)),
  (10, (.iconst 0, 1), (0, 0, 0, 0)),
  (11, (.istore_n 2, 1), (0, 0, 0, 0)),
  (12, (.iconst 1, 1), (0, 0, 0, 0)),
  (13, (.istore_n 3, 1), (0, 0, 0, 0)),
  (14, (.iload_n 3, 1), (0, 0, 0, 0)),
  (15, (.aload_n 1, 1), (0, 0, 0, 0)),
  (16, (.invokevirtual 150, 3), (343, 0, 40, 0)),
  (19, (.if_icmp .ge 114, 3), (0, 0, 0, 0)),
  (22, (.iload_n 3, 1), (0, 0, 0, 0)),
  (23, (.istore 4, 2), (0, 0, 0, 0)),
  (25, (.aload_n 1, 1), (0, 0, 0, 0)),
  (26, (.iload 4, 2), (0, 0, 0, 0)),
  (28, (.invokevirtual 156, 3), (344, 1, 40, 0)),
  (31, (.bipush 32, 2), (0, 0, 0, 0)),
  (33, (.if_icmp .eq 9, 3), (0, 0, 0, 0)),
  (36, (.iinc 4 1, 3), (0, 0, 0, 0)),
  (39, (.goto (-14), 3), (0, 0, 0, 0)),
  (42, (.iload 4, 2), (0, 0, 0, 0)),
  (44, (.iload_n 3, 1), (0, 0, 0, 0)),
  (45, (.isub, 1), (0, 0, 0, 0)),
  (46, (.aload_n 0, 1), (0, 0, 0, 0)),
  (47, (.getfield 123, 3), (11, 14, 0, 0)),
  (50, (.aload_n 0, 1), (0, 0, 0, 0)),
  (51, (.getfield 129, 3), (11, 13, 0, 0)),
  (54, (.isub, 1), (0, 0, 0, 0)),
  (55, (.if_icmp .ne 7, 3), (0, 0, 0, 0)),
  (58, (.iconst 1, 1), (0, 0, 0, 0)),
  (59, (.goto 4, 3), (0, 0, 0, 0)),
  (62, (.iconst 0, 1), (0, 0, 0, 0)),
  (63, (.istore 5, 2), (0, 0, 0, 0)),
  (65, (.iload_n 3, 1), (0, 0, 0, 0)),
  (66, (.istore 6, 2), (0, 0, 0, 0)),
  (68, (.iload 6, 2), (0, 0, 0, 0)),
  (70, (.iload 4, 2), (0, 0, 0, 0)),
  (72, (.if_icmp .ge 43, 3), (0, 0, 0, 0)),
  (75, (.iload 5, 2), (0, 0, 0, 0)),
  (77, (.ifCond .eq 38, 3), (0, 0, 0, 0)),
  (80, (.aload_n 1, 1), (0, 0, 0, 0)),
  (81, (.iload 6, 2), (0, 0, 0, 0)),
  (83, (.invokevirtual 156, 3), (344, 1, 40, 0)),
  (86, (.aload_n 0, 1), (0, 0, 0, 0)),
  (87, (.aload_n 0, 1), (0, 0, 0, 0)),
  (88, (.getfield 129, 3), (11, 13, 0, 0)),
  (91, (.iload 6, 2), (0, 0, 0, 0)),
  (93, (.iadd, 1), (0, 0, 0, 0)),
  (94, (.iload_n 3, 1), (0, 0, 0, 0)),
  (95, (.isub, 1), (0, 0, 0, 0)),
  (96, (.invokevirtual 126, 3), (215, 1, 11, 0)),
  (99, (.if_icmp .ne 7, 3), (0, 0, 0, 0)),
  (102, (.iconst 1, 1), (0, 0, 0, 0)),
  (103, (.goto 4, 3), (0, 0, 0, 0)),
  (106, (.iconst 0, 1), (0, 0, 0, 0)),
  (107, (.istore 5, 2), (0, 0, 0, 0)),
  (109, (.iinc 6 1, 3), (0, 0, 0, 0)),
  (112, (.goto (-44), 3), (0, 0, 0, 0)),
  (115, (.iload 5, 2), (0, 0, 0, 0)),
  (117, (.ifCond .eq 5, 3), (0, 0, 0, 0)),
  (120, (.iload_n 2, 1), (0, 0, 0, 0)),
  (121, (.ireturn, 1), (0, 0, 0, 0)),
  (122, (.iinc 2 1, 3), (0, 0, 0, 0)),
  (125, (.iload 4, 2), (0, 0, 0, 0)),
  (127, (.iconst 1, 1), (0, 0, 0, 0)),
  (128, (.iadd, 1), (0, 0, 0, 0)),
  (129, (.istore_n 3, 1), (0, 0, 0, 0)),
  (130, (.goto (-116), 3), (0, 0, 0, 0)),
  (133, (.iconst (-1), 1), (0, 0, 0, 0)),
  (134, (.ireturn, 1), (0, 0, 0, 0))]
noncomputable def tb_221 : List TE := [ -- X12_fails
  (0, (.aload_n 0, 1), (0, 0, 0, 0)),
  (1, (.getfield 160, 3), (11, 18, 0, 0)),
  (4, (.ifCond .ne 28, 3), (0, 0, 0, 0)),
  (7, (.aload_n 0, 1), (0, 0, 0, 0)),
  (8, (.aload_n 0, 1), (0, 0, 0, 0)),
  (9, (.getfield 135, 3), (11, 12, 0, 0)),
  (12, (.iconst 1, 1), (0, 0, 0, 0)),
  (13, (.if_icmp .ne 7, 3), (0, 0, 0, 0)),
  (16, (.iconst 1, 1), (0, 0, 0, 0)),
  (17, (.goto 4, 3), (0, 0, 0, 0)),
  (20, (.iload_n 1, 1), (0, 0, 0, 0)),
  (21, (.putfield 160, 3), (11, 18, 0, 0)),
  (24, (.aload_n 0, 1), (0, 0, 0, 0)),
  (25, (.aload_n 0, 1), (0, 0, 0, 0)),
  (26, (.getfield 129, 3), (11, 13, 0, 0)),
  (29, (.putfield 41, 3), (11, 17, 0, 0)),
  (32, (.iconst 0, 1), (0, 0, 0, 0)),
  (33, (.ireturn, 1), (0, 0, 0, 0))]
noncomputable def tb_222 : List TE := [ -- X12_begins
  (0, (.iload_n 1, 1), (0, 0, 0, 0)),
  (1, (.ifCond .lt 16, 3), (0, 0, 0, 0)),
  (4, (.iload_n 1, 1), (0, 0, 0, 0)),
  (5, (.aload_n 0, 1), (0, 0, 0, 0)),
  (6, (.getfield 114, 3), (11, 10, 0, 0)),
  (9, (.if_icmp .gt 8, 3), (0, 0, 0, 0)),
  (12, (.iload_n 1, 1), (0, 0, 0, 0)),
  (13, (.iload_n 2, 1), (0, 0, 0, 0)),
  (14, (.if_icmp .le 5, 3), (0, 0, 0, 0)),
  (17, (.iconst 0, 1), (0, 0, 0, 0)),
  (18, (.ireturn, 1), (0, 0, 0, 0)),
  (19, (.aload_n 0, 1), (0, 0, 0, 0)),
  (20, (.iload_n 1, 1), (0, 0, 0, 0)),
  (21, (.putfield 120, 3), (11, 11, 0, 0)),
  (24, (.iconst 0, 1), (0, 0, 0, 0)),
  (25, (.istore_n 3, 1), (0, 0, 0, 0)),
  (26, (.iload_n 3, 1), (0, 0, 0, 0)),
  (27, (.iload_n 1, 1), (0, 0, 0, 0)),
  (28, (.if_icmp .ge 21, 3), (0, 0, 0, 0)),
  (31, (.aload_n 0, 1), (0, 0, 0, 0)),
  (32, (.getfield 34, 3), (11, 9, 2, 0)),
  (35, (.iload_n 3, 1), (0, 0, 0, 0)),
  (36, (.aload_n 0, 1), (0, 0, 0, 0)),
  (37, (.getfield 30, 3), (11, 8, 2, 0)),
  (40, (.iload_n 3, 1), (0, 0, 0, 0)),
  (41, (.baload, 1), (0, 0, 0, 0)),
  (42, (.bastore, 1), (0, 0, 0, 0)),
  (43, (.iinc 3 1, 3), (0, 0, 0, 0)),
  (46, (.goto (-20), 3), (0, 0, 0, 0)),
  (49, (.aload_n 0, 1), (0, 0, 0, 0)),
  (50, (.iconst 0, 1), (0, 0, 0, 0)),
  (51, (.putfield 114, 3), (11, 10, 0, 0)),
  (54, (.aload_n 0, 1), (0, 0, 0, 0)),
  (55, (.iconst 0, 1), (0, 0, 0, 0)),
  (56, (.putfield 160, 3), (11, 18, 0, 0)),
  (59, (.aload_n 0, 1), (0, 0, 0, 0)),
  (60, (.iconst (-1), 1), (0, 0, 0, 0)),
  (61, (.putfield 41, 3), (11, 17, 0, 0)),
  (64, (.aload_n 0, 1), (0, 0, 0, 0)),
  (65, (.iconst 0, 1), (0, 0, 0, 0)),
  (66, (.putfield 123, 3), (11, 14, 0, 0)),
  (69, (.aload_n 0, 1), (0, 0, 0, 0)),
  (70, (.iconst 0, 1), (0, 0, 0, 0)),
  (71, (.putfield 163, 3), (11, 19, 0, 0)),
  (74, (.aload_n 0, 1), (0, 0, 0, 0)),
  (75, (.invokevirtual 166, 3), (218, 0, 11, 0)),
  (78, (.iconst 1, 1), (0, 0, 0, 0)),
  (79, (.ireturn, 1), (0, 0, 0, 0))]
noncomputable def tb_223 : List TE := [ -- X12_wantSign
  (0, (.aload_n 0, 1), (0, 0, 0, 0)),
  (1, (.iload_n 1, 1), (0, 0, 0, 0)),
  (2, (.invokevirtual 169, 3), (219, 1, 11, 0)),
  (5, (.ifCond .ne 9, 3), (0, 0, 0, 0)),
  (8, (.aload_n 0, 1), (0, 0, 0, 0)),
  (9, (.iconst 2, 1), (0, 0, 0, 0)),
  (10, (.invokevirtual 172, 3), (221, 1, 11, 0)),
  (13, (.ireturn, 1), (0, 0, 0, 0)),
  (14, (.aload_n 0, 1), (0, 0, 0, 0)),
  (15, (.invokevirtual 166, 3), (218, 0, 11, 0)),
  (18, (.iconst 1, 1), (0, 0, 0, 0)),
  (19, (.ireturn, 1), (0, 0, 0, 0))]
noncomputable def tb_224 : List TE := [ -- X12_wantWord
  (0, (.aload_n 0, 1), (0, 0, 0, 0)),
  (1, (.aload_n 1, 1), (0, 0, 0, 0)),
  (2, (.invokevirtual 175, 3), (220, 1, 11, 0)),
  (5, (.iload_n 2, 1), (0, 0, 0, 0)),
  (6, (.if_icmp .eq 9, 3), (0, 0, 0, 0)),
  (9, (.aload_n 0, 1), (0, 0, 0, 0)),
  (10, (.iconst 2, 1), (0, 0, 0, 0)),
  (11, (.invokevirtual 172, 3), (221, 1, 11, 0)),
  (14, (.ireturn, 1), (0, 0, 0, 0)),
  (15, (.aload_n 0, 1), (0, 0, 0, 0)),
  (16, (.invokevirtual 166, 3), (218, 0, 11, 0)),
  (19, (.iconst 1, 1), (0, 0, 0, 0)),
  (20, (.ireturn, 1), (0, 0, 0, 0))]
noncomputable def tb_225 : List TE := [ -- X12_number
  (0, (.aload_n 0, 1), (0, 0, 0, 0)),
  (1, (.getfield 135, 3), (11, 12, 0, 0)),
  (4, (.iconst 3, 1), (0, 0, 0, 0)),
  (5, (.if_icmp .eq 9, 3), (0, 0, 0, 0)),
  (8, (.aload_n 0, 1), (0, 0, 0, 0)),
  (9, (.iconst 2, 1), (0, 0, 0, 0)),
  (10, (.invokevirtual 172, 3), (221, 1, 11, 0)),
  (13, (.ireturn, 1), (0, 0, 0, 0)),
  (14, (.aload_n 0, 1), (0, 0, 0, 0)),
  (15, (.getfield 132, 3), (11, 15, 0, 0)),
  (18, (.iload_n 2, 1), (0, 0, 0, 0)),
  (19, (.if_icmp .lt 11, 3), (0, 0, 0, 0)),
  (22, (.aload_n 0, 1), (0, 0, 0, 0)),
  (23, (.getfield 132, 3), (11, 15, 0, 0)),
  (26, (.iload_n 3, 1), (0, 0, 0, 0)),
  (27, (.if_icmp .le 9, 3), (0, 0, 0, 0)),
  (30, (.aload_n 0, 1), (0, 0, 0, 0)),
  (31, (.iconst 4, 1), (0, 0, 0, 0)),
  (32, (.invokevirtual 172, 3), (221, 1, 11, 0)),
  (35, (.ireturn, 1), (0, 0, 0, 0)),
  (36, (.aload_n 0, 1), (0, 0, 0, 0)),
  (37, (.getfield 7, 3), (11, 0, 2, 0)),
  (40, (.iload_n 1, 1), (0, 0, 0, 0)),
  (41, (.aload_n 0, 1), (0, 0, 0, 0)),
  (42, (.getfield 132, 3), (11, 15, 0, 0)),
  (45, (.iastore, 1), (0, 0, 0, 0)),
  (46, (.aload_n 0, 1), (0, 0, 0, 0)),
  (47, (.invokevirtual 166, 3), (218, 0, 11, 0)),
  (50, (.iconst 1, 1), (0, 0, 0, 0)),
  (51, (.ireturn, 1), (0, 0, 0, 0))]
noncomputable def tb_226 : List TE := [ -- X12_isName
  (0, (.aload_n 0, 1), (0, 0, 0, 0)),
  (1, (.getfield 135, 3), (11, 12, 0, 0)),
  (4, (.iconst 2, 1), (0, 0, 0, 0)),
  (5, (.if_icmp .ne 30, 3), (0, 0, 0, 0)),
  (8, (.aload_n 0, 1), (0, 0, 0, 0)),
  (9, (.getfield 123, 3), (11, 14, 0, 0)),
  (12, (.aload_n 0, 1), (0, 0, 0, 0)),
  (13, (.getfield 129, 3), (11, 13, 0, 0)),
  (16, (.isub, 1), (0, 0, 0, 0)),
  (17, (.bipush 8, 2), (0, 0, 0, 0)),
  (19, (.if_icmp .gt 16, 3), (0, 0, 0, 0)),
  (22, (.aload_n 0, 1), (0, 0, 0, 0)),
  (23, (.aload_n 1, 1), (0, 0, 0, 0)),
  (24, (.invokevirtual 175, 3), (220, 1, 11, 0)),
  (27, (.iconst (-1), 1), (0, 0, 0, 0)),
  (28, (.if_icmp .ne 7, 3), (0, 0, 0, 0)),
  (31, (.iconst 1, 1), (0, 0, 0, 0)),
  (32, (.goto 4, 3), (0, 0, 0, 0)),
  (35, (.iconst 0, 1), (0, 0, 0, 0)),
  (36, (.ireturn, 1), (0, 0, 0, 0))]
noncomputable def tb_227 : List TE := [ -- X12_nameHere
  (0, (.lconst 0, 1), (0, 0, 0, 0)),
  (1, (.lstore_n 1, 1), (0, 0, 0, 0)),
  (2, (.aload_n 0, 1), (0, 0, 0, 0)),
  (3, (.getfield 129, 3), (11, 13, 0, 0)),
  (6, (.istore_n 3, 1), (0, 0, 0, 0)),
  (7, (.iload_n 3, 1), (0, 0, 0, 0)),
  (8, (.aload_n 0, 1), (0, 0, 0, 0)),
  (9, (.getfield 123, 3), (11, 14, 0, 0)),
  (12, (.if_icmp .ge 21, 3), (0, 0, 0, 0)),
  (15, (.lload_n 1, 1), (0, 0, 0, 0)),
  (16, (.bipush 8, 2), (0, 0, 0, 0)),
  (18, (.lshl, 1), (0, 0, 0, 0)),
  (19, (.aload_n 0, 1), (0, 0, 0, 0)),
  (20, (.iload_n 3, 1), (0, 0, 0, 0)),
  (21, (.invokevirtual 126, 3), (215, 1, 11, 0)),
  (24, (.i2l, 1), (0, 0, 0, 0)),
  (25, (.lor, 1), (0, 0, 0, 0)),
  (26, (.lstore_n 1, 1), (0, 0, 0, 0)),
  (27, (.iinc 3 1, 3), (0, 0, 0, 0)),
  (30, (.goto (-23), 3), (0, 0, 0, 0)),
  (33, (.lload_n 1, 1), (0, 0, 0, 0)),
  (34, (.lreturn, 1), (0, 0, 0, 0))]
noncomputable def tb_228 : List TE := [ -- X12_findHere
  (0, (.iconst 0, 1), (0, 0, 0, 0)),
  (1, (.istore_n 3, 1), (0, 0, 0, 0)),
  (2, (.iload_n 3, 1), (0, 0, 0, 0)),
  (3, (.iload_n 2, 1), (0, 0, 0, 0)),
  (4, (.if_icmp .ge 27, 3), (0, 0, 0, 0)),
  (7, (.aload_n 0, 1), (0, 0, 0, 0)),
  (8, (.getfield 13, 3), (11, 1, 2, 0)),
  (11, (.iload_n 1, 1), (0, 0, 0, 0)),
  (12, (.iload_n 3, 1), (0, 0, 0, 0)),
  (13, (.iadd, 1), (0, 0, 0, 0)),
  (14, (.laload, 1), (0, 0, 0, 0)),
  (15, (.aload_n 0, 1), (0, 0, 0, 0)),
  (16, (.invokevirtual 179, 3), (227, 0, 11, 0)),
  (19, (.lcmp, 1), (0, 0, 0, 0)),
  (20, (.ifCond .ne 5, 3), (0, 0, 0, 0)),
  (23, (.iload_n 3, 1), (0, 0, 0, 0)),
  (24, (.ireturn, 1), (0, 0, 0, 0)),
  (25, (.iinc 3 1, 3), (0, 0, 0, 0)),
  (28, (.goto (-26), 3), (0, 0, 0, 0)),
  (31, (.iconst (-1), 1), (0, 0, 0, 0)),
  (32, (.ireturn, 1), (0, 0, 0, 0))]
noncomputable def tb_229 : List TE := [ -- X12_fault
  (0, (.iload_n 1, 1), (0, 0, 0, 0)),
  (1, (.ifCond .ne 10, 3), (0, 0, 0, 0)),
  (4, (.aload_n 0, 1), (0, 0, 0, 0)),
  (5, (.getfield 37, 3), (11, 16, 0, 0)),
  (8, (.goto 16, 3), (0, 0, 0, 0)),
  (11, (.iload_n 1, 1), (0, 0, 0, 0)),
  (12, (.iconst 1, 1), (0, 0, 0, 0)),
  (13, (.if_icmp .ne 10, 3), (0, 0, 0, 0)),
  (16, (.aload_n 0, 1), (0, 0, 0, 0)),
  (17, (.getfield 41, 3), (11, 17, 0, 0)),
  (20, (.goto 4, 3), (0, 0, 0, 0)),
  (23, (.iconst (-1), 1), (0, 0, 0, 0)),
  (24, (.ireturn, 1), (0, 0, 0, 0))]
noncomputable def tb_230 : List TE := [ -- X12_taken
  (0, (.aload_n 0, 1), (0, 0, 0, 0)),
  (1, (.aload_n 0, 1), (0, 0, 0, 0)),
  (2, (.getfield 160, 3), (11, 18, 0, 0)),
  (5, (.putfield 37, 3), (11, 16, 0, 0)),
  (8, (.aload_n 0, 1), (0, 0, 0, 0)),
  (9, (.getfield 160, 3), (11, 18, 0, 0)),
  (12, (.ifCond .le 12, 3), (0, 0, 0, 0)),
  (15, (.aload_n 0, 1), (0, 0, 0, 0)),
  (16, (.bipush 9, 2), (0, 0, 0, 0)),
  (18, (.invokevirtual 90, 3), (201, 1, 11, 0)),
  (21, (.goto 8, 3), (0, 0, 0, 0)),
  (24, (.aload_n 0, 1), (0, 0, 0, 0)),
  (25, (.iload_n 1, 1), (0, 0, 0, 0)),
  (26, (.invokevirtual 94, 3), (202, 1, 11, 0)),
  (29, (.ireturn, 1), (0, 0, 0, 0))]
noncomputable def tb_231 : List TE := [ -- X12_thingRow
  (0, (.bipush 12, 2), (0, 0, 0, 0)),
  (2, (.iconst 4, 1), (0, 0, 0, 0)),
  (3, (.iload_n 0, 1), (0, 0, 0, 0)),
  (4, (.imul, 1), (0, 0, 0, 0)),
  (5, (.iadd, 1), (0, 0, 0, 0)),
  (6, (.ireturn, 1), (0, 0, 0, 0))]
noncomputable def tb_232 : List TE := [ -- X12_manRow
  (0, (.bipush 44, 2), (0, 0, 0, 0)),
  (2, (.bipush 10, 2), (0, 0, 0, 0)),
  (4, (.iload_n 0, 1), (0, 0, 0, 0)),
  (5, (.imul, 1), (0, 0, 0, 0)),
  (6, (.iadd, 1), (0, 0, 0, 0)),
  (7, (.ireturn, 1), (0, 0, 0, 0))]
noncomputable def tb_233 : List TE := [ -- X12_isThere
  (0, (.aload_n 0, 1), (0, 0, 0, 0)),
  (1, (.ldc 183, 2), (1, 0, 0, (-9))),
  (3, (.invokevirtual 175, 3), (220, 1, 11, 0)),
  (6, (.iload_n 1, 1), (0, 0, 0, 0)),
  (7, (.if_icmp .eq 5, 3), (0, 0, 0, 0)),
  (10, (.iconst 0, 1), (0, 0, 0, 0)),
  (11, (.ireturn, 1), (0, 0, 0, 0)),
  (12, (.aload_n 0, 1), (0, 0, 0, 0)),
  (13, (.invokevirtual 166, 3), (218, 0, 11, 0)),
  (16, (.iconst 1, 1), (0, 0, 0, 0)),
  (17, (.ireturn, 1), (0, 0, 0, 0))]
noncomputable def tb_234 : List TE := [ -- X12_newOne
  (0, (.aload_n 0, 1), (0, 0, 0, 0)),
  (1, (.getfield 7, 3), (11, 0, 2, 0)),
  (4, (.sipush 1888, 3), (0, 0, 0, 0)),
  (7, (.iload_n 1, 1), (0, 0, 0, 0)),
  (8, (.iadd, 1), (0, 0, 0, 0)),
  (9, (.iaload, 1), (0, 0, 0, 0)),
  (10, (.iload_n 2, 1), (0, 0, 0, 0)),
  (11, (.if_icmp .ne 10, 3), (0, 0, 0, 0)),
  (14, (.aload_n 0, 1), (0, 0, 0, 0)),
  (15, (.bipush 6, 2), (0, 0, 0, 0)),
  (17, (.invokevirtual 172, 3), (221, 1, 11, 0)),
  (20, (.ireturn, 1), (0, 0, 0, 0)),
  (21, (.aload_n 0, 1), (0, 0, 0, 0)),
  (22, (.invokevirtual 166, 3), (218, 0, 11, 0)),
  (25, (.aload_n 0, 1), (0, 0, 0, 0)),
  (26, (.ldc 183, 2), (1, 0, 0, (-9))),
  (28, (.invokevirtual 185, 3), (226, 1, 11, 0)),
  (31, (.ifCond .ne 9, 3), (0, 0, 0, 0)),
  (34, (.aload_n 0, 1), (0, 0, 0, 0)),
  (35, (.iconst 2, 1), (0, 0, 0, 0)),
  (36, (.invokevirtual 172, 3), (221, 1, 11, 0)),
  (39, (.ireturn, 1), (0, 0, 0, 0)),
  (40, (.aload_n 0, 1), (0, 0, 0, 0)),
  (41, (.bipush 56, 2), (0, 0, 0, 0)),
  (43, (.aload_n 0, 1), (0, 0, 0, 0)),
  (44, (.getfield 7, 3), (11, 0, 2, 0)),
  (47, (.sipush 1888, 3), (0, 0, 0, 0)),
  (50, (.iaload, 1), (0, 0, 0, 0)),
  (51, (.invokevirtual 189, 3), (228, 2, 11, 0)),
  (54, (.iconst (-1), 1), (0, 0, 0, 0)),
  (55, (.if_icmp .ne 21, 3), (0, 0, 0, 0)),
  (58, (.aload_n 0, 1), (0, 0, 0, 0)),
  (59, (.bipush 64, 2), (0, 0, 0, 0)),
  (61, (.aload_n 0, 1), (0, 0, 0, 0)),
  (62, (.getfield 7, 3), (11, 0, 2, 0)),
  (65, (.sipush 1889, 3), (0, 0, 0, 0)),
  (68, (.iaload, 1), (0, 0, 0, 0)),
  (69, (.invokevirtual 189, 3), (228, 2, 11, 0)),
  (72, (.iconst (-1), 1), (0, 0, 0, 0)),
  (73, (.if_icmp .eq 9, 3), (0, 0, 0, 0)),
  (76, (.aload_n 0, 1), (0, 0, 0, 0)),
  (77, (.iconst 3, 1), (0, 0, 0, 0)),
  (78, (.invokevirtual 172, 3), (221, 1, 11, 0)),
  (81, (.ireturn, 1), (0, 0, 0, 0)),
  (82, (.aload_n 0, 1), (0, 0, 0, 0)),
  (83, (.getfield 13, 3), (11, 1, 2, 0)),
  (86, (.bipush 56, 2), (0, 0, 0, 0)),
  (88, (.iload_n 3, 1), (0, 0, 0, 0)),
  (89, (.iadd, 1), (0, 0, 0, 0)),
  (90, (.aload_n 0, 1), (0, 0, 0, 0)),
  (91, (.getfield 7, 3), (11, 0, 2, 0)),
  (94, (.sipush 1888, 3), (0, 0, 0, 0)),
  (97, (.iload_n 1, 1), (0, 0, 0, 0)),
  (98, (.iadd, 1), (0, 0, 0, 0)),
  (99, (.iaload, 1), (0, 0, 0, 0)),
  (100, (.iadd, 1), (0, 0, 0, 0)),
  (101, (.aload_n 0, 1), (0, 0, 0, 0)),
  (102, (.invokevirtual 179, 3), (227, 0, 11, 0)),
  (105, (.lastore, 1), (0, 0, 0, 0)),
  (106, (.aload_n 0, 1), (0, 0, 0, 0)),
  (107, (.invokevirtual 166, 3), (218, 0, 11, 0)),
  (110, (.iconst 1, 1), (0, 0, 0, 0)),
  (111, (.ireturn, 1), (0, 0, 0, 0))]
noncomputable def tb_235 : List TE := [ -- X12_oldOne
  (0, (.aload_n 0, 1), (0, 0, 0, 0)),
  (1, (.ldc 183, 2), (1, 0, 0, (-9))),
  (3, (.invokevirtual 185, 3), (226, 1, 11, 0)),
  (6, (.ifCond .ne 9, 3), (0, 0, 0, 0)),
  (9, (.aload_n 0, 1), (0, 0, 0, 0)),
  (10, (.iconst 2, 1), (0, 0, 0, 0)),
  (11, (.invokevirtual 172, 3), (221, 1, 11, 0)),
  (14, (.ireturn, 1), (0, 0, 0, 0)),
  (15, (.aload_n 0, 1), (0, 0, 0, 0)),
  (16, (.getfield 7, 3), (11, 0, 2, 0)),
  (19, (.iload_n 3, 1), (0, 0, 0, 0)),
  (20, (.aload_n 0, 1), (0, 0, 0, 0)),
  (21, (.iload_n 1, 1), (0, 0, 0, 0)),
  (22, (.iload_n 2, 1), (0, 0, 0, 0)),
  (23, (.invokevirtual 189, 3), (228, 2, 11, 0)),
  (26, (.iastore, 1), (0, 0, 0, 0)),
  (27, (.aload_n 0, 1), (0, 0, 0, 0)),
  (28, (.getfield 7, 3), (11, 0, 2, 0)),
  (31, (.iload_n 3, 1), (0, 0, 0, 0)),
  (32, (.iaload, 1), (0, 0, 0, 0)),
  (33, (.iconst (-1), 1), (0, 0, 0, 0)),
  (34, (.if_icmp .ne 9, 3), (0, 0, 0, 0)),
  (37, (.aload_n 0, 1), (0, 0, 0, 0)),
  (38, (.iconst 3, 1), (0, 0, 0, 0)),
  (39, (.invokevirtual 172, 3), (221, 1, 11, 0)),
  (42, (.ireturn, 1), (0, 0, 0, 0)),
  (43, (.aload_n 0, 1), (0, 0, 0, 0)),
  (44, (.invokevirtual 166, 3), (218, 0, 11, 0)),
  (47, (.iconst 1, 1), (0, 0, 0, 0)),
  (48, (.ireturn, 1), (0, 0, 0, 0))]
noncomputable def tb_236 : List TE := [ -- X12_aThing
  (0, (.sipush 1888, 3), (0, 0, 0, 0)),
  (3, (.aload_n 0, 1), (0, 0, 0, 0)),
  (4, (.getfield 7, 3), (11, 0, 2, 0)),
  (7, (.sipush 1888, 3), (0, 0, 0, 0)),
  (10, (.iaload, 1), (0, 0, 0, 0)),
  (11, (.invokestatic 192, 3), (231, 1, 0, 0)),
  (14, (.iadd, 1), (0, 0, 0, 0)),
  (15, (.istore_n 1, 1), (0, 0, 0, 0)),
  (16, (.aload_n 0, 1), (0, 0, 0, 0)),
  (17, (.iconst 0, 1), (0, 0, 0, 0)),
  (18, (.bipush 8, 2), (0, 0, 0, 0)),
  (20, (.iconst 0, 1), (0, 0, 0, 0)),
  (21, (.invokevirtual 195, 3), (234, 3, 11, 0)),
  (24, (.ifCond .eq 49, 3), (0, 0, 0, 0)),
  (27, (.aload_n 0, 1), (0, 0, 0, 0)),
  (28, (.ldc 183, 2), (1, 0, 0, (-9))),
  (30, (.bipush 6, 2), (0, 0, 0, 0)),
  (32, (.invokevirtual 199, 3), (224, 2, 11, 0)),
  (35, (.ifCond .eq 38, 3), (0, 0, 0, 0)),
  (38, (.aload_n 0, 1), (0, 0, 0, 0)),
  (39, (.iload_n 1, 1), (0, 0, 0, 0)),
  (40, (.iconst 1, 1), (0, 0, 0, 0)),
  (41, (.bipush 6, 2), (0, 0, 0, 0)),
  (43, (.invokevirtual 203, 3), (225, 3, 11, 0)),
  (46, (.ifCond .eq 27, 3), (0, 0, 0, 0)),
  (49, (.aload_n 0, 1), (0, 0, 0, 0)),
  (50, (.ldc 183, 2), (1, 0, 0, (-9))),
  (52, (.bipush 7, 2), (0, 0, 0, 0)),
  (54, (.invokevirtual 199, 3), (224, 2, 11, 0)),
  (57, (.ifCond .eq 16, 3), (0, 0, 0, 0)),
  (60, (.aload_n 0, 1), (0, 0, 0, 0)),
  (61, (.iload_n 1, 1), (0, 0, 0, 0)),
  (62, (.iconst 1, 1), (0, 0, 0, 0)),
  (63, (.iadd, 1), (0, 0, 0, 0)),
  (64, (.iconst 0, 1), (0, 0, 0, 0)),
  (65, (.bipush 9, 2), (0, 0, 0, 0)),
  (67, (.invokevirtual 203, 3), (225, 3, 11, 0)),
  (70, (.ifCond .ne 5, 3), (0, 0, 0, 0)),
  (73, (.iconst 0, 1), (0, 0, 0, 0)),
  (74, (.ireturn, 1), (0, 0, 0, 0)),
  (75, (.aload_n 0, 1), (0, 0, 0, 0)),
  (76, (.ldc 183, 2), (1, 0, 0, (-9))),
  (78, (.bipush 8, 2), (0, 0, 0, 0)),
  (80, (.invokevirtual 199, 3), (224, 2, 11, 0)),
  (83, (.ifCond .eq 16, 3), (0, 0, 0, 0)),
  (86, (.aload_n 0, 1), (0, 0, 0, 0)),
  (87, (.iload_n 1, 1), (0, 0, 0, 0)),
  (88, (.iconst 2, 1), (0, 0, 0, 0)),
  (89, (.iadd, 1), (0, 0, 0, 0)),
  (90, (.iconst 1, 1), (0, 0, 0, 0)),
  (91, (.bipush 30, 2), (0, 0, 0, 0)),
  (93, (.invokevirtual 203, 3), (225, 3, 11, 0)),
  (96, (.ifCond .ne 5, 3), (0, 0, 0, 0)),
  (99, (.iconst 0, 1), (0, 0, 0, 0)),
  (100, (.ireturn, 1), (0, 0, 0, 0)),
  (101, (.aload_n 0, 1), (0, 0, 0, 0)),
  (102, (.getfield 7, 3), (11, 0, 2, 0)),
  (105, (.sipush 1888, 3), (0, 0, 0, 0)),
  (108, (.dup2, 1), (0, 0, 0, 0)),
  (109, (.iaload, 1), (0, 0, 0, 0)),
  (110, (.iconst 1, 1), (0, 0, 0, 0)),
  (111, (.iadd, 1), (0, 0, 0, 0)),
  (112, (.iastore, 1), (0, 0, 0, 0)),
  (113, (.iconst 1, 1), (0, 0, 0, 0)),
  (114, (.ireturn, 1), (0, 0, 0, 0))]
noncomputable def tb_237 : List TE := [ -- X12_newHolding
  (0, (.aload_n 0, 1), (0, 0, 0, 0)),
  (1, (.ldc 183, 2), (1, 0, 0, (-9))),
  (3, (.invokevirtual 185, 3), (226, 1, 11, 0)),
  (6, (.ifCond .eq 68, 3), (0, 0, 0, 0)),
  (9, (.aload_n 0, 1), (0, 0, 0, 0)),
  (10, (.bipush 56, 2), (0, 0, 0, 0)),
  (12, (.aload_n 0, 1), (0, 0, 0, 0)),
  (13, (.getfield 7, 3), (11, 0, 2, 0)),
  (16, (.sipush 1888, 3), (0, 0, 0, 0)),
  (19, (.iaload, 1), (0, 0, 0, 0)),
  (20, (.invokevirtual 189, 3), (228, 2, 11, 0)),
  (23, (.istore_n 2, 1), (0, 0, 0, 0)),
  (24, (.iconst 0, 1), (0, 0, 0, 0)),
  (25, (.istore_n 3, 1), (0, 0, 0, 0)),
  (26, (.iload_n 3, 1), (0, 0, 0, 0)),
  (27, (.aload_n 0, 1), (0, 0, 0, 0)),
  (28, (.getfield 7, 3), (11, 0, 2, 0)),
  (31, (.sipush 1889, 3), (0, 0, 0, 0)),
  (34, (.iaload, 1), (0, 0, 0, 0)),
  (35, (.if_icmp .ge 39, 3), (0, 0, 0, 0)),
  (38, (.iload_n 2, 1), (0, 0, 0, 0)),
  (39, (.iconst (-1), 1), (0, 0, 0, 0)),
  (40, (.if_icmp .eq 34, 3), (0, 0, 0, 0)),
  (43, (.aload_n 0, 1), (0, 0, 0, 0)),
  (44, (.getfield 7, 3), (11, 0, 2, 0)),
  (47, (.sipush 1888, 3), (0, 0, 0, 0)),
  (50, (.iload_n 3, 1), (0, 0, 0, 0)),
  (51, (.invokestatic 206, 3), (232, 1, 0, 0)),
  (54, (.iadd, 1), (0, 0, 0, 0)),
  (55, (.iconst 3, 1), (0, 0, 0, 0)),
  (56, (.iadd, 1), (0, 0, 0, 0)),
  (57, (.iaload, 1), (0, 0, 0, 0)),
  (58, (.iload_n 2, 1), (0, 0, 0, 0)),
  (59, (.if_icmp .ne 9, 3), (0, 0, 0, 0)),
  (62, (.aload_n 0, 1), (0, 0, 0, 0)),
  (63, (.iconst 5, 1), (0, 0, 0, 0)),
  (64, (.invokevirtual 172, 3), (221, 1, 11, 0)),
  (67, (.ireturn, 1), (0, 0, 0, 0)),
  (68, (.iinc 3 1, 3), (0, 0, 0, 0)),
  (71, (.goto (-45), 3), (0, 0, 0, 0)),
  (74, (.aload_n 0, 1), (0, 0, 0, 0)),
  (75, (.bipush 56, 2), (0, 0, 0, 0)),
  (77, (.aload_n 0, 1), (0, 0, 0, 0)),
  (78, (.getfield 7, 3), (11, 0, 2, 0)),
  (81, (.sipush 1888, 3), (0, 0, 0, 0)),
  (84, (.iaload, 1), (0, 0, 0, 0)),
  (85, (.iload_n 1, 1), (0, 0, 0, 0)),
  (86, (.iconst 3, 1), (0, 0, 0, 0)),
  (87, (.iadd, 1), (0, 0, 0, 0)),
  (88, (.invokevirtual 209, 3), (235, 3, 11, 0)),
  (91, (.ireturn, 1), (0, 0, 0, 0))]
noncomputable def tb_238 : List TE := [ -- X12_aMan
  (0, (.sipush 1888, 3), (0, 0, 0, 0)),
  (3, (.aload_n 0, 1), (0, 0, 0, 0)),
  (4, (.getfield 7, 3), (11, 0, 2, 0)),
  (7, (.sipush 1889, 3), (0, 0, 0, 0)),
  (10, (.iaload, 1), (0, 0, 0, 0)),
  (11, (.invokestatic 206, 3), (232, 1, 0, 0)),
  (14, (.iadd, 1), (0, 0, 0, 0)),
  (15, (.istore_n 1, 1), (0, 0, 0, 0)),
  (16, (.aload_n 0, 1), (0, 0, 0, 0)),
  (17, (.iconst 1, 1), (0, 0, 0, 0)),
  (18, (.bipush 6, 2), (0, 0, 0, 0)),
  (20, (.bipush 8, 2), (0, 0, 0, 0)),
  (22, (.invokevirtual 195, 3), (234, 3, 11, 0)),
  (25, (.ifCond .eq 49, 3), (0, 0, 0, 0)),
  (28, (.aload_n 0, 1), (0, 0, 0, 0)),
  (29, (.ldc 183, 2), (1, 0, 0, (-9))),
  (31, (.bipush 9, 2), (0, 0, 0, 0)),
  (33, (.invokevirtual 199, 3), (224, 2, 11, 0)),
  (36, (.ifCond .eq 38, 3), (0, 0, 0, 0)),
  (39, (.aload_n 0, 1), (0, 0, 0, 0)),
  (40, (.iload_n 1, 1), (0, 0, 0, 0)),
  (41, (.iconst 0, 1), (0, 0, 0, 0)),
  (42, (.bipush 9, 2), (0, 0, 0, 0)),
  (44, (.invokevirtual 203, 3), (225, 3, 11, 0)),
  (47, (.ifCond .eq 27, 3), (0, 0, 0, 0)),
  (50, (.aload_n 0, 1), (0, 0, 0, 0)),
  (51, (.ldc 183, 2), (1, 0, 0, (-9))),
  (53, (.bipush 10, 2), (0, 0, 0, 0)),
  (55, (.invokevirtual 199, 3), (224, 2, 11, 0)),
  (58, (.ifCond .eq 16, 3), (0, 0, 0, 0)),
  (61, (.aload_n 0, 1), (0, 0, 0, 0)),
  (62, (.iload_n 1, 1), (0, 0, 0, 0)),
  (63, (.iconst 1, 1), (0, 0, 0, 0)),
  (64, (.iadd, 1), (0, 0, 0, 0)),
  (65, (.iconst 1, 1), (0, 0, 0, 0)),
  (66, (.bipush 60, 2), (0, 0, 0, 0)),
  (68, (.invokevirtual 203, 3), (225, 3, 11, 0)),
  (71, (.ifCond .ne 5, 3), (0, 0, 0, 0)),
  (74, (.iconst 0, 1), (0, 0, 0, 0)),
  (75, (.ireturn, 1), (0, 0, 0, 0)),
  (76, (.aload_n 0, 1), (0, 0, 0, 0)),
  (77, (.getfield 7, 3), (11, 0, 2, 0)),
  (80, (.iload_n 1, 1), (0, 0, 0, 0)),
  (81, (.iconst 2, 1), (0, 0, 0, 0)),
  (82, (.iadd, 1), (0, 0, 0, 0)),
  (83, (.aload_n 0, 1), (0, 0, 0, 0)),
  (84, (.getfield 7, 3), (11, 0, 2, 0)),
  (87, (.iload_n 1, 1), (0, 0, 0, 0)),
  (88, (.iconst 1, 1), (0, 0, 0, 0)),
  (89, (.iadd, 1), (0, 0, 0, 0)),
  (90, (.iaload, 1), (0, 0, 0, 0)),
  (91, (.iastore, 1), (0, 0, 0, 0)),
  (92, (.aload_n 0, 1), (0, 0, 0, 0)),
  (93, (.getfield 7, 3), (11, 0, 2, 0)),
  (96, (.iload_n 1, 1), (0, 0, 0, 0)),
  (97, (.iconst 3, 1), (0, 0, 0, 0)),
  (98, (.iadd, 1), (0, 0, 0, 0)),
  (99, (.iconst (-1), 1), (0, 0, 0, 0)),
  (100, (.iastore, 1), (0, 0, 0, 0)),
  (101, (.aload_n 0, 1), (0, 0, 0, 0)),
  (102, (.bipush 11, 2), (0, 0, 0, 0)),
  (104, (.invokevirtual 212, 3), (233, 1, 11, 0)),
  (107, (.ifCond .eq 13, 3), (0, 0, 0, 0)),
  (110, (.aload_n 0, 1), (0, 0, 0, 0)),
  (111, (.iload_n 1, 1), (0, 0, 0, 0)),
  (112, (.invokevirtual 215, 3), (237, 1, 11, 0)),
  (115, (.ifCond .ne 5, 3), (0, 0, 0, 0)),
  (118, (.iconst 0, 1), (0, 0, 0, 0)),
  (119, (.ireturn, 1), (0, 0, 0, 0)),
  (120, (.aload_n 0, 1), (0, 0, 0, 0)),
  (121, (.getfield 7, 3), (11, 0, 2, 0)),
  (124, (.sipush 1889, 3), (0, 0, 0, 0)),
  (127, (.dup2, 1), (0, 0, 0, 0)),
  (128, (.iaload, 1), (0, 0, 0, 0)),
  (129, (.iconst 1, 1), (0, 0, 0, 0)),
  (130, (.iadd, 1), (0, 0, 0, 0)),
  (131, (.iastore, 1), (0, 0, 0, 0)),
  (132, (.iconst 1, 1), (0, 0, 0, 0)),
  (133, (.ireturn, 1), (0, 0, 0, 0))]
noncomputable def tb_239 : List TE := [ -- X12_dawnPart
  (0, (.aload_n 0, 1), (0, 0, 0, 0)),
  (1, (.ldc 183, 2), (1, 0, 0, (-9))),
  (3, (.invokevirtual 175, 3), (220, 1, 11, 0)),
  (6, (.istore_n 1, 1), (0, 0, 0, 0)),
  (7, (.iload_n 1, 1), (0, 0, 0, 0)),
  (8, (.ifCond .lt 8, 3), (0, 0, 0, 0)),
  (11, (.iload_n 1, 1), (0, 0, 0, 0)),
  (12, (.iconst 5, 1), (0, 0, 0, 0)),
  (13, (.if_icmp .le 9, 3), (0, 0, 0, 0)),
  (16, (.aload_n 0, 1), (0, 0, 0, 0)),
  (17, (.iconst 2, 1), (0, 0, 0, 0)),
  (18, (.invokevirtual 172, 3), (221, 1, 11, 0)),
  (21, (.ireturn, 1), (0, 0, 0, 0)),
  (22, (.iload_n 1, 1), (0, 0, 0, 0)),
  (23, (.iconst 3, 1), (0, 0, 0, 0)),
  (24, (.if_icmp .gt 21, 3), (0, 0, 0, 0)),
  (27, (.aload_n 0, 1), (0, 0, 0, 0)),
  (28, (.getfield 218, 3), (11, 20, 0, 0)),
  (31, (.iload_n 1, 1), (0, 0, 0, 0)),
  (32, (.ishr, 1), (0, 0, 0, 0)),
  (33, (.iconst 1, 1), (0, 0, 0, 0)),
  (34, (.iand, 1), (0, 0, 0, 0)),
  (35, (.iconst 1, 1), (0, 0, 0, 0)),
  (36, (.if_icmp .ne 9, 3), (0, 0, 0, 0)),
  (39, (.aload_n 0, 1), (0, 0, 0, 0)),
  (40, (.iconst 5, 1), (0, 0, 0, 0)),
  (41, (.invokevirtual 172, 3), (221, 1, 11, 0)),
  (44, (.ireturn, 1), (0, 0, 0, 0)),
  (45, (.aload_n 0, 1), (0, 0, 0, 0)),
  (46, (.dup, 1), (0, 0, 0, 0)),
  (47, (.getfield 218, 3), (11, 20, 0, 0)),
  (50, (.iconst 1, 1), (0, 0, 0, 0)),
  (51, (.iload_n 1, 1), (0, 0, 0, 0)),
  (52, (.ishl, 1), (0, 0, 0, 0)),
  (53, (.ior, 1), (0, 0, 0, 0)),
  (54, (.putfield 218, 3), (11, 20, 0, 0)),
  (57, (.iload_n 1, 1), (0, 0, 0, 0)),
  (58, (.iconst 3, 1), (0, 0, 0, 0)),
  (59, (.if_icmp .gt 7, 3), (0, 0, 0, 0)),
  (62, (.aload_n 0, 1), (0, 0, 0, 0)),
  (63, (.invokevirtual 166, 3), (218, 0, 11, 0)),
  (66, (.iload_n 1, 1), (0, 0, 0, 0)),
  (67, (.tableswitch 97 0 4 #[33, 47, 61, 75, 89], 33), (0, 0, 0, 0)),
  (100, (.aload_n 0, 1), (0, 0, 0, 0)),
  (101, (.sipush 1890, 3), (0, 0, 0, 0)),
  (104, (.iconst 2, 1), (0, 0, 0, 0)),
  (105, (.bipush 12, 2), (0, 0, 0, 0)),
  (107, (.invokevirtual 203, 3), (225, 3, 11, 0)),
  (110, (.istore_n 2, 1), (0, 0, 0, 0)),
  (111, (.goto 58, 3), (0, 0, 0, 0)),
  (114, (.aload_n 0, 1), (0, 0, 0, 0)),
  (115, (.sipush 1891, 3), (0, 0, 0, 0)),
  (118, (.iconst 0, 1), (0, 0, 0, 0)),
  (119, (.bipush 99, 2), (0, 0, 0, 0)),
  (121, (.invokevirtual 203, 3), (225, 3, 11, 0)),
  (124, (.istore_n 2, 1), (0, 0, 0, 0)),
  (125, (.goto 44, 3), (0, 0, 0, 0)),
  (128, (.aload_n 0, 1), (0, 0, 0, 0)),
  (129, (.sipush 1892, 3), (0, 0, 0, 0)),
  (132, (.iconst 0, 1), (0, 0, 0, 0)),
  (133, (.bipush 9, 2), (0, 0, 0, 0)),
  (135, (.invokevirtual 203, 3), (225, 3, 11, 0)),
  (138, (.istore_n 2, 1), (0, 0, 0, 0)),
  (139, (.goto 30, 3), (0, 0, 0, 0)),
  (142, (.aload_n 0, 1), (0, 0, 0, 0)),
  (143, (.sipush 1893, 3), (0, 0, 0, 0)),
  (146, (.iconst 0, 1), (0, 0, 0, 0)),
  (147, (.bipush 16, 2), (0, 0, 0, 0)),
  (149, (.invokevirtual 203, 3), (225, 3, 11, 0)),
  (152, (.istore_n 2, 1), (0, 0, 0, 0)),
  (153, (.goto 16, 3), (0, 0, 0, 0)),
  (156, (.aload_n 0, 1), (0, 0, 0, 0)),
  (157, (.invokevirtual 221, 3), (236, 0, 11, 0)),
  (160, (.istore_n 2, 1), (0, 0, 0, 0)),
  (161, (.goto 8, 3), (0, 0, 0, 0)),
  (164, (.aload_n 0, 1), (0, 0, 0, 0)),
  (165, (.invokevirtual 225, 3), (238, 0, 11, 0)),
  (168, (.istore_n 2, 1), (0, 0, 0, 0)),
  (169, (.iload_n 2, 1), (0, 0, 0, 0)),
  (170, (.ifCond .eq 16, 3), (0, 0, 0, 0)),
  (173, (.aload_n 0, 1), (0, 0, 0, 0)),
  (174, (.bipush 59, 2), (0, 0, 0, 0)),
  (176, (.invokevirtual 228, 3), (223, 1, 11, 0)),
  (179, (.ifCond .eq 7, 3), (0, 0, 0, 0)),
  (182, (.iconst 1, 1), (0, 0, 0, 0)),
  (183, (.goto 4, 3), (0, 0, 0, 0)),
  (186, (.iconst 0, 1), (0, 0, 0, 0)),
  (187, (.ireturn, 1), (0, 0, 0, 0))]
noncomputable def tb_240 : List TE := [ -- X12_dawn
  (0, (.aload_n 0, 1), (0, 0, 0, 0)),
  (1, (.iload_n 1, 1), (0, 0, 0, 0)),
  (2, (.sipush 900, 3), (0, 0, 0, 0)),
  (5, (.invokevirtual 231, 3), (222, 2, 11, 0)),
  (8, (.ifCond .ne 9, 3), (0, 0, 0, 0)),
  (11, (.aload_n 0, 1), (0, 0, 0, 0)),
  (12, (.iconst 1, 1), (0, 0, 0, 0)),
  (13, (.invokevirtual 90, 3), (201, 1, 11, 0)),
  (16, (.ireturn, 1), (0, 0, 0, 0)),
  (17, (.aload_n 0, 1), (0, 0, 0, 0)),
  (18, (.sipush 1888, 3), (0, 0, 0, 0)),
  (21, (.invokevirtual 80, 3), (196, 1, 11, 0)),
  (24, (.aload_n 0, 1), (0, 0, 0, 0)),
  (25, (.iconst 0, 1), (0, 0, 0, 0)),
  (26, (.putfield 218, 3), (11, 20, 0, 0)),
  (29, (.iconst 1, 1), (0, 0, 0, 0)),
  (30, (.istore_n 2, 1), (0, 0, 0, 0)),
  (31, (.iload_n 2, 1), (0, 0, 0, 0)),
  (32, (.ifCond .eq 18, 3), (0, 0, 0, 0)),
  (35, (.aload_n 0, 1), (0, 0, 0, 0)),
  (36, (.getfield 135, 3), (11, 12, 0, 0)),
  (39, (.ifCond .eq 11, 3), (0, 0, 0, 0)),
  (42, (.aload_n 0, 1), (0, 0, 0, 0)),
  (43, (.invokevirtual 235, 3), (239, 0, 11, 0)),
  (46, (.istore_n 2, 1), (0, 0, 0, 0)),
  (47, (.goto (-16), 3), (0, 0, 0, 0)),
  (50, (.aload_n 0, 1), (0, 0, 0, 0)),
  (51, (.getfield 160, 3), (11, 18, 0, 0)),
  (54, (.ifCond .ne 63, 3), (0, 0, 0, 0)),
  (57, (.iconst 0, 1), (0, 0, 0, 0)),
  (58, (.istore_n 3, 1), (0, 0, 0, 0)),
  (59, (.iload_n 3, 1), (0, 0, 0, 0)),
  (60, (.sipush 472, 3), (0, 0, 0, 0)),
  (63, (.if_icmp .ge 25, 3), (0, 0, 0, 0)),
  (66, (.aload_n 0, 1), (0, 0, 0, 0)),
  (67, (.getfield 7, 3), (11, 0, 2, 0)),
  (70, (.iload_n 3, 1), (0, 0, 0, 0)),
  (71, (.aload_n 0, 1), (0, 0, 0, 0)),
  (72, (.getfield 7, 3), (11, 0, 2, 0)),
  (75, (.sipush 1888, 3), (0, 0, 0, 0)),
  (78, (.iload_n 3, 1), (0, 0, 0, 0)),
  (79, (.iadd, 1), (0, 0, 0, 0)),
  (80, (.iaload, 1), (0, 0, 0, 0)),
  (81, (.iastore, 1), (0, 0, 0, 0)),
  (82, (.iinc 3 1, 3), (0, 0, 0, 0)),
  (85, (.goto (-26), 3), (0, 0, 0, 0)),
  (88, (.iconst 0, 1), (0, 0, 0, 0)),
  (89, (.istore_n 3, 1), (0, 0, 0, 0)),
  (90, (.iload_n 3, 1), (0, 0, 0, 0)),
  (91, (.bipush 14, 2), (0, 0, 0, 0)),
  (93, (.if_icmp .ge 24, 3), (0, 0, 0, 0)),
  (96, (.aload_n 0, 1), (0, 0, 0, 0)),
  (97, (.getfield 13, 3), (11, 1, 2, 0)),
  (100, (.iload_n 3, 1), (0, 0, 0, 0)),
  (101, (.aload_n 0, 1), (0, 0, 0, 0)),
  (102, (.getfield 13, 3), (11, 1, 2, 0)),
  (105, (.bipush 56, 2), (0, 0, 0, 0)),
  (107, (.iload_n 3, 1), (0, 0, 0, 0)),
  (108, (.iadd, 1), (0, 0, 0, 0)),
  (109, (.laload, 1), (0, 0, 0, 0)),
  (110, (.lastore, 1), (0, 0, 0, 0)),
  (111, (.iinc 3 1, 3), (0, 0, 0, 0)),
  (114, (.goto (-24), 3), (0, 0, 0, 0)),
  (117, (.aload_n 0, 1), (0, 0, 0, 0)),
  (118, (.aload_n 0, 1), (0, 0, 0, 0)),
  (119, (.getfield 7, 3), (11, 0, 2, 0)),
  (122, (.iconst 1, 1), (0, 0, 0, 0)),
  (123, (.iaload, 1), (0, 0, 0, 0)),
  (124, (.invokevirtual 238, 3), (230, 1, 11, 0)),
  (127, (.ireturn, 1), (0, 0, 0, 0))]
noncomputable def tb_241 : List TE := [ -- X12_manTo
  (0, (.aload_n 0, 1), (0, 0, 0, 0)),
  (1, (.bipush 8, 2), (0, 0, 0, 0)),
  (3, (.aload_n 0, 1), (0, 0, 0, 0)),
  (4, (.getfield 7, 3), (11, 0, 2, 0)),
  (7, (.iconst 1, 1), (0, 0, 0, 0)),
  (8, (.iaload, 1), (0, 0, 0, 0)),
  (9, (.iload_n 1, 1), (0, 0, 0, 0)),
  (10, (.invokevirtual 209, 3), (235, 3, 11, 0)),
  (13, (.ireturn, 1), (0, 0, 0, 0))]
noncomputable def tb_242 : List TE := [ -- X12_test
  (0, (.aload_n 0, 1), (0, 0, 0, 0)),
  (1, (.ldc 183, 2), (1, 0, 0, (-9))),
  (3, (.invokevirtual 175, 3), (220, 1, 11, 0)),
  (6, (.istore_n 2, 1), (0, 0, 0, 0)),
  (7, (.iload_n 2, 1), (0, 0, 0, 0)),
  (8, (.bipush 10, 2), (0, 0, 0, 0)),
  (10, (.if_icmp .eq 15, 3), (0, 0, 0, 0)),
  (13, (.iload_n 2, 1), (0, 0, 0, 0)),
  (14, (.bipush 23, 2), (0, 0, 0, 0)),
  (16, (.if_icmp .ge 9, 3), (0, 0, 0, 0)),
  (19, (.aload_n 0, 1), (0, 0, 0, 0)),
  (20, (.iconst 2, 1), (0, 0, 0, 0)),
  (21, (.invokevirtual 172, 3), (221, 1, 11, 0)),
  (24, (.ireturn, 1), (0, 0, 0, 0)),
  (25, (.aload_n 0, 1), (0, 0, 0, 0)),
  (26, (.getfield 7, 3), (11, 0, 2, 0)),
  (29, (.iload_n 1, 1), (0, 0, 0, 0)),
  (30, (.sipush 1900, 3), (0, 0, 0, 0)),
  (33, (.iload_n 2, 1), (0, 0, 0, 0)),
  (34, (.iadd, 1), (0, 0, 0, 0)),
  (35, (.iastore, 1), (0, 0, 0, 0)),
  (36, (.aload_n 0, 1), (0, 0, 0, 0)),
  (37, (.invokevirtual 166, 3), (218, 0, 11, 0)),
  (40, (.iload_n 2, 1), (0, 0, 0, 0)),
  (41, (.bipush 25, 2), (0, 0, 0, 0)),
  (43, (.if_icmp .ne 5, 3), (0, 0, 0, 0)),
  (46, (.iconst 1, 1), (0, 0, 0, 0)),
  (47, (.ireturn, 1), (0, 0, 0, 0)),
  (48, (.iload_n 2, 1), (0, 0, 0, 0)),
  (49, (.bipush 24, 2), (0, 0, 0, 0)),
  (51, (.if_icmp .ne 18, 3), (0, 0, 0, 0)),
  (54, (.aload_n 0, 1), (0, 0, 0, 0)),
  (55, (.iconst 0, 1), (0, 0, 0, 0)),
  (56, (.aload_n 0, 1), (0, 0, 0, 0)),
  (57, (.getfield 7, 3), (11, 0, 2, 0)),
  (60, (.iconst 0, 1), (0, 0, 0, 0)),
  (61, (.iaload, 1), (0, 0, 0, 0)),
  (62, (.iload_n 1, 1), (0, 0, 0, 0)),
  (63, (.iconst 1, 1), (0, 0, 0, 0)),
  (64, (.iadd, 1), (0, 0, 0, 0)),
  (65, (.invokevirtual 209, 3), (235, 3, 11, 0)),
  (68, (.ireturn, 1), (0, 0, 0, 0)),
  (69, (.iload_n 2, 1), (0, 0, 0, 0)),
  (70, (.bipush 10, 2), (0, 0, 0, 0)),
  (72, (.if_icmp .ne 15, 3), (0, 0, 0, 0)),
  (75, (.aload_n 0, 1), (0, 0, 0, 0)),
  (76, (.iload_n 1, 1), (0, 0, 0, 0)),
  (77, (.iconst 1, 1), (0, 0, 0, 0)),
  (78, (.iadd, 1), (0, 0, 0, 0)),
  (79, (.invokevirtual 241, 3), (241, 1, 11, 0)),
  (82, (.ifCond .ne 5, 3), (0, 0, 0, 0)),
  (85, (.iconst 0, 1), (0, 0, 0, 0)),
  (86, (.ireturn, 1), (0, 0, 0, 0)),
  (87, (.aload_n 0, 1), (0, 0, 0, 0)),
  (88, (.bipush 60, 2), (0, 0, 0, 0)),
  (90, (.invokevirtual 169, 3), (219, 1, 11, 0)),
  (93, (.ifCond .ne 27, 3), (0, 0, 0, 0)),
  (96, (.aload_n 0, 1), (0, 0, 0, 0)),
  (97, (.bipush 62, 2), (0, 0, 0, 0)),
  (99, (.invokevirtual 169, 3), (219, 1, 11, 0)),
  (102, (.ifCond .ne 18, 3), (0, 0, 0, 0)),
  (105, (.aload_n 0, 1), (0, 0, 0, 0)),
  (106, (.bipush 61, 2), (0, 0, 0, 0)),
  (108, (.invokevirtual 169, 3), (219, 1, 11, 0)),
  (111, (.ifCond .ne 9, 3), (0, 0, 0, 0)),
  (114, (.aload_n 0, 1), (0, 0, 0, 0)),
  (115, (.iconst 2, 1), (0, 0, 0, 0)),
  (116, (.invokevirtual 172, 3), (221, 1, 11, 0)),
  (119, (.ireturn, 1), (0, 0, 0, 0)),
  (120, (.aload_n 0, 1), (0, 0, 0, 0)),
  (121, (.getfield 7, 3), (11, 0, 2, 0)),
  (124, (.iload_n 1, 1), (0, 0, 0, 0)),
  (125, (.iconst 5, 1), (0, 0, 0, 0)),
  (126, (.iadd, 1), (0, 0, 0, 0)),
  (127, (.aload_n 0, 1), (0, 0, 0, 0)),
  (128, (.getfield 132, 3), (11, 15, 0, 0)),
  (131, (.iastore, 1), (0, 0, 0, 0)),
  (132, (.aload_n 0, 1), (0, 0, 0, 0)),
  (133, (.invokevirtual 166, 3), (218, 0, 11, 0)),
  (136, (.aload_n 0, 1), (0, 0, 0, 0)),
  (137, (.iload_n 1, 1), (0, 0, 0, 0)),
  (138, (.iconst 2, 1), (0, 0, 0, 0)),
  (139, (.iadd, 1), (0, 0, 0, 0)),
  (140, (.iconst 0, 1), (0, 0, 0, 0)),
  (141, (.iload_n 2, 1), (0, 0, 0, 0)),
  (142, (.bipush 10, 2), (0, 0, 0, 0)),
  (144, (.if_icmp .ne 8, 3), (0, 0, 0, 0)),
  (147, (.bipush 60, 2), (0, 0, 0, 0)),
  (149, (.goto 5, 3), (0, 0, 0, 0)),
  (152, (.bipush 12, 2), (0, 0, 0, 0)),
  (154, (.invokevirtual 203, 3), (225, 3, 11, 0)),
  (157, (.ireturn, 1), (0, 0, 0, 0))]
noncomputable def tb_243 : List TE := [ -- X12_yearOrder
  (0, (.iload_n 1, 1), (0, 0, 0, 0)),
  (1, (.tableswitch 123 12 20 #[51, 123, 123, 123, 123, 77, 123, 117, 106], 51), (0, 0, 0, 0)),
  (52, (.aload_n 0, 1), (0, 0, 0, 0)),
  (53, (.iload_n 2, 1), (0, 0, 0, 0)),
  (54, (.iconst 1, 1), (0, 0, 0, 0)),
  (55, (.iadd, 1), (0, 0, 0, 0)),
  (56, (.invokevirtual 241, 3), (241, 1, 11, 0)),
  (59, (.ifCond .eq 17, 3), (0, 0, 0, 0)),
  (62, (.aload_n 0, 1), (0, 0, 0, 0)),
  (63, (.iload_n 2, 1), (0, 0, 0, 0)),
  (64, (.iconst 2, 1), (0, 0, 0, 0)),
  (65, (.iadd, 1), (0, 0, 0, 0)),
  (66, (.invokevirtual 241, 3), (241, 1, 11, 0)),
  (69, (.ifCond .eq 7, 3), (0, 0, 0, 0)),
  (72, (.iconst 1, 1), (0, 0, 0, 0)),
  (73, (.goto 4, 3), (0, 0, 0, 0)),
  (76, (.iconst 0, 1), (0, 0, 0, 0)),
  (77, (.ireturn, 1), (0, 0, 0, 0)),
  (78, (.aload_n 0, 1), (0, 0, 0, 0)),
  (79, (.iload_n 2, 1), (0, 0, 0, 0)),
  (80, (.iconst 1, 1), (0, 0, 0, 0)),
  (81, (.iadd, 1), (0, 0, 0, 0)),
  (82, (.invokevirtual 241, 3), (241, 1, 11, 0)),
  (85, (.ifCond .eq 20, 3), (0, 0, 0, 0)),
  (88, (.aload_n 0, 1), (0, 0, 0, 0)),
  (89, (.iload_n 2, 1), (0, 0, 0, 0)),
  (90, (.iconst 2, 1), (0, 0, 0, 0)),
  (91, (.iadd, 1), (0, 0, 0, 0)),
  (92, (.iconst 1, 1), (0, 0, 0, 0)),
  (93, (.bipush 60, 2), (0, 0, 0, 0)),
  (95, (.invokevirtual 203, 3), (225, 3, 11, 0)),
  (98, (.ifCond .eq 7, 3), (0, 0, 0, 0)),
  (101, (.iconst 1, 1), (0, 0, 0, 0)),
  (102, (.goto 4, 3), (0, 0, 0, 0)),
  (105, (.iconst 0, 1), (0, 0, 0, 0)),
  (106, (.ireturn, 1), (0, 0, 0, 0)),
  (107, (.aload_n 0, 1), (0, 0, 0, 0)),
  (108, (.iload_n 2, 1), (0, 0, 0, 0)),
  (109, (.iconst 1, 1), (0, 0, 0, 0)),
  (110, (.iadd, 1), (0, 0, 0, 0)),
  (111, (.iconst 1, 1), (0, 0, 0, 0)),
  (112, (.bipush 99, 2), (0, 0, 0, 0)),
  (114, (.invokevirtual 203, 3), (225, 3, 11, 0)),
  (117, (.ireturn, 1), (0, 0, 0, 0)),
  (118, (.aload_n 0, 1), (0, 0, 0, 0)),
  (119, (.iload_n 2, 1), (0, 0, 0, 0)),
  (120, (.invokevirtual 244, 3), (242, 1, 11, 0)),
  (123, (.ireturn, 1), (0, 0, 0, 0)),
  (124, (.iconst 1, 1), (0, 0, 0, 0)),
  (125, (.ireturn, 1), (0, 0, 0, 0))]
noncomputable def tb_244 : List TE := [ -- X12_yearStep
  (0, (.aload_n 0, 1), (0, 0, 0, 0)),
  (1, (.ldc 183, 2), (1, 0, 0, (-9))),
  (3, (.invokevirtual 175, 3), (220, 1, 11, 0)),
  (6, (.istore_n 1, 1), (0, 0, 0, 0)),
  (7, (.aload_n 0, 1), (0, 0, 0, 0)),
  (8, (.getfield 7, 3), (11, 0, 2, 0)),
  (11, (.sipush 1899, 3), (0, 0, 0, 0)),
  (14, (.iaload, 1), (0, 0, 0, 0)),
  (15, (.istore_n 2, 1), (0, 0, 0, 0)),
  (16, (.sipush 1992, 3), (0, 0, 0, 0)),
  (19, (.bipush 6, 2), (0, 0, 0, 0)),
  (21, (.iload_n 2, 1), (0, 0, 0, 0)),
  (22, (.imul, 1), (0, 0, 0, 0)),
  (23, (.iadd, 1), (0, 0, 0, 0)),
  (24, (.istore_n 3, 1), (0, 0, 0, 0)),
  (25, (.iload_n 1, 1), (0, 0, 0, 0)),
  (26, (.bipush 19, 2), (0, 0, 0, 0)),
  (28, (.if_icmp .eq 9, 3), (0, 0, 0, 0)),
  (31, (.iload_n 1, 1), (0, 0, 0, 0)),
  (32, (.bipush 20, 2), (0, 0, 0, 0)),
  (34, (.if_icmp .ne 7, 3), (0, 0, 0, 0)),
  (37, (.iconst 1, 1), (0, 0, 0, 0)),
  (38, (.goto 4, 3), (0, 0, 0, 0)),
  (41, (.iconst 0, 1), (0, 0, 0, 0)),
  (42, (.istore 4, 2), (0, 0, 0, 0)),
  (44, (.iload_n 1, 1), (0, 0, 0, 0)),
  (45, (.bipush 12, 2), (0, 0, 0, 0)),
  (47, (.if_icmp .lt 22, 3), (0, 0, 0, 0)),
  (50, (.iload_n 1, 1), (0, 0, 0, 0)),
  (51, (.bipush 22, 2), (0, 0, 0, 0)),
  (53, (.if_icmp .gt 16, 3), (0, 0, 0, 0)),
  (56, (.iload_n 1, 1), (0, 0, 0, 0)),
  (57, (.bipush 21, 2), (0, 0, 0, 0)),
  (59, (.if_icmp .ne 16, 3), (0, 0, 0, 0)),
  (62, (.aload_n 0, 1), (0, 0, 0, 0)),
  (63, (.getfield 247, 3), (11, 22, 0, 0)),
  (66, (.ifCond .ne 9, 3), (0, 0, 0, 0)),
  (69, (.aload_n 0, 1), (0, 0, 0, 0)),
  (70, (.iconst 2, 1), (0, 0, 0, 0)),
  (71, (.invokevirtual 172, 3), (221, 1, 11, 0)),
  (74, (.ireturn, 1), (0, 0, 0, 0)),
  (75, (.iload_n 1, 1), (0, 0, 0, 0)),
  (76, (.bipush 21, 2), (0, 0, 0, 0)),
  (78, (.if_icmp .eq 19, 3), (0, 0, 0, 0)),
  (81, (.aload_n 0, 1), (0, 0, 0, 0)),
  (82, (.getfield 250, 3), (11, 23, 0, 0)),
  (85, (.bipush 30, 2), (0, 0, 0, 0)),
  (87, (.if_icmp .ne 10, 3), (0, 0, 0, 0)),
  (90, (.aload_n 0, 1), (0, 0, 0, 0)),
  (91, (.bipush 6, 2), (0, 0, 0, 0)),
  (93, (.invokevirtual 172, 3), (221, 1, 11, 0)),
  (96, (.ireturn, 1), (0, 0, 0, 0)),
  (97, (.iload 4, 2), (0, 0, 0, 0)),
  (99, (.ifCond .eq 18, 3), (0, 0, 0, 0)),
  (102, (.aload_n 0, 1), (0, 0, 0, 0)),
  (103, (.getfield 247, 3), (11, 22, 0, 0)),
  (106, (.iconst 3, 1), (0, 0, 0, 0)),
  (107, (.if_icmp .ne 10, 3), (0, 0, 0, 0)),
  (110, (.aload_n 0, 1), (0, 0, 0, 0)),
  (111, (.bipush 7, 2), (0, 0, 0, 0)),
  (113, (.invokevirtual 172, 3), (221, 1, 11, 0)),
  (116, (.ireturn, 1), (0, 0, 0, 0)),
  (117, (.aload_n 0, 1), (0, 0, 0, 0)),
  (118, (.dup, 1), (0, 0, 0, 0)),
  (119, (.getfield 250, 3), (11, 23, 0, 0)),
  (122, (.iload_n 1, 1), (0, 0, 0, 0)),
  (123, (.bipush 21, 2), (0, 0, 0, 0)),
  (125, (.if_icmp .ne 7, 3), (0, 0, 0, 0)),
  (128, (.iconst 0, 1), (0, 0, 0, 0)),
  (129, (.goto 4, 3), (0, 0, 0, 0)),
  (132, (.iconst 1, 1), (0, 0, 0, 0)),
  (133, (.iadd, 1), (0, 0, 0, 0)),
  (134, (.putfield 250, 3), (11, 23, 0, 0)),
  (137, (.aload_n 0, 1), (0, 0, 0, 0)),
  (138, (.getfield 7, 3), (11, 0, 2, 0)),
  (141, (.iload_n 3, 1), (0, 0, 0, 0)),
  (142, (.iload_n 1, 1), (0, 0, 0, 0)),
  (143, (.iastore, 1), (0, 0, 0, 0)),
  (144, (.iconst 1, 1), (0, 0, 0, 0)),
  (145, (.istore 5, 2), (0, 0, 0, 0)),
  (147, (.iload 5, 2), (0, 0, 0, 0)),
  (149, (.bipush 6, 2), (0, 0, 0, 0)),
  (151, (.if_icmp .ge 19, 3), (0, 0, 0, 0)),
  (154, (.aload_n 0, 1), (0, 0, 0, 0)),
  (155, (.getfield 7, 3), (11, 0, 2, 0)),
  (158, (.iload_n 3, 1), (0, 0, 0, 0)),
  (159, (.iload 5, 2), (0, 0, 0, 0)),
  (161, (.iadd, 1), (0, 0, 0, 0)),
  (162, (.iconst 0, 1), (0, 0, 0, 0)),
  (163, (.iastore, 1), (0, 0, 0, 0)),
  (164, (.iinc 5 1, 3), (0, 0, 0, 0)),
  (167, (.goto (-20), 3), (0, 0, 0, 0)),
  (170, (.aload_n 0, 1), (0, 0, 0, 0)),
  (171, (.getfield 7, 3), (11, 0, 2, 0)),
  (174, (.sipush 1899, 3), (0, 0, 0, 0)),
  (177, (.dup2, 1), (0, 0, 0, 0)),
  (178, (.iaload, 1), (0, 0, 0, 0)),
  (179, (.iconst 1, 1), (0, 0, 0, 0)),
  (180, (.iadd, 1), (0, 0, 0, 0)),
  (181, (.iastore, 1), (0, 0, 0, 0)),
  (182, (.aload_n 0, 1), (0, 0, 0, 0)),
  (183, (.invokevirtual 166, 3), (218, 0, 11, 0)),
  (186, (.aload_n 0, 1), (0, 0, 0, 0)),
  (187, (.iload_n 1, 1), (0, 0, 0, 0)),
  (188, (.iload_n 3, 1), (0, 0, 0, 0)),
  (189, (.invokevirtual 253, 3), (243, 2, 11, 0)),
  (192, (.ifCond .ne 5, 3), (0, 0, 0, 0)),
  (195, (.iconst 0, 1), (0, 0, 0, 0)),
  (196, (.ireturn, 1), (0, 0, 0, 0)),
  (197, (.iload 4, 2), (0, 0, 0, 0)),
  (199, (.ifCond .eq 23, 3), (0, 0, 0, 0)),
  (202, (.aload_n 0, 1), (0, 0, 0, 0)),
  (203, (.getfield 44, 3), (11, 21, 2, 0)),
  (206, (.aload_n 0, 1), (0, 0, 0, 0)),
  (207, (.getfield 247, 3), (11, 22, 0, 0)),
  (210, (.iload_n 2, 1), (0, 0, 0, 0)),
  (211, (.iastore, 1), (0, 0, 0, 0)),
  (212, (.aload_n 0, 1), (0, 0, 0, 0)),
  (213, (.dup, 1), (0, 0, 0, 0)),
  (214, (.getfield 247, 3), (11, 22, 0, 0)),
  (217, (.iconst 1, 1), (0, 0, 0, 0)),
  (218, (.iadd, 1), (0, 0, 0, 0)),
  (219, (.putfield 247, 3), (11, 22, 0, 0)),
  (222, (.iload_n 1, 1), (0, 0, 0, 0)),
  (223, (.bipush 21, 2), (0, 0, 0, 0)),
  (225, (.if_icmp .ne 54, 3), (0, 0, 0, 0)),
  (228, (.aload_n 0, 1), (0, 0, 0, 0)),
  (229, (.dup, 1), (0, 0, 0, 0)),
  (230, (.getfield 247, 3), (11, 22, 0, 0)),
  (233, (.iconst 1, 1), (0, 0, 0, 0)),
  (234, (.isub, 1), (0, 0, 0, 0)),
  (235, (.putfield 247, 3), (11, 22, 0, 0)),
  (238, (.aload_n 0, 1), (0, 0, 0, 0)),
  (239, (.getfield 7, 3), (11, 0, 2, 0)),
  (242, (.iload_n 3, 1), (0, 0, 0, 0)),
  (243, (.iconst 4, 1), (0, 0, 0, 0)),
  (244, (.iadd, 1), (0, 0, 0, 0)),
  (245, (.aload_n 0, 1), (0, 0, 0, 0)),
  (246, (.getfield 44, 3), (11, 21, 2, 0)),
  (249, (.aload_n 0, 1), (0, 0, 0, 0)),
  (250, (.getfield 247, 3), (11, 22, 0, 0)),
  (253, (.iaload, 1), (0, 0, 0, 0)),
  (254, (.iastore, 1), (0, 0, 0, 0)),
  (255, (.aload_n 0, 1), (0, 0, 0, 0)),
  (256, (.getfield 7, 3), (11, 0, 2, 0)),
  (259, (.sipush 1992, 3), (0, 0, 0, 0)),
  (262, (.bipush 6, 2), (0, 0, 0, 0)),
  (264, (.aload_n 0, 1), (0, 0, 0, 0)),
  (265, (.getfield 44, 3), (11, 21, 2, 0)),
  (268, (.aload_n 0, 1), (0, 0, 0, 0)),
  (269, (.getfield 247, 3), (11, 22, 0, 0)),
  (272, (.iaload, 1), (0, 0, 0, 0)),
  (273, (.imul, 1), (0, 0, 0, 0)),
  (274, (.iadd, 1), (0, 0, 0, 0)),
  (275, (.iconst 4, 1), (0, 0, 0, 0)),
  (276, (.iadd, 1), (0, 0, 0, 0)),
  (277, (.iload_n 2, 1), (0, 0, 0, 0)),
  (278, (.iastore, 1), (0, 0, 0, 0)),
  (279, (.aload_n 0, 1), (0, 0, 0, 0)),
  (280, (.bipush 59, 2), (0, 0, 0, 0)),
  (282, (.invokevirtual 228, 3), (223, 1, 11, 0)),
  (285, (.ireturn, 1), (0, 0, 0, 0))]
noncomputable def tb_245 : List TE := [ -- X12_years
  (0, (.aload_n 0, 1), (0, 0, 0, 0)),
  (1, (.iload_n 1, 1), (0, 0, 0, 0)),
  (2, (.sipush 300, 3), (0, 0, 0, 0)),
  (5, (.invokevirtual 231, 3), (222, 2, 11, 0)),
  (8, (.ifCond .ne 9, 3), (0, 0, 0, 0)),
  (11, (.aload_n 0, 1), (0, 0, 0, 0)),
  (12, (.iconst 1, 1), (0, 0, 0, 0)),
  (13, (.invokevirtual 90, 3), (201, 1, 11, 0)),
  (16, (.ireturn, 1), (0, 0, 0, 0)),
  (17, (.aload_n 0, 1), (0, 0, 0, 0)),
  (18, (.getfield 7, 3), (11, 0, 2, 0)),
  (21, (.sipush 1899, 3), (0, 0, 0, 0)),
  (24, (.iconst 0, 1), (0, 0, 0, 0)),
  (25, (.iastore, 1), (0, 0, 0, 0)),
  (26, (.aload_n 0, 1), (0, 0, 0, 0)),
  (27, (.iconst 0, 1), (0, 0, 0, 0)),
  (28, (.putfield 247, 3), (11, 22, 0, 0)),
  (31, (.aload_n 0, 1), (0, 0, 0, 0)),
  (32, (.iconst 0, 1), (0, 0, 0, 0)),
  (33, (.putfield 250, 3), (11, 23, 0, 0)),
  (36, (.iconst 1, 1), (0, 0, 0, 0)),
  (37, (.istore_n 2, 1), (0, 0, 0, 0)),
  (38, (.iload_n 2, 1), (0, 0, 0, 0)),
  (39, (.ifCond .eq 18, 3), (0, 0, 0, 0)),
  (42, (.aload_n 0, 1), (0, 0, 0, 0)),
  (43, (.getfield 135, 3), (11, 12, 0, 0)),
  (46, (.ifCond .eq 11, 3), (0, 0, 0, 0)),
  (49, (.aload_n 0, 1), (0, 0, 0, 0)),
  (50, (.invokevirtual 256, 3), (244, 0, 11, 0)),
  (53, (.istore_n 2, 1), (0, 0, 0, 0)),
  (54, (.goto (-16), 3), (0, 0, 0, 0)),
  (57, (.aload_n 0, 1), (0, 0, 0, 0)),
  (58, (.getfield 160, 3), (11, 18, 0, 0)),
  (61, (.ifCond .ne 16, 3), (0, 0, 0, 0)),
  (64, (.aload_n 0, 1), (0, 0, 0, 0)),
  (65, (.getfield 247, 3), (11, 22, 0, 0)),
  (68, (.ifCond .le 9, 3), (0, 0, 0, 0)),
  (71, (.aload_n 0, 1), (0, 0, 0, 0)),
  (72, (.iconst 2, 1), (0, 0, 0, 0)),
  (73, (.invokevirtual 172, 3), (221, 1, 11, 0)),
  (76, (.pop, 1), (0, 0, 0, 0)),
  (77, (.aload_n 0, 1), (0, 0, 0, 0)),
  (78, (.getfield 160, 3), (11, 18, 0, 0)),
  (81, (.ifCond .ne 50, 3), (0, 0, 0, 0)),
  (84, (.aload_n 0, 1), (0, 0, 0, 0)),
  (85, (.getfield 7, 3), (11, 0, 2, 0)),
  (88, (.bipush 11, 2), (0, 0, 0, 0)),
  (90, (.aload_n 0, 1), (0, 0, 0, 0)),
  (91, (.getfield 7, 3), (11, 0, 2, 0)),
  (94, (.sipush 1899, 3), (0, 0, 0, 0)),
  (97, (.iaload, 1), (0, 0, 0, 0)),
  (98, (.iastore, 1), (0, 0, 0, 0)),
  (99, (.bipush 104, 2), (0, 0, 0, 0)),
  (101, (.istore_n 3, 1), (0, 0, 0, 0)),
  (102, (.iload_n 3, 1), (0, 0, 0, 0)),
  (103, (.sipush 464, 3), (0, 0, 0, 0)),
  (106, (.if_icmp .ge 25, 3), (0, 0, 0, 0)),
  (109, (.aload_n 0, 1), (0, 0, 0, 0)),
  (110, (.getfield 7, 3), (11, 0, 2, 0)),
  (113, (.iload_n 3, 1), (0, 0, 0, 0)),
  (114, (.aload_n 0, 1), (0, 0, 0, 0)),
  (115, (.getfield 7, 3), (11, 0, 2, 0)),
  (118, (.sipush 1888, 3), (0, 0, 0, 0)),
  (121, (.iload_n 3, 1), (0, 0, 0, 0)),
  (122, (.iadd, 1), (0, 0, 0, 0)),
  (123, (.iaload, 1), (0, 0, 0, 0)),
  (124, (.iastore, 1), (0, 0, 0, 0)),
  (125, (.iinc 3 1, 3), (0, 0, 0, 0)),
  (128, (.goto (-26), 3), (0, 0, 0, 0)),
  (131, (.aload_n 0, 1), (0, 0, 0, 0)),
  (132, (.aload_n 0, 1), (0, 0, 0, 0)),
  (133, (.getfield 250, 3), (11, 23, 0, 0)),
  (136, (.invokevirtual 238, 3), (230, 1, 11, 0)),
  (139, (.ireturn, 1), (0, 0, 0, 0))]
noncomputable def tb_246 : List TE := [ -- X12_isThing
  (0, (.iload_n 1, 1), (0, 0, 0, 0)),
  (1, (.ifCond .lt 17, 3), (0, 0, 0, 0)),
  (4, (.iload_n 1, 1), (0, 0, 0, 0)),
  (5, (.aload_n 0, 1), (0, 0, 0, 0)),
  (6, (.getfield 7, 3), (11, 0, 2, 0)),
  (9, (.iconst 0, 1), (0, 0, 0, 0)),
  (10, (.iaload, 1), (0, 0, 0, 0)),
  (11, (.if_icmp .ge 7, 3), (0, 0, 0, 0)),
  (14, (.iconst 1, 1), (0, 0, 0, 0)),
  (15, (.goto 4, 3), (0, 0, 0, 0)),
  (18, (.iconst 0, 1), (0, 0, 0, 0)),
  (19, (.ireturn, 1), (0, 0, 0, 0))]
noncomputable def tb_247 : List TE := [ -- X12_isMan
  (0, (.iload_n 1, 1), (0, 0, 0, 0)),
  (1, (.ifCond .lt 17, 3), (0, 0, 0, 0)),
  (4, (.iload_n 1, 1), (0, 0, 0, 0)),
  (5, (.aload_n 0, 1), (0, 0, 0, 0)),
  (6, (.getfield 7, 3), (11, 0, 2, 0)),
  (9, (.iconst 1, 1), (0, 0, 0, 0)),
  (10, (.iaload, 1), (0, 0, 0, 0)),
  (11, (.if_icmp .ge 7, 3), (0, 0, 0, 0)),
  (14, (.iconst 1, 1), (0, 0, 0, 0)),
  (15, (.goto 4, 3), (0, 0, 0, 0)),
  (18, (.iconst 0, 1), (0, 0, 0, 0)),
  (19, (.ireturn, 1), (0, 0, 0, 0))]
noncomputable def tb_248 : List TE := [ -- X12_areTwo
  (0, (.aload_n 0, 1), (0, 0, 0, 0)),
  (1, (.iload_n 1, 1), (0, 0, 0, 0)),
  (2, (.invokevirtual 259, 3), (247, 1, 11, 0)),
  (5, (.ifCond .eq 20, 3), (0, 0, 0, 0)),
  (8, (.aload_n 0, 1), (0, 0, 0, 0)),
  (9, (.iload_n 2, 1), (0, 0, 0, 0)),
  (10, (.invokevirtual 259, 3), (247, 1, 11, 0)),
  (13, (.ifCond .eq 12, 3), (0, 0, 0, 0)),
  (16, (.iload_n 1, 1), (0, 0, 0, 0)),
  (17, (.iload_n 2, 1), (0, 0, 0, 0)),
  (18, (.if_icmp .eq 7, 3), (0, 0, 0, 0)),
  (21, (.iconst 1, 1), (0, 0, 0, 0)),
  (22, (.goto 4, 3), (0, 0, 0, 0)),
  (25, (.iconst 0, 1), (0, 0, 0, 0)),
  (26, (.ireturn, 1), (0, 0, 0, 0))]
noncomputable def tb_249 : List TE := [ -- X12_areMen
  (0, (.iload_n 1, 1), (0, 0, 0, 0)),
  (1, (.i2l, 1), (0, 0, 0, 0)),
  (2, (.lconst 0, 1), (0, 0, 0, 0)),
  (3, (.lconst 1, 1), (0, 0, 0, 0)),
  (4, (.aload_n 0, 1), (0, 0, 0, 0)),
  (5, (.getfield 7, 3), (11, 0, 2, 0)),
  (8, (.iconst 1, 1), (0, 0, 0, 0)),
  (9, (.iaload, 1), (0, 0, 0, 0)),
  (10, (.lshl, 1), (0, 0, 0, 0)),
  (11, (.lconst 1, 1), (0, 0, 0, 0)),
  (12, (.lsub, 1), (0, 0, 0, 0)),
  (13, (.invokestatic 262, 3), (212, 3, 0, 0)),
  (16, (.ireturn, 1), (0, 0, 0, 0))]
noncomputable def tb_250 : List TE := [ -- X12_isIn
  (0, (.iload_n 1, 1), (0, 0, 0, 0)),
  (1, (.iload_n 2, 1), (0, 0, 0, 0)),
  (2, (.ishr, 1), (0, 0, 0, 0)),
  (3, (.iconst 1, 1), (0, 0, 0, 0)),
  (4, (.iand, 1), (0, 0, 0, 0)),
  (5, (.iconst 1, 1), (0, 0, 0, 0)),
  (6, (.if_icmp .ne 7, 3), (0, 0, 0, 0)),
  (9, (.iconst 1, 1), (0, 0, 0, 0)),
  (10, (.goto 4, 3), (0, 0, 0, 0)),
  (13, (.iconst 0, 1), (0, 0, 0, 0)),
  (14, (.ireturn, 1), (0, 0, 0, 0))]
noncomputable def tb_251 : List TE := [ -- X12_thingOf
  (0, (.aload_n 0, 1), (0, 0, 0, 0)),
  (1, (.getfield 7, 3), (11, 0, 2, 0)),
  (4, (.iload_n 1, 1), (0, 0, 0, 0)),
  (5, (.invokestatic 192, 3), (231, 1, 0, 0)),
  (8, (.iload_n 2, 1), (0, 0, 0, 0)),
  (9, (.iadd, 1), (0, 0, 0, 0)),
  (10, (.iaload, 1), (0, 0, 0, 0)),
  (11, (.ireturn, 1), (0, 0, 0, 0))]
noncomputable def tb_252 : List TE := [ -- X12_manOf
  (0, (.aload_n 0, 1), (0, 0, 0, 0)),
  (1, (.getfield 7, 3), (11, 0, 2, 0)),
  (4, (.iload_n 1, 1), (0, 0, 0, 0)),
  (5, (.invokestatic 206, 3), (232, 1, 0, 0)),
  (8, (.iload_n 2, 1), (0, 0, 0, 0)),
  (9, (.iadd, 1), (0, 0, 0, 0)),
  (10, (.iaload, 1), (0, 0, 0, 0)),
  (11, (.ireturn, 1), (0, 0, 0, 0))]
noncomputable def tb_253 : List TE := [ -- X12_isBroken
  (0, (.aload_n 0, 1), (0, 0, 0, 0)),
  (1, (.iload_n 1, 1), (0, 0, 0, 0)),
  (2, (.iconst 3, 1), (0, 0, 0, 0)),
  (3, (.invokevirtual 266, 3), (251, 2, 11, 0)),
  (6, (.aload_n 0, 1), (0, 0, 0, 0)),
  (7, (.iload_n 1, 1), (0, 0, 0, 0)),
  (8, (.iconst 2, 1), (0, 0, 0, 0)),
  (9, (.invokevirtual 266, 3), (251, 2, 11, 0)),
  (12, (.if_icmp .lt 7, 3), (0, 0, 0, 0)),
  (15, (.iconst 1, 1), (0, 0, 0, 0)),
  (16, (.goto 4, 3), (0, 0, 0, 0)),
  (19, (.iconst 0, 1), (0, 0, 0, 0)),
  (20, (.ireturn, 1), (0, 0, 0, 0))]
noncomputable def tb_254 : List TE := [ -- X12_isArmed
  (0, (.aload_n 0, 1), (0, 0, 0, 0)),
  (1, (.iload_n 1, 1), (0, 0, 0, 0)),
  (2, (.iconst 3, 1), (0, 0, 0, 0)),
  (3, (.invokevirtual 269, 3), (252, 2, 11, 0)),
  (6, (.iconst (-1), 1), (0, 0, 0, 0)),
  (7, (.if_icmp .eq 20, 3), (0, 0, 0, 0)),
  (10, (.aload_n 0, 1), (0, 0, 0, 0)),
  (11, (.aload_n 0, 1), (0, 0, 0, 0)),
  (12, (.iload_n 1, 1), (0, 0, 0, 0)),
  (13, (.iconst 3, 1), (0, 0, 0, 0)),
  (14, (.invokevirtual 269, 3), (252, 2, 11, 0)),
  (17, (.invokevirtual 272, 3), (253, 1, 11, 0)),
  (20, (.ifCond .ne 7, 3), (0, 0, 0, 0)),
  (23, (.iconst 1, 1), (0, 0, 0, 0)),
  (24, (.goto 4, 3), (0, 0, 0, 0)),
  (27, (.iconst 0, 1), (0, 0, 0, 0)),
  (28, (.ireturn, 1), (0, 0, 0, 0))]
noncomputable def tb_255 : List TE := [ -- X12_reachOf
  (0, (.aload_n 0, 1), (0, 0, 0, 0)),
  (1, (.iload_n 1, 1), (0, 0, 0, 0)),
  (2, (.invokevirtual 275, 3), (254, 1, 11, 0)),
  (5, (.ifCond .eq 17, 3), (0, 0, 0, 0)),
  (8, (.aload_n 0, 1), (0, 0, 0, 0)),
  (9, (.aload_n 0, 1), (0, 0, 0, 0)),
  (10, (.iload_n 1, 1), (0, 0, 0, 0)),
  (11, (.iconst 3, 1), (0, 0, 0, 0)),
  (12, (.invokevirtual 269, 3), (252, 2, 11, 0)),
  (15, (.iconst 0, 1), (0, 0, 0, 0)),
  (16, (.invokevirtual 266, 3), (251, 2, 11, 0)),
  (19, (.goto 4, 3), (0, 0, 0, 0)),
  (22, (.iconst 1, 1), (0, 0, 0, 0)),
  (23, (.ireturn, 1), (0, 0, 0, 0))]
noncomputable def tb_256 : List TE := [ -- X12_blowOf
  (0, (.aload_n 0, 1), (0, 0, 0, 0)),
  (1, (.iload_n 1, 1), (0, 0, 0, 0)),
  (2, (.iconst 0, 1), (0, 0, 0, 0)),
  (3, (.invokevirtual 269, 3), (252, 2, 11, 0)),
  (6, (.aload_n 0, 1), (0, 0, 0, 0)),
  (7, (.iload_n 1, 1), (0, 0, 0, 0)),
  (8, (.invokevirtual 275, 3), (254, 1, 11, 0)),
  (11, (.ifCond .eq 17, 3), (0, 0, 0, 0)),
  (14, (.aload_n 0, 1), (0, 0, 0, 0)),
  (15, (.aload_n 0, 1), (0, 0, 0, 0)),
  (16, (.iload_n 1, 1), (0, 0, 0, 0)),
  (17, (.iconst 3, 1), (0, 0, 0, 0)),
  (18, (.invokevirtual 269, 3), (252, 2, 11, 0)),
  (21, (.iconst 1, 1), (0, 0, 0, 0)),
  (22, (.invokevirtual 266, 3), (251, 2, 11, 0)),
  (25, (.goto 4, 3), (0, 0, 0, 0)),
  (28, (.iconst 0, 1), (0, 0, 0, 0)),
  (29, (.iadd, 1), (0, 0, 0, 0)),
  (30, (.ireturn, 1), (0, 0, 0, 0))]
noncomputable def tb_257 : List TE := [ -- X12_holderOf
  (0, (.iconst 0, 1), (0, 0, 0, 0)),
  (1, (.istore_n 2, 1), (0, 0, 0, 0)),
  (2, (.iload_n 2, 1), (0, 0, 0, 0)),
  (3, (.aload_n 0, 1), (0, 0, 0, 0)),
  (4, (.getfield 7, 3), (11, 0, 2, 0)),
  (7, (.iconst 1, 1), (0, 0, 0, 0)),
  (8, (.iaload, 1), (0, 0, 0, 0)),
  (9, (.if_icmp .ge 21, 3), (0, 0, 0, 0)),
  (12, (.aload_n 0, 1), (0, 0, 0, 0)),
  (13, (.iload_n 2, 1), (0, 0, 0, 0)),
  (14, (.iconst 3, 1), (0, 0, 0, 0)),
  (15, (.invokevirtual 269, 3), (252, 2, 11, 0)),
  (18, (.iload_n 1, 1), (0, 0, 0, 0)),
  (19, (.if_icmp .ne 5, 3), (0, 0, 0, 0)),
  (22, (.iload_n 2, 1), (0, 0, 0, 0)),
  (23, (.ireturn, 1), (0, 0, 0, 0)),
  (24, (.iinc 2 1, 3), (0, 0, 0, 0)),
  (27, (.goto (-25), 3), (0, 0, 0, 0)),
  (30, (.iconst (-1), 1), (0, 0, 0, 0)),
  (31, (.ireturn, 1), (0, 0, 0, 0))]
noncomputable def tb_258 : List TE := [ -- X12_wonBy
  (0, (.iconst 0, 1), (0, 0, 0, 0)),
  (1, (.istore_n 2, 1), (0, 0, 0, 0)),
  (2, (.iconst 0, 1), (0, 0, 0, 0)),
  (3, (.istore_n 3, 1), (0, 0, 0, 0)),
  (4, (.iload_n 3, 1), (0, 0, 0, 0)),
  (5, (.aload_n 0, 1), (0, 0, 0, 0)),
  (6, (.getfield 7, 3), (11, 0, 2, 0)),
  (9, (.iconst 1, 1), (0, 0, 0, 0)),
  (10, (.iaload, 1), (0, 0, 0, 0)),
  (11, (.if_icmp .ge 20, 3), (0, 0, 0, 0)),
  (14, (.iload_n 2, 1), (0, 0, 0, 0)),
  (15, (.aload_n 0, 1), (0, 0, 0, 0)),
  (16, (.iload_n 1, 1), (0, 0, 0, 0)),
  (17, (.iconst 4, 1), (0, 0, 0, 0)),
  (18, (.iload_n 3, 1), (0, 0, 0, 0)),
  (19, (.iadd, 1), (0, 0, 0, 0)),
  (20, (.invokevirtual 269, 3), (252, 2, 11, 0)),
  (23, (.iadd, 1), (0, 0, 0, 0)),
  (24, (.istore_n 2, 1), (0, 0, 0, 0)),
  (25, (.iinc 3 1, 3), (0, 0, 0, 0)),
  (28, (.goto (-24), 3), (0, 0, 0, 0)),
  (31, (.iload_n 2, 1), (0, 0, 0, 0)),
  (32, (.ireturn, 1), (0, 0, 0, 0))]
noncomputable def tb_259 : List TE := [ -- X12_wonAgainst
  (0, (.iconst 0, 1), (0, 0, 0, 0)),
  (1, (.istore_n 2, 1), (0, 0, 0, 0)),
  (2, (.iconst 0, 1), (0, 0, 0, 0)),
  (3, (.istore_n 3, 1), (0, 0, 0, 0)),
  (4, (.iload_n 3, 1), (0, 0, 0, 0)),
  (5, (.aload_n 0, 1), (0, 0, 0, 0)),
  (6, (.getfield 7, 3), (11, 0, 2, 0)),
  (9, (.iconst 1, 1), (0, 0, 0, 0)),
  (10, (.iaload, 1), (0, 0, 0, 0)),
  (11, (.if_icmp .ge 20, 3), (0, 0, 0, 0)),
  (14, (.iload_n 2, 1), (0, 0, 0, 0)),
  (15, (.aload_n 0, 1), (0, 0, 0, 0)),
  (16, (.iload_n 3, 1), (0, 0, 0, 0)),
  (17, (.iconst 4, 1), (0, 0, 0, 0)),
  (18, (.iload_n 1, 1), (0, 0, 0, 0)),
  (19, (.iadd, 1), (0, 0, 0, 0)),
  (20, (.invokevirtual 269, 3), (252, 2, 11, 0)),
  (23, (.iadd, 1), (0, 0, 0, 0)),
  (24, (.istore_n 2, 1), (0, 0, 0, 0)),
  (25, (.iinc 3 1, 3), (0, 0, 0, 0)),
  (28, (.goto (-24), 3), (0, 0, 0, 0)),
  (31, (.iload_n 2, 1), (0, 0, 0, 0)),
  (32, (.ireturn, 1), (0, 0, 0, 0))]
noncomputable def tb_260 : List TE := [ -- X12_allWon
  (0, (.iconst 0, 1), (0, 0, 0, 0)),
  (1, (.istore_n 1, 1), (0, 0, 0, 0)),
  (2, (.iconst 0, 1), (0, 0, 0, 0)),
  (3, (.istore_n 2, 1), (0, 0, 0, 0)),
  (4, (.iload_n 2, 1), (0, 0, 0, 0)),
  (5, (.aload_n 0, 1), (0, 0, 0, 0)),
  (6, (.getfield 7, 3), (11, 0, 2, 0)),
  (9, (.iconst 1, 1), (0, 0, 0, 0)),
  (10, (.iaload, 1), (0, 0, 0, 0)),
  (11, (.if_icmp .ge 17, 3), (0, 0, 0, 0)),
  (14, (.iload_n 1, 1), (0, 0, 0, 0)),
  (15, (.aload_n 0, 1), (0, 0, 0, 0)),
  (16, (.iload_n 2, 1), (0, 0, 0, 0)),
  (17, (.invokevirtual 278, 3), (258, 1, 11, 0)),
  (20, (.iadd, 1), (0, 0, 0, 0)),
  (21, (.istore_n 1, 1), (0, 0, 0, 0)),
  (22, (.iinc 2 1, 3), (0, 0, 0, 0)),
  (25, (.goto (-21), 3), (0, 0, 0, 0)),
  (28, (.iload_n 1, 1), (0, 0, 0, 0)),
  (29, (.ireturn, 1), (0, 0, 0, 0))]
noncomputable def tb_261 : List TE := [ -- X12_setOf
  (0, (.iconst 0, 1), (0, 0, 0, 0)),
  (1, (.istore_n 2, 1), (0, 0, 0, 0)),
  (2, (.iconst 0, 1), (0, 0, 0, 0)),
  (3, (.istore_n 3, 1), (0, 0, 0, 0)),
  (4, (.iload_n 3, 1), (0, 0, 0, 0)),
  (5, (.aload_n 0, 1), (0, 0, 0, 0)),
  (6, (.getfield 7, 3), (11, 0, 2, 0)),
  (9, (.iload_n 1, 1), (0, 0, 0, 0)),
  (10, (.bipush 8, 2), (0, 0, 0, 0)),
  (12, (.if_icmp .ne 7, 3), (0, 0, 0, 0)),
  (15, (.iconst 1, 1), (0, 0, 0, 0)),
  (16, (.goto 4, 3), (0, 0, 0, 0)),
  (19, (.iconst 0, 1), (0, 0, 0, 0)),
  (20, (.iaload, 1), (0, 0, 0, 0)),
  (21, (.if_icmp .ge 77, 3), (0, 0, 0, 0)),
  (24, (.iload_n 1, 1), (0, 0, 0, 0)),
  (25, (.bipush 8, 2), (0, 0, 0, 0)),
  (27, (.if_icmp .ne 20, 3), (0, 0, 0, 0)),
  (30, (.aload_n 0, 1), (0, 0, 0, 0)),
  (31, (.iload_n 3, 1), (0, 0, 0, 0)),
  (32, (.iconst 1, 1), (0, 0, 0, 0)),
  (33, (.invokevirtual 269, 3), (252, 2, 11, 0)),
  (36, (.ifCond .le 7, 3), (0, 0, 0, 0)),
  (39, (.iconst 1, 1), (0, 0, 0, 0)),
  (40, (.goto 35, 3), (0, 0, 0, 0)),
  (43, (.iconst 0, 1), (0, 0, 0, 0)),
  (44, (.goto 31, 3), (0, 0, 0, 0)),
  (47, (.iload_n 1, 1), (0, 0, 0, 0)),
  (48, (.bipush 7, 2), (0, 0, 0, 0)),
  (50, (.if_icmp .ne 20, 3), (0, 0, 0, 0)),
  (53, (.aload_n 0, 1), (0, 0, 0, 0)),
  (54, (.iload_n 3, 1), (0, 0, 0, 0)),
  (55, (.invokevirtual 281, 3), (257, 1, 11, 0)),
  (58, (.iconst (-1), 1), (0, 0, 0, 0)),
  (59, (.if_icmp .ne 7, 3), (0, 0, 0, 0)),
  (62, (.iconst 1, 1), (0, 0, 0, 0)),
  (63, (.goto 12, 3), (0, 0, 0, 0)),
  (66, (.iconst 0, 1), (0, 0, 0, 0)),
  (67, (.goto 8, 3), (0, 0, 0, 0)),
  (70, (.aload_n 0, 1), (0, 0, 0, 0)),
  (71, (.iload_n 3, 1), (0, 0, 0, 0)),
  (72, (.invokevirtual 272, 3), (253, 1, 11, 0)),
  (75, (.istore 4, 2), (0, 0, 0, 0)),
  (77, (.iload_n 2, 1), (0, 0, 0, 0)),
  (78, (.iload 4, 2), (0, 0, 0, 0)),
  (80, (.ifCond .eq 9, 3), (0, 0, 0, 0)),
  (83, (.iconst 1, 1), (0, 0, 0, 0)),
  (84, (.iload_n 3, 1), (0, 0, 0, 0)),
  (85, (.ishl, 1), (0, 0, 0, 0)),
  (86, (.goto 4, 3), (0, 0, 0, 0)),
  (89, (.iconst 0, 1), (0, 0, 0, 0)),
  (90, (.ior, 1), (0, 0, 0, 0)),
  (91, (.istore_n 2, 1), (0, 0, 0, 0)),
  (92, (.iinc 3 1, 3), (0, 0, 0, 0)),
  (95, (.goto (-91), 3), (0, 0, 0, 0)),
  (98, (.iload_n 2, 1), (0, 0, 0, 0)),
  (99, (.ireturn, 1), (0, 0, 0, 0))]
noncomputable def tb_262 : List TE := [ -- X12_told
  (0, (.iload_n 1, 1), (0, 0, 0, 0)),
  (1, (.ifCond .lt 9, 3), (0, 0, 0, 0)),
  (4, (.iload_n 1, 1), (0, 0, 0, 0)),
  (5, (.bipush 9, 2), (0, 0, 0, 0)),
  (7, (.if_icmp .le 9, 3), (0, 0, 0, 0)),
  (10, (.aload_n 0, 1), (0, 0, 0, 0)),
  (11, (.iconst 1, 1), (0, 0, 0, 0)),
  (12, (.invokevirtual 90, 3), (201, 1, 11, 0)),
  (15, (.ireturn, 1), (0, 0, 0, 0)),
  (16, (.iload_n 1, 1), (0, 0, 0, 0)),
  (17, (.bipush 6, 2), (0, 0, 0, 0)),
  (19, (.if_icmp .ge 14, 3), (0, 0, 0, 0)),
  (22, (.aload_n 0, 1), (0, 0, 0, 0)),
  (23, (.aload_n 0, 1), (0, 0, 0, 0)),
  (24, (.getfield 7, 3), (11, 0, 2, 0)),
  (27, (.iload_n 1, 1), (0, 0, 0, 0)),
  (28, (.iaload, 1), (0, 0, 0, 0)),
  (29, (.invokevirtual 94, 3), (202, 1, 11, 0)),
  (32, (.ireturn, 1), (0, 0, 0, 0)),
  (33, (.aload_n 0, 1), (0, 0, 0, 0)),
  (34, (.iload_n 1, 1), (0, 0, 0, 0)),
  (35, (.bipush 9, 2), (0, 0, 0, 0)),
  (37, (.if_icmp .ne 10, 3), (0, 0, 0, 0)),
  (40, (.aload_n 0, 1), (0, 0, 0, 0)),
  (41, (.invokevirtual 284, 3), (260, 0, 11, 0)),
  (44, (.goto 8, 3), (0, 0, 0, 0)),
  (47, (.aload_n 0, 1), (0, 0, 0, 0)),
  (48, (.iload_n 1, 1), (0, 0, 0, 0)),
  (49, (.invokevirtual 287, 3), (261, 1, 11, 0)),
  (52, (.invokevirtual 94, 3), (202, 1, 11, 0)),
  (55, (.ireturn, 1), (0, 0, 0, 0))]
noncomputable def tb_263 : List TE := [ -- X12_thing
  (0, (.aload_n 0, 1), (0, 0, 0, 0)),
  (1, (.iload_n 1, 1), (0, 0, 0, 0)),
  (2, (.invokevirtual 290, 3), (246, 1, 11, 0)),
  (5, (.ifCond .eq 12, 3), (0, 0, 0, 0)),
  (8, (.iload_n 2, 1), (0, 0, 0, 0)),
  (9, (.ifCond .lt 8, 3), (0, 0, 0, 0)),
  (12, (.iload_n 2, 1), (0, 0, 0, 0)),
  (13, (.iconst 4, 1), (0, 0, 0, 0)),
  (14, (.if_icmp .le 9, 3), (0, 0, 0, 0)),
  (17, (.aload_n 0, 1), (0, 0, 0, 0)),
  (18, (.iconst 1, 1), (0, 0, 0, 0)),
  (19, (.invokevirtual 90, 3), (201, 1, 11, 0)),
  (22, (.ireturn, 1), (0, 0, 0, 0)),
  (23, (.aload_n 0, 1), (0, 0, 0, 0)),
  (24, (.iload_n 2, 1), (0, 0, 0, 0)),
  (25, (.iconst 4, 1), (0, 0, 0, 0)),
  (26, (.if_icmp .ne 19, 3), (0, 0, 0, 0)),
  (29, (.aload_n 0, 1), (0, 0, 0, 0)),
  (30, (.iload_n 1, 1), (0, 0, 0, 0)),
  (31, (.invokevirtual 272, 3), (253, 1, 11, 0)),
  (34, (.ifCond .eq 7, 3), (0, 0, 0, 0)),
  (37, (.iconst 1, 1), (0, 0, 0, 0)),
  (38, (.goto 13, 3), (0, 0, 0, 0)),
  (41, (.iconst 0, 1), (0, 0, 0, 0)),
  (42, (.goto 9, 3), (0, 0, 0, 0)),
  (45, (.aload_n 0, 1), (0, 0, 0, 0)),
  (46, (.iload_n 1, 1), (0, 0, 0, 0)),
  (47, (.iload_n 2, 1), (0, 0, 0, 0)),
  (48, (.invokevirtual 266, 3), (251, 2, 11, 0)),
  (51, (.invokevirtual 94, 3), (202, 1, 11, 0)),
  (54, (.ireturn, 1), (0, 0, 0, 0))]
noncomputable def tb_264 : List TE := [ -- X12_holder
  (0, (.aload_n 0, 1), (0, 0, 0, 0)),
  (1, (.iload_n 1, 1), (0, 0, 0, 0)),
  (2, (.invokevirtual 290, 3), (246, 1, 11, 0)),
  (5, (.ifCond .ne 9, 3), (0, 0, 0, 0)),
  (8, (.aload_n 0, 1), (0, 0, 0, 0)),
  (9, (.iconst 1, 1), (0, 0, 0, 0)),
  (10, (.invokevirtual 90, 3), (201, 1, 11, 0)),
  (13, (.ireturn, 1), (0, 0, 0, 0)),
  (14, (.aload_n 0, 1), (0, 0, 0, 0)),
  (15, (.aload_n 0, 1), (0, 0, 0, 0)),
  (16, (.iload_n 1, 1), (0, 0, 0, 0)),
  (17, (.invokevirtual 281, 3), (257, 1, 11, 0)),
  (20, (.invokevirtual 293, 3), (203, 1, 11, 0)),
  (23, (.ireturn, 1), (0, 0, 0, 0))]
noncomputable def tb_265 : List TE := [ -- X12_man
  (0, (.aload_n 0, 1), (0, 0, 0, 0)),
  (1, (.iload_n 1, 1), (0, 0, 0, 0)),
  (2, (.invokevirtual 259, 3), (247, 1, 11, 0)),
  (5, (.ifCond .eq 13, 3), (0, 0, 0, 0)),
  (8, (.iload_n 2, 1), (0, 0, 0, 0)),
  (9, (.ifCond .lt 9, 3), (0, 0, 0, 0)),
  (12, (.iload_n 2, 1), (0, 0, 0, 0)),
  (13, (.bipush 6, 2), (0, 0, 0, 0)),
  (15, (.if_icmp .le 9, 3), (0, 0, 0, 0)),
  (18, (.aload_n 0, 1), (0, 0, 0, 0)),
  (19, (.iconst 1, 1), (0, 0, 0, 0)),
  (20, (.invokevirtual 90, 3), (201, 1, 11, 0)),
  (23, (.ireturn, 1), (0, 0, 0, 0)),
  (24, (.iload_n 2, 1), (0, 0, 0, 0)),
  (25, (.tableswitch 71 3 6 #[31, 41, 51, 61], 31), (0, 0, 0, 0)),
  (56, (.aload_n 0, 1), (0, 0, 0, 0)),
  (57, (.aload_n 0, 1), (0, 0, 0, 0)),
  (58, (.iload_n 1, 1), (0, 0, 0, 0)),
  (59, (.invokevirtual 296, 3), (255, 1, 11, 0)),
  (62, (.invokevirtual 94, 3), (202, 1, 11, 0)),
  (65, (.ireturn, 1), (0, 0, 0, 0)),
  (66, (.aload_n 0, 1), (0, 0, 0, 0)),
  (67, (.aload_n 0, 1), (0, 0, 0, 0)),
  (68, (.iload_n 1, 1), (0, 0, 0, 0)),
  (69, (.invokevirtual 299, 3), (256, 1, 11, 0)),
  (72, (.invokevirtual 94, 3), (202, 1, 11, 0)),
  (75, (.ireturn, 1), (0, 0, 0, 0)),
  (76, (.aload_n 0, 1), (0, 0, 0, 0)),
  (77, (.aload_n 0, 1), (0, 0, 0, 0)),
  (78, (.iload_n 1, 1), (0, 0, 0, 0)),
  (79, (.invokevirtual 278, 3), (258, 1, 11, 0)),
  (82, (.invokevirtual 94, 3), (202, 1, 11, 0)),
  (85, (.ireturn, 1), (0, 0, 0, 0)),
  (86, (.aload_n 0, 1), (0, 0, 0, 0)),
  (87, (.aload_n 0, 1), (0, 0, 0, 0)),
  (88, (.iload_n 1, 1), (0, 0, 0, 0)),
  (89, (.invokevirtual 302, 3), (259, 1, 11, 0)),
  (92, (.invokevirtual 94, 3), (202, 1, 11, 0)),
  (95, (.ireturn, 1), (0, 0, 0, 0)),
  (96, (.aload_n 0, 1), (0, 0, 0, 0)),
  (97, (.aload_n 0, 1), (0, 0, 0, 0)),
  (98, (.iload_n 1, 1), (0, 0, 0, 0)),
  (99, (.iload_n 2, 1), (0, 0, 0, 0)),
  (100, (.invokevirtual 269, 3), (252, 2, 11, 0)),
  (103, (.invokevirtual 94, 3), (202, 1, 11, 0)),
  (106, (.ireturn, 1), (0, 0, 0, 0))]
noncomputable def tb_266 : List TE := [ -- X12_holds
  (0, (.aload_n 0, 1), (0, 0, 0, 0)),
  (1, (.iload_n 1, 1), (0, 0, 0, 0)),
  (2, (.invokevirtual 259, 3), (247, 1, 11, 0)),
  (5, (.ifCond .ne 9, 3), (0, 0, 0, 0)),
  (8, (.aload_n 0, 1), (0, 0, 0, 0)),
  (9, (.iconst 1, 1), (0, 0, 0, 0)),
  (10, (.invokevirtual 90, 3), (201, 1, 11, 0)),
  (13, (.ireturn, 1), (0, 0, 0, 0)),
  (14, (.aload_n 0, 1), (0, 0, 0, 0)),
  (15, (.aload_n 0, 1), (0, 0, 0, 0)),
  (16, (.iload_n 1, 1), (0, 0, 0, 0)),
  (17, (.iconst 3, 1), (0, 0, 0, 0)),
  (18, (.invokevirtual 269, 3), (252, 2, 11, 0)),
  (21, (.invokevirtual 293, 3), (203, 1, 11, 0)),
  (24, (.ireturn, 1), (0, 0, 0, 0))]
noncomputable def tb_267 : List TE := [ -- X12_won
  (0, (.aload_n 0, 1), (0, 0, 0, 0)),
  (1, (.iload_n 1, 1), (0, 0, 0, 0)),
  (2, (.iload_n 2, 1), (0, 0, 0, 0)),
  (3, (.invokevirtual 305, 3), (248, 2, 11, 0)),
  (6, (.ifCond .ne 9, 3), (0, 0, 0, 0)),
  (9, (.aload_n 0, 1), (0, 0, 0, 0)),
  (10, (.iconst 1, 1), (0, 0, 0, 0)),
  (11, (.invokevirtual 90, 3), (201, 1, 11, 0)),
  (14, (.ireturn, 1), (0, 0, 0, 0)),
  (15, (.aload_n 0, 1), (0, 0, 0, 0)),
  (16, (.aload_n 0, 1), (0, 0, 0, 0)),
  (17, (.iload_n 1, 1), (0, 0, 0, 0)),
  (18, (.iconst 4, 1), (0, 0, 0, 0)),
  (19, (.iload_n 2, 1), (0, 0, 0, 0)),
  (20, (.iadd, 1), (0, 0, 0, 0)),
  (21, (.invokevirtual 269, 3), (252, 2, 11, 0)),
  (24, (.invokevirtual 94, 3), (202, 1, 11, 0)),
  (27, (.ireturn, 1), (0, 0, 0, 0))]
noncomputable def tb_268 : List TE := [ -- X12_isDuel
  (0, (.aload_n 0, 1), (0, 0, 0, 0)),
  (1, (.getfield 7, 3), (11, 0, 2, 0)),
  (4, (.bipush 6, 2), (0, 0, 0, 0)),
  (6, (.iaload, 1), (0, 0, 0, 0)),
  (7, (.iconst (-1), 1), (0, 0, 0, 0)),
  (8, (.if_icmp .eq 7, 3), (0, 0, 0, 0)),
  (11, (.iconst 1, 1), (0, 0, 0, 0)),
  (12, (.goto 4, 3), (0, 0, 0, 0)),
  (15, (.iconst 0, 1), (0, 0, 0, 0)),
  (16, (.ireturn, 1), (0, 0, 0, 0))]
noncomputable def tb_269 : List TE := [ -- X12_near
  (0, (.aload_n 0, 1), (0, 0, 0, 0)),
  (1, (.invokevirtual 308, 3), (268, 0, 11, 0)),
  (4, (.ifCond .eq 21, 3), (0, 0, 0, 0)),
  (7, (.aload_n 0, 1), (0, 0, 0, 0)),
  (8, (.getfield 7, 3), (11, 0, 2, 0)),
  (11, (.bipush 9, 2), (0, 0, 0, 0)),
  (13, (.iaload, 1), (0, 0, 0, 0)),
  (14, (.aload_n 0, 1), (0, 0, 0, 0)),
  (15, (.getfield 7, 3), (11, 0, 2, 0)),
  (18, (.bipush 8, 2), (0, 0, 0, 0)),
  (20, (.iaload, 1), (0, 0, 0, 0)),
  (21, (.isub, 1), (0, 0, 0, 0)),
  (22, (.goto 4, 3), (0, 0, 0, 0)),
  (25, (.iconst 0, 1), (0, 0, 0, 0)),
  (26, (.ireturn, 1), (0, 0, 0, 0))]
noncomputable def tb_270 : List TE := [ -- X12_turn
  (0, (.aload_n 0, 1), (0, 0, 0, 0)),
  (1, (.getfield 7, 3), (11, 0, 2, 0)),
  (4, (.bipush 10, 2), (0, 0, 0, 0)),
  (6, (.iaload, 1), (0, 0, 0, 0)),
  (7, (.iconst 2, 1), (0, 0, 0, 0)),
  (8, (.irem, 1), (0, 0, 0, 0)),
  (9, (.ireturn, 1), (0, 0, 0, 0))]
noncomputable def tb_271 : List TE := [ -- X12_actor
  (0, (.aload_n 0, 1), (0, 0, 0, 0)),
  (1, (.getfield 7, 3), (11, 0, 2, 0)),
  (4, (.bipush 6, 2), (0, 0, 0, 0)),
  (6, (.aload_n 0, 1), (0, 0, 0, 0)),
  (7, (.invokevirtual 311, 3), (270, 0, 11, 0)),
  (10, (.iadd, 1), (0, 0, 0, 0)),
  (11, (.iaload, 1), (0, 0, 0, 0)),
  (12, (.ireturn, 1), (0, 0, 0, 0))]
noncomputable def tb_272 : List TE := [ -- X12_duel
  (0, (.iload_n 1, 1), (0, 0, 0, 0)),
  (1, (.ifCond .lt 9, 3), (0, 0, 0, 0)),
  (4, (.iload_n 1, 1), (0, 0, 0, 0)),
  (5, (.bipush 6, 2), (0, 0, 0, 0)),
  (7, (.if_icmp .le 9, 3), (0, 0, 0, 0)),
  (10, (.aload_n 0, 1), (0, 0, 0, 0)),
  (11, (.iconst 1, 1), (0, 0, 0, 0)),
  (12, (.invokevirtual 90, 3), (201, 1, 11, 0)),
  (15, (.ireturn, 1), (0, 0, 0, 0)),
  (16, (.aload_n 0, 1), (0, 0, 0, 0)),
  (17, (.invokevirtual 308, 3), (268, 0, 11, 0)),
  (20, (.ifCond .ne 10, 3), (0, 0, 0, 0)),
  (23, (.aload_n 0, 1), (0, 0, 0, 0)),
  (24, (.bipush 6, 2), (0, 0, 0, 0)),
  (26, (.invokevirtual 90, 3), (201, 1, 11, 0)),
  (29, (.ireturn, 1), (0, 0, 0, 0)),
  (30, (.iload_n 1, 1), (0, 0, 0, 0)),
  (31, (.tableswitch 55 4 6 #[25, 34, 46], 25), (0, 0, 0, 0)),
  (56, (.aload_n 0, 1), (0, 0, 0, 0)),
  (57, (.aload_n 0, 1), (0, 0, 0, 0)),
  (58, (.invokevirtual 314, 3), (269, 0, 11, 0)),
  (61, (.invokevirtual 94, 3), (202, 1, 11, 0)),
  (64, (.ireturn, 1), (0, 0, 0, 0)),
  (65, (.aload_n 0, 1), (0, 0, 0, 0)),
  (66, (.aload_n 0, 1), (0, 0, 0, 0)),
  (67, (.getfield 7, 3), (11, 0, 2, 0)),
  (70, (.bipush 10, 2), (0, 0, 0, 0)),
  (72, (.iaload, 1), (0, 0, 0, 0)),
  (73, (.invokevirtual 94, 3), (202, 1, 11, 0)),
  (76, (.ireturn, 1), (0, 0, 0, 0)),
  (77, (.aload_n 0, 1), (0, 0, 0, 0)),
  (78, (.aload_n 0, 1), (0, 0, 0, 0)),
  (79, (.invokevirtual 317, 3), (271, 0, 11, 0)),
  (82, (.invokevirtual 94, 3), (202, 1, 11, 0)),
  (85, (.ireturn, 1), (0, 0, 0, 0)),
  (86, (.aload_n 0, 1), (0, 0, 0, 0)),
  (87, (.aload_n 0, 1), (0, 0, 0, 0)),
  (88, (.getfield 7, 3), (11, 0, 2, 0)),
  (91, (.bipush 6, 2), (0, 0, 0, 0)),
  (93, (.iload_n 1, 1), (0, 0, 0, 0)),
  (94, (.iadd, 1), (0, 0, 0, 0)),
  (95, (.iaload, 1), (0, 0, 0, 0)),
  (96, (.invokevirtual 94, 3), (202, 1, 11, 0)),
  (99, (.ireturn, 1), (0, 0, 0, 0))]
noncomputable def tb_273 : List TE := [ -- X12_meets
  (0, (.iload_n 1, 1), (0, 0, 0, 0)),
  (1, (.iload_n 2, 1), (0, 0, 0, 0)),
  (2, (.if_icmp .eq 21, 3), (0, 0, 0, 0)),
  (5, (.aload_n 0, 1), (0, 0, 0, 0)),
  (6, (.iload_n 1, 1), (0, 0, 0, 0)),
  (7, (.iconst 1, 1), (0, 0, 0, 0)),
  (8, (.invokevirtual 269, 3), (252, 2, 11, 0)),
  (11, (.ifCond .eq 12, 3), (0, 0, 0, 0)),
  (14, (.aload_n 0, 1), (0, 0, 0, 0)),
  (15, (.iload_n 2, 1), (0, 0, 0, 0)),
  (16, (.iconst 1, 1), (0, 0, 0, 0)),
  (17, (.invokevirtual 269, 3), (252, 2, 11, 0)),
  (20, (.ifCond .ne 5, 3), (0, 0, 0, 0)),
  (23, (.iconst 0, 1), (0, 0, 0, 0)),
  (24, (.ireturn, 1), (0, 0, 0, 0)),
  (25, (.aload_n 0, 1), (0, 0, 0, 0)),
  (26, (.getfield 7, 3), (11, 0, 2, 0)),
  (29, (.bipush 6, 2), (0, 0, 0, 0)),
  (31, (.iload_n 1, 1), (0, 0, 0, 0)),
  (32, (.iastore, 1), (0, 0, 0, 0)),
  (33, (.aload_n 0, 1), (0, 0, 0, 0)),
  (34, (.getfield 7, 3), (11, 0, 2, 0)),
  (37, (.bipush 7, 2), (0, 0, 0, 0)),
  (39, (.iload_n 2, 1), (0, 0, 0, 0)),
  (40, (.iastore, 1), (0, 0, 0, 0)),
  (41, (.aload_n 0, 1), (0, 0, 0, 0)),
  (42, (.getfield 7, 3), (11, 0, 2, 0)),
  (45, (.bipush 8, 2), (0, 0, 0, 0)),
  (47, (.iconst 0, 1), (0, 0, 0, 0)),
  (48, (.iastore, 1), (0, 0, 0, 0)),
  (49, (.aload_n 0, 1), (0, 0, 0, 0)),
  (50, (.getfield 7, 3), (11, 0, 2, 0)),
  (53, (.bipush 9, 2), (0, 0, 0, 0)),
  (55, (.aload_n 0, 1), (0, 0, 0, 0)),
  (56, (.getfield 7, 3), (11, 0, 2, 0)),
  (59, (.iconst 2, 1), (0, 0, 0, 0)),
  (60, (.iaload, 1), (0, 0, 0, 0)),
  (61, (.iastore, 1), (0, 0, 0, 0)),
  (62, (.aload_n 0, 1), (0, 0, 0, 0)),
  (63, (.getfield 7, 3), (11, 0, 2, 0)),
  (66, (.bipush 10, 2), (0, 0, 0, 0)),
  (68, (.iconst 0, 1), (0, 0, 0, 0)),
  (69, (.iastore, 1), (0, 0, 0, 0)),
  (70, (.iconst 1, 1), (0, 0, 0, 0)),
  (71, (.ireturn, 1), (0, 0, 0, 0))]
noncomputable def tb_274 : List TE := [ -- X12_meet
  (0, (.aload_n 0, 1), (0, 0, 0, 0)),
  (1, (.iload_n 1, 1), (0, 0, 0, 0)),
  (2, (.iload_n 2, 1), (0, 0, 0, 0)),
  (3, (.invokevirtual 305, 3), (248, 2, 11, 0)),
  (6, (.ifCond .ne 9, 3), (0, 0, 0, 0)),
  (9, (.aload_n 0, 1), (0, 0, 0, 0)),
  (10, (.iconst 1, 1), (0, 0, 0, 0)),
  (11, (.invokevirtual 90, 3), (201, 1, 11, 0)),
  (14, (.ireturn, 1), (0, 0, 0, 0)),
  (15, (.aload_n 0, 1), (0, 0, 0, 0)),
  (16, (.iload_n 1, 1), (0, 0, 0, 0)),
  (17, (.iload_n 2, 1), (0, 0, 0, 0)),
  (18, (.invokevirtual 320, 3), (273, 2, 11, 0)),
  (21, (.ifCond .eq 14, 3), (0, 0, 0, 0)),
  (24, (.aload_n 0, 1), (0, 0, 0, 0)),
  (25, (.aload_n 0, 1), (0, 0, 0, 0)),
  (26, (.invokevirtual 314, 3), (269, 0, 11, 0)),
  (29, (.invokevirtual 94, 3), (202, 1, 11, 0)),
  (32, (.goto 9, 3), (0, 0, 0, 0)),
  (35, (.aload_n 0, 1), (0, 0, 0, 0)),
  (36, (.bipush 7, 2), (0, 0, 0, 0)),
  (38, (.invokevirtual 90, 3), (201, 1, 11, 0)),
  (41, (.ireturn, 1), (0, 0, 0, 0))]
noncomputable def tb_275 : List TE := [ -- X12_canAct
  (0, (.iload_n 1, 1), (0, 0, 0, 0)),
  (1, (.tableswitch 109 1 3 #[27, 41, 88], 27), (0, 0, 0, 0)),
  (28, (.aload_n 0, 1), (0, 0, 0, 0)),
  (29, (.invokevirtual 314, 3), (269, 0, 11, 0)),
  (32, (.iconst 1, 1), (0, 0, 0, 0)),
  (33, (.if_icmp .le 7, 3), (0, 0, 0, 0)),
  (36, (.iconst 1, 1), (0, 0, 0, 0)),
  (37, (.goto 4, 3), (0, 0, 0, 0)),
  (40, (.iconst 0, 1), (0, 0, 0, 0)),
  (41, (.ireturn, 1), (0, 0, 0, 0)),
  (42, (.aload_n 0, 1), (0, 0, 0, 0)),
  (43, (.invokevirtual 311, 3), (270, 0, 11, 0)),
  (46, (.ifCond .ne 21, 3), (0, 0, 0, 0)),
  (49, (.aload_n 0, 1), (0, 0, 0, 0)),
  (50, (.getfield 7, 3), (11, 0, 2, 0)),
  (53, (.bipush 8, 2), (0, 0, 0, 0)),
  (55, (.iaload, 1), (0, 0, 0, 0)),
  (56, (.ifCond .le 7, 3), (0, 0, 0, 0)),
  (59, (.iconst 1, 1), (0, 0, 0, 0)),
  (60, (.goto 28, 3), (0, 0, 0, 0)),
  (63, (.iconst 0, 1), (0, 0, 0, 0)),
  (64, (.goto 24, 3), (0, 0, 0, 0)),
  (67, (.aload_n 0, 1), (0, 0, 0, 0)),
  (68, (.getfield 7, 3), (11, 0, 2, 0)),
  (71, (.bipush 9, 2), (0, 0, 0, 0)),
  (73, (.iaload, 1), (0, 0, 0, 0)),
  (74, (.aload_n 0, 1), (0, 0, 0, 0)),
  (75, (.getfield 7, 3), (11, 0, 2, 0)),
  (78, (.iconst 2, 1), (0, 0, 0, 0)),
  (79, (.iaload, 1), (0, 0, 0, 0)),
  (80, (.if_icmp .ge 7, 3), (0, 0, 0, 0)),
  (83, (.iconst 1, 1), (0, 0, 0, 0)),
  (84, (.goto 4, 3), (0, 0, 0, 0)),
  (87, (.iconst 0, 1), (0, 0, 0, 0)),
  (88, (.ireturn, 1), (0, 0, 0, 0)),
  (89, (.aload_n 0, 1), (0, 0, 0, 0)),
  (90, (.invokevirtual 314, 3), (269, 0, 11, 0)),
  (93, (.aload_n 0, 1), (0, 0, 0, 0)),
  (94, (.aload_n 0, 1), (0, 0, 0, 0)),
  (95, (.invokevirtual 317, 3), (271, 0, 11, 0)),
  (98, (.invokevirtual 296, 3), (255, 1, 11, 0)),
  (101, (.if_icmp .gt 7, 3), (0, 0, 0, 0)),
  (104, (.iconst 1, 1), (0, 0, 0, 0)),
  (105, (.goto 4, 3), (0, 0, 0, 0)),
  (108, (.iconst 0, 1), (0, 0, 0, 0)),
  (109, (.ireturn, 1), (0, 0, 0, 0)),
  (110, (.iconst 1, 1), (0, 0, 0, 0)),
  (111, (.ireturn, 1), (0, 0, 0, 0))]
noncomputable def tb_276 : List TE := [ -- X12_woundNow
  (0, (.iconst 0, 1), (0, 0, 0, 0)),
  (1, (.aload_n 0, 1), (0, 0, 0, 0)),
  (2, (.aload_n 0, 1), (0, 0, 0, 0)),
  (3, (.invokevirtual 317, 3), (271, 0, 11, 0)),
  (6, (.invokevirtual 299, 3), (256, 1, 11, 0)),
  (9, (.aload_n 0, 1), (0, 0, 0, 0)),
  (10, (.invokevirtual 311, 3), (270, 0, 11, 0)),
  (13, (.iconst 1, 1), (0, 0, 0, 0)),
  (14, (.if_icmp .ne 28, 3), (0, 0, 0, 0)),
  (17, (.aload_n 0, 1), (0, 0, 0, 0)),
  (18, (.getfield 7, 3), (11, 0, 2, 0)),
  (21, (.bipush 10, 2), (0, 0, 0, 0)),
  (23, (.iaload, 1), (0, 0, 0, 0)),
  (24, (.aload_n 0, 1), (0, 0, 0, 0)),
  (25, (.getfield 7, 3), (11, 0, 2, 0)),
  (28, (.iconst 3, 1), (0, 0, 0, 0)),
  (29, (.iaload, 1), (0, 0, 0, 0)),
  (30, (.if_icmp .ge 12, 3), (0, 0, 0, 0)),
  (33, (.aload_n 0, 1), (0, 0, 0, 0)),
  (34, (.getfield 7, 3), (11, 0, 2, 0)),
  (37, (.iconst 4, 1), (0, 0, 0, 0)),
  (38, (.iaload, 1), (0, 0, 0, 0)),
  (39, (.goto 4, 3), (0, 0, 0, 0)),
  (42, (.iconst 0, 1), (0, 0, 0, 0)),
  (43, (.isub, 1), (0, 0, 0, 0)),
  (44, (.invokestatic 323, 3), (341, 2, 0, 0)),
  (47, (.ireturn, 1), (0, 0, 0, 0))]
noncomputable def tb_277 : List TE := [ -- X12_strikes
  (0, (.aload_n 0, 1), (0, 0, 0, 0)),
  (1, (.invokevirtual 317, 3), (271, 0, 11, 0)),
  (4, (.istore_n 1, 1), (0, 0, 0, 0)),
  (5, (.aload_n 0, 1), (0, 0, 0, 0)),
  (6, (.getfield 7, 3), (11, 0, 2, 0)),
  (9, (.bipush 7, 2), (0, 0, 0, 0)),
  (11, (.aload_n 0, 1), (0, 0, 0, 0)),
  (12, (.invokevirtual 311, 3), (270, 0, 11, 0)),
  (15, (.isub, 1), (0, 0, 0, 0)),
  (16, (.iaload, 1), (0, 0, 0, 0)),
  (17, (.invokestatic 206, 3), (232, 1, 0, 0)),
  (20, (.iconst 1, 1), (0, 0, 0, 0)),
  (21, (.iadd, 1), (0, 0, 0, 0)),
  (22, (.istore_n 2, 1), (0, 0, 0, 0)),
  (23, (.aload_n 0, 1), (0, 0, 0, 0)),
  (24, (.getfield 7, 3), (11, 0, 2, 0)),
  (27, (.iload_n 2, 1), (0, 0, 0, 0)),
  (28, (.iaload, 1), (0, 0, 0, 0)),
  (29, (.aload_n 0, 1), (0, 0, 0, 0)),
  (30, (.invokevirtual 326, 3), (276, 0, 11, 0)),
  (33, (.invokestatic 145, 3), (342, 2, 0, 0)),
  (36, (.istore_n 3, 1), (0, 0, 0, 0)),
  (37, (.aload_n 0, 1), (0, 0, 0, 0)),
  (38, (.getfield 7, 3), (11, 0, 2, 0)),
  (41, (.iload_n 2, 1), (0, 0, 0, 0)),
  (42, (.dup2, 1), (0, 0, 0, 0)),
  (43, (.iaload, 1), (0, 0, 0, 0)),
  (44, (.iload_n 3, 1), (0, 0, 0, 0)),
  (45, (.isub, 1), (0, 0, 0, 0)),
  (46, (.iastore, 1), (0, 0, 0, 0)),
  (47, (.aload_n 0, 1), (0, 0, 0, 0)),
  (48, (.iload_n 1, 1), (0, 0, 0, 0)),
  (49, (.invokevirtual 275, 3), (254, 1, 11, 0)),
  (52, (.ifCond .eq 23, 3), (0, 0, 0, 0)),
  (55, (.aload_n 0, 1), (0, 0, 0, 0)),
  (56, (.getfield 7, 3), (11, 0, 2, 0)),
  (59, (.aload_n 0, 1), (0, 0, 0, 0)),
  (60, (.iload_n 1, 1), (0, 0, 0, 0)),
  (61, (.iconst 3, 1), (0, 0, 0, 0)),
  (62, (.invokevirtual 269, 3), (252, 2, 11, 0)),
  (65, (.invokestatic 192, 3), (231, 1, 0, 0)),
  (68, (.iconst 3, 1), (0, 0, 0, 0)),
  (69, (.iadd, 1), (0, 0, 0, 0)),
  (70, (.dup2, 1), (0, 0, 0, 0)),
  (71, (.iaload, 1), (0, 0, 0, 0)),
  (72, (.iconst 1, 1), (0, 0, 0, 0)),
  (73, (.iadd, 1), (0, 0, 0, 0)),
  (74, (.iastore, 1), (0, 0, 0, 0)),
  (75, (.iload_n 3, 1), (0, 0, 0, 0)),
  (76, (.ireturn, 1), (0, 0, 0, 0))]
noncomputable def tb_278 : List TE := [ -- X12_ends
  (0, (.aload_n 0, 1), (0, 0, 0, 0)),
  (1, (.getfield 7, 3), (11, 0, 2, 0)),
  (4, (.bipush 6, 2), (0, 0, 0, 0)),
  (6, (.iconst (-1), 1), (0, 0, 0, 0)),
  (7, (.iastore, 1), (0, 0, 0, 0)),
  (8, (.aload_n 0, 1), (0, 0, 0, 0)),
  (9, (.getfield 7, 3), (11, 0, 2, 0)),
  (12, (.bipush 7, 2), (0, 0, 0, 0)),
  (14, (.iconst (-1), 1), (0, 0, 0, 0)),
  (15, (.iastore, 1), (0, 0, 0, 0)),
  (16, (.return_, 1), (0, 0, 0, 0))]
noncomputable def tb_279 : List TE := [ -- X12_acts0
  (0, (.aload_n 0, 1), (0, 0, 0, 0)),
  (1, (.invokevirtual 317, 3), (271, 0, 11, 0)),
  (4, (.istore_n 2, 1), (0, 0, 0, 0)),
  (5, (.aload_n 0, 1), (0, 0, 0, 0)),
  (6, (.getfield 7, 3), (11, 0, 2, 0)),
  (9, (.bipush 7, 2), (0, 0, 0, 0)),
  (11, (.aload_n 0, 1), (0, 0, 0, 0)),
  (12, (.invokevirtual 311, 3), (270, 0, 11, 0)),
  (15, (.isub, 1), (0, 0, 0, 0)),
  (16, (.iaload, 1), (0, 0, 0, 0)),
  (17, (.istore_n 3, 1), (0, 0, 0, 0)),
  (18, (.iconst 0, 1), (0, 0, 0, 0)),
  (19, (.istore 4, 2), (0, 0, 0, 0)),
  (21, (.aload_n 0, 1), (0, 0, 0, 0)),
  (22, (.invokevirtual 311, 3), (270, 0, 11, 0)),
  (25, (.ifCond .ne 7, 3), (0, 0, 0, 0)),
  (28, (.iconst 1, 1), (0, 0, 0, 0)),
  (29, (.goto 4, 3), (0, 0, 0, 0)),
  (32, (.iconst (-1), 1), (0, 0, 0, 0)),
  (33, (.istore 5, 2), (0, 0, 0, 0)),
  (35, (.iload_n 1, 1), (0, 0, 0, 0)),
  (36, (.tableswitch 99 0 2 #[28, 59, 79], 28), (0, 0, 0, 0)),
  (64, (.aload_n 0, 1), (0, 0, 0, 0)),
  (65, (.getfield 7, 3), (11, 0, 2, 0)),
  (68, (.iload_n 2, 1), (0, 0, 0, 0)),
  (69, (.invokestatic 206, 3), (232, 1, 0, 0)),
  (72, (.iconst 1, 1), (0, 0, 0, 0)),
  (73, (.iadd, 1), (0, 0, 0, 0)),
  (74, (.aload_n 0, 1), (0, 0, 0, 0)),
  (75, (.iload_n 2, 1), (0, 0, 0, 0)),
  (76, (.iconst 2, 1), (0, 0, 0, 0)),
  (77, (.invokevirtual 269, 3), (252, 2, 11, 0)),
  (80, (.aload_n 0, 1), (0, 0, 0, 0)),
  (81, (.iload_n 2, 1), (0, 0, 0, 0)),
  (82, (.iconst 1, 1), (0, 0, 0, 0)),
  (83, (.invokevirtual 269, 3), (252, 2, 11, 0)),
  (86, (.iconst 1, 1), (0, 0, 0, 0)),
  (87, (.iadd, 1), (0, 0, 0, 0)),
  (88, (.invokestatic 145, 3), (342, 2, 0, 0)),
  (91, (.iastore, 1), (0, 0, 0, 0)),
  (92, (.goto 49, 3), (0, 0, 0, 0)),
  (95, (.aload_n 0, 1), (0, 0, 0, 0)),
  (96, (.getfield 7, 3), (11, 0, 2, 0)),
  (99, (.bipush 8, 2), (0, 0, 0, 0)),
  (101, (.aload_n 0, 1), (0, 0, 0, 0)),
  (102, (.invokevirtual 311, 3), (270, 0, 11, 0)),
  (105, (.iadd, 1), (0, 0, 0, 0)),
  (106, (.dup2, 1), (0, 0, 0, 0)),
  (107, (.iaload, 1), (0, 0, 0, 0)),
  (108, (.iload 5, 2), (0, 0, 0, 0)),
  (110, (.iadd, 1), (0, 0, 0, 0)),
  (111, (.iastore, 1), (0, 0, 0, 0)),
  (112, (.goto 29, 3), (0, 0, 0, 0)),
  (115, (.aload_n 0, 1), (0, 0, 0, 0)),
  (116, (.getfield 7, 3), (11, 0, 2, 0)),
  (119, (.bipush 8, 2), (0, 0, 0, 0)),
  (121, (.aload_n 0, 1), (0, 0, 0, 0)),
  (122, (.invokevirtual 311, 3), (270, 0, 11, 0)),
  (125, (.iadd, 1), (0, 0, 0, 0)),
  (126, (.dup2, 1), (0, 0, 0, 0)),
  (127, (.iaload, 1), (0, 0, 0, 0)),
  (128, (.iload 5, 2), (0, 0, 0, 0)),
  (130, (.isub, 1), (0, 0, 0, 0)),
  (131, (.iastore, 1), (0, 0, 0, 0)),
  (132, (.goto 9, 3), (0, 0, 0, 0)),
  (135, (.aload_n 0, 1), (0, 0, 0, 0)),
  (136, (.invokevirtual 329, 3), (277, 0, 11, 0)),
  (139, (.istore 4, 2), (0, 0, 0, 0)),
  (141, (.aload_n 0, 1), (0, 0, 0, 0)),
  (142, (.getfield 7, 3), (11, 0, 2, 0)),
  (145, (.bipush 10, 2), (0, 0, 0, 0)),
  (147, (.dup2, 1), (0, 0, 0, 0)),
  (148, (.iaload, 1), (0, 0, 0, 0)),
  (149, (.iconst 1, 1), (0, 0, 0, 0)),
  (150, (.iadd, 1), (0, 0, 0, 0)),
  (151, (.iastore, 1), (0, 0, 0, 0)),
  (152, (.aload_n 0, 1), (0, 0, 0, 0)),
  (153, (.iload_n 3, 1), (0, 0, 0, 0)),
  (154, (.iconst 1, 1), (0, 0, 0, 0)),
  (155, (.invokevirtual 269, 3), (252, 2, 11, 0)),
  (158, (.ifCond .ne 24, 3), (0, 0, 0, 0)),
  (161, (.aload_n 0, 1), (0, 0, 0, 0)),
  (162, (.getfield 7, 3), (11, 0, 2, 0)),
  (165, (.iload_n 2, 1), (0, 0, 0, 0)),
  (166, (.invokestatic 206, 3), (232, 1, 0, 0)),
  (169, (.iconst 4, 1), (0, 0, 0, 0)),
  (170, (.iadd, 1), (0, 0, 0, 0)),
  (171, (.iload_n 3, 1), (0, 0, 0, 0)),
  (172, (.iadd, 1), (0, 0, 0, 0)),
  (173, (.dup2, 1), (0, 0, 0, 0)),
  (174, (.iaload, 1), (0, 0, 0, 0)),
  (175, (.iconst 1, 1), (0, 0, 0, 0)),
  (176, (.iadd, 1), (0, 0, 0, 0)),
  (177, (.iastore, 1), (0, 0, 0, 0)),
  (178, (.aload_n 0, 1), (0, 0, 0, 0)),
  (179, (.invokevirtual 332, 3), (278, 0, 11, 0)),
  (182, (.iload 4, 2), (0, 0, 0, 0)),
  (184, (.ireturn, 1), (0, 0, 0, 0))]
noncomputable def tb_280 : List TE := [ -- X12_act
  (0, (.iload_n 1, 1), (0, 0, 0, 0)),
  (1, (.ifCond .lt 8, 3), (0, 0, 0, 0)),
  (4, (.iload_n 1, 1), (0, 0, 0, 0)),
  (5, (.iconst 4, 1), (0, 0, 0, 0)),
  (6, (.if_icmp .lt 9, 3), (0, 0, 0, 0)),
  (9, (.aload_n 0, 1), (0, 0, 0, 0)),
  (10, (.iconst 1, 1), (0, 0, 0, 0)),
  (11, (.invokevirtual 90, 3), (201, 1, 11, 0)),
  (14, (.ireturn, 1), (0, 0, 0, 0)),
  (15, (.aload_n 0, 1), (0, 0, 0, 0)),
  (16, (.invokevirtual 308, 3), (268, 0, 11, 0)),
  (19, (.ifCond .ne 10, 3), (0, 0, 0, 0)),
  (22, (.aload_n 0, 1), (0, 0, 0, 0)),
  (23, (.bipush 6, 2), (0, 0, 0, 0)),
  (25, (.invokevirtual 90, 3), (201, 1, 11, 0)),
  (28, (.ireturn, 1), (0, 0, 0, 0)),
  (29, (.aload_n 0, 1), (0, 0, 0, 0)),
  (30, (.iload_n 1, 1), (0, 0, 0, 0)),
  (31, (.invokevirtual 335, 3), (275, 1, 11, 0)),
  (34, (.ifCond .ne 10, 3), (0, 0, 0, 0)),
  (37, (.aload_n 0, 1), (0, 0, 0, 0)),
  (38, (.bipush 7, 2), (0, 0, 0, 0)),
  (40, (.invokevirtual 90, 3), (201, 1, 11, 0)),
  (43, (.ireturn, 1), (0, 0, 0, 0)),
  (44, (.aload_n 0, 1), (0, 0, 0, 0)),
  (45, (.getfield 7, 3), (11, 0, 2, 0)),
  (48, (.bipush 7, 2), (0, 0, 0, 0)),
  (50, (.aload_n 0, 1), (0, 0, 0, 0)),
  (51, (.invokevirtual 311, 3), (270, 0, 11, 0)),
  (54, (.isub, 1), (0, 0, 0, 0)),
  (55, (.iaload, 1), (0, 0, 0, 0)),
  (56, (.istore_n 2, 1), (0, 0, 0, 0)),
  (57, (.aload_n 0, 1), (0, 0, 0, 0)),
  (58, (.iload_n 1, 1), (0, 0, 0, 0)),
  (59, (.invokevirtual 338, 3), (279, 1, 11, 0)),
  (62, (.pop, 1), (0, 0, 0, 0)),
  (63, (.aload_n 0, 1), (0, 0, 0, 0)),
  (64, (.aload_n 0, 1), (0, 0, 0, 0)),
  (65, (.iload_n 2, 1), (0, 0, 0, 0)),
  (66, (.iconst 1, 1), (0, 0, 0, 0)),
  (67, (.invokevirtual 269, 3), (252, 2, 11, 0)),
  (70, (.invokevirtual 94, 3), (202, 1, 11, 0)),
  (73, (.ireturn, 1), (0, 0, 0, 0))]
noncomputable def tb_281 : List TE := [ -- X12_part
  (0, (.aload_n 0, 1), (0, 0, 0, 0)),
  (1, (.invokevirtual 308, 3), (268, 0, 11, 0)),
  (4, (.ifCond .ne 10, 3), (0, 0, 0, 0)),
  (7, (.aload_n 0, 1), (0, 0, 0, 0)),
  (8, (.bipush 6, 2), (0, 0, 0, 0)),
  (10, (.invokevirtual 90, 3), (201, 1, 11, 0)),
  (13, (.ireturn, 1), (0, 0, 0, 0)),
  (14, (.aload_n 0, 1), (0, 0, 0, 0)),
  (15, (.invokevirtual 332, 3), (278, 0, 11, 0)),
  (18, (.aload_n 0, 1), (0, 0, 0, 0)),
  (19, (.aload_n 0, 1), (0, 0, 0, 0)),
  (20, (.getfield 7, 3), (11, 0, 2, 0)),
  (23, (.bipush 10, 2), (0, 0, 0, 0)),
  (25, (.iaload, 1), (0, 0, 0, 0)),
  (26, (.invokevirtual 94, 3), (202, 1, 11, 0)),
  (29, (.ireturn, 1), (0, 0, 0, 0))]
noncomputable def tb_282 : List TE := [ -- X12_acts
  (0, (.aload_n 0, 1), (0, 0, 0, 0)),
  (1, (.invokevirtual 308, 3), (268, 0, 11, 0)),
  (4, (.ifCond .ne 10, 3), (0, 0, 0, 0)),
  (7, (.aload_n 0, 1), (0, 0, 0, 0)),
  (8, (.bipush 6, 2), (0, 0, 0, 0)),
  (10, (.invokevirtual 90, 3), (201, 1, 11, 0)),
  (13, (.ireturn, 1), (0, 0, 0, 0)),
  (14, (.iconst 0, 1), (0, 0, 0, 0)),
  (15, (.istore_n 1, 1), (0, 0, 0, 0)),
  (16, (.iconst 0, 1), (0, 0, 0, 0)),
  (17, (.istore_n 2, 1), (0, 0, 0, 0)),
  (18, (.iload_n 2, 1), (0, 0, 0, 0)),
  (19, (.iconst 4, 1), (0, 0, 0, 0)),
  (20, (.if_icmp .ge 27, 3), (0, 0, 0, 0)),
  (23, (.iload_n 1, 1), (0, 0, 0, 0)),
  (24, (.aload_n 0, 1), (0, 0, 0, 0)),
  (25, (.iload_n 2, 1), (0, 0, 0, 0)),
  (26, (.invokevirtual 335, 3), (275, 1, 11, 0)),
  (29, (.ifCond .eq 9, 3), (0, 0, 0, 0)),
  (32, (.iconst 1, 1), (0, 0, 0, 0)),
  (33, (.iload_n 2, 1), (0, 0, 0, 0)),
  (34, (.ishl, 1), (0, 0, 0, 0)),
  (35, (.goto 4, 3), (0, 0, 0, 0)),
  (38, (.iconst 0, 1), (0, 0, 0, 0)),
  (39, (.ior, 1), (0, 0, 0, 0)),
  (40, (.istore_n 1, 1), (0, 0, 0, 0)),
  (41, (.iinc 2 1, 3), (0, 0, 0, 0)),
  (44, (.goto (-26), 3), (0, 0, 0, 0)),
  (47, (.aload_n 0, 1), (0, 0, 0, 0)),
  (48, (.iload_n 1, 1), (0, 0, 0, 0)),
  (49, (.invokevirtual 94, 3), (202, 1, 11, 0)),
  (52, (.ireturn, 1), (0, 0, 0, 0))]
noncomputable def tb_283 : List TE := [ -- X12_wound
  (0, (.aload_n 0, 1), (0, 0, 0, 0)),
  (1, (.invokevirtual 308, 3), (268, 0, 11, 0)),
  (4, (.ifCond .ne 10, 3), (0, 0, 0, 0)),
  (7, (.aload_n 0, 1), (0, 0, 0, 0)),
  (8, (.bipush 6, 2), (0, 0, 0, 0)),
  (10, (.invokevirtual 90, 3), (201, 1, 11, 0)),
  (13, (.ireturn, 1), (0, 0, 0, 0)),
  (14, (.aload_n 0, 1), (0, 0, 0, 0)),
  (15, (.aload_n 0, 1), (0, 0, 0, 0)),
  (16, (.invokevirtual 326, 3), (276, 0, 11, 0)),
  (19, (.invokevirtual 94, 3), (202, 1, 11, 0)),
  (22, (.ireturn, 1), (0, 0, 0, 0))]
noncomputable def tb_284 : List TE := [ -- X12_give
  (0, (.aload_n 0, 1), (0, 0, 0, 0)),
  (1, (.iload_n 1, 1), (0, 0, 0, 0)),
  (2, (.invokevirtual 259, 3), (247, 1, 11, 0)),
  (5, (.ifCond .eq 17, 3), (0, 0, 0, 0)),
  (8, (.iload_n 2, 1), (0, 0, 0, 0)),
  (9, (.bipush 8, 2), (0, 0, 0, 0)),
  (11, (.if_icmp .eq 17, 3), (0, 0, 0, 0)),
  (14, (.aload_n 0, 1), (0, 0, 0, 0)),
  (15, (.iload_n 2, 1), (0, 0, 0, 0)),
  (16, (.invokevirtual 290, 3), (246, 1, 11, 0)),
  (19, (.ifCond .ne 9, 3), (0, 0, 0, 0)),
  (22, (.aload_n 0, 1), (0, 0, 0, 0)),
  (23, (.iconst 1, 1), (0, 0, 0, 0)),
  (24, (.invokevirtual 97, 3), (200, 1, 11, 0)),
  (27, (.ireturn, 1), (0, 0, 0, 0)),
  (28, (.iload_n 1, 1), (0, 0, 0, 0)),
  (29, (.invokestatic 206, 3), (232, 1, 0, 0)),
  (32, (.iconst 3, 1), (0, 0, 0, 0)),
  (33, (.iadd, 1), (0, 0, 0, 0)),
  (34, (.istore_n 3, 1), (0, 0, 0, 0)),
  (35, (.iload_n 2, 1), (0, 0, 0, 0)),
  (36, (.bipush 8, 2), (0, 0, 0, 0)),
  (38, (.if_icmp .ne 16, 3), (0, 0, 0, 0)),
  (41, (.aload_n 0, 1), (0, 0, 0, 0)),
  (42, (.getfield 7, 3), (11, 0, 2, 0)),
  (45, (.iload_n 3, 1), (0, 0, 0, 0)),
  (46, (.iaload, 1), (0, 0, 0, 0)),
  (47, (.iconst (-1), 1), (0, 0, 0, 0)),
  (48, (.if_icmp .ne 22, 3), (0, 0, 0, 0)),
  (51, (.goto 12, 3), (0, 0, 0, 0)),
  (54, (.aload_n 0, 1), (0, 0, 0, 0)),
  (55, (.iload_n 2, 1), (0, 0, 0, 0)),
  (56, (.invokevirtual 281, 3), (257, 1, 11, 0)),
  (59, (.iconst (-1), 1), (0, 0, 0, 0)),
  (60, (.if_icmp .eq 10, 3), (0, 0, 0, 0)),
  (63, (.aload_n 0, 1), (0, 0, 0, 0)),
  (64, (.bipush 7, 2), (0, 0, 0, 0)),
  (66, (.invokevirtual 97, 3), (200, 1, 11, 0)),
  (69, (.ireturn, 1), (0, 0, 0, 0)),
  (70, (.aload_n 0, 1), (0, 0, 0, 0)),
  (71, (.getfield 7, 3), (11, 0, 2, 0)),
  (74, (.iload_n 3, 1), (0, 0, 0, 0)),
  (75, (.iload_n 2, 1), (0, 0, 0, 0)),
  (76, (.bipush 8, 2), (0, 0, 0, 0)),
  (78, (.if_icmp .ne 7, 3), (0, 0, 0, 0)),
  (81, (.iconst (-1), 1), (0, 0, 0, 0)),
  (82, (.goto 4, 3), (0, 0, 0, 0)),
  (85, (.iload_n 2, 1), (0, 0, 0, 0)),
  (86, (.iastore, 1), (0, 0, 0, 0)),
  (87, (.aload_n 0, 1), (0, 0, 0, 0)),
  (88, (.iconst 0, 1), (0, 0, 0, 0)),
  (89, (.invokevirtual 97, 3), (200, 1, 11, 0)),
  (92, (.ireturn, 1), (0, 0, 0, 0))]
noncomputable def tb_285 : List TE := [ -- X12_mend
  (0, (.aload_n 0, 1), (0, 0, 0, 0)),
  (1, (.iload_n 1, 1), (0, 0, 0, 0)),
  (2, (.invokevirtual 290, 3), (246, 1, 11, 0)),
  (5, (.ifCond .ne 9, 3), (0, 0, 0, 0)),
  (8, (.aload_n 0, 1), (0, 0, 0, 0)),
  (9, (.iconst 1, 1), (0, 0, 0, 0)),
  (10, (.invokevirtual 90, 3), (201, 1, 11, 0)),
  (13, (.ireturn, 1), (0, 0, 0, 0)),
  (14, (.aload_n 0, 1), (0, 0, 0, 0)),
  (15, (.iload_n 1, 1), (0, 0, 0, 0)),
  (16, (.iconst 3, 1), (0, 0, 0, 0)),
  (17, (.invokevirtual 266, 3), (251, 2, 11, 0)),
  (20, (.istore_n 2, 1), (0, 0, 0, 0)),
  (21, (.iload_n 2, 1), (0, 0, 0, 0)),
  (22, (.ifCond .ne 10, 3), (0, 0, 0, 0)),
  (25, (.aload_n 0, 1), (0, 0, 0, 0)),
  (26, (.bipush 7, 2), (0, 0, 0, 0)),
  (28, (.invokevirtual 90, 3), (201, 1, 11, 0)),
  (31, (.ireturn, 1), (0, 0, 0, 0)),
  (32, (.aload_n 0, 1), (0, 0, 0, 0)),
  (33, (.getfield 7, 3), (11, 0, 2, 0)),
  (36, (.iload_n 1, 1), (0, 0, 0, 0)),
  (37, (.invokestatic 192, 3), (231, 1, 0, 0)),
  (40, (.iconst 3, 1), (0, 0, 0, 0)),
  (41, (.iadd, 1), (0, 0, 0, 0)),
  (42, (.iconst 0, 1), (0, 0, 0, 0)),
  (43, (.iastore, 1), (0, 0, 0, 0)),
  (44, (.aload_n 0, 1), (0, 0, 0, 0)),
  (45, (.iload_n 2, 1), (0, 0, 0, 0)),
  (46, (.invokevirtual 94, 3), (202, 1, 11, 0)),
  (49, (.ireturn, 1), (0, 0, 0, 0))]
noncomputable def tb_286 : List TE := [ -- X12_heals
  (0, (.iload_n 1, 1), (0, 0, 0, 0)),
  (1, (.invokestatic 206, 3), (232, 1, 0, 0)),
  (4, (.iconst 1, 1), (0, 0, 0, 0)),
  (5, (.iadd, 1), (0, 0, 0, 0)),
  (6, (.istore_n 3, 1), (0, 0, 0, 0)),
  (7, (.aload_n 0, 1), (0, 0, 0, 0)),
  (8, (.getfield 7, 3), (11, 0, 2, 0)),
  (11, (.iload_n 3, 1), (0, 0, 0, 0)),
  (12, (.iaload, 1), (0, 0, 0, 0)),
  (13, (.aload_n 0, 1), (0, 0, 0, 0)),
  (14, (.iload_n 1, 1), (0, 0, 0, 0)),
  (15, (.iconst 2, 1), (0, 0, 0, 0)),
  (16, (.invokevirtual 269, 3), (252, 2, 11, 0)),
  (19, (.if_icmp .ne 5, 3), (0, 0, 0, 0)),
  (22, (.iconst 0, 1), (0, 0, 0, 0)),
  (23, (.ireturn, 1), (0, 0, 0, 0)),
  (24, (.aload_n 0, 1), (0, 0, 0, 0)),
  (25, (.getfield 7, 3), (11, 0, 2, 0)),
  (28, (.iload_n 3, 1), (0, 0, 0, 0)),
  (29, (.aload_n 0, 1), (0, 0, 0, 0)),
  (30, (.iload_n 1, 1), (0, 0, 0, 0)),
  (31, (.iconst 2, 1), (0, 0, 0, 0)),
  (32, (.invokevirtual 269, 3), (252, 2, 11, 0)),
  (35, (.aload_n 0, 1), (0, 0, 0, 0)),
  (36, (.getfield 7, 3), (11, 0, 2, 0)),
  (39, (.iload_n 3, 1), (0, 0, 0, 0)),
  (40, (.iaload, 1), (0, 0, 0, 0)),
  (41, (.iload_n 2, 1), (0, 0, 0, 0)),
  (42, (.iadd, 1), (0, 0, 0, 0)),
  (43, (.invokestatic 145, 3), (342, 2, 0, 0)),
  (46, (.iastore, 1), (0, 0, 0, 0)),
  (47, (.iconst 1, 1), (0, 0, 0, 0)),
  (48, (.ireturn, 1), (0, 0, 0, 0))]
noncomputable def tb_287 : List TE := [ -- X12_heal
  (0, (.aload_n 0, 1), (0, 0, 0, 0)),
  (1, (.iload_n 1, 1), (0, 0, 0, 0)),
  (2, (.invokevirtual 259, 3), (247, 1, 11, 0)),
  (5, (.ifCond .eq 15, 3), (0, 0, 0, 0)),
  (8, (.iload_n 2, 1), (0, 0, 0, 0)),
  (9, (.i2l, 1), (0, 0, 0, 0)),
  (10, (.lconst 1, 1), (0, 0, 0, 0)),
  (11, (.ldc2_w 341, 3), (0, 0, 0, 60)),
  (14, (.invokestatic 262, 3), (212, 3, 0, 0)),
  (17, (.ifCond .ne 9, 3), (0, 0, 0, 0)),
  (20, (.aload_n 0, 1), (0, 0, 0, 0)),
  (21, (.iconst 1, 1), (0, 0, 0, 0)),
  (22, (.invokevirtual 90, 3), (201, 1, 11, 0)),
  (25, (.ireturn, 1), (0, 0, 0, 0)),
  (26, (.aload_n 0, 1), (0, 0, 0, 0)),
  (27, (.iload_n 1, 1), (0, 0, 0, 0)),
  (28, (.iload_n 2, 1), (0, 0, 0, 0)),
  (29, (.invokevirtual 343, 3), (286, 2, 11, 0)),
  (32, (.ifCond .eq 16, 3), (0, 0, 0, 0)),
  (35, (.aload_n 0, 1), (0, 0, 0, 0)),
  (36, (.aload_n 0, 1), (0, 0, 0, 0)),
  (37, (.iload_n 1, 1), (0, 0, 0, 0)),
  (38, (.iconst 1, 1), (0, 0, 0, 0)),
  (39, (.invokevirtual 269, 3), (252, 2, 11, 0)),
  (42, (.invokevirtual 94, 3), (202, 1, 11, 0)),
  (45, (.goto 9, 3), (0, 0, 0, 0)),
  (48, (.aload_n 0, 1), (0, 0, 0, 0)),
  (49, (.bipush 7, 2), (0, 0, 0, 0)),
  (51, (.invokevirtual 90, 3), (201, 1, 11, 0)),
  (54, (.ireturn, 1), (0, 0, 0, 0))]
noncomputable def tb_288 : List TE := [ -- X12_train
  (0, (.aload_n 0, 1), (0, 0, 0, 0)),
  (1, (.iload_n 1, 1), (0, 0, 0, 0)),
  (2, (.invokevirtual 259, 3), (247, 1, 11, 0)),
  (5, (.ifCond .eq 15, 3), (0, 0, 0, 0)),
  (8, (.iload_n 2, 1), (0, 0, 0, 0)),
  (9, (.i2l, 1), (0, 0, 0, 0)),
  (10, (.lconst 0, 1), (0, 0, 0, 0)),
  (11, (.ldc2_w 346, 3), (0, 0, 0, 9)),
  (14, (.invokestatic 262, 3), (212, 3, 0, 0)),
  (17, (.ifCond .ne 9, 3), (0, 0, 0, 0)),
  (20, (.aload_n 0, 1), (0, 0, 0, 0)),
  (21, (.iconst 1, 1), (0, 0, 0, 0)),
  (22, (.invokevirtual 97, 3), (200, 1, 11, 0)),
  (25, (.ireturn, 1), (0, 0, 0, 0)),
  (26, (.aload_n 0, 1), (0, 0, 0, 0)),
  (27, (.getfield 7, 3), (11, 0, 2, 0)),
  (30, (.iload_n 1, 1), (0, 0, 0, 0)),
  (31, (.invokestatic 206, 3), (232, 1, 0, 0)),
  (34, (.iload_n 2, 1), (0, 0, 0, 0)),
  (35, (.iastore, 1), (0, 0, 0, 0)),
  (36, (.aload_n 0, 1), (0, 0, 0, 0)),
  (37, (.iconst 0, 1), (0, 0, 0, 0)),
  (38, (.invokevirtual 97, 3), (200, 1, 11, 0)),
  (41, (.ireturn, 1), (0, 0, 0, 0))]
noncomputable def tb_289 : List TE := [ -- X12_forge
  (0, (.iload_n 1, 1), (0, 0, 0, 0)),
  (1, (.i2l, 1), (0, 0, 0, 0)),
  (2, (.lconst 1, 1), (0, 0, 0, 0)),
  (3, (.ldc2_w 348, 3), (0, 0, 0, 6)),
  (6, (.invokestatic 262, 3), (212, 3, 0, 0)),
  (9, (.ifCond .eq 27, 3), (0, 0, 0, 0)),
  (12, (.iload_n 2, 1), (0, 0, 0, 0)),
  (13, (.i2l, 1), (0, 0, 0, 0)),
  (14, (.lconst 0, 1), (0, 0, 0, 0)),
  (15, (.ldc2_w 346, 3), (0, 0, 0, 9)),
  (18, (.invokestatic 262, 3), (212, 3, 0, 0)),
  (21, (.ifCond .eq 15, 3), (0, 0, 0, 0)),
  (24, (.iload_n 3, 1), (0, 0, 0, 0)),
  (25, (.i2l, 1), (0, 0, 0, 0)),
  (26, (.lconst 1, 1), (0, 0, 0, 0)),
  (27, (.ldc2_w 350, 3), (0, 0, 0, 30)),
  (30, (.invokestatic 262, 3), (212, 3, 0, 0)),
  (33, (.ifCond .ne 9, 3), (0, 0, 0, 0)),
  (36, (.aload_n 0, 1), (0, 0, 0, 0)),
  (37, (.iconst 1, 1), (0, 0, 0, 0)),
  (38, (.invokevirtual 90, 3), (201, 1, 11, 0)),
  (41, (.ireturn, 1), (0, 0, 0, 0)),
  (42, (.aload_n 0, 1), (0, 0, 0, 0)),
  (43, (.getfield 7, 3), (11, 0, 2, 0)),
  (46, (.iconst 0, 1), (0, 0, 0, 0)),
  (47, (.iaload, 1), (0, 0, 0, 0)),
  (48, (.istore 4, 2), (0, 0, 0, 0)),
  (50, (.iload 4, 2), (0, 0, 0, 0)),
  (52, (.bipush 8, 2), (0, 0, 0, 0)),
  (54, (.if_icmp .ne 9, 3), (0, 0, 0, 0)),
  (57, (.aload_n 0, 1), (0, 0, 0, 0)),
  (58, (.iconst 4, 1), (0, 0, 0, 0)),
  (59, (.invokevirtual 90, 3), (201, 1, 11, 0)),
  (62, (.ireturn, 1), (0, 0, 0, 0)),
  (63, (.aload_n 0, 1), (0, 0, 0, 0)),
  (64, (.getfield 7, 3), (11, 0, 2, 0)),
  (67, (.iconst 0, 1), (0, 0, 0, 0)),
  (68, (.dup2, 1), (0, 0, 0, 0)),
  (69, (.iaload, 1), (0, 0, 0, 0)),
  (70, (.iconst 1, 1), (0, 0, 0, 0)),
  (71, (.iadd, 1), (0, 0, 0, 0)),
  (72, (.iastore, 1), (0, 0, 0, 0)),
  (73, (.aload_n 0, 1), (0, 0, 0, 0)),
  (74, (.getfield 7, 3), (11, 0, 2, 0)),
  (77, (.iload 4, 2), (0, 0, 0, 0)),
  (79, (.invokestatic 192, 3), (231, 1, 0, 0)),
  (82, (.iload_n 1, 1), (0, 0, 0, 0)),
  (83, (.iastore, 1), (0, 0, 0, 0)),
  (84, (.aload_n 0, 1), (0, 0, 0, 0)),
  (85, (.getfield 7, 3), (11, 0, 2, 0)),
  (88, (.iload 4, 2), (0, 0, 0, 0)),
  (90, (.invokestatic 192, 3), (231, 1, 0, 0)),
  (93, (.iconst 1, 1), (0, 0, 0, 0)),
  (94, (.iadd, 1), (0, 0, 0, 0)),
  (95, (.iload_n 2, 1), (0, 0, 0, 0)),
  (96, (.iastore, 1), (0, 0, 0, 0)),
  (97, (.aload_n 0, 1), (0, 0, 0, 0)),
  (98, (.getfield 7, 3), (11, 0, 2, 0)),
  (101, (.iload 4, 2), (0, 0, 0, 0)),
  (103, (.invokestatic 192, 3), (231, 1, 0, 0)),
  (106, (.iconst 2, 1), (0, 0, 0, 0)),
  (107, (.iadd, 1), (0, 0, 0, 0)),
  (108, (.iload_n 3, 1), (0, 0, 0, 0)),
  (109, (.iastore, 1), (0, 0, 0, 0)),
  (110, (.aload_n 0, 1), (0, 0, 0, 0)),
  (111, (.getfield 7, 3), (11, 0, 2, 0)),
  (114, (.iload 4, 2), (0, 0, 0, 0)),
  (116, (.invokestatic 192, 3), (231, 1, 0, 0)),
  (119, (.iconst 3, 1), (0, 0, 0, 0)),
  (120, (.iadd, 1), (0, 0, 0, 0)),
  (121, (.iconst 0, 1), (0, 0, 0, 0)),
  (122, (.iastore, 1), (0, 0, 0, 0)),
  (123, (.aload_n 0, 1), (0, 0, 0, 0)),
  (124, (.getfield 13, 3), (11, 1, 2, 0)),
  (127, (.iload 4, 2), (0, 0, 0, 0)),
  (129, (.lconst 0, 1), (0, 0, 0, 0)),
  (130, (.lastore, 1), (0, 0, 0, 0)),
  (131, (.aload_n 0, 1), (0, 0, 0, 0)),
  (132, (.iload 4, 2), (0, 0, 0, 0)),
  (134, (.invokevirtual 94, 3), (202, 1, 11, 0)),
  (137, (.ireturn, 1), (0, 0, 0, 0))]
noncomputable def tb_290 : List TE := [ -- X12_rule
  (0, (.iload_n 1, 1), (0, 0, 0, 0)),
  (1, (.iconst 3, 1), (0, 0, 0, 0)),
  (2, (.if_icmp .lt 42, 3), (0, 0, 0, 0)),
  (5, (.iload_n 1, 1), (0, 0, 0, 0)),
  (6, (.iconst 5, 1), (0, 0, 0, 0)),
  (7, (.if_icmp .gt 37, 3), (0, 0, 0, 0)),
  (10, (.iload_n 2, 1), (0, 0, 0, 0)),
  (11, (.i2l, 1), (0, 0, 0, 0)),
  (12, (.lconst 0, 1), (0, 0, 0, 0)),
  (13, (.iload_n 1, 1), (0, 0, 0, 0)),
  (14, (.iconst 3, 1), (0, 0, 0, 0)),
  (15, (.if_icmp .ne 9, 3), (0, 0, 0, 0)),
  (18, (.ldc2_w 352, 3), (0, 0, 0, 99)),
  (21, (.goto 17, 3), (0, 0, 0, 0)),
  (24, (.iload_n 1, 1), (0, 0, 0, 0)),
  (25, (.iconst 4, 1), (0, 0, 0, 0)),
  (26, (.if_icmp .ne 9, 3), (0, 0, 0, 0)),
  (29, (.ldc2_w 346, 3), (0, 0, 0, 9)),
  (32, (.goto 6, 3), (0, 0, 0, 0)),
  (35, (.ldc2_w 354, 3), (0, 0, 0, 16)),
  (38, (.invokestatic 262, 3), (212, 3, 0, 0)),
  (41, (.ifCond .ne 9, 3), (0, 0, 0, 0)),
  (44, (.aload_n 0, 1), (0, 0, 0, 0)),
  (45, (.iconst 1, 1), (0, 0, 0, 0)),
  (46, (.invokevirtual 97, 3), (200, 1, 11, 0)),
  (49, (.ireturn, 1), (0, 0, 0, 0)),
  (50, (.aload_n 0, 1), (0, 0, 0, 0)),
  (51, (.getfield 7, 3), (11, 0, 2, 0)),
  (54, (.iload_n 1, 1), (0, 0, 0, 0)),
  (55, (.iload_n 2, 1), (0, 0, 0, 0)),
  (56, (.iastore, 1), (0, 0, 0, 0)),
  (57, (.aload_n 0, 1), (0, 0, 0, 0)),
  (58, (.iconst 0, 1), (0, 0, 0, 0)),
  (59, (.invokevirtual 97, 3), (200, 1, 11, 0)),
  (62, (.ireturn, 1), (0, 0, 0, 0))]
noncomputable def tb_291 : List TE := [ -- X12_keeps
  (0, (.iconst 0, 1), (0, 0, 0, 0)),
  (1, (.istore_n 2, 1), (0, 0, 0, 0)),
  (2, (.iload_n 2, 1), (0, 0, 0, 0)),
  (3, (.bipush 104, 2), (0, 0, 0, 0)),
  (5, (.if_icmp .ge 23, 3), (0, 0, 0, 0)),
  (8, (.aload_n 0, 1), (0, 0, 0, 0)),
  (9, (.getfield 7, 3), (11, 0, 2, 0)),
  (12, (.iload_n 1, 1), (0, 0, 0, 0)),
  (13, (.iload_n 2, 1), (0, 0, 0, 0)),
  (14, (.iadd, 1), (0, 0, 0, 0)),
  (15, (.aload_n 0, 1), (0, 0, 0, 0)),
  (16, (.getfield 7, 3), (11, 0, 2, 0)),
  (19, (.iload_n 2, 1), (0, 0, 0, 0)),
  (20, (.iaload, 1), (0, 0, 0, 0)),
  (21, (.iastore, 1), (0, 0, 0, 0)),
  (22, (.iinc 2 1, 3), (0, 0, 0, 0)),
  (25, (.goto (-23), 3), (0, 0, 0, 0)),
  (28, (.return_, 1), (0, 0, 0, 0))]
noncomputable def tb_292 : List TE := [ -- X12_restores
  (0, (.iconst 0, 1), (0, 0, 0, 0)),
  (1, (.istore_n 2, 1), (0, 0, 0, 0)),
  (2, (.iload_n 2, 1), (0, 0, 0, 0)),
  (3, (.bipush 104, 2), (0, 0, 0, 0)),
  (5, (.if_icmp .ge 23, 3), (0, 0, 0, 0)),
  (8, (.aload_n 0, 1), (0, 0, 0, 0)),
  (9, (.getfield 7, 3), (11, 0, 2, 0)),
  (12, (.iload_n 2, 1), (0, 0, 0, 0)),
  (13, (.aload_n 0, 1), (0, 0, 0, 0)),
  (14, (.getfield 7, 3), (11, 0, 2, 0)),
  (17, (.iload_n 1, 1), (0, 0, 0, 0)),
  (18, (.iload_n 2, 1), (0, 0, 0, 0)),
  (19, (.iadd, 1), (0, 0, 0, 0)),
  (20, (.iaload, 1), (0, 0, 0, 0)),
  (21, (.iastore, 1), (0, 0, 0, 0)),
  (22, (.iinc 2 1, 3), (0, 0, 0, 0)),
  (25, (.goto (-23), 3), (0, 0, 0, 0)),
  (28, (.return_, 1), (0, 0, 0, 0))]
noncomputable def tb_293 : List TE := [ -- X12_levelAt
  (0, (.sipush 2832, 3), (0, 0, 0, 0)),
  (3, (.bipush 104, 2), (0, 0, 0, 0)),
  (5, (.iload_n 0, 1), (0, 0, 0, 0)),
  (6, (.imul, 1), (0, 0, 0, 0)),
  (7, (.iadd, 1), (0, 0, 0, 0)),
  (8, (.ireturn, 1), (0, 0, 0, 0))]
noncomputable def tb_294 : List TE := [ -- X12_settles
  (0, (.aload_n 0, 1), (0, 0, 0, 0)),
  (1, (.getfield 53, 3), (11, 26, 2, 0)),
  (4, (.iload_n 1, 1), (0, 0, 0, 0)),
  (5, (.iaload, 1), (0, 0, 0, 0)),
  (6, (.iconst (-1), 1), (0, 0, 0, 0)),
  (7, (.if_icmp .eq 31, 3), (0, 0, 0, 0)),
  (10, (.iload_n 3, 1), (0, 0, 0, 0)),
  (11, (.ifCond .eq 16, 3), (0, 0, 0, 0)),
  (14, (.iload_n 2, 1), (0, 0, 0, 0)),
  (15, (.aload_n 0, 1), (0, 0, 0, 0)),
  (16, (.getfield 50, 3), (11, 25, 2, 0)),
  (19, (.iload_n 1, 1), (0, 0, 0, 0)),
  (20, (.iaload, 1), (0, 0, 0, 0)),
  (21, (.if_icmp .gt 17, 3), (0, 0, 0, 0)),
  (24, (.goto 13, 3), (0, 0, 0, 0)),
  (27, (.iload_n 2, 1), (0, 0, 0, 0)),
  (28, (.aload_n 0, 1), (0, 0, 0, 0)),
  (29, (.getfield 50, 3), (11, 25, 2, 0)),
  (32, (.iload_n 1, 1), (0, 0, 0, 0)),
  (33, (.iaload, 1), (0, 0, 0, 0)),
  (34, (.if_icmp .lt 4, 3), (0, 0, 0, 0)),
  (37, (.return_, 1), (0, 0, 0, 0)),
  (38, (.aload_n 0, 1), (0, 0, 0, 0)),
  (39, (.getfield 50, 3), (11, 25, 2, 0)),
  (42, (.iload_n 1, 1), (0, 0, 0, 0)),
  (43, (.iload_n 2, 1), (0, 0, 0, 0)),
  (44, (.iastore, 1), (0, 0, 0, 0)),
  (45, (.aload_n 0, 1), (0, 0, 0, 0)),
  (46, (.getfield 53, 3), (11, 26, 2, 0)),
  (49, (.iload_n 1, 1), (0, 0, 0, 0)),
  (50, (.aload_n 0, 1), (0, 0, 0, 0)),
  (51, (.getfield 47, 3), (11, 24, 2, 0)),
  (54, (.iload_n 1, 1), (0, 0, 0, 0)),
  (55, (.iaload, 1), (0, 0, 0, 0)),
  (56, (.iastore, 1), (0, 0, 0, 0)),
  (57, (.return_, 1), (0, 0, 0, 0))]
noncomputable def tb_295 : List TE := [ -- X12_plays
  (0, (.aload_n 0, 1), (0, 0, 0, 0)),
  (1, (.getfield 7, 3), (11, 0, 2, 0)),
  (4, (.bipush 6, 2), (0, 0, 0, 0)),
  (6, (.iaload, 1), (0, 0, 0, 0)),
  (7, (.istore_n 3, 1), (0, 0, 0, 0)),
  (8, (.aload_n 0, 1), (0, 0, 0, 0)),
  (9, (.getfield 7, 3), (11, 0, 2, 0)),
  (12, (.bipush 7, 2), (0, 0, 0, 0)),
  (14, (.iaload, 1), (0, 0, 0, 0)),
  (15, (.istore 4, 2), (0, 0, 0, 0)),
  (17, (.aload_n 0, 1), (0, 0, 0, 0)),
  (18, (.getfield 7, 3), (11, 0, 2, 0)),
  (21, (.bipush 7, 2), (0, 0, 0, 0)),
  (23, (.aload_n 0, 1), (0, 0, 0, 0)),
  (24, (.invokevirtual 311, 3), (270, 0, 11, 0)),
  (27, (.isub, 1), (0, 0, 0, 0)),
  (28, (.iaload, 1), (0, 0, 0, 0)),
  (29, (.istore 5, 2), (0, 0, 0, 0)),
  (31, (.iload_n 2, 1), (0, 0, 0, 0)),
  (32, (.ifCond .ne 10, 3), (0, 0, 0, 0)),
  (35, (.aload_n 0, 1), (0, 0, 0, 0)),
  (36, (.invokevirtual 311, 3), (270, 0, 11, 0)),
  (39, (.ifCond .ne 7, 3), (0, 0, 0, 0)),
  (42, (.iconst 0, 1), (0, 0, 0, 0)),
  (43, (.goto 4, 3), (0, 0, 0, 0)),
  (46, (.iconst 1, 1), (0, 0, 0, 0)),
  (47, (.istore 6, 2), (0, 0, 0, 0)),
  (49, (.iconst 0, 1), (0, 0, 0, 0)),
  (50, (.istore 7, 2), (0, 0, 0, 0)),
  (52, (.aload_n 0, 1), (0, 0, 0, 0)),
  (53, (.iconst 0, 1), (0, 0, 0, 0)),
  (54, (.invokestatic 356, 3), (293, 1, 0, 0)),
  (57, (.invokevirtual 359, 3), (291, 1, 11, 0)),
  (60, (.aload_n 0, 1), (0, 0, 0, 0)),
  (61, (.getfield 47, 3), (11, 24, 2, 0)),
  (64, (.iconst 0, 1), (0, 0, 0, 0)),
  (65, (.iconst (-1), 1), (0, 0, 0, 0)),
  (66, (.iastore, 1), (0, 0, 0, 0)),
  (67, (.aload_n 0, 1), (0, 0, 0, 0)),
  (68, (.getfield 53, 3), (11, 26, 2, 0)),
  (71, (.iconst 0, 1), (0, 0, 0, 0)),
  (72, (.iconst (-1), 1), (0, 0, 0, 0)),
  (73, (.iastore, 1), (0, 0, 0, 0)),
  (74, (.iload_n 1, 1), (0, 0, 0, 0)),
  (75, (.ifCond .ne 26, 3), (0, 0, 0, 0)),
  (78, (.iload_n 2, 1), (0, 0, 0, 0)),
  (79, (.ifCond .eq 7, 3), (0, 0, 0, 0)),
  (82, (.iconst 0, 1), (0, 0, 0, 0)),
  (83, (.goto 17, 3), (0, 0, 0, 0)),
  (86, (.aload_n 0, 1), (0, 0, 0, 0)),
  (87, (.iload_n 3, 1), (0, 0, 0, 0)),
  (88, (.iconst 1, 1), (0, 0, 0, 0)),
  (89, (.invokevirtual 269, 3), (252, 2, 11, 0)),
  (92, (.aload_n 0, 1), (0, 0, 0, 0)),
  (93, (.iload 4, 2), (0, 0, 0, 0)),
  (95, (.iconst 1, 1), (0, 0, 0, 0)),
  (96, (.invokevirtual 269, 3), (252, 2, 11, 0)),
  (99, (.isub, 1), (0, 0, 0, 0)),
  (100, (.ireturn, 1), (0, 0, 0, 0)),
  (101, (.aload_n 0, 1), (0, 0, 0, 0)),
  (102, (.iload 7, 2), (0, 0, 0, 0)),
  (104, (.invokestatic 356, 3), (293, 1, 0, 0)),
  (107, (.invokevirtual 362, 3), (292, 1, 11, 0)),
  (110, (.aload_n 0, 1), (0, 0, 0, 0)),
  (111, (.getfield 47, 3), (11, 24, 2, 0)),
  (114, (.iload 7, 2), (0, 0, 0, 0)),
  (116, (.dup2, 1), (0, 0, 0, 0)),
  (117, (.iaload, 1), (0, 0, 0, 0)),
  (118, (.iconst 1, 1), (0, 0, 0, 0)),
  (119, (.iadd, 1), (0, 0, 0, 0)),
  (120, (.iastore, 1), (0, 0, 0, 0)),
  (121, (.aload_n 0, 1), (0, 0, 0, 0)),
  (122, (.getfield 47, 3), (11, 24, 2, 0)),
  (125, (.iload 7, 2), (0, 0, 0, 0)),
  (127, (.iaload, 1), (0, 0, 0, 0)),
  (128, (.iconst 4, 1), (0, 0, 0, 0)),
  (129, (.if_icmp .ne 47, 3), (0, 0, 0, 0)),
  (132, (.iload 7, 2), (0, 0, 0, 0)),
  (134, (.ifCond .ne 6, 3), (0, 0, 0, 0)),
  (137, (.goto 178, 3), (0, 0, 0, 0)),
  (140, (.iinc 7 (-1), 3), (0, 0, 0, 0)),
  (143, (.aload_n 0, 1), (0, 0, 0, 0)),
  (144, (.iload 7, 2), (0, 0, 0, 0)),
  (146, (.aload_n 0, 1), (0, 0, 0, 0)),
  (147, (.getfield 50, 3), (11, 25, 2, 0)),
  (150, (.iload 7, 2), (0, 0, 0, 0)),
  (152, (.iconst 1, 1), (0, 0, 0, 0)),
  (153, (.iadd, 1), (0, 0, 0, 0)),
  (154, (.iaload, 1), (0, 0, 0, 0)),
  (155, (.iload 7, 2), (0, 0, 0, 0)),
  (157, (.iload 6, 2), (0, 0, 0, 0)),
  (159, (.iadd, 1), (0, 0, 0, 0)),
  (160, (.iconst 2, 1), (0, 0, 0, 0)),
  (161, (.irem, 1), (0, 0, 0, 0)),
  (162, (.ifCond .ne 7, 3), (0, 0, 0, 0)),
  (165, (.iconst 1, 1), (0, 0, 0, 0)),
  (166, (.goto 4, 3), (0, 0, 0, 0)),
  (169, (.iconst 0, 1), (0, 0, 0, 0)),
  (170, (.invokevirtual 365, 3), (294, 3, 11, 0)),
  (173, (.goto (-72), 3), (0, 0, 0, 0)),
  (176, (.aload_n 0, 1), (0, 0, 0, 0)),
  (177, (.aload_n 0, 1), (0, 0, 0, 0)),
  (178, (.getfield 47, 3), (11, 24, 2, 0)),
  (181, (.iload 7, 2), (0, 0, 0, 0)),
  (183, (.iaload, 1), (0, 0, 0, 0)),
  (184, (.invokevirtual 335, 3), (275, 1, 11, 0)),
  (187, (.ifCond .ne 6, 3), (0, 0, 0, 0)),
  (190, (.goto (-89), 3), (0, 0, 0, 0)),
  (193, (.aload_n 0, 1), (0, 0, 0, 0)),
  (194, (.aload_n 0, 1), (0, 0, 0, 0)),
  (195, (.getfield 47, 3), (11, 24, 2, 0)),
  (198, (.iload 7, 2), (0, 0, 0, 0)),
  (200, (.iaload, 1), (0, 0, 0, 0)),
  (201, (.invokevirtual 338, 3), (279, 1, 11, 0)),
  (204, (.pop, 1), (0, 0, 0, 0)),
  (205, (.aload_n 0, 1), (0, 0, 0, 0)),
  (206, (.invokevirtual 308, 3), (268, 0, 11, 0)),
  (209, (.ifCond .eq 42, 3), (0, 0, 0, 0)),
  (212, (.iload 7, 2), (0, 0, 0, 0)),
  (214, (.iconst 1, 1), (0, 0, 0, 0)),
  (215, (.iadd, 1), (0, 0, 0, 0)),
  (216, (.iload_n 1, 1), (0, 0, 0, 0)),
  (217, (.if_icmp .ge 34, 3), (0, 0, 0, 0)),
  (220, (.iinc 7 1, 3), (0, 0, 0, 0)),
  (223, (.aload_n 0, 1), (0, 0, 0, 0)),
  (224, (.iload 7, 2), (0, 0, 0, 0)),
  (226, (.invokestatic 356, 3), (293, 1, 0, 0)),
  (229, (.invokevirtual 359, 3), (291, 1, 11, 0)),
  (232, (.aload_n 0, 1), (0, 0, 0, 0)),
  (233, (.getfield 47, 3), (11, 24, 2, 0)),
  (236, (.iload 7, 2), (0, 0, 0, 0)),
  (238, (.iconst (-1), 1), (0, 0, 0, 0)),
  (239, (.iastore, 1), (0, 0, 0, 0)),
  (240, (.aload_n 0, 1), (0, 0, 0, 0)),
  (241, (.getfield 53, 3), (11, 26, 2, 0)),
  (244, (.iload 7, 2), (0, 0, 0, 0)),
  (246, (.iconst (-1), 1), (0, 0, 0, 0)),
  (247, (.iastore, 1), (0, 0, 0, 0)),
  (248, (.goto (-147), 3), (0, 0, 0, 0)),
  (251, (.aload_n 0, 1), (0, 0, 0, 0)),
  (252, (.iload 5, 2), (0, 0, 0, 0)),
  (254, (.iconst 1, 1), (0, 0, 0, 0)),
  (255, (.invokevirtual 269, 3), (252, 2, 11, 0)),
  (258, (.ifCond .ne 7, 3), (0, 0, 0, 0)),
  (261, (.iconst 1, 1), (0, 0, 0, 0)),
  (262, (.goto 4, 3), (0, 0, 0, 0)),
  (265, (.iconst 0, 1), (0, 0, 0, 0)),
  (266, (.istore 8, 2), (0, 0, 0, 0)),
  (268, (.aload_n 0, 1), (0, 0, 0, 0)),
  (269, (.iload 7, 2), (0, 0, 0, 0)),
  (271, (.iload_n 2, 1), (0, 0, 0, 0)),
  (272, (.ifCond .eq 8, 3), (0, 0, 0, 0)),
  (275, (.iload 8, 2), (0, 0, 0, 0)),
  (277, (.goto 17, 3), (0, 0, 0, 0)),
  (280, (.aload_n 0, 1), (0, 0, 0, 0)),
  (281, (.iload_n 3, 1), (0, 0, 0, 0)),
  (282, (.iconst 1, 1), (0, 0, 0, 0)),
  (283, (.invokevirtual 269, 3), (252, 2, 11, 0)),
  (286, (.aload_n 0, 1), (0, 0, 0, 0)),
  (287, (.iload 4, 2), (0, 0, 0, 0)),
  (289, (.iconst 1, 1), (0, 0, 0, 0)),
  (290, (.invokevirtual 269, 3), (252, 2, 11, 0)),
  (293, (.isub, 1), (0, 0, 0, 0)),
  (294, (.iload 7, 2), (0, 0, 0, 0)),
  (296, (.iload 6, 2), (0, 0, 0, 0)),
  (298, (.iadd, 1), (0, 0, 0, 0)),
  (299, (.iconst 2, 1), (0, 0, 0, 0)),
  (300, (.irem, 1), (0, 0, 0, 0)),
  (301, (.ifCond .ne 7, 3), (0, 0, 0, 0)),
  (304, (.iconst 1, 1), (0, 0, 0, 0)),
  (305, (.goto 4, 3), (0, 0, 0, 0)),
  (308, (.iconst 0, 1), (0, 0, 0, 0)),
  (309, (.invokevirtual 365, 3), (294, 3, 11, 0)),
  (312, (.goto (-211), 3), (0, 0, 0, 0)),
  (315, (.aload_n 0, 1), (0, 0, 0, 0)),
  (316, (.iconst 0, 1), (0, 0, 0, 0)),
  (317, (.invokestatic 356, 3), (293, 1, 0, 0)),
  (320, (.invokevirtual 362, 3), (292, 1, 11, 0)),
  (323, (.aload_n 0, 1), (0, 0, 0, 0)),
  (324, (.getfield 50, 3), (11, 25, 2, 0)),
  (327, (.iconst 0, 1), (0, 0, 0, 0)),
  (328, (.iaload, 1), (0, 0, 0, 0)),
  (329, (.ireturn, 1), (0, 0, 0, 0))]
noncomputable def tb_296 : List TE := [ -- X12_value
  (0, (.iload_n 1, 1), (0, 0, 0, 0)),
  (1, (.i2l, 1), (0, 0, 0, 0)),
  (2, (.lconst 0, 1), (0, 0, 0, 0)),
  (3, (.ldc2_w 369, 3), (0, 0, 0, 7)),
  (6, (.invokestatic 262, 3), (212, 3, 0, 0)),
  (9, (.ifCond .ne 9, 3), (0, 0, 0, 0)),
  (12, (.aload_n 0, 1), (0, 0, 0, 0)),
  (13, (.iconst 1, 1), (0, 0, 0, 0)),
  (14, (.invokevirtual 90, 3), (201, 1, 11, 0)),
  (17, (.ireturn, 1), (0, 0, 0, 0)),
  (18, (.aload_n 0, 1), (0, 0, 0, 0)),
  (19, (.invokevirtual 308, 3), (268, 0, 11, 0)),
  (22, (.ifCond .eq 16, 3), (0, 0, 0, 0)),
  (25, (.aload_n 0, 1), (0, 0, 0, 0)),
  (26, (.aload_n 0, 1), (0, 0, 0, 0)),
  (27, (.iload_n 1, 1), (0, 0, 0, 0)),
  (28, (.iconst 0, 1), (0, 0, 0, 0)),
  (29, (.invokevirtual 371, 3), (295, 2, 11, 0)),
  (32, (.invokevirtual 94, 3), (202, 1, 11, 0)),
  (35, (.goto 9, 3), (0, 0, 0, 0)),
  (38, (.aload_n 0, 1), (0, 0, 0, 0)),
  (39, (.bipush 6, 2), (0, 0, 0, 0)),
  (41, (.invokevirtual 90, 3), (201, 1, 11, 0)),
  (44, (.ireturn, 1), (0, 0, 0, 0))]
noncomputable def tb_297 : List TE := [ -- X12_move
  (0, (.iload_n 1, 1), (0, 0, 0, 0)),
  (1, (.i2l, 1), (0, 0, 0, 0)),
  (2, (.lconst 1, 1), (0, 0, 0, 0)),
  (3, (.ldc2_w 369, 3), (0, 0, 0, 7)),
  (6, (.invokestatic 262, 3), (212, 3, 0, 0)),
  (9, (.ifCond .ne 9, 3), (0, 0, 0, 0)),
  (12, (.aload_n 0, 1), (0, 0, 0, 0)),
  (13, (.iconst 1, 1), (0, 0, 0, 0)),
  (14, (.invokevirtual 90, 3), (201, 1, 11, 0)),
  (17, (.ireturn, 1), (0, 0, 0, 0)),
  (18, (.aload_n 0, 1), (0, 0, 0, 0)),
  (19, (.invokevirtual 308, 3), (268, 0, 11, 0)),
  (22, (.ifCond .ne 10, 3), (0, 0, 0, 0)),
  (25, (.aload_n 0, 1), (0, 0, 0, 0)),
  (26, (.bipush 6, 2), (0, 0, 0, 0)),
  (28, (.invokevirtual 90, 3), (201, 1, 11, 0)),
  (31, (.ireturn, 1), (0, 0, 0, 0)),
  (32, (.aload_n 0, 1), (0, 0, 0, 0)),
  (33, (.iload_n 1, 1), (0, 0, 0, 0)),
  (34, (.iconst 0, 1), (0, 0, 0, 0)),
  (35, (.invokevirtual 371, 3), (295, 2, 11, 0)),
  (38, (.pop, 1), (0, 0, 0, 0)),
  (39, (.aload_n 0, 1), (0, 0, 0, 0)),
  (40, (.aload_n 0, 1), (0, 0, 0, 0)),
  (41, (.getfield 53, 3), (11, 26, 2, 0)),
  (44, (.iconst 0, 1), (0, 0, 0, 0)),
  (45, (.iaload, 1), (0, 0, 0, 0)),
  (46, (.invokevirtual 94, 3), (202, 1, 11, 0)),
  (49, (.ireturn, 1), (0, 0, 0, 0))]
noncomputable def tb_298 : List TE := [ -- X12_forced
  (0, (.iconst 1, 1), (0, 0, 0, 0)),
  (1, (.istore_n 1, 1), (0, 0, 0, 0)),
  (2, (.iload_n 1, 1), (0, 0, 0, 0)),
  (3, (.bipush 8, 2), (0, 0, 0, 0)),
  (5, (.if_icmp .gt 32, 3), (0, 0, 0, 0)),
  (8, (.aload_n 0, 1), (0, 0, 0, 0)),
  (9, (.invokevirtual 308, 3), (268, 0, 11, 0)),
  (12, (.ifCond .eq 25, 3), (0, 0, 0, 0)),
  (15, (.aload_n 0, 1), (0, 0, 0, 0)),
  (16, (.iload_n 1, 1), (0, 0, 0, 0)),
  (17, (.iconst 1, 1), (0, 0, 0, 0)),
  (18, (.invokevirtual 371, 3), (295, 2, 11, 0)),
  (21, (.iconst 1, 1), (0, 0, 0, 0)),
  (22, (.if_icmp .ne 9, 3), (0, 0, 0, 0)),
  (25, (.aload_n 0, 1), (0, 0, 0, 0)),
  (26, (.iload_n 1, 1), (0, 0, 0, 0)),
  (27, (.invokevirtual 94, 3), (202, 1, 11, 0)),
  (30, (.ireturn, 1), (0, 0, 0, 0)),
  (31, (.iinc 1 1, 3), (0, 0, 0, 0)),
  (34, (.goto (-32), 3), (0, 0, 0, 0)),
  (37, (.aload_n 0, 1), (0, 0, 0, 0)),
  (38, (.bipush 6, 2), (0, 0, 0, 0)),
  (40, (.invokevirtual 90, 3), (201, 1, 11, 0)),
  (43, (.ireturn, 1), (0, 0, 0, 0))]
noncomputable def tb_299 : List TE := [ -- X12_reached
  (0, (.aload_n 0, 1), (0, 0, 0, 0)),
  (1, (.invokevirtual 308, 3), (268, 0, 11, 0)),
  (4, (.ifCond .ne 10, 3), (0, 0, 0, 0)),
  (7, (.aload_n 0, 1), (0, 0, 0, 0)),
  (8, (.bipush 6, 2), (0, 0, 0, 0)),
  (10, (.invokevirtual 90, 3), (201, 1, 11, 0)),
  (13, (.ireturn, 1), (0, 0, 0, 0)),
  (14, (.iconst 0, 1), (0, 0, 0, 0)),
  (15, (.istore_n 1, 1), (0, 0, 0, 0)),
  (16, (.aload_n 0, 1), (0, 0, 0, 0)),
  (17, (.invokevirtual 314, 3), (269, 0, 11, 0)),
  (20, (.aload_n 0, 1), (0, 0, 0, 0)),
  (21, (.aload_n 0, 1), (0, 0, 0, 0)),
  (22, (.invokevirtual 317, 3), (271, 0, 11, 0)),
  (25, (.invokevirtual 296, 3), (255, 1, 11, 0)),
  (28, (.isub, 1), (0, 0, 0, 0)),
  (29, (.istore_n 2, 1), (0, 0, 0, 0)),
  (30, (.iload_n 2, 1), (0, 0, 0, 0)),
  (31, (.ifCond .le 12, 3), (0, 0, 0, 0)),
  (34, (.iinc 1 2, 3), (0, 0, 0, 0)),
  (37, (.iinc 2 (-2), 3), (0, 0, 0, 0)),
  (40, (.goto (-10), 3), (0, 0, 0, 0)),
  (43, (.aload_n 0, 1), (0, 0, 0, 0)),
  (44, (.iload_n 1, 1), (0, 0, 0, 0)),
  (45, (.invokevirtual 94, 3), (202, 1, 11, 0)),
  (48, (.ireturn, 1), (0, 0, 0, 0))]
noncomputable def tb_300 : List TE := [ -- X12_needsBy
  (0, (.aload_n 0, 1), (0, 0, 0, 0)),
  (1, (.iload_n 2, 1), (0, 0, 0, 0)),
  (2, (.iconst 1, 1), (0, 0, 0, 0)),
  (3, (.invokevirtual 269, 3), (252, 2, 11, 0)),
  (6, (.istore 4, 2), (0, 0, 0, 0)),
  (8, (.iload_n 3, 1), (0, 0, 0, 0)),
  (9, (.bipush 8, 2), (0, 0, 0, 0)),
  (11, (.if_icmp .ne 7, 3), (0, 0, 0, 0)),
  (14, (.iconst 0, 1), (0, 0, 0, 0)),
  (15, (.goto 9, 3), (0, 0, 0, 0)),
  (18, (.aload_n 0, 1), (0, 0, 0, 0)),
  (19, (.iload_n 3, 1), (0, 0, 0, 0)),
  (20, (.iconst 3, 1), (0, 0, 0, 0)),
  (21, (.invokevirtual 266, 3), (251, 2, 11, 0)),
  (24, (.istore 5, 2), (0, 0, 0, 0)),
  (26, (.iconst 0, 1), (0, 0, 0, 0)),
  (27, (.istore 6, 2), (0, 0, 0, 0)),
  (29, (.iload 4, 2), (0, 0, 0, 0)),
  (31, (.ifCond .le 81, 3), (0, 0, 0, 0)),
  (34, (.iload_n 3, 1), (0, 0, 0, 0)),
  (35, (.bipush 8, 2), (0, 0, 0, 0)),
  (37, (.if_icmp .eq 18, 3), (0, 0, 0, 0)),
  (40, (.iload 5, 2), (0, 0, 0, 0)),
  (42, (.aload_n 0, 1), (0, 0, 0, 0)),
  (43, (.iload_n 3, 1), (0, 0, 0, 0)),
  (44, (.iconst 2, 1), (0, 0, 0, 0)),
  (45, (.invokevirtual 266, 3), (251, 2, 11, 0)),
  (48, (.if_icmp .ge 7, 3), (0, 0, 0, 0)),
  (51, (.iconst 1, 1), (0, 0, 0, 0)),
  (52, (.goto 4, 3), (0, 0, 0, 0)),
  (55, (.iconst 0, 1), (0, 0, 0, 0)),
  (56, (.istore 7, 2), (0, 0, 0, 0)),
  (58, (.aload_n 0, 1), (0, 0, 0, 0)),
  (59, (.iload_n 1, 1), (0, 0, 0, 0)),
  (60, (.iconst 0, 1), (0, 0, 0, 0)),
  (61, (.invokevirtual 269, 3), (252, 2, 11, 0)),
  (64, (.iload 7, 2), (0, 0, 0, 0)),
  (66, (.ifCond .eq 12, 3), (0, 0, 0, 0)),
  (69, (.aload_n 0, 1), (0, 0, 0, 0)),
  (70, (.iload_n 3, 1), (0, 0, 0, 0)),
  (71, (.iconst 1, 1), (0, 0, 0, 0)),
  (72, (.invokevirtual 266, 3), (251, 2, 11, 0)),
  (75, (.goto 4, 3), (0, 0, 0, 0)),
  (78, (.iconst 0, 1), (0, 0, 0, 0)),
  (79, (.iadd, 1), (0, 0, 0, 0)),
  (80, (.istore 8, 2), (0, 0, 0, 0)),
  (82, (.iload 8, 2), (0, 0, 0, 0)),
  (84, (.ifCond .ne 12, 3), (0, 0, 0, 0)),
  (87, (.iload 7, 2), (0, 0, 0, 0)),
  (89, (.ifCond .ne 7, 3), (0, 0, 0, 0)),
  (92, (.ldc_w 375, 3), (0, 0, 0, 1000000)),
  (95, (.ireturn, 1), (0, 0, 0, 0)),
  (96, (.iinc 5 1, 3), (0, 0, 0, 0)),
  (99, (.iload 4, 2), (0, 0, 0, 0)),
  (101, (.iload 8, 2), (0, 0, 0, 0)),
  (103, (.isub, 1), (0, 0, 0, 0)),
  (104, (.istore 4, 2), (0, 0, 0, 0)),
  (106, (.iinc 6 1, 3), (0, 0, 0, 0)),
  (109, (.goto (-80), 3), (0, 0, 0, 0)),
  (112, (.iload 6, 2), (0, 0, 0, 0)),
  (114, (.ireturn, 1), (0, 0, 0, 0))]
noncomputable def tb_301 : List TE := [ -- X12_needsNow
  (0, (.aload_n 0, 1), (0, 0, 0, 0)),
  (1, (.iload_n 1, 1), (0, 0, 0, 0)),
  (2, (.iload_n 2, 1), (0, 0, 0, 0)),
  (3, (.aload_n 0, 1), (0, 0, 0, 0)),
  (4, (.iload_n 1, 1), (0, 0, 0, 0)),
  (5, (.iconst 3, 1), (0, 0, 0, 0)),
  (6, (.invokevirtual 269, 3), (252, 2, 11, 0)),
  (9, (.iconst (-1), 1), (0, 0, 0, 0)),
  (10, (.if_icmp .ne 8, 3), (0, 0, 0, 0)),
  (13, (.bipush 8, 2), (0, 0, 0, 0)),
  (15, (.goto 9, 3), (0, 0, 0, 0)),
  (18, (.aload_n 0, 1), (0, 0, 0, 0)),
  (19, (.iload_n 1, 1), (0, 0, 0, 0)),
  (20, (.iconst 3, 1), (0, 0, 0, 0)),
  (21, (.invokevirtual 269, 3), (252, 2, 11, 0)),
  (24, (.invokevirtual 376, 3), (300, 3, 11, 0)),
  (27, (.ireturn, 1), (0, 0, 0, 0))]
noncomputable def tb_302 : List TE := [ -- X12_orNever
  (0, (.iload_n 1, 1), (0, 0, 0, 0)),
  (1, (.ldc_w 375, 3), (0, 0, 0, 1000000)),
  (4, (.if_icmp .lt 12, 3), (0, 0, 0, 0)),
  (7, (.aload_n 0, 1), (0, 0, 0, 0)),
  (8, (.bipush 6, 2), (0, 0, 0, 0)),
  (10, (.invokevirtual 90, 3), (201, 1, 11, 0)),
  (13, (.goto 8, 3), (0, 0, 0, 0)),
  (16, (.aload_n 0, 1), (0, 0, 0, 0)),
  (17, (.iload_n 1, 1), (0, 0, 0, 0)),
  (18, (.invokevirtual 94, 3), (202, 1, 11, 0)),
  (21, (.ireturn, 1), (0, 0, 0, 0))]
noncomputable def tb_303 : List TE := [ -- X12_needs
  (0, (.aload_n 0, 1), (0, 0, 0, 0)),
  (1, (.iload_n 1, 1), (0, 0, 0, 0)),
  (2, (.iload_n 2, 1), (0, 0, 0, 0)),
  (3, (.invokevirtual 305, 3), (248, 2, 11, 0)),
  (6, (.ifCond .ne 9, 3), (0, 0, 0, 0)),
  (9, (.aload_n 0, 1), (0, 0, 0, 0)),
  (10, (.iconst 1, 1), (0, 0, 0, 0)),
  (11, (.invokevirtual 90, 3), (201, 1, 11, 0)),
  (14, (.ireturn, 1), (0, 0, 0, 0)),
  (15, (.aload_n 0, 1), (0, 0, 0, 0)),
  (16, (.aload_n 0, 1), (0, 0, 0, 0)),
  (17, (.iload_n 1, 1), (0, 0, 0, 0)),
  (18, (.iload_n 2, 1), (0, 0, 0, 0)),
  (19, (.invokevirtual 380, 3), (301, 2, 11, 0)),
  (22, (.invokevirtual 383, 3), (302, 1, 11, 0)),
  (25, (.ireturn, 1), (0, 0, 0, 0))]
noncomputable def tb_304 : List TE := [ -- X12_needsWith
  (0, (.aload_n 0, 1), (0, 0, 0, 0)),
  (1, (.iload_n 1, 1), (0, 0, 0, 0)),
  (2, (.iload_n 2, 1), (0, 0, 0, 0)),
  (3, (.invokevirtual 305, 3), (248, 2, 11, 0)),
  (6, (.ifCond .eq 17, 3), (0, 0, 0, 0)),
  (9, (.iload_n 3, 1), (0, 0, 0, 0)),
  (10, (.bipush 8, 2), (0, 0, 0, 0)),
  (12, (.if_icmp .eq 17, 3), (0, 0, 0, 0)),
  (15, (.aload_n 0, 1), (0, 0, 0, 0)),
  (16, (.iload_n 3, 1), (0, 0, 0, 0)),
  (17, (.invokevirtual 290, 3), (246, 1, 11, 0)),
  (20, (.ifCond .ne 9, 3), (0, 0, 0, 0)),
  (23, (.aload_n 0, 1), (0, 0, 0, 0)),
  (24, (.iconst 1, 1), (0, 0, 0, 0)),
  (25, (.invokevirtual 90, 3), (201, 1, 11, 0)),
  (28, (.ireturn, 1), (0, 0, 0, 0)),
  (29, (.aload_n 0, 1), (0, 0, 0, 0)),
  (30, (.aload_n 0, 1), (0, 0, 0, 0)),
  (31, (.iload_n 1, 1), (0, 0, 0, 0)),
  (32, (.iload_n 2, 1), (0, 0, 0, 0)),
  (33, (.iload_n 3, 1), (0, 0, 0, 0)),
  (34, (.invokevirtual 376, 3), (300, 3, 11, 0)),
  (37, (.invokevirtual 383, 3), (302, 1, 11, 0)),
  (40, (.ireturn, 1), (0, 0, 0, 0))]
noncomputable def tb_305 : List TE := [ -- X12_gift
  (0, (.aload_n 0, 1), (0, 0, 0, 0)),
  (1, (.iload_n 1, 1), (0, 0, 0, 0)),
  (2, (.iload_n 2, 1), (0, 0, 0, 0)),
  (3, (.invokevirtual 305, 3), (248, 2, 11, 0)),
  (6, (.ifCond .ne 9, 3), (0, 0, 0, 0)),
  (9, (.aload_n 0, 1), (0, 0, 0, 0)),
  (10, (.iconst 1, 1), (0, 0, 0, 0)),
  (11, (.invokevirtual 90, 3), (201, 1, 11, 0)),
  (14, (.ireturn, 1), (0, 0, 0, 0)),
  (15, (.iconst (-1), 1), (0, 0, 0, 0)),
  (16, (.istore_n 3, 1), (0, 0, 0, 0)),
  (17, (.ldc_w 375, 3), (0, 0, 0, 1000000)),
  (20, (.istore 4, 2), (0, 0, 0, 0)),
  (22, (.iconst 0, 1), (0, 0, 0, 0)),
  (23, (.istore 5, 2), (0, 0, 0, 0)),
  (25, (.iload 5, 2), (0, 0, 0, 0)),
  (27, (.aload_n 0, 1), (0, 0, 0, 0)),
  (28, (.getfield 7, 3), (11, 0, 2, 0)),
  (31, (.iconst 0, 1), (0, 0, 0, 0)),
  (32, (.iaload, 1), (0, 0, 0, 0)),
  (33, (.if_icmp .ge 36, 3), (0, 0, 0, 0)),
  (36, (.aload_n 0, 1), (0, 0, 0, 0)),
  (37, (.iload_n 1, 1), (0, 0, 0, 0)),
  (38, (.iload_n 2, 1), (0, 0, 0, 0)),
  (39, (.iload 5, 2), (0, 0, 0, 0)),
  (41, (.invokevirtual 376, 3), (300, 3, 11, 0)),
  (44, (.istore 6, 2), (0, 0, 0, 0)),
  (46, (.iload 6, 2), (0, 0, 0, 0)),
  (48, (.iload 4, 2), (0, 0, 0, 0)),
  (50, (.if_icmp .lt 6, 3), (0, 0, 0, 0)),
  (53, (.goto 10, 3), (0, 0, 0, 0)),
  (56, (.iload 6, 2), (0, 0, 0, 0)),
  (58, (.istore 4, 2), (0, 0, 0, 0)),
  (60, (.iload 5, 2), (0, 0, 0, 0)),
  (62, (.istore_n 3, 1), (0, 0, 0, 0)),
  (63, (.iinc 5 1, 3), (0, 0, 0, 0)),
  (66, (.goto (-41), 3), (0, 0, 0, 0)),
  (69, (.aload_n 0, 1), (0, 0, 0, 0)),
  (70, (.iload_n 3, 1), (0, 0, 0, 0)),
  (71, (.invokevirtual 293, 3), (203, 1, 11, 0)),
  (74, (.ireturn, 1), (0, 0, 0, 0))]
noncomputable def tb_306 : List TE := [ -- X12_laysFair
  (0, (.aload_n 0, 1), (0, 0, 0, 0)),
  (1, (.getfield 56, 3), (11, 27, 2, 0)),
  (4, (.iconst 0, 1), (0, 0, 0, 0)),
  (5, (.ldc_w 375, 3), (0, 0, 0, 1000000)),
  (8, (.iastore, 1), (0, 0, 0, 0)),
  (9, (.iconst 0, 1), (0, 0, 0, 0)),
  (10, (.istore_n 3, 1), (0, 0, 0, 0)),
  (11, (.iload_n 3, 1), (0, 0, 0, 0)),
  (12, (.aload_n 0, 1), (0, 0, 0, 0)),
  (13, (.getfield 7, 3), (11, 0, 2, 0)),
  (16, (.iconst 0, 1), (0, 0, 0, 0)),
  (17, (.iaload, 1), (0, 0, 0, 0)),
  (18, (.if_icmp .ge 129, 3), (0, 0, 0, 0)),
  (21, (.aload_n 0, 1), (0, 0, 0, 0)),
  (22, (.iload_n 1, 1), (0, 0, 0, 0)),
  (23, (.iload_n 2, 1), (0, 0, 0, 0)),
  (24, (.iload_n 3, 1), (0, 0, 0, 0)),
  (25, (.invokevirtual 376, 3), (300, 3, 11, 0)),
  (28, (.istore 4, 2), (0, 0, 0, 0)),
  (30, (.iconst 0, 1), (0, 0, 0, 0)),
  (31, (.istore 5, 2), (0, 0, 0, 0)),
  (33, (.iload 5, 2), (0, 0, 0, 0)),
  (35, (.aload_n 0, 1), (0, 0, 0, 0)),
  (36, (.getfield 7, 3), (11, 0, 2, 0)),
  (39, (.iconst 0, 1), (0, 0, 0, 0)),
  (40, (.iaload, 1), (0, 0, 0, 0)),
  (41, (.if_icmp .ge 100, 3), (0, 0, 0, 0)),
  (44, (.aload_n 0, 1), (0, 0, 0, 0)),
  (45, (.iload_n 2, 1), (0, 0, 0, 0)),
  (46, (.iload_n 1, 1), (0, 0, 0, 0)),
  (47, (.iload 5, 2), (0, 0, 0, 0)),
  (49, (.invokevirtual 376, 3), (300, 3, 11, 0)),
  (52, (.istore 6, 2), (0, 0, 0, 0)),
  (54, (.iload 4, 2), (0, 0, 0, 0)),
  (56, (.iload 6, 2), (0, 0, 0, 0)),
  (58, (.if_icmp .le 11, 3), (0, 0, 0, 0)),
  (61, (.iload 4, 2), (0, 0, 0, 0)),
  (63, (.iload 6, 2), (0, 0, 0, 0)),
  (65, (.isub, 1), (0, 0, 0, 0)),
  (66, (.goto 8, 3), (0, 0, 0, 0)),
  (69, (.iload 6, 2), (0, 0, 0, 0)),
  (71, (.iload 4, 2), (0, 0, 0, 0)),
  (73, (.isub, 1), (0, 0, 0, 0)),
  (74, (.istore 7, 2), (0, 0, 0, 0)),
  (76, (.iload_n 3, 1), (0, 0, 0, 0)),
  (77, (.iload 5, 2), (0, 0, 0, 0)),
  (79, (.if_icmp .eq 56, 3), (0, 0, 0, 0)),
  (82, (.iload 4, 2), (0, 0, 0, 0)),
  (84, (.ldc_w 375, 3), (0, 0, 0, 1000000)),
  (87, (.if_icmp .ge 48, 3), (0, 0, 0, 0)),
  (90, (.iload 6, 2), (0, 0, 0, 0)),
  (92, (.ldc_w 375, 3), (0, 0, 0, 1000000)),
  (95, (.if_icmp .ge 40, 3), (0, 0, 0, 0)),
  (98, (.iload 7, 2), (0, 0, 0, 0)),
  (100, (.aload_n 0, 1), (0, 0, 0, 0)),
  (101, (.getfield 56, 3), (11, 27, 2, 0)),
  (104, (.iconst 0, 1), (0, 0, 0, 0)),
  (105, (.iaload, 1), (0, 0, 0, 0)),
  (106, (.if_icmp .lt 6, 3), (0, 0, 0, 0)),
  (109, (.goto 26, 3), (0, 0, 0, 0)),
  (112, (.aload_n 0, 1), (0, 0, 0, 0)),
  (113, (.getfield 56, 3), (11, 27, 2, 0)),
  (116, (.iconst 0, 1), (0, 0, 0, 0)),
  (117, (.iload 7, 2), (0, 0, 0, 0)),
  (119, (.iastore, 1), (0, 0, 0, 0)),
  (120, (.aload_n 0, 1), (0, 0, 0, 0)),
  (121, (.getfield 56, 3), (11, 27, 2, 0)),
  (124, (.iconst 1, 1), (0, 0, 0, 0)),
  (125, (.iload_n 3, 1), (0, 0, 0, 0)),
  (126, (.iastore, 1), (0, 0, 0, 0)),
  (127, (.aload_n 0, 1), (0, 0, 0, 0)),
  (128, (.getfield 56, 3), (11, 27, 2, 0)),
  (131, (.iconst 2, 1), (0, 0, 0, 0)),
  (132, (.iload 5, 2), (0, 0, 0, 0)),
  (134, (.iastore, 1), (0, 0, 0, 0)),
  (135, (.iinc 5 1, 3), (0, 0, 0, 0)),
  (138, (.goto (-105), 3), (0, 0, 0, 0)),
  (141, (.iinc 3 1, 3), (0, 0, 0, 0)),
  (144, (.goto (-133), 3), (0, 0, 0, 0)),
  (147, (.return_, 1), (0, 0, 0, 0))]
noncomputable def tb_307 : List TE := [ -- X12_fair
  (0, (.aload_n 0, 1), (0, 0, 0, 0)),
  (1, (.iload_n 1, 1), (0, 0, 0, 0)),
  (2, (.iload_n 2, 1), (0, 0, 0, 0)),
  (3, (.invokevirtual 305, 3), (248, 2, 11, 0)),
  (6, (.ifCond .eq 12, 3), (0, 0, 0, 0)),
  (9, (.iload_n 3, 1), (0, 0, 0, 0)),
  (10, (.ifCond .lt 8, 3), (0, 0, 0, 0)),
  (13, (.iload_n 3, 1), (0, 0, 0, 0)),
  (14, (.iconst 2, 1), (0, 0, 0, 0)),
  (15, (.if_icmp .le 9, 3), (0, 0, 0, 0)),
  (18, (.aload_n 0, 1), (0, 0, 0, 0)),
  (19, (.iconst 1, 1), (0, 0, 0, 0)),
  (20, (.invokevirtual 90, 3), (201, 1, 11, 0)),
  (23, (.ireturn, 1), (0, 0, 0, 0)),
  (24, (.aload_n 0, 1), (0, 0, 0, 0)),
  (25, (.iload_n 1, 1), (0, 0, 0, 0)),
  (26, (.iload_n 2, 1), (0, 0, 0, 0)),
  (27, (.invokevirtual 386, 3), (306, 2, 11, 0)),
  (30, (.aload_n 0, 1), (0, 0, 0, 0)),
  (31, (.getfield 56, 3), (11, 27, 2, 0)),
  (34, (.iconst 0, 1), (0, 0, 0, 0)),
  (35, (.iaload, 1), (0, 0, 0, 0)),
  (36, (.ldc_w 375, 3), (0, 0, 0, 1000000)),
  (39, (.if_icmp .ne 12, 3), (0, 0, 0, 0)),
  (42, (.aload_n 0, 1), (0, 0, 0, 0)),
  (43, (.bipush 6, 2), (0, 0, 0, 0)),
  (45, (.invokevirtual 90, 3), (201, 1, 11, 0)),
  (48, (.goto 13, 3), (0, 0, 0, 0)),
  (51, (.aload_n 0, 1), (0, 0, 0, 0)),
  (52, (.aload_n 0, 1), (0, 0, 0, 0)),
  (53, (.getfield 56, 3), (11, 27, 2, 0)),
  (56, (.iload_n 3, 1), (0, 0, 0, 0)),
  (57, (.iaload, 1), (0, 0, 0, 0)),
  (58, (.invokevirtual 94, 3), (202, 1, 11, 0)),
  (61, (.ireturn, 1), (0, 0, 0, 0))]
noncomputable def tb_308 : List TE := [ -- X12_bestArms
  (0, (.aload_n 0, 1), (0, 0, 0, 0)),
  (1, (.iload_n 3, 1), (0, 0, 0, 0)),
  (2, (.iload_n 1, 1), (0, 0, 0, 0)),
  (3, (.invokevirtual 390, 3), (250, 2, 11, 0)),
  (6, (.ifCond .ne 18, 3), (0, 0, 0, 0)),
  (9, (.aload_n 0, 1), (0, 0, 0, 0)),
  (10, (.getfield 59, 3), (11, 28, 2, 0)),
  (13, (.sipush 256, 3), (0, 0, 0, 0)),
  (16, (.iload_n 1, 1), (0, 0, 0, 0)),
  (17, (.iconst 1, 1), (0, 0, 0, 0)),
  (18, (.iadd, 1), (0, 0, 0, 0)),
  (19, (.imul, 1), (0, 0, 0, 0)),
  (20, (.iload_n 2, 1), (0, 0, 0, 0)),
  (21, (.iadd, 1), (0, 0, 0, 0)),
  (22, (.iaload, 1), (0, 0, 0, 0)),
  (23, (.ireturn, 1), (0, 0, 0, 0)),
  (24, (.ldc_w 375, 3), (0, 0, 0, 1000000)),
  (27, (.istore 5, 2), (0, 0, 0, 0)),
  (29, (.iconst 0, 1), (0, 0, 0, 0)),
  (30, (.istore 6, 2), (0, 0, 0, 0)),
  (32, (.iload 6, 2), (0, 0, 0, 0)),
  (34, (.aload_n 0, 1), (0, 0, 0, 0)),
  (35, (.getfield 7, 3), (11, 0, 2, 0)),
  (38, (.iconst 0, 1), (0, 0, 0, 0)),
  (39, (.iaload, 1), (0, 0, 0, 0)),
  (40, (.if_icmp .ge 61, 3), (0, 0, 0, 0)),
  (43, (.aload_n 0, 1), (0, 0, 0, 0)),
  (44, (.iload_n 2, 1), (0, 0, 0, 0)),
  (45, (.iload 6, 2), (0, 0, 0, 0)),
  (47, (.invokevirtual 390, 3), (250, 2, 11, 0)),
  (50, (.ifCond .ne 45, 3), (0, 0, 0, 0)),
  (53, (.iload 5, 2), (0, 0, 0, 0)),
  (55, (.ldc_w 375, 3), (0, 0, 0, 1000000)),
  (58, (.aload_n 0, 1), (0, 0, 0, 0)),
  (59, (.iload_n 1, 1), (0, 0, 0, 0)),
  (60, (.iload 4, 2), (0, 0, 0, 0)),
  (62, (.iload 6, 2), (0, 0, 0, 0)),
  (64, (.invokevirtual 376, 3), (300, 3, 11, 0)),
  (67, (.aload_n 0, 1), (0, 0, 0, 0)),
  (68, (.getfield 59, 3), (11, 28, 2, 0)),
  (71, (.sipush 256, 3), (0, 0, 0, 0)),
  (74, (.iload_n 1, 1), (0, 0, 0, 0)),
  (75, (.iconst 1, 1), (0, 0, 0, 0)),
  (76, (.iadd, 1), (0, 0, 0, 0)),
  (77, (.imul, 1), (0, 0, 0, 0)),
  (78, (.iload_n 2, 1), (0, 0, 0, 0)),
  (79, (.iconst 1, 1), (0, 0, 0, 0)),
  (80, (.iload 6, 2), (0, 0, 0, 0)),
  (82, (.ishl, 1), (0, 0, 0, 0)),
  (83, (.ior, 1), (0, 0, 0, 0)),
  (84, (.iadd, 1), (0, 0, 0, 0)),
  (85, (.iaload, 1), (0, 0, 0, 0)),
  (86, (.iadd, 1), (0, 0, 0, 0)),
  (87, (.invokestatic 145, 3), (342, 2, 0, 0)),
  (90, (.invokestatic 145, 3), (342, 2, 0, 0)),
  (93, (.istore 5, 2), (0, 0, 0, 0)),
  (95, (.iinc 6 1, 3), (0, 0, 0, 0)),
  (98, (.goto (-66), 3), (0, 0, 0, 0)),
  (101, (.iload 5, 2), (0, 0, 0, 0)),
  (103, (.ireturn, 1), (0, 0, 0, 0))]
noncomputable def tb_309 : List TE := [ -- X12_laysArms
  (0, (.aload_n 0, 1), (0, 0, 0, 0)),
  (1, (.getfield 7, 3), (11, 0, 2, 0)),
  (4, (.iconst 1, 1), (0, 0, 0, 0)),
  (5, (.iaload, 1), (0, 0, 0, 0)),
  (6, (.istore_n 3, 1), (0, 0, 0, 0)),
  (7, (.iconst 0, 1), (0, 0, 0, 0)),
  (8, (.istore 4, 2), (0, 0, 0, 0)),
  (10, (.iload 4, 2), (0, 0, 0, 0)),
  (12, (.sipush 256, 3), (0, 0, 0, 0)),
  (15, (.if_icmp .ge 23, 3), (0, 0, 0, 0)),
  (18, (.aload_n 0, 1), (0, 0, 0, 0)),
  (19, (.getfield 59, 3), (11, 28, 2, 0)),
  (22, (.sipush 256, 3), (0, 0, 0, 0)),
  (25, (.iload_n 3, 1), (0, 0, 0, 0)),
  (26, (.imul, 1), (0, 0, 0, 0)),
  (27, (.iload 4, 2), (0, 0, 0, 0)),
  (29, (.iadd, 1), (0, 0, 0, 0)),
  (30, (.iconst 0, 1), (0, 0, 0, 0)),
  (31, (.iastore, 1), (0, 0, 0, 0)),
  (32, (.iinc 4 1, 3), (0, 0, 0, 0)),
  (35, (.goto (-25), 3), (0, 0, 0, 0)),
  (38, (.iload_n 3, 1), (0, 0, 0, 0)),
  (39, (.iconst 1, 1), (0, 0, 0, 0)),
  (40, (.isub, 1), (0, 0, 0, 0)),
  (41, (.istore 4, 2), (0, 0, 0, 0)),
  (43, (.iload 4, 2), (0, 0, 0, 0)),
  (45, (.ifCond .lt 55, 3), (0, 0, 0, 0)),
  (48, (.iconst 0, 1), (0, 0, 0, 0)),
  (49, (.istore 5, 2), (0, 0, 0, 0)),
  (51, (.iload 5, 2), (0, 0, 0, 0)),
  (53, (.iconst 1, 1), (0, 0, 0, 0)),
  (54, (.aload_n 0, 1), (0, 0, 0, 0)),
  (55, (.getfield 7, 3), (11, 0, 2, 0)),
  (58, (.iconst 0, 1), (0, 0, 0, 0)),
  (59, (.iaload, 1), (0, 0, 0, 0)),
  (60, (.ishl, 1), (0, 0, 0, 0)),
  (61, (.if_icmp .ge 33, 3), (0, 0, 0, 0)),
  (64, (.aload_n 0, 1), (0, 0, 0, 0)),
  (65, (.getfield 59, 3), (11, 28, 2, 0)),
  (68, (.sipush 256, 3), (0, 0, 0, 0)),
  (71, (.iload 4, 2), (0, 0, 0, 0)),
  (73, (.imul, 1), (0, 0, 0, 0)),
  (74, (.iload 5, 2), (0, 0, 0, 0)),
  (76, (.iadd, 1), (0, 0, 0, 0)),
  (77, (.aload_n 0, 1), (0, 0, 0, 0)),
  (78, (.iload 4, 2), (0, 0, 0, 0)),
  (80, (.iload 5, 2), (0, 0, 0, 0)),
  (82, (.iload_n 1, 1), (0, 0, 0, 0)),
  (83, (.iload_n 2, 1), (0, 0, 0, 0)),
  (84, (.invokevirtual 393, 3), (308, 4, 11, 0)),
  (87, (.iastore, 1), (0, 0, 0, 0)),
  (88, (.iinc 5 1, 3), (0, 0, 0, 0)),
  (91, (.goto (-40), 3), (0, 0, 0, 0)),
  (94, (.iinc 4 (-1), 3), (0, 0, 0, 0)),
  (97, (.goto (-54), 3), (0, 0, 0, 0)),
  (100, (.aload_n 0, 1), (0, 0, 0, 0)),
  (101, (.getfield 59, 3), (11, 28, 2, 0)),
  (104, (.iconst 0, 1), (0, 0, 0, 0)),
  (105, (.iaload, 1), (0, 0, 0, 0)),
  (106, (.ireturn, 1), (0, 0, 0, 0))]
noncomputable def tb_310 : List TE := [ -- X12_areArmed
  (0, (.aload_n 0, 1), (0, 0, 0, 0)),
  (1, (.iload_n 1, 1), (0, 0, 0, 0)),
  (2, (.invokevirtual 397, 3), (249, 1, 11, 0)),
  (5, (.ifCond .eq 24, 3), (0, 0, 0, 0)),
  (8, (.aload_n 0, 1), (0, 0, 0, 0)),
  (9, (.iload_n 2, 1), (0, 0, 0, 0)),
  (10, (.invokevirtual 259, 3), (247, 1, 11, 0)),
  (13, (.ifCond .eq 16, 3), (0, 0, 0, 0)),
  (16, (.aload_n 0, 1), (0, 0, 0, 0)),
  (17, (.iload_n 1, 1), (0, 0, 0, 0)),
  (18, (.iload_n 2, 1), (0, 0, 0, 0)),
  (19, (.invokevirtual 390, 3), (250, 2, 11, 0)),
  (22, (.ifCond .ne 7, 3), (0, 0, 0, 0)),
  (25, (.iconst 1, 1), (0, 0, 0, 0)),
  (26, (.goto 4, 3), (0, 0, 0, 0)),
  (29, (.iconst 0, 1), (0, 0, 0, 0)),
  (30, (.ireturn, 1), (0, 0, 0, 0))]
noncomputable def tb_311 : List TE := [ -- X12_arms
  (0, (.aload_n 0, 1), (0, 0, 0, 0)),
  (1, (.iload_n 1, 1), (0, 0, 0, 0)),
  (2, (.iload_n 2, 1), (0, 0, 0, 0)),
  (3, (.invokevirtual 400, 3), (310, 2, 11, 0)),
  (6, (.ifCond .eq 16, 3), (0, 0, 0, 0)),
  (9, (.aload_n 0, 1), (0, 0, 0, 0)),
  (10, (.aload_n 0, 1), (0, 0, 0, 0)),
  (11, (.iload_n 1, 1), (0, 0, 0, 0)),
  (12, (.iload_n 2, 1), (0, 0, 0, 0)),
  (13, (.invokevirtual 403, 3), (309, 2, 11, 0)),
  (16, (.invokevirtual 383, 3), (302, 1, 11, 0)),
  (19, (.goto 8, 3), (0, 0, 0, 0)),
  (22, (.aload_n 0, 1), (0, 0, 0, 0)),
  (23, (.iconst 1, 1), (0, 0, 0, 0)),
  (24, (.invokevirtual 90, 3), (201, 1, 11, 0)),
  (27, (.ireturn, 1), (0, 0, 0, 0))]
noncomputable def tb_312 : List TE := [ -- X12_armOf
  (0, (.aload_n 0, 1), (0, 0, 0, 0)),
  (1, (.iload_n 1, 1), (0, 0, 0, 0)),
  (2, (.iload_n 2, 1), (0, 0, 0, 0)),
  (3, (.invokevirtual 400, 3), (310, 2, 11, 0)),
  (6, (.ifCond .eq 20, 3), (0, 0, 0, 0)),
  (9, (.aload_n 0, 1), (0, 0, 0, 0)),
  (10, (.iload_n 3, 1), (0, 0, 0, 0)),
  (11, (.invokevirtual 259, 3), (247, 1, 11, 0)),
  (14, (.ifCond .eq 12, 3), (0, 0, 0, 0)),
  (17, (.aload_n 0, 1), (0, 0, 0, 0)),
  (18, (.iload_n 1, 1), (0, 0, 0, 0)),
  (19, (.iload_n 3, 1), (0, 0, 0, 0)),
  (20, (.invokevirtual 390, 3), (250, 2, 11, 0)),
  (23, (.ifCond .ne 9, 3), (0, 0, 0, 0)),
  (26, (.aload_n 0, 1), (0, 0, 0, 0)),
  (27, (.iconst 1, 1), (0, 0, 0, 0)),
  (28, (.invokevirtual 90, 3), (201, 1, 11, 0)),
  (31, (.ireturn, 1), (0, 0, 0, 0)),
  (32, (.aload_n 0, 1), (0, 0, 0, 0)),
  (33, (.iload_n 1, 1), (0, 0, 0, 0)),
  (34, (.iload_n 2, 1), (0, 0, 0, 0)),
  (35, (.invokevirtual 403, 3), (309, 2, 11, 0)),
  (38, (.ldc_w 375, 3), (0, 0, 0, 1000000)),
  (41, (.if_icmp .lt 10, 3), (0, 0, 0, 0)),
  (44, (.aload_n 0, 1), (0, 0, 0, 0)),
  (45, (.bipush 6, 2), (0, 0, 0, 0)),
  (47, (.invokevirtual 90, 3), (201, 1, 11, 0)),
  (50, (.ireturn, 1), (0, 0, 0, 0)),
  (51, (.iconst 0, 1), (0, 0, 0, 0)),
  (52, (.istore 4, 2), (0, 0, 0, 0)),
  (54, (.iconst (-1), 1), (0, 0, 0, 0)),
  (55, (.istore 5, 2), (0, 0, 0, 0)),
  (57, (.iconst 0, 1), (0, 0, 0, 0)),
  (58, (.istore 6, 2), (0, 0, 0, 0)),
  (60, (.iload 6, 2), (0, 0, 0, 0)),
  (62, (.iload_n 3, 1), (0, 0, 0, 0)),
  (63, (.if_icmp .gt 99, 3), (0, 0, 0, 0)),
  (66, (.aload_n 0, 1), (0, 0, 0, 0)),
  (67, (.iload_n 1, 1), (0, 0, 0, 0)),
  (68, (.iload 6, 2), (0, 0, 0, 0)),
  (70, (.invokevirtual 390, 3), (250, 2, 11, 0)),
  (73, (.ifCond .ne 6, 3), (0, 0, 0, 0)),
  (76, (.goto 80, 3), (0, 0, 0, 0)),
  (79, (.iconst 0, 1), (0, 0, 0, 0)),
  (80, (.istore 5, 2), (0, 0, 0, 0)),
  (82, (.aload_n 0, 1), (0, 0, 0, 0)),
  (83, (.iload 4, 2), (0, 0, 0, 0)),
  (85, (.iload 5, 2), (0, 0, 0, 0)),
  (87, (.invokevirtual 390, 3), (250, 2, 11, 0)),
  (90, (.ifCond .ne 51, 3), (0, 0, 0, 0)),
  (93, (.aload_n 0, 1), (0, 0, 0, 0)),
  (94, (.iload 6, 2), (0, 0, 0, 0)),
  (96, (.iload_n 2, 1), (0, 0, 0, 0)),
  (97, (.iload 5, 2), (0, 0, 0, 0)),
  (99, (.invokevirtual 376, 3), (300, 3, 11, 0)),
  (102, (.aload_n 0, 1), (0, 0, 0, 0)),
  (103, (.getfield 59, 3), (11, 28, 2, 0)),
  (106, (.sipush 256, 3), (0, 0, 0, 0)),
  (109, (.iload 6, 2), (0, 0, 0, 0)),
  (111, (.iconst 1, 1), (0, 0, 0, 0)),
  (112, (.iadd, 1), (0, 0, 0, 0)),
  (113, (.imul, 1), (0, 0, 0, 0)),
  (114, (.iload 4, 2), (0, 0, 0, 0)),
  (116, (.iconst 1, 1), (0, 0, 0, 0)),
  (117, (.iload 5, 2), (0, 0, 0, 0)),
  (119, (.ishl, 1), (0, 0, 0, 0)),
  (120, (.ior, 1), (0, 0, 0, 0)),
  (121, (.iadd, 1), (0, 0, 0, 0)),
  (122, (.iaload, 1), (0, 0, 0, 0)),
  (123, (.iadd, 1), (0, 0, 0, 0)),
  (124, (.aload_n 0, 1), (0, 0, 0, 0)),
  (125, (.getfield 59, 3), (11, 28, 2, 0)),
  (128, (.sipush 256, 3), (0, 0, 0, 0)),
  (131, (.iload 6, 2), (0, 0, 0, 0)),
  (133, (.imul, 1), (0, 0, 0, 0)),
  (134, (.iload 4, 2), (0, 0, 0, 0)),
  (136, (.iadd, 1), (0, 0, 0, 0)),
  (137, (.iaload, 1), (0, 0, 0, 0)),
  (138, (.if_icmp .eq 9, 3), (0, 0, 0, 0)),
  (141, (.iinc 5 1, 3), (0, 0, 0, 0)),
  (144, (.goto (-62), 3), (0, 0, 0, 0)),
  (147, (.iload 4, 2), (0, 0, 0, 0)),
  (149, (.iconst 1, 1), (0, 0, 0, 0)),
  (150, (.iload 5, 2), (0, 0, 0, 0)),
  (152, (.ishl, 1), (0, 0, 0, 0)),
  (153, (.ior, 1), (0, 0, 0, 0)),
  (154, (.istore 4, 2), (0, 0, 0, 0)),
  (156, (.iinc 6 1, 3), (0, 0, 0, 0)),
  (159, (.goto (-99), 3), (0, 0, 0, 0)),
  (162, (.aload_n 0, 1), (0, 0, 0, 0)),
  (163, (.iload 5, 2), (0, 0, 0, 0)),
  (165, (.invokevirtual 94, 3), (202, 1, 11, 0)),
  (168, (.ireturn, 1), (0, 0, 0, 0))]
noncomputable def tb_313 : List TE := [ -- X12_faster
  (0, (.aload_n 0, 1), (0, 0, 0, 0)),
  (1, (.iload_n 1, 1), (0, 0, 0, 0)),
  (2, (.iload_n 2, 1), (0, 0, 0, 0)),
  (3, (.invokevirtual 305, 3), (248, 2, 11, 0)),
  (6, (.ifCond .eq 22, 3), (0, 0, 0, 0)),
  (9, (.iload_n 3, 1), (0, 0, 0, 0)),
  (10, (.i2l, 1), (0, 0, 0, 0)),
  (11, (.lconst 1, 1), (0, 0, 0, 0)),
  (12, (.lconst 1, 1), (0, 0, 0, 0)),
  (13, (.aload_n 0, 1), (0, 0, 0, 0)),
  (14, (.getfield 7, 3), (11, 0, 2, 0)),
  (17, (.iconst 0, 1), (0, 0, 0, 0)),
  (18, (.iaload, 1), (0, 0, 0, 0)),
  (19, (.lshl, 1), (0, 0, 0, 0)),
  (20, (.lconst 1, 1), (0, 0, 0, 0)),
  (21, (.lsub, 1), (0, 0, 0, 0)),
  (22, (.invokestatic 262, 3), (212, 3, 0, 0)),
  (25, (.ifCond .ne 9, 3), (0, 0, 0, 0)),
  (28, (.aload_n 0, 1), (0, 0, 0, 0)),
  (29, (.iconst 1, 1), (0, 0, 0, 0)),
  (30, (.invokevirtual 97, 3), (200, 1, 11, 0)),
  (33, (.ireturn, 1), (0, 0, 0, 0)),
  (34, (.iconst 0, 1), (0, 0, 0, 0)),
  (35, (.istore 4, 2), (0, 0, 0, 0)),
  (37, (.iconst 0, 1), (0, 0, 0, 0)),
  (38, (.istore 5, 2), (0, 0, 0, 0)),
  (40, (.iconst 0, 1), (0, 0, 0, 0)),
  (41, (.istore 6, 2), (0, 0, 0, 0)),
  (43, (.iload 6, 2), (0, 0, 0, 0)),
  (45, (.aload_n 0, 1), (0, 0, 0, 0)),
  (46, (.getfield 7, 3), (11, 0, 2, 0)),
  (49, (.iconst 0, 1), (0, 0, 0, 0)),
  (50, (.iaload, 1), (0, 0, 0, 0)),
  (51, (.if_icmp .ge 84, 3), (0, 0, 0, 0)),
  (54, (.iconst 0, 1), (0, 0, 0, 0)),
  (55, (.istore 7, 2), (0, 0, 0, 0)),
  (57, (.iload 7, 2), (0, 0, 0, 0)),
  (59, (.aload_n 0, 1), (0, 0, 0, 0)),
  (60, (.getfield 7, 3), (11, 0, 2, 0)),
  (63, (.iconst 0, 1), (0, 0, 0, 0)),
  (64, (.iaload, 1), (0, 0, 0, 0)),
  (65, (.if_icmp .ge 64, 3), (0, 0, 0, 0)),
  (68, (.aload_n 0, 1), (0, 0, 0, 0)),
  (69, (.iload_n 3, 1), (0, 0, 0, 0)),
  (70, (.iload 6, 2), (0, 0, 0, 0)),
  (72, (.invokevirtual 390, 3), (250, 2, 11, 0)),
  (75, (.ifCond .eq 48, 3), (0, 0, 0, 0)),
  (78, (.aload_n 0, 1), (0, 0, 0, 0)),
  (79, (.iload_n 3, 1), (0, 0, 0, 0)),
  (80, (.iload 7, 2), (0, 0, 0, 0)),
  (82, (.invokevirtual 390, 3), (250, 2, 11, 0)),
  (85, (.ifCond .ne 6, 3), (0, 0, 0, 0)),
  (88, (.goto 35, 3), (0, 0, 0, 0)),
  (91, (.iinc 5 1, 3), (0, 0, 0, 0)),
  (94, (.iload 4, 2), (0, 0, 0, 0)),
  (96, (.aload_n 0, 1), (0, 0, 0, 0)),
  (97, (.iload_n 1, 1), (0, 0, 0, 0)),
  (98, (.iload_n 2, 1), (0, 0, 0, 0)),
  (99, (.iload 6, 2), (0, 0, 0, 0)),
  (101, (.invokevirtual 376, 3), (300, 3, 11, 0)),
  (104, (.aload_n 0, 1), (0, 0, 0, 0)),
  (105, (.iload_n 2, 1), (0, 0, 0, 0)),
  (106, (.iload_n 1, 1), (0, 0, 0, 0)),
  (107, (.iload 7, 2), (0, 0, 0, 0)),
  (109, (.invokevirtual 376, 3), (300, 3, 11, 0)),
  (112, (.if_icmp .ge 7, 3), (0, 0, 0, 0)),
  (115, (.iconst 1, 1), (0, 0, 0, 0)),
  (116, (.goto 4, 3), (0, 0, 0, 0)),
  (119, (.iconst 0, 1), (0, 0, 0, 0)),
  (120, (.iadd, 1), (0, 0, 0, 0)),
  (121, (.istore 4, 2), (0, 0, 0, 0)),
  (123, (.iinc 7 1, 3), (0, 0, 0, 0)),
  (126, (.goto (-69), 3), (0, 0, 0, 0)),
  (129, (.iinc 6 1, 3), (0, 0, 0, 0)),
  (132, (.goto (-89), 3), (0, 0, 0, 0)),
  (135, (.aload_n 0, 1), (0, 0, 0, 0)),
  (136, (.iload 4, 2), (0, 0, 0, 0)),
  (138, (.i2l, 1), (0, 0, 0, 0)),
  (139, (.iload 5, 2), (0, 0, 0, 0)),
  (141, (.i2l, 1), (0, 0, 0, 0)),
  (142, (.invokevirtual 406, 3), (204, 2, 11, 0)),
  (145, (.ireturn, 1), (0, 0, 0, 0))]
noncomputable def tb_314 : List TE := [ -- X12_enough
  (0, (.aload_n 0, 1), (0, 0, 0, 0)),
  (1, (.iload_n 1, 1), (0, 0, 0, 0)),
  (2, (.iload_n 2, 1), (0, 0, 0, 0)),
  (3, (.invokevirtual 305, 3), (248, 2, 11, 0)),
  (6, (.ifCond .eq 15, 3), (0, 0, 0, 0)),
  (9, (.iload_n 3, 1), (0, 0, 0, 0)),
  (10, (.i2l, 1), (0, 0, 0, 0)),
  (11, (.lconst 0, 1), (0, 0, 0, 0)),
  (12, (.ldc2_w 410, 3), (0, 0, 0, 12)),
  (15, (.invokestatic 262, 3), (212, 3, 0, 0)),
  (18, (.ifCond .ne 9, 3), (0, 0, 0, 0)),
  (21, (.aload_n 0, 1), (0, 0, 0, 0)),
  (22, (.iconst 1, 1), (0, 0, 0, 0)),
  (23, (.invokevirtual 97, 3), (200, 1, 11, 0)),
  (26, (.ireturn, 1), (0, 0, 0, 0)),
  (27, (.lconst 1, 1), (0, 0, 0, 0)),
  (28, (.lstore 4, 2), (0, 0, 0, 0)),
  (30, (.iconst 0, 1), (0, 0, 0, 0)),
  (31, (.istore 6, 2), (0, 0, 0, 0)),
  (33, (.iload 6, 2), (0, 0, 0, 0)),
  (35, (.bipush 13, 2), (0, 0, 0, 0)),
  (37, (.if_icmp .ge 26, 3), (0, 0, 0, 0)),
  (40, (.aload_n 0, 1), (0, 0, 0, 0)),
  (41, (.getfield 62, 3), (11, 29, 2, 0)),
  (44, (.iload 6, 2), (0, 0, 0, 0)),
  (46, (.iload 6, 2), (0, 0, 0, 0)),
  (48, (.ifCond .ne 7, 3), (0, 0, 0, 0)),
  (51, (.lconst 1, 1), (0, 0, 0, 0)),
  (52, (.goto 4, 3), (0, 0, 0, 0)),
  (55, (.lconst 0, 1), (0, 0, 0, 0)),
  (56, (.lastore, 1), (0, 0, 0, 0)),
  (57, (.iinc 6 1, 3), (0, 0, 0, 0)),
  (60, (.goto (-27), 3), (0, 0, 0, 0)),
  (63, (.iconst 0, 1), (0, 0, 0, 0)),
  (64, (.istore 6, 2), (0, 0, 0, 0)),
  (66, (.iload 6, 2), (0, 0, 0, 0)),
  (68, (.iload_n 3, 1), (0, 0, 0, 0)),
  (69, (.if_icmp .ge 84, 3), (0, 0, 0, 0)),
  (72, (.bipush 12, 2), (0, 0, 0, 0)),
  (74, (.istore 7, 2), (0, 0, 0, 0)),
  (76, (.iload 7, 2), (0, 0, 0, 0)),
  (78, (.ifCond .lt 61, 3), (0, 0, 0, 0)),
  (81, (.aload_n 0, 1), (0, 0, 0, 0)),
  (82, (.getfield 62, 3), (11, 29, 2, 0)),
  (85, (.iload 7, 2), (0, 0, 0, 0)),
  (87, (.aload_n 0, 1), (0, 0, 0, 0)),
  (88, (.getfield 62, 3), (11, 29, 2, 0)),
  (91, (.iload 7, 2), (0, 0, 0, 0)),
  (93, (.laload, 1), (0, 0, 0, 0)),
  (94, (.aload_n 0, 1), (0, 0, 0, 0)),
  (95, (.getfield 7, 3), (11, 0, 2, 0)),
  (98, (.iconst 5, 1), (0, 0, 0, 0)),
  (99, (.iaload, 1), (0, 0, 0, 0)),
  (100, (.i2l, 1), (0, 0, 0, 0)),
  (101, (.lmul, 1), (0, 0, 0, 0)),
  (102, (.iload 7, 2), (0, 0, 0, 0)),
  (104, (.ifCond .ne 7, 3), (0, 0, 0, 0)),
  (107, (.lconst 0, 1), (0, 0, 0, 0)),
  (108, (.goto 23, 3), (0, 0, 0, 0)),
  (111, (.aload_n 0, 1), (0, 0, 0, 0)),
  (112, (.getfield 62, 3), (11, 29, 2, 0)),
  (115, (.iload 7, 2), (0, 0, 0, 0)),
  (117, (.iconst 1, 1), (0, 0, 0, 0)),
  (118, (.isub, 1), (0, 0, 0, 0)),
  (119, (.laload, 1), (0, 0, 0, 0)),
  (120, (.bipush 16, 2), (0, 0, 0, 0)),
  (122, (.aload_n 0, 1), (0, 0, 0, 0)),
  (123, (.getfield 7, 3), (11, 0, 2, 0)),
  (126, (.iconst 5, 1), (0, 0, 0, 0)),
  (127, (.iaload, 1), (0, 0, 0, 0)),
  (128, (.isub, 1), (0, 0, 0, 0)),
  (129, (.i2l, 1), (0, 0, 0, 0)),
  (130, (.lmul, 1), (0, 0, 0, 0)),
  (131, (.ladd, 1), (0, 0, 0, 0)),
  (132, (.lastore, 1), (0, 0, 0, 0)),
  (133, (.iinc 7 (-1), 3), (0, 0, 0, 0)),
  (136, (.goto (-60), 3), (0, 0, 0, 0)),
  (139, (.lload 4, 2), (0, 0, 0, 0)),
  (141, (.ldc2_w 354, 3), (0, 0, 0, 16)),
  (144, (.lmul, 1), (0, 0, 0, 0)),
  (145, (.lstore 4, 2), (0, 0, 0, 0)),
  (147, (.iinc 6 1, 3), (0, 0, 0, 0)),
  (150, (.goto (-84), 3), (0, 0, 0, 0)),
  (153, (.lconst 0, 1), (0, 0, 0, 0)),
  (154, (.lstore 6, 2), (0, 0, 0, 0)),
  (156, (.aload_n 0, 1), (0, 0, 0, 0)),
  (157, (.iload_n 1, 1), (0, 0, 0, 0)),
  (158, (.iload_n 2, 1), (0, 0, 0, 0)),
  (159, (.invokevirtual 380, 3), (301, 2, 11, 0)),
  (162, (.istore 8, 2), (0, 0, 0, 0)),
  (164, (.iload 8, 2), (0, 0, 0, 0)),
  (166, (.bipush 13, 2), (0, 0, 0, 0)),
  (168, (.if_icmp .ge 21, 3), (0, 0, 0, 0)),
  (171, (.lload 6, 2), (0, 0, 0, 0)),
  (173, (.aload_n 0, 1), (0, 0, 0, 0)),
  (174, (.getfield 62, 3), (11, 29, 2, 0)),
  (177, (.iload 8, 2), (0, 0, 0, 0)),
  (179, (.laload, 1), (0, 0, 0, 0)),
  (180, (.ladd, 1), (0, 0, 0, 0)),
  (181, (.lstore 6, 2), (0, 0, 0, 0)),
  (183, (.iinc 8 1, 3), (0, 0, 0, 0)),
  (186, (.goto (-22), 3), (0, 0, 0, 0)),
  (189, (.aload_n 0, 1), (0, 0, 0, 0)),
  (190, (.lload 6, 2), (0, 0, 0, 0)),
  (192, (.lload 4, 2), (0, 0, 0, 0)),
  (194, (.invokevirtual 406, 3), (204, 2, 11, 0)),
  (197, (.ireturn, 1), (0, 0, 0, 0))]
noncomputable def tb_315 : List TE := [ -- X12_champion
  (0, (.aload_n 0, 1), (0, 0, 0, 0)),
  (1, (.iload_n 1, 1), (0, 0, 0, 0)),
  (2, (.invokevirtual 259, 3), (247, 1, 11, 0)),
  (5, (.ifCond .ne 9, 3), (0, 0, 0, 0)),
  (8, (.aload_n 0, 1), (0, 0, 0, 0)),
  (9, (.iconst 1, 1), (0, 0, 0, 0)),
  (10, (.invokevirtual 90, 3), (201, 1, 11, 0)),
  (13, (.ireturn, 1), (0, 0, 0, 0)),
  (14, (.iconst (-1), 1), (0, 0, 0, 0)),
  (15, (.istore_n 2, 1), (0, 0, 0, 0)),
  (16, (.ldc_w 375, 3), (0, 0, 0, 1000000)),
  (19, (.istore_n 3, 1), (0, 0, 0, 0)),
  (20, (.iconst 0, 1), (0, 0, 0, 0)),
  (21, (.istore 4, 2), (0, 0, 0, 0)),
  (23, (.iload 4, 2), (0, 0, 0, 0)),
  (25, (.aload_n 0, 1), (0, 0, 0, 0)),
  (26, (.getfield 7, 3), (11, 0, 2, 0)),
  (29, (.iconst 1, 1), (0, 0, 0, 0)),
  (30, (.iaload, 1), (0, 0, 0, 0)),
  (31, (.if_icmp .ge 40, 3), (0, 0, 0, 0)),
  (34, (.iload 4, 2), (0, 0, 0, 0)),
  (36, (.iload_n 1, 1), (0, 0, 0, 0)),
  (37, (.if_icmp .eq 28, 3), (0, 0, 0, 0)),
  (40, (.aload_n 0, 1), (0, 0, 0, 0)),
  (41, (.iload 4, 2), (0, 0, 0, 0)),
  (43, (.iload_n 1, 1), (0, 0, 0, 0)),
  (44, (.invokevirtual 380, 3), (301, 2, 11, 0)),
  (47, (.iload_n 3, 1), (0, 0, 0, 0)),
  (48, (.if_icmp .lt 6, 3), (0, 0, 0, 0)),
  (51, (.goto 14, 3), (0, 0, 0, 0)),
  (54, (.aload_n 0, 1), (0, 0, 0, 0)),
  (55, (.iload 4, 2), (0, 0, 0, 0)),
  (57, (.iload_n 1, 1), (0, 0, 0, 0)),
  (58, (.invokevirtual 380, 3), (301, 2, 11, 0)),
  (61, (.istore_n 3, 1), (0, 0, 0, 0)),
  (62, (.iload 4, 2), (0, 0, 0, 0)),
  (64, (.istore_n 2, 1), (0, 0, 0, 0)),
  (65, (.iinc 4 1, 3), (0, 0, 0, 0)),
  (68, (.goto (-45), 3), (0, 0, 0, 0)),
  (71, (.aload_n 0, 1), (0, 0, 0, 0)),
  (72, (.iload_n 2, 1), (0, 0, 0, 0)),
  (73, (.invokevirtual 293, 3), (203, 1, 11, 0)),
  (76, (.ireturn, 1), (0, 0, 0, 0))]
noncomputable def tb_316 : List TE := [ -- X12_wrongActs
  (0, (.iload_n 1, 1), (0, 0, 0, 0)),
  (1, (.invokestatic 101, 3), (205, 1, 0, 0)),
  (4, (.ifCond .eq 15, 3), (0, 0, 0, 0)),
  (7, (.iload_n 2, 1), (0, 0, 0, 0)),
  (8, (.i2l, 1), (0, 0, 0, 0)),
  (9, (.lconst 0, 1), (0, 0, 0, 0)),
  (10, (.ldc2_w 412, 3), (0, 0, 0, 20)),
  (13, (.invokestatic 262, 3), (212, 3, 0, 0)),
  (16, (.ifCond .ne 5, 3), (0, 0, 0, 0)),
  (19, (.iconst 1, 1), (0, 0, 0, 0)),
  (20, (.ireturn, 1), (0, 0, 0, 0)),
  (21, (.aload_n 0, 1), (0, 0, 0, 0)),
  (22, (.getfield 24, 3), (11, 6, 2, 0)),
  (25, (.iload_n 1, 1), (0, 0, 0, 0)),
  (26, (.iaload, 1), (0, 0, 0, 0)),
  (27, (.iconst (-1), 1), (0, 0, 0, 0)),
  (28, (.if_icmp .ne 5, 3), (0, 0, 0, 0)),
  (31, (.iconst 2, 1), (0, 0, 0, 0)),
  (32, (.ireturn, 1), (0, 0, 0, 0)),
  (33, (.aload_n 0, 1), (0, 0, 0, 0)),
  (34, (.getfield 24, 3), (11, 6, 2, 0)),
  (37, (.iload_n 1, 1), (0, 0, 0, 0)),
  (38, (.iaload, 1), (0, 0, 0, 0)),
  (39, (.iload_n 2, 1), (0, 0, 0, 0)),
  (40, (.if_icmp .ge 5, 3), (0, 0, 0, 0)),
  (43, (.iconst 3, 1), (0, 0, 0, 0)),
  (44, (.ireturn, 1), (0, 0, 0, 0)),
  (45, (.iconst 0, 1), (0, 0, 0, 0)),
  (46, (.istore_n 3, 1), (0, 0, 0, 0)),
  (47, (.iload_n 3, 1), (0, 0, 0, 0)),
  (48, (.iload_n 2, 1), (0, 0, 0, 0)),
  (49, (.if_icmp .ge 32, 3), (0, 0, 0, 0)),
  (52, (.aload_n 0, 1), (0, 0, 0, 0)),
  (53, (.getfield 27, 3), (11, 7, 2, 0)),
  (56, (.bipush 60, 2), (0, 0, 0, 0)),
  (58, (.iload_n 1, 1), (0, 0, 0, 0)),
  (59, (.imul, 1), (0, 0, 0, 0)),
  (60, (.iload_n 3, 1), (0, 0, 0, 0)),
  (61, (.iadd, 1), (0, 0, 0, 0)),
  (62, (.laload, 1), (0, 0, 0, 0)),
  (63, (.lconst 0, 1), (0, 0, 0, 0)),
  (64, (.ldc2_w 414, 3), (0, 0, 0, 3)),
  (67, (.invokestatic 262, 3), (212, 3, 0, 0)),
  (70, (.ifCond .ne 5, 3), (0, 0, 0, 0)),
  (73, (.iconst 5, 1), (0, 0, 0, 0)),
  (74, (.ireturn, 1), (0, 0, 0, 0)),
  (75, (.iinc 3 1, 3), (0, 0, 0, 0)),
  (78, (.goto (-31), 3), (0, 0, 0, 0)),
  (81, (.iconst 0, 1), (0, 0, 0, 0)),
  (82, (.ireturn, 1), (0, 0, 0, 0))]
noncomputable def tb_317 : List TE := [ -- X12_goesThrough
  (0, (.aload_n 0, 1), (0, 0, 0, 0)),
  (1, (.sipush 2832, 3), (0, 0, 0, 0)),
  (4, (.invokevirtual 359, 3), (291, 1, 11, 0)),
  (7, (.aload_n 0, 1), (0, 0, 0, 0)),
  (8, (.getfield 65, 3), (11, 30, 2, 0)),
  (11, (.iconst 0, 1), (0, 0, 0, 0)),
  (12, (.iconst 0, 1), (0, 0, 0, 0)),
  (13, (.iastore, 1), (0, 0, 0, 0)),
  (14, (.aload_n 0, 1), (0, 0, 0, 0)),
  (15, (.getfield 65, 3), (11, 30, 2, 0)),
  (18, (.iconst 1, 1), (0, 0, 0, 0)),
  (19, (.iconst 0, 1), (0, 0, 0, 0)),
  (20, (.iastore, 1), (0, 0, 0, 0)),
  (21, (.aload_n 0, 1), (0, 0, 0, 0)),
  (22, (.iconst (-1), 1), (0, 0, 0, 0)),
  (23, (.putfield 416, 3), (11, 31, 0, 0)),
  (26, (.aload_n 0, 1), (0, 0, 0, 0)),
  (27, (.getfield 7, 3), (11, 0, 2, 0)),
  (30, (.iload_n 1, 1), (0, 0, 0, 0)),
  (31, (.invokestatic 206, 3), (232, 1, 0, 0)),
  (34, (.iconst 1, 1), (0, 0, 0, 0)),
  (35, (.iadd, 1), (0, 0, 0, 0)),
  (36, (.aload_n 0, 1), (0, 0, 0, 0)),
  (37, (.iload_n 1, 1), (0, 0, 0, 0)),
  (38, (.iconst 2, 1), (0, 0, 0, 0)),
  (39, (.invokevirtual 269, 3), (252, 2, 11, 0)),
  (42, (.iastore, 1), (0, 0, 0, 0)),
  (43, (.aload_n 0, 1), (0, 0, 0, 0)),
  (44, (.getfield 7, 3), (11, 0, 2, 0)),
  (47, (.iload_n 2, 1), (0, 0, 0, 0)),
  (48, (.invokestatic 206, 3), (232, 1, 0, 0)),
  (51, (.iconst 1, 1), (0, 0, 0, 0)),
  (52, (.iadd, 1), (0, 0, 0, 0)),
  (53, (.aload_n 0, 1), (0, 0, 0, 0)),
  (54, (.iload_n 2, 1), (0, 0, 0, 0)),
  (55, (.iconst 2, 1), (0, 0, 0, 0)),
  (56, (.invokevirtual 269, 3), (252, 2, 11, 0)),
  (59, (.iastore, 1), (0, 0, 0, 0)),
  (60, (.aload_n 0, 1), (0, 0, 0, 0)),
  (61, (.iload_n 1, 1), (0, 0, 0, 0)),
  (62, (.iload_n 2, 1), (0, 0, 0, 0)),
  (63, (.invokevirtual 320, 3), (273, 2, 11, 0)),
  (66, (.pop, 1), (0, 0, 0, 0)),
  (67, (.iconst 1, 1), (0, 0, 0, 0)),
  (68, (.istore 5, 2), (0, 0, 0, 0)),
  (70, (.iconst 0, 1), (0, 0, 0, 0)),
  (71, (.istore 6, 2), (0, 0, 0, 0)),
  (73, (.iload 6, 2), (0, 0, 0, 0)),
  (75, (.iload 4, 2), (0, 0, 0, 0)),
  (77, (.if_icmp .ge 94, 3), (0, 0, 0, 0)),
  (80, (.iload 5, 2), (0, 0, 0, 0)),
  (82, (.ifCond .eq 89, 3), (0, 0, 0, 0)),
  (85, (.aload_n 0, 1), (0, 0, 0, 0)),
  (86, (.getfield 27, 3), (11, 7, 2, 0)),
  (89, (.bipush 60, 2), (0, 0, 0, 0)),
  (91, (.iload_n 3, 1), (0, 0, 0, 0)),
  (92, (.imul, 1), (0, 0, 0, 0)),
  (93, (.iload 6, 2), (0, 0, 0, 0)),
  (95, (.iadd, 1), (0, 0, 0, 0)),
  (96, (.laload, 1), (0, 0, 0, 0)),
  (97, (.l2i, 1), (0, 0, 0, 0)),
  (98, (.istore 7, 2), (0, 0, 0, 0)),
  (100, (.aload_n 0, 1), (0, 0, 0, 0)),
  (101, (.invokevirtual 308, 3), (268, 0, 11, 0)),
  (104, (.ifCond .eq 16, 3), (0, 0, 0, 0)),
  (107, (.aload_n 0, 1), (0, 0, 0, 0)),
  (108, (.iload 7, 2), (0, 0, 0, 0)),
  (110, (.invokevirtual 335, 3), (275, 1, 11, 0)),
  (113, (.ifCond .eq 7, 3), (0, 0, 0, 0)),
  (116, (.iconst 1, 1), (0, 0, 0, 0)),
  (117, (.goto 4, 3), (0, 0, 0, 0)),
  (120, (.iconst 0, 1), (0, 0, 0, 0)),
  (121, (.istore 5, 2), (0, 0, 0, 0)),
  (123, (.iload 5, 2), (0, 0, 0, 0)),
  (125, (.ifCond .ne 6, 3), (0, 0, 0, 0)),
  (128, (.goto 37, 3), (0, 0, 0, 0)),
  (131, (.iload 7, 2), (0, 0, 0, 0)),
  (133, (.iconst 3, 1), (0, 0, 0, 0)),
  (134, (.if_icmp .eq 24, 3), (0, 0, 0, 0)),
  (137, (.aload_n 0, 1), (0, 0, 0, 0)),
  (138, (.iconst 3, 1), (0, 0, 0, 0)),
  (139, (.invokevirtual 335, 3), (275, 1, 11, 0)),
  (142, (.ifCond .eq 16, 3), (0, 0, 0, 0)),
  (145, (.aload_n 0, 1), (0, 0, 0, 0)),
  (146, (.getfield 65, 3), (11, 30, 2, 0)),
  (149, (.aload_n 0, 1), (0, 0, 0, 0)),
  (150, (.invokevirtual 311, 3), (270, 0, 11, 0)),
  (153, (.dup2, 1), (0, 0, 0, 0)),
  (154, (.iaload, 1), (0, 0, 0, 0)),
  (155, (.iconst 1, 1), (0, 0, 0, 0)),
  (156, (.iadd, 1), (0, 0, 0, 0)),
  (157, (.iastore, 1), (0, 0, 0, 0)),
  (158, (.aload_n 0, 1), (0, 0, 0, 0)),
  (159, (.iload 7, 2), (0, 0, 0, 0)),
  (161, (.invokevirtual 338, 3), (279, 1, 11, 0)),
  (164, (.pop, 1), (0, 0, 0, 0)),
  (165, (.iinc 6 1, 3), (0, 0, 0, 0)),
  (168, (.goto (-95), 3), (0, 0, 0, 0)),
  (171, (.aload_n 0, 1), (0, 0, 0, 0)),
  (172, (.iload_n 1, 1), (0, 0, 0, 0)),
  (173, (.iconst 1, 1), (0, 0, 0, 0)),
  (174, (.invokevirtual 269, 3), (252, 2, 11, 0)),
  (177, (.ifCond .ne 8, 3), (0, 0, 0, 0)),
  (180, (.aload_n 0, 1), (0, 0, 0, 0)),
  (181, (.iload_n 1, 1), (0, 0, 0, 0)),
  (182, (.putfield 416, 3), (11, 31, 0, 0)),
  (185, (.aload_n 0, 1), (0, 0, 0, 0)),
  (186, (.iload_n 2, 1), (0, 0, 0, 0)),
  (187, (.iconst 1, 1), (0, 0, 0, 0)),
  (188, (.invokevirtual 269, 3), (252, 2, 11, 0)),
  (191, (.ifCond .ne 8, 3), (0, 0, 0, 0)),
  (194, (.aload_n 0, 1), (0, 0, 0, 0)),
  (195, (.iload_n 2, 1), (0, 0, 0, 0)),
  (196, (.putfield 416, 3), (11, 31, 0, 0)),
  (199, (.aload_n 0, 1), (0, 0, 0, 0)),
  (200, (.sipush 2832, 3), (0, 0, 0, 0)),
  (203, (.invokevirtual 362, 3), (292, 1, 11, 0)),
  (206, (.iload 5, 2), (0, 0, 0, 0)),
  (208, (.ireturn, 1), (0, 0, 0, 0))]
noncomputable def tb_318 : List TE := [ -- X12_heldBack
  (0, (.aload_n 0, 1), (0, 0, 0, 0)),
  (1, (.iload_n 1, 1), (0, 0, 0, 0)),
  (2, (.iload_n 2, 1), (0, 0, 0, 0)),
  (3, (.invokevirtual 305, 3), (248, 2, 11, 0)),
  (6, (.ifCond .eq 24, 3), (0, 0, 0, 0)),
  (9, (.iload 5, 2), (0, 0, 0, 0)),
  (11, (.i2l, 1), (0, 0, 0, 0)),
  (12, (.lconst 0, 1), (0, 0, 0, 0)),
  (13, (.lconst 1, 1), (0, 0, 0, 0)),
  (14, (.invokestatic 262, 3), (212, 3, 0, 0)),
  (17, (.ifCond .eq 13, 3), (0, 0, 0, 0)),
  (20, (.aload_n 0, 1), (0, 0, 0, 0)),
  (21, (.iload_n 3, 1), (0, 0, 0, 0)),
  (22, (.iload 4, 2), (0, 0, 0, 0)),
  (24, (.invokevirtual 419, 3), (316, 2, 11, 0)),
  (27, (.goto 4, 3), (0, 0, 0, 0)),
  (30, (.iconst 1, 1), (0, 0, 0, 0)),
  (31, (.istore 6, 2), (0, 0, 0, 0)),
  (33, (.iload 6, 2), (0, 0, 0, 0)),
  (35, (.ifCond .le 10, 3), (0, 0, 0, 0)),
  (38, (.aload_n 0, 1), (0, 0, 0, 0)),
  (39, (.iload 6, 2), (0, 0, 0, 0)),
  (41, (.invokevirtual 90, 3), (201, 1, 11, 0)),
  (44, (.ireturn, 1), (0, 0, 0, 0)),
  (45, (.aload_n 0, 1), (0, 0, 0, 0)),
  (46, (.iload_n 1, 1), (0, 0, 0, 0)),
  (47, (.iload_n 2, 1), (0, 0, 0, 0)),
  (48, (.iload_n 3, 1), (0, 0, 0, 0)),
  (49, (.iload 4, 2), (0, 0, 0, 0)),
  (51, (.invokevirtual 422, 3), (317, 4, 11, 0)),
  (54, (.ifCond .eq 17, 3), (0, 0, 0, 0)),
  (57, (.aload_n 0, 1), (0, 0, 0, 0)),
  (58, (.aload_n 0, 1), (0, 0, 0, 0)),
  (59, (.getfield 65, 3), (11, 30, 2, 0)),
  (62, (.iload 5, 2), (0, 0, 0, 0)),
  (64, (.iaload, 1), (0, 0, 0, 0)),
  (65, (.invokevirtual 94, 3), (202, 1, 11, 0)),
  (68, (.goto 9, 3), (0, 0, 0, 0)),
  (71, (.aload_n 0, 1), (0, 0, 0, 0)),
  (72, (.bipush 7, 2), (0, 0, 0, 0)),
  (74, (.invokevirtual 90, 3), (201, 1, 11, 0)),
  (77, (.ireturn, 1), (0, 0, 0, 0))]
noncomputable def tb_319 : List TE := [ -- X12_fallen
  (0, (.aload_n 0, 1), (0, 0, 0, 0)),
  (1, (.iload_n 1, 1), (0, 0, 0, 0)),
  (2, (.iload_n 2, 1), (0, 0, 0, 0)),
  (3, (.invokevirtual 305, 3), (248, 2, 11, 0)),
  (6, (.ifCond .eq 13, 3), (0, 0, 0, 0)),
  (9, (.aload_n 0, 1), (0, 0, 0, 0)),
  (10, (.iload_n 3, 1), (0, 0, 0, 0)),
  (11, (.iload 4, 2), (0, 0, 0, 0)),
  (13, (.invokevirtual 419, 3), (316, 2, 11, 0)),
  (16, (.goto 4, 3), (0, 0, 0, 0)),
  (19, (.iconst 1, 1), (0, 0, 0, 0)),
  (20, (.istore 5, 2), (0, 0, 0, 0)),
  (22, (.iload 5, 2), (0, 0, 0, 0)),
  (24, (.ifCond .le 10, 3), (0, 0, 0, 0)),
  (27, (.aload_n 0, 1), (0, 0, 0, 0)),
  (28, (.iload 5, 2), (0, 0, 0, 0)),
  (30, (.invokevirtual 90, 3), (201, 1, 11, 0)),
  (33, (.ireturn, 1), (0, 0, 0, 0)),
  (34, (.aload_n 0, 1), (0, 0, 0, 0)),
  (35, (.iload_n 1, 1), (0, 0, 0, 0)),
  (36, (.iload_n 2, 1), (0, 0, 0, 0)),
  (37, (.iload_n 3, 1), (0, 0, 0, 0)),
  (38, (.iload 4, 2), (0, 0, 0, 0)),
  (40, (.invokevirtual 422, 3), (317, 4, 11, 0)),
  (43, (.ifCond .eq 14, 3), (0, 0, 0, 0)),
  (46, (.aload_n 0, 1), (0, 0, 0, 0)),
  (47, (.aload_n 0, 1), (0, 0, 0, 0)),
  (48, (.getfield 416, 3), (11, 31, 0, 0)),
  (51, (.invokevirtual 293, 3), (203, 1, 11, 0)),
  (54, (.goto 9, 3), (0, 0, 0, 0)),
  (57, (.aload_n 0, 1), (0, 0, 0, 0)),
  (58, (.bipush 7, 2), (0, 0, 0, 0)),
  (60, (.invokevirtual 90, 3), (201, 1, 11, 0)),
  (63, (.ireturn, 1), (0, 0, 0, 0))]
noncomputable def tb_320 : List TE := [ -- X12_hurts
  (0, (.iload_n 1, 1), (0, 0, 0, 0)),
  (1, (.invokestatic 101, 3), (205, 1, 0, 0)),
  (4, (.ifCond .ne 9, 3), (0, 0, 0, 0)),
  (7, (.aload_n 0, 1), (0, 0, 0, 0)),
  (8, (.iconst 1, 1), (0, 0, 0, 0)),
  (9, (.invokevirtual 90, 3), (201, 1, 11, 0)),
  (12, (.ireturn, 1), (0, 0, 0, 0)),
  (13, (.aload_n 0, 1), (0, 0, 0, 0)),
  (14, (.getfield 24, 3), (11, 6, 2, 0)),
  (17, (.iload_n 1, 1), (0, 0, 0, 0)),
  (18, (.iaload, 1), (0, 0, 0, 0)),
  (19, (.iconst (-1), 1), (0, 0, 0, 0)),
  (20, (.if_icmp .ne 9, 3), (0, 0, 0, 0)),
  (23, (.aload_n 0, 1), (0, 0, 0, 0)),
  (24, (.iconst 2, 1), (0, 0, 0, 0)),
  (25, (.invokevirtual 90, 3), (201, 1, 11, 0)),
  (28, (.ireturn, 1), (0, 0, 0, 0)),
  (29, (.aload_n 0, 1), (0, 0, 0, 0)),
  (30, (.getfield 24, 3), (11, 6, 2, 0)),
  (33, (.iload_n 1, 1), (0, 0, 0, 0)),
  (34, (.iaload, 1), (0, 0, 0, 0)),
  (35, (.aload_n 0, 1), (0, 0, 0, 0)),
  (36, (.getfield 7, 3), (11, 0, 2, 0)),
  (39, (.iconst 1, 1), (0, 0, 0, 0)),
  (40, (.iaload, 1), (0, 0, 0, 0)),
  (41, (.if_icmp .ge 9, 3), (0, 0, 0, 0)),
  (44, (.aload_n 0, 1), (0, 0, 0, 0)),
  (45, (.iconst 3, 1), (0, 0, 0, 0)),
  (46, (.invokevirtual 90, 3), (201, 1, 11, 0)),
  (49, (.ireturn, 1), (0, 0, 0, 0)),
  (50, (.iconst 0, 1), (0, 0, 0, 0)),
  (51, (.istore_n 2, 1), (0, 0, 0, 0)),
  (52, (.iconst 0, 1), (0, 0, 0, 0)),
  (53, (.istore_n 3, 1), (0, 0, 0, 0)),
  (54, (.iconst 0, 1), (0, 0, 0, 0)),
  (55, (.istore 4, 2), (0, 0, 0, 0)),
  (57, (.iload 4, 2), (0, 0, 0, 0)),
  (59, (.aload_n 0, 1), (0, 0, 0, 0)),
  (60, (.getfield 7, 3), (11, 0, 2, 0)),
  (63, (.iconst 1, 1), (0, 0, 0, 0)),
  (64, (.iaload, 1), (0, 0, 0, 0)),
  (65, (.if_icmp .ge 77, 3), (0, 0, 0, 0)),
  (68, (.aload_n 0, 1), (0, 0, 0, 0)),
  (69, (.getfield 27, 3), (11, 7, 2, 0)),
  (72, (.bipush 60, 2), (0, 0, 0, 0)),
  (74, (.iload_n 1, 1), (0, 0, 0, 0)),
  (75, (.imul, 1), (0, 0, 0, 0)),
  (76, (.iload 4, 2), (0, 0, 0, 0)),
  (78, (.iadd, 1), (0, 0, 0, 0)),
  (79, (.laload, 1), (0, 0, 0, 0)),
  (80, (.lstore 5, 2), (0, 0, 0, 0)),
  (82, (.lload 5, 2), (0, 0, 0, 0)),
  (84, (.lconst 0, 1), (0, 0, 0, 0)),
  (85, (.aload_n 0, 1), (0, 0, 0, 0)),
  (86, (.getfield 7, 3), (11, 0, 2, 0)),
  (89, (.iconst 1, 1), (0, 0, 0, 0)),
  (90, (.iaload, 1), (0, 0, 0, 0)),
  (91, (.i2l, 1), (0, 0, 0, 0)),
  (92, (.lconst 1, 1), (0, 0, 0, 0)),
  (93, (.lsub, 1), (0, 0, 0, 0)),
  (94, (.invokestatic 262, 3), (212, 3, 0, 0)),
  (97, (.ifCond .eq 14, 3), (0, 0, 0, 0)),
  (100, (.aload_n 0, 1), (0, 0, 0, 0)),
  (101, (.iload_n 2, 1), (0, 0, 0, 0)),
  (102, (.lload 5, 2), (0, 0, 0, 0)),
  (104, (.l2i, 1), (0, 0, 0, 0)),
  (105, (.invokevirtual 390, 3), (250, 2, 11, 0)),
  (108, (.ifCond .eq 9, 3), (0, 0, 0, 0)),
  (111, (.aload_n 0, 1), (0, 0, 0, 0)),
  (112, (.iconst 5, 1), (0, 0, 0, 0)),
  (113, (.invokevirtual 90, 3), (201, 1, 11, 0)),
  (116, (.ireturn, 1), (0, 0, 0, 0)),
  (117, (.iload_n 3, 1), (0, 0, 0, 0)),
  (118, (.aload_n 0, 1), (0, 0, 0, 0)),
  (119, (.iload_n 2, 1), (0, 0, 0, 0)),
  (120, (.lload 5, 2), (0, 0, 0, 0)),
  (122, (.l2i, 1), (0, 0, 0, 0)),
  (123, (.invokevirtual 426, 3), (321, 2, 11, 0)),
  (126, (.iadd, 1), (0, 0, 0, 0)),
  (127, (.istore_n 3, 1), (0, 0, 0, 0)),
  (128, (.iload_n 2, 1), (0, 0, 0, 0)),
  (129, (.iconst 1, 1), (0, 0, 0, 0)),
  (130, (.lload 5, 2), (0, 0, 0, 0)),
  (132, (.l2i, 1), (0, 0, 0, 0)),
  (133, (.ishl, 1), (0, 0, 0, 0)),
  (134, (.ior, 1), (0, 0, 0, 0)),
  (135, (.istore_n 2, 1), (0, 0, 0, 0)),
  (136, (.iinc 4 1, 3), (0, 0, 0, 0)),
  (139, (.goto (-82), 3), (0, 0, 0, 0)),
  (142, (.aload_n 0, 1), (0, 0, 0, 0)),
  (143, (.iload_n 3, 1), (0, 0, 0, 0)),
  (144, (.invokevirtual 94, 3), (202, 1, 11, 0)),
  (147, (.ireturn, 1), (0, 0, 0, 0))]
noncomputable def tb_321 : List TE := [ -- X12_hurtsOf
  (0, (.iconst 0, 1), (0, 0, 0, 0)),
  (1, (.istore_n 3, 1), (0, 0, 0, 0)),
  (2, (.iconst 0, 1), (0, 0, 0, 0)),
  (3, (.istore 4, 2), (0, 0, 0, 0)),
  (5, (.iload 4, 2), (0, 0, 0, 0)),
  (7, (.aload_n 0, 1), (0, 0, 0, 0)),
  (8, (.getfield 7, 3), (11, 0, 2, 0)),
  (11, (.iconst 1, 1), (0, 0, 0, 0)),
  (12, (.iaload, 1), (0, 0, 0, 0)),
  (13, (.if_icmp .ge 35, 3), (0, 0, 0, 0)),
  (16, (.iload_n 3, 1), (0, 0, 0, 0)),
  (17, (.aload_n 0, 1), (0, 0, 0, 0)),
  (18, (.iload_n 1, 1), (0, 0, 0, 0)),
  (19, (.iload 4, 2), (0, 0, 0, 0)),
  (21, (.invokevirtual 390, 3), (250, 2, 11, 0)),
  (24, (.ifCond .eq 15, 3), (0, 0, 0, 0)),
  (27, (.aload_n 0, 1), (0, 0, 0, 0)),
  (28, (.iload 4, 2), (0, 0, 0, 0)),
  (30, (.iconst 4, 1), (0, 0, 0, 0)),
  (31, (.iload_n 2, 1), (0, 0, 0, 0)),
  (32, (.iadd, 1), (0, 0, 0, 0)),
  (33, (.invokevirtual 269, 3), (252, 2, 11, 0)),
  (36, (.goto 4, 3), (0, 0, 0, 0)),
  (39, (.iconst 0, 1), (0, 0, 0, 0)),
  (40, (.iadd, 1), (0, 0, 0, 0)),
  (41, (.istore_n 3, 1), (0, 0, 0, 0)),
  (42, (.iinc 4 1, 3), (0, 0, 0, 0)),
  (45, (.goto (-40), 3), (0, 0, 0, 0)),
  (48, (.iload_n 3, 1), (0, 0, 0, 0)),
  (49, (.ireturn, 1), (0, 0, 0, 0))]
noncomputable def tb_322 : List TE := [ -- X12_laysLeast
  (0, (.iconst 1, 1), (0, 0, 0, 0)),
  (1, (.aload_n 0, 1), (0, 0, 0, 0)),
  (2, (.getfield 7, 3), (11, 0, 2, 0)),
  (5, (.iconst 1, 1), (0, 0, 0, 0)),
  (6, (.iaload, 1), (0, 0, 0, 0)),
  (7, (.ishl, 1), (0, 0, 0, 0)),
  (8, (.iconst 1, 1), (0, 0, 0, 0)),
  (9, (.isub, 1), (0, 0, 0, 0)),
  (10, (.istore_n 1, 1), (0, 0, 0, 0)),
  (11, (.iload_n 1, 1), (0, 0, 0, 0)),
  (12, (.istore_n 2, 1), (0, 0, 0, 0)),
  (13, (.iload_n 2, 1), (0, 0, 0, 0)),
  (14, (.ifCond .lt 86, 3), (0, 0, 0, 0)),
  (17, (.aload_n 0, 1), (0, 0, 0, 0)),
  (18, (.getfield 68, 3), (11, 32, 2, 0)),
  (21, (.iload_n 2, 1), (0, 0, 0, 0)),
  (22, (.iload_n 2, 1), (0, 0, 0, 0)),
  (23, (.iload_n 1, 1), (0, 0, 0, 0)),
  (24, (.if_icmp .ne 7, 3), (0, 0, 0, 0)),
  (27, (.iconst 0, 1), (0, 0, 0, 0)),
  (28, (.goto 6, 3), (0, 0, 0, 0)),
  (31, (.ldc_w 375, 3), (0, 0, 0, 1000000)),
  (34, (.iastore, 1), (0, 0, 0, 0)),
  (35, (.iconst 0, 1), (0, 0, 0, 0)),
  (36, (.istore_n 3, 1), (0, 0, 0, 0)),
  (37, (.iload_n 3, 1), (0, 0, 0, 0)),
  (38, (.aload_n 0, 1), (0, 0, 0, 0)),
  (39, (.getfield 7, 3), (11, 0, 2, 0)),
  (42, (.iconst 1, 1), (0, 0, 0, 0)),
  (43, (.iaload, 1), (0, 0, 0, 0)),
  (44, (.if_icmp .ge 50, 3), (0, 0, 0, 0)),
  (47, (.aload_n 0, 1), (0, 0, 0, 0)),
  (48, (.iload_n 2, 1), (0, 0, 0, 0)),
  (49, (.iload_n 3, 1), (0, 0, 0, 0)),
  (50, (.invokevirtual 390, 3), (250, 2, 11, 0)),
  (53, (.ifCond .ne 35, 3), (0, 0, 0, 0)),
  (56, (.aload_n 0, 1), (0, 0, 0, 0)),
  (57, (.getfield 68, 3), (11, 32, 2, 0)),
  (60, (.iload_n 2, 1), (0, 0, 0, 0)),
  (61, (.aload_n 0, 1), (0, 0, 0, 0)),
  (62, (.getfield 68, 3), (11, 32, 2, 0)),
  (65, (.iload_n 2, 1), (0, 0, 0, 0)),
  (66, (.iaload, 1), (0, 0, 0, 0)),
  (67, (.aload_n 0, 1), (0, 0, 0, 0)),
  (68, (.iload_n 2, 1), (0, 0, 0, 0)),
  (69, (.iload_n 3, 1), (0, 0, 0, 0)),
  (70, (.invokevirtual 426, 3), (321, 2, 11, 0)),
  (73, (.aload_n 0, 1), (0, 0, 0, 0)),
  (74, (.getfield 68, 3), (11, 32, 2, 0)),
  (77, (.iload_n 2, 1), (0, 0, 0, 0)),
  (78, (.iconst 1, 1), (0, 0, 0, 0)),
  (79, (.iload_n 3, 1), (0, 0, 0, 0)),
  (80, (.ishl, 1), (0, 0, 0, 0)),
  (81, (.ior, 1), (0, 0, 0, 0)),
  (82, (.iaload, 1), (0, 0, 0, 0)),
  (83, (.iadd, 1), (0, 0, 0, 0)),
  (84, (.invokestatic 145, 3), (342, 2, 0, 0)),
  (87, (.iastore, 1), (0, 0, 0, 0)),
  (88, (.iinc 3 1, 3), (0, 0, 0, 0)),
  (91, (.goto (-54), 3), (0, 0, 0, 0)),
  (94, (.iinc 2 (-1), 3), (0, 0, 0, 0)),
  (97, (.goto (-84), 3), (0, 0, 0, 0)),
  (100, (.return_, 1), (0, 0, 0, 0))]
noncomputable def tb_323 : List TE := [ -- X12_least
  (0, (.aload_n 0, 1), (0, 0, 0, 0)),
  (1, (.invokevirtual 429, 3), (322, 0, 11, 0)),
  (4, (.aload_n 0, 1), (0, 0, 0, 0)),
  (5, (.aload_n 0, 1), (0, 0, 0, 0)),
  (6, (.getfield 68, 3), (11, 32, 2, 0)),
  (9, (.iconst 0, 1), (0, 0, 0, 0)),
  (10, (.iaload, 1), (0, 0, 0, 0)),
  (11, (.invokevirtual 94, 3), (202, 1, 11, 0)),
  (14, (.ireturn, 1), (0, 0, 0, 0))]
noncomputable def tb_324 : List TE := [ -- X12_leastAt
  (0, (.aload_n 0, 1), (0, 0, 0, 0)),
  (1, (.iload_n 1, 1), (0, 0, 0, 0)),
  (2, (.invokevirtual 259, 3), (247, 1, 11, 0)),
  (5, (.ifCond .ne 9, 3), (0, 0, 0, 0)),
  (8, (.aload_n 0, 1), (0, 0, 0, 0)),
  (9, (.iconst 1, 1), (0, 0, 0, 0)),
  (10, (.invokevirtual 90, 3), (201, 1, 11, 0)),
  (13, (.ireturn, 1), (0, 0, 0, 0)),
  (14, (.aload_n 0, 1), (0, 0, 0, 0)),
  (15, (.invokevirtual 429, 3), (322, 0, 11, 0)),
  (18, (.iconst 0, 1), (0, 0, 0, 0)),
  (19, (.istore_n 2, 1), (0, 0, 0, 0)),
  (20, (.iconst (-1), 1), (0, 0, 0, 0)),
  (21, (.istore_n 3, 1), (0, 0, 0, 0)),
  (22, (.iconst 0, 1), (0, 0, 0, 0)),
  (23, (.istore 4, 2), (0, 0, 0, 0)),
  (25, (.iload 4, 2), (0, 0, 0, 0)),
  (27, (.iload_n 1, 1), (0, 0, 0, 0)),
  (28, (.if_icmp .gt 58, 3), (0, 0, 0, 0)),
  (31, (.iconst 0, 1), (0, 0, 0, 0)),
  (32, (.istore_n 3, 1), (0, 0, 0, 0)),
  (33, (.aload_n 0, 1), (0, 0, 0, 0)),
  (34, (.iload_n 2, 1), (0, 0, 0, 0)),
  (35, (.iload_n 3, 1), (0, 0, 0, 0)),
  (36, (.invokevirtual 390, 3), (250, 2, 11, 0)),
  (39, (.ifCond .ne 29, 3), (0, 0, 0, 0)),
  (42, (.aload_n 0, 1), (0, 0, 0, 0)),
  (43, (.iload_n 2, 1), (0, 0, 0, 0)),
  (44, (.iload_n 3, 1), (0, 0, 0, 0)),
  (45, (.invokevirtual 426, 3), (321, 2, 11, 0)),
  (48, (.aload_n 0, 1), (0, 0, 0, 0)),
  (49, (.getfield 68, 3), (11, 32, 2, 0)),
  (52, (.iload_n 2, 1), (0, 0, 0, 0)),
  (53, (.iconst 1, 1), (0, 0, 0, 0)),
  (54, (.iload_n 3, 1), (0, 0, 0, 0)),
  (55, (.ishl, 1), (0, 0, 0, 0)),
  (56, (.ior, 1), (0, 0, 0, 0)),
  (57, (.iaload, 1), (0, 0, 0, 0)),
  (58, (.iadd, 1), (0, 0, 0, 0)),
  (59, (.aload_n 0, 1), (0, 0, 0, 0)),
  (60, (.getfield 68, 3), (11, 32, 2, 0)),
  (63, (.iload_n 2, 1), (0, 0, 0, 0)),
  (64, (.iaload, 1), (0, 0, 0, 0)),
  (65, (.if_icmp .eq 9, 3), (0, 0, 0, 0)),
  (68, (.iinc 3 1, 3), (0, 0, 0, 0)),
  (71, (.goto (-38), 3), (0, 0, 0, 0)),
  (74, (.iload_n 2, 1), (0, 0, 0, 0)),
  (75, (.iconst 1, 1), (0, 0, 0, 0)),
  (76, (.iload_n 3, 1), (0, 0, 0, 0)),
  (77, (.ishl, 1), (0, 0, 0, 0)),
  (78, (.ior, 1), (0, 0, 0, 0)),
  (79, (.istore_n 2, 1), (0, 0, 0, 0)),
  (80, (.iinc 4 1, 3), (0, 0, 0, 0)),
  (83, (.goto (-58), 3), (0, 0, 0, 0)),
  (86, (.aload_n 0, 1), (0, 0, 0, 0)),
  (87, (.iload_n 3, 1), (0, 0, 0, 0)),
  (88, (.invokevirtual 94, 3), (202, 1, 11, 0)),
  (91, (.ireturn, 1), (0, 0, 0, 0))]
noncomputable def tb_325 : List TE := [ -- X12_copyLife
  (0, (.iload_n 1, 1), (0, 0, 0, 0)),
  (1, (.invokestatic 101, 3), (205, 1, 0, 0)),
  (4, (.ifCond .ne 9, 3), (0, 0, 0, 0)),
  (7, (.aload_n 0, 1), (0, 0, 0, 0)),
  (8, (.iconst 1, 1), (0, 0, 0, 0)),
  (9, (.invokevirtual 90, 3), (201, 1, 11, 0)),
  (12, (.ireturn, 1), (0, 0, 0, 0)),
  (13, (.aload_n 0, 1), (0, 0, 0, 0)),
  (14, (.getfield 24, 3), (11, 6, 2, 0)),
  (17, (.iload_n 1, 1), (0, 0, 0, 0)),
  (18, (.iaload, 1), (0, 0, 0, 0)),
  (19, (.iconst (-1), 1), (0, 0, 0, 0)),
  (20, (.if_icmp .ne 9, 3), (0, 0, 0, 0)),
  (23, (.aload_n 0, 1), (0, 0, 0, 0)),
  (24, (.iconst 2, 1), (0, 0, 0, 0)),
  (25, (.invokevirtual 90, 3), (201, 1, 11, 0)),
  (28, (.ireturn, 1), (0, 0, 0, 0)),
  (29, (.aload_n 0, 1), (0, 0, 0, 0)),
  (30, (.getfield 24, 3), (11, 6, 2, 0)),
  (33, (.iload_n 1, 1), (0, 0, 0, 0)),
  (34, (.iaload, 1), (0, 0, 0, 0)),
  (35, (.aload_n 0, 1), (0, 0, 0, 0)),
  (36, (.getfield 7, 3), (11, 0, 2, 0)),
  (39, (.iconst 1, 1), (0, 0, 0, 0)),
  (40, (.iaload, 1), (0, 0, 0, 0)),
  (41, (.if_icmp .ge 9, 3), (0, 0, 0, 0)),
  (44, (.aload_n 0, 1), (0, 0, 0, 0)),
  (45, (.iconst 3, 1), (0, 0, 0, 0)),
  (46, (.invokevirtual 90, 3), (201, 1, 11, 0)),
  (49, (.ireturn, 1), (0, 0, 0, 0)),
  (50, (.iconst 0, 1), (0, 0, 0, 0)),
  (51, (.istore_n 2, 1), (0, 0, 0, 0)),
  (52, (.iload_n 2, 1), (0, 0, 0, 0)),
  (53, (.aload_n 0, 1), (0, 0, 0, 0)),
  (54, (.getfield 7, 3), (11, 0, 2, 0)),
  (57, (.iconst 1, 1), (0, 0, 0, 0)),
  (58, (.iaload, 1), (0, 0, 0, 0)),
  (59, (.if_icmp .ge 36, 3), (0, 0, 0, 0)),
  (62, (.aload_n 0, 1), (0, 0, 0, 0)),
  (63, (.getfield 27, 3), (11, 7, 2, 0)),
  (66, (.bipush 60, 2), (0, 0, 0, 0)),
  (68, (.iload_n 1, 1), (0, 0, 0, 0)),
  (69, (.imul, 1), (0, 0, 0, 0)),
  (70, (.iload_n 2, 1), (0, 0, 0, 0)),
  (71, (.iadd, 1), (0, 0, 0, 0)),
  (72, (.aload_n 0, 1), (0, 0, 0, 0)),
  (73, (.iload_n 2, 1), (0, 0, 0, 0)),
  (74, (.iconst 1, 1), (0, 0, 0, 0)),
  (75, (.invokevirtual 269, 3), (252, 2, 11, 0)),
  (78, (.i2l, 1), (0, 0, 0, 0)),
  (79, (.aload_n 0, 1), (0, 0, 0, 0)),
  (80, (.getfield 21, 3), (11, 5, 2, 0)),
  (83, (.iload_n 1, 1), (0, 0, 0, 0)),
  (84, (.iaload, 1), (0, 0, 0, 0)),
  (85, (.invokestatic 108, 3), (206, 2, 0, 0)),
  (88, (.lastore, 1), (0, 0, 0, 0)),
  (89, (.iinc 2 1, 3), (0, 0, 0, 0)),
  (92, (.goto (-40), 3), (0, 0, 0, 0)),
  (95, (.aload_n 0, 1), (0, 0, 0, 0)),
  (96, (.aload_n 0, 1), (0, 0, 0, 0)),
  (97, (.getfield 7, 3), (11, 0, 2, 0)),
  (100, (.iconst 1, 1), (0, 0, 0, 0)),
  (101, (.iaload, 1), (0, 0, 0, 0)),
  (102, (.invokevirtual 94, 3), (202, 1, 11, 0)),
  (105, (.ireturn, 1), (0, 0, 0, 0))]
noncomputable def tb_326 : List TE := [ -- X12_draw
  (0, (.aload_n 0, 1), (0, 0, 0, 0)),
  (1, (.aload_n 0, 1), (0, 0, 0, 0)),
  (2, (.getfield 432, 3), (11, 33, 0, 0)),
  (5, (.sipush 3137, 3), (0, 0, 0, 0)),
  (8, (.imul, 1), (0, 0, 0, 0)),
  (9, (.sipush 11353, 3), (0, 0, 0, 0)),
  (12, (.iadd, 1), (0, 0, 0, 0)),
  (13, (.ldc_w 435, 3), (0, 0, 0, 65536)),
  (16, (.irem, 1), (0, 0, 0, 0)),
  (17, (.putfield 432, 3), (11, 33, 0, 0)),
  (20, (.aload_n 0, 1), (0, 0, 0, 0)),
  (21, (.getfield 432, 3), (11, 33, 0, 0)),
  (24, (.bipush 8, 2), (0, 0, 0, 0)),
  (26, (.idiv, 1), (0, 0, 0, 0)),
  (27, (.iload_n 1, 1), (0, 0, 0, 0)),
  (28, (.irem, 1), (0, 0, 0, 0)),
  (29, (.ireturn, 1), (0, 0, 0, 0))]
noncomputable def tb_327 : List TE := [ -- X12_actsBy
  (0, (.aload_n 0, 1), (0, 0, 0, 0)),
  (1, (.invokevirtual 308, 3), (268, 0, 11, 0)),
  (4, (.ifCond .eq 11, 3), (0, 0, 0, 0)),
  (7, (.aload_n 0, 1), (0, 0, 0, 0)),
  (8, (.iload_n 1, 1), (0, 0, 0, 0)),
  (9, (.invokevirtual 335, 3), (275, 1, 11, 0)),
  (12, (.ifCond .ne 5, 3), (0, 0, 0, 0)),
  (15, (.iconst 0, 1), (0, 0, 0, 0)),
  (16, (.ireturn, 1), (0, 0, 0, 0)),
  (17, (.aload_n 0, 1), (0, 0, 0, 0)),
  (18, (.getfield 74, 3), (11, 36, 2, 0)),
  (21, (.iconst 3, 1), (0, 0, 0, 0)),
  (22, (.dup2, 1), (0, 0, 0, 0)),
  (23, (.iaload, 1), (0, 0, 0, 0)),
  (24, (.aload_n 0, 1), (0, 0, 0, 0)),
  (25, (.iload_n 1, 1), (0, 0, 0, 0)),
  (26, (.invokevirtual 338, 3), (279, 1, 11, 0)),
  (29, (.iadd, 1), (0, 0, 0, 0)),
  (30, (.iastore, 1), (0, 0, 0, 0)),
  (31, (.aload_n 0, 1), (0, 0, 0, 0)),
  (32, (.getfield 74, 3), (11, 36, 2, 0)),
  (35, (.iconst 1, 1), (0, 0, 0, 0)),
  (36, (.dup2, 1), (0, 0, 0, 0)),
  (37, (.iaload, 1), (0, 0, 0, 0)),
  (38, (.iconst 1, 1), (0, 0, 0, 0)),
  (39, (.iadd, 1), (0, 0, 0, 0)),
  (40, (.iastore, 1), (0, 0, 0, 0)),
  (41, (.aload_n 0, 1), (0, 0, 0, 0)),
  (42, (.getfield 74, 3), (11, 36, 2, 0)),
  (45, (.iconst 2, 1), (0, 0, 0, 0)),
  (46, (.dup2, 1), (0, 0, 0, 0)),
  (47, (.iaload, 1), (0, 0, 0, 0)),
  (48, (.aload_n 0, 1), (0, 0, 0, 0)),
  (49, (.invokevirtual 308, 3), (268, 0, 11, 0)),
  (52, (.ifCond .eq 7, 3), (0, 0, 0, 0)),
  (55, (.iconst 0, 1), (0, 0, 0, 0)),
  (56, (.goto 4, 3), (0, 0, 0, 0)),
  (59, (.iconst 1, 1), (0, 0, 0, 0)),
  (60, (.iadd, 1), (0, 0, 0, 0)),
  (61, (.iastore, 1), (0, 0, 0, 0)),
  (62, (.iconst 1, 1), (0, 0, 0, 0)),
  (63, (.ireturn, 1), (0, 0, 0, 0))]
noncomputable def tb_328 : List TE := [ -- X12_does
  (0, (.aload_n 0, 1), (0, 0, 0, 0)),
  (1, (.getfield 7, 3), (11, 0, 2, 0)),
  (4, (.iload_n 1, 1), (0, 0, 0, 0)),
  (5, (.iconst 1, 1), (0, 0, 0, 0)),
  (6, (.iadd, 1), (0, 0, 0, 0)),
  (7, (.iaload, 1), (0, 0, 0, 0)),
  (8, (.istore_n 2, 1), (0, 0, 0, 0)),
  (9, (.aload_n 0, 1), (0, 0, 0, 0)),
  (10, (.getfield 7, 3), (11, 0, 2, 0)),
  (13, (.iload_n 1, 1), (0, 0, 0, 0)),
  (14, (.iaload, 1), (0, 0, 0, 0)),
  (15, (.lookupswitch 71 #[(12, 33), (17, 47), (18, 61)], 33), (0, 0, 0, 0)),
  (48, (.aload_n 0, 1), (0, 0, 0, 0)),
  (49, (.iload_n 2, 1), (0, 0, 0, 0)),
  (50, (.aload_n 0, 1), (0, 0, 0, 0)),
  (51, (.getfield 7, 3), (11, 0, 2, 0)),
  (54, (.iload_n 1, 1), (0, 0, 0, 0)),
  (55, (.iconst 2, 1), (0, 0, 0, 0)),
  (56, (.iadd, 1), (0, 0, 0, 0)),
  (57, (.iaload, 1), (0, 0, 0, 0)),
  (58, (.invokevirtual 320, 3), (273, 2, 11, 0)),
  (61, (.ireturn, 1), (0, 0, 0, 0)),
  (62, (.aload_n 0, 1), (0, 0, 0, 0)),
  (63, (.iload_n 2, 1), (0, 0, 0, 0)),
  (64, (.aload_n 0, 1), (0, 0, 0, 0)),
  (65, (.getfield 7, 3), (11, 0, 2, 0)),
  (68, (.iload_n 1, 1), (0, 0, 0, 0)),
  (69, (.iconst 2, 1), (0, 0, 0, 0)),
  (70, (.iadd, 1), (0, 0, 0, 0)),
  (71, (.iaload, 1), (0, 0, 0, 0)),
  (72, (.invokevirtual 343, 3), (286, 2, 11, 0)),
  (75, (.ireturn, 1), (0, 0, 0, 0)),
  (76, (.aload_n 0, 1), (0, 0, 0, 0)),
  (77, (.aload_n 0, 1), (0, 0, 0, 0)),
  (78, (.iconst 4, 1), (0, 0, 0, 0)),
  (79, (.invokevirtual 436, 3), (326, 1, 11, 0)),
  (82, (.invokevirtual 439, 3), (327, 1, 11, 0)),
  (85, (.ireturn, 1), (0, 0, 0, 0)),
  (86, (.aload_n 0, 1), (0, 0, 0, 0)),
  (87, (.getfield 7, 3), (11, 0, 2, 0)),
  (90, (.iload_n 1, 1), (0, 0, 0, 0)),
  (91, (.iaload, 1), (0, 0, 0, 0)),
  (92, (.bipush 13, 2), (0, 0, 0, 0)),
  (94, (.if_icmp .lt 30, 3), (0, 0, 0, 0)),
  (97, (.aload_n 0, 1), (0, 0, 0, 0)),
  (98, (.getfield 7, 3), (11, 0, 2, 0)),
  (101, (.iload_n 1, 1), (0, 0, 0, 0)),
  (102, (.iaload, 1), (0, 0, 0, 0)),
  (103, (.bipush 16, 2), (0, 0, 0, 0)),
  (105, (.if_icmp .gt 19, 3), (0, 0, 0, 0)),
  (108, (.aload_n 0, 1), (0, 0, 0, 0)),
  (109, (.aload_n 0, 1), (0, 0, 0, 0)),
  (110, (.getfield 7, 3), (11, 0, 2, 0)),
  (113, (.iload_n 1, 1), (0, 0, 0, 0)),
  (114, (.iaload, 1), (0, 0, 0, 0)),
  (115, (.bipush 13, 2), (0, 0, 0, 0)),
  (117, (.isub, 1), (0, 0, 0, 0)),
  (118, (.invokevirtual 439, 3), (327, 1, 11, 0)),
  (121, (.ifCond .eq 7, 3), (0, 0, 0, 0)),
  (124, (.iconst 1, 1), (0, 0, 0, 0)),
  (125, (.goto 4, 3), (0, 0, 0, 0)),
  (128, (.iconst 0, 1), (0, 0, 0, 0)),
  (129, (.ireturn, 1), (0, 0, 0, 0))]
noncomputable def tb_329 : List TE := [ -- X12_isSo
  (0, (.aload_n 0, 1), (0, 0, 0, 0)),
  (1, (.getfield 7, 3), (11, 0, 2, 0)),
  (4, (.iload_n 1, 1), (0, 0, 0, 0)),
  (5, (.iaload, 1), (0, 0, 0, 0)),
  (6, (.sipush 1900, 3), (0, 0, 0, 0)),
  (9, (.isub, 1), (0, 0, 0, 0)),
  (10, (.istore_n 2, 1), (0, 0, 0, 0)),
  (11, (.iload_n 2, 1), (0, 0, 0, 0)),
  (12, (.bipush 25, 2), (0, 0, 0, 0)),
  (14, (.if_icmp .ne 8, 3), (0, 0, 0, 0)),
  (17, (.aload_n 0, 1), (0, 0, 0, 0)),
  (18, (.invokevirtual 308, 3), (268, 0, 11, 0)),
  (21, (.ireturn, 1), (0, 0, 0, 0)),
  (22, (.iload_n 2, 1), (0, 0, 0, 0)),
  (23, (.bipush 24, 2), (0, 0, 0, 0)),
  (25, (.if_icmp .ne 16, 3), (0, 0, 0, 0)),
  (28, (.aload_n 0, 1), (0, 0, 0, 0)),
  (29, (.aload_n 0, 1), (0, 0, 0, 0)),
  (30, (.getfield 7, 3), (11, 0, 2, 0)),
  (33, (.iload_n 1, 1), (0, 0, 0, 0)),
  (34, (.iconst 1, 1), (0, 0, 0, 0)),
  (35, (.iadd, 1), (0, 0, 0, 0)),
  (36, (.iaload, 1), (0, 0, 0, 0)),
  (37, (.invokevirtual 272, 3), (253, 1, 11, 0)),
  (40, (.ireturn, 1), (0, 0, 0, 0)),
  (41, (.iload_n 2, 1), (0, 0, 0, 0)),
  (42, (.bipush 10, 2), (0, 0, 0, 0)),
  (44, (.if_icmp .ne 19, 3), (0, 0, 0, 0)),
  (47, (.aload_n 0, 1), (0, 0, 0, 0)),
  (48, (.aload_n 0, 1), (0, 0, 0, 0)),
  (49, (.getfield 7, 3), (11, 0, 2, 0)),
  (52, (.iload_n 1, 1), (0, 0, 0, 0)),
  (53, (.iconst 1, 1), (0, 0, 0, 0)),
  (54, (.iadd, 1), (0, 0, 0, 0)),
  (55, (.iaload, 1), (0, 0, 0, 0)),
  (56, (.iconst 1, 1), (0, 0, 0, 0)),
  (57, (.invokevirtual 269, 3), (252, 2, 11, 0)),
  (60, (.goto 7, 3), (0, 0, 0, 0)),
  (63, (.aload_n 0, 1), (0, 0, 0, 0)),
  (64, (.invokevirtual 314, 3), (269, 0, 11, 0)),
  (67, (.istore_n 3, 1), (0, 0, 0, 0)),
  (68, (.aload_n 0, 1), (0, 0, 0, 0)),
  (69, (.getfield 7, 3), (11, 0, 2, 0)),
  (72, (.iload_n 1, 1), (0, 0, 0, 0)),
  (73, (.iconst 5, 1), (0, 0, 0, 0)),
  (74, (.iadd, 1), (0, 0, 0, 0)),
  (75, (.iaload, 1), (0, 0, 0, 0)),
  (76, (.bipush 60, 2), (0, 0, 0, 0)),
  (78, (.if_icmp .ne 23, 3), (0, 0, 0, 0)),
  (81, (.iload_n 3, 1), (0, 0, 0, 0)),
  (82, (.aload_n 0, 1), (0, 0, 0, 0)),
  (83, (.getfield 7, 3), (11, 0, 2, 0)),
  (86, (.iload_n 1, 1), (0, 0, 0, 0)),
  (87, (.iconst 2, 1), (0, 0, 0, 0)),
  (88, (.iadd, 1), (0, 0, 0, 0)),
  (89, (.iaload, 1), (0, 0, 0, 0)),
  (90, (.if_icmp .ge 7, 3), (0, 0, 0, 0)),
  (93, (.iconst 1, 1), (0, 0, 0, 0)),
  (94, (.goto 57, 3), (0, 0, 0, 0)),
  (97, (.iconst 0, 1), (0, 0, 0, 0)),
  (98, (.goto 53, 3), (0, 0, 0, 0)),
  (101, (.aload_n 0, 1), (0, 0, 0, 0)),
  (102, (.getfield 7, 3), (11, 0, 2, 0)),
  (105, (.iload_n 1, 1), (0, 0, 0, 0)),
  (106, (.iconst 5, 1), (0, 0, 0, 0)),
  (107, (.iadd, 1), (0, 0, 0, 0)),
  (108, (.iaload, 1), (0, 0, 0, 0)),
  (109, (.bipush 62, 2), (0, 0, 0, 0)),
  (111, (.if_icmp .ne 23, 3), (0, 0, 0, 0)),
  (114, (.iload_n 3, 1), (0, 0, 0, 0)),
  (115, (.aload_n 0, 1), (0, 0, 0, 0)),
  (116, (.getfield 7, 3), (11, 0, 2, 0)),
  (119, (.iload_n 1, 1), (0, 0, 0, 0)),
  (120, (.iconst 2, 1), (0, 0, 0, 0)),
  (121, (.iadd, 1), (0, 0, 0, 0)),
  (122, (.iaload, 1), (0, 0, 0, 0)),
  (123, (.if_icmp .le 7, 3), (0, 0, 0, 0)),
  (126, (.iconst 1, 1), (0, 0, 0, 0)),
  (127, (.goto 24, 3), (0, 0, 0, 0)),
  (130, (.iconst 0, 1), (0, 0, 0, 0)),
  (131, (.goto 20, 3), (0, 0, 0, 0)),
  (134, (.iload_n 3, 1), (0, 0, 0, 0)),
  (135, (.aload_n 0, 1), (0, 0, 0, 0)),
  (136, (.getfield 7, 3), (11, 0, 2, 0)),
  (139, (.iload_n 1, 1), (0, 0, 0, 0)),
  (140, (.iconst 2, 1), (0, 0, 0, 0)),
  (141, (.iadd, 1), (0, 0, 0, 0)),
  (142, (.iaload, 1), (0, 0, 0, 0)),
  (143, (.if_icmp .ne 7, 3), (0, 0, 0, 0)),
  (146, (.iconst 1, 1), (0, 0, 0, 0)),
  (147, (.goto 4, 3), (0, 0, 0, 0)),
  (150, (.iconst 0, 1), (0, 0, 0, 0)),
  (151, (.ireturn, 1), (0, 0, 0, 0))]
noncomputable def tb_330 : List TE := [ -- X12_behindEnds
  (0, (.iload_n 1, 1), (0, 0, 0, 0)),
  (1, (.istore_n 2, 1), (0, 0, 0, 0)),
  (2, (.iload_n 2, 1), (0, 0, 0, 0)),
  (3, (.aload_n 0, 1), (0, 0, 0, 0)),
  (4, (.getfield 7, 3), (11, 0, 2, 0)),
  (7, (.bipush 11, 2), (0, 0, 0, 0)),
  (9, (.iaload, 1), (0, 0, 0, 0)),
  (10, (.if_icmp .ge 105, 3), (0, 0, 0, 0)),
  (13, (.aload_n 0, 1), (0, 0, 0, 0)),
  (14, (.getfield 7, 3), (11, 0, 2, 0)),
  (17, (.bipush 104, 2), (0, 0, 0, 0)),
  (19, (.bipush 6, 2), (0, 0, 0, 0)),
  (21, (.iload_n 2, 1), (0, 0, 0, 0)),
  (22, (.imul, 1), (0, 0, 0, 0)),
  (23, (.iadd, 1), (0, 0, 0, 0)),
  (24, (.iaload, 1), (0, 0, 0, 0)),
  (25, (.bipush 21, 2), (0, 0, 0, 0)),
  (27, (.if_icmp .ne 88, 3), (0, 0, 0, 0)),
  (30, (.aload_n 0, 1), (0, 0, 0, 0)),
  (31, (.getfield 7, 3), (11, 0, 2, 0)),
  (34, (.bipush 104, 2), (0, 0, 0, 0)),
  (36, (.bipush 6, 2), (0, 0, 0, 0)),
  (38, (.iload_n 2, 1), (0, 0, 0, 0)),
  (39, (.imul, 1), (0, 0, 0, 0)),
  (40, (.iadd, 1), (0, 0, 0, 0)),
  (41, (.iconst 4, 1), (0, 0, 0, 0)),
  (42, (.iadd, 1), (0, 0, 0, 0)),
  (43, (.iaload, 1), (0, 0, 0, 0)),
  (44, (.istore_n 3, 1), (0, 0, 0, 0)),
  (45, (.aload_n 0, 1), (0, 0, 0, 0)),
  (46, (.getfield 7, 3), (11, 0, 2, 0)),
  (49, (.bipush 104, 2), (0, 0, 0, 0)),
  (51, (.bipush 6, 2), (0, 0, 0, 0)),
  (53, (.iload_n 3, 1), (0, 0, 0, 0)),
  (54, (.imul, 1), (0, 0, 0, 0)),
  (55, (.iadd, 1), (0, 0, 0, 0)),
  (56, (.iaload, 1), (0, 0, 0, 0)),
  (57, (.bipush 20, 2), (0, 0, 0, 0)),
  (59, (.if_icmp .ne 16, 3), (0, 0, 0, 0)),
  (62, (.aload_n 0, 1), (0, 0, 0, 0)),
  (63, (.getfield 71, 3), (11, 35, 2, 0)),
  (66, (.iload_n 3, 1), (0, 0, 0, 0)),
  (67, (.iaload, 1), (0, 0, 0, 0)),
  (68, (.ifCond .le 7, 3), (0, 0, 0, 0)),
  (71, (.iconst 1, 1), (0, 0, 0, 0)),
  (72, (.goto 4, 3), (0, 0, 0, 0)),
  (75, (.iconst 0, 1), (0, 0, 0, 0)),
  (76, (.istore 4, 2), (0, 0, 0, 0)),
  (78, (.aload_n 0, 1), (0, 0, 0, 0)),
  (79, (.getfield 71, 3), (11, 35, 2, 0)),
  (82, (.iload_n 3, 1), (0, 0, 0, 0)),
  (83, (.dup2, 1), (0, 0, 0, 0)),
  (84, (.iaload, 1), (0, 0, 0, 0)),
  (85, (.iload 4, 2), (0, 0, 0, 0)),
  (87, (.ifCond .eq 7, 3), (0, 0, 0, 0)),
  (90, (.iconst 1, 1), (0, 0, 0, 0)),
  (91, (.goto 4, 3), (0, 0, 0, 0)),
  (94, (.iconst 0, 1), (0, 0, 0, 0)),
  (95, (.isub, 1), (0, 0, 0, 0)),
  (96, (.iastore, 1), (0, 0, 0, 0)),
  (97, (.iload 4, 2), (0, 0, 0, 0)),
  (99, (.ifCond .eq 9, 3), (0, 0, 0, 0)),
  (102, (.iload_n 3, 1), (0, 0, 0, 0)),
  (103, (.iconst 1, 1), (0, 0, 0, 0)),
  (104, (.iadd, 1), (0, 0, 0, 0)),
  (105, (.goto 6, 3), (0, 0, 0, 0)),
  (108, (.iload_n 2, 1), (0, 0, 0, 0)),
  (109, (.iconst 1, 1), (0, 0, 0, 0)),
  (110, (.iadd, 1), (0, 0, 0, 0)),
  (111, (.istore_n 2, 1), (0, 0, 0, 0)),
  (112, (.goto (-110), 3), (0, 0, 0, 0)),
  (115, (.iload_n 2, 1), (0, 0, 0, 0)),
  (116, (.ireturn, 1), (0, 0, 0, 0))]
noncomputable def tb_331 : List TE := [ -- X12_lives
  (0, (.aload_n 0, 1), (0, 0, 0, 0)),
  (1, (.iload_n 1, 1), (0, 0, 0, 0)),
  (2, (.putfield 432, 3), (11, 33, 0, 0)),
  (5, (.aload_n 0, 1), (0, 0, 0, 0)),
  (6, (.iconst 0, 1), (0, 0, 0, 0)),
  (7, (.putfield 442, 3), (11, 34, 0, 0)),
  (10, (.iconst 0, 1), (0, 0, 0, 0)),
  (11, (.istore_n 2, 1), (0, 0, 0, 0)),
  (12, (.iload_n 2, 1), (0, 0, 0, 0)),
  (13, (.iconst 5, 1), (0, 0, 0, 0)),
  (14, (.if_icmp .ge 16, 3), (0, 0, 0, 0)),
  (17, (.aload_n 0, 1), (0, 0, 0, 0)),
  (18, (.getfield 74, 3), (11, 36, 2, 0)),
  (21, (.iload_n 2, 1), (0, 0, 0, 0)),
  (22, (.iconst 0, 1), (0, 0, 0, 0)),
  (23, (.iastore, 1), (0, 0, 0, 0)),
  (24, (.iinc 2 1, 3), (0, 0, 0, 0)),
  (27, (.goto (-15), 3), (0, 0, 0, 0)),
  (30, (.iconst 0, 1), (0, 0, 0, 0)),
  (31, (.istore_n 2, 1), (0, 0, 0, 0)),
  (32, (.iload_n 2, 1), (0, 0, 0, 0)),
  (33, (.aload_n 0, 1), (0, 0, 0, 0)),
  (34, (.getfield 7, 3), (11, 0, 2, 0)),
  (37, (.bipush 11, 2), (0, 0, 0, 0)),
  (39, (.iaload, 1), (0, 0, 0, 0)),
  (40, (.if_icmp .ge 144, 3), (0, 0, 0, 0)),
  (43, (.aload_n 0, 1), (0, 0, 0, 0)),
  (44, (.getfield 442, 3), (11, 34, 0, 0)),
  (47, (.sipush 300, 3), (0, 0, 0, 0)),
  (50, (.if_icmp .ne 11, 3), (0, 0, 0, 0)),
  (53, (.aload_n 0, 1), (0, 0, 0, 0)),
  (54, (.getfield 74, 3), (11, 36, 2, 0)),
  (57, (.iconst 4, 1), (0, 0, 0, 0)),
  (58, (.iconst 1, 1), (0, 0, 0, 0)),
  (59, (.iastore, 1), (0, 0, 0, 0)),
  (60, (.return_, 1), (0, 0, 0, 0)),
  (61, (.bipush 104, 2), (0, 0, 0, 0)),
  (63, (.bipush 6, 2), (0, 0, 0, 0)),
  (65, (.iload_n 2, 1), (0, 0, 0, 0)),
  (66, (.imul, 1), (0, 0, 0, 0)),
  (67, (.iadd, 1), (0, 0, 0, 0)),
  (68, (.istore_n 3, 1), (0, 0, 0, 0)),
  (69, (.aload_n 0, 1), (0, 0, 0, 0)),
  (70, (.dup, 1), (0, 0, 0, 0)),
  (71, (.getfield 442, 3), (11, 34, 0, 0)),
  (74, (.iconst 1, 1), (0, 0, 0, 0)),
  (75, (.iadd, 1), (0, 0, 0, 0)),
  (76, (.putfield 442, 3), (11, 34, 0, 0)),
  (79, (.aload_n 0, 1), (0, 0, 0, 0)),
  (80, (.getfield 7, 3), (11, 0, 2, 0)),
  (83, (.iload_n 3, 1), (0, 0, 0, 0)),
  (84, (.iaload, 1), (0, 0, 0, 0)),
  (85, (.bipush 22, 2), (0, 0, 0, 0)),
  (87, (.if_icmp .ne 4, 3), (0, 0, 0, 0)),
  (90, (.return_, 1), (0, 0, 0, 0)),
  (91, (.aload_n 0, 1), (0, 0, 0, 0)),
  (92, (.getfield 74, 3), (11, 36, 2, 0)),
  (95, (.iconst 0, 1), (0, 0, 0, 0)),
  (96, (.dup2, 1), (0, 0, 0, 0)),
  (97, (.iaload, 1), (0, 0, 0, 0)),
  (98, (.aload_n 0, 1), (0, 0, 0, 0)),
  (99, (.iload_n 3, 1), (0, 0, 0, 0)),
  (100, (.invokevirtual 445, 3), (328, 1, 11, 0)),
  (103, (.ifCond .eq 7, 3), (0, 0, 0, 0)),
  (106, (.iconst 0, 1), (0, 0, 0, 0)),
  (107, (.goto 4, 3), (0, 0, 0, 0)),
  (110, (.iconst 1, 1), (0, 0, 0, 0)),
  (111, (.iadd, 1), (0, 0, 0, 0)),
  (112, (.iastore, 1), (0, 0, 0, 0)),
  (113, (.aload_n 0, 1), (0, 0, 0, 0)),
  (114, (.getfield 7, 3), (11, 0, 2, 0)),
  (117, (.iload_n 3, 1), (0, 0, 0, 0)),
  (118, (.iaload, 1), (0, 0, 0, 0)),
  (119, (.bipush 20, 2), (0, 0, 0, 0)),
  (121, (.if_icmp .ne 19, 3), (0, 0, 0, 0)),
  (124, (.aload_n 0, 1), (0, 0, 0, 0)),
  (125, (.getfield 71, 3), (11, 35, 2, 0)),
  (128, (.iload_n 2, 1), (0, 0, 0, 0)),
  (129, (.aload_n 0, 1), (0, 0, 0, 0)),
  (130, (.getfield 7, 3), (11, 0, 2, 0)),
  (133, (.iload_n 3, 1), (0, 0, 0, 0)),
  (134, (.iconst 1, 1), (0, 0, 0, 0)),
  (135, (.iadd, 1), (0, 0, 0, 0)),
  (136, (.iaload, 1), (0, 0, 0, 0)),
  (137, (.iconst 1, 1), (0, 0, 0, 0)),
  (138, (.isub, 1), (0, 0, 0, 0)),
  (139, (.iastore, 1), (0, 0, 0, 0)),
  (140, (.aload_n 0, 1), (0, 0, 0, 0)),
  (141, (.aload_n 0, 1), (0, 0, 0, 0)),
  (142, (.getfield 7, 3), (11, 0, 2, 0)),
  (145, (.iload_n 3, 1), (0, 0, 0, 0)),
  (146, (.iaload, 1), (0, 0, 0, 0)),
  (147, (.sipush 1900, 3), (0, 0, 0, 0)),
  (150, (.if_icmp .lt 24, 3), (0, 0, 0, 0)),
  (153, (.aload_n 0, 1), (0, 0, 0, 0)),
  (154, (.iload_n 3, 1), (0, 0, 0, 0)),
  (155, (.invokevirtual 448, 3), (329, 1, 11, 0)),
  (158, (.ifCond .ne 16, 3), (0, 0, 0, 0)),
  (161, (.aload_n 0, 1), (0, 0, 0, 0)),
  (162, (.getfield 7, 3), (11, 0, 2, 0)),
  (165, (.iload_n 3, 1), (0, 0, 0, 0)),
  (166, (.iconst 4, 1), (0, 0, 0, 0)),
  (167, (.iadd, 1), (0, 0, 0, 0)),
  (168, (.iaload, 1), (0, 0, 0, 0)),
  (169, (.iconst 1, 1), (0, 0, 0, 0)),
  (170, (.iadd, 1), (0, 0, 0, 0)),
  (171, (.goto 6, 3), (0, 0, 0, 0)),
  (174, (.iload_n 2, 1), (0, 0, 0, 0)),
  (175, (.iconst 1, 1), (0, 0, 0, 0)),
  (176, (.iadd, 1), (0, 0, 0, 0)),
  (177, (.invokevirtual 451, 3), (330, 1, 11, 0)),
  (180, (.istore_n 2, 1), (0, 0, 0, 0)),
  (181, (.goto (-149), 3), (0, 0, 0, 0)),
  (184, (.return_, 1), (0, 0, 0, 0))]
noncomputable def tb_332 : List TE := [ -- X12_live
  (0, (.iload_n 1, 1), (0, 0, 0, 0)),
  (1, (.i2l, 1), (0, 0, 0, 0)),
  (2, (.lconst 0, 1), (0, 0, 0, 0)),
  (3, (.ldc2_w 454, 3), (0, 0, 0, 9999)),
  (6, (.invokestatic 262, 3), (212, 3, 0, 0)),
  (9, (.ifCond .ne 9, 3), (0, 0, 0, 0)),
  (12, (.aload_n 0, 1), (0, 0, 0, 0)),
  (13, (.iconst 1, 1), (0, 0, 0, 0)),
  (14, (.invokevirtual 90, 3), (201, 1, 11, 0)),
  (17, (.ireturn, 1), (0, 0, 0, 0)),
  (18, (.aload_n 0, 1), (0, 0, 0, 0)),
  (19, (.getfield 7, 3), (11, 0, 2, 0)),
  (22, (.bipush 11, 2), (0, 0, 0, 0)),
  (24, (.iaload, 1), (0, 0, 0, 0)),
  (25, (.iconst (-1), 1), (0, 0, 0, 0)),
  (26, (.if_icmp .ne 10, 3), (0, 0, 0, 0)),
  (29, (.aload_n 0, 1), (0, 0, 0, 0)),
  (30, (.bipush 6, 2), (0, 0, 0, 0)),
  (32, (.invokevirtual 90, 3), (201, 1, 11, 0)),
  (35, (.ireturn, 1), (0, 0, 0, 0)),
  (36, (.aload_n 0, 1), (0, 0, 0, 0)),
  (37, (.iload_n 1, 1), (0, 0, 0, 0)),
  (38, (.invokevirtual 456, 3), (331, 1, 11, 0)),
  (41, (.iconst 0, 1), (0, 0, 0, 0)),
  (42, (.istore_n 2, 1), (0, 0, 0, 0)),
  (43, (.iload_n 2, 1), (0, 0, 0, 0)),
  (44, (.iconst 5, 1), (0, 0, 0, 0)),
  (45, (.if_icmp .ge 21, 3), (0, 0, 0, 0)),
  (48, (.aload_n 0, 1), (0, 0, 0, 0)),
  (49, (.getfield 77, 3), (11, 37, 2, 0)),
  (52, (.iload_n 2, 1), (0, 0, 0, 0)),
  (53, (.aload_n 0, 1), (0, 0, 0, 0)),
  (54, (.getfield 74, 3), (11, 36, 2, 0)),
  (57, (.iload_n 2, 1), (0, 0, 0, 0)),
  (58, (.iaload, 1), (0, 0, 0, 0)),
  (59, (.iastore, 1), (0, 0, 0, 0)),
  (60, (.iinc 2 1, 3), (0, 0, 0, 0)),
  (63, (.goto (-20), 3), (0, 0, 0, 0)),
  (66, (.aload_n 0, 1), (0, 0, 0, 0)),
  (67, (.iconst 1, 1), (0, 0, 0, 0)),
  (68, (.putfield 459, 3), (11, 38, 3, 0)),
  (71, (.aload_n 0, 1), (0, 0, 0, 0)),
  (72, (.aload_n 0, 1), (0, 0, 0, 0)),
  (73, (.getfield 442, 3), (11, 34, 0, 0)),
  (76, (.invokevirtual 94, 3), (202, 1, 11, 0)),
  (79, (.ireturn, 1), (0, 0, 0, 0))]
noncomputable def tb_333 : List TE := [ -- X12_lived
  (0, (.iload_n 1, 1), (0, 0, 0, 0)),
  (1, (.ifCond .lt 8, 3), (0, 0, 0, 0)),
  (4, (.iload_n 1, 1), (0, 0, 0, 0)),
  (5, (.iconst 4, 1), (0, 0, 0, 0)),
  (6, (.if_icmp .le 11, 3), (0, 0, 0, 0)),
  (9, (.aload_n 0, 1), (0, 0, 0, 0)),
  (10, (.iconst 1, 1), (0, 0, 0, 0)),
  (11, (.invokevirtual 90, 3), (201, 1, 11, 0)),
  (14, (.goto 29, 3), (0, 0, 0, 0)),
  (17, (.aload_n 0, 1), (0, 0, 0, 0)),
  (18, (.getfield 459, 3), (11, 38, 3, 0)),
  (21, (.ifCond .eq 16, 3), (0, 0, 0, 0)),
  (24, (.aload_n 0, 1), (0, 0, 0, 0)),
  (25, (.aload_n 0, 1), (0, 0, 0, 0)),
  (26, (.getfield 77, 3), (11, 37, 2, 0)),
  (29, (.iload_n 1, 1), (0, 0, 0, 0)),
  (30, (.iaload, 1), (0, 0, 0, 0)),
  (31, (.invokevirtual 94, 3), (202, 1, 11, 0)),
  (34, (.goto 9, 3), (0, 0, 0, 0)),
  (37, (.aload_n 0, 1), (0, 0, 0, 0)),
  (38, (.bipush 6, 2), (0, 0, 0, 0)),
  (40, (.invokevirtual 90, 3), (201, 1, 11, 0)),
  (43, (.ireturn, 1), (0, 0, 0, 0))]
noncomputable def tb_334 : List TE := [ -- X12_mean
  (0, (.iload_n 1, 1), (0, 0, 0, 0)),
  (1, (.i2l, 1), (0, 0, 0, 0)),
  (2, (.lconst 0, 1), (0, 0, 0, 0)),
  (3, (.ldc2_w 454, 3), (0, 0, 0, 9999)),
  (6, (.invokestatic 262, 3), (212, 3, 0, 0)),
  (9, (.ifCond .eq 26, 3), (0, 0, 0, 0)),
  (12, (.iload_n 2, 1), (0, 0, 0, 0)),
  (13, (.i2l, 1), (0, 0, 0, 0)),
  (14, (.lconst 1, 1), (0, 0, 0, 0)),
  (15, (.ldc2_w 412, 3), (0, 0, 0, 20)),
  (18, (.invokestatic 262, 3), (212, 3, 0, 0)),
  (21, (.ifCond .eq 14, 3), (0, 0, 0, 0)),
  (24, (.iload_n 1, 1), (0, 0, 0, 0)),
  (25, (.iload_n 2, 1), (0, 0, 0, 0)),
  (26, (.iadd, 1), (0, 0, 0, 0)),
  (27, (.iconst 1, 1), (0, 0, 0, 0)),
  (28, (.isub, 1), (0, 0, 0, 0)),
  (29, (.sipush 9999, 3), (0, 0, 0, 0)),
  (32, (.if_icmp .le 9, 3), (0, 0, 0, 0)),
  (35, (.aload_n 0, 1), (0, 0, 0, 0)),
  (36, (.iconst 1, 1), (0, 0, 0, 0)),
  (37, (.invokevirtual 97, 3), (200, 1, 11, 0)),
  (40, (.ireturn, 1), (0, 0, 0, 0)),
  (41, (.aload_n 0, 1), (0, 0, 0, 0)),
  (42, (.getfield 7, 3), (11, 0, 2, 0)),
  (45, (.bipush 11, 2), (0, 0, 0, 0)),
  (47, (.iaload, 1), (0, 0, 0, 0)),
  (48, (.iconst (-1), 1), (0, 0, 0, 0)),
  (49, (.if_icmp .ne 10, 3), (0, 0, 0, 0)),
  (52, (.aload_n 0, 1), (0, 0, 0, 0)),
  (53, (.bipush 6, 2), (0, 0, 0, 0)),
  (55, (.invokevirtual 97, 3), (200, 1, 11, 0)),
  (58, (.ireturn, 1), (0, 0, 0, 0)),
  (59, (.aload_n 0, 1), (0, 0, 0, 0)),
  (60, (.sipush 2360, 3), (0, 0, 0, 0)),
  (63, (.invokevirtual 359, 3), (291, 1, 11, 0)),
  (66, (.lconst 0, 1), (0, 0, 0, 0)),
  (67, (.lstore_n 3, 1), (0, 0, 0, 0)),
  (68, (.iconst 0, 1), (0, 0, 0, 0)),
  (69, (.istore 5, 2), (0, 0, 0, 0)),
  (71, (.iload 5, 2), (0, 0, 0, 0)),
  (73, (.iload_n 2, 1), (0, 0, 0, 0)),
  (74, (.if_icmp .ge 32, 3), (0, 0, 0, 0)),
  (77, (.aload_n 0, 1), (0, 0, 0, 0)),
  (78, (.iload_n 1, 1), (0, 0, 0, 0)),
  (79, (.iload 5, 2), (0, 0, 0, 0)),
  (81, (.iadd, 1), (0, 0, 0, 0)),
  (82, (.invokevirtual 456, 3), (331, 1, 11, 0)),
  (85, (.lload_n 3, 1), (0, 0, 0, 0)),
  (86, (.aload_n 0, 1), (0, 0, 0, 0)),
  (87, (.invokevirtual 284, 3), (260, 0, 11, 0)),
  (90, (.i2l, 1), (0, 0, 0, 0)),
  (91, (.ladd, 1), (0, 0, 0, 0)),
  (92, (.lstore_n 3, 1), (0, 0, 0, 0)),
  (93, (.aload_n 0, 1), (0, 0, 0, 0)),
  (94, (.sipush 2360, 3), (0, 0, 0, 0)),
  (97, (.invokevirtual 362, 3), (292, 1, 11, 0)),
  (100, (.iinc 5 1, 3), (0, 0, 0, 0)),
  (103, (.goto (-32), 3), (0, 0, 0, 0)),
  (106, (.aload_n 0, 1), (0, 0, 0, 0)),
  (107, (.lload_n 3, 1), (0, 0, 0, 0)),
  (108, (.iload_n 2, 1), (0, 0, 0, 0)),
  (109, (.i2l, 1), (0, 0, 0, 0)),
  (110, (.invokevirtual 406, 3), (204, 2, 11, 0)),
  (113, (.ireturn, 1), (0, 0, 0, 0))]
noncomputable def tb_335 : List TE := [ -- X12_copies
  (0, (.iconst 0, 1), (0, 0, 0, 0)),
  (1, (.istore_n 3, 1), (0, 0, 0, 0)),
  (2, (.iload_n 3, 1), (0, 0, 0, 0)),
  (3, (.sipush 472, 3), (0, 0, 0, 0)),
  (6, (.if_icmp .ge 33, 3), (0, 0, 0, 0)),
  (9, (.aload_n 0, 1), (0, 0, 0, 0)),
  (10, (.getfield 7, 3), (11, 0, 2, 0)),
  (13, (.sipush 472, 3), (0, 0, 0, 0)),
  (16, (.iload_n 2, 1), (0, 0, 0, 0)),
  (17, (.imul, 1), (0, 0, 0, 0)),
  (18, (.iload_n 3, 1), (0, 0, 0, 0)),
  (19, (.iadd, 1), (0, 0, 0, 0)),
  (20, (.aload_n 0, 1), (0, 0, 0, 0)),
  (21, (.getfield 7, 3), (11, 0, 2, 0)),
  (24, (.sipush 472, 3), (0, 0, 0, 0)),
  (27, (.iload_n 1, 1), (0, 0, 0, 0)),
  (28, (.imul, 1), (0, 0, 0, 0)),
  (29, (.iload_n 3, 1), (0, 0, 0, 0)),
  (30, (.iadd, 1), (0, 0, 0, 0)),
  (31, (.iaload, 1), (0, 0, 0, 0)),
  (32, (.iastore, 1), (0, 0, 0, 0)),
  (33, (.iinc 3 1, 3), (0, 0, 0, 0)),
  (36, (.goto (-34), 3), (0, 0, 0, 0)),
  (39, (.iconst 0, 1), (0, 0, 0, 0)),
  (40, (.istore_n 3, 1), (0, 0, 0, 0)),
  (41, (.iload_n 3, 1), (0, 0, 0, 0)),
  (42, (.bipush 14, 2), (0, 0, 0, 0)),
  (44, (.if_icmp .ge 31, 3), (0, 0, 0, 0)),
  (47, (.aload_n 0, 1), (0, 0, 0, 0)),
  (48, (.getfield 13, 3), (11, 1, 2, 0)),
  (51, (.bipush 14, 2), (0, 0, 0, 0)),
  (53, (.iload_n 2, 1), (0, 0, 0, 0)),
  (54, (.imul, 1), (0, 0, 0, 0)),
  (55, (.iload_n 3, 1), (0, 0, 0, 0)),
  (56, (.iadd, 1), (0, 0, 0, 0)),
  (57, (.aload_n 0, 1), (0, 0, 0, 0)),
  (58, (.getfield 13, 3), (11, 1, 2, 0)),
  (61, (.bipush 14, 2), (0, 0, 0, 0)),
  (63, (.iload_n 1, 1), (0, 0, 0, 0)),
  (64, (.imul, 1), (0, 0, 0, 0)),
  (65, (.iload_n 3, 1), (0, 0, 0, 0)),
  (66, (.iadd, 1), (0, 0, 0, 0)),
  (67, (.laload, 1), (0, 0, 0, 0)),
  (68, (.lastore, 1), (0, 0, 0, 0)),
  (69, (.iinc 3 1, 3), (0, 0, 0, 0)),
  (72, (.goto (-31), 3), (0, 0, 0, 0)),
  (75, (.return_, 1), (0, 0, 0, 0))]
noncomputable def tb_336 : List TE := [ -- X12_mark
  (0, (.aload_n 0, 1), (0, 0, 0, 0)),
  (1, (.getfield 463, 3), (11, 39, 0, 0)),
  (4, (.iconst 3, 1), (0, 0, 0, 0)),
  (5, (.if_icmp .ne 9, 3), (0, 0, 0, 0)),
  (8, (.aload_n 0, 1), (0, 0, 0, 0)),
  (9, (.iconst 4, 1), (0, 0, 0, 0)),
  (10, (.invokevirtual 90, 3), (201, 1, 11, 0)),
  (13, (.ireturn, 1), (0, 0, 0, 0)),
  (14, (.aload_n 0, 1), (0, 0, 0, 0)),
  (15, (.dup, 1), (0, 0, 0, 0)),
  (16, (.getfield 463, 3), (11, 39, 0, 0)),
  (19, (.iconst 1, 1), (0, 0, 0, 0)),
  (20, (.iadd, 1), (0, 0, 0, 0)),
  (21, (.putfield 463, 3), (11, 39, 0, 0)),
  (24, (.aload_n 0, 1), (0, 0, 0, 0)),
  (25, (.iconst 0, 1), (0, 0, 0, 0)),
  (26, (.aload_n 0, 1), (0, 0, 0, 0)),
  (27, (.getfield 463, 3), (11, 39, 0, 0)),
  (30, (.invokevirtual 466, 3), (335, 2, 11, 0)),
  (33, (.aload_n 0, 1), (0, 0, 0, 0)),
  (34, (.aload_n 0, 1), (0, 0, 0, 0)),
  (35, (.getfield 463, 3), (11, 39, 0, 0)),
  (38, (.invokevirtual 94, 3), (202, 1, 11, 0)),
  (41, (.ireturn, 1), (0, 0, 0, 0))]
noncomputable def tb_337 : List TE := [ -- X12_undo
  (0, (.aload_n 0, 1), (0, 0, 0, 0)),
  (1, (.getfield 463, 3), (11, 39, 0, 0)),
  (4, (.ifCond .ne 10, 3), (0, 0, 0, 0)),
  (7, (.aload_n 0, 1), (0, 0, 0, 0)),
  (8, (.bipush 6, 2), (0, 0, 0, 0)),
  (10, (.invokevirtual 90, 3), (201, 1, 11, 0)),
  (13, (.ireturn, 1), (0, 0, 0, 0)),
  (14, (.aload_n 0, 1), (0, 0, 0, 0)),
  (15, (.aload_n 0, 1), (0, 0, 0, 0)),
  (16, (.getfield 463, 3), (11, 39, 0, 0)),
  (19, (.iconst 0, 1), (0, 0, 0, 0)),
  (20, (.invokevirtual 466, 3), (335, 2, 11, 0)),
  (23, (.aload_n 0, 1), (0, 0, 0, 0)),
  (24, (.dup, 1), (0, 0, 0, 0)),
  (25, (.getfield 463, 3), (11, 39, 0, 0)),
  (28, (.iconst 1, 1), (0, 0, 0, 0)),
  (29, (.isub, 1), (0, 0, 0, 0)),
  (30, (.putfield 463, 3), (11, 39, 0, 0)),
  (33, (.aload_n 0, 1), (0, 0, 0, 0)),
  (34, (.aload_n 0, 1), (0, 0, 0, 0)),
  (35, (.getfield 463, 3), (11, 39, 0, 0)),
  (38, (.invokevirtual 94, 3), (202, 1, 11, 0)),
  (41, (.ireturn, 1), (0, 0, 0, 0))]
set_option maxRecDepth 100000 in
noncomputable def tb_338 : List TE := [ -- L_law
  (0, (.new 7, 3), (10, 20, 0, 0)),
  (3, (.dup, 1), (0, 0, 0, 0)),
  (4, (.invokespecial 9, 3), (127, 0, 10, 0)),
  (7, (.astore_n 1, 1), (0, 0, 0, 0)),
  (8, (.new 10, 3), (11, 40, 0, 0)),
  (11, (.dup, 1), (0, 0, 0, 0)),
  (12, (.invokespecial 12, 3), (195, 0, 11, 0)),
  (15, (.astore_n 2, 1), (0, 0, 0, 0)),
  (16, (.iconst 0, 1), (0, 0, 0, 0)),
  (17, (.istore_n 3, 1), (0, 0, 0, 0)),
  (18, (.iload_n 3, 1), (0, 0, 0, 0)),
  (19, (.aload_n 0, 1), (0, 0, 0, 0)),
  (20, (.arraylength, 1), (0, 0, 0, 0)),
  (21, (.bipush 6, 2), (0, 0, 0, 0)),
  (23, (.isub, 1), (0, 0, 0, 0)),
  (24, (.if_icmp .gt 1824, 3), (0, 0, 0, 0)),
  (27, (.aload_n 0, 1), (0, 0, 0, 0)),
  (28, (.iload_n 3, 1), (0, 0, 0, 0)),
  (29, (.iaload, 1), (0, 0, 0, 0)),
  (30, (.bipush 63, 2), (0, 0, 0, 0)),
  (32, (.iand, 1), (0, 0, 0, 0)),
  (33, (.tableswitch 1809 0 52 #[227, 240, 254, 268, 311, 384, 418, 481, 544, 567, 590, 613, 636, 669, 692, 725, 748, 781, 804, 837, 860, 873, 906, 929, 962, 995, 1038, 1071, 1084, 1097, 1120, 1143, 1156, 1169, 1202, 1245, 1278, 1321, 1354, 1397, 1440, 1483, 1506, 1569, 1622, 1645, 1658, 1681, 1704, 1727, 1750, 1783, 1796], 227), (0, 0, 0, 0)),
  (260, (.aload_n 1, 1), (0, 0, 0, 0)),
  (261, (.invokevirtual 13, 3), (128, 0, 10, 0)),
  (264, (.aload_n 2, 1), (0, 0, 0, 0)),
  (265, (.invokevirtual 17, 3), (197, 0, 11, 0)),
  (268, (.if_icmp .eq 1574, 3), (0, 0, 0, 0)),
  (271, (.iconst 0, 1), (0, 0, 0, 0)),
  (272, (.ireturn, 1), (0, 0, 0, 0)),
  (273, (.aload_n 1, 1), (0, 0, 0, 0)),
  (274, (.invokevirtual 18, 3), (129, 0, 10, 0)),
  (277, (.aload_n 2, 1), (0, 0, 0, 0)),
  (278, (.invokevirtual 22, 3), (198, 0, 11, 0)),
  (281, (.lcmp, 1), (0, 0, 0, 0)),
  (282, (.ifCond .eq 1560, 3), (0, 0, 0, 0)),
  (285, (.iconst 0, 1), (0, 0, 0, 0)),
  (286, (.ireturn, 1), (0, 0, 0, 0)),
  (287, (.aload_n 1, 1), (0, 0, 0, 0)),
  (288, (.invokevirtual 23, 3), (130, 0, 10, 0)),
  (291, (.aload_n 2, 1), (0, 0, 0, 0)),
  (292, (.invokevirtual 26, 3), (199, 0, 11, 0)),
  (295, (.lcmp, 1), (0, 0, 0, 0)),
  (296, (.ifCond .eq 1546, 3), (0, 0, 0, 0)),
  (299, (.iconst 0, 1), (0, 0, 0, 0)),
  (300, (.ireturn, 1), (0, 0, 0, 0)),
  (301, (.aload_n 1, 1), (0, 0, 0, 0)),
  (302, (.aload_n 0, 1), (0, 0, 0, 0)),
  (303, (.iload_n 3, 1), (0, 0, 0, 0)),
  (304, (.iconst 1, 1), (0, 0, 0, 0)),
  (305, (.iadd, 1), (0, 0, 0, 0)),
  (306, (.iaload, 1), (0, 0, 0, 0)),
  (307, (.aload_n 0, 1), (0, 0, 0, 0)),
  (308, (.iload_n 3, 1), (0, 0, 0, 0)),
  (309, (.iconst 2, 1), (0, 0, 0, 0)),
  (310, (.iadd, 1), (0, 0, 0, 0)),
  (311, (.iaload, 1), (0, 0, 0, 0)),
  (312, (.aload_n 0, 1), (0, 0, 0, 0)),
  (313, (.iload_n 3, 1), (0, 0, 0, 0)),
  (314, (.iconst 3, 1), (0, 0, 0, 0)),
  (315, (.iadd, 1), (0, 0, 0, 0)),
  (316, (.iaload, 1), (0, 0, 0, 0)),
  (317, (.invokevirtual 27, 3), (131, 3, 10, 0)),
  (320, (.aload_n 2, 1), (0, 0, 0, 0)),
  (321, (.aload_n 0, 1), (0, 0, 0, 0)),
  (322, (.iload_n 3, 1), (0, 0, 0, 0)),
  (323, (.iconst 1, 1), (0, 0, 0, 0)),
  (324, (.iadd, 1), (0, 0, 0, 0)),
  (325, (.iaload, 1), (0, 0, 0, 0)),
  (326, (.aload_n 0, 1), (0, 0, 0, 0)),
  (327, (.iload_n 3, 1), (0, 0, 0, 0)),
  (328, (.iconst 2, 1), (0, 0, 0, 0)),
  (329, (.iadd, 1), (0, 0, 0, 0)),
  (330, (.iaload, 1), (0, 0, 0, 0)),
  (331, (.aload_n 0, 1), (0, 0, 0, 0)),
  (332, (.iload_n 3, 1), (0, 0, 0, 0)),
  (333, (.iconst 3, 1), (0, 0, 0, 0)),
  (334, (.iadd, 1), (0, 0, 0, 0)),
  (335, (.iaload, 1), (0, 0, 0, 0)),
  (336, (.invokevirtual 31, 3), (207, 3, 11, 0)),
  (339, (.if_icmp .eq 1503, 3), (0, 0, 0, 0)),
  (342, (.iconst 0, 1), (0, 0, 0, 0)),
  (343, (.ireturn, 1), (0, 0, 0, 0)),
  (344, (.aload_n 1, 1), (0, 0, 0, 0)),
  (345, (.aload_n 0, 1), (0, 0, 0, 0)),
  (346, (.iload_n 3, 1), (0, 0, 0, 0)),
  (347, (.iconst 1, 1), (0, 0, 0, 0)),
  (348, (.iadd, 1), (0, 0, 0, 0)),
  (349, (.iaload, 1), (0, 0, 0, 0)),
  (350, (.aload_n 0, 1), (0, 0, 0, 0)),
  (351, (.iload_n 3, 1), (0, 0, 0, 0)),
  (352, (.iconst 2, 1), (0, 0, 0, 0)),
  (353, (.iadd, 1), (0, 0, 0, 0)),
  (354, (.iaload, 1), (0, 0, 0, 0)),
  (355, (.aload_n 0, 1), (0, 0, 0, 0)),
  (356, (.iload_n 3, 1), (0, 0, 0, 0)),
  (357, (.iconst 3, 1), (0, 0, 0, 0)),
  (358, (.iadd, 1), (0, 0, 0, 0)),
  (359, (.iaload, 1), (0, 0, 0, 0)),
  (360, (.i2l, 1), (0, 0, 0, 0)),
  (361, (.bipush 32, 2), (0, 0, 0, 0)),
  (363, (.lshl, 1), (0, 0, 0, 0)),
  (364, (.aload_n 0, 1), (0, 0, 0, 0)),
  (365, (.iload_n 3, 1), (0, 0, 0, 0)),
  (366, (.iconst 4, 1), (0, 0, 0, 0)),
  (367, (.iadd, 1), (0, 0, 0, 0)),
  (368, (.iaload, 1), (0, 0, 0, 0)),
  (369, (.i2l, 1), (0, 0, 0, 0)),
  (370, (.ldc2_w 32, 3), (0, 0, 0, 4294967295)),
  (373, (.land, 1), (0, 0, 0, 0)),
  (374, (.lor, 1), (0, 0, 0, 0)),
  (375, (.invokevirtual 34, 3), (132, 3, 10, 0)),
  (378, (.aload_n 2, 1), (0, 0, 0, 0)),
  (379, (.aload_n 0, 1), (0, 0, 0, 0)),
  (380, (.iload_n 3, 1), (0, 0, 0, 0)),
  (381, (.iconst 1, 1), (0, 0, 0, 0)),
  (382, (.iadd, 1), (0, 0, 0, 0)),
  (383, (.iaload, 1), (0, 0, 0, 0)),
  (384, (.aload_n 0, 1), (0, 0, 0, 0)),
  (385, (.iload_n 3, 1), (0, 0, 0, 0)),
  (386, (.iconst 2, 1), (0, 0, 0, 0)),
  (387, (.iadd, 1), (0, 0, 0, 0)),
  (388, (.iaload, 1), (0, 0, 0, 0)),
  (389, (.aload_n 0, 1), (0, 0, 0, 0)),
  (390, (.iload_n 3, 1), (0, 0, 0, 0)),
  (391, (.iconst 3, 1), (0, 0, 0, 0)),
  (392, (.iadd, 1), (0, 0, 0, 0)),
  (393, (.iaload, 1), (0, 0, 0, 0)),
  (394, (.i2l, 1), (0, 0, 0, 0)),
  (395, (.bipush 32, 2), (0, 0, 0, 0)),
  (397, (.lshl, 1), (0, 0, 0, 0)),
  (398, (.aload_n 0, 1), (0, 0, 0, 0)),
  (399, (.iload_n 3, 1), (0, 0, 0, 0)),
  (400, (.iconst 4, 1), (0, 0, 0, 0)),
  (401, (.iadd, 1), (0, 0, 0, 0)),
  (402, (.iaload, 1), (0, 0, 0, 0)),
  (403, (.i2l, 1), (0, 0, 0, 0)),
  (404, (.ldc2_w 32, 3), (0, 0, 0, 4294967295)),
  (407, (.land, 1), (0, 0, 0, 0)),
  (408, (.lor, 1), (0, 0, 0, 0)),
  (409, (.invokevirtual 38, 3), (209, 3, 11, 0)),
  (412, (.if_icmp .eq 1430, 3), (0, 0, 0, 0)),
  (415, (.iconst 0, 1), (0, 0, 0, 0)),
  (416, (.ireturn, 1), (0, 0, 0, 0)),
  (417, (.aload_n 1, 1), (0, 0, 0, 0)),
  (418, (.aload_n 0, 1), (0, 0, 0, 0)),
  (419, (.iload_n 3, 1), (0, 0, 0, 0)),
  (420, (.iconst 1, 1), (0, 0, 0, 0)),
  (421, (.iadd, 1), (0, 0, 0, 0)),
  (422, (.iaload, 1), (0, 0, 0, 0)),
  (423, (.aload_n 0, 1), (0, 0, 0, 0)),
  (424, (.iload_n 3, 1), (0, 0, 0, 0)),
  (425, (.iconst 2, 1), (0, 0, 0, 0)),
  (426, (.iadd, 1), (0, 0, 0, 0)),
  (427, (.iaload, 1), (0, 0, 0, 0)),
  (428, (.invokevirtual 39, 3), (133, 2, 10, 0)),
  (431, (.aload_n 2, 1), (0, 0, 0, 0)),
  (432, (.aload_n 0, 1), (0, 0, 0, 0)),
  (433, (.iload_n 3, 1), (0, 0, 0, 0)),
  (434, (.iconst 1, 1), (0, 0, 0, 0)),
  (435, (.iadd, 1), (0, 0, 0, 0)),
  (436, (.iaload, 1), (0, 0, 0, 0)),
  (437, (.aload_n 0, 1), (0, 0, 0, 0)),
  (438, (.iload_n 3, 1), (0, 0, 0, 0)),
  (439, (.iconst 2, 1), (0, 0, 0, 0)),
  (440, (.iadd, 1), (0, 0, 0, 0)),
  (441, (.iaload, 1), (0, 0, 0, 0)),
  (442, (.invokevirtual 43, 3), (210, 2, 11, 0)),
  (445, (.lcmp, 1), (0, 0, 0, 0)),
  (446, (.ifCond .eq 1396, 3), (0, 0, 0, 0)),
  (449, (.iconst 0, 1), (0, 0, 0, 0)),
  (450, (.ireturn, 1), (0, 0, 0, 0)),
  (451, (.aload_n 1, 1), (0, 0, 0, 0)),
  (452, (.aload_n 0, 1), (0, 0, 0, 0)),
  (453, (.iload_n 3, 1), (0, 0, 0, 0)),
  (454, (.iconst 1, 1), (0, 0, 0, 0)),
  (455, (.iadd, 1), (0, 0, 0, 0)),
  (456, (.iaload, 1), (0, 0, 0, 0)),
  (457, (.aload_n 0, 1), (0, 0, 0, 0)),
  (458, (.iload_n 3, 1), (0, 0, 0, 0)),
  (459, (.iconst 2, 1), (0, 0, 0, 0)),
  (460, (.iadd, 1), (0, 0, 0, 0)),
  (461, (.iaload, 1), (0, 0, 0, 0)),
  (462, (.aload_n 0, 1), (0, 0, 0, 0)),
  (463, (.iload_n 3, 1), (0, 0, 0, 0)),
  (464, (.iconst 3, 1), (0, 0, 0, 0)),
  (465, (.iadd, 1), (0, 0, 0, 0)),
  (466, (.iaload, 1), (0, 0, 0, 0)),
  (467, (.aload_n 0, 1), (0, 0, 0, 0)),
  (468, (.iload_n 3, 1), (0, 0, 0, 0)),
  (469, (.iconst 4, 1), (0, 0, 0, 0)),
  (470, (.iadd, 1), (0, 0, 0, 0)),
  (471, (.iaload, 1), (0, 0, 0, 0)),
  (472, (.aload_n 0, 1), (0, 0, 0, 0)),
  (473, (.iload_n 3, 1), (0, 0, 0, 0)),
  (474, (.iconst 5, 1), (0, 0, 0, 0)),
  (475, (.iadd, 1), (0, 0, 0, 0)),
  (476, (.iaload, 1), (0, 0, 0, 0)),
  (477, (.invokevirtual 44, 3), (134, 5, 10, 0)),
  (480, (.aload_n 2, 1), (0, 0, 0, 0)),
  (481, (.aload_n 0, 1), (0, 0, 0, 0)),
  (482, (.iload_n 3, 1), (0, 0, 0, 0)),
  (483, (.iconst 1, 1), (0, 0, 0, 0)),
  (484, (.iadd, 1), (0, 0, 0, 0)),
  (485, (.iaload, 1), (0, 0, 0, 0)),
  (486, (.aload_n 0, 1), (0, 0, 0, 0)),
  (487, (.iload_n 3, 1), (0, 0, 0, 0)),
  (488, (.iconst 2, 1), (0, 0, 0, 0)),
  (489, (.iadd, 1), (0, 0, 0, 0)),
  (490, (.iaload, 1), (0, 0, 0, 0)),
  (491, (.aload_n 0, 1), (0, 0, 0, 0)),
  (492, (.iload_n 3, 1), (0, 0, 0, 0)),
  (493, (.iconst 3, 1), (0, 0, 0, 0)),
  (494, (.iadd, 1), (0, 0, 0, 0)),
  (495, (.iaload, 1), (0, 0, 0, 0)),
  (496, (.aload_n 0, 1), (0, 0, 0, 0)),
  (497, (.iload_n 3, 1), (0, 0, 0, 0)),
  (498, (.iconst 4, 1), (0, 0, 0, 0)),
  (499, (.iadd, 1), (0, 0, 0, 0)),
  (500, (.iaload, 1), (0, 0, 0, 0)),
  (501, (.aload_n 0, 1), (0, 0, 0, 0)),
  (502, (.iload_n 3, 1), (0, 0, 0, 0)),
  (503, (.iconst 5, 1), (0, 0, 0, 0)),
  (504, (.iadd, 1), (0, 0, 0, 0)),
  (505, (.iaload, 1), (0, 0, 0, 0)),
  (506, (.invokevirtual 48, 3), (211, 5, 11, 0)),
  (509, (.if_icmp .eq 1333, 3), (0, 0, 0, 0)),
  (512, (.iconst 0, 1), (0, 0, 0, 0)),
  (513, (.ireturn, 1), (0, 0, 0, 0)),
  (514, (.aload_n 1, 1), (0, 0, 0, 0)),
  (515, (.aload_n 0, 1), (0, 0, 0, 0)),
  (516, (.iload_n 3, 1), (0, 0, 0, 0)),
  (517, (.iconst 1, 1), (0, 0, 0, 0)),
  (518, (.iadd, 1), (0, 0, 0, 0)),
  (519, (.iaload, 1), (0, 0, 0, 0)),
  (520, (.aload_n 0, 1), (0, 0, 0, 0)),
  (521, (.iload_n 3, 1), (0, 0, 0, 0)),
  (522, (.iconst 2, 1), (0, 0, 0, 0)),
  (523, (.iadd, 1), (0, 0, 0, 0)),
  (524, (.iaload, 1), (0, 0, 0, 0)),
  (525, (.aload_n 0, 1), (0, 0, 0, 0)),
  (526, (.iload_n 3, 1), (0, 0, 0, 0)),
  (527, (.iconst 3, 1), (0, 0, 0, 0)),
  (528, (.iadd, 1), (0, 0, 0, 0)),
  (529, (.iaload, 1), (0, 0, 0, 0)),
  (530, (.aload_n 0, 1), (0, 0, 0, 0)),
  (531, (.iload_n 3, 1), (0, 0, 0, 0)),
  (532, (.iconst 4, 1), (0, 0, 0, 0)),
  (533, (.iadd, 1), (0, 0, 0, 0)),
  (534, (.iaload, 1), (0, 0, 0, 0)),
  (535, (.aload_n 0, 1), (0, 0, 0, 0)),
  (536, (.iload_n 3, 1), (0, 0, 0, 0)),
  (537, (.iconst 5, 1), (0, 0, 0, 0)),
  (538, (.iadd, 1), (0, 0, 0, 0)),
  (539, (.iaload, 1), (0, 0, 0, 0)),
  (540, (.invokevirtual 49, 3), (135, 5, 10, 0)),
  (543, (.aload_n 2, 1), (0, 0, 0, 0)),
  (544, (.aload_n 0, 1), (0, 0, 0, 0)),
  (545, (.iload_n 3, 1), (0, 0, 0, 0)),
  (546, (.iconst 1, 1), (0, 0, 0, 0)),
  (547, (.iadd, 1), (0, 0, 0, 0)),
  (548, (.iaload, 1), (0, 0, 0, 0)),
  (549, (.aload_n 0, 1), (0, 0, 0, 0)),
  (550, (.iload_n 3, 1), (0, 0, 0, 0)),
  (551, (.iconst 2, 1), (0, 0, 0, 0)),
  (552, (.iadd, 1), (0, 0, 0, 0)),
  (553, (.iaload, 1), (0, 0, 0, 0)),
  (554, (.aload_n 0, 1), (0, 0, 0, 0)),
  (555, (.iload_n 3, 1), (0, 0, 0, 0)),
  (556, (.iconst 3, 1), (0, 0, 0, 0)),
  (557, (.iadd, 1), (0, 0, 0, 0)),
  (558, (.iaload, 1), (0, 0, 0, 0)),
  (559, (.aload_n 0, 1), (0, 0, 0, 0)),
  (560, (.iload_n 3, 1), (0, 0, 0, 0)),
  (561, (.iconst 4, 1), (0, 0, 0, 0)),
  (562, (.iadd, 1), (0, 0, 0, 0)),
  (563, (.iaload, 1), (0, 0, 0, 0)),
  (564, (.aload_n 0, 1), (0, 0, 0, 0)),
  (565, (.iload_n 3, 1), (0, 0, 0, 0)),
  (566, (.iconst 5, 1), (0, 0, 0, 0)),
  (567, (.iadd, 1), (0, 0, 0, 0)),
  (568, (.iaload, 1), (0, 0, 0, 0)),
  (569, (.invokevirtual 53, 3), (213, 5, 11, 0)),
  (572, (.if_icmp .eq 1270, 3), (0, 0, 0, 0)),
  (575, (.iconst 0, 1), (0, 0, 0, 0)),
  (576, (.ireturn, 1), (0, 0, 0, 0)),
  (577, (.aload_n 1, 1), (0, 0, 0, 0)),
  (578, (.aload_n 0, 1), (0, 0, 0, 0)),
  (579, (.iload_n 3, 1), (0, 0, 0, 0)),
  (580, (.iconst 1, 1), (0, 0, 0, 0)),
  (581, (.iadd, 1), (0, 0, 0, 0)),
  (582, (.iaload, 1), (0, 0, 0, 0)),
  (583, (.invokevirtual 54, 3), (136, 1, 10, 0)),
  (586, (.aload_n 2, 1), (0, 0, 0, 0)),
  (587, (.aload_n 0, 1), (0, 0, 0, 0)),
  (588, (.iload_n 3, 1), (0, 0, 0, 0)),
  (589, (.iconst 1, 1), (0, 0, 0, 0)),
  (590, (.iadd, 1), (0, 0, 0, 0)),
  (591, (.iaload, 1), (0, 0, 0, 0)),
  (592, (.invokevirtual 58, 3), (240, 1, 11, 0)),
  (595, (.if_icmp .eq 1247, 3), (0, 0, 0, 0)),
  (598, (.iconst 0, 1), (0, 0, 0, 0)),
  (599, (.ireturn, 1), (0, 0, 0, 0)),
  (600, (.aload_n 1, 1), (0, 0, 0, 0)),
  (601, (.aload_n 0, 1), (0, 0, 0, 0)),
  (602, (.iload_n 3, 1), (0, 0, 0, 0)),
  (603, (.iconst 1, 1), (0, 0, 0, 0)),
  (604, (.iadd, 1), (0, 0, 0, 0)),
  (605, (.iaload, 1), (0, 0, 0, 0)),
  (606, (.invokevirtual 59, 3), (137, 1, 10, 0)),
  (609, (.aload_n 2, 1), (0, 0, 0, 0)),
  (610, (.aload_n 0, 1), (0, 0, 0, 0)),
  (611, (.iload_n 3, 1), (0, 0, 0, 0)),
  (612, (.iconst 1, 1), (0, 0, 0, 0)),
  (613, (.iadd, 1), (0, 0, 0, 0)),
  (614, (.iaload, 1), (0, 0, 0, 0)),
  (615, (.invokevirtual 62, 3), (245, 1, 11, 0)),
  (618, (.if_icmp .eq 1224, 3), (0, 0, 0, 0)),
  (621, (.iconst 0, 1), (0, 0, 0, 0)),
  (622, (.ireturn, 1), (0, 0, 0, 0)),
  (623, (.aload_n 1, 1), (0, 0, 0, 0)),
  (624, (.aload_n 0, 1), (0, 0, 0, 0)),
  (625, (.iload_n 3, 1), (0, 0, 0, 0)),
  (626, (.iconst 1, 1), (0, 0, 0, 0)),
  (627, (.iadd, 1), (0, 0, 0, 0)),
  (628, (.iaload, 1), (0, 0, 0, 0)),
  (629, (.invokevirtual 63, 3), (138, 1, 10, 0)),
  (632, (.aload_n 2, 1), (0, 0, 0, 0)),
  (633, (.aload_n 0, 1), (0, 0, 0, 0)),
  (634, (.iload_n 3, 1), (0, 0, 0, 0)),
  (635, (.iconst 1, 1), (0, 0, 0, 0)),
  (636, (.iadd, 1), (0, 0, 0, 0)),
  (637, (.iaload, 1), (0, 0, 0, 0)),
  (638, (.invokevirtual 66, 3), (229, 1, 11, 0)),
  (641, (.if_icmp .eq 1201, 3), (0, 0, 0, 0)),
  (644, (.iconst 0, 1), (0, 0, 0, 0)),
  (645, (.ireturn, 1), (0, 0, 0, 0)),
  (646, (.aload_n 1, 1), (0, 0, 0, 0)),
  (647, (.aload_n 0, 1), (0, 0, 0, 0)),
  (648, (.iload_n 3, 1), (0, 0, 0, 0)),
  (649, (.iconst 1, 1), (0, 0, 0, 0)),
  (650, (.iadd, 1), (0, 0, 0, 0)),
  (651, (.iaload, 1), (0, 0, 0, 0)),
  (652, (.invokevirtual 67, 3), (139, 1, 10, 0)),
  (655, (.aload_n 2, 1), (0, 0, 0, 0)),
  (656, (.aload_n 0, 1), (0, 0, 0, 0)),
  (657, (.iload_n 3, 1), (0, 0, 0, 0)),
  (658, (.iconst 1, 1), (0, 0, 0, 0)),
  (659, (.iadd, 1), (0, 0, 0, 0)),
  (660, (.iaload, 1), (0, 0, 0, 0)),
  (661, (.invokevirtual 70, 3), (262, 1, 11, 0)),
  (664, (.if_icmp .eq 1178, 3), (0, 0, 0, 0)),
  (667, (.iconst 0, 1), (0, 0, 0, 0)),
  (668, (.ireturn, 1), (0, 0, 0, 0)),
  (669, (.aload_n 1, 1), (0, 0, 0, 0)),
  (670, (.aload_n 0, 1), (0, 0, 0, 0)),
  (671, (.iload_n 3, 1), (0, 0, 0, 0)),
  (672, (.iconst 1, 1), (0, 0, 0, 0)),
  (673, (.iadd, 1), (0, 0, 0, 0)),
  (674, (.iaload, 1), (0, 0, 0, 0)),
  (675, (.aload_n 0, 1), (0, 0, 0, 0)),
  (676, (.iload_n 3, 1), (0, 0, 0, 0)),
  (677, (.iconst 2, 1), (0, 0, 0, 0)),
  (678, (.iadd, 1), (0, 0, 0, 0)),
  (679, (.iaload, 1), (0, 0, 0, 0)),
  (680, (.invokevirtual 71, 3), (140, 2, 10, 0)),
  (683, (.aload_n 2, 1), (0, 0, 0, 0)),
  (684, (.aload_n 0, 1), (0, 0, 0, 0)),
  (685, (.iload_n 3, 1), (0, 0, 0, 0)),
  (686, (.iconst 1, 1), (0, 0, 0, 0)),
  (687, (.iadd, 1), (0, 0, 0, 0)),
  (688, (.iaload, 1), (0, 0, 0, 0)),
  (689, (.aload_n 0, 1), (0, 0, 0, 0)),
  (690, (.iload_n 3, 1), (0, 0, 0, 0)),
  (691, (.iconst 2, 1), (0, 0, 0, 0)),
  (692, (.iadd, 1), (0, 0, 0, 0)),
  (693, (.iaload, 1), (0, 0, 0, 0)),
  (694, (.invokevirtual 75, 3), (263, 2, 11, 0)),
  (697, (.if_icmp .eq 1145, 3), (0, 0, 0, 0)),
  (700, (.iconst 0, 1), (0, 0, 0, 0)),
  (701, (.ireturn, 1), (0, 0, 0, 0)),
  (702, (.aload_n 1, 1), (0, 0, 0, 0)),
  (703, (.aload_n 0, 1), (0, 0, 0, 0)),
  (704, (.iload_n 3, 1), (0, 0, 0, 0)),
  (705, (.iconst 1, 1), (0, 0, 0, 0)),
  (706, (.iadd, 1), (0, 0, 0, 0)),
  (707, (.iaload, 1), (0, 0, 0, 0)),
  (708, (.invokevirtual 76, 3), (141, 1, 10, 0)),
  (711, (.aload_n 2, 1), (0, 0, 0, 0)),
  (712, (.aload_n 0, 1), (0, 0, 0, 0)),
  (713, (.iload_n 3, 1), (0, 0, 0, 0)),
  (714, (.iconst 1, 1), (0, 0, 0, 0)),
  (715, (.iadd, 1), (0, 0, 0, 0)),
  (716, (.iaload, 1), (0, 0, 0, 0)),
  (717, (.invokevirtual 79, 3), (264, 1, 11, 0)),
  (720, (.if_icmp .eq 1122, 3), (0, 0, 0, 0)),
  (723, (.iconst 0, 1), (0, 0, 0, 0)),
  (724, (.ireturn, 1), (0, 0, 0, 0)),
  (725, (.aload_n 1, 1), (0, 0, 0, 0)),
  (726, (.aload_n 0, 1), (0, 0, 0, 0)),
  (727, (.iload_n 3, 1), (0, 0, 0, 0)),
  (728, (.iconst 1, 1), (0, 0, 0, 0)),
  (729, (.iadd, 1), (0, 0, 0, 0)),
  (730, (.iaload, 1), (0, 0, 0, 0)),
  (731, (.aload_n 0, 1), (0, 0, 0, 0)),
  (732, (.iload_n 3, 1), (0, 0, 0, 0)),
  (733, (.iconst 2, 1), (0, 0, 0, 0)),
  (734, (.iadd, 1), (0, 0, 0, 0)),
  (735, (.iaload, 1), (0, 0, 0, 0)),
  (736, (.invokevirtual 80, 3), (142, 2, 10, 0)),
  (739, (.aload_n 2, 1), (0, 0, 0, 0)),
  (740, (.aload_n 0, 1), (0, 0, 0, 0)),
  (741, (.iload_n 3, 1), (0, 0, 0, 0)),
  (742, (.iconst 1, 1), (0, 0, 0, 0)),
  (743, (.iadd, 1), (0, 0, 0, 0)),
  (744, (.iaload, 1), (0, 0, 0, 0)),
  (745, (.aload_n 0, 1), (0, 0, 0, 0)),
  (746, (.iload_n 3, 1), (0, 0, 0, 0)),
  (747, (.iconst 2, 1), (0, 0, 0, 0)),
  (748, (.iadd, 1), (0, 0, 0, 0)),
  (749, (.iaload, 1), (0, 0, 0, 0)),
  (750, (.invokevirtual 83, 3), (265, 2, 11, 0)),
  (753, (.if_icmp .eq 1089, 3), (0, 0, 0, 0)),
  (756, (.iconst 0, 1), (0, 0, 0, 0)),
  (757, (.ireturn, 1), (0, 0, 0, 0)),
  (758, (.aload_n 1, 1), (0, 0, 0, 0)),
  (759, (.aload_n 0, 1), (0, 0, 0, 0)),
  (760, (.iload_n 3, 1), (0, 0, 0, 0)),
  (761, (.iconst 1, 1), (0, 0, 0, 0)),
  (762, (.iadd, 1), (0, 0, 0, 0)),
  (763, (.iaload, 1), (0, 0, 0, 0)),
  (764, (.invokevirtual 84, 3), (143, 1, 10, 0)),
  (767, (.aload_n 2, 1), (0, 0, 0, 0)),
  (768, (.aload_n 0, 1), (0, 0, 0, 0)),
  (769, (.iload_n 3, 1), (0, 0, 0, 0)),
  (770, (.iconst 1, 1), (0, 0, 0, 0)),
  (771, (.iadd, 1), (0, 0, 0, 0)),
  (772, (.iaload, 1), (0, 0, 0, 0)),
  (773, (.invokevirtual 87, 3), (266, 1, 11, 0)),
  (776, (.if_icmp .eq 1066, 3), (0, 0, 0, 0)),
  (779, (.iconst 0, 1), (0, 0, 0, 0)),
  (780, (.ireturn, 1), (0, 0, 0, 0)),
  (781, (.aload_n 1, 1), (0, 0, 0, 0)),
  (782, (.aload_n 0, 1), (0, 0, 0, 0)),
  (783, (.iload_n 3, 1), (0, 0, 0, 0)),
  (784, (.iconst 1, 1), (0, 0, 0, 0)),
  (785, (.iadd, 1), (0, 0, 0, 0)),
  (786, (.iaload, 1), (0, 0, 0, 0)),
  (787, (.aload_n 0, 1), (0, 0, 0, 0)),
  (788, (.iload_n 3, 1), (0, 0, 0, 0)),
  (789, (.iconst 2, 1), (0, 0, 0, 0)),
  (790, (.iadd, 1), (0, 0, 0, 0)),
  (791, (.iaload, 1), (0, 0, 0, 0)),
  (792, (.invokevirtual 88, 3), (144, 2, 10, 0)),
  (795, (.aload_n 2, 1), (0, 0, 0, 0)),
  (796, (.aload_n 0, 1), (0, 0, 0, 0)),
  (797, (.iload_n 3, 1), (0, 0, 0, 0)),
  (798, (.iconst 1, 1), (0, 0, 0, 0)),
  (799, (.iadd, 1), (0, 0, 0, 0)),
  (800, (.iaload, 1), (0, 0, 0, 0)),
  (801, (.aload_n 0, 1), (0, 0, 0, 0)),
  (802, (.iload_n 3, 1), (0, 0, 0, 0)),
  (803, (.iconst 2, 1), (0, 0, 0, 0)),
  (804, (.iadd, 1), (0, 0, 0, 0)),
  (805, (.iaload, 1), (0, 0, 0, 0)),
  (806, (.invokevirtual 91, 3), (267, 2, 11, 0)),
  (809, (.if_icmp .eq 1033, 3), (0, 0, 0, 0)),
  (812, (.iconst 0, 1), (0, 0, 0, 0)),
  (813, (.ireturn, 1), (0, 0, 0, 0)),
  (814, (.aload_n 1, 1), (0, 0, 0, 0)),
  (815, (.aload_n 0, 1), (0, 0, 0, 0)),
  (816, (.iload_n 3, 1), (0, 0, 0, 0)),
  (817, (.iconst 1, 1), (0, 0, 0, 0)),
  (818, (.iadd, 1), (0, 0, 0, 0)),
  (819, (.iaload, 1), (0, 0, 0, 0)),
  (820, (.invokevirtual 92, 3), (145, 1, 10, 0)),
  (823, (.aload_n 2, 1), (0, 0, 0, 0)),
  (824, (.aload_n 0, 1), (0, 0, 0, 0)),
  (825, (.iload_n 3, 1), (0, 0, 0, 0)),
  (826, (.iconst 1, 1), (0, 0, 0, 0)),
  (827, (.iadd, 1), (0, 0, 0, 0)),
  (828, (.iaload, 1), (0, 0, 0, 0)),
  (829, (.invokevirtual 95, 3), (272, 1, 11, 0)),
  (832, (.if_icmp .eq 1010, 3), (0, 0, 0, 0)),
  (835, (.iconst 0, 1), (0, 0, 0, 0)),
  (836, (.ireturn, 1), (0, 0, 0, 0)),
  (837, (.aload_n 1, 1), (0, 0, 0, 0)),
  (838, (.aload_n 0, 1), (0, 0, 0, 0)),
  (839, (.iload_n 3, 1), (0, 0, 0, 0)),
  (840, (.iconst 1, 1), (0, 0, 0, 0)),
  (841, (.iadd, 1), (0, 0, 0, 0)),
  (842, (.iaload, 1), (0, 0, 0, 0)),
  (843, (.aload_n 0, 1), (0, 0, 0, 0)),
  (844, (.iload_n 3, 1), (0, 0, 0, 0)),
  (845, (.iconst 2, 1), (0, 0, 0, 0)),
  (846, (.iadd, 1), (0, 0, 0, 0)),
  (847, (.iaload, 1), (0, 0, 0, 0)),
  (848, (.invokevirtual 96, 3), (146, 2, 10, 0)),
  (851, (.aload_n 2, 1), (0, 0, 0, 0)),
  (852, (.aload_n 0, 1), (0, 0, 0, 0)),
  (853, (.iload_n 3, 1), (0, 0, 0, 0)),
  (854, (.iconst 1, 1), (0, 0, 0, 0)),
  (855, (.iadd, 1), (0, 0, 0, 0)),
  (856, (.iaload, 1), (0, 0, 0, 0)),
  (857, (.aload_n 0, 1), (0, 0, 0, 0)),
  (858, (.iload_n 3, 1), (0, 0, 0, 0)),
  (859, (.iconst 2, 1), (0, 0, 0, 0)),
  (860, (.iadd, 1), (0, 0, 0, 0)),
  (861, (.iaload, 1), (0, 0, 0, 0)),
  (862, (.invokevirtual 99, 3), (274, 2, 11, 0)),
  (865, (.if_icmp .eq 977, 3), (0, 0, 0, 0)),
  (868, (.iconst 0, 1), (0, 0, 0, 0)),
  (869, (.ireturn, 1), (0, 0, 0, 0)),
  (870, (.aload_n 1, 1), (0, 0, 0, 0)),
  (871, (.aload_n 0, 1), (0, 0, 0, 0)),
  (872, (.iload_n 3, 1), (0, 0, 0, 0)),
  (873, (.iconst 1, 1), (0, 0, 0, 0)),
  (874, (.iadd, 1), (0, 0, 0, 0)),
  (875, (.iaload, 1), (0, 0, 0, 0)),
  (876, (.invokevirtual 100, 3), (147, 1, 10, 0)),
  (879, (.aload_n 2, 1), (0, 0, 0, 0)),
  (880, (.aload_n 0, 1), (0, 0, 0, 0)),
  (881, (.iload_n 3, 1), (0, 0, 0, 0)),
  (882, (.iconst 1, 1), (0, 0, 0, 0)),
  (883, (.iadd, 1), (0, 0, 0, 0)),
  (884, (.iaload, 1), (0, 0, 0, 0)),
  (885, (.invokevirtual 103, 3), (280, 1, 11, 0)),
  (888, (.if_icmp .eq 954, 3), (0, 0, 0, 0)),
  (891, (.iconst 0, 1), (0, 0, 0, 0)),
  (892, (.ireturn, 1), (0, 0, 0, 0)),
  (893, (.aload_n 1, 1), (0, 0, 0, 0)),
  (894, (.invokevirtual 104, 3), (148, 0, 10, 0)),
  (897, (.aload_n 2, 1), (0, 0, 0, 0)),
  (898, (.invokevirtual 107, 3), (281, 0, 11, 0)),
  (901, (.if_icmp .eq 941, 3), (0, 0, 0, 0)),
  (904, (.iconst 0, 1), (0, 0, 0, 0)),
  (905, (.ireturn, 1), (0, 0, 0, 0)),
  (906, (.aload_n 1, 1), (0, 0, 0, 0)),
  (907, (.aload_n 0, 1), (0, 0, 0, 0)),
  (908, (.iload_n 3, 1), (0, 0, 0, 0)),
  (909, (.iconst 1, 1), (0, 0, 0, 0)),
  (910, (.iadd, 1), (0, 0, 0, 0)),
  (911, (.iaload, 1), (0, 0, 0, 0)),
  (912, (.aload_n 0, 1), (0, 0, 0, 0)),
  (913, (.iload_n 3, 1), (0, 0, 0, 0)),
  (914, (.iconst 2, 1), (0, 0, 0, 0)),
  (915, (.iadd, 1), (0, 0, 0, 0)),
  (916, (.iaload, 1), (0, 0, 0, 0)),
  (917, (.invokevirtual 108, 3), (149, 2, 10, 0)),
  (920, (.aload_n 2, 1), (0, 0, 0, 0)),
  (921, (.aload_n 0, 1), (0, 0, 0, 0)),
  (922, (.iload_n 3, 1), (0, 0, 0, 0)),
  (923, (.iconst 1, 1), (0, 0, 0, 0)),
  (924, (.iadd, 1), (0, 0, 0, 0)),
  (925, (.iaload, 1), (0, 0, 0, 0)),
  (926, (.aload_n 0, 1), (0, 0, 0, 0)),
  (927, (.iload_n 3, 1), (0, 0, 0, 0)),
  (928, (.iconst 2, 1), (0, 0, 0, 0)),
  (929, (.iadd, 1), (0, 0, 0, 0)),
  (930, (.iaload, 1), (0, 0, 0, 0)),
  (931, (.invokevirtual 112, 3), (284, 2, 11, 0)),
  (934, (.if_icmp .eq 908, 3), (0, 0, 0, 0)),
  (937, (.iconst 0, 1), (0, 0, 0, 0)),
  (938, (.ireturn, 1), (0, 0, 0, 0)),
  (939, (.aload_n 1, 1), (0, 0, 0, 0)),
  (940, (.aload_n 0, 1), (0, 0, 0, 0)),
  (941, (.iload_n 3, 1), (0, 0, 0, 0)),
  (942, (.iconst 1, 1), (0, 0, 0, 0)),
  (943, (.iadd, 1), (0, 0, 0, 0)),
  (944, (.iaload, 1), (0, 0, 0, 0)),
  (945, (.invokevirtual 113, 3), (150, 1, 10, 0)),
  (948, (.aload_n 2, 1), (0, 0, 0, 0)),
  (949, (.aload_n 0, 1), (0, 0, 0, 0)),
  (950, (.iload_n 3, 1), (0, 0, 0, 0)),
  (951, (.iconst 1, 1), (0, 0, 0, 0)),
  (952, (.iadd, 1), (0, 0, 0, 0)),
  (953, (.iaload, 1), (0, 0, 0, 0)),
  (954, (.invokevirtual 116, 3), (285, 1, 11, 0)),
  (957, (.if_icmp .eq 885, 3), (0, 0, 0, 0)),
  (960, (.iconst 0, 1), (0, 0, 0, 0)),
  (961, (.ireturn, 1), (0, 0, 0, 0)),
  (962, (.aload_n 1, 1), (0, 0, 0, 0)),
  (963, (.aload_n 0, 1), (0, 0, 0, 0)),
  (964, (.iload_n 3, 1), (0, 0, 0, 0)),
  (965, (.iconst 1, 1), (0, 0, 0, 0)),
  (966, (.iadd, 1), (0, 0, 0, 0)),
  (967, (.iaload, 1), (0, 0, 0, 0)),
  (968, (.aload_n 0, 1), (0, 0, 0, 0)),
  (969, (.iload_n 3, 1), (0, 0, 0, 0)),
  (970, (.iconst 2, 1), (0, 0, 0, 0)),
  (971, (.iadd, 1), (0, 0, 0, 0)),
  (972, (.iaload, 1), (0, 0, 0, 0)),
  (973, (.invokevirtual 117, 3), (151, 2, 10, 0)),
  (976, (.aload_n 2, 1), (0, 0, 0, 0)),
  (977, (.aload_n 0, 1), (0, 0, 0, 0)),
  (978, (.iload_n 3, 1), (0, 0, 0, 0)),
  (979, (.iconst 1, 1), (0, 0, 0, 0)),
  (980, (.iadd, 1), (0, 0, 0, 0)),
  (981, (.iaload, 1), (0, 0, 0, 0)),
  (982, (.aload_n 0, 1), (0, 0, 0, 0)),
  (983, (.iload_n 3, 1), (0, 0, 0, 0)),
  (984, (.iconst 2, 1), (0, 0, 0, 0)),
  (985, (.iadd, 1), (0, 0, 0, 0)),
  (986, (.iaload, 1), (0, 0, 0, 0)),
  (987, (.invokevirtual 120, 3), (287, 2, 11, 0)),
  (990, (.if_icmp .eq 852, 3), (0, 0, 0, 0)),
  (993, (.iconst 0, 1), (0, 0, 0, 0)),
  (994, (.ireturn, 1), (0, 0, 0, 0)),
  (995, (.aload_n 1, 1), (0, 0, 0, 0)),
  (996, (.aload_n 0, 1), (0, 0, 0, 0)),
  (997, (.iload_n 3, 1), (0, 0, 0, 0)),
  (998, (.iconst 1, 1), (0, 0, 0, 0)),
  (999, (.iadd, 1), (0, 0, 0, 0)),
  (1000, (.iaload, 1), (0, 0, 0, 0)),
  (1001, (.aload_n 0, 1), (0, 0, 0, 0)),
  (1002, (.iload_n 3, 1), (0, 0, 0, 0)),
  (1003, (.iconst 2, 1), (0, 0, 0, 0)),
  (1004, (.iadd, 1), (0, 0, 0, 0)),
  (1005, (.iaload, 1), (0, 0, 0, 0)),
  (1006, (.invokevirtual 121, 3), (152, 2, 10, 0)),
  (1009, (.aload_n 2, 1), (0, 0, 0, 0)),
  (1010, (.aload_n 0, 1), (0, 0, 0, 0)),
  (1011, (.iload_n 3, 1), (0, 0, 0, 0)),
  (1012, (.iconst 1, 1), (0, 0, 0, 0)),
  (1013, (.iadd, 1), (0, 0, 0, 0)),
  (1014, (.iaload, 1), (0, 0, 0, 0)),
  (1015, (.aload_n 0, 1), (0, 0, 0, 0)),
  (1016, (.iload_n 3, 1), (0, 0, 0, 0)),
  (1017, (.iconst 2, 1), (0, 0, 0, 0)),
  (1018, (.iadd, 1), (0, 0, 0, 0)),
  (1019, (.iaload, 1), (0, 0, 0, 0)),
  (1020, (.invokevirtual 124, 3), (288, 2, 11, 0)),
  (1023, (.if_icmp .eq 819, 3), (0, 0, 0, 0)),
  (1026, (.iconst 0, 1), (0, 0, 0, 0)),
  (1027, (.ireturn, 1), (0, 0, 0, 0)),
  (1028, (.aload_n 1, 1), (0, 0, 0, 0)),
  (1029, (.aload_n 0, 1), (0, 0, 0, 0)),
  (1030, (.iload_n 3, 1), (0, 0, 0, 0)),
  (1031, (.iconst 1, 1), (0, 0, 0, 0)),
  (1032, (.iadd, 1), (0, 0, 0, 0)),
  (1033, (.iaload, 1), (0, 0, 0, 0)),
  (1034, (.aload_n 0, 1), (0, 0, 0, 0)),
  (1035, (.iload_n 3, 1), (0, 0, 0, 0)),
  (1036, (.iconst 2, 1), (0, 0, 0, 0)),
  (1037, (.iadd, 1), (0, 0, 0, 0)),
  (1038, (.iaload, 1), (0, 0, 0, 0)),
  (1039, (.aload_n 0, 1), (0, 0, 0, 0)),
  (1040, (.iload_n 3, 1), (0, 0, 0, 0)),
  (1041, (.iconst 3, 1), (0, 0, 0, 0)),
  (1042, (.iadd, 1), (0, 0, 0, 0)),
  (1043, (.iaload, 1), (0, 0, 0, 0)),
  (1044, (.invokevirtual 125, 3), (153, 3, 10, 0)),
  (1047, (.aload_n 2, 1), (0, 0, 0, 0)),
  (1048, (.aload_n 0, 1), (0, 0, 0, 0)),
  (1049, (.iload_n 3, 1), (0, 0, 0, 0)),
  (1050, (.iconst 1, 1), (0, 0, 0, 0)),
  (1051, (.iadd, 1), (0, 0, 0, 0)),
  (1052, (.iaload, 1), (0, 0, 0, 0)),
  (1053, (.aload_n 0, 1), (0, 0, 0, 0)),
  (1054, (.iload_n 3, 1), (0, 0, 0, 0)),
  (1055, (.iconst 2, 1), (0, 0, 0, 0)),
  (1056, (.iadd, 1), (0, 0, 0, 0)),
  (1057, (.iaload, 1), (0, 0, 0, 0)),
  (1058, (.aload_n 0, 1), (0, 0, 0, 0)),
  (1059, (.iload_n 3, 1), (0, 0, 0, 0)),
  (1060, (.iconst 3, 1), (0, 0, 0, 0)),
  (1061, (.iadd, 1), (0, 0, 0, 0)),
  (1062, (.iaload, 1), (0, 0, 0, 0)),
  (1063, (.invokevirtual 129, 3), (289, 3, 11, 0)),
  (1066, (.if_icmp .eq 776, 3), (0, 0, 0, 0)),
  (1069, (.iconst 0, 1), (0, 0, 0, 0)),
  (1070, (.ireturn, 1), (0, 0, 0, 0)),
  (1071, (.aload_n 1, 1), (0, 0, 0, 0)),
  (1072, (.aload_n 0, 1), (0, 0, 0, 0)),
  (1073, (.iload_n 3, 1), (0, 0, 0, 0)),
  (1074, (.iconst 1, 1), (0, 0, 0, 0)),
  (1075, (.iadd, 1), (0, 0, 0, 0)),
  (1076, (.iaload, 1), (0, 0, 0, 0)),
  (1077, (.aload_n 0, 1), (0, 0, 0, 0)),
  (1078, (.iload_n 3, 1), (0, 0, 0, 0)),
  (1079, (.iconst 2, 1), (0, 0, 0, 0)),
  (1080, (.iadd, 1), (0, 0, 0, 0)),
  (1081, (.iaload, 1), (0, 0, 0, 0)),
  (1082, (.invokevirtual 130, 3), (154, 2, 10, 0)),
  (1085, (.aload_n 2, 1), (0, 0, 0, 0)),
  (1086, (.aload_n 0, 1), (0, 0, 0, 0)),
  (1087, (.iload_n 3, 1), (0, 0, 0, 0)),
  (1088, (.iconst 1, 1), (0, 0, 0, 0)),
  (1089, (.iadd, 1), (0, 0, 0, 0)),
  (1090, (.iaload, 1), (0, 0, 0, 0)),
  (1091, (.aload_n 0, 1), (0, 0, 0, 0)),
  (1092, (.iload_n 3, 1), (0, 0, 0, 0)),
  (1093, (.iconst 2, 1), (0, 0, 0, 0)),
  (1094, (.iadd, 1), (0, 0, 0, 0)),
  (1095, (.iaload, 1), (0, 0, 0, 0)),
  (1096, (.invokevirtual 133, 3), (290, 2, 11, 0)),
  (1099, (.if_icmp .eq 743, 3), (0, 0, 0, 0)),
  (1102, (.iconst 0, 1), (0, 0, 0, 0)),
  (1103, (.ireturn, 1), (0, 0, 0, 0)),
  (1104, (.aload_n 1, 1), (0, 0, 0, 0)),
  (1105, (.invokevirtual 134, 3), (155, 0, 10, 0)),
  (1108, (.aload_n 2, 1), (0, 0, 0, 0)),
  (1109, (.invokevirtual 137, 3), (282, 0, 11, 0)),
  (1112, (.if_icmp .eq 730, 3), (0, 0, 0, 0)),
  (1115, (.iconst 0, 1), (0, 0, 0, 0)),
  (1116, (.ireturn, 1), (0, 0, 0, 0)),
  (1117, (.aload_n 1, 1), (0, 0, 0, 0)),
  (1118, (.invokevirtual 138, 3), (156, 0, 10, 0)),
  (1121, (.aload_n 2, 1), (0, 0, 0, 0)),
  (1122, (.invokevirtual 141, 3), (283, 0, 11, 0)),
  (1125, (.if_icmp .eq 717, 3), (0, 0, 0, 0)),
  (1128, (.iconst 0, 1), (0, 0, 0, 0)),
  (1129, (.ireturn, 1), (0, 0, 0, 0)),
  (1130, (.aload_n 1, 1), (0, 0, 0, 0)),
  (1131, (.aload_n 0, 1), (0, 0, 0, 0)),
  (1132, (.iload_n 3, 1), (0, 0, 0, 0)),
  (1133, (.iconst 1, 1), (0, 0, 0, 0)),
  (1134, (.iadd, 1), (0, 0, 0, 0)),
  (1135, (.iaload, 1), (0, 0, 0, 0)),
  (1136, (.invokevirtual 142, 3), (157, 1, 10, 0)),
  (1139, (.aload_n 2, 1), (0, 0, 0, 0)),
  (1140, (.aload_n 0, 1), (0, 0, 0, 0)),
  (1141, (.iload_n 3, 1), (0, 0, 0, 0)),
  (1142, (.iconst 1, 1), (0, 0, 0, 0)),
  (1143, (.iadd, 1), (0, 0, 0, 0)),
  (1144, (.iaload, 1), (0, 0, 0, 0)),
  (1145, (.invokevirtual 145, 3), (296, 1, 11, 0)),
  (1148, (.if_icmp .eq 694, 3), (0, 0, 0, 0)),
  (1151, (.iconst 0, 1), (0, 0, 0, 0)),
  (1152, (.ireturn, 1), (0, 0, 0, 0)),
  (1153, (.aload_n 1, 1), (0, 0, 0, 0)),
  (1154, (.aload_n 0, 1), (0, 0, 0, 0)),
  (1155, (.iload_n 3, 1), (0, 0, 0, 0)),
  (1156, (.iconst 1, 1), (0, 0, 0, 0)),
  (1157, (.iadd, 1), (0, 0, 0, 0)),
  (1158, (.iaload, 1), (0, 0, 0, 0)),
  (1159, (.invokevirtual 146, 3), (158, 1, 10, 0)),
  (1162, (.aload_n 2, 1), (0, 0, 0, 0)),
  (1163, (.aload_n 0, 1), (0, 0, 0, 0)),
  (1164, (.iload_n 3, 1), (0, 0, 0, 0)),
  (1165, (.iconst 1, 1), (0, 0, 0, 0)),
  (1166, (.iadd, 1), (0, 0, 0, 0)),
  (1167, (.iaload, 1), (0, 0, 0, 0)),
  (1168, (.invokevirtual 149, 3), (297, 1, 11, 0)),
  (1171, (.if_icmp .eq 671, 3), (0, 0, 0, 0)),
  (1174, (.iconst 0, 1), (0, 0, 0, 0)),
  (1175, (.ireturn, 1), (0, 0, 0, 0)),
  (1176, (.aload_n 1, 1), (0, 0, 0, 0)),
  (1177, (.invokevirtual 150, 3), (159, 0, 10, 0)),
  (1180, (.aload_n 2, 1), (0, 0, 0, 0)),
  (1181, (.invokevirtual 153, 3), (298, 0, 11, 0)),
  (1184, (.if_icmp .eq 658, 3), (0, 0, 0, 0)),
  (1187, (.iconst 0, 1), (0, 0, 0, 0)),
  (1188, (.ireturn, 1), (0, 0, 0, 0)),
  (1189, (.aload_n 1, 1), (0, 0, 0, 0)),
  (1190, (.invokevirtual 154, 3), (160, 0, 10, 0)),
  (1193, (.aload_n 2, 1), (0, 0, 0, 0)),
  (1194, (.invokevirtual 157, 3), (299, 0, 11, 0)),
  (1197, (.if_icmp .eq 645, 3), (0, 0, 0, 0)),
  (1200, (.iconst 0, 1), (0, 0, 0, 0)),
  (1201, (.ireturn, 1), (0, 0, 0, 0)),
  (1202, (.aload_n 1, 1), (0, 0, 0, 0)),
  (1203, (.aload_n 0, 1), (0, 0, 0, 0)),
  (1204, (.iload_n 3, 1), (0, 0, 0, 0)),
  (1205, (.iconst 1, 1), (0, 0, 0, 0)),
  (1206, (.iadd, 1), (0, 0, 0, 0)),
  (1207, (.iaload, 1), (0, 0, 0, 0)),
  (1208, (.aload_n 0, 1), (0, 0, 0, 0)),
  (1209, (.iload_n 3, 1), (0, 0, 0, 0)),
  (1210, (.iconst 2, 1), (0, 0, 0, 0)),
  (1211, (.iadd, 1), (0, 0, 0, 0)),
  (1212, (.iaload, 1), (0, 0, 0, 0)),
  (1213, (.invokevirtual 158, 3), (161, 2, 10, 0)),
  (1216, (.aload_n 2, 1), (0, 0, 0, 0)),
  (1217, (.aload_n 0, 1), (0, 0, 0, 0)),
  (1218, (.iload_n 3, 1), (0, 0, 0, 0)),
  (1219, (.iconst 1, 1), (0, 0, 0, 0)),
  (1220, (.iadd, 1), (0, 0, 0, 0)),
  (1221, (.iaload, 1), (0, 0, 0, 0)),
  (1222, (.aload_n 0, 1), (0, 0, 0, 0)),
  (1223, (.iload_n 3, 1), (0, 0, 0, 0)),
  (1224, (.iconst 2, 1), (0, 0, 0, 0)),
  (1225, (.iadd, 1), (0, 0, 0, 0)),
  (1226, (.iaload, 1), (0, 0, 0, 0)),
  (1227, (.invokevirtual 161, 3), (303, 2, 11, 0)),
  (1230, (.if_icmp .eq 612, 3), (0, 0, 0, 0)),
  (1233, (.iconst 0, 1), (0, 0, 0, 0)),
  (1234, (.ireturn, 1), (0, 0, 0, 0)),
  (1235, (.aload_n 1, 1), (0, 0, 0, 0)),
  (1236, (.aload_n 0, 1), (0, 0, 0, 0)),
  (1237, (.iload_n 3, 1), (0, 0, 0, 0)),
  (1238, (.iconst 1, 1), (0, 0, 0, 0)),
  (1239, (.iadd, 1), (0, 0, 0, 0)),
  (1240, (.iaload, 1), (0, 0, 0, 0)),
  (1241, (.aload_n 0, 1), (0, 0, 0, 0)),
  (1242, (.iload_n 3, 1), (0, 0, 0, 0)),
  (1243, (.iconst 2, 1), (0, 0, 0, 0)),
  (1244, (.iadd, 1), (0, 0, 0, 0)),
  (1245, (.iaload, 1), (0, 0, 0, 0)),
  (1246, (.aload_n 0, 1), (0, 0, 0, 0)),
  (1247, (.iload_n 3, 1), (0, 0, 0, 0)),
  (1248, (.iconst 3, 1), (0, 0, 0, 0)),
  (1249, (.iadd, 1), (0, 0, 0, 0)),
  (1250, (.iaload, 1), (0, 0, 0, 0)),
  (1251, (.invokevirtual 162, 3), (162, 3, 10, 0)),
  (1254, (.aload_n 2, 1), (0, 0, 0, 0)),
  (1255, (.aload_n 0, 1), (0, 0, 0, 0)),
  (1256, (.iload_n 3, 1), (0, 0, 0, 0)),
  (1257, (.iconst 1, 1), (0, 0, 0, 0)),
  (1258, (.iadd, 1), (0, 0, 0, 0)),
  (1259, (.iaload, 1), (0, 0, 0, 0)),
  (1260, (.aload_n 0, 1), (0, 0, 0, 0)),
  (1261, (.iload_n 3, 1), (0, 0, 0, 0)),
  (1262, (.iconst 2, 1), (0, 0, 0, 0)),
  (1263, (.iadd, 1), (0, 0, 0, 0)),
  (1264, (.iaload, 1), (0, 0, 0, 0)),
  (1265, (.aload_n 0, 1), (0, 0, 0, 0)),
  (1266, (.iload_n 3, 1), (0, 0, 0, 0)),
  (1267, (.iconst 3, 1), (0, 0, 0, 0)),
  (1268, (.iadd, 1), (0, 0, 0, 0)),
  (1269, (.iaload, 1), (0, 0, 0, 0)),
  (1270, (.invokevirtual 165, 3), (304, 3, 11, 0)),
  (1273, (.if_icmp .eq 569, 3), (0, 0, 0, 0)),
  (1276, (.iconst 0, 1), (0, 0, 0, 0)),
  (1277, (.ireturn, 1), (0, 0, 0, 0)),
  (1278, (.aload_n 1, 1), (0, 0, 0, 0)),
  (1279, (.aload_n 0, 1), (0, 0, 0, 0)),
  (1280, (.iload_n 3, 1), (0, 0, 0, 0)),
  (1281, (.iconst 1, 1), (0, 0, 0, 0)),
  (1282, (.iadd, 1), (0, 0, 0, 0)),
  (1283, (.iaload, 1), (0, 0, 0, 0)),
  (1284, (.aload_n 0, 1), (0, 0, 0, 0)),
  (1285, (.iload_n 3, 1), (0, 0, 0, 0)),
  (1286, (.iconst 2, 1), (0, 0, 0, 0)),
  (1287, (.iadd, 1), (0, 0, 0, 0)),
  (1288, (.iaload, 1), (0, 0, 0, 0)),
  (1289, (.invokevirtual 166, 3), (163, 2, 10, 0)),
  (1292, (.aload_n 2, 1), (0, 0, 0, 0)),
  (1293, (.aload_n 0, 1), (0, 0, 0, 0)),
  (1294, (.iload_n 3, 1), (0, 0, 0, 0)),
  (1295, (.iconst 1, 1), (0, 0, 0, 0)),
  (1296, (.iadd, 1), (0, 0, 0, 0)),
  (1297, (.iaload, 1), (0, 0, 0, 0)),
  (1298, (.aload_n 0, 1), (0, 0, 0, 0)),
  (1299, (.iload_n 3, 1), (0, 0, 0, 0)),
  (1300, (.iconst 2, 1), (0, 0, 0, 0)),
  (1301, (.iadd, 1), (0, 0, 0, 0)),
  (1302, (.iaload, 1), (0, 0, 0, 0)),
  (1303, (.invokevirtual 169, 3), (305, 2, 11, 0)),
  (1306, (.if_icmp .eq 536, 3), (0, 0, 0, 0)),
  (1309, (.iconst 0, 1), (0, 0, 0, 0)),
  (1310, (.ireturn, 1), (0, 0, 0, 0)),
  (1311, (.aload_n 1, 1), (0, 0, 0, 0)),
  (1312, (.aload_n 0, 1), (0, 0, 0, 0)),
  (1313, (.iload_n 3, 1), (0, 0, 0, 0)),
  (1314, (.iconst 1, 1), (0, 0, 0, 0)),
  (1315, (.iadd, 1), (0, 0, 0, 0)),
  (1316, (.iaload, 1), (0, 0, 0, 0)),
  (1317, (.aload_n 0, 1), (0, 0, 0, 0)),
  (1318, (.iload_n 3, 1), (0, 0, 0, 0)),
  (1319, (.iconst 2, 1), (0, 0, 0, 0)),
  (1320, (.iadd, 1), (0, 0, 0, 0)),
  (1321, (.iaload, 1), (0, 0, 0, 0)),
  (1322, (.aload_n 0, 1), (0, 0, 0, 0)),
  (1323, (.iload_n 3, 1), (0, 0, 0, 0)),
  (1324, (.iconst 3, 1), (0, 0, 0, 0)),
  (1325, (.iadd, 1), (0, 0, 0, 0)),
  (1326, (.iaload, 1), (0, 0, 0, 0)),
  (1327, (.invokevirtual 170, 3), (164, 3, 10, 0)),
  (1330, (.aload_n 2, 1), (0, 0, 0, 0)),
  (1331, (.aload_n 0, 1), (0, 0, 0, 0)),
  (1332, (.iload_n 3, 1), (0, 0, 0, 0)),
  (1333, (.iconst 1, 1), (0, 0, 0, 0)),
  (1334, (.iadd, 1), (0, 0, 0, 0)),
  (1335, (.iaload, 1), (0, 0, 0, 0)),
  (1336, (.aload_n 0, 1), (0, 0, 0, 0)),
  (1337, (.iload_n 3, 1), (0, 0, 0, 0)),
  (1338, (.iconst 2, 1), (0, 0, 0, 0)),
  (1339, (.iadd, 1), (0, 0, 0, 0)),
  (1340, (.iaload, 1), (0, 0, 0, 0)),
  (1341, (.aload_n 0, 1), (0, 0, 0, 0)),
  (1342, (.iload_n 3, 1), (0, 0, 0, 0)),
  (1343, (.iconst 3, 1), (0, 0, 0, 0)),
  (1344, (.iadd, 1), (0, 0, 0, 0)),
  (1345, (.iaload, 1), (0, 0, 0, 0)),
  (1346, (.invokevirtual 173, 3), (307, 3, 11, 0)),
  (1349, (.if_icmp .eq 493, 3), (0, 0, 0, 0)),
  (1352, (.iconst 0, 1), (0, 0, 0, 0)),
  (1353, (.ireturn, 1), (0, 0, 0, 0)),
  (1354, (.aload_n 1, 1), (0, 0, 0, 0)),
  (1355, (.aload_n 0, 1), (0, 0, 0, 0)),
  (1356, (.iload_n 3, 1), (0, 0, 0, 0)),
  (1357, (.iconst 1, 1), (0, 0, 0, 0)),
  (1358, (.iadd, 1), (0, 0, 0, 0)),
  (1359, (.iaload, 1), (0, 0, 0, 0)),
  (1360, (.aload_n 0, 1), (0, 0, 0, 0)),
  (1361, (.iload_n 3, 1), (0, 0, 0, 0)),
  (1362, (.iconst 2, 1), (0, 0, 0, 0)),
  (1363, (.iadd, 1), (0, 0, 0, 0)),
  (1364, (.iaload, 1), (0, 0, 0, 0)),
  (1365, (.invokevirtual 174, 3), (165, 2, 10, 0)),
  (1368, (.aload_n 2, 1), (0, 0, 0, 0)),
  (1369, (.aload_n 0, 1), (0, 0, 0, 0)),
  (1370, (.iload_n 3, 1), (0, 0, 0, 0)),
  (1371, (.iconst 1, 1), (0, 0, 0, 0)),
  (1372, (.iadd, 1), (0, 0, 0, 0)),
  (1373, (.iaload, 1), (0, 0, 0, 0)),
  (1374, (.aload_n 0, 1), (0, 0, 0, 0)),
  (1375, (.iload_n 3, 1), (0, 0, 0, 0)),
  (1376, (.iconst 2, 1), (0, 0, 0, 0)),
  (1377, (.iadd, 1), (0, 0, 0, 0)),
  (1378, (.iaload, 1), (0, 0, 0, 0)),
  (1379, (.invokevirtual 177, 3), (311, 2, 11, 0)),
  (1382, (.if_icmp .eq 460, 3), (0, 0, 0, 0)),
  (1385, (.iconst 0, 1), (0, 0, 0, 0)),
  (1386, (.ireturn, 1), (0, 0, 0, 0)),
  (1387, (.aload_n 1, 1), (0, 0, 0, 0)),
  (1388, (.aload_n 0, 1), (0, 0, 0, 0)),
  (1389, (.iload_n 3, 1), (0, 0, 0, 0)),
  (1390, (.iconst 1, 1), (0, 0, 0, 0)),
  (1391, (.iadd, 1), (0, 0, 0, 0)),
  (1392, (.iaload, 1), (0, 0, 0, 0)),
  (1393, (.aload_n 0, 1), (0, 0, 0, 0)),
  (1394, (.iload_n 3, 1), (0, 0, 0, 0)),
  (1395, (.iconst 2, 1), (0, 0, 0, 0)),
  (1396, (.iadd, 1), (0, 0, 0, 0)),
  (1397, (.iaload, 1), (0, 0, 0, 0)),
  (1398, (.aload_n 0, 1), (0, 0, 0, 0)),
  (1399, (.iload_n 3, 1), (0, 0, 0, 0)),
  (1400, (.iconst 3, 1), (0, 0, 0, 0)),
  (1401, (.iadd, 1), (0, 0, 0, 0)),
  (1402, (.iaload, 1), (0, 0, 0, 0)),
  (1403, (.invokevirtual 178, 3), (166, 3, 10, 0)),
  (1406, (.aload_n 2, 1), (0, 0, 0, 0)),
  (1407, (.aload_n 0, 1), (0, 0, 0, 0)),
  (1408, (.iload_n 3, 1), (0, 0, 0, 0)),
  (1409, (.iconst 1, 1), (0, 0, 0, 0)),
  (1410, (.iadd, 1), (0, 0, 0, 0)),
  (1411, (.iaload, 1), (0, 0, 0, 0)),
  (1412, (.aload_n 0, 1), (0, 0, 0, 0)),
  (1413, (.iload_n 3, 1), (0, 0, 0, 0)),
  (1414, (.iconst 2, 1), (0, 0, 0, 0)),
  (1415, (.iadd, 1), (0, 0, 0, 0)),
  (1416, (.iaload, 1), (0, 0, 0, 0)),
  (1417, (.aload_n 0, 1), (0, 0, 0, 0)),
  (1418, (.iload_n 3, 1), (0, 0, 0, 0)),
  (1419, (.iconst 3, 1), (0, 0, 0, 0)),
  (1420, (.iadd, 1), (0, 0, 0, 0)),
  (1421, (.iaload, 1), (0, 0, 0, 0)),
  (1422, (.invokevirtual 181, 3), (312, 3, 11, 0)),
  (1425, (.if_icmp .eq 417, 3), (0, 0, 0, 0)),
  (1428, (.iconst 0, 1), (0, 0, 0, 0)),
  (1429, (.ireturn, 1), (0, 0, 0, 0)),
  (1430, (.aload_n 1, 1), (0, 0, 0, 0)),
  (1431, (.aload_n 0, 1), (0, 0, 0, 0)),
  (1432, (.iload_n 3, 1), (0, 0, 0, 0)),
  (1433, (.iconst 1, 1), (0, 0, 0, 0)),
  (1434, (.iadd, 1), (0, 0, 0, 0)),
  (1435, (.iaload, 1), (0, 0, 0, 0)),
  (1436, (.aload_n 0, 1), (0, 0, 0, 0)),
  (1437, (.iload_n 3, 1), (0, 0, 0, 0)),
  (1438, (.iconst 2, 1), (0, 0, 0, 0)),
  (1439, (.iadd, 1), (0, 0, 0, 0)),
  (1440, (.iaload, 1), (0, 0, 0, 0)),
  (1441, (.aload_n 0, 1), (0, 0, 0, 0)),
  (1442, (.iload_n 3, 1), (0, 0, 0, 0)),
  (1443, (.iconst 3, 1), (0, 0, 0, 0)),
  (1444, (.iadd, 1), (0, 0, 0, 0)),
  (1445, (.iaload, 1), (0, 0, 0, 0)),
  (1446, (.invokevirtual 182, 3), (167, 3, 10, 0)),
  (1449, (.aload_n 2, 1), (0, 0, 0, 0)),
  (1450, (.aload_n 0, 1), (0, 0, 0, 0)),
  (1451, (.iload_n 3, 1), (0, 0, 0, 0)),
  (1452, (.iconst 1, 1), (0, 0, 0, 0)),
  (1453, (.iadd, 1), (0, 0, 0, 0)),
  (1454, (.iaload, 1), (0, 0, 0, 0)),
  (1455, (.aload_n 0, 1), (0, 0, 0, 0)),
  (1456, (.iload_n 3, 1), (0, 0, 0, 0)),
  (1457, (.iconst 2, 1), (0, 0, 0, 0)),
  (1458, (.iadd, 1), (0, 0, 0, 0)),
  (1459, (.iaload, 1), (0, 0, 0, 0)),
  (1460, (.aload_n 0, 1), (0, 0, 0, 0)),
  (1461, (.iload_n 3, 1), (0, 0, 0, 0)),
  (1462, (.iconst 3, 1), (0, 0, 0, 0)),
  (1463, (.iadd, 1), (0, 0, 0, 0)),
  (1464, (.iaload, 1), (0, 0, 0, 0)),
  (1465, (.invokevirtual 185, 3), (313, 3, 11, 0)),
  (1468, (.if_icmp .eq 374, 3), (0, 0, 0, 0)),
  (1471, (.iconst 0, 1), (0, 0, 0, 0)),
  (1472, (.ireturn, 1), (0, 0, 0, 0)),
  (1473, (.aload_n 1, 1), (0, 0, 0, 0)),
  (1474, (.aload_n 0, 1), (0, 0, 0, 0)),
  (1475, (.iload_n 3, 1), (0, 0, 0, 0)),
  (1476, (.iconst 1, 1), (0, 0, 0, 0)),
  (1477, (.iadd, 1), (0, 0, 0, 0)),
  (1478, (.iaload, 1), (0, 0, 0, 0)),
  (1479, (.aload_n 0, 1), (0, 0, 0, 0)),
  (1480, (.iload_n 3, 1), (0, 0, 0, 0)),
  (1481, (.iconst 2, 1), (0, 0, 0, 0)),
  (1482, (.iadd, 1), (0, 0, 0, 0)),
  (1483, (.iaload, 1), (0, 0, 0, 0)),
  (1484, (.aload_n 0, 1), (0, 0, 0, 0)),
  (1485, (.iload_n 3, 1), (0, 0, 0, 0)),
  (1486, (.iconst 3, 1), (0, 0, 0, 0)),
  (1487, (.iadd, 1), (0, 0, 0, 0)),
  (1488, (.iaload, 1), (0, 0, 0, 0)),
  (1489, (.invokevirtual 186, 3), (168, 3, 10, 0)),
  (1492, (.aload_n 2, 1), (0, 0, 0, 0)),
  (1493, (.aload_n 0, 1), (0, 0, 0, 0)),
  (1494, (.iload_n 3, 1), (0, 0, 0, 0)),
  (1495, (.iconst 1, 1), (0, 0, 0, 0)),
  (1496, (.iadd, 1), (0, 0, 0, 0)),
  (1497, (.iaload, 1), (0, 0, 0, 0)),
  (1498, (.aload_n 0, 1), (0, 0, 0, 0)),
  (1499, (.iload_n 3, 1), (0, 0, 0, 0)),
  (1500, (.iconst 2, 1), (0, 0, 0, 0)),
  (1501, (.iadd, 1), (0, 0, 0, 0)),
  (1502, (.iaload, 1), (0, 0, 0, 0)),
  (1503, (.aload_n 0, 1), (0, 0, 0, 0)),
  (1504, (.iload_n 3, 1), (0, 0, 0, 0)),
  (1505, (.iconst 3, 1), (0, 0, 0, 0)),
  (1506, (.iadd, 1), (0, 0, 0, 0)),
  (1507, (.iaload, 1), (0, 0, 0, 0)),
  (1508, (.invokevirtual 189, 3), (314, 3, 11, 0)),
  (1511, (.if_icmp .eq 331, 3), (0, 0, 0, 0)),
  (1514, (.iconst 0, 1), (0, 0, 0, 0)),
  (1515, (.ireturn, 1), (0, 0, 0, 0)),
  (1516, (.aload_n 1, 1), (0, 0, 0, 0)),
  (1517, (.aload_n 0, 1), (0, 0, 0, 0)),
  (1518, (.iload_n 3, 1), (0, 0, 0, 0)),
  (1519, (.iconst 1, 1), (0, 0, 0, 0)),
  (1520, (.iadd, 1), (0, 0, 0, 0)),
  (1521, (.iaload, 1), (0, 0, 0, 0)),
  (1522, (.invokevirtual 190, 3), (169, 1, 10, 0)),
  (1525, (.aload_n 2, 1), (0, 0, 0, 0)),
  (1526, (.aload_n 0, 1), (0, 0, 0, 0)),
  (1527, (.iload_n 3, 1), (0, 0, 0, 0)),
  (1528, (.iconst 1, 1), (0, 0, 0, 0)),
  (1529, (.iadd, 1), (0, 0, 0, 0)),
  (1530, (.iaload, 1), (0, 0, 0, 0)),
  (1531, (.invokevirtual 193, 3), (315, 1, 11, 0)),
  (1534, (.if_icmp .eq 308, 3), (0, 0, 0, 0)),
  (1537, (.iconst 0, 1), (0, 0, 0, 0)),
  (1538, (.ireturn, 1), (0, 0, 0, 0)),
  (1539, (.aload_n 1, 1), (0, 0, 0, 0)),
  (1540, (.aload_n 0, 1), (0, 0, 0, 0)),
  (1541, (.iload_n 3, 1), (0, 0, 0, 0)),
  (1542, (.iconst 1, 1), (0, 0, 0, 0)),
  (1543, (.iadd, 1), (0, 0, 0, 0)),
  (1544, (.iaload, 1), (0, 0, 0, 0)),
  (1545, (.aload_n 0, 1), (0, 0, 0, 0)),
  (1546, (.iload_n 3, 1), (0, 0, 0, 0)),
  (1547, (.iconst 2, 1), (0, 0, 0, 0)),
  (1548, (.iadd, 1), (0, 0, 0, 0)),
  (1549, (.iaload, 1), (0, 0, 0, 0)),
  (1550, (.aload_n 0, 1), (0, 0, 0, 0)),
  (1551, (.iload_n 3, 1), (0, 0, 0, 0)),
  (1552, (.iconst 3, 1), (0, 0, 0, 0)),
  (1553, (.iadd, 1), (0, 0, 0, 0)),
  (1554, (.iaload, 1), (0, 0, 0, 0)),
  (1555, (.aload_n 0, 1), (0, 0, 0, 0)),
  (1556, (.iload_n 3, 1), (0, 0, 0, 0)),
  (1557, (.iconst 4, 1), (0, 0, 0, 0)),
  (1558, (.iadd, 1), (0, 0, 0, 0)),
  (1559, (.iaload, 1), (0, 0, 0, 0)),
  (1560, (.aload_n 0, 1), (0, 0, 0, 0)),
  (1561, (.iload_n 3, 1), (0, 0, 0, 0)),
  (1562, (.iconst 5, 1), (0, 0, 0, 0)),
  (1563, (.iadd, 1), (0, 0, 0, 0)),
  (1564, (.iaload, 1), (0, 0, 0, 0)),
  (1565, (.invokevirtual 194, 3), (170, 5, 10, 0)),
  (1568, (.aload_n 2, 1), (0, 0, 0, 0)),
  (1569, (.aload_n 0, 1), (0, 0, 0, 0)),
  (1570, (.iload_n 3, 1), (0, 0, 0, 0)),
  (1571, (.iconst 1, 1), (0, 0, 0, 0)),
  (1572, (.iadd, 1), (0, 0, 0, 0)),
  (1573, (.iaload, 1), (0, 0, 0, 0)),
  (1574, (.aload_n 0, 1), (0, 0, 0, 0)),
  (1575, (.iload_n 3, 1), (0, 0, 0, 0)),
  (1576, (.iconst 2, 1), (0, 0, 0, 0)),
  (1577, (.iadd, 1), (0, 0, 0, 0)),
  (1578, (.iaload, 1), (0, 0, 0, 0)),
  (1579, (.aload_n 0, 1), (0, 0, 0, 0)),
  (1580, (.iload_n 3, 1), (0, 0, 0, 0)),
  (1581, (.iconst 3, 1), (0, 0, 0, 0)),
  (1582, (.iadd, 1), (0, 0, 0, 0)),
  (1583, (.iaload, 1), (0, 0, 0, 0)),
  (1584, (.aload_n 0, 1), (0, 0, 0, 0)),
  (1585, (.iload_n 3, 1), (0, 0, 0, 0)),
  (1586, (.iconst 4, 1), (0, 0, 0, 0)),
  (1587, (.iadd, 1), (0, 0, 0, 0)),
  (1588, (.iaload, 1), (0, 0, 0, 0)),
  (1589, (.aload_n 0, 1), (0, 0, 0, 0)),
  (1590, (.iload_n 3, 1), (0, 0, 0, 0)),
  (1591, (.iconst 5, 1), (0, 0, 0, 0)),
  (1592, (.iadd, 1), (0, 0, 0, 0)),
  (1593, (.iaload, 1), (0, 0, 0, 0)),
  (1594, (.invokevirtual 197, 3), (318, 5, 11, 0)),
  (1597, (.if_icmp .eq 245, 3), (0, 0, 0, 0)),
  (1600, (.iconst 0, 1), (0, 0, 0, 0)),
  (1601, (.ireturn, 1), (0, 0, 0, 0)),
  (1602, (.aload_n 1, 1), (0, 0, 0, 0)),
  (1603, (.aload_n 0, 1), (0, 0, 0, 0)),
  (1604, (.iload_n 3, 1), (0, 0, 0, 0)),
  (1605, (.iconst 1, 1), (0, 0, 0, 0)),
  (1606, (.iadd, 1), (0, 0, 0, 0)),
  (1607, (.iaload, 1), (0, 0, 0, 0)),
  (1608, (.aload_n 0, 1), (0, 0, 0, 0)),
  (1609, (.iload_n 3, 1), (0, 0, 0, 0)),
  (1610, (.iconst 2, 1), (0, 0, 0, 0)),
  (1611, (.iadd, 1), (0, 0, 0, 0)),
  (1612, (.iaload, 1), (0, 0, 0, 0)),
  (1613, (.aload_n 0, 1), (0, 0, 0, 0)),
  (1614, (.iload_n 3, 1), (0, 0, 0, 0)),
  (1615, (.iconst 3, 1), (0, 0, 0, 0)),
  (1616, (.iadd, 1), (0, 0, 0, 0)),
  (1617, (.iaload, 1), (0, 0, 0, 0)),
  (1618, (.aload_n 0, 1), (0, 0, 0, 0)),
  (1619, (.iload_n 3, 1), (0, 0, 0, 0)),
  (1620, (.iconst 4, 1), (0, 0, 0, 0)),
  (1621, (.iadd, 1), (0, 0, 0, 0)),
  (1622, (.iaload, 1), (0, 0, 0, 0)),
  (1623, (.invokevirtual 198, 3), (171, 4, 10, 0)),
  (1626, (.aload_n 2, 1), (0, 0, 0, 0)),
  (1627, (.aload_n 0, 1), (0, 0, 0, 0)),
  (1628, (.iload_n 3, 1), (0, 0, 0, 0)),
  (1629, (.iconst 1, 1), (0, 0, 0, 0)),
  (1630, (.iadd, 1), (0, 0, 0, 0)),
  (1631, (.iaload, 1), (0, 0, 0, 0)),
  (1632, (.aload_n 0, 1), (0, 0, 0, 0)),
  (1633, (.iload_n 3, 1), (0, 0, 0, 0)),
  (1634, (.iconst 2, 1), (0, 0, 0, 0)),
  (1635, (.iadd, 1), (0, 0, 0, 0)),
  (1636, (.iaload, 1), (0, 0, 0, 0)),
  (1637, (.aload_n 0, 1), (0, 0, 0, 0)),
  (1638, (.iload_n 3, 1), (0, 0, 0, 0)),
  (1639, (.iconst 3, 1), (0, 0, 0, 0)),
  (1640, (.iadd, 1), (0, 0, 0, 0)),
  (1641, (.iaload, 1), (0, 0, 0, 0)),
  (1642, (.aload_n 0, 1), (0, 0, 0, 0)),
  (1643, (.iload_n 3, 1), (0, 0, 0, 0)),
  (1644, (.iconst 4, 1), (0, 0, 0, 0)),
  (1645, (.iadd, 1), (0, 0, 0, 0)),
  (1646, (.iaload, 1), (0, 0, 0, 0)),
  (1647, (.invokevirtual 202, 3), (319, 4, 11, 0)),
  (1650, (.if_icmp .eq 192, 3), (0, 0, 0, 0)),
  (1653, (.iconst 0, 1), (0, 0, 0, 0)),
  (1654, (.ireturn, 1), (0, 0, 0, 0)),
  (1655, (.aload_n 1, 1), (0, 0, 0, 0)),
  (1656, (.aload_n 0, 1), (0, 0, 0, 0)),
  (1657, (.iload_n 3, 1), (0, 0, 0, 0)),
  (1658, (.iconst 1, 1), (0, 0, 0, 0)),
  (1659, (.iadd, 1), (0, 0, 0, 0)),
  (1660, (.iaload, 1), (0, 0, 0, 0)),
  (1661, (.invokevirtual 203, 3), (172, 1, 10, 0)),
  (1664, (.aload_n 2, 1), (0, 0, 0, 0)),
  (1665, (.aload_n 0, 1), (0, 0, 0, 0)),
  (1666, (.iload_n 3, 1), (0, 0, 0, 0)),
  (1667, (.iconst 1, 1), (0, 0, 0, 0)),
  (1668, (.iadd, 1), (0, 0, 0, 0)),
  (1669, (.iaload, 1), (0, 0, 0, 0)),
  (1670, (.invokevirtual 206, 3), (320, 1, 11, 0)),
  (1673, (.if_icmp .eq 169, 3), (0, 0, 0, 0)),
  (1676, (.iconst 0, 1), (0, 0, 0, 0)),
  (1677, (.ireturn, 1), (0, 0, 0, 0)),
  (1678, (.aload_n 1, 1), (0, 0, 0, 0)),
  (1679, (.invokevirtual 207, 3), (173, 0, 10, 0)),
  (1682, (.aload_n 2, 1), (0, 0, 0, 0)),
  (1683, (.invokevirtual 210, 3), (323, 0, 11, 0)),
  (1686, (.if_icmp .eq 156, 3), (0, 0, 0, 0)),
  (1689, (.iconst 0, 1), (0, 0, 0, 0)),
  (1690, (.ireturn, 1), (0, 0, 0, 0)),
  (1691, (.aload_n 1, 1), (0, 0, 0, 0)),
  (1692, (.aload_n 0, 1), (0, 0, 0, 0)),
  (1693, (.iload_n 3, 1), (0, 0, 0, 0)),
  (1694, (.iconst 1, 1), (0, 0, 0, 0)),
  (1695, (.iadd, 1), (0, 0, 0, 0)),
  (1696, (.iaload, 1), (0, 0, 0, 0)),
  (1697, (.invokevirtual 211, 3), (174, 1, 10, 0)),
  (1700, (.aload_n 2, 1), (0, 0, 0, 0)),
  (1701, (.aload_n 0, 1), (0, 0, 0, 0)),
  (1702, (.iload_n 3, 1), (0, 0, 0, 0)),
  (1703, (.iconst 1, 1), (0, 0, 0, 0)),
  (1704, (.iadd, 1), (0, 0, 0, 0)),
  (1705, (.iaload, 1), (0, 0, 0, 0)),
  (1706, (.invokevirtual 214, 3), (324, 1, 11, 0)),
  (1709, (.if_icmp .eq 133, 3), (0, 0, 0, 0)),
  (1712, (.iconst 0, 1), (0, 0, 0, 0)),
  (1713, (.ireturn, 1), (0, 0, 0, 0)),
  (1714, (.aload_n 1, 1), (0, 0, 0, 0)),
  (1715, (.aload_n 0, 1), (0, 0, 0, 0)),
  (1716, (.iload_n 3, 1), (0, 0, 0, 0)),
  (1717, (.iconst 1, 1), (0, 0, 0, 0)),
  (1718, (.iadd, 1), (0, 0, 0, 0)),
  (1719, (.iaload, 1), (0, 0, 0, 0)),
  (1720, (.invokevirtual 215, 3), (175, 1, 10, 0)),
  (1723, (.aload_n 2, 1), (0, 0, 0, 0)),
  (1724, (.aload_n 0, 1), (0, 0, 0, 0)),
  (1725, (.iload_n 3, 1), (0, 0, 0, 0)),
  (1726, (.iconst 1, 1), (0, 0, 0, 0)),
  (1727, (.iadd, 1), (0, 0, 0, 0)),
  (1728, (.iaload, 1), (0, 0, 0, 0)),
  (1729, (.invokevirtual 218, 3), (325, 1, 11, 0)),
  (1732, (.if_icmp .eq 110, 3), (0, 0, 0, 0)),
  (1735, (.iconst 0, 1), (0, 0, 0, 0)),
  (1736, (.ireturn, 1), (0, 0, 0, 0)),
  (1737, (.aload_n 1, 1), (0, 0, 0, 0)),
  (1738, (.aload_n 0, 1), (0, 0, 0, 0)),
  (1739, (.iload_n 3, 1), (0, 0, 0, 0)),
  (1740, (.iconst 1, 1), (0, 0, 0, 0)),
  (1741, (.iadd, 1), (0, 0, 0, 0)),
  (1742, (.iaload, 1), (0, 0, 0, 0)),
  (1743, (.invokevirtual 219, 3), (176, 1, 10, 0)),
  (1746, (.aload_n 2, 1), (0, 0, 0, 0)),
  (1747, (.aload_n 0, 1), (0, 0, 0, 0)),
  (1748, (.iload_n 3, 1), (0, 0, 0, 0)),
  (1749, (.iconst 1, 1), (0, 0, 0, 0)),
  (1750, (.iadd, 1), (0, 0, 0, 0)),
  (1751, (.iaload, 1), (0, 0, 0, 0)),
  (1752, (.invokevirtual 222, 3), (332, 1, 11, 0)),
  (1755, (.if_icmp .eq 87, 3), (0, 0, 0, 0)),
  (1758, (.iconst 0, 1), (0, 0, 0, 0)),
  (1759, (.ireturn, 1), (0, 0, 0, 0)),
  (1760, (.aload_n 1, 1), (0, 0, 0, 0)),
  (1761, (.aload_n 0, 1), (0, 0, 0, 0)),
  (1762, (.iload_n 3, 1), (0, 0, 0, 0)),
  (1763, (.iconst 1, 1), (0, 0, 0, 0)),
  (1764, (.iadd, 1), (0, 0, 0, 0)),
  (1765, (.iaload, 1), (0, 0, 0, 0)),
  (1766, (.invokevirtual 223, 3), (177, 1, 10, 0)),
  (1769, (.aload_n 2, 1), (0, 0, 0, 0)),
  (1770, (.aload_n 0, 1), (0, 0, 0, 0)),
  (1771, (.iload_n 3, 1), (0, 0, 0, 0)),
  (1772, (.iconst 1, 1), (0, 0, 0, 0)),
  (1773, (.iadd, 1), (0, 0, 0, 0)),
  (1774, (.iaload, 1), (0, 0, 0, 0)),
  (1775, (.invokevirtual 226, 3), (333, 1, 11, 0)),
  (1778, (.if_icmp .eq 64, 3), (0, 0, 0, 0)),
  (1781, (.iconst 0, 1), (0, 0, 0, 0)),
  (1782, (.ireturn, 1), (0, 0, 0, 0)),
  (1783, (.aload_n 1, 1), (0, 0, 0, 0)),
  (1784, (.aload_n 0, 1), (0, 0, 0, 0)),
  (1785, (.iload_n 3, 1), (0, 0, 0, 0)),
  (1786, (.iconst 1, 1), (0, 0, 0, 0)),
  (1787, (.iadd, 1), (0, 0, 0, 0)),
  (1788, (.iaload, 1), (0, 0, 0, 0)),
  (1789, (.aload_n 0, 1), (0, 0, 0, 0)),
  (1790, (.iload_n 3, 1), (0, 0, 0, 0)),
  (1791, (.iconst 2, 1), (0, 0, 0, 0)),
  (1792, (.iadd, 1), (0, 0, 0, 0)),
  (1793, (.iaload, 1), (0, 0, 0, 0)),
  (1794, (.invokevirtual 227, 3), (178, 2, 10, 0)),
  (1797, (.aload_n 2, 1), (0, 0, 0, 0)),
  (1798, (.aload_n 0, 1), (0, 0, 0, 0)),
  (1799, (.iload_n 3, 1), (0, 0, 0, 0)),
  (1800, (.iconst 1, 1), (0, 0, 0, 0)),
  (1801, (.iadd, 1), (0, 0, 0, 0)),
  (1802, (.iaload, 1), (0, 0, 0, 0)),
  (1803, (.aload_n 0, 1), (0, 0, 0, 0)),
  (1804, (.iload_n 3, 1), (0, 0, 0, 0)),
  (1805, (.iconst 2, 1), (0, 0, 0, 0)),
  (1806, (.iadd, 1), (0, 0, 0, 0)),
  (1807, (.iaload, 1), (0, 0, 0, 0)),
  (1808, (.invokevirtual 230, 3), (334, 2, 11, 0)),
  (1811, (.if_icmp .eq 31, 3), (0, 0, 0, 0)),
  (1814, (.iconst 0, 1), (0, 0, 0, 0)),
  (1815, (.ireturn, 1), (0, 0, 0, 0)),
  (1816, (.aload_n 1, 1), (0, 0, 0, 0)),
  (1817, (.invokevirtual 231, 3), (179, 0, 10, 0)),
  (1820, (.aload_n 2, 1), (0, 0, 0, 0)),
  (1821, (.invokevirtual 234, 3), (336, 0, 11, 0)),
  (1824, (.if_icmp .eq 18, 3), (0, 0, 0, 0)),
  (1827, (.iconst 0, 1), (0, 0, 0, 0)),
  (1828, (.ireturn, 1), (0, 0, 0, 0)),
  (1829, (.aload_n 1, 1), (0, 0, 0, 0)),
  (1830, (.invokevirtual 235, 3), (180, 0, 10, 0)),
  (1833, (.aload_n 2, 1), (0, 0, 0, 0)),
  (1834, (.invokevirtual 238, 3), (337, 0, 11, 0)),
  (1837, (.if_icmp .eq 5, 3), (0, 0, 0, 0)),
  (1840, (.iconst 0, 1), (0, 0, 0, 0)),
  (1841, (.ireturn, 1), (0, 0, 0, 0)),
  (1842, (.iinc 3 6, 3), (0, 0, 0, 0)),
  (1845, (.goto (-1827), 3), (0, 0, 0, 0)),
  (1848, (.iconst 1, 1), (0, 0, 0, 0)),
  (1849, (.ireturn, 1), (0, 0, 0, 0))]
noncomputable def tb_339 : List TE := [ -- J6_bitCount_0f7a4
  (0, (.iload_n 0, 1), (0, 0, 0, 0)),
  (1, (.iload_n 0, 1), (0, 0, 0, 0)),
  (2, (.iconst 1, 1), (0, 0, 0, 0)),
  (3, (.iushr, 1), (0, 0, 0, 0)),
  (4, (.ldc_w 265, 3), (0, 0, 0, 1431655765)),
  (7, (.iand, 1), (0, 0, 0, 0)),
  (8, (.isub, 1), (0, 0, 0, 0)),
  (9, (.istore_n 0, 1), (0, 0, 0, 0)),
  (10, (.iload_n 0, 1), (0, 0, 0, 0)),
  (11, (.ldc_w 266, 3), (0, 0, 0, 858993459)),
  (14, (.iand, 1), (0, 0, 0, 0)),
  (15, (.iload_n 0, 1), (0, 0, 0, 0)),
  (16, (.iconst 2, 1), (0, 0, 0, 0)),
  (17, (.iushr, 1), (0, 0, 0, 0)),
  (18, (.ldc_w 266, 3), (0, 0, 0, 858993459)),
  (21, (.iand, 1), (0, 0, 0, 0)),
  (22, (.iadd, 1), (0, 0, 0, 0)),
  (23, (.istore_n 0, 1), (0, 0, 0, 0)),
  (24, (.iload_n 0, 1), (0, 0, 0, 0)),
  (25, (.iload_n 0, 1), (0, 0, 0, 0)),
  (26, (.iconst 4, 1), (0, 0, 0, 0)),
  (27, (.iushr, 1), (0, 0, 0, 0)),
  (28, (.iadd, 1), (0, 0, 0, 0)),
  (29, (.ldc_w 267, 3), (0, 0, 0, 252645135)),
  (32, (.iand, 1), (0, 0, 0, 0)),
  (33, (.istore_n 0, 1), (0, 0, 0, 0)),
  (34, (.iload_n 0, 1), (0, 0, 0, 0)),
  (35, (.iload_n 0, 1), (0, 0, 0, 0)),
  (36, (.bipush 8, 2), (0, 0, 0, 0)),
  (38, (.iushr, 1), (0, 0, 0, 0)),
  (39, (.iadd, 1), (0, 0, 0, 0)),
  (40, (.istore_n 0, 1), (0, 0, 0, 0)),
  (41, (.iload_n 0, 1), (0, 0, 0, 0)),
  (42, (.iload_n 0, 1), (0, 0, 0, 0)),
  (43, (.bipush 16, 2), (0, 0, 0, 0)),
  (45, (.iushr, 1), (0, 0, 0, 0)),
  (46, (.iadd, 1), (0, 0, 0, 0)),
  (47, (.istore_n 0, 1), (0, 0, 0, 0)),
  (48, (.iload_n 0, 1), (0, 0, 0, 0)),
  (49, (.bipush 63, 2), (0, 0, 0, 0)),
  (51, (.iand, 1), (0, 0, 0, 0)),
  (52, (.ireturn, 1), (0, 0, 0, 0))]
noncomputable def tb_340 : List TE := [ -- J9_abs_0f7a4
  (0, (.iload_n 0, 1), (0, 0, 0, 0)),
  (1, (.ifCond .ge 8, 3), (0, 0, 0, 0)),
  (4, (.iload_n 0, 1), (0, 0, 0, 0)),
  (5, (.ineg, 1), (0, 0, 0, 0)),
  (6, (.goto 4, 3), (0, 0, 0, 0)),
  (9, (.iload_n 0, 1), (0, 0, 0, 0)),
  (10, (.ireturn, 1), (0, 0, 0, 0))]
noncomputable def tb_341 : List TE := [ -- J9_max_7cf53
  (0, (.iload_n 0, 1), (0, 0, 0, 0)),
  (1, (.iload_n 1, 1), (0, 0, 0, 0)),
  (2, (.if_icmp .lt 7, 3), (0, 0, 0, 0)),
  (5, (.iload_n 0, 1), (0, 0, 0, 0)),
  (6, (.goto 4, 3), (0, 0, 0, 0)),
  (9, (.iload_n 1, 1), (0, 0, 0, 0)),
  (10, (.ireturn, 1), (0, 0, 0, 0))]
noncomputable def tb_342 : List TE := [ -- J9_min_7cf53
  (0, (.iload_n 0, 1), (0, 0, 0, 0)),
  (1, (.iload_n 1, 1), (0, 0, 0, 0)),
  (2, (.if_icmp .gt 7, 3), (0, 0, 0, 0)),
  (5, (.iload_n 0, 1), (0, 0, 0, 0)),
  (6, (.goto 4, 3), (0, 0, 0, 0)),
  (9, (.iload_n 1, 1), (0, 0, 0, 0)),
  (10, (.ireturn, 1), (0, 0, 0, 0))]
noncomputable def tb_343 : List TE := [ -- J0_length_8abf5
  (0, (.aload_n 0, 1), (0, 0, 0, 0)),
  (1, (.getfield 9, 3), (40, 0, 2, 0)),
  (4, (.arraylength, 1), (0, 0, 0, 0)),
  (5, (.aload_n 0, 1), (0, 0, 0, 0)),
  (6, (.invokevirtual 335, 3), (345, 0, 40, 0)),
  (9, (.ishr, 1), (0, 0, 0, 0)),
  (10, (.ireturn, 1), (0, 0, 0, 0))]
noncomputable def tb_344 : List TE := [ -- J0_charAt_5068e
  (0, (.aload_n 0, 1), (0, 0, 0, 0)),
  (1, (.invokevirtual 492, 3), (346, 0, 40, 0)),
  (4, (.ifCond .eq 12, 3), (0, 0, 0, 0)),
  (7, (.aload_n 0, 1), (0, 0, 0, 0)),
  (8, (.getfield 9, 3), (40, 0, 2, 0)),
  (11, (.iload_n 1, 1), (0, 0, 0, 0)),
  (12, (.invokestatic 495, 3), (348, 2, 0, 0)),
  (15, (.ireturn, 1), (0, 0, 0, 0)),
  (16, (.aload_n 0, 1), (0, 0, 0, 0)),
  (17, (.getfield 9, 3), (40, 0, 2, 0)),
  (20, (.iload_n 1, 1), (0, 0, 0, 0)),
  (21, (.invokestatic 498, 3), (9999, 2, 0, 0)),
  (24, (.ireturn, 1), (0, 0, 0, 0))]
noncomputable def tb_345 : List TE := [ -- J0_coder_7d493
  (0, (.getstatic 38, 3), (0, 0, 0, 1)),
  (3, (.ifCond .eq 10, 3), (0, 0, 0, 0)),
  (6, (.aload_n 0, 1), (0, 0, 0, 0)),
  (7, (.getfield 15, 3), (40, 1, 0, 0)),
  (10, (.goto 4, 3), (0, 0, 0, 0)),
  (13, (.iconst 1, 1), (0, 0, 0, 0)),
  (14, (.ireturn, 1), (0, 0, 0, 0))]
noncomputable def tb_346 : List TE := [ -- J0_isLatin1_aae02
  (0, (.getstatic 38, 3), (0, 0, 0, 1)),
  (3, (.ifCond .eq 14, 3), (0, 0, 0, 0)),
  (6, (.aload_n 0, 1), (0, 0, 0, 0)),
  (7, (.getfield 15, 3), (40, 1, 0, 0)),
  (10, (.ifCond .ne 7, 3), (0, 0, 0, 0)),
  (13, (.iconst 1, 1), (0, 0, 0, 0)),
  (14, (.goto 4, 3), (0, 0, 0, 0)),
  (17, (.iconst 0, 1), (0, 0, 0, 0)),
  (18, (.ireturn, 1), (0, 0, 0, 0))]
noncomputable def tb_347 : List TE := [ -- J0_checkIndex_df160
  (0, (.iload_n 0, 1), (0, 0, 0, 0)),
  (1, (.iload_n 1, 1), (0, 0, 0, 0)),
  (2, (.getstatic 1053, 3), (1, 0, 0, (-10))),
  (5, (.invokestatic 1059, 3), (349, 3, 0, 0)),
  (8, (.pop, 1), (0, 0, 0, 0)),
  (9, (.return_, 1), (0, 0, 0, 0))]
noncomputable def tb_348 : List TE := [ -- J1_charAt_3b067
  (0, (.iload_n 1, 1), (0, 0, 0, 0)),
  (1, (.aload_n 0, 1), (0, 0, 0, 0)),
  (2, (.arraylength, 1), (0, 0, 0, 0)),
  (3, (.invokestatic 9, 3), (347, 2, 0, 0)),
  (6, (.aload_n 0, 1), (0, 0, 0, 0)),
  (7, (.iload_n 1, 1), (0, 0, 0, 0)),
  (8, (.baload, 1), (0, 0, 0, 0)),
  (9, (.sipush 255, 3), (0, 0, 0, 0)),
  (12, (.iand, 1), (0, 0, 0, 0)),
  (13, (.i2c, 1), (0, 0, 0, 0)),
  (14, (.ireturn, 1), (0, 0, 0, 0))]
noncomputable def tb_349 : List TE := [ -- J3_checkIndex_8e157
  (0, (.iload_n 0, 1), (0, 0, 0, 0)),
  (1, (.ifCond .lt 8, 3), (0, 0, 0, 0)),
  (4, (.iload_n 0, 1), (0, 0, 0, 0)),
  (5, (.iload_n 1, 1), (0, 0, 0, 0)),
  (6, (.if_icmp .lt 10, 3), (0, 0, 0, 0)),
  (9, (.aload_n 2, 1), (0, 0, 0, 0)),
  (10, (.iload_n 0, 1), (0, 0, 0, 0)),
  (11, (.iload_n 1, 1), (0, 0, 0, 0)),
  (12, (.invokestatic 95, 3), (9999, 0, 0, 0)),
  (15, (.athrow, 1), (0, 0, 0, 0)),
  (16, (.iload_n 0, 1), (0, 0, 0, 0)),
  (17, (.ireturn, 1), (0, 0, 0, 0))]
def nM : Nat := 350
noncomputable def tabOf (y : Nat) : List TE := (bif Nat.blt y 175 then (bif Nat.blt y 87 then (bif Nat.blt y 43 then (bif Nat.blt y 21 then (bif Nat.blt y 10 then (bif Nat.blt y 5 then (bif Nat.blt y 2 then (bif Nat.blt y 1 then tb_0 else tb_1) else (bif Nat.blt y 3 then tb_2 else (bif Nat.blt y 4 then tb_3 else tb_4))) else (bif Nat.blt y 7 then (bif Nat.blt y 6 then tb_5 else tb_6) else (bif Nat.blt y 8 then tb_7 else (bif Nat.blt y 9 then tb_8 else tb_9)))) else (bif Nat.blt y 15 then (bif Nat.blt y 12 then (bif Nat.blt y 11 then tb_10 else tb_11) else (bif Nat.blt y 13 then tb_12 else (bif Nat.blt y 14 then tb_13 else tb_14))) else (bif Nat.blt y 18 then (bif Nat.blt y 16 then tb_15 else (bif Nat.blt y 17 then tb_16 else tb_17)) else (bif Nat.blt y 19 then tb_18 else (bif Nat.blt y 20 then tb_19 else tb_20))))) else (bif Nat.blt y 32 then (bif Nat.blt y 26 then (bif Nat.blt y 23 then (bif Nat.blt y 22 then tb_21 else tb_22) else (bif Nat.blt y 24 then tb_23 else (bif Nat.blt y 25 then tb_24 else tb_25))) else (bif Nat.blt y 29 then (bif Nat.blt y 27 then tb_26 else (bif Nat.blt y 28 then tb_27 else tb_28)) else (bif Nat.blt y 30 then tb_29 else (bif Nat.blt y 31 then tb_30 else tb_31)))) else (bif Nat.blt y 37 then (bif Nat.blt y 34 then (bif Nat.blt y 33 then tb_32 else tb_33) else (bif Nat.blt y 35 then tb_34 else (bif Nat.blt y 36 then tb_35 else tb_36))) else (bif Nat.blt y 40 then (bif Nat.blt y 38 then tb_37 else (bif Nat.blt y 39 then tb_38 else tb_39)) else (bif Nat.blt y 41 then tb_40 else (bif Nat.blt y 42 then tb_41 else tb_42)))))) else (bif Nat.blt y 65 then (bif Nat.blt y 54 then (bif Nat.blt y 48 then (bif Nat.blt y 45 then (bif Nat.blt y 44 then tb_43 else tb_44) else (bif Nat.blt y 46 then tb_45 else (bif Nat.blt y 47 then tb_46 else tb_47))) else (bif Nat.blt y 51 then (bif Nat.blt y 49 then tb_48 else (bif Nat.blt y 50 then tb_49 else tb_50)) else (bif Nat.blt y 52 then tb_51 else (bif Nat.blt y 53 then tb_52 else tb_53)))) else (bif Nat.blt y 59 then (bif Nat.blt y 56 then (bif Nat.blt y 55 then tb_54 else tb_55) else (bif Nat.blt y 57 then tb_56 else (bif Nat.blt y 58 then tb_57 else tb_58))) else (bif Nat.blt y 62 then (bif Nat.blt y 60 then tb_59 else (bif Nat.blt y 61 then tb_60 else tb_61)) else (bif Nat.blt y 63 then tb_62 else (bif Nat.blt y 64 then tb_63 else tb_64))))) else (bif Nat.blt y 76 then (bif Nat.blt y 70 then (bif Nat.blt y 67 then (bif Nat.blt y 66 then tb_65 else tb_66) else (bif Nat.blt y 68 then tb_67 else (bif Nat.blt y 69 then tb_68 else tb_69))) else (bif Nat.blt y 73 then (bif Nat.blt y 71 then tb_70 else (bif Nat.blt y 72 then tb_71 else tb_72)) else (bif Nat.blt y 74 then tb_73 else (bif Nat.blt y 75 then tb_74 else tb_75)))) else (bif Nat.blt y 81 then (bif Nat.blt y 78 then (bif Nat.blt y 77 then tb_76 else tb_77) else (bif Nat.blt y 79 then tb_78 else (bif Nat.blt y 80 then tb_79 else tb_80))) else (bif Nat.blt y 84 then (bif Nat.blt y 82 then tb_81 else (bif Nat.blt y 83 then tb_82 else tb_83)) else (bif Nat.blt y 85 then tb_84 else (bif Nat.blt y 86 then tb_85 else tb_86))))))) else (bif Nat.blt y 131 then (bif Nat.blt y 109 then (bif Nat.blt y 98 then (bif Nat.blt y 92 then (bif Nat.blt y 89 then (bif Nat.blt y 88 then tb_87 else tb_88) else (bif Nat.blt y 90 then tb_89 else (bif Nat.blt y 91 then tb_90 else tb_91))) else (bif Nat.blt y 95 then (bif Nat.blt y 93 then tb_92 else (bif Nat.blt y 94 then tb_93 else tb_94)) else (bif Nat.blt y 96 then tb_95 else (bif Nat.blt y 97 then tb_96 else tb_97)))) else (bif Nat.blt y 103 then (bif Nat.blt y 100 then (bif Nat.blt y 99 then tb_98 else tb_99) else (bif Nat.blt y 101 then tb_100 else (bif Nat.blt y 102 then tb_101 else tb_102))) else (bif Nat.blt y 106 then (bif Nat.blt y 104 then tb_103 else (bif Nat.blt y 105 then tb_104 else tb_105)) else (bif Nat.blt y 107 then tb_106 else (bif Nat.blt y 108 then tb_107 else tb_108))))) else (bif Nat.blt y 120 then (bif Nat.blt y 114 then (bif Nat.blt y 111 then (bif Nat.blt y 110 then tb_109 else tb_110) else (bif Nat.blt y 112 then tb_111 else (bif Nat.blt y 113 then tb_112 else tb_113))) else (bif Nat.blt y 117 then (bif Nat.blt y 115 then tb_114 else (bif Nat.blt y 116 then tb_115 else tb_116)) else (bif Nat.blt y 118 then tb_117 else (bif Nat.blt y 119 then tb_118 else tb_119)))) else (bif Nat.blt y 125 then (bif Nat.blt y 122 then (bif Nat.blt y 121 then tb_120 else tb_121) else (bif Nat.blt y 123 then tb_122 else (bif Nat.blt y 124 then tb_123 else tb_124))) else (bif Nat.blt y 128 then (bif Nat.blt y 126 then tb_125 else (bif Nat.blt y 127 then tb_126 else tb_127)) else (bif Nat.blt y 129 then tb_128 else (bif Nat.blt y 130 then tb_129 else tb_130)))))) else (bif Nat.blt y 153 then (bif Nat.blt y 142 then (bif Nat.blt y 136 then (bif Nat.blt y 133 then (bif Nat.blt y 132 then tb_131 else tb_132) else (bif Nat.blt y 134 then tb_133 else (bif Nat.blt y 135 then tb_134 else tb_135))) else (bif Nat.blt y 139 then (bif Nat.blt y 137 then tb_136 else (bif Nat.blt y 138 then tb_137 else tb_138)) else (bif Nat.blt y 140 then tb_139 else (bif Nat.blt y 141 then tb_140 else tb_141)))) else (bif Nat.blt y 147 then (bif Nat.blt y 144 then (bif Nat.blt y 143 then tb_142 else tb_143) else (bif Nat.blt y 145 then tb_144 else (bif Nat.blt y 146 then tb_145 else tb_146))) else (bif Nat.blt y 150 then (bif Nat.blt y 148 then tb_147 else (bif Nat.blt y 149 then tb_148 else tb_149)) else (bif Nat.blt y 151 then tb_150 else (bif Nat.blt y 152 then tb_151 else tb_152))))) else (bif Nat.blt y 164 then (bif Nat.blt y 158 then (bif Nat.blt y 155 then (bif Nat.blt y 154 then tb_153 else tb_154) else (bif Nat.blt y 156 then tb_155 else (bif Nat.blt y 157 then tb_156 else tb_157))) else (bif Nat.blt y 161 then (bif Nat.blt y 159 then tb_158 else (bif Nat.blt y 160 then tb_159 else tb_160)) else (bif Nat.blt y 162 then tb_161 else (bif Nat.blt y 163 then tb_162 else tb_163)))) else (bif Nat.blt y 169 then (bif Nat.blt y 166 then (bif Nat.blt y 165 then tb_164 else tb_165) else (bif Nat.blt y 167 then tb_166 else (bif Nat.blt y 168 then tb_167 else tb_168))) else (bif Nat.blt y 172 then (bif Nat.blt y 170 then tb_169 else (bif Nat.blt y 171 then tb_170 else tb_171)) else (bif Nat.blt y 173 then tb_172 else (bif Nat.blt y 174 then tb_173 else tb_174)))))))) else (bif Nat.blt y 262 then (bif Nat.blt y 218 then (bif Nat.blt y 196 then (bif Nat.blt y 185 then (bif Nat.blt y 180 then (bif Nat.blt y 177 then (bif Nat.blt y 176 then tb_175 else tb_176) else (bif Nat.blt y 178 then tb_177 else (bif Nat.blt y 179 then tb_178 else tb_179))) else (bif Nat.blt y 182 then (bif Nat.blt y 181 then tb_180 else tb_181) else (bif Nat.blt y 183 then tb_182 else (bif Nat.blt y 184 then tb_183 else tb_184)))) else (bif Nat.blt y 190 then (bif Nat.blt y 187 then (bif Nat.blt y 186 then tb_185 else tb_186) else (bif Nat.blt y 188 then tb_187 else (bif Nat.blt y 189 then tb_188 else tb_189))) else (bif Nat.blt y 193 then (bif Nat.blt y 191 then tb_190 else (bif Nat.blt y 192 then tb_191 else tb_192)) else (bif Nat.blt y 194 then tb_193 else (bif Nat.blt y 195 then tb_194 else tb_195))))) else (bif Nat.blt y 207 then (bif Nat.blt y 201 then (bif Nat.blt y 198 then (bif Nat.blt y 197 then tb_196 else tb_197) else (bif Nat.blt y 199 then tb_198 else (bif Nat.blt y 200 then tb_199 else tb_200))) else (bif Nat.blt y 204 then (bif Nat.blt y 202 then tb_201 else (bif Nat.blt y 203 then tb_202 else tb_203)) else (bif Nat.blt y 205 then tb_204 else (bif Nat.blt y 206 then tb_205 else tb_206)))) else (bif Nat.blt y 212 then (bif Nat.blt y 209 then (bif Nat.blt y 208 then tb_207 else tb_208) else (bif Nat.blt y 210 then tb_209 else (bif Nat.blt y 211 then tb_210 else tb_211))) else (bif Nat.blt y 215 then (bif Nat.blt y 213 then tb_212 else (bif Nat.blt y 214 then tb_213 else tb_214)) else (bif Nat.blt y 216 then tb_215 else (bif Nat.blt y 217 then tb_216 else tb_217)))))) else (bif Nat.blt y 240 then (bif Nat.blt y 229 then (bif Nat.blt y 223 then (bif Nat.blt y 220 then (bif Nat.blt y 219 then tb_218 else tb_219) else (bif Nat.blt y 221 then tb_220 else (bif Nat.blt y 222 then tb_221 else tb_222))) else (bif Nat.blt y 226 then (bif Nat.blt y 224 then tb_223 else (bif Nat.blt y 225 then tb_224 else tb_225)) else (bif Nat.blt y 227 then tb_226 else (bif Nat.blt y 228 then tb_227 else tb_228)))) else (bif Nat.blt y 234 then (bif Nat.blt y 231 then (bif Nat.blt y 230 then tb_229 else tb_230) else (bif Nat.blt y 232 then tb_231 else (bif Nat.blt y 233 then tb_232 else tb_233))) else (bif Nat.blt y 237 then (bif Nat.blt y 235 then tb_234 else (bif Nat.blt y 236 then tb_235 else tb_236)) else (bif Nat.blt y 238 then tb_237 else (bif Nat.blt y 239 then tb_238 else tb_239))))) else (bif Nat.blt y 251 then (bif Nat.blt y 245 then (bif Nat.blt y 242 then (bif Nat.blt y 241 then tb_240 else tb_241) else (bif Nat.blt y 243 then tb_242 else (bif Nat.blt y 244 then tb_243 else tb_244))) else (bif Nat.blt y 248 then (bif Nat.blt y 246 then tb_245 else (bif Nat.blt y 247 then tb_246 else tb_247)) else (bif Nat.blt y 249 then tb_248 else (bif Nat.blt y 250 then tb_249 else tb_250)))) else (bif Nat.blt y 256 then (bif Nat.blt y 253 then (bif Nat.blt y 252 then tb_251 else tb_252) else (bif Nat.blt y 254 then tb_253 else (bif Nat.blt y 255 then tb_254 else tb_255))) else (bif Nat.blt y 259 then (bif Nat.blt y 257 then tb_256 else (bif Nat.blt y 258 then tb_257 else tb_258)) else (bif Nat.blt y 260 then tb_259 else (bif Nat.blt y 261 then tb_260 else tb_261))))))) else (bif Nat.blt y 306 then (bif Nat.blt y 284 then (bif Nat.blt y 273 then (bif Nat.blt y 267 then (bif Nat.blt y 264 then (bif Nat.blt y 263 then tb_262 else tb_263) else (bif Nat.blt y 265 then tb_264 else (bif Nat.blt y 266 then tb_265 else tb_266))) else (bif Nat.blt y 270 then (bif Nat.blt y 268 then tb_267 else (bif Nat.blt y 269 then tb_268 else tb_269)) else (bif Nat.blt y 271 then tb_270 else (bif Nat.blt y 272 then tb_271 else tb_272)))) else (bif Nat.blt y 278 then (bif Nat.blt y 275 then (bif Nat.blt y 274 then tb_273 else tb_274) else (bif Nat.blt y 276 then tb_275 else (bif Nat.blt y 277 then tb_276 else tb_277))) else (bif Nat.blt y 281 then (bif Nat.blt y 279 then tb_278 else (bif Nat.blt y 280 then tb_279 else tb_280)) else (bif Nat.blt y 282 then tb_281 else (bif Nat.blt y 283 then tb_282 else tb_283))))) else (bif Nat.blt y 295 then (bif Nat.blt y 289 then (bif Nat.blt y 286 then (bif Nat.blt y 285 then tb_284 else tb_285) else (bif Nat.blt y 287 then tb_286 else (bif Nat.blt y 288 then tb_287 else tb_288))) else (bif Nat.blt y 292 then (bif Nat.blt y 290 then tb_289 else (bif Nat.blt y 291 then tb_290 else tb_291)) else (bif Nat.blt y 293 then tb_292 else (bif Nat.blt y 294 then tb_293 else tb_294)))) else (bif Nat.blt y 300 then (bif Nat.blt y 297 then (bif Nat.blt y 296 then tb_295 else tb_296) else (bif Nat.blt y 298 then tb_297 else (bif Nat.blt y 299 then tb_298 else tb_299))) else (bif Nat.blt y 303 then (bif Nat.blt y 301 then tb_300 else (bif Nat.blt y 302 then tb_301 else tb_302)) else (bif Nat.blt y 304 then tb_303 else (bif Nat.blt y 305 then tb_304 else tb_305)))))) else (bif Nat.blt y 328 then (bif Nat.blt y 317 then (bif Nat.blt y 311 then (bif Nat.blt y 308 then (bif Nat.blt y 307 then tb_306 else tb_307) else (bif Nat.blt y 309 then tb_308 else (bif Nat.blt y 310 then tb_309 else tb_310))) else (bif Nat.blt y 314 then (bif Nat.blt y 312 then tb_311 else (bif Nat.blt y 313 then tb_312 else tb_313)) else (bif Nat.blt y 315 then tb_314 else (bif Nat.blt y 316 then tb_315 else tb_316)))) else (bif Nat.blt y 322 then (bif Nat.blt y 319 then (bif Nat.blt y 318 then tb_317 else tb_318) else (bif Nat.blt y 320 then tb_319 else (bif Nat.blt y 321 then tb_320 else tb_321))) else (bif Nat.blt y 325 then (bif Nat.blt y 323 then tb_322 else (bif Nat.blt y 324 then tb_323 else tb_324)) else (bif Nat.blt y 326 then tb_325 else (bif Nat.blt y 327 then tb_326 else tb_327))))) else (bif Nat.blt y 339 then (bif Nat.blt y 333 then (bif Nat.blt y 330 then (bif Nat.blt y 329 then tb_328 else tb_329) else (bif Nat.blt y 331 then tb_330 else (bif Nat.blt y 332 then tb_331 else tb_332))) else (bif Nat.blt y 336 then (bif Nat.blt y 334 then tb_333 else (bif Nat.blt y 335 then tb_334 else tb_335)) else (bif Nat.blt y 337 then tb_336 else (bif Nat.blt y 338 then tb_337 else tb_338)))) else (bif Nat.blt y 344 then (bif Nat.blt y 341 then (bif Nat.blt y 340 then tb_339 else tb_340) else (bif Nat.blt y 342 then tb_341 else (bif Nat.blt y 343 then tb_342 else tb_343))) else (bif Nat.blt y 347 then (bif Nat.blt y 345 then tb_344 else (bif Nat.blt y 346 then tb_345 else tb_346)) else (bif Nat.blt y 348 then tb_347 else (bif Nat.blt y 349 then tb_348 else tb_349)))))))))
def rkOf (y : Nat) : Nat := (bif Nat.blt y 175 then (bif Nat.blt y 87 then (bif Nat.blt y 43 then (bif Nat.blt y 21 then (bif Nat.blt y 10 then (bif Nat.blt y 5 then (bif Nat.blt y 2 then (bif Nat.blt y 1 then 0 else 0) else (bif Nat.blt y 3 then 0 else (bif Nat.blt y 4 then 0 else 3))) else (bif Nat.blt y 7 then (bif Nat.blt y 6 then 0 else 1) else (bif Nat.blt y 8 then 3 else (bif Nat.blt y 9 then 1 else 1)))) else (bif Nat.blt y 15 then (bif Nat.blt y 12 then (bif Nat.blt y 11 then 1 else 3) else (bif Nat.blt y 13 then 0 else (bif Nat.blt y 14 then 0 else 0))) else (bif Nat.blt y 18 then (bif Nat.blt y 16 then 2 else (bif Nat.blt y 17 then 0 else 0)) else (bif Nat.blt y 19 then 0 else (bif Nat.blt y 20 then 0 else 1))))) else (bif Nat.blt y 32 then (bif Nat.blt y 26 then (bif Nat.blt y 23 then (bif Nat.blt y 22 then 1 else 3) else (bif Nat.blt y 24 then 3 else (bif Nat.blt y 25 then 3 else 1))) else (bif Nat.blt y 29 then (bif Nat.blt y 27 then 1 else (bif Nat.blt y 28 then 1 else 3)) else (bif Nat.blt y 30 then 1 else (bif Nat.blt y 31 then 1 else 1)))) else (bif Nat.blt y 37 then (bif Nat.blt y 34 then (bif Nat.blt y 33 then 1 else 1) else (bif Nat.blt y 35 then 1 else (bif Nat.blt y 36 then 1 else 0))) else (bif Nat.blt y 40 then (bif Nat.blt y 38 then 1 else (bif Nat.blt y 39 then 1 else 1)) else (bif Nat.blt y 41 then 3 else (bif Nat.blt y 42 then 1 else 3)))))) else (bif Nat.blt y 65 then (bif Nat.blt y 54 then (bif Nat.blt y 48 then (bif Nat.blt y 45 then (bif Nat.blt y 44 then 0 else 3) else (bif Nat.blt y 46 then 0 else (bif Nat.blt y 47 then 3 else 3))) else (bif Nat.blt y 51 then (bif Nat.blt y 49 then 3 else (bif Nat.blt y 50 then 3 else 3)) else (bif Nat.blt y 52 then 1 else (bif Nat.blt y 53 then 3 else 3)))) else (bif Nat.blt y 59 then (bif Nat.blt y 56 then (bif Nat.blt y 55 then 0 else 1) else (bif Nat.blt y 57 then 1 else (bif Nat.blt y 58 then 1 else 1))) else (bif Nat.blt y 62 then (bif Nat.blt y 60 then 1 else (bif Nat.blt y 61 then 1 else 1)) else (bif Nat.blt y 63 then 1 else (bif Nat.blt y 64 then 2 else 2))))) else (bif Nat.blt y 76 then (bif Nat.blt y 70 then (bif Nat.blt y 67 then (bif Nat.blt y 66 then 0 else 0) else (bif Nat.blt y 68 then 0 else (bif Nat.blt y 69 then 0 else 3))) else (bif Nat.blt y 73 then (bif Nat.blt y 71 then 1 else (bif Nat.blt y 72 then 3 else 3)) else (bif Nat.blt y 74 then 0 else (bif Nat.blt y 75 then 0 else 1)))) else (bif Nat.blt y 81 then (bif Nat.blt y 78 then (bif Nat.blt y 77 then 0 else 0) else (bif Nat.blt y 79 then 0 else (bif Nat.blt y 80 then 1 else 1))) else (bif Nat.blt y 84 then (bif Nat.blt y 82 then 1 else (bif Nat.blt y 83 then 1 else 1)) else (bif Nat.blt y 85 then 3 else (bif Nat.blt y 86 then 0 else 0))))))) else (bif Nat.blt y 131 then (bif Nat.blt y 109 then (bif Nat.blt y 98 then (bif Nat.blt y 92 then (bif Nat.blt y 89 then (bif Nat.blt y 88 then 1 else 1) else (bif Nat.blt y 90 then 1 else (bif Nat.blt y 91 then 2 else 1))) else (bif Nat.blt y 95 then (bif Nat.blt y 93 then 0 else (bif Nat.blt y 94 then 3 else 3)) else (bif Nat.blt y 96 then 3 else (bif Nat.blt y 97 then 3 else 1)))) else (bif Nat.blt y 103 then (bif Nat.blt y 100 then (bif Nat.blt y 99 then 3 else 3) else (bif Nat.blt y 101 then 3 else (bif Nat.blt y 102 then 3 else 0))) else (bif Nat.blt y 106 then (bif Nat.blt y 104 then 3 else (bif Nat.blt y 105 then 3 else 3)) else (bif Nat.blt y 107 then 3 else (bif Nat.blt y 108 then 1 else 0))))) else (bif Nat.blt y 120 then (bif Nat.blt y 114 then (bif Nat.blt y 111 then (bif Nat.blt y 110 then 0 else 2) else (bif Nat.blt y 112 then 0 else (bif Nat.blt y 113 then 2 else 0))) else (bif Nat.blt y 117 then (bif Nat.blt y 115 then 0 else (bif Nat.blt y 116 then 1 else 0)) else (bif Nat.blt y 118 then 0 else (bif Nat.blt y 119 then 3 else 3)))) else (bif Nat.blt y 125 then (bif Nat.blt y 122 then (bif Nat.blt y 121 then 3 else 3) else (bif Nat.blt y 123 then 3 else (bif Nat.blt y 124 then 3 else 3))) else (bif Nat.blt y 128 then (bif Nat.blt y 126 then 1 else (bif Nat.blt y 127 then 1 else 0)) else (bif Nat.blt y 129 then 1 else (bif Nat.blt y 130 then 2 else 2)))))) else (bif Nat.blt y 153 then (bif Nat.blt y 142 then (bif Nat.blt y 136 then (bif Nat.blt y 133 then (bif Nat.blt y 132 then 3 else 3) else (bif Nat.blt y 134 then 2 else (bif Nat.blt y 135 then 3 else 1))) else (bif Nat.blt y 139 then (bif Nat.blt y 137 then 1 else (bif Nat.blt y 138 then 1 else 1)) else (bif Nat.blt y 140 then 1 else (bif Nat.blt y 141 then 1 else 1)))) else (bif Nat.blt y 147 then (bif Nat.blt y 144 then (bif Nat.blt y 143 then 1 else 1) else (bif Nat.blt y 145 then 1 else (bif Nat.blt y 146 then 1 else 1))) else (bif Nat.blt y 150 then (bif Nat.blt y 148 then 1 else (bif Nat.blt y 149 then 1 else 3)) else (bif Nat.blt y 151 then 1 else (bif Nat.blt y 152 then 1 else 3))))) else (bif Nat.blt y 164 then (bif Nat.blt y 158 then (bif Nat.blt y 155 then (bif Nat.blt y 154 then 1 else 3) else (bif Nat.blt y 156 then 1 else (bif Nat.blt y 157 then 1 else 1))) else (bif Nat.blt y 161 then (bif Nat.blt y 159 then 1 else (bif Nat.blt y 160 then 1 else 1)) else (bif Nat.blt y 162 then 1 else (bif Nat.blt y 163 then 1 else 1)))) else (bif Nat.blt y 169 then (bif Nat.blt y 166 then (bif Nat.blt y 165 then 1 else 1) else (bif Nat.blt y 167 then 1 else (bif Nat.blt y 168 then 3 else 3))) else (bif Nat.blt y 172 then (bif Nat.blt y 170 then 1 else (bif Nat.blt y 171 then 1 else 1)) else (bif Nat.blt y 173 then 1 else (bif Nat.blt y 174 then 1 else 1)))))))) else (bif Nat.blt y 262 then (bif Nat.blt y 218 then (bif Nat.blt y 196 then (bif Nat.blt y 185 then (bif Nat.blt y 180 then (bif Nat.blt y 177 then (bif Nat.blt y 176 then 1 else 1) else (bif Nat.blt y 178 then 1 else (bif Nat.blt y 179 then 3 else 1))) else (bif Nat.blt y 182 then (bif Nat.blt y 181 then 1 else 1) else (bif Nat.blt y 183 then 1 else (bif Nat.blt y 184 then 1 else 3)))) else (bif Nat.blt y 190 then (bif Nat.blt y 187 then (bif Nat.blt y 186 then 3 else 0) else (bif Nat.blt y 188 then 0 else (bif Nat.blt y 189 then 0 else 3))) else (bif Nat.blt y 193 then (bif Nat.blt y 191 then 1 else (bif Nat.blt y 192 then 3 else 3)) else (bif Nat.blt y 194 then 1 else (bif Nat.blt y 195 then 1 else 0))))) else (bif Nat.blt y 207 then (bif Nat.blt y 201 then (bif Nat.blt y 198 then (bif Nat.blt y 197 then 0 else 1) else (bif Nat.blt y 199 then 2 else (bif Nat.blt y 200 then 2 else 3))) else (bif Nat.blt y 204 then (bif Nat.blt y 202 then 1 else (bif Nat.blt y 203 then 1 else 1)) else (bif Nat.blt y 205 then 3 else (bif Nat.blt y 206 then 3 else 2)))) else (bif Nat.blt y 212 then (bif Nat.blt y 209 then (bif Nat.blt y 208 then 3 else 1) else (bif Nat.blt y 210 then 3 else (bif Nat.blt y 211 then 2 else 3))) else (bif Nat.blt y 215 then (bif Nat.blt y 213 then 3 else (bif Nat.blt y 214 then 1 else 0)) else (bif Nat.blt y 216 then 1 else (bif Nat.blt y 217 then 3 else 3)))))) else (bif Nat.blt y 240 then (bif Nat.blt y 229 then (bif Nat.blt y 223 then (bif Nat.blt y 220 then (bif Nat.blt y 219 then 0 else 3) else (bif Nat.blt y 221 then 1 else (bif Nat.blt y 222 then 3 else 3))) else (bif Nat.blt y 226 then (bif Nat.blt y 224 then 3 else (bif Nat.blt y 225 then 3 else 3)) else (bif Nat.blt y 227 then 3 else (bif Nat.blt y 228 then 2 else 1)))) else (bif Nat.blt y 234 then (bif Nat.blt y 231 then (bif Nat.blt y 230 then 1 else 1) else (bif Nat.blt y 232 then 1 else (bif Nat.blt y 233 then 1 else 3))) else (bif Nat.blt y 237 then (bif Nat.blt y 235 then 3 else (bif Nat.blt y 236 then 3 else 3)) else (bif Nat.blt y 238 then 3 else (bif Nat.blt y 239 then 3 else 3))))) else (bif Nat.blt y 251 then (bif Nat.blt y 245 then (bif Nat.blt y 242 then (bif Nat.blt y 241 then 1 else 3) else (bif Nat.blt y 243 then 3 else (bif Nat.blt y 244 then 3 else 3))) else (bif Nat.blt y 248 then (bif Nat.blt y 246 then 1 else (bif Nat.blt y 247 then 3 else 3)) else (bif Nat.blt y 249 then 3 else (bif Nat.blt y 250 then 3 else 3)))) else (bif Nat.blt y 256 then (bif Nat.blt y 253 then (bif Nat.blt y 252 then 1 else 1) else (bif Nat.blt y 254 then 3 else (bif Nat.blt y 255 then 3 else 1))) else (bif Nat.blt y 259 then (bif Nat.blt y 257 then 1 else (bif Nat.blt y 258 then 1 else 1)) else (bif Nat.blt y 260 then 1 else (bif Nat.blt y 261 then 1 else 1))))))) else (bif Nat.blt y 306 then (bif Nat.blt y 284 then (bif Nat.blt y 273 then (bif Nat.blt y 267 then (bif Nat.blt y 264 then (bif Nat.blt y 263 then 1 else 1) else (bif Nat.blt y 265 then 1 else (bif Nat.blt y 266 then 1 else 1))) else (bif Nat.blt y 270 then (bif Nat.blt y 268 then 1 else (bif Nat.blt y 269 then 3 else 1)) else (bif Nat.blt y 271 then 1 else (bif Nat.blt y 272 then 1 else 1)))) else (bif Nat.blt y 278 then (bif Nat.blt y 275 then (bif Nat.blt y 274 then 3 else 1) else (bif Nat.blt y 276 then 3 else (bif Nat.blt y 277 then 1 else 1))) else (bif Nat.blt y 281 then (bif Nat.blt y 279 then 0 else (bif Nat.blt y 280 then 1 else 1)) else (bif Nat.blt y 282 then 1 else (bif Nat.blt y 283 then 1 else 1))))) else (bif Nat.blt y 295 then (bif Nat.blt y 289 then (bif Nat.blt y 286 then (bif Nat.blt y 285 then 3 else 1) else (bif Nat.blt y 287 then 3 else (bif Nat.blt y 288 then 1 else 3))) else (bif Nat.blt y 292 then (bif Nat.blt y 290 then 1 else (bif Nat.blt y 291 then 3 else 0)) else (bif Nat.blt y 293 then 0 else (bif Nat.blt y 294 then 1 else 0)))) else (bif Nat.blt y 300 then (bif Nat.blt y 297 then (bif Nat.blt y 296 then 1 else 1) else (bif Nat.blt y 298 then 1 else (bif Nat.blt y 299 then 1 else 1))) else (bif Nat.blt y 303 then (bif Nat.blt y 301 then 1 else (bif Nat.blt y 302 then 1 else 1)) else (bif Nat.blt y 304 then 1 else (bif Nat.blt y 305 then 1 else 1)))))) else (bif Nat.blt y 328 then (bif Nat.blt y 317 then (bif Nat.blt y 311 then (bif Nat.blt y 308 then (bif Nat.blt y 307 then 0 else 1) else (bif Nat.blt y 309 then 1 else (bif Nat.blt y 310 then 1 else 3))) else (bif Nat.blt y 314 then (bif Nat.blt y 312 then 1 else (bif Nat.blt y 313 then 1 else 3)) else (bif Nat.blt y 315 then 3 else (bif Nat.blt y 316 then 1 else 1)))) else (bif Nat.blt y 322 then (bif Nat.blt y 319 then (bif Nat.blt y 318 then 3 else 1) else (bif Nat.blt y 320 then 1 else (bif Nat.blt y 321 then 1 else 1))) else (bif Nat.blt y 325 then (bif Nat.blt y 323 then 0 else (bif Nat.blt y 324 then 1 else 1)) else (bif Nat.blt y 326 then 1 else (bif Nat.blt y 327 then 1 else 3))))) else (bif Nat.blt y 339 then (bif Nat.blt y 333 then (bif Nat.blt y 330 then (bif Nat.blt y 329 then 3 else 3) else (bif Nat.blt y 331 then 1 else (bif Nat.blt y 332 then 0 else 1))) else (bif Nat.blt y 336 then (bif Nat.blt y 334 then 1 else (bif Nat.blt y 335 then 3 else 0)) else (bif Nat.blt y 337 then 1 else (bif Nat.blt y 338 then 1 else 3)))) else (bif Nat.blt y 344 then (bif Nat.blt y 341 then (bif Nat.blt y 340 then 1 else 1) else (bif Nat.blt y 342 then 1 else (bif Nat.blt y 343 then 1 else 1))) else (bif Nat.blt y 347 then (bif Nat.blt y 345 then 4 else (bif Nat.blt y 346 then 4 else 3)) else (bif Nat.blt y 348 then 0 else (bif Nat.blt y 349 then 4 else 1)))))))))
def mlOf (y : Nat) : Nat := (bif Nat.blt y 175 then (bif Nat.blt y 87 then (bif Nat.blt y 43 then (bif Nat.blt y 21 then (bif Nat.blt y 10 then (bif Nat.blt y 5 then (bif Nat.blt y 2 then (bif Nat.blt y 1 then 1 else 4) else (bif Nat.blt y 3 then 2 else (bif Nat.blt y 4 then 7 else 3))) else (bif Nat.blt y 7 then (bif Nat.blt y 6 then 5 else 1) else (bif Nat.blt y 8 then 1 else (bif Nat.blt y 9 then 1 else 2)))) else (bif Nat.blt y 15 then (bif Nat.blt y 12 then (bif Nat.blt y 11 then 4 else 3) else (bif Nat.blt y 13 then 2 else (bif Nat.blt y 14 then 4 else 3))) else (bif Nat.blt y 18 then (bif Nat.blt y 16 then 3 else (bif Nat.blt y 17 then 3 else 1)) else (bif Nat.blt y 19 then 2 else (bif Nat.blt y 20 then 2 else 7))))) else (bif Nat.blt y 32 then (bif Nat.blt y 26 then (bif Nat.blt y 23 then (bif Nat.blt y 22 then 6 else 2) else (bif Nat.blt y 24 then 2 else (bif Nat.blt y 25 then 3 else 4))) else (bif Nat.blt y 29 then (bif Nat.blt y 27 then 4 else (bif Nat.blt y 28 then 3 else 2)) else (bif Nat.blt y 30 then 2 else (bif Nat.blt y 31 then 3 else 3)))) else (bif Nat.blt y 37 then (bif Nat.blt y 34 then (bif Nat.blt y 33 then 3 else 3) else (bif Nat.blt y 35 then 3 else (bif Nat.blt y 36 then 3 else 4))) else (bif Nat.blt y 40 then (bif Nat.blt y 38 then 4 else (bif Nat.blt y 39 then 4 else 3)) else (bif Nat.blt y 41 then 1 else (bif Nat.blt y 42 then 1 else 3)))))) else (bif Nat.blt y 65 then (bif Nat.blt y 54 then (bif Nat.blt y 48 then (bif Nat.blt y 45 then (bif Nat.blt y 44 then 1 else 3) else (bif Nat.blt y 46 then 2 else (bif Nat.blt y 47 then 4 else 2))) else (bif Nat.blt y 51 then (bif Nat.blt y 49 then 3 else (bif Nat.blt y 50 then 6 else 6)) else (bif Nat.blt y 52 then 4 else (bif Nat.blt y 53 then 4 else 3)))) else (bif Nat.blt y 59 then (bif Nat.blt y 56 then (bif Nat.blt y 55 then 1 else 9) else (bif Nat.blt y 57 then 7 else (bif Nat.blt y 58 then 6 else 9))) else (bif Nat.blt y 62 then (bif Nat.blt y 60 then 1 else (bif Nat.blt y 61 then 1 else 1)) else (bif Nat.blt y 63 then 9 else (bif Nat.blt y 64 then 8 else 5))))) else (bif Nat.blt y 76 then (bif Nat.blt y 70 then (bif Nat.blt y 67 then (bif Nat.blt y 66 then 6 else 6) else (bif Nat.blt y 68 then 2 else (bif Nat.blt y 69 then 3 else 11))) else (bif Nat.blt y 73 then (bif Nat.blt y 71 then 4 else (bif Nat.blt y 72 then 4 else 3)) else (bif Nat.blt y 74 then 6 else (bif Nat.blt y 75 then 2 else 2)))) else (bif Nat.blt y 81 then (bif Nat.blt y 78 then (bif Nat.blt y 77 then 1 else 2) else (bif Nat.blt y 79 then 7 else (bif Nat.blt y 80 then 5 else 2))) else (bif Nat.blt y 84 then (bif Nat.blt y 82 then 10 else (bif Nat.blt y 83 then 10 else 3)) else (bif Nat.blt y 85 then 8 else (bif Nat.blt y 86 then 5 else 4))))))) else (bif Nat.blt y 131 then (bif Nat.blt y 109 then (bif Nat.blt y 98 then (bif Nat.blt y 92 then (bif Nat.blt y 89 then (bif Nat.blt y 88 then 5 else 3) else (bif Nat.blt y 90 then 3 else (bif Nat.blt y 91 then 6 else 5))) else (bif Nat.blt y 95 then (bif Nat.blt y 93 then 3 else (bif Nat.blt y 94 then 2 else 2)) else (bif Nat.blt y 96 then 1 else (bif Nat.blt y 97 then 2 else 3)))) else (bif Nat.blt y 103 then (bif Nat.blt y 100 then (bif Nat.blt y 99 then 1 else 1) else (bif Nat.blt y 101 then 1 else (bif Nat.blt y 102 then 1 else 2))) else (bif Nat.blt y 106 then (bif Nat.blt y 104 then 2 else (bif Nat.blt y 105 then 2 else 3)) else (bif Nat.blt y 107 then 4 else (bif Nat.blt y 108 then 3 else 5))))) else (bif Nat.blt y 120 then (bif Nat.blt y 114 then (bif Nat.blt y 111 then (bif Nat.blt y 110 then 5 else 3) else (bif Nat.blt y 112 then 6 else (bif Nat.blt y 113 then 3 else 1))) else (bif Nat.blt y 117 then (bif Nat.blt y 115 then 1 else (bif Nat.blt y 116 then 3 else 2)) else (bif Nat.blt y 118 then 2 else (bif Nat.blt y 119 then 5 else 4)))) else (bif Nat.blt y 125 then (bif Nat.blt y 122 then (bif Nat.blt y 121 then 1 else 2) else (bif Nat.blt y 123 then 3 else (bif Nat.blt y 124 then 2 else 4))) else (bif Nat.blt y 128 then (bif Nat.blt y 126 then 2 else (bif Nat.blt y 127 then 2 else 2)) else (bif Nat.blt y 129 then 1 else (bif Nat.blt y 130 then 1 else 1)))))) else (bif Nat.blt y 153 then (bif Nat.blt y 142 then (bif Nat.blt y 136 then (bif Nat.blt y 133 then (bif Nat.blt y 132 then 4 else 6) else (bif Nat.blt y 134 then 4 else (bif Nat.blt y 135 then 6 else 6))) else (bif Nat.blt y 139 then (bif Nat.blt y 137 then 3 else (bif Nat.blt y 138 then 3 else 2)) else (bif Nat.blt y 140 then 2 else (bif Nat.blt y 141 then 3 else 2)))) else (bif Nat.blt y 147 then (bif Nat.blt y 144 then (bif Nat.blt y 143 then 3 else 2) else (bif Nat.blt y 145 then 3 else (bif Nat.blt y 146 then 2 else 3))) else (bif Nat.blt y 150 then (bif Nat.blt y 148 then 2 else (bif Nat.blt y 149 then 2 else 5)) else (bif Nat.blt y 151 then 3 else (bif Nat.blt y 152 then 3 else 3))))) else (bif Nat.blt y 164 then (bif Nat.blt y 158 then (bif Nat.blt y 155 then (bif Nat.blt y 154 then 4 else 4) else (bif Nat.blt y 156 then 3 else (bif Nat.blt y 157 then 1 else 2))) else (bif Nat.blt y 161 then (bif Nat.blt y 159 then 2 else (bif Nat.blt y 160 then 1 else 2)) else (bif Nat.blt y 162 then 3 else (bif Nat.blt y 163 then 4 else 3)))) else (bif Nat.blt y 169 then (bif Nat.blt y 166 then (bif Nat.blt y 165 then 5 else 3) else (bif Nat.blt y 167 then 4 else (bif Nat.blt y 168 then 6 else 8))) else (bif Nat.blt y 172 then (bif Nat.blt y 170 then 2 else (bif Nat.blt y 171 then 7 else 6)) else (bif Nat.blt y 173 then 6 else (bif Nat.blt y 174 then 1 else 2)))))))) else (bif Nat.blt y 262 then (bif Nat.blt y 218 then (bif Nat.blt y 196 then (bif Nat.blt y 185 then (bif Nat.blt y 180 then (bif Nat.blt y 177 then (bif Nat.blt y 176 then 3 else 2) else (bif Nat.blt y 178 then 2 else (bif Nat.blt y 179 then 6 else 1))) else (bif Nat.blt y 182 then (bif Nat.blt y 181 then 1 else 2) else (bif Nat.blt y 183 then 2 else (bif Nat.blt y 184 then 2 else 1)))) else (bif Nat.blt y 190 then (bif Nat.blt y 187 then (bif Nat.blt y 186 then 2 else 12) else (bif Nat.blt y 188 then 3 else (bif Nat.blt y 189 then 1 else 2))) else (bif Nat.blt y 193 then (bif Nat.blt y 191 then 1 else (bif Nat.blt y 192 then 2 else 3)) else (bif Nat.blt y 194 then 5 else (bif Nat.blt y 195 then 8 else 1))))) else (bif Nat.blt y 207 then (bif Nat.blt y 201 then (bif Nat.blt y 198 then (bif Nat.blt y 197 then 3 else 1) else (bif Nat.blt y 199 then 1 else (bif Nat.blt y 200 then 1 else 2))) else (bif Nat.blt y 204 then (bif Nat.blt y 202 then 2 else (bif Nat.blt y 203 then 2 else 2)) else (bif Nat.blt y 205 then 11 else (bif Nat.blt y 206 then 1 else 3)))) else (bif Nat.blt y 212 then (bif Nat.blt y 209 then (bif Nat.blt y 208 then 5 else 3) else (bif Nat.blt y 210 then 6 else (bif Nat.blt y 211 then 3 else 8))) else (bif Nat.blt y 215 then (bif Nat.blt y 213 then 6 else (bif Nat.blt y 214 then 6 else 3)) else (bif Nat.blt y 216 then 2 else (bif Nat.blt y 217 then 1 else 1)))))) else (bif Nat.blt y 240 then (bif Nat.blt y 229 then (bif Nat.blt y 223 then (bif Nat.blt y 220 then (bif Nat.blt y 219 then 2 else 2) else (bif Nat.blt y 221 then 7 else (bif Nat.blt y 222 then 2 else 4))) else (bif Nat.blt y 226 then (bif Nat.blt y 224 then 2 else (bif Nat.blt y 225 then 3 else 4)) else (bif Nat.blt y 227 then 2 else (bif Nat.blt y 228 then 4 else 4)))) else (bif Nat.blt y 234 then (bif Nat.blt y 231 then (bif Nat.blt y 230 then 2 else 2) else (bif Nat.blt y 232 then 1 else (bif Nat.blt y 233 then 1 else 2))) else (bif Nat.blt y 237 then (bif Nat.blt y 235 then 4 else (bif Nat.blt y 236 then 4 else 2)) else (bif Nat.blt y 238 then 4 else (bif Nat.blt y 239 then 2 else 3))))) else (bif Nat.blt y 251 then (bif Nat.blt y 245 then (bif Nat.blt y 242 then (bif Nat.blt y 241 then 4 else 2) else (bif Nat.blt y 243 then 3 else (bif Nat.blt y 244 then 3 else 6))) else (bif Nat.blt y 248 then (bif Nat.blt y 246 then 4 else (bif Nat.blt y 247 then 2 else 2)) else (bif Nat.blt y 249 then 3 else (bif Nat.blt y 250 then 2 else 3)))) else (bif Nat.blt y 256 then (bif Nat.blt y 253 then (bif Nat.blt y 252 then 3 else 3) else (bif Nat.blt y 254 then 2 else (bif Nat.blt y 255 then 2 else 2))) else (bif Nat.blt y 259 then (bif Nat.blt y 257 then 2 else (bif Nat.blt y 258 then 3 else 4)) else (bif Nat.blt y 260 then 4 else (bif Nat.blt y 261 then 3 else 5))))))) else (bif Nat.blt y 306 then (bif Nat.blt y 284 then (bif Nat.blt y 273 then (bif Nat.blt y 267 then (bif Nat.blt y 264 then (bif Nat.blt y 263 then 2 else 3) else (bif Nat.blt y 265 then 2 else (bif Nat.blt y 266 then 3 else 2))) else (bif Nat.blt y 270 then (bif Nat.blt y 268 then 3 else (bif Nat.blt y 269 then 1 else 1)) else (bif Nat.blt y 271 then 1 else (bif Nat.blt y 272 then 1 else 2)))) else (bif Nat.blt y 278 then (bif Nat.blt y 275 then (bif Nat.blt y 274 then 3 else 3) else (bif Nat.blt y 276 then 2 else (bif Nat.blt y 277 then 1 else 4))) else (bif Nat.blt y 281 then (bif Nat.blt y 279 then 1 else (bif Nat.blt y 280 then 6 else 3)) else (bif Nat.blt y 282 then 1 else (bif Nat.blt y 283 then 3 else 1))))) else (bif Nat.blt y 295 then (bif Nat.blt y 289 then (bif Nat.blt y 286 then (bif Nat.blt y 285 then 4 else 3) else (bif Nat.blt y 287 then 4 else (bif Nat.blt y 288 then 3 else 3))) else (bif Nat.blt y 292 then (bif Nat.blt y 290 then 5 else (bif Nat.blt y 291 then 3 else 3)) else (bif Nat.blt y 293 then 3 else (bif Nat.blt y 294 then 1 else 4)))) else (bif Nat.blt y 300 then (bif Nat.blt y 297 then (bif Nat.blt y 296 then 9 else 2) else (bif Nat.blt y 298 then 2 else (bif Nat.blt y 299 then 2 else 3))) else (bif Nat.blt y 303 then (bif Nat.blt y 301 then 9 else (bif Nat.blt y 302 then 3 else 2)) else (bif Nat.blt y 304 then 3 else (bif Nat.blt y 305 then 4 else 7)))))) else (bif Nat.blt y 328 then (bif Nat.blt y 317 then (bif Nat.blt y 311 then (bif Nat.blt y 308 then (bif Nat.blt y 307 then 8 else 4) else (bif Nat.blt y 309 then 7 else (bif Nat.blt y 310 then 6 else 3))) else (bif Nat.blt y 314 then (bif Nat.blt y 312 then 3 else (bif Nat.blt y 313 then 7 else 8)) else (bif Nat.blt y 315 then 9 else (bif Nat.blt y 316 then 5 else 4)))) else (bif Nat.blt y 322 then (bif Nat.blt y 319 then (bif Nat.blt y 318 then 8 else 7) else (bif Nat.blt y 320 then 6 else (bif Nat.blt y 321 then 7 else 5))) else (bif Nat.blt y 325 then (bif Nat.blt y 323 then 4 else (bif Nat.blt y 324 then 1 else 5)) else (bif Nat.blt y 326 then 3 else (bif Nat.blt y 327 then 2 else 2))))) else (bif Nat.blt y 339 then (bif Nat.blt y 333 then (bif Nat.blt y 330 then (bif Nat.blt y 329 then 3 else 4) else (bif Nat.blt y 331 then 5 else (bif Nat.blt y 332 then 4 else 3))) else (bif Nat.blt y 336 then (bif Nat.blt y 334 then 2 else (bif Nat.blt y 335 then 6 else 4)) else (bif Nat.blt y 337 then 1 else (bif Nat.blt y 338 then 1 else 4)))) else (bif Nat.blt y 344 then (bif Nat.blt y 341 then (bif Nat.blt y 340 then 1 else 1) else (bif Nat.blt y 342 then 2 else (bif Nat.blt y 343 then 2 else 1))) else (bif Nat.blt y 347 then (bif Nat.blt y 345 then 2 else (bif Nat.blt y 346 then 1 else 1)) else (bif Nat.blt y 348 then 2 else (bif Nat.blt y 349 then 2 else 3)))))))))
end
section
/-! THE RUN: step, exec (n: steps, d: how deep calls may go), and its limit EX with its equation -/
def ftch (pc : Nat) : List TE → Option ((Instr × Nat) × (Nat × Nat × Nat × Int))
  | [] => none
  | e :: l => bif Nat.beq e.1 pc then some e.2 else ftch pc l
def entL (vs : List AV) : Lv := match vs with
  | [] => []
  | .inr (.inl x) :: l => some (.inr (.inl x)) :: none :: entL l
  | v :: l => some v :: entL l
def entF (y : Nat) (vs : List AV) : Lv := entL vs ++ List.replicate (mlOf y - (entL vs).length) none
def gd (y : Nat) (vs : List AV) : Bool := Nat.blt y 350 && Nat.ble (entL vs).length (mlOf y)
abbrev Cfg : Type := Nat × Lv × List AV × Sh × Mem
abbrev Cll : Type := Nat × List AV × Nat × Lv × List AV × Sh × Mem
def stepQ (X : Xs) (rk : Nat) (i : Instr) (len : Nat) (ax : Nat × Nat × Nat × Int) (pc : Nat) (ls : Lv) (st : List AV) (S : Sh) (h : Mem) : Option (Cfg ⊕ Cll ⊕ Res) :=
  stepK X rk i len ax pc ls st S h none (fun a b c d f => some (.inl (a, b, c, d, f))) (fun a b c d f g i => some (.inr (.inl (a, b, c, d, f, g, i)))) (fun a b c => some (.inr (.inr (a, b, c))))
noncomputable def stepO (X : Xs) (y pc : Nat) (ls : Lv) (st : List AV) (S : Sh) (h : Mem) : Option (Cfg ⊕ Cll ⊕ Res) :=
  match ftch pc (tabOf y) with
  | none => none
  | some e => stepQ X (rkOf y) e.1.1 e.1.2 e.2 pc ls st S h
noncomputable def exec (X : Xs) : Nat → Nat → Nat → Nat → Lv → List AV → Sh → Mem → Option Res
  | 0, _, _, _, _, _, _, _ => none
  | n + 1, d, y, pc, ls, st, S, h => match stepO X y pc ls st S h with
    | none => none
    | some (.inl c) => exec X n d y c.1 c.2.1 c.2.2.1 c.2.2.2.1 c.2.2.2.2
    | some (.inr (.inl c)) => match d with
      | 0 => none
      | d' + 1 => match (bif gd c.1 c.2.1 then exec X n d' c.1 0 (entF c.1 c.2.1) [] c.2.2.2.2.2.1 c.2.2.2.2.2.2 else none) with
        | none => none
        | some r => exec X n (d' + 1) y c.2.2.1 c.2.2.2.1 (r.1.toList ++ c.2.2.2.2.1) r.2.1 r.2.2
    | some (.inr (.inr r)) => some r
theorem exec_mono (X : Xs) : ∀ (n d y pc : Nat) (ls : Lv) (st : List AV) (S : Sh) (h : Mem) (r : Res), exec X n d y pc ls st S h = some r → exec X (n + 1) d y pc ls st S h = some r := by
  intro n
  induction n with
  | zero => intro d y pc ls st S h r e; simp [exec] at e
  | succ n ih =>
    intro d y pc ls st S h r e
    rw [exec] at e ⊢
    cases hs : stepO X y pc ls st S h with
    | none => rw [hs] at e; cases e
    | some a =>
      rw [hs] at e
      cases a with
      | inl c => exact ih _ _ _ _ _ _ _ _ e
      | inr a =>
        cases a with
        | inr c => exact e
        | inl c =>
          cases d with
          | zero => cases e
          | succ d =>
            dsimp only at e ⊢
            cases hg : gd c.1 c.2.1 with
            | false => rw [hg] at e; cases e
            | true =>
              rw [hg] at e
              dsimp only [cond] at e ⊢
              cases hc : exec X n d c.1 0 (entF c.1 c.2.1) [] c.2.2.2.2.2.1 c.2.2.2.2.2.2 with
              | none => rw [hc] at e; cases e
              | some q =>
                rw [hc] at e
                rw [ih _ _ _ _ _ _ _ _ hc]
                exact ih _ _ _ _ _ _ _ _ e
theorem exec_le (X : Xs) {n m d y pc : Nat} {ls : Lv} {st : List AV} {S : Sh} {h : Mem} {r : Res} (hnm : n ≤ m) (e : exec X n d y pc ls st S h = some r) : exec X m d y pc ls st S h = some r := by
  induction hnm with
  | refl => exact e
  | step _ ih => exact exec_mono X _ _ _ _ _ _ _ _ _ ih
theorem exec_det (X : Xs) {n m d y pc : Nat} {ls : Lv} {st : List AV} {S : Sh} {h : Mem} {r q : Res} (e : exec X n d y pc ls st S h = some r) (f : exec X m d y pc ls st S h = some q) : r = q := by
  rcases Nat.le_total n m with z | z
  · exact Option.some.inj ((exec_le X z e).symm.trans f)
  · exact Option.some.inj (e.symm.trans (exec_le X z f))
noncomputable def EX (X : Xs) (d y pc : Nat) (ls : Lv) (st : List AV) (S : Sh) (h : Mem) : Option Res :=
  @dite _ (∃ (n : Nat) (r : Res), exec X n d y pc ls st S h = some r) (Classical.propDecidable _) (fun H => some (Classical.choose (Classical.choose_spec H))) (fun _ => none)
theorem EX_iff (X : Xs) {d y pc : Nat} {ls : Lv} {st : List AV} {S : Sh} {h : Mem} {r : Res} : EX X d y pc ls st S h = some r ↔ ∃ n, exec X n d y pc ls st S h = some r := by
  unfold EX
  constructor
  · intro e
    split at e
    · next H =>
      cases e
      exact ⟨_, Classical.choose_spec (Classical.choose_spec H)⟩
    · cases e
  · intro ⟨n, e⟩
    have H : ∃ (n : Nat) (r : Res), exec X n d y pc ls st S h = some r := ⟨n, r, e⟩
    rw [dif_pos H]
    exact congrArg some (exec_det X (Classical.choose_spec (Classical.choose_spec H)) e)
/-- a method's whole run -/
noncomputable def MX (X : Xs) (d y : Nat) (vs : List AV) (S : Sh) (h : Mem) : Option Res := bif gd y vs then EX X d y 0 (entF y vs) [] S h else none
noncomputable def callX (X : Xs) (d y : Nat) : Nat → List AV → Nat → Lv → List AV → Sh → Mem → Option Res := fun y' vs pc ls st S h => match d with
  | 0 => none
  | d' + 1 => oK (MX X d' y' vs S h) none fun r => EX X (d' + 1) y pc ls (r.1.toList ++ st) r.2.1 r.2.2
theorem opt_ext {α : Type} {a b : Option α} (h : ∀ r, a = some r ↔ b = some r) : a = b := by
  cases a with
  | none =>
    cases b with
    | none => rfl
    | some y => exact absurd ((h y).mpr rfl) (by simp)
  | some x => exact ((h x).mp rfl).symm
theorem EX_step (X : Xs) (d y pc : Nat) (ls : Lv) (st : List AV) (S : Sh) (h : Mem) : EX X d y pc ls st S h = match stepO X y pc ls st S h with
    | none => none
    | some (.inl c) => EX X d y c.1 c.2.1 c.2.2.1 c.2.2.2.1 c.2.2.2.2
    | some (.inr (.inl c)) => callX X d y c.1 c.2.1 c.2.2.1 c.2.2.2.1 c.2.2.2.2.1 c.2.2.2.2.2.1 c.2.2.2.2.2.2
    | some (.inr (.inr r)) => some r := by
  apply opt_ext
  intro r
  rw [EX_iff]
  cases hs : stepO X y pc ls st S h with
  | none =>
    constructor
    · rintro ⟨n, e⟩
      cases n with
      | zero => simp [exec] at e
      | succ n => rw [exec, hs] at e; exact e
    · intro e; cases e
  | some a =>
    cases a with
    | inl c =>
      dsimp only
      rw [EX_iff]
      constructor
      · rintro ⟨n, e⟩
        cases n with
        | zero => simp [exec] at e
        | succ n => rw [exec, hs] at e; exact ⟨n, e⟩
      · rintro ⟨n, e⟩
        exact ⟨n + 1, by rw [exec, hs]; exact e⟩
    | inr a =>
      cases a with
      | inr c =>
        constructor
        · rintro ⟨n, e⟩
          cases n with
          | zero => simp [exec] at e
          | succ n => rw [exec, hs] at e; exact e
        · intro e
          exact ⟨1, by rw [exec, hs]; exact e⟩
      | inl c =>
        cases d with
        | zero =>
          constructor
          · rintro ⟨n, e⟩
            cases n with
            | zero => simp [exec] at e
            | succ n => rw [exec, hs] at e; cases e
          · intro e; cases e
        | succ d =>
          dsimp only [callX]
          constructor
          · rintro ⟨n, e⟩
            cases n with
            | zero => simp [exec] at e
            | succ n =>
              rw [exec, hs] at e
              dsimp only at e
              cases hg : gd c.1 c.2.1 with
              | false => rw [hg] at e; cases e
              | true =>
                rw [hg] at e
                dsimp only [cond] at e
                cases hc : exec X n d c.1 0 (entF c.1 c.2.1) [] c.2.2.2.2.2.1 c.2.2.2.2.2.2 with
                | none => rw [hc] at e; cases e
                | some q =>
                  rw [hc] at e
                  have h1 : MX X d c.1 c.2.1 c.2.2.2.2.2.1 c.2.2.2.2.2.2 = some q := by
                    unfold MX
                    rw [hg]
                    exact (EX_iff X).mpr ⟨n, hc⟩
                  rw [h1]
                  exact (EX_iff X).mpr ⟨n, e⟩
          · intro e
            cases hc : MX X d c.1 c.2.1 c.2.2.2.2.2.1 c.2.2.2.2.2.2 with
            | none => rw [hc] at e; cases e
            | some q =>
              rw [hc] at e
              unfold MX at hc
              cases hg : gd c.1 c.2.1 with
              | false => rw [hg] at hc; cases hc
              | true =>
                rw [hg] at hc
                obtain ⟨n, h1⟩ := (EX_iff X).mp hc
                obtain ⟨k, h2⟩ := (EX_iff X).mp e
                refine ⟨max n k + 1, ?_⟩
                rw [exec, hs]
                dsimp only
                rw [hg]
                dsimp only [cond]
                rw [exec_le X (Nat.le_max_left n k) h1]
                exact exec_le X (Nat.le_max_right n k) h2
end
section
/-! stepK goes along with every function of its answers; the equation of EX by stepK; answers as whole numbers -/
section NAT
variable {α β : Type} (F : β → α)
theorem pI_nat (st : List AV) (x : β) (f : Int → List AV → β) : F (pI st x f) = pI st (F x) fun a r => F (f a r) := by unfold pI; split <;> rfl
theorem pII_nat (st : List AV) (x : β) (f : Int → Int → List AV → β) : F (pII st x f) = pII st (F x) fun a b r => F (f a b r) := by unfold pII; split <;> rfl
theorem pJ_nat (st : List AV) (x : β) (f : Int → List AV → β) : F (pJ st x f) = pJ st (F x) fun a r => F (f a r) := by unfold pJ; split <;> rfl
theorem pJJ_nat (st : List AV) (x : β) (f : Int → Int → List AV → β) : F (pJJ st x f) = pJJ st (F x) fun a b r => F (f a b r) := by unfold pJJ; split <;> rfl
theorem pJI_nat (st : List AV) (x : β) (f : Int → Int → List AV → β) : F (pJI st x f) = pJI st (F x) fun a b r => F (f a b r) := by unfold pJI; split <;> rfl
theorem pA_nat (st : List AV) (x : β) (f : Int → List AV → β) : F (pA st x f) = pA st (F x) fun a r => F (f a r) := by unfold pA; split <;> rfl
theorem pAI_nat (st : List AV) (x : β) (f : Int → Int → List AV → β) : F (pAI st x f) = pAI st (F x) fun a b r => F (f a b r) := by unfold pAI; split <;> rfl
theorem pAII_nat (st : List AV) (x : β) (f : Int → Int → Int → List AV → β) : F (pAII st x f) = pAII st (F x) fun a b c r => F (f a b c r) := by unfold pAII; split <;> rfl
theorem pAIJ_nat (st : List AV) (x : β) (f : Int → Int → Int → List AV → β) : F (pAIJ st x f) = pAIJ st (F x) fun a b c r => F (f a b c r) := by unfold pAIJ; split <;> rfl
theorem pAIA_nat (st : List AV) (x : β) (f : Int → Int → Int → List AV → β) : F (pAIA st x f) = pAIA st (F x) fun a b c r => F (f a b c r) := by unfold pAIA; split <;> rfl
theorem pVA_nat (st : List AV) (x : β) (f : AV → Int → List AV → β) : F (pVA st x f) = pVA st (F x) fun a b r => F (f a b r) := by unfold pVA; split <;> rfl
theorem pV_nat (st : List AV) (x : β) (f : AV → List AV → β) : F (pV st x f) = pV st (F x) fun a r => F (f a r) := by unfold pV; split <;> rfl
theorem pVV_nat (st : List AV) (x : β) (f : AV → AV → List AV → β) : F (pVV st x f) = pVV st (F x) fun a b r => F (f a b r) := by unfold pVV; split <;> rfl
theorem pCP_nat (st : List AV) (x : β) (f : Int → Int → Int → Int → Int → List AV → β) : F (pCP st x f) = pCP st (F x) fun a b c d e r => F (f a b c d e r) := by unfold pCP; split <;> rfl
theorem oK_nat {γ : Type} (o : Option γ) (x : β) (f : γ → β) : F (oK o x f) = oK o (F x) fun a => F (f a) := by unfold oK; split <;> rfl
theorem tsw_nat (a : Int) (f : Int → β) (d : β) : ∀ (lo : Int) (l : List Int), F (tsw a f d lo l) = tsw a (fun o => F (f o)) (F d) lo l
  | _, [] => rfl
  | lo, o :: l => by
    unfold tsw
    split
    · rfl
    · exact tsw_nat a f d (lo + 1) l
theorem lsw_nat (a : Int) (f : Int → β) (d : β) : ∀ (l : List (Int × Int)), F (lsw a f d l) = lsw a (fun o => F (f o)) (F d) l
  | [] => rfl
  | q :: l => by
    unfold lsw
    split
    · rfl
    · exact lsw_nat a f d l
end NAT
def runA {α : Type} (fail : α) (k : Nat → Lv → List AV → Sh → Mem → α) (call : Nat → List AV → Nat → Lv → List AV → Sh → Mem → α) (ret : Option AV → Sh → Mem → α) : Option (Cfg ⊕ Cll ⊕ Res) → α
  | none => fail
  | some (.inl c) => k c.1 c.2.1 c.2.2.1 c.2.2.2.1 c.2.2.2.2
  | some (.inr (.inl c)) => call c.1 c.2.1 c.2.2.1 c.2.2.2.1 c.2.2.2.2.1 c.2.2.2.2.2.1 c.2.2.2.2.2.2
  | some (.inr (.inr r)) => ret r.1 r.2.1 r.2.2
theorem stepK_run {α : Type} (X : Xs) (rk : Nat) (i : Instr) (len : Nat) (ax : Nat × Nat × Nat × Int) (pc : Nat) (ls : Lv) (st : List AV) (S : Sh) (h : Mem) (fail : α)
    (k : Nat → Lv → List AV → Sh → Mem → α) (call : Nat → List AV → Nat → Lv → List AV → Sh → Mem → α) (ret : Option AV → Sh → Mem → α) :
    stepK X rk i len ax pc ls st S h fail k call ret = runA fail k call ret (stepQ X rk i len ax pc ls st S h) := by
  unfold stepQ
  cases i
  case ifCond c o => cases c <;> (simp only [stepK, pI_nat (runA fail k call ret), apply_ite (runA fail k call ret)]; rfl)
  case if_icmp c o => cases c <;> (simp only [stepK, pII_nat (runA fail k call ret), apply_ite (runA fail k call ret)]; rfl)
  case ireturn =>
    simp only [stepK, pI_nat (runA fail k call ret)]
    congr 1
    funext a r
    cases r <;> (try simp only [apply_ite (runA fail k call ret)]) <;> rfl
  case lreturn =>
    simp only [stepK, pJ_nat (runA fail k call ret)]
    congr 1
    funext a r
    cases r <;> (try simp only [apply_ite (runA fail k call ret)]) <;> rfl
  case return_ => 
    cases st <;> (try simp only [stepK, apply_ite (runA fail k call ret)]) <;> rfl
  all_goals first
    | rfl
    | (simp only [stepK, pI_nat (runA fail k call ret), pII_nat (runA fail k call ret), pJ_nat (runA fail k call ret), pJJ_nat (runA fail k call ret), pJI_nat (runA fail k call ret), pA_nat (runA fail k call ret), pAI_nat (runA fail k call ret), pAII_nat (runA fail k call ret), pAIJ_nat (runA fail k call ret), pAIA_nat (runA fail k call ret), pVA_nat (runA fail k call ret), pV_nat (runA fail k call ret), pVV_nat (runA fail k call ret), pCP_nat (runA fail k call ret), oK_nat (runA fail k call ret), tsw_nat (runA fail k call ret), lsw_nat (runA fail k call ret), apply_ite (runA fail k call ret)]; rfl)
abbrev Rs : Type := Int × Sh × Mem
def resN (r : Res) : Rs := (match r.1 with
  | some (.inl x) => x
  | some (.inr (.inl x)) => x
  | some (.inr (.inr x)) => x
  | none => 0, r.2)
def pushR (rk : Nat) (x : Int) (st : List AV) : List AV := match rk with
  | 0 => st
  | 2 => .inr (.inl x) :: st
  | _ => .inl x :: st
def okRk (rk : Nat) (v : Option AV) : Prop := match v with
  | none => rk = 0
  | some (.inl _) => rk ≠ 0 ∧ rk ≠ 2
  | some (.inr (.inl _)) => rk = 2
  | some (.inr (.inr _)) => False
theorem okRk_push {rk : Nat} {r : Res} {st : List AV} (h : okRk rk r.1) : r.1.toList ++ st = pushR rk (resN r).1 st := by
  obtain ⟨v, S, m⟩ := r
  unfold okRk at h
  dsimp only at h
  split at h
  · subst h; rfl
  · next x => 
    obtain ⟨h1, h2⟩ := h
    unfold pushR
    split
    · exact absurd rfl h1
    · exact absurd rfl h2
    · rfl
  · subst h; rfl
  · exact h.elim
theorem stepK_kind (X : Xs) (rk : Nat) (i : Instr) (len : Nat) (ax : Nat × Nat × Nat × Int) (pc : Nat) (ls : Lv) (st : List AV) (S : Sh) (h : Mem) :
    stepK X rk i len ax pc ls st S h True (fun _ _ _ _ _ => True) (fun _ _ _ _ _ _ _ => True) (fun v _ _ => okRk rk v) := by
  cases i
  case ifCond c o => cases c <;> (simp only [stepK, pI, ite_self]; split <;> trivial)
  case if_icmp c o => cases c <;> (simp only [stepK, pII, ite_self]; split <;> trivial)
  case ireturn =>
    simp only [stepK, pI]
    split
    · split
      · split
        · next h => exact ⟨by omega, by omega⟩
        · split
          · split
            · exact ⟨by omega, by omega⟩
            · trivial
          · split
            · split
              · exact ⟨by omega, by omega⟩
              · trivial
            · trivial
      · trivial
    · trivial
  case lreturn =>
    simp only [stepK, pJ]
    split
    · split
      · split
        · assumption
        · trivial
      · trivial
    · trivial
  case return_ =>
    simp only [stepK]
    split
    · split
      · assumption
      · trivial
    · trivial
  case tableswitch d lo hi offs =>
    simp only [stepK, pI]
    split
    · split
      · generalize offs.toList = l
        generalize lo = z
        induction l generalizing z with
        | nil => trivial
        | cons a l ih => unfold tsw; split; trivial; exact ih _
      · trivial
    · trivial
  case lookupswitch d ps =>
    simp only [stepK, pI]
    split
    · generalize ps.toList = l
      induction l with
      | nil => trivial
      | cons a l ih => unfold lsw; split; trivial; exact ih
    · trivial
  all_goals first
    | trivial
    | (simp only [stepK, pI, pII, pJ, pJJ, pJI, pA, pAI, pAII, pAIJ, pAIA, pVA, pV, pVV, pCP, oK, ite_self]; repeat' (first | trivial | split))
theorem exec_kind (X : Xs) : ∀ (n d y pc : Nat) (ls : Lv) (st : List AV) (S : Sh) (h : Mem) (r : Res), exec X n d y pc ls st S h = some r → okRk (rkOf y) r.1 := by
  intro n
  induction n with
  | zero => intro d y pc ls st S h r e; simp [exec] at e
  | succ n ih =>
    intro d y pc ls st S h r e
    rw [exec] at e
    unfold stepO at e
    cases hf : ftch pc (tabOf y) with
    | none => rw [hf] at e; cases e
    | some q =>
      rw [hf] at e
      have hk := stepK_kind X (rkOf y) q.1.1 q.1.2 q.2 pc ls st S h
      rw [stepK_run] at hk
      dsimp only at e
      generalize stepQ X (rkOf y) q.1.1 q.1.2 q.2 pc ls st S h = z at e hk
      cases z with
      | none => cases e
      | some a =>
        cases a with
        | inl c => exact ih _ _ _ _ _ _ _ _ e
        | inr a =>
          cases a with
          | inr c => cases e; exact hk
          | inl c =>
            cases d with
            | zero => cases e
            | succ d =>
              dsimp only at e
              split at e
              · cases e
              · exact ih _ _ _ _ _ _ _ _ e
noncomputable def EI (X : Xs) (d y pc : Nat) (ls : Lv) (st : List AV) (S : Sh) (h : Mem) : Option Rs := (EX X d y pc ls st S h).map resN
noncomputable def MI (X : Xs) (d y : Nat) (vs : List AV) (S : Sh) (h : Mem) : Option Rs := bif gd y vs then EI X d y 0 (entF y vs) [] S h else none
noncomputable def retI (v : Option AV) (S : Sh) (h : Mem) : Option Rs := some (resN (v, S, h))
noncomputable def callI' (X : Xs) (d : Nat) (k : Nat → Lv → List AV → Sh → Mem → Option Rs) : Nat → List AV → Nat → Lv → List AV → Sh → Mem → Option Rs := fun y' vs pc ls st S h => match d with
  | 0 => none
  | d' + 1 => oK (MI X d' y' vs S h) none fun r => k pc ls (pushR (rkOf y') r.1 st) r.2.1 r.2.2
theorem EI_step (X : Xs) (d y pc : Nat) (ls : Lv) (st : List AV) (S : Sh) (h : Mem) : EI X d y pc ls st S h = match ftch pc (tabOf y) with
    | none => none
    | some e => stepK X (rkOf y) e.1.1 e.1.2 e.2 pc ls st S h none (EI X d y) (callI' X d (EI X d y)) retI := by
  unfold EI
  rw [EX_step]
  unfold stepO
  cases hf : ftch pc (tabOf y) with
  | none => rfl
  | some q =>
    dsimp only
    rw [stepK_run X _ _ _ _ _ _ _ _ _ none (fun pc ls st S h => (EX X d y pc ls st S h).map resN)]
    generalize stepQ X (rkOf y) q.1.1 q.1.2 q.2 pc ls st S h = z
    cases z with
    | none => rfl
    | some a =>
      cases a with
      | inl c => rfl
      | inr a =>
        cases a with
        | inr c => rfl
        | inl c =>
          cases d with
          | zero => rfl
          | succ d =>
            dsimp only [runA, callX, callI']
            have hm : MI X d c.1 c.2.1 c.2.2.2.2.2.1 c.2.2.2.2.2.2 = (MX X d c.1 c.2.1 c.2.2.2.2.2.1 c.2.2.2.2.2.2).map resN := by
              unfold MI MX EI
              cases gd c.1 c.2.1 <;> rfl
            rw [hm]
            cases hc : MX X d c.1 c.2.1 c.2.2.2.2.2.1 c.2.2.2.2.2.2 with
            | none => rfl
            | some r =>
              have hc' : EX X d c.1 0 (entF c.1 c.2.1) [] c.2.2.2.2.2.1 c.2.2.2.2.2.2 = some r := by
                unfold MX at hc
                cases hg : gd c.1 c.2.1 with
                | false => rw [hg] at hc; cases hc
                | true => rw [hg] at hc; exact hc
              obtain ⟨n, hn⟩ := (EX_iff X).mp hc'
              have hk := exec_kind X _ _ _ _ _ _ _ _ _ hn
              dsimp only [oK, Option.map]
              rw [okRk_push hk]
              rfl
noncomputable def RI (X : Xs) (d y : Nat) : Nat → Nat → Lv → List AV → Sh → Mem → Option Rs
  | 0 => EI X d y
  | n + 1 => fun pc ls st S h => match ftch pc (tabOf y) with
    | none => none
    | some e => stepK X (rkOf y) e.1.1 e.1.2 e.2 pc ls st S h none (RI X d y n) (callI' X d (RI X d y n)) retI
theorem EI_run (X : Xs) (d y : Nat) : ∀ (n pc : Nat) (ls : Lv) (st : List AV) (S : Sh) (h : Mem), EI X d y pc ls st S h = RI X d y n pc ls st S h := by
  intro n
  induction n with
  | zero => intros; rfl
  | succ n ih =>
    intro pc ls st S h
    have e : EI X d y = RI X d y n := by
      funext pc ls st S h
      exact ih pc ls st S h
    rw [EI_step, e]
    rfl
end
section
/-! NAMES: the classes, their fields (out of claim/NAMES.whole.lean.txt); the methods by number (written by wip/tools/gennames.py) -/
def RX0 : String := "BestMenDuel$Bout"
def TX0 : u_T := fun k => match k with
  | 0 => ("BestMenDuel$Bout", "life", "[I", true)
  | 1 => ("BestMenDuel$Bout", "spared", "[I", true)
  | 2 => ("BestMenDuel$Bout", "most", "[I", true)
  | 3 => ("BestMenDuel$Bout", "strength", "[I", true)
  | 4 => ("BestMenDuel$Bout", "reach", "[I", true)
  | 5 => ("BestMenDuel$Bout", "weight", "[I", true)
  | 6 => ("BestMenDuel$Bout", "bears", "[I", true)
  | 7 => ("BestMenDuel$Bout", "cell", "[I", true)
  | 8 => ("BestMenDuel$Bout", "length", "I", false)
  | 9 => ("BestMenDuel$Bout", "sun", "I", false)
  | 10 => ("BestMenDuel$Bout", "glare", "I", false)
  | 11 => ("BestMenDuel$Bout", "time", "I", false)
  | _ => ("BestMenDuel$Bout", "took", "I", false)
def tyX0 : Nat → FieldType := fun k => match k with
  | 0 => .array .int
  | 1 => .array .int
  | 2 => .array .int
  | 3 => .array .int
  | 4 => .array .int
  | 5 => .array .int
  | 6 => .array .int
  | 7 => .array .int
  | 8 => .int
  | 9 => .int
  | 10 => .int
  | 11 => .int
  | _ => .int
abbrev wsX00 : List Cond := u_ws RX0 TX0 13
theorem nmX0 : ∀ a, a < 13 → ∀ b, b < 13 → a ≠ b → (TX0 a).2.1 ≠ (TX0 b).2.1 := by decide +kernel
theorem tyX0_ok : ∀ k, k < 13 → parseFieldDescriptor (TX0 k).2.2.1 = some (tyX0 k) := by decide +kernel
def RX1 : String := "BestMenDuel$Dawn"
def TX1 : u_T := fun k => match k with
  | 0 => ("BestMenDuel$Dawn", "things", "I", false)
  | 1 => ("BestMenDuel$Dawn", "men", "I", false)
  | 2 => ("BestMenDuel$Dawn", "rules", "[I", true)
  | 3 => ("BestMenDuel$Dawn", "reach", "[I", true)
  | 4 => ("BestMenDuel$Dawn", "weight", "[I", true)
  | 5 => ("BestMenDuel$Dawn", "breaks", "[I", true)
  | 6 => ("BestMenDuel$Dawn", "worn", "[I", true)
  | 7 => ("BestMenDuel$Dawn", "strength", "[I", true)
  | 8 => ("BestMenDuel$Dawn", "life", "[I", true)
  | 9 => ("BestMenDuel$Dawn", "most", "[I", true)
  | 10 => ("BestMenDuel$Dawn", "held", "[I", true)
  | 11 => ("BestMenDuel$Dawn", "wins", "[I", true)
  | 12 => ("BestMenDuel$Dawn", "thingNames", "[J", true)
  | 13 => ("BestMenDuel$Dawn", "manNames", "[J", true)
  | 14 => ("BestMenDuel$Dawn", "first", "I", false)
  | 15 => ("BestMenDuel$Dawn", "second", "I", false)
  | 16 => ("BestMenDuel$Dawn", "firstCell", "I", false)
  | 17 => ("BestMenDuel$Dawn", "secondCell", "I", false)
  | 18 => ("BestMenDuel$Dawn", "time", "I", false)
  | _ => ("BestMenDuel$Dawn", "years", "LBestMenDuel$Years;", true)
def tyX1 : Nat → FieldType := fun k => match k with
  | 0 => .int
  | 1 => .int
  | 2 => .array .int
  | 3 => .array .int
  | 4 => .array .int
  | 5 => .array .int
  | 6 => .array .int
  | 7 => .array .int
  | 8 => .array .int
  | 9 => .array .int
  | 10 => .array .int
  | 11 => .array .int
  | 12 => .array .long
  | 13 => .array .long
  | 14 => .int
  | 15 => .int
  | 16 => .int
  | 17 => .int
  | 18 => .int
  | _ => .object "BestMenDuel$Years"
abbrev wsX10 : List Cond := u_ws RX1 TX1 20
theorem nmX1 : ∀ a, a < 20 → ∀ b, b < 20 → a ≠ b → (TX1 a).2.1 ≠ (TX1 b).2.1 := by decide +kernel
theorem tyX1_ok : ∀ k, k < 20 → parseFieldDescriptor (TX1 k).2.2.1 = some (tyX1 k) := by decide +kernel
def RX2 : String := "BestMenDuel$DawnReader"
def TX2 : u_T := fun k => match k with
  | 0 => ("BestMenDuel$DawnReader", "tokens", "LBestMenDuel$Tokens;", true)
  | 1 => ("BestMenDuel$DawnReader", "dawn", "LBestMenDuel$Dawn;", false)
  | _ => ("BestMenDuel$DawnReader", "rulesTold", "I", false)
def tyX2 : Nat → FieldType := fun k => match k with
  | 0 => .object "BestMenDuel$Tokens"
  | 1 => .object "BestMenDuel$Dawn"
  | _ => .int
abbrev wsX20 : List Cond := u_ws RX2 TX2 3
theorem nmX2 : ∀ a, a < 3 → ∀ b, b < 3 → a ≠ b → (TX2 a).2.1 ≠ (TX2 b).2.1 := by decide +kernel
theorem tyX2_ok : ∀ k, k < 3 → parseFieldDescriptor (TX2 k).2.2.1 = some (tyX2 k) := by decide +kernel
def RX3 : String := "BestMenDuel$Gifts"
def TX3 : u_T := fun k => match k with
  | 0 => ("BestMenDuel$Gifts", "best", "[I", true)
  | 1 => ("BestMenDuel$Gifts", "fewest", "I", false)
  | 2 => ("BestMenDuel$Gifts", "tried", "[I", true)
  | 3 => ("BestMenDuel$Gifts", "blows", "[I", true)
  | 4 => ("BestMenDuel$Gifts", "men", "I", false)
  | 5 => ("BestMenDuel$Gifts", "things", "I", false)
  | _ => ("BestMenDuel$Gifts", "set", "I", false)
def tyX3 : Nat → FieldType := fun k => match k with
  | 0 => .array .int
  | 1 => .int
  | 2 => .array .int
  | 3 => .array .int
  | 4 => .int
  | 5 => .int
  | _ => .int
abbrev wsX30 : List Cond := u_ws RX3 TX3 7
theorem nmX3 : ∀ a, a < 7 → ∀ b, b < 7 → a ≠ b → (TX3 a).2.1 ≠ (TX3 b).2.1 := by decide +kernel
theorem tyX3_ok : ∀ k, k < 7 → parseFieldDescriptor (TX3 k).2.2.1 = some (tyX3 k) := by decide +kernel
def RX4 : String := "BestMenDuel$Living"
def TX4 : u_T := fun k => match k with
  | 0 => ("BestMenDuel$Living", "bout", "LBestMenDuel$Bout;", true)
  | 1 => ("BestMenDuel$Living", "chance", "I", false)
  | 2 => ("BestMenDuel$Living", "ran", "Z", false)
  | 3 => ("BestMenDuel$Living", "steps", "I", false)
  | 4 => ("BestMenDuel$Living", "missed", "I", false)
  | 5 => ("BestMenDuel$Living", "acted", "I", false)
  | 6 => ("BestMenDuel$Living", "fell", "I", false)
  | 7 => ("BestMenDuel$Living", "taken", "I", false)
  | _ => ("BestMenDuel$Living", "cut", "Z", false)
def tyX4 : Nat → FieldType := fun k => match k with
  | 0 => .object "BestMenDuel$Bout"
  | 1 => .int
  | 2 => .boolean
  | 3 => .int
  | 4 => .int
  | 5 => .int
  | 6 => .int
  | 7 => .int
  | _ => .boolean
abbrev wsX40 : List Cond := u_ws RX4 TX4 9
theorem nmX4 : ∀ a, a < 9 → ∀ b, b < 9 → a ≠ b → (TX4 a).2.1 ≠ (TX4 b).2.1 := by decide +kernel
theorem tyX4_ok : ∀ k, k < 9 → parseFieldDescriptor (TX4 k).2.2.1 = some (tyX4 k) := by decide +kernel
def RX5 : String := "BestMenDuel$Order"
def TX5 : u_T := fun k => match k with
  | 0 => ("BestMenDuel$Order", "best", "[I", true)
  | 1 => ("BestMenDuel$Order", "fewest", "I", false)
  | _ => ("BestMenDuel$Order", "tried", "[I", true)
def tyX5 : Nat → FieldType := fun k => match k with
  | 0 => .array .int
  | 1 => .int
  | _ => .array .int
abbrev wsX50 : List Cond := u_ws RX5 TX5 3
theorem nmX5 : ∀ a, a < 3 → ∀ b, b < 3 → a ≠ b → (TX5 a).2.1 ≠ (TX5 b).2.1 := by decide +kernel
theorem tyX5_ok : ∀ k, k < 3 → parseFieldDescriptor (TX5 k).2.2.1 = some (tyX5 k) := by decide +kernel
def RX7 : String := "BestMenDuel$Tokens"
def TX7 : u_T := fun k => match k with
  | 0 => ("BestMenDuel$Tokens", "text", "[B", true)
  | 1 => ("BestMenDuel$Tokens", "reserved", "[J", true)
  | 2 => ("BestMenDuel$Tokens", "kinds", "[B", true)
  | 3 => ("BestMenDuel$Tokens", "starts", "[S", true)
  | 4 => ("BestMenDuel$Tokens", "values", "[J", true)
  | 5 => ("BestMenDuel$Tokens", "length", "I", false)
  | 6 => ("BestMenDuel$Tokens", "many", "I", false)
  | 7 => ("BestMenDuel$Tokens", "next", "I", false)
  | 8 => ("BestMenDuel$Tokens", "start", "I", false)
  | 9 => ("BestMenDuel$Tokens", "kind", "I", false)
  | 10 => ("BestMenDuel$Tokens", "word", "I", false)
  | 11 => ("BestMenDuel$Tokens", "value", "J", false)
  | 12 => ("BestMenDuel$Tokens", "fault", "I", false)
  | _ => ("BestMenDuel$Tokens", "place", "I", false)
def tyX7 : Nat → FieldType := fun k => match k with
  | 0 => .array .byte
  | 1 => .array .long
  | 2 => .array .byte
  | 3 => .array .short
  | 4 => .array .long
  | 5 => .int
  | 6 => .int
  | 7 => .int
  | 8 => .int
  | 9 => .int
  | 10 => .int
  | 11 => .long
  | 12 => .int
  | _ => .int
abbrev wsX70 : List Cond := u_ws RX7 TX7 14
theorem nmX7 : ∀ a, a < 14 → ∀ b, b < 14 → a ≠ b → (TX7 a).2.1 ≠ (TX7 b).2.1 := by decide +kernel
theorem tyX7_ok : ∀ k, k < 14 → parseFieldDescriptor (TX7 k).2.2.1 = some (tyX7 k) := by decide +kernel
def RX8 : String := "BestMenDuel$Trays"
def TX8 : u_T := fun k => match k with
  | 0 => ("BestMenDuel$Trays", "rows", "[[J", true)
  | 1 => ("BestMenDuel$Trays", "sorts", "[I", true)
  | _ => ("BestMenDuel$Trays", "sizes", "[I", true)
def tyX8 : Nat → FieldType := fun k => match k with
  | 0 => .array (.array .long)
  | 1 => .array .int
  | _ => .array .int
abbrev wsX80 : List Cond := u_ws RX8 TX8 3
theorem nmX8 : ∀ a, a < 3 → ∀ b, b < 3 → a ≠ b → (TX8 a).2.1 ≠ (TX8 b).2.1 := by decide +kernel
theorem tyX8_ok : ∀ k, k < 3 → parseFieldDescriptor (TX8 k).2.2.1 = some (tyX8 k) := by decide +kernel
def RX9 : String := "BestMenDuel$Years"
def TX9 : u_T := fun k => match k with
  | 0 => ("BestMenDuel$Years", "there", "Z", false)
  | 1 => ("BestMenDuel$Years", "steps", "I", false)
  | 2 => ("BestMenDuel$Years", "word", "[I", true)
  | 3 => ("BestMenDuel$Years", "test", "[I", true)
  | 4 => ("BestMenDuel$Years", "compare", "[I", true)
  | 5 => ("BestMenDuel$Years", "who", "[I", true)
  | 6 => ("BestMenDuel$Years", "other", "[I", true)
  | 7 => ("BestMenDuel$Years", "number", "[I", true)
  | _ => ("BestMenDuel$Years", "behind", "[I", true)
def tyX9 : Nat → FieldType := fun k => match k with
  | 0 => .boolean
  | 1 => .int
  | 2 => .array .int
  | 3 => .array .int
  | 4 => .array .int
  | 5 => .array .int
  | 6 => .array .int
  | 7 => .array .int
  | _ => .array .int
abbrev wsX90 : List Cond := u_ws RX9 TX9 9
theorem nmX9 : ∀ a, a < 9 → ∀ b, b < 9 → a ≠ b → (TX9 a).2.1 ≠ (TX9 b).2.1 := by decide +kernel
theorem tyX9_ok : ∀ k, k < 9 → parseFieldDescriptor (TX9 k).2.2.1 = some (tyX9 k) := by decide +kernel
def RX10 : String := "BestMenDuel$YearsReader"
def TX10 : u_T := fun k => match k with
  | 0 => ("BestMenDuel$YearsReader", "tokens", "LBestMenDuel$Tokens;", true)
  | 1 => ("BestMenDuel$YearsReader", "opened", "[I", true)
  | 2 => ("BestMenDuel$YearsReader", "dawn", "LBestMenDuel$Dawn;", false)
  | 3 => ("BestMenDuel$YearsReader", "years", "LBestMenDuel$Years;", false)
  | _ => ("BestMenDuel$YearsReader", "depth", "I", false)
def tyX10 : Nat → FieldType := fun k => match k with
  | 0 => .object "BestMenDuel$Tokens"
  | 1 => .array .int
  | 2 => .object "BestMenDuel$Dawn"
  | 3 => .object "BestMenDuel$Years"
  | _ => .int
abbrev wsX100 : List Cond := u_ws RX10 TX10 5
theorem nmX10 : ∀ a, a < 5 → ∀ b, b < 5 → a ≠ b → (TX10 a).2.1 ≠ (TX10 b).2.1 := by decide +kernel
theorem tyX10_ok : ∀ k, k < 5 → parseFieldDescriptor (TX10 k).2.2.1 = some (tyX10 k) := by decide +kernel
def RX11 : String := "BestMenDuel"
def TX11 : u_T := fun k => match k with
  | 0 => ("BestMenDuel", "trays", "LBestMenDuel$Trays;", true)
  | 1 => ("BestMenDuel", "tape", "[B", true)
  | 2 => ("BestMenDuel", "tokens", "LBestMenDuel$Tokens;", true)
  | 3 => ("BestMenDuel", "dawnReader", "LBestMenDuel$DawnReader;", true)
  | 4 => ("BestMenDuel", "yearsReader", "LBestMenDuel$YearsReader;", true)
  | 5 => ("BestMenDuel", "dawn", "LBestMenDuel$Dawn;", true)
  | 6 => ("BestMenDuel", "draft", "LBestMenDuel$Dawn;", true)
  | 7 => ("BestMenDuel", "marks", "[LBestMenDuel$Dawn;", true)
  | 8 => ("BestMenDuel", "bout", "LBestMenDuel$Bout;", true)
  | 9 => ("BestMenDuel", "gifts", "LBestMenDuel$Gifts;", true)
  | 10 => ("BestMenDuel", "leastOrder", "LBestMenDuel$Order;", true)
  | 11 => ("BestMenDuel", "latest", "LBestMenDuel$Living;", true)
  | 12 => ("BestMenDuel", "trial", "LBestMenDuel$Living;", true)
  | 13 => ("BestMenDuel", "marked", "I", false)
  | 14 => ("BestMenDuel", "taped", "I", false)
  | 15 => ("BestMenDuel", "status", "I", false)
  | 16 => ("BestMenDuel", "fault", "I", false)
  | 17 => ("BestMenDuel", "faultPlace", "I", false)
  | 18 => ("BestMenDuel", "top", "J", false)
  | _ => ("BestMenDuel", "bottom", "J", false)
def tyX11 : Nat → FieldType := fun k => match k with
  | 0 => .object "BestMenDuel$Trays"
  | 1 => .array .byte
  | 2 => .object "BestMenDuel$Tokens"
  | 3 => .object "BestMenDuel$DawnReader"
  | 4 => .object "BestMenDuel$YearsReader"
  | 5 => .object "BestMenDuel$Dawn"
  | 6 => .object "BestMenDuel$Dawn"
  | 7 => .array (.object "BestMenDuel$Dawn")
  | 8 => .object "BestMenDuel$Bout"
  | 9 => .object "BestMenDuel$Gifts"
  | 10 => .object "BestMenDuel$Order"
  | 11 => .object "BestMenDuel$Living"
  | 12 => .object "BestMenDuel$Living"
  | 13 => .int
  | 14 => .int
  | 15 => .int
  | 16 => .int
  | 17 => .int
  | 18 => .long
  | _ => .long
abbrev wsX110 : List Cond := u_ws RX11 TX11 20
theorem nmX11 : ∀ a, a < 20 → ∀ b, b < 20 → a ≠ b → (TX11 a).2.1 ≠ (TX11 b).2.1 := by decide +kernel
theorem tyX11_ok : ∀ k, k < 20 → parseFieldDescriptor (TX11 k).2.2.1 = some (tyX11 k) := by decide +kernel
def RX12 : String := "BestMenDuelModel"
def TX12 : u_T := fun k => match k with
  | 0 => ("BestMenDuelModel", "at", "[I", true)
  | 1 => ("BestMenDuelModel", "names", "[J", true)
  | 2 => ("BestMenDuelModel", "status", "I", false)
  | 3 => ("BestMenDuelModel", "top", "J", false)
  | 4 => ("BestMenDuelModel", "bottom", "J", false)
  | 5 => ("BestMenDuelModel", "sort", "[I", true)
  | 6 => ("BestMenDuelModel", "trayMany", "[I", true)
  | 7 => ("BestMenDuelModel", "trays", "[J", true)
  | 8 => ("BestMenDuelModel", "tape", "[B", true)
  | 9 => ("BestMenDuelModel", "text", "[B", true)
  | 10 => ("BestMenDuelModel", "taped", "I", false)
  | 11 => ("BestMenDuelModel", "size", "I", false)
  | 12 => ("BestMenDuelModel", "token", "I", false)
  | 13 => ("BestMenDuelModel", "from", "I", false)
  | 14 => ("BestMenDuelModel", "end", "I", false)
  | 15 => ("BestMenDuelModel", "value", "I", false)
  | 16 => ("BestMenDuelModel", "faultKind", "I", false)
  | 17 => ("BestMenDuelModel", "faultPlace", "I", false)
  | 18 => ("BestMenDuelModel", "faults", "I", false)
  | 19 => ("BestMenDuelModel", "seen", "I", false)
  | 20 => ("BestMenDuelModel", "toldParts", "I", false)
  | 21 => ("BestMenDuelModel", "opened", "[I", true)
  | 22 => ("BestMenDuelModel", "depth", "I", false)
  | 23 => ("BestMenDuelModel", "counted", "I", false)
  | 24 => ("BestMenDuelModel", "tried", "[I", true)
  | 25 => ("BestMenDuelModel", "best", "[I", true)
  | 26 => ("BestMenDuelModel", "bestAct", "[I", true)
  | 27 => ("BestMenDuelModel", "fairest", "[I", true)
  | 28 => ("BestMenDuelModel", "leastFrom", "[I", true)
  | 29 => ("BestMenDuelModel", "hitsBy", "[J", true)
  | 30 => ("BestMenDuelModel", "heldBy", "[I", true)
  | 31 => ("BestMenDuelModel", "fell", "I", false)
  | 32 => ("BestMenDuelModel", "hurtsBy", "[I", true)
  | 33 => ("BestMenDuelModel", "drawn", "I", false)
  | 34 => ("BestMenDuelModel", "ranSteps", "I", false)
  | 35 => ("BestMenDuelModel", "loops", "[I", true)
  | 36 => ("BestMenDuelModel", "ran", "[I", true)
  | 37 => ("BestMenDuelModel", "told1", "[I", true)
  | 38 => ("BestMenDuelModel", "isTold", "Z", false)
  | _ => ("BestMenDuelModel", "marks", "I", false)
def tyX12 : Nat → FieldType := fun k => match k with
  | 0 => .array .int
  | 1 => .array .long
  | 2 => .int
  | 3 => .long
  | 4 => .long
  | 5 => .array .int
  | 6 => .array .int
  | 7 => .array .long
  | 8 => .array .byte
  | 9 => .array .byte
  | 10 => .int
  | 11 => .int
  | 12 => .int
  | 13 => .int
  | 14 => .int
  | 15 => .int
  | 16 => .int
  | 17 => .int
  | 18 => .int
  | 19 => .int
  | 20 => .int
  | 21 => .array .int
  | 22 => .int
  | 23 => .int
  | 24 => .array .int
  | 25 => .array .int
  | 26 => .array .int
  | 27 => .array .int
  | 28 => .array .int
  | 29 => .array .long
  | 30 => .array .int
  | 31 => .int
  | 32 => .array .int
  | 33 => .int
  | 34 => .int
  | 35 => .array .int
  | 36 => .array .int
  | 37 => .array .int
  | 38 => .boolean
  | _ => .int
abbrev wsX120 : List Cond := u_ws RX12 TX12 40
theorem nmX12 : ∀ a, a < 40 → ∀ b, b < 40 → a ≠ b → (TX12 a).2.1 ≠ (TX12 b).2.1 := by decide +kernel
theorem tyX12_ok : ∀ k, k < 40 → parseFieldDescriptor (TX12 k).2.2.1 = some (tyX12 k) := by decide +kernel
abbrev vwCl : List vw_C := [(RX0, TX0, 13), (RX1, TX1, 20), (RX2, TX2, 3), (RX3, TX3, 7), (RX4, TX4, 9), (RX5, TX5, 3), (RX7, TX7, 14), (RX8, TX8, 3), (RX9, TX9, 9), (RX10, TX10, 5), (RX11, TX11, 20), (RX12, TX12, 40)]
abbrev MD : Type := MethodName × ByteArray × Nat × Option FieldType
def metas_0 : List MD := [(⟨"BestMenDuel$Bout", "<init>", "()V"⟩, prog_2_method_1_code, 1, (Option.none : Option Jvm.ClassFile.FieldType)),
  (⟨"BestMenDuel$Bout", "open", "(LBestMenDuel$Dawn;II)V"⟩, prog_2_method_2_code, 4, (Option.none : Option Jvm.ClassFile.FieldType)),
  (⟨"BestMenDuel$Bout", "resume", "(LBestMenDuel$Dawn;)V"⟩, prog_2_method_3_code, 2, (Option.none : Option Jvm.ClassFile.FieldType)),
  (⟨"BestMenDuel$Bout", "enter", "(LBestMenDuel$Dawn;II)V"⟩, prog_2_method_4_code, 7, (Option.none : Option Jvm.ClassFile.FieldType)),
  (⟨"BestMenDuel$Bout", "actsIn", "(LBestMenDuel$Dawn;I)Z"⟩, prog_2_method_5_code, 3, (Option.some Jvm.ClassFile.FieldType.boolean)),
  (⟨"BestMenDuel$Bout", "putBack", "(ILBestMenDuel$Dawn;I)V"⟩, prog_2_method_6_code, 5, (Option.none : Option Jvm.ClassFile.FieldType)),
  (⟨"BestMenDuel$Bout", "mover", "()I"⟩, prog_2_method_7_code, 1, (Option.some Jvm.ClassFile.FieldType.int)),
  (⟨"BestMenDuel$Bout", "over", "()Z"⟩, prog_2_method_8_code, 1, (Option.some Jvm.ClassFile.FieldType.boolean)),
  (⟨"BestMenDuel$Bout", "apart", "()I"⟩, prog_2_method_9_code, 1, (Option.some Jvm.ClassFile.FieldType.int)),
  (⟨"BestMenDuel$Bout", "reachNow", "(I)I"⟩, prog_2_method_10_code, 2, (Option.some Jvm.ClassFile.FieldType.int)),
  (⟨"BestMenDuel$Bout", "hurtBy", "(I)I"⟩, prog_2_method_11_code, 4, (Option.some Jvm.ClassFile.FieldType.int)),
  (⟨"BestMenDuel$Bout", "can", "(I)Z"⟩, prog_2_method_12_code, 3, (Option.some Jvm.ClassFile.FieldType.boolean)),
  (⟨"BestMenDuel$Bout", "countSpared", "(I)V"⟩, prog_2_method_13_code, 2, (Option.none : Option Jvm.ClassFile.FieldType)),
  (⟨"BestMenDuel$Bout", "play", "(I)V"⟩, prog_2_method_14_code, 4, (Option.none : Option Jvm.ClassFile.FieldType)),
  (⟨"BestMenDuel$Bout", "hit", "(I)V"⟩, prog_2_method_15_code, 3, (Option.none : Option Jvm.ClassFile.FieldType)),
  (⟨"BestMenDuel$Bout", "packed", "()J"⟩, prog_2_method_16_code, 3, (Option.some Jvm.ClassFile.FieldType.long)),
  (⟨"BestMenDuel$Bout", "unpack", "(J)V"⟩, prog_2_method_17_code, 3, (Option.none : Option Jvm.ClassFile.FieldType)),
  (⟨"BestMenDuel$Dawn", "<init>", "()V"⟩, prog_3_method_1_code, 1, (Option.none : Option Jvm.ClassFile.FieldType)),
  (⟨"BestMenDuel$Dawn", "clear", "()V"⟩, prog_3_method_2_code, 2, (Option.none : Option Jvm.ClassFile.FieldType)),
  (⟨"BestMenDuel$Dawn", "take", "(LBestMenDuel$Dawn;)V"⟩, prog_3_method_3_code, 2, (Option.none : Option Jvm.ClassFile.FieldType)),
  (⟨"BestMenDuel$Dawn", "addThing", "(JIII)I"⟩, prog_3_method_4_code, 7, (Option.some Jvm.ClassFile.FieldType.int)),
  (⟨"BestMenDuel$Dawn", "addMan", "(JII)I"⟩, prog_3_method_5_code, 6, (Option.some Jvm.ClassFile.FieldType.int)),
  (⟨"BestMenDuel$Dawn", "isThing", "(I)Z"⟩, prog_3_method_6_code, 2, (Option.some Jvm.ClassFile.FieldType.boolean)),
  (⟨"BestMenDuel$Dawn", "isMan", "(I)Z"⟩, prog_3_method_7_code, 2, (Option.some Jvm.ClassFile.FieldType.boolean)),
  (⟨"BestMenDuel$Dawn", "isPair", "(II)Z"⟩, prog_3_method_8_code, 3, (Option.some Jvm.ClassFile.FieldType.boolean)),
  (⟨"BestMenDuel$Dawn", "thingNamed", "(J)I"⟩, prog_3_method_9_code, 4, (Option.some Jvm.ClassFile.FieldType.int)),
  (⟨"BestMenDuel$Dawn", "manNamed", "(J)I"⟩, prog_3_method_10_code, 4, (Option.some Jvm.ClassFile.FieldType.int)),
  (⟨"BestMenDuel$Dawn", "holderOf", "(I)I"⟩, prog_3_method_11_code, 3, (Option.some Jvm.ClassFile.FieldType.int)),
  (⟨"BestMenDuel$Dawn", "isBroken", "(I)Z"⟩, prog_3_method_12_code, 2, (Option.some Jvm.ClassFile.FieldType.boolean)),
  (⟨"BestMenDuel$Dawn", "bearsYet", "(I)I"⟩, prog_3_method_13_code, 2, (Option.some Jvm.ClassFile.FieldType.int)),
  (⟨"BestMenDuel$Dawn", "reachOf", "(I)I"⟩, prog_3_method_14_code, 3, (Option.some Jvm.ClassFile.FieldType.int)),
  (⟨"BestMenDuel$Dawn", "blowOf", "(I)I"⟩, prog_3_method_15_code, 3, (Option.some Jvm.ClassFile.FieldType.int)),
  (⟨"BestMenDuel$Dawn", "brokenSet", "()I"⟩, prog_3_method_16_code, 3, (Option.some Jvm.ClassFile.FieldType.int)),
  (⟨"BestMenDuel$Dawn", "unheldSet", "()I"⟩, prog_3_method_17_code, 3, (Option.some Jvm.ClassFile.FieldType.int)),
  (⟨"BestMenDuel$Dawn", "livingSet", "()I"⟩, prog_3_method_18_code, 3, (Option.some Jvm.ClassFile.FieldType.int)),
  (⟨"BestMenDuel$Dawn", "wonAgainst", "(II)I"⟩, prog_3_method_19_code, 3, (Option.some Jvm.ClassFile.FieldType.int)),
  (⟨"BestMenDuel$Dawn", "addWin", "(Z)V"⟩, prog_3_method_20_code, 4, (Option.none : Option Jvm.ClassFile.FieldType)),
  (⟨"BestMenDuel$Dawn", "wonBy", "(I)I"⟩, prog_3_method_21_code, 4, (Option.some Jvm.ClassFile.FieldType.int)),
  (⟨"BestMenDuel$Dawn", "lostBy", "(I)I"⟩, prog_3_method_22_code, 4, (Option.some Jvm.ClassFile.FieldType.int)),
  (⟨"BestMenDuel$Dawn", "wonInAll", "()I"⟩, prog_3_method_23_code, 3, (Option.some Jvm.ClassFile.FieldType.int)),
  (⟨"BestMenDuel$Dawn", "fighting", "()Z"⟩, prog_3_method_24_code, 1, (Option.some Jvm.ClassFile.FieldType.boolean)),
  (⟨"BestMenDuel$Dawn", "nearness", "()I"⟩, prog_3_method_25_code, 1, (Option.some Jvm.ClassFile.FieldType.int)),
  (⟨"BestMenDuel$Dawn", "begins", "(II)Z"⟩, prog_3_method_26_code, 3, (Option.some Jvm.ClassFile.FieldType.boolean)),
  (⟨"BestMenDuel$Dawn", "endDuel", "()V"⟩, prog_3_method_27_code, 1, (Option.none : Option Jvm.ClassFile.FieldType)),
  (⟨"BestMenDuel$Dawn", "cures", "(II)Z"⟩, prog_3_method_28_code, 3, (Option.some Jvm.ClassFile.FieldType.boolean)),
  (⟨"BestMenDuel$DawnReader", "<init>", "(LBestMenDuel$Tokens;)V"⟩, prog_4_method_1_code, 2, (Option.none : Option Jvm.ClassFile.FieldType)),
  (⟨"BestMenDuel$DawnReader", "takes", "(LBestMenDuel$Dawn;I)Z"⟩, prog_4_method_2_code, 4, (Option.some Jvm.ClassFile.FieldType.boolean)),
  (⟨"BestMenDuel$DawnReader", "takesPart", "()Z"⟩, prog_4_method_3_code, 2, (Option.some Jvm.ClassFile.FieldType.boolean)),
  (⟨"BestMenDuel$DawnReader", "takesRule", "(I)Z"⟩, prog_4_method_4_code, 3, (Option.some Jvm.ClassFile.FieldType.boolean)),
  (⟨"BestMenDuel$DawnReader", "takesThing", "()Z"⟩, prog_4_method_5_code, 6, (Option.some Jvm.ClassFile.FieldType.boolean))]
def metas_1 : List MD := [(⟨"BestMenDuel$DawnReader", "takesMan", "()Z"⟩, prog_4_method_6_code, 6, (Option.some Jvm.ClassFile.FieldType.boolean)),
  (⟨"BestMenDuel$DawnReader", "takesNumber", "(III)I"⟩, prog_4_method_7_code, 4, (Option.some Jvm.ClassFile.FieldType.int)),
  (⟨"BestMenDuel$DawnReader", "takesNewName", "()Z"⟩, prog_4_method_8_code, 4, (Option.some Jvm.ClassFile.FieldType.boolean)),
  (⟨"BestMenDuel$DawnReader", "takesHeld", "(I)Z"⟩, prog_4_method_9_code, 3, (Option.some Jvm.ClassFile.FieldType.boolean)),
  (⟨"BestMenDuel$Gifts", "<init>", "()V"⟩, prog_5_method_1_code, 1, (Option.none : Option Jvm.ClassFile.FieldType)),
  (⟨"BestMenDuel$Gifts", "blowsNeeded", "(LBestMenDuel$Dawn;III)I"⟩, prog_5_method_2_code, 9, (Option.some Jvm.ClassFile.FieldType.int)),
  (⟨"BestMenDuel$Gifts", "bestThing", "(LBestMenDuel$Dawn;II)I"⟩, prog_5_method_3_code, 7, (Option.some Jvm.ClassFile.FieldType.int)),
  (⟨"BestMenDuel$Gifts", "soonestMan", "(LBestMenDuel$Dawn;I)I"⟩, prog_5_method_4_code, 6, (Option.some Jvm.ClassFile.FieldType.int)),
  (⟨"BestMenDuel$Gifts", "fairest", "(LBestMenDuel$Dawn;II)I"⟩, prog_5_method_5_code, 9, (Option.some Jvm.ClassFile.FieldType.int)),
  (⟨"BestMenDuel$Gifts", "differenceOf", "(I)I"⟩, prog_5_method_6_code, 1, (Option.some Jvm.ClassFile.FieldType.int)),
  (⟨"BestMenDuel$Gifts", "firstOf", "(I)I"⟩, prog_5_method_7_code, 1, (Option.some Jvm.ClassFile.FieldType.int)),
  (⟨"BestMenDuel$Gifts", "secondOf", "(I)I"⟩, prog_5_method_8_code, 1, (Option.some Jvm.ClassFile.FieldType.int)),
  (⟨"BestMenDuel$Gifts", "fasterWays", "(LBestMenDuel$Dawn;III)I"⟩, prog_5_method_9_code, 9, (Option.some Jvm.ClassFile.FieldType.int)),
  (⟨"BestMenDuel$Gifts", "waysToHit", "(III)J"⟩, prog_5_method_10_code, 8, (Option.some Jvm.ClassFile.FieldType.long)),
  (⟨"BestMenDuel$Gifts", "power", "(II)J"⟩, prog_5_method_11_code, 5, (Option.some Jvm.ClassFile.FieldType.long)),
  (⟨"BestMenDuel$Gifts", "seekArms", "(LBestMenDuel$Dawn;II)V"⟩, prog_5_method_12_code, 6, (Option.none : Option Jvm.ClassFile.FieldType)),
  (⟨"BestMenDuel$Gifts", "arm", "(LBestMenDuel$Gifts;III)V"⟩, prog_5_method_13_code, 6, (Option.none : Option Jvm.ClassFile.FieldType)),
  (⟨"BestMenDuel$Living", "<init>", "(LBestMenDuel$Bout;)V"⟩, prog_6_method_1_code, 2, (Option.none : Option Jvm.ClassFile.FieldType)),
  (⟨"BestMenDuel$Living", "goThrough", "(LBestMenDuel$Dawn;I)V"⟩, prog_6_method_2_code, 3, (Option.none : Option Jvm.ClassFile.FieldType)),
  (⟨"BestMenDuel$Living", "walk", "(LBestMenDuel$Living;LBestMenDuel$Dawn;III)Z"⟩, prog_6_method_3_code, 11, (Option.some Jvm.ClassFile.FieldType.boolean)),
  (⟨"BestMenDuel$Living", "timesInside", "(LBestMenDuel$Dawn;I)I"⟩, prog_6_method_4_code, 4, (Option.some Jvm.ClassFile.FieldType.int)),
  (⟨"BestMenDuel$Living", "holdsTrue", "(LBestMenDuel$Dawn;I)Z"⟩, prog_6_method_5_code, 4, (Option.some Jvm.ClassFile.FieldType.boolean)),
  (⟨"BestMenDuel$Living", "compares", "(III)Z"⟩, prog_6_method_6_code, 3, (Option.some Jvm.ClassFile.FieldType.boolean)),
  (⟨"BestMenDuel$Living", "step", "(LBestMenDuel$Dawn;I)V"⟩, prog_6_method_7_code, 6, (Option.none : Option Jvm.ClassFile.FieldType)),
  (⟨"BestMenDuel$Living", "countAct", "(Z)V"⟩, prog_6_method_8_code, 2, (Option.none : Option Jvm.ClassFile.FieldType)),
  (⟨"BestMenDuel$Living", "drawn", "(I)I"⟩, prog_6_method_9_code, 2, (Option.some Jvm.ClassFile.FieldType.int)),
  (⟨"BestMenDuel$Order", "<init>", "()V"⟩, prog_7_method_1_code, 1, (Option.none : Option Jvm.ClassFile.FieldType)),
  (⟨"BestMenDuel$Order", "seek", "(LBestMenDuel$Dawn;)V"⟩, prog_7_method_2_code, 2, (Option.none : Option Jvm.ClassFile.FieldType)),
  (⟨"BestMenDuel$Order", "stand", "(LBestMenDuel$Order;LBestMenDuel$Dawn;III)V"⟩, prog_7_method_3_code, 7, (Option.none : Option Jvm.ClassFile.FieldType)),
  (⟨"BestMenDuel$Order", "hurtsAtEnd", "(LBestMenDuel$Dawn;I)I"⟩, prog_7_method_4_code, 5, (Option.some Jvm.ClassFile.FieldType.int)),
  (⟨"BestMenDuel$Search", "worth", "(LBestMenDuel$Bout;I)I"⟩, prog_8_method_2_code, 2, (Option.some Jvm.ClassFile.FieldType.int)),
  (⟨"BestMenDuel$Search", "choice", "(LBestMenDuel$Bout;I)I"⟩, prog_8_method_3_code, 10, (Option.some Jvm.ClassFile.FieldType.int)),
  (⟨"BestMenDuel$Search", "best", "(LBestMenDuel$Bout;III)I"⟩, prog_8_method_4_code, 10, (Option.some Jvm.ClassFile.FieldType.int)),
  (⟨"BestMenDuel$Search", "fewestTurns", "(LBestMenDuel$Bout;)I"⟩, prog_8_method_5_code, 3, (Option.some Jvm.ClassFile.FieldType.int)),
  (⟨"BestMenDuel$Search", "fells", "(LBestMenDuel$Bout;II)Z"⟩, prog_8_method_6_code, 8, (Option.some Jvm.ClassFile.FieldType.boolean)),
  (⟨"BestMenDuel$Tokens", "<init>", "([B)V"⟩, prog_9_method_1_code, 5, (Option.none : Option Jvm.ClassFile.FieldType)),
  (⟨"BestMenDuel$Tokens", "split", "(I)V"⟩, prog_9_method_2_code, 4, (Option.none : Option Jvm.ClassFile.FieldType)),
  (⟨"BestMenDuel$Tokens", "splitOne", "(I)I"⟩, prog_9_method_3_code, 5, (Option.some Jvm.ClassFile.FieldType.int)),
  (⟨"BestMenDuel$Tokens", "endOfWord", "(I)I"⟩, prog_9_method_4_code, 3, (Option.some Jvm.ClassFile.FieldType.int)),
  (⟨"BestMenDuel$Tokens", "endOfNumber", "(I)I"⟩, prog_9_method_5_code, 3, (Option.some Jvm.ClassFile.FieldType.int)),
  (⟨"BestMenDuel$Tokens", "lettersOf", "(II)J"⟩, prog_9_method_6_code, 6, (Option.some Jvm.ClassFile.FieldType.long)),
  (⟨"BestMenDuel$Tokens", "numberOf", "(II)I"⟩, prog_9_method_7_code, 5, (Option.some Jvm.ClassFile.FieldType.int)),
  (⟨"BestMenDuel$Tokens", "advance", "()V"⟩, prog_9_method_8_code, 3, (Option.none : Option Jvm.ClassFile.FieldType)),
  (⟨"BestMenDuel$Tokens", "fails", "(I)Z"⟩, prog_9_method_9_code, 2, (Option.some Jvm.ClassFile.FieldType.boolean)),
  (⟨"BestMenDuel$Tokens", "isSign", "(I)Z"⟩, prog_9_method_10_code, 2, (Option.some Jvm.ClassFile.FieldType.boolean)),
  (⟨"BestMenDuel$Tokens", "wantsStop", "()Z"⟩, prog_9_method_11_code, 1, (Option.some Jvm.ClassFile.FieldType.boolean)),
  (⟨"BestMenDuel$Tokens", "wantsWord", "(I)Z"⟩, prog_9_method_12_code, 2, (Option.some Jvm.ClassFile.FieldType.boolean)),
  (⟨"BestMenDuel$Tokens", "wantsNumber", "(II)I"⟩, prog_9_method_13_code, 3, (Option.some Jvm.ClassFile.FieldType.int)),
  (⟨"BestMenDuel$Tokens", "wantsName", "()Z"⟩, prog_9_method_14_code, 1, (Option.some Jvm.ClassFile.FieldType.boolean)),
  (⟨"BestMenDuel$Tokens", "isBlank", "(I)Z"⟩, prog_9_method_15_code, 1, (Option.some Jvm.ClassFile.FieldType.boolean))]
def metas_2 : List MD := [(⟨"BestMenDuel$Tokens", "isLetter", "(I)Z"⟩, prog_9_method_16_code, 1, (Option.some Jvm.ClassFile.FieldType.boolean)),
  (⟨"BestMenDuel$Tokens", "isDigit", "(I)Z"⟩, prog_9_method_17_code, 1, (Option.some Jvm.ClassFile.FieldType.boolean)),
  (⟨"BestMenDuel$Trays", "<init>", "()V"⟩, prog_10_method_1_code, 2, (Option.none : Option Jvm.ClassFile.FieldType)),
  (⟨"BestMenDuel$Trays", "isTray", "(I)Z"⟩, prog_10_method_2_code, 2, (Option.some Jvm.ClassFile.FieldType.boolean)),
  (⟨"BestMenDuel$Trays", "isMissing", "(I)Z"⟩, prog_10_method_3_code, 2, (Option.some Jvm.ClassFile.FieldType.boolean)),
  (⟨"BestMenDuel$Trays", "areAlike", "(II)Z"⟩, prog_10_method_4_code, 3, (Option.some Jvm.ClassFile.FieldType.boolean)),
  (⟨"BestMenDuel$Trays", "hasRun", "(III)Z"⟩, prog_10_method_5_code, 4, (Option.some Jvm.ClassFile.FieldType.boolean)),
  (⟨"BestMenDuel$Trays", "whyNot", "(II)I"⟩, prog_10_method_6_code, 3, (Option.some Jvm.ClassFile.FieldType.int)),
  (⟨"BestMenDuel$Trays", "lay", "(III)V"⟩, prog_10_method_7_code, 5, (Option.none : Option Jvm.ClassFile.FieldType)),
  (⟨"BestMenDuel$Trays", "put", "(IIJ)V"⟩, prog_10_method_8_code, 5, (Option.none : Option Jvm.ClassFile.FieldType)),
  (⟨"BestMenDuel$Trays", "at", "(II)J"⟩, prog_10_method_9_code, 3, (Option.some Jvm.ClassFile.FieldType.long)),
  (⟨"BestMenDuel$Trays", "carry", "(IIIII)V"⟩, prog_10_method_10_code, 6, (Option.none : Option Jvm.ClassFile.FieldType)),
  (⟨"BestMenDuel$Trays", "cut", "(IJ)J"⟩, prog_10_method_11_code, 3, (Option.some Jvm.ClassFile.FieldType.long)),
  (⟨"BestMenDuel$Years", "<init>", "()V"⟩, prog_11_method_1_code, 1, (Option.none : Option Jvm.ClassFile.FieldType)),
  (⟨"BestMenDuel$Years", "clear", "()V"⟩, prog_11_method_2_code, 1, (Option.none : Option Jvm.ClassFile.FieldType)),
  (⟨"BestMenDuel$Years", "addStep", "(I)I"⟩, prog_11_method_3_code, 3, (Option.some Jvm.ClassFile.FieldType.int)),
  (⟨"BestMenDuel$Years", "take", "(LBestMenDuel$Years;)V"⟩, prog_11_method_4_code, 2, (Option.none : Option Jvm.ClassFile.FieldType)),
  (⟨"BestMenDuel$YearsReader", "<init>", "(LBestMenDuel$Tokens;)V"⟩, prog_12_method_1_code, 2, (Option.none : Option Jvm.ClassFile.FieldType)),
  (⟨"BestMenDuel$YearsReader", "takes", "(LBestMenDuel$Dawn;LBestMenDuel$Years;I)Z"⟩, prog_12_method_2_code, 5, (Option.some Jvm.ClassFile.FieldType.boolean)),
  (⟨"BestMenDuel$YearsReader", "takesStep", "(I)Z"⟩, prog_12_method_3_code, 4, (Option.some Jvm.ClassFile.FieldType.boolean)),
  (⟨"BestMenDuel$YearsReader", "isStep", "(I)Z"⟩, prog_12_method_4_code, 1, (Option.some Jvm.ClassFile.FieldType.boolean)),
  (⟨"BestMenDuel$YearsReader", "takesRestOf", "(I)Z"⟩, prog_12_method_5_code, 2, (Option.some Jvm.ClassFile.FieldType.boolean)),
  (⟨"BestMenDuel$YearsReader", "takesTest", "(II)Z"⟩, prog_12_method_6_code, 3, (Option.some Jvm.ClassFile.FieldType.boolean)),
  (⟨"BestMenDuel$YearsReader", "takesCompare", "(I)Z"⟩, prog_12_method_7_code, 2, (Option.some Jvm.ClassFile.FieldType.boolean)),
  (⟨"BestMenDuel$YearsReader", "takesNumber", "(III)Z"⟩, prog_12_method_8_code, 4, (Option.some Jvm.ClassFile.FieldType.boolean)),
  (⟨"BestMenDuel$YearsReader", "takesMan", "()I"⟩, prog_12_method_9_code, 2, (Option.some Jvm.ClassFile.FieldType.int)),
  (⟨"BestMenDuel$YearsReader", "takesThing", "()I"⟩, prog_12_method_10_code, 2, (Option.some Jvm.ClassFile.FieldType.int)),
  (⟨"BestMenDuel", "<init>", "()V"⟩, prog_1_method_1_code, 2, (Option.none : Option Jvm.ClassFile.FieldType)),
  (⟨"BestMenDuel", "status", "()I"⟩, prog_1_method_2_code, 1, (Option.some Jvm.ClassFile.FieldType.int)),
  (⟨"BestMenDuel", "top", "()J"⟩, prog_1_method_3_code, 1, (Option.some Jvm.ClassFile.FieldType.long)),
  (⟨"BestMenDuel", "bottom", "()J"⟩, prog_1_method_4_code, 1, (Option.some Jvm.ClassFile.FieldType.long)),
  (⟨"BestMenDuel", "tray", "(III)Z"⟩, prog_1_method_5_code, 4, (Option.some Jvm.ClassFile.FieldType.boolean)),
  (⟨"BestMenDuel", "write", "(IIJ)Z"⟩, prog_1_method_6_code, 6, (Option.some Jvm.ClassFile.FieldType.boolean)),
  (⟨"BestMenDuel", "read", "(II)J"⟩, prog_1_method_7_code, 4, (Option.some Jvm.ClassFile.FieldType.long)),
  (⟨"BestMenDuel", "pour", "(IIIII)Z"⟩, prog_1_method_8_code, 6, (Option.some Jvm.ClassFile.FieldType.boolean)),
  (⟨"BestMenDuel", "feed", "(IIIII)I"⟩, prog_1_method_9_code, 6, (Option.some Jvm.ClassFile.FieldType.int)),
  (⟨"BestMenDuel", "dawn", "(I)I"⟩, prog_1_method_10_code, 3, (Option.some Jvm.ClassFile.FieldType.int)),
  (⟨"BestMenDuel", "years", "(I)I"⟩, prog_1_method_11_code, 3, (Option.some Jvm.ClassFile.FieldType.int)),
  (⟨"BestMenDuel", "fault", "(I)I"⟩, prog_1_method_12_code, 2, (Option.some Jvm.ClassFile.FieldType.int)),
  (⟨"BestMenDuel", "told", "(I)I"⟩, prog_1_method_13_code, 2, (Option.some Jvm.ClassFile.FieldType.int)),
  (⟨"BestMenDuel", "thing", "(II)I"⟩, prog_1_method_14_code, 3, (Option.some Jvm.ClassFile.FieldType.int)),
  (⟨"BestMenDuel", "holder", "(I)I"⟩, prog_1_method_15_code, 2, (Option.some Jvm.ClassFile.FieldType.int)),
  (⟨"BestMenDuel", "man", "(II)I"⟩, prog_1_method_16_code, 3, (Option.some Jvm.ClassFile.FieldType.int)),
  (⟨"BestMenDuel", "holds", "(I)I"⟩, prog_1_method_17_code, 2, (Option.some Jvm.ClassFile.FieldType.int)),
  (⟨"BestMenDuel", "won", "(II)I"⟩, prog_1_method_18_code, 3, (Option.some Jvm.ClassFile.FieldType.int)),
  (⟨"BestMenDuel", "duel", "(I)I"⟩, prog_1_method_19_code, 2, (Option.some Jvm.ClassFile.FieldType.int)),
  (⟨"BestMenDuel", "meet", "(II)I"⟩, prog_1_method_20_code, 3, (Option.some Jvm.ClassFile.FieldType.int)),
  (⟨"BestMenDuel", "act", "(I)I"⟩, prog_1_method_21_code, 2, (Option.some Jvm.ClassFile.FieldType.int)),
  (⟨"BestMenDuel", "part", "()I"⟩, prog_1_method_22_code, 2, (Option.some Jvm.ClassFile.FieldType.int)),
  (⟨"BestMenDuel", "give", "(II)Z"⟩, prog_1_method_23_code, 5, (Option.some Jvm.ClassFile.FieldType.boolean))]
def metas_3 : List MD := [(⟨"BestMenDuel", "mend", "(I)I"⟩, prog_1_method_24_code, 3, (Option.some Jvm.ClassFile.FieldType.int)),
  (⟨"BestMenDuel", "heal", "(II)I"⟩, prog_1_method_25_code, 3, (Option.some Jvm.ClassFile.FieldType.int)),
  (⟨"BestMenDuel", "train", "(II)Z"⟩, prog_1_method_26_code, 3, (Option.some Jvm.ClassFile.FieldType.boolean)),
  (⟨"BestMenDuel", "forge", "(III)I"⟩, prog_1_method_27_code, 4, (Option.some Jvm.ClassFile.FieldType.int)),
  (⟨"BestMenDuel", "rule", "(II)Z"⟩, prog_1_method_28_code, 4, (Option.some Jvm.ClassFile.FieldType.boolean)),
  (⟨"BestMenDuel", "acts", "()I"⟩, prog_1_method_29_code, 3, (Option.some Jvm.ClassFile.FieldType.int)),
  (⟨"BestMenDuel", "wound", "()I"⟩, prog_1_method_30_code, 1, (Option.some Jvm.ClassFile.FieldType.int)),
  (⟨"BestMenDuel", "value", "(I)I"⟩, prog_1_method_31_code, 2, (Option.some Jvm.ClassFile.FieldType.int)),
  (⟨"BestMenDuel", "move", "(I)I"⟩, prog_1_method_32_code, 2, (Option.some Jvm.ClassFile.FieldType.int)),
  (⟨"BestMenDuel", "forced", "()I"⟩, prog_1_method_33_code, 1, (Option.some Jvm.ClassFile.FieldType.int)),
  (⟨"BestMenDuel", "reached", "()I"⟩, prog_1_method_34_code, 2, (Option.some Jvm.ClassFile.FieldType.int)),
  (⟨"BestMenDuel", "needs", "(II)I"⟩, prog_1_method_35_code, 3, (Option.some Jvm.ClassFile.FieldType.int)),
  (⟨"BestMenDuel", "needsWith", "(III)I"⟩, prog_1_method_36_code, 4, (Option.some Jvm.ClassFile.FieldType.int)),
  (⟨"BestMenDuel", "gift", "(II)I"⟩, prog_1_method_37_code, 3, (Option.some Jvm.ClassFile.FieldType.int)),
  (⟨"BestMenDuel", "fair", "(III)I"⟩, prog_1_method_38_code, 5, (Option.some Jvm.ClassFile.FieldType.int)),
  (⟨"BestMenDuel", "arms", "(II)I"⟩, prog_1_method_39_code, 3, (Option.some Jvm.ClassFile.FieldType.int)),
  (⟨"BestMenDuel", "armOf", "(III)I"⟩, prog_1_method_40_code, 4, (Option.some Jvm.ClassFile.FieldType.int)),
  (⟨"BestMenDuel", "faster", "(III)Z"⟩, prog_1_method_41_code, 6, (Option.some Jvm.ClassFile.FieldType.boolean)),
  (⟨"BestMenDuel", "enough", "(III)Z"⟩, prog_1_method_42_code, 8, (Option.some Jvm.ClassFile.FieldType.boolean)),
  (⟨"BestMenDuel", "champion", "(I)I"⟩, prog_1_method_43_code, 2, (Option.some Jvm.ClassFile.FieldType.int)),
  (⟨"BestMenDuel", "heldBack", "(IIIII)I"⟩, prog_1_method_44_code, 7, (Option.some Jvm.ClassFile.FieldType.int)),
  (⟨"BestMenDuel", "fallen", "(IIII)I"⟩, prog_1_method_45_code, 6, (Option.some Jvm.ClassFile.FieldType.int)),
  (⟨"BestMenDuel", "hurts", "(I)I"⟩, prog_1_method_46_code, 6, (Option.some Jvm.ClassFile.FieldType.int)),
  (⟨"BestMenDuel", "least", "()I"⟩, prog_1_method_47_code, 1, (Option.some Jvm.ClassFile.FieldType.int)),
  (⟨"BestMenDuel", "leastAt", "(I)I"⟩, prog_1_method_48_code, 2, (Option.some Jvm.ClassFile.FieldType.int)),
  (⟨"BestMenDuel", "copyLife", "(I)I"⟩, prog_1_method_49_code, 3, (Option.some Jvm.ClassFile.FieldType.int)),
  (⟨"BestMenDuel", "live", "(I)I"⟩, prog_1_method_50_code, 2, (Option.some Jvm.ClassFile.FieldType.int)),
  (⟨"BestMenDuel", "lived", "(I)I"⟩, prog_1_method_51_code, 2, (Option.some Jvm.ClassFile.FieldType.int)),
  (⟨"BestMenDuel", "mean", "(II)Z"⟩, prog_1_method_52_code, 6, (Option.some Jvm.ClassFile.FieldType.boolean)),
  (⟨"BestMenDuel", "mark", "()I"⟩, prog_1_method_53_code, 1, (Option.some Jvm.ClassFile.FieldType.int)),
  (⟨"BestMenDuel", "undo", "()I"⟩, prog_1_method_54_code, 1, (Option.some Jvm.ClassFile.FieldType.int)),
  (⟨"BestMenDuel", "tell", "(I)I"⟩, prog_1_method_55_code, 2, (Option.some Jvm.ClassFile.FieldType.int)),
  (⟨"BestMenDuel", "tellFound", "(I)I"⟩, prog_1_method_56_code, 2, (Option.some Jvm.ClassFile.FieldType.int)),
  (⟨"BestMenDuel", "refuse", "(I)I"⟩, prog_1_method_57_code, 2, (Option.some Jvm.ClassFile.FieldType.int)),
  (⟨"BestMenDuel", "grant", "()Z"⟩, prog_1_method_58_code, 1, (Option.some Jvm.ClassFile.FieldType.boolean)),
  (⟨"BestMenDuel", "deny", "(I)Z"⟩, prog_1_method_59_code, 2, (Option.some Jvm.ClassFile.FieldType.boolean)),
  (⟨"BestMenDuel", "tellFraction", "(JJ)V"⟩, prog_1_method_60_code, 12, (Option.none : Option Jvm.ClassFile.FieldType)),
  (⟨"BestMenDuel", "putOnTape", "(I)V"⟩, prog_1_method_61_code, 3, (Option.none : Option Jvm.ClassFile.FieldType)),
  (⟨"BestMenDuel", "keepFault", "()V"⟩, prog_1_method_62_code, 1, (Option.none : Option Jvm.ClassFile.FieldType)),
  (⟨"BestMenDuel", "isThingOrNone", "(I)Z"⟩, prog_1_method_63_code, 2, (Option.some Jvm.ClassFile.FieldType.boolean)),
  (⟨"BestMenDuel", "asHeld", "(I)I"⟩, prog_1_method_64_code, 1, (Option.some Jvm.ClassFile.FieldType.int)),
  (⟨"BestMenDuel", "isSetOf", "(II)Z"⟩, prog_1_method_65_code, 2, (Option.some Jvm.ClassFile.FieldType.boolean)),
  (⟨"BestMenDuel", "isSetWithout", "(II)Z"⟩, prog_1_method_66_code, 3, (Option.some Jvm.ClassFile.FieldType.boolean)),
  (⟨"BestMenDuel", "hurtsOfTray", "(I)I"⟩, prog_1_method_67_code, 5, (Option.some Jvm.ClassFile.FieldType.int)),
  (⟨"BestMenDuel", "replay", "(IIII)I"⟩, prog_1_method_68_code, 8, (Option.some Jvm.ClassFile.FieldType.int)),
  (⟨"BestMenDuelModel", "<init>", "()V"⟩, prog_14_method_1_code, 1, (Option.none : Option Jvm.ClassFile.FieldType)),
  (⟨"BestMenDuelModel", "plain", "(I)V"⟩, prog_14_method_2_code, 3, (Option.none : Option Jvm.ClassFile.FieldType)),
  (⟨"BestMenDuelModel", "status", "()I"⟩, prog_14_method_3_code, 1, (Option.some Jvm.ClassFile.FieldType.int)),
  (⟨"BestMenDuelModel", "top", "()J"⟩, prog_14_method_4_code, 1, (Option.some Jvm.ClassFile.FieldType.long)),
  (⟨"BestMenDuelModel", "bottom", "()J"⟩, prog_14_method_5_code, 1, (Option.some Jvm.ClassFile.FieldType.long))]
def metas_4 : List MD := [(⟨"BestMenDuelModel", "is", "(I)Z"⟩, prog_14_method_6_code, 2, (Option.some Jvm.ClassFile.FieldType.boolean)),
  (⟨"BestMenDuelModel", "refuse", "(I)I"⟩, prog_14_method_7_code, 2, (Option.some Jvm.ClassFile.FieldType.int)),
  (⟨"BestMenDuelModel", "gives", "(I)I"⟩, prog_14_method_8_code, 2, (Option.some Jvm.ClassFile.FieldType.int)),
  (⟨"BestMenDuelModel", "orNone", "(I)I"⟩, prog_14_method_9_code, 2, (Option.some Jvm.ClassFile.FieldType.int)),
  (⟨"BestMenDuelModel", "tellsBy", "(JJ)Z"⟩, prog_14_method_10_code, 11, (Option.some Jvm.ClassFile.FieldType.boolean)),
  (⟨"BestMenDuelModel", "isTray", "(I)Z"⟩, prog_14_method_11_code, 1, (Option.some Jvm.ClassFile.FieldType.boolean)),
  (⟨"BestMenDuelModel", "cut", "(JI)J"⟩, prog_14_method_12_code, 3, (Option.some Jvm.ClassFile.FieldType.long)),
  (⟨"BestMenDuelModel", "tray", "(III)Z"⟩, prog_14_method_13_code, 5, (Option.some Jvm.ClassFile.FieldType.boolean)),
  (⟨"BestMenDuelModel", "wrongPlace", "(II)I"⟩, prog_14_method_14_code, 3, (Option.some Jvm.ClassFile.FieldType.int)),
  (⟨"BestMenDuelModel", "write", "(IIJ)Z"⟩, prog_14_method_15_code, 6, (Option.some Jvm.ClassFile.FieldType.boolean)),
  (⟨"BestMenDuelModel", "read", "(II)J"⟩, prog_14_method_16_code, 3, (Option.some Jvm.ClassFile.FieldType.long)),
  (⟨"BestMenDuelModel", "pour", "(IIIII)Z"⟩, prog_14_method_17_code, 8, (Option.some Jvm.ClassFile.FieldType.boolean)),
  (⟨"BestMenDuelModel", "isFrom", "(JJJ)Z"⟩, prog_14_method_18_code, 6, (Option.some Jvm.ClassFile.FieldType.boolean)),
  (⟨"BestMenDuelModel", "feed", "(IIIII)I"⟩, prog_14_method_19_code, 6, (Option.some Jvm.ClassFile.FieldType.int)),
  (⟨"BestMenDuelModel", "four", "(I)V"⟩, prog_14_method_20_code, 3, (Option.none : Option Jvm.ClassFile.FieldType)),
  (⟨"BestMenDuelModel", "byteAt", "(I)I"⟩, prog_14_method_21_code, 2, (Option.some Jvm.ClassFile.FieldType.int)),
  (⟨"BestMenDuelModel", "isSmall", "(I)Z"⟩, prog_14_method_22_code, 1, (Option.some Jvm.ClassFile.FieldType.boolean)),
  (⟨"BestMenDuelModel", "isDigit", "(I)Z"⟩, prog_14_method_23_code, 1, (Option.some Jvm.ClassFile.FieldType.boolean)),
  (⟨"BestMenDuelModel", "ahead", "()V"⟩, prog_14_method_24_code, 2, (Option.none : Option Jvm.ClassFile.FieldType)),
  (⟨"BestMenDuelModel", "isSign", "(I)Z"⟩, prog_14_method_25_code, 2, (Option.some Jvm.ClassFile.FieldType.boolean)),
  (⟨"BestMenDuelModel", "inWords", "(Ljava/lang/String;)I"⟩, prog_14_method_26_code, 7, (Option.some Jvm.ClassFile.FieldType.int)),
  (⟨"BestMenDuelModel", "fails", "(I)Z"⟩, prog_14_method_27_code, 2, (Option.some Jvm.ClassFile.FieldType.boolean)),
  (⟨"BestMenDuelModel", "begins", "(II)Z"⟩, prog_14_method_28_code, 4, (Option.some Jvm.ClassFile.FieldType.boolean)),
  (⟨"BestMenDuelModel", "wantSign", "(I)Z"⟩, prog_14_method_29_code, 2, (Option.some Jvm.ClassFile.FieldType.boolean)),
  (⟨"BestMenDuelModel", "wantWord", "(Ljava/lang/String;I)Z"⟩, prog_14_method_30_code, 3, (Option.some Jvm.ClassFile.FieldType.boolean)),
  (⟨"BestMenDuelModel", "number", "(III)Z"⟩, prog_14_method_31_code, 4, (Option.some Jvm.ClassFile.FieldType.boolean)),
  (⟨"BestMenDuelModel", "isName", "(Ljava/lang/String;)Z"⟩, prog_14_method_32_code, 2, (Option.some Jvm.ClassFile.FieldType.boolean)),
  (⟨"BestMenDuelModel", "nameHere", "()J"⟩, prog_14_method_33_code, 4, (Option.some Jvm.ClassFile.FieldType.long)),
  (⟨"BestMenDuelModel", "findHere", "(II)I"⟩, prog_14_method_34_code, 4, (Option.some Jvm.ClassFile.FieldType.int)),
  (⟨"BestMenDuelModel", "fault", "(I)I"⟩, prog_14_method_35_code, 2, (Option.some Jvm.ClassFile.FieldType.int)),
  (⟨"BestMenDuelModel", "taken", "(I)I"⟩, prog_14_method_36_code, 2, (Option.some Jvm.ClassFile.FieldType.int)),
  (⟨"BestMenDuelModel", "thingRow", "(I)I"⟩, prog_14_method_37_code, 1, (Option.some Jvm.ClassFile.FieldType.int)),
  (⟨"BestMenDuelModel", "manRow", "(I)I"⟩, prog_14_method_38_code, 1, (Option.some Jvm.ClassFile.FieldType.int)),
  (⟨"BestMenDuelModel", "isThere", "(I)Z"⟩, prog_14_method_39_code, 2, (Option.some Jvm.ClassFile.FieldType.boolean)),
  (⟨"BestMenDuelModel", "newOne", "(III)Z"⟩, prog_14_method_40_code, 4, (Option.some Jvm.ClassFile.FieldType.boolean)),
  (⟨"BestMenDuelModel", "oldOne", "(III)Z"⟩, prog_14_method_41_code, 4, (Option.some Jvm.ClassFile.FieldType.boolean)),
  (⟨"BestMenDuelModel", "aThing", "()Z"⟩, prog_14_method_42_code, 2, (Option.some Jvm.ClassFile.FieldType.boolean)),
  (⟨"BestMenDuelModel", "newHolding", "(I)Z"⟩, prog_14_method_43_code, 4, (Option.some Jvm.ClassFile.FieldType.boolean)),
  (⟨"BestMenDuelModel", "aMan", "()Z"⟩, prog_14_method_44_code, 2, (Option.some Jvm.ClassFile.FieldType.boolean)),
  (⟨"BestMenDuelModel", "dawnPart", "()Z"⟩, prog_14_method_45_code, 3, (Option.some Jvm.ClassFile.FieldType.boolean)),
  (⟨"BestMenDuelModel", "dawn", "(I)I"⟩, prog_14_method_46_code, 4, (Option.some Jvm.ClassFile.FieldType.int)),
  (⟨"BestMenDuelModel", "manTo", "(I)Z"⟩, prog_14_method_47_code, 2, (Option.some Jvm.ClassFile.FieldType.boolean)),
  (⟨"BestMenDuelModel", "test", "(I)Z"⟩, prog_14_method_48_code, 3, (Option.some Jvm.ClassFile.FieldType.boolean)),
  (⟨"BestMenDuelModel", "yearOrder", "(II)Z"⟩, prog_14_method_49_code, 3, (Option.some Jvm.ClassFile.FieldType.boolean)),
  (⟨"BestMenDuelModel", "yearStep", "()Z"⟩, prog_14_method_50_code, 6, (Option.some Jvm.ClassFile.FieldType.boolean)),
  (⟨"BestMenDuelModel", "years", "(I)I"⟩, prog_14_method_51_code, 4, (Option.some Jvm.ClassFile.FieldType.int)),
  (⟨"BestMenDuelModel", "isThing", "(I)Z"⟩, prog_14_method_52_code, 2, (Option.some Jvm.ClassFile.FieldType.boolean)),
  (⟨"BestMenDuelModel", "isMan", "(I)Z"⟩, prog_14_method_53_code, 2, (Option.some Jvm.ClassFile.FieldType.boolean)),
  (⟨"BestMenDuelModel", "areTwo", "(II)Z"⟩, prog_14_method_54_code, 3, (Option.some Jvm.ClassFile.FieldType.boolean)),
  (⟨"BestMenDuelModel", "areMen", "(I)Z"⟩, prog_14_method_55_code, 2, (Option.some Jvm.ClassFile.FieldType.boolean))]
def metas_5 : List MD := [(⟨"BestMenDuelModel", "isIn", "(II)Z"⟩, prog_14_method_56_code, 3, (Option.some Jvm.ClassFile.FieldType.boolean)),
  (⟨"BestMenDuelModel", "thingOf", "(II)I"⟩, prog_14_method_57_code, 3, (Option.some Jvm.ClassFile.FieldType.int)),
  (⟨"BestMenDuelModel", "manOf", "(II)I"⟩, prog_14_method_58_code, 3, (Option.some Jvm.ClassFile.FieldType.int)),
  (⟨"BestMenDuelModel", "isBroken", "(I)Z"⟩, prog_14_method_59_code, 2, (Option.some Jvm.ClassFile.FieldType.boolean)),
  (⟨"BestMenDuelModel", "isArmed", "(I)Z"⟩, prog_14_method_60_code, 2, (Option.some Jvm.ClassFile.FieldType.boolean)),
  (⟨"BestMenDuelModel", "reachOf", "(I)I"⟩, prog_14_method_61_code, 2, (Option.some Jvm.ClassFile.FieldType.int)),
  (⟨"BestMenDuelModel", "blowOf", "(I)I"⟩, prog_14_method_62_code, 2, (Option.some Jvm.ClassFile.FieldType.int)),
  (⟨"BestMenDuelModel", "holderOf", "(I)I"⟩, prog_14_method_63_code, 3, (Option.some Jvm.ClassFile.FieldType.int)),
  (⟨"BestMenDuelModel", "wonBy", "(I)I"⟩, prog_14_method_64_code, 4, (Option.some Jvm.ClassFile.FieldType.int)),
  (⟨"BestMenDuelModel", "wonAgainst", "(I)I"⟩, prog_14_method_65_code, 4, (Option.some Jvm.ClassFile.FieldType.int)),
  (⟨"BestMenDuelModel", "allWon", "()I"⟩, prog_14_method_66_code, 3, (Option.some Jvm.ClassFile.FieldType.int)),
  (⟨"BestMenDuelModel", "setOf", "(I)I"⟩, prog_14_method_67_code, 5, (Option.some Jvm.ClassFile.FieldType.int)),
  (⟨"BestMenDuelModel", "told", "(I)I"⟩, prog_14_method_68_code, 2, (Option.some Jvm.ClassFile.FieldType.int)),
  (⟨"BestMenDuelModel", "thing", "(II)I"⟩, prog_14_method_69_code, 3, (Option.some Jvm.ClassFile.FieldType.int)),
  (⟨"BestMenDuelModel", "holder", "(I)I"⟩, prog_14_method_70_code, 2, (Option.some Jvm.ClassFile.FieldType.int)),
  (⟨"BestMenDuelModel", "man", "(II)I"⟩, prog_14_method_71_code, 3, (Option.some Jvm.ClassFile.FieldType.int)),
  (⟨"BestMenDuelModel", "holds", "(I)I"⟩, prog_14_method_72_code, 2, (Option.some Jvm.ClassFile.FieldType.int)),
  (⟨"BestMenDuelModel", "won", "(II)I"⟩, prog_14_method_73_code, 3, (Option.some Jvm.ClassFile.FieldType.int)),
  (⟨"BestMenDuelModel", "isDuel", "()Z"⟩, prog_14_method_74_code, 1, (Option.some Jvm.ClassFile.FieldType.boolean)),
  (⟨"BestMenDuelModel", "near", "()I"⟩, prog_14_method_75_code, 1, (Option.some Jvm.ClassFile.FieldType.int)),
  (⟨"BestMenDuelModel", "turn", "()I"⟩, prog_14_method_76_code, 1, (Option.some Jvm.ClassFile.FieldType.int)),
  (⟨"BestMenDuelModel", "actor", "()I"⟩, prog_14_method_77_code, 1, (Option.some Jvm.ClassFile.FieldType.int)),
  (⟨"BestMenDuelModel", "duel", "(I)I"⟩, prog_14_method_78_code, 2, (Option.some Jvm.ClassFile.FieldType.int)),
  (⟨"BestMenDuelModel", "meets", "(II)Z"⟩, prog_14_method_79_code, 3, (Option.some Jvm.ClassFile.FieldType.boolean)),
  (⟨"BestMenDuelModel", "meet", "(II)I"⟩, prog_14_method_80_code, 3, (Option.some Jvm.ClassFile.FieldType.int)),
  (⟨"BestMenDuelModel", "canAct", "(I)Z"⟩, prog_14_method_81_code, 2, (Option.some Jvm.ClassFile.FieldType.boolean)),
  (⟨"BestMenDuelModel", "woundNow", "()I"⟩, prog_14_method_82_code, 1, (Option.some Jvm.ClassFile.FieldType.int)),
  (⟨"BestMenDuelModel", "strikes", "()I"⟩, prog_14_method_83_code, 4, (Option.some Jvm.ClassFile.FieldType.int)),
  (⟨"BestMenDuelModel", "ends", "()V"⟩, prog_14_method_84_code, 1, (Option.none : Option Jvm.ClassFile.FieldType)),
  (⟨"BestMenDuelModel", "acts0", "(I)I"⟩, prog_14_method_85_code, 6, (Option.some Jvm.ClassFile.FieldType.int)),
  (⟨"BestMenDuelModel", "act", "(I)I"⟩, prog_14_method_86_code, 3, (Option.some Jvm.ClassFile.FieldType.int)),
  (⟨"BestMenDuelModel", "part", "()I"⟩, prog_14_method_87_code, 1, (Option.some Jvm.ClassFile.FieldType.int)),
  (⟨"BestMenDuelModel", "acts", "()I"⟩, prog_14_method_88_code, 3, (Option.some Jvm.ClassFile.FieldType.int)),
  (⟨"BestMenDuelModel", "wound", "()I"⟩, prog_14_method_89_code, 1, (Option.some Jvm.ClassFile.FieldType.int)),
  (⟨"BestMenDuelModel", "give", "(II)Z"⟩, prog_14_method_90_code, 4, (Option.some Jvm.ClassFile.FieldType.boolean)),
  (⟨"BestMenDuelModel", "mend", "(I)I"⟩, prog_14_method_91_code, 3, (Option.some Jvm.ClassFile.FieldType.int)),
  (⟨"BestMenDuelModel", "heals", "(II)Z"⟩, prog_14_method_92_code, 4, (Option.some Jvm.ClassFile.FieldType.boolean)),
  (⟨"BestMenDuelModel", "heal", "(II)I"⟩, prog_14_method_93_code, 3, (Option.some Jvm.ClassFile.FieldType.int)),
  (⟨"BestMenDuelModel", "train", "(II)Z"⟩, prog_14_method_94_code, 3, (Option.some Jvm.ClassFile.FieldType.boolean)),
  (⟨"BestMenDuelModel", "forge", "(III)I"⟩, prog_14_method_95_code, 5, (Option.some Jvm.ClassFile.FieldType.int)),
  (⟨"BestMenDuelModel", "rule", "(II)Z"⟩, prog_14_method_96_code, 3, (Option.some Jvm.ClassFile.FieldType.boolean)),
  (⟨"BestMenDuelModel", "keeps", "(I)V"⟩, prog_14_method_97_code, 3, (Option.none : Option Jvm.ClassFile.FieldType)),
  (⟨"BestMenDuelModel", "restores", "(I)V"⟩, prog_14_method_98_code, 3, (Option.none : Option Jvm.ClassFile.FieldType)),
  (⟨"BestMenDuelModel", "levelAt", "(I)I"⟩, prog_14_method_99_code, 1, (Option.some Jvm.ClassFile.FieldType.int)),
  (⟨"BestMenDuelModel", "settles", "(IIZ)V"⟩, prog_14_method_100_code, 4, (Option.none : Option Jvm.ClassFile.FieldType)),
  (⟨"BestMenDuelModel", "plays", "(IZ)I"⟩, prog_14_method_101_code, 9, (Option.some Jvm.ClassFile.FieldType.int)),
  (⟨"BestMenDuelModel", "value", "(I)I"⟩, prog_14_method_102_code, 2, (Option.some Jvm.ClassFile.FieldType.int)),
  (⟨"BestMenDuelModel", "move", "(I)I"⟩, prog_14_method_103_code, 2, (Option.some Jvm.ClassFile.FieldType.int)),
  (⟨"BestMenDuelModel", "forced", "()I"⟩, prog_14_method_104_code, 2, (Option.some Jvm.ClassFile.FieldType.int)),
  (⟨"BestMenDuelModel", "reached", "()I"⟩, prog_14_method_105_code, 3, (Option.some Jvm.ClassFile.FieldType.int))]
def metas_6 : List MD := [(⟨"BestMenDuelModel", "needsBy", "(III)I"⟩, prog_14_method_106_code, 9, (Option.some Jvm.ClassFile.FieldType.int)),
  (⟨"BestMenDuelModel", "needsNow", "(II)I"⟩, prog_14_method_107_code, 3, (Option.some Jvm.ClassFile.FieldType.int)),
  (⟨"BestMenDuelModel", "orNever", "(I)I"⟩, prog_14_method_108_code, 2, (Option.some Jvm.ClassFile.FieldType.int)),
  (⟨"BestMenDuelModel", "needs", "(II)I"⟩, prog_14_method_109_code, 3, (Option.some Jvm.ClassFile.FieldType.int)),
  (⟨"BestMenDuelModel", "needsWith", "(III)I"⟩, prog_14_method_110_code, 4, (Option.some Jvm.ClassFile.FieldType.int)),
  (⟨"BestMenDuelModel", "gift", "(II)I"⟩, prog_14_method_111_code, 7, (Option.some Jvm.ClassFile.FieldType.int)),
  (⟨"BestMenDuelModel", "laysFair", "(II)V"⟩, prog_14_method_112_code, 8, (Option.none : Option Jvm.ClassFile.FieldType)),
  (⟨"BestMenDuelModel", "fair", "(III)I"⟩, prog_14_method_113_code, 4, (Option.some Jvm.ClassFile.FieldType.int)),
  (⟨"BestMenDuelModel", "bestArms", "(IIII)I"⟩, prog_14_method_114_code, 7, (Option.some Jvm.ClassFile.FieldType.int)),
  (⟨"BestMenDuelModel", "laysArms", "(II)I"⟩, prog_14_method_115_code, 6, (Option.some Jvm.ClassFile.FieldType.int)),
  (⟨"BestMenDuelModel", "areArmed", "(II)Z"⟩, prog_14_method_116_code, 3, (Option.some Jvm.ClassFile.FieldType.boolean)),
  (⟨"BestMenDuelModel", "arms", "(II)I"⟩, prog_14_method_117_code, 3, (Option.some Jvm.ClassFile.FieldType.int)),
  (⟨"BestMenDuelModel", "armOf", "(III)I"⟩, prog_14_method_118_code, 7, (Option.some Jvm.ClassFile.FieldType.int)),
  (⟨"BestMenDuelModel", "faster", "(III)Z"⟩, prog_14_method_119_code, 8, (Option.some Jvm.ClassFile.FieldType.boolean)),
  (⟨"BestMenDuelModel", "enough", "(III)Z"⟩, prog_14_method_120_code, 9, (Option.some Jvm.ClassFile.FieldType.boolean)),
  (⟨"BestMenDuelModel", "champion", "(I)I"⟩, prog_14_method_121_code, 5, (Option.some Jvm.ClassFile.FieldType.int)),
  (⟨"BestMenDuelModel", "wrongActs", "(II)I"⟩, prog_14_method_122_code, 4, (Option.some Jvm.ClassFile.FieldType.int)),
  (⟨"BestMenDuelModel", "goesThrough", "(IIII)Z"⟩, prog_14_method_123_code, 8, (Option.some Jvm.ClassFile.FieldType.boolean)),
  (⟨"BestMenDuelModel", "heldBack", "(IIIII)I"⟩, prog_14_method_124_code, 7, (Option.some Jvm.ClassFile.FieldType.int)),
  (⟨"BestMenDuelModel", "fallen", "(IIII)I"⟩, prog_14_method_125_code, 6, (Option.some Jvm.ClassFile.FieldType.int)),
  (⟨"BestMenDuelModel", "hurts", "(I)I"⟩, prog_14_method_126_code, 7, (Option.some Jvm.ClassFile.FieldType.int)),
  (⟨"BestMenDuelModel", "hurtsOf", "(II)I"⟩, prog_14_method_127_code, 5, (Option.some Jvm.ClassFile.FieldType.int)),
  (⟨"BestMenDuelModel", "laysLeast", "()V"⟩, prog_14_method_128_code, 4, (Option.none : Option Jvm.ClassFile.FieldType)),
  (⟨"BestMenDuelModel", "least", "()I"⟩, prog_14_method_129_code, 1, (Option.some Jvm.ClassFile.FieldType.int)),
  (⟨"BestMenDuelModel", "leastAt", "(I)I"⟩, prog_14_method_130_code, 5, (Option.some Jvm.ClassFile.FieldType.int)),
  (⟨"BestMenDuelModel", "copyLife", "(I)I"⟩, prog_14_method_131_code, 3, (Option.some Jvm.ClassFile.FieldType.int)),
  (⟨"BestMenDuelModel", "draw", "(I)I"⟩, prog_14_method_132_code, 2, (Option.some Jvm.ClassFile.FieldType.int)),
  (⟨"BestMenDuelModel", "actsBy", "(I)Z"⟩, prog_14_method_133_code, 2, (Option.some Jvm.ClassFile.FieldType.boolean)),
  (⟨"BestMenDuelModel", "does", "(I)Z"⟩, prog_14_method_134_code, 3, (Option.some Jvm.ClassFile.FieldType.boolean)),
  (⟨"BestMenDuelModel", "isSo", "(I)Z"⟩, prog_14_method_135_code, 4, (Option.some Jvm.ClassFile.FieldType.boolean)),
  (⟨"BestMenDuelModel", "behindEnds", "(I)I"⟩, prog_14_method_136_code, 5, (Option.some Jvm.ClassFile.FieldType.int)),
  (⟨"BestMenDuelModel", "lives", "(I)V"⟩, prog_14_method_137_code, 4, (Option.none : Option Jvm.ClassFile.FieldType)),
  (⟨"BestMenDuelModel", "live", "(I)I"⟩, prog_14_method_138_code, 3, (Option.some Jvm.ClassFile.FieldType.int)),
  (⟨"BestMenDuelModel", "lived", "(I)I"⟩, prog_14_method_139_code, 2, (Option.some Jvm.ClassFile.FieldType.int)),
  (⟨"BestMenDuelModel", "mean", "(II)Z"⟩, prog_14_method_140_code, 6, (Option.some Jvm.ClassFile.FieldType.boolean)),
  (⟨"BestMenDuelModel", "copies", "(II)V"⟩, prog_14_method_141_code, 4, (Option.none : Option Jvm.ClassFile.FieldType)),
  (⟨"BestMenDuelModel", "mark", "()I"⟩, prog_14_method_142_code, 1, (Option.some Jvm.ClassFile.FieldType.int)),
  (⟨"BestMenDuelModel", "undo", "()I"⟩, prog_14_method_143_code, 1, (Option.some Jvm.ClassFile.FieldType.int)),
  (⟨"BestMenDuelLaw", "law", "([I)Z"⟩, code, 4, (Option.some Jvm.ClassFile.FieldType.boolean)),
  (⟨"java/lang/Integer", "bitCount", "(I)I"⟩, prog_15_method_49_code, 1, (Option.some Jvm.ClassFile.FieldType.int)),
  (⟨"java/lang/Math", "abs", "(I)I"⟩, prog_16_method_59_code, 1, (Option.some Jvm.ClassFile.FieldType.int)),
  (⟨"java/lang/Math", "max", "(II)I"⟩, prog_16_method_65_code, 2, (Option.some Jvm.ClassFile.FieldType.int)),
  (⟨"java/lang/Math", "min", "(II)I"⟩, prog_16_method_69_code, 2, (Option.some Jvm.ClassFile.FieldType.int)),
  (⟨"java/lang/String", "length", "()I"⟩, prog_17_method_54_code, 1, (Option.some Jvm.ClassFile.FieldType.int)),
  (⟨"java/lang/String", "charAt", "(I)C"⟩, prog_17_method_56_code, 2, (Option.some Jvm.ClassFile.FieldType.char)),
  (⟨"java/lang/String", "coder", "()B"⟩, prog_17_method_152_code, 1, (Option.some Jvm.ClassFile.FieldType.byte)),
  (⟨"java/lang/String", "isLatin1", "()Z"⟩, prog_17_method_154_code, 1, (Option.some Jvm.ClassFile.FieldType.boolean)),
  (⟨"java/lang/String", "checkIndex", "(II)V"⟩, prog_17_method_155_code, 2, (Option.none : Option Jvm.ClassFile.FieldType)),
  (⟨"java/lang/StringLatin1", "charAt", "([BI)C"⟩, prog_18_method_2_code, 2, (Option.some Jvm.ClassFile.FieldType.char)),
  (⟨"jdk/internal/util/Preconditions", "checkIndex", "(IILjava/util/function/BiFunction;)I"⟩, prog_21_method_11_code, 3, (Option.some Jvm.ClassFile.FieldType.int))]
def metas : List MD := metas_0 ++ (metas_1 ++ (metas_2 ++ (metas_3 ++ (metas_4 ++ (metas_5 ++ (metas_6))))))
end
section
/-! THE TIE: what the abstract cells are on the machine's heap; what is given of a state; kept by calls -/
abbrev GG : Type := (Nat → ClassId) × (Nat → Nat → Nat) × (Nat → ClassId) × (Int → Value) × Nat × Nat × (Nat → Int32)
abbrev gD (G : GG) : va_G := (G.1, G.2.1)
abbrev gC (G : GG) : Nat → ClassId := G.2.2.1
abbrev gR (G : GG) : Int → Value := G.2.2.2.1
abbrev gz (G : GG) : Nat := G.2.2.2.2.1
abbrev gL (G : GG) : Nat := G.2.2.2.2.2.1
abbrev gx (G : GG) : Nat → Int32 := G.2.2.2.2.2.2
def gX (G : GG) : Xs := (gL G, fun j => (gx G j).toInt)
def gA (G : GG) : Nat → Prop := fun q => gz G ≤ q
def TG : List Cond := lw_tbl.filter goodWord
def tyC (ci : Nat) : Nat → FieldType := match ci with
  | 0 => tyX0
  | 1 => tyX1
  | 2 => tyX2
  | 3 => tyX3
  | 4 => tyX4
  | 5 => tyX5
  | 6 => tyX7
  | 7 => tyX8
  | 8 => tyX9
  | 9 => tyX10
  | 10 => tyX11
  | _ => tyX12
def tagF (t : FieldType) : Nat := match t with
  | .long => 1
  | .object _ => 2
  | .array _ => 2
  | .boolean => 3
  | _ => 0
def adr (z : Nat) (r : Int) : Nat := z + (r.toNat - 1)
def cvR (z : Nat) (r : Int) : Option Nat := if r ≤ 0 then none else some (adr z r)
def fV (z t : Nat) (x : Int) : Value := match t with
  | 1 => .long (Int64.ofInt x)
  | 2 => va_rf (cvR z x)
  | _ => .int (Int32.ofInt x)
def cellG (G : GG) (q : Nat × Nat) (f : Nat → Int) : va_E :=
  if q.1 < 12 then .inr (q.1, (List.range q.2).map fun j => fV (gz G) (tagF (tyC q.1 j)) (f j))
  else if q.1 = 21 then .inl (gC G 21, q.2, .inr (.inl fun j => Int64.ofInt (f j)))
  else if q.1 = 24 then .inl (gC G 24, q.2, .inr (.inr (.inr (.inr fun j => cvR (gz G) (f j)))))
  else if q.1 = 25 then .inl (gC G 25, q.2, .inr (.inr (.inr (.inr fun j => cvR (gz G) (f j)))))
  else .inl (gC G q.1, q.2, .inl fun j => Int32.ofInt (f j))
def tysG (G : GG) : List (ClassId × FieldType) := [(gC G 20, .int), (gC G 21, .long), (gC G 22, .byte), (gC G 23, .short), (gC G 24, .object "BestMenDuel$Dawn"), (gC G 25, .array .long)]
def wsG (G : GG) (S : Sh) (h : Mem) : va_W := (List.range (S.length - 1)).map fun k => (gz G + k, cellG G (S.getD (k + 1) (99, 0)) (h (k + 1)))
def okI (x : Int) : Prop := -2147483648 ≤ x ∧ x < 2147483648
def okJ (x : Int) : Prop := -9223372036854775808 ≤ x ∧ x < 9223372036854775808
def okT (n : Nat) (t : Nat) (x : Int) : Prop := match t with
  | 1 => okJ x
  | 2 => 0 ≤ x ∧ x < (n : Int)
  | 3 => x = 0 ∨ x = 1
  | 22 => -128 ≤ x ∧ x < 128
  | 23 => -32768 ≤ x ∧ x < 32768
  | _ => okI x
def tgK (kn j : Nat) : Nat := if kn < 12 then tagF (tyC kn j) else if kn = 21 then 1 else if kn = 24 ∨ kn = 25 then 2 else if kn = 22 then 22 else if kn = 23 then 23 else 0
def okS (S : Sh) : Prop := S[0]? = some (99, 0) ∧ ∀ (k : Nat) (q : Nat × Nat), 0 < k → S[k]? = some q → (q.1 < 12 ∧ (vwCl[q.1]?).map (fun r => r.2.2) = some q.2) ∨ (20 ≤ q.1 ∧ q.1 ≤ 25 ∧ q.2 ≤ 100000)
def okM (S : Sh) (h : Mem) : Prop := (∀ (k : Nat) (q : Nat × Nat), S[k]? = some q → ∀ j, j < q.2 → okT S.length (tgK q.1 j) (h k j)) ∧ ∀ k, S.length ≤ k → ∀ j, h k j = 0
def Rel (G : GG) (S : Sh) (h : Mem) (H : Heap) : Prop := okS S ∧ okM S h ∧ va_P (gD G) vwCl (wsG G S h) H
def cv (G : GG) (v : AV) : Value := match v with
  | .inl x => .int (Int32.ofInt x)
  | .inr (.inl x) => .long (Int64.ofInt x)
  | .inr (.inr r) => if r < 0 then gR G r else if r = 0 then .null else .ref (adr (gz G) r)
def okV (S : Sh) (v : AV) : Prop := match v with
  | .inl x => okI x
  | .inr (.inl x) => okJ x
  | .inr (.inr r) => r < (S.length : Int) ∧ (r < 0 → -10 ≤ r ∧ r ≤ -2)
def roStat (G : GG) (s : State) (r : Int) (nm : String) (l : List Int) : Prop := ∃ t : Nat, gR G r = .ref t ∧ va_Z "BestMenDuel" nm "[I" (.ref t) (gA G) s s.heap ∧ va_T .int t 4 (fun j => .int (Int32.ofInt (l.getD j 0))) (gA G) s s.heap
def roStr (G : GG) (s : State) (ro rb : Int) (own : String) (idx : Nat) (tx : String) (l : List Int) : Prop := ∃ q t : Nat, gR G ro = .ref q ∧ gR G rb = .ref t ∧ vk_R own idx tx q s ∧ va_O "java/lang/String" q (gA G) s s.heap ∧ va_OF "java/lang/String" "value" "[B" (.ref t) q (gA G) s s.heap ∧ va_OF "java/lang/String" "coder" "B" (.int 0) q (gA G) s s.heap ∧ va_T .byte t l.length (fun j => .int (Int32.ofInt (l.getD j 0))) (gA G) s s.heap
def txW : String := "long sun glare odds thing reach weight breaks man strength life holds meet rest go back strike heal any when near broken fights loop end stop "
def txK : String := " long sun glare odds thing man reach weight breaks strength life holds meet rest go back strike heal any when loop end stop near broken fights "
def roGet (G : GG) (s : State) : Prop := va_Z "java/lang/String" "COMPACT_STRINGS" "Z" (.int 1) (gA G) s s.heap ∧ va_Z "jdk/internal/util/Preconditions" "SIOOBE_FORMATTER" "Ljava/util/function/BiFunction;" (gR G (-10)) (gA G) s s.heap ∧ ∃ o : Option Nat, gR G (-10) = va_rf o
def roNest (s : State) : Prop := va_Nw (.fieldLinkNest "BestMenDuel$Dawn" 66 "BestMenDuel" "RULE_USUAL" "[I" "BestMenDuel") s ∧ va_Nw (.fieldLinkNest "BestMenDuel$DawnReader" 60 "BestMenDuel" "RULE_LOW" "[I" "BestMenDuel") s ∧ va_Nw (.fieldLinkNest "BestMenDuel$DawnReader" 64 "BestMenDuel" "RULE_HIGH" "[I" "BestMenDuel") s ∧ va_Nw (.fieldLinkNest "BestMenDuel$YearsReader" 108 "BestMenDuel" "RULE_HIGH" "[I" "BestMenDuel") s
def CX (G : GG) (s : State) : Prop := va_K (gD G) vwCl (tysG G) s ∧ gz G ≤ s.heap.size ∧ (∃ b : Nat, gR G (-2) = .ref b ∧ b < gz G ∧ va_X b (gL G) (gx G) s s.heap) ∧ gL G ≤ 3072 ∧
  roStat G s (-3) "RULE_LOW" [2, 0, 0, 0] ∧ roStat G s (-4) "RULE_HIGH" [12, 99, 9, 16] ∧ roStat G s (-5) "RULE_USUAL" [6, 0, 2, 2] ∧ roStr G s (-8) (-6) "BestMenDuel$Tokens" 29 txW am_words ∧ roStr G s (-9) (-7) "BestMenDuelModel" 183 txK am_keys ∧ roGet G s ∧ roNest s ∧ va_AO "BestMenDuel$Dawn" s
theorem va_O_kept {E : String} {t : Nat} {A : Nat → Prop} {U : State} {H H1 : Heap} (h : va_O E t A U H) (hq : ∀ a : Nat, a < H.size → ¬ A a → H1[a]? = H[a]?) : va_O E t A U H1 := by
  obtain ⟨cell, h1, h2, h3, h4⟩ := h
  exact ⟨cell, by rw [hq t (Array.getElem?_eq_some_iff.mp h1).1 h4]; exact h1, h2, h3, h4⟩
theorem va_O_moved {E : String} {t : Nat} {A : Nat → Prop} {u U : State} {H : Heap} (hvm : u.vm.Alike U.vm) (h : va_O E t A u H) : va_O E t A U H := by
  obtain ⟨cell, h1, h2, h3, h4⟩ := h
  exact ⟨cell, h1, h2, by rw [hvm.findClass]; exact h3, h4⟩
theorem CX_moved {G : GG} {s U : State} (hW : s.WarmedH U.vm) (hz : gz G ≤ U.heap.size) (hq : ∀ a : Nat, a < s.heap.size → ¬ gA G a → U.heap[a]? = s.heap[a]?) (h : CX G s) : CX G U := by
  obtain ⟨hK, h1, ⟨b, hb1, hb2, hb3⟩, hL, s3, s4, s5, t1, t2, g1, n1, o1⟩ := h
  have hvm := hW.alike
  have st : ∀ {r : Int} {nm : String} {l : List Int}, roStat G s r nm l → roStat G U r nm l := fun ⟨t, a1, a2, a3⟩ => ⟨t, a1, (a2.moved hvm).kept hq, (a3.moved hvm).kept hq⟩
  have sr : ∀ {ro rb : Int} {own : String} {idx : Nat} {tx : String} {l : List Int}, roStr G s ro rb own idx tx l → roStr G U ro rb own idx tx l := fun ⟨q, t, a1, a2, a3, a4, a5, a6, a7⟩ => ⟨q, t, a1, a2, a3.warm hW, va_O_kept (va_O_moved hvm a4) hq, (a5.moved hvm).kept hq, (a6.moved hvm).kept hq, (a7.moved hvm).kept hq⟩
  refine ⟨hK.moved hvm, hz, ⟨b, hb1, hb2, (hb3.moved hvm).kept (hq b (by omega) (by unfold gA; omega))⟩, hL, st s3, st s4, st s5, sr t1, sr t2, ⟨(g1.1.moved hvm).kept hq, (g1.2.1.moved hvm).kept hq, g1.2.2⟩, ⟨n1.1.warmF hW, n1.2.1.warmF hW, n1.2.2.1.warmF hW, n1.2.2.2.warmF hW⟩, o1.moved hvm⟩
theorem CX_calling {G : GG} {U : State} {g : JFrame} {mk : MethodId} {a : Array Value} (h : CX G U) : CX G (U.calling g mk a) :=
  CX_moved (s := U) (U := U.calling g mk a) (State.WarmedH.refl U) h.2.1 (fun _ _ _ => rfl) h
end
section
/-! NUMBERS: the machine's ints and longs as whole numbers -/
theorem toI {x : Int} (h : okI x) : (Int32.ofInt x).toInt = x := Int32.toInt_ofInt_of_le h.1 h.2
theorem toJ {x : Int} (h : okJ x) : (Int64.ofInt x).toInt = x := Int64.toInt_ofInt_of_le h.1 h.2
theorem okI_toInt (x : Int32) : okI x.toInt := ⟨x.le_toInt, x.toInt_lt⟩
theorem okJ_toInt (x : Int64) : okJ x.toInt := ⟨x.le_toInt, x.toInt_lt⟩
theorem okI_okJ {x : Int} (h : okI x) : okJ x := by unfold okI okJ at *; omega
theorem w32_ok (x : Int) : okI (w32 x) := by
  unfold okI w32
  have h1 := Int.le_bmod (x := x) (m := 4294967296) (by decide)
  have h2 := Int.bmod_lt (x := x) (m := 4294967296) (by decide)
  omega
theorem w64_ok (x : Int) : okJ (w64 x) := by
  unfold okJ w64
  have h1 := Int.le_bmod (x := x) (m := 18446744073709551616) (by decide)
  have h2 := Int.bmod_lt (x := x) (m := 18446744073709551616) (by decide)
  omega
theorem w8_ok (x : Int) : -128 ≤ w8 x ∧ w8 x < 128 := by
  unfold w8
  have h1 := Int.le_bmod (x := x) (m := 256) (by decide)
  have h2 := Int.bmod_lt (x := x) (m := 256) (by decide)
  omega
theorem w16_ok (x : Int) : -32768 ≤ w16 x ∧ w16 x < 32768 := by
  unfold w16
  have h1 := Int.le_bmod (x := x) (m := 65536) (by decide)
  have h2 := Int.bmod_lt (x := x) (m := 65536) (by decide)
  omega
theorem w32_id {x : Int} (h : okI x) : w32 x = x := by
  unfold w32 okI at *
  exact Int.bmod_eq_of_le (by omega) (by omega)
theorem w64_id {x : Int} (h : okJ x) : w64 x = x := by
  unfold w64 okJ at *
  exact Int.bmod_eq_of_le (by omega) (by omega)
theorem of_w32 (x : Int) : Int32.ofInt (w32 x) = Int32.ofInt x := by
  apply Int32.toInt_inj.mp
  rw [toI (w32_ok x), Int32.toInt_ofInt]
  rfl
theorem of_w64 (x : Int) : Int64.ofInt (w64 x) = Int64.ofInt x := by
  apply Int64.toInt_inj.mp
  rw [toJ (w64_ok x), Int64.toInt_ofInt]
  rfl
theorem mI_add (a b : Int) : Int32.ofInt (w32 (a + b)) = Int32.ofInt a + Int32.ofInt b := by rw [of_w32, Int32.ofInt_add]
theorem mI_sub (a b : Int) : Int32.ofInt (w32 (a - b)) = Int32.ofInt a - Int32.ofInt b := by rw [of_w32, Int32.ofInt_sub]
theorem mI_mul (a b : Int) : Int32.ofInt (w32 (a * b)) = Int32.ofInt a * Int32.ofInt b := by rw [of_w32, Int32.ofInt_mul]
theorem mI_neg (a : Int) : Int32.ofInt (w32 (-a)) = -Int32.ofInt a := by rw [of_w32, Int32.ofInt_neg]
theorem mJ_add (a b : Int) : Int64.ofInt (w64 (a + b)) = Int64.ofInt a + Int64.ofInt b := by rw [of_w64, Int64.ofInt_add]
theorem mJ_sub (a b : Int) : Int64.ofInt (w64 (a - b)) = Int64.ofInt a - Int64.ofInt b := by rw [of_w64, Int64.ofInt_sub]
theorem mJ_mul (a b : Int) : Int64.ofInt (w64 (a * b)) = Int64.ofInt a * Int64.ofInt b := by rw [of_w64, Int64.ofInt_mul]
theorem mI_div {a b : Int} (ha : okI a) (hb : okI b) : Int32.ofInt (am_div a b) = Int32.ofInt a / Int32.ofInt b := by
  apply Int32.toInt_inj.mp
  unfold am_div
  rw [toI (w32_ok _), Int32.toInt_div, toI ha, toI hb]
  rfl
theorem mJ_div {a b : Int} (ha : okJ a) (hb : okJ b) : Int64.ofInt (am_ldiv a b) = Int64.ofInt a / Int64.ofInt b := by
  apply Int64.toInt_inj.mp
  unfold am_ldiv
  rw [toJ (w64_ok _), Int64.toInt_div, toJ ha, toJ hb]
  rfl
theorem mI_rem {a b : Int} (ha : okI a) (hb : okI b) : Int32.ofInt (am_rem a b) = Int32.ofInt a - Int32.ofInt a / Int32.ofInt b * Int32.ofInt b := by
  rw [← mI_div ha hb]
  unfold am_div am_rem
  rw [of_w32, ← Int32.ofInt_mul, ← Int32.ofInt_sub, Int.tmod_def, Int.mul_comm]
theorem mJ_rem {a b : Int} (ha : okJ a) (hb : okJ b) : Int64.ofInt (am_lrem a b) = Int64.ofInt a - Int64.ofInt a / Int64.ofInt b * Int64.ofInt b := by
  rw [← mJ_div ha hb]
  unfold am_ldiv am_lrem
  rw [of_w64, ← Int64.ofInt_mul, ← Int64.ofInt_sub, Int.tmod_def, Int.mul_comm]
theorem tmod_abs (a b : Int) : (a.tmod b).natAbs ≤ a.natAbs := by
  rw [Int.natAbs_tmod]
  exact Nat.mod_le _ _
theorem tmod_sgn (a b : Int) : (0 ≤ a → 0 ≤ a.tmod b) ∧ (a < 0 → a.tmod b ≤ 0) := by
  refine ⟨fun h => Int.tmod_nonneg b h, fun h => ?_⟩
  have h1 : a.tmod b = -((-a).tmod b) := by rw [Int.neg_tmod, Int.neg_neg]
  have h2 : 0 ≤ (-a).tmod b := Int.tmod_nonneg b (by omega)
  omega
theorem tmod_ok {a b : Int} (ha : okI a) : okI (am_rem a b) := by
  unfold am_rem okI at *
  have h1 := tmod_abs a b
  have h2 := tmod_sgn a b
  omega
theorem tmod_okJ {a b : Int} (ha : okJ a) : okJ (am_lrem a b) := by
  unfold am_lrem okJ at *
  have h1 := tmod_abs a b
  have h2 := tmod_sgn a b
  omega
theorem ofI_eq {a b : Int} (ha : okI a) (hb : okI b) : Int32.ofInt a = Int32.ofInt b ↔ a = b := by
  rw [← Int32.toInt_inj, toI ha, toI hb]
theorem ofI_lt {a b : Int} (ha : okI a) (hb : okI b) : Int32.ofInt a < Int32.ofInt b ↔ a < b := by
  rw [Int32.lt_iff_toInt_lt, toI ha, toI hb]
theorem ofI_le {a b : Int} (ha : okI a) (hb : okI b) : Int32.ofInt a ≤ Int32.ofInt b ↔ a ≤ b := by
  rw [Int32.le_iff_toInt_le, toI ha, toI hb]
theorem ofJ_eq {a b : Int} (ha : okJ a) (hb : okJ b) : Int64.ofInt a = Int64.ofInt b ↔ a = b := by
  rw [← Int64.toInt_inj, toJ ha, toJ hb]
theorem ofJ_lt {a b : Int} (ha : okJ a) (hb : okJ b) : Int64.ofInt a < Int64.ofInt b ↔ a < b := by
  rw [Int64.lt_iff_toInt_lt, toJ ha, toJ hb]
theorem okI_0 : okI 0 := ⟨by decide, by decide⟩
theorem ofI_0 : Int32.ofInt 0 = 0 := by decide
theorem ofI_lt0 {a : Int} (ha : okI a) : Int32.ofInt a < 0 ↔ a < 0 := by rw [← ofI_0]; exact ofI_lt ha okI_0
theorem ofI_gt0 {a : Int} (ha : okI a) : 0 < Int32.ofInt a ↔ 0 < a := by rw [← ofI_0]; exact ofI_lt okI_0 ha
theorem ofI_eq0 {a : Int} (ha : okI a) : Int32.ofInt a = 0 ↔ a = 0 := by rw [← ofI_0]; exact ofI_eq ha okI_0
theorem ofI_nat {a : Int} (ha : okI a) : (Int32.ofInt a).toNatClampNeg = a.toNat := Int32.toNatClampNeg_ofInt_of_le ha.1 ha.2
theorem ofI_in {a : Int} {n : Nat} (ha : okI a) (h0 : 0 ≤ a) (h1 : a < (n : Int)) : vp_in (Int32.ofInt a) n := by
  unfold vp_in
  rw [ofI_nat ha, ofI_lt0 ha]
  omega
theorem nJ_i2l {a : Int} (ha : okI a) : (Int32.ofInt a).toInt64 = Int64.ofInt a := by
  apply Int64.toInt_inj.mp
  rw [Int32.toInt_toInt64, toI ha, toJ (okI_okJ ha)]
theorem nI_l2i {a : Int} (ha : okJ a) : (Int64.ofInt a).toInt32 = Int32.ofInt (w32 a) := by
  apply Int32.toInt_inj.mp
  rw [Int64.toInt_toInt32, toJ ha, toI (w32_ok a)]
  rfl
theorem okI_8 {a : Int} (h : -128 ≤ a ∧ a < 128) : okI a := by unfold okI; omega
theorem okI_16 {a : Int} (h : -32768 ≤ a ∧ a < 32768) : okI a := by unfold okI; omega
theorem nI_i2b {a : Int} (ha : okI a) : (Int32.ofInt a).toInt8.toInt32 = Int32.ofInt (w8 a) := by
  apply Int32.toInt_inj.mp
  rw [Int8.toInt_toInt32, Int32.toInt_toInt8, toI ha, toI (okI_8 (w8_ok a))]
  rfl
theorem nI_i2s {a : Int} (ha : okI a) : (Int32.ofInt a).toInt16.toInt32 = Int32.ofInt (w16 a) := by
  apply Int32.toInt_inj.mp
  rw [Int16.toInt_toInt32, Int32.toInt_toInt16, toI ha, toI (okI_16 (w16_ok a))]
  rfl
theorem nI_cmp {a b : Int} (ha : okJ a) (hb : okJ b) : lg_cmp (Int64.ofInt a) (Int64.ofInt b) = Int32.ofInt (am_lcmp a b) := by
  unfold lg_cmp am_lcmp
  simp only [ofJ_lt ha hb, ofJ_eq ha hb, ofJ_lt hb ha]
  repeat' split
  all_goals first | rfl | omega
theorem lcmp_ok (a b : Int) : okI (am_lcmp a b) := by
  unfold am_lcmp okI
  repeat' split
  all_goals omega
theorem nar_b {a : Int} (ha : okI a) : vp_nar .byte (Int32.ofInt a) = Int32.ofInt (w8 a) := by
  rw [← nI_i2b ha]
  rfl
theorem nar_s {a : Int} (ha : okI a) : vp_nar .short (Int32.ofInt a) = Int32.ofInt (w16 a) := by
  rw [← nI_i2s ha]
  rfl
end
section
/-! CELLS: reading and writing the world's list -/
theorem kd_get {S : Sh} {r : Int} {K : Nat} (h : kd S r = K) (hK : K ≠ 99) : ∃ n, S[r.toNat]? = some (K, n) ∧ ln S r = n := by
  unfold kd at h
  unfold ln
  cases hs : S[r.toNat]? with
  | none => rw [hs] at h; exact absurd h.symm hK
  | some q =>
    rw [hs] at h
    obtain ⟨a, b⟩ := q
    dsimp only at h
    subst h
    exact ⟨b, rfl, rfl⟩
theorem kd_pos {S : Sh} {r : Int} {K n : Nat} (hS : okS S) (h : S[r.toNat]? = some (K, n)) (hK : K ≠ 99) : 0 < r ∧ 0 < r.toNat := by
  have h0 : r.toNat ≠ 0 := fun z => by
    rw [z, hS.1] at h
    cases h
    exact hK rfl
  omega
theorem ws_at {G : GG} {S : Sh} {h : Mem} {k : Nat} {q : Nat × Nat} (hk : 0 < k) (hq : S[k]? = some q) : (wsG G S h)[k - 1]? = some (gz G + (k - 1), cellG G q (h k)) := by
  have hl := (List.getElem?_eq_some_iff.mp hq).1
  unfold wsG
  rw [List.getElem?_map, List.getElem?_range (by omega)]
  have e : k - 1 + 1 = k := by omega
  simp only [Option.map_some, e, List.getD_eq_getElem?_getD, hq, Option.getD_some]
theorem ws_len (G : GG) (S : Sh) (h : Mem) : (wsG G S h).length = S.length - 1 := by simp [wsG]
theorem ws_addr {G : GG} {S : Sh} {h : Mem} {i : Nat} {p : Nat × va_E} (hi : (wsG G S h)[i]? = some p) : p.1 = gz G + i := by
  unfold wsG at hi
  rw [List.getElem?_map] at hi
  cases hr : (List.range (S.length - 1))[i]? with
  | none => rw [hr] at hi; cases hi
  | some z =>
    rw [hr] at hi
    have hz := (List.getElem?_eq_some_iff.mp hr)
    obtain ⟨hz1, hz2⟩ := hz
    rw [List.getElem_range] at hz2
    cases hi
    rw [hz2]
theorem ws_D (G : GG) (S : Sh) (h : Mem) : va_D (gA G) (wsG G S h) := by
  refine ⟨fun i j p q hi hj e => ?_, fun k q hk => ?_⟩
  · have a := ws_addr hi
    have b := ws_addr hj
    omega
  · have a := ws_addr hk
    unfold gA
    omega
theorem ws_up {G : GG} {S : Sh} {h h' : Mem} {k : Nat} {q : Nat × Nat} {e : va_E} (hk : 0 < k) (hq : S[k]? = some q) (h1 : ∀ a, a ≠ k → h' a = h a) (he : e = cellG G q (h' k)) : (wsG G S h).set (k - 1) (gz G + (k - 1), e) = wsG G S h' := by
  have hl := (List.getElem?_eq_some_iff.mp hq).1
  apply List.ext_getElem?
  intro i
  by_cases hi : i = k - 1
  · subst hi
    rw [List.getElem?_set_self (by rw [ws_len]; omega), ws_at hk hq, he]
  · rw [List.getElem?_set_ne (fun z => hi z.symm)]
    unfold wsG
    rw [List.getElem?_map, List.getElem?_map]
    cases hr : (List.range (S.length - 1))[i]? with
    | none => rfl
    | some z =>
      obtain ⟨hz1, hz2⟩ := List.getElem?_eq_some_iff.mp hr
      rw [List.getElem_range] at hz2
      subst hz2
      simp only [Option.map_some]
      rw [h1 (i + 1) (by omega)]
theorem up_at (h : Mem) (k j : Nat) (x : Int) : up h k j x k = fun b => if b = j then x else h k b := by
  funext b
  simp [up]
theorem up_ne (h : Mem) (k j : Nat) (x : Int) {a : Nat} (ha : a ≠ k) : up h k j x a = h a := by
  funext b
  simp [up, ha]
theorem okM_up {S : Sh} {h : Mem} {k j : Nat} {q : Nat × Nat} {x : Int} (hM : okM S h) (hq : S[k]? = some q) (hx : okT S.length (tgK q.1 j) x) : okM S (up h k j x) := by
  have hl := (List.getElem?_eq_some_iff.mp hq).1
  refine ⟨fun a p hp b hb => ?_, fun a ha b => ?_⟩
  · by_cases e : a = k
    · subst e
      cases hq.symm.trans hp
      rw [up_at]
      dsimp only
      split
      · next e2 => rw [e2]; exact hx
      · exact hM.1 a q hq b hb
    · rw [up_ne h k j x e]
      exact hM.1 a p hp b hb
  · rw [up_ne h k j x (by omega)]
    exact hM.2 a ha b
theorem cpy_at (h : Mem) (k : Nat) (f : Nat → Int) (sp dp n : Nat) : cpy h k f sp dp n k = fun b => if dp ≤ b ∧ b < dp + n then f (sp + (b - dp)) else h k b := by
  funext b
  simp [cpy]
theorem cpy_ne (h : Mem) (k : Nat) (f : Nat → Int) (sp dp n : Nat) {a : Nat} (ha : a ≠ k) : cpy h k f sp dp n a = h a := by
  funext b
  simp [cpy, ha]
theorem okM_cpy {S : Sh} {h : Mem} {k sp dp n : Nat} {f : Nat → Int} {q : Nat × Nat} (hM : okM S h) (hq : S[k]? = some q) (hx : ∀ j, j < n → dp + j < q.2 → okT S.length (tgK q.1 (dp + j)) (f (sp + j))) : okM S (cpy h k f sp dp n) := by
  have hl := (List.getElem?_eq_some_iff.mp hq).1
  refine ⟨fun a p hp b hb => ?_, fun a ha b => ?_⟩
  · by_cases e : a = k
    · subst e
      cases hq.symm.trans hp
      rw [cpy_at]
      dsimp only
      split
      · next e2 =>
        have := hx (b - dp) (by omega) (by omega)
        rwa [show dp + (b - dp) = b by omega] at this
      · exact hM.1 a q hq b hb
    · rw [cpy_ne h k f sp dp n e]
      exact hM.1 a p hp b hb
  · rw [cpy_ne h k f sp dp n (by omega)]
    exact hM.2 a ha b
theorem cell_i {G : GG} {n : Nat} {f : Nat → Int} {K : Nat} (hK : K = 20 ∨ K = 22 ∨ K = 23) : cellG G (K, n) f = .inl (gC G K, n, .inl fun j => Int32.ofInt (f j)) := by
  rcases hK with rfl | rfl | rfl <;> rfl
theorem cell_l {G : GG} {n : Nat} {f : Nat → Int} : cellG G (21, n) f = .inl (gC G 21, n, .inr (.inl fun j => Int64.ofInt (f j))) := rfl
theorem cell_q {G : GG} {n : Nat} {f : Nat → Int} {K : Nat} (hK : K = 24 ∨ K = 25) : cellG G (K, n) f = .inl (gC G K, n, .inr (.inr (.inr (.inr fun j => cvR (gz G) (f j))))) := by
  rcases hK with rfl | rfl <;> rfl
theorem cell_o {G : GG} {n : Nat} {f : Nat → Int} {K : Nat} (hK : K < 12) : cellG G (K, n) f = .inr (K, (List.range n).map fun j => fV (gz G) (tagF (tyC K j)) (f j)) := by
  unfold cellG
  rw [if_pos hK]
theorem cv_r (G : GG) (r : Int) : cv G (.inr (.inr r)) = if r < 0 then gR G r else if r = 0 then .null else .ref (gz G + (r.toNat - 1)) := rfl
theorem cv_ref {G : GG} {r : Int} (h : 0 < r) : cv G (.inr (.inr r)) = .ref (gz G + (r.toNat - 1)) := by
  rw [cv_r, if_neg (by omega), if_neg (by omega)]
theorem cv_ro {G : GG} {r : Int} (h : r < 0) : cv G (.inr (.inr r)) = gR G r := by
  rw [cv_r, if_pos h]
theorem rf_cv {G : GG} {r : Int} (h : 0 ≤ r) : va_rf (cvR (gz G) r) = cv G (.inr (.inr r)) := by
  rw [cv_r]
  unfold cvR adr
  by_cases h0 : r = 0
  · subst h0; rfl
  · rw [if_neg (by omega), if_neg (by omega), if_neg h0]
    rfl
end
section
/-! LINKS: the entries of the pools, by the owner's number, with the places of their words (written by wip/tools/genchk.py) -/
def ownN (o : Nat) : String := match o with
  | 0 => "BestMenDuel$Bout"
  | 1 => "BestMenDuel$Dawn"
  | 2 => "BestMenDuel$DawnReader"
  | 3 => "BestMenDuel$Gifts"
  | 4 => "BestMenDuel$Living"
  | 5 => "BestMenDuel$Order"
  | 6 => "BestMenDuel$Tokens"
  | 7 => "BestMenDuel$Trays"
  | 8 => "BestMenDuel$Years"
  | 9 => "BestMenDuel$YearsReader"
  | 10 => "BestMenDuel"
  | 11 => "BestMenDuelModel"
  | 12 => "BestMenDuel$Search"
  | 13 => "BestMenDuelLaw"
  | 14 => "java/lang/Integer"
  | 15 => "java/lang/Math"
  | 16 => "java/lang/String"
  | 17 => "java/lang/StringLatin1"
  | 18 => "jdk/internal/util/Preconditions"
  | _ => ""
def ownY : List Nat := [0, 0, 0, 0, 0, 0, 0, 0, 0, 0, 0, 0, 0, 0, 0, 0, 0, 1, 1, 1, 1, 1, 1, 1, 1, 1, 1, 1, 1, 1, 1, 1, 1, 1, 1, 1, 1, 1, 1, 1, 1, 1, 1, 1, 1, 2, 2, 2, 2, 2, 2, 2, 2, 2, 3, 3, 3, 3, 3, 3, 3, 3, 3, 3, 3, 3, 3, 4, 4, 4, 4, 4, 4, 4, 4, 4, 5, 5, 5, 5, 12, 12, 12, 12, 12, 6, 6, 6, 6, 6, 6, 6, 6, 6, 6, 6, 6, 6, 6, 6, 6, 6, 7, 7, 7, 7, 7, 7, 7, 7, 7, 7, 7, 8, 8, 8, 8, 9, 9, 9, 9, 9, 9, 9, 9, 9, 9, 10, 10, 10, 10, 10, 10, 10, 10, 10, 10, 10, 10, 10, 10, 10, 10, 10, 10, 10, 10, 10, 10, 10, 10, 10, 10, 10, 10, 10, 10, 10, 10, 10, 10, 10, 10, 10, 10, 10, 10, 10, 10, 10, 10, 10, 10, 10, 10, 10, 10, 10, 10, 10, 10, 10, 10, 10, 10, 10, 10, 10, 10, 10, 10, 10, 10, 10, 10, 11, 11, 11, 11, 11, 11, 11, 11, 11, 11, 11, 11, 11, 11, 11, 11, 11, 11, 11, 11, 11, 11, 11, 11, 11, 11, 11, 11, 11, 11, 11, 11, 11, 11, 11, 11, 11, 11, 11, 11, 11, 11, 11, 11, 11, 11, 11, 11, 11, 11, 11, 11, 11, 11, 11, 11, 11, 11, 11, 11, 11, 11, 11, 11, 11, 11, 11, 11, 11, 11, 11, 11, 11, 11, 11, 11, 11, 11, 11, 11, 11, 11, 11, 11, 11, 11, 11, 11, 11, 11, 11, 11, 11, 11, 11, 11, 11, 11, 11, 11, 11, 11, 11, 11, 11, 11, 11, 11, 11, 11, 11, 11, 11, 11, 11, 11, 11, 11, 11, 11, 11, 11, 11, 11, 11, 11, 11, 11, 11, 11, 11, 11, 11, 11, 11, 11, 11, 11, 11, 11, 11, 11, 11, 13, 14, 15, 15, 15, 16, 16, 16, 16, 16, 17, 18]
def tx_fls : List (Nat × Nat × Nat × Nat × Nat) := [(0, 9, 0, 0, 503), (0, 15, 0, 1, 506), (0, 18, 0, 2, 508), (0, 21, 0, 3, 509), (0, 24, 0, 4, 510), (0, 27, 0, 5, 511), (0, 30, 0, 6, 512), (0, 33, 0, 7, 513), (0, 40, 0, 8, 514), (0, 44, 0, 11, 517), (0, 47, 1, 14, 437), (0, 52, 1, 15, 440), (0, 55, 1, 8, 423), (0, 56, 1, 16, 443), (0, 59, 1, 17, 446), (0, 62, 1, 18, 449), (0, 63, 1, 2, 401), (0, 66, 0, 9, 515), (0, 69, 0, 10, 516), (0, 72, 1, 10, 431), (0, 75, 1, 9, 427), (0, 76, 1, 7, 419), (0, 81, 1, 3, 405), (0, 82, 1, 4, 409), (0, 113, 1, 6, 415), (0, 116, 1, 5, 412), (0, 129, 0, 12, 519), (1, 9, 1, 2, 400), (1, 15, 1, 3, 404), (1, 18, 1, 4, 407), (1, 21, 1, 5, 411), (1, 24, 1, 6, 414), (1, 27, 1, 7, 417), (1, 30, 1, 8, 421), (1, 33, 1, 9, 426), (1, 36, 1, 10, 429), (1, 39, 1, 11, 434), (1, 42, 1, 12, 435), (1, 46, 1, 13, 436), (1, 52, 1, 19, 452), (1, 59, 1, 0, 391), (1, 63, 1, 1, 395), (1, 79, 1, 14, 438), (1, 82, 1, 15, 441), (1, 85, 1, 16, 444), (1, 88, 1, 17, 447), (1, 91, 1, 18, 450), (2, 9, 2, 0, 283), (2, 15, 2, 1, 284), (2, 24, 2, 2, 285), (2, 37, 6, 9, 233), (2, 48, 6, 10, 237), (2, 71, 1, 2, 402), (2, 77, 1, 0, 393), (2, 83, 6, 11, 239), (2, 95, 1, 1, 398), (2, 125, 1, 10, 432), (3, 9, 3, 0, 553), (3, 15, 3, 2, 557), (3, 18, 3, 3, 558), (3, 21, 1, 7, 418), (3, 30, 1, 4, 408), (3, 33, 1, 8, 422), (3, 36, 1, 0, 392), (3, 44, 1, 1, 397), (3, 47, 1, 10, 430), (3, 63, 3, 4, 559), (3, 64, 3, 5, 560), (3, 65, 3, 6, 561), (3, 68, 3, 1, 555), (4, 9, 4, 0, 601), (4, 15, 4, 1, 602), (4, 19, 4, 2, 603), (4, 23, 4, 3, 605), (4, 26, 4, 4, 607), (4, 29, 4, 5, 609), (4, 32, 4, 6, 611), (4, 35, 4, 7, 613), (4, 38, 4, 8, 615), (4, 41, 1, 19, 453), (4, 47, 8, 1, 331), (4, 54, 8, 2, 335), (4, 62, 8, 8, 354), (4, 75, 8, 7, 350), (4, 82, 8, 5, 344), (4, 85, 8, 3, 338), (4, 92, 8, 4, 341), (4, 99, 1, 8, 424), (4, 110, 8, 6, 348), (4, 133, 0, 12, 518), (5, 9, 5, 0, 583), (5, 15, 5, 2, 587), (5, 18, 5, 1, 585), (5, 26, 1, 1, 396), (6, 9, 6, 0, 224), (6, 15, 6, 2, 226), (6, 18, 6, 3, 227), (6, 22, 6, 4, 228), (6, 26, 6, 1, 225), (6, 41, 6, 5, 229), (6, 44, 6, 6, 230), (6, 47, 6, 7, 231), (6, 50, 6, 12, 242), (6, 53, 6, 13, 244), (6, 84, 6, 9, 235), (6, 87, 6, 11, 241), (6, 91, 6, 8, 232), (6, 94, 6, 10, 238), (7, 13, 7, 0, 157), (7, 16, 7, 1, 158), (7, 20, 7, 2, 159), (8, 9, 8, 2, 334), (8, 13, 8, 3, 337), (8, 16, 8, 4, 340), (8, 19, 8, 5, 343), (8, 22, 8, 6, 346), (8, 25, 8, 7, 349), (8, 28, 8, 8, 352), (8, 31, 8, 0, 327), (8, 35, 8, 1, 330), (9, 9, 9, 0, 299), (9, 15, 9, 1, 300), (9, 19, 9, 2, 301), (9, 23, 9, 3, 302), (9, 32, 8, 0, 328), (9, 36, 9, 4, 303), (9, 49, 6, 9, 234), (9, 56, 6, 10, 236), (9, 62, 8, 8, 353), (9, 65, 8, 1, 332), (9, 82, 8, 2, 336), (9, 84, 8, 5, 345), (9, 91, 8, 6, 347), (9, 102, 8, 3, 339), (9, 117, 8, 4, 342), (9, 120, 6, 11, 240), (9, 124, 8, 7, 351), (10, 10, 10, 0, 636), (10, 16, 10, 1, 637), (10, 25, 10, 2, 638), (10, 34, 10, 3, 639), (10, 41, 10, 4, 640), (10, 48, 10, 5, 641), (10, 52, 10, 6, 642), (10, 55, 10, 7, 643), (10, 62, 10, 8, 644), (10, 69, 10, 9, 645), (10, 76, 10, 10, 646), (10, 85, 10, 11, 647), (10, 89, 10, 12, 648), (10, 92, 10, 16, 652), (10, 96, 10, 17, 653), (10, 99, 10, 19, 655), (10, 103, 10, 15, 651), (10, 106, 10, 18, 654), (10, 155, 10, 14, 650), (10, 173, 1, 1, 399), (10, 179, 1, 19, 454), (10, 191, 8, 1, 333), (10, 194, 1, 0, 394), (10, 197, 1, 2, 403), (10, 217, 1, 3, 406), (10, 220, 1, 4, 410), (10, 223, 1, 5, 413), (10, 226, 1, 6, 416), (10, 241, 1, 7, 420), (10, 244, 1, 8, 425), (10, 247, 1, 9, 428), (10, 262, 1, 10, 433), (10, 274, 1, 14, 439), (10, 277, 1, 15, 442), (10, 280, 1, 16, 445), (10, 283, 1, 17, 448), (10, 289, 1, 18, 451), (10, 298, 0, 0, 505), (10, 379, 3, 1, 556), (10, 382, 3, 0, 554), (10, 415, 0, 1, 507), (10, 427, 5, 1, 586), (10, 428, 5, 0, 584), (10, 429, 8, 0, 329), (10, 437, 4, 3, 606), (10, 438, 4, 2, 604), (10, 441, 4, 4, 608), (10, 444, 4, 5, 610), (10, 447, 4, 6, 612), (10, 450, 4, 7, 614), (10, 453, 4, 8, 616), (10, 456, 10, 13, 649), (10, 459, 6, 12, 243), (10, 460, 6, 13, 245), (11, 7, 11, 0, 1488), (11, 13, 11, 1, 1489), (11, 17, 11, 4, 1492), (11, 21, 11, 5, 1493), (11, 24, 11, 6, 1494), (11, 27, 11, 7, 1495), (11, 30, 11, 8, 1496), (11, 34, 11, 9, 1497), (11, 37, 11, 16, 1504), (11, 41, 11, 17, 1505), (11, 44, 11, 21, 1509), (11, 47, 11, 24, 1512), (11, 50, 11, 25, 1513), (11, 53, 11, 26, 1514), (11, 56, 11, 27, 1515), (11, 59, 11, 28, 1516), (11, 62, 11, 29, 1517), (11, 65, 11, 30, 1518), (11, 68, 11, 32, 1520), (11, 71, 11, 35, 1523), (11, 74, 11, 36, 1524), (11, 77, 11, 37, 1525), (11, 84, 11, 2, 1490), (11, 87, 11, 3, 1491), (11, 114, 11, 10, 1498), (11, 120, 11, 11, 1499), (11, 123, 11, 14, 1502), (11, 129, 11, 13, 1501), (11, 132, 11, 15, 1503), (11, 135, 11, 12, 1500), (11, 160, 11, 18, 1506), (11, 163, 11, 19, 1507), (11, 218, 11, 20, 1508), (11, 247, 11, 22, 1510), (11, 250, 11, 23, 1511), (11, 416, 11, 31, 1519), (11, 432, 11, 33, 1521), (11, 442, 11, 34, 1522), (11, 459, 11, 38, 1526), (11, 463, 11, 39, 1527), (12, 41, 0, 0, 504)]
def tx_mls : List (Nat × Nat × Nat × Nat) := [(0, 36, 3, 1112), (0, 77, 29, 1116), (0, 83, 40, 1107), (0, 87, 2, 1108), (0, 91, 11, 1117), (0, 95, 13, 1133), (0, 99, 5, 1148), (0, 103, 7, 1152), (0, 106, 36, 1156), (0, 110, 43, 1160), (0, 119, 6, 1121), (0, 123, 8, 1125), (0, 126, 9, 1129), (0, 132, 342, 1137), (0, 138, 14, 1140), (0, 141, 10, 1144), (1, 51, 113, 323), (1, 56, 18, 374), (1, 75, 43, 383), (1, 78, 114, 387), (1, 94, 116, 920), (1, 98, 23, 1076), (1, 102, 29, 1051), (1, 106, 28, 996), (1, 109, 27, 1004), (1, 112, 35, 1017), (1, 116, 37, 1013), (1, 119, 40, 1090), (1, 123, 342, 1190), (2, 19, 18, 795), (2, 28, 86, 796), (2, 34, 92, 829), (2, 40, 47, 833), (2, 44, 93, 841), (2, 51, 48, 837), (2, 54, 49, 863), (2, 57, 50, 895), (2, 67, 97, 849), (2, 74, 95, 855), (2, 80, 52, 867), (2, 87, 51, 883), (2, 91, 20, 891), (2, 98, 21, 899), (2, 102, 53, 903), (2, 105, 94, 911), (2, 108, 96, 887), (2, 111, 98, 871), (2, 114, 25, 875), (2, 118, 26, 879), (2, 121, 27, 907), (3, 26, 29, 1273), (3, 40, 55, 1285), (3, 50, 340, 1293), (3, 55, 342, 1296), (3, 59, 64, 1353), (3, 71, 66, 1321), (4, 50, 69, 1428), (4, 58, 70, 1431), (4, 65, 341, 1444), (4, 71, 73, 1445), (4, 78, 71, 1435), (4, 88, 41, 1438), (4, 95, 72, 1439), (4, 102, 28, 1442), (4, 106, 40, 1443), (4, 113, 42, 1449), (4, 117, 44, 1450), (4, 120, 75, 1451), (4, 124, 4, 1456), (4, 129, 74, 1457), (4, 136, 7, 1461), (5, 22, 78, 1403), (5, 37, 79, 1407), (5, 41, 35, 1411), (6, 31, 343, 176), (6, 37, 344, 186), (6, 56, 99, 800), (6, 60, 87, 803), (6, 64, 100, 807), (6, 67, 88, 810), (6, 70, 101, 814), (6, 73, 89, 817), (6, 76, 90, 821), (6, 80, 91, 825), (6, 97, 92, 853), (6, 100, 94, 859), (6, 103, 93, 854), (7, 23, 103, 737), (7, 27, 104, 738), (7, 30, 112, 746), (9, 27, 114, 937), (9, 40, 86, 938), (9, 46, 92, 939), (9, 52, 93, 940), (9, 59, 119, 941), (9, 68, 95, 945), (9, 72, 120, 946), (9, 75, 115, 949), (9, 79, 121, 953), (9, 87, 125, 957), (9, 94, 124, 963), (9, 98, 122, 968), (9, 105, 123, 972), (9, 111, 126, 978), (9, 114, 94, 976), (9, 127, 97, 967), (9, 131, 98, 961), (9, 134, 26, 962), (9, 140, 25, 982), (10, 9, 102, 151), (10, 22, 85, 171), (10, 31, 45, 279), (10, 40, 117, 295), (10, 47, 17, 317), (10, 61, 0, 499), (10, 68, 54, 549), (10, 75, 76, 579), (10, 82, 67, 597), (10, 109, 103, 713), (10, 113, 185, 717), (10, 116, 108, 721), (10, 120, 184, 725), (10, 124, 107, 733), (10, 128, 109, 742), (10, 132, 183, 753), (10, 136, 110, 757), (10, 140, 104, 765), (10, 143, 105, 766), (10, 147, 106, 770), (10, 151, 111, 774), (10, 158, 187, 783), (10, 162, 46, 791), (10, 166, 188, 912), (10, 169, 19, 916), (10, 176, 181, 925), (10, 183, 118, 933), (10, 186, 116, 983), (10, 201, 32, 992), (10, 205, 33, 1000), (10, 208, 34, 1005), (10, 211, 39, 1009), (10, 214, 22, 1025), (10, 229, 28, 1029), (10, 232, 27, 1034), (10, 235, 182, 1035), (10, 238, 23, 1043), (10, 250, 30, 1047), (10, 253, 31, 1055), (10, 256, 37, 1059), (10, 259, 38, 1060), (10, 265, 24, 1072), (10, 268, 35, 1077), (10, 271, 40, 1082), (10, 286, 41, 1086), (10, 292, 42, 1095), (10, 295, 4, 1103), (10, 299, 6, 1161), (10, 302, 43, 1166), (10, 305, 189, 1171), (10, 308, 190, 1175), (10, 311, 44, 1186), (10, 314, 20, 1199), (10, 324, 2, 1210), (10, 327, 11, 1211), (10, 330, 10, 1216), (10, 333, 80, 1221), (10, 339, 81, 1247), (10, 342, 83, 1254), (10, 346, 8, 1264), (10, 349, 9, 1265), (10, 352, 55, 1270), (10, 356, 56, 1282), (10, 360, 58, 1290), (10, 363, 59, 1297), (10, 366, 60, 1300), (10, 369, 61, 1303), (10, 372, 192, 1310), (10, 375, 65, 1317), (10, 385, 191, 1314), (10, 388, 339, 1333), (10, 393, 62, 1339), (10, 396, 186, 1342), (10, 400, 63, 1350), (10, 404, 64, 1356), (10, 407, 57, 1361), (10, 411, 194, 1368), (10, 418, 7, 1377), (10, 421, 193, 1391), (10, 424, 77, 1399), (10, 433, 68, 1424), (10, 465, 1, 1373), (10, 468, 12, 1378), (10, 471, 13, 1382), (11, 80, 196, 1484), (11, 90, 201, 1688), (11, 94, 202, 1769), (11, 97, 200, 1628), (11, 101, 205, 1625), (11, 104, 208, 1636), (11, 108, 206, 1640), (11, 117, 214, 1656), (11, 126, 215, 1676), (11, 138, 216, 1680), (11, 141, 217, 1683), (11, 145, 342, 1687), (11, 150, 343, 1701), (11, 156, 344, 1702), (11, 166, 218, 1672), (11, 169, 219, 1761), (11, 172, 221, 1703), (11, 175, 220, 1697), (11, 179, 227, 1730), (11, 185, 226, 1722), (11, 189, 228, 1726), (11, 192, 231, 1715), (11, 195, 234, 1718), (11, 199, 224, 1734), (11, 203, 225, 1707), (11, 206, 232, 1742), (11, 209, 235, 1753), (11, 212, 233, 1745), (11, 215, 237, 1749), (11, 221, 236, 1711), (11, 225, 238, 1738), (11, 228, 223, 1757), (11, 231, 222, 1668), (11, 235, 239, 1692), (11, 238, 230, 1765), (11, 241, 241, 1785), (11, 244, 242, 1789), (11, 253, 243, 1781), (11, 256, 244, 1777), (11, 259, 247, 1845), (11, 262, 212, 1955), (11, 266, 251, 1821), (11, 269, 252, 1805), (11, 272, 253, 1817), (11, 275, 254, 1853), (11, 278, 258, 1801), (11, 281, 257, 1813), (11, 284, 260, 1797), (11, 287, 261, 1809), (11, 290, 246, 1829), (11, 293, 203, 1837), (11, 296, 255, 1849), (11, 299, 256, 1857), (11, 302, 259, 1861), (11, 305, 248, 1873), (11, 308, 268, 1881), (11, 311, 270, 1893), (11, 314, 269, 1885), (11, 317, 271, 1889), (11, 320, 273, 1901), (11, 323, 341, 1925), (11, 326, 276, 1921), (11, 329, 277, 1917), (11, 332, 278, 1926), (11, 335, 275, 1909), (11, 338, 279, 1913), (11, 343, 286, 1958), (11, 356, 293, 1988), (11, 359, 291, 1991), (11, 362, 292, 1995), (11, 365, 294, 1999), (11, 371, 295, 1984), (11, 376, 300, 2023), (11, 380, 301, 2019), (11, 383, 302, 2028), (11, 386, 306, 2044), (11, 390, 250, 2060), (11, 393, 308, 2068), (11, 397, 249, 2056), (11, 400, 310, 2052), (11, 403, 309, 2064), (11, 406, 204, 2080), (11, 419, 316, 2097), (11, 422, 317, 2103), (11, 426, 321, 2115), (11, 429, 322, 2123), (11, 436, 326, 2148), (11, 439, 327, 2153), (11, 445, 328, 2144), (11, 448, 329, 2157), (11, 451, 330, 2161), (11, 456, 331, 2140), (11, 466, 335, 2177), (12, 11, 82, 1224), (12, 15, 6, 1228), (12, 21, 15, 1229), (12, 25, 11, 1233), (12, 29, 13, 1234), (12, 33, 16, 1235), (12, 37, 7, 1227), (12, 45, 341, 1239), (12, 51, 342, 1242), (12, 54, 84, 1257), (13, 9, 127, 143), (13, 12, 195, 1480), (13, 13, 128, 697), (13, 17, 197, 1609), (13, 18, 129, 701), (13, 22, 198, 1613), (13, 23, 130, 705), (13, 26, 199, 1617), (13, 27, 131, 709), (13, 31, 207, 1621), (13, 34, 132, 729), (13, 38, 209, 1632), (13, 39, 133, 749), (13, 43, 210, 1643), (13, 44, 134, 761), (13, 48, 211, 1648), (13, 49, 135, 779), (13, 53, 213, 1652), (13, 54, 136, 787), (13, 58, 240, 1664), (13, 59, 137, 929), (13, 62, 245, 1773), (13, 63, 138, 984), (13, 66, 229, 1660), (13, 67, 139, 988), (13, 70, 262, 1793), (13, 71, 140, 1021), (13, 75, 263, 1825), (13, 76, 141, 1030), (13, 79, 264, 1833), (13, 80, 142, 1039), (13, 83, 265, 1841), (13, 84, 143, 1064), (13, 87, 266, 1865), (13, 88, 144, 1068), (13, 91, 267, 1869), (13, 92, 145, 1078), (13, 95, 272, 1877), (13, 96, 146, 1091), (13, 99, 274, 1897), (13, 100, 147, 1099), (13, 103, 280, 1905), (13, 104, 148, 1162), (13, 107, 281, 1930), (13, 108, 149, 1167), (13, 112, 284, 1942), (13, 113, 150, 1178), (13, 116, 285, 1946), (13, 117, 151, 1182), (13, 120, 287, 1950), (13, 121, 152, 1191), (13, 124, 288, 1962), (13, 125, 153, 1195), (13, 129, 289, 1967), (13, 130, 154, 1200), (13, 133, 290, 1973), (13, 134, 155, 1206), (13, 137, 282, 1934), (13, 138, 156, 1212), (13, 141, 283, 1938), (13, 142, 157, 1217), (13, 145, 296, 1979), (13, 146, 158, 1243), (13, 149, 297, 2003), (13, 150, 159, 1250), (13, 153, 298, 2007), (13, 154, 160, 1260), (13, 157, 299, 2011), (13, 158, 161, 1266), (13, 161, 303, 2015), (13, 162, 162, 1274), (13, 165, 304, 2032), (13, 166, 163, 1278), (13, 169, 305, 2036), (13, 170, 164, 1286), (13, 173, 307, 2040), (13, 174, 165, 1306), (13, 177, 311, 2048), (13, 178, 166, 1325), (13, 181, 312, 2072), (13, 182, 167, 1329), (13, 185, 313, 2076), (13, 186, 168, 1346), (13, 189, 314, 2084), (13, 190, 169, 1357), (13, 193, 315, 2089), (13, 194, 170, 1364), (13, 197, 318, 2093), (13, 198, 171, 1383), (13, 202, 319, 2107), (13, 203, 172, 1387), (13, 206, 320, 2111), (13, 207, 173, 1395), (13, 210, 323, 2119), (13, 211, 174, 1412), (13, 214, 324, 2127), (13, 215, 175, 1416), (13, 218, 325, 2131), (13, 219, 176, 1420), (13, 222, 332, 2135), (13, 223, 177, 1462), (13, 226, 333, 2165), (13, 227, 178, 1466), (13, 230, 334, 2169), (13, 231, 179, 1470), (13, 234, 336, 2173), (13, 235, 180, 1474), (13, 238, 337, 2181), (16, 335, 345, 180), (16, 492, 346, 190), (16, 495, 348, 194), (16, 1059, 349, 202), (17, 9, 347, 197)]
def tx_cls : List (Nat × Nat × Int × Nat) := [(4, 139, 65536, 1455), (11, 144, 100000, 1686), (11, 375, 1000000, 2027), (11, 435, 65536, 2152), (14, 265, 1431655765, 1336), (14, 266, 858993459, 1337), (14, 267, 252645135, 1338)]
def tx_lcs : List (Nat × Nat × Int × Nat) := [(10, 463, 4, 1372), (11, 112, (-1), 1647), (11, 341, 60, 1954), (11, 346, 9, 1966), (11, 348, 6, 1971), (11, 350, 30, 1972), (11, 352, 99, 1977), (11, 354, 16, 1978), (11, 369, 7, 1983), (11, 410, 12, 2088), (11, 412, 20, 2101), (11, 414, 3, 2102), (11, 454, 9999, 2139), (13, 32, 4294967295, 2185)]
def tx_kls : List (Nat × Nat × Nat × Nat) := [(1, 49, 8, 321), (10, 7, 7, 149), (10, 20, 6, 169), (10, 29, 2, 277), (10, 38, 9, 293), (10, 45, 1, 315), (10, 59, 0, 497), (10, 66, 3, 547), (10, 73, 5, 577), (10, 80, 4, 595), (13, 7, 10, 141), (13, 10, 11, 1478)]
def tx_gls : List (Nat × Nat × Int × Nat) := [(10, 318, (-3), 1204), (10, 321, (-4), 1205), (16, 38, 1, 184), (16, 1053, (-10), 200)]
def tx_ols : List (Nat × Nat × Nat) := [(0, 3, 502), (1, 3, 320), (2, 3, 282), (3, 3, 552), (4, 3, 600), (5, 3, 582), (6, 3, 174), (7, 3, 154), (8, 1, 326), (9, 3, 298), (10, 1, 146), (11, 1, 1483)]
def tx_als : List (Nat × Nat × Nat) := [(1, 69, 380), (3, 75, 1324), (5, 31, 1406), (7, 34, 778), (8, 39, 924)]
def tx_code : List Nat := [501, 1376, 1111, 1115, 1106, 1151, 1124, 1155, 1128, 1132, 1147, 1120, 1381, 1136, 1143, 1232, 1238, 319, 377, 919, 894, 902, 1028, 1046, 1075, 878, 882, 910, 999, 1054, 1050, 1058, 995, 1003, 1008, 1020, 1159, 1016, 1063, 1012, 1085, 1089, 1098, 386, 1189, 281, 794, 836, 840, 866, 898, 886, 870, 906, 551, 1272, 1284, 1363, 1292, 1299, 1302, 1305, 1341, 1352, 1355, 1320, 1323, 599, 1427, 1430, 1434, 1437, 1441, 1448, 1460, 1454, 581, 1402, 1405, 1410, 1223, 1249, 1226, 1256, 1259, 173, 799, 806, 813, 820, 824, 828, 832, 844, 862, 858, 890, 852, 874, 802, 809, 816, 153, 716, 741, 769, 773, 736, 724, 745, 760, 777, 748, 325, 390, 952, 923, 297, 936, 944, 948, 956, 971, 975, 966, 960, 981, 145, 700, 704, 708, 712, 732, 752, 764, 782, 790, 932, 987, 991, 1024, 1033, 1042, 1067, 1071, 1081, 1094, 1102, 1165, 1170, 1181, 1185, 1194, 1198, 1203, 1209, 1215, 1220, 1246, 1253, 1263, 1269, 1277, 1281, 1289, 1309, 1328, 1332, 1349, 1360, 1367, 1386, 1390, 1398, 1415, 1419, 1423, 1465, 1469, 1473, 1477, 928, 1038, 756, 728, 720, 1345, 786, 915, 1174, 1177, 1316, 1313, 1394, 1371, 1482, 1487, 1612, 1616, 1620, 1631, 1691, 1772, 1840, 2083, 1627, 1642, 1624, 1639, 1635, 1646, 1651, 1957, 1655, 1659, 1679, 1682, 1685, 1675, 1764, 1700, 1706, 1671, 1760, 1737, 1710, 1725, 1733, 1729, 1663, 1768, 1717, 1744, 1748, 1721, 1756, 1714, 1752, 1741, 1695, 1667, 1788, 1792, 1784, 1780, 1776, 1832, 1848, 1876, 2059, 2063, 1824, 1808, 1820, 1856, 1852, 1860, 1816, 1804, 1864, 1800, 1812, 1796, 1828, 1836, 1844, 1868, 1872, 1884, 1888, 1896, 1892, 1880, 1904, 1900, 1912, 1924, 1920, 1929, 1916, 1908, 1933, 1937, 1941, 1945, 1949, 1961, 1953, 1965, 1970, 1976, 1994, 1998, 1990, 2002, 1987, 1982, 2006, 2010, 2014, 2026, 2022, 2031, 2018, 2035, 2039, 2047, 2043, 2071, 2067, 2055, 2051, 2075, 2079, 2087, 2092, 2100, 2106, 2096, 2110, 2114, 2118, 2126, 2122, 2130, 2134, 2151, 2156, 2147, 2160, 2164, 2143, 2138, 2168, 2172, 2180, 2176, 2184, 0, 1335, 1295, 1241, 1139, 179, 189, 183, 193, 199, 196, 204]
def tx_inst : List (Nat × Nat) := [(0, 500), (1, 1374), (2, 1109), (3, 1114), (4, 1104), (5, 1150), (6, 1122), (7, 1153), (8, 1126), (9, 1130), (10, 1145), (11, 1118), (12, 1379), (13, 1134), (14, 1142), (15, 1230), (16, 1236), (17, 318), (18, 375), (19, 917), (20, 892), (21, 900), (22, 1026), (23, 1044), (24, 1073), (25, 876), (26, 880), (27, 908), (28, 997), (29, 1052), (30, 1048), (31, 1056), (32, 993), (33, 1001), (34, 1006), (35, 1018), (36, 1157), (37, 1014), (38, 1061), (39, 1010), (40, 1083), (41, 1087), (42, 1096), (43, 384), (44, 1187), (45, 280), (46, 792), (47, 835), (48, 839), (49, 865), (50, 897), (51, 885), (52, 869), (53, 905), (54, 550), (65, 1318), (67, 598), (68, 1425), (70, 1433), (73, 1447), (74, 1459), (75, 1453), (76, 580), (77, 1400), (79, 1409), (85, 172), (86, 797), (87, 805), (88, 812), (89, 819), (90, 823), (91, 827), (92, 830), (93, 842), (94, 860), (95, 856), (96, 888), (97, 850), (98, 872), (102, 152), (103, 714), (104, 739), (105, 767), (106, 771), (107, 734), (108, 722), (109, 743), (110, 758), (111, 775), (113, 324), (114, 388), (115, 950), (116, 921), (117, 296), (118, 934), (119, 943), (121, 955), (122, 970), (123, 974), (124, 965), (125, 959), (126, 980), (127, 144), (128, 698), (129, 702), (130, 706), (131, 710), (132, 730), (133, 750), (134, 762), (135, 780), (136, 788), (137, 930), (138, 985), (139, 989), (140, 1022), (141, 1031), (142, 1040), (143, 1065), (144, 1069), (145, 1079), (146, 1092), (147, 1100), (148, 1163), (149, 1168), (150, 1179), (151, 1183), (152, 1192), (153, 1196), (154, 1201), (155, 1207), (156, 1213), (157, 1218), (158, 1244), (159, 1251), (160, 1261), (161, 1267), (162, 1275), (163, 1279), (164, 1287), (165, 1307), (166, 1326), (167, 1330), (168, 1347), (169, 1358), (170, 1365), (171, 1384), (172, 1388), (173, 1396), (174, 1413), (175, 1417), (176, 1421), (177, 1463), (178, 1467), (179, 1471), (180, 1475), (181, 927), (182, 1037), (183, 755), (184, 727), (185, 719), (186, 1344), (187, 785), (188, 914), (189, 1173), (192, 1312), (193, 1393), (194, 1370), (195, 1481), (196, 1486), (197, 1610), (198, 1614), (199, 1618), (200, 1630), (201, 1690), (202, 1771), (203, 1839), (204, 2082), (207, 1622), (208, 1638), (209, 1633), (210, 1644), (211, 1649), (213, 1653), (214, 1658), (215, 1678), (218, 1674), (219, 1763), (220, 1699), (221, 1705), (222, 1670), (223, 1759), (224, 1736), (225, 1709), (226, 1724), (227, 1732), (228, 1728), (229, 1661), (230, 1767), (233, 1747), (234, 1720), (235, 1755), (236, 1713), (237, 1751), (238, 1740), (239, 1694), (240, 1665), (241, 1787), (242, 1791), (243, 1783), (244, 1779), (245, 1774), (246, 1831), (247, 1847), (248, 1875), (249, 2058), (250, 2062), (251, 1823), (252, 1807), (253, 1819), (254, 1855), (255, 1851), (256, 1859), (257, 1815), (258, 1803), (259, 1863), (260, 1799), (261, 1811), (262, 1794), (263, 1826), (264, 1834), (265, 1842), (266, 1866), (267, 1870), (268, 1883), (269, 1887), (270, 1895), (271, 1891), (272, 1878), (273, 1903), (274, 1898), (275, 1911), (276, 1923), (277, 1919), (278, 1928), (279, 1915), (280, 1906), (281, 1931), (282, 1935), (283, 1939), (284, 1943), (285, 1947), (286, 1960), (287, 1951), (288, 1963), (289, 1968), (290, 1974), (291, 1993), (292, 1997), (294, 2001), (295, 1986), (296, 1980), (297, 2004), (298, 2008), (299, 2012), (300, 2025), (301, 2021), (302, 2030), (303, 2016), (304, 2033), (305, 2037), (306, 2046), (307, 2041), (308, 2070), (309, 2066), (310, 2054), (311, 2049), (312, 2073), (313, 2077), (314, 2085), (315, 2090), (316, 2099), (317, 2105), (318, 2094), (319, 2108), (320, 2112), (321, 2117), (322, 2125), (323, 2120), (324, 2128), (325, 2132), (326, 2150), (327, 2155), (328, 2146), (329, 2159), (330, 2163), (331, 2142), (332, 2136), (333, 2166), (334, 2170), (335, 2179), (336, 2174), (337, 2182), (343, 177), (344, 187), (345, 181), (346, 191)]
def tx_stat : List (Nat × Nat) := [(55, 1271), (56, 1283), (57, 1362), (58, 1291), (59, 1298), (60, 1301), (61, 1304), (62, 1340), (63, 1351), (64, 1354), (66, 1322), (69, 1429), (71, 1436), (72, 1440), (78, 1404), (80, 1222), (81, 1248), (82, 1225), (83, 1255), (84, 1258), (99, 801), (100, 808), (101, 815), (112, 747), (120, 947), (190, 1176), (191, 1315), (205, 1626), (206, 1641), (212, 1956), (216, 1681), (217, 1684), (231, 1716), (232, 1743), (293, 1989), (339, 1334), (340, 1294), (341, 1240), (342, 1138), (347, 198), (348, 195), (349, 203)]
def tx_sel : List (Nat × Nat) := [(1, 1375), (2, 1110), (3, 26), (4, 1105), (5, 28), (6, 1123), (7, 1154), (8, 1127), (9, 1131), (10, 1146), (11, 1119), (12, 1380), (13, 1135), (14, 27), (15, 1231), (16, 1237), (18, 376), (19, 918), (20, 893), (21, 901), (22, 1027), (23, 1045), (24, 1074), (25, 877), (26, 881), (27, 909), (28, 998), (29, 1053), (30, 1049), (31, 1057), (32, 994), (33, 1002), (34, 1007), (35, 1019), (36, 1158), (37, 1015), (38, 1062), (39, 1011), (40, 1084), (41, 1088), (42, 1097), (43, 385), (44, 1188), (46, 793), (47, 9), (48, 10), (49, 11), (50, 14), (51, 13), (52, 12), (53, 15), (65, 1319), (68, 1426), (70, 35), (73, 36), (74, 38), (75, 37), (77, 1401), (79, 34), (86, 798), (87, 4), (88, 5), (89, 6), (90, 7), (91, 8), (92, 831), (93, 843), (94, 861), (95, 857), (96, 889), (97, 851), (98, 873), (103, 715), (104, 740), (105, 768), (106, 772), (107, 735), (108, 723), (109, 744), (110, 759), (111, 776), (114, 389), (115, 951), (116, 922), (118, 935), (119, 18), (121, 19), (122, 22), (123, 23), (124, 21), (125, 20), (126, 24), (128, 699), (129, 703), (130, 707), (131, 711), (132, 731), (133, 751), (134, 763), (135, 781), (136, 789), (137, 931), (138, 986), (139, 990), (140, 1023), (141, 1032), (142, 1041), (143, 1066), (144, 1070), (145, 1080), (146, 1093), (147, 1101), (148, 1164), (149, 1169), (150, 1180), (151, 1184), (152, 1193), (153, 1197), (154, 1202), (155, 1208), (156, 1214), (157, 1219), (158, 1245), (159, 1252), (160, 1262), (161, 1268), (162, 1276), (163, 1280), (164, 1288), (165, 1308), (166, 1327), (167, 1331), (168, 1348), (169, 1359), (170, 1366), (171, 1385), (172, 1389), (173, 1397), (174, 1414), (175, 1418), (176, 1422), (177, 1464), (178, 1468), (179, 1472), (180, 1476), (181, 17), (182, 25), (183, 2), (184, 1), (185, 0), (186, 31), (187, 3), (188, 16), (189, 29), (192, 30), (193, 33), (194, 32), (196, 39), (197, 1611), (198, 1615), (199, 1619), (200, 40), (201, 46), (202, 64), (203, 77), (204, 108), (207, 1623), (208, 41), (209, 1634), (210, 1645), (211, 1650), (213, 1654), (214, 42), (215, 45), (218, 44), (219, 62), (220, 48), (221, 49), (222, 43), (223, 61), (224, 56), (225, 50), (226, 53), (227, 55), (228, 54), (229, 1662), (230, 63), (233, 58), (234, 52), (235, 60), (236, 51), (237, 59), (238, 57), (239, 47), (240, 1666), (241, 67), (242, 68), (243, 66), (244, 65), (245, 1775), (246, 76), (247, 78), (248, 83), (249, 104), (250, 105), (251, 75), (252, 71), (253, 74), (254, 80), (255, 79), (256, 81), (257, 73), (258, 70), (259, 82), (260, 69), (261, 72), (262, 1795), (263, 1827), (264, 1835), (265, 1843), (266, 1867), (267, 1871), (268, 84), (269, 85), (270, 87), (271, 86), (272, 1879), (273, 88), (274, 1899), (275, 89), (276, 92), (277, 91), (278, 93), (279, 90), (280, 1907), (281, 1932), (282, 1936), (283, 1940), (284, 1944), (285, 1948), (286, 94), (287, 1952), (288, 1964), (289, 1969), (290, 1975), (291, 96), (292, 97), (294, 98), (295, 95), (296, 1981), (297, 2005), (298, 2009), (299, 2013), (300, 100), (301, 99), (302, 101), (303, 2017), (304, 2034), (305, 2038), (306, 102), (307, 2042), (308, 107), (309, 106), (310, 103), (311, 2050), (312, 2074), (313, 2078), (314, 2086), (315, 2091), (316, 109), (317, 110), (318, 2095), (319, 2109), (320, 2113), (321, 111), (322, 112), (323, 2121), (324, 2129), (325, 2133), (326, 115), (327, 116), (328, 114), (329, 117), (330, 118), (331, 113), (332, 2137), (333, 2167), (334, 2171), (335, 119), (336, 2175), (337, 2183), (343, 178), (344, 188), (345, 182), (346, 192)]
def tx_ini : List (Nat × Nat) := [(0, 133), (1, 130), (2, 128), (3, 134), (4, 136), (5, 135), (6, 123), (7, 122), (8, 131), (9, 129), (10, 121), (11, 137), (12, 139), (13, 120), (14, 140), (15, 138), (16, 124), (17, 125), (18, 126)]
def mdN (y : Nat) : MD := metas.getD y (⟨"", "", ""⟩, ⟨#[]⟩, 0, none)
def clN (ci : Nat) : vw_C := vwCl.getD ci ("", fun _ => ("", "", "", false), 0)
def gsN (v : Int) : String × String × String := if v = -3 then ("BestMenDuel", "RULE_LOW", "[I") else if v = -4 then ("BestMenDuel", "RULE_HIGH", "[I") else if v = -5 then ("BestMenDuel", "RULE_USUAL", "[I") else if v = 1 then ("java/lang/String", "COMPACT_STRINGS", "Z") else ("jdk/internal/util/Preconditions", "SIOOBE_FORMATTER", "Ljava/util/function/BiFunction;")
end
section
/-! WHAT EACH INSTRUCTION RESTS ON, as a test; every instruction of every method passes it -/
def jB (pc : Nat) (o : Int) : Bool := decide (0 ≤ (pc : Int) + o)
def argN (d : String) : Option Nat := (parseMethodDescriptor d).map (fun d => d.parameters.length)
def atK (a : ArrayType) : Nat := match a with
  | .int => 20
  | .long => 21
  | .byte => 22
  | .short => 23
  | _ => 99
def eB (o : Nat) (ini : Bool) (ml pc : Nat) (i : Instr) (len : Nat) (ax : Nat × Nat × Nat × Int) : Bool :=
  match i with
  | .iconst n => decide (-1 ≤ n) && decide (n ≤ 5)
  | .bipush n => decide (-128 ≤ n) && decide (n < 128)
  | .sipush n => decide (-32768 ≤ n) && decide (n < 32768)
  | .ldc x => len == 2 && (if ax.1 = 1 then (o == 6 && x == 29 && ax.2.2.2 == -8) || (o == 11 && x == 183 && ax.2.2.2 == -9) else tx_cls.any (fun f => f.1 == o && f.2.1 == x && f.2.2.1 == ax.2.2.2))
  | .ldc_w x => len == 3 && !(ax.1 == 1) && tx_cls.any (fun f => f.1 == o && f.2.1 == x && f.2.2.1 == ax.2.2.2)
  | .ldc2_w x => tx_lcs.any (fun f => f.1 == o && f.2.1 == x && f.2.2.1 == ax.2.2.2)
  | .istore_n n => decide (n.val < ml)
  | .istore n => decide (n < ml)
  | .astore_n n => decide (n.val < ml)
  | .astore n => decide (n < ml)
  | .lstore_n n => decide (n.val + 1 < ml)
  | .lstore n => decide (n + 1 < ml)
  | .iinc n _ => decide (n < ml) && len == 3
  | .goto o => jB pc o
  | .ifCond _ o => jB pc o
  | .if_icmp _ o => jB pc o
  | .tableswitch d _ _ offs => jB pc d && offs.toList.all (jB pc)
  | .lookupswitch d ps => jB pc d && ps.toList.all (fun q => jB pc q.2) && (ps.toList.zip (ps.toList.drop 1)).all (fun (a, next) => a.1 < next.1)
  | .getfield x => if ax.1 = 40 then o == 16 && ((x == 9 && ax.2.1 == 0) || (x == 15 && ax.2.1 == 1)) else decide (ax.1 < 12) && tx_fls.any (fun f => f.1 == o && f.2.1 == x && f.2.2.1 == ax.1 && f.2.2.2.1 == ax.2.1) && decide (ax.2.1 < (clN ax.1).2.2) && ax.2.2.1 == tagF (tyC ax.1 ax.2.1)
  | .putfield x => decide (ax.1 < 12) && tx_fls.any (fun f => f.1 == o && f.2.1 == x && f.2.2.1 == ax.1 && f.2.2.2.1 == ax.2.1) && decide (ax.2.1 < (clN ax.1).2.2) && ax.2.2.1 == tagF (tyC ax.1 ax.2.1) && (!((clN ax.1).2.1 ax.2.1).2.2.2 || (ini && ax.1 == o))
  | .getstatic x => (tx_gls.any (fun f => f.1 == o && f.2.1 == x && f.2.2.1 == ax.2.2.2) && ((ax.1 == 1 && (ax.2.2.2 == -3 || ax.2.2.2 == -4 || ax.2.2.2 == -10)) || (ax.1 == 0 && ax.2.2.2 == 1))) || (ax.1 == 1 && ((o == 1 && x == 66 && ax.2.2.2 == -5) || (o == 2 && x == 60 && ax.2.2.2 == -3) || (o == 2 && x == 64 && ax.2.2.2 == -4) || (o == 9 && x == 108 && ax.2.2.2 == -4)))
  | .new x => decide (ax.1 < 12) && tx_kls.any (fun f => f.1 == o && f.2.1 == x && f.2.2.1 == ax.1) && (clN ax.1).2.2 == ax.2.1
  | .newarray a => ax.1 == atK a && decide (ax.1 < 24)
  | .anewarray x => o == 10 && x == 45
  | .multianewarray x n => o == 7 && x == 11 && n == 2
  | .aaload => ax.1 == 24 || ax.1 == 25
  | .invokevirtual x => ax.1 == 9999 || (tx_mls.any (fun f => f.1 == o && f.2.1 == x && f.2.2.1 == ax.1) && decide (ax.1 < 350) && tx_inst.any (fun f => f.1 == ax.1) && tx_sel.any (fun f => f.1 == ax.1) && argN (mdN ax.1).1.desc == some ax.2.1 && (if ax.2.2.1 = 40 then (mdN ax.1).1.cls == "java/lang/String" else decide (ax.2.2.1 < 12) && (mdN ax.1).1.cls == (clN ax.2.2.1).1))
  | .invokespecial x => if ax.2.2.2 = 1 then tx_ols.any (fun f => f.1 == o && f.2.1 == x) && decide (ax.1 < 12) else ax.1 == 9999 || (tx_mls.any (fun f => f.1 == o && f.2.1 == x && f.2.2.1 == ax.1) && decide (ax.1 < 350) && tx_inst.any (fun f => f.1 == ax.1) && argN (mdN ax.1).1.desc == some ax.2.1 && (mdN ax.1).1.name == "<init>" && decide ((mdN ax.1).2.2.2 = none))
  | .invokestatic x => if ax.2.2.2 = 1 then tx_als.any (fun f => f.1 == o && f.2.1 == x) else ax.1 == 9999 || (tx_mls.any (fun f => f.1 == o && f.2.1 == x && f.2.2.1 == ax.1) && decide (ax.1 < 350) && tx_stat.any (fun f => f.1 == ax.1) && argN (mdN ax.1).1.desc == some ax.2.1)
  | _ => true
def rkT (t : Option FieldType) : Nat := match t with
  | none => 0
  | some .int => 1
  | some .long => 2
  | some .boolean => 3
  | some .byte => 4
  | some .char => 4
  | _ => 9
noncomputable def chkM (y : Nat) : Bool := plainName (mdN y).1.cls && (mdN y).1.cls == ownN (ownY.getD y 0) && rkT (mdN y).2.2.2 == rkOf y && (mdN y).2.2.1 == mlOf y && decide ((mdN y).2.2.1 ≤ 40) && !((mdN y).1.cls == "java/lang/invoke/MethodHandle") && !((mdN y).1.cls == "java/lang/invoke/VarHandle") &&
  (tabOf y).all (fun e => decide (decode (mdN y).2.1 e.1 = .ok e.2.1) && eB (ownY.getD y 0) ((mdN y).1.name == "<init>") (mdN y).2.2.1 e.1 e.2.1.1 e.2.1.2 e.2.2)
end
section
/-! THE MACHINE DOES WHAT THE ABSTRACT MACHINE DOES, an instruction a row (written by wip/tools/gensim.py) -/
def asl (G : GG) (L : Lv) : List (Nat × Value) := L.zipIdx.filterMap fun q => q.1.map fun v => (q.2, cv G v)
def LR (G : GG) (S : Sh) (nL : Nat) (ls : Array Slot) (L : Lv) : Prop := L.length = nL ∧ lv_has ls nL (asl G L) ∧ ∀ v, some v ∈ L → okV S v
def FC (G : GG) (p : Program) (s : State) (m : MethodId) (args : Array Value) (meth : Method) (c : Code) (y : Nat) (R : Room) : Prop :=
  p.tables.exec = Jvm.exec ∧ c.code = (mdN y).2.1 ∧ c.maxLocals = (mdN y).2.2.1 ∧ s.vm.findClass (mdN y).1.cls = some m.cls ∧ (∀ w ∈ TG, w.before args s = true) ∧ CX G s ∧ ((mdN y).1.name = "<init>" → meth.name = "<init>") ∧ 1 ≤ R.frames ∧ 64 ≤ R.locals
def AtC (G : GG) (s : State) (y : Nat) (L : Lv) (st : List AV) (S : Sh) (h : Mem) (ls : Array Slot) (H : Heap) (locs : List Loc) : Prop := Rel G S h H ∧ va_S (gA G) s.heap H locs ∧ LR G S (mdN y).2.2.1 ls L ∧ ∀ v ∈ st, okV S v
def WC (G : GG) (p : Program) (l : Launch) (e : Env) (R : Room) (s : State) (m : MethodId) (args : Array Value) (below : List Frame) (meth : Method) (c : Code) (Q : State → Prop) (y pc : Nat) (L : Lv) (st : List AV) (S : Sh) (h : Mem) (cells slots : Nat) : Prop :=
  ∀ (ls : Array Slot) (H : Heap) (locs : List Loc), AtC G s y L st S h ls H locs → W p l e R s m args below meth c H locs cells slots Q (F0 m pc ls (st.map (cv G)))
theorem asl_mem {G : GG} {L : Lv} {i : Nat} {w : Value} : (i, w) ∈ asl G L ↔ ∃ v, L[i]? = some (some v) ∧ w = cv G v := by
  unfold asl
  rw [List.mem_filterMap]
  constructor
  · rintro ⟨⟨o, j⟩, h1, h2⟩
    cases o with
    | none => cases h2
    | some v =>
      cases h2
      exact ⟨v, List.mem_zipIdx_iff_getElem?.mp h1, rfl⟩
  · rintro ⟨v, h1, rfl⟩
    exact ⟨(some v, i), List.mem_zipIdx_iff_getElem?.mpr h1, rfl⟩
theorem LR_at {G : GG} {S : Sh} {nL i : Nat} {ls : Array Slot} {L : Lv} {v : AV} (hL : LR G S nL ls L) (h : L[i]? = some (some v)) : ls[i]? = some (.val (cv G v)) ∧ okV S v :=
  ⟨hL.2.1.2.2 (i, cv G v) (asl_mem.mpr ⟨v, h, rfl⟩), hL.2.2 v (List.mem_of_getElem? h)⟩
theorem okV_mono {S S' : Sh} {v : AV} (h : S.length ≤ S'.length) (hv : okV S v) : okV S' v := by
  unfold okV at *
  split at hv
  · exact hv
  · exact hv
  · exact ⟨by omega, hv.2⟩
theorem cat_cv1 {G : GG} {S : Sh} {v : AV} (hG : ∀ r : Int, -10 ≤ r → r ≤ -2 → (gR G r).category = 1) (hv : okV S v) (h : cat v = 1) : (cv G v).category = 1 := by
  match v, hv, h with
  | .inl x, _, _ => rfl
  | .inr (.inl x), _, h => cases h
  | .inr (.inr r), hv, _ =>
    rw [cv_r]
    split
    · next z => exact hG r (hv.2 z).1 (hv.2 z).2
    · split <;> rfl
theorem CX_ro {G : GG} {s : State} (h : CX G s) : ∀ r : Int, -10 ≤ r → r ≤ -2 → (gR G r).category = 1 := by
  obtain ⟨-, -, ⟨b, hb1, -⟩, -, ⟨t3, a3, -⟩, ⟨t4, a4, -⟩, ⟨t5, a5, -⟩, ⟨q1, t1, a1, a1', -⟩, ⟨q2, t2, a2, a2', -⟩, ⟨-, -, o, g2⟩, -⟩ := h
  intro r h1 h2
  have hr : r = -10 ∨ r = -9 ∨ r = -8 ∨ r = -7 ∨ r = -6 ∨ r = -5 ∨ r = -4 ∨ r = -3 ∨ r = -2 := by omega
  rcases hr with rfl | rfl | rfl | rfl | rfl | rfl | rfl | rfl | rfl
  · rw [g2]; cases o <;> rfl
  · rw [a2]; rfl
  · rw [a1]; rfl
  · rw [a2']; rfl
  · rw [a1']; rfl
  · rw [a5]; rfl
  · rw [a4]; rfl
  · rw [a3]; rfl
  · rw [hb1]; rfl
theorem s_iconst {G : GG} {p : Program} {l : Launch} {e : Env} {R : Room} {s : State} {m : MethodId} {args : Array Value} {below : List Frame} {meth : Method} {c : Code} {Q : State → Prop} {y pc cells slots : Nat} {L : Lv} {r : List AV} {S : Sh} {h : Mem} {n : Int} (hn : okI n) (hd : decode (mdN y).2.1 pc = .ok (.iconst n, 1)) (F : FC G p s m args meth c y R)
    (k : WC G p l e R s m args below meth c Q y (pc + 1) L (.inl n :: r) S h cells slots) : WC G p l e R s m args below meth c Q y pc L r S h cells slots := by
  intro ls H locs ⟨hR, hS, hL, hV⟩
  obtain ⟨hx, hb, hml, hown, hts, hC, hini, hfr, hlo⟩ := F
  exact lv_iconst hx hb hd rfl (k ls H locs ⟨hR, hS, hL, List.forall_mem_cons.mpr ⟨hn, hV⟩⟩)
theorem s_bipush {G : GG} {p : Program} {l : Launch} {e : Env} {R : Room} {s : State} {m : MethodId} {args : Array Value} {below : List Frame} {meth : Method} {c : Code} {Q : State → Prop} {y pc cells slots : Nat} {L : Lv} {r : List AV} {S : Sh} {h : Mem} {n : Int} (hn : -128 ≤ n ∧ n < 128) (hd : decode (mdN y).2.1 pc = .ok (.bipush n, 2)) (F : FC G p s m args meth c y R)
    (k : WC G p l e R s m args below meth c Q y (pc + 2) L (.inl n :: r) S h cells slots) : WC G p l e R s m args below meth c Q y pc L r S h cells slots := by
  intro ls H locs ⟨hR, hS, hL, hV⟩
  obtain ⟨hx, hb, hml, hown, hts, hC, hini, hfr, hlo⟩ := F
  refine lv_bipush hx hb hd (v := Int32.ofInt n) ?_ (k ls H locs ⟨hR, hS, hL, List.forall_mem_cons.mpr ⟨okI_8 hn, hV⟩⟩)
  apply Int32.toInt_inj.mp
  rw [Int8.toInt_toInt32, toI (okI_8 hn), Int8.toInt_ofInt_of_le (by omega) (by omega)]
theorem s_sipush {G : GG} {p : Program} {l : Launch} {e : Env} {R : Room} {s : State} {m : MethodId} {args : Array Value} {below : List Frame} {meth : Method} {c : Code} {Q : State → Prop} {y pc cells slots : Nat} {L : Lv} {r : List AV} {S : Sh} {h : Mem} {n : Int} (hn : -32768 ≤ n ∧ n < 32768) (hd : decode (mdN y).2.1 pc = .ok (.sipush n, 3)) (F : FC G p s m args meth c y R)
    (k : WC G p l e R s m args below meth c Q y (pc + 3) L (.inl n :: r) S h cells slots) : WC G p l e R s m args below meth c Q y pc L r S h cells slots := by
  intro ls H locs ⟨hR, hS, hL, hV⟩
  obtain ⟨hx, hb, hml, hown, hts, hC, hini, hfr, hlo⟩ := F
  refine lv_sipush hx hb hd (v := Int32.ofInt n) ?_ (k ls H locs ⟨hR, hS, hL, List.forall_mem_cons.mpr ⟨okI_16 hn, hV⟩⟩)
  apply Int32.toInt_inj.mp
  rw [Int16.toInt_toInt32, toI (okI_16 hn), Int16.toInt_ofInt_of_le (by omega) (by omega)]
theorem s_lconst {G : GG} {p : Program} {l : Launch} {e : Env} {R : Room} {s : State} {m : MethodId} {args : Array Value} {below : List Frame} {meth : Method} {c : Code} {Q : State → Prop} {y pc cells slots : Nat} {L : Lv} {r : List AV} {S : Sh} {h : Mem} {n : Fin 2} (hd : decode (mdN y).2.1 pc = .ok (.lconst n, 1)) (F : FC G p s m args meth c y R)
    (k : WC G p l e R s m args below meth c Q y (pc + 1) L (.inr (.inl (n.val : Int)) :: r) S h cells slots) : WC G p l e R s m args below meth c Q y pc L r S h cells slots := by
  intro ls H locs ⟨hR, hS, hL, hV⟩
  obtain ⟨hx, hb, hml, hown, hts, hC, hini, hfr, hlo⟩ := F
  refine lv_lconst hx hb hd (v := Int64.ofInt (n.val : Int)) ?_ (k ls H locs ⟨hR, hS, hL, List.forall_mem_cons.mpr ⟨?_, hV⟩⟩)
  · match n with
    | ⟨0, _⟩ => rfl
    | ⟨1, _⟩ => rfl
  · show okJ (n.val : Int)
    unfold okJ
    have := n.isLt
    omega
theorem s_iload_n {G : GG} {p : Program} {l : Launch} {e : Env} {R : Room} {s : State} {m : MethodId} {args : Array Value} {below : List Frame} {meth : Method} {c : Code} {Q : State → Prop} {y pc cells slots : Nat} {L : Lv} {r : List AV} {S : Sh} {h : Mem} {n : Fin 4} {x : Int} (hl : L[n.val]? = some (some (.inl x))) (hd : decode (mdN y).2.1 pc = .ok (.iload_n n, 1)) (F : FC G p s m args meth c y R)
    (k : WC G p l e R s m args below meth c Q y (pc + 1) L (.inl x :: r) S h cells slots) : WC G p l e R s m args below meth c Q y pc L r S h cells slots := by
  intro ls H locs ⟨hR, hS, hL, hV⟩
  obtain ⟨hx, hb, hml, hown, hts, hC, hini, hfr, hlo⟩ := F
  exact lv_iload_n hx hb hd rfl (LR_at hL hl).1 (k ls H locs ⟨hR, hS, hL, List.forall_mem_cons.mpr ⟨(LR_at hL hl).2, hV⟩⟩)
theorem s_iload {G : GG} {p : Program} {l : Launch} {e : Env} {R : Room} {s : State} {m : MethodId} {args : Array Value} {below : List Frame} {meth : Method} {c : Code} {Q : State → Prop} {y pc cells slots : Nat} {L : Lv} {r : List AV} {S : Sh} {h : Mem} {n : Nat} {x : Int} (hl : L[n]? = some (some (.inl x))) (hd : decode (mdN y).2.1 pc = .ok (.iload n, 2)) (F : FC G p s m args meth c y R)
    (k : WC G p l e R s m args below meth c Q y (pc + 2) L (.inl x :: r) S h cells slots) : WC G p l e R s m args below meth c Q y pc L r S h cells slots := by
  intro ls H locs ⟨hR, hS, hL, hV⟩
  obtain ⟨hx, hb, hml, hown, hts, hC, hini, hfr, hlo⟩ := F
  exact lv_iload hx hb hd (LR_at hL hl).1 (k ls H locs ⟨hR, hS, hL, List.forall_mem_cons.mpr ⟨(LR_at hL hl).2, hV⟩⟩)
theorem s_lload_n {G : GG} {p : Program} {l : Launch} {e : Env} {R : Room} {s : State} {m : MethodId} {args : Array Value} {below : List Frame} {meth : Method} {c : Code} {Q : State → Prop} {y pc cells slots : Nat} {L : Lv} {r : List AV} {S : Sh} {h : Mem} {n : Fin 4} {x : Int} (hl : L[n.val]? = some (some (.inr (.inl x)))) (hd : decode (mdN y).2.1 pc = .ok (.lload_n n, 1)) (F : FC G p s m args meth c y R)
    (k : WC G p l e R s m args below meth c Q y (pc + 1) L (.inr (.inl x) :: r) S h cells slots) : WC G p l e R s m args below meth c Q y pc L r S h cells slots := by
  intro ls H locs ⟨hR, hS, hL, hV⟩
  obtain ⟨hx, hb, hml, hown, hts, hC, hini, hfr, hlo⟩ := F
  exact lv_lload_n hx hb hd rfl (LR_at hL hl).1 (k ls H locs ⟨hR, hS, hL, List.forall_mem_cons.mpr ⟨(LR_at hL hl).2, hV⟩⟩)
theorem s_lload {G : GG} {p : Program} {l : Launch} {e : Env} {R : Room} {s : State} {m : MethodId} {args : Array Value} {below : List Frame} {meth : Method} {c : Code} {Q : State → Prop} {y pc cells slots : Nat} {L : Lv} {r : List AV} {S : Sh} {h : Mem} {n : Nat} {x : Int} (hl : L[n]? = some (some (.inr (.inl x)))) (hd : decode (mdN y).2.1 pc = .ok (.lload n, 2)) (F : FC G p s m args meth c y R)
    (k : WC G p l e R s m args below meth c Q y (pc + 2) L (.inr (.inl x) :: r) S h cells slots) : WC G p l e R s m args below meth c Q y pc L r S h cells slots := by
  intro ls H locs ⟨hR, hS, hL, hV⟩
  obtain ⟨hx, hb, hml, hown, hts, hC, hini, hfr, hlo⟩ := F
  exact lv_lload hx hb hd (LR_at hL hl).1 (k ls H locs ⟨hR, hS, hL, List.forall_mem_cons.mpr ⟨(LR_at hL hl).2, hV⟩⟩)
theorem cv_isref {G : GG} {s : State} {S : Sh} {x : Int} (hC : CX G s) (hv : okV S (.inr (.inr x))) : ∃ o : Option Nat, cv G (.inr (.inr x)) = va_rf o := by
  rcases Int.lt_or_le x 0 with h0 | h0
  · rw [cv_ro h0]
    obtain ⟨-, -, ⟨b, hb1, -⟩, -, ⟨t3, a3, -⟩, ⟨t4, a4, -⟩, ⟨t5, a5, -⟩, ⟨q1, t1, a1, a1', -⟩, ⟨q2, t2, a2, a2', -⟩, ⟨-, -, g2⟩, -⟩ := hC
    have h1 := hv.2 h0
    have hr : x = -10 ∨ x = -9 ∨ x = -8 ∨ x = -7 ∨ x = -6 ∨ x = -5 ∨ x = -4 ∨ x = -3 ∨ x = -2 := by omega
    rcases hr with rfl | rfl | rfl | rfl | rfl | rfl | rfl | rfl | rfl
    · exact g2
    · exact ⟨some _, a2⟩
    · exact ⟨some _, a1⟩
    · exact ⟨some _, a2'⟩
    · exact ⟨some _, a1'⟩
    · exact ⟨some _, a5⟩
    · exact ⟨some _, a4⟩
    · exact ⟨some _, a3⟩
    · exact ⟨some _, hb1⟩
  · exact ⟨_, (rf_cv h0).symm⟩
theorem s_aload_n {G : GG} {p : Program} {l : Launch} {e : Env} {R : Room} {s : State} {m : MethodId} {args : Array Value} {below : List Frame} {meth : Method} {c : Code} {Q : State → Prop} {y pc cells slots : Nat} {L : Lv} {r : List AV} {S : Sh} {h : Mem} {n : Fin 4} {x : Int} (hl : L[n.val]? = some (some (.inr (.inr x)))) (hd : decode (mdN y).2.1 pc = .ok (.aload_n n, 1)) (F : FC G p s m args meth c y R)
    (k : WC G p l e R s m args below meth c Q y (pc + 1) L (.inr (.inr x) :: r) S h cells slots) : WC G p l e R s m args below meth c Q y pc L r S h cells slots := by
  intro ls H locs ⟨hR, hS, hL, hV⟩
  obtain ⟨hx, hb, hml, hown, hts, hC, hini, hfr, hlo⟩ := F
  have h1 := LR_at hL hl
  have h2 := k ls H locs ⟨hR, hS, hL, List.forall_mem_cons.mpr ⟨h1.2, hV⟩⟩
  obtain ⟨o, ho⟩ := cv_isref hC h1.2
  rw [ho] at h1
  rw [List.map_cons, ho] at h2
  cases o with
  | none => exact lv_aload_nN hx hb hd rfl h1.1 h2
  | some a => exact lv_aload_n hx hb hd rfl h1.1 h2
theorem s_aload {G : GG} {p : Program} {l : Launch} {e : Env} {R : Room} {s : State} {m : MethodId} {args : Array Value} {below : List Frame} {meth : Method} {c : Code} {Q : State → Prop} {y pc cells slots : Nat} {L : Lv} {r : List AV} {S : Sh} {h : Mem} {n : Nat} {x : Int} (hl : L[n]? = some (some (.inr (.inr x)))) (hd : decode (mdN y).2.1 pc = .ok (.aload n, 2)) (F : FC G p s m args meth c y R)
    (k : WC G p l e R s m args below meth c Q y (pc + 2) L (.inr (.inr x) :: r) S h cells slots) : WC G p l e R s m args below meth c Q y pc L r S h cells slots := by
  intro ls H locs ⟨hR, hS, hL, hV⟩
  obtain ⟨hx, hb, hml, hown, hts, hC, hini, hfr, hlo⟩ := F
  have h1 := LR_at hL hl
  have h2 := k ls H locs ⟨hR, hS, hL, List.forall_mem_cons.mpr ⟨h1.2, hV⟩⟩
  obtain ⟨o, ho⟩ := cv_isref hC h1.2
  rw [ho] at h1
  rw [List.map_cons, ho] at h2
  cases o with
  | none => exact lv_aloadN hx hb hd h1.1 h2
  | some a => exact lv_aload hx hb hd h1.1 h2
theorem s_iadd {G : GG} {p : Program} {l : Launch} {e : Env} {R : Room} {s : State} {m : MethodId} {args : Array Value} {below : List Frame} {meth : Method} {c : Code} {Q : State → Prop} {y pc cells slots : Nat} {L : Lv} {r : List AV} {S : Sh} {h : Mem} {a b : Int} (hd : decode (mdN y).2.1 pc = .ok (.iadd, 1)) (F : FC G p s m args meth c y R)
    (k : WC G p l e R s m args below meth c Q y (pc + 1) L (.inl (w32 (a + b)) :: r) S h cells slots) : WC G p l e R s m args below meth c Q y pc L (.inl b :: .inl a :: r) S h cells slots := by
  intro ls H locs ⟨hR, hS, hL, hV⟩
  obtain ⟨hx, hb, hml, hown, hts, hC, hini, hfr, hlo⟩ := F
  obtain ⟨hvb, hva, hV⟩ := (List.forall_mem_cons.mp hV).imp_right List.forall_mem_cons.mp
  refine lv_iadd hx hb hd ?_
  rw [← mI_add]
  exact k ls H locs ⟨hR, hS, hL, List.forall_mem_cons.mpr ⟨w32_ok _, hV⟩⟩
theorem s_isub {G : GG} {p : Program} {l : Launch} {e : Env} {R : Room} {s : State} {m : MethodId} {args : Array Value} {below : List Frame} {meth : Method} {c : Code} {Q : State → Prop} {y pc cells slots : Nat} {L : Lv} {r : List AV} {S : Sh} {h : Mem} {a b : Int} (hd : decode (mdN y).2.1 pc = .ok (.isub, 1)) (F : FC G p s m args meth c y R)
    (k : WC G p l e R s m args below meth c Q y (pc + 1) L (.inl (w32 (a - b)) :: r) S h cells slots) : WC G p l e R s m args below meth c Q y pc L (.inl b :: .inl a :: r) S h cells slots := by
  intro ls H locs ⟨hR, hS, hL, hV⟩
  obtain ⟨hx, hb, hml, hown, hts, hC, hini, hfr, hlo⟩ := F
  obtain ⟨hvb, hva, hV⟩ := (List.forall_mem_cons.mp hV).imp_right List.forall_mem_cons.mp
  refine lv_isub hx hb hd ?_
  rw [← mI_sub]
  exact k ls H locs ⟨hR, hS, hL, List.forall_mem_cons.mpr ⟨w32_ok _, hV⟩⟩
theorem s_imul {G : GG} {p : Program} {l : Launch} {e : Env} {R : Room} {s : State} {m : MethodId} {args : Array Value} {below : List Frame} {meth : Method} {c : Code} {Q : State → Prop} {y pc cells slots : Nat} {L : Lv} {r : List AV} {S : Sh} {h : Mem} {a b : Int} (hd : decode (mdN y).2.1 pc = .ok (.imul, 1)) (F : FC G p s m args meth c y R)
    (k : WC G p l e R s m args below meth c Q y (pc + 1) L (.inl (w32 (a * b)) :: r) S h cells slots) : WC G p l e R s m args below meth c Q y pc L (.inl b :: .inl a :: r) S h cells slots := by
  intro ls H locs ⟨hR, hS, hL, hV⟩
  obtain ⟨hx, hb, hml, hown, hts, hC, hini, hfr, hlo⟩ := F
  obtain ⟨hvb, hva, hV⟩ := (List.forall_mem_cons.mp hV).imp_right List.forall_mem_cons.mp
  refine lv_imul hx hb hd ?_
  rw [← mI_mul]
  exact k ls H locs ⟨hR, hS, hL, List.forall_mem_cons.mpr ⟨w32_ok _, hV⟩⟩
theorem s_iand {G : GG} {p : Program} {l : Launch} {e : Env} {R : Room} {s : State} {m : MethodId} {args : Array Value} {below : List Frame} {meth : Method} {c : Code} {Q : State → Prop} {y pc cells slots : Nat} {L : Lv} {r : List AV} {S : Sh} {h : Mem} {a b : Int} (hd : decode (mdN y).2.1 pc = .ok (.iand, 1)) (F : FC G p s m args meth c y R)
    (k : WC G p l e R s m args below meth c Q y (pc + 1) L (.inl (am_and a b) :: r) S h cells slots) : WC G p l e R s m args below meth c Q y pc L (.inl b :: .inl a :: r) S h cells slots := by
  intro ls H locs ⟨hR, hS, hL, hV⟩
  obtain ⟨hx, hb, hml, hown, hts, hC, hini, hfr, hlo⟩ := F
  obtain ⟨hvb, hva, hV⟩ := (List.forall_mem_cons.mp hV).imp_right List.forall_mem_cons.mp
  have h2 := k ls H locs ⟨hR, hS, hL, List.forall_mem_cons.mpr ⟨okI_toInt _, hV⟩⟩
  refine lv_iand hx hb hd ?_
  simp only [List.map_cons, cv, am_and, Int32.ofInt_toInt] at h2
  exact h2
theorem s_ior {G : GG} {p : Program} {l : Launch} {e : Env} {R : Room} {s : State} {m : MethodId} {args : Array Value} {below : List Frame} {meth : Method} {c : Code} {Q : State → Prop} {y pc cells slots : Nat} {L : Lv} {r : List AV} {S : Sh} {h : Mem} {a b : Int} (hd : decode (mdN y).2.1 pc = .ok (.ior, 1)) (F : FC G p s m args meth c y R)
    (k : WC G p l e R s m args below meth c Q y (pc + 1) L (.inl (am_or a b) :: r) S h cells slots) : WC G p l e R s m args below meth c Q y pc L (.inl b :: .inl a :: r) S h cells slots := by
  intro ls H locs ⟨hR, hS, hL, hV⟩
  obtain ⟨hx, hb, hml, hown, hts, hC, hini, hfr, hlo⟩ := F
  obtain ⟨hvb, hva, hV⟩ := (List.forall_mem_cons.mp hV).imp_right List.forall_mem_cons.mp
  have h2 := k ls H locs ⟨hR, hS, hL, List.forall_mem_cons.mpr ⟨okI_toInt _, hV⟩⟩
  refine lv_ior hx hb hd ?_
  simp only [List.map_cons, cv, am_or, Int32.ofInt_toInt] at h2
  exact h2
theorem s_ishl {G : GG} {p : Program} {l : Launch} {e : Env} {R : Room} {s : State} {m : MethodId} {args : Array Value} {below : List Frame} {meth : Method} {c : Code} {Q : State → Prop} {y pc cells slots : Nat} {L : Lv} {r : List AV} {S : Sh} {h : Mem} {a b : Int} (hd : decode (mdN y).2.1 pc = .ok (.ishl, 1)) (F : FC G p s m args meth c y R)
    (k : WC G p l e R s m args below meth c Q y (pc + 1) L (.inl (am_shl a b) :: r) S h cells slots) : WC G p l e R s m args below meth c Q y pc L (.inl b :: .inl a :: r) S h cells slots := by
  intro ls H locs ⟨hR, hS, hL, hV⟩
  obtain ⟨hx, hb, hml, hown, hts, hC, hini, hfr, hlo⟩ := F
  obtain ⟨hvb, hva, hV⟩ := (List.forall_mem_cons.mp hV).imp_right List.forall_mem_cons.mp
  have h2 := k ls H locs ⟨hR, hS, hL, List.forall_mem_cons.mpr ⟨okI_toInt _, hV⟩⟩
  refine lv_ishl hx hb hd ?_
  simp only [List.map_cons, cv, am_shl, Int32.ofInt_toInt] at h2
  exact h2
theorem s_ishr {G : GG} {p : Program} {l : Launch} {e : Env} {R : Room} {s : State} {m : MethodId} {args : Array Value} {below : List Frame} {meth : Method} {c : Code} {Q : State → Prop} {y pc cells slots : Nat} {L : Lv} {r : List AV} {S : Sh} {h : Mem} {a b : Int} (hd : decode (mdN y).2.1 pc = .ok (.ishr, 1)) (F : FC G p s m args meth c y R)
    (k : WC G p l e R s m args below meth c Q y (pc + 1) L (.inl (am_shr a b) :: r) S h cells slots) : WC G p l e R s m args below meth c Q y pc L (.inl b :: .inl a :: r) S h cells slots := by
  intro ls H locs ⟨hR, hS, hL, hV⟩
  obtain ⟨hx, hb, hml, hown, hts, hC, hini, hfr, hlo⟩ := F
  obtain ⟨hvb, hva, hV⟩ := (List.forall_mem_cons.mp hV).imp_right List.forall_mem_cons.mp
  have h2 := k ls H locs ⟨hR, hS, hL, List.forall_mem_cons.mpr ⟨okI_toInt _, hV⟩⟩
  refine lv_ishr hx hb hd ?_
  simp only [List.map_cons, cv, am_shr, Int32.ofInt_toInt] at h2
  exact h2
theorem s_iushr {G : GG} {p : Program} {l : Launch} {e : Env} {R : Room} {s : State} {m : MethodId} {args : Array Value} {below : List Frame} {meth : Method} {c : Code} {Q : State → Prop} {y pc cells slots : Nat} {L : Lv} {r : List AV} {S : Sh} {h : Mem} {a b : Int} (hd : decode (mdN y).2.1 pc = .ok (.iushr, 1)) (F : FC G p s m args meth c y R)
    (k : WC G p l e R s m args below meth c Q y (pc + 1) L (.inl (am_ushr a b) :: r) S h cells slots) : WC G p l e R s m args below meth c Q y pc L (.inl b :: .inl a :: r) S h cells slots := by
  intro ls H locs ⟨hR, hS, hL, hV⟩
  obtain ⟨hx, hb, hml, hown, hts, hC, hini, hfr, hlo⟩ := F
  obtain ⟨hvb, hva, hV⟩ := (List.forall_mem_cons.mp hV).imp_right List.forall_mem_cons.mp
  have h2 := k ls H locs ⟨hR, hS, hL, List.forall_mem_cons.mpr ⟨okI_toInt _, hV⟩⟩
  refine lv_iushr hx hb hd rfl ?_
  simp only [List.map_cons, cv, am_ushr, Int32.ofInt_toInt] at h2
  exact h2
theorem s_idiv {G : GG} {p : Program} {l : Launch} {e : Env} {R : Room} {s : State} {m : MethodId} {args : Array Value} {below : List Frame} {meth : Method} {c : Code} {Q : State → Prop} {y pc cells slots : Nat} {L : Lv} {r : List AV} {S : Sh} {h : Mem} {a b : Int} (hne : ¬ b = 0) (hd : decode (mdN y).2.1 pc = .ok (.idiv, 1)) (F : FC G p s m args meth c y R)
    (k : WC G p l e R s m args below meth c Q y (pc + 1) L (.inl (am_div a b) :: r) S h cells slots) : WC G p l e R s m args below meth c Q y pc L (.inl b :: .inl a :: r) S h cells slots := by
  intro ls H locs ⟨hR, hS, hL, hV⟩
  obtain ⟨hx, hb, hml, hown, hts, hC, hini, hfr, hlo⟩ := F
  obtain ⟨hvb, hva, hV⟩ := (List.forall_mem_cons.mp hV).imp_right List.forall_mem_cons.mp
  refine lv_idiv hx hb hd (fun z => hne ((ofI_eq0 hvb).mp z)) ?_
  rw [← mI_div hva hvb]
  exact k ls H locs ⟨hR, hS, hL, List.forall_mem_cons.mpr ⟨w32_ok _, hV⟩⟩
theorem s_irem {G : GG} {p : Program} {l : Launch} {e : Env} {R : Room} {s : State} {m : MethodId} {args : Array Value} {below : List Frame} {meth : Method} {c : Code} {Q : State → Prop} {y pc cells slots : Nat} {L : Lv} {r : List AV} {S : Sh} {h : Mem} {a b : Int} (hne : ¬ b = 0) (hd : decode (mdN y).2.1 pc = .ok (.irem, 1)) (F : FC G p s m args meth c y R)
    (k : WC G p l e R s m args below meth c Q y (pc + 1) L (.inl (am_rem a b) :: r) S h cells slots) : WC G p l e R s m args below meth c Q y pc L (.inl b :: .inl a :: r) S h cells slots := by
  intro ls H locs ⟨hR, hS, hL, hV⟩
  obtain ⟨hx, hb, hml, hown, hts, hC, hini, hfr, hlo⟩ := F
  obtain ⟨hvb, hva, hV⟩ := (List.forall_mem_cons.mp hV).imp_right List.forall_mem_cons.mp
  refine lv_irem hx hb hd (fun z => hne ((ofI_eq0 hvb).mp z)) ?_
  rw [← mI_rem hva hvb]
  exact k ls H locs ⟨hR, hS, hL, List.forall_mem_cons.mpr ⟨tmod_ok hva, hV⟩⟩
theorem s_ineg {G : GG} {p : Program} {l : Launch} {e : Env} {R : Room} {s : State} {m : MethodId} {args : Array Value} {below : List Frame} {meth : Method} {c : Code} {Q : State → Prop} {y pc cells slots : Nat} {L : Lv} {r : List AV} {S : Sh} {h : Mem} {a : Int} (hd : decode (mdN y).2.1 pc = .ok (.ineg, 1)) (F : FC G p s m args meth c y R)
    (k : WC G p l e R s m args below meth c Q y (pc + 1) L (.inl (w32 (-a)) :: r) S h cells slots) : WC G p l e R s m args below meth c Q y pc L (.inl a :: r) S h cells slots := by
  intro ls H locs ⟨hR, hS, hL, hV⟩
  obtain ⟨hx, hb, hml, hown, hts, hC, hini, hfr, hlo⟩ := F
  obtain ⟨hva, hV⟩ := List.forall_mem_cons.mp hV
  refine lv_ineg hx hb hd ?_
  rw [← mI_neg]
  exact k ls H locs ⟨hR, hS, hL, List.forall_mem_cons.mpr ⟨w32_ok _, hV⟩⟩
theorem s_ladd {G : GG} {p : Program} {l : Launch} {e : Env} {R : Room} {s : State} {m : MethodId} {args : Array Value} {below : List Frame} {meth : Method} {c : Code} {Q : State → Prop} {y pc cells slots : Nat} {L : Lv} {r : List AV} {S : Sh} {h : Mem} {a b : Int} (hd : decode (mdN y).2.1 pc = .ok (.ladd, 1)) (F : FC G p s m args meth c y R)
    (k : WC G p l e R s m args below meth c Q y (pc + 1) L (.inr (.inl (w64 (a + b))) :: r) S h cells slots) : WC G p l e R s m args below meth c Q y pc L (.inr (.inl b) :: .inr (.inl a) :: r) S h cells slots := by
  intro ls H locs ⟨hR, hS, hL, hV⟩
  obtain ⟨hx, hb, hml, hown, hts, hC, hini, hfr, hlo⟩ := F
  obtain ⟨hvb, hva, hV⟩ := (List.forall_mem_cons.mp hV).imp_right List.forall_mem_cons.mp
  refine lv_ladd hx hb hd ?_
  rw [← mJ_add]
  exact k ls H locs ⟨hR, hS, hL, List.forall_mem_cons.mpr ⟨w64_ok _, hV⟩⟩
theorem s_lsub {G : GG} {p : Program} {l : Launch} {e : Env} {R : Room} {s : State} {m : MethodId} {args : Array Value} {below : List Frame} {meth : Method} {c : Code} {Q : State → Prop} {y pc cells slots : Nat} {L : Lv} {r : List AV} {S : Sh} {h : Mem} {a b : Int} (hd : decode (mdN y).2.1 pc = .ok (.lsub, 1)) (F : FC G p s m args meth c y R)
    (k : WC G p l e R s m args below meth c Q y (pc + 1) L (.inr (.inl (w64 (a - b))) :: r) S h cells slots) : WC G p l e R s m args below meth c Q y pc L (.inr (.inl b) :: .inr (.inl a) :: r) S h cells slots := by
  intro ls H locs ⟨hR, hS, hL, hV⟩
  obtain ⟨hx, hb, hml, hown, hts, hC, hini, hfr, hlo⟩ := F
  obtain ⟨hvb, hva, hV⟩ := (List.forall_mem_cons.mp hV).imp_right List.forall_mem_cons.mp
  refine lv_lsub hx hb hd ?_
  rw [← mJ_sub]
  exact k ls H locs ⟨hR, hS, hL, List.forall_mem_cons.mpr ⟨w64_ok _, hV⟩⟩
theorem s_lmul {G : GG} {p : Program} {l : Launch} {e : Env} {R : Room} {s : State} {m : MethodId} {args : Array Value} {below : List Frame} {meth : Method} {c : Code} {Q : State → Prop} {y pc cells slots : Nat} {L : Lv} {r : List AV} {S : Sh} {h : Mem} {a b : Int} (hd : decode (mdN y).2.1 pc = .ok (.lmul, 1)) (F : FC G p s m args meth c y R)
    (k : WC G p l e R s m args below meth c Q y (pc + 1) L (.inr (.inl (w64 (a * b))) :: r) S h cells slots) : WC G p l e R s m args below meth c Q y pc L (.inr (.inl b) :: .inr (.inl a) :: r) S h cells slots := by
  intro ls H locs ⟨hR, hS, hL, hV⟩
  obtain ⟨hx, hb, hml, hown, hts, hC, hini, hfr, hlo⟩ := F
  obtain ⟨hvb, hva, hV⟩ := (List.forall_mem_cons.mp hV).imp_right List.forall_mem_cons.mp
  refine lv_lmul hx hb hd ?_
  rw [← mJ_mul]
  exact k ls H locs ⟨hR, hS, hL, List.forall_mem_cons.mpr ⟨w64_ok _, hV⟩⟩
theorem s_land {G : GG} {p : Program} {l : Launch} {e : Env} {R : Room} {s : State} {m : MethodId} {args : Array Value} {below : List Frame} {meth : Method} {c : Code} {Q : State → Prop} {y pc cells slots : Nat} {L : Lv} {r : List AV} {S : Sh} {h : Mem} {a b : Int} (hd : decode (mdN y).2.1 pc = .ok (.land, 1)) (F : FC G p s m args meth c y R)
    (k : WC G p l e R s m args below meth c Q y (pc + 1) L (.inr (.inl (am_land a b)) :: r) S h cells slots) : WC G p l e R s m args below meth c Q y pc L (.inr (.inl b) :: .inr (.inl a) :: r) S h cells slots := by
  intro ls H locs ⟨hR, hS, hL, hV⟩
  obtain ⟨hx, hb, hml, hown, hts, hC, hini, hfr, hlo⟩ := F
  obtain ⟨hvb, hva, hV⟩ := (List.forall_mem_cons.mp hV).imp_right List.forall_mem_cons.mp
  have h2 := k ls H locs ⟨hR, hS, hL, List.forall_mem_cons.mpr ⟨okJ_toInt _, hV⟩⟩
  refine lv_land hx hb hd ?_
  simp only [List.map_cons, cv, am_land, Int64.ofInt_toInt] at h2
  exact h2
theorem s_lor {G : GG} {p : Program} {l : Launch} {e : Env} {R : Room} {s : State} {m : MethodId} {args : Array Value} {below : List Frame} {meth : Method} {c : Code} {Q : State → Prop} {y pc cells slots : Nat} {L : Lv} {r : List AV} {S : Sh} {h : Mem} {a b : Int} (hd : decode (mdN y).2.1 pc = .ok (.lor, 1)) (F : FC G p s m args meth c y R)
    (k : WC G p l e R s m args below meth c Q y (pc + 1) L (.inr (.inl (am_lor a b)) :: r) S h cells slots) : WC G p l e R s m args below meth c Q y pc L (.inr (.inl b) :: .inr (.inl a) :: r) S h cells slots := by
  intro ls H locs ⟨hR, hS, hL, hV⟩
  obtain ⟨hx, hb, hml, hown, hts, hC, hini, hfr, hlo⟩ := F
  obtain ⟨hvb, hva, hV⟩ := (List.forall_mem_cons.mp hV).imp_right List.forall_mem_cons.mp
  have h2 := k ls H locs ⟨hR, hS, hL, List.forall_mem_cons.mpr ⟨okJ_toInt _, hV⟩⟩
  refine lv_lor hx hb hd ?_
  simp only [List.map_cons, cv, am_lor, Int64.ofInt_toInt] at h2
  exact h2
theorem s_lshl {G : GG} {p : Program} {l : Launch} {e : Env} {R : Room} {s : State} {m : MethodId} {args : Array Value} {below : List Frame} {meth : Method} {c : Code} {Q : State → Prop} {y pc cells slots : Nat} {L : Lv} {r : List AV} {S : Sh} {h : Mem} {a b : Int} (hd : decode (mdN y).2.1 pc = .ok (.lshl, 1)) (F : FC G p s m args meth c y R)
    (k : WC G p l e R s m args below meth c Q y (pc + 1) L (.inr (.inl (am_lshl a b)) :: r) S h cells slots) : WC G p l e R s m args below meth c Q y pc L (.inl b :: .inr (.inl a) :: r) S h cells slots := by
  intro ls H locs ⟨hR, hS, hL, hV⟩
  obtain ⟨hx, hb, hml, hown, hts, hC, hini, hfr, hlo⟩ := F
  obtain ⟨hvb, hva, hV⟩ := (List.forall_mem_cons.mp hV).imp_right List.forall_mem_cons.mp
  have h2 := k ls H locs ⟨hR, hS, hL, List.forall_mem_cons.mpr ⟨okJ_toInt _, hV⟩⟩
  refine lv_lshl hx hb hd rfl ?_
  simp only [List.map_cons, cv, am_lshl, Int64.ofInt_toInt] at h2
  exact h2
theorem s_lshr {G : GG} {p : Program} {l : Launch} {e : Env} {R : Room} {s : State} {m : MethodId} {args : Array Value} {below : List Frame} {meth : Method} {c : Code} {Q : State → Prop} {y pc cells slots : Nat} {L : Lv} {r : List AV} {S : Sh} {h : Mem} {a b : Int} (hd : decode (mdN y).2.1 pc = .ok (.lshr, 1)) (F : FC G p s m args meth c y R)
    (k : WC G p l e R s m args below meth c Q y (pc + 1) L (.inr (.inl (am_lshr a b)) :: r) S h cells slots) : WC G p l e R s m args below meth c Q y pc L (.inl b :: .inr (.inl a) :: r) S h cells slots := by
  intro ls H locs ⟨hR, hS, hL, hV⟩
  obtain ⟨hx, hb, hml, hown, hts, hC, hini, hfr, hlo⟩ := F
  obtain ⟨hvb, hva, hV⟩ := (List.forall_mem_cons.mp hV).imp_right List.forall_mem_cons.mp
  have h2 := k ls H locs ⟨hR, hS, hL, List.forall_mem_cons.mpr ⟨okJ_toInt _, hV⟩⟩
  refine lv_lshr hx hb hd rfl ?_
  simp only [List.map_cons, cv, am_lshr, Int64.ofInt_toInt] at h2
  exact h2
theorem s_ldiv {G : GG} {p : Program} {l : Launch} {e : Env} {R : Room} {s : State} {m : MethodId} {args : Array Value} {below : List Frame} {meth : Method} {c : Code} {Q : State → Prop} {y pc cells slots : Nat} {L : Lv} {r : List AV} {S : Sh} {h : Mem} {a b : Int} (hne : ¬ b = 0) (hd : decode (mdN y).2.1 pc = .ok (.ldiv, 1)) (F : FC G p s m args meth c y R)
    (k : WC G p l e R s m args below meth c Q y (pc + 1) L (.inr (.inl (am_ldiv a b)) :: r) S h cells slots) : WC G p l e R s m args below meth c Q y pc L (.inr (.inl b) :: .inr (.inl a) :: r) S h cells slots := by
  intro ls H locs ⟨hR, hS, hL, hV⟩
  obtain ⟨hx, hb, hml, hown, hts, hC, hini, hfr, hlo⟩ := F
  obtain ⟨hvb, hva, hV⟩ := (List.forall_mem_cons.mp hV).imp_right List.forall_mem_cons.mp
  refine lv_ldiv hx hb hd (fun z => hne ((ofJ_eq hvb (okI_okJ okI_0)).mp z)) ?_
  rw [← mJ_div hva hvb]
  exact k ls H locs ⟨hR, hS, hL, List.forall_mem_cons.mpr ⟨w64_ok _, hV⟩⟩
theorem s_lrem {G : GG} {p : Program} {l : Launch} {e : Env} {R : Room} {s : State} {m : MethodId} {args : Array Value} {below : List Frame} {meth : Method} {c : Code} {Q : State → Prop} {y pc cells slots : Nat} {L : Lv} {r : List AV} {S : Sh} {h : Mem} {a b : Int} (hne : ¬ b = 0) (hd : decode (mdN y).2.1 pc = .ok (.lrem, 1)) (F : FC G p s m args meth c y R)
    (k : WC G p l e R s m args below meth c Q y (pc + 1) L (.inr (.inl (am_lrem a b)) :: r) S h cells slots) : WC G p l e R s m args below meth c Q y pc L (.inr (.inl b) :: .inr (.inl a) :: r) S h cells slots := by
  intro ls H locs ⟨hR, hS, hL, hV⟩
  obtain ⟨hx, hb, hml, hown, hts, hC, hini, hfr, hlo⟩ := F
  obtain ⟨hvb, hva, hV⟩ := (List.forall_mem_cons.mp hV).imp_right List.forall_mem_cons.mp
  refine lv_lrem hx hb hd (fun z => hne ((ofJ_eq hvb (okI_okJ okI_0)).mp z)) ?_
  rw [← mJ_rem hva hvb]
  exact k ls H locs ⟨hR, hS, hL, List.forall_mem_cons.mpr ⟨tmod_okJ hva, hV⟩⟩
theorem s_lcmp {G : GG} {p : Program} {l : Launch} {e : Env} {R : Room} {s : State} {m : MethodId} {args : Array Value} {below : List Frame} {meth : Method} {c : Code} {Q : State → Prop} {y pc cells slots : Nat} {L : Lv} {r : List AV} {S : Sh} {h : Mem} {a b : Int} (hd : decode (mdN y).2.1 pc = .ok (.lcmp, 1)) (F : FC G p s m args meth c y R)
    (k : WC G p l e R s m args below meth c Q y (pc + 1) L (.inl (am_lcmp a b) :: r) S h cells slots) : WC G p l e R s m args below meth c Q y pc L (.inr (.inl b) :: .inr (.inl a) :: r) S h cells slots := by
  intro ls H locs ⟨hR, hS, hL, hV⟩
  obtain ⟨hx, hb, hml, hown, hts, hC, hini, hfr, hlo⟩ := F
  obtain ⟨hvb, hva, hV⟩ := (List.forall_mem_cons.mp hV).imp_right List.forall_mem_cons.mp
  refine W.lcmp hx hb hd ?_
  rw [nI_cmp hva hvb]
  exact k ls H locs ⟨hR, hS, hL, List.forall_mem_cons.mpr ⟨lcmp_ok _ _, hV⟩⟩
theorem s_i2l {G : GG} {p : Program} {l : Launch} {e : Env} {R : Room} {s : State} {m : MethodId} {args : Array Value} {below : List Frame} {meth : Method} {c : Code} {Q : State → Prop} {y pc cells slots : Nat} {L : Lv} {r : List AV} {S : Sh} {h : Mem} {a : Int} (hd : decode (mdN y).2.1 pc = .ok (.i2l, 1)) (F : FC G p s m args meth c y R)
    (k : WC G p l e R s m args below meth c Q y (pc + 1) L (.inr (.inl a) :: r) S h cells slots) : WC G p l e R s m args below meth c Q y pc L (.inl a :: r) S h cells slots := by
  intro ls H locs ⟨hR, hS, hL, hV⟩
  obtain ⟨hx, hb, hml, hown, hts, hC, hini, hfr, hlo⟩ := F
  obtain ⟨hva, hV⟩ := List.forall_mem_cons.mp hV
  exact lv_i2l hx hb hd (nJ_i2l hva) (k ls H locs ⟨hR, hS, hL, List.forall_mem_cons.mpr ⟨okI_okJ hva, hV⟩⟩)
theorem s_l2i {G : GG} {p : Program} {l : Launch} {e : Env} {R : Room} {s : State} {m : MethodId} {args : Array Value} {below : List Frame} {meth : Method} {c : Code} {Q : State → Prop} {y pc cells slots : Nat} {L : Lv} {r : List AV} {S : Sh} {h : Mem} {a : Int} (hd : decode (mdN y).2.1 pc = .ok (.l2i, 1)) (F : FC G p s m args meth c y R)
    (k : WC G p l e R s m args below meth c Q y (pc + 1) L (.inl (w32 a) :: r) S h cells slots) : WC G p l e R s m args below meth c Q y pc L (.inr (.inl a) :: r) S h cells slots := by
  intro ls H locs ⟨hR, hS, hL, hV⟩
  obtain ⟨hx, hb, hml, hown, hts, hC, hini, hfr, hlo⟩ := F
  obtain ⟨hva, hV⟩ := List.forall_mem_cons.mp hV
  exact lv_l2i hx hb hd (nI_l2i hva) (k ls H locs ⟨hR, hS, hL, List.forall_mem_cons.mpr ⟨w32_ok _, hV⟩⟩)
theorem s_i2b {G : GG} {p : Program} {l : Launch} {e : Env} {R : Room} {s : State} {m : MethodId} {args : Array Value} {below : List Frame} {meth : Method} {c : Code} {Q : State → Prop} {y pc cells slots : Nat} {L : Lv} {r : List AV} {S : Sh} {h : Mem} {a : Int} (hd : decode (mdN y).2.1 pc = .ok (.i2b, 1)) (F : FC G p s m args meth c y R)
    (k : WC G p l e R s m args below meth c Q y (pc + 1) L (.inl (w8 a) :: r) S h cells slots) : WC G p l e R s m args below meth c Q y pc L (.inl a :: r) S h cells slots := by
  intro ls H locs ⟨hR, hS, hL, hV⟩
  obtain ⟨hx, hb, hml, hown, hts, hC, hini, hfr, hlo⟩ := F
  obtain ⟨hva, hV⟩ := List.forall_mem_cons.mp hV
  exact lv_i2b hx hb hd (nI_i2b hva) (k ls H locs ⟨hR, hS, hL, List.forall_mem_cons.mpr ⟨okI_8 (w8_ok _), hV⟩⟩)
theorem s_i2s {G : GG} {p : Program} {l : Launch} {e : Env} {R : Room} {s : State} {m : MethodId} {args : Array Value} {below : List Frame} {meth : Method} {c : Code} {Q : State → Prop} {y pc cells slots : Nat} {L : Lv} {r : List AV} {S : Sh} {h : Mem} {a : Int} (hd : decode (mdN y).2.1 pc = .ok (.i2s, 1)) (F : FC G p s m args meth c y R)
    (k : WC G p l e R s m args below meth c Q y (pc + 1) L (.inl (w16 a) :: r) S h cells slots) : WC G p l e R s m args below meth c Q y pc L (.inl a :: r) S h cells slots := by
  intro ls H locs ⟨hR, hS, hL, hV⟩
  obtain ⟨hx, hb, hml, hown, hts, hC, hini, hfr, hlo⟩ := F
  obtain ⟨hva, hV⟩ := List.forall_mem_cons.mp hV
  exact lv_i2s hx hb hd (nI_i2s hva) (k ls H locs ⟨hR, hS, hL, List.forall_mem_cons.mpr ⟨okI_16 (w16_ok _), hV⟩⟩)
theorem s_i2c {G : GG} {p : Program} {l : Launch} {e : Env} {R : Room} {s : State} {m : MethodId} {args : Array Value} {below : List Frame} {meth : Method} {c : Code} {Q : State → Prop} {y pc cells slots : Nat} {L : Lv} {r : List AV} {S : Sh} {h : Mem} {a : Int} (hd : decode (mdN y).2.1 pc = .ok (.i2c, 1)) (F : FC G p s m args meth c y R)
    (k : WC G p l e R s m args below meth c Q y (pc + 1) L (.inl (am_i2c a) :: r) S h cells slots) : WC G p l e R s m args below meth c Q y pc L (.inl a :: r) S h cells slots := by
  intro ls H locs ⟨hR, hS, hL, hV⟩
  obtain ⟨hx, hb, hml, hown, hts, hC, hini, hfr, hlo⟩ := F
  obtain ⟨hva, hV⟩ := List.forall_mem_cons.mp hV
  have ok : okI (am_i2c a) := by unfold am_i2c okI; omega
  refine lv_i2c hx hb hd (v := Int32.ofInt (am_i2c a)) ?_ (k ls H locs ⟨hR, hS, hL, List.forall_mem_cons.mpr ⟨ok, hV⟩⟩)
  apply Int32.toBitVec.inj
  apply BitVec.eq_of_toNat_eq
  show ((BitVec.ofInt 32 a) % (65536 : UInt32).toBitVec).toNat = (BitVec.ofInt 32 (am_i2c a)).toNat
  rw [BitVec.toNat_umod, BitVec.toNat_ofInt, BitVec.toNat_ofInt]
  show _ % 65536 = _
  unfold am_i2c
  omega
theorem s_dup {G : GG} {p : Program} {l : Launch} {e : Env} {R : Room} {s : State} {m : MethodId} {args : Array Value} {below : List Frame} {meth : Method} {c : Code} {Q : State → Prop} {y pc cells slots : Nat} {L : Lv} {r : List AV} {S : Sh} {h : Mem} {v : AV} (hc : cat v = 1) (hd : decode (mdN y).2.1 pc = .ok (.dup, 1)) (F : FC G p s m args meth c y R)
    (k : WC G p l e R s m args below meth c Q y (pc + 1) L (v :: v :: r) S h cells slots) : WC G p l e R s m args below meth c Q y pc L (v :: r) S h cells slots := by
  intro ls H locs ⟨hR, hS, hL, hV⟩
  obtain ⟨hx, hb, hml, hown, hts, hC, hini, hfr, hlo⟩ := F
  obtain ⟨hva, hV⟩ := List.forall_mem_cons.mp hV
  exact lv_dup hx hb hd (cat_cv1 (CX_ro hC) hva hc) (k ls H locs ⟨hR, hS, hL, List.forall_mem_cons.mpr ⟨hva, List.forall_mem_cons.mpr ⟨hva, hV⟩⟩⟩)
theorem s_pop {G : GG} {p : Program} {l : Launch} {e : Env} {R : Room} {s : State} {m : MethodId} {args : Array Value} {below : List Frame} {meth : Method} {c : Code} {Q : State → Prop} {y pc cells slots : Nat} {L : Lv} {r : List AV} {S : Sh} {h : Mem} {v : AV} (hc : cat v = 1) (hd : decode (mdN y).2.1 pc = .ok (.pop, 1)) (F : FC G p s m args meth c y R)
    (k : WC G p l e R s m args below meth c Q y (pc + 1) L r S h cells slots) : WC G p l e R s m args below meth c Q y pc L (v :: r) S h cells slots := by
  intro ls H locs ⟨hR, hS, hL, hV⟩
  obtain ⟨hx, hb, hml, hown, hts, hC, hini, hfr, hlo⟩ := F
  obtain ⟨hva, hV⟩ := List.forall_mem_cons.mp hV
  exact lv_pop hx hb hd (cat_cv1 (CX_ro hC) hva hc) (k ls H locs ⟨hR, hS, hL, hV⟩)
theorem s_dup2 {G : GG} {p : Program} {l : Launch} {e : Env} {R : Room} {s : State} {m : MethodId} {args : Array Value} {below : List Frame} {meth : Method} {c : Code} {Q : State → Prop} {y pc cells slots : Nat} {L : Lv} {r : List AV} {S : Sh} {h : Mem} {v w : AV} (hc : cat v = 1 ∧ cat w = 1) (hd : decode (mdN y).2.1 pc = .ok (.dup2, 1)) (F : FC G p s m args meth c y R)
    (k : WC G p l e R s m args below meth c Q y (pc + 1) L (v :: w :: v :: w :: r) S h cells slots) : WC G p l e R s m args below meth c Q y pc L (v :: w :: r) S h cells slots := by
  intro ls H locs ⟨hR, hS, hL, hV⟩
  obtain ⟨hx, hb, hml, hown, hts, hC, hini, hfr, hlo⟩ := F
  obtain ⟨hvv, hvw, hV⟩ := (List.forall_mem_cons.mp hV).imp_right List.forall_mem_cons.mp
  exact lv_dup2_11 hx hb hd (cat_cv1 (CX_ro hC) hvv hc.1) (cat_cv1 (CX_ro hC) hvw hc.2) (k ls H locs ⟨hR, hS, hL, List.forall_mem_cons.mpr ⟨hvv, List.forall_mem_cons.mpr ⟨hvw, List.forall_mem_cons.mpr ⟨hvv, List.forall_mem_cons.mpr ⟨hvw, hV⟩⟩⟩⟩⟩)
theorem s_goto {G : GG} {p : Program} {l : Launch} {e : Env} {R : Room} {s : State} {m : MethodId} {args : Array Value} {below : List Frame} {meth : Method} {c : Code} {Q : State → Prop} {y pc cells slots : Nat} {L : Lv} {r : List AV} {S : Sh} {h : Mem} {o : Int} (hj : 0 ≤ (pc : Int) + o) (hd : decode (mdN y).2.1 pc = .ok (.goto o, 3)) (F : FC G p s m args meth c y R)
    (k : WC G p l e R s m args below meth c Q y (tgt pc o) L r S h cells slots) : WC G p l e R s m args below meth c Q y pc L r S h cells slots := by
  intro ls H locs ⟨hR, hS, hL, hV⟩
  obtain ⟨hx, hb, hml, hown, hts, hC, hini, hfr, hlo⟩ := F
  exact lv_goto (tgt := tgt pc o) hx hb hd (by unfold tgt; omega) (k ls H locs ⟨hR, hS, hL, hV⟩)
theorem s_if_eq {G : GG} {p : Program} {l : Launch} {e : Env} {R : Room} {s : State} {m : MethodId} {args : Array Value} {below : List Frame} {meth : Method} {c : Code} {Q : State → Prop} {y pc cells slots : Nat} {L : Lv} {r : List AV} {S : Sh} {h : Mem} {a o : Int} (hj : 0 ≤ (pc : Int) + o) (hd : decode (mdN y).2.1 pc = .ok (.ifCond .eq o, 3)) (F : FC G p s m args meth c y R)
    (kt : a = 0 → WC G p l e R s m args below meth c Q y (tgt pc o) L r S h cells slots) (kf : ¬ (a = 0) → WC G p l e R s m args below meth c Q y (pc + 3) L r S h cells slots) : WC G p l e R s m args below meth c Q y pc L (.inl a :: r) S h cells slots := by
  intro ls H locs ⟨hR, hS, hL, hV⟩
  obtain ⟨hx, hb, hml, hown, hts, hC, hini, hfr, hlo⟩ := F
  obtain ⟨hva, hV⟩ := List.forall_mem_cons.mp hV
  exact lv_if_eq (tgt := tgt pc o) hx hb hd (by unfold tgt; omega) (fun z => kt ((ofI_eq0 hva).mp z) ls H locs ⟨hR, hS, hL, hV⟩) (fun z => kf (fun q => z ((ofI_eq0 hva).mpr q)) ls H locs ⟨hR, hS, hL, hV⟩)
theorem s_if_lt {G : GG} {p : Program} {l : Launch} {e : Env} {R : Room} {s : State} {m : MethodId} {args : Array Value} {below : List Frame} {meth : Method} {c : Code} {Q : State → Prop} {y pc cells slots : Nat} {L : Lv} {r : List AV} {S : Sh} {h : Mem} {a o : Int} (hj : 0 ≤ (pc : Int) + o) (hd : decode (mdN y).2.1 pc = .ok (.ifCond .lt o, 3)) (F : FC G p s m args meth c y R)
    (kt : a < 0 → WC G p l e R s m args below meth c Q y (tgt pc o) L r S h cells slots) (kf : ¬ (a < 0) → WC G p l e R s m args below meth c Q y (pc + 3) L r S h cells slots) : WC G p l e R s m args below meth c Q y pc L (.inl a :: r) S h cells slots := by
  intro ls H locs ⟨hR, hS, hL, hV⟩
  obtain ⟨hx, hb, hml, hown, hts, hC, hini, hfr, hlo⟩ := F
  obtain ⟨hva, hV⟩ := List.forall_mem_cons.mp hV
  exact lv_if_lt (tgt := tgt pc o) hx hb hd (by unfold tgt; omega) (fun z => kt ((ofI_lt0 hva).mp z) ls H locs ⟨hR, hS, hL, hV⟩) (fun z => kf (fun q => z ((ofI_lt0 hva).mpr q)) ls H locs ⟨hR, hS, hL, hV⟩)
theorem s_if_ge {G : GG} {p : Program} {l : Launch} {e : Env} {R : Room} {s : State} {m : MethodId} {args : Array Value} {below : List Frame} {meth : Method} {c : Code} {Q : State → Prop} {y pc cells slots : Nat} {L : Lv} {r : List AV} {S : Sh} {h : Mem} {a o : Int} (hj : 0 ≤ (pc : Int) + o) (hd : decode (mdN y).2.1 pc = .ok (.ifCond .ge o, 3)) (F : FC G p s m args meth c y R)
    (kt : 0 ≤ a → WC G p l e R s m args below meth c Q y (tgt pc o) L r S h cells slots) (kf : ¬ (0 ≤ a) → WC G p l e R s m args below meth c Q y (pc + 3) L r S h cells slots) : WC G p l e R s m args below meth c Q y pc L (.inl a :: r) S h cells slots := by
  intro ls H locs ⟨hR, hS, hL, hV⟩
  obtain ⟨hx, hb, hml, hown, hts, hC, hini, hfr, hlo⟩ := F
  obtain ⟨hva, hV⟩ := List.forall_mem_cons.mp hV
  exact lv_if_ge (tgt := tgt pc o) hx hb hd (by unfold tgt; omega) (fun z => kt ((ofI_le okI_0 hva).mp z) ls H locs ⟨hR, hS, hL, hV⟩) (fun z => kf (fun q => z ((ofI_le okI_0 hva).mpr q)) ls H locs ⟨hR, hS, hL, hV⟩)
theorem s_if_gt {G : GG} {p : Program} {l : Launch} {e : Env} {R : Room} {s : State} {m : MethodId} {args : Array Value} {below : List Frame} {meth : Method} {c : Code} {Q : State → Prop} {y pc cells slots : Nat} {L : Lv} {r : List AV} {S : Sh} {h : Mem} {a o : Int} (hj : 0 ≤ (pc : Int) + o) (hd : decode (mdN y).2.1 pc = .ok (.ifCond .gt o, 3)) (F : FC G p s m args meth c y R)
    (kt : 0 < a → WC G p l e R s m args below meth c Q y (tgt pc o) L r S h cells slots) (kf : ¬ (0 < a) → WC G p l e R s m args below meth c Q y (pc + 3) L r S h cells slots) : WC G p l e R s m args below meth c Q y pc L (.inl a :: r) S h cells slots := by
  intro ls H locs ⟨hR, hS, hL, hV⟩
  obtain ⟨hx, hb, hml, hown, hts, hC, hini, hfr, hlo⟩ := F
  obtain ⟨hva, hV⟩ := List.forall_mem_cons.mp hV
  exact lv_if_gt (tgt := tgt pc o) hx hb hd (by unfold tgt; omega) (fun z => kt ((ofI_gt0 hva).mp z) ls H locs ⟨hR, hS, hL, hV⟩) (fun z => kf (fun q => z ((ofI_gt0 hva).mpr q)) ls H locs ⟨hR, hS, hL, hV⟩)
theorem s_if_le {G : GG} {p : Program} {l : Launch} {e : Env} {R : Room} {s : State} {m : MethodId} {args : Array Value} {below : List Frame} {meth : Method} {c : Code} {Q : State → Prop} {y pc cells slots : Nat} {L : Lv} {r : List AV} {S : Sh} {h : Mem} {a o : Int} (hj : 0 ≤ (pc : Int) + o) (hd : decode (mdN y).2.1 pc = .ok (.ifCond .le o, 3)) (F : FC G p s m args meth c y R)
    (kt : a ≤ 0 → WC G p l e R s m args below meth c Q y (tgt pc o) L r S h cells slots) (kf : ¬ (a ≤ 0) → WC G p l e R s m args below meth c Q y (pc + 3) L r S h cells slots) : WC G p l e R s m args below meth c Q y pc L (.inl a :: r) S h cells slots := by
  intro ls H locs ⟨hR, hS, hL, hV⟩
  obtain ⟨hx, hb, hml, hown, hts, hC, hini, hfr, hlo⟩ := F
  obtain ⟨hva, hV⟩ := List.forall_mem_cons.mp hV
  exact lv_if_le (tgt := tgt pc o) hx hb hd (by unfold tgt; omega) (fun z => kt ((ofI_le hva okI_0).mp z) ls H locs ⟨hR, hS, hL, hV⟩) (fun z => kf (fun q => z ((ofI_le hva okI_0).mpr q)) ls H locs ⟨hR, hS, hL, hV⟩)
theorem s_icmp_eq {G : GG} {p : Program} {l : Launch} {e : Env} {R : Room} {s : State} {m : MethodId} {args : Array Value} {below : List Frame} {meth : Method} {c : Code} {Q : State → Prop} {y pc cells slots : Nat} {L : Lv} {r : List AV} {S : Sh} {h : Mem} {a b o : Int} (hj : 0 ≤ (pc : Int) + o) (hd : decode (mdN y).2.1 pc = .ok (.if_icmp .eq o, 3)) (F : FC G p s m args meth c y R)
    (kt : a = b → WC G p l e R s m args below meth c Q y (tgt pc o) L r S h cells slots) (kf : ¬ (a = b) → WC G p l e R s m args below meth c Q y (pc + 3) L r S h cells slots) : WC G p l e R s m args below meth c Q y pc L (.inl b :: .inl a :: r) S h cells slots := by
  intro ls H locs ⟨hR, hS, hL, hV⟩
  obtain ⟨hx, hb, hml, hown, hts, hC, hini, hfr, hlo⟩ := F
  obtain ⟨hvb, hva, hV⟩ := (List.forall_mem_cons.mp hV).imp_right List.forall_mem_cons.mp
  exact lv_icmp_eq (tgt := tgt pc o) hx hb hd (by unfold tgt; omega) (fun z => kt ((ofI_eq hva hvb).mp z) ls H locs ⟨hR, hS, hL, hV⟩) (fun z => kf (fun q => z ((ofI_eq hva hvb).mpr q)) ls H locs ⟨hR, hS, hL, hV⟩)
theorem s_icmp_lt {G : GG} {p : Program} {l : Launch} {e : Env} {R : Room} {s : State} {m : MethodId} {args : Array Value} {below : List Frame} {meth : Method} {c : Code} {Q : State → Prop} {y pc cells slots : Nat} {L : Lv} {r : List AV} {S : Sh} {h : Mem} {a b o : Int} (hj : 0 ≤ (pc : Int) + o) (hd : decode (mdN y).2.1 pc = .ok (.if_icmp .lt o, 3)) (F : FC G p s m args meth c y R)
    (kt : a < b → WC G p l e R s m args below meth c Q y (tgt pc o) L r S h cells slots) (kf : ¬ (a < b) → WC G p l e R s m args below meth c Q y (pc + 3) L r S h cells slots) : WC G p l e R s m args below meth c Q y pc L (.inl b :: .inl a :: r) S h cells slots := by
  intro ls H locs ⟨hR, hS, hL, hV⟩
  obtain ⟨hx, hb, hml, hown, hts, hC, hini, hfr, hlo⟩ := F
  obtain ⟨hvb, hva, hV⟩ := (List.forall_mem_cons.mp hV).imp_right List.forall_mem_cons.mp
  exact lv_icmp_lt (tgt := tgt pc o) hx hb hd (by unfold tgt; omega) (fun z => kt ((ofI_lt hva hvb).mp z) ls H locs ⟨hR, hS, hL, hV⟩) (fun z => kf (fun q => z ((ofI_lt hva hvb).mpr q)) ls H locs ⟨hR, hS, hL, hV⟩)
theorem s_icmp_ge {G : GG} {p : Program} {l : Launch} {e : Env} {R : Room} {s : State} {m : MethodId} {args : Array Value} {below : List Frame} {meth : Method} {c : Code} {Q : State → Prop} {y pc cells slots : Nat} {L : Lv} {r : List AV} {S : Sh} {h : Mem} {a b o : Int} (hj : 0 ≤ (pc : Int) + o) (hd : decode (mdN y).2.1 pc = .ok (.if_icmp .ge o, 3)) (F : FC G p s m args meth c y R)
    (kt : b ≤ a → WC G p l e R s m args below meth c Q y (tgt pc o) L r S h cells slots) (kf : ¬ (b ≤ a) → WC G p l e R s m args below meth c Q y (pc + 3) L r S h cells slots) : WC G p l e R s m args below meth c Q y pc L (.inl b :: .inl a :: r) S h cells slots := by
  intro ls H locs ⟨hR, hS, hL, hV⟩
  obtain ⟨hx, hb, hml, hown, hts, hC, hini, hfr, hlo⟩ := F
  obtain ⟨hvb, hva, hV⟩ := (List.forall_mem_cons.mp hV).imp_right List.forall_mem_cons.mp
  exact lv_icmp_ge (tgt := tgt pc o) hx hb hd (by unfold tgt; omega) (fun z => kt ((ofI_le hvb hva).mp z) ls H locs ⟨hR, hS, hL, hV⟩) (fun z => kf (fun q => z ((ofI_le hvb hva).mpr q)) ls H locs ⟨hR, hS, hL, hV⟩)
theorem s_icmp_gt {G : GG} {p : Program} {l : Launch} {e : Env} {R : Room} {s : State} {m : MethodId} {args : Array Value} {below : List Frame} {meth : Method} {c : Code} {Q : State → Prop} {y pc cells slots : Nat} {L : Lv} {r : List AV} {S : Sh} {h : Mem} {a b o : Int} (hj : 0 ≤ (pc : Int) + o) (hd : decode (mdN y).2.1 pc = .ok (.if_icmp .gt o, 3)) (F : FC G p s m args meth c y R)
    (kt : b < a → WC G p l e R s m args below meth c Q y (tgt pc o) L r S h cells slots) (kf : ¬ (b < a) → WC G p l e R s m args below meth c Q y (pc + 3) L r S h cells slots) : WC G p l e R s m args below meth c Q y pc L (.inl b :: .inl a :: r) S h cells slots := by
  intro ls H locs ⟨hR, hS, hL, hV⟩
  obtain ⟨hx, hb, hml, hown, hts, hC, hini, hfr, hlo⟩ := F
  obtain ⟨hvb, hva, hV⟩ := (List.forall_mem_cons.mp hV).imp_right List.forall_mem_cons.mp
  exact lv_icmp_gt (tgt := tgt pc o) hx hb hd (by unfold tgt; omega) (fun z => kt ((ofI_lt hvb hva).mp z) ls H locs ⟨hR, hS, hL, hV⟩) (fun z => kf (fun q => z ((ofI_lt hvb hva).mpr q)) ls H locs ⟨hR, hS, hL, hV⟩)
theorem s_icmp_le {G : GG} {p : Program} {l : Launch} {e : Env} {R : Room} {s : State} {m : MethodId} {args : Array Value} {below : List Frame} {meth : Method} {c : Code} {Q : State → Prop} {y pc cells slots : Nat} {L : Lv} {r : List AV} {S : Sh} {h : Mem} {a b o : Int} (hj : 0 ≤ (pc : Int) + o) (hd : decode (mdN y).2.1 pc = .ok (.if_icmp .le o, 3)) (F : FC G p s m args meth c y R)
    (kt : a ≤ b → WC G p l e R s m args below meth c Q y (tgt pc o) L r S h cells slots) (kf : ¬ (a ≤ b) → WC G p l e R s m args below meth c Q y (pc + 3) L r S h cells slots) : WC G p l e R s m args below meth c Q y pc L (.inl b :: .inl a :: r) S h cells slots := by
  intro ls H locs ⟨hR, hS, hL, hV⟩
  obtain ⟨hx, hb, hml, hown, hts, hC, hini, hfr, hlo⟩ := F
  obtain ⟨hvb, hva, hV⟩ := (List.forall_mem_cons.mp hV).imp_right List.forall_mem_cons.mp
  exact lv_icmp_le (tgt := tgt pc o) hx hb hd (by unfold tgt; omega) (fun z => kt ((ofI_le hva hvb).mp z) ls H locs ⟨hR, hS, hL, hV⟩) (fun z => kf (fun q => z ((ofI_le hva hvb).mpr q)) ls H locs ⟨hR, hS, hL, hV⟩)
theorem s_if_ne {G : GG} {p : Program} {l : Launch} {e : Env} {R : Room} {s : State} {m : MethodId} {args : Array Value} {below : List Frame} {meth : Method} {c : Code} {Q : State → Prop} {y pc cells slots : Nat} {L : Lv} {r : List AV} {S : Sh} {h : Mem} {a o : Int} (hj : 0 ≤ (pc : Int) + o) (hd : decode (mdN y).2.1 pc = .ok (.ifCond .ne o, 3)) (F : FC G p s m args meth c y R)
    (kt : ¬ a = 0 → WC G p l e R s m args below meth c Q y (tgt pc o) L r S h cells slots) (kf : a = 0 → WC G p l e R s m args below meth c Q y (pc + 3) L r S h cells slots) : WC G p l e R s m args below meth c Q y pc L (.inl a :: r) S h cells slots := by
  intro ls H locs ⟨hR, hS, hL, hV⟩
  obtain ⟨hx, hb, hml, hown, hts, hC, hini, hfr, hlo⟩ := F
  obtain ⟨hva, hV⟩ := List.forall_mem_cons.mp hV
  exact lv_if_ne (tgt := tgt pc o) hx hb hd (by unfold tgt; omega) (fun z => kt (fun q => z ((ofI_eq0 hva).mpr q)) ls H locs ⟨hR, hS, hL, hV⟩) (fun z => kf ((ofI_eq0 hva).mp z) ls H locs ⟨hR, hS, hL, hV⟩)
theorem s_icmp_ne {G : GG} {p : Program} {l : Launch} {e : Env} {R : Room} {s : State} {m : MethodId} {args : Array Value} {below : List Frame} {meth : Method} {c : Code} {Q : State → Prop} {y pc cells slots : Nat} {L : Lv} {r : List AV} {S : Sh} {h : Mem} {a b o : Int} (hj : 0 ≤ (pc : Int) + o) (hd : decode (mdN y).2.1 pc = .ok (.if_icmp .ne o, 3)) (F : FC G p s m args meth c y R)
    (kt : ¬ a = b → WC G p l e R s m args below meth c Q y (tgt pc o) L r S h cells slots) (kf : a = b → WC G p l e R s m args below meth c Q y (pc + 3) L r S h cells slots) : WC G p l e R s m args below meth c Q y pc L (.inl b :: .inl a :: r) S h cells slots := by
  intro ls H locs ⟨hR, hS, hL, hV⟩
  obtain ⟨hx, hb, hml, hown, hts, hC, hini, hfr, hlo⟩ := F
  obtain ⟨hvb, hva, hV⟩ := (List.forall_mem_cons.mp hV).imp_right List.forall_mem_cons.mp
  exact lv_icmp_ne (tgt := tgt pc o) hx hb hd (by unfold tgt; omega) (fun z => kt (fun q => z ((ofI_eq hva hvb).mpr q)) ls H locs ⟨hR, hS, hL, hV⟩) (fun z => kf ((ofI_eq hva hvb).mp z) ls H locs ⟨hR, hS, hL, hV⟩)
end
section
/-! rows: locals that are written (written by wip/tools/gensim2.py) -/
theorem lv_mono {ls : Array Slot} {n : Nat} {l l' : List (Nat × Value)} (h : lv_has ls n l) (hs : ∀ q ∈ l', q ∈ l) : lv_has ls n l' := ⟨h.1, h.2.1, fun q hq => h.2.2 q (hs q hq)⟩
theorem clrP_get {L : Lv} {i j : Nat} {u : AV} (h : (clrP L i)[j]? = some (some u)) : L[j]? = some (some u) ∧ ¬ (j + 1 = i ∧ cat u = 2) := by
  cases i with
  | zero => exact ⟨h, fun z => by omega⟩
  | succ k =>
    unfold clrP at h
    dsimp only at h
    split at h
    · next x hx =>
      by_cases e : j = k
      · subst e
        rw [List.getElem?_set_self (List.getElem?_eq_some_iff.mp hx).1] at h
        cases h
      · rw [List.getElem?_set_ne (fun z => e z.symm)] at h
        exact ⟨h, fun z => e (by omega)⟩
    · next hn =>
      refine ⟨h, fun z => ?_⟩
      have e : j = k := by omega
      subst e
      match u, h, z with
      | .inr (.inl x), h, _ => exact hn x h
      | .inl x, _, z => cases z.2
      | .inr (.inr x), _, z => cases z.2
theorem clrP_len (L : Lv) (i : Nat) : (clrP L i).length = L.length := by
  cases i with
  | zero => rfl
  | succ k =>
    unfold clrP
    dsimp only
    split
    · rw [List.length_set]
    · rfl
theorem cat_cv2 {G : GG} {S : Sh} {v : AV} (hG : ∀ r : Int, -10 ≤ r → r ≤ -2 → (gR G r).category = 1) (hv : okV S v) (h : (cv G v).category = 2) : cat v = 2 := by
  match v, hv with
  | .inr (.inl x), _ => rfl
  | .inl x, hv => have := cat_cv1 hG hv rfl; omega
  | .inr (.inr r), hv => have := cat_cv1 hG hv rfl; omega
theorem LR_st1 {G : GG} {S : Sh} {nL i : Nat} {ls ls' : Array Slot} {L : Lv} {v : AV} (hL : LR G S nL ls L) (hG : ∀ r : Int, -10 ≤ r → r ≤ -2 → (gR G r).category = 1) (hv : okV S v)
    (h' : lv_has ls' nL ((i, cv G v) :: (asl G L).filter (fun q => !(q.1 == i) && !(q.1 + 1 == i && q.2.category == 2)))) : LR G S nL ls' (st1 L i v) := by
  have key : ∀ (j : Nat) (u : AV), (st1 L i v)[j]? = some (some u) → (j = i ∧ u = v) ∨ (j ≠ i ∧ L[j]? = some (some u) ∧ ¬ (j + 1 = i ∧ cat u = 2)) := by
    intro j u h
    unfold st1 at h
    by_cases e : j = i
    · subst e
      have hl : j < (clrP L j).length := by
        have := (List.getElem?_eq_some_iff.mp h).1
        rwa [List.length_set] at this
      rw [List.getElem?_set_self hl] at h
      cases h
      exact Or.inl ⟨rfl, rfl⟩
    · rw [List.getElem?_set_ne (fun z => e z.symm)] at h
      exact Or.inr ⟨e, clrP_get h⟩
  refine ⟨by unfold st1; rw [List.length_set, clrP_len]; exact hL.1, lv_mono h' ?_, ?_⟩
  · rintro ⟨j, w⟩ hq
    obtain ⟨u, h1, rfl⟩ := asl_mem.mp hq
    rcases key j u h1 with ⟨rfl, rfl⟩ | ⟨e, h2, h3⟩
    · exact List.mem_cons_self
    · refine List.mem_cons_of_mem _ (List.mem_filter.mpr ⟨asl_mem.mpr ⟨u, h2, rfl⟩, ?_⟩)
      have hu := hL.2.2 u (List.mem_of_getElem? h2)
      have : ¬ (j + 1 = i ∧ (cv G u).category = 2) := fun z => h3 ⟨z.1, cat_cv2 hG hu z.2⟩
      simp [e]
      omega
  · intro u hu
    obtain ⟨j, hj⟩ := List.getElem?_of_mem hu
    rcases key j u hj with ⟨-, rfl⟩ | ⟨-, h2, -⟩
    · exact hv
    · exact hL.2.2 u (List.mem_of_getElem? h2)
theorem LR_st2 {G : GG} {S : Sh} {nL i : Nat} {ls ls' : Array Slot} {L : Lv} {v : AV} (hL : LR G S nL ls L) (hG : ∀ r : Int, -10 ≤ r → r ≤ -2 → (gR G r).category = 1) (hv : okV S v)
    (h' : lv_has ls' nL ((i, cv G v) :: (asl G L).filter (fun q => !(q.1 == i) && (!(q.1 == i + 1) && !(q.1 + 1 == i && q.2.category == 2))))) : LR G S nL ls' (st2 L i v) := by
  have key : ∀ (j : Nat) (u : AV), (st2 L i v)[j]? = some (some u) → (j = i ∧ u = v) ∨ (j ≠ i ∧ j ≠ i + 1 ∧ L[j]? = some (some u) ∧ ¬ (j + 1 = i ∧ cat u = 2)) := by
    intro j u h
    unfold st2 at h
    by_cases e1 : j = i + 1
    · subst e1
      have hl := (List.getElem?_eq_some_iff.mp h).1
      rw [List.length_set] at hl
      rw [List.getElem?_set_self hl] at h
      cases h
    · rw [List.getElem?_set_ne (fun z => e1 z.symm)] at h
      by_cases e : j = i
      · subst e
        have hl : j < (clrP L j).length := by
          have := (List.getElem?_eq_some_iff.mp h).1
          rwa [List.length_set] at this
        rw [List.getElem?_set_self hl] at h
        cases h
        exact Or.inl ⟨rfl, rfl⟩
      · rw [List.getElem?_set_ne (fun z => e z.symm)] at h
        exact Or.inr ⟨e, e1, clrP_get h⟩
  refine ⟨by unfold st2; rw [List.length_set, List.length_set, clrP_len]; exact hL.1, lv_mono h' ?_, ?_⟩
  · rintro ⟨j, w⟩ hq
    obtain ⟨u, h1, rfl⟩ := asl_mem.mp hq
    rcases key j u h1 with ⟨rfl, rfl⟩ | ⟨e, e1, h2, h3⟩
    · exact List.mem_cons_self
    · refine List.mem_cons_of_mem _ (List.mem_filter.mpr ⟨asl_mem.mpr ⟨u, h2, rfl⟩, ?_⟩)
      have hu := hL.2.2 u (List.mem_of_getElem? h2)
      have : ¬ (j + 1 = i ∧ (cv G u).category = 2) := fun z => h3 ⟨z.1, cat_cv2 hG hu z.2⟩
      simp [e, e1]
      omega
  · intro u hu
    obtain ⟨j, hj⟩ := List.getElem?_of_mem hu
    rcases key j u hj with ⟨-, rfl⟩ | ⟨-, -, h2, -⟩
    · exact hv
    · exact hL.2.2 u (List.mem_of_getElem? h2)
theorem s_istore_n {G : GG} {p : Program} {l : Launch} {e : Env} {R : Room} {s : State} {m : MethodId} {args : Array Value} {below : List Frame} {meth : Method} {c : Code} {Q : State → Prop} {y pc cells slots : Nat} {L : Lv} {r : List AV} {S : Sh} {h : Mem} {n : Fin 4} {x : Int} (hn : n.val < (mdN y).2.2.1) (hd : decode (mdN y).2.1 pc = .ok (.istore_n n, 1)) (F : FC G p s m args meth c y R)
    (k : WC G p l e R s m args below meth c Q y (pc + 1) (st1 L n.val (.inl x)) r S h cells slots) : WC G p l e R s m args below meth c Q y pc L (.inl x :: r) S h cells slots := by
  intro ls H locs ⟨hR, hS, hL, hV⟩
  obtain ⟨hx, hb, hml, hown, hts, hC, hini, hfr, hlo⟩ := F
  obtain ⟨hva, hV⟩ := List.forall_mem_cons.mp hV
  exact lv_istore_n hx hb hd rfl hL.2.1 hn rfl (fun ls' hl' => k ls' H locs ⟨hR, hS, LR_st1 hL (CX_ro hC) hva hl', hV⟩)
theorem s_istore {G : GG} {p : Program} {l : Launch} {e : Env} {R : Room} {s : State} {m : MethodId} {args : Array Value} {below : List Frame} {meth : Method} {c : Code} {Q : State → Prop} {y pc cells slots : Nat} {L : Lv} {r : List AV} {S : Sh} {h : Mem} {n : Nat} {x : Int} (hn : n < (mdN y).2.2.1) (hd : decode (mdN y).2.1 pc = .ok (.istore n, 2)) (F : FC G p s m args meth c y R)
    (k : WC G p l e R s m args below meth c Q y (pc + 2) (st1 L n (.inl x)) r S h cells slots) : WC G p l e R s m args below meth c Q y pc L (.inl x :: r) S h cells slots := by
  intro ls H locs ⟨hR, hS, hL, hV⟩
  obtain ⟨hx, hb, hml, hown, hts, hC, hini, hfr, hlo⟩ := F
  obtain ⟨hva, hV⟩ := List.forall_mem_cons.mp hV
  exact lv_istore hx hb hd hL.2.1 hn rfl (fun ls' hl' => k ls' H locs ⟨hR, hS, LR_st1 hL (CX_ro hC) hva hl', hV⟩)
theorem s_lstore_n {G : GG} {p : Program} {l : Launch} {e : Env} {R : Room} {s : State} {m : MethodId} {args : Array Value} {below : List Frame} {meth : Method} {c : Code} {Q : State → Prop} {y pc cells slots : Nat} {L : Lv} {r : List AV} {S : Sh} {h : Mem} {n : Fin 4} {x : Int} (hn : n.val + 1 < (mdN y).2.2.1) (hd : decode (mdN y).2.1 pc = .ok (.lstore_n n, 1)) (F : FC G p s m args meth c y R)
    (k : WC G p l e R s m args below meth c Q y (pc + 1) (st2 L n.val (.inr (.inl x))) r S h cells slots) : WC G p l e R s m args below meth c Q y pc L (.inr (.inl x) :: r) S h cells slots := by
  intro ls H locs ⟨hR, hS, hL, hV⟩
  obtain ⟨hx, hb, hml, hown, hts, hC, hini, hfr, hlo⟩ := F
  obtain ⟨hva, hV⟩ := List.forall_mem_cons.mp hV
  exact lv_lstore_n hx hb hd rfl hL.2.1 hn rfl (fun ls' hl' => k ls' H locs ⟨hR, hS, LR_st2 hL (CX_ro hC) hva hl', hV⟩)
theorem s_lstore {G : GG} {p : Program} {l : Launch} {e : Env} {R : Room} {s : State} {m : MethodId} {args : Array Value} {below : List Frame} {meth : Method} {c : Code} {Q : State → Prop} {y pc cells slots : Nat} {L : Lv} {r : List AV} {S : Sh} {h : Mem} {n : Nat} {x : Int} (hn : n + 1 < (mdN y).2.2.1) (hd : decode (mdN y).2.1 pc = .ok (.lstore n, 2)) (F : FC G p s m args meth c y R)
    (k : WC G p l e R s m args below meth c Q y (pc + 2) (st2 L n (.inr (.inl x))) r S h cells slots) : WC G p l e R s m args below meth c Q y pc L (.inr (.inl x) :: r) S h cells slots := by
  intro ls H locs ⟨hR, hS, hL, hV⟩
  obtain ⟨hx, hb, hml, hown, hts, hC, hini, hfr, hlo⟩ := F
  obtain ⟨hva, hV⟩ := List.forall_mem_cons.mp hV
  exact lv_lstore hx hb hd hL.2.1 hn rfl (fun ls' hl' => k ls' H locs ⟨hR, hS, LR_st2 hL (CX_ro hC) hva hl', hV⟩)
theorem s_astore_n {G : GG} {p : Program} {l : Launch} {e : Env} {R : Room} {s : State} {m : MethodId} {args : Array Value} {below : List Frame} {meth : Method} {c : Code} {Q : State → Prop} {y pc cells slots : Nat} {L : Lv} {r : List AV} {S : Sh} {h : Mem} {n : Fin 4} {x : Int} (hn : n.val < (mdN y).2.2.1) (hd : decode (mdN y).2.1 pc = .ok (.astore_n n, 1)) (F : FC G p s m args meth c y R)
    (k : WC G p l e R s m args below meth c Q y (pc + 1) (st1 L n.val (.inr (.inr x))) r S h cells slots) : WC G p l e R s m args below meth c Q y pc L (.inr (.inr x) :: r) S h cells slots := by
  intro ls H locs ⟨hR, hS, hL, hV⟩
  obtain ⟨hx, hb, hml, hown, hts, hC, hini, hfr, hlo⟩ := F
  obtain ⟨hva, hV⟩ := List.forall_mem_cons.mp hV
  obtain ⟨o, ho⟩ := cv_isref hC hva
  have h2 : ∀ ls', lv_has ls' (mdN y).2.2.1 ((n.val, va_rf o) :: (asl G L).filter (fun q => !(q.1 == n.val) && !(q.1 + 1 == n.val && q.2.category == 2))) → _ := fun ls' hl' => k ls' H locs ⟨hR, hS, LR_st1 hL (CX_ro hC) hva (by rw [ho]; exact hl'), hV⟩
  rw [List.map_cons, ho]
  cases o with
  | none => exact lv_astore_nN hx hb hd rfl hL.2.1 hn rfl h2
  | some a => exact lv_astore_n hx hb hd rfl hL.2.1 hn rfl h2
theorem s_astore {G : GG} {p : Program} {l : Launch} {e : Env} {R : Room} {s : State} {m : MethodId} {args : Array Value} {below : List Frame} {meth : Method} {c : Code} {Q : State → Prop} {y pc cells slots : Nat} {L : Lv} {r : List AV} {S : Sh} {h : Mem} {n : Nat} {x : Int} (hn : n < (mdN y).2.2.1) (hd : decode (mdN y).2.1 pc = .ok (.astore n, 2)) (F : FC G p s m args meth c y R)
    (k : WC G p l e R s m args below meth c Q y (pc + 2) (st1 L n (.inr (.inr x))) r S h cells slots) : WC G p l e R s m args below meth c Q y pc L (.inr (.inr x) :: r) S h cells slots := by
  intro ls H locs ⟨hR, hS, hL, hV⟩
  obtain ⟨hx, hb, hml, hown, hts, hC, hini, hfr, hlo⟩ := F
  obtain ⟨hva, hV⟩ := List.forall_mem_cons.mp hV
  obtain ⟨o, ho⟩ := cv_isref hC hva
  have h2 : ∀ ls', lv_has ls' (mdN y).2.2.1 ((n, va_rf o) :: (asl G L).filter (fun q => !(q.1 == n) && !(q.1 + 1 == n && q.2.category == 2))) → _ := fun ls' hl' => k ls' H locs ⟨hR, hS, LR_st1 hL (CX_ro hC) hva (by rw [ho]; exact hl'), hV⟩
  rw [List.map_cons, ho]
  cases o with
  | none => exact lv_astoreN hx hb hd hL.2.1 hn rfl h2
  | some a => exact lv_astore hx hb hd hL.2.1 hn rfl h2
theorem s_iinc {G : GG} {p : Program} {l : Launch} {e : Env} {R : Room} {s : State} {m : MethodId} {args : Array Value} {below : List Frame} {meth : Method} {c : Code} {Q : State → Prop} {y pc cells slots : Nat} {L : Lv} {r : List AV} {S : Sh} {h : Mem} {n : Nat} {d x : Int} (hl : L[n]? = some (some (.inl x))) (hn : n < (mdN y).2.2.1) (hd : decode (mdN y).2.1 pc = .ok (.iinc n d, 3)) (F : FC G p s m args meth c y R)
    (k : WC G p l e R s m args below meth c Q y (pc + 3) (st1 L n (.inl (w32 (x + d)))) r S h cells slots) : WC G p l e R s m args below meth c Q y pc L r S h cells slots := by
  intro ls H locs ⟨hR, hS, hL, hV⟩
  obtain ⟨hx, hb, hml, hown, hts, hC, hini, hfr, hlo⟩ := F
  obtain ⟨j, hj⟩ := List.getElem?_of_mem (asl_mem.mpr ⟨_, hl, rfl⟩ : (n, cv G (.inl x)) ∈ asl G L)
  exact lv_iinc hx hb hd hL.2.1 hj (mI_add x d).symm hn rfl (fun ls' hl' => k ls' H locs ⟨hR, hS, LR_st1 hL (CX_ro hC) (w32_ok _) hl', hV⟩)
end
section
/-! the classes by number: their words, types, names (written by wip/tools/genclsin.py) -/
theorem ci_in_0 : ([520, 522, 524, 526, 528, 530, 532, 534, 536, 538, 540, 542, 544] : List Nat).map (fun p => lw_tbl[p]?) = (u_ws RX0 TX0 13).map some := by decide +kernel
theorem ci_ins_0 : (([(498, Cond.instantiable "BestMenDuel$Bout" 13), (133, Cond.initialized "BestMenDuel$Bout")] : List (Nat × Cond)).map (fun p => lw_tbl[p.1]?)) = ([(498, Cond.instantiable "BestMenDuel$Bout" 13), (133, Cond.initialized "BestMenDuel$Bout")] : List (Nat × Cond)).map (fun p => some p.2) := by decide +kernel
theorem ci_in_1 : ([455, 457, 459, 461, 463, 465, 467, 469, 471, 473, 475, 477, 479, 481, 483, 485, 487, 489, 491, 493] : List Nat).map (fun p => lw_tbl[p]?) = (u_ws RX1 TX1 20).map some := by decide +kernel
theorem ci_ins_1 : (([(316, Cond.instantiable "BestMenDuel$Dawn" 20), (130, Cond.initialized "BestMenDuel$Dawn")] : List (Nat × Cond)).map (fun p => lw_tbl[p.1]?)) = ([(316, Cond.instantiable "BestMenDuel$Dawn" 20), (130, Cond.initialized "BestMenDuel$Dawn")] : List (Nat × Cond)).map (fun p => some p.2) := by decide +kernel
theorem ci_in_2 : ([286, 288, 290] : List Nat).map (fun p => lw_tbl[p]?) = (u_ws RX2 TX2 3).map some := by decide +kernel
theorem ci_ins_2 : (([(278, Cond.instantiable "BestMenDuel$DawnReader" 3), (128, Cond.initialized "BestMenDuel$DawnReader")] : List (Nat × Cond)).map (fun p => lw_tbl[p.1]?)) = ([(278, Cond.instantiable "BestMenDuel$DawnReader" 3), (128, Cond.initialized "BestMenDuel$DawnReader")] : List (Nat × Cond)).map (fun p => some p.2) := by decide +kernel
theorem ci_in_3 : ([562, 564, 566, 568, 570, 572, 574] : List Nat).map (fun p => lw_tbl[p]?) = (u_ws RX3 TX3 7).map some := by decide +kernel
theorem ci_ins_3 : (([(548, Cond.instantiable "BestMenDuel$Gifts" 7), (134, Cond.initialized "BestMenDuel$Gifts")] : List (Nat × Cond)).map (fun p => lw_tbl[p.1]?)) = ([(548, Cond.instantiable "BestMenDuel$Gifts" 7), (134, Cond.initialized "BestMenDuel$Gifts")] : List (Nat × Cond)).map (fun p => some p.2) := by decide +kernel
theorem ci_in_4 : ([617, 619, 621, 623, 625, 627, 629, 631, 633] : List Nat).map (fun p => lw_tbl[p]?) = (u_ws RX4 TX4 9).map some := by decide +kernel
theorem ci_ins_4 : (([(596, Cond.instantiable "BestMenDuel$Living" 9), (136, Cond.initialized "BestMenDuel$Living")] : List (Nat × Cond)).map (fun p => lw_tbl[p.1]?)) = ([(596, Cond.instantiable "BestMenDuel$Living" 9), (136, Cond.initialized "BestMenDuel$Living")] : List (Nat × Cond)).map (fun p => some p.2) := by decide +kernel
theorem ci_in_5 : ([588, 590, 592] : List Nat).map (fun p => lw_tbl[p]?) = (u_ws RX5 TX5 3).map some := by decide +kernel
theorem ci_ins_5 : (([(578, Cond.instantiable "BestMenDuel$Order" 3), (135, Cond.initialized "BestMenDuel$Order")] : List (Nat × Cond)).map (fun p => lw_tbl[p.1]?)) = ([(578, Cond.instantiable "BestMenDuel$Order" 3), (135, Cond.initialized "BestMenDuel$Order")] : List (Nat × Cond)).map (fun p => some p.2) := by decide +kernel
theorem ci_in_6 : ([246, 248, 250, 252, 254, 256, 258, 260, 262, 264, 266, 268, 270, 272] : List Nat).map (fun p => lw_tbl[p]?) = (u_ws RX7 TX7 14).map some := by decide +kernel
theorem ci_ins_6 : (([(170, Cond.instantiable "BestMenDuel$Tokens" 14), (123, Cond.initialized "BestMenDuel$Tokens")] : List (Nat × Cond)).map (fun p => lw_tbl[p.1]?)) = ([(170, Cond.instantiable "BestMenDuel$Tokens" 14), (123, Cond.initialized "BestMenDuel$Tokens")] : List (Nat × Cond)).map (fun p => some p.2) := by decide +kernel
theorem ci_in_7 : ([160, 162, 164] : List Nat).map (fun p => lw_tbl[p]?) = (u_ws RX8 TX8 3).map some := by decide +kernel
theorem ci_ins_7 : (([(150, Cond.instantiable "BestMenDuel$Trays" 3), (122, Cond.initialized "BestMenDuel$Trays")] : List (Nat × Cond)).map (fun p => lw_tbl[p.1]?)) = ([(150, Cond.instantiable "BestMenDuel$Trays" 3), (122, Cond.initialized "BestMenDuel$Trays")] : List (Nat × Cond)).map (fun p => some p.2) := by decide +kernel
theorem ci_in_8 : ([355, 357, 359, 361, 363, 365, 367, 369, 371] : List Nat).map (fun p => lw_tbl[p]?) = (u_ws RX9 TX9 9).map some := by decide +kernel
theorem ci_ins_8 : (([(322, Cond.instantiable "BestMenDuel$Years" 9), (131, Cond.initialized "BestMenDuel$Years")] : List (Nat × Cond)).map (fun p => lw_tbl[p.1]?)) = ([(322, Cond.instantiable "BestMenDuel$Years" 9), (131, Cond.initialized "BestMenDuel$Years")] : List (Nat × Cond)).map (fun p => some p.2) := by decide +kernel
theorem ci_in_9 : ([304, 306, 308, 310, 312] : List Nat).map (fun p => lw_tbl[p]?) = (u_ws RX10 TX10 5).map some := by decide +kernel
theorem ci_ins_9 : (([(294, Cond.instantiable "BestMenDuel$YearsReader" 5), (129, Cond.initialized "BestMenDuel$YearsReader")] : List (Nat × Cond)).map (fun p => lw_tbl[p.1]?)) = ([(294, Cond.instantiable "BestMenDuel$YearsReader" 5), (129, Cond.initialized "BestMenDuel$YearsReader")] : List (Nat × Cond)).map (fun p => some p.2) := by decide +kernel
theorem ci_in_10 : ([656, 658, 660, 662, 664, 666, 668, 670, 672, 674, 676, 678, 680, 682, 684, 686, 688, 690, 692, 694] : List Nat).map (fun p => lw_tbl[p]?) = (u_ws RX11 TX11 20).map some := by decide +kernel
theorem ci_ins_10 : (([(142, Cond.instantiable "BestMenDuel" 20), (121, Cond.initialized "BestMenDuel")] : List (Nat × Cond)).map (fun p => lw_tbl[p.1]?)) = ([(142, Cond.instantiable "BestMenDuel" 20), (121, Cond.initialized "BestMenDuel")] : List (Nat × Cond)).map (fun p => some p.2) := by decide +kernel
theorem ci_in_11 : ([1528, 1530, 1532, 1534, 1536, 1538, 1540, 1542, 1544, 1546, 1548, 1550, 1552, 1554, 1556, 1558, 1560, 1562, 1564, 1566, 1568, 1570, 1572, 1574, 1576, 1578, 1580, 1582, 1584, 1586, 1588, 1590, 1592, 1594, 1596, 1598, 1600, 1602, 1604, 1606] : List Nat).map (fun p => lw_tbl[p]?) = (u_ws RX12 TX12 40).map some := by decide +kernel
theorem ci_ins_11 : (([(1479, Cond.instantiable "BestMenDuelModel" 40), (137, Cond.initialized "BestMenDuelModel")] : List (Nat × Cond)).map (fun p => lw_tbl[p.1]?)) = ([(1479, Cond.instantiable "BestMenDuelModel" 40), (137, Cond.initialized "BestMenDuelModel")] : List (Nat × Cond)).map (fun p => some p.2) := by decide +kernel
theorem mem_places {ps : List Nat} {ws : List Cond} (h : ps.map (fun p => lw_tbl[p]?) = ws.map some) : ∀ w ∈ ws, w ∈ lw_tbl := by
  intro w hw
  have h1 : some w ∈ ws.map some := List.mem_map.mpr ⟨w, hw, rfl⟩
  rw [← h] at h1
  obtain ⟨p, -, hp⟩ := List.mem_map.mp h1
  exact List.mem_of_getElem? hp
theorem u_good (C : String) (T : u_T) (N : Nat) : ∀ w ∈ u_ws C T N, goodWord w = true := by
  intro w hw
  obtain ⟨k, -, rfl⟩ := List.mem_map.mp hw
  unfold u_lay
  split <;> rfl
theorem TG_of {w : Cond} (h : w ∈ lw_tbl) (hg : goodWord w = true) : w ∈ TG := List.mem_filter.mpr ⟨h, hg⟩
theorem cl_cases {P : Nat → Prop} {ci : Nat} (h : ci < 12) (h0 : P 0) (h1 : P 1) (h2 : P 2) (h3 : P 3) (h4 : P 4) (h5 : P 5) (h6 : P 6) (h7 : P 7) (h8 : P 8) (h9 : P 9) (h10 : P 10) (h11 : P 11) : P ci := by
  match ci, h with
  | 0, _ => exact h0
  | 1, _ => exact h1
  | 2, _ => exact h2
  | 3, _ => exact h3
  | 4, _ => exact h4
  | 5, _ => exact h5
  | 6, _ => exact h6
  | 7, _ => exact h7
  | 8, _ => exact h8
  | 9, _ => exact h9
  | 10, _ => exact h10
  | 11, _ => exact h11
theorem cl_at {ci : Nat} (h : ci < 12) : vwCl[ci]? = some (clN ci) := cl_cases (P := fun ci => vwCl[ci]? = some (clN ci)) h rfl rfl rfl rfl rfl rfl rfl rfl rfl rfl rfl rfl
theorem cl_in {ci : Nat} (h : ci < 12) : ∀ w ∈ u_ws (clN ci).1 (clN ci).2.1 (clN ci).2.2, w ∈ TG := fun w hw => TG_of (cl_cases (P := fun ci => ∀ w ∈ u_ws (clN ci).1 (clN ci).2.1 (clN ci).2.2, w ∈ lw_tbl) h (mem_places ci_in_0) (mem_places ci_in_1) (mem_places ci_in_2) (mem_places ci_in_3) (mem_places ci_in_4) (mem_places ci_in_5) (mem_places ci_in_6) (mem_places ci_in_7) (mem_places ci_in_8) (mem_places ci_in_9) (mem_places ci_in_10) (mem_places ci_in_11) w hw) (u_good _ _ _ w hw)
theorem cl_ty {ci : Nat} (h : ci < 12) : ∀ k, k < (clN ci).2.2 → parseFieldDescriptor ((clN ci).2.1 k).2.2.1 = some (tyC ci k) := cl_cases (P := fun ci => ∀ k, k < (clN ci).2.2 → parseFieldDescriptor ((clN ci).2.1 k).2.2.1 = some (tyC ci k)) h tyX0_ok tyX1_ok tyX2_ok tyX3_ok tyX4_ok tyX5_ok tyX7_ok tyX8_ok tyX9_ok tyX10_ok tyX11_ok tyX12_ok
theorem cl_nm {ci : Nat} (h : ci < 12) : ∀ a, a < (clN ci).2.2 → ∀ b, b < (clN ci).2.2 → a ≠ b → ((clN ci).2.1 a).2.1 ≠ ((clN ci).2.1 b).2.1 := cl_cases (P := fun ci => ∀ a, a < (clN ci).2.2 → ∀ b, b < (clN ci).2.2 → a ≠ b → ((clN ci).2.1 a).2.1 ≠ ((clN ci).2.1 b).2.1) h nmX0 nmX1 nmX2 nmX3 nmX4 nmX5 nmX7 nmX8 nmX9 nmX10 nmX11 nmX12
theorem mem_pair {ps : List (Nat × Cond)} (h : ps.map (fun p => lw_tbl[p.1]?) = ps.map (fun p => some p.2)) : ∀ p ∈ ps, p.2 ∈ lw_tbl := by
  intro p hp
  have h1 : ∀ q ∈ ps, lw_tbl[q.1]? = some q.2 := by
    intro q hq
    exact List.map_inj_left.mp h q hq
  exact List.mem_of_getElem? (h1 p hp)
theorem cl_inst {ci : Nat} (h : ci < 12) : Cond.instantiable (clN ci).1 (clN ci).2.2 ∈ TG ∧ Cond.initialized (clN ci).1 ∈ TG := by
  have g : ∀ {a b c d}, ([(a, Cond.instantiable c d), (b, Cond.initialized c)].map (fun p => lw_tbl[p.1]?)) = ([(a, Cond.instantiable c d), (b, Cond.initialized c)] : List (Nat × Cond)).map (fun p => some p.2) → Cond.instantiable c d ∈ TG ∧ Cond.initialized c ∈ TG := fun h => ⟨TG_of (mem_pair h _ (List.mem_cons_self)) rfl, TG_of (mem_pair h _ (List.mem_cons_of_mem _ List.mem_cons_self)) rfl⟩
  exact cl_cases (P := fun ci => Cond.instantiable (clN ci).1 (clN ci).2.2 ∈ TG ∧ Cond.initialized (clN ci).1 ∈ TG) h (g ci_ins_0) (g ci_ins_1) (g ci_ins_2) (g ci_ins_3) (g ci_ins_4) (g ci_ins_5) (g ci_ins_6) (g ci_ins_7) (g ci_ins_8) (g ci_ins_9) (g ci_ins_10) (g ci_ins_11)
theorem cl_dec {ci : Nat} (h : ci < 12) : ∀ k, k < (clN ci).2.2 → ((clN ci).2.1 k).1 = (clN ci).1 := cl_cases (P := fun ci => ∀ k, k < (clN ci).2.2 → ((clN ci).2.1 k).1 = (clN ci).1) h (by decide +kernel) (by decide +kernel) (by decide +kernel) (by decide +kernel) (by decide +kernel) (by decide +kernel) (by decide +kernel) (by decide +kernel) (by decide +kernel) (by decide +kernel) (by decide +kernel) (by decide +kernel)
def isFT (t : FieldType) : Bool := match t with
  | .int => true
  | .boolean => true
  | .long => true
  | .object _ => true
  | .array _ => true
  | _ => false
theorem cl_ft {ci : Nat} (h : ci < 12) : ∀ k, k < (clN ci).2.2 → isFT (tyC ci k) = true := cl_cases (P := fun ci => ∀ k, k < (clN ci).2.2 → isFT (tyC ci k) = true) h (by decide +kernel) (by decide +kernel) (by decide +kernel) (by decide +kernel) (by decide +kernel) (by decide +kernel) (by decide +kernel) (by decide +kernel) (by decide +kernel) (by decide +kernel) (by decide +kernel) (by decide +kernel)
end
section
/-! rows: fields and arrays (written by wip/tools/gensim3.py) -/
theorem mk_ok {S : Sh} {t : Nat} {x : Int} (h : okT S.length t x) (ht : t ≤ 3) : okV S (mkV t x) ∧ ∀ G : GG, fV (gz G) t x = cv G (mkV t x) := by
  match t, ht with
  | 0, _ => exact ⟨h, fun _ => rfl⟩
  | 1, _ => exact ⟨h, fun _ => rfl⟩
  | 2, _ => exact ⟨⟨h.2, fun z => absurd h.1 (by omega)⟩, fun G => rf_cv h.1⟩
  | 3, _ =>
    refine ⟨?_, fun _ => rfl⟩
    rcases h with rfl | rfl <;> exact ⟨by decide, by decide⟩
theorem un_ok {S : Sh} {t : Nat} {v : AV} {x : Int} (h : unV t v = some x) (hv : okV S v) : okT S.length t x ∧ ∀ G : GG, cv G v = fV (gz G) t x := by
  unfold unV at h
  split at h
  · cases h; exact ⟨hv, fun _ => rfl⟩
  · cases h; exact ⟨hv, fun _ => rfl⟩
  · split at h
    · next z => cases h; exact ⟨⟨z, hv.1⟩, fun G => (rf_cv z).symm⟩
    · cases h
  · split at h
    · next z => cases h; exact ⟨z, fun _ => rfl⟩
    · cases h
  · cases h
theorem tag_le (t : FieldType) : tagF t ≤ 3 := by
  unfold tagF
  split <;> omega
theorem nf_ok {G : GG} {S : Sh} {ty : FieldType} {v : AV} {x : Int} (hf : isFT ty = true) (h : unV (tagF ty) v = some x) (hv : okV S v) : narrow ty (cv G v) = cv G v ∧ fits ty (cv G v) = true := by
  have e := (un_ok h hv).2 G
  rw [e]
  cases ty with
  | int => exact ⟨rfl, rfl⟩
  | long => exact ⟨rfl, rfl⟩
  | boolean =>
    have h1 := (un_ok h hv).1
    rcases h1 with rfl | rfl <;> exact ⟨rfl, rfl⟩
  | object C =>
    show narrow (.object C) (va_rf _) = va_rf _ ∧ fits (.object C) (va_rf _) = true
    cases cvR (gz G) x <;> exact ⟨rfl, rfl⟩
  | array t =>
    show narrow (.array t) (va_rf _) = va_rf _ ∧ fits (.array t) (va_rf _) = true
    cases cvR (gz G) x <;> exact ⟨rfl, rfl⟩
  | byte => cases hf
  | char => cases hf
  | double => cases hf
  | float => cases hf
  | short => cases hf
theorem obj_n {S : Sh} {k ci n : Nat} (hS : okS S) (hk : 0 < k) (h : S[k]? = some (ci, n)) (hci : ci < 12) : n = (clN ci).2.2 := by
  rcases hS.2 k (ci, n) hk h with ⟨-, h1⟩ | ⟨h1, -⟩
  · dsimp only at h1
    rw [cl_at hci] at h1
    exact (Option.some.inj h1).symm
  · dsimp only at h1
    omega
theorem tgK_o {ci j : Nat} (h : ci < 12) : tgK ci j = tagF (tyC ci j) := by
  unfold tgK
  rw [if_pos h]
theorem arr_n {S : Sh} {k K n : Nat} (hS : okS S) (hk : 0 < k) (h : S[k]? = some (K, n)) (hK : 20 ≤ K) : n ≤ 100000 := by
  rcases hS.2 k (K, n) hk h with ⟨h1, -⟩ | ⟨-, -, h1⟩
  · dsimp only at h1; omega
  · exact h1
theorem ald_get {S : Sh} {h : Mem} {K : Nat} {a b x : Int} (hS : okS S) (hK : K ≠ 99) (hv : ald S h K a b = some x) : ∃ n, S[a.toNat]? = some (K, n) ∧ 0 < a ∧ 0 < a.toNat ∧ 0 ≤ b ∧ b < (n : Int) ∧ x = h a.toNat b.toNat := by
  unfold ald at hv
  split at hv
  · next z =>
    obtain ⟨z1, z2, z3⟩ := z
    obtain ⟨n, hq, hn⟩ := kd_get z1 hK
    obtain ⟨h1, h2⟩ := kd_pos hS hq hK
    rw [hn] at z3
    cases hv
    exact ⟨n, hq, h1, h2, z2, z3, rfl⟩
  · cases hv
theorem ofN_I (n : Nat) : Int32.ofNat n = Int32.ofInt (n : Int) := rfl
theorem ast_get {S : Sh} {h h' : Mem} {K : Nat} {a b x : Int} (hS : okS S) (hK : K ≠ 99) (hv : ast S h K a b x = some h') : ∃ n, S[a.toNat]? = some (K, n) ∧ 0 < a ∧ 0 < a.toNat ∧ 0 ≤ b ∧ b < (n : Int) ∧ h' = up h a.toNat b.toNat x := by
  unfold ast at hv
  split at hv
  · next z =>
    obtain ⟨z1, z2, z3⟩ := z
    obtain ⟨n, hq, hn⟩ := kd_get z1 hK
    obtain ⟨h1, h2⟩ := kd_pos hS hq hK
    rw [hn] at z3
    cases hv
    exact ⟨n, hq, h1, h2, z2, z3, rfl⟩
  · cases hv
theorem s_getf {G : GG} {p : Program} {l : Launch} {e : Env} {R : Room} {s : State} {m : MethodId} {args : Array Value} {below : List Frame} {meth : Method} {c : Code} {Q : State → Prop} {y pc cells slots : Nat} {L : Lv} {r : List AV} {S : Sh} {h : Mem} {a : Int} {ci sl ix : Nat} (hci : ci < 12) (hk : kd S a = ci) (hsl : sl < (clN ci).2.2) (hlink : Cond.fieldLink (mdN y).1.cls ix ((clN ci).2.1 sl).1 ((clN ci).2.1 sl).2.1 ((clN ci).2.1 sl).2.2.1 ∈ TG) (hd : decode (mdN y).2.1 pc = .ok (.getfield ix, 3)) (F : FC G p s m args meth c y R)
    (k : WC G p l e R s m args below meth c Q y (pc + 3) L (mkV (tagF (tyC ci sl)) (h a.toNat sl) :: r) S h cells slots) : WC G p l e R s m args below meth c Q y pc L (.inr (.inr a) :: r) S h cells slots := by
  intro ls H locs ⟨hR, hS, hL, hV⟩
  obtain ⟨hx, hb, hml, hown, hts, hC, hini, hfr, hlo⟩ := F
  obtain ⟨hva, hV⟩ := List.forall_mem_cons.mp hV
  obtain ⟨n, hq, -⟩ := kd_get hk (by omega)
  obtain ⟨ha, ha'⟩ := kd_pos hR.1 hq (by omega)
  have hn := obj_n hR.1 ha' hq hci
  have hw := ws_at (G := G) (h := h) ha' hq
  rw [cell_o hci] at hw
  have ht := hR.2.1.1 a.toNat (ci, n) hq sl (by rw [hn]; exact hsl)
  rw [tgK_o hci] at ht
  have hm := mk_ok ht (tag_le _)
  have h2 := k ls H locs ⟨hR, hS, hL, List.forall_mem_cons.mpr ⟨hm.1, hV⟩⟩
  rw [List.map_cons, ← hm.2 G] at h2
  rw [List.map_cons, cv_ref ha]
  exact va_get (D := gD G) (ci := ci) (C := (clN ci).1) (T := (clN ci).2.1) (N := (clN ci).2.2) hx hb hts (cl_in hci) hown hC.1 hR.2.2 (a.toNat - 1) hw (cl_at hci) sl hsl (hts _ hlink) (fun _ h9 => h9) (by rw [List.getElem?_map, List.getElem?_range (by rw [hn]; exact hsl)]; rfl) hd h2
theorem s_putf {G : GG} {p : Program} {l : Launch} {e : Env} {R : Room} {s : State} {m : MethodId} {args : Array Value} {below : List Frame} {meth : Method} {c : Code} {Q : State → Prop} {y pc cells slots : Nat} {L : Lv} {r : List AV} {S : Sh} {h : Mem} {a x : Int} {v : AV} {ci sl ix : Nat} (hci : ci < 12) (hk : kd S a = ci) (hsl : sl < (clN ci).2.2) (hlink : Cond.fieldLink (mdN y).1.cls ix ((clN ci).2.1 sl).1 ((clN ci).2.1 sl).2.1 ((clN ci).2.1 sl).2.2.1 ∈ TG) (hv : unV (tagF (tyC ci sl)) v = some x) (hfin : ((clN ci).2.1 sl).2.2.2 = false ∨ ((mdN y).1.name = "<init>" ∧ (mdN y).1.cls = (clN ci).1)) (hd : decode (mdN y).2.1 pc = .ok (.putfield ix, 3)) (F : FC G p s m args meth c y R)
    (k : WC G p l e R s m args below meth c Q y (pc + 3) L r S (up h a.toNat sl x) cells slots) : WC G p l e R s m args below meth c Q y pc L (v :: .inr (.inr a) :: r) S h cells slots := by
  intro ls H locs ⟨hR, hS, hL, hV⟩
  obtain ⟨hx, hb, hml, hown, hts, hC, hini, hfr, hlo⟩ := F
  obtain ⟨hvv, hva, hV⟩ := (List.forall_mem_cons.mp hV).imp_right List.forall_mem_cons.mp
  obtain ⟨n, hq, -⟩ := kd_get hk (by omega)
  obtain ⟨ha, ha'⟩ := kd_pos hR.1 hq (by omega)
  have hn := obj_n hR.1 ha' hq hci
  have hw := ws_at (G := G) (h := h) ha' hq
  rw [cell_o hci] at hw
  have hu := un_ok hv hvv
  have hnf := nf_ok (G := G) (cl_ft hci sl hsl) hv hvv
  rw [List.map_cons, List.map_cons, cv_ref ha]
  have hset : (.inr (ci, (((List.range n).map fun j => fV (gz G) (tagF (tyC ci j)) (h a.toNat j)).set sl (cv G v))) : va_E) = cellG G (ci, n) (up h a.toNat sl x a.toNat) := by
    rw [cell_o hci]
    congr 2
    apply List.ext_getElem?
    intro i
    rw [up_at]
    by_cases e : i = sl
    · subst e
      rw [List.getElem?_set_self (by rw [List.length_map, List.length_range, hn]; exact hsl), List.getElem?_map, List.getElem?_range (by rw [hn]; exact hsl), hu.2 G]
      simp
    · rw [List.getElem?_set_ne (fun z => e z.symm), List.getElem?_map, List.getElem?_map]
      cases hr : (List.range n)[i]? with
      | none => rfl
      | some z =>
        obtain ⟨hz1, hz2⟩ := List.getElem?_eq_some_iff.mp hr
        rw [List.getElem_range] at hz2
        subst hz2
        simp [e]
  have hws := ws_up (G := G) (h := h) (h' := up h a.toNat sl x) ha' hq (fun b hb => up_ne h a.toNat sl x hb) hset
  have hfin2 : ∀ (H1 : Heap) (locs1 : List Loc), va_P (gD G) vwCl ((wsG G S h).set (a.toNat - 1) (gz G + (a.toNat - 1), .inr (ci, (((List.range n).map fun j => fV (gz G) (tagF (tyC ci j)) (h a.toNat j)).set sl (cv G v))))) H1 → va_D (gA G) ((wsG G S h).set (a.toNat - 1) (gz G + (a.toNat - 1), .inr (ci, (((List.range n).map fun j => fV (gz G) (tagF (tyC ci j)) (h a.toNat j)).set sl (cv G v))))) → va_S (gA G) s.heap H1 locs1 → W p l e R s m args below meth c H1 locs1 cells slots Q (F0 m (pc + 3) ls (r.map (cv G))) := by
    intro H1 locs1 hP1 _ hS1
    rw [hws] at hP1
    exact k ls H1 locs1 ⟨⟨hR.1, okM_up hR.2.1 hq (by rw [tgK_o hci]; exact hu.1), hP1⟩, hS1, hL, hV⟩
  by_cases hf : ((clN ci).2.1 sl).2.2.2 = false
  · exact va_put (D := gD G) (ci := ci) (ty := tyC ci sl) (C := (clN ci).1) (T := (clN ci).2.1) (N := (clN ci).2.2) hx hb hts (cl_in hci) (tyC ci) (cl_ty hci) (cl_nm hci) hown hC.1 hR.2.2 (ws_D G S h) hS (a.toNat - 1) hw (cl_at hci) sl hsl (hts _ hlink) (fun _ h9 => h9) hf (cl_ty hci sl hsl) hnf.1 hnf.2 (by rw [List.length_map, List.length_range, hn]; exact hsl) hd hfin2
  · rcases hfin with z | ⟨z1, z2⟩
    · exact absurd z hf
    · have hown2 : s.vm.findClass (clN ci).1 = some m.cls := by rw [← z2]; exact hown
      have hf' : ((clN ci).2.1 sl).2.2.2 = true := by simpa using hf
      have hdec : ((clN ci).2.1 sl).1 = (clN ci).1 := cl_dec hci sl hsl
      refine va_putF (D := gD G) (ci := ci) (ty := tyC ci sl) (C := (clN ci).1) (T := (clN ci).2.1) (N := (clN ci).2.2) hx hb hts (cl_in hci) (tyC ci) (cl_ty hci) (cl_nm hci) hown2 hC.1 hR.2.2 (ws_D G S h) hS (a.toNat - 1) hw (cl_at hci) sl hsl (by rw [z2] at hlink; exact hts _ hlink) (fun _ h9 => h9) hf' (hini z1) hdec (cl_ty hci sl hsl) hnf.1 hnf.2 (by rw [List.length_map, List.length_range, hn]; exact hsl) hd hfin2
theorem s_laload {G : GG} {p : Program} {l : Launch} {e : Env} {R : Room} {s : State} {m : MethodId} {args : Array Value} {below : List Frame} {meth : Method} {c : Code} {Q : State → Prop} {y pc cells slots : Nat} {L : Lv} {r : List AV} {S : Sh} {h : Mem} {a b x : Int} (hv : ald S h 21 a b = some x) (hd : decode (mdN y).2.1 pc = .ok (.laload, 1)) (F : FC G p s m args meth c y R)
    (k : WC G p l e R s m args below meth c Q y (pc + 1) L (.inr (.inl x) :: r) S h cells slots) : WC G p l e R s m args below meth c Q y pc L (.inl b :: .inr (.inr a) :: r) S h cells slots := by
  intro ls H locs ⟨hR, hS, hL, hV⟩
  obtain ⟨hx, hb, hml, hown, hts, hC, hini, hfr, hlo⟩ := F
  obtain ⟨hvb, hva, hV⟩ := (List.forall_mem_cons.mp hV).imp_right List.forall_mem_cons.mp
  obtain ⟨n, hq, ha, ha', hb0, hb1, rfl⟩ := ald_get hR.1 (by decide) hv
  have hw := ws_at (G := G) (h := h) ha' hq
  rw [cell_l] at hw
  have hT := hR.2.1.1 a.toNat _ hq b.toNat (by show b.toNat < n; omega)
  have h2 := k ls H locs ⟨hR, hS, hL, List.forall_mem_cons.mpr ⟨hT, hV⟩⟩
  rw [List.map_cons, List.map_cons, cv_ref ha]
  refine va_lald hx hb hC.1 hR.2.2 (a.toNat - 1) 1 hw rfl (ofI_in hvb hb0 hb1) hd ?_
  rw [ofI_nat hvb]
  exact h2
theorem s_saload {G : GG} {p : Program} {l : Launch} {e : Env} {R : Room} {s : State} {m : MethodId} {args : Array Value} {below : List Frame} {meth : Method} {c : Code} {Q : State → Prop} {y pc cells slots : Nat} {L : Lv} {r : List AV} {S : Sh} {h : Mem} {a b x : Int} (hv : ald S h 23 a b = some x) (hd : decode (mdN y).2.1 pc = .ok (.saload, 1)) (F : FC G p s m args meth c y R)
    (k : WC G p l e R s m args below meth c Q y (pc + 1) L (.inl x :: r) S h cells slots) : WC G p l e R s m args below meth c Q y pc L (.inl b :: .inr (.inr a) :: r) S h cells slots := by
  intro ls H locs ⟨hR, hS, hL, hV⟩
  obtain ⟨hx, hb, hml, hown, hts, hC, hini, hfr, hlo⟩ := F
  obtain ⟨hvb, hva, hV⟩ := (List.forall_mem_cons.mp hV).imp_right List.forall_mem_cons.mp
  obtain ⟨n, hq, ha, ha', hb0, hb1, rfl⟩ := ald_get hR.1 (by decide) hv
  have hw := ws_at (G := G) (h := h) ha' hq
  rw [cell_i (by decide)] at hw
  have hT := hR.2.1.1 a.toNat _ hq b.toNat (by show b.toNat < n; omega)
  have h2 := k ls H locs ⟨hR, hS, hL, List.forall_mem_cons.mpr ⟨okI_16 hT, hV⟩⟩
  rw [List.map_cons, List.map_cons, cv_ref ha]
  refine va_sald hx hb hC.1 hR.2.2 (a.toNat - 1) 3 hw rfl (ofI_in hvb hb0 hb1) hd ?_
  rw [ofI_nat hvb]
  exact h2
theorem s_aaload {G : GG} {p : Program} {l : Launch} {e : Env} {R : Room} {s : State} {m : MethodId} {args : Array Value} {below : List Frame} {meth : Method} {c : Code} {Q : State → Prop} {y pc cells slots : Nat} {L : Lv} {r : List AV} {S : Sh} {h : Mem} {a b x : Int} {K : Nat} (hK : K = 24 ∨ K = 25) (hv : ald S h K a b = some x) (hd : decode (mdN y).2.1 pc = .ok (.aaload, 1)) (F : FC G p s m args meth c y R)
    (k : WC G p l e R s m args below meth c Q y (pc + 1) L (.inr (.inr x) :: r) S h cells slots) : WC G p l e R s m args below meth c Q y pc L (.inl b :: .inr (.inr a) :: r) S h cells slots := by
  intro ls H locs ⟨hR, hS, hL, hV⟩
  obtain ⟨hx, hb, hml, hown, hts, hC, hini, hfr, hlo⟩ := F
  obtain ⟨hvb, hva, hV⟩ := (List.forall_mem_cons.mp hV).imp_right List.forall_mem_cons.mp
  obtain ⟨n, hq, ha, ha', hb0, hb1, rfl⟩ := ald_get hR.1 (by omega) hv
  have hw := ws_at (G := G) (h := h) ha' hq
  rw [cell_q hK] at hw
  have hT := hR.2.1.1 a.toNat _ hq b.toNat (by show b.toNat < n; omega)
  have hT' : 0 ≤ h a.toNat b.toNat ∧ h a.toNat b.toNat < (S.length : Int) := by
    rcases hK with rfl | rfl <;> exact hT
  have h2 := k ls H locs ⟨hR, hS, hL, List.forall_mem_cons.mpr ⟨⟨hT'.2, fun z => absurd hT'.1 (by omega)⟩, hV⟩⟩
  rw [List.map_cons, ← rf_cv hT'.1] at h2
  rw [List.map_cons, List.map_cons, cv_ref ha]
  have hin := ofI_in hvb hb0 hb1
  have hlt : (Int32.ofInt b).toNatClampNeg < n := by rw [ofI_nat hvb]; omega
  have e2 : va_rf (cvR (gz G) (h a.toNat b.toNat)) = va_rf (cvR (gz G) (h a.toNat (Int32.ofInt b).toNatClampNeg)) := by rw [ofI_nat hvb]
  rw [e2] at h2
  rcases hK with rfl | rfl
  · exact va_aldq hx hb hC.1 hR.2.2 (a.toNat - 1) 4 hw rfl hin hd h2
  · exact W.aald (v := va_rf (cvR (gz G) (h a.toNat (Int32.ofInt b).toNatClampNeg))) (ty := .array .long) hx hb (hR.2.2 (a.toNat - 1) _ hw) ((hC.1.2 5 _ rfl).1 n (fun j => va_rf (cvR (gz G) (h a.toNat j)))) rfl (fun q => by cases q) (by show ¬ (_ < 0 ∨ (arrV _ _ _).slots.size ≤ _); rw [arrV_size]; exact hin) (by show (arrV _ _ _).slots[_]? = _; rw [arrV_read _ _ hlt]) rfl rfl hd h2
theorem s_iaload {G : GG} {p : Program} {l : Launch} {e : Env} {R : Room} {s : State} {m : MethodId} {args : Array Value} {below : List Frame} {meth : Method} {c : Code} {Q : State → Prop} {y pc cells slots : Nat} {L : Lv} {r : List AV} {S : Sh} {h : Mem} {a b x : Int} (hv : aldI (gX G) S h a b = some x) (hd : decode (mdN y).2.1 pc = .ok (.iaload, 1)) (F : FC G p s m args meth c y R)
    (k : WC G p l e R s m args below meth c Q y (pc + 1) L (.inl x :: r) S h cells slots) : WC G p l e R s m args below meth c Q y pc L (.inl b :: .inr (.inr a) :: r) S h cells slots := by
  intro ls H locs ⟨hR, hS, hL, hV⟩
  obtain ⟨hx, hb, hml, hown, hts, hC, hini, hfr, hlo⟩ := F
  obtain ⟨hvb, hva, hU⟩ := (List.forall_mem_cons.mp hV).imp_right List.forall_mem_cons.mp
  unfold aldI at hv
  split at hv
  · next ha =>
    split at hv
    · next hin =>
      cases hv
      obtain ⟨hb0, hb1⟩ := hin
      rw [List.map_cons, List.map_cons, cv_ro ha]
      obtain ⟨-, hz, ⟨b', hb1', hb2, hb3⟩, -, ⟨t3, a3, -, a3'⟩, ⟨t4, a4, -, a4'⟩, ⟨t5, a5, -, a5'⟩, -⟩ := hC
      have tab : ∀ {t : Nat} {tl : List Int} (_ : tl.length = 4) (_ : ∀ j, j < 4 → okI (tl.getD j 0)) (_ : am_ro (gX G) a = (4, fun j => tl.getD j 0)) (_ : gR G a = .ref t) (_ : va_T .int t 4 (fun j => .int (Int32.ofInt (tl.getD j 0))) (gA G) s s.heap), W p l e R s m args below meth c H locs cells slots Q (F0 m pc ls (cv G (.inl b) :: gR G a :: r.map (cv G))) := by
        intro t tl hl hok ho hg hT
        rw [ho] at hb1
        rw [hg]
        have hb1 : b < 4 := hb1
        have h2 := k ls H locs ⟨hR, hS, hL, List.forall_mem_cons.mpr ⟨by show okI _; rw [ho]; exact hok b.toNat (by omega), hU⟩⟩
        refine va_ti hx hb hT hS (ofI_in hvb hb0 hb1) rfl hd ?_
        rw [ofI_nat hvb]
        rw [List.map_cons, ho] at h2
        exact h2
      by_cases e2 : a = -2
      · subst e2
        have h2 := k ls H locs ⟨hR, hS, hL, List.forall_mem_cons.mpr ⟨okI_toInt _, hU⟩⟩
        rw [hb1']
        refine va_sld hx hb hb3 (by omega) (by unfold gA; omega) hS (ofI_in hvb hb0 hb1) hd ?_
        rw [ofI_nat hvb]
        rw [List.map_cons] at h2
        have e3 : cv G (.inl ((am_ro (gX G) (-2)).2 b.toNat)) = .int (gx G b.toNat) := by
          show Value.int (Int32.ofInt (gx G b.toNat).toInt) = _
          rw [Int32.ofInt_toInt]
        rw [e3] at h2
        exact h2
      · by_cases e3 : a = -3
        · subst e3
          exact tab (tl := [2, 0, 0, 0]) rfl (by simp only [okI]; decide) rfl a3 a3'
        · by_cases e4 : a = -4
          · subst e4
            exact tab (tl := [12, 99, 9, 16]) rfl (by simp only [okI]; decide) rfl a4 a4'
          · by_cases e5 : a = -5
            · subst e5
              exact tab (tl := [6, 0, 2, 2]) rfl (by simp only [okI]; decide) rfl a5 a5'
            · exfalso
              unfold am_ro at hb1
              rw [if_neg e2, if_neg e3, if_neg e4, if_neg e5] at hb1
              simp at hb1
              omega
    · cases hv
  · obtain ⟨n, hq, ha, ha', hb0, hb1, rfl⟩ := ald_get hR.1 (by decide) hv
    have hw := ws_at (G := G) (h := h) ha' hq
    rw [cell_i (by decide)] at hw
    have hT := hR.2.1.1 a.toNat _ hq b.toNat (by show b.toNat < n; omega)
    have h2 := k ls H locs ⟨hR, hS, hL, List.forall_mem_cons.mpr ⟨hT, hU⟩⟩
    rw [List.map_cons, List.map_cons, cv_ref ha]
    refine va_iald hx hb hC.1 hR.2.2 (a.toNat - 1) 0 hw rfl (ofI_in hvb hb0 hb1) hd ?_
    rw [ofI_nat hvb]
    exact h2
theorem s_baload {G : GG} {p : Program} {l : Launch} {e : Env} {R : Room} {s : State} {m : MethodId} {args : Array Value} {below : List Frame} {meth : Method} {c : Code} {Q : State → Prop} {y pc cells slots : Nat} {L : Lv} {r : List AV} {S : Sh} {h : Mem} {a b x : Int} (hv : aldB S h a b = some x) (hd : decode (mdN y).2.1 pc = .ok (.baload, 1)) (F : FC G p s m args meth c y R)
    (k : WC G p l e R s m args below meth c Q y (pc + 1) L (.inl x :: r) S h cells slots) : WC G p l e R s m args below meth c Q y pc L (.inl b :: .inr (.inr a) :: r) S h cells slots := by
  intro ls H locs ⟨hR, hS, hL, hV⟩
  obtain ⟨hx, hb, hml, hown, hts, hC, hini, hfr, hlo⟩ := F
  obtain ⟨hvb, hva, hU⟩ := (List.forall_mem_cons.mp hV).imp_right List.forall_mem_cons.mp
  unfold aldB at hv
  split at hv
  · next ha =>
    split at hv
    · next hin =>
      cases hv
      obtain ⟨hb0, hb1⟩ := hin
      rw [List.map_cons, List.map_cons, cv_ro ha]
      obtain ⟨-, hz, -, -, -, -, -, ⟨q1, t1, -, a1, -, -, -, -, a1'⟩, ⟨q2, t2, -, a2, -, -, -, -, a2'⟩, -⟩ := hC
      have tab : ∀ {t : Nat} {tl : List Int} (_ : ∀ j, j < tl.length → okI (tl.getD j 0)) (_ : am_str a = tl) (_ : gR G a = .ref t) (_ : va_T .byte t tl.length (fun j => .int (Int32.ofInt (tl.getD j 0))) (gA G) s s.heap), W p l e R s m args below meth c H locs cells slots Q (F0 m pc ls (cv G (.inl b) :: gR G a :: r.map (cv G))) := by
        intro t tl hok ho hg hT
        rw [ho] at hb1
        rw [hg]
        have h2 := k ls H locs ⟨hR, hS, hL, List.forall_mem_cons.mpr ⟨by show okI _; rw [ho]; exact hok b.toNat (by omega), hU⟩⟩
        refine va_tb hx hb hT hS (ofI_in hvb hb0 hb1) rfl hd ?_
        rw [ofI_nat hvb]
        rw [List.map_cons, ho] at h2
        exact h2
      by_cases e6 : a = -6
      · subst e6
        exact tab (tl := am_words) (by simp only [okI]; decide +kernel) rfl a1 a1'
      · by_cases e7 : a = -7
        · subst e7
          exact tab (tl := am_keys) (by simp only [okI]; decide +kernel) rfl a2 a2'
        · exfalso
          unfold am_str at hb1
          rw [if_neg e6, if_neg e7] at hb1
          simp at hb1
          omega
    · cases hv
  · obtain ⟨n, hq, ha, ha', hb0, hb1, rfl⟩ := ald_get hR.1 (by decide) hv
    have hw := ws_at (G := G) (h := h) ha' hq
    rw [cell_i (by decide)] at hw
    have hT := hR.2.1.1 a.toNat _ hq b.toNat (by show b.toNat < n; omega)
    have h2 := k ls H locs ⟨hR, hS, hL, List.forall_mem_cons.mpr ⟨okI_8 hT, hU⟩⟩
    rw [List.map_cons, List.map_cons, cv_ref ha]
    refine va_bald hx hb hC.1 hR.2.2 (a.toNat - 1) 2 hw rfl (ofI_in hvb hb0 hb1) hd ?_
    rw [ofI_nat hvb]
    exact h2
theorem s_iastore {G : GG} {p : Program} {l : Launch} {e : Env} {R : Room} {s : State} {m : MethodId} {args : Array Value} {below : List Frame} {meth : Method} {c : Code} {Q : State → Prop} {y pc cells slots : Nat} {L : Lv} {r : List AV} {S : Sh} {h : Mem} {a b x : Int} {h2 : Mem} (hv : ast S h 20 a b (x) = some h2) (hd : decode (mdN y).2.1 pc = .ok (.iastore, 1)) (F : FC G p s m args meth c y R)
    (k : WC G p l e R s m args below meth c Q y (pc + 1) L r S h2 cells slots) : WC G p l e R s m args below meth c Q y pc L (.inl x :: .inl b :: .inr (.inr a) :: r) S h cells slots := by
  intro ls H locs ⟨hR, hS, hL, hV⟩
  obtain ⟨hx, hb, hml, hown, hts, hC, hini, hfr, hlo⟩ := F
  obtain ⟨hvx, hvb, hva, hV⟩ := (List.forall_mem_cons.mp hV).imp_right (fun z => (List.forall_mem_cons.mp z).imp_right List.forall_mem_cons.mp)
  obtain ⟨n, hq, ha, ha', hb0, hb1, rfl⟩ := ast_get hR.1 (by decide) hv
  have hw := ws_at (G := G) (h := h) ha' hq
  rw [cell_i (by decide)] at hw
  rw [List.map_cons, List.map_cons, List.map_cons, cv_ref ha]
  refine va_iast hx hb hC.1 hR.2.2 (ws_D G S h) hS (a.toNat - 1) 0 hw rfl (ofI_in hvb hb0 hb1) hd fun H1 locs1 hP1 _ hS1 => ?_
  rw [ws_up (h' := up h a.toNat b.toNat (x)) ha' hq (fun z hz => up_ne h a.toNat b.toNat _ hz) ?_] at hP1
  · exact k ls H1 locs1 ⟨⟨hR.1, okM_up hR.2.1 hq (by exact hvx), hP1⟩, hS1, hL, hV⟩
  · rw [cell_i (by decide), up_at, ofI_nat hvb]
    refine congrArg (fun f => (Sum.inl (gC G 20, n, Sum.inl f) : va_E)) (funext fun j => ?_)
    by_cases e : j = b.toNat
    · simp [upd, vp_updL, e, cv]
    · simp [upd, vp_updL, e]
theorem s_bastore {G : GG} {p : Program} {l : Launch} {e : Env} {R : Room} {s : State} {m : MethodId} {args : Array Value} {below : List Frame} {meth : Method} {c : Code} {Q : State → Prop} {y pc cells slots : Nat} {L : Lv} {r : List AV} {S : Sh} {h : Mem} {a b x : Int} {h2 : Mem} (hv : ast S h 22 a b (w8 x) = some h2) (hd : decode (mdN y).2.1 pc = .ok (.bastore, 1)) (F : FC G p s m args meth c y R)
    (k : WC G p l e R s m args below meth c Q y (pc + 1) L r S h2 cells slots) : WC G p l e R s m args below meth c Q y pc L (.inl x :: .inl b :: .inr (.inr a) :: r) S h cells slots := by
  intro ls H locs ⟨hR, hS, hL, hV⟩
  obtain ⟨hx, hb, hml, hown, hts, hC, hini, hfr, hlo⟩ := F
  obtain ⟨hvx, hvb, hva, hV⟩ := (List.forall_mem_cons.mp hV).imp_right (fun z => (List.forall_mem_cons.mp z).imp_right List.forall_mem_cons.mp)
  obtain ⟨n, hq, ha, ha', hb0, hb1, rfl⟩ := ast_get hR.1 (by decide) hv
  have hw := ws_at (G := G) (h := h) ha' hq
  rw [cell_i (by decide)] at hw
  rw [List.map_cons, List.map_cons, List.map_cons, cv_ref ha]
  refine va_bast hx hb hC.1 hR.2.2 (ws_D G S h) hS (a.toNat - 1) 2 hw rfl (ofI_in hvb hb0 hb1) hd fun H1 locs1 hP1 _ hS1 => ?_
  rw [ws_up (h' := up h a.toNat b.toNat (w8 x)) ha' hq (fun z hz => up_ne h a.toNat b.toNat _ hz) ?_] at hP1
  · exact k ls H1 locs1 ⟨⟨hR.1, okM_up hR.2.1 hq (by exact w8_ok x), hP1⟩, hS1, hL, hV⟩
  · rw [cell_i (by decide), up_at, ofI_nat hvb]
    refine congrArg (fun f => (Sum.inl (gC G 22, n, Sum.inl f) : va_E)) (funext fun j => ?_)
    by_cases e : j = b.toNat
    · simp [upd, vp_updL, e, nar_b hvx]
    · simp [upd, vp_updL, e]
theorem s_sastore {G : GG} {p : Program} {l : Launch} {e : Env} {R : Room} {s : State} {m : MethodId} {args : Array Value} {below : List Frame} {meth : Method} {c : Code} {Q : State → Prop} {y pc cells slots : Nat} {L : Lv} {r : List AV} {S : Sh} {h : Mem} {a b x : Int} {h2 : Mem} (hv : ast S h 23 a b (w16 x) = some h2) (hd : decode (mdN y).2.1 pc = .ok (.sastore, 1)) (F : FC G p s m args meth c y R)
    (k : WC G p l e R s m args below meth c Q y (pc + 1) L r S h2 cells slots) : WC G p l e R s m args below meth c Q y pc L (.inl x :: .inl b :: .inr (.inr a) :: r) S h cells slots := by
  intro ls H locs ⟨hR, hS, hL, hV⟩
  obtain ⟨hx, hb, hml, hown, hts, hC, hini, hfr, hlo⟩ := F
  obtain ⟨hvx, hvb, hva, hV⟩ := (List.forall_mem_cons.mp hV).imp_right (fun z => (List.forall_mem_cons.mp z).imp_right List.forall_mem_cons.mp)
  obtain ⟨n, hq, ha, ha', hb0, hb1, rfl⟩ := ast_get hR.1 (by decide) hv
  have hw := ws_at (G := G) (h := h) ha' hq
  rw [cell_i (by decide)] at hw
  rw [List.map_cons, List.map_cons, List.map_cons, cv_ref ha]
  refine va_sast hx hb hC.1 hR.2.2 (ws_D G S h) hS (a.toNat - 1) 3 hw rfl (ofI_in hvb hb0 hb1) hd fun H1 locs1 hP1 _ hS1 => ?_
  rw [ws_up (h' := up h a.toNat b.toNat (w16 x)) ha' hq (fun z hz => up_ne h a.toNat b.toNat _ hz) ?_] at hP1
  · exact k ls H1 locs1 ⟨⟨hR.1, okM_up hR.2.1 hq (by exact w16_ok x), hP1⟩, hS1, hL, hV⟩
  · rw [cell_i (by decide), up_at, ofI_nat hvb]
    refine congrArg (fun f => (Sum.inl (gC G 23, n, Sum.inl f) : va_E)) (funext fun j => ?_)
    by_cases e : j = b.toNat
    · simp [upd, vp_updL, e, nar_s hvx]
    · simp [upd, vp_updL, e]
theorem s_lastore {G : GG} {p : Program} {l : Launch} {e : Env} {R : Room} {s : State} {m : MethodId} {args : Array Value} {below : List Frame} {meth : Method} {c : Code} {Q : State → Prop} {y pc cells slots : Nat} {L : Lv} {r : List AV} {S : Sh} {h : Mem} {a b x : Int} {h2 : Mem} (hv : ast S h 21 a b (x) = some h2) (hd : decode (mdN y).2.1 pc = .ok (.lastore, 1)) (F : FC G p s m args meth c y R)
    (k : WC G p l e R s m args below meth c Q y (pc + 1) L r S h2 cells slots) : WC G p l e R s m args below meth c Q y pc L (.inr (.inl x) :: .inl b :: .inr (.inr a) :: r) S h cells slots := by
  intro ls H locs ⟨hR, hS, hL, hV⟩
  obtain ⟨hx, hb, hml, hown, hts, hC, hini, hfr, hlo⟩ := F
  obtain ⟨hvx, hvb, hva, hV⟩ := (List.forall_mem_cons.mp hV).imp_right (fun z => (List.forall_mem_cons.mp z).imp_right List.forall_mem_cons.mp)
  obtain ⟨n, hq, ha, ha', hb0, hb1, rfl⟩ := ast_get hR.1 (by decide) hv
  have hw := ws_at (G := G) (h := h) ha' hq
  rw [cell_l] at hw
  rw [List.map_cons, List.map_cons, List.map_cons, cv_ref ha]
  refine va_last hx hb hC.1 hR.2.2 (ws_D G S h) hS (a.toNat - 1) 1 hw rfl (ofI_in hvb hb0 hb1) hd fun H1 locs1 hP1 _ hS1 => ?_
  rw [ws_up (h' := up h a.toNat b.toNat (x)) ha' hq (fun z hz => up_ne h a.toNat b.toNat _ hz) ?_] at hP1
  · exact k ls H1 locs1 ⟨⟨hR.1, okM_up hR.2.1 hq (by exact hvx), hP1⟩, hS1, hL, hV⟩
  · rw [cell_l, up_at, ofI_nat hvb]
    refine congrArg (fun f => (Sum.inl (gC G 21, n, Sum.inr (Sum.inl f)) : va_E)) (funext fun j => ?_)
    by_cases e : j = b.toNat
    · simp [upd, vp_updL, e, cv]
    · simp [upd, vp_updL, e]
theorem s_aastore {G : GG} {p : Program} {l : Launch} {e : Env} {R : Room} {s : State} {m : MethodId} {args : Array Value} {below : List Frame} {meth : Method} {c : Code} {Q : State → Prop} {y pc cells slots : Nat} {L : Lv} {r : List AV} {S : Sh} {h : Mem} {a b x : Int} {h2 : Mem} (hx1 : kd S x = 1) (hv : ast S h 24 a b x = some h2) (hd : decode (mdN y).2.1 pc = .ok (.aastore, 1)) (F : FC G p s m args meth c y R)
    (k : WC G p l e R s m args below meth c Q y (pc + 1) L r S h2 cells slots) : WC G p l e R s m args below meth c Q y pc L (.inr (.inr x) :: .inl b :: .inr (.inr a) :: r) S h cells slots := by
  intro ls H locs ⟨hR, hS, hL, hV⟩
  obtain ⟨hx, hb, hml, hown, hts, hC, hini, hfr, hlo⟩ := F
  obtain ⟨hvx, hvb, hva, hV⟩ := (List.forall_mem_cons.mp hV).imp_right (fun z => (List.forall_mem_cons.mp z).imp_right List.forall_mem_cons.mp)
  obtain ⟨n, hq, ha, ha', hb0, hb1, rfl⟩ := ast_get hR.1 (by decide) hv
  obtain ⟨nx, hqx, -⟩ := kd_get hx1 (by decide)
  obtain ⟨hxp, hxp'⟩ := kd_pos hR.1 hqx (by decide)
  have hw := ws_at (G := G) (h := h) ha' hq
  have hwx := ws_at (G := G) (h := h) hxp' hqx
  rw [cell_q (by decide)] at hw
  rw [cell_o (by decide)] at hwx
  rw [List.map_cons, List.map_cons, List.map_cons, cv_ref ha, cv_ref hxp]
  refine va_astq hx hb hC.1 hR.2.2 (ws_D G S h) hS (a.toNat - 1) 4 (x.toNat - 1) 1 (r := clN 1) hw rfl hwx (cl_at (by decide)) (ofI_in hvb hb0 hb1) hd fun H1 locs1 hP1 _ hS1 => ?_
  rw [ws_up (h' := up h a.toNat b.toNat x) ha' hq (fun z hz => up_ne h a.toNat b.toNat _ hz) ?_] at hP1
  · exact k ls H1 locs1 ⟨⟨hR.1, okM_up hR.2.1 hq (by exact ⟨by omega, hvx.1⟩), hP1⟩, hS1, hL, hV⟩
  · rw [cell_q (by decide), up_at, ofI_nat hvb]
    refine congrArg (fun f => (Sum.inl (gC G 24, n, Sum.inr (Sum.inr (Sum.inr (Sum.inr f)))) : va_E)) (funext fun j => ?_)
    by_cases e : j = b.toNat
    · have : ¬ x ≤ 0 := by omega
      simp [va_up, e, cvR, this, adr]
    · simp [va_up, e]
theorem s_arraylength {G : GG} {p : Program} {l : Launch} {e : Env} {R : Room} {s : State} {m : MethodId} {args : Array Value} {below : List Frame} {meth : Method} {c : Code} {Q : State → Prop} {y pc cells slots : Nat} {L : Lv} {r : List AV} {S : Sh} {h : Mem} {a x : Int} (hv : aln (gX G) S a = some x) (hd : decode (mdN y).2.1 pc = .ok (.arraylength, 1)) (F : FC G p s m args meth c y R)
    (k : WC G p l e R s m args below meth c Q y (pc + 1) L (.inl x :: r) S h cells slots) : WC G p l e R s m args below meth c Q y pc L (.inr (.inr a) :: r) S h cells slots := by
  intro ls H locs ⟨hR, hS, hL, hV⟩
  obtain ⟨hx, hb, hml, hown, hts, hC, hini, hfr, hlo⟩ := F
  obtain ⟨hva, hU⟩ := List.forall_mem_cons.mp hV
  unfold aln at hv
  split at hv
  · next ha =>
    rw [List.map_cons, cv_ro ha]
    obtain ⟨-, hz, ⟨b', hb1', hb2, hb3⟩, hL3, -, -, -, ⟨q1, t1, -, a1, -, -, -, -, a1'⟩, ⟨q2, t2, -, a2, -, -, -, -, a2'⟩, -⟩ := hC
    split at hv
    · next e =>
      subst e
      cases hv
      rw [hb1']
      have ok : okI (gL G : Int) := by unfold okI; omega
      have h2 := k ls H locs ⟨hR, hS, hL, List.forall_mem_cons.mpr ⟨ok, hU⟩⟩
      refine va_slen hx hb hb3 (by omega) (by unfold gA; omega) hS hd ?_
      exact h2
    · split at hv
      · next e =>
        cases hv
        rcases e with rfl | rfl
        · have h2 := k ls H locs ⟨hR, hS, hL, List.forall_mem_cons.mpr ⟨by show okI _; unfold okI; decide +kernel, hU⟩⟩
          rw [a1]
          rw [List.map_cons, show am_str (-6) = am_words from rfl] at h2
          exact va_tlen hx hb a1' hS (ofN_I _) hd h2
        · have h2 := k ls H locs ⟨hR, hS, hL, List.forall_mem_cons.mpr ⟨by show okI _; unfold okI; decide +kernel, hU⟩⟩
          rw [a2]
          rw [List.map_cons, show am_str (-7) = am_keys from rfl] at h2
          exact va_tlen hx hb a2' hS (ofN_I _) hd h2
      · cases hv
  · split at hv
    · next hk =>
      cases hv
      obtain ⟨n, hq, hn⟩ := kd_get (S := S) (r := a) rfl (by omega)
      obtain ⟨ha, ha'⟩ := kd_pos hR.1 hq (by omega)
      have hn1 := arr_n hR.1 ha' hq hk.1
      have ok : okI (ln S a : Int) := by unfold okI; omega
      have h2 := k ls H locs ⟨hR, hS, hL, List.forall_mem_cons.mpr ⟨ok, hU⟩⟩
      have hw := ws_at (G := G) (h := h) ha' hq
      rw [List.map_cons, cv_ref ha]
      rw [hn] at h2
      have hK : kd S a = 20 ∨ kd S a = 21 ∨ kd S a = 22 ∨ kd S a = 23 ∨ kd S a = 24 ∨ kd S a = 25 := by omega
      rcases hK with e | e | e | e | e | e
      · rw [e, cell_i (by decide)] at hw
        exact va_alen hx hb hC.1 hR.2.2 (a.toNat - 1) 0 hw (ty := .int) rfl rfl hd h2
      · rw [e, cell_l] at hw
        exact va_alen hx hb hC.1 hR.2.2 (a.toNat - 1) 1 hw (ty := .long) rfl rfl hd h2
      · rw [e, cell_i (by decide)] at hw
        exact va_alen hx hb hC.1 hR.2.2 (a.toNat - 1) 2 hw (ty := .byte) rfl rfl hd h2
      · rw [e, cell_i (by decide)] at hw
        exact va_alen hx hb hC.1 hR.2.2 (a.toNat - 1) 3 hw (ty := .short) rfl rfl hd h2
      · rw [e, cell_q (by decide)] at hw
        exact va_alen hx hb hC.1 hR.2.2 (a.toNat - 1) 4 hw (ty := .object "BestMenDuel$Dawn") rfl rfl hd h2
      · rw [e, cell_q (by decide)] at hw
        exact va_alen hx hb hC.1 hR.2.2 (a.toNat - 1) 5 hw (ty := .array .long) rfl rfl hd h2
    · cases hv
end
section
/-! rows: constants of the pool, statics, switches, what is made, arraycopy, calls, ends (written by wip/tools/gensim4.py) -/
def slt (S : Sh) : Nat := (S.map (fun q => q.2)).sum
theorem slt_app (S T : Sh) : slt (S ++ T) = slt S + slt T := by simp [slt]
theorem W_size {p : Program} {l : Launch} {e : Env} {R : Room} {s : State} {m : MethodId} {args : Array Value} {below : List Frame} {meth : Method} {c : Code} {H : Heap} {locs : List Loc} {cells slots : Nat} {Q : State → Prop} {g : JFrame} (k : H.size ≤ s.heap.size + cells → W p l e R s m args below meth c H locs cells slots Q g) : W p l e R s m args below meth c H locs cells slots Q g :=
  fun T hT X => k (by rw [← hT]; exact X.heapSize) T hT X
theorem Rel_size {G : GG} {s : State} {S : Sh} {h : Mem} {H : Heap} {locs : List Loc} {cells : Nat} (hC : CX G s) (hR : Rel G S h H) (hS : va_S (gA G) s.heap H locs) (hz : s.heap.size + cells = gz G + (S.length - 1)) (hs : H.size ≤ s.heap.size + cells) : H.size = gz G + (S.length - 1) := by
  have h1 : gz G + (S.length - 1) ≤ H.size := by
    by_cases hl : S.length ≤ 1
    · have := hC.2.1
      have := hS.1
      omega
    · have hq : ∃ q, S[S.length - 1]? = some q := ⟨S[S.length - 1], List.getElem?_eq_getElem (by omega)⟩
      obtain ⟨q, hq⟩ := hq
      have := (hR.2.2 _ _ (ws_at (G := G) (h := h) (by omega) hq)).lt
      simp only at this
      omega
  omega
theorem ws_push {G : GG} {S : Sh} {h : Mem} (q : Nat × Nat) (hS : 0 < S.length) : wsG G (S ++ [q]) h = wsG G S h ++ [(gz G + (S.length - 1), cellG G q (h S.length))] := by
  apply List.ext_getElem?
  intro i
  by_cases hi : i < S.length - 1
  · rw [List.getElem?_append_left (by rw [ws_len]; exact hi)]
    have h1 : S[i + 1]? = some S[i + 1] := List.getElem?_eq_getElem (by omega)
    have h2 : (S ++ [q])[i + 1]? = some S[i + 1] := by rw [List.getElem?_append_left (by omega)]; exact h1
    have e1 := ws_at (G := G) (h := h) (Nat.succ_pos i) h1
    have e2 := ws_at (G := G) (h := h) (Nat.succ_pos i) h2
    exact e2.trans e1.symm
  · by_cases hi2 : i = S.length - 1
    · have h2 : (S ++ [q])[S.length]? = some q := by simp
      have e2 := ws_at (G := G) (h := h) hS h2
      rw [hi2, e2, List.getElem?_append_right (by rw [ws_len]; omega), ws_len, Nat.sub_self]
      rfl
    · rw [List.getElem?_eq_none (by rw [ws_len, List.length_append]; simp; omega), List.getElem?_eq_none (by rw [List.length_append, ws_len]; simp; omega)]
theorem okT_mono {n n' t : Nat} {x : Int} (hn : n ≤ n') (h : okT n t x) : okT n' t x := by
  unfold okT at *
  split at h <;> first | exact h | (exact ⟨h.1, by omega⟩)
theorem okM_push {S : Sh} {h : Mem} (q : Nat × Nat) (hM : okM S h) : okM (S ++ [q]) h := by
  refine ⟨fun k p hp j hj => ?_, fun k hk j => hM.2 k (by rw [List.length_append] at hk; simp at hk; omega) j⟩
  by_cases hl : k < S.length
  · rw [List.getElem?_append_left hl] at hp
    exact okT_mono (by rw [List.length_append]; omega) (hM.1 k p hp j hj)
  · have e : k = S.length := by
      have := (List.getElem?_eq_some_iff.mp hp).1
      rw [List.length_append] at this
      simp at this
      omega
    rw [hM.2 k (by omega) j]
    unfold okT
    split <;> first | (unfold okI; omega) | (unfold okJ; omega) | omega | (rw [List.length_append]; simp) | (rw [List.length_append]; simp; omega)
theorem okS_push {S : Sh} {q : Nat × Nat} (hS : okS S) (hq : (q.1 < 12 ∧ (vwCl[q.1]?).map (fun r => r.2.2) = some q.2) ∨ (20 ≤ q.1 ∧ q.1 ≤ 25 ∧ q.2 ≤ 100000)) : okS (S ++ [q]) := by
  have h0 : 0 < S.length := (List.getElem?_eq_some_iff.mp hS.1).1
  refine ⟨by rw [List.getElem?_append_left h0]; exact hS.1, fun k p hk hp => ?_⟩
  by_cases hl : k < S.length
  · rw [List.getElem?_append_left hl] at hp
    exact hS.2 k p hk hp
  · rw [List.getElem?_append_right (by omega)] at hp
    have e : k - S.length < 1 := (List.getElem?_eq_some_iff.mp hp).1
    rw [show k - S.length = 0 by omega] at hp
    cases hp
    exact hq
theorem LR_mono {G : GG} {S S' : Sh} {nL : Nat} {ls : Array Slot} {L : Lv} (hn : S.length ≤ S'.length) (h : LR G S nL ls L) : LR G S' nL ls L := ⟨h.1, h.2.1, fun v hv => okV_mono hn (h.2.2 v hv)⟩
theorem Rel_push {G : GG} {S : Sh} {h : Mem} {H H1 : Heap} {q : Nat × Nat} (hR : Rel G S h H) (hq : (q.1 < 12 ∧ (vwCl[q.1]?).map (fun r => r.2.2) = some q.2) ∨ (20 ≤ q.1 ∧ q.1 ≤ 25 ∧ q.2 ≤ 100000)) (hsz : H.size = gz G + (S.length - 1))
    (ho : ∀ x, x < H.size → H1[x]? = H[x]?) (hn : va_at (gD G) vwCl (gz G + (S.length - 1), cellG G q (fun _ => 0)) H1) : Rel G (S ++ [q]) h H1 := by
  have h0 : 0 < S.length := (List.getElem?_eq_some_iff.mp hR.1.1).1
  refine ⟨okS_push hR.1 hq, okM_push q hR.2.1, ?_⟩
  rw [ws_push q h0]
  refine (hR.2.2.kept (fun k x hx => ho x.1 ((hR.2.2 k x hx).lt))).app (fun k x hx => ?_)
  have hz : k < 1 := (List.getElem?_eq_some_iff.mp hx).1
  rw [show k = 0 by omega] at hx
  cases hx
  have e : h S.length = fun _ => 0 := funext fun j => hR.2.1.2 S.length (Nat.le_refl _) j
  rw [e]
  exact hn
theorem va_S_push {G : GG} {s : State} {H H1 : Heap} {locs : List Loc} (hS : va_S (gA G) s.heap H locs) (hz : H.size ≤ H1.size) (ho : ∀ x, x < H.size → H1[x]? = H[x]?) : va_S (gA G) s.heap H1 locs :=
  ⟨Nat.le_trans hS.1 hz, fun x h1 h2 => (ho x (Nat.lt_of_lt_of_le h1 hS.1)).trans (hS.2.1 x h1 h2), hS.2.2⟩
theorem s_ldcI {G : GG} {p : Program} {l : Launch} {e : Env} {R : Room} {s : State} {m : MethodId} {args : Array Value} {below : List Frame} {meth : Method} {c : Code} {Q : State → Prop} {y pc cells slots : Nat} {L : Lv} {r : List AV} {S : Sh} {h : Mem} {ix : Nat} {v : Int} (hv : okI v) (hc : Cond.constant (mdN y).1.cls ix (Int32.ofInt v) ∈ TG) (hd : decode (mdN y).2.1 pc = .ok (.ldc ix, 2)) (F : FC G p s m args meth c y R)
    (k : WC G p l e R s m args below meth c Q y (pc + 2) L (.inl v :: r) S h cells slots) : WC G p l e R s m args below meth c Q y pc L r S h cells slots := by
  intro ls H locs ⟨hR, hS, hL, hV⟩
  obtain ⟨hx, hb, hml, hown, hts, hC, hini, hfr, hlo⟩ := F
  exact lv_ldc hx hb hown (hts _ hc) hd (k ls H locs ⟨hR, hS, hL, List.forall_mem_cons.mpr ⟨hv, hV⟩⟩)
theorem s_ldcW {G : GG} {p : Program} {l : Launch} {e : Env} {R : Room} {s : State} {m : MethodId} {args : Array Value} {below : List Frame} {meth : Method} {c : Code} {Q : State → Prop} {y pc cells slots : Nat} {L : Lv} {r : List AV} {S : Sh} {h : Mem} {ix : Nat} {v : Int} (hv : okI v) (hc : Cond.constant (mdN y).1.cls ix (Int32.ofInt v) ∈ TG) (hd : decode (mdN y).2.1 pc = .ok (.ldc_w ix, 3)) (F : FC G p s m args meth c y R)
    (k : WC G p l e R s m args below meth c Q y (pc + 3) L (.inl v :: r) S h cells slots) : WC G p l e R s m args below meth c Q y pc L r S h cells slots := by
  intro ls H locs ⟨hR, hS, hL, hV⟩
  obtain ⟨hx, hb, hml, hown, hts, hC, hini, hfr, hlo⟩ := F
  exact lv_ldcw hx hb hown (hts _ hc) hd (k ls H locs ⟨hR, hS, hL, List.forall_mem_cons.mpr ⟨hv, hV⟩⟩)
theorem s_ldc2 {G : GG} {p : Program} {l : Launch} {e : Env} {R : Room} {s : State} {m : MethodId} {args : Array Value} {below : List Frame} {meth : Method} {c : Code} {Q : State → Prop} {y pc cells slots : Nat} {L : Lv} {r : List AV} {S : Sh} {h : Mem} {ix : Nat} {v : Int} (hv : okJ v) (hc : Cond.constantLong (mdN y).1.cls ix (Int64.ofInt v) ∈ TG) (hd : decode (mdN y).2.1 pc = .ok (.ldc2_w ix, 3)) (F : FC G p s m args meth c y R)
    (k : WC G p l e R s m args below meth c Q y (pc + 3) L (.inr (.inl v) :: r) S h cells slots) : WC G p l e R s m args below meth c Q y pc L r S h cells slots := by
  intro ls H locs ⟨hR, hS, hL, hV⟩
  obtain ⟨hx, hb, hml, hown, hts, hC, hini, hfr, hlo⟩ := F
  exact lv_ldc2 hx hb hown (hts _ hc) hd (k ls H locs ⟨hR, hS, hL, List.forall_mem_cons.mpr ⟨hv, hV⟩⟩)
theorem s_ldcS {G : GG} {p : Program} {l : Launch} {e : Env} {R : Room} {s : State} {m : MethodId} {args : Array Value} {below : List Frame} {meth : Method} {c : Code} {Q : State → Prop} {y pc cells slots : Nat} {L : Lv} {r : List AV} {S : Sh} {h : Mem} {ix : Nat} {v : Int} (hv : ((mdN y).1.cls = "BestMenDuel$Tokens" ∧ ix = 29 ∧ v = -8) ∨ ((mdN y).1.cls = "BestMenDuelModel" ∧ ix = 183 ∧ v = -9)) (hd : decode (mdN y).2.1 pc = .ok (.ldc ix, 2)) (F : FC G p s m args meth c y R)
    (k : WC G p l e R s m args below meth c Q y (pc + 2) L (.inr (.inr v) :: r) S h cells slots) : WC G p l e R s m args below meth c Q y pc L r S h cells slots := by
  intro ls H locs ⟨hR, hS, hL, hV⟩
  obtain ⟨hx, hb, hml, hown, hts, hC, hini, hfr, hlo⟩ := F
  obtain ⟨-, hz, -, -, -, -, -, ⟨q1, t1, a1, -, r1, -⟩, ⟨q2, t2, a2, -, r2, -⟩, -⟩ := hC
  have h0 : 0 < S.length := (List.getElem?_eq_some_iff.mp hR.1.1).1
  rcases hv with ⟨e1, rfl, rfl⟩ | ⟨e1, rfl, rfl⟩
  · have h2 := k ls H locs ⟨hR, hS, hL, List.forall_mem_cons.mpr ⟨⟨by omega, by omega⟩, hV⟩⟩
    rw [List.map_cons, cv_ro (by decide), a1] at h2
    rw [e1] at hown
    exact va_ldcS hx hb hown r1 hd h2
  · have h2 := k ls H locs ⟨hR, hS, hL, List.forall_mem_cons.mpr ⟨⟨by omega, by omega⟩, hV⟩⟩
    rw [List.map_cons, cv_ro (by decide), a2] at h2
    rw [e1] at hown
    exact va_ldcS hx hb hown r2 hd h2
theorem s_getS {G : GG} {p : Program} {l : Launch} {e : Env} {R : Room} {s : State} {m : MethodId} {args : Array Value} {below : List Frame} {meth : Method} {c : Code} {Q : State → Prop} {y pc cells slots : Nat} {L : Lv} {r : List AV} {S : Sh} {h : Mem} {ix : Nat} {a : Int} {sl : Nat} (ha : a = -8 ∨ a = -9) (hs : ((mdN y).1.cls = "java/lang/String") ∧ ((sl = 0 ∧ Cond.fieldLink "java/lang/String" ix "java/lang/String" "value" "[B" ∈ TG) ∨ (sl ≠ 0 ∧ Cond.fieldLink "java/lang/String" ix "java/lang/String" "coder" "B" ∈ TG))) (hd : decode (mdN y).2.1 pc = .ok (.getfield ix, 3)) (F : FC G p s m args meth c y R)
    (k : WC G p l e R s m args below meth c Q y (pc + 3) L ((if sl = 0 then .inr (.inr (a + 2)) else .inl 0) :: r) S h cells slots) : WC G p l e R s m args below meth c Q y pc L (.inr (.inr a) :: r) S h cells slots := by
  intro ls H locs ⟨hR, hS, hL, hV⟩
  obtain ⟨hx, hb, hml, hown, hts, hC, hini, hfr, hlo⟩ := F
  obtain ⟨hva, hU⟩ := List.forall_mem_cons.mp hV
  have h0 : 0 < S.length := (List.getElem?_eq_some_iff.mp hR.1.1).1
  obtain ⟨-, hz, -, -, -, -, -, ⟨q1, t1, a1, b1, -, -, v1, c1, -⟩, ⟨q2, t2, a2, b2, -, -, v2, c2, -⟩, -⟩ := hC
  obtain ⟨e1, hs⟩ := hs
  rw [e1] at hown
  have h2 := k ls H locs ⟨hR, hS, hL, List.forall_mem_cons.mpr ⟨by
    split
    · exact ⟨by omega, fun _ => by omega⟩
    · exact okI_0, hU⟩⟩
  rw [List.map_cons, cv_ro (by omega)]
  rcases hs with ⟨e, hl⟩ | ⟨e, hl⟩
  · rw [if_pos e, List.map_cons, cv_ro (by omega)] at h2
    rcases ha with rfl | rfl
    · rw [a1]
      rw [show (-8 : Int) + 2 = -6 by decide, b1] at h2
      exact vk_getf hx hb v1 hS hown (hts _ hl) (fun _ h9 => h9) hd h2
    · rw [a2]
      rw [show (-9 : Int) + 2 = -7 by decide, b2] at h2
      exact vk_getf hx hb v2 hS hown (hts _ hl) (fun _ h9 => h9) hd h2
  · rw [if_neg e] at h2
    rcases ha with rfl | rfl
    · rw [a1]
      exact vk_getf hx hb c1 hS hown (hts _ hl) (fun _ h9 => h9) hd h2
    · rw [a2]
      exact vk_getf hx hb c2 hS hown (hts _ hl) (fun _ h9 => h9) hd h2
def gsOk (cls : String) (ix : Nat) (t : Nat) (v : Int) : Prop :=
  (Cond.fieldLink cls ix (gsN v).1 (gsN v).2.1 (gsN v).2.2 ∈ TG ∧ ((t = 1 ∧ (v = -3 ∨ v = -4 ∨ v = -10)) ∨ (t = 0 ∧ v = 1))) ∨ (t = 1 ∧ ((cls = "BestMenDuel$Dawn" ∧ ix = 66 ∧ v = -5) ∨ (cls = "BestMenDuel$DawnReader" ∧ ix = 60 ∧ v = -3) ∨ (cls = "BestMenDuel$DawnReader" ∧ ix = 64 ∧ v = -4) ∨ (cls = "BestMenDuel$YearsReader" ∧ ix = 108 ∧ v = -4)))
theorem s_gets {G : GG} {p : Program} {l : Launch} {e : Env} {R : Room} {s : State} {m : MethodId} {args : Array Value} {below : List Frame} {meth : Method} {c : Code} {Q : State → Prop} {y pc cells slots : Nat} {L : Lv} {r : List AV} {S : Sh} {h : Mem} {ix t : Nat} {v : Int} (hv : gsOk (mdN y).1.cls ix t v) (hd : decode (mdN y).2.1 pc = .ok (.getstatic ix, 3)) (F : FC G p s m args meth c y R)
    (k : WC G p l e R s m args below meth c Q y (pc + 3) L ((if t = 1 then .inr (.inr v) else .inl v) :: r) S h cells slots) : WC G p l e R s m args below meth c Q y pc L r S h cells slots := by
  intro ls H locs ⟨hR, hS, hL, hV⟩
  obtain ⟨hx, hb, hml, hown, hts, hC, hini, hfr, hlo⟩ := F
  have h0 : 0 < S.length := (List.getElem?_eq_some_iff.mp hR.1.1).1
  obtain ⟨-, hz, -, -, ⟨t3, a3, z3, -⟩, ⟨t4, a4, z4, -⟩, ⟨t5, a5, z5, -⟩, -, -, ⟨g1, g2, -⟩, ⟨n1, n2, n3, n4⟩, -⟩ := hC
  have ok : okV S (if t = 1 then .inr (.inr v) else .inl v) := by
    unfold gsOk at hv
    split
    · next e => exact ⟨by omega, fun _ => by omega⟩
    · next e => show okI v; unfold okI; omega
  have h2 := k ls H locs ⟨hR, hS, hL, List.forall_mem_cons.mpr ⟨ok, hV⟩⟩
  rcases hv with ⟨hl, ⟨e, rfl | rfl | rfl⟩ | ⟨e, rfl⟩⟩ | ⟨e, ⟨e1, rfl, rfl⟩ | ⟨e1, rfl, rfl⟩ | ⟨e1, rfl, rfl⟩ | ⟨e1, rfl, rfl⟩⟩
  · rw [if_pos e, List.map_cons, cv_ro (by decide), a3] at h2
    exact va_gets hx hb z3 hS hown (hts _ hl) (fun _ h9 => h9) hd h2
  · rw [if_pos e, List.map_cons, cv_ro (by decide), a4] at h2
    exact va_gets hx hb z4 hS hown (hts _ hl) (fun _ h9 => h9) hd h2
  · rw [if_pos e, List.map_cons, cv_ro (by decide)] at h2
    exact va_gets hx hb g2 hS hown (hts _ hl) (fun _ h9 => h9) hd h2
  · rw [if_neg (by omega)] at h2
    exact va_gets hx hb g1 hS hown (hts _ hl) (fun _ h9 => h9) hd h2
  · rw [if_pos e, List.map_cons, cv_ro (by decide), a5] at h2
    rw [e1] at hown
    exact va_getsN hx hb z5 hS hown (n1.use rfl) (fun _ h9 => h9) hd h2
  · rw [if_pos e, List.map_cons, cv_ro (by decide), a3] at h2
    rw [e1] at hown
    exact va_getsN hx hb z3 hS hown (n2.use rfl) (fun _ h9 => h9) hd h2
  · rw [if_pos e, List.map_cons, cv_ro (by decide), a4] at h2
    rw [e1] at hown
    exact va_getsN hx hb z4 hS hown (n3.use rfl) (fun _ h9 => h9) hd h2
  · rw [if_pos e, List.map_cons, cv_ro (by decide), a4] at h2
    rw [e1] at hown
    exact va_getsN hx hb z4 hS hown (n4.use rfl) (fun _ h9 => h9) hd h2
theorem s_table {G : GG} {p : Program} {l : Launch} {e : Env} {R : Room} {s : State} {m : MethodId} {args : Array Value} {below : List Frame} {meth : Method} {c : Code} {Q : State → Prop} {y pc cells slots : Nat} {L : Lv} {r : List AV} {S : Sh} {h : Mem} {a d lo hi : Int} {offs : Array Int} {len : Nat} {o : Int} (hj : 0 ≤ (pc : Int) + o) (ho : ((a < lo ∨ hi < a) ∧ o = d) ∨ (¬ a < lo ∧ ¬ hi < a ∧ offs[(a - lo).toNat]? = some o)) (hd : decode (mdN y).2.1 pc = .ok (.tableswitch d lo hi offs, len))  (F : FC G p s m args meth c y R)
    (k : WC G p l e R s m args below meth c Q y (tgt pc o) L r S h cells slots) : WC G p l e R s m args below meth c Q y pc L (.inl a :: r) S h cells slots := by
  intro ls H locs ⟨hR, hS, hL, hV⟩
  obtain ⟨hx, hb, hml, hown, hts, hC, hini, hfr, hlo⟩ := F
  obtain ⟨hva, hU⟩ := List.forall_mem_cons.mp hV
  have h2 := k ls H locs ⟨hR, hS, hL, hU⟩
  have ht : (pc : Int) + o = (tgt pc o : Int) := by unfold tgt; omega
  rcases ho with ⟨h1, rfl⟩ | ⟨h1, h3, h4⟩
  · exact lv_tableOut hx hb hd (by rw [toI hva]; exact h1) ht h2
  · exact lv_tableIn hx hb hd (by rw [toI hva]; exact h1) (by rw [toI hva]; exact h3) (by rw [toI hva]; exact h4) ht h2
theorem s_lookup {G : GG} {p : Program} {l : Launch} {e : Env} {R : Room} {s : State} {m : MethodId} {args : Array Value} {below : List Frame} {meth : Method} {c : Code} {Q : State → Prop} {y pc cells slots : Nat} {L : Lv} {r : List AV} {S : Sh} {h : Mem} {a d : Int} {ps : Array (Int × Int)} {len : Nat} {o : Int} (hj : 0 ≤ (pc : Int) + o) (hp : (ps.toList.zip (ps.toList.drop 1)).all (fun (a, next) => a.1 < next.1) = true) (ho : Op.lookupswitch.offset ps.toList d a = o) (hd : decode (mdN y).2.1 pc = .ok (.lookupswitch d ps, len))  (F : FC G p s m args meth c y R)
    (k : WC G p l e R s m args below meth c Q y (tgt pc o) L r S h cells slots) : WC G p l e R s m args below meth c Q y pc L (.inl a :: r) S h cells slots := by
  intro ls H locs ⟨hR, hS, hL, hV⟩
  obtain ⟨hx, hb, hml, hown, hts, hC, hini, hfr, hlo⟩ := F
  obtain ⟨hva, hU⟩ := List.forall_mem_cons.mp hV
  have h2 := k ls H locs ⟨hR, hS, hL, hU⟩
  have ht : (pc : Int) + o = (tgt pc o : Int) := by unfold tgt; omega
  exact lv_lookup hx hb hd hp (by rw [toI hva]; exact ho) ht h2
theorem cat_sum {G : GG} {S : Sh} (hG : ∀ r : Int, -10 ≤ r → r ≤ -2 → (gR G r).category = 1) : ∀ (st : List AV), (∀ v ∈ st, okV S v) → ((st.map (cv G)).map fun v => v.category).sum = catS st
  | [], _ => rfl
  | v :: st, h => by
    obtain ⟨h1, h2⟩ := List.forall_mem_cons.mp h
    have e : (cv G v).category = cat v := by
      rcases (show cat v = 1 ∨ cat v = 2 by unfold cat; split <;> omega) with z | z
      · rw [z]; exact cat_cv1 hG h1 z
      · rw [z]
        match v, z with
        | .inr (.inl x), _ => rfl
        | .inl x, z => cases z
        | .inr (.inr x), z => cases z
    simp only [List.map_cons, List.sum_cons, catS]
    rw [e, cat_sum hG st h2]
    rfl
theorem TG_oi : Cond.instanceMethod objectInit ∈ TG ∧ Cond.code objectInit ⟨#[0xb1]⟩ 1 none ∈ TG ∧ Cond.native arraycopyName ∈ TG ∧ Cond.static arraycopyName ∈ TG ∧ Cond.initialized "java/lang/System" ∈ TG := by
  refine ⟨TG_of (List.mem_of_getElem? (i := 147) (by decide +kernel)) rfl, TG_of (List.mem_of_getElem? (i := 148) (by decide +kernel)) rfl, TG_of (List.mem_of_getElem? (i := 382) (by decide +kernel)) rfl, TG_of (List.mem_of_getElem? (i := 381) (by decide +kernel)) rfl, TG_of (List.mem_of_getElem? (i := 132) (by decide +kernel)) rfl⟩
theorem s_objInit {G : GG} {p : Program} {l : Launch} {e : Env} {R : Room} {s : State} {m : MethodId} {args : Array Value} {below : List Frame} {meth : Method} {c : Code} {Q : State → Prop} {y pc cells slots : Nat} {L : Lv} {r : List AV} {S : Sh} {h : Mem} {a : Int} {ix ci : Nat} (hci : ci < 12) (hk : kd S a = ci) (hcat : catS r ≤ 8) (hlink : Cond.methodLink (mdN y).1.cls ix objectInit ∈ TG) (hd : decode (mdN y).2.1 pc = .ok (.invokespecial ix, 3)) (F : FC G p s m args meth c y R)
    (k : WC G p l e R s m args below meth c Q y (pc + 3) L r S h cells slots) : WC G p l e R s m args below meth c Q y pc L (.inr (.inr a) :: r) S h cells slots := by
  intro ls H locs ⟨hR, hS, hL, hV⟩
  obtain ⟨hx, hb, hml, hown, hts, hC, hini, hfr, hlo⟩ := F
  obtain ⟨hva, hU⟩ := List.forall_mem_cons.mp hV
  obtain ⟨n, hq, -⟩ := kd_get hk (by omega)
  obtain ⟨ha, ha'⟩ := kd_pos hR.1 hq (by omega)
  have h2 := k ls H locs ⟨hR, hS, hL, hU⟩
  rw [List.map_cons, cv_ref ha]
  refine W.objInit hx hb hown (hts _ hlink) (hts _ TG_oi.1) (hts _ TG_oi.2.1) rfl (by rw [hml]; exact hL.2.1.1) rfl hd hfr ?_ h2
  have h3 := lv_room (m := m) (pc := pc) (ls := ls) (rest := .ref (gz G + (a.toNat - 1)) :: r.map (cv G)) (st := r.map (cv G)) (by rw [cat_sum (CX_ro hC) r hU]; exact hcat)
  omega
theorem s_new {G : GG} {p : Program} {l : Launch} {e : Env} {R : Room} {s : State} {m : MethodId} {args : Array Value} {below : List Frame} {meth : Method} {c : Code} {Q : State → Prop} {y pc cells slots : Nat} {L : Lv} {r : List AV} {S : Sh} {h : Mem} {ix ci : Nat} (hci : ci < 12) (hlink : Cond.classLink (mdN y).1.cls ix (clN ci).1 ∈ TG) (hz : s.heap.size + cells = gz G + (S.length - 1)) (hcl : cells + 1 ≤ R.cells) (hsl : slots + (clN ci).2.2 ≤ R.slots) (hd : decode (mdN y).2.1 pc = .ok (.new ix, 3)) (F : FC G p s m args meth c y R)
    (k : WC G p l e R s m args below meth c Q y (pc + 3) L (.inr (.inr (S.length : Int)) :: r) (S ++ [(ci, (clN ci).2.2)]) h (cells + 1) (slots + (clN ci).2.2)) : WC G p l e R s m args below meth c Q y pc L r S h cells slots := by
  intro ls H locs ⟨hR, hS, hL, hV⟩
  obtain ⟨hx, hb, hml, hown, hts, hC, hini, hfr, hlo⟩ := F
  have h0 : 0 < S.length := (List.getElem?_eq_some_iff.mp hR.1.1).1
  refine W_size fun hs => ?_
  have hsz := Rel_size hC hR hS hz hs
  have hKn := hC.1.1 ci _ (cl_at hci)
  refine W.newcK hx hb hown (hts _ hlink) (hts _ (cl_inst hci).1) (hts _ (cl_inst hci).2) rfl hd hcl hsl hKn.2.1 hsz fun H1 kC hkC e1 z1 o1 => ?_
  have hq : ((ci, (clN ci).2.2).1 < 12 ∧ (vwCl[(ci, (clN ci).2.2).1]?).map (fun r => r.2.2) = some (ci, (clN ci).2.2).2) ∨ (20 ≤ (ci, (clN ci).2.2).1 ∧ (ci, (clN ci).2.2).1 ≤ 25 ∧ (ci, (clN ci).2.2).2 ≤ 100000) := Or.inl ⟨hci, by rw [cl_at hci]; rfl⟩
  have hR1 : Rel G (S ++ [(ci, (clN ci).2.2)]) h H1 := by
    refine Rel_push hR hq hsz (by rw [hsz]; exact o1) ?_
    rw [cell_o hci]
    refine ⟨_, cl_at hci, (u_born (tyC ci) hts (cl_in hci) hKn hkC e1 (cl_ty hci)).to ?_⟩
    intro j hj
    unfold vp_V
    rw [List.getD_eq_getElem?_getD, List.getElem?_map, List.getElem?_range hj]
    have hft := cl_ft hci j hj
    show defaultValue (tyC ci j) = fV (gz G) (tagF (tyC ci j)) 0
    generalize tyC ci j = ty at hft
    cases ty <;> first | rfl | cases hft
  have h2 := k ls H1 locs ⟨hR1, va_S_push hS (by omega) (by rw [hsz]; exact o1), LR_mono (by rw [List.length_append]; omega) hL, List.forall_mem_cons.mpr ⟨⟨by rw [List.length_append]; simp; omega, fun z => by omega⟩, fun v hv => okV_mono (by rw [List.length_append]; omega) (hV v hv)⟩⟩
  rw [List.map_cons, cv_ref (by omega)] at h2
  exact h2
end
section
/-! rows: arrays that are made, arraycopy (written by wip/tools/gensim5.py) -/
theorem TG_arr : Cond.arrayClass .int ∈ TG ∧ Cond.arrayClass .long ∈ TG ∧ Cond.arrayClass .byte ∈ TG ∧ Cond.arrayClass .short ∈ TG := by
  refine ⟨TG_of (List.mem_of_getElem? (i := 168) (by decide +kernel)) rfl, TG_of (List.mem_of_getElem? (i := 167) (by decide +kernel)) rfl, TG_of (List.mem_of_getElem? (i := 275) (by decide +kernel)) rfl, TG_of (List.mem_of_getElem? (i := 276) (by decide +kernel)) rfl⟩
theorem TG_kl : Cond.classLink "BestMenDuel" 45 "BestMenDuel$Dawn" ∈ TG ∧ Cond.classLink "BestMenDuel$Trays" 11 "[[J" ∈ TG := by
  refine ⟨TG_of (List.mem_of_getElem? (i := 315) (by decide +kernel)) rfl, TG_of (List.mem_of_getElem? (i := 155) (by decide +kernel)) rfl⟩
theorem s_newarray {G : GG} {p : Program} {l : Launch} {e : Env} {R : Room} {s : State} {m : MethodId} {args : Array Value} {below : List Frame} {meth : Method} {c : Code} {Q : State → Prop} {y pc cells slots : Nat} {L : Lv} {r : List AV} {S : Sh} {h : Mem} {n : Int} {at_ : ArrayType} {K : Nat} (hK : K = atK at_) (hK2 : K < 24) (hn : 0 ≤ n ∧ n ≤ 100000) (hz : s.heap.size + cells = gz G + (S.length - 1)) (hcl : cells + 1 ≤ R.cells) (hsl : slots + n.toNat ≤ R.slots) (hd : decode (mdN y).2.1 pc = .ok (.newarray at_, 2)) (F : FC G p s m args meth c y R)
    (k : WC G p l e R s m args below meth c Q y (pc + 2) L (.inr (.inr (S.length : Int)) :: r) (S ++ [(K, n.toNat)]) h (cells + 1) (slots + n.toNat)) : WC G p l e R s m args below meth c Q y pc L (.inl n :: r) S h cells slots := by
  intro ls H locs ⟨hR, hS, hL, hV⟩
  obtain ⟨hx, hb, hml, hown, hts, hC, hini, hfr, hlo⟩ := F
  obtain ⟨hva, hU⟩ := List.forall_mem_cons.mp hV
  have h0 : 0 < S.length := (List.getElem?_eq_some_iff.mp hR.1.1).1
  refine W_size fun hs => ?_
  have hsz := Rel_size hC hR hS hz hs
  have hlen : n.toNat ≤ 100000 := by omega
  have fin : ∀ (H1 : Heap) (ty : FieldType) (cA : ClassId), (20 ≤ K ∧ K ≤ 23) → newarray.typeOf at_ = ty → gC G K = cA → cellG G (K, n.toNat) (fun _ => 0) = .inl (cA, n.toNat, if K = 21 then .inr (.inl fun _ => 0) else .inl fun _ => 0) → H1[gz G + (S.length - 1)]? = some (vp_cell cA (n.toNat, if K = 21 then .inr (.inl fun _ => 0) else .inl fun _ => 0)) → H1.size = gz G + (S.length - 1) + 1 → (∀ q, q < gz G + (S.length - 1) → H1[q]? = H[q]?) → W p l e R s m args below meth c H1 locs (cells + 1) (slots + n.toNat) Q (F0 m (pc + 2) ls (.ref (gz G + (S.length - 1)) :: r.map (cv G))) := by
    intro H1 ty cA hKr _ _ hcell e1 z1 o1
    have hR1 : Rel G (S ++ [(K, n.toNat)]) h H1 := by
      refine Rel_push hR (Or.inr ⟨hKr.1, by show K ≤ 25; omega, hlen⟩) hsz (by rw [hsz]; exact o1) ?_
      rw [hcell]
      exact e1
    have h2 := k ls H1 locs ⟨hR1, va_S_push hS (by omega) (by rw [hsz]; exact o1), LR_mono (by rw [List.length_append]; omega) hL, List.forall_mem_cons.mpr ⟨⟨by rw [List.length_append]; simp; omega, fun z => by omega⟩, fun v hv => okV_mono (by rw [List.length_append]; omega) (hU v hv)⟩⟩
    rw [List.map_cons, cv_ref (by omega)] at h2
    exact h2
  have hn0 : ¬ Int32.ofInt n < 0 := by rw [ofI_lt0 hva]; omega
  subst hK
  cases at_ with
  | int =>
    refine va_newaK (atype := .int) hx hb (hts _ TG_arr.1) rfl hd rfl hn0 (ofI_nat hva) (by show n.toNat * 4 ≤ _; omega) hcl hsl hsz fun H1 cA e1 z1 o1 _ hNm => ?_
    have e : gC G 20 = cA := Option.some.inj ((hC.1.2 0 _ rfl).2.symm.trans hNm)
    exact fin H1 .int cA ⟨by decide, by decide⟩ rfl e (by rw [← e]; rfl) (by rw [e1]; exact congrArg some (vp_cell_i cA n.toNat fun _ => 0).symm) z1 o1
  | long =>
    refine va_newaK (atype := .long) hx hb (hts _ TG_arr.2.1) rfl hd rfl hn0 (ofI_nat hva) (by show n.toNat * 8 ≤ _; omega) hcl hsl hsz fun H1 cA e1 z1 o1 _ hNm => ?_
    have e : gC G 21 = cA := Option.some.inj ((hC.1.2 1 _ rfl).2.symm.trans hNm)
    exact fin H1 .long cA ⟨by decide, by decide⟩ rfl e (by rw [← e]; rfl) (by rw [e1]; exact congrArg some (vp_cell_l cA n.toNat fun _ => 0).symm) z1 o1
  | byte =>
    refine va_newaK (atype := .byte) hx hb (hts _ TG_arr.2.2.1) rfl hd rfl hn0 (ofI_nat hva) (by show n.toNat * 1 ≤ _; omega) hcl hsl hsz fun H1 cA e1 z1 o1 _ hNm => ?_
    have e : gC G 22 = cA := Option.some.inj ((hC.1.2 2 _ rfl).2.symm.trans hNm)
    exact fin H1 .byte cA ⟨by decide, by decide⟩ rfl e (by rw [← e]; rfl) (by rw [e1]; exact congrArg some (vp_cell_i cA n.toNat fun _ => 0).symm) z1 o1
  | short =>
    refine va_newaK (atype := .short) hx hb (hts _ TG_arr.2.2.2) rfl hd rfl hn0 (ofI_nat hva) (by show n.toNat * 2 ≤ _; omega) hcl hsl hsz fun H1 cA e1 z1 o1 _ hNm => ?_
    have e : gC G 23 = cA := Option.some.inj ((hC.1.2 3 _ rfl).2.symm.trans hNm)
    exact fin H1 .short cA ⟨by decide, by decide⟩ rfl e (by rw [← e]; rfl) (by rw [e1]; exact congrArg some (vp_cell_i cA n.toNat fun _ => 0).symm) z1 o1
  | boolean => exact absurd hK2 (by decide)
  | char => exact absurd hK2 (by decide)
  | float => exact absurd hK2 (by decide)
  | double => exact absurd hK2 (by decide)
theorem s_anewarray {G : GG} {p : Program} {l : Launch} {e : Env} {R : Room} {s : State} {m : MethodId} {args : Array Value} {below : List Frame} {meth : Method} {c : Code} {Q : State → Prop} {y pc cells slots : Nat} {L : Lv} {r : List AV} {S : Sh} {h : Mem} {n : Int} (ho : (mdN y).1.cls = "BestMenDuel") (hn : 0 ≤ n ∧ n ≤ 100000) (hz : s.heap.size + cells = gz G + (S.length - 1)) (hcl : cells + 1 ≤ R.cells) (hsl : slots + n.toNat ≤ R.slots) (hd : decode (mdN y).2.1 pc = .ok (.anewarray 45, 3)) (F : FC G p s m args meth c y R)
    (k : WC G p l e R s m args below meth c Q y (pc + 3) L (.inr (.inr (S.length : Int)) :: r) (S ++ [(24, n.toNat)]) h (cells + 1) (slots + n.toNat)) : WC G p l e R s m args below meth c Q y pc L (.inl n :: r) S h cells slots := by
  intro ls H locs ⟨hR, hS, hL, hV⟩
  obtain ⟨hx, hb, hml, hown, hts, hC, hini, hfr, hlo⟩ := F
  obtain ⟨hva, hU⟩ := List.forall_mem_cons.mp hV
  have h0 : 0 < S.length := (List.getElem?_eq_some_iff.mp hR.1.1).1
  refine W_size fun hs => ?_
  have hsz := Rel_size hC hR hS hz hs
  have hn0 : ¬ Int32.ofInt n < 0 := by rw [ofI_lt0 hva]; omega
  rw [ho] at hown
  have hcl' : (cells + 1 ≤ R.cells) := hcl
  have hAO : va_AO "BestMenDuel$Dawn" s := hC.2.2.2.2.2.2.2.2.2.2.2
  obtain ⟨kA', comp', f1', f2', f3', f4'⟩ := (hC.1.2 4 _ rfl).2
  refine W.anew hx hb hown (hts _ TG_kl.1) (va_AO.use hAO) rfl hd rfl hn0 (by rw [ofI_nat hva]; omega) hcl (by rw [ofI_nat hva]; exact hsl) fun cA kA comp f1 f2 f3 f4 => ?_
  have e : gC G 24 = cA := Option.some.inj (f4'.symm.trans f1)
  rw [ofI_nat hva]
  generalize hH1 : H.push ({ cls := cA, slots := Array.replicate n.toNat .null, vm := .none } : Cell) = H1
  have z1 : H1.size = H.size + 1 := by rw [← hH1, Array.size_push]
  have e1 : H1[H.size]? = some (arrV cA n.toNat (fun _ => .null)) := by rw [← hH1, Array.getElem?_push_size, ← arrV_new]
  have o1 : ∀ q : Nat, q < H.size → H1[q]? = H[q]? := fun q hq => by rw [← hH1, Array.getElem?_push, if_neg (Nat.ne_of_lt hq)]
  have hR1 : Rel G (S ++ [(24, n.toNat)]) h H1 := by
    refine Rel_push hR (Or.inr ⟨by show 20 ≤ 24; omega, by show 24 ≤ 25; omega, by show n.toNat ≤ 100000; omega⟩) hsz o1 ?_
    rw [cell_q (by decide), e]
    show H1[gz G + (S.length - 1)]? = some (vp_cell _ _)
    rw [vp_cell_q, ← hsz]
    exact e1
  have h2 := k ls H1 locs ⟨hR1, va_S_push hS (by omega) o1, LR_mono (by rw [List.length_append]; omega) hL, List.forall_mem_cons.mpr ⟨⟨by rw [List.length_append]; simp; omega, fun z => by omega⟩, fun v hv => okV_mono (by rw [List.length_append]; omega) (hU v hv)⟩⟩
  rw [List.map_cons, cv_ref (by omega)] at h2
  rw [hsz]
  exact h2
theorem am_copyt {p : Program} {l : Launch} {e : Env} {R : Room} {s : State} {m : MethodId} {args : Array Value} {below : List Frame} {meth : Method} {c : Code} {H : Heap} {locs : List Loc} {cells slots : Nat} {Q : State → Prop} {cc : ByteArray} {pc : Nat} {ls : Array Slot} {rest : List Value} {D : va_G} {cl : List vw_C} {A : Nat → Prop} {a : Nat} {tys : List (ClassId × FieldType)} {ws : va_W}
    (hexec : p.tables.exec = Jvm.exec) (hb : c.code = cc) (hml : c.maxLocals = ls.size) {own : String} {index : Nat} (hown : s.vm.findClass own = some m.cls) (hlink : (Cond.methodLink own index arraycopyName).before args s = true) (hnat : (Cond.native arraycopyName).before args s = true) (hstat : (Cond.static arraycopyName).before args s = true) (hini : (Cond.initialized "java/lang/System").before args s = true)
    (hK : va_K D cl tys s) (hP : va_P D cl ws H) (hD : va_D A ws) (hS : va_S A s.heap H locs) {b0 n0 : Nat} {f : Nat → Int32} (hX : va_T .int b0 n0 (fun j => .int (f j)) A s s.heap) (q1 t1 : Nat) {c1 : ClassId} {n1 : Nat} {g : Nat → Int32} (ha1 : ws[q1]? = some (a, .inl (c1, n1, .inl g))) (ht1 : tys[t1]? = some (c1, .int))
    {sp dp n : Int32} (h1 : ¬ sp < 0) (h2 : ¬ dp < 0) (h3 : ¬ n < 0) (h4 : sp.toNatClampNeg + n.toNatClampNeg ≤ n0) (h5 : dp.toNatClampNeg + n.toNatClampNeg ≤ n1)
    (hframes : 1 ≤ R.frames) (hlocals : (rest.map fun v => v.category).sum + (nativeFrameWords "java/lang/System" "arraycopy" 5 + 11) ≤ R.locals) (hdg : decode cc pc = .ok (.invokestatic index, 3))
    (kk : ∀ (H1 : Heap) (locs1 : List Loc), va_P D cl (ws.set q1 (a, .inl (c1, n1, .inl (va_cpy f g sp.toNatClampNeg dp.toNatClampNeg n.toNatClampNeg)))) H1 → va_S A s.heap H1 locs1 → W p l e R s m args below meth c H1 locs1 cells slots Q (F0 m (pc + 3) ls rest)) : W p l e R s m args below meth c H locs cells slots Q (F0 m pc ls (.int n :: .int dp :: .ref a :: .int sp :: .ref b0 :: rest)) := by
  have nn : ∀ z : Int32, ¬ z < 0 → z.toInt = (z.toNatClampNeg : Int) := by
    intro z hz
    have hz0 : (0 : Int) ≤ z.toInt := by
      have := Int32.not_lt.mp hz
      simpa using Int32.le_iff_toInt_le.mp this
    show z.toInt = ((z.toInt.toNat : Nat) : Int)
    omega
  intro T hT X
  obtain ⟨scr, hs1, hs2, hs3, hs4, -, hs5, hs7⟩ := hX
  have hc0 : H[b0]? = some scr := by rw [hS.2.1 b0 (Array.getElem?_eq_some_iff.mp hs1).1 hs7]; exact hs1
  have hc1 : H[a]? = some (vp_cell c1 (n1, .inl g)) := hP q1 _ ha1
  obtain ⟨hs6, k0, hk0, cm0, hkk0⟩ := hs2
  obtain ⟨-, k1, hk1, cm1, hkk1⟩ := (hK.2 t1 _ ht1).1 n1 (fun j => .int (g j))
  obtain ⟨vm', X', step⟩ := X.arraycopy hexec hown hlink hnat hstat hini (src := b0) (dst := a) (cs := scr) (cd := vp_cell c1 (n1, .inl g)) (srcPos := sp) (destPos := dp) (n := n) (by rw [hT]; exact hc0) (by rw [hT]; exact hc1)
    hs6 (fun _ h => by cases h) hs3 (fun h => by cases h) hk0 hk1 hkk0 hkk1 (by simp [refKind]) h1 h2 h3
    (by rw [nn sp h1, nn n h3]; omega)
    (by rw [nn dp h2, nn n h3]; show ¬ _ > ((arrV c1 n1 (fun j => .int (g j))).slots.size : Int); rw [arrV_size]; omega)
    (fun vm₁ _ i hi => by
      have e : scr.slots.getD (sp.toNatClampNeg + i) .null = .int (f (sp.toNatClampNeg + i)) := by
        rw [Array.getD_eq_getD_getElem?, hs5 _ (by omega)]
        rfl
      refine ⟨?_, ?_⟩
      · rw [e]
        rfl
      · rw [e]
        exact trivial)
    (g := F0 m pc ls (.int n :: .int dp :: .ref a :: .int sp :: .ref b0 :: rest)) rfl (by rw [hml]) (rest := rest) rfl (by rw [hb]; exact hdg) hframes (by show 2 * 0 + _ + _ ≤ _; omega)
  have e1 : copied scr (vp_cell c1 (n1, .inl g)) sp dp n = vp_cell c1 (n1, .inl (va_cpy f g sp.toNatClampNeg dp.toNatClampNeg n.toNatClampNeg)) := va_copiedX (fun z => .int z) scr c1 f g hs5 h4
  rw [e1] at X' step
  have hl : a < H.size := (Array.getElem?_eq_some_iff.mp hc1).1
  have hheap : ((T.setVm vm').setCell a (vp_cell c1 (n1, .inl (va_cpy f g sp.toNatClampNeg dp.toNatClampNeg n.toNatClampNeg)))).heap = H.setIfInBounds a (vp_cell c1 (n1, .inl (va_cpy f g sp.toNatClampNeg dp.toNatClampNeg n.toNatClampNeg))) := by rw [← hT]; rfl
  have oq : ∀ q : Nat, q ≠ a → (H.setIfInBounds a (vp_cell c1 (n1, .inl (va_cpy f g sp.toNatClampNeg dp.toNatClampNeg n.toNatClampNeg))))[q]? = H[q]? := fun q hq => by simp [Array.getElem?_setIfInBounds, Ne.symm hq]
  obtain ⟨t, a1, b1⟩ := kk _ _ (hP.set hD ha1 (show (H.setIfInBounds a _)[a]? = some _ by simp [Array.getElem?_setIfInBounds, hl]) oq) ⟨by simp; exact hS.1, fun q g1 g2 => by
      rw [oq q (fun e => g2 (by rw [e]; exact hD.2 q1 _ ha1))]
      exact hS.2.1 q g1 g2, fun q hq => by
      rcases List.mem_append.mp hq with h | h
      · exact hS.2.2 q h
      · obtain ⟨z, -, hz⟩ := List.mem_map.mp h
        rw [← hz]
        exact hD.2 q1 _ ha1⟩ _ hheap X'
  exact ⟨t, step t a1, b1⟩
theorem s_arraycopy {G : GG} {p : Program} {l : Launch} {e : Env} {R : Room} {s : State} {m : MethodId} {args : Array Value} {below : List Frame} {meth : Method} {c : Code} {Q : State → Prop} {y pc cells slots : Nat} {L : Lv} {r : List AV} {S : Sh} {h : Mem} {a q p0 d n : Int} {h2 : Mem} {ix : Nat} (hv : acp (gX G) S h a p0 q d n = some h2) (hcat : catS r ≤ 8) (hlink : Cond.methodLink (mdN y).1.cls ix arraycopyName ∈ TG) (hd : decode (mdN y).2.1 pc = .ok (.invokestatic ix, 3)) (F : FC G p s m args meth c y R)
    (k : WC G p l e R s m args below meth c Q y (pc + 3) L r S h2 cells slots) : WC G p l e R s m args below meth c Q y pc L (.inl n :: .inl d :: .inr (.inr q) :: .inl p0 :: .inr (.inr a) :: r) S h cells slots := by
  intro ls H locs ⟨hR, hS, hL, hV⟩
  obtain ⟨hx, hb, hml, hown, hts, hC, hini, hfr, hlo⟩ := F
  obtain ⟨hvn, hvd, hvq, hvp, hva, hU⟩ : okI n ∧ okI d ∧ okV S (.inr (.inr q)) ∧ okI p0 ∧ okV S (.inr (.inr a)) ∧ ∀ v ∈ r, okV S v := by
    have h1 := List.forall_mem_cons.mp hV
    have h2 := List.forall_mem_cons.mp h1.2
    have h3 := List.forall_mem_cons.mp h2.2
    have h4 := List.forall_mem_cons.mp h3.2
    have h5 := List.forall_mem_cons.mp h4.2
    exact ⟨h1.1, h2.1, h3.1, h4.1, h5.1, h5.2⟩
  have hlocals : ((r.map (cv G)).map fun v => v.category).sum + (nativeFrameWords "java/lang/System" "arraycopy" 5 + 11) ≤ R.locals := by
    rw [cat_sum (CX_ro hC) r hU]
    have : nativeFrameWords "java/lang/System" "arraycopy" 5 ≤ 40 := by decide +kernel
    omega
  have hsz : c.maxLocals = ls.size := by rw [hml]; exact hL.2.1.1.symm
  unfold acp at hv
  split at hv
  · next ea =>
    subst ea
    split at hv
    · next hc =>
      cases hv
      obtain ⟨k1, k2, k3, k4, k5, k6⟩ := hc
      obtain ⟨m1, hq, hm1⟩ := kd_get k1 (by decide)
      obtain ⟨hqp, hqp'⟩ := kd_pos hR.1 hq (by decide)
      rw [hm1] at k6
      have hw := ws_at (G := G) (h := h) hqp' hq
      rw [cell_i (by decide)] at hw
      obtain ⟨t5, a5, -, a5'⟩ := hC.2.2.2.2.2.2.1
      simp only [List.map_cons]
      rw [cv_ref hqp, cv_ro (by decide), a5]
      have n1 : ¬ Int32.ofInt p0 < 0 := by rw [ofI_lt0 hvp]; omega
      have n2 : ¬ Int32.ofInt d < 0 := by rw [ofI_lt0 hvd]; omega
      have n3 : ¬ Int32.ofInt n < 0 := by rw [ofI_lt0 hvn]; omega
      refine am_copyt hx hb hsz hown (hts _ hlink) (hts _ TG_oi.2.2.1) (hts _ TG_oi.2.2.2.1) (hts _ TG_oi.2.2.2.2) hC.1 hR.2.2 (ws_D G S h) hS a5' (q.toNat - 1) 0 hw rfl n1 n2 n3 (by rw [ofI_nat hvp, ofI_nat hvn]; omega) (by rw [ofI_nat hvd, ofI_nat hvn]; omega) hfr hlocals hd fun H1 locs1 hP1 hS1 => ?_
      rw [ofI_nat hvp, ofI_nat hvd, ofI_nat hvn, ws_up (h' := cpy h q.toNat (am_ro (gX G) (-5)).2 p0.toNat d.toNat n.toNat) hqp' hq (fun z hz => cpy_ne h q.toNat _ _ _ _ hz) ?_] at hP1
      · refine k ls H1 locs1 ⟨⟨hR.1, okM_cpy hR.2.1 hq (fun j hj _ => ?_), hP1⟩, hS1, hL, hU⟩
        show okI (([6, 0, 2, 2] : List Int).getD (p0.toNat + j) 0)
        have hlt : p0.toNat + j < 4 := by omega
        generalize p0.toNat + j = z at hlt
        unfold okI
        match z, hlt with
        | 0, _ => decide
        | 1, _ => decide
        | 2, _ => decide
        | 3, _ => decide
      · rw [cell_i (by decide), cpy_at]
        refine congrArg (fun f => (Sum.inl (gC G 20, m1, Sum.inl f) : va_E)) (funext fun j => ?_)
        show va_cpy _ _ _ _ _ j = Int32.ofInt (if d.toNat ≤ j ∧ j < d.toNat + n.toNat then ([6, 0, 2, 2] : List Int).getD (p0.toNat + (j - d.toNat)) 0 else h q.toNat j)
        unfold va_cpy
        split <;> rfl
    · cases hv
  · split at hv
    · next hc =>
      cases hv
      obtain ⟨k0, k1, k2, k3, k4, k5, k6⟩ := hc
      obtain ⟨m0, hqa, hm0⟩ := kd_get (S := S) (r := a) rfl (by omega)
      obtain ⟨hap, hap'⟩ := kd_pos hR.1 hqa (by omega)
      obtain ⟨m1, hq, hm1⟩ := kd_get (S := S) (r := q) rfl (by omega)
      obtain ⟨hqp, hqp'⟩ := kd_pos hR.1 hq (by omega)
      rw [hm1] at k6
      rw [hm0] at k5
      have hwa := ws_at (G := G) (h := h) hap' hqa
      have hw := ws_at (G := G) (h := h) hqp' hq
      simp only [List.map_cons]
      rw [cv_ref hqp, cv_ref hap]
      have n1 : ¬ Int32.ofInt p0 < 0 := by rw [ofI_lt0 hvp]; omega
      have n2 : ¬ Int32.ofInt d < 0 := by rw [ofI_lt0 hvd]; omega
      have n3 : ¬ Int32.ofInt n < 0 := by rw [ofI_lt0 hvn]; omega
      rw [k1] at hq hw
      have hok : ∀ j, j < n.toNat → d.toNat + j < m1 → okT S.length (tgK (kd S a) (d.toNat + j)) (h a.toNat (p0.toNat + j)) := by
        intro j hj _
        have := hR.2.1.1 a.toNat _ hqa (p0.toNat + j) (by show p0.toNat + j < m0; omega)
        rcases k0 with e | e <;> (rw [e] at this ⊢; exact this)
      rcases k0 with e | e
      · rw [e] at hwa hw hq hok
        rw [cell_i (by decide)] at hwa hw
        refine va_copyi hx hb hsz hown (hts _ hlink) (hts _ TG_oi.2.2.1) (hts _ TG_oi.2.2.2.1) (hts _ TG_oi.2.2.2.2) hC.1 hR.2.2 (ws_D G S h) hS (a.toNat - 1) (q.toNat - 1) 0 0 hwa hw (ty := .int) rfl rfl rfl n1 n2 n3 (by rw [ofI_nat hvp, ofI_nat hvn]; omega) (by rw [ofI_nat hvd, ofI_nat hvn]; omega) (fun _ _ => rfl) hfr hlocals hd fun H1 locs1 hP1 _ hS1 => ?_
        rw [ofI_nat hvp, ofI_nat hvd, ofI_nat hvn, ws_up (h' := cpy h q.toNat (h a.toNat) p0.toNat d.toNat n.toNat) hqp' hq (fun z hz => cpy_ne h q.toNat _ _ _ _ hz) ?_] at hP1
        · exact k ls H1 locs1 ⟨⟨hR.1, okM_cpy hR.2.1 hq hok, hP1⟩, hS1, hL, hU⟩
        · rw [cell_i (by decide), cpy_at]
          refine congrArg (fun f => (Sum.inl (gC G 20, m1, Sum.inl f) : va_E)) (funext fun j => ?_)
          unfold va_cpy
          dsimp only
          split <;> rfl
      · rw [e] at hwa hw hq hok
        rw [cell_l] at hwa hw
        refine va_copyl hx hb hsz hown (hts _ hlink) (hts _ TG_oi.2.2.1) (hts _ TG_oi.2.2.2.1) (hts _ TG_oi.2.2.2.2) hC.1 hR.2.2 (ws_D G S h) hS (a.toNat - 1) (q.toNat - 1) 1 1 hwa hw (ty := .long) rfl rfl rfl n1 n2 n3 (by rw [ofI_nat hvp, ofI_nat hvn]; omega) (by rw [ofI_nat hvd, ofI_nat hvn]; omega) (fun _ _ => rfl) hfr hlocals hd fun H1 locs1 hP1 _ hS1 => ?_
        rw [ofI_nat hvp, ofI_nat hvd, ofI_nat hvn, ws_up (h' := cpy h q.toNat (h a.toNat) p0.toNat d.toNat n.toNat) hqp' hq (fun z hz => cpy_ne h q.toNat _ _ _ _ hz) ?_] at hP1
        · exact k ls H1 locs1 ⟨⟨hR.1, okM_cpy hR.2.1 hq hok, hP1⟩, hS1, hL, hU⟩
        · rw [cell_l, cpy_at]
          refine congrArg (fun f => (Sum.inl (gC G 21, m1, Sum.inr (Sum.inl f)) : va_E)) (funext fun j => ?_)
          unfold va_cpy
          dsimp only
          split <;> rfl
    · cases hv
end
section
/-! CALLS AND ENDS: a method's contract, taken from its run -/
def CP (G : GG) (vs : List AV) (S : Sh) (h : Mem) : Array Value → State → Prop := fun a U => a = (vs.map (cv G)).toArray ∧ CX G U ∧ Rel G S h U.heap ∧ U.heap.size = gz G + (S.length - 1)
def CQ (G : GG) (r : Res) : Array Value → State → Outcome → State → Prop := fun _ st oc t => oc = .returned (r.1.map (cv G)) ∧ (∀ v, r.1 = some v → okV r.2.1 v) ∧ Rel G r.2.1 r.2.2 t.heap ∧ va_F (gA G) st t
def rmD (d mc ms : Nat) : Room := { frames := d + 1, cells := mc, slots := ms, locals := (d + 1) * 64 }
def wsY (y : Nat) : List Cond := Cond.code (mdN y).1 (mdN y).2.1 (mdN y).2.2.1 (mdN y).2.2.2 :: TG
def CT (G : GG) (l : Launch) (d y : Nat) (vs : List AV) (S : Sh) (h : Mem) (r : Res) : Prop :=
  Met l (mdN y).1 (wsY y) (rmD d (r.2.1.length - S.length) (slt r.2.1 - slt S)) (CP G vs S h) (CQ G r) (r.2.1.length - S.length) (slt r.2.1 - slt S) (gA G)
theorem CP_blind (G : GG) (vs : List AV) (S : Sh) (h : Mem) : FrameBlind (CP G vs S h) := fun a U g mk ⟨h1, h2, h3, h4⟩ => ⟨h1, CX_calling h2, h3, h4⟩
theorem CP_at {G : GG} {s U : State} {vs : List AV} {S : Sh} {h : Mem} {H : Heap} {locs : List Loc} (hC : CX G s) (hR : Rel G S h H) (hS : va_S (gA G) s.heap H locs) (hsz : H.size = gz G + (S.length - 1)) (hU : U.heap = H) (hW : s.WarmedH U.vm) : CP G vs S h (vs.map (cv G)).toArray U :=
  ⟨rfl, CX_moved hW (by rw [hU, hsz]; omega) (fun a h1 h2 => by rw [hU]; exact hS.2.1 a h1 h2) hC, by rw [hU]; exact hR, by rw [hU]; exact hsz⟩
theorem good_TG {y : Nat} (hc : Cond.code (mdN y).1 (mdN y).2.1 (mdN y).2.2.1 (mdN y).2.2.2 ∈ TG) : GoodIn TG (wsY y) := by
  intro w hw
  have hw' : w ∈ TG := by
    rcases List.mem_cons.mp hw with rfl | h
    · exact hc
    · exact h
  exact ⟨hw', good_of_word (List.mem_filter.mp hw').2⟩
/-- what a call of a method of ours rests on -/
def clOk (own : String) (ix y n : Nat) : Prop := Cond.methodLink own ix (mdN y).1 ∈ TG ∧ Cond.code (mdN y).1 (mdN y).2.1 (mdN y).2.2.1 (mdN y).2.2.2 ∈ TG ∧ Cond.initialized (mdN y).1.cls ∈ TG ∧ (mdN y).1.cls ≠ "java/lang/invoke/MethodHandle" ∧ (mdN y).1.cls ≠ "java/lang/invoke/VarHandle" ∧ argN (mdN y).1.desc = some n ∧ (mdN y).2.2.1 ≤ 40
theorem cb_of {R : Room} {s : State} {args : Array Value} {own : String} {ix y n d mc ms : Nat} (hts : ∀ w ∈ TG, w.before args s = true) (h : clOk own ix y n) (hf : d + 2 ≤ R.frames) (hl : (d + 2) * 64 ≤ R.locals) :
    CallB R s args own ix (mdN y).1 (mdN y).2.1 (mdN y).2.2.1 (mdN y).2.2.2 (wsY y) (rmD d mc ms) mc ms n := by
  obtain ⟨h1, h2, h3, h4, h5, h6, h7⟩ := h
  exact callB_of n hts (good_TG h2) rfl rfl rfl (hts _ h3) (hts _ h1) ⟨h4, h5, h6⟩ ⟨by show d + 1 + 1 ≤ _; omega, by show 8 + (_ + 11) + (d + 1) * 64 ≤ _; omega⟩
theorem am_goOn {G : GG} {p : Program} {l : Launch} {e : Env} {R : Room} {s : State} {m : MethodId} {args : Array Value} {below : List Frame} {meth : Method} {c : Code} {Q : State → Prop} {pc cells slots mc ms : Nat} {ls : Array Slot} {H : Heap} {locs : List Loc} {st0 rest : List Value} {r : Res} {a : Array Value}
    (hr : va_Run p l e R s m args below meth c H locs cells slots mc ms (F0 m pc ls st0) rest (CQ G r a) (gA G)) (hS : va_S (gA G) s.heap H locs)
    (kk : ∀ (H1 : Heap) (locs1 : List Loc), (∀ v, r.1 = some v → okV r.2.1 v) → Rel G r.2.1 r.2.2 H1 → va_S (gA G) s.heap H1 locs1 → W p l e R s m args below meth c H1 locs1 (cells + mc) (slots + ms) Q (F0 m (pc + 3) ls ((r.1.map (cv G)).toList ++ rest))) : W p l e R s m args below meth c H locs cells slots Q (F0 m pc ls st0) := by
  intro T hT X
  obtain ⟨v, st₀, t, T', L, h0, X', hL, e1, e2, ⟨hv, hok, hR, hz, hk⟩, st⟩ := hr T hT X
  cases hv
  rw [h0] at hz hk
  obtain ⟨t2, a1, b1⟩ := kk T'.heap (locs ++ L) hok (by rw [e1]; exact hR)
    ⟨Nat.le_trans hS.1 (by rw [e1]; exact hz), fun q h1 h2 => by rw [e1, hk q (Nat.lt_of_lt_of_le h1 hS.1) h2]; exact hS.2.1 q h1 h2, fun q hq => by
      rcases List.mem_append.mp hq with h | h
      · exact hS.2.2 q h
      · exact hL q h⟩ T' rfl X'
  exact ⟨t2, st t2 a1, b1⟩
theorem s_call {G : GG} {p : Program} {l : Launch} {e : Env} {R : Room} {s : State} {m : MethodId} {args : Array Value} {below : List Frame} {meth : Method} {c : Code} {Q : State → Prop} {y pc cells slots : Nat} {L : Lv} {as r : List AV} {S : Sh} {h : Mem} {ix y' d : Nat} {i : Instr} {vs : List AV} {res : Res}
    (hcat : catS r ≤ 8) (hok : clOk (mdN y).1.cls ix y' as.length) (hM : CT G l d y' vs S h res) (hf : d + 2 ≤ R.frames) (hl : (d + 2) * 64 ≤ R.locals) (hg : S.length ≤ res.2.1.length) (hz : s.heap.size + cells = gz G + (S.length - 1)) (hc1 : cells + (res.2.1.length - S.length) ≤ R.cells) (hc2 : slots + (slt res.2.1 - slt S) ≤ R.slots)
    (hkind : (i = .invokestatic ix ∧ vs = as.reverse ∧ Cond.static (mdN y').1 ∈ TG) ∨
      (∃ a : Int, vs = .inr (.inr a) :: as.reverse ∧ ((i = .invokevirtual ix ∧ Cond.instanceMethod (mdN y').1 ∈ TG ∧ Cond.selects (mdN y').1.cls (mdN y').1 (mdN y').1 ∈ TG ∧ ((∃ ci, ci < 12 ∧ kd S a = ci ∧ (mdN y').1.cls = (clN ci).1) ∨ ((a = -8 ∨ a = -9) ∧ (mdN y').1.cls = "java/lang/String"))) ∨
        (i = .invokespecial ix ∧ Cond.instanceMethod (mdN y').1 ∈ TG ∧ (mdN y').1.name = "<init>" ∧ (mdN y').2.2.2 = none ∧ ∃ ci, ci < 12 ∧ kd S a = ci))))
    (hd : decode (mdN y).2.1 pc = .ok (i, 3)) (F : FC G p s m args meth c y R)
    (k : WC G p l e R s m args below meth c Q y (pc + 3) L (res.1.toList ++ r) res.2.1 res.2.2 (cells + (res.2.1.length - S.length)) (slots + (slt res.2.1 - slt S))) :
    WC G p l e R s m args below meth c Q y pc L (as ++ (vs.take (vs.length - as.length)).reverse ++ r) S h cells slots := by
  intro ls H locs ⟨hR, hS, hL, hV⟩
  obtain ⟨hx, hb, hml, hown, hts, hC, hini, hfr, hlo⟩ := F
  refine W_size fun hs => ?_
  have hsz := Rel_size hC hR hS hz hs
  have hVr : ∀ v ∈ r, okV S v := fun v hv => hV v (List.mem_append_right _ hv)
  have fix : CallFix p m c (mdN y).2.1 (mdN y).2.2.1 s args TG (mdN y).1.cls := ⟨hx, hb, hml, hown, hts⟩
  have hpre : ∀ U : State, U.heap = H → s.WarmedH U.vm → CP G vs S h (vs.map (cv G)).toArray U := fun U hU hW => CP_at hC hR hS hsz hU hW
  have hroom := lv_room (m := m) (pc := pc) (ls := ls) (rest := (as ++ (vs.take (vs.length - as.length)).reverse ++ r).map (cv G)) (st := r.map (cv G)) (by rw [cat_sum (CX_ro hC) r hVr]; exact hcat)
  have hcw : CallB R s args (mdN y).1.cls ix (mdN y').1 (mdN y').2.1 (mdN y').2.2.1 (mdN y').2.2.2 (wsY y') (rmD d (res.2.1.length - S.length) (slt res.2.1 - slt S)) (res.2.1.length - S.length) (slt res.2.1 - slt S) as.length := cb_of hts hok hf hl
  have goOn : va_Run p l e R s m args below meth c H locs cells slots (res.2.1.length - S.length) (slt res.2.1 - slt S) (F0 m pc ls ((as ++ (vs.take (vs.length - as.length)).reverse ++ r).map (cv G))) (r.map (cv G)) (CQ G res (vs.map (cv G)).toArray) (gA G) → W p l e R s m args below meth c H locs cells slots Q (F0 m pc ls ((as ++ (vs.take (vs.length - as.length)).reverse ++ r).map (cv G))) := by
    intro hr
    refine am_goOn hr hS fun H1 locs1 hv hR1 hS1 => ?_
    have h2 := k ls H1 locs1 ⟨hR1, hS1, LR_mono hg hL, fun v hv2 => by
      rcases List.mem_append.mp hv2 with z | z
      · exact hv v (by simpa using z)
      · exact okV_mono hg (hVr v z)⟩
    rw [List.map_append] at h2
    have e : (res.1.toList).map (cv G) = (res.1.map (cv G)).toList := by cases res.1 <;> rfl
    rw [e] at h2
    exact h2
  apply goOn
  rcases hkind with ⟨rfl, rfl, hst⟩ | ⟨a, rfl, hk⟩
  · have he : ((as ++ (as.reverse.take (as.reverse.length - as.length)).reverse ++ r).map (cv G)) = (as.reverse.map (cv G)).reverse ++ r.map (cv G) := by simp [List.map_reverse]
    exact va_runS (As := as.reverse.map (cv G)) fix hM ⟨hcw, hts _ hst⟩ ⟨CP_blind G _ S h, hpre⟩ rfl (by simp) hL.2.1.1 he hroom hd ⟨hc1, hc2⟩
  · have e0 : ((Sum.inr (Sum.inr a) : AV) :: as.reverse).take (((Sum.inr (Sum.inr a) : AV) :: as.reverse).length - as.length) = [.inr (.inr a)] := by
      simp
    rw [e0] at hroom ⊢
    have he : ((as ++ [(Sum.inr (Sum.inr a) : AV)].reverse ++ r).map (cv G)) = (as.reverse.map (cv G)).reverse ++ cv G (.inr (.inr a)) :: r.map (cv G) := by simp [List.map_reverse]
    rcases hk with ⟨rfl, hin, hse, hk⟩ | ⟨rfl, hin, hnm, hnone, ci, hci, hk⟩
    · rcases hk with ⟨ci, hci, hk, hcls⟩ | ⟨ha, hcls⟩
      · obtain ⟨n, hq, -⟩ := kd_get hk (by omega)
        obtain ⟨ha, ha'⟩ := kd_pos hR.1 hq (by omega)
        have hw := ws_at (G := G) (h := h) ha' hq
        rw [cell_o hci] at hw
        have hrecv := va_recv hC.1 hR.2.2 (cl_at hci) hw
        rw [← hcls] at hrecv
        rw [cv_ref ha] at he
        have hpre' : ∀ U : State, U.heap = H → s.WarmedH U.vm → CP G (.inr (.inr a) :: as.reverse) S h (Value.ref (gz G + (a.toNat - 1)) :: as.reverse.map (cv G)).toArray U := fun U hU hW => by
          have := hpre U hU hW
          rwa [List.map_cons, cv_ref ha] at this
        have := va_runV (As := as.reverse.map (cv G)) (b := gz G + (a.toNat - 1)) (C := (mdN y').1.cls) (g := F0 m pc ls ((as ++ [(Sum.inr (Sum.inr a) : AV)].reverse ++ r).map (cv G))) (cells := cells) (slots := slots) (locs := locs) (below := below) (meth := meth) (e := e) fix hM ⟨hcw, hts _ hin, hts _ hse⟩ ⟨CP_blind G _ S h, hrecv, hpre'⟩ rfl (by simp) hL.2.1.1 he hroom hd ⟨hc1, hc2⟩
        rw [List.map_cons, cv_ref ha]
        exact this
      · obtain ⟨t, hg2, hrecv⟩ : ∃ t : Nat, gR G a = .ref t ∧ ∃ cell : Cell, H[t]? = some cell ∧ cell.vm.isStatics = false ∧ s.vm.findClass "java/lang/String" = some cell.cls := by
          obtain ⟨-, -, -, -, -, -, -, ⟨q1, t1, a1, -, -, o1, -⟩, ⟨q2, t2, a2, -, -, o2, -⟩, -⟩ := hC
          rcases ha with rfl | rfl
          · obtain ⟨cell, h1, h2, h3, h4⟩ := o1
            exact ⟨q1, a1, cell, by rw [hS.2.1 q1 (Array.getElem?_eq_some_iff.mp h1).1 h4]; exact h1, h2, h3⟩
          · obtain ⟨cell, h1, h2, h3, h4⟩ := o2
            exact ⟨q2, a2, cell, by rw [hS.2.1 q2 (Array.getElem?_eq_some_iff.mp h1).1 h4]; exact h1, h2, h3⟩
        have ea : cv G (.inr (.inr a)) = .ref t := by rw [cv_ro (by omega)]; exact hg2
        rw [ea] at he
        rw [← hcls] at hrecv
        have hpre' : ∀ U : State, U.heap = H → s.WarmedH U.vm → CP G (.inr (.inr a) :: as.reverse) S h (Value.ref t :: as.reverse.map (cv G)).toArray U := fun U hU hW => by
          have := hpre U hU hW
          rwa [List.map_cons, ea] at this
        have := va_runV (As := as.reverse.map (cv G)) (b := t) (C := (mdN y').1.cls) (g := F0 m pc ls ((as ++ [(Sum.inr (Sum.inr a) : AV)].reverse ++ r).map (cv G))) (cells := cells) (slots := slots) (locs := locs) (below := below) (meth := meth) (e := e) fix hM ⟨hcw, hts _ hin, hts _ hse⟩ ⟨CP_blind G _ S h, hrecv, hpre'⟩ rfl (by simp) hL.2.1.1 he hroom hd ⟨hc1, hc2⟩
        rw [List.map_cons, ea]
        exact this
    · obtain ⟨n, hq, -⟩ := kd_get hk (by omega)
      obtain ⟨ha, ha'⟩ := kd_pos hR.1 hq (by omega)
      rw [cv_ref ha] at he
      have hpre' : ∀ U : State, U.heap = H → s.WarmedH U.vm → CP G (.inr (.inr a) :: as.reverse) S h (Value.ref (gz G + (a.toNat - 1)) :: as.reverse.map (cv G)).toArray U := fun U hU hW => by
        have := hpre U hU hW
        rwa [List.map_cons, cv_ref ha] at this
      rw [hnone] at hcw
      have := va_runI (As := as.reverse.map (cv G)) (b := gz G + (a.toNat - 1)) (g := F0 m pc ls ((as ++ [(Sum.inr (Sum.inr a) : AV)].reverse ++ r).map (cv G))) (cells := cells) (slots := slots) (locs := locs) (below := below) (meth := meth) (e := e) fix hM ⟨hcw, hnm, hts _ hin⟩ ⟨CP_blind G _ S h, hpre'⟩ rfl (by simp) hL.2.1.1 he hroom hd ⟨hc1, hc2⟩
      rw [List.map_cons, cv_ref ha]
      exact this
end
