section
-- ===== PART A: goes FIRST, ahead of the names: the tables' words, and 'selects' of the private methods out of them =====
/-- a private method of a class that the tables say can be made, by its rows of tables_1 -/
def lw_okq (q : MethodName × Nat) : Prop := (q.1.cls ≠ "java/lang/invoke/MethodHandle" ∧ q.1.cls ≠ "java/lang/invoke/VarHandle") ∧ Cond.instantiable q.1.cls q.2 ∈ tables_1 ∧ Cond.privateMethod q.1 ∈ tables_1 ∧ Cond.instanceMethod q.1 ∈ tables_1
theorem lw_p0 : lw_okq (⟨"WidenedBanks$Steps", "swap", "(IIII)I"⟩, 5) := ⟨⟨by decide +kernel, by decide +kernel⟩, List.mem_of_getElem? (i := 95) (by decide +kernel), List.mem_of_getElem? (i := 501) (by decide +kernel), List.mem_of_getElem? (i := 502) (by decide +kernel)⟩
theorem lw_p1 : lw_okq (⟨"WidenedBanks$Steps", "swapRefusal", "(IIIIII)I"⟩, 5) := ⟨⟨by decide +kernel, by decide +kernel⟩, List.mem_of_getElem? (i := 95) (by decide +kernel), List.mem_of_getElem? (i := 505) (by decide +kernel), List.mem_of_getElem? (i := 506) (by decide +kernel)⟩
theorem lw_p2 : lw_okq (⟨"WidenedBanks$Steps", "reckon", "(III)I"⟩, 5) := ⟨⟨by decide +kernel, by decide +kernel⟩, List.mem_of_getElem? (i := 95) (by decide +kernel), List.mem_of_getElem? (i := 509) (by decide +kernel), List.mem_of_getElem? (i := 510) (by decide +kernel)⟩
theorem lw_p3 : lw_okq (⟨"WidenedBanks$Steps", "byOfResult", "(II)I"⟩, 5) := ⟨⟨by decide +kernel, by decide +kernel⟩, List.mem_of_getElem? (i := 95) (by decide +kernel), List.mem_of_getElem? (i := 533) (by decide +kernel), List.mem_of_getElem? (i := 534) (by decide +kernel)⟩
theorem lw_p4 : lw_okq (⟨"WidenedBanks", "isLine", "(IIIII)Z"⟩, 14) := ⟨⟨by decide +kernel, by decide +kernel⟩, List.mem_of_getElem? (i := 18) (by decide +kernel), List.mem_of_getElem? (i := 568) (by decide +kernel), List.mem_of_getElem? (i := 569) (by decide +kernel)⟩
theorem lw_p5 : lw_okq (⟨"WidenedBanks", "runThrough", "()I"⟩, 14) := ⟨⟨by decide +kernel, by decide +kernel⟩, List.mem_of_getElem? (i := 18) (by decide +kernel), List.mem_of_getElem? (i := 602) (by decide +kernel), List.mem_of_getElem? (i := 603) (by decide +kernel)⟩
theorem lw_p6 : lw_okq (⟨"WidenedBanks$Walk", "enterTurns", "(I)V"⟩, 5) := ⟨⟨by decide +kernel, by decide +kernel⟩, List.mem_of_getElem? (i := 160) (by decide +kernel), List.mem_of_getElem? (i := 616) (by decide +kernel), List.mem_of_getElem? (i := 617) (by decide +kernel)⟩
theorem lw_p7 : lw_okq (⟨"WidenedBanks$Walk", "endTurn", "()V"⟩, 5) := ⟨⟨by decide +kernel, by decide +kernel⟩, List.mem_of_getElem? (i := 160) (by decide +kernel), List.mem_of_getElem? (i := 624) (by decide +kernel), List.mem_of_getElem? (i := 625) (by decide +kernel)⟩
theorem lw_p8 : lw_okq (⟨"WidenedBanks", "foretellAll", "()V"⟩, 14) := ⟨⟨by decide +kernel, by decide +kernel⟩, List.mem_of_getElem? (i := 18) (by decide +kernel), List.mem_of_getElem? (i := 657) (by decide +kernel), List.mem_of_getElem? (i := 658) (by decide +kernel)⟩
theorem lw_p9 : lw_okq (⟨"WidenedBanks$Steps", "reckonRefusal", "(III)I"⟩, 5) := ⟨⟨by decide +kernel, by decide +kernel⟩, List.mem_of_getElem? (i := 95) (by decide +kernel), List.mem_of_getElem? (i := 676) (by decide +kernel), List.mem_of_getElem? (i := 677) (by decide +kernel)⟩
theorem lw_p10 : lw_okq (⟨"WidenedBanks$Waves", "changes", "(II)Z"⟩, 6) := ⟨⟨by decide +kernel, by decide +kernel⟩, List.mem_of_getElem? (i := 182) (by decide +kernel), List.mem_of_getElem? (i := 697) (by decide +kernel), List.mem_of_getElem? (i := 698) (by decide +kernel)⟩
theorem lw_p11 : lw_okq (⟨"WidenedBanks$Waves", "touches", "(II)Z"⟩, 6) := ⟨⟨by decide +kernel, by decide +kernel⟩, List.mem_of_getElem? (i := 182) (by decide +kernel), List.mem_of_getElem? (i := 701) (by decide +kernel), List.mem_of_getElem? (i := 702) (by decide +kernel)⟩
theorem lw_p12 : lw_okq (⟨"WidenedBanks$Views", "findsCell", "(IIII)Z"⟩, 9) := ⟨⟨by decide +kernel, by decide +kernel⟩, List.mem_of_getElem? (i := 56) (by decide +kernel), List.mem_of_getElem? (i := 745) (by decide +kernel), List.mem_of_getElem? (i := 746) (by decide +kernel)⟩
theorem lw_p13 : lw_okq (⟨"WidenedBanks$Tries", "kindsBy", "(II)I"⟩, 3) := ⟨⟨by decide +kernel, by decide +kernel⟩, List.mem_of_getElem? (i := 247) (by decide +kernel), List.mem_of_getElem? (i := 770) (by decide +kernel), List.mem_of_getElem? (i := 771) (by decide +kernel)⟩
theorem lw_p14 : lw_okq (⟨"WidenedBanksModel", "isBank", "(I)Z"⟩, 45) := ⟨⟨by decide +kernel, by decide +kernel⟩, List.mem_of_getElem? (i := 822) (by decide +kernel), List.mem_of_getElem? (i := 977) (by decide +kernel), List.mem_of_getElem? (i := 978) (by decide +kernel)⟩
theorem lw_p15 : lw_okq (⟨"WidenedBanksModel", "isView", "(I)Z"⟩, 45) := ⟨⟨by decide +kernel, by decide +kernel⟩, List.mem_of_getElem? (i := 822) (by decide +kernel), List.mem_of_getElem? (i := 981) (by decide +kernel), List.mem_of_getElem? (i := 982) (by decide +kernel)⟩
def lw_privs_1 : List (MethodName × Nat) := [(⟨"WidenedBanks$Steps", "swap", "(IIII)I"⟩, 5), (⟨"WidenedBanks$Steps", "swapRefusal", "(IIIIII)I"⟩, 5), (⟨"WidenedBanks$Steps", "reckon", "(III)I"⟩, 5), (⟨"WidenedBanks$Steps", "byOfResult", "(II)I"⟩, 5), (⟨"WidenedBanks", "isLine", "(IIIII)Z"⟩, 14), (⟨"WidenedBanks", "runThrough", "()I"⟩, 14), (⟨"WidenedBanks$Walk", "enterTurns", "(I)V"⟩, 5), (⟨"WidenedBanks$Walk", "endTurn", "()V"⟩, 5), (⟨"WidenedBanks", "foretellAll", "()V"⟩, 14), (⟨"WidenedBanks$Steps", "reckonRefusal", "(III)I"⟩, 5), (⟨"WidenedBanks$Waves", "changes", "(II)Z"⟩, 6), (⟨"WidenedBanks$Waves", "touches", "(II)Z"⟩, 6), (⟨"WidenedBanks$Views", "findsCell", "(IIII)Z"⟩, 9), (⟨"WidenedBanks$Tries", "kindsBy", "(II)I"⟩, 3), (⟨"WidenedBanksModel", "isBank", "(I)Z"⟩, 45), (⟨"WidenedBanksModel", "isView", "(I)Z"⟩, 45)]
theorem lw_r1 : ∀ q ∈ lw_privs_1, lw_okq q := List.forall_mem_cons.mpr ⟨lw_p0, List.forall_mem_cons.mpr ⟨lw_p1, List.forall_mem_cons.mpr ⟨lw_p2, List.forall_mem_cons.mpr ⟨lw_p3, List.forall_mem_cons.mpr ⟨lw_p4, List.forall_mem_cons.mpr ⟨lw_p5, List.forall_mem_cons.mpr ⟨lw_p6, List.forall_mem_cons.mpr ⟨lw_p7, List.forall_mem_cons.mpr ⟨lw_p8, List.forall_mem_cons.mpr ⟨lw_p9, List.forall_mem_cons.mpr ⟨lw_p10, List.forall_mem_cons.mpr ⟨lw_p11, List.forall_mem_cons.mpr ⟨lw_p12, List.forall_mem_cons.mpr ⟨lw_p13, List.forall_mem_cons.mpr ⟨lw_p14, List.forall_mem_cons.mpr ⟨lw_p15, fun _ h => absurd h List.not_mem_nil⟩⟩⟩⟩⟩⟩⟩⟩⟩⟩⟩⟩⟩⟩⟩⟩
theorem lw_p16 : lw_okq (⟨"WidenedBanksModel", "read", "(II)I"⟩, 45) := ⟨⟨by decide +kernel, by decide +kernel⟩, List.mem_of_getElem? (i := 822) (by decide +kernel), List.mem_of_getElem? (i := 999) (by decide +kernel), List.mem_of_getElem? (i := 1000) (by decide +kernel)⟩
theorem lw_p17 : lw_okq (⟨"WidenedBanksModel", "placeIn", "(II)I"⟩, 45) := ⟨⟨by decide +kernel, by decide +kernel⟩, List.mem_of_getElem? (i := 822) (by decide +kernel), List.mem_of_getElem? (i := 1003) (by decide +kernel), List.mem_of_getElem? (i := 1004) (by decide +kernel)⟩
theorem lw_p18 : lw_okq (⟨"WidenedBanksModel", "fetch", "(III)I"⟩, 45) := ⟨⟨by decide +kernel, by decide +kernel⟩, List.mem_of_getElem? (i := 822) (by decide +kernel), List.mem_of_getElem? (i := 1007) (by decide +kernel), List.mem_of_getElem? (i := 1008) (by decide +kernel)⟩
theorem lw_p19 : lw_okq (⟨"WidenedBanksModel", "bankOf", "(I)I"⟩, 45) := ⟨⟨by decide +kernel, by decide +kernel⟩, List.mem_of_getElem? (i := 822) (by decide +kernel), List.mem_of_getElem? (i := 1011) (by decide +kernel), List.mem_of_getElem? (i := 1012) (by decide +kernel)⟩
theorem lw_p20 : lw_okq (⟨"WidenedBanksModel", "refusedBy", "(I)I"⟩, 45) := ⟨⟨by decide +kernel, by decide +kernel⟩, List.mem_of_getElem? (i := 822) (by decide +kernel), List.mem_of_getElem? (i := 1015) (by decide +kernel), List.mem_of_getElem? (i := 1016) (by decide +kernel)⟩
theorem lw_p21 : lw_okq (⟨"WidenedBanksModel", "under", "(II)I"⟩, 45) := ⟨⟨by decide +kernel, by decide +kernel⟩, List.mem_of_getElem? (i := 822) (by decide +kernel), List.mem_of_getElem? (i := 1019) (by decide +kernel), List.mem_of_getElem? (i := 1020) (by decide +kernel)⟩
theorem lw_p22 : lw_okq (⟨"WidenedBanksModel", "isCell", "(II)Z"⟩, 45) := ⟨⟨by decide +kernel, by decide +kernel⟩, List.mem_of_getElem? (i := 822) (by decide +kernel), List.mem_of_getElem? (i := 1023) (by decide +kernel), List.mem_of_getElem? (i := 1024) (by decide +kernel)⟩
theorem lw_p23 : lw_okq (⟨"WidenedBanksModel", "taken", "(II)I"⟩, 45) := ⟨⟨by decide +kernel, by decide +kernel⟩, List.mem_of_getElem? (i := 822) (by decide +kernel), List.mem_of_getElem? (i := 1027) (by decide +kernel), List.mem_of_getElem? (i := 1028) (by decide +kernel)⟩
theorem lw_p24 : lw_okq (⟨"WidenedBanksModel", "tell", "()V"⟩, 45) := ⟨⟨by decide +kernel, by decide +kernel⟩, List.mem_of_getElem? (i := 822) (by decide +kernel), List.mem_of_getElem? (i := 1041) (by decide +kernel), List.mem_of_getElem? (i := 1042) (by decide +kernel)⟩
theorem lw_p25 : lw_okq (⟨"WidenedBanksModel", "write", "(III)I"⟩, 45) := ⟨⟨by decide +kernel, by decide +kernel⟩, List.mem_of_getElem? (i := 822) (by decide +kernel), List.mem_of_getElem? (i := 1078) (by decide +kernel), List.mem_of_getElem? (i := 1079) (by decide +kernel)⟩
theorem lw_p26 : lw_okq (⟨"WidenedBanksModel", "sink", "(III)I"⟩, 45) := ⟨⟨by decide +kernel, by decide +kernel⟩, List.mem_of_getElem? (i := 822) (by decide +kernel), List.mem_of_getElem? (i := 1082) (by decide +kernel), List.mem_of_getElem? (i := 1083) (by decide +kernel)⟩
theorem lw_p27 : lw_okq (⟨"WidenedBanksModel", "comes", "(II)I"⟩, 45) := ⟨⟨by decide +kernel, by decide +kernel⟩, List.mem_of_getElem? (i := 822) (by decide +kernel), List.mem_of_getElem? (i := 1086) (by decide +kernel), List.mem_of_getElem? (i := 1087) (by decide +kernel)⟩
theorem lw_p28 : lw_okq (⟨"WidenedBanksModel", "copy", "([I[JI)V"⟩, 45) := ⟨⟨by decide +kernel, by decide +kernel⟩, List.mem_of_getElem? (i := 822) (by decide +kernel), List.mem_of_getElem? (i := 1090) (by decide +kernel), List.mem_of_getElem? (i := 1091) (by decide +kernel)⟩
theorem lw_p29 : lw_okq (⟨"WidenedBanksModel", "know", "()V"⟩, 45) := ⟨⟨by decide +kernel, by decide +kernel⟩, List.mem_of_getElem? (i := 822) (by decide +kernel), List.mem_of_getElem? (i := 1094) (by decide +kernel), List.mem_of_getElem? (i := 1095) (by decide +kernel)⟩
theorem lw_p30 : lw_okq (⟨"WidenedBanksModel", "put", "(I)V"⟩, 45) := ⟨⟨by decide +kernel, by decide +kernel⟩, List.mem_of_getElem? (i := 822) (by decide +kernel), List.mem_of_getElem? (i := 1098) (by decide +kernel), List.mem_of_getElem? (i := 1099) (by decide +kernel)⟩
theorem lw_p31 : lw_okq (⟨"WidenedBanksModel", "goes", "(IIIIIZ)I"⟩, 45) := ⟨⟨by decide +kernel, by decide +kernel⟩, List.mem_of_getElem? (i := 822) (by decide +kernel), List.mem_of_getElem? (i := 1107) (by decide +kernel), List.mem_of_getElem? (i := 1108) (by decide +kernel)⟩
def lw_privs_2 : List (MethodName × Nat) := [(⟨"WidenedBanksModel", "read", "(II)I"⟩, 45), (⟨"WidenedBanksModel", "placeIn", "(II)I"⟩, 45), (⟨"WidenedBanksModel", "fetch", "(III)I"⟩, 45), (⟨"WidenedBanksModel", "bankOf", "(I)I"⟩, 45), (⟨"WidenedBanksModel", "refusedBy", "(I)I"⟩, 45), (⟨"WidenedBanksModel", "under", "(II)I"⟩, 45), (⟨"WidenedBanksModel", "isCell", "(II)Z"⟩, 45), (⟨"WidenedBanksModel", "taken", "(II)I"⟩, 45), (⟨"WidenedBanksModel", "tell", "()V"⟩, 45), (⟨"WidenedBanksModel", "write", "(III)I"⟩, 45), (⟨"WidenedBanksModel", "sink", "(III)I"⟩, 45), (⟨"WidenedBanksModel", "comes", "(II)I"⟩, 45), (⟨"WidenedBanksModel", "copy", "([I[JI)V"⟩, 45), (⟨"WidenedBanksModel", "know", "()V"⟩, 45), (⟨"WidenedBanksModel", "put", "(I)V"⟩, 45), (⟨"WidenedBanksModel", "goes", "(IIIIIZ)I"⟩, 45)]
theorem lw_r2 : ∀ q ∈ lw_privs_2, lw_okq q := List.forall_mem_cons.mpr ⟨lw_p16, List.forall_mem_cons.mpr ⟨lw_p17, List.forall_mem_cons.mpr ⟨lw_p18, List.forall_mem_cons.mpr ⟨lw_p19, List.forall_mem_cons.mpr ⟨lw_p20, List.forall_mem_cons.mpr ⟨lw_p21, List.forall_mem_cons.mpr ⟨lw_p22, List.forall_mem_cons.mpr ⟨lw_p23, List.forall_mem_cons.mpr ⟨lw_p24, List.forall_mem_cons.mpr ⟨lw_p25, List.forall_mem_cons.mpr ⟨lw_p26, List.forall_mem_cons.mpr ⟨lw_p27, List.forall_mem_cons.mpr ⟨lw_p28, List.forall_mem_cons.mpr ⟨lw_p29, List.forall_mem_cons.mpr ⟨lw_p30, List.forall_mem_cons.mpr ⟨lw_p31, fun _ h => absurd h List.not_mem_nil⟩⟩⟩⟩⟩⟩⟩⟩⟩⟩⟩⟩⟩⟩⟩⟩
theorem lw_p32 : lw_okq (⟨"WidenedBanksModel", "ends", "(IIIZ)I"⟩, 45) := ⟨⟨by decide +kernel, by decide +kernel⟩, List.mem_of_getElem? (i := 822) (by decide +kernel), List.mem_of_getElem? (i := 1111) (by decide +kernel), List.mem_of_getElem? (i := 1112) (by decide +kernel)⟩
theorem lw_p33 : lw_okq (⟨"WidenedBanksModel", "swaps", "(IIIIIJZ)I"⟩, 45) := ⟨⟨by decide +kernel, by decide +kernel⟩, List.mem_of_getElem? (i := 822) (by decide +kernel), List.mem_of_getElem? (i := 1115) (by decide +kernel), List.mem_of_getElem? (i := 1116) (by decide +kernel)⟩
theorem lw_p34 : lw_okq (⟨"WidenedBanksModel", "summed", "()I"⟩, 45) := ⟨⟨by decide +kernel, by decide +kernel⟩, List.mem_of_getElem? (i := 822) (by decide +kernel), List.mem_of_getElem? (i := 1119) (by decide +kernel), List.mem_of_getElem? (i := 1120) (by decide +kernel)⟩
theorem lw_p35 : lw_okq (⟨"WidenedBanksModel", "lesser", "(II)I"⟩, 45) := ⟨⟨by decide +kernel, by decide +kernel⟩, List.mem_of_getElem? (i := 822) (by decide +kernel), List.mem_of_getElem? (i := 1130) (by decide +kernel), List.mem_of_getElem? (i := 1131) (by decide +kernel)⟩
theorem lw_p36 : lw_okq (⟨"WidenedBanksModel", "copiesAll", "(III)I"⟩, 45) := ⟨⟨by decide +kernel, by decide +kernel⟩, List.mem_of_getElem? (i := 822) (by decide +kernel), List.mem_of_getElem? (i := 1134) (by decide +kernel), List.mem_of_getElem? (i := 1135) (by decide +kernel)⟩
theorem lw_p37 : lw_okq (⟨"WidenedBanksModel", "copyBack", "([I[JII)V"⟩, 45) := ⟨⟨by decide +kernel, by decide +kernel⟩, List.mem_of_getElem? (i := 822) (by decide +kernel), List.mem_of_getElem? (i := 1145) (by decide +kernel), List.mem_of_getElem? (i := 1146) (by decide +kernel)⟩
theorem lw_p38 : lw_okq (⟨"WidenedBanksModel", "isLine", "(IIIII)Z"⟩, 45) := ⟨⟨by decide +kernel, by decide +kernel⟩, List.mem_of_getElem? (i := 822) (by decide +kernel), List.mem_of_getElem? (i := 1153) (by decide +kernel), List.mem_of_getElem? (i := 1154) (by decide +kernel)⟩
theorem lw_p39 : lw_okq (⟨"WidenedBanksModel", "open", "()I"⟩, 45) := ⟨⟨by decide +kernel, by decide +kernel⟩, List.mem_of_getElem? (i := 822) (by decide +kernel), List.mem_of_getElem? (i := 1158) (by decide +kernel), List.mem_of_getElem? (i := 1159) (by decide +kernel)⟩
theorem lw_p40 : lw_okq (⟨"WidenedBanksModel", "runsAll", "()I"⟩, 45) := ⟨⟨by decide +kernel, by decide +kernel⟩, List.mem_of_getElem? (i := 822) (by decide +kernel), List.mem_of_getElem? (i := 1175) (by decide +kernel), List.mem_of_getElem? (i := 1176) (by decide +kernel)⟩
theorem lw_p41 : lw_okq (⟨"WidenedBanksModel", "isStep", "()Z"⟩, 45) := ⟨⟨by decide +kernel, by decide +kernel⟩, List.mem_of_getElem? (i := 822) (by decide +kernel), List.mem_of_getElem? (i := 1179) (by decide +kernel), List.mem_of_getElem? (i := 1180) (by decide +kernel)⟩
theorem lw_p42 : lw_okq (⟨"WidenedBanksModel", "behind", "(I)I"⟩, 45) := ⟨⟨by decide +kernel, by decide +kernel⟩, List.mem_of_getElem? (i := 822) (by decide +kernel), List.mem_of_getElem? (i := 1183) (by decide +kernel), List.mem_of_getElem? (i := 1184) (by decide +kernel)⟩
theorem lw_p43 : lw_okq (⟨"WidenedBanksModel", "goesNow", "(Z)I"⟩, 45) := ⟨⟨by decide +kernel, by decide +kernel⟩, List.mem_of_getElem? (i := 822) (by decide +kernel), List.mem_of_getElem? (i := 1187) (by decide +kernel), List.mem_of_getElem? (i := 1188) (by decide +kernel)⟩
theorem lw_p44 : lw_okq (⟨"WidenedBanksModel", "placeNow", "(I)I"⟩, 45) := ⟨⟨by decide +kernel, by decide +kernel⟩, List.mem_of_getElem? (i := 822) (by decide +kernel), List.mem_of_getElem? (i := 1191) (by decide +kernel), List.mem_of_getElem? (i := 1192) (by decide +kernel)⟩
theorem lw_p45 : lw_okq (⟨"WidenedBanksModel", "leaves", "()V"⟩, 45) := ⟨⟨by decide +kernel, by decide +kernel⟩, List.mem_of_getElem? (i := 822) (by decide +kernel), List.mem_of_getElem? (i := 1198) (by decide +kernel), List.mem_of_getElem? (i := 1199) (by decide +kernel)⟩
theorem lw_p46 : lw_okq (⟨"WidenedBanksModel", "isPlain", "()Z"⟩, 45) := ⟨⟨by decide +kernel, by decide +kernel⟩, List.mem_of_getElem? (i := 822) (by decide +kernel), List.mem_of_getElem? (i := 1218) (by decide +kernel), List.mem_of_getElem? (i := 1219) (by decide +kernel)⟩
theorem lw_p47 : lw_okq (⟨"WidenedBanksModel", "waves", "()V"⟩, 45) := ⟨⟨by decide +kernel, by decide +kernel⟩, List.mem_of_getElem? (i := 822) (by decide +kernel), List.mem_of_getElem? (i := 1222) (by decide +kernel), List.mem_of_getElem? (i := 1223) (by decide +kernel)⟩
def lw_privs_3 : List (MethodName × Nat) := [(⟨"WidenedBanksModel", "ends", "(IIIZ)I"⟩, 45), (⟨"WidenedBanksModel", "swaps", "(IIIIIJZ)I"⟩, 45), (⟨"WidenedBanksModel", "summed", "()I"⟩, 45), (⟨"WidenedBanksModel", "lesser", "(II)I"⟩, 45), (⟨"WidenedBanksModel", "copiesAll", "(III)I"⟩, 45), (⟨"WidenedBanksModel", "copyBack", "([I[JII)V"⟩, 45), (⟨"WidenedBanksModel", "isLine", "(IIIII)Z"⟩, 45), (⟨"WidenedBanksModel", "open", "()I"⟩, 45), (⟨"WidenedBanksModel", "runsAll", "()I"⟩, 45), (⟨"WidenedBanksModel", "isStep", "()Z"⟩, 45), (⟨"WidenedBanksModel", "behind", "(I)I"⟩, 45), (⟨"WidenedBanksModel", "goesNow", "(Z)I"⟩, 45), (⟨"WidenedBanksModel", "placeNow", "(I)I"⟩, 45), (⟨"WidenedBanksModel", "leaves", "()V"⟩, 45), (⟨"WidenedBanksModel", "isPlain", "()Z"⟩, 45), (⟨"WidenedBanksModel", "waves", "()V"⟩, 45)]
theorem lw_r3 : ∀ q ∈ lw_privs_3, lw_okq q := List.forall_mem_cons.mpr ⟨lw_p32, List.forall_mem_cons.mpr ⟨lw_p33, List.forall_mem_cons.mpr ⟨lw_p34, List.forall_mem_cons.mpr ⟨lw_p35, List.forall_mem_cons.mpr ⟨lw_p36, List.forall_mem_cons.mpr ⟨lw_p37, List.forall_mem_cons.mpr ⟨lw_p38, List.forall_mem_cons.mpr ⟨lw_p39, List.forall_mem_cons.mpr ⟨lw_p40, List.forall_mem_cons.mpr ⟨lw_p41, List.forall_mem_cons.mpr ⟨lw_p42, List.forall_mem_cons.mpr ⟨lw_p43, List.forall_mem_cons.mpr ⟨lw_p44, List.forall_mem_cons.mpr ⟨lw_p45, List.forall_mem_cons.mpr ⟨lw_p46, List.forall_mem_cons.mpr ⟨lw_p47, fun _ h => absurd h List.not_mem_nil⟩⟩⟩⟩⟩⟩⟩⟩⟩⟩⟩⟩⟩⟩⟩⟩
theorem lw_p48 : lw_okq (⟨"WidenedBanksModel", "clash", "(II)Z"⟩, 45) := ⟨⟨by decide +kernel, by decide +kernel⟩, List.mem_of_getElem? (i := 822) (by decide +kernel), List.mem_of_getElem? (i := 1226) (by decide +kernel), List.mem_of_getElem? (i := 1227) (by decide +kernel)⟩
theorem lw_p49 : lw_okq (⟨"WidenedBanksModel", "cellOf", "(IZ)I"⟩, 45) := ⟨⟨by decide +kernel, by decide +kernel⟩, List.mem_of_getElem? (i := 822) (by decide +kernel), List.mem_of_getElem? (i := 1230) (by decide +kernel), List.mem_of_getElem? (i := 1231) (by decide +kernel)⟩
theorem lw_p50 : lw_okq (⟨"WidenedBanksModel", "cellAt", "(II)I"⟩, 45) := ⟨⟨by decide +kernel, by decide +kernel⟩, List.mem_of_getElem? (i := 822) (by decide +kernel), List.mem_of_getElem? (i := 1234) (by decide +kernel), List.mem_of_getElem? (i := 1235) (by decide +kernel)⟩
theorem lw_p51 : lw_okq (⟨"WidenedBanksModel", "touches", "(II)Z"⟩, 45) := ⟨⟨by decide +kernel, by decide +kernel⟩, List.mem_of_getElem? (i := 822) (by decide +kernel), List.mem_of_getElem? (i := 1238) (by decide +kernel), List.mem_of_getElem? (i := 1239) (by decide +kernel)⟩
theorem lw_p52 : lw_okq (⟨"WidenedBanksModel", "areOne", "(IIII)Z"⟩, 45) := ⟨⟨by decide +kernel, by decide +kernel⟩, List.mem_of_getElem? (i := 822) (by decide +kernel), List.mem_of_getElem? (i := 1262) (by decide +kernel), List.mem_of_getElem? (i := 1263) (by decide +kernel)⟩
theorem lw_p53 : lw_okq (⟨"WidenedBanksModel", "left", "()I"⟩, 45) := ⟨⟨by decide +kernel, by decide +kernel⟩, List.mem_of_getElem? (i := 822) (by decide +kernel), List.mem_of_getElem? (i := 1279) (by decide +kernel), List.mem_of_getElem? (i := 1280) (by decide +kernel)⟩
theorem lw_p54 : lw_okq (⟨"WidenedBanksModel", "came", "(II)I"⟩, 45) := ⟨⟨by decide +kernel, by decide +kernel⟩, List.mem_of_getElem? (i := 822) (by decide +kernel), List.mem_of_getElem? (i := 1283) (by decide +kernel), List.mem_of_getElem? (i := 1284) (by decide +kernel)⟩
theorem lw_p55 : lw_okq (⟨"WidenedBanksModel", "part", "()V"⟩, 45) := ⟨⟨by decide +kernel, by decide +kernel⟩, List.mem_of_getElem? (i := 822) (by decide +kernel), List.mem_of_getElem? (i := 1294) (by decide +kernel), List.mem_of_getElem? (i := 1295) (by decide +kernel)⟩
theorem lw_p56 : lw_okq (⟨"WidenedBanksModel", "fewestOf", "(I)I"⟩, 45) := ⟨⟨by decide +kernel, by decide +kernel⟩, List.mem_of_getElem? (i := 822) (by decide +kernel), List.mem_of_getElem? (i := 1298) (by decide +kernel), List.mem_of_getElem? (i := 1299) (by decide +kernel)⟩
theorem lw_p57 : lw_okq (⟨"WidenedBanksModel", "worstBehind", "(II)I"⟩, 45) := ⟨⟨by decide +kernel, by decide +kernel⟩, List.mem_of_getElem? (i := 822) (by decide +kernel), List.mem_of_getElem? (i := 1302) (by decide +kernel), List.mem_of_getElem? (i := 1303) (by decide +kernel)⟩
def lw_privs_4 : List (MethodName × Nat) := [(⟨"WidenedBanksModel", "clash", "(II)Z"⟩, 45), (⟨"WidenedBanksModel", "cellOf", "(IZ)I"⟩, 45), (⟨"WidenedBanksModel", "cellAt", "(II)I"⟩, 45), (⟨"WidenedBanksModel", "touches", "(II)Z"⟩, 45), (⟨"WidenedBanksModel", "areOne", "(IIII)Z"⟩, 45), (⟨"WidenedBanksModel", "left", "()I"⟩, 45), (⟨"WidenedBanksModel", "came", "(II)I"⟩, 45), (⟨"WidenedBanksModel", "part", "()V"⟩, 45), (⟨"WidenedBanksModel", "fewestOf", "(I)I"⟩, 45), (⟨"WidenedBanksModel", "worstBehind", "(II)I"⟩, 45)]
theorem lw_r4 : ∀ q ∈ lw_privs_4, lw_okq q := List.forall_mem_cons.mpr ⟨lw_p48, List.forall_mem_cons.mpr ⟨lw_p49, List.forall_mem_cons.mpr ⟨lw_p50, List.forall_mem_cons.mpr ⟨lw_p51, List.forall_mem_cons.mpr ⟨lw_p52, List.forall_mem_cons.mpr ⟨lw_p53, List.forall_mem_cons.mpr ⟨lw_p54, List.forall_mem_cons.mpr ⟨lw_p55, List.forall_mem_cons.mpr ⟨lw_p56, List.forall_mem_cons.mpr ⟨lw_p57, fun _ h => absurd h List.not_mem_nil⟩⟩⟩⟩⟩⟩⟩⟩⟩⟩
def lw_privs : List (MethodName × Nat) := lw_privs_1 ++ (lw_privs_2 ++ (lw_privs_3 ++ (lw_privs_4)))
def lw_tbl : List Cond := k2_sels lw_privs ++ tables_1
theorem lw_privs_ok : ∀ q ∈ lw_privs, lw_okq q := by
  show ∀ q ∈ lw_privs_1 ++ (lw_privs_2 ++ (lw_privs_3 ++ (lw_privs_4))), lw_okq q
  exact List.forall_mem_append.mpr ⟨lw_r1, List.forall_mem_append.mpr ⟨lw_r2, List.forall_mem_append.mpr ⟨lw_r3, lw_r4⟩⟩⟩
end
section
def RX0 : String := "WidenedBanks$Cells"
def TX0 : u_T := fun k => match k with
  | 0 => ("WidenedBanks$Cells", "kinds", "[I", true)
  | 1 => ("WidenedBanks$Cells", "thingKinds", "[I", true)
  | 2 => ("WidenedBanks$Cells", "numbers", "[J", true)
  | 3 => ("WidenedBanks$Cells", "sizes", "[I", true)
  | _ => ("WidenedBanks$Cells", "banks", "I", false)
def tyX0 : Nat → FieldType := fun k => match k with
  | 0 => .array .int
  | 1 => .array .int
  | 2 => .array .long
  | 3 => .array .int
  | _ => .int
theorem nmX0 : ∀ a, a < 5 → ∀ b, b < 5 → a ≠ b → (TX0 a).2.1 ≠ (TX0 b).2.1 := by decide +kernel
theorem tyX0_ok : ∀ k, k < 5 → parseFieldDescriptor (TX0 k).2.2.1 = some (tyX0 k) := by decide +kernel
abbrev cX0_init : ByteArray := prog_2_method_1_code
def yX0_init : MethodName := ⟨RX0, "<init>", "()V"⟩
abbrev cX0_hasBank : ByteArray := prog_2_method_2_code
def yX0_hasBank : MethodName := ⟨RX0, "hasBank", "(I)Z"⟩
abbrev cX0_hasCell : ByteArray := prog_2_method_3_code
def yX0_hasCell : MethodName := ⟨RX0, "hasCell", "(II)Z"⟩
abbrev cX0_addBank : ByteArray := prog_2_method_4_code
def yX0_addBank : MethodName := ⟨RX0, "addBank", "(II)I"⟩
abbrev cX0_fetch : ByteArray := prog_2_method_5_code
def yX0_fetch : MethodName := ⟨RX0, "fetch", "(IILWidenedBanks$Thing;)V"⟩
abbrev cX0_store : ByteArray := prog_2_method_6_code
def yX0_store : MethodName := ⟨RX0, "store", "(IILWidenedBanks$Thing;)V"⟩
def RX1 : String := "WidenedBanks$History"
def TX1 : u_T := fun k => match k with
  | 0 => ("WidenedBanks$History", "ring", "[LWidenedBanks$Image;", true)
  | 1 => ("WidenedBanks$History", "marked", "LWidenedBanks$Image;", false)
  | 2 => ("WidenedBanks$History", "next", "I", false)
  | _ => ("WidenedBanks$History", "known", "I", false)
def tyX1 : Nat → FieldType := fun k => match k with
  | 0 => .array (.object "WidenedBanks$Image")
  | 1 => .object "WidenedBanks$Image"
  | 2 => .int
  | _ => .int
theorem nmX1 : ∀ a, a < 4 → ∀ b, b < 4 → a ≠ b → (TX1 a).2.1 ≠ (TX1 b).2.1 := by decide +kernel
theorem tyX1_ok : ∀ k, k < 4 → parseFieldDescriptor (TX1 k).2.2.1 = some (tyX1 k) := by decide +kernel
abbrev cX1_init : ByteArray := prog_3_method_1_code
def yX1_init : MethodName := ⟨RX1, "<init>", "()V"⟩
abbrev cX1_lose : ByteArray := prog_3_method_2_code
def yX1_lose : MethodName := ⟨RX1, "lose", "()V"⟩
abbrev cX1_mark : ByteArray := prog_3_method_3_code
def yX1_mark : MethodName := ⟨RX1, "mark", "(LWidenedBanks$Cells;)V"⟩
abbrev cX1_keepMark : ByteArray := prog_3_method_4_code
def yX1_keepMark : MethodName := ⟨RX1, "keepMark", "()V"⟩
abbrev cX1_returnToMark : ByteArray := prog_3_method_5_code
def yX1_returnToMark : MethodName := ⟨RX1, "returnToMark", "(LWidenedBanks$Cells;)V"⟩
abbrev cX1_stepBack : ByteArray := prog_3_method_6_code
def yX1_stepBack : MethodName := ⟨RX1, "stepBack", "(LWidenedBanks$Cells;)V"⟩
def RX2 : String := "WidenedBanks$Image"
def TX2 : u_T := fun k => match k with
  | 0 => ("WidenedBanks$Image", "thingKinds", "[I", true)
  | 1 => ("WidenedBanks$Image", "numbers", "[J", true)
  | _ => ("WidenedBanks$Image", "banks", "I", false)
def tyX2 : Nat → FieldType := fun k => match k with
  | 0 => .array .int
  | 1 => .array .long
  | _ => .int
theorem nmX2 : ∀ a, a < 3 → ∀ b, b < 3 → a ≠ b → (TX2 a).2.1 ≠ (TX2 b).2.1 := by decide +kernel
theorem tyX2_ok : ∀ k, k < 3 → parseFieldDescriptor (TX2 k).2.2.1 = some (tyX2 k) := by decide +kernel
abbrev cX2_init : ByteArray := prog_4_method_1_code
def yX2_init : MethodName := ⟨RX2, "<init>", "()V"⟩
abbrev cX2_lose : ByteArray := prog_4_method_2_code
def yX2_lose : MethodName := ⟨RX2, "lose", "()V"⟩
abbrev cX2_record : ByteArray := prog_4_method_3_code
def yX2_record : MethodName := ⟨RX2, "record", "(LWidenedBanks$Cells;)V"⟩
abbrev cX2_restore : ByteArray := prog_4_method_4_code
def yX2_restore : MethodName := ⟨RX2, "restore", "(LWidenedBanks$Cells;)V"⟩
def RX3 : String := "WidenedBanks$Kinds"
def TX3 : u_T := fun k => match k with
  | _ => ("", "", "", false)
def tyX3 : Nat → FieldType := fun k => match k with
  | _ => .int
theorem nmX3 : ∀ a, a < 0 → ∀ b, b < 0 → a ≠ b → (TX3 a).2.1 ≠ (TX3 b).2.1 := by decide +kernel
theorem tyX3_ok : ∀ k, k < 0 → parseFieldDescriptor (TX3 k).2.2.1 = some (tyX3 k) := by decide +kernel
abbrev cX3_isThing : ByteArray := prog_5_method_2_code
def yX3_isThing : MethodName := ⟨RX3, "isThing", "(IJ)Z"⟩
abbrev cX3_rounded : ByteArray := prog_5_method_3_code
def yX3_rounded : MethodName := ⟨RX3, "rounded", "(JI)J"⟩
abbrev cX3_taken : ByteArray := prog_5_method_4_code
def yX3_taken : MethodName := ⟨RX3, "taken", "(II)I"⟩
abbrev cX3_handed : ByteArray := prog_5_method_5_code
def yX3_handed : MethodName := ⟨RX3, "handed", "(III)I"⟩
abbrev cX3_joined : ByteArray := prog_5_method_6_code
def yX3_joined : MethodName := ⟨RX3, "joined", "(II)I"⟩
def RX4 : String := "WidenedBanks$Lines"
def TX4 : u_T := fun k => match k with
  | 0 => ("WidenedBanks$Lines", "parts", "[I", true)
  | 1 => ("WidenedBanks$Lines", "sorted", "[I", true)
  | 2 => ("WidenedBanks$Lines", "size", "I", false)
  | _ => ("WidenedBanks$Lines", "open", "I", false)
def tyX4 : Nat → FieldType := fun k => match k with
  | 0 => .array .int
  | 1 => .array .int
  | 2 => .int
  | _ => .int
theorem nmX4 : ∀ a, a < 4 → ∀ b, b < 4 → a ≠ b → (TX4 a).2.1 ≠ (TX4 b).2.1 := by decide +kernel
theorem tyX4_ok : ∀ k, k < 4 → parseFieldDescriptor (TX4 k).2.2.1 = some (tyX4 k) := by decide +kernel
abbrev cX4_init : ByteArray := prog_6_method_1_code
def yX4_init : MethodName := ⟨RX4, "<init>", "()V"⟩
abbrev cX4_empty : ByteArray := prog_6_method_2_code
def yX4_empty : MethodName := ⟨RX4, "empty", "()V"⟩
abbrev cX4_has : ByteArray := prog_6_method_3_code
def yX4_has : MethodName := ⟨RX4, "has", "(I)Z"⟩
abbrev cX4_part : ByteArray := prog_6_method_4_code
def yX4_part : MethodName := ⟨RX4, "part", "(II)I"⟩
abbrev cX4_append : ByteArray := prog_6_method_5_code
def yX4_append : MethodName := ⟨RX4, "append", "(IIIII)I"⟩
abbrev cX4_dropLast : ByteArray := prog_6_method_6_code
def yX4_dropLast : MethodName := ⟨RX4, "dropLast", "()I"⟩
abbrev cX4_opens : ByteArray := prog_6_method_7_code
def yX4_opens : MethodName := ⟨RX4, "opens", "(I)I"⟩
abbrev cX4_endOf : ByteArray := prog_6_method_8_code
def yX4_endOf : MethodName := ⟨RX4, "endOf", "(I)I"⟩
abbrev cX4_turnAnywhere : ByteArray := prog_6_method_9_code
def yX4_turnAnywhere : MethodName := ⟨RX4, "turnAnywhere", "()Z"⟩
abbrev cX4_lieAs : ByteArray := prog_6_method_10_code
def yX4_lieAs : MethodName := ⟨RX4, "lieAs", "([I)V"⟩
def RX5 : String := "WidenedBanks$Steps"
def TX5 : u_T := fun k => match k with
  | 0 => ("WidenedBanks$Steps", "cells", "LWidenedBanks$Cells;", true)
  | 1 => ("WidenedBanks$Steps", "views", "LWidenedBanks$Views;", true)
  | 2 => ("WidenedBanks$Steps", "first", "LWidenedBanks$Thing;", true)
  | 3 => ("WidenedBanks$Steps", "second", "LWidenedBanks$Thing;", true)
  | _ => ("WidenedBanks$Steps", "row", "[LWidenedBanks$Thing;", true)
def tyX5 : Nat → FieldType := fun k => match k with
  | 0 => .object "WidenedBanks$Cells"
  | 1 => .object "WidenedBanks$Views"
  | 2 => .object "WidenedBanks$Thing"
  | 3 => .object "WidenedBanks$Thing"
  | _ => .array (.object "WidenedBanks$Thing")
theorem nmX5 : ∀ a, a < 5 → ∀ b, b < 5 → a ≠ b → (TX5 a).2.1 ≠ (TX5 b).2.1 := by decide +kernel
theorem tyX5_ok : ∀ k, k < 5 → parseFieldDescriptor (TX5 k).2.2.1 = some (tyX5 k) := by decide +kernel
abbrev cX5_init : ByteArray := prog_7_method_1_code
def yX5_init : MethodName := ⟨RX5, "<init>", "(LWidenedBanks$Cells;LWidenedBanks$Views;)V"⟩
abbrev cX5_take : ByteArray := prog_7_method_2_code
def yX5_take : MethodName := ⟨RX5, "take", "(IILWidenedBanks$Thing;)I"⟩
abbrev cX5_put : ByteArray := prog_7_method_3_code
def yX5_put : MethodName := ⟨RX5, "put", "(IILWidenedBanks$Thing;I)I"⟩
abbrev cX5_perform : ByteArray := prog_7_method_4_code
def yX5_perform : MethodName := ⟨RX5, "perform", "(IIIII)I"⟩
abbrev cX5_swap : ByteArray := prog_7_method_5_code
def yX5_swap : MethodName := ⟨RX5, "swap", "(IIII)I"⟩
abbrev cX5_reckon : ByteArray := prog_7_method_6_code
def yX5_reckon : MethodName := ⟨RX5, "reckon", "(III)I"⟩
abbrev cX5_noTerm : ByteArray := prog_7_method_7_code
def yX5_noTerm : MethodName := ⟨RX5, "noTerm", "(I)I"⟩
abbrev cX5_widerKind : ByteArray := prog_7_method_8_code
def yX5_widerKind : MethodName := ⟨RX5, "widerKind", "(II)I"⟩
abbrev cX5_combined : ByteArray := prog_7_method_9_code
def yX5_combined : MethodName := ⟨RX5, "combined", "(IJJ)J"⟩
abbrev cX5_byOfResult : ByteArray := prog_7_method_10_code
def yX5_byOfResult : MethodName := ⟨RX5, "byOfResult", "(II)I"⟩
abbrev cX5_foretell : ByteArray := prog_7_method_11_code
def yX5_foretell : MethodName := ⟨RX5, "foretell", "(IIIII)I"⟩
abbrev cX5_foretoldAs : ByteArray := prog_7_method_12_code
def yX5_foretoldAs : MethodName := ⟨RX5, "foretoldAs", "(I)I"⟩
abbrev cX5_swapRefusal : ByteArray := prog_7_method_13_code
def yX5_swapRefusal : MethodName := ⟨RX5, "swapRefusal", "(IIIIII)I"⟩
abbrev cX5_reckonRefusal : ByteArray := prog_7_method_14_code
def yX5_reckonRefusal : MethodName := ⟨RX5, "reckonRefusal", "(III)I"⟩
abbrev cX5_copyInOrder : ByteArray := prog_7_method_15_code
def yX5_copyInOrder : MethodName := ⟨RX5, "copyInOrder", "(IIZ)I"⟩
abbrev cX5_copyAtOnce : ByteArray := prog_7_method_16_code
def yX5_copyAtOnce : MethodName := ⟨RX5, "copyAtOnce", "(II)I"⟩
def RX6 : String := "WidenedBanks$Thing"
def TX6 : u_T := fun k => match k with
  | 0 => ("WidenedBanks$Thing", "kind", "I", false)
  | _ => ("WidenedBanks$Thing", "number", "J", false)
def tyX6 : Nat → FieldType := fun k => match k with
  | 0 => .int
  | _ => .long
theorem nmX6 : ∀ a, a < 2 → ∀ b, b < 2 → a ≠ b → (TX6 a).2.1 ≠ (TX6 b).2.1 := by decide +kernel
theorem tyX6_ok : ∀ k, k < 2 → parseFieldDescriptor (TX6 k).2.2.1 = some (tyX6 k) := by decide +kernel
abbrev cX6_init : ByteArray := prog_8_method_1_code
def yX6_init : MethodName := ⟨RX6, "<init>", "()V"⟩
abbrev cX6_become : ByteArray := prog_8_method_2_code
def yX6_become : MethodName := ⟨RX6, "become", "(IJ)V"⟩
abbrev cX6_enter : ByteArray := prog_8_method_3_code
def yX6_enter : MethodName := ⟨RX6, "enter", "(I)V"⟩
def RX7 : String := "WidenedBanks$Tries"
def TX7 : u_T := fun k => match k with
  | 0 => ("WidenedBanks$Tries", "well", "[I", true)
  | 1 => ("WidenedBanks$Tries", "left", "I", false)
  | _ => ("WidenedBanks$Tries", "seen", "I", false)
def tyX7 : Nat → FieldType := fun k => match k with
  | 0 => .array .int
  | 1 => .int
  | _ => .int
theorem nmX7 : ∀ a, a < 3 → ∀ b, b < 3 → a ≠ b → (TX7 a).2.1 ≠ (TX7 b).2.1 := by decide +kernel
theorem tyX7_ok : ∀ k, k < 3 → parseFieldDescriptor (TX7 k).2.2.1 = some (tyX7 k) := by decide +kernel
abbrev cX7_init : ByteArray := prog_9_method_1_code
def yX7_init : MethodName := ⟨RX7, "<init>", "()V"⟩
abbrev cX7_tried : ByteArray := prog_9_method_2_code
def yX7_tried : MethodName := ⟨RX7, "tried", "(II)I"⟩
abbrev cX7_note : ByteArray := prog_9_method_3_code
def yX7_note : MethodName := ⟨RX7, "note", "(II)I"⟩
abbrev cX7_kindsBy : ByteArray := prog_9_method_4_code
def yX7_kindsBy : MethodName := ⟨RX7, "kindsBy", "(II)I"⟩
abbrev cX7_lose : ByteArray := prog_9_method_5_code
def yX7_lose : MethodName := ⟨RX7, "lose", "()I"⟩
abbrev cX7_leastTries : ByteArray := prog_9_method_6_code
def yX7_leastTries : MethodName := ⟨RX7, "leastTries", "()I"⟩
abbrev cX7_firstTry : ByteArray := prog_9_method_7_code
def yX7_firstTry : MethodName := ⟨RX7, "firstTry", "()I"⟩
abbrev cX7_sorts : ByteArray := prog_9_method_8_code
def yX7_sorts : MethodName := ⟨RX7, "sorts", "([III)Z"⟩
abbrev cX7_beginning : ByteArray := prog_9_method_9_code
def yX7_beginning : MethodName := ⟨RX7, "beginning", "([III)I"⟩
def RX8 : String := "WidenedBanks$Views"
def TX8 : u_T := fun k => match k with
  | 0 => ("WidenedBanks$Views", "cells", "LWidenedBanks$Cells;", true)
  | 1 => ("WidenedBanks$Views", "froms", "[I", true)
  | 2 => ("WidenedBanks$Views", "strides", "[I", true)
  | 3 => ("WidenedBanks$Views", "depths", "[I", true)
  | 4 => ("WidenedBanks$Views", "chains", "[I", true)
  | 5 => ("WidenedBanks$Views", "counts", "[I", true)
  | 6 => ("WidenedBanks$Views", "kinds", "[I", true)
  | 7 => ("WidenedBanks$Views", "banks", "[I", true)
  | _ => ("WidenedBanks$Views", "made", "I", false)
def tyX8 : Nat → FieldType := fun k => match k with
  | 0 => .object "WidenedBanks$Cells"
  | 1 => .array .int
  | 2 => .array .int
  | 3 => .array .int
  | 4 => .array .int
  | 5 => .array .int
  | 6 => .array .int
  | 7 => .array .int
  | _ => .int
theorem nmX8 : ∀ a, a < 9 → ∀ b, b < 9 → a ≠ b → (TX8 a).2.1 ≠ (TX8 b).2.1 := by decide +kernel
theorem tyX8_ok : ∀ k, k < 9 → parseFieldDescriptor (TX8 k).2.2.1 = some (tyX8 k) := by decide +kernel
abbrev cX8_init : ByteArray := prog_10_method_1_code
def yX8_init : MethodName := ⟨RX8, "<init>", "(LWidenedBanks$Cells;)V"⟩
abbrev cX8_has : ByteArray := prog_10_method_2_code
def yX8_has : MethodName := ⟨RX8, "has", "(I)Z"⟩
abbrev cX8_depthUpon : ByteArray := prog_10_method_3_code
def yX8_depthUpon : MethodName := ⟨RX8, "depthUpon", "(I)I"⟩
abbrev cX8_addView : ByteArray := prog_10_method_4_code
def yX8_addView : MethodName := ⟨RX8, "addView", "(IIIII)I"⟩
abbrev cX8_placeInBank : ByteArray := prog_10_method_5_code
def yX8_placeInBank : MethodName := ⟨RX8, "placeInBank", "(II)I"⟩
abbrev cX8_cellAt : ByteArray := prog_10_method_6_code
def yX8_cellAt : MethodName := ⟨RX8, "cellAt", "(II)I"⟩
abbrev cX8_takenUp : ByteArray := prog_10_method_7_code
def yX8_takenUp : MethodName := ⟨RX8, "takenUp", "(IIZ)I"⟩
abbrev cX8_handedDown : ByteArray := prog_10_method_8_code
def yX8_handedDown : MethodName := ⟨RX8, "handedDown", "(III)I"⟩
abbrev cX8_readRefusal : ByteArray := prog_10_method_9_code
def yX8_readRefusal : MethodName := ⟨RX8, "readRefusal", "(II)I"⟩
abbrev cX8_writeRefusal : ByteArray := prog_10_method_10_code
def yX8_writeRefusal : MethodName := ⟨RX8, "writeRefusal", "(IIII)I"⟩
abbrev cX8_readsAnything : ByteArray := prog_10_method_11_code
def yX8_readsAnything : MethodName := ⟨RX8, "readsAnything", "(I)Z"⟩
abbrev cX8_kindRead : ByteArray := prog_10_method_12_code
def yX8_kindRead : MethodName := ⟨RX8, "kindRead", "(I)I"⟩
abbrev cX8_comeUp : ByteArray := prog_10_method_13_code
def yX8_comeUp : MethodName := ⟨RX8, "comeUp", "(ILWidenedBanks$Thing;)V"⟩
abbrev cX8_goDown : ByteArray := prog_10_method_14_code
def yX8_goDown : MethodName := ⟨RX8, "goDown", "(ILWidenedBanks$Thing;)V"⟩
abbrev cX8_shared : ByteArray := prog_10_method_15_code
def yX8_shared : MethodName := ⟨RX8, "shared", "(II)I"⟩
abbrev cX8_safeUpward : ByteArray := prog_10_method_16_code
def yX8_safeUpward : MethodName := ⟨RX8, "safeUpward", "(II)Z"⟩
abbrev cX8_safeDownward : ByteArray := prog_10_method_17_code
def yX8_safeDownward : MethodName := ⟨RX8, "safeDownward", "(II)Z"⟩
abbrev cX8_findsCell : ByteArray := prog_10_method_18_code
def yX8_findsCell : MethodName := ⟨RX8, "findsCell", "(IIII)Z"⟩
def RX9 : String := "WidenedBanks$Walk"
def TX9 : u_T := fun k => match k with
  | 0 => ("WidenedBanks$Walk", "lines", "LWidenedBanks$Lines;", true)
  | 1 => ("WidenedBanks$Walk", "starts", "[I", true)
  | 2 => ("WidenedBanks$Walk", "turns", "[I", true)
  | 3 => ("WidenedBanks$Walk", "deep", "I", false)
  | _ => ("WidenedBanks$Walk", "at", "I", false)
def tyX9 : Nat → FieldType := fun k => match k with
  | 0 => .object "WidenedBanks$Lines"
  | 1 => .array .int
  | 2 => .array .int
  | 3 => .int
  | _ => .int
theorem nmX9 : ∀ a, a < 5 → ∀ b, b < 5 → a ≠ b → (TX9 a).2.1 ≠ (TX9 b).2.1 := by decide +kernel
theorem tyX9_ok : ∀ k, k < 5 → parseFieldDescriptor (TX9 k).2.2.1 = some (tyX9 k) := by decide +kernel
abbrev cX9_init : ByteArray := prog_11_method_1_code
def yX9_init : MethodName := ⟨RX9, "<init>", "(LWidenedBanks$Lines;)V"⟩
abbrev cX9_begin : ByteArray := prog_11_method_2_code
def yX9_begin : MethodName := ⟨RX9, "begin", "()V"⟩
abbrev cX9_nextStep : ByteArray := prog_11_method_3_code
def yX9_nextStep : MethodName := ⟨RX9, "nextStep", "()I"⟩
abbrev cX9_enterTurns : ByteArray := prog_11_method_4_code
def yX9_enterTurns : MethodName := ⟨RX9, "enterTurns", "(I)V"⟩
abbrev cX9_endTurn : ByteArray := prog_11_method_5_code
def yX9_endTurn : MethodName := ⟨RX9, "endTurn", "()V"⟩
abbrev cX9_leave : ByteArray := prog_11_method_6_code
def yX9_leave : MethodName := ⟨RX9, "leave", "()V"⟩
abbrev cX9_place : ByteArray := prog_11_method_7_code
def yX9_place : MethodName := ⟨RX9, "place", "(II)I"⟩
def RX10 : String := "WidenedBanks$Waves"
def TX10 : u_T := fun k => match k with
  | 0 => ("WidenedBanks$Waves", "lines", "LWidenedBanks$Lines;", true)
  | 1 => ("WidenedBanks$Waves", "views", "LWidenedBanks$Views;", true)
  | 2 => ("WidenedBanks$Waves", "cellsOfA", "[I", true)
  | 3 => ("WidenedBanks$Waves", "cellsOfB", "[I", true)
  | 4 => ("WidenedBanks$Waves", "waveRow", "[I", true)
  | _ => ("WidenedBanks$Waves", "order", "[I", true)
def tyX10 : Nat → FieldType := fun k => match k with
  | 0 => .object "WidenedBanks$Lines"
  | 1 => .object "WidenedBanks$Views"
  | 2 => .array .int
  | 3 => .array .int
  | 4 => .array .int
  | _ => .array .int
theorem nmX10 : ∀ a, a < 6 → ∀ b, b < 6 → a ≠ b → (TX10 a).2.1 ≠ (TX10 b).2.1 := by decide +kernel
theorem tyX10_ok : ∀ k, k < 6 → parseFieldDescriptor (TX10 k).2.2.1 = some (tyX10 k) := by decide +kernel
abbrev cX10_init : ByteArray := prog_12_method_1_code
def yX10_init : MethodName := ⟨RX10, "<init>", "(LWidenedBanks$Lines;LWidenedBanks$Views;)V"⟩
abbrev cX10_waveOf : ByteArray := prog_12_method_2_code
def yX10_waveOf : MethodName := ⟨RX10, "waveOf", "(I)I"⟩
abbrev cX10_find : ByteArray := prog_12_method_3_code
def yX10_find : MethodName := ⟨RX10, "find", "()V"⟩
abbrev cX10_changes : ByteArray := prog_12_method_4_code
def yX10_changes : MethodName := ⟨RX10, "changes", "(II)Z"⟩
abbrev cX10_touches : ByteArray := prog_12_method_5_code
def yX10_touches : MethodName := ⟨RX10, "touches", "(II)Z"⟩
abbrev cX10_sortLines : ByteArray := prog_12_method_6_code
def yX10_sortLines : MethodName := ⟨RX10, "sortLines", "()I"⟩
def RX11 : String := "WidenedBanks"
def TX11 : u_T := fun k => match k with
  | 0 => ("WidenedBanks", "cells", "LWidenedBanks$Cells;", true)
  | 1 => ("WidenedBanks", "views", "LWidenedBanks$Views;", true)
  | 2 => ("WidenedBanks", "steps", "LWidenedBanks$Steps;", true)
  | 3 => ("WidenedBanks", "lines", "LWidenedBanks$Lines;", true)
  | 4 => ("WidenedBanks", "walk", "LWidenedBanks$Walk;", true)
  | 5 => ("WidenedBanks", "waves", "LWidenedBanks$Waves;", true)
  | 6 => ("WidenedBanks", "history", "LWidenedBanks$History;", true)
  | 7 => ("WidenedBanks", "images", "[LWidenedBanks$Image;", true)
  | 8 => ("WidenedBanks", "tries", "LWidenedBanks$Tries;", true)
  | 9 => ("WidenedBanks", "told", "LWidenedBanks$Thing;", true)
  | 10 => ("WidenedBanks", "given", "LWidenedBanks$Thing;", true)
  | 11 => ("WidenedBanks", "modeOf", "[I", true)
  | 12 => ("WidenedBanks", "metOf", "[I", true)
  | _ => ("WidenedBanks", "foretold", "[I", true)
def tyX11 : Nat → FieldType := fun k => match k with
  | 0 => .object "WidenedBanks$Cells"
  | 1 => .object "WidenedBanks$Views"
  | 2 => .object "WidenedBanks$Steps"
  | 3 => .object "WidenedBanks$Lines"
  | 4 => .object "WidenedBanks$Walk"
  | 5 => .object "WidenedBanks$Waves"
  | 6 => .object "WidenedBanks$History"
  | 7 => .array (.object "WidenedBanks$Image")
  | 8 => .object "WidenedBanks$Tries"
  | 9 => .object "WidenedBanks$Thing"
  | 10 => .object "WidenedBanks$Thing"
  | 11 => .array .int
  | 12 => .array .int
  | _ => .array .int
theorem nmX11 : ∀ a, a < 14 → ∀ b, b < 14 → a ≠ b → (TX11 a).2.1 ≠ (TX11 b).2.1 := by decide +kernel
theorem tyX11_ok : ∀ k, k < 14 → parseFieldDescriptor (TX11 k).2.2.1 = some (tyX11 k) := by decide +kernel
abbrev cX11_init : ByteArray := prog_1_method_1_code
def yX11_init : MethodName := ⟨RX11, "<init>", "()V"⟩
abbrev cX11_bank : ByteArray := prog_1_method_2_code
def yX11_bank : MethodName := ⟨RX11, "bank", "(II)I"⟩
abbrev cX11_view : ByteArray := prog_1_method_3_code
def yX11_view : MethodName := ⟨RX11, "view", "(IIIII)I"⟩
abbrev cX11_clear : ByteArray := prog_1_method_4_code
def yX11_clear : MethodName := ⟨RX11, "clear", "()I"⟩
abbrev cX11_reads : ByteArray := prog_1_method_5_code
def yX11_reads : MethodName := ⟨RX11, "reads", "(II)I"⟩
abbrev cX11_looks : ByteArray := prog_1_method_6_code
def yX11_looks : MethodName := ⟨RX11, "looks", "(II)I"⟩
abbrev cX11_number : ByteArray := prog_1_method_7_code
def yX11_number : MethodName := ⟨RX11, "number", "()J"⟩
abbrev cX11_kind : ByteArray := prog_1_method_8_code
def yX11_kind : MethodName := ⟨RX11, "kind", "()I"⟩
abbrev cX11_writes : ByteArray := prog_1_method_9_code
def yX11_writes : MethodName := ⟨RX11, "writes", "(IIIIJ)I"⟩
abbrev cX11_does : ByteArray := prog_1_method_10_code
def yX11_does : MethodName := ⟨RX11, "does", "(IIIII)I"⟩
abbrev cX11_copies : ByteArray := prog_1_method_11_code
def yX11_copies : MethodName := ⟨RX11, "copies", "(III)I"⟩
abbrev cX11_undo : ByteArray := prog_1_method_12_code
def yX11_undo : MethodName := ⟨RX11, "undo", "()I"⟩
abbrev cX11_plans : ByteArray := prog_1_method_13_code
def yX11_plans : MethodName := ⟨RX11, "plans", "(IIIII)I"⟩
abbrev cX11_drops : ByteArray := prog_1_method_14_code
def yX11_drops : MethodName := ⟨RX11, "drops", "()I"⟩
abbrev cX11_modes : ByteArray := prog_1_method_15_code
def yX11_modes : MethodName := ⟨RX11, "modes", "(II)I"⟩
abbrev cX11_runs : ByteArray := prog_1_method_16_code
def yX11_runs : MethodName := ⟨RX11, "runs", "()I"⟩
abbrev cX11_line : ByteArray := prog_1_method_17_code
def yX11_line : MethodName := ⟨RX11, "line", "(II)I"⟩
abbrev cX11_met : ByteArray := prog_1_method_18_code
def yX11_met : MethodName := ⟨RX11, "met", "(I)I"⟩
abbrev cX11_forecast : ByteArray := prog_1_method_19_code
def yX11_forecast : MethodName := ⟨RX11, "forecast", "(I)I"⟩
abbrev cX11_wave : ByteArray := prog_1_method_20_code
def yX11_wave : MethodName := ⟨RX11, "wave", "(I)I"⟩
abbrev cX11_reorders : ByteArray := prog_1_method_21_code
def yX11_reorders : MethodName := ⟨RX11, "reorders", "()I"⟩
abbrev cX11_joins : ByteArray := prog_1_method_22_code
def yX11_joins : MethodName := ⟨RX11, "joins", "(II)I"⟩
abbrev cX11_would : ByteArray := prog_1_method_23_code
def yX11_would : MethodName := ⟨RX11, "would", "(III)I"⟩
abbrev cX11_shares : ByteArray := prog_1_method_24_code
def yX11_shares : MethodName := ⟨RX11, "shares", "(II)I"⟩
abbrev cX11_safe : ByteArray := prog_1_method_25_code
def yX11_safe : MethodName := ⟨RX11, "safe", "(II)I"⟩
abbrev cX11_sees : ByteArray := prog_1_method_26_code
def yX11_sees : MethodName := ⟨RX11, "sees", "(II)I"⟩
abbrev cX11_forget : ByteArray := prog_1_method_27_code
def yX11_forget : MethodName := ⟨RX11, "forget", "()I"⟩
abbrev cX11_unseen : ByteArray := prog_1_method_28_code
def yX11_unseen : MethodName := ⟨RX11, "unseen", "(I)I"⟩
abbrev cX11_fewest : ByteArray := prog_1_method_29_code
def yX11_fewest : MethodName := ⟨RX11, "fewest", "(I)I"⟩
abbrev cX11_keep : ByteArray := prog_1_method_30_code
def yX11_keep : MethodName := ⟨RX11, "keep", "(I)I"⟩
abbrev cX11_back : ByteArray := prog_1_method_31_code
def yX11_back : MethodName := ⟨RX11, "back", "(I)I"⟩
abbrev cX11_count : ByteArray := prog_1_method_32_code
def yX11_count : MethodName := ⟨RX11, "count", "(I)I"⟩
abbrev cX11_within : ByteArray := prog_1_method_33_code
def yX11_within : MethodName := ⟨RX11, "within", "(III)Z"⟩
abbrev cX11_isPlace : ByteArray := prog_1_method_34_code
def yX11_isPlace : MethodName := ⟨RX11, "isPlace", "(I)Z"⟩
abbrev cX11_isRefusal : ByteArray := prog_1_method_35_code
def yX11_isRefusal : MethodName := ⟨RX11, "isRefusal", "(I)Z"⟩
abbrev cX11_isLine : ByteArray := prog_1_method_36_code
def yX11_isLine : MethodName := ⟨RX11, "isLine", "(IIIII)Z"⟩
abbrev cX11_runThrough : ByteArray := prog_1_method_37_code
def yX11_runThrough : MethodName := ⟨RX11, "runThrough", "()I"⟩
abbrev cX11_foretellAll : ByteArray := prog_1_method_38_code
def yX11_foretellAll : MethodName := ⟨RX11, "foretellAll", "()V"⟩
def RX12 : String := "WidenedBanksModel"
def TX12 : u_T := fun k => match k with
  | 0 => ("WidenedBanksModel", "thrown", "I", false)
  | 1 => ("WidenedBanksModel", "banks", "I", false)
  | 2 => ("WidenedBanksModel", "bankKind", "[I", true)
  | 3 => ("WidenedBanksModel", "size", "[I", true)
  | 4 => ("WidenedBanksModel", "cellKind", "[I", true)
  | 5 => ("WidenedBanksModel", "cell", "[J", true)
  | 6 => ("WidenedBanksModel", "views", "I", false)
  | 7 => ("WidenedBanksModel", "base", "[I", true)
  | 8 => ("WidenedBanksModel", "from", "[I", true)
  | 9 => ("WidenedBanksModel", "step", "[I", true)
  | 10 => ("WidenedBanksModel", "many", "[I", true)
  | 11 => ("WidenedBanksModel", "viewKind", "[I", true)
  | 12 => ("WidenedBanksModel", "deep", "[I", true)
  | 13 => ("WidenedBanksModel", "toldKind", "I", false)
  | 14 => ("WidenedBanksModel", "told", "J", false)
  | 15 => ("WidenedBanksModel", "undos", "I", false)
  | 16 => ("WidenedBanksModel", "pastBanks", "[I", true)
  | 17 => ("WidenedBanksModel", "pastKind", "[I", true)
  | 18 => ("WidenedBanksModel", "past", "[J", true)
  | 19 => ("WidenedBanksModel", "imageKind", "[I", true)
  | 20 => ("WidenedBanksModel", "image", "[J", true)
  | 21 => ("WidenedBanksModel", "imageBanks", "[I", true)
  | 22 => ("WidenedBanksModel", "lines", "I", false)
  | 23 => ("WidenedBanksModel", "line", "[I", true)
  | 24 => ("WidenedBanksModel", "mode", "[I", true)
  | 25 => ("WidenedBanksModel", "met", "[I", true)
  | 26 => ("WidenedBanksModel", "seen", "I", false)
  | 27 => ("WidenedBanksModel", "seenTry", "[I", true)
  | 28 => ("WidenedBanksModel", "seenCame", "[I", true)
  | 29 => ("WidenedBanksModel", "isParted", "Z", false)
  | 30 => ("WidenedBanksModel", "parts", "[B", true)
  | 31 => ("WidenedBanksModel", "handKind", "I", false)
  | 32 => ("WidenedBanksModel", "hand", "J", false)
  | 33 => ("WidenedBanksModel", "target", "I", false)
  | 34 => ("WidenedBanksModel", "wasKind", "[I", true)
  | 35 => ("WidenedBanksModel", "was", "[J", true)
  | 36 => ("WidenedBanksModel", "readKind", "[I", true)
  | 37 => ("WidenedBanksModel", "readNumber", "[J", true)
  | 38 => ("WidenedBanksModel", "next", "I", false)
  | 39 => ("WidenedBanksModel", "within", "I", false)
  | 40 => ("WidenedBanksModel", "beginsAt", "[I", true)
  | 41 => ("WidenedBanksModel", "turn", "[I", true)
  | 42 => ("WidenedBanksModel", "waves", "[I", true)
  | 43 => ("WidenedBanksModel", "oldLine", "[I", true)
  | _ => ("WidenedBanksModel", "setOf", "[I", true)
def tyX12 : Nat → FieldType := fun k => match k with
  | 0 => .int
  | 1 => .int
  | 2 => .array .int
  | 3 => .array .int
  | 4 => .array .int
  | 5 => .array .long
  | 6 => .int
  | 7 => .array .int
  | 8 => .array .int
  | 9 => .array .int
  | 10 => .array .int
  | 11 => .array .int
  | 12 => .array .int
  | 13 => .int
  | 14 => .long
  | 15 => .int
  | 16 => .array .int
  | 17 => .array .int
  | 18 => .array .long
  | 19 => .array .int
  | 20 => .array .long
  | 21 => .array .int
  | 22 => .int
  | 23 => .array .int
  | 24 => .array .int
  | 25 => .array .int
  | 26 => .int
  | 27 => .array .int
  | 28 => .array .int
  | 29 => .boolean
  | 30 => .array .byte
  | 31 => .int
  | 32 => .long
  | 33 => .int
  | 34 => .array .int
  | 35 => .array .long
  | 36 => .array .int
  | 37 => .array .long
  | 38 => .int
  | 39 => .int
  | 40 => .array .int
  | 41 => .array .int
  | 42 => .array .int
  | 43 => .array .int
  | _ => .array .int
theorem nmX12 : ∀ a, a < 45 → ∀ b, b < 45 → a ≠ b → (TX12 a).2.1 ≠ (TX12 b).2.1 := by decide +kernel
theorem tyX12_ok : ∀ k, k < 45 → parseFieldDescriptor (TX12 k).2.2.1 = some (tyX12 k) := by decide +kernel
abbrev cX12_init : ByteArray := prog_14_method_1_code
def yX12_init : MethodName := ⟨RX12, "<init>", "()V"⟩
abbrev cX12_in : ByteArray := prog_14_method_3_code
def yX12_in : MethodName := ⟨RX12, "in", "(JJJ)Z"⟩
abbrev cX12_has : ByteArray := prog_14_method_4_code
def yX12_has : MethodName := ⟨RX12, "has", "(II)Z"⟩
abbrev cX12_widens : ByteArray := prog_14_method_5_code
def yX12_widens : MethodName := ⟨RX12, "widens", "(II)Z"⟩
abbrev cX12_rounded : ByteArray := prog_14_method_6_code
def yX12_rounded : MethodName := ⟨RX12, "rounded", "(JI)J"⟩
abbrev cX12_as : ByteArray := prog_14_method_7_code
def yX12_as : MethodName := ⟨RX12, "as", "(IJ)J"⟩
abbrev cX12_isOf : ByteArray := prog_14_method_8_code
def yX12_isOf : MethodName := ⟨RX12, "isOf", "(IJ)Z"⟩
abbrev cX12_isBank : ByteArray := prog_14_method_9_code
def yX12_isBank : MethodName := ⟨RX12, "isBank", "(I)Z"⟩
abbrev cX12_isView : ByteArray := prog_14_method_10_code
def yX12_isView : MethodName := ⟨RX12, "isView", "(I)Z"⟩
abbrev cX12_bank : ByteArray := prog_14_method_11_code
def yX12_bank : MethodName := ⟨RX12, "bank", "(II)I"⟩
abbrev cX12_view : ByteArray := prog_14_method_12_code
def yX12_view : MethodName := ⟨RX12, "view", "(IIIII)I"⟩
abbrev cX12_clear : ByteArray := prog_14_method_13_code
def yX12_clear : MethodName := ⟨RX12, "clear", "()I"⟩
abbrev cX12_bankOf : ByteArray := prog_14_method_14_code
def yX12_bankOf : MethodName := ⟨RX12, "bankOf", "(I)I"⟩
abbrev cX12_placeIn : ByteArray := prog_14_method_15_code
def yX12_placeIn : MethodName := ⟨RX12, "placeIn", "(II)I"⟩
abbrev cX12_under : ByteArray := prog_14_method_16_code
def yX12_under : MethodName := ⟨RX12, "under", "(II)I"⟩
abbrev cX12_taken : ByteArray := prog_14_method_17_code
def yX12_taken : MethodName := ⟨RX12, "taken", "(II)I"⟩
abbrev cX12_comes : ByteArray := prog_14_method_18_code
def yX12_comes : MethodName := ⟨RX12, "comes", "(II)I"⟩
abbrev cX12_refusedBy : ByteArray := prog_14_method_19_code
def yX12_refusedBy : MethodName := ⟨RX12, "refusedBy", "(I)I"⟩
abbrev cX12_isCell : ByteArray := prog_14_method_20_code
def yX12_isCell : MethodName := ⟨RX12, "isCell", "(II)Z"⟩
abbrev cX12_fetch : ByteArray := prog_14_method_21_code
def yX12_fetch : MethodName := ⟨RX12, "fetch", "(III)I"⟩
abbrev cX12_read : ByteArray := prog_14_method_22_code
def yX12_read : MethodName := ⟨RX12, "read", "(II)I"⟩
abbrev cX12_sink : ByteArray := prog_14_method_23_code
def yX12_sink : MethodName := ⟨RX12, "sink", "(III)I"⟩
abbrev cX12_write : ByteArray := prog_14_method_24_code
def yX12_write : MethodName := ⟨RX12, "write", "(III)I"⟩
abbrev cX12_put : ByteArray := prog_14_method_25_code
def yX12_put : MethodName := ⟨RX12, "put", "(I)V"⟩
abbrev cX12_copy : ByteArray := prog_14_method_26_code
def yX12_copy : MethodName := ⟨RX12, "copy", "([I[JI)V"⟩
abbrev cX12_copyBack : ByteArray := prog_14_method_27_code
def yX12_copyBack : MethodName := ⟨RX12, "copyBack", "([I[JII)V"⟩
abbrev cX12_know : ByteArray := prog_14_method_28_code
def yX12_know : MethodName := ⟨RX12, "know", "()V"⟩
abbrev cX12_tell : ByteArray := prog_14_method_29_code
def yX12_tell : MethodName := ⟨RX12, "tell", "()V"⟩
abbrev cX12_reads : ByteArray := prog_14_method_30_code
def yX12_reads : MethodName := ⟨RX12, "reads", "(II)I"⟩
abbrev cX12_looks : ByteArray := prog_14_method_31_code
def yX12_looks : MethodName := ⟨RX12, "looks", "(II)I"⟩
abbrev cX12_number : ByteArray := prog_14_method_32_code
def yX12_number : MethodName := ⟨RX12, "number", "()J"⟩
abbrev cX12_kind : ByteArray := prog_14_method_33_code
def yX12_kind : MethodName := ⟨RX12, "kind", "()I"⟩
abbrev cX12_isThing : ByteArray := prog_14_method_34_code
def yX12_isThing : MethodName := ⟨RX12, "isThing", "(IIJ)Z"⟩
abbrev cX12_writes : ByteArray := prog_14_method_35_code
def yX12_writes : MethodName := ⟨RX12, "writes", "(IIIIJ)I"⟩
abbrev cX12_summed : ByteArray := prog_14_method_36_code
def yX12_summed : MethodName := ⟨RX12, "summed", "()I"⟩
abbrev cX12_reckoned : ByteArray := prog_14_method_37_code
def yX12_reckoned : MethodName := ⟨RX12, "reckoned", "(IIJJ)J"⟩
abbrev cX12_goes : ByteArray := prog_14_method_38_code
def yX12_goes : MethodName := ⟨RX12, "goes", "(IIIIIZ)I"⟩
abbrev cX12_ends : ByteArray := prog_14_method_39_code
def yX12_ends : MethodName := ⟨RX12, "ends", "(IIIZ)I"⟩
abbrev cX12_swaps : ByteArray := prog_14_method_40_code
def yX12_swaps : MethodName := ⟨RX12, "swaps", "(IIIIIJZ)I"⟩
abbrev cX12_does : ByteArray := prog_14_method_41_code
def yX12_does : MethodName := ⟨RX12, "does", "(IIIII)I"⟩
abbrev cX12_lesser : ByteArray := prog_14_method_42_code
def yX12_lesser : MethodName := ⟨RX12, "lesser", "(II)I"⟩
abbrev cX12_copiesAll : ByteArray := prog_14_method_43_code
def yX12_copiesAll : MethodName := ⟨RX12, "copiesAll", "(III)I"⟩
abbrev cX12_copies : ByteArray := prog_14_method_44_code
def yX12_copies : MethodName := ⟨RX12, "copies", "(III)I"⟩
abbrev cX12_undo : ByteArray := prog_14_method_45_code
def yX12_undo : MethodName := ⟨RX12, "undo", "()I"⟩
abbrev cX12_open : ByteArray := prog_14_method_46_code
def yX12_open : MethodName := ⟨RX12, "open", "()I"⟩
abbrev cX12_isLine : ByteArray := prog_14_method_47_code
def yX12_isLine : MethodName := ⟨RX12, "isLine", "(IIIII)Z"⟩
abbrev cX12_plans : ByteArray := prog_14_method_48_code
def yX12_plans : MethodName := ⟨RX12, "plans", "(IIIII)I"⟩
abbrev cX12_drops : ByteArray := prog_14_method_49_code
def yX12_drops : MethodName := ⟨RX12, "drops", "()I"⟩
abbrev cX12_modes : ByteArray := prog_14_method_50_code
def yX12_modes : MethodName := ⟨RX12, "modes", "(II)I"⟩
abbrev cX12_refusalOf : ByteArray := prog_14_method_51_code
def yX12_refusalOf : MethodName := ⟨RX12, "refusalOf", "(I)I"⟩
abbrev cX12_placeNow : ByteArray := prog_14_method_52_code
def yX12_placeNow : MethodName := ⟨RX12, "placeNow", "(I)I"⟩
abbrev cX12_behind : ByteArray := prog_14_method_53_code
def yX12_behind : MethodName := ⟨RX12, "behind", "(I)I"⟩
abbrev cX12_isStep : ByteArray := prog_14_method_54_code
def yX12_isStep : MethodName := ⟨RX12, "isStep", "()Z"⟩
abbrev cX12_goesNow : ByteArray := prog_14_method_55_code
def yX12_goesNow : MethodName := ⟨RX12, "goesNow", "(Z)I"⟩
abbrev cX12_leaves : ByteArray := prog_14_method_56_code
def yX12_leaves : MethodName := ⟨RX12, "leaves", "()V"⟩
abbrev cX12_runsAll : ByteArray := prog_14_method_57_code
def yX12_runsAll : MethodName := ⟨RX12, "runsAll", "()I"⟩
abbrev cX12_runs : ByteArray := prog_14_method_58_code
def yX12_runs : MethodName := ⟨RX12, "runs", "()I"⟩
abbrev cX12_line : ByteArray := prog_14_method_59_code
def yX12_line : MethodName := ⟨RX12, "line", "(II)I"⟩
abbrev cX12_met : ByteArray := prog_14_method_60_code
def yX12_met : MethodName := ⟨RX12, "met", "(I)I"⟩
abbrev cX12_forecast : ByteArray := prog_14_method_61_code
def yX12_forecast : MethodName := ⟨RX12, "forecast", "(I)I"⟩
abbrev cX12_cellAt : ByteArray := prog_14_method_62_code
def yX12_cellAt : MethodName := ⟨RX12, "cellAt", "(II)I"⟩
abbrev cX12_cellOf : ByteArray := prog_14_method_63_code
def yX12_cellOf : MethodName := ⟨RX12, "cellOf", "(IZ)I"⟩
abbrev cX12_touches : ByteArray := prog_14_method_64_code
def yX12_touches : MethodName := ⟨RX12, "touches", "(II)Z"⟩
abbrev cX12_clash : ByteArray := prog_14_method_65_code
def yX12_clash : MethodName := ⟨RX12, "clash", "(II)Z"⟩
abbrev cX12_isPlain : ByteArray := prog_14_method_66_code
def yX12_isPlain : MethodName := ⟨RX12, "isPlain", "()Z"⟩
abbrev cX12_waves : ByteArray := prog_14_method_67_code
def yX12_waves : MethodName := ⟨RX12, "waves", "()V"⟩
abbrev cX12_wave : ByteArray := prog_14_method_68_code
def yX12_wave : MethodName := ⟨RX12, "wave", "(I)I"⟩
abbrev cX12_reorders : ByteArray := prog_14_method_69_code
def yX12_reorders : MethodName := ⟨RX12, "reorders", "()I"⟩
abbrev cX12_joins : ByteArray := prog_14_method_70_code
def yX12_joins : MethodName := ⟨RX12, "joins", "(II)I"⟩
abbrev cX12_would : ByteArray := prog_14_method_71_code
def yX12_would : MethodName := ⟨RX12, "would", "(III)I"⟩
abbrev cX12_shares : ByteArray := prog_14_method_72_code
def yX12_shares : MethodName := ⟨RX12, "shares", "(II)I"⟩
abbrev cX12_areOne : ByteArray := prog_14_method_73_code
def yX12_areOne : MethodName := ⟨RX12, "areOne", "(IIII)Z"⟩
abbrev cX12_safe : ByteArray := prog_14_method_74_code
def yX12_safe : MethodName := ⟨RX12, "safe", "(II)I"⟩
abbrev cX12_came : ByteArray := prog_14_method_75_code
def yX12_came : MethodName := ⟨RX12, "came", "(II)I"⟩
abbrev cX12_sees : ByteArray := prog_14_method_76_code
def yX12_sees : MethodName := ⟨RX12, "sees", "(II)I"⟩
abbrev cX12_forget : ByteArray := prog_14_method_77_code
def yX12_forget : MethodName := ⟨RX12, "forget", "()I"⟩
abbrev cX12_left : ByteArray := prog_14_method_78_code
def yX12_left : MethodName := ⟨RX12, "left", "()I"⟩
abbrev cX12_ones : ByteArray := prog_14_method_79_code
def yX12_ones : MethodName := ⟨RX12, "ones", "(I)I"⟩
abbrev cX12_unseen : ByteArray := prog_14_method_80_code
def yX12_unseen : MethodName := ⟨RX12, "unseen", "(I)I"⟩
abbrev cX12_worstBehind : ByteArray := prog_14_method_81_code
def yX12_worstBehind : MethodName := ⟨RX12, "worstBehind", "(II)I"⟩
abbrev cX12_fewestOf : ByteArray := prog_14_method_82_code
def yX12_fewestOf : MethodName := ⟨RX12, "fewestOf", "(I)I"⟩
abbrev cX12_part : ByteArray := prog_14_method_83_code
def yX12_part : MethodName := ⟨RX12, "part", "()V"⟩
abbrev cX12_fewest : ByteArray := prog_14_method_84_code
def yX12_fewest : MethodName := ⟨RX12, "fewest", "(I)I"⟩
abbrev cX12_keep : ByteArray := prog_14_method_85_code
def yX12_keep : MethodName := ⟨RX12, "keep", "(I)I"⟩
abbrev cX12_back : ByteArray := prog_14_method_86_code
def yX12_back : MethodName := ⟨RX12, "back", "(I)I"⟩
abbrev cX12_count : ByteArray := prog_14_method_87_code
def yX12_count : MethodName := ⟨RX12, "count", "(I)I"⟩
def RJ6 : String := "java/lang/Integer"
def TJ6 : u_T := fun k => match k with
  | _ => ("", "", "", false)
def tyJ6 : Nat → FieldType := fun k => match k with
  | _ => .int
theorem nmJ6 : ∀ a, a < 0 → ∀ b, b < 0 → a ≠ b → (TJ6 a).2.1 ≠ (TJ6 b).2.1 := by decide +kernel
theorem tyJ6_ok : ∀ k, k < 0 → parseFieldDescriptor (TJ6 k).2.2.1 = some (tyJ6 k) := by decide +kernel
abbrev cJ6_bitCount_0f7a4 : ByteArray := prog_15_method_49_code
def yJ6_bitCount_0f7a4 : MethodName := ⟨RJ6, "bitCount", "(I)I"⟩
def RJ9 : String := "java/lang/Math"
def TJ9 : u_T := fun k => match k with
  | _ => ("", "", "", false)
def tyJ9 : Nat → FieldType := fun k => match k with
  | _ => .int
theorem nmJ9 : ∀ a, a < 0 → ∀ b, b < 0 → a ≠ b → (TJ9 a).2.1 ≠ (TJ9 b).2.1 := by decide +kernel
theorem tyJ9_ok : ∀ k, k < 0 → parseFieldDescriptor (TJ9 k).2.2.1 = some (tyJ9 k) := by decide +kernel
abbrev cJ9_abs_067f4 : ByteArray := prog_16_method_61_code
def yJ9_abs_067f4 : MethodName := ⟨RJ9, "abs", "(J)J"⟩
abbrev cJ9_max_7cf53 : ByteArray := prog_16_method_65_code
def yJ9_max_7cf53 : MethodName := ⟨RJ9, "max", "(II)I"⟩
abbrev cJ9_max_f86c9 : ByteArray := prog_16_method_66_code
def yJ9_max_f86c9 : MethodName := ⟨RJ9, "max", "(JJ)J"⟩
abbrev cJ9_min_7cf53 : ByteArray := prog_16_method_69_code
def yJ9_min_7cf53 : MethodName := ⟨RJ9, "min", "(II)I"⟩
def RJ10 : String := "java/lang/System"
def TJ10 : u_T := fun k => match k with
  | _ => ("", "", "", false)
def tyJ10 : Nat → FieldType := fun k => match k with
  | _ => .int
theorem nmJ10 : ∀ a, a < 0 → ∀ b, b < 0 → a ≠ b → (TJ10 a).2.1 ≠ (TJ10 b).2.1 := by decide +kernel
theorem tyJ10_ok : ∀ k, k < 0 → parseFieldDescriptor (TJ10 k).2.2.1 = some (tyJ10 k) := by decide +kernel
def RL : String := "WidenedBanksLaw"
abbrev cL_law : ByteArray := code
def yL_law : MethodName := ⟨RL, "law", "([I)Z"⟩
abbrev vwCl : List vw_C := [(RX0, TX0, 5), (RX1, TX1, 4), (RX2, TX2, 3), (RX4, TX4, 4), (RX5, TX5, 5), (RX6, TX6, 2), (RX7, TX7, 3), (RX8, TX8, 9), (RX9, TX9, 5), (RX10, TX10, 6), (RX11, TX11, 14), (RX12, TX12, 45)]
end
section
/-! THE WORDS that all methods share, by their places in lw_tbl -/
def xTB : List Cond := lw_tbl.filter goodWord
theorem xTB_of {w : Cond} (i : Nat) (h : lw_tbl[i]? = some w) (g : goodWord w = true) : w ∈ xTB := List.mem_filter.mpr ⟨List.mem_of_getElem? h, g⟩
theorem xTB_in : ∀ w ∈ xTB, w ∈ lw_tbl := fun _ h => (List.mem_filter.mp h).1
theorem xTB_good : ∀ w ∈ xTB, goodWord w = true := fun _ h => (List.mem_filter.mp h).2
theorem xGood {cw c0 : Cond} (h : cw ∈ xTB) : GoodIn (c0 :: xTB) (cw :: xTB) := by
  intro w hw
  rcases List.mem_cons.mp hw with rfl | hw
  · exact ⟨List.mem_cons_of_mem _ h, good_of_word (xTB_good _ h)⟩
  · exact ⟨List.mem_cons_of_mem _ hw, good_of_word (xTB_good _ hw)⟩
/-! THE SMALL HEAP: how many cells; of each its kind (0 int[], 1 long[], 2 byte[], 3 Image[], 4 Thing[], 5 + c an object of vwCl's class c) and length; ints, longs, references by cell and place -/
abbrev xHp : Type := Nat × (Nat → Nat × Nat) × (Nat → Nat → Int32) × (Nat → Nat → Int64) × (Nat → Nat → Option Nat)
abbrev xOut : Type := Option Value × xHp
abbrev xZ : Type := Nat × (Nat → Int32)
/-- slots and classes, array classes, the first new address, the addresses of the old arrays (0 to 2 the static ones, 3 the script) -/
abbrev xE : Type := va_G × (Nat → ClassId) × Nat × (Nat → Nat)
/-- own class, code, locals, a constructor?, what it returns (0 nothing, 1 int, 2 long, 3 boolean) -/
abbrev xWt : Type := String × ByteArray × Nat × Bool × Nat
/-- frames, cells, slots that a method may take -/
abbrev xBd : Type := Nat × Nat × Nat
def xA (E : xE) : Nat → Prop := fun q => E.2.2.1 ≤ q
def xad (E : xE) (k : Nat) : Nat := if k < 1000000 then E.2.2.1 + k else E.2.2.2 (k - 1000000)
def xtr (E : xE) : Value → Value
  | .ref k => .ref (xad E k)
  | v => v
def xtys (E : xE) : List (ClassId × FieldType) := [(E.2.1 0, .int), (E.2.1 1, .long), (E.2.1 2, .byte), (E.2.1 3, .object RX2), (E.2.1 4, .object RX6)]
def xu {α : Type} (f : Nat → Nat → α) (a j : Nat) (v : α) : Nat → Nat → α := fun a' j' => if a' = a ∧ j' = j then v else f a' j'
def xftT : List (List Nat) := [[2, 2, 2, 2, 0], [2, 2, 0, 0], [2, 2, 0], [2, 2, 0, 0], [2, 2, 2, 2, 2], [0, 1], [2, 0, 0], [2, 2, 2, 2, 2, 2, 2, 2, 0], [2, 2, 2, 0, 0], [2, 2, 2, 2, 2, 2], [2, 2, 2, 2, 2, 2, 2, 2, 2, 2, 2, 2, 2, 2], [0, 0, 2, 2, 2, 2, 0, 2, 2, 2, 2, 2, 2, 0, 1, 0, 2, 2, 2, 2, 2, 2, 0, 2, 2, 2, 0, 2, 2, 0, 2, 0, 1, 0, 2, 2, 2, 2, 0, 0, 2, 2, 2, 2, 2]]
/-- of class c of vwCl the kind of field k: 0 int (or boolean), 1 long, 2 a reference -/
def xft (c k : Nat) : Nat := (xftT.getD c []).getD k 0
def xfv (E : xE) (H : xHp) (ft : Nat) (a k : Nat) : Value := match ft with
  | 0 => .int (H.2.2.1 a k)
  | 1 => .long (H.2.2.2.1 a k)
  | _ => va_rf ((H.2.2.2.2 a k).map (xad E))
def xce (E : xE) (H : xHp) (a : Nat) : va_E := match (H.2.1 a).1 with
  | 0 => .inl (E.2.1 0, (H.2.1 a).2, .inl (H.2.2.1 a))
  | 1 => .inl (E.2.1 1, (H.2.1 a).2, .inr (.inl (H.2.2.2.1 a)))
  | 2 => .inl (E.2.1 2, (H.2.1 a).2, .inl (H.2.2.1 a))
  | 3 => .inl (E.2.1 3, (H.2.1 a).2, .inr (.inr (.inr (.inr (fun j => (H.2.2.2.2 a j).map (xad E))))))
  | 4 => .inl (E.2.1 4, (H.2.1 a).2, .inr (.inr (.inr (.inr (fun j => (H.2.2.2.2 a j).map (xad E))))))
  | c + 5 => .inr (c, (List.range (H.2.1 a).2).map (fun k => xfv E H (xft c k) a k))
def xws (E : xE) (H : xHp) : va_W := (List.range H.1).map (fun a => (E.2.2.1 + a, xce E H a))
def xPic (E : xE) (H : xHp) (Hh : Heap) : Prop := va_P E.1 vwCl (xws E H) Hh ∧ H.1 ≤ 1000000
def xwid (j : Nat) : Int32 := [1, 250, 244, 248, 240, 224, 192, 128].getD j 0
def xlow (j : Nat) : Int64 := [0, -128, 0, -32768, -2147483648, -1152921504606846976, -1152921504606846976, -1152921504606846976].getD j 0
def xhig (j : Nat) : Int64 := [1, 127, 65535, 32767, 2147483647, 1152921504606846976, 1152921504606846976, 1152921504606846976].getD j 0
def xNW : List Cond := [.methodLinkNest RX11 11 yX0_init RX11, .methodLinkNest RX11 36 yX4_init RX11, .methodLinkNest RX1 17 yX2_init RX11, .methodLinkNest RX11 72 yX2_init RX11]
/-- what stands of the tables and of the old arrays, in a state with a heap -/
def xGl (E : xE) (z : xZ) (U : State) (Hh : Heap) : Prop :=
  va_K E.1 vwCl (xtys E) U ∧ (∀ w ∈ xNW, va_Nw w U) ∧ va_AO RX2 U ∧ va_AO RX6 U ∧
  (va_Z RX3 "WIDENS" "[I" (.ref (E.2.2.2 0)) (xA E) U Hh ∧ va_T .int (E.2.2.2 0) 8 (fun j => .int (xwid j)) (xA E) U Hh) ∧
  (va_Z RX3 "LOWEST" "[J" (.ref (E.2.2.2 1)) (xA E) U Hh ∧ va_T .long (E.2.2.2 1) 8 (fun j => .long (xlow j)) (xA E) U Hh) ∧
  (va_Z RX3 "HIGHEST" "[J" (.ref (E.2.2.2 2)) (xA E) U Hh ∧ va_T .long (E.2.2.2 2) 8 (fun j => .long (xhig j)) (xA E) U Hh) ∧
  (va_X (E.2.2.2 3) z.1 z.2 U Hh ∧ E.2.2.2 3 < E.2.2.1 ∧ E.2.2.2 3 < Hh.size)
theorem xNW_shape {w : Cond} (h : w ∈ xNW) : ∃ a i x b, w = .methodLinkNest a i x b := by
  simp only [xNW, List.mem_cons, List.not_mem_nil, or_false] at h
  rcases h with rfl | rfl | rfl | rfl <;> exact ⟨_, _, _, _, rfl⟩
theorem xGl.warm {E : xE} {z : xZ} {s U : State} {Hh H1 : Heap} (h : xGl E z s Hh) (hW : s.WarmedH U.vm) (hq : ∀ q : Nat, q < Hh.size → ¬ xA E q → H1[q]? = Hh[q]?) (hz : Hh.size ≤ H1.size) : xGl E z U H1 := by
  obtain ⟨h1, h2, h3, h4, ⟨h5, h6⟩, ⟨h7, h8⟩, ⟨h9, h10⟩, h11, h12, h13⟩ := h
  refine ⟨va_K.moved hW.alike h1, fun w hw => ?_, h3.moved hW.alike, h4.moved hW.alike, ⟨(h5.moved hW.alike).kept hq, (h6.moved hW.alike).kept hq⟩, ⟨(h7.moved hW.alike).kept hq, (h8.moved hW.alike).kept hq⟩, ⟨(h9.moved hW.alike).kept hq, (h10.moved hW.alike).kept hq⟩, (h11.moved hW.alike).kept (hq _ h13 (fun h => by simp only [xA] at h; omega)), h12, by omega⟩
  obtain ⟨a, i, x, b, rfl⟩ := xNW_shape hw
  exact (h2 _ hw).warmM hW
theorem xGl.same {E : xE} {z : xZ} {s U : State} {Hh : Heap} (h : xGl E z s Hh) (hv : s.vm = U.vm) : xGl E z U Hh := by
  have ha : s.vm.Alike U.vm := by rw [← hv]; exact Vm.Alike.refl _
  obtain ⟨h1, h2, h3, h4, ⟨h5, h6⟩, ⟨h7, h8⟩, ⟨h9, h10⟩, h11, h12, h13⟩ := h
  refine ⟨va_K.moved ha h1, fun w hw => ?_, h3.moved ha, h4.moved ha, ⟨h5.moved ha, h6.moved ha⟩, ⟨h7.moved ha, h8.moved ha⟩, ⟨h9.moved ha, h10.moved ha⟩, h11.moved ha, h12, h13⟩
  obtain ⟨a, i, x, b, rfl⟩ := xNW_shape hw
  exact (h2 _ hw).same rfl hv
/-! places in the world -/
theorem xws_at {E : xE} {H : xHp} {a : Nat} (h : a < H.1) : (xws E H)[a]? = some (E.2.2.1 + a, xce E H a) := by
  simp [xws, h]
theorem xws_some {E : xE} {H : xHp} {k : Nat} {q : Nat × va_E} (h : (xws E H)[k]? = some q) : k < H.1 ∧ q = (E.2.2.1 + k, xce E H k) := by
  simp only [xws, List.getElem?_map] at h
  by_cases hk : k < H.1
  · rw [List.getElem?_range hk] at h
    exact ⟨hk, (Option.some.inj h).symm⟩
  · rw [List.getElem?_eq_none (by simpa using Nat.le_of_not_lt hk)] at h
    cases h
theorem xws_D {E : xE} {H : xHp} : va_D (xA E) (xws E H) := by
  refine ⟨fun i j p q hi hj h => ?_, fun k q hk => ?_⟩
  · obtain ⟨_, rfl⟩ := xws_some hi
    obtain ⟨_, rfl⟩ := xws_some hj
    simp only at h
    omega
  · obtain ⟨_, rfl⟩ := xws_some hk
    simp only [xA]
    omega
theorem xws_set {E : xE} {H H' : xHp} {a : Nat} {x : va_E} (ha : a < H.1) (hn : H'.1 = H.1) (hx : xce E H' a = x) (ho : ∀ q, q ≠ a → q < H.1 → xce E H' q = xce E H q) : (xws E H).set a (E.2.2.1 + a, x) = xws E H' := by
  apply List.ext_getElem?
  intro i
  by_cases hi : i = a
  · subst hi
    rw [List.getElem?_set_self (by simpa [xws] using ha), xws_at (by rw [hn]; exact ha), hx]
  · rw [List.getElem?_set_ne (Ne.symm hi)]
    by_cases hl : i < H.1
    · rw [xws_at hl, xws_at (by rw [hn]; exact hl), ho i hi hl]
    · rw [List.getElem?_eq_none (by simp [xws]; omega), List.getElem?_eq_none (by simp [xws, hn]; omega)]
theorem xws_push {E : xE} {H H' : xHp} {x : va_E} (hn : H'.1 = H.1 + 1) (hx : xce E H' H.1 = x) (ho : ∀ q, q < H.1 → xce E H' q = xce E H q) : xws E H ++ [(E.2.2.1 + H.1, x)] = xws E H' := by
  apply List.ext_getElem?
  intro i
  by_cases hl : i < H.1
  · rw [List.getElem?_append_left (by simpa [xws] using hl), xws_at hl, xws_at (by omega), ho i hl]
  · rw [List.getElem?_append_right (by simp [xws]; omega)]
    have hlen : (xws E H).length = H.1 := by simp [xws]
    rw [hlen]
    by_cases hi : i = H.1
    · subst hi
      rw [Nat.sub_self, xws_at (by omega), hx]
      rfl
    · rw [List.getElem?_eq_none (by simp; omega), List.getElem?_eq_none (by simp [xws, hn]; omega)]
theorem xad_new {E : xE} {a : Nat} (h : a < 1000000) : xad E a = E.2.2.1 + a := by simp [xad, h]
theorem xtr_ref {E : xE} {a : Nat} (h : a < 1000000) : xtr E (.ref a) = .ref (E.2.2.1 + a) := by simp [xtr, xad, h]
theorem xtr_rf (E : xE) (r : Option Nat) : xtr E (va_rf r) = va_rf (r.map (xad E)) := by cases r <;> rfl
/-! locals -/
def xpr (E : xE) (L : List (Option Value)) : List (Nat × Value) := L.zipIdx.filterMap (fun q => q.1.map (fun v => (q.2, xtr E v)))
def xcl : Option Value → Option Value
  | some (.long _) => none
  | some (.double _) => none
  | o => o
def xset1 : List (Option Value) → Nat → Value → List (Option Value)
  | [], _, _ => []
  | _ :: t, 0, v => some v :: t
  | a :: t, 1, v => xcl a :: xset1 t 0 v
  | a :: t, i + 2, v => a :: xset1 t (i + 1) v
def xset2 : List (Option Value) → Nat → Value → List (Option Value)
  | [], _, _ => []
  | [_], _, _ => []
  | _ :: _ :: t, 0, v => some v :: none :: t
  | a :: b :: t, 1, v => xcl a :: xset2 (b :: t) 0 v
  | a :: b :: t, i + 2, v => a :: xset2 (b :: t) (i + 1) v
def xlv (E : xE) (nL : Nat) (L : List (Option Value)) (ls : Array Slot) : Prop := L.length = nL ∧ lv_has ls nL (xpr E L)
theorem xpr_mem {E : xE} {L : List (Option Value)} {i : Nat} {w : Value} : (i, w) ∈ xpr E L ↔ ∃ v, L[i]? = some (some v) ∧ w = xtr E v := by
  simp only [xpr, List.mem_filterMap, Option.map_eq_some_iff, Prod.mk.injEq]
  constructor
  · rintro ⟨⟨o, j⟩, hm, v, hv, rfl, rfl⟩
    have := List.mem_zipIdx_iff_getElem?.mp hm
    simp only at this hv
    exact ⟨v, by rw [this, hv], rfl⟩
  · rintro ⟨v, hv, rfl⟩
    exact ⟨(some v, i), List.mem_zipIdx_iff_getElem?.mpr hv, v, rfl, rfl, rfl⟩
theorem xlv_at {E : xE} {nL i : Nat} {L : List (Option Value)} {ls : Array Slot} {v : Value} (h : xlv E nL L ls) (hv : L[i]? = some (some v)) : ls[i]? = some (.val (xtr E v)) := h.2.2.2 (i, xtr E v) (xpr_mem.mpr ⟨v, hv, rfl⟩)
theorem xtr_cat (E : xE) (v : Value) : (xtr E v).category = v.category := by cases v <;> rfl
theorem xcl_some {o : Option Value} {v : Value} (h : xcl o = some v) : o = some v ∧ v.category = 1 := by
  cases o with
  | none => cases h
  | some w => cases w <;> simp_all [xcl, Value.category] <;> subst h <;> rfl
theorem xset1_len : ∀ (L : List (Option Value)) (i : Nat) (v : Value), (xset1 L i v).length = L.length
  | [], _, _ => rfl
  | _ :: t, 0, v => rfl
  | a :: t, 1, v => by simp [xset1, xset1_len t 0 v]
  | a :: t, i + 2, v => by simp [xset1, xset1_len t (i + 1) v]
theorem xset1_get : ∀ (L : List (Option Value)) (i : Nat) (v : Value) (j : Nat) (w : Value), (xset1 L i v)[j]? = some (some w) → (j = i ∧ w = v) ∨ (j ≠ i ∧ L[j]? = some (some w) ∧ (j + 1 = i → w.category = 1))
  | [], i, v, j, w, h => by simp [xset1] at h
  | a :: t, 0, v, j, w, h => by
    cases j with
    | zero => simp [xset1] at h; exact Or.inl ⟨rfl, h.symm⟩
    | succ j => simp only [xset1, List.getElem?_cons_succ] at h ⊢; exact Or.inr ⟨by omega, h, fun e => by omega⟩
  | a :: t, 1, v, j, w, h => by
    cases j with
    | zero =>
      simp only [xset1, List.getElem?_cons_zero, Option.some.injEq] at h ⊢
      obtain ⟨h1, h2⟩ := xcl_some h
      exact Or.inr ⟨by omega, by rw [h1], fun _ => h2⟩
    | succ j =>
      simp only [xset1, List.getElem?_cons_succ] at h ⊢
      rcases xset1_get t 0 v j w h with ⟨e, hw⟩ | ⟨e, hw, hc⟩
      · exact Or.inl ⟨by omega, hw⟩
      · exact Or.inr ⟨by omega, hw, fun e2 => by omega⟩
  | a :: t, i + 2, v, j, w, h => by
    cases j with
    | zero => simp only [xset1, List.getElem?_cons_zero] at h ⊢; exact Or.inr ⟨by omega, h, fun e => by omega⟩
    | succ j =>
      simp only [xset1, List.getElem?_cons_succ] at h ⊢
      rcases xset1_get t (i + 1) v j w h with ⟨e, hw⟩ | ⟨e, hw, hc⟩
      · exact Or.inl ⟨by omega, hw⟩
      · exact Or.inr ⟨by omega, hw, fun e2 => hc (by omega)⟩
theorem xset2_len : ∀ (L : List (Option Value)) (i : Nat) (v : Value), i + 1 < L.length → (xset2 L i v).length = L.length
  | [], _, _, h => by simp at h
  | [_], _, _, h => by simp at h
  | _ :: _ :: t, 0, v, _ => rfl
  | a :: b :: t, 1, v, h => by simp only [xset2, List.length_cons]; rw [xset2_len (b :: t) 0 v (by simp at h ⊢; omega)]; rfl
  | a :: b :: t, i + 2, v, h => by simp only [xset2, List.length_cons]; rw [xset2_len (b :: t) (i + 1) v (by simp at h ⊢; omega)]; rfl
theorem xset2_get : ∀ (L : List (Option Value)) (i : Nat) (v : Value) (j : Nat) (w : Value), (xset2 L i v)[j]? = some (some w) → (j = i ∧ w = v) ∨ (j ≠ i ∧ j ≠ i + 1 ∧ L[j]? = some (some w) ∧ (j + 1 = i → w.category = 1))
  | [], i, v, j, w, h => by simp [xset2] at h
  | [_], i, v, j, w, h => by simp [xset2] at h
  | a :: b :: t, 0, v, j, w, h => by
    cases j with
    | zero => simp [xset2] at h; exact Or.inl ⟨rfl, h.symm⟩
    | succ j =>
      cases j with
      | zero => simp [xset2] at h
      | succ j => simp only [xset2, List.getElem?_cons_succ] at h ⊢; exact Or.inr ⟨by omega, by omega, h, fun e => by omega⟩
  | a :: b :: t, 1, v, j, w, h => by
    cases j with
    | zero =>
      simp only [xset2, List.getElem?_cons_zero, Option.some.injEq] at h ⊢
      obtain ⟨h1, h2⟩ := xcl_some h
      exact Or.inr ⟨by omega, by omega, by rw [h1], fun _ => h2⟩
    | succ j =>
      rw [xset2, List.getElem?_cons_succ] at h
      rw [List.getElem?_cons_succ]
      rcases xset2_get (b :: t) 0 v j w h with ⟨e, hw⟩ | ⟨e, e', hw, hc⟩
      · exact Or.inl ⟨by omega, hw⟩
      · exact Or.inr ⟨by omega, by omega, hw, fun e2 => by omega⟩
  | a :: b :: t, i + 2, v, j, w, h => by
    cases j with
    | zero => simp only [xset2, List.getElem?_cons_zero] at h ⊢; exact Or.inr ⟨by omega, by omega, h, fun e => by omega⟩
    | succ j =>
      rw [xset2, List.getElem?_cons_succ] at h
      rw [List.getElem?_cons_succ]
      rcases xset2_get (b :: t) (i + 1) v j w h with ⟨e, hw⟩ | ⟨e, e', hw, hc⟩
      · exact Or.inl ⟨by omega, hw⟩
      · exact Or.inr ⟨by omega, by omega, hw, fun e2 => hc (by omega)⟩
theorem xlv_set1 {E : xE} {nL i : Nat} {L : List (Option Value)} {ls' : Array Slot} {v : Value} (hl : L.length = nL)
    (h : lv_has ls' nL ((i, xtr E v) :: (xpr E L).filter (fun q => !(q.1 == i) && !(q.1 + 1 == i && q.2.category == 2)))) : xlv E nL (xset1 L i v) ls' := by
  refine ⟨by rw [xset1_len, hl], h.1, h.2.1, fun q hq => ?_⟩
  obtain ⟨j, w⟩ := q
  obtain ⟨u, hu, rfl⟩ := xpr_mem.mp hq
  rcases xset1_get L i v j u hu with ⟨rfl, rfl⟩ | ⟨e, hw, hc⟩
  · exact h.2.2 _ List.mem_cons_self
  · refine h.2.2 _ (List.mem_cons_of_mem _ (List.mem_filter.mpr ⟨xpr_mem.mpr ⟨u, hw, rfl⟩, ?_⟩))
    simp only [xtr_cat]
    by_cases e2 : j + 1 = i
    · simp [e, hc e2]
    · simp [e, e2]
theorem xlv_set2 {E : xE} {nL i : Nat} {L : List (Option Value)} {ls' : Array Slot} {v : Value} (hl : L.length = nL) (hi : i + 1 < nL)
    (h : lv_has ls' nL ((i, xtr E v) :: (xpr E L).filter (fun q => !(q.1 == i) && (!(q.1 == i + 1) && !(q.1 + 1 == i && q.2.category == 2))))) : xlv E nL (xset2 L i v) ls' := by
  refine ⟨by rw [xset2_len _ _ _ (by omega), hl], h.1, h.2.1, fun q hq => ?_⟩
  obtain ⟨j, w⟩ := q
  obtain ⟨u, hu, rfl⟩ := xpr_mem.mp hq
  rcases xset2_get L i v j u hu with ⟨rfl, rfl⟩ | ⟨e, e', hw, hc⟩
  · exact h.2.2 _ List.mem_cons_self
  · refine h.2.2 _ (List.mem_cons_of_mem _ (List.mem_filter.mpr ⟨xpr_mem.mpr ⟨u, hw, rfl⟩, ?_⟩))
    simp only [xtr_cat]
    by_cases e2 : j + 1 = i
    · simp [e, e', hc e2]
    · simp [e, e', e2]
end
section
/-- the machine's facts within a method -/
def xCx (p : Program) (R : Room) (s : State) (m : MethodId) (args : Array Value) (meth : Method) (c : Code) (E : xE) (z : xZ) (w : xWt) (b : xBd) : Prop :=
  p.tables.exec = Jvm.exec ∧ c.code = w.2.1 ∧ c.maxLocals = w.2.2.1 ∧ s.vm.findClass w.1 = some m.cls ∧ (∀ t ∈ xTB, t.before args s = true) ∧ xGl E z s s.heap ∧ E.2.2.1 ≤ s.heap.size ∧ (w.2.2.2.1 = true → meth.name = "<init>") ∧
  b.1 ≤ R.frames ∧ 100 * b.1 ≤ R.locals ∧ b.2.1 ≤ R.cells ∧ b.2.2 ≤ R.slots
/-- the heap of the machine shows the small heap; nothing old has changed; so many cells are new since the method began -/
def xRel (E : xE) (H0 : Heap) (H : xHp) (k : Nat) (Hh : Heap) (locs : List Loc) : Prop := xPic E H Hh ∧ va_S (xA E) H0 Hh locs ∧ H0.size + k = E.2.2.1 + H.1
/-- the instruction at pc returns this -/
def xrt (w : xWt) (pc : Nat) (v : Option Value) : Prop := match w.2.2.2.2, v with
  | 0, none => decode w.2.1 pc = .ok (.return_, 1)
  | 1, some (.int _) => decode w.2.1 pc = .ok (.ireturn, 1)
  | 2, some (.long _) => decode w.2.1 pc = .ok (.lreturn, 1)
  | 3, some (.int x) => decode w.2.1 pc = .ok (.ireturn, 1) ∧ (x = 0 ∨ x = 1)
  | _, _ => False
/-- the goal at a method's return -/
def xEnd (p : Program) (l : Launch) (e : Env) (R : Room) (s : State) (m : MethodId) (args : Array Value) (below : List Frame) (meth : Method) (c : Code) (E : xE) (w : xWt) (b : xBd) (o : xOut) (Q : State → Prop) : Prop :=
  ∀ (q : Nat) (pc : Nat) (ls : Array Slot) (Hh : Heap) (locs : List Loc), q ≤ b.2.2 → xRel E s.heap o.2 b.2.1 Hh locs → xrt w pc o.1 → W p l e R s m args below meth c Hh locs b.2.1 q Q (F0 m pc ls ((o.1.map (xtr E)).toList))
/-- THE JUDGEMENT: from here (k cells, q slots new so far; at pc with locals L, stack S, heap H) the method returns with o -/
def xR (w : xWt) (b : xBd) (z : xZ) (k q pc : Nat) (L : List (Option Value)) (S : List Value) (H : xHp) (o : xOut) : Prop :=
  ∀ (p : Program) (l : Launch) (e : Env) (R : Room) (s : State) (m : MethodId) (args : Array Value) (below : List Frame) (meth : Method) (c : Code) (E : xE) (Q : State → Prop) (Hh : Heap) (locs : List Loc) (ls : Array Slot),
    xCx p R s m args meth c E z w b → xEnd p l e R s m args below meth c E w b o Q → xRel E s.heap H k Hh locs → xlv E w.2.2.1 L ls →
    W p l e R s m args below meth c Hh locs k q Q (F0 m pc ls (S.map (xtr E)))
section XR
variable {w : xWt} {b : xBd} {z : xZ} {k q pc pc' : Nat} {L L' : List (Option Value)} {S : List Value} {H H' : xHp} {o : xOut}
theorem x_iadd {x y : Int32} (hd : decode w.2.1 pc = .ok (.iadd, 1))  (hp : pc + 1 = pc') (kk : xR w b z k q pc' L (.int (x + y) :: S) H o) : xR w b z k q pc L (.int y :: .int x :: S) H o := by
  intro p l e R s m args below meth c E Q Hh locs ls hC hE hR hL
  subst hp
  exact lv_iadd hC.1 hC.2.1 hd  (kk p l e R s m args below meth c E Q Hh locs ls hC hE hR hL)
theorem x_isub {x y : Int32} (hd : decode w.2.1 pc = .ok (.isub, 1))  (hp : pc + 1 = pc') (kk : xR w b z k q pc' L (.int (x - y) :: S) H o) : xR w b z k q pc L (.int y :: .int x :: S) H o := by
  intro p l e R s m args below meth c E Q Hh locs ls hC hE hR hL
  subst hp
  exact lv_isub hC.1 hC.2.1 hd  (kk p l e R s m args below meth c E Q Hh locs ls hC hE hR hL)
theorem x_imul {x y : Int32} (hd : decode w.2.1 pc = .ok (.imul, 1))  (hp : pc + 1 = pc') (kk : xR w b z k q pc' L (.int (x * y) :: S) H o) : xR w b z k q pc L (.int y :: .int x :: S) H o := by
  intro p l e R s m args below meth c E Q Hh locs ls hC hE hR hL
  subst hp
  exact lv_imul hC.1 hC.2.1 hd  (kk p l e R s m args below meth c E Q Hh locs ls hC hE hR hL)
theorem x_iand {x y : Int32} (hd : decode w.2.1 pc = .ok (.iand, 1))  (hp : pc + 1 = pc') (kk : xR w b z k q pc' L (.int (x &&& y) :: S) H o) : xR w b z k q pc L (.int y :: .int x :: S) H o := by
  intro p l e R s m args below meth c E Q Hh locs ls hC hE hR hL
  subst hp
  exact lv_iand hC.1 hC.2.1 hd  (kk p l e R s m args below meth c E Q Hh locs ls hC hE hR hL)
theorem x_ior {x y : Int32} (hd : decode w.2.1 pc = .ok (.ior, 1))  (hp : pc + 1 = pc') (kk : xR w b z k q pc' L (.int (x ||| y) :: S) H o) : xR w b z k q pc L (.int y :: .int x :: S) H o := by
  intro p l e R s m args below meth c E Q Hh locs ls hC hE hR hL
  subst hp
  exact lv_ior hC.1 hC.2.1 hd  (kk p l e R s m args below meth c E Q Hh locs ls hC hE hR hL)
theorem x_ixor {x y : Int32} (hd : decode w.2.1 pc = .ok (.ixor, 1))  (hp : pc + 1 = pc') (kk : xR w b z k q pc' L (.int (x ^^^ y) :: S) H o) : xR w b z k q pc L (.int y :: .int x :: S) H o := by
  intro p l e R s m args below meth c E Q Hh locs ls hC hE hR hL
  subst hp
  exact lv_ixor hC.1 hC.2.1 hd  (kk p l e R s m args below meth c E Q Hh locs ls hC hE hR hL)
theorem x_ishl {x y : Int32} (hd : decode w.2.1 pc = .ok (.ishl, 1))  (hp : pc + 1 = pc') (kk : xR w b z k q pc' L (.int (x <<< (y &&& 31)) :: S) H o) : xR w b z k q pc L (.int y :: .int x :: S) H o := by
  intro p l e R s m args below meth c E Q Hh locs ls hC hE hR hL
  subst hp
  exact lv_ishl hC.1 hC.2.1 hd  (kk p l e R s m args below meth c E Q Hh locs ls hC hE hR hL)
theorem x_ishr {x y : Int32} (hd : decode w.2.1 pc = .ok (.ishr, 1))  (hp : pc + 1 = pc') (kk : xR w b z k q pc' L (.int (x >>> (y &&& 31)) :: S) H o) : xR w b z k q pc L (.int y :: .int x :: S) H o := by
  intro p l e R s m args below meth c E Q Hh locs ls hC hE hR hL
  subst hp
  exact lv_ishr hC.1 hC.2.1 hd  (kk p l e R s m args below meth c E Q Hh locs ls hC hE hR hL)
theorem x_irem {x y : Int32} (hd : decode w.2.1 pc = .ok (.irem, 1)) (hne : ¬ y = 0) (hp : pc + 1 = pc') (kk : xR w b z k q pc' L (.int (x - x / y * y) :: S) H o) : xR w b z k q pc L (.int y :: .int x :: S) H o := by
  intro p l e R s m args below meth c E Q Hh locs ls hC hE hR hL
  subst hp
  exact lv_irem hC.1 hC.2.1 hd hne (kk p l e R s m args below meth c E Q Hh locs ls hC hE hR hL)
theorem x_iushr {x y : Int32} (hd : decode w.2.1 pc = .ok (.iushr, 1))  (hp : pc + 1 = pc') (kk : xR w b z k q pc' L (.int ((x.toUInt32 >>> (y.toUInt32 &&& Int32.toUInt32 31)).toInt32) :: S) H o) : xR w b z k q pc L (.int y :: .int x :: S) H o := by
  intro p l e R s m args below meth c E Q Hh locs ls hC hE hR hL
  subst hp
  exact lv_iushr hC.1 hC.2.1 hd rfl (kk p l e R s m args below meth c E Q Hh locs ls hC hE hR hL)
theorem x_ladd {x y : Int64} (hd : decode w.2.1 pc = .ok (.ladd, 1))  (hp : pc + 1 = pc') (kk : xR w b z k q pc' L (.long (x + y) :: S) H o) : xR w b z k q pc L (.long y :: .long x :: S) H o := by
  intro p l e R s m args below meth c E Q Hh locs ls hC hE hR hL
  subst hp
  exact lv_ladd hC.1 hC.2.1 hd  (kk p l e R s m args below meth c E Q Hh locs ls hC hE hR hL)
theorem x_lsub {x y : Int64} (hd : decode w.2.1 pc = .ok (.lsub, 1))  (hp : pc + 1 = pc') (kk : xR w b z k q pc' L (.long (x - y) :: S) H o) : xR w b z k q pc L (.long y :: .long x :: S) H o := by
  intro p l e R s m args below meth c E Q Hh locs ls hC hE hR hL
  subst hp
  exact lv_lsub hC.1 hC.2.1 hd  (kk p l e R s m args below meth c E Q Hh locs ls hC hE hR hL)
theorem x_lmul {x y : Int64} (hd : decode w.2.1 pc = .ok (.lmul, 1))  (hp : pc + 1 = pc') (kk : xR w b z k q pc' L (.long (x * y) :: S) H o) : xR w b z k q pc L (.long y :: .long x :: S) H o := by
  intro p l e R s m args below meth c E Q Hh locs ls hC hE hR hL
  subst hp
  exact lv_lmul hC.1 hC.2.1 hd  (kk p l e R s m args below meth c E Q Hh locs ls hC hE hR hL)
theorem x_land {x y : Int64} (hd : decode w.2.1 pc = .ok (.land, 1))  (hp : pc + 1 = pc') (kk : xR w b z k q pc' L (.long (x &&& y) :: S) H o) : xR w b z k q pc L (.long y :: .long x :: S) H o := by
  intro p l e R s m args below meth c E Q Hh locs ls hC hE hR hL
  subst hp
  exact lv_land hC.1 hC.2.1 hd  (kk p l e R s m args below meth c E Q Hh locs ls hC hE hR hL)
theorem x_lor {x y : Int64} (hd : decode w.2.1 pc = .ok (.lor, 1))  (hp : pc + 1 = pc') (kk : xR w b z k q pc' L (.long (x ||| y) :: S) H o) : xR w b z k q pc L (.long y :: .long x :: S) H o := by
  intro p l e R s m args below meth c E Q Hh locs ls hC hE hR hL
  subst hp
  exact lv_lor hC.1 hC.2.1 hd  (kk p l e R s m args below meth c E Q Hh locs ls hC hE hR hL)
theorem x_ldiv {x y : Int64} (hd : decode w.2.1 pc = .ok (.ldiv, 1)) (hne : ¬ y = 0) (hp : pc + 1 = pc') (kk : xR w b z k q pc' L (.long (x / y) :: S) H o) : xR w b z k q pc L (.long y :: .long x :: S) H o := by
  intro p l e R s m args below meth c E Q Hh locs ls hC hE hR hL
  subst hp
  exact lv_ldiv hC.1 hC.2.1 hd hne (kk p l e R s m args below meth c E Q Hh locs ls hC hE hR hL)
theorem x_lrem {x y : Int64} (hd : decode w.2.1 pc = .ok (.lrem, 1)) (hne : ¬ y = 0) (hp : pc + 1 = pc') (kk : xR w b z k q pc' L (.long (x - x / y * y) :: S) H o) : xR w b z k q pc L (.long y :: .long x :: S) H o := by
  intro p l e R s m args below meth c E Q Hh locs ls hC hE hR hL
  subst hp
  exact lv_lrem hC.1 hC.2.1 hd hne (kk p l e R s m args below meth c E Q Hh locs ls hC hE hR hL)
theorem x_lneg {x : Int64} (hd : decode w.2.1 pc = .ok (.lneg, 1))  (hp : pc + 1 = pc') (kk : xR w b z k q pc' L (.long (-x) :: S) H o) : xR w b z k q pc L (.long x :: S) H o := by
  intro p l e R s m args below meth c E Q Hh locs ls hC hE hR hL
  subst hp
  exact lv_lneg hC.1 hC.2.1 hd  (kk p l e R s m args below meth c E Q Hh locs ls hC hE hR hL)
theorem x_lshl {x : Int64} {y : Int32} (hd : decode w.2.1 pc = .ok (.lshl, 1))  (hp : pc + 1 = pc') (kk : xR w b z k q pc' L (.long (x <<< (y.toInt64 &&& 63)) :: S) H o) : xR w b z k q pc L (.int y :: .long x :: S) H o := by
  intro p l e R s m args below meth c E Q Hh locs ls hC hE hR hL
  subst hp
  exact lv_lshl hC.1 hC.2.1 hd rfl (kk p l e R s m args below meth c E Q Hh locs ls hC hE hR hL)
theorem x_lshr {x : Int64} {y : Int32} (hd : decode w.2.1 pc = .ok (.lshr, 1))  (hp : pc + 1 = pc') (kk : xR w b z k q pc' L (.long (x >>> (y.toInt64 &&& 63)) :: S) H o) : xR w b z k q pc L (.int y :: .long x :: S) H o := by
  intro p l e R s m args below meth c E Q Hh locs ls hC hE hR hL
  subst hp
  exact lv_lshr hC.1 hC.2.1 hd rfl (kk p l e R s m args below meth c E Q Hh locs ls hC hE hR hL)
theorem x_i2l {x : Int32} (hd : decode w.2.1 pc = .ok (.i2l, 1))  (hp : pc + 1 = pc') (kk : xR w b z k q pc' L (.long x.toInt64 :: S) H o) : xR w b z k q pc L (.int x :: S) H o := by
  intro p l e R s m args below meth c E Q Hh locs ls hC hE hR hL
  subst hp
  exact lv_i2l hC.1 hC.2.1 hd rfl (kk p l e R s m args below meth c E Q Hh locs ls hC hE hR hL)
theorem x_l2i {x : Int64} (hd : decode w.2.1 pc = .ok (.l2i, 1))  (hp : pc + 1 = pc') (kk : xR w b z k q pc' L (.int x.toInt32 :: S) H o) : xR w b z k q pc L (.long x :: S) H o := by
  intro p l e R s m args below meth c E Q Hh locs ls hC hE hR hL
  subst hp
  exact lv_l2i hC.1 hC.2.1 hd rfl (kk p l e R s m args below meth c E Q Hh locs ls hC hE hR hL)
theorem x_i2b {x : Int32} (hd : decode w.2.1 pc = .ok (.i2b, 1))  (hp : pc + 1 = pc') (kk : xR w b z k q pc' L (.int x.toInt8.toInt32 :: S) H o) : xR w b z k q pc L (.int x :: S) H o := by
  intro p l e R s m args below meth c E Q Hh locs ls hC hE hR hL
  subst hp
  exact lv_i2b hC.1 hC.2.1 hd rfl (kk p l e R s m args below meth c E Q Hh locs ls hC hE hR hL)
theorem x_lcmp {x y : Int64} (hd : decode w.2.1 pc = .ok (.lcmp, 1))  (hp : pc + 1 = pc') (kk : xR w b z k q pc' L (.int (lg_cmp x y) :: S) H o) : xR w b z k q pc L (.long y :: .long x :: S) H o := by
  intro p l e R s m args below meth c E Q Hh locs ls hC hE hR hL
  subst hp
  exact W.lcmp hC.1 hC.2.1 hd  (kk p l e R s m args below meth c E Q Hh locs ls hC hE hR hL)
theorem x_iconst {n : Int} {x : Int32} (hd : decode w.2.1 pc = .ok (.iconst n, 1)) (hv : Int32.ofInt n = x) (hp : pc + 1 = pc') (kk : xR w b z k q pc' L (.int x :: S) H o) : xR w b z k q pc L (S) H o := by
  intro p l e R s m args below meth c E Q Hh locs ls hC hE hR hL
  subst hp
  exact lv_iconst hC.1 hC.2.1 hd hv (kk p l e R s m args below meth c E Q Hh locs ls hC hE hR hL)
theorem x_bipush {n : Int} {x : Int32} (hd : decode w.2.1 pc = .ok (.bipush n, 2)) (hv : (Int8.ofInt n).toInt32 = x) (hp : pc + 2 = pc') (kk : xR w b z k q pc' L (.int x :: S) H o) : xR w b z k q pc L (S) H o := by
  intro p l e R s m args below meth c E Q Hh locs ls hC hE hR hL
  subst hp
  exact lv_bipush hC.1 hC.2.1 hd hv (kk p l e R s m args below meth c E Q Hh locs ls hC hE hR hL)
theorem x_sipush {n : Int} {x : Int32} (hd : decode w.2.1 pc = .ok (.sipush n, 3)) (hv : (Int16.ofInt n).toInt32 = x) (hp : pc + 3 = pc') (kk : xR w b z k q pc' L (.int x :: S) H o) : xR w b z k q pc L (S) H o := by
  intro p l e R s m args below meth c E Q Hh locs ls hC hE hR hL
  subst hp
  exact lv_sipush hC.1 hC.2.1 hd hv (kk p l e R s m args below meth c E Q Hh locs ls hC hE hR hL)
theorem x_lconst {n : Fin 2} {x : Int64} (hd : decode w.2.1 pc = .ok (.lconst n, 1)) (hv : Int64.ofNat (n : Nat) = x) (hp : pc + 1 = pc') (kk : xR w b z k q pc' L (.long x :: S) H o) : xR w b z k q pc L (S) H o := by
  intro p l e R s m args below meth c E Q Hh locs ls hC hE hR hL
  subst hp
  exact lv_lconst hC.1 hC.2.1 hd hv (kk p l e R s m args below meth c E Q Hh locs ls hC hE hR hL)
theorem x_dup {v : Value} (hd : decode w.2.1 pc = .ok (.dup, 1)) (hv : v.category = 1) (hp : pc + 1 = pc') (kk : xR w b z k q pc' L (v :: v :: S) H o) : xR w b z k q pc L (v :: S) H o := by
  intro p l e R s m args below meth c E Q Hh locs ls hC hE hR hL
  subst hp
  exact lv_dup hC.1 hC.2.1 hd (by rw [xtr_cat]; exact hv) (kk p l e R s m args below meth c E Q Hh locs ls hC hE hR hL)
theorem x_dup2 {v u : Value} (hd : decode w.2.1 pc = .ok (.dup2, 1)) (hv : v.category = 1) (hu : u.category = 1) (hp : pc + 1 = pc') (kk : xR w b z k q pc' L (v :: u :: v :: u :: S) H o) : xR w b z k q pc L (v :: u :: S) H o := by
  intro p l e R s m args below meth c E Q Hh locs ls hC hE hR hL
  subst hp
  exact lv_dup2_11 hC.1 hC.2.1 hd (by rw [xtr_cat]; exact hv) (by rw [xtr_cat]; exact hu) (kk p l e R s m args below meth c E Q Hh locs ls hC hE hR hL)
theorem x_pop {v : Value} (hd : decode w.2.1 pc = .ok (.pop, 1)) (hv : v.category = 1) (hp : pc + 1 = pc') (kk : xR w b z k q pc' L (S) H o) : xR w b z k q pc L (v :: S) H o := by
  intro p l e R s m args below meth c E Q Hh locs ls hC hE hR hL
  subst hp
  exact lv_pop hC.1 hC.2.1 hd (by rw [xtr_cat]; exact hv) (kk p l e R s m args below meth c E Q Hh locs ls hC hE hR hL)
theorem x_iload {i : Nat} {x : Int32} (hd : decode w.2.1 pc = .ok (.iload i, 2)) (hl : L[i]? = some (some (.int x))) (hp : pc + 2 = pc') (kk : xR w b z k q pc' L (.int x :: S) H o) : xR w b z k q pc L (S) H o := by
  intro p l e R s m args below meth c E Q Hh locs ls hC hE hR hL
  subst hp
  exact lv_iload hC.1 hC.2.1 hd (xlv_at hL hl) (kk p l e R s m args below meth c E Q Hh locs ls hC hE hR hL)
theorem x_iload_n {i : Fin 4} {x : Int32} (hd : decode w.2.1 pc = .ok (.iload_n i, 1)) (hl : L[(i : Nat)]? = some (some (.int x))) (hp : pc + 1 = pc') (kk : xR w b z k q pc' L (.int x :: S) H o) : xR w b z k q pc L (S) H o := by
  intro p l e R s m args below meth c E Q Hh locs ls hC hE hR hL
  subst hp
  exact lv_iload_n hC.1 hC.2.1 hd rfl (xlv_at hL hl) (kk p l e R s m args below meth c E Q Hh locs ls hC hE hR hL)
theorem x_lload {i : Nat} {x : Int64} (hd : decode w.2.1 pc = .ok (.lload i, 2)) (hl : L[i]? = some (some (.long x))) (hp : pc + 2 = pc') (kk : xR w b z k q pc' L (.long x :: S) H o) : xR w b z k q pc L (S) H o := by
  intro p l e R s m args below meth c E Q Hh locs ls hC hE hR hL
  subst hp
  exact lv_lload hC.1 hC.2.1 hd (xlv_at hL hl) (kk p l e R s m args below meth c E Q Hh locs ls hC hE hR hL)
theorem x_lload_n {i : Fin 4} {x : Int64} (hd : decode w.2.1 pc = .ok (.lload_n i, 1)) (hl : L[(i : Nat)]? = some (some (.long x))) (hp : pc + 1 = pc') (kk : xR w b z k q pc' L (.long x :: S) H o) : xR w b z k q pc L (S) H o := by
  intro p l e R s m args below meth c E Q Hh locs ls hC hE hR hL
  subst hp
  exact lv_lload_n hC.1 hC.2.1 hd rfl (xlv_at hL hl) (kk p l e R s m args below meth c E Q Hh locs ls hC hE hR hL)
theorem x_aload {i : Nat} {x : Nat} (hd : decode w.2.1 pc = .ok (.aload i, 2)) (hl : L[i]? = some (some (.ref x))) (hp : pc + 2 = pc') (kk : xR w b z k q pc' L (.ref x :: S) H o) : xR w b z k q pc L (S) H o := by
  intro p l e R s m args below meth c E Q Hh locs ls hC hE hR hL
  subst hp
  exact lv_aload hC.1 hC.2.1 hd (xlv_at hL hl) (kk p l e R s m args below meth c E Q Hh locs ls hC hE hR hL)
theorem x_aload_n {i : Fin 4} {x : Nat} (hd : decode w.2.1 pc = .ok (.aload_n i, 1)) (hl : L[(i : Nat)]? = some (some (.ref x))) (hp : pc + 1 = pc') (kk : xR w b z k q pc' L (.ref x :: S) H o) : xR w b z k q pc L (S) H o := by
  intro p l e R s m args below meth c E Q Hh locs ls hC hE hR hL
  subst hp
  exact lv_aload_n hC.1 hC.2.1 hd rfl (xlv_at hL hl) (kk p l e R s m args below meth c E Q Hh locs ls hC hE hR hL)
theorem x_istore {i : Nat} {x : Int32} (hd : decode w.2.1 pc = .ok (.istore i, 2)) (hn : (i : Nat) < w.2.2.1) (hs : xset1 L (i : Nat) (.int x) = L') (hp : pc + 2 = pc') (kk : xR w b z k q pc' L' S H o) : xR w b z k q pc L (.int x :: S) H o := by
  intro p l e R s m args below meth c E Q Hh locs ls hC hE hR hL
  subst hp
  subst hs
  exact lv_istore hC.1 hC.2.1 hd hL.2 hn rfl (fun ls2 h2 => (kk p l e R s m args below meth c E Q Hh locs ls2 hC hE hR (xlv_set1 hL.1 h2)))
theorem x_istore_n {i : Fin 4} {x : Int32} (hd : decode w.2.1 pc = .ok (.istore_n i, 1)) (hn : (i : Nat) < w.2.2.1) (hs : xset1 L (i : Nat) (.int x) = L') (hp : pc + 1 = pc') (kk : xR w b z k q pc' L' S H o) : xR w b z k q pc L (.int x :: S) H o := by
  intro p l e R s m args below meth c E Q Hh locs ls hC hE hR hL
  subst hp
  subst hs
  exact lv_istore_n hC.1 hC.2.1 hd rfl hL.2 hn rfl (fun ls2 h2 => (kk p l e R s m args below meth c E Q Hh locs ls2 hC hE hR (xlv_set1 hL.1 h2)))
theorem x_lstore {i : Nat} {x : Int64} (hd : decode w.2.1 pc = .ok (.lstore i, 2)) (hn : (i : Nat) + 1 < w.2.2.1) (hs : xset2 L (i : Nat) (.long x) = L') (hp : pc + 2 = pc') (kk : xR w b z k q pc' L' S H o) : xR w b z k q pc L (.long x :: S) H o := by
  intro p l e R s m args below meth c E Q Hh locs ls hC hE hR hL
  subst hp
  subst hs
  exact lv_lstore hC.1 hC.2.1 hd hL.2 hn rfl (fun ls2 h2 => (kk p l e R s m args below meth c E Q Hh locs ls2 hC hE hR (xlv_set2 hL.1 hn h2)))
theorem x_lstore_n {i : Fin 4} {x : Int64} (hd : decode w.2.1 pc = .ok (.lstore_n i, 1)) (hn : (i : Nat) + 1 < w.2.2.1) (hs : xset2 L (i : Nat) (.long x) = L') (hp : pc + 1 = pc') (kk : xR w b z k q pc' L' S H o) : xR w b z k q pc L (.long x :: S) H o := by
  intro p l e R s m args below meth c E Q Hh locs ls hC hE hR hL
  subst hp
  subst hs
  exact lv_lstore_n hC.1 hC.2.1 hd rfl hL.2 hn rfl (fun ls2 h2 => (kk p l e R s m args below meth c E Q Hh locs ls2 hC hE hR (xlv_set2 hL.1 hn h2)))
theorem x_astore {i : Nat} {x : Nat} (hd : decode w.2.1 pc = .ok (.astore i, 2)) (hn : (i : Nat) < w.2.2.1) (hs : xset1 L (i : Nat) (.ref x) = L') (hp : pc + 2 = pc') (kk : xR w b z k q pc' L' S H o) : xR w b z k q pc L (.ref x :: S) H o := by
  intro p l e R s m args below meth c E Q Hh locs ls hC hE hR hL
  subst hp
  subst hs
  exact lv_astore hC.1 hC.2.1 hd hL.2 hn rfl (fun ls2 h2 => (kk p l e R s m args below meth c E Q Hh locs ls2 hC hE hR (xlv_set1 hL.1 h2)))
theorem x_astore_n {i : Fin 4} {x : Nat} (hd : decode w.2.1 pc = .ok (.astore_n i, 1)) (hn : (i : Nat) < w.2.2.1) (hs : xset1 L (i : Nat) (.ref x) = L') (hp : pc + 1 = pc') (kk : xR w b z k q pc' L' S H o) : xR w b z k q pc L (.ref x :: S) H o := by
  intro p l e R s m args below meth c E Q Hh locs ls hC hE hR hL
  subst hp
  subst hs
  exact lv_astore_n hC.1 hC.2.1 hd rfl hL.2 hn rfl (fun ls2 h2 => (kk p l e R s m args below meth c E Q Hh locs ls2 hC hE hR (xlv_set1 hL.1 h2)))
theorem x_iinc {i : Nat} {n : Int} {x v : Int32} (hd : decode w.2.1 pc = .ok (.iinc i n, 3)) (hl : L[i]? = some (some (.int x))) (hv : x + Int32.ofInt n = v) (hn : i < w.2.2.1) (hs : xset1 L i (.int v) = L') (hp : pc + 3 = pc') (kk : xR w b z k q pc' L' S H o) : xR w b z k q pc L S H o := by
  intro p l e R s m args below meth c E Q Hh locs ls hC hE hR hL
  subst hp
  subst hs
  obtain ⟨j, hj⟩ := List.getElem?_of_mem (xpr_mem.mpr ⟨_, hl, rfl⟩ : (i, xtr E (.int x)) ∈ xpr E L)
  exact lv_iinc hC.1 hC.2.1 hd hL.2 hj hv hn rfl (fun ls2 h2 => (kk p l e R s m args below meth c E Q Hh locs ls2 hC hE hR (xlv_set1 hL.1 h2)))
end XR
end
section
section XB
variable {w : xWt} {b : xBd} {z : xZ} {k q pc pc' tgt : Nat} {L L' : List (Option Value)} {S : List Value} {H H' : xHp} {o : xOut}
theorem x_if_eq {x : Int32} {off : Int} (hd : decode w.2.1 pc = .ok (.ifCond .eq off, 3)) (ht : (pc : Int) + off = (tgt : Int)) (hp : pc + 3 = pc') (kt : x = 0 → xR w b z k q tgt L S H o) (kf : ¬ x = 0 → xR w b z k q pc' L S H o) : xR w b z k q pc L (.int x :: S) H o := by
  intro p l e R s m args below meth c E Q Hh locs ls hC hE hR hL
  subst hp
  exact lv_if_eq hC.1 hC.2.1 hd ht (fun h => kt h p l e R s m args below meth c E Q Hh locs ls hC hE hR hL) (fun h => kf (h) p l e R s m args below meth c E Q Hh locs ls hC hE hR hL)
theorem x_if_ne {x : Int32} {off : Int} (hd : decode w.2.1 pc = .ok (.ifCond .ne off, 3)) (ht : (pc : Int) + off = (tgt : Int)) (hp : pc + 3 = pc') (kt : ¬ x = 0 → xR w b z k q tgt L S H o) (kf : x = 0 → xR w b z k q pc' L S H o) : xR w b z k q pc L (.int x :: S) H o := by
  intro p l e R s m args below meth c E Q Hh locs ls hC hE hR hL
  subst hp
  exact lv_if_ne hC.1 hC.2.1 hd ht (fun h => kt h p l e R s m args below meth c E Q Hh locs ls hC hE hR hL) (fun h => kf (h) p l e R s m args below meth c E Q Hh locs ls hC hE hR hL)
theorem x_if_lt {x : Int32} {off : Int} (hd : decode w.2.1 pc = .ok (.ifCond .lt off, 3)) (ht : (pc : Int) + off = (tgt : Int)) (hp : pc + 3 = pc') (kt : x < 0 → xR w b z k q tgt L S H o) (kf : ¬ x < 0 → xR w b z k q pc' L S H o) : xR w b z k q pc L (.int x :: S) H o := by
  intro p l e R s m args below meth c E Q Hh locs ls hC hE hR hL
  subst hp
  exact lv_if_lt hC.1 hC.2.1 hd ht (fun h => kt h p l e R s m args below meth c E Q Hh locs ls hC hE hR hL) (fun h => kf (h) p l e R s m args below meth c E Q Hh locs ls hC hE hR hL)
theorem x_if_ge {x : Int32} {off : Int} (hd : decode w.2.1 pc = .ok (.ifCond .ge off, 3)) (ht : (pc : Int) + off = (tgt : Int)) (hp : pc + 3 = pc') (kt : 0 ≤ x → xR w b z k q tgt L S H o) (kf : ¬ 0 ≤ x → xR w b z k q pc' L S H o) : xR w b z k q pc L (.int x :: S) H o := by
  intro p l e R s m args below meth c E Q Hh locs ls hC hE hR hL
  subst hp
  exact lv_if_ge hC.1 hC.2.1 hd ht (fun h => kt h p l e R s m args below meth c E Q Hh locs ls hC hE hR hL) (fun h => kf (h) p l e R s m args below meth c E Q Hh locs ls hC hE hR hL)
theorem x_if_gt {x : Int32} {off : Int} (hd : decode w.2.1 pc = .ok (.ifCond .gt off, 3)) (ht : (pc : Int) + off = (tgt : Int)) (hp : pc + 3 = pc') (kt : 0 < x → xR w b z k q tgt L S H o) (kf : ¬ 0 < x → xR w b z k q pc' L S H o) : xR w b z k q pc L (.int x :: S) H o := by
  intro p l e R s m args below meth c E Q Hh locs ls hC hE hR hL
  subst hp
  exact lv_if_gt hC.1 hC.2.1 hd ht (fun h => kt h p l e R s m args below meth c E Q Hh locs ls hC hE hR hL) (fun h => kf (h) p l e R s m args below meth c E Q Hh locs ls hC hE hR hL)
theorem x_if_le {x : Int32} {off : Int} (hd : decode w.2.1 pc = .ok (.ifCond .le off, 3)) (ht : (pc : Int) + off = (tgt : Int)) (hp : pc + 3 = pc') (kt : x ≤ 0 → xR w b z k q tgt L S H o) (kf : ¬ x ≤ 0 → xR w b z k q pc' L S H o) : xR w b z k q pc L (.int x :: S) H o := by
  intro p l e R s m args below meth c E Q Hh locs ls hC hE hR hL
  subst hp
  exact lv_if_le hC.1 hC.2.1 hd ht (fun h => kt h p l e R s m args below meth c E Q Hh locs ls hC hE hR hL) (fun h => kf (h) p l e R s m args below meth c E Q Hh locs ls hC hE hR hL)
theorem x_icmp_eq {x y : Int32} {off : Int} (hd : decode w.2.1 pc = .ok (.if_icmp .eq off, 3)) (ht : (pc : Int) + off = (tgt : Int)) (hp : pc + 3 = pc') (kt : x = y → xR w b z k q tgt L S H o) (kf : ¬ x = y → xR w b z k q pc' L S H o) : xR w b z k q pc L (.int y :: .int x :: S) H o := by
  intro p l e R s m args below meth c E Q Hh locs ls hC hE hR hL
  subst hp
  exact lv_icmp_eq hC.1 hC.2.1 hd ht (fun h => kt h p l e R s m args below meth c E Q Hh locs ls hC hE hR hL) (fun h => kf (h) p l e R s m args below meth c E Q Hh locs ls hC hE hR hL)
theorem x_icmp_ne {x y : Int32} {off : Int} (hd : decode w.2.1 pc = .ok (.if_icmp .ne off, 3)) (ht : (pc : Int) + off = (tgt : Int)) (hp : pc + 3 = pc') (kt : ¬ x = y → xR w b z k q tgt L S H o) (kf : x = y → xR w b z k q pc' L S H o) : xR w b z k q pc L (.int y :: .int x :: S) H o := by
  intro p l e R s m args below meth c E Q Hh locs ls hC hE hR hL
  subst hp
  exact lv_icmp_ne hC.1 hC.2.1 hd ht (fun h => kt h p l e R s m args below meth c E Q Hh locs ls hC hE hR hL) (fun h => kf (h) p l e R s m args below meth c E Q Hh locs ls hC hE hR hL)
theorem x_icmp_lt {x y : Int32} {off : Int} (hd : decode w.2.1 pc = .ok (.if_icmp .lt off, 3)) (ht : (pc : Int) + off = (tgt : Int)) (hp : pc + 3 = pc') (kt : x < y → xR w b z k q tgt L S H o) (kf : ¬ x < y → xR w b z k q pc' L S H o) : xR w b z k q pc L (.int y :: .int x :: S) H o := by
  intro p l e R s m args below meth c E Q Hh locs ls hC hE hR hL
  subst hp
  exact lv_icmp_lt hC.1 hC.2.1 hd ht (fun h => kt h p l e R s m args below meth c E Q Hh locs ls hC hE hR hL) (fun h => kf (h) p l e R s m args below meth c E Q Hh locs ls hC hE hR hL)
theorem x_icmp_ge {x y : Int32} {off : Int} (hd : decode w.2.1 pc = .ok (.if_icmp .ge off, 3)) (ht : (pc : Int) + off = (tgt : Int)) (hp : pc + 3 = pc') (kt : y ≤ x → xR w b z k q tgt L S H o) (kf : ¬ y ≤ x → xR w b z k q pc' L S H o) : xR w b z k q pc L (.int y :: .int x :: S) H o := by
  intro p l e R s m args below meth c E Q Hh locs ls hC hE hR hL
  subst hp
  exact lv_icmp_ge hC.1 hC.2.1 hd ht (fun h => kt h p l e R s m args below meth c E Q Hh locs ls hC hE hR hL) (fun h => kf (h) p l e R s m args below meth c E Q Hh locs ls hC hE hR hL)
theorem x_icmp_gt {x y : Int32} {off : Int} (hd : decode w.2.1 pc = .ok (.if_icmp .gt off, 3)) (ht : (pc : Int) + off = (tgt : Int)) (hp : pc + 3 = pc') (kt : y < x → xR w b z k q tgt L S H o) (kf : ¬ y < x → xR w b z k q pc' L S H o) : xR w b z k q pc L (.int y :: .int x :: S) H o := by
  intro p l e R s m args below meth c E Q Hh locs ls hC hE hR hL
  subst hp
  exact lv_icmp_gt hC.1 hC.2.1 hd ht (fun h => kt h p l e R s m args below meth c E Q Hh locs ls hC hE hR hL) (fun h => kf (h) p l e R s m args below meth c E Q Hh locs ls hC hE hR hL)
theorem x_icmp_le {x y : Int32} {off : Int} (hd : decode w.2.1 pc = .ok (.if_icmp .le off, 3)) (ht : (pc : Int) + off = (tgt : Int)) (hp : pc + 3 = pc') (kt : x ≤ y → xR w b z k q tgt L S H o) (kf : ¬ x ≤ y → xR w b z k q pc' L S H o) : xR w b z k q pc L (.int y :: .int x :: S) H o := by
  intro p l e R s m args below meth c E Q Hh locs ls hC hE hR hL
  subst hp
  exact lv_icmp_le hC.1 hC.2.1 hd ht (fun h => kt h p l e R s m args below meth c E Q Hh locs ls hC hE hR hL) (fun h => kf (h) p l e R s m args below meth c E Q Hh locs ls hC hE hR hL)
theorem x_goto {off : Int} (hd : decode w.2.1 pc = .ok (.goto off, 3)) (ht : (pc : Int) + off = (tgt : Int)) (kk : xR w b z k q tgt L S H o) : xR w b z k q pc L S H o := by
  intro p l e R s m args below meth c E Q Hh locs ls hC hE hR hL
  exact lv_goto hC.1 hC.2.1 hd ht (kk p l e R s m args below meth c E Q Hh locs ls hC hE hR hL)
theorem x_tabIn {dflt lo hi : Int} {offs : Array Int} {len : Nat} {x : Int32} {off : Int} (hd : decode w.2.1 pc = .ok (.tableswitch dflt lo hi offs, len)) (h1 : ¬ x.toInt < lo) (h2 : ¬ hi < x.toInt) (ho : offs[(x.toInt - lo).toNat]? = some off) (ht : (pc : Int) + off = (tgt : Int)) (kk : xR w b z k q tgt L S H o) : xR w b z k q pc L (.int x :: S) H o := by
  intro p l e R s m args below meth c E Q Hh locs ls hC hE hR hL
  exact lv_tableIn hC.1 hC.2.1 hd h1 h2 ho ht (kk p l e R s m args below meth c E Q Hh locs ls hC hE hR hL)
theorem x_tabOut {dflt lo hi : Int} {offs : Array Int} {len : Nat} {x : Int32} (hd : decode w.2.1 pc = .ok (.tableswitch dflt lo hi offs, len)) (h : x.toInt < lo ∨ hi < x.toInt) (ht : (pc : Int) + dflt = (tgt : Int)) (kk : xR w b z k q tgt L S H o) : xR w b z k q pc L (.int x :: S) H o := by
  intro p l e R s m args below meth c E Q Hh locs ls hC hE hR hL
  exact lv_tableOut hC.1 hC.2.1 hd h ht (kk p l e R s m args below meth c E Q Hh locs ls hC hE hR hL)
theorem x_ldc {idx : Nat} {v : Int32} (hd : decode w.2.1 pc = .ok (.ldc idx, 2)) (hc : Cond.constant w.1 idx v ∈ xTB) (hp : pc + 2 = pc') (kk : xR w b z k q pc' L (.int v :: S) H o) : xR w b z k q pc L S H o := by
  intro p l e R s m args below meth c E Q Hh locs ls hC hE hR hL
  subst hp
  exact lv_ldc hC.1 hC.2.1 hC.2.2.2.1 (hC.2.2.2.2.1 _ hc) hd (kk p l e R s m args below meth c E Q Hh locs ls hC hE hR hL)
theorem x_ldc_w {idx : Nat} {v : Int32} (hd : decode w.2.1 pc = .ok (.ldc_w idx, 3)) (hc : Cond.constant w.1 idx v ∈ xTB) (hp : pc + 3 = pc') (kk : xR w b z k q pc' L (.int v :: S) H o) : xR w b z k q pc L S H o := by
  intro p l e R s m args below meth c E Q Hh locs ls hC hE hR hL
  subst hp
  have hk := (kk p l e R s m args below meth c E Q Hh locs ls hC hE hR hL)
  intro T hT X
  obtain ⟨t, a1, b1⟩ := hk T hT X
  exact ⟨t, va_ldcwI X hC.1 hC.2.2.2.1 (hC.2.2.2.2.1 _ hc) rfl (by rw [hC.2.1]; exact hd) t a1, b1⟩
theorem x_ldc2 {idx : Nat} {v : Int64} (hd : decode w.2.1 pc = .ok (.ldc2_w idx, 3)) (hc : Cond.constantLong w.1 idx v ∈ xTB) (hp : pc + 3 = pc') (kk : xR w b z k q pc' L (.long v :: S) H o) : xR w b z k q pc L S H o := by
  intro p l e R s m args below meth c E Q Hh locs ls hC hE hR hL
  subst hp
  exact lv_ldc2 hC.1 hC.2.1 hC.2.2.2.1 (hC.2.2.2.2.1 _ hc) hd (kk p l e R s m args below meth c E Q Hh locs ls hC hE hR hL)
theorem x_vret (hd : decode w.2.1 pc = .ok (.return_, 1)) (hw : w.2.2.2.2 = 0) (hk : k = b.2.1) (hq : q ≤ b.2.2) (ho : o = (none, H)) : xR w b z k q pc L [] H o := by
  intro p l e R s m args below meth c E Q Hh locs ls hC hE hR hL
  subst ho; subst hk
  exact hE q pc ls Hh locs hq hR (by simp only [xrt, hw]; exact hd)
theorem x_iret {x : Int32} (hd : decode w.2.1 pc = .ok (.ireturn, 1)) (hw : w.2.2.2.2 = 1) (hk : k = b.2.1) (hq : q ≤ b.2.2) (ho : o = (some (.int x), H)) : xR w b z k q pc L [.int x] H o := by
  intro p l e R s m args below meth c E Q Hh locs ls hC hE hR hL
  subst ho; subst hk
  exact hE q pc ls Hh locs hq hR (by simp only [xrt, hw]; exact hd)
theorem x_lret {x : Int64} (hd : decode w.2.1 pc = .ok (.lreturn, 1)) (hw : w.2.2.2.2 = 2) (hk : k = b.2.1) (hq : q ≤ b.2.2) (ho : o = (some (.long x), H)) : xR w b z k q pc L [.long x] H o := by
  intro p l e R s m args below meth c E Q Hh locs ls hC hE hR hL
  subst ho; subst hk
  exact hE q pc ls Hh locs hq hR (by simp only [xrt, hw]; exact hd)
theorem x_zret {x : Int32} (hd : decode w.2.1 pc = .ok (.ireturn, 1)) (hw : w.2.2.2.2 = 3) (hx : x = 0 ∨ x = 1) (hk : k = b.2.1) (hq : q ≤ b.2.2) (ho : o = (some (.int x), H)) : xR w b z k q pc L [.int x] H o := by
  intro p l e R s m args below meth c E Q Hh locs ls hC hE hR hL
  subst ho; subst hk
  exact hE q pc ls Hh locs hq hR (by simp only [xrt, hw]; exact ⟨hd, hx⟩)
end XB
/-! fields -/
def xnf (c : Nat) : Nat := (xftT.getD c []).length
def xFld (own : String) (idx ci j : Nat) (ty : FieldType) (fin : Bool) : Prop := ∃ (C : String) (T : u_T) (N : Nat) (ty0 : Nat → FieldType), vwCl[ci]? = some (C, T, N) ∧ (∀ t ∈ u_ws C T N, t ∈ xTB) ∧ (∀ k, k < N → parseFieldDescriptor (T k).2.2.1 = some (ty0 k)) ∧ (∀ a, a < N → ∀ b, b < N → a ≠ b → (T a).2.1 ≠ (T b).2.1) ∧ j < N ∧ N = xnf ci ∧ ty0 j = ty ∧ (T j).2.2.2 = fin ∧ (T j).1 = C ∧ Cond.fieldLink own idx C (T j).2.1 (T j).2.2.1 ∈ xTB
theorem xu_ne {α : Type} (f : Nat → Nat → α) {a x : Nat} (j : Nat) (v : α) (h : x ≠ a) : xu f a j v x = f x := by
  funext i
  simp [xu, h]
theorem xu_self {α : Type} (f : Nat → Nat → α) (a j : Nat) (v : α) : xu f a j v a = fun i => if i = j then v else f a i := by
  funext i
  simp [xu]
theorem xce_congr {E : xE} {H H' : xHp} {a : Nat} (h1 : H'.2.1 a = H.2.1 a) (h2 : H'.2.2.1 a = H.2.2.1 a) (h3 : H'.2.2.2.1 a = H.2.2.2.1 a) (h4 : H'.2.2.2.2 a = H.2.2.2.2 a) : xce E H' a = xce E H a := by
  simp only [xce, xfv, h1, h2, h3, h4]
theorem xce_obj {E : xE} {H : xHp} {a ci N : Nat} (h : H.2.1 a = (ci + 5, N)) : xce E H a = .inr (ci, (List.range N).map (fun i => xfv E H (xft ci i) a i)) := by
  simp [xce, h]
theorem xfs_at {E : xE} {H : xHp} {a ci N j : Nat} (h : j < N) : ((List.range N).map (fun i => xfv E H (xft ci i) a i))[j]? = some (xfv E H (xft ci j) a j) := by simp [h]
theorem xfs_set {E : xE} {H H' : xHp} {a ci N j : Nat} {v : Value} (hv : xfv E H' (xft ci j) a j = v) (ho : ∀ i, i ≠ j → xfv E H' (xft ci i) a i = xfv E H (xft ci i) a i) : ((List.range N).map (fun i => xfv E H (xft ci i) a i)).set j v = (List.range N).map (fun i => xfv E H' (xft ci i) a i) := by
  apply List.ext_getElem?
  intro i
  by_cases hi : i = j
  · subst hi
    by_cases hl : i < N
    · rw [List.getElem?_set_self (by simpa using hl)]
      simp [hl, hv]
    · rw [List.getElem?_eq_none (by simp; omega), List.getElem?_eq_none (by simp; omega)]
  · rw [List.getElem?_set_ne (Ne.symm hi)]
    by_cases hl : i < N
    · simp [hl, ho i hi]
    · rw [List.getElem?_eq_none (by simp; omega), List.getElem?_eq_none (by simp; omega)]
section XF
variable {w : xWt} {b : xBd} {z : xZ} {k q pc pc' a idx ci j : Nat} {L : List (Option Value)} {S : List Value} {o : xOut} {n : Nat} {sh : Nat → Nat × Nat} {hi : Nat → Nat → Int32} {hl : Nat → Nat → Int64} {hr : Nat → Nat → Option Nat} {ty : FieldType} {fin : Bool}
theorem x_getv {ft : Nat} (hd : decode w.2.1 pc = .ok (.getfield idx, 3)) (hf : xFld w.1 idx ci j ty fin) (ha : a < n) (hs : sh a = (ci + 5, xnf ci)) (hp : pc + 3 = pc') (E0 : xE → Value) (hv : ∀ E, E0 E = xfv E (n, sh, hi, hl, hr) (xft ci j) a j)
    (kk : ∀ (p : Program) (l : Launch) (e : Env) (R : Room) (s : State) (m : MethodId) (args : Array Value) (below : List Frame) (meth : Method) (c : Code) (E : xE) (Q : State → Prop) (Hh : Heap) (locs : List Loc) (ls : Array Slot),
    xCx p R s m args meth c E z w b → xEnd p l e R s m args below meth c E w b o Q → xRel E s.heap (n, sh, hi, hl, hr) k Hh locs → xlv E w.2.2.1 L ls →
    W p l e R s m args below meth c Hh locs k q Q (F0 m pc' ls (E0 E :: S.map (xtr E)))) : xR w b z k q pc L (.ref a :: S) (n, sh, hi, hl, hr) o := by
  intro p l e R s m args below meth c E Q Hh locs ls hC hE hR hL
  subst hp
  obtain ⟨C, T, N, ty0, hc, hin, hty, hnm, hj, rfl, hty1, hfin, hC1, hlk⟩ := hf
  have hn : n ≤ 1000000 := hR.1.2
  have h1 := kk p l e R s m args below meth c E Q Hh locs ls hC hE hR hL
  show W p l e R s m args below meth c Hh locs k q Q (F0 m pc ls (xtr E (.ref a) :: S.map (xtr E)))
  rw [xtr_ref (by omega)]
  refine va_get (D := E.1) (cl := vwCl) (tys := xtys E) (ws := xws E (n, sh, hi, hl, hr)) hC.1 hC.2.1 hC.2.2.2.2.1 hin hC.2.2.2.1 hC.2.2.2.2.2.1.1 hR.1.1 a (xws_at (H := (n, sh, hi, hl, hr)) ha |>.trans (by rw [xce_obj (H := (n, sh, hi, hl, hr)) hs])) hc j hj (hC.2.2.2.2.1 _ hlk) (fun _ h9 => by rw [hC1] at h9; exact h9) (v := E0 E) ?_ hd h1
  rw [xfs_at hj, hv]
theorem x_geti (hd : decode w.2.1 pc = .ok (.getfield idx, 3)) (hf : xFld w.1 idx ci j ty fin) (ha : a < n) (hs : sh a = (ci + 5, xnf ci)) (ht : xft ci j = 0) (hp : pc + 3 = pc') (kk : xR w b z k q pc' L (.int (hi a j) :: S) (n, sh, hi, hl, hr) o) : xR w b z k q pc L (.ref a :: S) (n, sh, hi, hl, hr) o :=
  x_getv (ft := 0) hd hf ha hs hp (fun _ => .int (hi a j)) (fun E => by rw [ht]; rfl) kk
theorem x_getl (hd : decode w.2.1 pc = .ok (.getfield idx, 3)) (hf : xFld w.1 idx ci j ty fin) (ha : a < n) (hs : sh a = (ci + 5, xnf ci)) (ht : xft ci j = 1) (hp : pc + 3 = pc') (kk : xR w b z k q pc' L (.long (hl a j) :: S) (n, sh, hi, hl, hr) o) : xR w b z k q pc L (.ref a :: S) (n, sh, hi, hl, hr) o :=
  x_getv (ft := 1) hd hf ha hs hp (fun _ => .long (hl a j)) (fun E => by rw [ht]; rfl) kk
theorem x_getr {t : Nat} (hd : decode w.2.1 pc = .ok (.getfield idx, 3)) (hf : xFld w.1 idx ci j ty fin) (ha : a < n) (hs : sh a = (ci + 5, xnf ci)) (ht : xft ci j = 2) (hv : hr a j = some t) (hp : pc + 3 = pc') (kk : xR w b z k q pc' L (.ref t :: S) (n, sh, hi, hl, hr) o) : xR w b z k q pc L (.ref a :: S) (n, sh, hi, hl, hr) o :=
  x_getv (ft := 2) hd hf ha hs hp (fun E => xtr E (.ref t)) (fun E => by rw [ht]; simp [xfv, hv, va_rf, xtr]) kk
theorem x_putv {v : Value} {hi' : Nat → Nat → Int32} {hl' : Nat → Nat → Int64} {hr' : Nat → Nat → Option Nat} (hd : decode w.2.1 pc = .ok (.putfield idx, 3)) (hf : xFld w.1 idx ci j ty fin) (hfin : fin = false ∨ (w.2.2.2.1 = true ∧ ∃ T N, vwCl[ci]? = some (w.1, T, N))) (ha : a < n) (hs : sh a = (ci + 5, xnf ci))
    (hn : ∀ E, narrow ty (xtr E v) = xtr E v) (hfit : ∀ E, fits ty (xtr E v) = true) (h1 : ∀ E, xfv E (n, sh, hi', hl', hr') (xft ci j) a j = xtr E v) (h2 : ∀ E i, i ≠ j → xfv E (n, sh, hi', hl', hr') (xft ci i) a i = xfv E (n, sh, hi, hl, hr) (xft ci i) a i) (h3 : ∀ x, x ≠ a → hi' x = hi x ∧ hl' x = hl x ∧ hr' x = hr x)
    (hp : pc + 3 = pc') (kk : xR w b z k q pc' L S (n, sh, hi', hl', hr') o) : xR w b z k q pc L (v :: .ref a :: S) (n, sh, hi, hl, hr) o := by
  intro p l e R s m args below meth c E Q Hh locs ls hC hE hR hL
  subst hp
  obtain ⟨C, T, N, ty0, hc, hin, hty, hnm, hj, rfl, hty1, hfn, hC1, hlk⟩ := hf
  have hnn : n ≤ 1000000 := hR.1.2
  show W p l e R s m args below meth c Hh locs k q Q (F0 m pc ls (xtr E v :: xtr E (.ref a) :: S.map (xtr E)))
  rw [xtr_ref (by omega)]
  have hat : (xws E (n, sh, hi, hl, hr))[a]? = some (E.2.2.1 + a, .inr (ci, (List.range (xnf ci)).map (fun i => xfv E (n, sh, hi, hl, hr) (xft ci i) a i))) := (xws_at (H := (n, sh, hi, hl, hr)) ha).trans (by rw [xce_obj (H := (n, sh, hi, hl, hr)) hs])
  have hset : (xws E (n, sh, hi, hl, hr)).set a (E.2.2.1 + a, .inr (ci, ((List.range (xnf ci)).map (fun i => xfv E (n, sh, hi, hl, hr) (xft ci i) a i)).set j (xtr E v))) = xws E (n, sh, hi', hl', hr') := by
    refine xws_set (H := (n, sh, hi, hl, hr)) (H' := (n, sh, hi', hl', hr')) ha rfl ?_ (fun x hx _ => xce_congr rfl (h3 x hx).1 (h3 x hx).2.1 (h3 x hx).2.2)
    rw [xce_obj (H := (n, sh, hi', hl', hr')) hs, xfs_set (h1 E) (h2 E)]
  have hlen : j < ((List.range (xnf ci)).map (fun i => xfv E (n, sh, hi, hl, hr) (xft ci i) a i)).length := by simpa using hj
  have key : ∀ (H1 : Heap) (locs1 : List Loc), va_P E.1 vwCl ((xws E (n, sh, hi, hl, hr)).set a (E.2.2.1 + a, .inr (ci, ((List.range (xnf ci)).map (fun i => xfv E (n, sh, hi, hl, hr) (xft ci i) a i)).set j (xtr E v)))) H1 → va_D (xA E) ((xws E (n, sh, hi, hl, hr)).set a (E.2.2.1 + a, .inr (ci, ((List.range (xnf ci)).map (fun i => xfv E (n, sh, hi, hl, hr) (xft ci i) a i)).set j (xtr E v)))) → va_S (xA E) s.heap H1 locs1 → W p l e R s m args below meth c H1 locs1 k q Q (F0 m (pc + 3) ls (S.map (xtr E))) := by
    intro H1 locs1 hP1 _ hS1
    rw [hset] at hP1
    exact kk p l e R s m args below meth c E Q H1 locs1 ls hC hE ⟨⟨hP1, hnn⟩, hS1, hR.2.2⟩ hL
  cases fin with
  | false => exact va_put (D := E.1) (cl := vwCl) (tys := xtys E) (ws := xws E (n, sh, hi, hl, hr)) (ty := ty) hC.1 hC.2.1 hC.2.2.2.2.1 hin ty0 hty hnm hC.2.2.2.1 hC.2.2.2.2.2.1.1 hR.1.1 xws_D hR.2.1 a hat hc j hj (hC.2.2.2.2.1 _ hlk) (fun _ h9 => by rw [hC1] at h9; exact h9) hfn (by rw [hty j hj, hty1]) (hn E) (hfit E) hlen hd key
  | true =>
    rcases hfin with hfin | ⟨hini, T2, N2, hc2⟩
    · cases hfin
    · have e1 := Option.some.inj (hc.symm.trans hc2)
      have e2 : C = w.1 := congrArg (fun r => r.1) e1
      exact va_putF (D := E.1) (cl := vwCl) (tys := xtys E) (ws := xws E (n, sh, hi, hl, hr)) (ty := ty) hC.1 hC.2.1 hC.2.2.2.2.1 hin ty0 hty hnm hC.2.2.2.1 hC.2.2.2.2.2.1.1 hR.1.1 xws_D hR.2.1 a hat hc j hj (hC.2.2.2.2.1 _ hlk) (fun _ h9 => by rw [hC1] at h9; exact h9) hfn (hC.2.2.2.2.2.2.2.1 hini) (by rw [hC1, e2]) (by rw [hty j hj, hty1]) (hn E) (hfit E) hlen hd key
theorem x_puti {x : Int32} (hd : decode w.2.1 pc = .ok (.putfield idx, 3)) (hf : xFld w.1 idx ci j .int fin) (hfin : fin = false ∨ (w.2.2.2.1 = true ∧ ∃ T N, vwCl[ci]? = some (w.1, T, N))) (ha : a < n) (hs : sh a = (ci + 5, xnf ci)) (ht : xft ci j = 0) (hp : pc + 3 = pc') (kk : xR w b z k q pc' L S (n, sh, xu hi a j x, hl, hr) o) : xR w b z k q pc L (.int x :: .ref a :: S) (n, sh, hi, hl, hr) o :=
  x_putv (v := .int x) hd hf hfin ha hs (fun _ => rfl) (fun _ => rfl) (fun E => by rw [ht]; simp [xfv, xu, xtr]) (fun E i h => by simp only [xfv, xu]; split <;> simp [h]) (fun x hx => ⟨xu_ne _ _ _ hx, rfl, rfl⟩) hp kk
theorem x_putz {x : Int32} (hx : x = 0 ∨ x = 1) (hd : decode w.2.1 pc = .ok (.putfield idx, 3)) (hf : xFld w.1 idx ci j .boolean fin) (hfin : fin = false ∨ (w.2.2.2.1 = true ∧ ∃ T N, vwCl[ci]? = some (w.1, T, N))) (ha : a < n) (hs : sh a = (ci + 5, xnf ci)) (ht : xft ci j = 0) (hp : pc + 3 = pc') (kk : xR w b z k q pc' L S (n, sh, xu hi a j x, hl, hr) o) : xR w b z k q pc L (.int x :: .ref a :: S) (n, sh, hi, hl, hr) o :=
  x_putv (v := .int x) hd hf hfin ha hs (fun _ => by rcases hx with rfl | rfl <;> rfl) (fun _ => by rcases hx with rfl | rfl <;> rfl) (fun E => by rw [ht]; simp [xfv, xu, xtr]) (fun E i h => by simp only [xfv, xu]; split <;> simp [h]) (fun x hx => ⟨xu_ne _ _ _ hx, rfl, rfl⟩) hp kk
theorem x_putl {x : Int64} (hd : decode w.2.1 pc = .ok (.putfield idx, 3)) (hf : xFld w.1 idx ci j .long fin) (hfin : fin = false ∨ (w.2.2.2.1 = true ∧ ∃ T N, vwCl[ci]? = some (w.1, T, N))) (ha : a < n) (hs : sh a = (ci + 5, xnf ci)) (ht : xft ci j = 1) (hp : pc + 3 = pc') (kk : xR w b z k q pc' L S (n, sh, hi, xu hl a j x, hr) o) : xR w b z k q pc L (.long x :: .ref a :: S) (n, sh, hi, hl, hr) o :=
  x_putv (v := .long x) hd hf hfin ha hs (fun _ => rfl) (fun _ => rfl) (fun E => by rw [ht]; simp [xfv, xu, xtr]) (fun E i h => by simp only [xfv, xu]; split <;> simp [h]) (fun x hx => ⟨rfl, xu_ne _ _ _ hx, rfl⟩) hp kk
theorem x_putr {x : Nat} (hty : (∃ c, ty = .object c) ∨ ∃ t, ty = .array t) (hd : decode w.2.1 pc = .ok (.putfield idx, 3)) (hf : xFld w.1 idx ci j ty fin) (hfin : fin = false ∨ (w.2.2.2.1 = true ∧ ∃ T N, vwCl[ci]? = some (w.1, T, N))) (ha : a < n) (hs : sh a = (ci + 5, xnf ci)) (ht : xft ci j = 2) (hp : pc + 3 = pc') (kk : xR w b z k q pc' L S (n, sh, hi, hl, xu hr a j (some x)) o) : xR w b z k q pc L (.ref x :: .ref a :: S) (n, sh, hi, hl, hr) o :=
  x_putv (v := .ref x) hd hf hfin ha hs (fun _ => by rcases hty with ⟨c, rfl⟩ | ⟨t, rfl⟩ <;> rfl) (fun _ => by rcases hty with ⟨c, rfl⟩ | ⟨t, rfl⟩ <;> rfl) (fun E => by rw [ht]; simp [xfv, xu, xtr, va_rf]) (fun E i h => by simp only [xfv, xu]; split <;> simp [h]) (fun x hx => ⟨rfl, rfl, xu_ne _ _ _ hx⟩) hp kk
end XF
end
section
section XG
variable {w : xWt} {b : xBd} {z : xZ} {k q pc pc' a idx ci j : Nat} {L : List (Option Value)} {S : List Value} {o : xOut} {n N : Nat} {sh : Nat → Nat × Nat} {hi : Nat → Nat → Int32} {hl : Nat → Nat → Int64} {hr : Nat → Nat → Option Nat} {i : Int32}
theorem x_iald (hd : decode w.2.1 pc = .ok (.iaload, 1)) (ha : a < n) (hs : sh a = (0, N)) (hin : vp_in i N) (hp : pc + 1 = pc') (kk : xR w b z k q pc' L (.int (hi a i.toNatClampNeg) :: S) (n, sh, hi, hl, hr) o) : xR w b z k q pc L (.int i :: .ref a :: S) (n, sh, hi, hl, hr) o := by
  intro p l e R s m args below meth c E Q Hh locs ls hC hE hR hL
  subst hp
  have hnn : n ≤ 1000000 := hR.1.2
  show W p l e R s m args below meth c Hh locs k q Q (F0 m pc ls (.int i :: xtr E (.ref a) :: S.map (xtr E)))
  rw [xtr_ref (by omega)]
  exact va_iald (D := E.1) (cl := vwCl) (tys := xtys E) (ws := xws E (n, sh, hi, hl, hr)) hC.1 hC.2.1 hC.2.2.2.2.2.1.1 hR.1.1 a 0 ((xws_at (H := (n, sh, hi, hl, hr)) ha).trans (by simp only [xce, hs])) rfl hin hd (kk p l e R s m args below meth c E Q Hh locs ls hC hE hR hL)
theorem x_lald (hd : decode w.2.1 pc = .ok (.laload, 1)) (ha : a < n) (hs : sh a = (1, N)) (hin : vp_in i N) (hp : pc + 1 = pc') (kk : xR w b z k q pc' L (.long (hl a i.toNatClampNeg) :: S) (n, sh, hi, hl, hr) o) : xR w b z k q pc L (.int i :: .ref a :: S) (n, sh, hi, hl, hr) o := by
  intro p l e R s m args below meth c E Q Hh locs ls hC hE hR hL
  subst hp
  have hnn : n ≤ 1000000 := hR.1.2
  show W p l e R s m args below meth c Hh locs k q Q (F0 m pc ls (.int i :: xtr E (.ref a) :: S.map (xtr E)))
  rw [xtr_ref (by omega)]
  exact va_lald (D := E.1) (cl := vwCl) (tys := xtys E) (ws := xws E (n, sh, hi, hl, hr)) hC.1 hC.2.1 hC.2.2.2.2.2.1.1 hR.1.1 a 1 ((xws_at (H := (n, sh, hi, hl, hr)) ha).trans (by simp only [xce, hs])) rfl hin hd (kk p l e R s m args below meth c E Q Hh locs ls hC hE hR hL)
theorem x_bald (hd : decode w.2.1 pc = .ok (.baload, 1)) (ha : a < n) (hs : sh a = (2, N)) (hin : vp_in i N) (hp : pc + 1 = pc') (kk : xR w b z k q pc' L (.int (hi a i.toNatClampNeg) :: S) (n, sh, hi, hl, hr) o) : xR w b z k q pc L (.int i :: .ref a :: S) (n, sh, hi, hl, hr) o := by
  intro p l e R s m args below meth c E Q Hh locs ls hC hE hR hL
  subst hp
  have hnn : n ≤ 1000000 := hR.1.2
  show W p l e R s m args below meth c Hh locs k q Q (F0 m pc ls (.int i :: xtr E (.ref a) :: S.map (xtr E)))
  rw [xtr_ref (by omega)]
  exact va_bald (D := E.1) (cl := vwCl) (tys := xtys E) (ws := xws E (n, sh, hi, hl, hr)) hC.1 hC.2.1 hC.2.2.2.2.2.1.1 hR.1.1 a 2 ((xws_at (H := (n, sh, hi, hl, hr)) ha).trans (by simp only [xce, hs])) rfl hin hd (kk p l e R s m args below meth c E Q Hh locs ls hC hE hR hL)
theorem x_aald3 {t : Nat} (hd : decode w.2.1 pc = .ok (.aaload, 1)) (ha : a < n) (hs : sh a = (3, N)) (hin : vp_in i N) (hv : hr a i.toNatClampNeg = some t) (hp : pc + 1 = pc') (kk : xR w b z k q pc' L (.ref t :: S) (n, sh, hi, hl, hr) o) : xR w b z k q pc L (.int i :: .ref a :: S) (n, sh, hi, hl, hr) o := by
  intro p l e R s m args below meth c E Q Hh locs ls hC hE hR hL
  subst hp
  have hnn : n ≤ 1000000 := hR.1.2
  have h1 := (kk p l e R s m args below meth c E Q Hh locs ls hC hE hR hL)
  show W p l e R s m args below meth c Hh locs k q Q (F0 m pc ls (.int i :: xtr E (.ref a) :: S.map (xtr E)))
  rw [xtr_ref (by omega)]
  refine va_aldq (D := E.1) (cl := vwCl) (tys := xtys E) (ws := xws E (n, sh, hi, hl, hr)) (C := RX2) hC.1 hC.2.1 hC.2.2.2.2.2.1.1 hR.1.1 a 3 ((xws_at (H := (n, sh, hi, hl, hr)) ha).trans (by simp only [xce, hs]; rfl)) rfl hin hd ?_
  have e1 : va_rf (Option.map (xad E) (hr a i.toNatClampNeg)) = xtr E (.ref t) := by rw [hv]; rfl
  show W p l e R s m args below meth c Hh locs k q Q (F0 m (pc + 1) ls (va_rf (Option.map (xad E) (hr a i.toNatClampNeg)) :: S.map (xtr E)))
  rw [e1]
  exact h1
theorem x_aald4 {t : Nat} (hd : decode w.2.1 pc = .ok (.aaload, 1)) (ha : a < n) (hs : sh a = (4, N)) (hin : vp_in i N) (hv : hr a i.toNatClampNeg = some t) (hp : pc + 1 = pc') (kk : xR w b z k q pc' L (.ref t :: S) (n, sh, hi, hl, hr) o) : xR w b z k q pc L (.int i :: .ref a :: S) (n, sh, hi, hl, hr) o := by
  intro p l e R s m args below meth c E Q Hh locs ls hC hE hR hL
  subst hp
  have hnn : n ≤ 1000000 := hR.1.2
  have h1 := (kk p l e R s m args below meth c E Q Hh locs ls hC hE hR hL)
  show W p l e R s m args below meth c Hh locs k q Q (F0 m pc ls (.int i :: xtr E (.ref a) :: S.map (xtr E)))
  rw [xtr_ref (by omega)]
  refine va_aldq (D := E.1) (cl := vwCl) (tys := xtys E) (ws := xws E (n, sh, hi, hl, hr)) (C := RX6) hC.1 hC.2.1 hC.2.2.2.2.2.1.1 hR.1.1 a 4 ((xws_at (H := (n, sh, hi, hl, hr)) ha).trans (by simp only [xce, hs]; rfl)) rfl hin hd ?_
  have e1 : va_rf (Option.map (xad E) (hr a i.toNatClampNeg)) = xtr E (.ref t) := by rw [hv]; rfl
  show W p l e R s m args below meth c Hh locs k q Q (F0 m (pc + 1) ls (va_rf (Option.map (xad E) (hr a i.toNatClampNeg)) :: S.map (xtr E)))
  rw [e1]
  exact h1
theorem x_iast {x : Int32} (hd : decode w.2.1 pc = .ok (.iastore, 1)) (ha : a < n) (hs : sh a = (0, N)) (hin : vp_in i N) (hp : pc + 1 = pc') (kk : xR w b z k q pc' L S (n, sh, xu hi a i.toNatClampNeg x, hl, hr) o) : xR w b z k q pc L (.int x :: .int i :: .ref a :: S) (n, sh, hi, hl, hr) o := by
  intro p l e R s m args below meth c E Q Hh locs ls hC hE hR hL
  subst hp
  have hnn : n ≤ 1000000 := hR.1.2
  show W p l e R s m args below meth c Hh locs k q Q (F0 m pc ls (.int x :: .int i :: xtr E (.ref a) :: S.map (xtr E)))
  rw [xtr_ref (by omega)]
  refine va_iast (D := E.1) (cl := vwCl) (tys := xtys E) (ws := xws E (n, sh, hi, hl, hr)) hC.1 hC.2.1 hC.2.2.2.2.2.1.1 hR.1.1 xws_D hR.2.1 a 0 ((xws_at (H := (n, sh, hi, hl, hr)) ha).trans (by simp only [xce, hs]; rfl)) rfl hin hd (fun H1 locs1 hP1 _ hS1 => ?_)
  have hset := xws_set (E := E) (H := (n, sh, hi, hl, hr)) (H' := (n, sh, xu hi a i.toNatClampNeg x, hl, hr)) ha rfl rfl (fun x hx _ => xce_congr rfl (xu_ne _ _ _ hx) rfl rfl)
  refine kk p l e R s m args below meth c E Q H1 locs1 ls hC hE ⟨⟨?_, hnn⟩, hS1, hR.2.2⟩ hL
  rw [← hset]
  simp only [xce, hs, xu_self]
  exact hP1
theorem x_last {x : Int64} (hd : decode w.2.1 pc = .ok (.lastore, 1)) (ha : a < n) (hs : sh a = (1, N)) (hin : vp_in i N) (hp : pc + 1 = pc') (kk : xR w b z k q pc' L S (n, sh, hi, xu hl a i.toNatClampNeg x, hr) o) : xR w b z k q pc L (.long x :: .int i :: .ref a :: S) (n, sh, hi, hl, hr) o := by
  intro p l e R s m args below meth c E Q Hh locs ls hC hE hR hL
  subst hp
  have hnn : n ≤ 1000000 := hR.1.2
  show W p l e R s m args below meth c Hh locs k q Q (F0 m pc ls (.long x :: .int i :: xtr E (.ref a) :: S.map (xtr E)))
  rw [xtr_ref (by omega)]
  refine va_last (D := E.1) (cl := vwCl) (tys := xtys E) (ws := xws E (n, sh, hi, hl, hr)) hC.1 hC.2.1 hC.2.2.2.2.2.1.1 hR.1.1 xws_D hR.2.1 a 1 ((xws_at (H := (n, sh, hi, hl, hr)) ha).trans (by simp only [xce, hs]; rfl)) rfl hin hd (fun H1 locs1 hP1 _ hS1 => ?_)
  have hset := xws_set (E := E) (H := (n, sh, hi, hl, hr)) (H' := (n, sh, hi, xu hl a i.toNatClampNeg x, hr)) ha rfl rfl (fun x hx _ => xce_congr rfl rfl (xu_ne _ _ _ hx) rfl)
  refine kk p l e R s m args below meth c E Q H1 locs1 ls hC hE ⟨⟨?_, hnn⟩, hS1, hR.2.2⟩ hL
  rw [← hset]
  simp only [xce, hs, xu_self]
  exact hP1
theorem x_bast {x : Int32} (hd : decode w.2.1 pc = .ok (.bastore, 1)) (ha : a < n) (hs : sh a = (2, N)) (hin : vp_in i N) (hp : pc + 1 = pc') (kk : xR w b z k q pc' L S (n, sh, xu hi a i.toNatClampNeg (vp_nar .byte x), hl, hr) o) : xR w b z k q pc L (.int x :: .int i :: .ref a :: S) (n, sh, hi, hl, hr) o := by
  intro p l e R s m args below meth c E Q Hh locs ls hC hE hR hL
  subst hp
  have hnn : n ≤ 1000000 := hR.1.2
  show W p l e R s m args below meth c Hh locs k q Q (F0 m pc ls (.int x :: .int i :: xtr E (.ref a) :: S.map (xtr E)))
  rw [xtr_ref (by omega)]
  refine va_bast (D := E.1) (cl := vwCl) (tys := xtys E) (ws := xws E (n, sh, hi, hl, hr)) hC.1 hC.2.1 hC.2.2.2.2.2.1.1 hR.1.1 xws_D hR.2.1 a 2 ((xws_at (H := (n, sh, hi, hl, hr)) ha).trans (by simp only [xce, hs]; rfl)) rfl hin hd (fun H1 locs1 hP1 _ hS1 => ?_)
  have hset := xws_set (E := E) (H := (n, sh, hi, hl, hr)) (H' := (n, sh, xu hi a i.toNatClampNeg (vp_nar .byte x), hl, hr)) ha rfl rfl (fun x hx _ => xce_congr rfl (xu_ne _ _ _ hx) rfl rfl)
  refine kk p l e R s m args below meth c E Q H1 locs1 ls hC hE ⟨⟨?_, hnn⟩, hS1, hR.2.2⟩ hL
  rw [← hset]
  simp only [xce, hs, xu_self]
  exact hP1
theorem x_aast3 {x : Nat} (hd : decode w.2.1 pc = .ok (.aastore, 1)) (ha : a < n) (hs : sh a = (3, N)) (hin : vp_in i N) (hx : x < n) (hsx : sh x = (2 + 5, xnf 2)) (hp : pc + 1 = pc') (kk : xR w b z k q pc' L S (n, sh, hi, hl, xu hr a i.toNatClampNeg (some x)) o) : xR w b z k q pc L (.ref x :: .int i :: .ref a :: S) (n, sh, hi, hl, hr) o := by
  intro p l e R s m args below meth c E Q Hh locs ls hC hE hR hL
  subst hp
  have hnn : n ≤ 1000000 := hR.1.2
  show W p l e R s m args below meth c Hh locs k q Q (F0 m pc ls (xtr E (.ref x) :: .int i :: xtr E (.ref a) :: S.map (xtr E)))
  rw [xtr_ref (by omega), xtr_ref (by omega)]
  refine va_astq (D := E.1) (cl := vwCl) (tys := xtys E) (ws := xws E (n, sh, hi, hl, hr)) (r := (RX2, TX2, xnf 2)) hC.1 hC.2.1 hC.2.2.2.2.2.1.1 hR.1.1 xws_D hR.2.1 a 3 x 2 ((xws_at (H := (n, sh, hi, hl, hr)) ha).trans (by simp only [xce, hs]; rfl)) rfl ((xws_at (H := (n, sh, hi, hl, hr)) hx).trans (by rw [xce_obj (H := (n, sh, hi, hl, hr)) hsx])) rfl hin hd (fun H1 locs1 hP1 _ hS1 => ?_)
  have hset := xws_set (E := E) (H := (n, sh, hi, hl, hr)) (H' := (n, sh, hi, hl, xu hr a i.toNatClampNeg (some x))) ha rfl rfl (fun x hx _ => xce_congr rfl rfl rfl (xu_ne _ _ _ hx))
  refine kk p l e R s m args below meth c E Q H1 locs1 ls hC hE ⟨⟨?_, hnn⟩, hS1, hR.2.2⟩ hL
  rw [← hset]
  simp only [xce, hs, xu_self]
  have e1 : (fun j => Option.map (xad E) (if j = i.toNatClampNeg then some x else hr a j)) = va_up (fun j => Option.map (xad E) (hr a j)) i.toNatClampNeg (some (E.2.2.1 + x)) := by
    funext j
    by_cases hj : j = i.toNatClampNeg
    · simp [hj, va_up, xad_new (E := E) (show x < 1000000 by omega)]
    · simp [hj, va_up]
  rw [e1]
  exact hP1
theorem x_aast4 {x : Nat} (hd : decode w.2.1 pc = .ok (.aastore, 1)) (ha : a < n) (hs : sh a = (4, N)) (hin : vp_in i N) (hx : x < n) (hsx : sh x = (5 + 5, xnf 5)) (hp : pc + 1 = pc') (kk : xR w b z k q pc' L S (n, sh, hi, hl, xu hr a i.toNatClampNeg (some x)) o) : xR w b z k q pc L (.ref x :: .int i :: .ref a :: S) (n, sh, hi, hl, hr) o := by
  intro p l e R s m args below meth c E Q Hh locs ls hC hE hR hL
  subst hp
  have hnn : n ≤ 1000000 := hR.1.2
  show W p l e R s m args below meth c Hh locs k q Q (F0 m pc ls (xtr E (.ref x) :: .int i :: xtr E (.ref a) :: S.map (xtr E)))
  rw [xtr_ref (by omega), xtr_ref (by omega)]
  refine va_astq (D := E.1) (cl := vwCl) (tys := xtys E) (ws := xws E (n, sh, hi, hl, hr)) (r := (RX6, TX6, xnf 5)) hC.1 hC.2.1 hC.2.2.2.2.2.1.1 hR.1.1 xws_D hR.2.1 a 4 x 5 ((xws_at (H := (n, sh, hi, hl, hr)) ha).trans (by simp only [xce, hs]; rfl)) rfl ((xws_at (H := (n, sh, hi, hl, hr)) hx).trans (by rw [xce_obj (H := (n, sh, hi, hl, hr)) hsx])) rfl hin hd (fun H1 locs1 hP1 _ hS1 => ?_)
  have hset := xws_set (E := E) (H := (n, sh, hi, hl, hr)) (H' := (n, sh, hi, hl, xu hr a i.toNatClampNeg (some x))) ha rfl rfl (fun x hx _ => xce_congr rfl rfl rfl (xu_ne _ _ _ hx))
  refine kk p l e R s m args below meth c E Q H1 locs1 ls hC hE ⟨⟨?_, hnn⟩, hS1, hR.2.2⟩ hL
  rw [← hset]
  simp only [xce, hs, xu_self]
  have e1 : (fun j => Option.map (xad E) (if j = i.toNatClampNeg then some x else hr a j)) = va_up (fun j => Option.map (xad E) (hr a j)) i.toNatClampNeg (some (E.2.2.1 + x)) := by
    funext j
    by_cases hj : j = i.toNatClampNeg
    · simp [hj, va_up, xad_new (E := E) (show x < 1000000 by omega)]
    · simp [hj, va_up]
  rw [e1]
  exact hP1
theorem x_getsW (hd : decode w.2.1 pc = .ok (.getstatic idx, 3)) (hl1 : Cond.fieldLink w.1 idx RX3 "WIDENS" "[I" ∈ xTB) (hp : pc + 3 = pc') (kk : xR w b z k q pc' L (.ref 1000000 :: S) (n, sh, hi, hl, hr) o) : xR w b z k q pc L S (n, sh, hi, hl, hr) o := by
  intro p l e R s m args below meth c E Q Hh locs ls hC hE hR hL
  subst hp
  exact va_gets hC.1 hC.2.1 hC.2.2.2.2.2.1.2.2.2.2.1.1 hR.2.1 hC.2.2.2.1 (hC.2.2.2.2.1 _ hl1) (fun _ h9 => h9) hd (kk p l e R s m args below meth c E Q Hh locs ls hC hE hR hL)
theorem x_getsL (hd : decode w.2.1 pc = .ok (.getstatic idx, 3)) (hl1 : Cond.fieldLink w.1 idx RX3 "LOWEST" "[J" ∈ xTB) (hp : pc + 3 = pc') (kk : xR w b z k q pc' L (.ref 1000001 :: S) (n, sh, hi, hl, hr) o) : xR w b z k q pc L S (n, sh, hi, hl, hr) o := by
  intro p l e R s m args below meth c E Q Hh locs ls hC hE hR hL
  subst hp
  exact va_gets hC.1 hC.2.1 hC.2.2.2.2.2.1.2.2.2.2.2.1.1 hR.2.1 hC.2.2.2.1 (hC.2.2.2.2.1 _ hl1) (fun _ h9 => h9) hd (kk p l e R s m args below meth c E Q Hh locs ls hC hE hR hL)
theorem x_getsH (hd : decode w.2.1 pc = .ok (.getstatic idx, 3)) (hl1 : Cond.fieldLink w.1 idx RX3 "HIGHEST" "[J" ∈ xTB) (hp : pc + 3 = pc') (kk : xR w b z k q pc' L (.ref 1000002 :: S) (n, sh, hi, hl, hr) o) : xR w b z k q pc L S (n, sh, hi, hl, hr) o := by
  intro p l e R s m args below meth c E Q Hh locs ls hC hE hR hL
  subst hp
  exact va_gets hC.1 hC.2.1 hC.2.2.2.2.2.1.2.2.2.2.2.2.1.1 hR.2.1 hC.2.2.2.1 (hC.2.2.2.2.1 _ hl1) (fun _ h9 => h9) hd (kk p l e R s m args below meth c E Q Hh locs ls hC hE hR hL)
theorem x_sldW (hd : decode w.2.1 pc = .ok (.iaload, 1)) (hin : vp_in i 8) (hp : pc + 1 = pc') (kk : xR w b z k q pc' L (.int (xwid i.toNatClampNeg) :: S) (n, sh, hi, hl, hr) o) : xR w b z k q pc L (.int i :: .ref 1000000 :: S) (n, sh, hi, hl, hr) o := by
  intro p l e R s m args below meth c E Q Hh locs ls hC hE hR hL
  subst hp
  exact va_ti hC.1 hC.2.1 hC.2.2.2.2.2.1.2.2.2.2.1.2 hR.2.1 hin rfl hd (kk p l e R s m args below meth c E Q Hh locs ls hC hE hR hL)
theorem x_sldL (hd : decode w.2.1 pc = .ok (.laload, 1)) (hin : vp_in i 8) (hp : pc + 1 = pc') (kk : xR w b z k q pc' L (.long (xlow i.toNatClampNeg) :: S) (n, sh, hi, hl, hr) o) : xR w b z k q pc L (.int i :: .ref 1000001 :: S) (n, sh, hi, hl, hr) o := by
  intro p l e R s m args below meth c E Q Hh locs ls hC hE hR hL
  subst hp
  exact va_tl hC.1 hC.2.1 hC.2.2.2.2.2.1.2.2.2.2.2.1.2 hR.2.1 hin rfl hd (kk p l e R s m args below meth c E Q Hh locs ls hC hE hR hL)
theorem x_sldH (hd : decode w.2.1 pc = .ok (.laload, 1)) (hin : vp_in i 8) (hp : pc + 1 = pc') (kk : xR w b z k q pc' L (.long (xhig i.toNatClampNeg) :: S) (n, sh, hi, hl, hr) o) : xR w b z k q pc L (.int i :: .ref 1000002 :: S) (n, sh, hi, hl, hr) o := by
  intro p l e R s m args below meth c E Q Hh locs ls hC hE hR hL
  subst hp
  exact va_tl hC.1 hC.2.1 hC.2.2.2.2.2.1.2.2.2.2.2.2.1.2 hR.2.1 hin rfl hd (kk p l e R s m args below meth c E Q Hh locs ls hC hE hR hL)
theorem x_scl (hd : decode w.2.1 pc = .ok (.arraylength, 1)) (hp : pc + 1 = pc') (kk : xR w b z k q pc' L (.int (Int32.ofNat z.1) :: S) (n, sh, hi, hl, hr) o) : xR w b z k q pc L (.ref 1000003 :: S) (n, sh, hi, hl, hr) o := by
  intro p l e R s m args below meth c E Q Hh locs ls hC hE hR hL
  subst hp
  obtain ⟨g1, g2, g3⟩ := hC.2.2.2.2.2.1.2.2.2.2.2.2.2
  exact va_slen (A := xA E) (b := E.2.2.2 3) hC.1 hC.2.1 g1 g3 (fun h => by simp only [xA] at h; omega) hR.2.1 hd (kk p l e R s m args below meth c E Q Hh locs ls hC hE hR hL)
theorem x_scld (hd : decode w.2.1 pc = .ok (.iaload, 1)) (hin : vp_in i z.1) (hp : pc + 1 = pc') (kk : xR w b z k q pc' L (.int (z.2 i.toNatClampNeg) :: S) (n, sh, hi, hl, hr) o) : xR w b z k q pc L (.int i :: .ref 1000003 :: S) (n, sh, hi, hl, hr) o := by
  intro p l e R s m args below meth c E Q Hh locs ls hC hE hR hL
  subst hp
  obtain ⟨g1, g2, g3⟩ := hC.2.2.2.2.2.1.2.2.2.2.2.2.2
  exact va_sld (A := xA E) (b := E.2.2.2 3) hC.1 hC.2.1 g1 g3 (fun h => by simp only [xA] at h; omega) hR.2.1 hin hd (kk p l e R s m args below meth c E Q Hh locs ls hC hE hR hL)
end XG
section XY
variable {w : xWt} {b : xBd} {z : xZ} {k q pc pc' a a0 idx N N0 : Nat} {L : List (Option Value)} {S : List Value} {o : xOut} {n : Nat} {sh : Nat → Nat × Nat} {hi : Nat → Nat → Int32} {hl : Nat → Nat → Int64} {hr : Nat → Nat → Option Nat} {sp dp cn : Int32}
def xcp {α : Type} (f : Nat → Nat → α) (a0 a sp dp cn : Nat) : Nat → Nat → α := fun x => if x = a then va_cpy (f a0) (f a) sp dp cn else f x
theorem xcp_ne {α : Type} (f : Nat → Nat → α) {a x : Nat} (a0 sp dp cn : Nat) (h : x ≠ a) : xcp f a0 a sp dp cn x = f x := by simp [xcp, h]
theorem xcp_self {α : Type} (f : Nat → Nat → α) (a a0 sp dp cn : Nat) : xcp f a0 a sp dp cn a = va_cpy (f a0) (f a) sp dp cn := by simp [xcp]
def xnoMo (cn dp sp : Int32) (N0 N : Nat) : Prop := ¬ sp < 0 ∧ ¬ dp < 0 ∧ ¬ cn < 0 ∧ sp.toNatClampNeg + cn.toNatClampNeg ≤ N0 ∧ dp.toNatClampNeg + cn.toNatClampNeg ≤ N
theorem x_copi (hd : decode w.2.1 pc = .ok (.invokestatic idx, 3)) (hlk : Cond.methodLink w.1 idx arraycopyName ∈ xTB) (hnt : Cond.native arraycopyName ∈ xTB) (hst : Cond.static arraycopyName ∈ xTB) (hin : Cond.initialized "java/lang/System" ∈ xTB) (ha : a < n) (hs : sh a = (0, N)) (ha0 : a0 < n) (hs0 : sh a0 = (0, N0)) (hm : xnoMo cn dp sp N0 N) (hS : (S.map fun v => v.category).sum ≤ 8) (hb1 : 1 ≤ b.1) (hp : pc + 3 = pc')
    (kk : xR w b z k q pc' L S (n, sh, xcp hi a0 a sp.toNatClampNeg dp.toNatClampNeg cn.toNatClampNeg, hl, hr) o) : xR w b z k q pc L (.int cn :: .int dp :: .ref a :: .int sp :: .ref a0 :: S) (n, sh, hi, hl, hr) o := by
  intro p l e R s m args below meth c E Q Hh locs ls hC hE hR hL
  subst hp
  have hnn : n ≤ 1000000 := hR.1.2
  obtain ⟨h1, h2, h3, h4, h5⟩ := hm
  show W p l e R s m args below meth c Hh locs k q Q (F0 m pc ls (.int cn :: .int dp :: xtr E (.ref a) :: .int sp :: xtr E (.ref a0) :: S.map (xtr E)))
  rw [xtr_ref (by omega), xtr_ref (by omega)]
  have hcat : ((S.map (xtr E)).map fun v => v.category).sum = (S.map fun v => v.category).sum := by
    rw [List.map_map]
    exact congrArg List.sum (List.map_congr_left (fun v _ => xtr_cat E v))
  have hfr := hC.2.2.2.2.2.2.2.2.1
  have hlo := hC.2.2.2.2.2.2.2.2.2.1
  refine va_copyi (D := E.1) (cl := vwCl) (tys := xtys E) (ws := xws E (n, sh, hi, hl, hr)) (ty := .int) hC.1 hC.2.1 (hC.2.2.1.trans hL.2.1.symm) hC.2.2.2.1 (hC.2.2.2.2.1 _ hlk) (hC.2.2.2.2.1 _ hnt) (hC.2.2.2.2.1 _ hst) (hC.2.2.2.2.1 _ hin) hC.2.2.2.2.2.1.1 hR.1.1 xws_D hR.2.1 a0 a 0 0 ((xws_at (H := (n, sh, hi, hl, hr)) ha0).trans (by simp only [xce, hs0]; rfl)) ((xws_at (H := (n, sh, hi, hl, hr)) ha).trans (by simp only [xce, hs]; rfl)) rfl rfl rfl h1 h2 h3 h4 h5 (fun _ _ => rfl) (by omega) ?_ hd (fun H1 locs1 hP1 _ hS1 => ?_)
  · rw [hcat]
    have e9 : nativeFrameWords "java/lang/System" "arraycopy" 5 + 11 ≤ 60 := by decide +kernel
    omega
  · have hset := xws_set (E := E) (H := (n, sh, hi, hl, hr)) (H' := (n, sh, xcp hi a0 a sp.toNatClampNeg dp.toNatClampNeg cn.toNatClampNeg, hl, hr)) ha rfl rfl (fun x hx _ => xce_congr rfl (xcp_ne _ _ _ _ _ hx) rfl rfl)
    refine kk p l e R s m args below meth c E Q H1 locs1 ls hC hE ⟨⟨?_, hnn⟩, hS1, hR.2.2⟩ hL
    rw [← hset]
    simp only [xce, hs, xcp_self]
    exact hP1
theorem x_copl (hd : decode w.2.1 pc = .ok (.invokestatic idx, 3)) (hlk : Cond.methodLink w.1 idx arraycopyName ∈ xTB) (hnt : Cond.native arraycopyName ∈ xTB) (hst : Cond.static arraycopyName ∈ xTB) (hin : Cond.initialized "java/lang/System" ∈ xTB) (ha : a < n) (hs : sh a = (1, N)) (ha0 : a0 < n) (hs0 : sh a0 = (1, N0)) (hm : xnoMo cn dp sp N0 N) (hS : (S.map fun v => v.category).sum ≤ 8) (hb1 : 1 ≤ b.1) (hp : pc + 3 = pc')
    (kk : xR w b z k q pc' L S (n, sh, hi, xcp hl a0 a sp.toNatClampNeg dp.toNatClampNeg cn.toNatClampNeg, hr) o) : xR w b z k q pc L (.int cn :: .int dp :: .ref a :: .int sp :: .ref a0 :: S) (n, sh, hi, hl, hr) o := by
  intro p l e R s m args below meth c E Q Hh locs ls hC hE hR hL
  subst hp
  have hnn : n ≤ 1000000 := hR.1.2
  obtain ⟨h1, h2, h3, h4, h5⟩ := hm
  show W p l e R s m args below meth c Hh locs k q Q (F0 m pc ls (.int cn :: .int dp :: xtr E (.ref a) :: .int sp :: xtr E (.ref a0) :: S.map (xtr E)))
  rw [xtr_ref (by omega), xtr_ref (by omega)]
  have hcat : ((S.map (xtr E)).map fun v => v.category).sum = (S.map fun v => v.category).sum := by
    rw [List.map_map]
    exact congrArg List.sum (List.map_congr_left (fun v _ => xtr_cat E v))
  have hfr := hC.2.2.2.2.2.2.2.2.1
  have hlo := hC.2.2.2.2.2.2.2.2.2.1
  refine va_copyl (D := E.1) (cl := vwCl) (tys := xtys E) (ws := xws E (n, sh, hi, hl, hr)) (ty := .long) hC.1 hC.2.1 (hC.2.2.1.trans hL.2.1.symm) hC.2.2.2.1 (hC.2.2.2.2.1 _ hlk) (hC.2.2.2.2.1 _ hnt) (hC.2.2.2.2.1 _ hst) (hC.2.2.2.2.1 _ hin) hC.2.2.2.2.2.1.1 hR.1.1 xws_D hR.2.1 a0 a 1 1 ((xws_at (H := (n, sh, hi, hl, hr)) ha0).trans (by simp only [xce, hs0]; rfl)) ((xws_at (H := (n, sh, hi, hl, hr)) ha).trans (by simp only [xce, hs]; rfl)) rfl rfl rfl h1 h2 h3 h4 h5 (fun _ _ => rfl) (by omega) ?_ hd (fun H1 locs1 hP1 _ hS1 => ?_)
  · rw [hcat]
    have e9 : nativeFrameWords "java/lang/System" "arraycopy" 5 + 11 ≤ 60 := by decide +kernel
    omega
  · have hset := xws_set (E := E) (H := (n, sh, hi, hl, hr)) (H' := (n, sh, hi, xcp hl a0 a sp.toNatClampNeg dp.toNatClampNeg cn.toNatClampNeg, hr)) ha rfl rfl (fun x hx _ => xce_congr rfl rfl (xcp_ne _ _ _ _ _ hx) rfl)
    refine kk p l e R s m args below meth c E Q H1 locs1 ls hC hE ⟨⟨?_, hnn⟩, hS1, hR.2.2⟩ hL
    rw [← hset]
    simp only [xce, hs, xcp_self]
    exact hP1
end XY
end
section
def xsu (sh : Nat → Nat × Nat) (n : Nat) (v : Nat × Nat) : Nat → Nat × Nat := fun a => if a = n then v else sh a
def xz {α : Type} (f : Nat → Nat → α) (n : Nat) (d : α) : Nat → Nat → α := fun a => if a = n then fun _ => d else f a
theorem xz_ne {α : Type} (f : Nat → Nat → α) {n a : Nat} (d : α) (h : a ≠ n) : xz f n d a = f a := by simp [xz, h]
theorem xz_self {α : Type} (f : Nat → Nat → α) (n : Nat) (d : α) : xz f n d n = fun _ => d := by simp [xz]
def xCls (ci : Nat) (C : String) : Prop := ∃ (T : u_T) (N : Nat) (ty0 : Nat → FieldType), vwCl[ci]? = some (C, T, N) ∧ (∀ t ∈ u_ws C T N, t ∈ xTB) ∧ (∀ k, k < N → parseFieldDescriptor (T k).2.2.1 = some (ty0 k)) ∧ N = xnf ci ∧ Cond.instantiable C N ∈ xTB ∧ Cond.initialized C ∈ xTB ∧ (∀ j, j < N → defaultValue (ty0 j) = match xft ci j with | 0 => .int 0 | 1 => .long 0 | _ => .null)
theorem xnew_addr {E : xE} {H : xHp} {qn : Nat} {x : va_E} {H1 : Heap} (hP : va_P E.1 vwCl (xws E H ++ [(qn, x)]) H1) (hD : va_D (xA E) (xws E H ++ [(qn, x)])) (hz : H1.size ≤ E.2.2.1 + H.1 + 1) : qn = E.2.2.1 + H.1 := by
  have hlen : (xws E H).length = H.1 := by simp [xws]
  have hn : (xws E H ++ [(qn, x)])[H.1]? = some (qn, x) := by rw [List.getElem?_append_right (by omega), hlen, Nat.sub_self]; rfl
  have h1 : qn < H1.size := (hP _ _ hn).lt
  have h2 : E.2.2.1 ≤ qn := hD.2 _ _ hn
  by_cases h3 : qn < E.2.2.1 + H.1
  · have hi : (xws E H ++ [(qn, x)])[qn - E.2.2.1]? = some (E.2.2.1 + (qn - E.2.2.1), xce E H (qn - E.2.2.1)) := by
      rw [List.getElem?_append_left (by omega)]
      exact xws_at (by omega)
    have := hD.1 _ _ _ _ hi hn (by simp only; omega)
    omega
  · omega
section XN
variable {w : xWt} {b : xBd} {z : xZ} {k q pc pc' a idx ci : Nat} {L : List (Option Value)} {S : List Value} {o : xOut} {n : Nat} {sh : Nat → Nat × Nat} {hi : Nat → Nat → Int32} {hl : Nat → Nat → Int64} {hr : Nat → Nat → Option Nat}
theorem x_new {C : String} (hd : decode w.2.1 pc = .ok (.new idx, 3)) (hcl : Cond.classLink w.1 idx C ∈ xTB) (hK : xCls ci C) (hk : k + 1 ≤ b.2.1) (hq : q + xnf ci ≤ b.2.2) (hn : n + 1 ≤ 1000000) (hp : pc + 3 = pc')
    (kk : xR w b z (k + 1) (q + xnf ci) pc' L (.ref n :: S) (n + 1, xsu sh n (ci + 5, xnf ci), xz hi n 0, xz hl n 0, xz hr n none) o) : xR w b z k q pc L S (n, sh, hi, hl, hr) o := by
  intro p l e R s m args below meth c E Q Hh locs ls hC hE hR hL
  subst hp
  obtain ⟨T, N, ty0, hc, hin, hty, rfl, hinst, hini, hdef⟩ := hK
  refine va_new (D := E.1) (cl := vwCl) (tys := xtys E) (ws := xws E (n, sh, hi, hl, hr)) (A := xA E) (H0 := s.heap) hC.1 hC.2.1 hC.2.2.2.2.1 hin ty0 hty hC.2.2.2.1 (hC.2.2.2.2.1 _ hcl) (hC.2.2.2.2.1 _ hinst) (hC.2.2.2.2.1 _ hini) hC.2.2.2.2.2.1.1 hR.1.1 xws_D hR.2.1 (fun x hx => by have h9 := hC.2.2.2.2.2.2.1; simp only [xA]; omega) hc
    (fs := (List.range (xnf ci)).map (fun j => match xft ci j with | 0 => .int 0 | 1 => .long 0 | _ => .null)) (fun j hj => by rw [hdef j hj]; simp [vp_V, hj]) (Nat.le_trans hk hC.2.2.2.2.2.2.2.2.2.2.1) (Nat.le_trans hq hC.2.2.2.2.2.2.2.2.2.2.2) hd (fun qn H1 hP1 hD1 hS1 => ?_)
  intro T2 hT2 X2
  have hz2 : H1.size ≤ E.2.2.1 + n + 1 := by
    have h8 := X2.heapSize
    have h9 : s.heap.size + k = E.2.2.1 + n := hR.2.2
    rw [hT2] at h8
    omega
  obtain rfl := xnew_addr (H := (n, sh, hi, hl, hr)) hP1 hD1 hz2
  have hps := xws_push (E := E) (H := (n, sh, hi, hl, hr)) (H' := (n + 1, xsu sh n (ci + 5, xnf ci), xz hi n 0, xz hl n 0, xz hr n none)) (x := .inr (ci, (List.range (xnf ci)).map (fun j => match xft ci j with | 0 => .int 0 | 1 => .long 0 | _ => .null))) rfl (by
      rw [xce_obj (H := (n + 1, xsu sh n (ci + 5, xnf ci), xz hi n 0, xz hl n 0, xz hr n none)) (ci := ci) (N := xnf ci) (by simp [xsu])]
      congr 2
      apply List.map_congr_left
      intro j _
      simp only [xfv, xz_self]
      split <;> simp_all [va_rf]) (fun x hx => by
      have hx : x < n := hx
      exact xce_congr (by simp [xsu, Nat.ne_of_lt hx]) (xz_ne _ _ (Nat.ne_of_lt hx)) (xz_ne _ _ (Nat.ne_of_lt hx)) (xz_ne _ _ (Nat.ne_of_lt hx)))
  rw [hps] at hP1
  have h9 : s.heap.size + k = E.2.2.1 + n := hR.2.2
  have h1 := kk p l e R s m args below meth c E Q H1 locs ls hC hE ⟨⟨hP1, hn⟩, hS1, by show s.heap.size + (k + 1) = E.2.2.1 + (n + 1); omega⟩ hL
  have e1 : ((.ref n :: S).map (xtr E)) = .ref (E.2.2.1 + n) :: S.map (xtr E) := by rw [List.map_cons, xtr_ref (by omega)]
  rw [e1] at h1
  exact h1 T2 hT2 X2
theorem x_newi {cn : Int32} {N : Nat} (hd : decode w.2.1 pc = .ok (.newarray .int, 2)) (hac : Cond.arrayClass .int ∈ xTB) (hn0 : ¬ cn < 0) (hN : cn.toNatClampNeg = N) (hby : N * componentBytes .int ≤ 536870912) (hk : k + 1 ≤ b.2.1) (hq : q + N ≤ b.2.2) (hn : n + 1 ≤ 1000000) (hp : pc + 2 = pc')
    (kk : xR w b z (k + 1) (q + N) pc' L (.ref n :: S) (n + 1, xsu sh n (0, N), xz hi n 0, xz hl n 0, xz hr n none) o) : xR w b z k q pc L (.int cn :: S) (n, sh, hi, hl, hr) o := by
  intro p l e R s m args below meth c E Q Hh locs ls hC hE hR hL
  subst hp
  refine va_newa (D := E.1) (cl := vwCl) (tys := xtys E) (ws := xws E (n, sh, hi, hl, hr)) (A := xA E) (H0 := s.heap) (atype := .int) (ty := .int) (a0 := (N, .inl (fun _ => 0))) hC.1 hC.2.1 (hC.2.2.2.2.1 _ hac) rfl hC.2.2.2.2.2.1.1 hR.1.1 xws_D hR.2.1 (fun x hx => by have h9 := hC.2.2.2.2.2.2.1; simp only [xA]; omega)
    (fun cA => rfl) hn0 hN hby (Nat.le_trans hk hC.2.2.2.2.2.2.2.2.2.2.1) (Nat.le_trans hq hC.2.2.2.2.2.2.2.2.2.2.2) hd (fun qn cA H1 hK1 hP1 hD1 hS1 => ?_)
  intro T2 hT2 X2
  have hcA : cA = E.2.1 0 := Option.some.inj (((hK1.2 5 (cA, .int) rfl).2 : s.vm.findClass _ = some cA).symm.trans ((hK1.2 0 (E.2.1 0, .int) rfl).2 : s.vm.findClass _ = some (E.2.1 0)))
  subst hcA
  have hz2 : H1.size ≤ E.2.2.1 + n + 1 := by
    have h8 := X2.heapSize
    have h9 : s.heap.size + k = E.2.2.1 + n := hR.2.2
    rw [hT2] at h8
    omega
  obtain rfl := xnew_addr (H := (n, sh, hi, hl, hr)) hP1 hD1 hz2
  have hps := xws_push (E := E) (H := (n, sh, hi, hl, hr)) (H' := (n + 1, xsu sh n (0, N), xz hi n 0, xz hl n 0, xz hr n none)) (x := .inl (E.2.1 0, N, .inl (fun _ => 0))) rfl (by
      simp [xce, xsu, xz]) (fun x hx => by
      have hx : x < n := hx
      exact xce_congr (by simp [xsu, Nat.ne_of_lt hx]) (xz_ne _ _ (Nat.ne_of_lt hx)) (xz_ne _ _ (Nat.ne_of_lt hx)) (xz_ne _ _ (Nat.ne_of_lt hx)))
  rw [hps] at hP1
  have h9 : s.heap.size + k = E.2.2.1 + n := hR.2.2
  have h1 := kk p l e R s m args below meth c E Q H1 locs ls hC hE ⟨⟨hP1, hn⟩, hS1, by show s.heap.size + (k + 1) = E.2.2.1 + (n + 1); omega⟩ hL
  have e1 : ((.ref n :: S).map (xtr E)) = .ref (E.2.2.1 + n) :: S.map (xtr E) := by rw [List.map_cons, xtr_ref (by omega)]
  rw [e1] at h1
  exact h1 T2 hT2 X2
theorem x_newl {cn : Int32} {N : Nat} (hd : decode w.2.1 pc = .ok (.newarray .long, 2)) (hac : Cond.arrayClass .long ∈ xTB) (hn0 : ¬ cn < 0) (hN : cn.toNatClampNeg = N) (hby : N * componentBytes .long ≤ 536870912) (hk : k + 1 ≤ b.2.1) (hq : q + N ≤ b.2.2) (hn : n + 1 ≤ 1000000) (hp : pc + 2 = pc')
    (kk : xR w b z (k + 1) (q + N) pc' L (.ref n :: S) (n + 1, xsu sh n (1, N), xz hi n 0, xz hl n 0, xz hr n none) o) : xR w b z k q pc L (.int cn :: S) (n, sh, hi, hl, hr) o := by
  intro p l e R s m args below meth c E Q Hh locs ls hC hE hR hL
  subst hp
  refine va_newa (D := E.1) (cl := vwCl) (tys := xtys E) (ws := xws E (n, sh, hi, hl, hr)) (A := xA E) (H0 := s.heap) (atype := .long) (ty := .long) (a0 := (N, .inr (.inl (fun _ => 0)))) hC.1 hC.2.1 (hC.2.2.2.2.1 _ hac) rfl hC.2.2.2.2.2.1.1 hR.1.1 xws_D hR.2.1 (fun x hx => by have h9 := hC.2.2.2.2.2.2.1; simp only [xA]; omega)
    (fun cA => rfl) hn0 hN hby (Nat.le_trans hk hC.2.2.2.2.2.2.2.2.2.2.1) (Nat.le_trans hq hC.2.2.2.2.2.2.2.2.2.2.2) hd (fun qn cA H1 hK1 hP1 hD1 hS1 => ?_)
  intro T2 hT2 X2
  have hcA : cA = E.2.1 1 := Option.some.inj (((hK1.2 5 (cA, .long) rfl).2 : s.vm.findClass _ = some cA).symm.trans ((hK1.2 1 (E.2.1 1, .long) rfl).2 : s.vm.findClass _ = some (E.2.1 1)))
  subst hcA
  have hz2 : H1.size ≤ E.2.2.1 + n + 1 := by
    have h8 := X2.heapSize
    have h9 : s.heap.size + k = E.2.2.1 + n := hR.2.2
    rw [hT2] at h8
    omega
  obtain rfl := xnew_addr (H := (n, sh, hi, hl, hr)) hP1 hD1 hz2
  have hps := xws_push (E := E) (H := (n, sh, hi, hl, hr)) (H' := (n + 1, xsu sh n (1, N), xz hi n 0, xz hl n 0, xz hr n none)) (x := .inl (E.2.1 1, N, .inr (.inl (fun _ => 0)))) rfl (by
      simp [xce, xsu, xz]) (fun x hx => by
      have hx : x < n := hx
      exact xce_congr (by simp [xsu, Nat.ne_of_lt hx]) (xz_ne _ _ (Nat.ne_of_lt hx)) (xz_ne _ _ (Nat.ne_of_lt hx)) (xz_ne _ _ (Nat.ne_of_lt hx)))
  rw [hps] at hP1
  have h9 : s.heap.size + k = E.2.2.1 + n := hR.2.2
  have h1 := kk p l e R s m args below meth c E Q H1 locs ls hC hE ⟨⟨hP1, hn⟩, hS1, by show s.heap.size + (k + 1) = E.2.2.1 + (n + 1); omega⟩ hL
  have e1 : ((.ref n :: S).map (xtr E)) = .ref (E.2.2.1 + n) :: S.map (xtr E) := by rw [List.map_cons, xtr_ref (by omega)]
  rw [e1] at h1
  exact h1 T2 hT2 X2
theorem x_newb {cn : Int32} {N : Nat} (hd : decode w.2.1 pc = .ok (.newarray .byte, 2)) (hac : Cond.arrayClass .byte ∈ xTB) (hn0 : ¬ cn < 0) (hN : cn.toNatClampNeg = N) (hby : N * componentBytes .byte ≤ 536870912) (hk : k + 1 ≤ b.2.1) (hq : q + N ≤ b.2.2) (hn : n + 1 ≤ 1000000) (hp : pc + 2 = pc')
    (kk : xR w b z (k + 1) (q + N) pc' L (.ref n :: S) (n + 1, xsu sh n (2, N), xz hi n 0, xz hl n 0, xz hr n none) o) : xR w b z k q pc L (.int cn :: S) (n, sh, hi, hl, hr) o := by
  intro p l e R s m args below meth c E Q Hh locs ls hC hE hR hL
  subst hp
  refine va_newa (D := E.1) (cl := vwCl) (tys := xtys E) (ws := xws E (n, sh, hi, hl, hr)) (A := xA E) (H0 := s.heap) (atype := .byte) (ty := .byte) (a0 := (N, .inl (fun _ => 0))) hC.1 hC.2.1 (hC.2.2.2.2.1 _ hac) rfl hC.2.2.2.2.2.1.1 hR.1.1 xws_D hR.2.1 (fun x hx => by have h9 := hC.2.2.2.2.2.2.1; simp only [xA]; omega)
    (fun cA => rfl) hn0 hN hby (Nat.le_trans hk hC.2.2.2.2.2.2.2.2.2.2.1) (Nat.le_trans hq hC.2.2.2.2.2.2.2.2.2.2.2) hd (fun qn cA H1 hK1 hP1 hD1 hS1 => ?_)
  intro T2 hT2 X2
  have hcA : cA = E.2.1 2 := Option.some.inj (((hK1.2 5 (cA, .byte) rfl).2 : s.vm.findClass _ = some cA).symm.trans ((hK1.2 2 (E.2.1 2, .byte) rfl).2 : s.vm.findClass _ = some (E.2.1 2)))
  subst hcA
  have hz2 : H1.size ≤ E.2.2.1 + n + 1 := by
    have h8 := X2.heapSize
    have h9 : s.heap.size + k = E.2.2.1 + n := hR.2.2
    rw [hT2] at h8
    omega
  obtain rfl := xnew_addr (H := (n, sh, hi, hl, hr)) hP1 hD1 hz2
  have hps := xws_push (E := E) (H := (n, sh, hi, hl, hr)) (H' := (n + 1, xsu sh n (2, N), xz hi n 0, xz hl n 0, xz hr n none)) (x := .inl (E.2.1 2, N, .inl (fun _ => 0))) rfl (by
      simp [xce, xsu, xz]) (fun x hx => by
      have hx : x < n := hx
      exact xce_congr (by simp [xsu, Nat.ne_of_lt hx]) (xz_ne _ _ (Nat.ne_of_lt hx)) (xz_ne _ _ (Nat.ne_of_lt hx)) (xz_ne _ _ (Nat.ne_of_lt hx)))
  rw [hps] at hP1
  have h9 : s.heap.size + k = E.2.2.1 + n := hR.2.2
  have h1 := kk p l e R s m args below meth c E Q H1 locs ls hC hE ⟨⟨hP1, hn⟩, hS1, by show s.heap.size + (k + 1) = E.2.2.1 + (n + 1); omega⟩ hL
  have e1 : ((.ref n :: S).map (xtr E)) = .ref (E.2.2.1 + n) :: S.map (xtr E) := by rw [List.map_cons, xtr_ref (by omega)]
  rw [e1] at h1
  exact h1 T2 hT2 X2
theorem x_newq3 {cn : Int32} {N : Nat} (hd : decode w.2.1 pc = .ok (.anewarray idx, 3)) (hcl : Cond.classLink w.1 idx RX2 ∈ xTB) (hn0 : ¬ cn < 0) (hN : cn.toNatClampNeg = N) (hby : N * 4 ≤ 536870912) (hk : k + 1 ≤ b.2.1) (hq : q + N ≤ b.2.2) (hn : n + 1 ≤ 1000000) (hp : pc + 3 = pc')
    (kk : xR w b z (k + 1) (q + N) pc' L (.ref n :: S) (n + 1, xsu sh n (3, N), xz hi n 0, xz hl n 0, xz hr n none) o) : xR w b z k q pc L (.int cn :: S) (n, sh, hi, hl, hr) o := by
  intro p l e R s m args below meth c E Q Hh locs ls hC hE hR hL
  subst hp
  refine va_newq (D := E.1) (cl := vwCl) (tys := xtys E) (ws := xws E (n, sh, hi, hl, hr)) (A := xA E) (H0 := s.heap) (C := RX2) hC.1 hC.2.1 hC.2.2.2.1 (hC.2.2.2.2.1 _ hcl) hC.2.2.2.2.2.1.2.2.1 hC.2.2.2.2.2.1.1 hR.1.1 xws_D hR.2.1 (fun x hx => by have h9 := hC.2.2.2.2.2.2.1; simp only [xA]; omega)
    hn0 hN hby (Nat.le_trans hk hC.2.2.2.2.2.2.2.2.2.2.1) (Nat.le_trans hq hC.2.2.2.2.2.2.2.2.2.2.2) hd (fun qn cA H1 hK1 hP1 hD1 hS1 => ?_)
  intro T2 hT2 X2
  have hcA : cA = E.2.1 3 := by
    obtain ⟨_, _, _, _, _, f1⟩ := ((hK1.2 5 (cA, .object RX2) rfl).2 : va_RA s cA (.object RX2))
    obtain ⟨_, _, _, _, _, f2⟩ := ((hK1.2 3 (E.2.1 3, .object RX2) rfl).2 : va_RA s (E.2.1 3) (.object RX2))
    exact Option.some.inj (f1.symm.trans f2)
  subst hcA
  have hz2 : H1.size ≤ E.2.2.1 + n + 1 := by
    have h8 := X2.heapSize
    have h9 : s.heap.size + k = E.2.2.1 + n := hR.2.2
    rw [hT2] at h8
    omega
  obtain rfl := xnew_addr (H := (n, sh, hi, hl, hr)) hP1 hD1 hz2
  have hps := xws_push (E := E) (H := (n, sh, hi, hl, hr)) (H' := (n + 1, xsu sh n (3, N), xz hi n 0, xz hl n 0, xz hr n none)) (x := .inl (E.2.1 3, N, .inr (.inr (.inr (.inr (fun _ => none)))))) rfl (by
      simp [xce, xsu, xz]) (fun x hx => by
      have hx : x < n := hx
      exact xce_congr (by simp [xsu, Nat.ne_of_lt hx]) (xz_ne _ _ (Nat.ne_of_lt hx)) (xz_ne _ _ (Nat.ne_of_lt hx)) (xz_ne _ _ (Nat.ne_of_lt hx)))
  rw [hps] at hP1
  have h9 : s.heap.size + k = E.2.2.1 + n := hR.2.2
  have h1 := kk p l e R s m args below meth c E Q H1 locs ls hC hE ⟨⟨hP1, hn⟩, hS1, by show s.heap.size + (k + 1) = E.2.2.1 + (n + 1); omega⟩ hL
  have e1 : ((.ref n :: S).map (xtr E)) = .ref (E.2.2.1 + n) :: S.map (xtr E) := by rw [List.map_cons, xtr_ref (by omega)]
  rw [e1] at h1
  exact h1 T2 hT2 X2
theorem x_newq4 {cn : Int32} {N : Nat} (hd : decode w.2.1 pc = .ok (.anewarray idx, 3)) (hcl : Cond.classLink w.1 idx RX6 ∈ xTB) (hn0 : ¬ cn < 0) (hN : cn.toNatClampNeg = N) (hby : N * 4 ≤ 536870912) (hk : k + 1 ≤ b.2.1) (hq : q + N ≤ b.2.2) (hn : n + 1 ≤ 1000000) (hp : pc + 3 = pc')
    (kk : xR w b z (k + 1) (q + N) pc' L (.ref n :: S) (n + 1, xsu sh n (4, N), xz hi n 0, xz hl n 0, xz hr n none) o) : xR w b z k q pc L (.int cn :: S) (n, sh, hi, hl, hr) o := by
  intro p l e R s m args below meth c E Q Hh locs ls hC hE hR hL
  subst hp
  refine va_newq (D := E.1) (cl := vwCl) (tys := xtys E) (ws := xws E (n, sh, hi, hl, hr)) (A := xA E) (H0 := s.heap) (C := RX6) hC.1 hC.2.1 hC.2.2.2.1 (hC.2.2.2.2.1 _ hcl) hC.2.2.2.2.2.1.2.2.2.1 hC.2.2.2.2.2.1.1 hR.1.1 xws_D hR.2.1 (fun x hx => by have h9 := hC.2.2.2.2.2.2.1; simp only [xA]; omega)
    hn0 hN hby (Nat.le_trans hk hC.2.2.2.2.2.2.2.2.2.2.1) (Nat.le_trans hq hC.2.2.2.2.2.2.2.2.2.2.2) hd (fun qn cA H1 hK1 hP1 hD1 hS1 => ?_)
  intro T2 hT2 X2
  have hcA : cA = E.2.1 4 := by
    obtain ⟨_, _, _, _, _, f1⟩ := ((hK1.2 5 (cA, .object RX6) rfl).2 : va_RA s cA (.object RX6))
    obtain ⟨_, _, _, _, _, f2⟩ := ((hK1.2 4 (E.2.1 4, .object RX6) rfl).2 : va_RA s (E.2.1 4) (.object RX6))
    exact Option.some.inj (f1.symm.trans f2)
  subst hcA
  have hz2 : H1.size ≤ E.2.2.1 + n + 1 := by
    have h8 := X2.heapSize
    have h9 : s.heap.size + k = E.2.2.1 + n := hR.2.2
    rw [hT2] at h8
    omega
  obtain rfl := xnew_addr (H := (n, sh, hi, hl, hr)) hP1 hD1 hz2
  have hps := xws_push (E := E) (H := (n, sh, hi, hl, hr)) (H' := (n + 1, xsu sh n (4, N), xz hi n 0, xz hl n 0, xz hr n none)) (x := .inl (E.2.1 4, N, .inr (.inr (.inr (.inr (fun _ => none)))))) rfl (by
      simp [xce, xsu, xz]) (fun x hx => by
      have hx : x < n := hx
      exact xce_congr (by simp [xsu, Nat.ne_of_lt hx]) (xz_ne _ _ (Nat.ne_of_lt hx)) (xz_ne _ _ (Nat.ne_of_lt hx)) (xz_ne _ _ (Nat.ne_of_lt hx)))
  rw [hps] at hP1
  have h9 : s.heap.size + k = E.2.2.1 + n := hR.2.2
  have h1 := kk p l e R s m args below meth c E Q H1 locs ls hC hE ⟨⟨hP1, hn⟩, hS1, by show s.heap.size + (k + 1) = E.2.2.1 + (n + 1); omega⟩ hL
  have e1 : ((.ref n :: S).map (xtr E)) = .ref (E.2.2.1 + n) :: S.map (xtr E) := by rw [List.map_cons, xtr_ref (by omega)]
  rw [e1] at h1
  exact h1 T2 hT2 X2
theorem xcat_sum (E : xE) (S : List Value) : ((S.map (xtr E)).map fun v => v.category).sum = (S.map fun v => v.category).sum := by
  rw [List.map_map]
  exact congrArg List.sum (List.map_congr_left (fun v _ => xtr_cat E v))
theorem x_oinit {H : xHp} (hd : decode w.2.1 pc = .ok (.invokespecial idx, 3)) (hlk : Cond.methodLink w.1 idx objectInit ∈ xTB) (hi1 : Cond.instanceMethod objectInit ∈ xTB) (hc1 : Cond.code objectInit ⟨#[0xb1]⟩ 1 none ∈ xTB) (hS : (S.map fun v => v.category).sum ≤ 8) (hb1 : 1 ≤ b.1) (hp : pc + 3 = pc') (kk : xR w b z k q pc' L S H o) : xR w b z k q pc L (.ref a :: S) H o := by
  intro p l e R s m args below meth c E Q Hh locs ls hC hE hR hL
  subst hp
  have hfr := hC.2.2.2.2.2.2.2.2.1
  have hlo := hC.2.2.2.2.2.2.2.2.2.1
  refine W.objInit hC.1 hC.2.1 hC.2.2.2.1 (hC.2.2.2.2.1 _ hlk) (hC.2.2.2.2.1 _ hi1) (hC.2.2.2.2.1 _ hc1) rfl (by rw [hC.2.2.1]; exact hL.2.1) (a := xad E a) rfl hd (by omega) ?_ (kk p l e R s m args below meth c E Q Hh locs ls hC hE hR hL)
  show 2 * 0 + ((S.map (xtr E)).map fun v => v.category).sum + 12 ≤ R.locals
  rw [xcat_sum]
  omega
end XN
end
section
def xrty : Nat → Option FieldType
  | 0 => none
  | 1 => some .int
  | 2 => some .long
  | _ => some .boolean
def xrm (b : xBd) : Room := { frames := b.1, cells := b.2.1, slots := b.2.2, locals := 100 * b.1 }
def xPre (E : xE) (z : xZ) (H : xHp) (U : State) : Prop := U.heap.size = E.2.2.1 + H.1 ∧ xPic E H U.heap ∧ xGl E z U U.heap
def xQc (E : xE) (N : Nat) (o : xOut) : Array Value → State → Outcome → State → Prop := fun _ st oc t => oc = .returned (o.1.map (xtr E)) ∧ xPic E o.2 t.heap ∧ o.2.1 = N ∧ va_F (xA E) st t
/-- A CONTRACT: method y with these arguments on this heap returns with o -/
def xM (y : MethodName) (cc : ByteArray) (nL rk : Nat) (b : xBd) (z : xZ) (As : List Value) (H : xHp) (o : xOut) : Prop :=
  ∀ (l : Launch) (E : xE), Met l y (.code y cc nL (xrty rk) :: xTB) (xrm b) (va_Pc (As.map (xtr E)) (xPre E z H)) (xQc E (H.1 + b.2.1) o) b.2.1 b.2.2 (xA E)
def xin : List Value → List (Option Value)
  | [] => []
  | .long x :: t => some (.long x) :: none :: xin t
  | .double x :: t => some (.double x) :: none :: xin t
  | v :: t => some v :: xin t
theorem xin_mem (E : xE) : ∀ (As : List Value) (j i : Nat) (v : Value), (xin As)[i]? = some (some v) → (j + i, xtr E v) ∈ lv_args j (As.map (xtr E))
  | [], j, i, v, h => by simp [xin] at h
  | a :: t, j, i, v, h => by
    have one : ∀ (a : Value), a.category = 1 → xin (a :: t) = some a :: xin t → (xin (a :: t))[i]? = some (some v) → (j + i, xtr E v) ∈ lv_args j ((a :: t).map (xtr E)) := by
      intro a hc he h
      rw [he] at h
      have hc2 : ¬ (xtr E a).category = 2 := by rw [xtr_cat]; omega
      simp only [List.map_cons, lv_args, if_neg hc2]
      cases i with
      | zero => simp at h; subst h; exact List.mem_cons_self
      | succ i =>
        rw [List.getElem?_cons_succ] at h
        have := xin_mem E t (j + 1) i v h
        rw [show j + (i + 1) = j + 1 + i by omega]
        exact List.mem_cons_of_mem _ this
    have two : ∀ (a : Value), a.category = 2 → xin (a :: t) = some a :: none :: xin t → (xin (a :: t))[i]? = some (some v) → (j + i, xtr E v) ∈ lv_args j ((a :: t).map (xtr E)) := by
      intro a hc he h
      rw [he] at h
      have hc2 : (xtr E a).category = 2 := by rw [xtr_cat]; exact hc
      simp only [List.map_cons, lv_args, if_pos hc2]
      cases i with
      | zero => simp at h; subst h; exact List.mem_cons_self
      | succ i =>
        rw [List.getElem?_cons_succ] at h
        cases i with
        | zero => simp at h
        | succ i =>
          rw [List.getElem?_cons_succ] at h
          have := xin_mem E t (j + 2) i v h
          rw [show j + (i + 1 + 1) = j + 2 + i by omega]
          exact List.mem_cons_of_mem _ this
    cases a with
    | int x => exact one _ rfl rfl h
    | long x => exact two _ rfl rfl h
    | float x => exact one _ rfl rfl h
    | double x => exact two _ rfl rfl h
    | null => exact one _ rfl rfl h
    | ref x => exact one _ rfl rfl h
    | retAddr x => exact one _ rfl rfl h
theorem xin_len (E : xE) : ∀ (As : List Value), (xin As).length = (lg_sl (As.map (xtr E))).length
  | [] => rfl
  | a :: t => by
    have ih := xin_len E t
    cases a <;> simp_all [xin, lg_sl, Value.category, xtr]
theorem xlv_in {E : xE} {As : List Value} {nL : Nat} (h : (xin As).length ≤ nL) : xlv E nL (xin As ++ List.replicate (nL - (xin As).length) none) ((lg_sl (As.map (xtr E)) ++ List.replicate (nL - (lg_sl (As.map (xtr E))).length) Slot.unset).toArray) := by
  have h1 := lv_entry (As.map (xtr E)) (n := nL) (by rw [← xin_len]; exact h)
  refine ⟨by simp; omega, h1.1, h1.2.1, fun x hx => ?_⟩
  obtain ⟨i, v⟩ := x
  obtain ⟨u, hu, rfl⟩ := xpr_mem.mp hx
  have h2 : (xin As)[i]? = some (some u) := by
    by_cases hi : i < (xin As).length
    · rw [List.getElem?_append_left hi] at hu
      exact hu
    · rw [List.getElem?_append_right (by omega)] at hu
      have := List.mem_of_getElem? hu
      simp at this
  have h3 := xin_mem E As 0 i u h2
  rw [Nat.zero_add] at h3
  exact h1.2.2 _ h3
theorem x_meth {y : MethodName} {cc : ByteArray} {nL rk : Nat} {b : xBd} {z : xZ} {As : List Value} {H : xHp} {o : xOut} {ini : Bool} {L : List (Option Value)} (hy : plainName y.cls = true) (hini : ini = true → y.name = "<init>") (hrk : rk ≤ 3) (hlen : (xin As).length ≤ nL) (hL : xin As ++ List.replicate (nL - (xin As).length) none = L)
    (kk : xR (y.cls, cc, nL, ini, rk) b z 0 0 0 L [] H o) : xM y cc nL rk b z As H o := by
  intro l E
  refine Met.ofW (cc := cc) (maxL := nL) (ret := xrty rk) hy rfl ?_
  intro p e s m args below meth c s₁ B hml hv
  obtain ⟨rfl, hsz, hPic, hGl⟩ := hv
  subst hL
  rw [lg_entry_eq]
  have hts := atoms_spec (ws := .code y cc nL (xrty rk) :: xTB) B.pre
  have hlocks : meth.locks = false := B.notSynchronized
  have hret : meth.sig.returnType = xrty rk := B.returns
  have hbb : c.code = cc := B.bytes
  refine kk p l e (headSpec (.code y cc nL (xrty rk) :: xTB) (xrm b)).room s m _ below meth c E _ s.heap [] _ ⟨B.exec, hbb, hml, findClass_of_methodNamed B.named, fun t ht => hts t (List.mem_cons_of_mem _ ht), hGl, by omega, fun hi => (name_of_methodNamed B.named B.method).1.trans (hini hi), Nat.le_refl _, Nat.le_refl _, Nat.le_refl _, Nat.le_refl _⟩ ?_ ⟨hPic, va_S.rf, by omega⟩ (xlv_in hlen)
  intro q pc ls Hh locs hq hR hrt
  refine W.widen (k := b.2.1) (n := b.2.2) (Nat.le_refl _) hq ?_
  have hN : o.2.1 = H.1 + b.2.1 := by have h9 := hR.2.2; omega
  have hQ : ∀ t : State, t.heap = Hh → s.WarmedH t.vm → xQc E (H.1 + b.2.1) o (As.map (xtr E)).toArray s (.returned (o.1.map (xtr E))) t := fun t ht _ => ⟨rfl, by rw [ht]; exact hR.1, hN, hR.2.1.F ht⟩
  obtain ⟨v, H'⟩ := o
  match rk, v, hrt, hret with
  | 0, none, hrt, hret => exact W.vret B.exec hbb hret hQ hR.2.1.2.2 hrt
  | 1, some (.int x), hrt, hret => exact W.iret B.exec hbb hret hQ hR.2.1.2.2 hrt
  | 2, some (.long x), hrt, hret => exact W.lret B.exec hbb hret hQ hR.2.1.2.2 hrt
  | 3, some (.int x), hrt, hret => exact W.zret (ty := .boolean) B.exec hbb hret (by rcases hrt.2 with rfl | rfl <;> rfl) hQ hR.2.1.2.2 hrt.1
/-! calls -/
def xMV (y : MethodName) (cc : ByteArray) (nL rk n ci : Nat) : Prop := (∃ T N, vwCl[ci]? = some (y.cls, T, N)) ∧ Cond.instanceMethod y ∈ xTB ∧ Cond.selects y.cls y y ∈ xTB ∧ Cond.initialized y.cls ∈ xTB ∧ Cond.code y cc nL (xrty rk) ∈ xTB ∧ (y.cls ≠ "java/lang/invoke/MethodHandle" ∧ y.cls ≠ "java/lang/invoke/VarHandle" ∧ (parseMethodDescriptor y.desc).map (fun d => d.parameters.length) = some n) ∧ nL ≤ 60
def xMS (y : MethodName) (cc : ByteArray) (nL rk n : Nat) : Prop := Cond.static y ∈ xTB ∧ Cond.initialized y.cls ∈ xTB ∧ Cond.code y cc nL (xrty rk) ∈ xTB ∧ (y.cls ≠ "java/lang/invoke/MethodHandle" ∧ y.cls ≠ "java/lang/invoke/VarHandle" ∧ (parseMethodDescriptor y.desc).map (fun d => d.parameters.length) = some n) ∧ nL ≤ 60
def xMI (y : MethodName) (cc : ByteArray) (nL n : Nat) : Prop := y.name = "<init>" ∧ Cond.instanceMethod y ∈ xTB ∧ Cond.initialized y.cls ∈ xTB ∧ Cond.code y cc nL (xrty 0) ∈ xTB ∧ (y.cls ≠ "java/lang/invoke/MethodHandle" ∧ y.cls ≠ "java/lang/invoke/VarHandle" ∧ (parseMethodDescriptor y.desc).map (fun d => d.parameters.length) = some n) ∧ nL ≤ 60
theorem xGoodT {cw : Cond} (h : cw ∈ xTB) : GoodIn xTB (cw :: xTB) := by
  intro t ht
  rcases List.mem_cons.mp ht with rfl | ht
  · exact ⟨h, good_of_word (xTB_good _ h)⟩
  · exact ⟨ht, good_of_word (xTB_good _ ht)⟩
theorem xGoodA {ws1 ws2 : List Cond} (h1 : ∀ t ∈ ws1, t ∈ xTB) (h2 : GoodIn xTB ws2) : GoodIn xTB (ws1 ++ ws2) := by
  intro t ht
  rcases List.mem_append.mp ht with ht | ht
  · exact ⟨h1 t ht, good_of_word (xTB_good _ (h1 t ht))⟩
  · exact h2 t ht
theorem x_blind (E : xE) (z : xZ) (H : xHp) (av : List Value) : FrameBlind (va_Pc av (xPre E z H)) := by
  intro a U g mk h
  obtain ⟨h0, h1, h2, h3⟩ := h
  exact ⟨h0, h1, h2, h3.same rfl⟩
theorem x_pic_size {E : xE} {H : xHp} {Hh : Heap} (h : xPic E H Hh) (hb : E.2.2.1 ≤ Hh.size) : E.2.2.1 + H.1 ≤ Hh.size := by
  by_cases h0 : H.1 = 0
  · omega
  · have := (h.1 (H.1 - 1) _ (xws_at (by omega))).lt
    simp only at this
    omega
section XC
variable {w : xWt} {b b' : xBd} {z : xZ} {k q pc pc' a idx ci : Nat} {L : List (Option Value)} {S S0 As : List Value} {H H' : xHp} {o : xOut} {y : MethodName} {cc : ByteArray} {nL rk n : Nat} {v : Option Value}
theorem x_after {p : Program} {l : Launch} {e : Env} {R : Room} {s : State} {m : MethodId} {args : Array Value} {below : List Frame} {meth : Method} {c : Code} {E : xE} {Q : State → Prop} {Hh : Heap} {locs : List Loc} {ls : Array Slot} {st0 rest : List Value} {N : Nat} {aa : Array Value}
    (hr : va_Run p l e R s m args below meth c Hh locs k q b'.2.1 b'.2.2 (F0 m pc ls st0) rest (xQc E N (v, H') aa) (xA E)) (hS : va_S (xA E) s.heap Hh locs)
    (kk : ∀ (H1 : Heap) (locs1 : List Loc), xPic E H' H1 → va_S (xA E) s.heap H1 locs1 → H'.1 = N → W p l e R s m args below meth c H1 locs1 (k + b'.2.1) (q + b'.2.2) Q (F0 m (pc + 3) ls ((v.map (xtr E)).toList ++ rest))) : W p l e R s m args below meth c Hh locs k q Q (F0 m pc ls st0) := by
  intro T hT X
  obtain ⟨v1, st₀, t, T', Lc, h0, X', hLc, e1, e2, ⟨hv, hp, hn, hz, hk⟩, st⟩ := hr T hT X
  cases hv
  rw [h0] at hz hk
  obtain ⟨t2, a1, b1⟩ := kk T'.heap (locs ++ Lc) (by rw [e1]; exact hp) ⟨Nat.le_trans hS.1 (by rw [e1]; exact hz), fun x g1 g2 => by rw [e1, hk x (Nat.lt_of_lt_of_le g1 hS.1) g2]; exact hS.2.1 x g1 g2, fun x hx => by
      rcases List.mem_append.mp hx with h | h
      · exact hS.2.2 x h
      · exact hLc x h⟩ hn T' rfl X'
  exact ⟨t2, st t2 a1, b1⟩
theorem x_callV (hd : decode w.2.1 pc = .ok (.invokevirtual idx, 3)) (hlk : Cond.methodLink w.1 idx y ∈ xTB) (hm : xMV y cc nL rk n ci) (hS0 : S0 = As.reverse ++ .ref a :: S) (hAn : As.length = n) (ha : a < H.1) (hs : H.2.1 a = (ci + 5, xnf ci)) (hS : (S.map fun v => v.category).sum ≤ 8) (hb1 : b'.1 + 1 ≤ b.1) (hb2 : k + b'.2.1 ≤ b.2.1) (hb3 : q + b'.2.2 ≤ b.2.2)
    (hM : xM y cc nL rk b' z (.ref a :: As) H (v, H')) (hp : pc + 3 = pc') (kk : xR w b z (k + b'.2.1) (q + b'.2.2) pc' L (v.toList ++ S) H' o) : xR w b z k q pc L S0 H o := by
  intro p l e R s m args below meth c E Q Hh locs ls hC hE hR hL
  subst hp; subst hS0
  have hnn : H.1 ≤ 1000000 := hR.1.2
  have hfr := hC.2.2.2.2.2.2.2.2.1
  have hlo := hC.2.2.2.2.2.2.2.2.2.1
  have hce := hC.2.2.2.2.2.2.2.2.2.2.1
  have hsl := hC.2.2.2.2.2.2.2.2.2.2.2
  have hst : (As.reverse ++ .ref a :: S).map (xtr E) = (As.map (xtr E)).reverse ++ .ref (E.2.2.1 + a) :: S.map (xtr E) := by
    rw [List.map_append, List.map_reverse, List.map_cons, xtr_ref (by omega)]
  rw [hst]
  intro T hT X
  have hsz : Hh.size = E.2.2.1 + H.1 := by
    have h8 := X.heapSize
    rw [hT] at h8
    have h9 := hR.2.2
    have h10 := x_pic_size hR.1 (Nat.le_trans hC.2.2.2.2.2.2.1 hR.2.1.1)
    omega
  obtain ⟨⟨T1, N1, hcl⟩, hm1, hm2, hm3, hm4, hm5, hm6⟩ := hm
  have hM1 := hM l E
  have e0 : ((Value.ref a :: As).map (xtr E)) = .ref (E.2.2.1 + a) :: As.map (xtr E) := by rw [List.map_cons, xtr_ref (by omega)]
  rw [e0] at hM1
  refine x_after (b' := b') (rest := S.map (xtr E)) (v := v) (H' := H') (N := H.1 + b'.2.1) (aa := (Value.ref (E.2.2.1 + a) :: As.map (xtr E)).toArray) ?_ hR.2.1 (fun H1 locs1 hP1 hS1 hN1 => ?_) T hT X
  · refine va_runV (As := As.map (xtr E)) (rest := S.map (xtr E)) (Ts := xTB) (own := w.1) (nL := w.2.2.1) (C := y.cls) (n := n) ⟨hC.1, hC.2.1, hC.2.2.1, hC.2.2.2.1, hC.2.2.2.2.1⟩ hM1 (cwV n hC.2.2.2.2.1 ?_ rfl rfl rfl ⟨rfl, hm5⟩ ⟨?_, ?_⟩) ⟨x_blind _ _ _ _, va_recv hC.2.2.2.2.2.1.1 hR.1.1 hcl ((xws_at ha).trans (by rw [xce_obj hs])), fun U hU hW => ⟨rfl, by rw [hU]; exact hsz, by rw [hU]; exact hR.1, hC.2.2.2.2.2.1.warm hW (fun x g1 g2 => by rw [hU]; exact hR.2.1.2.1 x g1 g2) (by rw [hU]; exact hR.2.1.1)⟩⟩ rfl (by rw [List.length_map]; exact hAn) hL.2.1 rfl (lv_room (by rw [xcat_sum]; exact hS)) hd ⟨by omega, by omega⟩
    · refine xGoodA ?_ (xGoodT hm4)
      intro t ht
      simp only [List.mem_cons, List.not_mem_nil, or_false] at ht
      rcases ht with rfl | rfl | rfl | rfl
      · exact hlk
      · exact hm1
      · exact hm2
      · exact hm3
    · show b'.1 + 1 ≤ R.frames
      omega
    · show 8 + (nL + 11) + 100 * b'.1 ≤ R.locals
      omega
  · have e3 : (v.map (xtr E)).toList ++ S.map (xtr E) = (v.toList ++ S).map (xtr E) := by cases v <;> rfl
    rw [e3]
    exact kk p l e R s m args below meth c E Q H1 locs1 ls hC hE ⟨hP1, hS1, by have h9 := hR.2.2; omega⟩ hL
theorem x_callS (hd : decode w.2.1 pc = .ok (.invokestatic idx, 3)) (hlk : Cond.methodLink w.1 idx y ∈ xTB) (hm : xMS y cc nL rk n) (hS0 : S0 = As.reverse ++ S) (hAn : As.length = n) (hS : (S.map fun v => v.category).sum ≤ 8) (hb1 : b'.1 + 1 ≤ b.1) (hb2 : k + b'.2.1 ≤ b.2.1) (hb3 : q + b'.2.2 ≤ b.2.2)
    (hM : xM y cc nL rk b' z As H (v, H')) (hp : pc + 3 = pc') (kk : xR w b z (k + b'.2.1) (q + b'.2.2) pc' L (v.toList ++ S) H' o) : xR w b z k q pc L S0 H o := by
  intro p l e R s m args below meth c E Q Hh locs ls hC hE hR hL
  subst hp; subst hS0
  have hfr := hC.2.2.2.2.2.2.2.2.1
  have hlo := hC.2.2.2.2.2.2.2.2.2.1
  have hce := hC.2.2.2.2.2.2.2.2.2.2.1
  have hsl := hC.2.2.2.2.2.2.2.2.2.2.2
  have hst : (As.reverse ++ S).map (xtr E) = (As.map (xtr E)).reverse ++ S.map (xtr E) := by rw [List.map_append, List.map_reverse]
  rw [hst]
  intro T hT X
  have hsz : Hh.size = E.2.2.1 + H.1 := by
    have h8 := X.heapSize
    rw [hT] at h8
    have h9 := hR.2.2
    have h10 := x_pic_size hR.1 (Nat.le_trans hC.2.2.2.2.2.2.1 hR.2.1.1)
    omega
  obtain ⟨hm1, hm3, hm4, hm5, hm6⟩ := hm
  have hM1 := hM l E
  refine x_after (b' := b') (rest := S.map (xtr E)) (v := v) (H' := H') (N := H.1 + b'.2.1) (aa := (As.map (xtr E)).toArray) ?_ hR.2.1 (fun H1 locs1 hP1 hS1 hN1 => ?_) T hT X
  · refine va_runS (As := As.map (xtr E)) (rest := S.map (xtr E)) (Ts := xTB) (own := w.1) (nL := w.2.2.1) (n := n) ⟨hC.1, hC.2.1, hC.2.2.1, hC.2.2.2.1, hC.2.2.2.2.1⟩ hM1 (va_cwS n hC.2.2.2.2.1 ?_ rfl rfl rfl hm5 ⟨?_, ?_⟩) ⟨x_blind _ _ _ _, fun U hU hW => ⟨rfl, by rw [hU]; exact hsz, by rw [hU]; exact hR.1, hC.2.2.2.2.2.1.warm hW (fun x g1 g2 => by rw [hU]; exact hR.2.1.2.1 x g1 g2) (by rw [hU]; exact hR.2.1.1)⟩⟩ rfl (by rw [List.length_map]; exact hAn) hL.2.1 rfl (lv_room (by rw [xcat_sum]; exact hS)) hd ⟨by omega, by omega⟩
    · refine xGoodA ?_ (xGoodT hm4)
      intro t ht
      simp only [List.mem_cons, List.not_mem_nil, or_false] at ht
      rcases ht with rfl | rfl | rfl
      · exact hlk
      · exact hm1
      · exact hm3
    · show b'.1 + 1 ≤ R.frames
      omega
    · show 8 + (nL + 11) + 100 * b'.1 ≤ R.locals
      omega
  · have e3 : (v.map (xtr E)).toList ++ S.map (xtr E) = (v.toList ++ S).map (xtr E) := by cases v <;> rfl
    rw [e3]
    exact kk p l e R s m args below meth c E Q H1 locs1 ls hC hE ⟨hP1, hS1, by have h9 := hR.2.2; omega⟩ hL
theorem x_callI (hd : decode w.2.1 pc = .ok (.invokespecial idx, 3)) (hlk : Cond.methodLink w.1 idx y ∈ xTB ∨ ∃ host, Cond.methodLinkNest w.1 idx y host ∈ xNW) (hm : xMI y cc nL n) (hS0 : S0 = As.reverse ++ .ref a :: S) (hAn : As.length = n) (ha : a < H.1) (hS : (S.map fun v => v.category).sum ≤ 8) (hb1 : b'.1 + 1 ≤ b.1) (hb2 : k + b'.2.1 ≤ b.2.1) (hb3 : q + b'.2.2 ≤ b.2.2)
    (hM : xM y cc nL 0 b' z (.ref a :: As) H (none, H')) (hp : pc + 3 = pc') (kk : xR w b z (k + b'.2.1) (q + b'.2.2) pc' L S H' o) : xR w b z k q pc L S0 H o := by
  intro p l e R s m args below meth c E Q Hh locs ls hC hE hR hL
  subst hp; subst hS0
  have hnn : H.1 ≤ 1000000 := hR.1.2
  have hfr := hC.2.2.2.2.2.2.2.2.1
  have hlo := hC.2.2.2.2.2.2.2.2.2.1
  have hce := hC.2.2.2.2.2.2.2.2.2.2.1
  have hsl := hC.2.2.2.2.2.2.2.2.2.2.2
  have hst : (As.reverse ++ .ref a :: S).map (xtr E) = (As.map (xtr E)).reverse ++ .ref (E.2.2.1 + a) :: S.map (xtr E) := by
    rw [List.map_append, List.map_reverse, List.map_cons, xtr_ref (by omega)]
  rw [hst]
  intro T hT X
  have hsz : Hh.size = E.2.2.1 + H.1 := by
    have h8 := X.heapSize
    rw [hT] at h8
    have h9 := hR.2.2
    have h10 := x_pic_size hR.1 (Nat.le_trans hC.2.2.2.2.2.2.1 hR.2.1.1)
    omega
  obtain ⟨hm1, hm2, hm3, hm4, hm5, hm6⟩ := hm
  have hM1 := hM l E
  have e0 : ((Value.ref a :: As).map (xtr E)) = .ref (E.2.2.1 + a) :: As.map (xtr E) := by rw [List.map_cons, xtr_ref (by omega)]
  rw [e0] at hM1
  have hpre : PreS s Hh (va_Pc (.ref (E.2.2.1 + a) :: As.map (xtr E)) (xPre E z H)) (.ref (E.2.2.1 + a) :: As.map (xtr E)) := ⟨x_blind _ _ _ _, fun U hU hW => ⟨rfl, by rw [hU]; exact hsz, by rw [hU]; exact hR.1, hC.2.2.2.2.2.1.warm hW (fun x g1 g2 => by rw [hU]; exact hR.2.1.2.1 x g1 g2) (by rw [hU]; exact hR.2.1.1)⟩⟩
  have hroom : (xrm b').frames + 1 ≤ R.frames ∧ 8 + (nL + 11) + (xrm b').locals ≤ R.locals := ⟨by show b'.1 + 1 ≤ R.frames; omega, by show 8 + (nL + 11) + 100 * b'.1 ≤ R.locals; omega⟩
  refine x_after (b' := b') (rest := S.map (xtr E)) (v := none) (H' := H') (N := H.1 + b'.2.1) (aa := (Value.ref (E.2.2.1 + a) :: As.map (xtr E)).toArray) ?_ hR.2.1 (fun H1 locs1 hP1 hS1 hN1 => ?_) T hT X
  · rcases hlk with hlk | ⟨host, hlk⟩
    · exact va_runI (As := As.map (xtr E)) (rest := S.map (xtr E)) (Ts := xTB) (own := w.1) (nL := w.2.2.1) (n := n) ⟨hC.1, hC.2.1, hC.2.2.1, hC.2.2.2.1, hC.2.2.2.2.1⟩ hM1 (cwI n hC.2.2.2.2.1 (xGoodT hm4) rfl rfl rfl (hC.2.2.2.2.1 _ hm3) (hC.2.2.2.2.1 _ hlk) (hC.2.2.2.2.1 _ hm2) hm1 hm5 hroom) hpre rfl (by rw [List.length_map]; exact hAn) hL.2.1 rfl (lv_room (by rw [xcat_sum]; exact hS)) hd ⟨by omega, by omega⟩
    · exact va_runIN (As := As.map (xtr E)) (rest := S.map (xtr E)) (Ts := xTB) (own := w.1) (nL := w.2.2.1) (n := n) ⟨hC.1, hC.2.1, hC.2.2.1, hC.2.2.2.1, hC.2.2.2.2.1⟩ hM1 ⟨va_cnB n hC.2.2.2.2.1 (xGoodT hm4) rfl rfl rfl (hC.2.2.2.2.2.1.2.1 _ hlk) (hC.2.2.2.2.1 _ hm3) hm5 hroom, hm1, hC.2.2.2.2.1 _ hm2⟩ hpre rfl (by rw [List.length_map]; exact hAn) hL.2.1 rfl (lv_room (by rw [xcat_sum]; exact hS)) hd ⟨by omega, by omega⟩
  · exact kk p l e R s m args below meth c E Q H1 locs1 ls hC hE ⟨hP1, hS1, by have h9 := hR.2.2; omega⟩ hL
end XC
end
section
theorem xTB_ws {ws : List Cond} (ps : List Nat) (h : ws = ps.filterMap (fun i => lw_tbl[i]?)) (g : ws.all goodWord = true) : ∀ t ∈ ws, t ∈ xTB := by
  intro t ht
  refine List.mem_filter.mpr ⟨?_, List.all_eq_true.mp g t ht⟩
  rw [h] at ht
  obtain ⟨i, -, hi⟩ := List.mem_filterMap.mp ht
  exact List.mem_of_getElem? hi
theorem m_X3_isThing : xMS yX3_isThing cX3_isThing 3 3 2 := ⟨xTB_of 501 (by decide +kernel) rfl, xTB_of 70 (by decide +kernel) rfl, xTB_of 502 (by decide +kernel) rfl, ⟨by decide +kernel, by decide +kernel, by decide +kernel⟩, by decide⟩
theorem m_X3_rounded : xMS yX3_rounded cX3_rounded 16 2 2 := ⟨xTB_of 435 (by decide +kernel) rfl, xTB_of 70 (by decide +kernel) rfl, xTB_of 436 (by decide +kernel) rfl, ⟨by decide +kernel, by decide +kernel, by decide +kernel⟩, by decide⟩
theorem m_X3_taken : xMS yX3_taken cX3_taken 2 1 2 := ⟨xTB_of 314 (by decide +kernel) rfl, xTB_of 70 (by decide +kernel) rfl, xTB_of 315 (by decide +kernel) rfl, ⟨by decide +kernel, by decide +kernel, by decide +kernel⟩, by decide⟩
theorem m_X3_handed : xMS yX3_handed cX3_handed 3 1 3 := ⟨xTB_of 319 (by decide +kernel) rfl, xTB_of 70 (by decide +kernel) rfl, xTB_of 320 (by decide +kernel) rfl, ⟨by decide +kernel, by decide +kernel, by decide +kernel⟩, by decide⟩
theorem m_X3_joined : xMS yX3_joined cX3_joined 4 1 2 := ⟨xTB_of 785 (by decide +kernel) rfl, xTB_of 70 (by decide +kernel) rfl, xTB_of 786 (by decide +kernel) rfl, ⟨by decide +kernel, by decide +kernel, by decide +kernel⟩, by decide⟩
theorem m_X4_opens : xMS yX4_opens cX4_opens 1 1 1 := ⟨xTB_of 634 (by decide +kernel) rfl, xTB_of 64 (by decide +kernel) rfl, xTB_of 635 (by decide +kernel) rfl, ⟨by decide +kernel, by decide +kernel, by decide +kernel⟩, by decide⟩
theorem m_X5_noTerm : xMS yX5_noTerm cX5_noTerm 1 1 1 := ⟨xTB_of 571 (by decide +kernel) rfl, xTB_of 62 (by decide +kernel) rfl, xTB_of 572 (by decide +kernel) rfl, ⟨by decide +kernel, by decide +kernel, by decide +kernel⟩, by decide⟩
theorem m_X5_widerKind : xMS yX5_widerKind cX5_widerKind 2 1 2 := ⟨xTB_of 574 (by decide +kernel) rfl, xTB_of 62 (by decide +kernel) rfl, xTB_of 575 (by decide +kernel) rfl, ⟨by decide +kernel, by decide +kernel, by decide +kernel⟩, by decide⟩
theorem m_X5_combined : xMS yX5_combined cX5_combined 5 2 3 := ⟨xTB_of 581 (by decide +kernel) rfl, xTB_of 62 (by decide +kernel) rfl, xTB_of 582 (by decide +kernel) rfl, ⟨by decide +kernel, by decide +kernel, by decide +kernel⟩, by decide⟩
theorem m_X5_foretoldAs : xMS yX5_foretoldAs cX5_foretoldAs 1 1 1 := ⟨xTB_of 731 (by decide +kernel) rfl, xTB_of 62 (by decide +kernel) rfl, xTB_of 732 (by decide +kernel) rfl, ⟨by decide +kernel, by decide +kernel, by decide +kernel⟩, by decide⟩
theorem m_X7_tried : xMS yX7_tried cX7_tried 2 1 2 := ⟨xTB_of 311 (by decide +kernel) rfl, xTB_of 69 (by decide +kernel) rfl, xTB_of 312 (by decide +kernel) rfl, ⟨by decide +kernel, by decide +kernel, by decide +kernel⟩, by decide⟩
theorem m_X7_sorts : xMS yX7_sorts cX7_sorts 3 3 3 := ⟨xTB_of 854 (by decide +kernel) rfl, xTB_of 69 (by decide +kernel) rfl, xTB_of 855 (by decide +kernel) rfl, ⟨by decide +kernel, by decide +kernel, by decide +kernel⟩, by decide⟩
theorem m_X7_beginning : xMS yX7_beginning cX7_beginning 4 1 3 := ⟨xTB_of 858 (by decide +kernel) rfl, xTB_of 69 (by decide +kernel) rfl, xTB_of 859 (by decide +kernel) rfl, ⟨by decide +kernel, by decide +kernel, by decide +kernel⟩, by decide⟩
theorem m_X11_within : xMS yX11_within cX11_within 3 3 3 := ⟨xTB_of 383 (by decide +kernel) rfl, xTB_of 59 (by decide +kernel) rfl, xTB_of 384 (by decide +kernel) rfl, ⟨by decide +kernel, by decide +kernel, by decide +kernel⟩, by decide⟩
theorem m_X11_isPlace : xMS yX11_isPlace cX11_isPlace 1 3 1 := ⟨xTB_of 445 (by decide +kernel) rfl, xTB_of 59 (by decide +kernel) rfl, xTB_of 446 (by decide +kernel) rfl, ⟨by decide +kernel, by decide +kernel, by decide +kernel⟩, by decide⟩
theorem m_X11_isRefusal : xMS yX11_isRefusal cX11_isRefusal 1 3 1 := ⟨xTB_of 653 (by decide +kernel) rfl, xTB_of 59 (by decide +kernel) rfl, xTB_of 654 (by decide +kernel) rfl, ⟨by decide +kernel, by decide +kernel, by decide +kernel⟩, by decide⟩
theorem m_X12_in : xMS yX12_in cX12_in 6 3 3 := ⟨xTB_of 1028 (by decide +kernel) rfl, xTB_of 71 (by decide +kernel) rfl, xTB_of 1029 (by decide +kernel) rfl, ⟨by decide +kernel, by decide +kernel, by decide +kernel⟩, by decide⟩
theorem m_X12_has : xMS yX12_has cX12_has 2 3 2 := ⟨xTB_of 1196 (by decide +kernel) rfl, xTB_of 71 (by decide +kernel) rfl, xTB_of 1197 (by decide +kernel) rfl, ⟨by decide +kernel, by decide +kernel, by decide +kernel⟩, by decide⟩
theorem m_X12_widens : xMS yX12_widens cX12_widens 2 3 2 := ⟨xTB_of 1089 (by decide +kernel) rfl, xTB_of 71 (by decide +kernel) rfl, xTB_of 1090 (by decide +kernel) rfl, ⟨by decide +kernel, by decide +kernel, by decide +kernel⟩, by decide⟩
theorem m_X12_rounded : xMS yX12_rounded cX12_rounded 11 2 2 := ⟨xTB_of 1095 (by decide +kernel) rfl, xTB_of 71 (by decide +kernel) rfl, xTB_of 1096 (by decide +kernel) rfl, ⟨by decide +kernel, by decide +kernel, by decide +kernel⟩, by decide⟩
end
