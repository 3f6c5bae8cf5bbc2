section
-- ===== PART A: goes FIRST, ahead of the names: the tables' words, and 'selects' of the private methods out of them =====
/-- a private method of a class that the tables say can be made, by its rows of tables_1 -/
def lw_okq (q : MethodName × Nat) : Prop := (q.1.cls ≠ "java/lang/invoke/MethodHandle" ∧ q.1.cls ≠ "java/lang/invoke/VarHandle") ∧ Cond.instantiable q.1.cls q.2 ∈ tables_1 ∧ Cond.privateMethod q.1 ∈ tables_1 ∧ Cond.instanceMethod q.1 ∈ tables_1
theorem lw_p0 : lw_okq (⟨"LoadBourse", "told", "(I)I"⟩, 13) := ⟨⟨by decide +kernel, by decide +kernel⟩, List.mem_of_getElem? (i := 19) (by decide +kernel), List.mem_of_getElem? (i := 354) (by decide +kernel), List.mem_of_getElem? (i := 355) (by decide +kernel)⟩
theorem lw_p1 : lw_okq (⟨"LoadBourse$Towns", "shortenBy", "(I)V"⟩, 4) := ⟨⟨by decide +kernel, by decide +kernel⟩, List.mem_of_getElem? (i := 55) (by decide +kernel), List.mem_of_getElem? (i := 406) (by decide +kernel), List.mem_of_getElem? (i := 407) (by decide +kernel)⟩
theorem lw_p2 : lw_okq (⟨"LoadBourse$Table", "isCell", "(II)Z"⟩, 4) := ⟨⟨by decide +kernel, by decide +kernel⟩, List.mem_of_getElem? (i := 74) (by decide +kernel), List.mem_of_getElem? (i := 439) (by decide +kernel), List.mem_of_getElem? (i := 440) (by decide +kernel)⟩
theorem lw_p3 : lw_okq (⟨"LoadBourse", "givenTo", "(I)I"⟩, 13) := ⟨⟨by decide +kernel, by decide +kernel⟩, List.mem_of_getElem? (i := 19) (by decide +kernel), List.mem_of_getElem? (i := 448) (by decide +kernel), List.mem_of_getElem? (i := 449) (by decide +kernel)⟩
theorem lw_p4 : lw_okq (⟨"LoadBourse", "findingOfRow", "(III)I"⟩, 13) := ⟨⟨by decide +kernel, by decide +kernel⟩, List.mem_of_getElem? (i := 19) (by decide +kernel), List.mem_of_getElem? (i := 501) (by decide +kernel), List.mem_of_getElem? (i := 502) (by decide +kernel)⟩
theorem lw_p5 : lw_okq (⟨"LoadBourse", "isLoadOrNone", "(I)Z"⟩, 13) := ⟨⟨by decide +kernel, by decide +kernel⟩, List.mem_of_getElem? (i := 19) (by decide +kernel), List.mem_of_getElem? (i := 505) (by decide +kernel), List.mem_of_getElem? (i := 506) (by decide +kernel)⟩
theorem lw_p6 : lw_okq (⟨"LoadBourse$Drive", "carry", "(I)V"⟩, 12) := ⟨⟨by decide +kernel, by decide +kernel⟩, List.mem_of_getElem? (i := 96) (by decide +kernel), List.mem_of_getElem? (i := 514) (by decide +kernel), List.mem_of_getElem? (i := 515) (by decide +kernel)⟩
theorem lw_p7 : lw_okq (⟨"LoadBourse$Drive", "go", "(IZ)V"⟩, 12) := ⟨⟨by decide +kernel, by decide +kernel⟩, List.mem_of_getElem? (i := 96) (by decide +kernel), List.mem_of_getElem? (i := 518) (by decide +kernel), List.mem_of_getElem? (i := 519) (by decide +kernel)⟩
theorem lw_p8 : lw_okq (⟨"LoadBourse$Drive", "roll", "(I)V"⟩, 12) := ⟨⟨by decide +kernel, by decide +kernel⟩, List.mem_of_getElem? (i := 96) (by decide +kernel), List.mem_of_getElem? (i := 524) (by decide +kernel), List.mem_of_getElem? (i := 525) (by decide +kernel)⟩
theorem lw_p9 : lw_okq (⟨"LoadBourse$Drive", "dock", "(II)V"⟩, 12) := ⟨⟨by decide +kernel, by decide +kernel⟩, List.mem_of_getElem? (i := 96) (by decide +kernel), List.mem_of_getElem? (i := 528) (by decide +kernel), List.mem_of_getElem? (i := 529) (by decide +kernel)⟩
theorem lw_p10 : lw_okq (⟨"LoadBourse$Giving", "gatherRows", "(I)V"⟩, 13) := ⟨⟨by decide +kernel, by decide +kernel⟩, List.mem_of_getElem? (i := 139) (by decide +kernel), List.mem_of_getElem? (i := 560) (by decide +kernel), List.mem_of_getElem? (i := 561) (by decide +kernel)⟩
theorem lw_p11 : lw_okq (⟨"LoadBourse$Giving", "fitting", "(I)I"⟩, 13) := ⟨⟨by decide +kernel, by decide +kernel⟩, List.mem_of_getElem? (i := 139) (by decide +kernel), List.mem_of_getElem? (i := 564) (by decide +kernel), List.mem_of_getElem? (i := 565) (by decide +kernel)⟩
theorem lw_p12 : lw_okq (⟨"LoadBourse$Giving", "addRow", "(II)V"⟩, 13) := ⟨⟨by decide +kernel, by decide +kernel⟩, List.mem_of_getElem? (i := 139) (by decide +kernel), List.mem_of_getElem? (i := 571) (by decide +kernel), List.mem_of_getElem? (i := 572) (by decide +kernel)⟩
theorem lw_p13 : lw_okq (⟨"LoadBourse$Giving", "choose", "(II)V"⟩, 13) := ⟨⟨by decide +kernel, by decide +kernel⟩, List.mem_of_getElem? (i := 139) (by decide +kernel), List.mem_of_getElem? (i := 593) (by decide +kernel), List.mem_of_getElem? (i := 594) (by decide +kernel)⟩
theorem lw_p14 : lw_okq (⟨"LoadBourse$Giving", "handOut", "(I)V"⟩, 13) := ⟨⟨by decide +kernel, by decide +kernel⟩, List.mem_of_getElem? (i := 139) (by decide +kernel), List.mem_of_getElem? (i := 597) (by decide +kernel), List.mem_of_getElem? (i := 598) (by decide +kernel)⟩
theorem lw_p15 : lw_okq (⟨"LoadBourse$Prices", "gather", "(II)I"⟩, 2) := ⟨⟨by decide +kernel, by decide +kernel⟩, List.mem_of_getElem? (i := 185) (by decide +kernel), List.mem_of_getElem? (i := 653) (by decide +kernel), List.mem_of_getElem? (i := 654) (by decide +kernel)⟩
def lw_privs_1 : List (MethodName × Nat) := [(⟨"LoadBourse", "told", "(I)I"⟩, 13), (⟨"LoadBourse$Towns", "shortenBy", "(I)V"⟩, 4), (⟨"LoadBourse$Table", "isCell", "(II)Z"⟩, 4), (⟨"LoadBourse", "givenTo", "(I)I"⟩, 13), (⟨"LoadBourse", "findingOfRow", "(III)I"⟩, 13), (⟨"LoadBourse", "isLoadOrNone", "(I)Z"⟩, 13), (⟨"LoadBourse$Drive", "carry", "(I)V"⟩, 12), (⟨"LoadBourse$Drive", "go", "(IZ)V"⟩, 12), (⟨"LoadBourse$Drive", "roll", "(I)V"⟩, 12), (⟨"LoadBourse$Drive", "dock", "(II)V"⟩, 12), (⟨"LoadBourse$Giving", "gatherRows", "(I)V"⟩, 13), (⟨"LoadBourse$Giving", "fitting", "(I)I"⟩, 13), (⟨"LoadBourse$Giving", "addRow", "(II)V"⟩, 13), (⟨"LoadBourse$Giving", "choose", "(II)V"⟩, 13), (⟨"LoadBourse$Giving", "handOut", "(I)V"⟩, 13), (⟨"LoadBourse$Prices", "gather", "(II)I"⟩, 2)]
theorem lw_r1 : ∀ q ∈ lw_privs_1, lw_okq q := List.forall_mem_cons.mpr ⟨lw_p0, List.forall_mem_cons.mpr ⟨lw_p1, List.forall_mem_cons.mpr ⟨lw_p2, List.forall_mem_cons.mpr ⟨lw_p3, List.forall_mem_cons.mpr ⟨lw_p4, List.forall_mem_cons.mpr ⟨lw_p5, List.forall_mem_cons.mpr ⟨lw_p6, List.forall_mem_cons.mpr ⟨lw_p7, List.forall_mem_cons.mpr ⟨lw_p8, List.forall_mem_cons.mpr ⟨lw_p9, List.forall_mem_cons.mpr ⟨lw_p10, List.forall_mem_cons.mpr ⟨lw_p11, List.forall_mem_cons.mpr ⟨lw_p12, List.forall_mem_cons.mpr ⟨lw_p13, List.forall_mem_cons.mpr ⟨lw_p14, List.forall_mem_cons.mpr ⟨lw_p15, fun _ h => absurd h List.not_mem_nil⟩⟩⟩⟩⟩⟩⟩⟩⟩⟩⟩⟩⟩⟩⟩⟩
theorem lw_p16 : lw_okq (⟨"LoadBourse$Prices", "insert", "(II)V"⟩, 2) := ⟨⟨by decide +kernel, by decide +kernel⟩, List.mem_of_getElem? (i := 185) (by decide +kernel), List.mem_of_getElem? (i := 659) (by decide +kernel), List.mem_of_getElem? (i := 660) (by decide +kernel)⟩
theorem lw_p17 : lw_okq (⟨"LoadBourse$Firms", "firstUnused", "(III)I"⟩, 5) := ⟨⟨by decide +kernel, by decide +kernel⟩, List.mem_of_getElem? (i := 200) (by decide +kernel), List.mem_of_getElem? (i := 684) (by decide +kernel), List.mem_of_getElem? (i := 685) (by decide +kernel)⟩
theorem lw_p18 : lw_okq (⟨"LoadBourse$Reports", "cannotBe", "(II)Z"⟩, 4) := ⟨⟨by decide +kernel, by decide +kernel⟩, List.mem_of_getElem? (i := 224) (by decide +kernel), List.mem_of_getElem? (i := 728) (by decide +kernel), List.mem_of_getElem? (i := 729) (by decide +kernel)⟩
theorem lw_p19 : lw_okq (⟨"LoadBourse$Firms", "judgedOf", "(I)I"⟩, 5) := ⟨⟨by decide +kernel, by decide +kernel⟩, List.mem_of_getElem? (i := 200) (by decide +kernel), List.mem_of_getElem? (i := 754) (by decide +kernel), List.mem_of_getElem? (i := 755) (by decide +kernel)⟩
theorem lw_p20 : lw_okq (⟨"LoadBourse$Firms", "doneOf", "(I)I"⟩, 5) := ⟨⟨by decide +kernel, by decide +kernel⟩, List.mem_of_getElem? (i := 200) (by decide +kernel), List.mem_of_getElem? (i := 768) (by decide +kernel), List.mem_of_getElem? (i := 769) (by decide +kernel)⟩
theorem lw_p21 : lw_okq (⟨"LoadBourse$Pallets", "settleOne", "()Z"⟩, 5) := ⟨⟨by decide +kernel, by decide +kernel⟩, List.mem_of_getElem? (i := 245) (by decide +kernel), List.mem_of_getElem? (i := 806) (by decide +kernel), List.mem_of_getElem? (i := 807) (by decide +kernel)⟩
theorem lw_p22 : lw_okq (⟨"LoadBourse$Terms", "count", "()I"⟩, 4) := ⟨⟨by decide +kernel, by decide +kernel⟩, List.mem_of_getElem? (i := 267) (by decide +kernel), List.mem_of_getElem? (i := 868) (by decide +kernel), List.mem_of_getElem? (i := 869) (by decide +kernel)⟩
theorem lw_p23 : lw_okq (⟨"LoadBourse$Terms", "single", "(I)I"⟩, 4) := ⟨⟨by decide +kernel, by decide +kernel⟩, List.mem_of_getElem? (i := 267) (by decide +kernel), List.mem_of_getElem? (i := 891) (by decide +kernel), List.mem_of_getElem? (i := 892) (by decide +kernel)⟩
theorem lw_p24 : lw_okq (⟨"LoadBourseModel", "finding", "(I)I"⟩, 26) := ⟨⟨by decide +kernel, by decide +kernel⟩, List.mem_of_getElem? (i := 979) (by decide +kernel), List.mem_of_getElem? (i := 1070) (by decide +kernel), List.mem_of_getElem? (i := 1071) (by decide +kernel)⟩
theorem lw_p25 : lw_okq (⟨"LoadBourseModel", "keep", "()V"⟩, 26) := ⟨⟨by decide +kernel, by decide +kernel⟩, List.mem_of_getElem? (i := 979) (by decide +kernel), List.mem_of_getElem? (i := 1085) (by decide +kernel), List.mem_of_getElem? (i := 1086) (by decide +kernel)⟩
theorem lw_p26 : lw_okq (⟨"LoadBourseModel", "findFar", "()V"⟩, 26) := ⟨⟨by decide +kernel, by decide +kernel⟩, List.mem_of_getElem? (i := 979) (by decide +kernel), List.mem_of_getElem? (i := 1093) (by decide +kernel), List.mem_of_getElem? (i := 1094) (by decide +kernel)⟩
theorem lw_p27 : lw_okq (⟨"LoadBourseModel", "isApart", "(II)Z"⟩, 26) := ⟨⟨by decide +kernel, by decide +kernel⟩, List.mem_of_getElem? (i := 979) (by decide +kernel), List.mem_of_getElem? (i := 1099) (by decide +kernel), List.mem_of_getElem? (i := 1100) (by decide +kernel)⟩
theorem lw_p28 : lw_okq (⟨"LoadBourseModel", "isLorry", "(I)Z"⟩, 26) := ⟨⟨by decide +kernel, by decide +kernel⟩, List.mem_of_getElem? (i := 979) (by decide +kernel), List.mem_of_getElem? (i := 1115) (by decide +kernel), List.mem_of_getElem? (i := 1116) (by decide +kernel)⟩
theorem lw_p29 : lw_okq (⟨"LoadBourseModel", "isLoad", "(I)Z"⟩, 26) := ⟨⟨by decide +kernel, by decide +kernel⟩, List.mem_of_getElem? (i := 979) (by decide +kernel), List.mem_of_getElem? (i := 1136) (by decide +kernel), List.mem_of_getElem? (i := 1137) (by decide +kernel)⟩
theorem lw_p30 : lw_okq (⟨"LoadBourseModel", "fits", "(II)Z"⟩, 26) := ⟨⟨by decide +kernel, by decide +kernel⟩, List.mem_of_getElem? (i := 979) (by decide +kernel), List.mem_of_getElem? (i := 1152) (by decide +kernel), List.mem_of_getElem? (i := 1153) (by decide +kernel)⟩
theorem lw_p31 : lw_okq (⟨"LoadBourseModel", "refused", "(III)I"⟩, 26) := ⟨⟨by decide +kernel, by decide +kernel⟩, List.mem_of_getElem? (i := 979) (by decide +kernel), List.mem_of_getElem? (i := 1160) (by decide +kernel), List.mem_of_getElem? (i := 1161) (by decide +kernel)⟩
def lw_privs_2 : List (MethodName × Nat) := [(⟨"LoadBourse$Prices", "insert", "(II)V"⟩, 2), (⟨"LoadBourse$Firms", "firstUnused", "(III)I"⟩, 5), (⟨"LoadBourse$Reports", "cannotBe", "(II)Z"⟩, 4), (⟨"LoadBourse$Firms", "judgedOf", "(I)I"⟩, 5), (⟨"LoadBourse$Firms", "doneOf", "(I)I"⟩, 5), (⟨"LoadBourse$Pallets", "settleOne", "()Z"⟩, 5), (⟨"LoadBourse$Terms", "count", "()I"⟩, 4), (⟨"LoadBourse$Terms", "single", "(I)I"⟩, 4), (⟨"LoadBourseModel", "finding", "(I)I"⟩, 26), (⟨"LoadBourseModel", "keep", "()V"⟩, 26), (⟨"LoadBourseModel", "findFar", "()V"⟩, 26), (⟨"LoadBourseModel", "isApart", "(II)Z"⟩, 26), (⟨"LoadBourseModel", "isLorry", "(I)Z"⟩, 26), (⟨"LoadBourseModel", "isLoad", "(I)Z"⟩, 26), (⟨"LoadBourseModel", "fits", "(II)Z"⟩, 26), (⟨"LoadBourseModel", "refused", "(III)I"⟩, 26)]
theorem lw_r2 : ∀ q ∈ lw_privs_2, lw_okq q := List.forall_mem_cons.mpr ⟨lw_p16, List.forall_mem_cons.mpr ⟨lw_p17, List.forall_mem_cons.mpr ⟨lw_p18, List.forall_mem_cons.mpr ⟨lw_p19, List.forall_mem_cons.mpr ⟨lw_p20, List.forall_mem_cons.mpr ⟨lw_p21, List.forall_mem_cons.mpr ⟨lw_p22, List.forall_mem_cons.mpr ⟨lw_p23, List.forall_mem_cons.mpr ⟨lw_p24, List.forall_mem_cons.mpr ⟨lw_p25, List.forall_mem_cons.mpr ⟨lw_p26, List.forall_mem_cons.mpr ⟨lw_p27, List.forall_mem_cons.mpr ⟨lw_p28, List.forall_mem_cons.mpr ⟨lw_p29, List.forall_mem_cons.mpr ⟨lw_p30, List.forall_mem_cons.mpr ⟨lw_p31, fun _ h => absurd h List.not_mem_nil⟩⟩⟩⟩⟩⟩⟩⟩⟩⟩⟩⟩⟩⟩⟩⟩
theorem lw_p32 : lw_okq (⟨"LoadBourseModel", "drives", "(III)I"⟩, 26) := ⟨⟨by decide +kernel, by decide +kernel⟩, List.mem_of_getElem? (i := 979) (by decide +kernel), List.mem_of_getElem? (i := 1164) (by decide +kernel), List.mem_of_getElem? (i := 1165) (by decide +kernel)⟩
theorem lw_p33 : lw_okq (⟨"LoadBourseModel", "carries", "(I)I"⟩, 26) := ⟨⟨by decide +kernel, by decide +kernel⟩, List.mem_of_getElem? (i := 979) (by decide +kernel), List.mem_of_getElem? (i := 1168) (by decide +kernel), List.mem_of_getElem? (i := 1169) (by decide +kernel)⟩
theorem lw_p34 : lw_okq (⟨"LoadBourseModel", "goes", "(IZ)I"⟩, 26) := ⟨⟨by decide +kernel, by decide +kernel⟩, List.mem_of_getElem? (i := 979) (by decide +kernel), List.mem_of_getElem? (i := 1172) (by decide +kernel), List.mem_of_getElem? (i := 1173) (by decide +kernel)⟩
theorem lw_p35 : lw_okq (⟨"LoadBourseModel", "docks", "(II)I"⟩, 26) := ⟨⟨by decide +kernel, by decide +kernel⟩, List.mem_of_getElem? (i := 979) (by decide +kernel), List.mem_of_getElem? (i := 1176) (by decide +kernel), List.mem_of_getElem? (i := 1177) (by decide +kernel)⟩
theorem lw_p36 : lw_okq (⟨"LoadBourseModel", "valueOf", "(II)I"⟩, 26) := ⟨⟨by decide +kernel, by decide +kernel⟩, List.mem_of_getElem? (i := 979) (by decide +kernel), List.mem_of_getElem? (i := 1184) (by decide +kernel), List.mem_of_getElem? (i := 1185) (by decide +kernel)⟩
theorem lw_p37 : lw_okq (⟨"LoadBourseModel", "payOf", "(I)I"⟩, 26) := ⟨⟨by decide +kernel, by decide +kernel⟩, List.mem_of_getElem? (i := 979) (by decide +kernel), List.mem_of_getElem? (i := 1188) (by decide +kernel), List.mem_of_getElem? (i := 1189) (by decide +kernel)⟩
theorem lw_p38 : lw_okq (⟨"LoadBourseModel", "findRows", "()V"⟩, 26) := ⟨⟨by decide +kernel, by decide +kernel⟩, List.mem_of_getElem? (i := 979) (by decide +kernel), List.mem_of_getElem? (i := 1196) (by decide +kernel), List.mem_of_getElem? (i := 1197) (by decide +kernel)⟩
theorem lw_p39 : lw_okq (⟨"LoadBourseModel", "given", "()I"⟩, 26) := ⟨⟨by decide +kernel, by decide +kernel⟩, List.mem_of_getElem? (i := 979) (by decide +kernel), List.mem_of_getElem? (i := 1200) (by decide +kernel), List.mem_of_getElem? (i := 1201) (by decide +kernel)⟩
theorem lw_p40 : lw_okq (⟨"LoadBourseModel", "findGiving", "(I)I"⟩, 26) := ⟨⟨by decide +kernel, by decide +kernel⟩, List.mem_of_getElem? (i := 979) (by decide +kernel), List.mem_of_getElem? (i := 1204) (by decide +kernel), List.mem_of_getElem? (i := 1205) (by decide +kernel)⟩
theorem lw_p41 : lw_okq (⟨"LoadBourseModel", "with", "(III)I"⟩, 26) := ⟨⟨by decide +kernel, by decide +kernel⟩, List.mem_of_getElem? (i := 979) (by decide +kernel), List.mem_of_getElem? (i := 1208) (by decide +kernel), List.mem_of_getElem? (i := 1209) (by decide +kernel)⟩
theorem lw_p42 : lw_okq (⟨"LoadBourseModel", "isOpen", "(III)Z"⟩, 26) := ⟨⟨by decide +kernel, by decide +kernel⟩, List.mem_of_getElem? (i := 979) (by decide +kernel), List.mem_of_getElem? (i := 1215) (by decide +kernel), List.mem_of_getElem? (i := 1216) (by decide +kernel)⟩
theorem lw_p43 : lw_okq (⟨"LoadBourseModel", "endOf", "(II)I"⟩, 26) := ⟨⟨by decide +kernel, by decide +kernel⟩, List.mem_of_getElem? (i := 979) (by decide +kernel), List.mem_of_getElem? (i := 1265) (by decide +kernel), List.mem_of_getElem? (i := 1266) (by decide +kernel)⟩
theorem lw_p44 : lw_okq (⟨"LoadBourseModel", "trustOf", "(II)I"⟩, 26) := ⟨⟨by decide +kernel, by decide +kernel⟩, List.mem_of_getElem? (i := 979) (by decide +kernel), List.mem_of_getElem? (i := 1290) (by decide +kernel), List.mem_of_getElem? (i := 1291) (by decide +kernel)⟩
theorem lw_p45 : lw_okq (⟨"LoadBourseModel", "netOf", "(I)I"⟩, 26) := ⟨⟨by decide +kernel, by decide +kernel⟩, List.mem_of_getElem? (i := 979) (by decide +kernel), List.mem_of_getElem? (i := 1302) (by decide +kernel), List.mem_of_getElem? (i := 1303) (by decide +kernel)⟩
theorem lw_p46 : lw_okq (⟨"LoadBourseModel", "findPayments", "()I"⟩, 26) := ⟨⟨by decide +kernel, by decide +kernel⟩, List.mem_of_getElem? (i := 979) (by decide +kernel), List.mem_of_getElem? (i := 1310) (by decide +kernel), List.mem_of_getElem? (i := 1311) (by decide +kernel)⟩
theorem lw_p47 : lw_okq (⟨"LoadBourseModel", "wrongAt", "()I"⟩, 26) := ⟨⟨by decide +kernel, by decide +kernel⟩, List.mem_of_getElem? (i := 979) (by decide +kernel), List.mem_of_getElem? (i := 1330) (by decide +kernel), List.mem_of_getElem? (i := 1331) (by decide +kernel)⟩
def lw_privs_3 : List (MethodName × Nat) := [(⟨"LoadBourseModel", "drives", "(III)I"⟩, 26), (⟨"LoadBourseModel", "carries", "(I)I"⟩, 26), (⟨"LoadBourseModel", "goes", "(IZ)I"⟩, 26), (⟨"LoadBourseModel", "docks", "(II)I"⟩, 26), (⟨"LoadBourseModel", "valueOf", "(II)I"⟩, 26), (⟨"LoadBourseModel", "payOf", "(I)I"⟩, 26), (⟨"LoadBourseModel", "findRows", "()V"⟩, 26), (⟨"LoadBourseModel", "given", "()I"⟩, 26), (⟨"LoadBourseModel", "findGiving", "(I)I"⟩, 26), (⟨"LoadBourseModel", "with", "(III)I"⟩, 26), (⟨"LoadBourseModel", "isOpen", "(III)Z"⟩, 26), (⟨"LoadBourseModel", "endOf", "(II)I"⟩, 26), (⟨"LoadBourseModel", "trustOf", "(II)I"⟩, 26), (⟨"LoadBourseModel", "netOf", "(I)I"⟩, 26), (⟨"LoadBourseModel", "findPayments", "()I"⟩, 26), (⟨"LoadBourseModel", "wrongAt", "()I"⟩, 26)]
theorem lw_r3 : ∀ q ∈ lw_privs_3, lw_okq q := List.forall_mem_cons.mpr ⟨lw_p32, List.forall_mem_cons.mpr ⟨lw_p33, List.forall_mem_cons.mpr ⟨lw_p34, List.forall_mem_cons.mpr ⟨lw_p35, List.forall_mem_cons.mpr ⟨lw_p36, List.forall_mem_cons.mpr ⟨lw_p37, List.forall_mem_cons.mpr ⟨lw_p38, List.forall_mem_cons.mpr ⟨lw_p39, List.forall_mem_cons.mpr ⟨lw_p40, List.forall_mem_cons.mpr ⟨lw_p41, List.forall_mem_cons.mpr ⟨lw_p42, List.forall_mem_cons.mpr ⟨lw_p43, List.forall_mem_cons.mpr ⟨lw_p44, List.forall_mem_cons.mpr ⟨lw_p45, List.forall_mem_cons.mpr ⟨lw_p46, List.forall_mem_cons.mpr ⟨lw_p47, fun _ h => absurd h List.not_mem_nil⟩⟩⟩⟩⟩⟩⟩⟩⟩⟩⟩⟩⟩⟩⟩⟩
theorem lw_p48 : lw_okq (⟨"LoadBourseModel", "readBy", "(IIII)I"⟩, 26) := ⟨⟨by decide +kernel, by decide +kernel⟩, List.mem_of_getElem? (i := 979) (by decide +kernel), List.mem_of_getElem? (i := 1339) (by decide +kernel), List.mem_of_getElem? (i := 1340) (by decide +kernel)⟩
theorem lw_p49 : lw_okq (⟨"LoadBourseModel", "contractsOf", "(I)I"⟩, 26) := ⟨⟨by decide +kernel, by decide +kernel⟩, List.mem_of_getElem? (i := 979) (by decide +kernel), List.mem_of_getElem? (i := 1343) (by decide +kernel), List.mem_of_getElem? (i := 1344) (by decide +kernel)⟩
def lw_privs_4 : List (MethodName × Nat) := [(⟨"LoadBourseModel", "readBy", "(IIII)I"⟩, 26), (⟨"LoadBourseModel", "contractsOf", "(I)I"⟩, 26)]
theorem lw_r4 : ∀ q ∈ lw_privs_4, lw_okq q := List.forall_mem_cons.mpr ⟨lw_p48, List.forall_mem_cons.mpr ⟨lw_p49, fun _ h => absurd h List.not_mem_nil⟩⟩
def lw_privs : List (MethodName × Nat) := lw_privs_1 ++ (lw_privs_2 ++ (lw_privs_3 ++ (lw_privs_4)))
def lw_tbl : List Cond := k2_sels lw_privs ++ tables_1
theorem lw_privs_ok : ∀ q ∈ lw_privs, lw_okq q := by
  show ∀ q ∈ lw_privs_1 ++ (lw_privs_2 ++ (lw_privs_3 ++ (lw_privs_4))), lw_okq q
  exact List.forall_mem_append.mpr ⟨lw_r1, List.forall_mem_append.mpr ⟨lw_r2, List.forall_mem_append.mpr ⟨lw_r3, lw_r4⟩⟩⟩
end
section
def RX0 : String := "LoadBourse$Drive"
def RX1 : String := "LoadBourse$Firms"
def RX2 : String := "LoadBourse$Giving"
def RX3 : String := "LoadBourse$Journal"
def RX4 : String := "LoadBourse$Pallets"
def RX5 : String := "LoadBourse$Prices"
def RX6 : String := "LoadBourse$Reports"
def RX7 : String := "LoadBourse$Sheet"
def RX8 : String := "LoadBourse$Table"
def RX9 : String := "LoadBourse$Terms"
def RX10 : String := "LoadBourse$Towns"
def RX11 : String := "LoadBourse"
def RX12 : String := "LoadBourseModel"
def RJx8e188 : String := "java/lang/Cloneable"
def RJ6 : String := "java/lang/Integer"
def RJ9 : String := "java/lang/Math"
def RJ10 : String := "java/lang/System"
def RJ7 : String := "java/util/Arrays"
def RL : String := "LoadBourseLaw"
def TX0 : u_T := fun k => match k with
  | 0 => ("LoadBourse$Drive", "towns", "LLoadBourse$Towns;", true)
  | 1 => ("LoadBourse$Drive", "lorries", "LLoadBourse$Table;", true)
  | 2 => ("LoadBourse$Drive", "loads", "LLoadBourse$Table;", true)
  | 3 => ("LoadBourse$Drive", "town", "I", false)
  | 4 => ("LoadBourse$Drive", "minute", "I", false)
  | 5 => ("LoadBourse$Drive", "sinceRest", "I", false)
  | 6 => ("LoadBourse$Drive", "driven", "I", false)
  | 7 => ("LoadBourse$Drive", "withoutLoad", "I", false)
  | 8 => ("LoadBourse$Drive", "rests", "I", false)
  | 9 => ("LoadBourse$Drive", "waited", "I", false)
  | 10 => ("LoadBourse$Drive", "earned", "I", false)
  | _ => ("LoadBourse$Drive", "fault", "I", false)
def tyX0 : Nat → FieldType := fun k => match k with
  | 0 => .object "LoadBourse$Towns"
  | 1 => .object "LoadBourse$Table"
  | 2 => .object "LoadBourse$Table"
  | 3 => .int
  | 4 => .int
  | 5 => .int
  | 6 => .int
  | 7 => .int
  | 8 => .int
  | 9 => .int
  | 10 => .int
  | _ => .int
theorem nmX0 : ∀ a, a < 12 → ∀ b, b < 12 → a ≠ b → (TX0 a).2.1 ≠ (TX0 b).2.1 := by decide +kernel
theorem tyX0_ok : ∀ k, k < 12 → parseFieldDescriptor (TX0 k).2.2.1 = some (tyX0 k) := by decide +kernel
def TX1 : u_T := fun k => match k with
  | 0 => ("LoadBourse$Firms", "journal", "LLoadBourse$Journal;", true)
  | 1 => ("LoadBourse$Firms", "handed", "LLoadBourse$Table;", true)
  | 2 => ("LoadBourse$Firms", "judged", "[I", true)
  | 3 => ("LoadBourse$Firms", "links", "I", false)
  | _ => ("LoadBourse$Firms", "carrier", "I", false)
def tyX1 : Nat → FieldType := fun k => match k with
  | 0 => .object "LoadBourse$Journal"
  | 1 => .object "LoadBourse$Table"
  | 2 => .array .int
  | 3 => .int
  | _ => .int
theorem nmX1 : ∀ a, a < 5 → ∀ b, b < 5 → a ≠ b → (TX1 a).2.1 ≠ (TX1 b).2.1 := by decide +kernel
theorem tyX1_ok : ∀ k, k < 5 → parseFieldDescriptor (TX1 k).2.2.1 = some (tyX1 k) := by decide +kernel
def TX2 : u_T := fun k => match k with
  | 0 => ("LoadBourse$Giving", "journal", "LLoadBourse$Journal;", true)
  | 1 => ("LoadBourse$Giving", "lorries", "LLoadBourse$Table;", true)
  | 2 => ("LoadBourse$Giving", "loads", "LLoadBourse$Table;", true)
  | 3 => ("LoadBourse$Giving", "drive", "LLoadBourse$Drive;", true)
  | 4 => ("LoadBourse$Giving", "most", "[I", true)
  | 5 => ("LoadBourse$Giving", "choices", "[I", true)
  | 6 => ("LoadBourse$Giving", "rowsGiven", "[I", true)
  | 7 => ("LoadBourse$Giving", "rows", "[I", true)
  | 8 => ("LoadBourse$Giving", "takes", "[I", true)
  | 9 => ("LoadBourse$Giving", "values", "[I", true)
  | 10 => ("LoadBourse$Giving", "rowCount", "I", false)
  | 11 => ("LoadBourse$Giving", "free", "I", false)
  | _ => ("LoadBourse$Giving", "workedAt", "I", false)
def tyX2 : Nat → FieldType := fun k => match k with
  | 0 => .object "LoadBourse$Journal"
  | 1 => .object "LoadBourse$Table"
  | 2 => .object "LoadBourse$Table"
  | 3 => .object "LoadBourse$Drive"
  | 4 => .array .int
  | 5 => .array .int
  | 6 => .array .int
  | 7 => .array .int
  | 8 => .array .int
  | 9 => .array .int
  | 10 => .int
  | 11 => .int
  | _ => .int
theorem nmX2 : ∀ a, a < 13 → ∀ b, b < 13 → a ≠ b → (TX2 a).2.1 ≠ (TX2 b).2.1 := by decide +kernel
theorem tyX2_ok : ∀ k, k < 13 → parseFieldDescriptor (TX2 k).2.2.1 = some (tyX2 k) := by decide +kernel
def TX3 : u_T := fun k => match k with
  | 0 => ("LoadBourse$Journal", "rows", "[[I", true)
  | 1 => ("LoadBourse$Journal", "olds", "[[I", true)
  | 2 => ("LoadBourse$Journal", "places", "[I", true)
  | 3 => ("LoadBourse$Journal", "kept", "I", false)
  | 4 => ("LoadBourse$Journal", "next", "I", false)
  | _ => ("LoadBourse$Journal", "changes", "I", false)
def tyX3 : Nat → FieldType := fun k => match k with
  | 0 => .array (.array .int)
  | 1 => .array (.array .int)
  | 2 => .array .int
  | 3 => .int
  | 4 => .int
  | _ => .int
theorem nmX3 : ∀ a, a < 6 → ∀ b, b < 6 → a ≠ b → (TX3 a).2.1 ≠ (TX3 b).2.1 := by decide +kernel
theorem tyX3_ok : ∀ k, k < 6 → parseFieldDescriptor (TX3 k).2.2.1 = some (tyX3 k) := by decide +kernel
def TX4 : u_T := fun k => match k with
  | 0 => ("LoadBourse$Pallets", "journal", "LLoadBourse$Journal;", true)
  | 1 => ("LoadBourse$Pallets", "owed", "[I", true)
  | 2 => ("LoadBourse$Pallets", "sums", "[I", true)
  | 3 => ("LoadBourse$Pallets", "payments", "[I", true)
  | _ => ("LoadBourse$Pallets", "paymentCount", "I", false)
def tyX4 : Nat → FieldType := fun k => match k with
  | 0 => .object "LoadBourse$Journal"
  | 1 => .array .int
  | 2 => .array .int
  | 3 => .array .int
  | _ => .int
theorem nmX4 : ∀ a, a < 5 → ∀ b, b < 5 → a ≠ b → (TX4 a).2.1 ≠ (TX4 b).2.1 := by decide +kernel
theorem tyX4_ok : ∀ k, k < 5 → parseFieldDescriptor (TX4 k).2.2.1 = some (tyX4 k) := by decide +kernel
def TX5 : u_T := fun k => match k with
  | 0 => ("LoadBourse$Prices", "paid", "LLoadBourse$Table;", true)
  | _ => ("LoadBourse$Prices", "sorted", "[I", true)
def tyX5 : Nat → FieldType := fun k => match k with
  | 0 => .object "LoadBourse$Table"
  | _ => .array .int
theorem nmX5 : ∀ a, a < 2 → ∀ b, b < 2 → a ≠ b → (TX5 a).2.1 ≠ (TX5 b).2.1 := by decide +kernel
theorem tyX5_ok : ∀ k, k < 2 → parseFieldDescriptor (TX5 k).2.2.1 = some (tyX5 k) := by decide +kernel
def TX6 : u_T := fun k => match k with
  | 0 => ("LoadBourse$Reports", "towns", "LLoadBourse$Towns;", true)
  | 1 => ("LoadBourse$Reports", "told", "LLoadBourse$Table;", true)
  | 2 => ("LoadBourse$Reports", "pairs", "I", false)
  | _ => ("LoadBourse$Reports", "firstPair", "I", false)
def tyX6 : Nat → FieldType := fun k => match k with
  | 0 => .object "LoadBourse$Towns"
  | 1 => .object "LoadBourse$Table"
  | 2 => .int
  | _ => .int
theorem nmX6 : ∀ a, a < 4 → ∀ b, b < 4 → a ≠ b → (TX6 a).2.1 ≠ (TX6 b).2.1 := by decide +kernel
theorem tyX6_ok : ∀ k, k < 4 → parseFieldDescriptor (TX6 k).2.2.1 = some (tyX6 k) := by decide +kernel
def TX7 : u_T := fun k => match k with
  | 0 => ("LoadBourse$Sheet", "numbers", "[I", true)
  | 1 => ("LoadBourse$Sheet", "bits", "I", false)
  | _ => ("LoadBourse$Sheet", "count", "I", false)
def tyX7 : Nat → FieldType := fun k => match k with
  | 0 => .array .int
  | 1 => .int
  | _ => .int
theorem nmX7 : ∀ a, a < 3 → ∀ b, b < 3 → a ≠ b → (TX7 a).2.1 ≠ (TX7 b).2.1 := by decide +kernel
theorem tyX7_ok : ∀ k, k < 3 → parseFieldDescriptor (TX7 k).2.2.1 = some (tyX7 k) := by decide +kernel
def TX8 : u_T := fun k => match k with
  | 0 => ("LoadBourse$Table", "journal", "LLoadBourse$Journal;", true)
  | 1 => ("LoadBourse$Table", "columns", "I", true)
  | 2 => ("LoadBourse$Table", "most", "I", true)
  | _ => ("LoadBourse$Table", "cells", "[I", true)
def tyX8 : Nat → FieldType := fun k => match k with
  | 0 => .object "LoadBourse$Journal"
  | 1 => .int
  | 2 => .int
  | _ => .array .int
theorem nmX8 : ∀ a, a < 4 → ∀ b, b < 4 → a ≠ b → (TX8 a).2.1 ≠ (TX8 b).2.1 := by decide +kernel
theorem tyX8_ok : ∀ k, k < 4 → parseFieldDescriptor (TX8 k).2.2.1 = some (tyX8 k) := by decide +kernel
def TX9 : u_T := fun k => match k with
  | 0 => ("LoadBourse$Terms", "journal", "LLoadBourse$Journal;", true)
  | 1 => ("LoadBourse$Terms", "signs", "[I", true)
  | 2 => ("LoadBourse$Terms", "facts", "[I", true)
  | _ => ("LoadBourse$Terms", "numbers", "[I", true)
def tyX9 : Nat → FieldType := fun k => match k with
  | 0 => .object "LoadBourse$Journal"
  | 1 => .array .int
  | 2 => .array .int
  | _ => .array .int
theorem nmX9 : ∀ a, a < 4 → ∀ b, b < 4 → a ≠ b → (TX9 a).2.1 ≠ (TX9 b).2.1 := by decide +kernel
theorem tyX9_ok : ∀ k, k < 4 → parseFieldDescriptor (TX9 k).2.2.1 = some (tyX9 k) := by decide +kernel
def TX10 : u_T := fun k => match k with
  | 0 => ("LoadBourse$Towns", "journal", "LLoadBourse$Journal;", true)
  | 1 => ("LoadBourse$Towns", "roads", "[I", true)
  | 2 => ("LoadBourse$Towns", "ways", "[I", true)
  | _ => ("LoadBourse$Towns", "measuredAt", "I", false)
def tyX10 : Nat → FieldType := fun k => match k with
  | 0 => .object "LoadBourse$Journal"
  | 1 => .array .int
  | 2 => .array .int
  | _ => .int
theorem nmX10 : ∀ a, a < 4 → ∀ b, b < 4 → a ≠ b → (TX10 a).2.1 ≠ (TX10 b).2.1 := by decide +kernel
theorem tyX10_ok : ∀ k, k < 4 → parseFieldDescriptor (TX10 k).2.2.1 = some (tyX10 k) := by decide +kernel
def TX11 : u_T := fun k => match k with
  | 0 => ("LoadBourse", "journal", "LLoadBourse$Journal;", true)
  | 1 => ("LoadBourse", "towns", "LLoadBourse$Towns;", true)
  | 2 => ("LoadBourse", "lorries", "LLoadBourse$Table;", true)
  | 3 => ("LoadBourse", "loads", "LLoadBourse$Table;", true)
  | 4 => ("LoadBourse", "driving", "LLoadBourse$Drive;", true)
  | 5 => ("LoadBourse", "giving", "LLoadBourse$Giving;", true)
  | 6 => ("LoadBourse", "prices", "LLoadBourse$Prices;", true)
  | 7 => ("LoadBourse", "firms", "LLoadBourse$Firms;", true)
  | 8 => ("LoadBourse", "reports", "LLoadBourse$Reports;", true)
  | 9 => ("LoadBourse", "pallets", "LLoadBourse$Pallets;", true)
  | 10 => ("LoadBourse", "terms", "LLoadBourse$Terms;", true)
  | 11 => ("LoadBourse", "sheets", "[LLoadBourse$Sheet;", true)
  | _ => ("LoadBourse", "findings", "I", false)
def tyX11 : Nat → FieldType := fun k => match k with
  | 0 => .object "LoadBourse$Journal"
  | 1 => .object "LoadBourse$Towns"
  | 2 => .object "LoadBourse$Table"
  | 3 => .object "LoadBourse$Table"
  | 4 => .object "LoadBourse$Drive"
  | 5 => .object "LoadBourse$Giving"
  | 6 => .object "LoadBourse$Prices"
  | 7 => .object "LoadBourse$Firms"
  | 8 => .object "LoadBourse$Reports"
  | 9 => .object "LoadBourse$Pallets"
  | 10 => .object "LoadBourse$Terms"
  | 11 => .array (.object "LoadBourse$Sheet")
  | _ => .int
theorem nmX11 : ∀ a, a < 13 → ∀ b, b < 13 → a ≠ b → (TX11 a).2.1 ≠ (TX11 b).2.1 := by decide +kernel
theorem tyX11_ok : ∀ k, k < 13 → parseFieldDescriptor (TX11 k).2.2.1 = some (tyX11 k) := by decide +kernel
def TX12 : u_T := fun k => match k with
  | 0 => ("LoadBourseModel", "now", "[I", true)
  | 1 => ("LoadBourseModel", "past", "[I", true)
  | 2 => ("LoadBourseModel", "kept", "I", false)
  | 3 => ("LoadBourseModel", "findings", "I", false)
  | 4 => ("LoadBourseModel", "bits", "[I", true)
  | 5 => ("LoadBourseModel", "sizes", "[I", true)
  | 6 => ("LoadBourseModel", "sheets", "[I", true)
  | 7 => ("LoadBourseModel", "far", "[I", true)
  | 8 => ("LoadBourseModel", "minute", "I", false)
  | 9 => ("LoadBourseModel", "since", "I", false)
  | 10 => ("LoadBourseModel", "driven", "I", false)
  | 11 => ("LoadBourseModel", "emptyOnes", "I", false)
  | 12 => ("LoadBourseModel", "rests", "I", false)
  | 13 => ("LoadBourseModel", "waited", "I", false)
  | 14 => ("LoadBourseModel", "town", "I", false)
  | 15 => ("LoadBourseModel", "may", "[Z", true)
  | 16 => ("LoadBourseModel", "values", "[I", true)
  | 17 => ("LoadBourseModel", "empties", "[I", true)
  | 18 => ("LoadBourseModel", "best", "[I", true)
  | 19 => ("LoadBourseModel", "chosen", "[I", true)
  | 20 => ("LoadBourseModel", "sorted", "[I", true)
  | 21 => ("LoadBourseModel", "links", "I", false)
  | 22 => ("LoadBourseModel", "sums", "[I", true)
  | 23 => ("LoadBourseModel", "payments", "[I", true)
  | 24 => ("LoadBourseModel", "row", "[I", true)
  | _ => ("LoadBourseModel", "carried", "[I", true)
def tyX12 : Nat → FieldType := fun k => match k with
  | 0 => .array .int
  | 1 => .array .int
  | 2 => .int
  | 3 => .int
  | 4 => .array .int
  | 5 => .array .int
  | 6 => .array .int
  | 7 => .array .int
  | 8 => .int
  | 9 => .int
  | 10 => .int
  | 11 => .int
  | 12 => .int
  | 13 => .int
  | 14 => .int
  | 15 => .array .boolean
  | 16 => .array .int
  | 17 => .array .int
  | 18 => .array .int
  | 19 => .array .int
  | 20 => .array .int
  | 21 => .int
  | 22 => .array .int
  | 23 => .array .int
  | 24 => .array .int
  | _ => .array .int
theorem nmX12 : ∀ a, a < 26 → ∀ b, b < 26 → a ≠ b → (TX12 a).2.1 ≠ (TX12 b).2.1 := by decide +kernel
theorem tyX12_ok : ∀ k, k < 26 → parseFieldDescriptor (TX12 k).2.2.1 = some (tyX12 k) := by decide +kernel
abbrev cX0_init : ByteArray := prog_2_method_1_code
def yX0_init : MethodName := ⟨RX0, "<init>", "(LLoadBourse$Towns;LLoadBourse$Table;LLoadBourse$Table;)V"⟩
abbrev cX0_fits : ByteArray := prog_2_method_2_code
def yX0_fits : MethodName := ⟨RX0, "fits", "(II)Z"⟩
abbrev cX0_takes : ByteArray := prog_2_method_3_code
def yX0_takes : MethodName := ⟨RX0, "takes", "(II)Z"⟩
abbrev cX0_run : ByteArray := prog_2_method_4_code
def yX0_run : MethodName := ⟨RX0, "run", "(III)I"⟩
abbrev cX0_value : ByteArray := prog_2_method_5_code
def yX0_value : MethodName := ⟨RX0, "value", "()I"⟩
abbrev cX0_tells : ByteArray := prog_2_method_6_code
def yX0_tells : MethodName := ⟨RX0, "tells", "(I)I"⟩
abbrev cX0_emptyMinutes : ByteArray := prog_2_method_7_code
def yX0_emptyMinutes : MethodName := ⟨RX0, "emptyMinutes", "()I"⟩
abbrev cX0_carry : ByteArray := prog_2_method_8_code
def yX0_carry : MethodName := ⟨RX0, "carry", "(I)V"⟩
abbrev cX0_go : ByteArray := prog_2_method_9_code
def yX0_go : MethodName := ⟨RX0, "go", "(IZ)V"⟩
abbrev cX0_roll : ByteArray := prog_2_method_10_code
def yX0_roll : MethodName := ⟨RX0, "roll", "(I)V"⟩
abbrev cX0_dock : ByteArray := prog_2_method_11_code
def yX0_dock : MethodName := ⟨RX0, "dock", "(II)V"⟩
abbrev cX1_init : ByteArray := prog_3_method_1_code
def yX1_init : MethodName := ⟨RX1, "<init>", "(LLoadBourse$Journal;)V"⟩
abbrev cX1_contracts : ByteArray := prog_3_method_2_code
def yX1_contracts : MethodName := ⟨RX1, "contracts", "()I"⟩
abbrev cX1_handOn : ByteArray := prog_3_method_3_code
def yX1_handOn : MethodName := ⟨RX1, "handOn", "(III)I"⟩
abbrev cX1_contractsOf : ByteArray := prog_3_method_4_code
def yX1_contractsOf : MethodName := ⟨RX1, "contractsOf", "(I)I"⟩
abbrev cX1_follow : ByteArray := prog_3_method_5_code
def yX1_follow : MethodName := ⟨RX1, "follow", "(II)V"⟩
abbrev cX1_links : ByteArray := prog_3_method_6_code
def yX1_links : MethodName := ⟨RX1, "links", "()I"⟩
abbrev cX1_carrier : ByteArray := prog_3_method_7_code
def yX1_carrier : MethodName := ⟨RX1, "carrier", "()I"⟩
abbrev cX1_firstUnused : ByteArray := prog_3_method_8_code
def yX1_firstUnused : MethodName := ⟨RX1, "firstUnused", "(III)I"⟩
abbrev cX1_doubleGivers : ByteArray := prog_3_method_9_code
def yX1_doubleGivers : MethodName := ⟨RX1, "doubleGivers", "(I)I"⟩
abbrev cX1_judge : ByteArray := prog_3_method_10_code
def yX1_judge : MethodName := ⟨RX1, "judge", "(IZ)I"⟩
abbrev cX1_leastTrust : ByteArray := prog_3_method_11_code
def yX1_leastTrust : MethodName := ⟨RX1, "leastTrust", "(I)I"⟩
abbrev cX1_greatestTrust : ByteArray := prog_3_method_12_code
def yX1_greatestTrust : MethodName := ⟨RX1, "greatestTrust", "(I)I"⟩
abbrev cX1_doneOf : ByteArray := prog_3_method_13_code
def yX1_doneOf : MethodName := ⟨RX1, "doneOf", "(I)I"⟩
abbrev cX1_judgedOf : ByteArray := prog_3_method_14_code
def yX1_judgedOf : MethodName := ⟨RX1, "judgedOf", "(I)I"⟩
abbrev cX2_init : ByteArray := prog_4_method_1_code
def yX2_init : MethodName := ⟨RX2, "<init>", "(LLoadBourse$Journal;LLoadBourse$Table;LLoadBourse$Table;LLoadBourse$Drive;)V"⟩
abbrev cX2_firstOf : ByteArray := prog_4_method_2_code
def yX2_firstOf : MethodName := ⟨RX2, "firstOf", "(I)I"⟩
abbrev cX2_secondOf : ByteArray := prog_4_method_3_code
def yX2_secondOf : MethodName := ⟨RX2, "secondOf", "(I)I"⟩
abbrev cX2_rowBy : ByteArray := prog_4_method_4_code
def yX2_rowBy : MethodName := ⟨RX2, "rowBy", "(II)I"⟩
abbrev cX2_bitOf : ByteArray := prog_4_method_5_code
def yX2_bitOf : MethodName := ⟨RX2, "bitOf", "(I)I"⟩
abbrev cX2_loadsOf : ByteArray := prog_4_method_6_code
def yX2_loadsOf : MethodName := ⟨RX2, "loadsOf", "(I)I"⟩
abbrev cX2_work : ByteArray := prog_4_method_7_code
def yX2_work : MethodName := ⟨RX2, "work", "()V"⟩
abbrev cX2_gatherRows : ByteArray := prog_4_method_8_code
def yX2_gatherRows : MethodName := ⟨RX2, "gatherRows", "(I)V"⟩
abbrev cX2_fitting : ByteArray := prog_4_method_9_code
def yX2_fitting : MethodName := ⟨RX2, "fitting", "(I)I"⟩
abbrev cX2_addRow : ByteArray := prog_4_method_10_code
def yX2_addRow : MethodName := ⟨RX2, "addRow", "(II)V"⟩
abbrev cX2_choose : ByteArray := prog_4_method_11_code
def yX2_choose : MethodName := ⟨RX2, "choose", "(II)V"⟩
abbrev cX2_handOut : ByteArray := prog_4_method_12_code
def yX2_handOut : MethodName := ⟨RX2, "handOut", "(I)V"⟩
abbrev cX2_value : ByteArray := prog_4_method_13_code
def yX2_value : MethodName := ⟨RX2, "value", "()I"⟩
abbrev cX2_valueWithout : ByteArray := prog_4_method_14_code
def yX2_valueWithout : MethodName := ⟨RX2, "valueWithout", "(I)I"⟩
abbrev cX2_rowOf : ByteArray := prog_4_method_15_code
def yX2_rowOf : MethodName := ⟨RX2, "rowOf", "(I)I"⟩
abbrev cX2_emptyOf : ByteArray := prog_4_method_16_code
def yX2_emptyOf : MethodName := ⟨RX2, "emptyOf", "(II)I"⟩
abbrev cX2_firstDoubt : ByteArray := prog_4_method_17_code
def yX2_firstDoubt : MethodName := ⟨RX2, "firstDoubt", "(LLoadBourse$Sheet;)I"⟩
abbrev cX2_isOfThese : ByteArray := prog_4_method_18_code
def yX2_isOfThese : MethodName := ⟨RX2, "isOfThese", "(II)Z"⟩
abbrev cX3_init : ByteArray := prog_5_method_1_code
def yX3_init : MethodName := ⟨RX3, "<init>", "()V"⟩
abbrev cX3_changes : ByteArray := prog_5_method_2_code
def yX3_changes : MethodName := ⟨RX3, "changes", "()I"⟩
abbrev cX3_keep : ByteArray := prog_5_method_3_code
def yX3_keep : MethodName := ⟨RX3, "keep", "([III)V"⟩
abbrev cX3_takeBack : ByteArray := prog_5_method_4_code
def yX3_takeBack : MethodName := ⟨RX3, "takeBack", "()I"⟩
abbrev cX3_writeAgain : ByteArray := prog_5_method_5_code
def yX3_writeAgain : MethodName := ⟨RX3, "writeAgain", "([I[II)V"⟩
abbrev cX4_init : ByteArray := prog_6_method_1_code
def yX4_init : MethodName := ⟨RX4, "<init>", "(LLoadBourse$Journal;)V"⟩
abbrev cX4_move : ByteArray := prog_6_method_2_code
def yX4_move : MethodName := ⟨RX4, "move", "(III)I"⟩
abbrev cX4_sumOf : ByteArray := prog_6_method_3_code
def yX4_sumOf : MethodName := ⟨RX4, "sumOf", "(I)I"⟩
abbrev cX4_settle : ByteArray := prog_6_method_4_code
def yX4_settle : MethodName := ⟨RX4, "settle", "()I"⟩
abbrev cX4_settleOne : ByteArray := prog_6_method_5_code
def yX4_settleOne : MethodName := ⟨RX4, "settleOne", "()Z"⟩
abbrev cX4_payment : ByteArray := prog_6_method_6_code
def yX4_payment : MethodName := ⟨RX4, "payment", "(I)I"⟩
abbrev cX4_forget : ByteArray := prog_6_method_7_code
def yX4_forget : MethodName := ⟨RX4, "forget", "()V"⟩
abbrev cX5_init : ByteArray := prog_7_method_1_code
def yX5_init : MethodName := ⟨RX5, "<init>", "(LLoadBourse$Journal;)V"⟩
abbrev cX5_count : ByteArray := prog_7_method_2_code
def yX5_count : MethodName := ⟨RX5, "count", "()I"⟩
abbrev cX5_enter : ByteArray := prog_7_method_3_code
def yX5_enter : MethodName := ⟨RX5, "enter", "(III)I"⟩
abbrev cX5_tells : ByteArray := prog_7_method_4_code
def yX5_tells : MethodName := ⟨RX5, "tells", "(III)I"⟩
abbrev cX5_gather : ByteArray := prog_7_method_5_code
def yX5_gather : MethodName := ⟨RX5, "gather", "(II)I"⟩
abbrev cX5_insert : ByteArray := prog_7_method_6_code
def yX5_insert : MethodName := ⟨RX5, "insert", "(II)V"⟩
abbrev cX6_init : ByteArray := prog_8_method_1_code
def yX6_init : MethodName := ⟨RX6, "<init>", "(LLoadBourse$Journal;LLoadBourse$Towns;)V"⟩
abbrev cX6_count : ByteArray := prog_8_method_2_code
def yX6_count : MethodName := ⟨RX6, "count", "()I"⟩
abbrev cX6_enter : ByteArray := prog_8_method_3_code
def yX6_enter : MethodName := ⟨RX6, "enter", "(III)I"⟩
abbrev cX6_compare : ByteArray := prog_8_method_4_code
def yX6_compare : MethodName := ⟨RX6, "compare", "(I)V"⟩
abbrev cX6_pairs : ByteArray := prog_8_method_5_code
def yX6_pairs : MethodName := ⟨RX6, "pairs", "()I"⟩
abbrev cX6_firstPair : ByteArray := prog_8_method_6_code
def yX6_firstPair : MethodName := ⟨RX6, "firstPair", "()I"⟩
abbrev cX6_cannotBe : ByteArray := prog_8_method_7_code
def yX6_cannotBe : MethodName := ⟨RX6, "cannotBe", "(II)Z"⟩
abbrev cX7_init : ByteArray := prog_9_method_1_code
def yX7_init : MethodName := ⟨RX7, "<init>", "()V"⟩
abbrev cX7_begin : ByteArray := prog_9_method_2_code
def yX7_begin : MethodName := ⟨RX7, "begin", "(II)V"⟩
abbrev cX7_isMissing : ByteArray := prog_9_method_3_code
def yX7_isMissing : MethodName := ⟨RX7, "isMissing", "()Z"⟩
abbrev cX7_isAsWideAs : ByteArray := prog_9_method_4_code
def yX7_isAsWideAs : MethodName := ⟨RX7, "isAsWideAs", "(LLoadBourse$Sheet;)Z"⟩
abbrev cX7_count : ByteArray := prog_9_method_5_code
def yX7_count : MethodName := ⟨RX7, "count", "()I"⟩
abbrev cX7_reaches : ByteArray := prog_9_method_6_code
def yX7_reaches : MethodName := ⟨RX7, "reaches", "(II)Z"⟩
abbrev cX7_at : ByteArray := prog_9_method_7_code
def yX7_at : MethodName := ⟨RX7, "at", "(I)I"⟩
abbrev cX7_write : ByteArray := prog_9_method_8_code
def yX7_write : MethodName := ⟨RX7, "write", "(II)V"⟩
abbrev cX7_take : ByteArray := prog_9_method_9_code
def yX7_take : MethodName := ⟨RX7, "take", "(LLoadBourse$Sheet;III)V"⟩
abbrev cX8_init : ByteArray := prog_10_method_1_code
def yX8_init : MethodName := ⟨RX8, "<init>", "(LLoadBourse$Journal;II)V"⟩
abbrev cX8_count : ByteArray := prog_10_method_2_code
def yX8_count : MethodName := ⟨RX8, "count", "()I"⟩
abbrev cX8_has : ByteArray := prog_10_method_3_code
def yX8_has : MethodName := ⟨RX8, "has", "(I)Z"⟩
abbrev cX8_at : ByteArray := prog_10_method_4_code
def yX8_at : MethodName := ⟨RX8, "at", "(II)I"⟩
abbrev cX8_add : ByteArray := prog_10_method_5_code
def yX8_add : MethodName := ⟨RX8, "add", "([I)I"⟩
abbrev cX8_set : ByteArray := prog_10_method_6_code
def yX8_set : MethodName := ⟨RX8, "set", "(III)I"⟩
abbrev cX8_setPair : ByteArray := prog_10_method_7_code
def yX8_setPair : MethodName := ⟨RX8, "setPair", "(IIII)V"⟩
abbrev cX8_isCell : ByteArray := prog_10_method_8_code
def yX8_isCell : MethodName := ⟨RX8, "isCell", "(II)Z"⟩
abbrev cX9_init : ByteArray := prog_11_method_1_code
def yX9_init : MethodName := ⟨RX9, "<init>", "(LLoadBourse$Journal;)V"⟩
abbrev cX9_read : ByteArray := prog_11_method_2_code
def yX9_read : MethodName := ⟨RX9, "read", "(LLoadBourse$Sheet;)I"⟩
abbrev cX9_isSign : ByteArray := prog_11_method_3_code
def yX9_isSign : MethodName := ⟨RX9, "isSign", "(I)Z"⟩
abbrev cX9_count : ByteArray := prog_11_method_4_code
def yX9_count : MethodName := ⟨RX9, "count", "()I"⟩
abbrev cX9_firstFault : ByteArray := prog_11_method_5_code
def yX9_firstFault : MethodName := ⟨RX9, "firstFault", "()I"⟩
abbrev cX9_know : ByteArray := prog_11_method_6_code
def yX9_know : MethodName := ⟨RX9, "know", "(II)V"⟩
abbrev cX9_workOut : ByteArray := prog_11_method_7_code
def yX9_workOut : MethodName := ⟨RX9, "workOut", "()I"⟩
abbrev cX9_single : ByteArray := prog_11_method_8_code
def yX9_single : MethodName := ⟨RX9, "single", "(I)I"⟩
abbrev cX9_joined : ByteArray := prog_11_method_9_code
def yX9_joined : MethodName := ⟨RX9, "joined", "(III)I"⟩
abbrev cX10_init : ByteArray := prog_12_method_1_code
def yX10_init : MethodName := ⟨RX10, "<init>", "(LLoadBourse$Journal;)V"⟩
abbrev cX10_join : ByteArray := prog_12_method_2_code
def yX10_join : MethodName := ⟨RX10, "join", "(III)I"⟩
abbrev cX10_measure : ByteArray := prog_12_method_3_code
def yX10_measure : MethodName := ⟨RX10, "measure", "()V"⟩
abbrev cX10_shortenBy : ByteArray := prog_12_method_4_code
def yX10_shortenBy : MethodName := ⟨RX10, "shortenBy", "(I)V"⟩
abbrev cX10_between : ByteArray := prog_12_method_5_code
def yX10_between : MethodName := ⟨RX10, "between", "(II)I"⟩
abbrev cX11_init : ByteArray := prog_1_method_1_code
def yX11_init : MethodName := ⟨RX11, "<init>", "()V"⟩
abbrev cX11_road : ByteArray := prog_1_method_2_code
def yX11_road : MethodName := ⟨RX11, "road", "(III)I"⟩
abbrev cX11_far : ByteArray := prog_1_method_3_code
def yX11_far : MethodName := ⟨RX11, "far", "(II)I"⟩
abbrev cX11_lorry : ByteArray := prog_1_method_4_code
def yX11_lorry : MethodName := ⟨RX11, "lorry", "(IIIIII)I"⟩
abbrev cX11_as : ByteArray := prog_1_method_5_code
def yX11_as : MethodName := ⟨RX11, "as", "(II)I"⟩
abbrev cX11_lorryIs : ByteArray := prog_1_method_6_code
def yX11_lorryIs : MethodName := ⟨RX11, "lorryIs", "(II)I"⟩
abbrev cX11_load : ByteArray := prog_1_method_7_code
def yX11_load : MethodName := ⟨RX11, "load", "(IIIII)I"⟩
abbrev cX11_window : ByteArray := prog_1_method_8_code
def yX11_window : MethodName := ⟨RX11, "window", "(IZII)I"⟩
abbrev cX11_loadIs : ByteArray := prog_1_method_9_code
def yX11_loadIs : MethodName := ⟨RX11, "loadIs", "(II)I"⟩
abbrev cX11_pay : ByteArray := prog_1_method_10_code
def yX11_pay : MethodName := ⟨RX11, "pay", "(II)I"⟩
abbrev cX11_give : ByteArray := prog_1_method_11_code
def yX11_give : MethodName := ⟨RX11, "give", "(II)I"⟩
abbrev cX11_why : ByteArray := prog_1_method_12_code
def yX11_why : MethodName := ⟨RX11, "why", "(III)I"⟩
abbrev cX11_drive : ByteArray := prog_1_method_13_code
def yX11_drive : MethodName := ⟨RX11, "drive", "(IIII)I"⟩
abbrev cX11_best : ByteArray := prog_1_method_14_code
def yX11_best : MethodName := ⟨RX11, "best", "()I"⟩
abbrev cX11_gets : ByteArray := prog_1_method_15_code
def yX11_gets : MethodName := ⟨RX11, "gets", "(II)I"⟩
abbrev cX11_empty : ByteArray := prog_1_method_16_code
def yX11_empty : MethodName := ⟨RX11, "empty", "(Z)I"⟩
abbrev cX11_worth : ByteArray := prog_1_method_17_code
def yX11_worth : MethodName := ⟨RX11, "worth", "(I)I"⟩
abbrev cX11_paid : ByteArray := prog_1_method_18_code
def yX11_paid : MethodName := ⟨RX11, "paid", "(III)I"⟩
abbrev cX11_span : ByteArray := prog_1_method_19_code
def yX11_span : MethodName := ⟨RX11, "span", "(III)I"⟩
abbrev cX11_contract : ByteArray := prog_1_method_20_code
def yX11_contract : MethodName := ⟨RX11, "contract", "(III)I"⟩
abbrev cX11_chain : ByteArray := prog_1_method_21_code
def yX11_chain : MethodName := ⟨RX11, "chain", "(IIZ)I"⟩
abbrev cX11_doubles : ByteArray := prog_1_method_22_code
def yX11_doubles : MethodName := ⟨RX11, "doubles", "(I)I"⟩
abbrev cX11_report : ByteArray := prog_1_method_23_code
def yX11_report : MethodName := ⟨RX11, "report", "(III)I"⟩
abbrev cX11_cannot : ByteArray := prog_1_method_24_code
def yX11_cannot : MethodName := ⟨RX11, "cannot", "(IZ)I"⟩
abbrev cX11_trusts : ByteArray := prog_1_method_25_code
def yX11_trusts : MethodName := ⟨RX11, "trusts", "(IZ)I"⟩
abbrev cX11_trust : ByteArray := prog_1_method_26_code
def yX11_trust : MethodName := ⟨RX11, "trust", "(IZ)I"⟩
abbrev cX11_owe : ByteArray := prog_1_method_27_code
def yX11_owe : MethodName := ⟨RX11, "owe", "(III)I"⟩
abbrev cX11_net : ByteArray := prog_1_method_28_code
def yX11_net : MethodName := ⟨RX11, "net", "(I)I"⟩
abbrev cX11_clearing : ByteArray := prog_1_method_29_code
def yX11_clearing : MethodName := ⟨RX11, "clearing", "(I)I"⟩
abbrev cX11_clear : ByteArray := prog_1_method_30_code
def yX11_clear : MethodName := ⟨RX11, "clear", "()I"⟩
abbrev cX11_text : ByteArray := prog_1_method_31_code
def yX11_text : MethodName := ⟨RX11, "text", "(I)I"⟩
abbrev cX11_wrong : ByteArray := prog_1_method_32_code
def yX11_wrong : MethodName := ⟨RX11, "wrong", "()I"⟩
abbrev cX11_claim : ByteArray := prog_1_method_33_code
def yX11_claim : MethodName := ⟨RX11, "claim", "(III)I"⟩
abbrev cX11_proves : ByteArray := prog_1_method_34_code
def yX11_proves : MethodName := ⟨RX11, "proves", "(I)I"⟩
abbrev cX11_sheet : ByteArray := prog_1_method_35_code
def yX11_sheet : MethodName := ⟨RX11, "sheet", "(III)I"⟩
abbrev cX11_put : ByteArray := prog_1_method_36_code
def yX11_put : MethodName := ⟨RX11, "put", "(III)I"⟩
abbrev cX11_copy : ByteArray := prog_1_method_37_code
def yX11_copy : MethodName := ⟨RX11, "copy", "(IIIII)I"⟩
abbrev cX11_undo : ByteArray := prog_1_method_38_code
def yX11_undo : MethodName := ⟨RX11, "undo", "()I"⟩
abbrev cX11_all : ByteArray := prog_1_method_39_code
def yX11_all : MethodName := ⟨RX11, "all", "(I)I"⟩
abbrev cX11_told : ByteArray := prog_1_method_40_code
def yX11_told : MethodName := ⟨RX11, "told", "(I)I"⟩
abbrev cX11_findingOfRow : ByteArray := prog_1_method_41_code
def yX11_findingOfRow : MethodName := ⟨RX11, "findingOfRow", "(III)I"⟩
abbrev cX11_givenTo : ByteArray := prog_1_method_42_code
def yX11_givenTo : MethodName := ⟨RX11, "givenTo", "(I)I"⟩
abbrev cX11_isLoadOrNone : ByteArray := prog_1_method_43_code
def yX11_isLoadOrNone : MethodName := ⟨RX11, "isLoadOrNone", "(I)Z"⟩
abbrev cX11_within : ByteArray := prog_1_method_44_code
def yX11_within : MethodName := ⟨RX11, "within", "(III)Z"⟩
abbrev cX11_isTown : ByteArray := prog_1_method_45_code
def yX11_isTown : MethodName := ⟨RX11, "isTown", "(I)Z"⟩
abbrev cX11_isLane : ByteArray := prog_1_method_46_code
def yX11_isLane : MethodName := ⟨RX11, "isLane", "(I)Z"⟩
abbrev cX11_isFirm : ByteArray := prog_1_method_47_code
def yX11_isFirm : MethodName := ⟨RX11, "isFirm", "(I)Z"⟩
abbrev cX11_isSheet : ByteArray := prog_1_method_48_code
def yX11_isSheet : MethodName := ⟨RX11, "isSheet", "(I)Z"⟩
abbrev cX12_init : ByteArray := prog_14_method_1_code
def yX12_init : MethodName := ⟨RX12, "<init>", "()V"⟩
abbrev cX12_finding : ByteArray := prog_14_method_2_code
def yX12_finding : MethodName := ⟨RX12, "finding", "(I)I"⟩
abbrev cX12_within : ByteArray := prog_14_method_3_code
def yX12_within : MethodName := ⟨RX12, "within", "(III)Z"⟩
abbrev cX12_isTown : ByteArray := prog_14_method_4_code
def yX12_isTown : MethodName := ⟨RX12, "isTown", "(I)Z"⟩
abbrev cX12_isFirm : ByteArray := prog_14_method_5_code
def yX12_isFirm : MethodName := ⟨RX12, "isFirm", "(I)Z"⟩
abbrev cX12_isLorry : ByteArray := prog_14_method_6_code
def yX12_isLorry : MethodName := ⟨RX12, "isLorry", "(I)Z"⟩
abbrev cX12_isLoad : ByteArray := prog_14_method_7_code
def yX12_isLoad : MethodName := ⟨RX12, "isLoad", "(I)Z"⟩
abbrev cX12_keep : ByteArray := prog_14_method_8_code
def yX12_keep : MethodName := ⟨RX12, "keep", "()V"⟩
abbrev cX12_undo : ByteArray := prog_14_method_9_code
def yX12_undo : MethodName := ⟨RX12, "undo", "()I"⟩
abbrev cX12_road : ByteArray := prog_14_method_10_code
def yX12_road : MethodName := ⟨RX12, "road", "(III)I"⟩
abbrev cX12_findFar : ByteArray := prog_14_method_11_code
def yX12_findFar : MethodName := ⟨RX12, "findFar", "()V"⟩
abbrev cX12_isApart : ByteArray := prog_14_method_12_code
def yX12_isApart : MethodName := ⟨RX12, "isApart", "(II)Z"⟩
abbrev cX12_far : ByteArray := prog_14_method_13_code
def yX12_far : MethodName := ⟨RX12, "far", "(II)I"⟩
abbrev cX12_ofLorry : ByteArray := prog_14_method_14_code
def yX12_ofLorry : MethodName := ⟨RX12, "ofLorry", "(II)I"⟩
abbrev cX12_ofLoad : ByteArray := prog_14_method_15_code
def yX12_ofLoad : MethodName := ⟨RX12, "ofLoad", "(II)I"⟩
abbrev cX12_lorry : ByteArray := prog_14_method_16_code
def yX12_lorry : MethodName := ⟨RX12, "lorry", "(IIIIII)I"⟩
abbrev cX12_as : ByteArray := prog_14_method_17_code
def yX12_as : MethodName := ⟨RX12, "as", "(II)I"⟩
abbrev cX12_lorryIs : ByteArray := prog_14_method_18_code
def yX12_lorryIs : MethodName := ⟨RX12, "lorryIs", "(II)I"⟩
abbrev cX12_load : ByteArray := prog_14_method_19_code
def yX12_load : MethodName := ⟨RX12, "load", "(IIIII)I"⟩
abbrev cX12_window : ByteArray := prog_14_method_20_code
def yX12_window : MethodName := ⟨RX12, "window", "(IZII)I"⟩
abbrev cX12_loadIs : ByteArray := prog_14_method_21_code
def yX12_loadIs : MethodName := ⟨RX12, "loadIs", "(II)I"⟩
abbrev cX12_pay : ByteArray := prog_14_method_22_code
def yX12_pay : MethodName := ⟨RX12, "pay", "(II)I"⟩
abbrev cX12_fits : ByteArray := prog_14_method_23_code
def yX12_fits : MethodName := ⟨RX12, "fits", "(II)Z"⟩
abbrev cX12_give : ByteArray := prog_14_method_24_code
def yX12_give : MethodName := ⟨RX12, "give", "(II)I"⟩
abbrev cX12_goes : ByteArray := prog_14_method_25_code
def yX12_goes : MethodName := ⟨RX12, "goes", "(IZ)I"⟩
abbrev cX12_docks : ByteArray := prog_14_method_26_code
def yX12_docks : MethodName := ⟨RX12, "docks", "(II)I"⟩
abbrev cX12_carries : ByteArray := prog_14_method_27_code
def yX12_carries : MethodName := ⟨RX12, "carries", "(I)I"⟩
abbrev cX12_drives : ByteArray := prog_14_method_28_code
def yX12_drives : MethodName := ⟨RX12, "drives", "(III)I"⟩
abbrev cX12_payOf : ByteArray := prog_14_method_29_code
def yX12_payOf : MethodName := ⟨RX12, "payOf", "(I)I"⟩
abbrev cX12_valueOf : ByteArray := prog_14_method_30_code
def yX12_valueOf : MethodName := ⟨RX12, "valueOf", "(II)I"⟩
abbrev cX12_refused : ByteArray := prog_14_method_31_code
def yX12_refused : MethodName := ⟨RX12, "refused", "(III)I"⟩
abbrev cX12_why : ByteArray := prog_14_method_32_code
def yX12_why : MethodName := ⟨RX12, "why", "(III)I"⟩
abbrev cX12_drive : ByteArray := prog_14_method_33_code
def yX12_drive : MethodName := ⟨RX12, "drive", "(IIII)I"⟩
abbrev cX12_setOf : ByteArray := prog_14_method_34_code
def yX12_setOf : MethodName := ⟨RX12, "setOf", "(I)I"⟩
abbrev cX12_findRows : ByteArray := prog_14_method_35_code
def yX12_findRows : MethodName := ⟨RX12, "findRows", "()V"⟩
abbrev cX12_given : ByteArray := prog_14_method_36_code
def yX12_given : MethodName := ⟨RX12, "given", "()I"⟩
abbrev cX12_with : ByteArray := prog_14_method_37_code
def yX12_with : MethodName := ⟨RX12, "with", "(III)I"⟩
abbrev cX12_isOpen : ByteArray := prog_14_method_38_code
def yX12_isOpen : MethodName := ⟨RX12, "isOpen", "(III)Z"⟩
abbrev cX12_findGiving : ByteArray := prog_14_method_39_code
def yX12_findGiving : MethodName := ⟨RX12, "findGiving", "(I)I"⟩
abbrev cX12_best : ByteArray := prog_14_method_40_code
def yX12_best : MethodName := ⟨RX12, "best", "()I"⟩
abbrev cX12_gets : ByteArray := prog_14_method_41_code
def yX12_gets : MethodName := ⟨RX12, "gets", "(II)I"⟩
abbrev cX12_empty : ByteArray := prog_14_method_42_code
def yX12_empty : MethodName := ⟨RX12, "empty", "(Z)I"⟩
abbrev cX12_worth : ByteArray := prog_14_method_43_code
def yX12_worth : MethodName := ⟨RX12, "worth", "(I)I"⟩
abbrev cX12_proves : ByteArray := prog_14_method_44_code
def yX12_proves : MethodName := ⟨RX12, "proves", "(I)I"⟩
abbrev cX12_isLane : ByteArray := prog_14_method_45_code
def yX12_isLane : MethodName := ⟨RX12, "isLane", "(I)Z"⟩
abbrev cX12_isDay : ByteArray := prog_14_method_46_code
def yX12_isDay : MethodName := ⟨RX12, "isDay", "(I)Z"⟩
abbrev cX12_paid : ByteArray := prog_14_method_47_code
def yX12_paid : MethodName := ⟨RX12, "paid", "(III)I"⟩
abbrev cX12_span : ByteArray := prog_14_method_48_code
def yX12_span : MethodName := ⟨RX12, "span", "(III)I"⟩
abbrev cX12_contract : ByteArray := prog_14_method_49_code
def yX12_contract : MethodName := ⟨RX12, "contract", "(III)I"⟩
abbrev cX12_endOf : ByteArray := prog_14_method_50_code
def yX12_endOf : MethodName := ⟨RX12, "endOf", "(II)I"⟩
abbrev cX12_chain : ByteArray := prog_14_method_51_code
def yX12_chain : MethodName := ⟨RX12, "chain", "(IIZ)I"⟩
abbrev cX12_doubles : ByteArray := prog_14_method_52_code
def yX12_doubles : MethodName := ⟨RX12, "doubles", "(I)I"⟩
abbrev cX12_report : ByteArray := prog_14_method_53_code
def yX12_report : MethodName := ⟨RX12, "report", "(III)I"⟩
abbrev cX12_cannot : ByteArray := prog_14_method_54_code
def yX12_cannot : MethodName := ⟨RX12, "cannot", "(IZ)I"⟩
abbrev cX12_trusts : ByteArray := prog_14_method_55_code
def yX12_trusts : MethodName := ⟨RX12, "trusts", "(IZ)I"⟩
abbrev cX12_trustOf : ByteArray := prog_14_method_56_code
def yX12_trustOf : MethodName := ⟨RX12, "trustOf", "(II)I"⟩
abbrev cX12_trust : ByteArray := prog_14_method_57_code
def yX12_trust : MethodName := ⟨RX12, "trust", "(IZ)I"⟩
abbrev cX12_owe : ByteArray := prog_14_method_58_code
def yX12_owe : MethodName := ⟨RX12, "owe", "(III)I"⟩
abbrev cX12_netOf : ByteArray := prog_14_method_59_code
def yX12_netOf : MethodName := ⟨RX12, "netOf", "(I)I"⟩
abbrev cX12_net : ByteArray := prog_14_method_60_code
def yX12_net : MethodName := ⟨RX12, "net", "(I)I"⟩
abbrev cX12_findPayments : ByteArray := prog_14_method_61_code
def yX12_findPayments : MethodName := ⟨RX12, "findPayments", "()I"⟩
abbrev cX12_clearing : ByteArray := prog_14_method_62_code
def yX12_clearing : MethodName := ⟨RX12, "clearing", "(I)I"⟩
abbrev cX12_clear : ByteArray := prog_14_method_63_code
def yX12_clear : MethodName := ⟨RX12, "clear", "()I"⟩
abbrev cX12_isSign : ByteArray := prog_14_method_64_code
def yX12_isSign : MethodName := ⟨RX12, "isSign", "(I)Z"⟩
abbrev cX12_text : ByteArray := prog_14_method_65_code
def yX12_text : MethodName := ⟨RX12, "text", "(I)I"⟩
abbrev cX12_wrongAt : ByteArray := prog_14_method_66_code
def yX12_wrongAt : MethodName := ⟨RX12, "wrongAt", "()I"⟩
abbrev cX12_wrong : ByteArray := prog_14_method_67_code
def yX12_wrong : MethodName := ⟨RX12, "wrong", "()I"⟩
abbrev cX12_contractsOf : ByteArray := prog_14_method_68_code
def yX12_contractsOf : MethodName := ⟨RX12, "contractsOf", "(I)I"⟩
abbrev cX12_readBy : ByteArray := prog_14_method_69_code
def yX12_readBy : MethodName := ⟨RX12, "readBy", "(IIII)I"⟩
abbrev cX12_joined : ByteArray := prog_14_method_70_code
def yX12_joined : MethodName := ⟨RX12, "joined", "(III)I"⟩
abbrev cX12_claim : ByteArray := prog_14_method_71_code
def yX12_claim : MethodName := ⟨RX12, "claim", "(III)I"⟩
abbrev cX12_isSheet : ByteArray := prog_14_method_72_code
def yX12_isSheet : MethodName := ⟨RX12, "isSheet", "(I)Z"⟩
abbrev cX12_sheet : ByteArray := prog_14_method_73_code
def yX12_sheet : MethodName := ⟨RX12, "sheet", "(III)I"⟩
abbrev cX12_put : ByteArray := prog_14_method_74_code
def yX12_put : MethodName := ⟨RX12, "put", "(III)I"⟩
abbrev cX12_copy : ByteArray := prog_14_method_75_code
def yX12_copy : MethodName := ⟨RX12, "copy", "(IIIII)I"⟩
abbrev cX12_all : ByteArray := prog_14_method_76_code
def yX12_all : MethodName := ⟨RX12, "all", "(I)I"⟩
abbrev cJ6_bitCount_0f7a4 : ByteArray := prog_16_method_49_code
def yJ6_bitCount_0f7a4 : MethodName := ⟨RJ6, "bitCount", "(I)I"⟩
abbrev cJ9_abs_0f7a4 : ByteArray := prog_17_method_59_code
def yJ9_abs_0f7a4 : MethodName := ⟨RJ9, "abs", "(I)I"⟩
abbrev cJ9_max_7cf53 : ByteArray := prog_17_method_65_code
def yJ9_max_7cf53 : MethodName := ⟨RJ9, "max", "(II)I"⟩
abbrev cJ9_min_7cf53 : ByteArray := prog_17_method_69_code
def yJ9_min_7cf53 : MethodName := ⟨RJ9, "min", "(II)I"⟩
abbrev cJ7_fill_53178 : ByteArray := prog_19_method_103_code
def yJ7_fill_53178 : MethodName := ⟨RJ7, "fill", "([II)V"⟩
abbrev cJ7_checkLength_df160 : ByteArray := prog_19_method_131_code
def yJ7_checkLength_df160 : MethodName := ⟨RJ7, "checkLength", "(II)V"⟩
abbrev cJ7_copyOfRange_feecc : ByteArray := prog_19_method_136_code
def yJ7_copyOfRange_feecc : MethodName := ⟨RJ7, "copyOfRange", "([III)[I"⟩
abbrev cJ7_copyOfRangeInt_feecc : ByteArray := prog_19_method_137_code
def yJ7_copyOfRangeInt_feecc : MethodName := ⟨RJ7, "copyOfRangeInt", "([III)[I"⟩
abbrev cL_law : ByteArray := code
def yL_law : MethodName := ⟨RL, "law", "([I)Z"⟩
abbrev clL : List vw_C := [(RX0, TX0, 12), (RX1, TX1, 5), (RX2, TX2, 13), (RX3, TX3, 6), (RX4, TX4, 5), (RX5, TX5, 2), (RX6, TX6, 4), (RX7, TX7, 3), (RX8, TX8, 4), (RX9, TX9, 4), (RX10, TX10, 4), (RX11, TX11, 13), (RX12, TX12, 26)]
set_option maxRecDepth 20000 in
theorem inX0 : ∀ w ∈ u_ws RX0 TX0 12, w ∈ lw_tbl := by decide +kernel
set_option maxRecDepth 20000 in
theorem inX1 : ∀ w ∈ u_ws RX1 TX1 5, w ∈ lw_tbl := by decide +kernel
set_option maxRecDepth 20000 in
theorem inX2 : ∀ w ∈ u_ws RX2 TX2 13, w ∈ lw_tbl := by decide +kernel
set_option maxRecDepth 20000 in
theorem inX3 : ∀ w ∈ u_ws RX3 TX3 6, w ∈ lw_tbl := by decide +kernel
set_option maxRecDepth 20000 in
theorem inX4 : ∀ w ∈ u_ws RX4 TX4 5, w ∈ lw_tbl := by decide +kernel
set_option maxRecDepth 20000 in
theorem inX5 : ∀ w ∈ u_ws RX5 TX5 2, w ∈ lw_tbl := by decide +kernel
set_option maxRecDepth 20000 in
theorem inX6 : ∀ w ∈ u_ws RX6 TX6 4, w ∈ lw_tbl := by decide +kernel
set_option maxRecDepth 20000 in
theorem inX7 : ∀ w ∈ u_ws RX7 TX7 3, w ∈ lw_tbl := by decide +kernel
set_option maxRecDepth 20000 in
theorem inX8 : ∀ w ∈ u_ws RX8 TX8 4, w ∈ lw_tbl := by decide +kernel
set_option maxRecDepth 20000 in
theorem inX9 : ∀ w ∈ u_ws RX9 TX9 4, w ∈ lw_tbl := by decide +kernel
set_option maxRecDepth 20000 in
theorem inX10 : ∀ w ∈ u_ws RX10 TX10 4, w ∈ lw_tbl := by decide +kernel
set_option maxRecDepth 20000 in
theorem inX11 : ∀ w ∈ u_ws RX11 TX11 13, w ∈ lw_tbl := by decide +kernel
set_option maxRecDepth 20000 in
theorem inX12 : ∀ w ∈ u_ws RX12 TX12 26, w ∈ lw_tbl := by decide +kernel
end
section
def gwL : List Cond := lw_tbl.filter goodWord
theorem gw_in {w : Cond} (h : w ∈ lw_tbl) (g : goodWord w = true) : w ∈ gwL := List.mem_filter.mpr ⟨h, g⟩
theorem tk_1 : ∀ w ∈ tables_1_1, w ∈ lw_tbl := fun w h => List.mem_append_right _ (List.mem_append_left _ h)
theorem tk_2 : ∀ w ∈ tables_1_2, w ∈ lw_tbl := fun w h => List.mem_append_right _ (List.mem_append_right _ (List.mem_append_left _ h))
theorem tk_3 : ∀ w ∈ tables_1_3, w ∈ lw_tbl := fun w h => List.mem_append_right _ (List.mem_append_right _ (List.mem_append_right _ (List.mem_append_left _ h)))
theorem tk_4 : ∀ w ∈ tables_1_4, w ∈ lw_tbl := fun w h => List.mem_append_right _ (List.mem_append_right _ (List.mem_append_right _ (List.mem_append_right _ (List.mem_append_left _ h))))
theorem tk_5 : ∀ w ∈ tables_1_5, w ∈ lw_tbl := fun w h => List.mem_append_right _ (List.mem_append_right _ (List.mem_append_right _ (List.mem_append_right _ (List.mem_append_right _ (List.mem_append_left _ h)))))
theorem tk_6 : ∀ w ∈ tables_1_6, w ∈ lw_tbl := fun w h => List.mem_append_right _ (List.mem_append_right _ (List.mem_append_right _ (List.mem_append_right _ (List.mem_append_right _ (List.mem_append_right _ h)))))
theorem tw_0 : Cond.initialized RL ∈ gwL := gw_in (tk_1 _ (List.mem_of_getElem? (i := 0) (by decide +kernel))) rfl
theorem tw_1 : Cond.initialized RX11 ∈ gwL := gw_in (tk_1 _ (List.mem_of_getElem? (i := 1) (by decide +kernel))) rfl
theorem tw_2 : Cond.initialized RX3 ∈ gwL := gw_in (tk_1 _ (List.mem_of_getElem? (i := 2) (by decide +kernel))) rfl
theorem tw_3 : Cond.initialized RX10 ∈ gwL := gw_in (tk_1 _ (List.mem_of_getElem? (i := 3) (by decide +kernel))) rfl
theorem tw_4 : Cond.initialized RX8 ∈ gwL := gw_in (tk_1 _ (List.mem_of_getElem? (i := 4) (by decide +kernel))) rfl
theorem tw_5 : Cond.initialized RJ9 ∈ gwL := gw_in (tk_1 _ (List.mem_of_getElem? (i := 5) (by decide +kernel))) rfl
theorem tw_6 : Cond.initialized RX0 ∈ gwL := gw_in (tk_1 _ (List.mem_of_getElem? (i := 6) (by decide +kernel))) rfl
theorem tw_7 : Cond.initialized RX2 ∈ gwL := gw_in (tk_1 _ (List.mem_of_getElem? (i := 7) (by decide +kernel))) rfl
theorem tw_8 : Cond.initialized RX5 ∈ gwL := gw_in (tk_1 _ (List.mem_of_getElem? (i := 8) (by decide +kernel))) rfl
theorem tw_9 : Cond.initialized RX1 ∈ gwL := gw_in (tk_1 _ (List.mem_of_getElem? (i := 9) (by decide +kernel))) rfl
theorem tw_10 : Cond.initialized RX6 ∈ gwL := gw_in (tk_1 _ (List.mem_of_getElem? (i := 10) (by decide +kernel))) rfl
theorem tw_11 : Cond.initialized RX4 ∈ gwL := gw_in (tk_1 _ (List.mem_of_getElem? (i := 11) (by decide +kernel))) rfl
theorem tw_12 : Cond.initialized RX9 ∈ gwL := gw_in (tk_1 _ (List.mem_of_getElem? (i := 12) (by decide +kernel))) rfl
theorem tw_13 : Cond.initialized RX7 ∈ gwL := gw_in (tk_1 _ (List.mem_of_getElem? (i := 13) (by decide +kernel))) rfl
theorem tw_14 : Cond.initialized RX12 ∈ gwL := gw_in (tk_1 _ (List.mem_of_getElem? (i := 14) (by decide +kernel))) rfl
theorem tw_15 : Cond.initialized RJ7 ∈ gwL := gw_in (tk_1 _ (List.mem_of_getElem? (i := 15) (by decide +kernel))) rfl
theorem tw_16 : Cond.initialized RJ10 ∈ gwL := gw_in (tk_1 _ (List.mem_of_getElem? (i := 16) (by decide +kernel))) rfl
theorem tw_17 : Cond.initialized RJ6 ∈ gwL := gw_in (tk_1 _ (List.mem_of_getElem? (i := 17) (by decide +kernel))) rfl
theorem tw_18 : Cond.classLink RL 7 RX11 ∈ gwL := gw_in (tk_1 _ (List.mem_of_getElem? (i := 18) (by decide +kernel))) rfl
theorem tw_19 : Cond.instantiable RX11 13 ∈ gwL := gw_in (tk_1 _ (List.mem_of_getElem? (i := 19) (by decide +kernel))) rfl
theorem tw_20 : Cond.methodLink RL 9 yX11_init ∈ gwL := gw_in (tk_1 _ (List.mem_of_getElem? (i := 20) (by decide +kernel))) rfl
theorem tw_21 : Cond.instanceMethod yX11_init ∈ gwL := gw_in (tk_1 _ (List.mem_of_getElem? (i := 21) (by decide +kernel))) rfl
theorem tw_22 : Cond.code yX11_init cX11_init 2 none ∈ gwL := gw_in (tk_1 _ (List.mem_of_getElem? (i := 22) (by decide +kernel))) rfl
theorem tw_23 : Cond.methodLink RX11 1 (⟨"java/lang/Object", "<init>", "()V"⟩ : MethodName) ∈ gwL := gw_in (tk_1 _ (List.mem_of_getElem? (i := 23) (by decide +kernel))) rfl
theorem tw_24 : Cond.instanceMethod (⟨"java/lang/Object", "<init>", "()V"⟩ : MethodName) ∈ gwL := gw_in (tk_1 _ (List.mem_of_getElem? (i := 24) (by decide +kernel))) rfl
theorem tw_25 : Cond.code (⟨"java/lang/Object", "<init>", "()V"⟩ : MethodName) object_method_1_code 1 none ∈ gwL := gw_in (tk_1 _ (List.mem_of_getElem? (i := 25) (by decide +kernel))) rfl
theorem tw_26 : Cond.classLink RX11 7 RX3 ∈ gwL := gw_in (tk_1 _ (List.mem_of_getElem? (i := 26) (by decide +kernel))) rfl
theorem tw_27 : Cond.instantiable RX3 6 ∈ gwL := gw_in (tk_1 _ (List.mem_of_getElem? (i := 27) (by decide +kernel))) rfl
theorem tw_28 : Cond.methodLinkNest RX11 9 yX3_init RX11 ∈ lw_tbl := tk_1 _ (List.mem_of_getElem? (i := 28) (by decide +kernel))
theorem tw_29 : Cond.instanceMethod yX3_init ∈ gwL := gw_in (tk_1 _ (List.mem_of_getElem? (i := 29) (by decide +kernel))) rfl
theorem tw_30 : Cond.code yX3_init cX3_init 1 none ∈ gwL := gw_in (tk_1 _ (List.mem_of_getElem? (i := 30) (by decide +kernel))) rfl
theorem tw_31 : Cond.methodLink RX3 3 (⟨"java/lang/Object", "<init>", "()V"⟩ : MethodName) ∈ gwL := gw_in (tk_1 _ (List.mem_of_getElem? (i := 31) (by decide +kernel))) rfl
theorem tw_32 : Cond.classLink RX3 11 "[I" ∈ gwL := gw_in (tk_1 _ (List.mem_of_getElem? (i := 32) (by decide +kernel))) rfl
theorem tw_33 : Cond.arrayOver (.array .int) ∈ lw_tbl := tk_1 _ (List.mem_of_getElem? (i := 33) (by decide +kernel))
theorem tw_34 : Cond.fieldLink RX3 13 "LoadBourse$Journal" "rows" "[[I" ∈ gwL := gw_in (tk_1 _ (List.mem_of_getElem? (i := 34) (by decide +kernel))) rfl
theorem tw_35 : Cond.fieldLink RX3 17 "LoadBourse$Journal" "olds" "[[I" ∈ gwL := gw_in (tk_1 _ (List.mem_of_getElem? (i := 35) (by decide +kernel))) rfl
theorem tw_36 : Cond.fieldLink RX3 20 "LoadBourse$Journal" "places" "[I" ∈ gwL := gw_in (tk_1 _ (List.mem_of_getElem? (i := 36) (by decide +kernel))) rfl
theorem tw_37 : Cond.fieldLink RX3 36 "LoadBourse$Journal" "kept" "I" ∈ gwL := gw_in (tk_1 _ (List.mem_of_getElem? (i := 37) (by decide +kernel))) rfl
theorem tw_38 : Cond.fieldLink RX3 27 "LoadBourse$Journal" "next" "I" ∈ gwL := gw_in (tk_1 _ (List.mem_of_getElem? (i := 38) (by decide +kernel))) rfl
theorem tw_39 : Cond.fieldLink RX3 23 "LoadBourse$Journal" "changes" "I" ∈ gwL := gw_in (tk_1 _ (List.mem_of_getElem? (i := 39) (by decide +kernel))) rfl
theorem tw_53 : Cond.arrayClass .int ∈ gwL := gw_in (tk_1 _ (List.mem_of_getElem? (i := 53) (by decide +kernel))) rfl
theorem tw_54 : Cond.classLink RX11 16 RX10 ∈ gwL := gw_in (tk_1 _ (List.mem_of_getElem? (i := 54) (by decide +kernel))) rfl
theorem tw_55 : Cond.instantiable RX10 4 ∈ gwL := gw_in (tk_1 _ (List.mem_of_getElem? (i := 55) (by decide +kernel))) rfl
theorem tw_56 : Cond.methodLink RX11 18 yX10_init ∈ gwL := gw_in (tk_1 _ (List.mem_of_getElem? (i := 56) (by decide +kernel))) rfl
theorem tw_57 : Cond.instanceMethod yX10_init ∈ gwL := gw_in (tk_1 _ (List.mem_of_getElem? (i := 57) (by decide +kernel))) rfl
theorem tw_58 : Cond.code yX10_init cX10_init 2 none ∈ gwL := gw_in (tk_1 _ (List.mem_of_getElem? (i := 58) (by decide +kernel))) rfl
theorem tw_59 : Cond.methodLink RX10 3 (⟨"java/lang/Object", "<init>", "()V"⟩ : MethodName) ∈ gwL := gw_in (tk_1 _ (List.mem_of_getElem? (i := 59) (by decide +kernel))) rfl
theorem tw_60 : Cond.fieldLink RX10 22 "LoadBourse$Towns" "journal" "LLoadBourse$Journal;" ∈ gwL := gw_in (tk_1 _ (List.mem_of_getElem? (i := 60) (by decide +kernel))) rfl
theorem tw_61 : Cond.fieldLink RX10 9 "LoadBourse$Towns" "roads" "[I" ∈ gwL := gw_in (tk_1 _ (List.mem_of_getElem? (i := 61) (by decide +kernel))) rfl
theorem tw_62 : Cond.fieldLink RX10 15 "LoadBourse$Towns" "ways" "[I" ∈ gwL := gw_in (tk_1 _ (List.mem_of_getElem? (i := 62) (by decide +kernel))) rfl
theorem tw_63 : Cond.fieldLink RX10 18 "LoadBourse$Towns" "measuredAt" "I" ∈ gwL := gw_in (tk_1 _ (List.mem_of_getElem? (i := 63) (by decide +kernel))) rfl
theorem tw_73 : Cond.classLink RX11 25 RX8 ∈ gwL := gw_in (tk_1 _ (List.mem_of_getElem? (i := 73) (by decide +kernel))) rfl
theorem tw_74 : Cond.instantiable RX8 4 ∈ gwL := gw_in (tk_1 _ (List.mem_of_getElem? (i := 74) (by decide +kernel))) rfl
theorem tw_75 : Cond.methodLink RX11 27 yX8_init ∈ gwL := gw_in (tk_1 _ (List.mem_of_getElem? (i := 75) (by decide +kernel))) rfl
theorem tw_76 : Cond.instanceMethod yX8_init ∈ gwL := gw_in (tk_1 _ (List.mem_of_getElem? (i := 76) (by decide +kernel))) rfl
theorem tw_77 : Cond.code yX8_init cX8_init 4 none ∈ gwL := gw_in (tk_1 _ (List.mem_of_getElem? (i := 77) (by decide +kernel))) rfl
theorem tw_78 : Cond.methodLink RX8 3 (⟨"java/lang/Object", "<init>", "()V"⟩ : MethodName) ∈ gwL := gw_in (tk_1 _ (List.mem_of_getElem? (i := 78) (by decide +kernel))) rfl
theorem tw_79 : Cond.methodLink RX8 22 yJ9_max_7cf53 ∈ gwL := gw_in (tk_1 _ (List.mem_of_getElem? (i := 79) (by decide +kernel))) rfl
theorem tw_80 : Cond.static yJ9_max_7cf53 ∈ gwL := gw_in (tk_1 _ (List.mem_of_getElem? (i := 80) (by decide +kernel))) rfl
theorem tw_81 : Cond.code yJ9_max_7cf53 cJ9_max_7cf53 2 (some .int) ∈ gwL := gw_in (tk_1 _ (List.mem_of_getElem? (i := 81) (by decide +kernel))) rfl
theorem tw_82 : Cond.fieldLink RX8 9 "LoadBourse$Table" "journal" "LLoadBourse$Journal;" ∈ gwL := gw_in (tk_1 _ (List.mem_of_getElem? (i := 82) (by decide +kernel))) rfl
theorem tw_83 : Cond.fieldLink RX8 15 "LoadBourse$Table" "columns" "I" ∈ gwL := gw_in (tk_1 _ (List.mem_of_getElem? (i := 83) (by decide +kernel))) rfl
theorem tw_84 : Cond.fieldLink RX8 19 "LoadBourse$Table" "most" "I" ∈ gwL := gw_in (tk_1 _ (List.mem_of_getElem? (i := 84) (by decide +kernel))) rfl
theorem tw_85 : Cond.fieldLink RX8 28 "LoadBourse$Table" "cells" "[I" ∈ gwL := gw_in (tk_1 _ (List.mem_of_getElem? (i := 85) (by decide +kernel))) rfl
theorem tw_95 : Cond.classLink RX11 37 RX0 ∈ gwL := gw_in (tk_1 _ (List.mem_of_getElem? (i := 95) (by decide +kernel))) rfl
theorem tw_96 : Cond.instantiable RX0 12 ∈ gwL := gw_in (tk_1 _ (List.mem_of_getElem? (i := 96) (by decide +kernel))) rfl
theorem tw_97 : Cond.methodLink RX11 39 yX0_init ∈ gwL := gw_in (tk_1 _ (List.mem_of_getElem? (i := 97) (by decide +kernel))) rfl
theorem tw_98 : Cond.instanceMethod yX0_init ∈ gwL := gw_in (tk_1 _ (List.mem_of_getElem? (i := 98) (by decide +kernel))) rfl
theorem tw_99 : Cond.code yX0_init cX0_init 4 none ∈ gwL := gw_in (tk_1 _ (List.mem_of_getElem? (i := 99) (by decide +kernel))) rfl
theorem tw_100 : Cond.methodLink RX0 3 (⟨"java/lang/Object", "<init>", "()V"⟩ : MethodName) ∈ gwL := gw_in (tk_1 _ (List.mem_of_getElem? (i := 100) (by decide +kernel))) rfl
theorem tw_101 : Cond.fieldLink RX0 9 "LoadBourse$Drive" "towns" "LLoadBourse$Towns;" ∈ gwL := gw_in (tk_1 _ (List.mem_of_getElem? (i := 101) (by decide +kernel))) rfl
theorem tw_102 : Cond.fieldLink RX0 15 "LoadBourse$Drive" "lorries" "LLoadBourse$Table;" ∈ gwL := gw_in (tk_1 _ (List.mem_of_getElem? (i := 102) (by decide +kernel))) rfl
theorem tw_103 : Cond.fieldLink RX0 19 "LoadBourse$Drive" "loads" "LLoadBourse$Table;" ∈ gwL := gw_in (tk_1 _ (List.mem_of_getElem? (i := 103) (by decide +kernel))) rfl
theorem tw_104 : Cond.fieldLink RX0 37 "LoadBourse$Drive" "town" "I" ∈ gwL := gw_in (tk_1 _ (List.mem_of_getElem? (i := 104) (by decide +kernel))) rfl
theorem tw_105 : Cond.fieldLink RX0 41 "LoadBourse$Drive" "minute" "I" ∈ gwL := gw_in (tk_1 _ (List.mem_of_getElem? (i := 105) (by decide +kernel))) rfl
theorem tw_106 : Cond.fieldLink RX0 44 "LoadBourse$Drive" "sinceRest" "I" ∈ gwL := gw_in (tk_1 _ (List.mem_of_getElem? (i := 106) (by decide +kernel))) rfl
theorem tw_107 : Cond.fieldLink RX0 47 "LoadBourse$Drive" "driven" "I" ∈ gwL := gw_in (tk_1 _ (List.mem_of_getElem? (i := 107) (by decide +kernel))) rfl
theorem tw_108 : Cond.fieldLink RX0 50 "LoadBourse$Drive" "withoutLoad" "I" ∈ gwL := gw_in (tk_1 _ (List.mem_of_getElem? (i := 108) (by decide +kernel))) rfl
theorem tw_109 : Cond.fieldLink RX0 53 "LoadBourse$Drive" "rests" "I" ∈ gwL := gw_in (tk_1 _ (List.mem_of_getElem? (i := 109) (by decide +kernel))) rfl
theorem tw_110 : Cond.fieldLink RX0 56 "LoadBourse$Drive" "waited" "I" ∈ gwL := gw_in (tk_1 _ (List.mem_of_getElem? (i := 110) (by decide +kernel))) rfl
theorem tw_111 : Cond.fieldLink RX0 59 "LoadBourse$Drive" "earned" "I" ∈ gwL := gw_in (tk_1 _ (List.mem_of_getElem? (i := 111) (by decide +kernel))) rfl
theorem tw_112 : Cond.fieldLink RX0 62 "LoadBourse$Drive" "fault" "I" ∈ gwL := gw_in (tk_1 _ (List.mem_of_getElem? (i := 112) (by decide +kernel))) rfl
theorem tw_138 : Cond.classLink RX11 46 RX2 ∈ gwL := gw_in (tk_1 _ (List.mem_of_getElem? (i := 138) (by decide +kernel))) rfl
theorem tw_139 : Cond.instantiable RX2 13 ∈ gwL := gw_in (tk_1 _ (List.mem_of_getElem? (i := 139) (by decide +kernel))) rfl
theorem tw_140 : Cond.methodLink RX11 48 yX2_init ∈ gwL := gw_in (tk_1 _ (List.mem_of_getElem? (i := 140) (by decide +kernel))) rfl
theorem tw_141 : Cond.instanceMethod yX2_init ∈ gwL := gw_in (tk_1 _ (List.mem_of_getElem? (i := 141) (by decide +kernel))) rfl
theorem tw_142 : Cond.code yX2_init cX2_init 5 none ∈ gwL := gw_in (tk_1 _ (List.mem_of_getElem? (i := 142) (by decide +kernel))) rfl
theorem tw_143 : Cond.methodLink RX2 3 (⟨"java/lang/Object", "<init>", "()V"⟩ : MethodName) ∈ gwL := gw_in (tk_1 _ (List.mem_of_getElem? (i := 143) (by decide +kernel))) rfl
theorem tw_144 : Cond.fieldLink RX2 34 "LoadBourse$Giving" "journal" "LLoadBourse$Journal;" ∈ gwL := gw_in (tk_1 _ (List.mem_of_getElem? (i := 144) (by decide +kernel))) rfl
theorem tw_145 : Cond.fieldLink RX2 38 "LoadBourse$Giving" "lorries" "LLoadBourse$Table;" ∈ gwL := gw_in (tk_1 _ (List.mem_of_getElem? (i := 145) (by decide +kernel))) rfl
theorem tw_146 : Cond.fieldLink RX2 42 "LoadBourse$Giving" "loads" "LLoadBourse$Table;" ∈ gwL := gw_in (tk_1 _ (List.mem_of_getElem? (i := 146) (by decide +kernel))) rfl
theorem tw_147 : Cond.fieldLink RX2 45 "LoadBourse$Giving" "drive" "LLoadBourse$Drive;" ∈ gwL := gw_in (tk_1 _ (List.mem_of_getElem? (i := 147) (by decide +kernel))) rfl
theorem tw_148 : Cond.fieldLink RX2 11 "LoadBourse$Giving" "most" "[I" ∈ gwL := gw_in (tk_1 _ (List.mem_of_getElem? (i := 148) (by decide +kernel))) rfl
theorem tw_149 : Cond.fieldLink RX2 15 "LoadBourse$Giving" "choices" "[I" ∈ gwL := gw_in (tk_1 _ (List.mem_of_getElem? (i := 149) (by decide +kernel))) rfl
theorem tw_150 : Cond.fieldLink RX2 18 "LoadBourse$Giving" "rowsGiven" "[I" ∈ gwL := gw_in (tk_1 _ (List.mem_of_getElem? (i := 150) (by decide +kernel))) rfl
theorem tw_151 : Cond.fieldLink RX2 21 "LoadBourse$Giving" "rows" "[I" ∈ gwL := gw_in (tk_1 _ (List.mem_of_getElem? (i := 151) (by decide +kernel))) rfl
theorem tw_152 : Cond.fieldLink RX2 24 "LoadBourse$Giving" "takes" "[I" ∈ gwL := gw_in (tk_1 _ (List.mem_of_getElem? (i := 152) (by decide +kernel))) rfl
theorem tw_153 : Cond.fieldLink RX2 27 "LoadBourse$Giving" "values" "[I" ∈ gwL := gw_in (tk_1 _ (List.mem_of_getElem? (i := 153) (by decide +kernel))) rfl
theorem tw_154 : Cond.fieldLink RX2 110 "LoadBourse$Giving" "rowCount" "I" ∈ gwL := gw_in (tk_1 _ (List.mem_of_getElem? (i := 154) (by decide +kernel))) rfl
theorem tw_155 : Cond.fieldLink RX2 65 "LoadBourse$Giving" "free" "I" ∈ gwL := gw_in (tk_1 _ (List.mem_of_getElem? (i := 155) (by decide +kernel))) rfl
theorem tw_156 : Cond.fieldLink RX2 30 "LoadBourse$Giving" "workedAt" "I" ∈ gwL := gw_in (tk_1 _ (List.mem_of_getElem? (i := 156) (by decide +kernel))) rfl
theorem tw_184 : Cond.classLink RX11 55 RX5 ∈ gwL := gw_in (tk_1 _ (List.mem_of_getElem? (i := 184) (by decide +kernel))) rfl
theorem tw_185 : Cond.instantiable RX5 2 ∈ gwL := gw_in (tk_1 _ (List.mem_of_getElem? (i := 185) (by decide +kernel))) rfl
theorem tw_186 : Cond.methodLink RX11 57 yX5_init ∈ gwL := gw_in (tk_1 _ (List.mem_of_getElem? (i := 186) (by decide +kernel))) rfl
theorem tw_187 : Cond.instanceMethod yX5_init ∈ gwL := gw_in (tk_1 _ (List.mem_of_getElem? (i := 187) (by decide +kernel))) rfl
theorem tw_188 : Cond.code yX5_init cX5_init 2 none ∈ gwL := gw_in (tk_1 _ (List.mem_of_getElem? (i := 188) (by decide +kernel))) rfl
theorem tw_189 : Cond.methodLink RX5 3 (⟨"java/lang/Object", "<init>", "()V"⟩ : MethodName) ∈ gwL := gw_in (tk_1 _ (List.mem_of_getElem? (i := 189) (by decide +kernel))) rfl
theorem tw_190 : Cond.classLink RX5 15 RX8 ∈ gwL := gw_in (tk_1 _ (List.mem_of_getElem? (i := 190) (by decide +kernel))) rfl
theorem tw_191 : Cond.methodLink RX5 17 yX8_init ∈ gwL := gw_in (tk_1 _ (List.mem_of_getElem? (i := 191) (by decide +kernel))) rfl
theorem tw_192 : Cond.fieldLink RX5 20 "LoadBourse$Prices" "paid" "LLoadBourse$Table;" ∈ gwL := gw_in (tk_1 _ (List.mem_of_getElem? (i := 192) (by decide +kernel))) rfl
theorem tw_193 : Cond.fieldLink RX5 11 "LoadBourse$Prices" "sorted" "[I" ∈ gwL := gw_in (tk_1 _ (List.mem_of_getElem? (i := 193) (by decide +kernel))) rfl
theorem tw_199 : Cond.classLink RX11 62 RX1 ∈ gwL := gw_in (tk_1 _ (List.mem_of_getElem? (i := 199) (by decide +kernel))) rfl
theorem tw_200 : Cond.instantiable RX1 5 ∈ gwL := gw_in (tk_1 _ (List.mem_of_getElem? (i := 200) (by decide +kernel))) rfl
theorem tw_201 : Cond.methodLink RX11 64 yX1_init ∈ gwL := gw_in (tk_1 _ (List.mem_of_getElem? (i := 201) (by decide +kernel))) rfl
theorem tw_202 : Cond.instanceMethod yX1_init ∈ gwL := gw_in (tk_1 _ (List.mem_of_getElem? (i := 202) (by decide +kernel))) rfl
theorem tw_203 : Cond.code yX1_init cX1_init 2 none ∈ gwL := gw_in (tk_1 _ (List.mem_of_getElem? (i := 203) (by decide +kernel))) rfl
theorem tw_204 : Cond.methodLink RX1 3 (⟨"java/lang/Object", "<init>", "()V"⟩ : MethodName) ∈ gwL := gw_in (tk_1 _ (List.mem_of_getElem? (i := 204) (by decide +kernel))) rfl
theorem tw_205 : Cond.classLink RX1 19 RX8 ∈ gwL := gw_in (tk_1 _ (List.mem_of_getElem? (i := 205) (by decide +kernel))) rfl
theorem tw_206 : Cond.methodLink RX1 21 yX8_init ∈ gwL := gw_in (tk_1 _ (List.mem_of_getElem? (i := 206) (by decide +kernel))) rfl
theorem tw_207 : Cond.fieldLink RX1 15 "LoadBourse$Firms" "journal" "LLoadBourse$Journal;" ∈ gwL := gw_in (tk_1 _ (List.mem_of_getElem? (i := 207) (by decide +kernel))) rfl
theorem tw_208 : Cond.fieldLink RX1 24 "LoadBourse$Firms" "handed" "LLoadBourse$Table;" ∈ gwL := gw_in (tk_1 _ (List.mem_of_getElem? (i := 208) (by decide +kernel))) rfl
theorem tw_209 : Cond.fieldLink RX1 9 "LoadBourse$Firms" "judged" "[I" ∈ gwL := gw_in (tk_1 _ (List.mem_of_getElem? (i := 209) (by decide +kernel))) rfl
theorem tw_210 : Cond.fieldLink RX1 40 "LoadBourse$Firms" "links" "I" ∈ gwL := gw_in (tk_1 _ (List.mem_of_getElem? (i := 210) (by decide +kernel))) rfl
theorem tw_211 : Cond.fieldLink RX1 44 "LoadBourse$Firms" "carrier" "I" ∈ gwL := gw_in (tk_1 _ (List.mem_of_getElem? (i := 211) (by decide +kernel))) rfl
theorem tw_223 : Cond.classLink RX11 69 RX6 ∈ gwL := gw_in (tk_1 _ (List.mem_of_getElem? (i := 223) (by decide +kernel))) rfl
theorem tw_224 : Cond.instantiable RX6 4 ∈ gwL := gw_in (tk_1 _ (List.mem_of_getElem? (i := 224) (by decide +kernel))) rfl
theorem tw_225 : Cond.methodLink RX11 71 yX6_init ∈ gwL := gw_in (tk_1 _ (List.mem_of_getElem? (i := 225) (by decide +kernel))) rfl
theorem tw_226 : Cond.instanceMethod yX6_init ∈ gwL := gw_in (tk_1 _ (List.mem_of_getElem? (i := 226) (by decide +kernel))) rfl
theorem tw_227 : Cond.code yX6_init cX6_init 3 none ∈ gwL := gw_in (tk_1 _ (List.mem_of_getElem? (i := 227) (by decide +kernel))) rfl
theorem tw_228 : Cond.methodLink RX6 3 (⟨"java/lang/Object", "<init>", "()V"⟩ : MethodName) ∈ gwL := gw_in (tk_1 _ (List.mem_of_getElem? (i := 228) (by decide +kernel))) rfl
theorem tw_229 : Cond.classLink RX6 15 RX8 ∈ gwL := gw_in (tk_1 _ (List.mem_of_getElem? (i := 229) (by decide +kernel))) rfl
theorem tw_230 : Cond.methodLink RX6 17 yX8_init ∈ gwL := gw_in (tk_1 _ (List.mem_of_getElem? (i := 230) (by decide +kernel))) rfl
theorem tw_231 : Cond.fieldLink RX6 9 "LoadBourse$Reports" "towns" "LLoadBourse$Towns;" ∈ gwL := gw_in (tk_1 _ (List.mem_of_getElem? (i := 231) (by decide +kernel))) rfl
theorem tw_232 : Cond.fieldLink RX6 20 "LoadBourse$Reports" "told" "LLoadBourse$Table;" ∈ gwL := gw_in (tk_1 _ (List.mem_of_getElem? (i := 232) (by decide +kernel))) rfl
theorem tw_233 : Cond.fieldLink RX6 37 "LoadBourse$Reports" "pairs" "I" ∈ gwL := gw_in (tk_1 _ (List.mem_of_getElem? (i := 233) (by decide +kernel))) rfl
theorem tw_234 : Cond.fieldLink RX6 42 "LoadBourse$Reports" "firstPair" "I" ∈ gwL := gw_in (tk_1 _ (List.mem_of_getElem? (i := 234) (by decide +kernel))) rfl
theorem tw_244 : Cond.classLink RX11 78 RX4 ∈ gwL := gw_in (tk_2 _ (List.mem_of_getElem? (i := 4) (by decide +kernel))) rfl
theorem tw_245 : Cond.instantiable RX4 5 ∈ gwL := gw_in (tk_2 _ (List.mem_of_getElem? (i := 5) (by decide +kernel))) rfl
theorem tw_246 : Cond.methodLink RX11 80 yX4_init ∈ gwL := gw_in (tk_2 _ (List.mem_of_getElem? (i := 6) (by decide +kernel))) rfl
theorem tw_247 : Cond.instanceMethod yX4_init ∈ gwL := gw_in (tk_2 _ (List.mem_of_getElem? (i := 7) (by decide +kernel))) rfl
theorem tw_248 : Cond.code yX4_init cX4_init 2 none ∈ gwL := gw_in (tk_2 _ (List.mem_of_getElem? (i := 8) (by decide +kernel))) rfl
theorem tw_249 : Cond.methodLink RX4 3 (⟨"java/lang/Object", "<init>", "()V"⟩ : MethodName) ∈ gwL := gw_in (tk_2 _ (List.mem_of_getElem? (i := 9) (by decide +kernel))) rfl
theorem tw_250 : Cond.fieldLink RX4 21 "LoadBourse$Pallets" "journal" "LLoadBourse$Journal;" ∈ gwL := gw_in (tk_2 _ (List.mem_of_getElem? (i := 10) (by decide +kernel))) rfl
theorem tw_251 : Cond.fieldLink RX4 9 "LoadBourse$Pallets" "owed" "[I" ∈ gwL := gw_in (tk_2 _ (List.mem_of_getElem? (i := 11) (by decide +kernel))) rfl
theorem tw_252 : Cond.fieldLink RX4 15 "LoadBourse$Pallets" "sums" "[I" ∈ gwL := gw_in (tk_2 _ (List.mem_of_getElem? (i := 12) (by decide +kernel))) rfl
theorem tw_253 : Cond.fieldLink RX4 18 "LoadBourse$Pallets" "payments" "[I" ∈ gwL := gw_in (tk_2 _ (List.mem_of_getElem? (i := 13) (by decide +kernel))) rfl
theorem tw_254 : Cond.fieldLink RX4 45 "LoadBourse$Pallets" "paymentCount" "I" ∈ gwL := gw_in (tk_2 _ (List.mem_of_getElem? (i := 14) (by decide +kernel))) rfl
theorem tw_266 : Cond.classLink RX11 85 RX9 ∈ gwL := gw_in (tk_2 _ (List.mem_of_getElem? (i := 26) (by decide +kernel))) rfl
theorem tw_267 : Cond.instantiable RX9 4 ∈ gwL := gw_in (tk_2 _ (List.mem_of_getElem? (i := 27) (by decide +kernel))) rfl
theorem tw_268 : Cond.methodLink RX11 87 yX9_init ∈ gwL := gw_in (tk_2 _ (List.mem_of_getElem? (i := 28) (by decide +kernel))) rfl
theorem tw_269 : Cond.instanceMethod yX9_init ∈ gwL := gw_in (tk_2 _ (List.mem_of_getElem? (i := 29) (by decide +kernel))) rfl
theorem tw_270 : Cond.code yX9_init cX9_init 2 none ∈ gwL := gw_in (tk_2 _ (List.mem_of_getElem? (i := 30) (by decide +kernel))) rfl
theorem tw_271 : Cond.methodLink RX9 3 (⟨"java/lang/Object", "<init>", "()V"⟩ : MethodName) ∈ gwL := gw_in (tk_2 _ (List.mem_of_getElem? (i := 31) (by decide +kernel))) rfl
theorem tw_272 : Cond.fieldLink RX9 21 "LoadBourse$Terms" "journal" "LLoadBourse$Journal;" ∈ gwL := gw_in (tk_2 _ (List.mem_of_getElem? (i := 32) (by decide +kernel))) rfl
theorem tw_273 : Cond.fieldLink RX9 11 "LoadBourse$Terms" "signs" "[I" ∈ gwL := gw_in (tk_2 _ (List.mem_of_getElem? (i := 33) (by decide +kernel))) rfl
theorem tw_274 : Cond.fieldLink RX9 15 "LoadBourse$Terms" "facts" "[I" ∈ gwL := gw_in (tk_2 _ (List.mem_of_getElem? (i := 34) (by decide +kernel))) rfl
theorem tw_275 : Cond.fieldLink RX9 18 "LoadBourse$Terms" "numbers" "[I" ∈ gwL := gw_in (tk_2 _ (List.mem_of_getElem? (i := 35) (by decide +kernel))) rfl
theorem tw_285 : Cond.classLink RX11 92 RX7 ∈ gwL := gw_in (tk_2 _ (List.mem_of_getElem? (i := 45) (by decide +kernel))) rfl
theorem tw_286 : Cond.arrayOver (.object "LoadBourse$Sheet") ∈ lw_tbl := tk_2 _ (List.mem_of_getElem? (i := 46) (by decide +kernel))
theorem tw_287 : Cond.instantiable RX7 3 ∈ gwL := gw_in (tk_2 _ (List.mem_of_getElem? (i := 47) (by decide +kernel))) rfl
theorem tw_288 : Cond.methodLinkNest RX11 98 yX7_init RX11 ∈ lw_tbl := tk_2 _ (List.mem_of_getElem? (i := 48) (by decide +kernel))
theorem tw_289 : Cond.instanceMethod yX7_init ∈ gwL := gw_in (tk_2 _ (List.mem_of_getElem? (i := 49) (by decide +kernel))) rfl
theorem tw_290 : Cond.code yX7_init cX7_init 1 none ∈ gwL := gw_in (tk_2 _ (List.mem_of_getElem? (i := 50) (by decide +kernel))) rfl
theorem tw_291 : Cond.methodLink RX7 3 (⟨"java/lang/Object", "<init>", "()V"⟩ : MethodName) ∈ gwL := gw_in (tk_2 _ (List.mem_of_getElem? (i := 51) (by decide +kernel))) rfl
theorem tw_292 : Cond.fieldLink RX7 9 "LoadBourse$Sheet" "numbers" "[I" ∈ gwL := gw_in (tk_2 _ (List.mem_of_getElem? (i := 52) (by decide +kernel))) rfl
theorem tw_293 : Cond.fieldLink RX7 15 "LoadBourse$Sheet" "bits" "I" ∈ gwL := gw_in (tk_2 _ (List.mem_of_getElem? (i := 53) (by decide +kernel))) rfl
theorem tw_294 : Cond.fieldLink RX7 28 "LoadBourse$Sheet" "count" "I" ∈ gwL := gw_in (tk_2 _ (List.mem_of_getElem? (i := 54) (by decide +kernel))) rfl
theorem tw_302 : Cond.fieldLink RX11 10 "LoadBourse" "journal" "LLoadBourse$Journal;" ∈ gwL := gw_in (tk_2 _ (List.mem_of_getElem? (i := 62) (by decide +kernel))) rfl
theorem tw_303 : Cond.fieldLink RX11 21 "LoadBourse" "towns" "LLoadBourse$Towns;" ∈ gwL := gw_in (tk_2 _ (List.mem_of_getElem? (i := 63) (by decide +kernel))) rfl
theorem tw_304 : Cond.fieldLink RX11 30 "LoadBourse" "lorries" "LLoadBourse$Table;" ∈ gwL := gw_in (tk_2 _ (List.mem_of_getElem? (i := 64) (by decide +kernel))) rfl
theorem tw_305 : Cond.fieldLink RX11 34 "LoadBourse" "loads" "LLoadBourse$Table;" ∈ gwL := gw_in (tk_2 _ (List.mem_of_getElem? (i := 65) (by decide +kernel))) rfl
theorem tw_306 : Cond.fieldLink RX11 42 "LoadBourse" "driving" "LLoadBourse$Drive;" ∈ gwL := gw_in (tk_2 _ (List.mem_of_getElem? (i := 66) (by decide +kernel))) rfl
theorem tw_307 : Cond.fieldLink RX11 51 "LoadBourse" "giving" "LLoadBourse$Giving;" ∈ gwL := gw_in (tk_2 _ (List.mem_of_getElem? (i := 67) (by decide +kernel))) rfl
theorem tw_308 : Cond.fieldLink RX11 58 "LoadBourse" "prices" "LLoadBourse$Prices;" ∈ gwL := gw_in (tk_2 _ (List.mem_of_getElem? (i := 68) (by decide +kernel))) rfl
theorem tw_309 : Cond.fieldLink RX11 65 "LoadBourse" "firms" "LLoadBourse$Firms;" ∈ gwL := gw_in (tk_2 _ (List.mem_of_getElem? (i := 69) (by decide +kernel))) rfl
theorem tw_310 : Cond.fieldLink RX11 74 "LoadBourse" "reports" "LLoadBourse$Reports;" ∈ gwL := gw_in (tk_2 _ (List.mem_of_getElem? (i := 70) (by decide +kernel))) rfl
theorem tw_311 : Cond.fieldLink RX11 81 "LoadBourse" "pallets" "LLoadBourse$Pallets;" ∈ gwL := gw_in (tk_2 _ (List.mem_of_getElem? (i := 71) (by decide +kernel))) rfl
theorem tw_312 : Cond.fieldLink RX11 88 "LoadBourse" "terms" "LLoadBourse$Terms;" ∈ gwL := gw_in (tk_2 _ (List.mem_of_getElem? (i := 72) (by decide +kernel))) rfl
theorem tw_313 : Cond.fieldLink RX11 94 "LoadBourse" "sheets" "[LLoadBourse$Sheet;" ∈ gwL := gw_in (tk_2 _ (List.mem_of_getElem? (i := 73) (by decide +kernel))) rfl
theorem tw_314 : Cond.fieldLink RX11 308 "LoadBourse" "findings" "I" ∈ gwL := gw_in (tk_2 _ (List.mem_of_getElem? (i := 74) (by decide +kernel))) rfl
theorem tw_342 : Cond.methodLink RL 13 yX11_road ∈ gwL := gw_in (tk_2 _ (List.mem_of_getElem? (i := 102) (by decide +kernel))) rfl
theorem tw_343 : Cond.instanceMethod yX11_road ∈ gwL := gw_in (tk_2 _ (List.mem_of_getElem? (i := 103) (by decide +kernel))) rfl
theorem tw_344 : Cond.selects RX11 yX11_road yX11_road ∈ gwL := gw_in (tk_2 _ (List.mem_of_getElem? (i := 104) (by decide +kernel))) rfl
theorem tw_345 : Cond.code yX11_road cX11_road 4 (some .int) ∈ gwL := gw_in (tk_2 _ (List.mem_of_getElem? (i := 105) (by decide +kernel))) rfl
theorem tw_346 : Cond.methodLink RX11 99 yX11_isTown ∈ gwL := gw_in (tk_2 _ (List.mem_of_getElem? (i := 106) (by decide +kernel))) rfl
theorem tw_347 : Cond.static yX11_isTown ∈ gwL := gw_in (tk_2 _ (List.mem_of_getElem? (i := 107) (by decide +kernel))) rfl
theorem tw_348 : Cond.code yX11_isTown cX11_isTown 1 (some .boolean) ∈ gwL := gw_in (tk_2 _ (List.mem_of_getElem? (i := 108) (by decide +kernel))) rfl
theorem tw_349 : Cond.methodLink RX11 103 yX11_within ∈ gwL := gw_in (tk_2 _ (List.mem_of_getElem? (i := 109) (by decide +kernel))) rfl
theorem tw_350 : Cond.static yX11_within ∈ gwL := gw_in (tk_2 _ (List.mem_of_getElem? (i := 110) (by decide +kernel))) rfl
theorem tw_351 : Cond.code yX11_within cX11_within 3 (some .boolean) ∈ gwL := gw_in (tk_2 _ (List.mem_of_getElem? (i := 111) (by decide +kernel))) rfl
theorem tw_352 : Cond.constant RX11 107 (-100001) ∈ gwL := gw_in (tk_2 _ (List.mem_of_getElem? (i := 112) (by decide +kernel))) rfl
theorem tw_353 : Cond.methodLink RX11 108 yX11_told ∈ gwL := gw_in (tk_2 _ (List.mem_of_getElem? (i := 113) (by decide +kernel))) rfl
theorem tw_355 : Cond.instanceMethod yX11_told ∈ gwL := gw_in (tk_2 _ (List.mem_of_getElem? (i := 115) (by decide +kernel))) rfl
theorem tw_356 : Cond.code yX11_told cX11_told 2 (some .int) ∈ gwL := gw_in (tk_2 _ (List.mem_of_getElem? (i := 116) (by decide +kernel))) rfl
theorem tw_357 : Cond.constant RX11 273 (-99999) ∈ gwL := gw_in (tk_2 _ (List.mem_of_getElem? (i := 117) (by decide +kernel))) rfl
theorem tw_358 : Cond.methodLink RX11 112 yX10_join ∈ gwL := gw_in (tk_2 _ (List.mem_of_getElem? (i := 118) (by decide +kernel))) rfl
theorem tw_359 : Cond.instanceMethod yX10_join ∈ gwL := gw_in (tk_2 _ (List.mem_of_getElem? (i := 119) (by decide +kernel))) rfl
theorem tw_360 : Cond.selects RX10 yX10_join yX10_join ∈ gwL := gw_in (tk_2 _ (List.mem_of_getElem? (i := 120) (by decide +kernel))) rfl
theorem tw_361 : Cond.code yX10_join cX10_join 6 (some .int) ∈ gwL := gw_in (tk_2 _ (List.mem_of_getElem? (i := 121) (by decide +kernel))) rfl
theorem tw_362 : Cond.methodLinkNest RX10 26 yX11_isTown RX11 ∈ lw_tbl := tk_2 _ (List.mem_of_getElem? (i := 122) (by decide +kernel))
theorem tw_363 : Cond.methodLink RX10 30 yJ9_min_7cf53 ∈ gwL := gw_in (tk_2 _ (List.mem_of_getElem? (i := 123) (by decide +kernel))) rfl
theorem tw_364 : Cond.static yJ9_min_7cf53 ∈ gwL := gw_in (tk_2 _ (List.mem_of_getElem? (i := 124) (by decide +kernel))) rfl
theorem tw_365 : Cond.code yJ9_min_7cf53 cJ9_min_7cf53 2 (some .int) ∈ gwL := gw_in (tk_2 _ (List.mem_of_getElem? (i := 125) (by decide +kernel))) rfl
theorem tw_366 : Cond.methodLink RX10 36 yJ9_max_7cf53 ∈ gwL := gw_in (tk_2 _ (List.mem_of_getElem? (i := 126) (by decide +kernel))) rfl
theorem tw_367 : Cond.methodLink RX10 39 yX3_keep ∈ gwL := gw_in (tk_2 _ (List.mem_of_getElem? (i := 127) (by decide +kernel))) rfl
theorem tw_368 : Cond.instanceMethod yX3_keep ∈ gwL := gw_in (tk_2 _ (List.mem_of_getElem? (i := 128) (by decide +kernel))) rfl
theorem tw_369 : Cond.selects RX3 yX3_keep yX3_keep ∈ gwL := gw_in (tk_2 _ (List.mem_of_getElem? (i := 129) (by decide +kernel))) rfl
theorem tw_370 : Cond.code yX3_keep cX3_keep 4 none ∈ gwL := gw_in (tk_2 _ (List.mem_of_getElem? (i := 130) (by decide +kernel))) rfl
theorem tw_371 : Cond.methodLink RX3 30 yJ7_copyOfRange_feecc ∈ gwL := gw_in (tk_2 _ (List.mem_of_getElem? (i := 131) (by decide +kernel))) rfl
theorem tw_372 : Cond.static yJ7_copyOfRange_feecc ∈ gwL := gw_in (tk_2 _ (List.mem_of_getElem? (i := 132) (by decide +kernel))) rfl
theorem tw_373 : Cond.code yJ7_copyOfRange_feecc cJ7_copyOfRange_feecc 3 (some (.array .int)) ∈ gwL := gw_in (tk_2 _ (List.mem_of_getElem? (i := 133) (by decide +kernel))) rfl
theorem tw_374 : Cond.methodLink RJ7 351 yJ7_copyOfRangeInt_feecc ∈ gwL := gw_in (tk_2 _ (List.mem_of_getElem? (i := 134) (by decide +kernel))) rfl
theorem tw_375 : Cond.static yJ7_copyOfRangeInt_feecc ∈ gwL := gw_in (tk_2 _ (List.mem_of_getElem? (i := 135) (by decide +kernel))) rfl
theorem tw_376 : Cond.code yJ7_copyOfRangeInt_feecc cJ7_copyOfRangeInt_feecc 5 (some (.array .int)) ∈ gwL := gw_in (tk_2 _ (List.mem_of_getElem? (i := 136) (by decide +kernel))) rfl
theorem tw_377 : Cond.methodLink RJ7 343 yJ7_checkLength_df160 ∈ gwL := gw_in (tk_2 _ (List.mem_of_getElem? (i := 137) (by decide +kernel))) rfl
theorem tw_378 : Cond.static yJ7_checkLength_df160 ∈ gwL := gw_in (tk_2 _ (List.mem_of_getElem? (i := 138) (by decide +kernel))) rfl
theorem tw_379 : Cond.code yJ7_checkLength_df160 cJ7_checkLength_df160 2 none ∈ gwL := gw_in (tk_2 _ (List.mem_of_getElem? (i := 139) (by decide +kernel))) rfl
theorem tw_380 : Cond.methodLink RJ7 304 yJ9_min_7cf53 ∈ gwL := gw_in (tk_2 _ (List.mem_of_getElem? (i := 140) (by decide +kernel))) rfl
theorem tw_381 : Cond.methodLink RJ7 150 (⟨"java/lang/System", "arraycopy", "(Ljava/lang/Object;ILjava/lang/Object;II)V"⟩ : MethodName) ∈ gwL := gw_in (tk_2 _ (List.mem_of_getElem? (i := 141) (by decide +kernel))) rfl
theorem tw_382 : Cond.static (⟨"java/lang/System", "arraycopy", "(Ljava/lang/Object;ILjava/lang/Object;II)V"⟩ : MethodName) ∈ gwL := gw_in (tk_2 _ (List.mem_of_getElem? (i := 142) (by decide +kernel))) rfl
theorem tw_383 : Cond.native (⟨"java/lang/System", "arraycopy", "(Ljava/lang/Object;ILjava/lang/Object;II)V"⟩ : MethodName) ∈ gwL := gw_in (tk_2 _ (List.mem_of_getElem? (i := 143) (by decide +kernel))) rfl
theorem tw_384 : Cond.methodLink RJ7 316 (⟨"[I", "clone", "()Ljava/lang/Object;"⟩ : MethodName) ∈ gwL := gw_in (tk_2 _ (List.mem_of_getElem? (i := 144) (by decide +kernel))) rfl
theorem tw_385 : Cond.sameMethod "[I" "java/lang/Object" "clone" "()Ljava/lang/Object;" ∈ gwL := gw_in (tk_2 _ (List.mem_of_getElem? (i := 145) (by decide +kernel))) rfl
theorem tw_386 : Cond.native (⟨"java/lang/Object", "clone", "()Ljava/lang/Object;"⟩ : MethodName) ∈ gwL := gw_in (tk_2 _ (List.mem_of_getElem? (i := 146) (by decide +kernel))) rfl
theorem tw_387 : Cond.instanceMethod (⟨"java/lang/Object", "clone", "()Ljava/lang/Object;"⟩ : MethodName) ∈ gwL := gw_in (tk_2 _ (List.mem_of_getElem? (i := 147) (by decide +kernel))) rfl
theorem tw_388 : Cond.selects "[I" (⟨"[I", "clone", "()Ljava/lang/Object;"⟩ : MethodName) (⟨"java/lang/Object", "clone", "()Ljava/lang/Object;"⟩ : MethodName) ∈ gwL := gw_in (tk_2 _ (List.mem_of_getElem? (i := 148) (by decide +kernel))) rfl
theorem tw_389 : Cond.castable "[I" "java/lang/Cloneable" ∈ lw_tbl := tk_2 _ (List.mem_of_getElem? (i := 149) (by decide +kernel))
theorem tw_390 : Cond.classLink RJ7 317 "[I" ∈ gwL := gw_in (tk_2 _ (List.mem_of_getElem? (i := 150) (by decide +kernel))) rfl
theorem tw_391 : Cond.methodLink RX3 39 yJ9_min_7cf53 ∈ gwL := gw_in (tk_2 _ (List.mem_of_getElem? (i := 151) (by decide +kernel))) rfl
theorem tw_392 : Cond.methodLink RL 18 yX11_far ∈ gwL := gw_in (tk_2 _ (List.mem_of_getElem? (i := 152) (by decide +kernel))) rfl
theorem tw_393 : Cond.instanceMethod yX11_far ∈ gwL := gw_in (tk_2 _ (List.mem_of_getElem? (i := 153) (by decide +kernel))) rfl
theorem tw_394 : Cond.selects RX11 yX11_far yX11_far ∈ gwL := gw_in (tk_2 _ (List.mem_of_getElem? (i := 154) (by decide +kernel))) rfl
theorem tw_395 : Cond.code yX11_far cX11_far 4 (some .int) ∈ gwL := gw_in (tk_2 _ (List.mem_of_getElem? (i := 155) (by decide +kernel))) rfl
theorem tw_396 : Cond.methodLink RX11 116 yX10_measure ∈ gwL := gw_in (tk_2 _ (List.mem_of_getElem? (i := 156) (by decide +kernel))) rfl
theorem tw_397 : Cond.instanceMethod yX10_measure ∈ gwL := gw_in (tk_2 _ (List.mem_of_getElem? (i := 157) (by decide +kernel))) rfl
theorem tw_398 : Cond.selects RX10 yX10_measure yX10_measure ∈ gwL := gw_in (tk_2 _ (List.mem_of_getElem? (i := 158) (by decide +kernel))) rfl
theorem tw_399 : Cond.code yX10_measure cX10_measure 4 none ∈ gwL := gw_in (tk_2 _ (List.mem_of_getElem? (i := 159) (by decide +kernel))) rfl
theorem tw_400 : Cond.methodLink RX10 45 yX3_changes ∈ gwL := gw_in (tk_2 _ (List.mem_of_getElem? (i := 160) (by decide +kernel))) rfl
theorem tw_401 : Cond.instanceMethod yX3_changes ∈ gwL := gw_in (tk_2 _ (List.mem_of_getElem? (i := 161) (by decide +kernel))) rfl
theorem tw_402 : Cond.selects RX3 yX3_changes yX3_changes ∈ gwL := gw_in (tk_2 _ (List.mem_of_getElem? (i := 162) (by decide +kernel))) rfl
theorem tw_403 : Cond.code yX3_changes cX3_changes 1 (some .int) ∈ gwL := gw_in (tk_2 _ (List.mem_of_getElem? (i := 163) (by decide +kernel))) rfl
theorem tw_404 : Cond.constant RX10 49 (1000000) ∈ gwL := gw_in (tk_2 _ (List.mem_of_getElem? (i := 164) (by decide +kernel))) rfl
theorem tw_405 : Cond.methodLink RX10 50 yX10_shortenBy ∈ gwL := gw_in (tk_2 _ (List.mem_of_getElem? (i := 165) (by decide +kernel))) rfl
theorem tw_407 : Cond.instanceMethod yX10_shortenBy ∈ gwL := gw_in (tk_2 _ (List.mem_of_getElem? (i := 167) (by decide +kernel))) rfl
theorem tw_408 : Cond.code yX10_shortenBy cX10_shortenBy 5 none ∈ gwL := gw_in (tk_2 _ (List.mem_of_getElem? (i := 168) (by decide +kernel))) rfl
theorem tw_409 : Cond.methodLink RX11 119 yX10_between ∈ gwL := gw_in (tk_2 _ (List.mem_of_getElem? (i := 169) (by decide +kernel))) rfl
theorem tw_410 : Cond.instanceMethod yX10_between ∈ gwL := gw_in (tk_2 _ (List.mem_of_getElem? (i := 170) (by decide +kernel))) rfl
theorem tw_411 : Cond.selects RX10 yX10_between yX10_between ∈ gwL := gw_in (tk_2 _ (List.mem_of_getElem? (i := 171) (by decide +kernel))) rfl
theorem tw_412 : Cond.code yX10_between cX10_between 4 (some .int) ∈ gwL := gw_in (tk_2 _ (List.mem_of_getElem? (i := 172) (by decide +kernel))) rfl
theorem tw_413 : Cond.constant RX11 123 (1000000) ∈ gwL := gw_in (tk_2 _ (List.mem_of_getElem? (i := 173) (by decide +kernel))) rfl
theorem tw_414 : Cond.constant RX11 124 (-100006) ∈ gwL := gw_in (tk_2 _ (List.mem_of_getElem? (i := 174) (by decide +kernel))) rfl
theorem tw_415 : Cond.methodLink RL 23 yX11_lorry ∈ gwL := gw_in (tk_2 _ (List.mem_of_getElem? (i := 175) (by decide +kernel))) rfl
theorem tw_416 : Cond.instanceMethod yX11_lorry ∈ gwL := gw_in (tk_2 _ (List.mem_of_getElem? (i := 176) (by decide +kernel))) rfl
theorem tw_417 : Cond.selects RX11 yX11_lorry yX11_lorry ∈ gwL := gw_in (tk_2 _ (List.mem_of_getElem? (i := 177) (by decide +kernel))) rfl
theorem tw_418 : Cond.code yX11_lorry cX11_lorry 10 (some .int) ∈ gwL := gw_in (tk_2 _ (List.mem_of_getElem? (i := 178) (by decide +kernel))) rfl
theorem tw_419 : Cond.methodLink RX11 125 yX8_add ∈ gwL := gw_in (tk_2 _ (List.mem_of_getElem? (i := 179) (by decide +kernel))) rfl
theorem tw_420 : Cond.instanceMethod yX8_add ∈ gwL := gw_in (tk_2 _ (List.mem_of_getElem? (i := 180) (by decide +kernel))) rfl
theorem tw_421 : Cond.selects RX8 yX8_add yX8_add ∈ gwL := gw_in (tk_2 _ (List.mem_of_getElem? (i := 181) (by decide +kernel))) rfl
theorem tw_422 : Cond.code yX8_add cX8_add 3 (some .int) ∈ gwL := gw_in (tk_2 _ (List.mem_of_getElem? (i := 182) (by decide +kernel))) rfl
theorem tw_423 : Cond.constant RX8 36 (-100005) ∈ gwL := gw_in (tk_2 _ (List.mem_of_getElem? (i := 183) (by decide +kernel))) rfl
theorem tw_424 : Cond.methodLink RX8 37 yX3_keep ∈ gwL := gw_in (tk_2 _ (List.mem_of_getElem? (i := 184) (by decide +kernel))) rfl
theorem tw_425 : Cond.methodLink RX8 43 (⟨"java/lang/System", "arraycopy", "(Ljava/lang/Object;ILjava/lang/Object;II)V"⟩ : MethodName) ∈ gwL := gw_in (tk_2 _ (List.mem_of_getElem? (i := 185) (by decide +kernel))) rfl
theorem tw_426 : Cond.methodLink RL 28 yX11_as ∈ gwL := gw_in (tk_2 _ (List.mem_of_getElem? (i := 186) (by decide +kernel))) rfl
theorem tw_427 : Cond.instanceMethod yX11_as ∈ gwL := gw_in (tk_2 _ (List.mem_of_getElem? (i := 187) (by decide +kernel))) rfl
theorem tw_428 : Cond.selects RX11 yX11_as yX11_as ∈ gwL := gw_in (tk_2 _ (List.mem_of_getElem? (i := 188) (by decide +kernel))) rfl
theorem tw_429 : Cond.code yX11_as cX11_as 4 (some .int) ∈ gwL := gw_in (tk_2 _ (List.mem_of_getElem? (i := 189) (by decide +kernel))) rfl
theorem tw_430 : Cond.methodLink RX11 129 yX8_has ∈ gwL := gw_in (tk_2 _ (List.mem_of_getElem? (i := 190) (by decide +kernel))) rfl
theorem tw_431 : Cond.instanceMethod yX8_has ∈ gwL := gw_in (tk_2 _ (List.mem_of_getElem? (i := 191) (by decide +kernel))) rfl
theorem tw_432 : Cond.selects RX8 yX8_has yX8_has ∈ gwL := gw_in (tk_2 _ (List.mem_of_getElem? (i := 192) (by decide +kernel))) rfl
theorem tw_433 : Cond.code yX8_has cX8_has 2 (some .boolean) ∈ gwL := gw_in (tk_2 _ (List.mem_of_getElem? (i := 193) (by decide +kernel))) rfl
theorem tw_434 : Cond.methodLink RX11 132 yX8_at ∈ gwL := gw_in (tk_2 _ (List.mem_of_getElem? (i := 194) (by decide +kernel))) rfl
theorem tw_435 : Cond.instanceMethod yX8_at ∈ gwL := gw_in (tk_2 _ (List.mem_of_getElem? (i := 195) (by decide +kernel))) rfl
theorem tw_436 : Cond.selects RX8 yX8_at yX8_at ∈ gwL := gw_in (tk_2 _ (List.mem_of_getElem? (i := 196) (by decide +kernel))) rfl
theorem tw_437 : Cond.code yX8_at cX8_at 3 (some .int) ∈ gwL := gw_in (tk_2 _ (List.mem_of_getElem? (i := 197) (by decide +kernel))) rfl
theorem tw_438 : Cond.methodLink RX8 32 yX8_isCell ∈ gwL := gw_in (tk_2 _ (List.mem_of_getElem? (i := 198) (by decide +kernel))) rfl
theorem tw_440 : Cond.instanceMethod yX8_isCell ∈ gwL := gw_in (tk_2 _ (List.mem_of_getElem? (i := 200) (by decide +kernel))) rfl
theorem tw_441 : Cond.code yX8_isCell cX8_isCell 3 (some .boolean) ∈ gwL := gw_in (tk_2 _ (List.mem_of_getElem? (i := 201) (by decide +kernel))) rfl
theorem tw_442 : Cond.constant RX11 135 (-100004) ∈ gwL := gw_in (tk_2 _ (List.mem_of_getElem? (i := 202) (by decide +kernel))) rfl
theorem tw_443 : Cond.methodLink RL 32 yX11_lorryIs ∈ gwL := gw_in (tk_2 _ (List.mem_of_getElem? (i := 203) (by decide +kernel))) rfl
theorem tw_444 : Cond.instanceMethod yX11_lorryIs ∈ gwL := gw_in (tk_2 _ (List.mem_of_getElem? (i := 204) (by decide +kernel))) rfl
theorem tw_445 : Cond.selects RX11 yX11_lorryIs yX11_lorryIs ∈ gwL := gw_in (tk_2 _ (List.mem_of_getElem? (i := 205) (by decide +kernel))) rfl
theorem tw_446 : Cond.code yX11_lorryIs cX11_lorryIs 3 (some .int) ∈ gwL := gw_in (tk_2 _ (List.mem_of_getElem? (i := 206) (by decide +kernel))) rfl
theorem tw_447 : Cond.methodLink RX11 136 yX11_givenTo ∈ gwL := gw_in (tk_2 _ (List.mem_of_getElem? (i := 207) (by decide +kernel))) rfl
theorem tw_449 : Cond.instanceMethod yX11_givenTo ∈ gwL := gw_in (tk_2 _ (List.mem_of_getElem? (i := 209) (by decide +kernel))) rfl
theorem tw_450 : Cond.code yX11_givenTo cX11_givenTo 4 (some .int) ∈ gwL := gw_in (tk_2 _ (List.mem_of_getElem? (i := 210) (by decide +kernel))) rfl
theorem tw_451 : Cond.methodLink RX11 179 yX8_count ∈ gwL := gw_in (tk_2 _ (List.mem_of_getElem? (i := 211) (by decide +kernel))) rfl
theorem tw_452 : Cond.instanceMethod yX8_count ∈ gwL := gw_in (tk_2 _ (List.mem_of_getElem? (i := 212) (by decide +kernel))) rfl
theorem tw_453 : Cond.selects RX8 yX8_count yX8_count ∈ gwL := gw_in (tk_2 _ (List.mem_of_getElem? (i := 213) (by decide +kernel))) rfl
theorem tw_454 : Cond.code yX8_count cX8_count 1 (some .int) ∈ gwL := gw_in (tk_2 _ (List.mem_of_getElem? (i := 214) (by decide +kernel))) rfl
theorem tw_455 : Cond.methodLink RL 36 yX11_load ∈ gwL := gw_in (tk_2 _ (List.mem_of_getElem? (i := 215) (by decide +kernel))) rfl
theorem tw_456 : Cond.instanceMethod yX11_load ∈ gwL := gw_in (tk_2 _ (List.mem_of_getElem? (i := 216) (by decide +kernel))) rfl
theorem tw_457 : Cond.selects RX11 yX11_load yX11_load ∈ gwL := gw_in (tk_2 _ (List.mem_of_getElem? (i := 217) (by decide +kernel))) rfl
theorem tw_458 : Cond.code yX11_load cX11_load 8 (some .int) ∈ gwL := gw_in (tk_2 _ (List.mem_of_getElem? (i := 218) (by decide +kernel))) rfl
theorem tw_459 : Cond.methodLink RX11 139 yX11_isLane ∈ gwL := gw_in (tk_2 _ (List.mem_of_getElem? (i := 219) (by decide +kernel))) rfl
theorem tw_460 : Cond.static yX11_isLane ∈ gwL := gw_in (tk_2 _ (List.mem_of_getElem? (i := 220) (by decide +kernel))) rfl
theorem tw_461 : Cond.code yX11_isLane cX11_isLane 1 (some .boolean) ∈ gwL := gw_in (tk_2 _ (List.mem_of_getElem? (i := 221) (by decide +kernel))) rfl
theorem tw_462 : Cond.constant RX11 142 (-100003) ∈ gwL := gw_in (tk_2 _ (List.mem_of_getElem? (i := 222) (by decide +kernel))) rfl
theorem tw_463 : Cond.methodLink RL 41 yX11_window ∈ gwL := gw_in (tk_2 _ (List.mem_of_getElem? (i := 223) (by decide +kernel))) rfl
theorem tw_464 : Cond.instanceMethod yX11_window ∈ gwL := gw_in (tk_2 _ (List.mem_of_getElem? (i := 224) (by decide +kernel))) rfl
theorem tw_465 : Cond.selects RX11 yX11_window yX11_window ∈ gwL := gw_in (tk_2 _ (List.mem_of_getElem? (i := 225) (by decide +kernel))) rfl
theorem tw_466 : Cond.code yX11_window cX11_window 5 (some .int) ∈ gwL := gw_in (tk_2 _ (List.mem_of_getElem? (i := 226) (by decide +kernel))) rfl
theorem tw_467 : Cond.methodLink RX11 143 yX8_setPair ∈ gwL := gw_in (tk_2 _ (List.mem_of_getElem? (i := 227) (by decide +kernel))) rfl
theorem tw_468 : Cond.instanceMethod yX8_setPair ∈ gwL := gw_in (tk_2 _ (List.mem_of_getElem? (i := 228) (by decide +kernel))) rfl
theorem tw_469 : Cond.selects RX8 yX8_setPair yX8_setPair ∈ gwL := gw_in (tk_2 _ (List.mem_of_getElem? (i := 229) (by decide +kernel))) rfl
theorem tw_470 : Cond.code yX8_setPair cX8_setPair 6 none ∈ gwL := gw_in (tk_2 _ (List.mem_of_getElem? (i := 230) (by decide +kernel))) rfl
theorem tw_471 : Cond.methodLink RL 46 yX11_loadIs ∈ gwL := gw_in (tk_2 _ (List.mem_of_getElem? (i := 231) (by decide +kernel))) rfl
theorem tw_472 : Cond.instanceMethod yX11_loadIs ∈ gwL := gw_in (tk_2 _ (List.mem_of_getElem? (i := 232) (by decide +kernel))) rfl
theorem tw_473 : Cond.selects RX11 yX11_loadIs yX11_loadIs ∈ gwL := gw_in (tk_2 _ (List.mem_of_getElem? (i := 233) (by decide +kernel))) rfl
theorem tw_474 : Cond.code yX11_loadIs cX11_loadIs 3 (some .int) ∈ gwL := gw_in (tk_2 _ (List.mem_of_getElem? (i := 234) (by decide +kernel))) rfl
theorem tw_475 : Cond.methodLink RL 50 yX11_pay ∈ gwL := gw_in (tk_2 _ (List.mem_of_getElem? (i := 235) (by decide +kernel))) rfl
theorem tw_476 : Cond.instanceMethod yX11_pay ∈ gwL := gw_in (tk_2 _ (List.mem_of_getElem? (i := 236) (by decide +kernel))) rfl
theorem tw_477 : Cond.selects RX11 yX11_pay yX11_pay ∈ gwL := gw_in (tk_2 _ (List.mem_of_getElem? (i := 237) (by decide +kernel))) rfl
theorem tw_478 : Cond.code yX11_pay cX11_pay 3 (some .int) ∈ gwL := gw_in (tk_2 _ (List.mem_of_getElem? (i := 238) (by decide +kernel))) rfl
theorem tw_479 : Cond.methodLink RX11 147 yX8_set ∈ gwL := gw_in (tk_2 _ (List.mem_of_getElem? (i := 239) (by decide +kernel))) rfl
theorem tw_480 : Cond.instanceMethod yX8_set ∈ gwL := gw_in (tk_3 _ (List.mem_of_getElem? (i := 0) (by decide +kernel))) rfl
theorem tw_481 : Cond.selects RX8 yX8_set yX8_set ∈ gwL := gw_in (tk_3 _ (List.mem_of_getElem? (i := 1) (by decide +kernel))) rfl
theorem tw_482 : Cond.code yX8_set cX8_set 5 (some .int) ∈ gwL := gw_in (tk_3 _ (List.mem_of_getElem? (i := 2) (by decide +kernel))) rfl
theorem tw_483 : Cond.methodLink RX8 49 yX8_at ∈ gwL := gw_in (tk_3 _ (List.mem_of_getElem? (i := 3) (by decide +kernel))) rfl
theorem tw_484 : Cond.methodLink RL 54 yX11_give ∈ gwL := gw_in (tk_3 _ (List.mem_of_getElem? (i := 4) (by decide +kernel))) rfl
theorem tw_485 : Cond.instanceMethod yX11_give ∈ gwL := gw_in (tk_3 _ (List.mem_of_getElem? (i := 5) (by decide +kernel))) rfl
theorem tw_486 : Cond.selects RX11 yX11_give yX11_give ∈ gwL := gw_in (tk_3 _ (List.mem_of_getElem? (i := 6) (by decide +kernel))) rfl
theorem tw_487 : Cond.code yX11_give cX11_give 3 (some .int) ∈ gwL := gw_in (tk_3 _ (List.mem_of_getElem? (i := 7) (by decide +kernel))) rfl
theorem tw_488 : Cond.methodLink RX11 150 yX0_fits ∈ gwL := gw_in (tk_3 _ (List.mem_of_getElem? (i := 8) (by decide +kernel))) rfl
theorem tw_489 : Cond.instanceMethod yX0_fits ∈ gwL := gw_in (tk_3 _ (List.mem_of_getElem? (i := 9) (by decide +kernel))) rfl
theorem tw_490 : Cond.selects RX0 yX0_fits yX0_fits ∈ gwL := gw_in (tk_3 _ (List.mem_of_getElem? (i := 10) (by decide +kernel))) rfl
theorem tw_491 : Cond.code yX0_fits cX0_fits 3 (some .boolean) ∈ gwL := gw_in (tk_3 _ (List.mem_of_getElem? (i := 11) (by decide +kernel))) rfl
theorem tw_492 : Cond.methodLink RX0 22 yX8_at ∈ gwL := gw_in (tk_3 _ (List.mem_of_getElem? (i := 12) (by decide +kernel))) rfl
theorem tw_493 : Cond.methodLink RX0 28 yX0_takes ∈ gwL := gw_in (tk_3 _ (List.mem_of_getElem? (i := 13) (by decide +kernel))) rfl
theorem tw_494 : Cond.static yX0_takes ∈ gwL := gw_in (tk_3 _ (List.mem_of_getElem? (i := 14) (by decide +kernel))) rfl
theorem tw_495 : Cond.code yX0_takes cX0_takes 2 (some .boolean) ∈ gwL := gw_in (tk_3 _ (List.mem_of_getElem? (i := 15) (by decide +kernel))) rfl
theorem tw_496 : Cond.methodLink RL 58 yX11_why ∈ gwL := gw_in (tk_3 _ (List.mem_of_getElem? (i := 16) (by decide +kernel))) rfl
theorem tw_497 : Cond.instanceMethod yX11_why ∈ gwL := gw_in (tk_3 _ (List.mem_of_getElem? (i := 17) (by decide +kernel))) rfl
theorem tw_498 : Cond.selects RX11 yX11_why yX11_why ∈ gwL := gw_in (tk_3 _ (List.mem_of_getElem? (i := 18) (by decide +kernel))) rfl
theorem tw_499 : Cond.code yX11_why cX11_why 5 (some .int) ∈ gwL := gw_in (tk_3 _ (List.mem_of_getElem? (i := 19) (by decide +kernel))) rfl
theorem tw_500 : Cond.methodLink RX11 154 yX11_findingOfRow ∈ gwL := gw_in (tk_3 _ (List.mem_of_getElem? (i := 20) (by decide +kernel))) rfl
theorem tw_502 : Cond.instanceMethod yX11_findingOfRow ∈ gwL := gw_in (tk_3 _ (List.mem_of_getElem? (i := 22) (by decide +kernel))) rfl
theorem tw_503 : Cond.code yX11_findingOfRow cX11_findingOfRow 4 (some .int) ∈ gwL := gw_in (tk_3 _ (List.mem_of_getElem? (i := 23) (by decide +kernel))) rfl
theorem tw_504 : Cond.methodLink RX11 312 yX11_isLoadOrNone ∈ gwL := gw_in (tk_3 _ (List.mem_of_getElem? (i := 24) (by decide +kernel))) rfl
theorem tw_506 : Cond.instanceMethod yX11_isLoadOrNone ∈ gwL := gw_in (tk_3 _ (List.mem_of_getElem? (i := 26) (by decide +kernel))) rfl
theorem tw_507 : Cond.code yX11_isLoadOrNone cX11_isLoadOrNone 2 (some .boolean) ∈ gwL := gw_in (tk_3 _ (List.mem_of_getElem? (i := 27) (by decide +kernel))) rfl
theorem tw_508 : Cond.methodLink RX11 157 yX0_run ∈ gwL := gw_in (tk_3 _ (List.mem_of_getElem? (i := 28) (by decide +kernel))) rfl
theorem tw_509 : Cond.instanceMethod yX0_run ∈ gwL := gw_in (tk_3 _ (List.mem_of_getElem? (i := 29) (by decide +kernel))) rfl
theorem tw_510 : Cond.selects RX0 yX0_run yX0_run ∈ gwL := gw_in (tk_3 _ (List.mem_of_getElem? (i := 30) (by decide +kernel))) rfl
theorem tw_511 : Cond.code yX0_run cX0_run 4 (some .int) ∈ gwL := gw_in (tk_3 _ (List.mem_of_getElem? (i := 31) (by decide +kernel))) rfl
theorem tw_512 : Cond.methodLink RX0 32 yX10_measure ∈ gwL := gw_in (tk_3 _ (List.mem_of_getElem? (i := 32) (by decide +kernel))) rfl
theorem tw_513 : Cond.methodLink RX0 65 yX0_carry ∈ gwL := gw_in (tk_3 _ (List.mem_of_getElem? (i := 33) (by decide +kernel))) rfl
theorem tw_515 : Cond.instanceMethod yX0_carry ∈ gwL := gw_in (tk_3 _ (List.mem_of_getElem? (i := 35) (by decide +kernel))) rfl
theorem tw_516 : Cond.code yX0_carry cX0_carry 2 none ∈ gwL := gw_in (tk_3 _ (List.mem_of_getElem? (i := 36) (by decide +kernel))) rfl
theorem tw_517 : Cond.methodLink RX0 69 yX0_go ∈ gwL := gw_in (tk_3 _ (List.mem_of_getElem? (i := 37) (by decide +kernel))) rfl
theorem tw_519 : Cond.instanceMethod yX0_go ∈ gwL := gw_in (tk_3 _ (List.mem_of_getElem? (i := 39) (by decide +kernel))) rfl
theorem tw_520 : Cond.code yX0_go cX0_go 4 none ∈ gwL := gw_in (tk_3 _ (List.mem_of_getElem? (i := 40) (by decide +kernel))) rfl
theorem tw_521 : Cond.methodLink RX0 81 yX10_between ∈ gwL := gw_in (tk_3 _ (List.mem_of_getElem? (i := 41) (by decide +kernel))) rfl
theorem tw_522 : Cond.constant RX0 84 (1000000) ∈ gwL := gw_in (tk_3 _ (List.mem_of_getElem? (i := 42) (by decide +kernel))) rfl
theorem tw_523 : Cond.methodLink RX0 85 yX0_roll ∈ gwL := gw_in (tk_3 _ (List.mem_of_getElem? (i := 43) (by decide +kernel))) rfl
theorem tw_525 : Cond.instanceMethod yX0_roll ∈ gwL := gw_in (tk_3 _ (List.mem_of_getElem? (i := 45) (by decide +kernel))) rfl
theorem tw_526 : Cond.code yX0_roll cX0_roll 5 none ∈ gwL := gw_in (tk_3 _ (List.mem_of_getElem? (i := 46) (by decide +kernel))) rfl
theorem tw_527 : Cond.methodLink RX0 77 yX0_dock ∈ gwL := gw_in (tk_3 _ (List.mem_of_getElem? (i := 47) (by decide +kernel))) rfl
theorem tw_529 : Cond.instanceMethod yX0_dock ∈ gwL := gw_in (tk_3 _ (List.mem_of_getElem? (i := 49) (by decide +kernel))) rfl
theorem tw_530 : Cond.code yX0_dock cX0_dock 4 none ∈ gwL := gw_in (tk_3 _ (List.mem_of_getElem? (i := 50) (by decide +kernel))) rfl
theorem tw_531 : Cond.methodLink RX0 88 yJ9_max_7cf53 ∈ gwL := gw_in (tk_3 _ (List.mem_of_getElem? (i := 51) (by decide +kernel))) rfl
theorem tw_532 : Cond.methodLink RL 62 yX11_drive ∈ gwL := gw_in (tk_3 _ (List.mem_of_getElem? (i := 52) (by decide +kernel))) rfl
theorem tw_533 : Cond.instanceMethod yX11_drive ∈ gwL := gw_in (tk_3 _ (List.mem_of_getElem? (i := 53) (by decide +kernel))) rfl
theorem tw_534 : Cond.selects RX11 yX11_drive yX11_drive ∈ gwL := gw_in (tk_3 _ (List.mem_of_getElem? (i := 54) (by decide +kernel))) rfl
theorem tw_535 : Cond.code yX11_drive cX11_drive 7 (some .int) ∈ gwL := gw_in (tk_3 _ (List.mem_of_getElem? (i := 55) (by decide +kernel))) rfl
theorem tw_536 : Cond.methodLink RX11 160 yX0_tells ∈ gwL := gw_in (tk_3 _ (List.mem_of_getElem? (i := 56) (by decide +kernel))) rfl
theorem tw_537 : Cond.instanceMethod yX0_tells ∈ gwL := gw_in (tk_3 _ (List.mem_of_getElem? (i := 57) (by decide +kernel))) rfl
theorem tw_538 : Cond.selects RX0 yX0_tells yX0_tells ∈ gwL := gw_in (tk_3 _ (List.mem_of_getElem? (i := 58) (by decide +kernel))) rfl
theorem tw_539 : Cond.code yX0_tells cX0_tells 2 (some .int) ∈ gwL := gw_in (tk_3 _ (List.mem_of_getElem? (i := 59) (by decide +kernel))) rfl
theorem tw_540 : Cond.methodLink RX0 73 yX0_value ∈ gwL := gw_in (tk_3 _ (List.mem_of_getElem? (i := 60) (by decide +kernel))) rfl
theorem tw_541 : Cond.instanceMethod yX0_value ∈ gwL := gw_in (tk_3 _ (List.mem_of_getElem? (i := 61) (by decide +kernel))) rfl
theorem tw_542 : Cond.selects RX0 yX0_value yX0_value ∈ gwL := gw_in (tk_3 _ (List.mem_of_getElem? (i := 62) (by decide +kernel))) rfl
theorem tw_543 : Cond.code yX0_value cX0_value 1 (some .int) ∈ gwL := gw_in (tk_3 _ (List.mem_of_getElem? (i := 63) (by decide +kernel))) rfl
theorem tw_544 : Cond.methodLink RL 67 yX11_best ∈ gwL := gw_in (tk_3 _ (List.mem_of_getElem? (i := 64) (by decide +kernel))) rfl
theorem tw_545 : Cond.instanceMethod yX11_best ∈ gwL := gw_in (tk_3 _ (List.mem_of_getElem? (i := 65) (by decide +kernel))) rfl
theorem tw_546 : Cond.selects RX11 yX11_best yX11_best ∈ gwL := gw_in (tk_3 _ (List.mem_of_getElem? (i := 66) (by decide +kernel))) rfl
theorem tw_547 : Cond.code yX11_best cX11_best 1 (some .int) ∈ gwL := gw_in (tk_3 _ (List.mem_of_getElem? (i := 67) (by decide +kernel))) rfl
theorem tw_548 : Cond.methodLink RX11 163 yX2_work ∈ gwL := gw_in (tk_3 _ (List.mem_of_getElem? (i := 68) (by decide +kernel))) rfl
theorem tw_549 : Cond.instanceMethod yX2_work ∈ gwL := gw_in (tk_3 _ (List.mem_of_getElem? (i := 69) (by decide +kernel))) rfl
theorem tw_550 : Cond.selects RX2 yX2_work yX2_work ∈ gwL := gw_in (tk_3 _ (List.mem_of_getElem? (i := 70) (by decide +kernel))) rfl
theorem tw_551 : Cond.code yX2_work cX2_work 5 none ∈ gwL := gw_in (tk_3 _ (List.mem_of_getElem? (i := 71) (by decide +kernel))) rfl
theorem tw_552 : Cond.methodLink RX2 59 yX3_changes ∈ gwL := gw_in (tk_3 _ (List.mem_of_getElem? (i := 72) (by decide +kernel))) rfl
theorem tw_553 : Cond.methodLink RX2 68 yX8_count ∈ gwL := gw_in (tk_3 _ (List.mem_of_getElem? (i := 73) (by decide +kernel))) rfl
theorem tw_554 : Cond.methodLink RX2 73 yX8_at ∈ gwL := gw_in (tk_3 _ (List.mem_of_getElem? (i := 74) (by decide +kernel))) rfl
theorem tw_555 : Cond.methodLink RX2 53 yX2_bitOf ∈ gwL := gw_in (tk_3 _ (List.mem_of_getElem? (i := 75) (by decide +kernel))) rfl
theorem tw_556 : Cond.static yX2_bitOf ∈ gwL := gw_in (tk_3 _ (List.mem_of_getElem? (i := 76) (by decide +kernel))) rfl
theorem tw_557 : Cond.code yX2_bitOf cX2_bitOf 1 (some .int) ∈ gwL := gw_in (tk_3 _ (List.mem_of_getElem? (i := 77) (by decide +kernel))) rfl
theorem tw_558 : Cond.methodLink RX2 77 yJ9_min_7cf53 ∈ gwL := gw_in (tk_3 _ (List.mem_of_getElem? (i := 78) (by decide +kernel))) rfl
theorem tw_559 : Cond.methodLink RX2 82 yX2_gatherRows ∈ gwL := gw_in (tk_3 _ (List.mem_of_getElem? (i := 79) (by decide +kernel))) rfl
theorem tw_561 : Cond.instanceMethod yX2_gatherRows ∈ gwL := gw_in (tk_3 _ (List.mem_of_getElem? (i := 81) (by decide +kernel))) rfl
theorem tw_562 : Cond.code yX2_gatherRows cX2_gatherRows 6 none ∈ gwL := gw_in (tk_3 _ (List.mem_of_getElem? (i := 82) (by decide +kernel))) rfl
theorem tw_563 : Cond.methodLink RX2 98 yX2_fitting ∈ gwL := gw_in (tk_3 _ (List.mem_of_getElem? (i := 83) (by decide +kernel))) rfl
theorem tw_565 : Cond.instanceMethod yX2_fitting ∈ gwL := gw_in (tk_3 _ (List.mem_of_getElem? (i := 85) (by decide +kernel))) rfl
theorem tw_566 : Cond.code yX2_fitting cX2_fitting 4 (some .int) ∈ gwL := gw_in (tk_3 _ (List.mem_of_getElem? (i := 86) (by decide +kernel))) rfl
theorem tw_567 : Cond.methodLink RX2 119 yX0_fits ∈ gwL := gw_in (tk_3 _ (List.mem_of_getElem? (i := 87) (by decide +kernel))) rfl
theorem tw_568 : Cond.methodLink RX2 101 yX0_run ∈ gwL := gw_in (tk_3 _ (List.mem_of_getElem? (i := 88) (by decide +kernel))) rfl
theorem tw_569 : Cond.methodLink RX2 107 yX0_value ∈ gwL := gw_in (tk_3 _ (List.mem_of_getElem? (i := 89) (by decide +kernel))) rfl
theorem tw_570 : Cond.methodLink RX2 113 yX2_addRow ∈ gwL := gw_in (tk_3 _ (List.mem_of_getElem? (i := 90) (by decide +kernel))) rfl
theorem tw_572 : Cond.instanceMethod yX2_addRow ∈ gwL := gw_in (tk_3 _ (List.mem_of_getElem? (i := 92) (by decide +kernel))) rfl
theorem tw_573 : Cond.code yX2_addRow cX2_addRow 3 none ∈ gwL := gw_in (tk_3 _ (List.mem_of_getElem? (i := 93) (by decide +kernel))) rfl
theorem tw_574 : Cond.methodLink RX2 123 yX2_loadsOf ∈ gwL := gw_in (tk_3 _ (List.mem_of_getElem? (i := 94) (by decide +kernel))) rfl
theorem tw_575 : Cond.static yX2_loadsOf ∈ gwL := gw_in (tk_3 _ (List.mem_of_getElem? (i := 95) (by decide +kernel))) rfl
theorem tw_576 : Cond.code yX2_loadsOf cX2_loadsOf 1 (some .int) ∈ gwL := gw_in (tk_3 _ (List.mem_of_getElem? (i := 96) (by decide +kernel))) rfl
theorem tw_577 : Cond.methodLink RX2 49 yX2_firstOf ∈ gwL := gw_in (tk_3 _ (List.mem_of_getElem? (i := 97) (by decide +kernel))) rfl
theorem tw_578 : Cond.static yX2_firstOf ∈ gwL := gw_in (tk_3 _ (List.mem_of_getElem? (i := 98) (by decide +kernel))) rfl
theorem tw_579 : Cond.code yX2_firstOf cX2_firstOf 1 (some .int) ∈ gwL := gw_in (tk_3 _ (List.mem_of_getElem? (i := 99) (by decide +kernel))) rfl
theorem tw_580 : Cond.methodLink RX2 56 yX2_secondOf ∈ gwL := gw_in (tk_3 _ (List.mem_of_getElem? (i := 100) (by decide +kernel))) rfl
theorem tw_581 : Cond.static yX2_secondOf ∈ gwL := gw_in (tk_3 _ (List.mem_of_getElem? (i := 101) (by decide +kernel))) rfl
theorem tw_582 : Cond.code yX2_secondOf cX2_secondOf 1 (some .int) ∈ gwL := gw_in (tk_3 _ (List.mem_of_getElem? (i := 102) (by decide +kernel))) rfl
theorem tw_583 : Cond.methodLink RX2 116 yX2_rowBy ∈ gwL := gw_in (tk_3 _ (List.mem_of_getElem? (i := 103) (by decide +kernel))) rfl
theorem tw_584 : Cond.static yX2_rowBy ∈ gwL := gw_in (tk_3 _ (List.mem_of_getElem? (i := 104) (by decide +kernel))) rfl
theorem tw_585 : Cond.code yX2_rowBy cX2_rowBy 2 (some .int) ∈ gwL := gw_in (tk_3 _ (List.mem_of_getElem? (i := 105) (by decide +kernel))) rfl
theorem tw_586 : Cond.methodLink RX2 86 yJ6_bitCount_0f7a4 ∈ gwL := gw_in (tk_3 _ (List.mem_of_getElem? (i := 106) (by decide +kernel))) rfl
theorem tw_587 : Cond.static yJ6_bitCount_0f7a4 ∈ gwL := gw_in (tk_3 _ (List.mem_of_getElem? (i := 107) (by decide +kernel))) rfl
theorem tw_588 : Cond.code yJ6_bitCount_0f7a4 cJ6_bitCount_0f7a4 1 (some .int) ∈ gwL := gw_in (tk_3 _ (List.mem_of_getElem? (i := 108) (by decide +kernel))) rfl
theorem tw_589 : Cond.constant RJ6 265 (1431655765) ∈ gwL := gw_in (tk_3 _ (List.mem_of_getElem? (i := 109) (by decide +kernel))) rfl
theorem tw_590 : Cond.constant RJ6 266 (858993459) ∈ gwL := gw_in (tk_3 _ (List.mem_of_getElem? (i := 110) (by decide +kernel))) rfl
theorem tw_591 : Cond.constant RJ6 267 (252645135) ∈ gwL := gw_in (tk_3 _ (List.mem_of_getElem? (i := 111) (by decide +kernel))) rfl
theorem tw_592 : Cond.methodLink RX2 91 yX2_choose ∈ gwL := gw_in (tk_3 _ (List.mem_of_getElem? (i := 112) (by decide +kernel))) rfl
theorem tw_594 : Cond.instanceMethod yX2_choose ∈ gwL := gw_in (tk_3 _ (List.mem_of_getElem? (i := 114) (by decide +kernel))) rfl
theorem tw_595 : Cond.code yX2_choose cX2_choose 8 none ∈ gwL := gw_in (tk_3 _ (List.mem_of_getElem? (i := 115) (by decide +kernel))) rfl
theorem tw_596 : Cond.methodLink RX2 95 yX2_handOut ∈ gwL := gw_in (tk_3 _ (List.mem_of_getElem? (i := 116) (by decide +kernel))) rfl
theorem tw_598 : Cond.instanceMethod yX2_handOut ∈ gwL := gw_in (tk_3 _ (List.mem_of_getElem? (i := 118) (by decide +kernel))) rfl
theorem tw_599 : Cond.code yX2_handOut cX2_handOut 4 none ∈ gwL := gw_in (tk_3 _ (List.mem_of_getElem? (i := 119) (by decide +kernel))) rfl
theorem tw_600 : Cond.methodLink RX11 166 yX2_value ∈ gwL := gw_in (tk_3 _ (List.mem_of_getElem? (i := 120) (by decide +kernel))) rfl
theorem tw_601 : Cond.instanceMethod yX2_value ∈ gwL := gw_in (tk_3 _ (List.mem_of_getElem? (i := 121) (by decide +kernel))) rfl
theorem tw_602 : Cond.selects RX2 yX2_value yX2_value ∈ gwL := gw_in (tk_3 _ (List.mem_of_getElem? (i := 122) (by decide +kernel))) rfl
theorem tw_603 : Cond.code yX2_value cX2_value 1 (some .int) ∈ gwL := gw_in (tk_3 _ (List.mem_of_getElem? (i := 123) (by decide +kernel))) rfl
theorem tw_604 : Cond.methodLink RL 72 yX11_gets ∈ gwL := gw_in (tk_3 _ (List.mem_of_getElem? (i := 124) (by decide +kernel))) rfl
theorem tw_605 : Cond.instanceMethod yX11_gets ∈ gwL := gw_in (tk_3 _ (List.mem_of_getElem? (i := 125) (by decide +kernel))) rfl
theorem tw_606 : Cond.selects RX11 yX11_gets yX11_gets ∈ gwL := gw_in (tk_3 _ (List.mem_of_getElem? (i := 126) (by decide +kernel))) rfl
theorem tw_607 : Cond.code yX11_gets cX11_gets 5 (some .int) ∈ gwL := gw_in (tk_3 _ (List.mem_of_getElem? (i := 127) (by decide +kernel))) rfl
theorem tw_608 : Cond.methodLink RX11 170 yX2_rowOf ∈ gwL := gw_in (tk_3 _ (List.mem_of_getElem? (i := 128) (by decide +kernel))) rfl
theorem tw_609 : Cond.instanceMethod yX2_rowOf ∈ gwL := gw_in (tk_3 _ (List.mem_of_getElem? (i := 129) (by decide +kernel))) rfl
theorem tw_610 : Cond.selects RX2 yX2_rowOf yX2_rowOf ∈ gwL := gw_in (tk_3 _ (List.mem_of_getElem? (i := 130) (by decide +kernel))) rfl
theorem tw_611 : Cond.code yX2_rowOf cX2_rowOf 2 (some .int) ∈ gwL := gw_in (tk_3 _ (List.mem_of_getElem? (i := 131) (by decide +kernel))) rfl
theorem tw_612 : Cond.methodLink RX11 173 yX2_firstOf ∈ gwL := gw_in (tk_3 _ (List.mem_of_getElem? (i := 132) (by decide +kernel))) rfl
theorem tw_613 : Cond.methodLink RX11 176 yX2_secondOf ∈ gwL := gw_in (tk_3 _ (List.mem_of_getElem? (i := 133) (by decide +kernel))) rfl
theorem tw_614 : Cond.methodLink RL 76 yX11_empty ∈ gwL := gw_in (tk_3 _ (List.mem_of_getElem? (i := 134) (by decide +kernel))) rfl
theorem tw_615 : Cond.instanceMethod yX11_empty ∈ gwL := gw_in (tk_3 _ (List.mem_of_getElem? (i := 135) (by decide +kernel))) rfl
theorem tw_616 : Cond.selects RX11 yX11_empty yX11_empty ∈ gwL := gw_in (tk_3 _ (List.mem_of_getElem? (i := 136) (by decide +kernel))) rfl
theorem tw_617 : Cond.code yX11_empty cX11_empty 4 (some .int) ∈ gwL := gw_in (tk_3 _ (List.mem_of_getElem? (i := 137) (by decide +kernel))) rfl
theorem tw_618 : Cond.methodLink RX11 182 yX2_emptyOf ∈ gwL := gw_in (tk_3 _ (List.mem_of_getElem? (i := 138) (by decide +kernel))) rfl
theorem tw_619 : Cond.instanceMethod yX2_emptyOf ∈ gwL := gw_in (tk_3 _ (List.mem_of_getElem? (i := 139) (by decide +kernel))) rfl
theorem tw_620 : Cond.selects RX2 yX2_emptyOf yX2_emptyOf ∈ gwL := gw_in (tk_3 _ (List.mem_of_getElem? (i := 140) (by decide +kernel))) rfl
theorem tw_621 : Cond.code yX2_emptyOf cX2_emptyOf 4 (some .int) ∈ gwL := gw_in (tk_3 _ (List.mem_of_getElem? (i := 141) (by decide +kernel))) rfl
theorem tw_622 : Cond.methodLink RX2 126 yX0_emptyMinutes ∈ gwL := gw_in (tk_3 _ (List.mem_of_getElem? (i := 142) (by decide +kernel))) rfl
theorem tw_623 : Cond.instanceMethod yX0_emptyMinutes ∈ gwL := gw_in (tk_3 _ (List.mem_of_getElem? (i := 143) (by decide +kernel))) rfl
theorem tw_624 : Cond.selects RX0 yX0_emptyMinutes yX0_emptyMinutes ∈ gwL := gw_in (tk_3 _ (List.mem_of_getElem? (i := 144) (by decide +kernel))) rfl
theorem tw_625 : Cond.code yX0_emptyMinutes cX0_emptyMinutes 1 (some .int) ∈ gwL := gw_in (tk_3 _ (List.mem_of_getElem? (i := 145) (by decide +kernel))) rfl
theorem tw_626 : Cond.methodLink RL 81 yX11_worth ∈ gwL := gw_in (tk_3 _ (List.mem_of_getElem? (i := 146) (by decide +kernel))) rfl
theorem tw_627 : Cond.instanceMethod yX11_worth ∈ gwL := gw_in (tk_3 _ (List.mem_of_getElem? (i := 147) (by decide +kernel))) rfl
theorem tw_628 : Cond.selects RX11 yX11_worth yX11_worth ∈ gwL := gw_in (tk_3 _ (List.mem_of_getElem? (i := 148) (by decide +kernel))) rfl
theorem tw_629 : Cond.code yX11_worth cX11_worth 2 (some .int) ∈ gwL := gw_in (tk_3 _ (List.mem_of_getElem? (i := 149) (by decide +kernel))) rfl
theorem tw_630 : Cond.methodLink RX11 185 yX2_valueWithout ∈ gwL := gw_in (tk_3 _ (List.mem_of_getElem? (i := 150) (by decide +kernel))) rfl
theorem tw_631 : Cond.instanceMethod yX2_valueWithout ∈ gwL := gw_in (tk_3 _ (List.mem_of_getElem? (i := 151) (by decide +kernel))) rfl
theorem tw_632 : Cond.selects RX2 yX2_valueWithout yX2_valueWithout ∈ gwL := gw_in (tk_3 _ (List.mem_of_getElem? (i := 152) (by decide +kernel))) rfl
theorem tw_633 : Cond.code yX2_valueWithout cX2_valueWithout 2 (some .int) ∈ gwL := gw_in (tk_3 _ (List.mem_of_getElem? (i := 153) (by decide +kernel))) rfl
theorem tw_634 : Cond.methodLink RL 86 yX11_paid ∈ gwL := gw_in (tk_3 _ (List.mem_of_getElem? (i := 154) (by decide +kernel))) rfl
theorem tw_635 : Cond.instanceMethod yX11_paid ∈ gwL := gw_in (tk_3 _ (List.mem_of_getElem? (i := 155) (by decide +kernel))) rfl
theorem tw_636 : Cond.selects RX11 yX11_paid yX11_paid ∈ gwL := gw_in (tk_3 _ (List.mem_of_getElem? (i := 156) (by decide +kernel))) rfl
theorem tw_637 : Cond.code yX11_paid cX11_paid 4 (some .int) ∈ gwL := gw_in (tk_3 _ (List.mem_of_getElem? (i := 157) (by decide +kernel))) rfl
theorem tw_638 : Cond.methodLink RX11 188 yX5_enter ∈ gwL := gw_in (tk_3 _ (List.mem_of_getElem? (i := 158) (by decide +kernel))) rfl
theorem tw_639 : Cond.instanceMethod yX5_enter ∈ gwL := gw_in (tk_3 _ (List.mem_of_getElem? (i := 159) (by decide +kernel))) rfl
theorem tw_640 : Cond.selects RX5 yX5_enter yX5_enter ∈ gwL := gw_in (tk_3 _ (List.mem_of_getElem? (i := 160) (by decide +kernel))) rfl
theorem tw_641 : Cond.code yX5_enter cX5_enter 6 (some .int) ∈ gwL := gw_in (tk_3 _ (List.mem_of_getElem? (i := 161) (by decide +kernel))) rfl
theorem tw_642 : Cond.methodLink RX5 28 yX8_add ∈ gwL := gw_in (tk_3 _ (List.mem_of_getElem? (i := 162) (by decide +kernel))) rfl
theorem tw_643 : Cond.constant RX5 32 (-100005) ∈ gwL := gw_in (tk_3 _ (List.mem_of_getElem? (i := 163) (by decide +kernel))) rfl
theorem tw_644 : Cond.methodLink RL 90 yX11_span ∈ gwL := gw_in (tk_3 _ (List.mem_of_getElem? (i := 164) (by decide +kernel))) rfl
theorem tw_645 : Cond.instanceMethod yX11_span ∈ gwL := gw_in (tk_3 _ (List.mem_of_getElem? (i := 165) (by decide +kernel))) rfl
theorem tw_646 : Cond.selects RX11 yX11_span yX11_span ∈ gwL := gw_in (tk_3 _ (List.mem_of_getElem? (i := 166) (by decide +kernel))) rfl
theorem tw_647 : Cond.code yX11_span cX11_span 4 (some .int) ∈ gwL := gw_in (tk_3 _ (List.mem_of_getElem? (i := 167) (by decide +kernel))) rfl
theorem tw_648 : Cond.methodLink RX11 191 yX5_tells ∈ gwL := gw_in (tk_3 _ (List.mem_of_getElem? (i := 168) (by decide +kernel))) rfl
theorem tw_649 : Cond.instanceMethod yX5_tells ∈ gwL := gw_in (tk_3 _ (List.mem_of_getElem? (i := 169) (by decide +kernel))) rfl
theorem tw_650 : Cond.selects RX5 yX5_tells yX5_tells ∈ gwL := gw_in (tk_3 _ (List.mem_of_getElem? (i := 170) (by decide +kernel))) rfl
theorem tw_651 : Cond.code yX5_tells cX5_tells 5 (some .int) ∈ gwL := gw_in (tk_3 _ (List.mem_of_getElem? (i := 171) (by decide +kernel))) rfl
theorem tw_652 : Cond.methodLink RX5 33 yX5_gather ∈ gwL := gw_in (tk_3 _ (List.mem_of_getElem? (i := 172) (by decide +kernel))) rfl
theorem tw_654 : Cond.instanceMethod yX5_gather ∈ gwL := gw_in (tk_3 _ (List.mem_of_getElem? (i := 174) (by decide +kernel))) rfl
theorem tw_655 : Cond.code yX5_gather cX5_gather 6 (some .int) ∈ gwL := gw_in (tk_3 _ (List.mem_of_getElem? (i := 175) (by decide +kernel))) rfl
theorem tw_656 : Cond.methodLink RX5 24 yX8_count ∈ gwL := gw_in (tk_3 _ (List.mem_of_getElem? (i := 176) (by decide +kernel))) rfl
theorem tw_657 : Cond.methodLink RX5 38 yX8_at ∈ gwL := gw_in (tk_3 _ (List.mem_of_getElem? (i := 177) (by decide +kernel))) rfl
theorem tw_658 : Cond.methodLink RX5 41 yX5_insert ∈ gwL := gw_in (tk_3 _ (List.mem_of_getElem? (i := 178) (by decide +kernel))) rfl
theorem tw_660 : Cond.instanceMethod yX5_insert ∈ gwL := gw_in (tk_3 _ (List.mem_of_getElem? (i := 180) (by decide +kernel))) rfl
theorem tw_661 : Cond.code yX5_insert cX5_insert 4 none ∈ gwL := gw_in (tk_3 _ (List.mem_of_getElem? (i := 181) (by decide +kernel))) rfl
theorem tw_662 : Cond.constant RX5 37 (-100006) ∈ gwL := gw_in (tk_3 _ (List.mem_of_getElem? (i := 182) (by decide +kernel))) rfl
theorem tw_663 : Cond.methodLink RL 94 yX11_contract ∈ gwL := gw_in (tk_3 _ (List.mem_of_getElem? (i := 183) (by decide +kernel))) rfl
theorem tw_664 : Cond.instanceMethod yX11_contract ∈ gwL := gw_in (tk_3 _ (List.mem_of_getElem? (i := 184) (by decide +kernel))) rfl
theorem tw_665 : Cond.selects RX11 yX11_contract yX11_contract ∈ gwL := gw_in (tk_3 _ (List.mem_of_getElem? (i := 185) (by decide +kernel))) rfl
theorem tw_666 : Cond.code yX11_contract cX11_contract 4 (some .int) ∈ gwL := gw_in (tk_3 _ (List.mem_of_getElem? (i := 186) (by decide +kernel))) rfl
theorem tw_667 : Cond.methodLink RX11 193 yX11_isFirm ∈ gwL := gw_in (tk_3 _ (List.mem_of_getElem? (i := 187) (by decide +kernel))) rfl
theorem tw_668 : Cond.static yX11_isFirm ∈ gwL := gw_in (tk_3 _ (List.mem_of_getElem? (i := 188) (by decide +kernel))) rfl
theorem tw_669 : Cond.code yX11_isFirm cX11_isFirm 1 (some .boolean) ∈ gwL := gw_in (tk_3 _ (List.mem_of_getElem? (i := 189) (by decide +kernel))) rfl
theorem tw_670 : Cond.methodLink RX11 196 yX1_handOn ∈ gwL := gw_in (tk_3 _ (List.mem_of_getElem? (i := 190) (by decide +kernel))) rfl
theorem tw_671 : Cond.instanceMethod yX1_handOn ∈ gwL := gw_in (tk_3 _ (List.mem_of_getElem? (i := 191) (by decide +kernel))) rfl
theorem tw_672 : Cond.selects RX1 yX1_handOn yX1_handOn ∈ gwL := gw_in (tk_3 _ (List.mem_of_getElem? (i := 192) (by decide +kernel))) rfl
theorem tw_673 : Cond.code yX1_handOn cX1_handOn 5 (some .int) ∈ gwL := gw_in (tk_3 _ (List.mem_of_getElem? (i := 193) (by decide +kernel))) rfl
theorem tw_674 : Cond.methodLink RX1 32 yX8_add ∈ gwL := gw_in (tk_3 _ (List.mem_of_getElem? (i := 194) (by decide +kernel))) rfl
theorem tw_675 : Cond.methodLink RL 98 yX11_chain ∈ gwL := gw_in (tk_3 _ (List.mem_of_getElem? (i := 195) (by decide +kernel))) rfl
theorem tw_676 : Cond.instanceMethod yX11_chain ∈ gwL := gw_in (tk_3 _ (List.mem_of_getElem? (i := 196) (by decide +kernel))) rfl
theorem tw_677 : Cond.selects RX11 yX11_chain yX11_chain ∈ gwL := gw_in (tk_3 _ (List.mem_of_getElem? (i := 197) (by decide +kernel))) rfl
theorem tw_678 : Cond.code yX11_chain cX11_chain 4 (some .int) ∈ gwL := gw_in (tk_3 _ (List.mem_of_getElem? (i := 198) (by decide +kernel))) rfl
theorem tw_679 : Cond.methodLink RX11 199 yX1_follow ∈ gwL := gw_in (tk_3 _ (List.mem_of_getElem? (i := 199) (by decide +kernel))) rfl
theorem tw_680 : Cond.instanceMethod yX1_follow ∈ gwL := gw_in (tk_3 _ (List.mem_of_getElem? (i := 200) (by decide +kernel))) rfl
theorem tw_681 : Cond.selects RX1 yX1_follow yX1_follow ∈ gwL := gw_in (tk_3 _ (List.mem_of_getElem? (i := 201) (by decide +kernel))) rfl
theorem tw_682 : Cond.code yX1_follow cX1_follow 6 none ∈ gwL := gw_in (tk_3 _ (List.mem_of_getElem? (i := 202) (by decide +kernel))) rfl
theorem tw_683 : Cond.methodLink RX1 47 yX1_firstUnused ∈ gwL := gw_in (tk_3 _ (List.mem_of_getElem? (i := 203) (by decide +kernel))) rfl
theorem tw_685 : Cond.instanceMethod yX1_firstUnused ∈ gwL := gw_in (tk_3 _ (List.mem_of_getElem? (i := 205) (by decide +kernel))) rfl
theorem tw_686 : Cond.code yX1_firstUnused cX1_firstUnused 5 (some .int) ∈ gwL := gw_in (tk_3 _ (List.mem_of_getElem? (i := 206) (by decide +kernel))) rfl
theorem tw_687 : Cond.methodLink RX1 28 yX8_count ∈ gwL := gw_in (tk_3 _ (List.mem_of_getElem? (i := 207) (by decide +kernel))) rfl
theorem tw_688 : Cond.methodLink RX1 36 yX8_at ∈ gwL := gw_in (tk_3 _ (List.mem_of_getElem? (i := 208) (by decide +kernel))) rfl
theorem tw_689 : Cond.methodLink RX11 203 yX1_carrier ∈ gwL := gw_in (tk_3 _ (List.mem_of_getElem? (i := 209) (by decide +kernel))) rfl
theorem tw_690 : Cond.instanceMethod yX1_carrier ∈ gwL := gw_in (tk_3 _ (List.mem_of_getElem? (i := 210) (by decide +kernel))) rfl
theorem tw_691 : Cond.selects RX1 yX1_carrier yX1_carrier ∈ gwL := gw_in (tk_3 _ (List.mem_of_getElem? (i := 211) (by decide +kernel))) rfl
theorem tw_692 : Cond.code yX1_carrier cX1_carrier 1 (some .int) ∈ gwL := gw_in (tk_3 _ (List.mem_of_getElem? (i := 212) (by decide +kernel))) rfl
theorem tw_693 : Cond.methodLink RX11 206 yX1_links ∈ gwL := gw_in (tk_3 _ (List.mem_of_getElem? (i := 213) (by decide +kernel))) rfl
theorem tw_694 : Cond.instanceMethod yX1_links ∈ gwL := gw_in (tk_3 _ (List.mem_of_getElem? (i := 214) (by decide +kernel))) rfl
theorem tw_695 : Cond.selects RX1 yX1_links yX1_links ∈ gwL := gw_in (tk_3 _ (List.mem_of_getElem? (i := 215) (by decide +kernel))) rfl
theorem tw_696 : Cond.code yX1_links cX1_links 1 (some .int) ∈ gwL := gw_in (tk_3 _ (List.mem_of_getElem? (i := 216) (by decide +kernel))) rfl
theorem tw_697 : Cond.methodLink RL 103 yX11_doubles ∈ gwL := gw_in (tk_3 _ (List.mem_of_getElem? (i := 217) (by decide +kernel))) rfl
theorem tw_698 : Cond.instanceMethod yX11_doubles ∈ gwL := gw_in (tk_3 _ (List.mem_of_getElem? (i := 218) (by decide +kernel))) rfl
theorem tw_699 : Cond.selects RX11 yX11_doubles yX11_doubles ∈ gwL := gw_in (tk_3 _ (List.mem_of_getElem? (i := 219) (by decide +kernel))) rfl
theorem tw_700 : Cond.code yX11_doubles cX11_doubles 2 (some .int) ∈ gwL := gw_in (tk_3 _ (List.mem_of_getElem? (i := 220) (by decide +kernel))) rfl
theorem tw_701 : Cond.methodLink RX11 209 yX1_doubleGivers ∈ gwL := gw_in (tk_3 _ (List.mem_of_getElem? (i := 221) (by decide +kernel))) rfl
theorem tw_702 : Cond.instanceMethod yX1_doubleGivers ∈ gwL := gw_in (tk_3 _ (List.mem_of_getElem? (i := 222) (by decide +kernel))) rfl
theorem tw_703 : Cond.selects RX1 yX1_doubleGivers yX1_doubleGivers ∈ gwL := gw_in (tk_3 _ (List.mem_of_getElem? (i := 223) (by decide +kernel))) rfl
theorem tw_704 : Cond.code yX1_doubleGivers cX1_doubleGivers 6 (some .int) ∈ gwL := gw_in (tk_3 _ (List.mem_of_getElem? (i := 224) (by decide +kernel))) rfl
theorem tw_705 : Cond.methodLink RX1 51 yJ6_bitCount_0f7a4 ∈ gwL := gw_in (tk_3 _ (List.mem_of_getElem? (i := 225) (by decide +kernel))) rfl
theorem tw_706 : Cond.methodLink RL 107 yX11_report ∈ gwL := gw_in (tk_3 _ (List.mem_of_getElem? (i := 226) (by decide +kernel))) rfl
theorem tw_707 : Cond.instanceMethod yX11_report ∈ gwL := gw_in (tk_3 _ (List.mem_of_getElem? (i := 227) (by decide +kernel))) rfl
theorem tw_708 : Cond.selects RX11 yX11_report yX11_report ∈ gwL := gw_in (tk_3 _ (List.mem_of_getElem? (i := 228) (by decide +kernel))) rfl
theorem tw_709 : Cond.code yX11_report cX11_report 4 (some .int) ∈ gwL := gw_in (tk_3 _ (List.mem_of_getElem? (i := 229) (by decide +kernel))) rfl
theorem tw_710 : Cond.methodLink RX11 212 yX6_enter ∈ gwL := gw_in (tk_3 _ (List.mem_of_getElem? (i := 230) (by decide +kernel))) rfl
theorem tw_711 : Cond.instanceMethod yX6_enter ∈ gwL := gw_in (tk_3 _ (List.mem_of_getElem? (i := 231) (by decide +kernel))) rfl
theorem tw_712 : Cond.selects RX6 yX6_enter yX6_enter ∈ gwL := gw_in (tk_3 _ (List.mem_of_getElem? (i := 232) (by decide +kernel))) rfl
theorem tw_713 : Cond.code yX6_enter cX6_enter 5 (some .int) ∈ gwL := gw_in (tk_3 _ (List.mem_of_getElem? (i := 233) (by decide +kernel))) rfl
theorem tw_714 : Cond.methodLink RX6 28 yX8_add ∈ gwL := gw_in (tk_3 _ (List.mem_of_getElem? (i := 234) (by decide +kernel))) rfl
theorem tw_715 : Cond.methodLink RL 111 yX11_cannot ∈ gwL := gw_in (tk_3 _ (List.mem_of_getElem? (i := 235) (by decide +kernel))) rfl
theorem tw_716 : Cond.instanceMethod yX11_cannot ∈ gwL := gw_in (tk_3 _ (List.mem_of_getElem? (i := 236) (by decide +kernel))) rfl
theorem tw_717 : Cond.selects RX11 yX11_cannot yX11_cannot ∈ gwL := gw_in (tk_3 _ (List.mem_of_getElem? (i := 237) (by decide +kernel))) rfl
theorem tw_718 : Cond.code yX11_cannot cX11_cannot 3 (some .int) ∈ gwL := gw_in (tk_3 _ (List.mem_of_getElem? (i := 238) (by decide +kernel))) rfl
theorem tw_719 : Cond.methodLink RX11 213 yX6_compare ∈ gwL := gw_in (tk_3 _ (List.mem_of_getElem? (i := 239) (by decide +kernel))) rfl
theorem tw_720 : Cond.instanceMethod yX6_compare ∈ gwL := gw_in (tk_4 _ (List.mem_of_getElem? (i := 0) (by decide +kernel))) rfl
theorem tw_721 : Cond.selects RX6 yX6_compare yX6_compare ∈ gwL := gw_in (tk_4 _ (List.mem_of_getElem? (i := 1) (by decide +kernel))) rfl
theorem tw_722 : Cond.code yX6_compare cX6_compare 4 none ∈ gwL := gw_in (tk_4 _ (List.mem_of_getElem? (i := 2) (by decide +kernel))) rfl
theorem tw_723 : Cond.methodLink RX6 32 yX10_measure ∈ gwL := gw_in (tk_4 _ (List.mem_of_getElem? (i := 3) (by decide +kernel))) rfl
theorem tw_724 : Cond.constant RX6 41 (-100006) ∈ gwL := gw_in (tk_4 _ (List.mem_of_getElem? (i := 4) (by decide +kernel))) rfl
theorem tw_725 : Cond.methodLink RX6 24 yX8_count ∈ gwL := gw_in (tk_4 _ (List.mem_of_getElem? (i := 5) (by decide +kernel))) rfl
theorem tw_726 : Cond.methodLink RX6 45 yX8_at ∈ gwL := gw_in (tk_4 _ (List.mem_of_getElem? (i := 6) (by decide +kernel))) rfl
theorem tw_727 : Cond.methodLink RX6 49 yX6_cannotBe ∈ gwL := gw_in (tk_4 _ (List.mem_of_getElem? (i := 7) (by decide +kernel))) rfl
theorem tw_729 : Cond.instanceMethod yX6_cannotBe ∈ gwL := gw_in (tk_4 _ (List.mem_of_getElem? (i := 9) (by decide +kernel))) rfl
theorem tw_730 : Cond.code yX6_cannotBe cX6_cannotBe 4 (some .boolean) ∈ gwL := gw_in (tk_4 _ (List.mem_of_getElem? (i := 10) (by decide +kernel))) rfl
theorem tw_731 : Cond.methodLink RX6 53 yJ9_abs_0f7a4 ∈ gwL := gw_in (tk_4 _ (List.mem_of_getElem? (i := 11) (by decide +kernel))) rfl
theorem tw_732 : Cond.static yJ9_abs_0f7a4 ∈ gwL := gw_in (tk_4 _ (List.mem_of_getElem? (i := 12) (by decide +kernel))) rfl
theorem tw_733 : Cond.code yJ9_abs_0f7a4 cJ9_abs_0f7a4 1 (some .int) ∈ gwL := gw_in (tk_4 _ (List.mem_of_getElem? (i := 13) (by decide +kernel))) rfl
theorem tw_734 : Cond.methodLink RX6 59 yX10_between ∈ gwL := gw_in (tk_4 _ (List.mem_of_getElem? (i := 14) (by decide +kernel))) rfl
theorem tw_735 : Cond.methodLink RX11 217 yX6_firstPair ∈ gwL := gw_in (tk_4 _ (List.mem_of_getElem? (i := 15) (by decide +kernel))) rfl
theorem tw_736 : Cond.instanceMethod yX6_firstPair ∈ gwL := gw_in (tk_4 _ (List.mem_of_getElem? (i := 16) (by decide +kernel))) rfl
theorem tw_737 : Cond.selects RX6 yX6_firstPair yX6_firstPair ∈ gwL := gw_in (tk_4 _ (List.mem_of_getElem? (i := 17) (by decide +kernel))) rfl
theorem tw_738 : Cond.code yX6_firstPair cX6_firstPair 1 (some .int) ∈ gwL := gw_in (tk_4 _ (List.mem_of_getElem? (i := 18) (by decide +kernel))) rfl
theorem tw_739 : Cond.methodLink RX11 220 yX6_pairs ∈ gwL := gw_in (tk_4 _ (List.mem_of_getElem? (i := 19) (by decide +kernel))) rfl
theorem tw_740 : Cond.instanceMethod yX6_pairs ∈ gwL := gw_in (tk_4 _ (List.mem_of_getElem? (i := 20) (by decide +kernel))) rfl
theorem tw_741 : Cond.selects RX6 yX6_pairs yX6_pairs ∈ gwL := gw_in (tk_4 _ (List.mem_of_getElem? (i := 21) (by decide +kernel))) rfl
theorem tw_742 : Cond.code yX6_pairs cX6_pairs 1 (some .int) ∈ gwL := gw_in (tk_4 _ (List.mem_of_getElem? (i := 22) (by decide +kernel))) rfl
theorem tw_743 : Cond.methodLink RL 116 yX11_trusts ∈ gwL := gw_in (tk_4 _ (List.mem_of_getElem? (i := 23) (by decide +kernel))) rfl
theorem tw_744 : Cond.instanceMethod yX11_trusts ∈ gwL := gw_in (tk_4 _ (List.mem_of_getElem? (i := 24) (by decide +kernel))) rfl
theorem tw_745 : Cond.selects RX11 yX11_trusts yX11_trusts ∈ gwL := gw_in (tk_4 _ (List.mem_of_getElem? (i := 25) (by decide +kernel))) rfl
theorem tw_746 : Cond.code yX11_trusts cX11_trusts 3 (some .int) ∈ gwL := gw_in (tk_4 _ (List.mem_of_getElem? (i := 26) (by decide +kernel))) rfl
theorem tw_747 : Cond.methodLink RX11 223 yX1_judge ∈ gwL := gw_in (tk_4 _ (List.mem_of_getElem? (i := 27) (by decide +kernel))) rfl
theorem tw_748 : Cond.instanceMethod yX1_judge ∈ gwL := gw_in (tk_4 _ (List.mem_of_getElem? (i := 28) (by decide +kernel))) rfl
theorem tw_749 : Cond.selects RX1 yX1_judge yX1_judge ∈ gwL := gw_in (tk_4 _ (List.mem_of_getElem? (i := 29) (by decide +kernel))) rfl
theorem tw_750 : Cond.code yX1_judge cX1_judge 5 (some .int) ∈ gwL := gw_in (tk_4 _ (List.mem_of_getElem? (i := 30) (by decide +kernel))) rfl
theorem tw_751 : Cond.methodLinkNest RX1 57 yX11_isFirm RX11 ∈ lw_tbl := tk_4 _ (List.mem_of_getElem? (i := 31) (by decide +kernel))
theorem tw_752 : Cond.constant RX1 61 (-100001) ∈ gwL := gw_in (tk_4 _ (List.mem_of_getElem? (i := 32) (by decide +kernel))) rfl
theorem tw_753 : Cond.methodLink RX1 62 yX1_judgedOf ∈ gwL := gw_in (tk_4 _ (List.mem_of_getElem? (i := 33) (by decide +kernel))) rfl
theorem tw_755 : Cond.instanceMethod yX1_judgedOf ∈ gwL := gw_in (tk_4 _ (List.mem_of_getElem? (i := 35) (by decide +kernel))) rfl
theorem tw_756 : Cond.code yX1_judgedOf cX1_judgedOf 2 (some .int) ∈ gwL := gw_in (tk_4 _ (List.mem_of_getElem? (i := 36) (by decide +kernel))) rfl
theorem tw_757 : Cond.constant RX1 65 (-100005) ∈ gwL := gw_in (tk_4 _ (List.mem_of_getElem? (i := 37) (by decide +kernel))) rfl
theorem tw_758 : Cond.methodLink RX1 66 yX3_keep ∈ gwL := gw_in (tk_4 _ (List.mem_of_getElem? (i := 38) (by decide +kernel))) rfl
theorem tw_759 : Cond.methodLink RL 120 yX11_trust ∈ gwL := gw_in (tk_4 _ (List.mem_of_getElem? (i := 39) (by decide +kernel))) rfl
theorem tw_760 : Cond.instanceMethod yX11_trust ∈ gwL := gw_in (tk_4 _ (List.mem_of_getElem? (i := 40) (by decide +kernel))) rfl
theorem tw_761 : Cond.selects RX11 yX11_trust yX11_trust ∈ gwL := gw_in (tk_4 _ (List.mem_of_getElem? (i := 41) (by decide +kernel))) rfl
theorem tw_762 : Cond.code yX11_trust cX11_trust 3 (some .int) ∈ gwL := gw_in (tk_4 _ (List.mem_of_getElem? (i := 42) (by decide +kernel))) rfl
theorem tw_763 : Cond.methodLink RX11 227 yX1_greatestTrust ∈ gwL := gw_in (tk_4 _ (List.mem_of_getElem? (i := 43) (by decide +kernel))) rfl
theorem tw_764 : Cond.instanceMethod yX1_greatestTrust ∈ gwL := gw_in (tk_4 _ (List.mem_of_getElem? (i := 44) (by decide +kernel))) rfl
theorem tw_765 : Cond.selects RX1 yX1_greatestTrust yX1_greatestTrust ∈ gwL := gw_in (tk_4 _ (List.mem_of_getElem? (i := 45) (by decide +kernel))) rfl
theorem tw_766 : Cond.code yX1_greatestTrust cX1_greatestTrust 2 (some .int) ∈ gwL := gw_in (tk_4 _ (List.mem_of_getElem? (i := 46) (by decide +kernel))) rfl
theorem tw_767 : Cond.methodLink RX1 72 yX1_doneOf ∈ gwL := gw_in (tk_4 _ (List.mem_of_getElem? (i := 47) (by decide +kernel))) rfl
theorem tw_769 : Cond.instanceMethod yX1_doneOf ∈ gwL := gw_in (tk_4 _ (List.mem_of_getElem? (i := 49) (by decide +kernel))) rfl
theorem tw_770 : Cond.code yX1_doneOf cX1_doneOf 2 (some .int) ∈ gwL := gw_in (tk_4 _ (List.mem_of_getElem? (i := 50) (by decide +kernel))) rfl
theorem tw_771 : Cond.methodLink RX11 230 yX1_leastTrust ∈ gwL := gw_in (tk_4 _ (List.mem_of_getElem? (i := 51) (by decide +kernel))) rfl
theorem tw_772 : Cond.instanceMethod yX1_leastTrust ∈ gwL := gw_in (tk_4 _ (List.mem_of_getElem? (i := 52) (by decide +kernel))) rfl
theorem tw_773 : Cond.selects RX1 yX1_leastTrust yX1_leastTrust ∈ gwL := gw_in (tk_4 _ (List.mem_of_getElem? (i := 53) (by decide +kernel))) rfl
theorem tw_774 : Cond.code yX1_leastTrust cX1_leastTrust 2 (some .int) ∈ gwL := gw_in (tk_4 _ (List.mem_of_getElem? (i := 54) (by decide +kernel))) rfl
theorem tw_775 : Cond.methodLink RL 124 yX11_owe ∈ gwL := gw_in (tk_4 _ (List.mem_of_getElem? (i := 55) (by decide +kernel))) rfl
theorem tw_776 : Cond.instanceMethod yX11_owe ∈ gwL := gw_in (tk_4 _ (List.mem_of_getElem? (i := 56) (by decide +kernel))) rfl
theorem tw_777 : Cond.selects RX11 yX11_owe yX11_owe ∈ gwL := gw_in (tk_4 _ (List.mem_of_getElem? (i := 57) (by decide +kernel))) rfl
theorem tw_778 : Cond.code yX11_owe cX11_owe 4 (some .int) ∈ gwL := gw_in (tk_4 _ (List.mem_of_getElem? (i := 58) (by decide +kernel))) rfl
theorem tw_779 : Cond.methodLink RX11 233 yX4_move ∈ gwL := gw_in (tk_4 _ (List.mem_of_getElem? (i := 59) (by decide +kernel))) rfl
theorem tw_780 : Cond.instanceMethod yX4_move ∈ gwL := gw_in (tk_4 _ (List.mem_of_getElem? (i := 60) (by decide +kernel))) rfl
theorem tw_781 : Cond.selects RX4 yX4_move yX4_move ∈ gwL := gw_in (tk_4 _ (List.mem_of_getElem? (i := 61) (by decide +kernel))) rfl
theorem tw_782 : Cond.code yX4_move cX4_move 6 (some .int) ∈ gwL := gw_in (tk_4 _ (List.mem_of_getElem? (i := 62) (by decide +kernel))) rfl
theorem tw_783 : Cond.methodLinkNest RX4 25 yX11_isFirm RX11 ∈ lw_tbl := tk_4 _ (List.mem_of_getElem? (i := 63) (by decide +kernel))
theorem tw_784 : Cond.constant RX4 29 (-100001) ∈ gwL := gw_in (tk_4 _ (List.mem_of_getElem? (i := 64) (by decide +kernel))) rfl
theorem tw_785 : Cond.methodLinkNest RX4 30 yX11_within RX11 ∈ lw_tbl := tk_4 _ (List.mem_of_getElem? (i := 65) (by decide +kernel))
theorem tw_786 : Cond.constant RX4 34 (-100005) ∈ gwL := gw_in (tk_4 _ (List.mem_of_getElem? (i := 66) (by decide +kernel))) rfl
theorem tw_787 : Cond.methodLink RX4 35 yX3_keep ∈ gwL := gw_in (tk_4 _ (List.mem_of_getElem? (i := 67) (by decide +kernel))) rfl
theorem tw_788 : Cond.methodLink RL 128 yX11_net ∈ gwL := gw_in (tk_4 _ (List.mem_of_getElem? (i := 68) (by decide +kernel))) rfl
theorem tw_789 : Cond.instanceMethod yX11_net ∈ gwL := gw_in (tk_4 _ (List.mem_of_getElem? (i := 69) (by decide +kernel))) rfl
theorem tw_790 : Cond.selects RX11 yX11_net yX11_net ∈ gwL := gw_in (tk_4 _ (List.mem_of_getElem? (i := 70) (by decide +kernel))) rfl
theorem tw_791 : Cond.code yX11_net cX11_net 2 (some .int) ∈ gwL := gw_in (tk_4 _ (List.mem_of_getElem? (i := 71) (by decide +kernel))) rfl
theorem tw_792 : Cond.methodLink RX11 236 yX4_sumOf ∈ gwL := gw_in (tk_4 _ (List.mem_of_getElem? (i := 72) (by decide +kernel))) rfl
theorem tw_793 : Cond.instanceMethod yX4_sumOf ∈ gwL := gw_in (tk_4 _ (List.mem_of_getElem? (i := 73) (by decide +kernel))) rfl
theorem tw_794 : Cond.selects RX4 yX4_sumOf yX4_sumOf ∈ gwL := gw_in (tk_4 _ (List.mem_of_getElem? (i := 74) (by decide +kernel))) rfl
theorem tw_795 : Cond.code yX4_sumOf cX4_sumOf 4 (some .int) ∈ gwL := gw_in (tk_4 _ (List.mem_of_getElem? (i := 75) (by decide +kernel))) rfl
theorem tw_796 : Cond.methodLink RL 132 yX11_clearing ∈ gwL := gw_in (tk_4 _ (List.mem_of_getElem? (i := 76) (by decide +kernel))) rfl
theorem tw_797 : Cond.instanceMethod yX11_clearing ∈ gwL := gw_in (tk_4 _ (List.mem_of_getElem? (i := 77) (by decide +kernel))) rfl
theorem tw_798 : Cond.selects RX11 yX11_clearing yX11_clearing ∈ gwL := gw_in (tk_4 _ (List.mem_of_getElem? (i := 78) (by decide +kernel))) rfl
theorem tw_799 : Cond.code yX11_clearing cX11_clearing 3 (some .int) ∈ gwL := gw_in (tk_4 _ (List.mem_of_getElem? (i := 79) (by decide +kernel))) rfl
theorem tw_800 : Cond.methodLink RX11 239 yX4_settle ∈ gwL := gw_in (tk_4 _ (List.mem_of_getElem? (i := 80) (by decide +kernel))) rfl
theorem tw_801 : Cond.instanceMethod yX4_settle ∈ gwL := gw_in (tk_4 _ (List.mem_of_getElem? (i := 81) (by decide +kernel))) rfl
theorem tw_802 : Cond.selects RX4 yX4_settle yX4_settle ∈ gwL := gw_in (tk_4 _ (List.mem_of_getElem? (i := 82) (by decide +kernel))) rfl
theorem tw_803 : Cond.code yX4_settle cX4_settle 2 (some .int) ∈ gwL := gw_in (tk_4 _ (List.mem_of_getElem? (i := 83) (by decide +kernel))) rfl
theorem tw_804 : Cond.methodLink RX4 41 yX4_sumOf ∈ gwL := gw_in (tk_4 _ (List.mem_of_getElem? (i := 84) (by decide +kernel))) rfl
theorem tw_805 : Cond.methodLink RX4 49 yX4_settleOne ∈ gwL := gw_in (tk_4 _ (List.mem_of_getElem? (i := 85) (by decide +kernel))) rfl
theorem tw_807 : Cond.instanceMethod yX4_settleOne ∈ gwL := gw_in (tk_4 _ (List.mem_of_getElem? (i := 87) (by decide +kernel))) rfl
theorem tw_808 : Cond.code yX4_settleOne cX4_settleOne 4 (some .boolean) ∈ gwL := gw_in (tk_4 _ (List.mem_of_getElem? (i := 88) (by decide +kernel))) rfl
theorem tw_809 : Cond.methodLink RX4 53 yJ9_min_7cf53 ∈ gwL := gw_in (tk_4 _ (List.mem_of_getElem? (i := 89) (by decide +kernel))) rfl
theorem tw_810 : Cond.constant RX4 59 (1000000) ∈ gwL := gw_in (tk_4 _ (List.mem_of_getElem? (i := 90) (by decide +kernel))) rfl
theorem tw_811 : Cond.constant RX4 60 (100000) ∈ gwL := gw_in (tk_4 _ (List.mem_of_getElem? (i := 91) (by decide +kernel))) rfl
theorem tw_812 : Cond.methodLink RX11 242 yX4_payment ∈ gwL := gw_in (tk_4 _ (List.mem_of_getElem? (i := 92) (by decide +kernel))) rfl
theorem tw_813 : Cond.instanceMethod yX4_payment ∈ gwL := gw_in (tk_4 _ (List.mem_of_getElem? (i := 93) (by decide +kernel))) rfl
theorem tw_814 : Cond.selects RX4 yX4_payment yX4_payment ∈ gwL := gw_in (tk_4 _ (List.mem_of_getElem? (i := 94) (by decide +kernel))) rfl
theorem tw_815 : Cond.code yX4_payment cX4_payment 2 (some .int) ∈ gwL := gw_in (tk_4 _ (List.mem_of_getElem? (i := 95) (by decide +kernel))) rfl
theorem tw_816 : Cond.constant RX4 61 (-100006) ∈ gwL := gw_in (tk_4 _ (List.mem_of_getElem? (i := 96) (by decide +kernel))) rfl
theorem tw_817 : Cond.methodLink RL 136 yX11_clear ∈ gwL := gw_in (tk_4 _ (List.mem_of_getElem? (i := 97) (by decide +kernel))) rfl
theorem tw_818 : Cond.instanceMethod yX11_clear ∈ gwL := gw_in (tk_4 _ (List.mem_of_getElem? (i := 98) (by decide +kernel))) rfl
theorem tw_819 : Cond.selects RX11 yX11_clear yX11_clear ∈ gwL := gw_in (tk_4 _ (List.mem_of_getElem? (i := 99) (by decide +kernel))) rfl
theorem tw_820 : Cond.code yX11_clear cX11_clear 2 (some .int) ∈ gwL := gw_in (tk_4 _ (List.mem_of_getElem? (i := 100) (by decide +kernel))) rfl
theorem tw_821 : Cond.methodLink RX11 245 yX4_forget ∈ gwL := gw_in (tk_4 _ (List.mem_of_getElem? (i := 101) (by decide +kernel))) rfl
theorem tw_822 : Cond.instanceMethod yX4_forget ∈ gwL := gw_in (tk_4 _ (List.mem_of_getElem? (i := 102) (by decide +kernel))) rfl
theorem tw_823 : Cond.selects RX4 yX4_forget yX4_forget ∈ gwL := gw_in (tk_4 _ (List.mem_of_getElem? (i := 103) (by decide +kernel))) rfl
theorem tw_824 : Cond.code yX4_forget cX4_forget 1 none ∈ gwL := gw_in (tk_4 _ (List.mem_of_getElem? (i := 104) (by decide +kernel))) rfl
theorem tw_825 : Cond.methodLink RX4 62 yJ7_fill_53178 ∈ gwL := gw_in (tk_4 _ (List.mem_of_getElem? (i := 105) (by decide +kernel))) rfl
theorem tw_826 : Cond.static yJ7_fill_53178 ∈ gwL := gw_in (tk_4 _ (List.mem_of_getElem? (i := 106) (by decide +kernel))) rfl
theorem tw_827 : Cond.code yJ7_fill_53178 cJ7_fill_53178 4 none ∈ gwL := gw_in (tk_4 _ (List.mem_of_getElem? (i := 107) (by decide +kernel))) rfl
theorem tw_828 : Cond.methodLink RL 140 yX11_text ∈ gwL := gw_in (tk_4 _ (List.mem_of_getElem? (i := 108) (by decide +kernel))) rfl
theorem tw_829 : Cond.instanceMethod yX11_text ∈ gwL := gw_in (tk_4 _ (List.mem_of_getElem? (i := 109) (by decide +kernel))) rfl
theorem tw_830 : Cond.selects RX11 yX11_text yX11_text ∈ gwL := gw_in (tk_4 _ (List.mem_of_getElem? (i := 110) (by decide +kernel))) rfl
theorem tw_831 : Cond.code yX11_text cX11_text 2 (some .int) ∈ gwL := gw_in (tk_4 _ (List.mem_of_getElem? (i := 111) (by decide +kernel))) rfl
theorem tw_832 : Cond.methodLink RX11 248 yX11_isSheet ∈ gwL := gw_in (tk_4 _ (List.mem_of_getElem? (i := 112) (by decide +kernel))) rfl
theorem tw_833 : Cond.static yX11_isSheet ∈ gwL := gw_in (tk_4 _ (List.mem_of_getElem? (i := 113) (by decide +kernel))) rfl
theorem tw_834 : Cond.code yX11_isSheet cX11_isSheet 1 (some .boolean) ∈ gwL := gw_in (tk_4 _ (List.mem_of_getElem? (i := 114) (by decide +kernel))) rfl
theorem tw_835 : Cond.methodLink RX11 251 yX7_isMissing ∈ gwL := gw_in (tk_4 _ (List.mem_of_getElem? (i := 115) (by decide +kernel))) rfl
theorem tw_836 : Cond.instanceMethod yX7_isMissing ∈ gwL := gw_in (tk_4 _ (List.mem_of_getElem? (i := 116) (by decide +kernel))) rfl
theorem tw_837 : Cond.selects RX7 yX7_isMissing yX7_isMissing ∈ gwL := gw_in (tk_4 _ (List.mem_of_getElem? (i := 117) (by decide +kernel))) rfl
theorem tw_838 : Cond.code yX7_isMissing cX7_isMissing 1 (some .boolean) ∈ gwL := gw_in (tk_4 _ (List.mem_of_getElem? (i := 118) (by decide +kernel))) rfl
theorem tw_839 : Cond.constant RX11 255 (-100002) ∈ gwL := gw_in (tk_4 _ (List.mem_of_getElem? (i := 119) (by decide +kernel))) rfl
theorem tw_840 : Cond.methodLink RX11 256 yX9_read ∈ gwL := gw_in (tk_4 _ (List.mem_of_getElem? (i := 120) (by decide +kernel))) rfl
theorem tw_841 : Cond.instanceMethod yX9_read ∈ gwL := gw_in (tk_4 _ (List.mem_of_getElem? (i := 121) (by decide +kernel))) rfl
theorem tw_842 : Cond.selects RX9 yX9_read yX9_read ∈ gwL := gw_in (tk_4 _ (List.mem_of_getElem? (i := 122) (by decide +kernel))) rfl
theorem tw_843 : Cond.code yX9_read cX9_read 4 (some .int) ∈ gwL := gw_in (tk_4 _ (List.mem_of_getElem? (i := 123) (by decide +kernel))) rfl
theorem tw_844 : Cond.methodLink RX9 25 yX7_count ∈ gwL := gw_in (tk_4 _ (List.mem_of_getElem? (i := 124) (by decide +kernel))) rfl
theorem tw_845 : Cond.instanceMethod yX7_count ∈ gwL := gw_in (tk_4 _ (List.mem_of_getElem? (i := 125) (by decide +kernel))) rfl
theorem tw_846 : Cond.selects RX7 yX7_count yX7_count ∈ gwL := gw_in (tk_4 _ (List.mem_of_getElem? (i := 126) (by decide +kernel))) rfl
theorem tw_847 : Cond.code yX7_count cX7_count 1 (some .int) ∈ gwL := gw_in (tk_4 _ (List.mem_of_getElem? (i := 127) (by decide +kernel))) rfl
theorem tw_848 : Cond.constant RX9 31 (-100003) ∈ gwL := gw_in (tk_4 _ (List.mem_of_getElem? (i := 128) (by decide +kernel))) rfl
theorem tw_849 : Cond.methodLink RX9 32 yX7_at ∈ gwL := gw_in (tk_4 _ (List.mem_of_getElem? (i := 129) (by decide +kernel))) rfl
theorem tw_850 : Cond.instanceMethod yX7_at ∈ gwL := gw_in (tk_4 _ (List.mem_of_getElem? (i := 130) (by decide +kernel))) rfl
theorem tw_851 : Cond.selects RX7 yX7_at yX7_at ∈ gwL := gw_in (tk_4 _ (List.mem_of_getElem? (i := 131) (by decide +kernel))) rfl
theorem tw_852 : Cond.code yX7_at cX7_at 2 (some .int) ∈ gwL := gw_in (tk_4 _ (List.mem_of_getElem? (i := 132) (by decide +kernel))) rfl
theorem tw_853 : Cond.methodLink RX9 36 yX9_isSign ∈ gwL := gw_in (tk_4 _ (List.mem_of_getElem? (i := 133) (by decide +kernel))) rfl
theorem tw_854 : Cond.static yX9_isSign ∈ gwL := gw_in (tk_4 _ (List.mem_of_getElem? (i := 134) (by decide +kernel))) rfl
theorem tw_855 : Cond.code yX9_isSign cX9_isSign 1 (some .boolean) ∈ gwL := gw_in (tk_4 _ (List.mem_of_getElem? (i := 135) (by decide +kernel))) rfl
theorem tw_856 : Cond.methodLinkNest RX9 47 yX11_within RX11 ∈ lw_tbl := tk_4 _ (List.mem_of_getElem? (i := 136) (by decide +kernel))
theorem tw_857 : Cond.constant RX9 40 (-100001) ∈ gwL := gw_in (tk_4 _ (List.mem_of_getElem? (i := 137) (by decide +kernel))) rfl
theorem tw_858 : Cond.methodLink RX9 41 yX3_keep ∈ gwL := gw_in (tk_4 _ (List.mem_of_getElem? (i := 138) (by decide +kernel))) rfl
theorem tw_859 : Cond.methodLink RL 144 yX11_wrong ∈ gwL := gw_in (tk_4 _ (List.mem_of_getElem? (i := 139) (by decide +kernel))) rfl
theorem tw_860 : Cond.instanceMethod yX11_wrong ∈ gwL := gw_in (tk_4 _ (List.mem_of_getElem? (i := 140) (by decide +kernel))) rfl
theorem tw_861 : Cond.selects RX11 yX11_wrong yX11_wrong ∈ gwL := gw_in (tk_4 _ (List.mem_of_getElem? (i := 141) (by decide +kernel))) rfl
theorem tw_862 : Cond.code yX11_wrong cX11_wrong 1 (some .int) ∈ gwL := gw_in (tk_4 _ (List.mem_of_getElem? (i := 142) (by decide +kernel))) rfl
theorem tw_863 : Cond.methodLink RX11 260 yX9_firstFault ∈ gwL := gw_in (tk_4 _ (List.mem_of_getElem? (i := 143) (by decide +kernel))) rfl
theorem tw_864 : Cond.instanceMethod yX9_firstFault ∈ gwL := gw_in (tk_4 _ (List.mem_of_getElem? (i := 144) (by decide +kernel))) rfl
theorem tw_865 : Cond.selects RX9 yX9_firstFault yX9_firstFault ∈ gwL := gw_in (tk_4 _ (List.mem_of_getElem? (i := 145) (by decide +kernel))) rfl
theorem tw_866 : Cond.code yX9_firstFault cX9_firstFault 5 (some .int) ∈ gwL := gw_in (tk_4 _ (List.mem_of_getElem? (i := 146) (by decide +kernel))) rfl
theorem tw_867 : Cond.methodLink RX9 60 yX9_count ∈ gwL := gw_in (tk_4 _ (List.mem_of_getElem? (i := 147) (by decide +kernel))) rfl
theorem tw_869 : Cond.instanceMethod yX9_count ∈ gwL := gw_in (tk_4 _ (List.mem_of_getElem? (i := 149) (by decide +kernel))) rfl
theorem tw_870 : Cond.code yX9_count cX9_count 1 (some .int) ∈ gwL := gw_in (tk_4 _ (List.mem_of_getElem? (i := 150) (by decide +kernel))) rfl
theorem tw_871 : Cond.methodLink RX9 51 yJ9_max_7cf53 ∈ gwL := gw_in (tk_4 _ (List.mem_of_getElem? (i := 151) (by decide +kernel))) rfl
theorem tw_872 : Cond.methodLink RX9 57 yJ9_min_7cf53 ∈ gwL := gw_in (tk_4 _ (List.mem_of_getElem? (i := 152) (by decide +kernel))) rfl
theorem tw_873 : Cond.methodLink RL 148 yX11_claim ∈ gwL := gw_in (tk_4 _ (List.mem_of_getElem? (i := 153) (by decide +kernel))) rfl
theorem tw_874 : Cond.instanceMethod yX11_claim ∈ gwL := gw_in (tk_4 _ (List.mem_of_getElem? (i := 154) (by decide +kernel))) rfl
theorem tw_875 : Cond.selects RX11 yX11_claim yX11_claim ∈ gwL := gw_in (tk_4 _ (List.mem_of_getElem? (i := 155) (by decide +kernel))) rfl
theorem tw_876 : Cond.code yX11_claim cX11_claim 4 (some .int) ∈ gwL := gw_in (tk_4 _ (List.mem_of_getElem? (i := 156) (by decide +kernel))) rfl
theorem tw_877 : Cond.constant RX11 263 (-100008) ∈ gwL := gw_in (tk_4 _ (List.mem_of_getElem? (i := 157) (by decide +kernel))) rfl
theorem tw_878 : Cond.methodLink RX11 264 yX9_know ∈ gwL := gw_in (tk_4 _ (List.mem_of_getElem? (i := 158) (by decide +kernel))) rfl
theorem tw_879 : Cond.instanceMethod yX9_know ∈ gwL := gw_in (tk_4 _ (List.mem_of_getElem? (i := 159) (by decide +kernel))) rfl
theorem tw_880 : Cond.selects RX9 yX9_know yX9_know ∈ gwL := gw_in (tk_4 _ (List.mem_of_getElem? (i := 160) (by decide +kernel))) rfl
theorem tw_881 : Cond.code yX9_know cX9_know 3 none ∈ gwL := gw_in (tk_4 _ (List.mem_of_getElem? (i := 161) (by decide +kernel))) rfl
theorem tw_882 : Cond.methodLink RX11 267 yX1_contractsOf ∈ gwL := gw_in (tk_4 _ (List.mem_of_getElem? (i := 162) (by decide +kernel))) rfl
theorem tw_883 : Cond.instanceMethod yX1_contractsOf ∈ gwL := gw_in (tk_4 _ (List.mem_of_getElem? (i := 163) (by decide +kernel))) rfl
theorem tw_884 : Cond.selects RX1 yX1_contractsOf yX1_contractsOf ∈ gwL := gw_in (tk_4 _ (List.mem_of_getElem? (i := 164) (by decide +kernel))) rfl
theorem tw_885 : Cond.code yX1_contractsOf cX1_contractsOf 4 (some .int) ∈ gwL := gw_in (tk_4 _ (List.mem_of_getElem? (i := 165) (by decide +kernel))) rfl
theorem tw_886 : Cond.methodLink RX11 270 yX9_workOut ∈ gwL := gw_in (tk_4 _ (List.mem_of_getElem? (i := 166) (by decide +kernel))) rfl
theorem tw_887 : Cond.instanceMethod yX9_workOut ∈ gwL := gw_in (tk_4 _ (List.mem_of_getElem? (i := 167) (by decide +kernel))) rfl
theorem tw_888 : Cond.selects RX9 yX9_workOut yX9_workOut ∈ gwL := gw_in (tk_4 _ (List.mem_of_getElem? (i := 168) (by decide +kernel))) rfl
theorem tw_889 : Cond.code yX9_workOut cX9_workOut 5 (some .int) ∈ gwL := gw_in (tk_4 _ (List.mem_of_getElem? (i := 169) (by decide +kernel))) rfl
theorem tw_890 : Cond.methodLink RX9 61 yX9_single ∈ gwL := gw_in (tk_4 _ (List.mem_of_getElem? (i := 170) (by decide +kernel))) rfl
theorem tw_892 : Cond.instanceMethod yX9_single ∈ gwL := gw_in (tk_4 _ (List.mem_of_getElem? (i := 172) (by decide +kernel))) rfl
theorem tw_893 : Cond.code yX9_single cX9_single 2 (some .int) ∈ gwL := gw_in (tk_4 _ (List.mem_of_getElem? (i := 173) (by decide +kernel))) rfl
theorem tw_894 : Cond.methodLink RX9 64 yX9_joined ∈ gwL := gw_in (tk_4 _ (List.mem_of_getElem? (i := 174) (by decide +kernel))) rfl
theorem tw_895 : Cond.static yX9_joined ∈ gwL := gw_in (tk_4 _ (List.mem_of_getElem? (i := 175) (by decide +kernel))) rfl
theorem tw_896 : Cond.code yX9_joined cX9_joined 3 (some .int) ∈ gwL := gw_in (tk_4 _ (List.mem_of_getElem? (i := 176) (by decide +kernel))) rfl
theorem tw_897 : Cond.methodLink RX11 274 yJ9_max_7cf53 ∈ gwL := gw_in (tk_4 _ (List.mem_of_getElem? (i := 177) (by decide +kernel))) rfl
theorem tw_898 : Cond.methodLink RL 152 yX11_proves ∈ gwL := gw_in (tk_4 _ (List.mem_of_getElem? (i := 178) (by decide +kernel))) rfl
theorem tw_899 : Cond.instanceMethod yX11_proves ∈ gwL := gw_in (tk_4 _ (List.mem_of_getElem? (i := 179) (by decide +kernel))) rfl
theorem tw_900 : Cond.selects RX11 yX11_proves yX11_proves ∈ gwL := gw_in (tk_4 _ (List.mem_of_getElem? (i := 180) (by decide +kernel))) rfl
theorem tw_901 : Cond.code yX11_proves cX11_proves 2 (some .int) ∈ gwL := gw_in (tk_4 _ (List.mem_of_getElem? (i := 181) (by decide +kernel))) rfl
theorem tw_902 : Cond.methodLink RX11 279 yX7_count ∈ gwL := gw_in (tk_4 _ (List.mem_of_getElem? (i := 182) (by decide +kernel))) rfl
theorem tw_903 : Cond.methodLink RX11 280 yX2_firstDoubt ∈ gwL := gw_in (tk_4 _ (List.mem_of_getElem? (i := 183) (by decide +kernel))) rfl
theorem tw_904 : Cond.instanceMethod yX2_firstDoubt ∈ gwL := gw_in (tk_4 _ (List.mem_of_getElem? (i := 184) (by decide +kernel))) rfl
theorem tw_905 : Cond.selects RX2 yX2_firstDoubt yX2_firstDoubt ∈ gwL := gw_in (tk_4 _ (List.mem_of_getElem? (i := 185) (by decide +kernel))) rfl
theorem tw_906 : Cond.code yX2_firstDoubt cX2_firstDoubt 7 (some .int) ∈ gwL := gw_in (tk_4 _ (List.mem_of_getElem? (i := 186) (by decide +kernel))) rfl
theorem tw_907 : Cond.methodLink RX2 129 yX7_at ∈ gwL := gw_in (tk_4 _ (List.mem_of_getElem? (i := 187) (by decide +kernel))) rfl
theorem tw_908 : Cond.methodLink RX2 133 yX2_isOfThese ∈ gwL := gw_in (tk_4 _ (List.mem_of_getElem? (i := 188) (by decide +kernel))) rfl
theorem tw_909 : Cond.static yX2_isOfThese ∈ gwL := gw_in (tk_4 _ (List.mem_of_getElem? (i := 189) (by decide +kernel))) rfl
theorem tw_910 : Cond.code yX2_isOfThese cX2_isOfThese 4 (some .boolean) ∈ gwL := gw_in (tk_4 _ (List.mem_of_getElem? (i := 190) (by decide +kernel))) rfl
theorem tw_911 : Cond.methodLink RX2 136 yX2_value ∈ gwL := gw_in (tk_4 _ (List.mem_of_getElem? (i := 191) (by decide +kernel))) rfl
theorem tw_912 : Cond.methodLink RL 156 yX11_sheet ∈ gwL := gw_in (tk_4 _ (List.mem_of_getElem? (i := 192) (by decide +kernel))) rfl
theorem tw_913 : Cond.instanceMethod yX11_sheet ∈ gwL := gw_in (tk_4 _ (List.mem_of_getElem? (i := 193) (by decide +kernel))) rfl
theorem tw_914 : Cond.selects RX11 yX11_sheet yX11_sheet ∈ gwL := gw_in (tk_4 _ (List.mem_of_getElem? (i := 194) (by decide +kernel))) rfl
theorem tw_915 : Cond.code yX11_sheet cX11_sheet 6 (some .int) ∈ gwL := gw_in (tk_4 _ (List.mem_of_getElem? (i := 195) (by decide +kernel))) rfl
theorem tw_916 : Cond.methodLink RX11 283 yX7_begin ∈ gwL := gw_in (tk_4 _ (List.mem_of_getElem? (i := 196) (by decide +kernel))) rfl
theorem tw_917 : Cond.instanceMethod yX7_begin ∈ gwL := gw_in (tk_4 _ (List.mem_of_getElem? (i := 197) (by decide +kernel))) rfl
theorem tw_918 : Cond.selects RX7 yX7_begin yX7_begin ∈ gwL := gw_in (tk_4 _ (List.mem_of_getElem? (i := 198) (by decide +kernel))) rfl
theorem tw_919 : Cond.code yX7_begin cX7_begin 3 none ∈ gwL := gw_in (tk_4 _ (List.mem_of_getElem? (i := 199) (by decide +kernel))) rfl
theorem tw_920 : Cond.methodLink RX7 19 yJ9_max_7cf53 ∈ gwL := gw_in (tk_4 _ (List.mem_of_getElem? (i := 200) (by decide +kernel))) rfl
theorem tw_921 : Cond.methodLink RX7 25 yJ9_min_7cf53 ∈ gwL := gw_in (tk_4 _ (List.mem_of_getElem? (i := 201) (by decide +kernel))) rfl
theorem tw_922 : Cond.methodLink RX7 31 yJ7_fill_53178 ∈ gwL := gw_in (tk_4 _ (List.mem_of_getElem? (i := 202) (by decide +kernel))) rfl
theorem tw_923 : Cond.methodLink RL 160 yX11_put ∈ gwL := gw_in (tk_4 _ (List.mem_of_getElem? (i := 203) (by decide +kernel))) rfl
theorem tw_924 : Cond.instanceMethod yX11_put ∈ gwL := gw_in (tk_4 _ (List.mem_of_getElem? (i := 204) (by decide +kernel))) rfl
theorem tw_925 : Cond.selects RX11 yX11_put yX11_put ∈ gwL := gw_in (tk_4 _ (List.mem_of_getElem? (i := 205) (by decide +kernel))) rfl
theorem tw_926 : Cond.code yX11_put cX11_put 4 (some .int) ∈ gwL := gw_in (tk_4 _ (List.mem_of_getElem? (i := 206) (by decide +kernel))) rfl
theorem tw_927 : Cond.methodLink RX11 286 yX7_reaches ∈ gwL := gw_in (tk_4 _ (List.mem_of_getElem? (i := 207) (by decide +kernel))) rfl
theorem tw_928 : Cond.instanceMethod yX7_reaches ∈ gwL := gw_in (tk_4 _ (List.mem_of_getElem? (i := 208) (by decide +kernel))) rfl
theorem tw_929 : Cond.selects RX7 yX7_reaches yX7_reaches ∈ gwL := gw_in (tk_4 _ (List.mem_of_getElem? (i := 209) (by decide +kernel))) rfl
theorem tw_930 : Cond.code yX7_reaches cX7_reaches 3 (some .boolean) ∈ gwL := gw_in (tk_4 _ (List.mem_of_getElem? (i := 210) (by decide +kernel))) rfl
theorem tw_931 : Cond.methodLink RX11 289 yX7_write ∈ gwL := gw_in (tk_4 _ (List.mem_of_getElem? (i := 211) (by decide +kernel))) rfl
theorem tw_932 : Cond.instanceMethod yX7_write ∈ gwL := gw_in (tk_4 _ (List.mem_of_getElem? (i := 212) (by decide +kernel))) rfl
theorem tw_933 : Cond.selects RX7 yX7_write yX7_write ∈ gwL := gw_in (tk_4 _ (List.mem_of_getElem? (i := 213) (by decide +kernel))) rfl
theorem tw_934 : Cond.code yX7_write cX7_write 3 none ∈ gwL := gw_in (tk_4 _ (List.mem_of_getElem? (i := 214) (by decide +kernel))) rfl
theorem tw_935 : Cond.methodLink RL 164 yX11_copy ∈ gwL := gw_in (tk_4 _ (List.mem_of_getElem? (i := 215) (by decide +kernel))) rfl
theorem tw_936 : Cond.instanceMethod yX11_copy ∈ gwL := gw_in (tk_4 _ (List.mem_of_getElem? (i := 216) (by decide +kernel))) rfl
theorem tw_937 : Cond.selects RX11 yX11_copy yX11_copy ∈ gwL := gw_in (tk_4 _ (List.mem_of_getElem? (i := 217) (by decide +kernel))) rfl
theorem tw_938 : Cond.code yX11_copy cX11_copy 6 (some .int) ∈ gwL := gw_in (tk_4 _ (List.mem_of_getElem? (i := 218) (by decide +kernel))) rfl
theorem tw_939 : Cond.methodLink RX11 292 yX7_isAsWideAs ∈ gwL := gw_in (tk_4 _ (List.mem_of_getElem? (i := 219) (by decide +kernel))) rfl
theorem tw_940 : Cond.instanceMethod yX7_isAsWideAs ∈ gwL := gw_in (tk_4 _ (List.mem_of_getElem? (i := 220) (by decide +kernel))) rfl
theorem tw_941 : Cond.selects RX7 yX7_isAsWideAs yX7_isAsWideAs ∈ gwL := gw_in (tk_4 _ (List.mem_of_getElem? (i := 221) (by decide +kernel))) rfl
theorem tw_942 : Cond.code yX7_isAsWideAs cX7_isAsWideAs 2 (some .boolean) ∈ gwL := gw_in (tk_4 _ (List.mem_of_getElem? (i := 222) (by decide +kernel))) rfl
theorem tw_943 : Cond.methodLink RX11 296 yX7_take ∈ gwL := gw_in (tk_4 _ (List.mem_of_getElem? (i := 223) (by decide +kernel))) rfl
theorem tw_944 : Cond.instanceMethod yX7_take ∈ gwL := gw_in (tk_4 _ (List.mem_of_getElem? (i := 224) (by decide +kernel))) rfl
theorem tw_945 : Cond.selects RX7 yX7_take yX7_take ∈ gwL := gw_in (tk_4 _ (List.mem_of_getElem? (i := 225) (by decide +kernel))) rfl
theorem tw_946 : Cond.code yX7_take cX7_take 5 none ∈ gwL := gw_in (tk_4 _ (List.mem_of_getElem? (i := 226) (by decide +kernel))) rfl
theorem tw_947 : Cond.methodLink RX7 37 yX7_reaches ∈ gwL := gw_in (tk_4 _ (List.mem_of_getElem? (i := 227) (by decide +kernel))) rfl
theorem tw_948 : Cond.methodLink RX7 41 (⟨"java/lang/System", "arraycopy", "(Ljava/lang/Object;ILjava/lang/Object;II)V"⟩ : MethodName) ∈ gwL := gw_in (tk_4 _ (List.mem_of_getElem? (i := 228) (by decide +kernel))) rfl
theorem tw_949 : Cond.methodLink RL 168 yX11_undo ∈ gwL := gw_in (tk_4 _ (List.mem_of_getElem? (i := 229) (by decide +kernel))) rfl
theorem tw_950 : Cond.instanceMethod yX11_undo ∈ gwL := gw_in (tk_4 _ (List.mem_of_getElem? (i := 230) (by decide +kernel))) rfl
theorem tw_951 : Cond.selects RX11 yX11_undo yX11_undo ∈ gwL := gw_in (tk_4 _ (List.mem_of_getElem? (i := 231) (by decide +kernel))) rfl
theorem tw_952 : Cond.code yX11_undo cX11_undo 1 (some .int) ∈ gwL := gw_in (tk_4 _ (List.mem_of_getElem? (i := 232) (by decide +kernel))) rfl
theorem tw_953 : Cond.methodLink RX11 300 yX3_takeBack ∈ gwL := gw_in (tk_4 _ (List.mem_of_getElem? (i := 233) (by decide +kernel))) rfl
theorem tw_954 : Cond.instanceMethod yX3_takeBack ∈ gwL := gw_in (tk_4 _ (List.mem_of_getElem? (i := 234) (by decide +kernel))) rfl
theorem tw_955 : Cond.selects RX3 yX3_takeBack yX3_takeBack ∈ gwL := gw_in (tk_4 _ (List.mem_of_getElem? (i := 235) (by decide +kernel))) rfl
theorem tw_956 : Cond.code yX3_takeBack cX3_takeBack 1 (some .int) ∈ gwL := gw_in (tk_4 _ (List.mem_of_getElem? (i := 236) (by decide +kernel))) rfl
theorem tw_957 : Cond.constant RX3 45 (-100006) ∈ gwL := gw_in (tk_4 _ (List.mem_of_getElem? (i := 237) (by decide +kernel))) rfl
theorem tw_958 : Cond.methodLink RX3 46 yX3_writeAgain ∈ gwL := gw_in (tk_4 _ (List.mem_of_getElem? (i := 238) (by decide +kernel))) rfl
theorem tw_959 : Cond.static yX3_writeAgain ∈ gwL := gw_in (tk_4 _ (List.mem_of_getElem? (i := 239) (by decide +kernel))) rfl
theorem tw_960 : Cond.code yX3_writeAgain cX3_writeAgain 3 none ∈ gwL := gw_in (tk_5 _ (List.mem_of_getElem? (i := 0) (by decide +kernel))) rfl
theorem tw_961 : Cond.methodLink RX3 50 (⟨"java/lang/System", "arraycopy", "(Ljava/lang/Object;ILjava/lang/Object;II)V"⟩ : MethodName) ∈ gwL := gw_in (tk_5 _ (List.mem_of_getElem? (i := 1) (by decide +kernel))) rfl
theorem tw_962 : Cond.methodLink RL 172 yX11_all ∈ gwL := gw_in (tk_5 _ (List.mem_of_getElem? (i := 2) (by decide +kernel))) rfl
theorem tw_963 : Cond.instanceMethod yX11_all ∈ gwL := gw_in (tk_5 _ (List.mem_of_getElem? (i := 3) (by decide +kernel))) rfl
theorem tw_964 : Cond.selects RX11 yX11_all yX11_all ∈ gwL := gw_in (tk_5 _ (List.mem_of_getElem? (i := 4) (by decide +kernel))) rfl
theorem tw_965 : Cond.code yX11_all cX11_all 2 (some .int) ∈ gwL := gw_in (tk_5 _ (List.mem_of_getElem? (i := 5) (by decide +kernel))) rfl
theorem tw_966 : Cond.methodLink RX11 303 yX5_count ∈ gwL := gw_in (tk_5 _ (List.mem_of_getElem? (i := 6) (by decide +kernel))) rfl
theorem tw_967 : Cond.instanceMethod yX5_count ∈ gwL := gw_in (tk_5 _ (List.mem_of_getElem? (i := 7) (by decide +kernel))) rfl
theorem tw_968 : Cond.selects RX5 yX5_count yX5_count ∈ gwL := gw_in (tk_5 _ (List.mem_of_getElem? (i := 8) (by decide +kernel))) rfl
theorem tw_969 : Cond.code yX5_count cX5_count 1 (some .int) ∈ gwL := gw_in (tk_5 _ (List.mem_of_getElem? (i := 9) (by decide +kernel))) rfl
theorem tw_970 : Cond.methodLink RX11 304 yX1_contracts ∈ gwL := gw_in (tk_5 _ (List.mem_of_getElem? (i := 10) (by decide +kernel))) rfl
theorem tw_971 : Cond.instanceMethod yX1_contracts ∈ gwL := gw_in (tk_5 _ (List.mem_of_getElem? (i := 11) (by decide +kernel))) rfl
theorem tw_972 : Cond.selects RX1 yX1_contracts yX1_contracts ∈ gwL := gw_in (tk_5 _ (List.mem_of_getElem? (i := 12) (by decide +kernel))) rfl
theorem tw_973 : Cond.code yX1_contracts cX1_contracts 1 (some .int) ∈ gwL := gw_in (tk_5 _ (List.mem_of_getElem? (i := 13) (by decide +kernel))) rfl
theorem tw_974 : Cond.methodLink RX11 307 yX6_count ∈ gwL := gw_in (tk_5 _ (List.mem_of_getElem? (i := 14) (by decide +kernel))) rfl
theorem tw_975 : Cond.instanceMethod yX6_count ∈ gwL := gw_in (tk_5 _ (List.mem_of_getElem? (i := 15) (by decide +kernel))) rfl
theorem tw_976 : Cond.selects RX6 yX6_count yX6_count ∈ gwL := gw_in (tk_5 _ (List.mem_of_getElem? (i := 16) (by decide +kernel))) rfl
theorem tw_977 : Cond.code yX6_count cX6_count 1 (some .int) ∈ gwL := gw_in (tk_5 _ (List.mem_of_getElem? (i := 17) (by decide +kernel))) rfl
theorem tw_978 : Cond.classLink RL 10 RX12 ∈ gwL := gw_in (tk_5 _ (List.mem_of_getElem? (i := 18) (by decide +kernel))) rfl
theorem tw_979 : Cond.instantiable RX12 26 ∈ gwL := gw_in (tk_5 _ (List.mem_of_getElem? (i := 19) (by decide +kernel))) rfl
theorem tw_980 : Cond.methodLink RL 12 yX12_init ∈ gwL := gw_in (tk_5 _ (List.mem_of_getElem? (i := 20) (by decide +kernel))) rfl
theorem tw_981 : Cond.instanceMethod yX12_init ∈ gwL := gw_in (tk_5 _ (List.mem_of_getElem? (i := 21) (by decide +kernel))) rfl
theorem tw_982 : Cond.code yX12_init cX12_init 1 none ∈ gwL := gw_in (tk_5 _ (List.mem_of_getElem? (i := 22) (by decide +kernel))) rfl
theorem tw_983 : Cond.methodLink RX12 1 (⟨"java/lang/Object", "<init>", "()V"⟩ : MethodName) ∈ gwL := gw_in (tk_5 _ (List.mem_of_getElem? (i := 23) (by decide +kernel))) rfl
theorem tw_984 : Cond.fieldLink RX12 9 "LoadBourseModel" "now" "[I" ∈ gwL := gw_in (tk_5 _ (List.mem_of_getElem? (i := 24) (by decide +kernel))) rfl
theorem tw_985 : Cond.fieldLink RX12 13 "LoadBourseModel" "past" "[I" ∈ gwL := gw_in (tk_5 _ (List.mem_of_getElem? (i := 25) (by decide +kernel))) rfl
theorem tw_986 : Cond.fieldLink RX12 67 "LoadBourseModel" "kept" "I" ∈ gwL := gw_in (tk_5 _ (List.mem_of_getElem? (i := 26) (by decide +kernel))) rfl
theorem tw_987 : Cond.fieldLink RX12 59 "LoadBourseModel" "findings" "I" ∈ gwL := gw_in (tk_5 _ (List.mem_of_getElem? (i := 27) (by decide +kernel))) rfl
theorem tw_988 : Cond.fieldLink RX12 16 "LoadBourseModel" "bits" "[I" ∈ gwL := gw_in (tk_5 _ (List.mem_of_getElem? (i := 28) (by decide +kernel))) rfl
theorem tw_989 : Cond.fieldLink RX12 19 "LoadBourseModel" "sizes" "[I" ∈ gwL := gw_in (tk_5 _ (List.mem_of_getElem? (i := 29) (by decide +kernel))) rfl
theorem tw_990 : Cond.fieldLink RX12 22 "LoadBourseModel" "sheets" "[I" ∈ gwL := gw_in (tk_5 _ (List.mem_of_getElem? (i := 30) (by decide +kernel))) rfl
theorem tw_991 : Cond.fieldLink RX12 25 "LoadBourseModel" "far" "[I" ∈ gwL := gw_in (tk_5 _ (List.mem_of_getElem? (i := 31) (by decide +kernel))) rfl
theorem tw_992 : Cond.fieldLink RX12 127 "LoadBourseModel" "minute" "I" ∈ gwL := gw_in (tk_5 _ (List.mem_of_getElem? (i := 32) (by decide +kernel))) rfl
theorem tw_993 : Cond.fieldLink RX12 124 "LoadBourseModel" "since" "I" ∈ gwL := gw_in (tk_5 _ (List.mem_of_getElem? (i := 33) (by decide +kernel))) rfl
theorem tw_994 : Cond.fieldLink RX12 118 "LoadBourseModel" "driven" "I" ∈ gwL := gw_in (tk_5 _ (List.mem_of_getElem? (i := 34) (by decide +kernel))) rfl
theorem tw_995 : Cond.fieldLink RX12 121 "LoadBourseModel" "emptyOnes" "I" ∈ gwL := gw_in (tk_5 _ (List.mem_of_getElem? (i := 35) (by decide +kernel))) rfl
theorem tw_996 : Cond.fieldLink RX12 130 "LoadBourseModel" "rests" "I" ∈ gwL := gw_in (tk_5 _ (List.mem_of_getElem? (i := 36) (by decide +kernel))) rfl
theorem tw_997 : Cond.fieldLink RX12 133 "LoadBourseModel" "waited" "I" ∈ gwL := gw_in (tk_5 _ (List.mem_of_getElem? (i := 37) (by decide +kernel))) rfl
theorem tw_998 : Cond.fieldLink RX12 115 "LoadBourseModel" "town" "I" ∈ gwL := gw_in (tk_5 _ (List.mem_of_getElem? (i := 38) (by decide +kernel))) rfl
theorem tw_999 : Cond.fieldLink RX12 28 "LoadBourseModel" "may" "[Z" ∈ gwL := gw_in (tk_5 _ (List.mem_of_getElem? (i := 39) (by decide +kernel))) rfl
theorem tw_1000 : Cond.fieldLink RX12 32 "LoadBourseModel" "values" "[I" ∈ gwL := gw_in (tk_5 _ (List.mem_of_getElem? (i := 40) (by decide +kernel))) rfl
theorem tw_1001 : Cond.fieldLink RX12 35 "LoadBourseModel" "empties" "[I" ∈ gwL := gw_in (tk_5 _ (List.mem_of_getElem? (i := 41) (by decide +kernel))) rfl
theorem tw_1002 : Cond.fieldLink RX12 38 "LoadBourseModel" "best" "[I" ∈ gwL := gw_in (tk_5 _ (List.mem_of_getElem? (i := 42) (by decide +kernel))) rfl
theorem tw_1003 : Cond.fieldLink RX12 41 "LoadBourseModel" "chosen" "[I" ∈ gwL := gw_in (tk_5 _ (List.mem_of_getElem? (i := 43) (by decide +kernel))) rfl
theorem tw_1004 : Cond.fieldLink RX12 44 "LoadBourseModel" "sorted" "[I" ∈ gwL := gw_in (tk_5 _ (List.mem_of_getElem? (i := 44) (by decide +kernel))) rfl
theorem tw_1005 : Cond.fieldLink RX12 194 "LoadBourseModel" "links" "I" ∈ gwL := gw_in (tk_5 _ (List.mem_of_getElem? (i := 45) (by decide +kernel))) rfl
theorem tw_1006 : Cond.fieldLink RX12 47 "LoadBourseModel" "sums" "[I" ∈ gwL := gw_in (tk_5 _ (List.mem_of_getElem? (i := 46) (by decide +kernel))) rfl
theorem tw_1007 : Cond.fieldLink RX12 50 "LoadBourseModel" "payments" "[I" ∈ gwL := gw_in (tk_5 _ (List.mem_of_getElem? (i := 47) (by decide +kernel))) rfl
theorem tw_1008 : Cond.fieldLink RX12 53 "LoadBourseModel" "row" "[I" ∈ gwL := gw_in (tk_5 _ (List.mem_of_getElem? (i := 48) (by decide +kernel))) rfl
theorem tw_1009 : Cond.fieldLink RX12 56 "LoadBourseModel" "carried" "[I" ∈ gwL := gw_in (tk_5 _ (List.mem_of_getElem? (i := 49) (by decide +kernel))) rfl
theorem tw_1063 : Cond.arrayClass .boolean ∈ gwL := gw_in (tk_5 _ (List.mem_of_getElem? (i := 103) (by decide +kernel))) rfl
theorem tw_1064 : Cond.methodLink RL 171 yX12_undo ∈ gwL := gw_in (tk_5 _ (List.mem_of_getElem? (i := 104) (by decide +kernel))) rfl
theorem tw_1065 : Cond.instanceMethod yX12_undo ∈ gwL := gw_in (tk_5 _ (List.mem_of_getElem? (i := 105) (by decide +kernel))) rfl
theorem tw_1066 : Cond.selects RX12 yX12_undo yX12_undo ∈ gwL := gw_in (tk_5 _ (List.mem_of_getElem? (i := 106) (by decide +kernel))) rfl
theorem tw_1067 : Cond.code yX12_undo cX12_undo 2 (some .int) ∈ gwL := gw_in (tk_5 _ (List.mem_of_getElem? (i := 107) (by decide +kernel))) rfl
theorem tw_1068 : Cond.constant RX12 70 (-100006) ∈ gwL := gw_in (tk_5 _ (List.mem_of_getElem? (i := 108) (by decide +kernel))) rfl
theorem tw_1069 : Cond.methodLink RX12 71 yX12_finding ∈ gwL := gw_in (tk_5 _ (List.mem_of_getElem? (i := 109) (by decide +kernel))) rfl
theorem tw_1071 : Cond.instanceMethod yX12_finding ∈ gwL := gw_in (tk_5 _ (List.mem_of_getElem? (i := 111) (by decide +kernel))) rfl
theorem tw_1072 : Cond.code yX12_finding cX12_finding 2 (some .int) ∈ gwL := gw_in (tk_5 _ (List.mem_of_getElem? (i := 112) (by decide +kernel))) rfl
theorem tw_1073 : Cond.methodLink RL 17 yX12_road ∈ gwL := gw_in (tk_5 _ (List.mem_of_getElem? (i := 113) (by decide +kernel))) rfl
theorem tw_1074 : Cond.instanceMethod yX12_road ∈ gwL := gw_in (tk_5 _ (List.mem_of_getElem? (i := 114) (by decide +kernel))) rfl
theorem tw_1075 : Cond.selects RX12 yX12_road yX12_road ∈ gwL := gw_in (tk_5 _ (List.mem_of_getElem? (i := 115) (by decide +kernel))) rfl
theorem tw_1076 : Cond.code yX12_road cX12_road 5 (some .int) ∈ gwL := gw_in (tk_5 _ (List.mem_of_getElem? (i := 116) (by decide +kernel))) rfl
theorem tw_1077 : Cond.methodLink RX12 75 yX12_isTown ∈ gwL := gw_in (tk_5 _ (List.mem_of_getElem? (i := 117) (by decide +kernel))) rfl
theorem tw_1078 : Cond.static yX12_isTown ∈ gwL := gw_in (tk_5 _ (List.mem_of_getElem? (i := 118) (by decide +kernel))) rfl
theorem tw_1079 : Cond.code yX12_isTown cX12_isTown 1 (some .boolean) ∈ gwL := gw_in (tk_5 _ (List.mem_of_getElem? (i := 119) (by decide +kernel))) rfl
theorem tw_1080 : Cond.methodLink RX12 63 yX12_within ∈ gwL := gw_in (tk_5 _ (List.mem_of_getElem? (i := 120) (by decide +kernel))) rfl
theorem tw_1081 : Cond.static yX12_within ∈ gwL := gw_in (tk_5 _ (List.mem_of_getElem? (i := 121) (by decide +kernel))) rfl
theorem tw_1082 : Cond.code yX12_within cX12_within 3 (some .boolean) ∈ gwL := gw_in (tk_5 _ (List.mem_of_getElem? (i := 122) (by decide +kernel))) rfl
theorem tw_1083 : Cond.constant RX12 79 (-100001) ∈ gwL := gw_in (tk_5 _ (List.mem_of_getElem? (i := 123) (by decide +kernel))) rfl
theorem tw_1084 : Cond.methodLink RX12 80 yX12_keep ∈ gwL := gw_in (tk_5 _ (List.mem_of_getElem? (i := 124) (by decide +kernel))) rfl
theorem tw_1086 : Cond.instanceMethod yX12_keep ∈ gwL := gw_in (tk_5 _ (List.mem_of_getElem? (i := 126) (by decide +kernel))) rfl
theorem tw_1087 : Cond.code yX12_keep cX12_keep 2 none ∈ gwL := gw_in (tk_5 _ (List.mem_of_getElem? (i := 127) (by decide +kernel))) rfl
theorem tw_1088 : Cond.methodLink RL 22 yX12_far ∈ gwL := gw_in (tk_5 _ (List.mem_of_getElem? (i := 128) (by decide +kernel))) rfl
theorem tw_1089 : Cond.instanceMethod yX12_far ∈ gwL := gw_in (tk_5 _ (List.mem_of_getElem? (i := 129) (by decide +kernel))) rfl
theorem tw_1090 : Cond.selects RX12 yX12_far yX12_far ∈ gwL := gw_in (tk_5 _ (List.mem_of_getElem? (i := 130) (by decide +kernel))) rfl
theorem tw_1091 : Cond.code yX12_far cX12_far 3 (some .int) ∈ gwL := gw_in (tk_5 _ (List.mem_of_getElem? (i := 131) (by decide +kernel))) rfl
theorem tw_1092 : Cond.methodLink RX12 90 yX12_findFar ∈ gwL := gw_in (tk_5 _ (List.mem_of_getElem? (i := 132) (by decide +kernel))) rfl
theorem tw_1094 : Cond.instanceMethod yX12_findFar ∈ gwL := gw_in (tk_5 _ (List.mem_of_getElem? (i := 134) (by decide +kernel))) rfl
theorem tw_1095 : Cond.code yX12_findFar cX12_findFar 3 none ∈ gwL := gw_in (tk_5 _ (List.mem_of_getElem? (i := 135) (by decide +kernel))) rfl
theorem tw_1096 : Cond.constant RX12 83 (1000000) ∈ gwL := gw_in (tk_5 _ (List.mem_of_getElem? (i := 136) (by decide +kernel))) rfl
theorem tw_1097 : Cond.methodLink RX12 84 yJ9_min_7cf53 ∈ gwL := gw_in (tk_5 _ (List.mem_of_getElem? (i := 137) (by decide +kernel))) rfl
theorem tw_1098 : Cond.methodLink RX12 93 yX12_isApart ∈ gwL := gw_in (tk_5 _ (List.mem_of_getElem? (i := 138) (by decide +kernel))) rfl
theorem tw_1100 : Cond.instanceMethod yX12_isApart ∈ gwL := gw_in (tk_5 _ (List.mem_of_getElem? (i := 140) (by decide +kernel))) rfl
theorem tw_1101 : Cond.code yX12_isApart cX12_isApart 3 (some .boolean) ∈ gwL := gw_in (tk_5 _ (List.mem_of_getElem? (i := 141) (by decide +kernel))) rfl
theorem tw_1102 : Cond.methodLink RL 27 yX12_lorry ∈ gwL := gw_in (tk_5 _ (List.mem_of_getElem? (i := 142) (by decide +kernel))) rfl
theorem tw_1103 : Cond.instanceMethod yX12_lorry ∈ gwL := gw_in (tk_5 _ (List.mem_of_getElem? (i := 143) (by decide +kernel))) rfl
theorem tw_1104 : Cond.selects RX12 yX12_lorry yX12_lorry ∈ gwL := gw_in (tk_5 _ (List.mem_of_getElem? (i := 144) (by decide +kernel))) rfl
theorem tw_1105 : Cond.code yX12_lorry cX12_lorry 8 (some .int) ∈ gwL := gw_in (tk_5 _ (List.mem_of_getElem? (i := 145) (by decide +kernel))) rfl
theorem tw_1106 : Cond.constant RX12 97 (-100005) ∈ gwL := gw_in (tk_5 _ (List.mem_of_getElem? (i := 146) (by decide +kernel))) rfl
theorem tw_1107 : Cond.methodLink RX12 98 yX12_ofLorry ∈ gwL := gw_in (tk_5 _ (List.mem_of_getElem? (i := 147) (by decide +kernel))) rfl
theorem tw_1108 : Cond.static yX12_ofLorry ∈ gwL := gw_in (tk_5 _ (List.mem_of_getElem? (i := 148) (by decide +kernel))) rfl
theorem tw_1109 : Cond.code yX12_ofLorry cX12_ofLorry 2 (some .int) ∈ gwL := gw_in (tk_5 _ (List.mem_of_getElem? (i := 149) (by decide +kernel))) rfl
theorem tw_1110 : Cond.methodLink RL 31 yX12_as ∈ gwL := gw_in (tk_5 _ (List.mem_of_getElem? (i := 150) (by decide +kernel))) rfl
theorem tw_1111 : Cond.instanceMethod yX12_as ∈ gwL := gw_in (tk_5 _ (List.mem_of_getElem? (i := 151) (by decide +kernel))) rfl
theorem tw_1112 : Cond.selects RX12 yX12_as yX12_as ∈ gwL := gw_in (tk_5 _ (List.mem_of_getElem? (i := 152) (by decide +kernel))) rfl
theorem tw_1113 : Cond.code yX12_as cX12_as 3 (some .int) ∈ gwL := gw_in (tk_5 _ (List.mem_of_getElem? (i := 153) (by decide +kernel))) rfl
theorem tw_1114 : Cond.methodLink RX12 101 yX12_isLorry ∈ gwL := gw_in (tk_5 _ (List.mem_of_getElem? (i := 154) (by decide +kernel))) rfl
theorem tw_1116 : Cond.instanceMethod yX12_isLorry ∈ gwL := gw_in (tk_5 _ (List.mem_of_getElem? (i := 156) (by decide +kernel))) rfl
theorem tw_1117 : Cond.code yX12_isLorry cX12_isLorry 2 (some .boolean) ∈ gwL := gw_in (tk_5 _ (List.mem_of_getElem? (i := 157) (by decide +kernel))) rfl
theorem tw_1118 : Cond.constant RX12 104 (-100004) ∈ gwL := gw_in (tk_5 _ (List.mem_of_getElem? (i := 158) (by decide +kernel))) rfl
theorem tw_1119 : Cond.methodLink RL 35 yX12_lorryIs ∈ gwL := gw_in (tk_5 _ (List.mem_of_getElem? (i := 159) (by decide +kernel))) rfl
theorem tw_1120 : Cond.instanceMethod yX12_lorryIs ∈ gwL := gw_in (tk_5 _ (List.mem_of_getElem? (i := 160) (by decide +kernel))) rfl
theorem tw_1121 : Cond.selects RX12 yX12_lorryIs yX12_lorryIs ∈ gwL := gw_in (tk_5 _ (List.mem_of_getElem? (i := 161) (by decide +kernel))) rfl
theorem tw_1122 : Cond.code yX12_lorryIs cX12_lorryIs 5 (some .int) ∈ gwL := gw_in (tk_5 _ (List.mem_of_getElem? (i := 162) (by decide +kernel))) rfl
theorem tw_1123 : Cond.methodLink RX12 105 yX12_ofLoad ∈ gwL := gw_in (tk_5 _ (List.mem_of_getElem? (i := 163) (by decide +kernel))) rfl
theorem tw_1124 : Cond.static yX12_ofLoad ∈ gwL := gw_in (tk_5 _ (List.mem_of_getElem? (i := 164) (by decide +kernel))) rfl
theorem tw_1125 : Cond.code yX12_ofLoad cX12_ofLoad 2 (some .int) ∈ gwL := gw_in (tk_5 _ (List.mem_of_getElem? (i := 165) (by decide +kernel))) rfl
theorem tw_1126 : Cond.methodLink RL 40 yX12_load ∈ gwL := gw_in (tk_5 _ (List.mem_of_getElem? (i := 166) (by decide +kernel))) rfl
theorem tw_1127 : Cond.instanceMethod yX12_load ∈ gwL := gw_in (tk_5 _ (List.mem_of_getElem? (i := 167) (by decide +kernel))) rfl
theorem tw_1128 : Cond.selects RX12 yX12_load yX12_load ∈ gwL := gw_in (tk_5 _ (List.mem_of_getElem? (i := 168) (by decide +kernel))) rfl
theorem tw_1129 : Cond.code yX12_load cX12_load 7 (some .int) ∈ gwL := gw_in (tk_5 _ (List.mem_of_getElem? (i := 169) (by decide +kernel))) rfl
theorem tw_1130 : Cond.constant RX12 108 (-100003) ∈ gwL := gw_in (tk_5 _ (List.mem_of_getElem? (i := 170) (by decide +kernel))) rfl
theorem tw_1131 : Cond.methodLink RL 45 yX12_window ∈ gwL := gw_in (tk_5 _ (List.mem_of_getElem? (i := 171) (by decide +kernel))) rfl
theorem tw_1132 : Cond.instanceMethod yX12_window ∈ gwL := gw_in (tk_5 _ (List.mem_of_getElem? (i := 172) (by decide +kernel))) rfl
theorem tw_1133 : Cond.selects RX12 yX12_window yX12_window ∈ gwL := gw_in (tk_5 _ (List.mem_of_getElem? (i := 173) (by decide +kernel))) rfl
theorem tw_1134 : Cond.code yX12_window cX12_window 6 (some .int) ∈ gwL := gw_in (tk_5 _ (List.mem_of_getElem? (i := 174) (by decide +kernel))) rfl
theorem tw_1135 : Cond.methodLink RX12 109 yX12_isLoad ∈ gwL := gw_in (tk_5 _ (List.mem_of_getElem? (i := 175) (by decide +kernel))) rfl
theorem tw_1137 : Cond.instanceMethod yX12_isLoad ∈ gwL := gw_in (tk_5 _ (List.mem_of_getElem? (i := 177) (by decide +kernel))) rfl
theorem tw_1138 : Cond.code yX12_isLoad cX12_isLoad 2 (some .boolean) ∈ gwL := gw_in (tk_5 _ (List.mem_of_getElem? (i := 178) (by decide +kernel))) rfl
theorem tw_1139 : Cond.methodLink RL 49 yX12_loadIs ∈ gwL := gw_in (tk_5 _ (List.mem_of_getElem? (i := 179) (by decide +kernel))) rfl
theorem tw_1140 : Cond.instanceMethod yX12_loadIs ∈ gwL := gw_in (tk_5 _ (List.mem_of_getElem? (i := 180) (by decide +kernel))) rfl
theorem tw_1141 : Cond.selects RX12 yX12_loadIs yX12_loadIs ∈ gwL := gw_in (tk_5 _ (List.mem_of_getElem? (i := 181) (by decide +kernel))) rfl
theorem tw_1142 : Cond.code yX12_loadIs cX12_loadIs 3 (some .int) ∈ gwL := gw_in (tk_5 _ (List.mem_of_getElem? (i := 182) (by decide +kernel))) rfl
theorem tw_1143 : Cond.methodLink RL 53 yX12_pay ∈ gwL := gw_in (tk_5 _ (List.mem_of_getElem? (i := 183) (by decide +kernel))) rfl
theorem tw_1144 : Cond.instanceMethod yX12_pay ∈ gwL := gw_in (tk_5 _ (List.mem_of_getElem? (i := 184) (by decide +kernel))) rfl
theorem tw_1145 : Cond.selects RX12 yX12_pay yX12_pay ∈ gwL := gw_in (tk_5 _ (List.mem_of_getElem? (i := 185) (by decide +kernel))) rfl
theorem tw_1146 : Cond.code yX12_pay cX12_pay 4 (some .int) ∈ gwL := gw_in (tk_5 _ (List.mem_of_getElem? (i := 186) (by decide +kernel))) rfl
theorem tw_1147 : Cond.methodLink RL 57 yX12_give ∈ gwL := gw_in (tk_5 _ (List.mem_of_getElem? (i := 187) (by decide +kernel))) rfl
theorem tw_1148 : Cond.instanceMethod yX12_give ∈ gwL := gw_in (tk_5 _ (List.mem_of_getElem? (i := 188) (by decide +kernel))) rfl
theorem tw_1149 : Cond.selects RX12 yX12_give yX12_give ∈ gwL := gw_in (tk_5 _ (List.mem_of_getElem? (i := 189) (by decide +kernel))) rfl
theorem tw_1150 : Cond.code yX12_give cX12_give 4 (some .int) ∈ gwL := gw_in (tk_5 _ (List.mem_of_getElem? (i := 190) (by decide +kernel))) rfl
theorem tw_1151 : Cond.methodLink RX12 112 yX12_fits ∈ gwL := gw_in (tk_5 _ (List.mem_of_getElem? (i := 191) (by decide +kernel))) rfl
theorem tw_1153 : Cond.instanceMethod yX12_fits ∈ gwL := gw_in (tk_5 _ (List.mem_of_getElem? (i := 193) (by decide +kernel))) rfl
theorem tw_1154 : Cond.code yX12_fits cX12_fits 6 (some .boolean) ∈ gwL := gw_in (tk_5 _ (List.mem_of_getElem? (i := 194) (by decide +kernel))) rfl
theorem tw_1155 : Cond.methodLink RL 61 yX12_why ∈ gwL := gw_in (tk_5 _ (List.mem_of_getElem? (i := 195) (by decide +kernel))) rfl
theorem tw_1156 : Cond.instanceMethod yX12_why ∈ gwL := gw_in (tk_5 _ (List.mem_of_getElem? (i := 196) (by decide +kernel))) rfl
theorem tw_1157 : Cond.selects RX12 yX12_why yX12_why ∈ gwL := gw_in (tk_5 _ (List.mem_of_getElem? (i := 197) (by decide +kernel))) rfl
theorem tw_1158 : Cond.code yX12_why cX12_why 5 (some .int) ∈ gwL := gw_in (tk_5 _ (List.mem_of_getElem? (i := 198) (by decide +kernel))) rfl
theorem tw_1159 : Cond.methodLink RX12 149 yX12_refused ∈ gwL := gw_in (tk_5 _ (List.mem_of_getElem? (i := 199) (by decide +kernel))) rfl
theorem tw_1161 : Cond.instanceMethod yX12_refused ∈ gwL := gw_in (tk_5 _ (List.mem_of_getElem? (i := 201) (by decide +kernel))) rfl
theorem tw_1162 : Cond.code yX12_refused cX12_refused 4 (some .int) ∈ gwL := gw_in (tk_5 _ (List.mem_of_getElem? (i := 202) (by decide +kernel))) rfl
theorem tw_1163 : Cond.methodLink RX12 153 yX12_drives ∈ gwL := gw_in (tk_5 _ (List.mem_of_getElem? (i := 203) (by decide +kernel))) rfl
theorem tw_1165 : Cond.instanceMethod yX12_drives ∈ gwL := gw_in (tk_5 _ (List.mem_of_getElem? (i := 205) (by decide +kernel))) rfl
theorem tw_1166 : Cond.code yX12_drives cX12_drives 5 (some .int) ∈ gwL := gw_in (tk_5 _ (List.mem_of_getElem? (i := 206) (by decide +kernel))) rfl
theorem tw_1167 : Cond.methodLink RX12 143 yX12_carries ∈ gwL := gw_in (tk_5 _ (List.mem_of_getElem? (i := 207) (by decide +kernel))) rfl
theorem tw_1169 : Cond.instanceMethod yX12_carries ∈ gwL := gw_in (tk_5 _ (List.mem_of_getElem? (i := 209) (by decide +kernel))) rfl
theorem tw_1170 : Cond.code yX12_carries cX12_carries 3 (some .int) ∈ gwL := gw_in (tk_5 _ (List.mem_of_getElem? (i := 210) (by decide +kernel))) rfl
theorem tw_1171 : Cond.methodLink RX12 136 yX12_goes ∈ gwL := gw_in (tk_5 _ (List.mem_of_getElem? (i := 211) (by decide +kernel))) rfl
theorem tw_1173 : Cond.instanceMethod yX12_goes ∈ gwL := gw_in (tk_5 _ (List.mem_of_getElem? (i := 213) (by decide +kernel))) rfl
theorem tw_1174 : Cond.code yX12_goes cX12_goes 5 (some .int) ∈ gwL := gw_in (tk_5 _ (List.mem_of_getElem? (i := 214) (by decide +kernel))) rfl
theorem tw_1175 : Cond.methodLink RX12 140 yX12_docks ∈ gwL := gw_in (tk_5 _ (List.mem_of_getElem? (i := 215) (by decide +kernel))) rfl
theorem tw_1177 : Cond.instanceMethod yX12_docks ∈ gwL := gw_in (tk_5 _ (List.mem_of_getElem? (i := 217) (by decide +kernel))) rfl
theorem tw_1178 : Cond.code yX12_docks cX12_docks 4 (some .int) ∈ gwL := gw_in (tk_5 _ (List.mem_of_getElem? (i := 218) (by decide +kernel))) rfl
theorem tw_1179 : Cond.methodLink RL 66 yX12_drive ∈ gwL := gw_in (tk_5 _ (List.mem_of_getElem? (i := 219) (by decide +kernel))) rfl
theorem tw_1180 : Cond.instanceMethod yX12_drive ∈ gwL := gw_in (tk_5 _ (List.mem_of_getElem? (i := 220) (by decide +kernel))) rfl
theorem tw_1181 : Cond.selects RX12 yX12_drive yX12_drive ∈ gwL := gw_in (tk_5 _ (List.mem_of_getElem? (i := 221) (by decide +kernel))) rfl
theorem tw_1182 : Cond.code yX12_drive cX12_drive 6 (some .int) ∈ gwL := gw_in (tk_5 _ (List.mem_of_getElem? (i := 222) (by decide +kernel))) rfl
theorem tw_1183 : Cond.methodLink RX12 156 yX12_valueOf ∈ gwL := gw_in (tk_5 _ (List.mem_of_getElem? (i := 223) (by decide +kernel))) rfl
theorem tw_1185 : Cond.instanceMethod yX12_valueOf ∈ gwL := gw_in (tk_5 _ (List.mem_of_getElem? (i := 225) (by decide +kernel))) rfl
theorem tw_1186 : Cond.code yX12_valueOf cX12_valueOf 3 (some .int) ∈ gwL := gw_in (tk_5 _ (List.mem_of_getElem? (i := 226) (by decide +kernel))) rfl
theorem tw_1187 : Cond.methodLink RX12 146 yX12_payOf ∈ gwL := gw_in (tk_5 _ (List.mem_of_getElem? (i := 227) (by decide +kernel))) rfl
theorem tw_1189 : Cond.instanceMethod yX12_payOf ∈ gwL := gw_in (tk_5 _ (List.mem_of_getElem? (i := 229) (by decide +kernel))) rfl
theorem tw_1190 : Cond.code yX12_payOf cX12_payOf 2 (some .int) ∈ gwL := gw_in (tk_5 _ (List.mem_of_getElem? (i := 230) (by decide +kernel))) rfl
theorem tw_1191 : Cond.methodLink RL 71 yX12_best ∈ gwL := gw_in (tk_5 _ (List.mem_of_getElem? (i := 231) (by decide +kernel))) rfl
theorem tw_1192 : Cond.instanceMethod yX12_best ∈ gwL := gw_in (tk_5 _ (List.mem_of_getElem? (i := 232) (by decide +kernel))) rfl
theorem tw_1193 : Cond.selects RX12 yX12_best yX12_best ∈ gwL := gw_in (tk_5 _ (List.mem_of_getElem? (i := 233) (by decide +kernel))) rfl
theorem tw_1194 : Cond.code yX12_best cX12_best 1 (some .int) ∈ gwL := gw_in (tk_5 _ (List.mem_of_getElem? (i := 234) (by decide +kernel))) rfl
theorem tw_1195 : Cond.methodLink RX12 171 yX12_findRows ∈ gwL := gw_in (tk_5 _ (List.mem_of_getElem? (i := 235) (by decide +kernel))) rfl
theorem tw_1197 : Cond.instanceMethod yX12_findRows ∈ gwL := gw_in (tk_5 _ (List.mem_of_getElem? (i := 237) (by decide +kernel))) rfl
theorem tw_1198 : Cond.code yX12_findRows cX12_findRows 8 none ∈ gwL := gw_in (tk_5 _ (List.mem_of_getElem? (i := 238) (by decide +kernel))) rfl
theorem tw_1199 : Cond.methodLink RX12 174 yX12_given ∈ gwL := gw_in (tk_5 _ (List.mem_of_getElem? (i := 239) (by decide +kernel))) rfl
theorem tw_1201 : Cond.instanceMethod yX12_given ∈ gwL := gw_in (tk_6 _ (List.mem_of_getElem? (i := 1) (by decide +kernel))) rfl
theorem tw_1202 : Cond.code yX12_given cX12_given 3 (some .int) ∈ gwL := gw_in (tk_6 _ (List.mem_of_getElem? (i := 2) (by decide +kernel))) rfl
theorem tw_1203 : Cond.methodLink RX12 178 yX12_findGiving ∈ gwL := gw_in (tk_6 _ (List.mem_of_getElem? (i := 3) (by decide +kernel))) rfl
theorem tw_1205 : Cond.instanceMethod yX12_findGiving ∈ gwL := gw_in (tk_6 _ (List.mem_of_getElem? (i := 5) (by decide +kernel))) rfl
theorem tw_1206 : Cond.code yX12_findGiving cX12_findGiving 7 (some .int) ∈ gwL := gw_in (tk_6 _ (List.mem_of_getElem? (i := 6) (by decide +kernel))) rfl
theorem tw_1207 : Cond.methodLink RX12 162 yX12_with ∈ gwL := gw_in (tk_6 _ (List.mem_of_getElem? (i := 7) (by decide +kernel))) rfl
theorem tw_1209 : Cond.instanceMethod yX12_with ∈ gwL := gw_in (tk_6 _ (List.mem_of_getElem? (i := 9) (by decide +kernel))) rfl
theorem tw_1210 : Cond.code yX12_with cX12_with 4 (some .int) ∈ gwL := gw_in (tk_6 _ (List.mem_of_getElem? (i := 10) (by decide +kernel))) rfl
theorem tw_1211 : Cond.methodLink RX12 159 yX12_setOf ∈ gwL := gw_in (tk_6 _ (List.mem_of_getElem? (i := 11) (by decide +kernel))) rfl
theorem tw_1212 : Cond.static yX12_setOf ∈ gwL := gw_in (tk_6 _ (List.mem_of_getElem? (i := 12) (by decide +kernel))) rfl
theorem tw_1213 : Cond.code yX12_setOf cX12_setOf 1 (some .int) ∈ gwL := gw_in (tk_6 _ (List.mem_of_getElem? (i := 13) (by decide +kernel))) rfl
theorem tw_1214 : Cond.methodLink RX12 165 yX12_isOpen ∈ gwL := gw_in (tk_6 _ (List.mem_of_getElem? (i := 14) (by decide +kernel))) rfl
theorem tw_1216 : Cond.instanceMethod yX12_isOpen ∈ gwL := gw_in (tk_6 _ (List.mem_of_getElem? (i := 16) (by decide +kernel))) rfl
theorem tw_1217 : Cond.code yX12_isOpen cX12_isOpen 4 (some .boolean) ∈ gwL := gw_in (tk_6 _ (List.mem_of_getElem? (i := 17) (by decide +kernel))) rfl
theorem tw_1218 : Cond.methodLink RX12 168 yJ9_max_7cf53 ∈ gwL := gw_in (tk_6 _ (List.mem_of_getElem? (i := 18) (by decide +kernel))) rfl
theorem tw_1219 : Cond.methodLink RL 75 yX12_gets ∈ gwL := gw_in (tk_6 _ (List.mem_of_getElem? (i := 19) (by decide +kernel))) rfl
theorem tw_1220 : Cond.instanceMethod yX12_gets ∈ gwL := gw_in (tk_6 _ (List.mem_of_getElem? (i := 20) (by decide +kernel))) rfl
theorem tw_1221 : Cond.selects RX12 yX12_gets yX12_gets ∈ gwL := gw_in (tk_6 _ (List.mem_of_getElem? (i := 21) (by decide +kernel))) rfl
theorem tw_1222 : Cond.code yX12_gets cX12_gets 5 (some .int) ∈ gwL := gw_in (tk_6 _ (List.mem_of_getElem? (i := 22) (by decide +kernel))) rfl
theorem tw_1223 : Cond.methodLink RL 80 yX12_empty ∈ gwL := gw_in (tk_6 _ (List.mem_of_getElem? (i := 23) (by decide +kernel))) rfl
theorem tw_1224 : Cond.instanceMethod yX12_empty ∈ gwL := gw_in (tk_6 _ (List.mem_of_getElem? (i := 24) (by decide +kernel))) rfl
theorem tw_1225 : Cond.selects RX12 yX12_empty yX12_empty ∈ gwL := gw_in (tk_6 _ (List.mem_of_getElem? (i := 25) (by decide +kernel))) rfl
theorem tw_1226 : Cond.code yX12_empty cX12_empty 5 (some .int) ∈ gwL := gw_in (tk_6 _ (List.mem_of_getElem? (i := 26) (by decide +kernel))) rfl
theorem tw_1227 : Cond.methodLink RL 85 yX12_worth ∈ gwL := gw_in (tk_6 _ (List.mem_of_getElem? (i := 27) (by decide +kernel))) rfl
theorem tw_1228 : Cond.instanceMethod yX12_worth ∈ gwL := gw_in (tk_6 _ (List.mem_of_getElem? (i := 28) (by decide +kernel))) rfl
theorem tw_1229 : Cond.selects RX12 yX12_worth yX12_worth ∈ gwL := gw_in (tk_6 _ (List.mem_of_getElem? (i := 29) (by decide +kernel))) rfl
theorem tw_1230 : Cond.code yX12_worth cX12_worth 2 (some .int) ∈ gwL := gw_in (tk_6 _ (List.mem_of_getElem? (i := 30) (by decide +kernel))) rfl
theorem tw_1231 : Cond.methodLink RL 155 yX12_proves ∈ gwL := gw_in (tk_6 _ (List.mem_of_getElem? (i := 31) (by decide +kernel))) rfl
theorem tw_1232 : Cond.instanceMethod yX12_proves ∈ gwL := gw_in (tk_6 _ (List.mem_of_getElem? (i := 32) (by decide +kernel))) rfl
theorem tw_1233 : Cond.selects RX12 yX12_proves yX12_proves ∈ gwL := gw_in (tk_6 _ (List.mem_of_getElem? (i := 33) (by decide +kernel))) rfl
theorem tw_1234 : Cond.code yX12_proves cX12_proves 9 (some .int) ∈ gwL := gw_in (tk_6 _ (List.mem_of_getElem? (i := 34) (by decide +kernel))) rfl
theorem tw_1235 : Cond.methodLink RX12 181 yX12_isSheet ∈ gwL := gw_in (tk_6 _ (List.mem_of_getElem? (i := 35) (by decide +kernel))) rfl
theorem tw_1236 : Cond.static yX12_isSheet ∈ gwL := gw_in (tk_6 _ (List.mem_of_getElem? (i := 36) (by decide +kernel))) rfl
theorem tw_1237 : Cond.code yX12_isSheet cX12_isSheet 1 (some .boolean) ∈ gwL := gw_in (tk_6 _ (List.mem_of_getElem? (i := 37) (by decide +kernel))) rfl
theorem tw_1238 : Cond.constant RX12 184 (-100002) ∈ gwL := gw_in (tk_6 _ (List.mem_of_getElem? (i := 38) (by decide +kernel))) rfl
theorem tw_1239 : Cond.methodLink RL 89 yX12_paid ∈ gwL := gw_in (tk_6 _ (List.mem_of_getElem? (i := 39) (by decide +kernel))) rfl
theorem tw_1240 : Cond.instanceMethod yX12_paid ∈ gwL := gw_in (tk_6 _ (List.mem_of_getElem? (i := 40) (by decide +kernel))) rfl
theorem tw_1241 : Cond.selects RX12 yX12_paid yX12_paid ∈ gwL := gw_in (tk_6 _ (List.mem_of_getElem? (i := 41) (by decide +kernel))) rfl
theorem tw_1242 : Cond.code yX12_paid cX12_paid 4 (some .int) ∈ gwL := gw_in (tk_6 _ (List.mem_of_getElem? (i := 42) (by decide +kernel))) rfl
theorem tw_1243 : Cond.methodLink RX12 185 yX12_isLane ∈ gwL := gw_in (tk_6 _ (List.mem_of_getElem? (i := 43) (by decide +kernel))) rfl
theorem tw_1244 : Cond.static yX12_isLane ∈ gwL := gw_in (tk_6 _ (List.mem_of_getElem? (i := 44) (by decide +kernel))) rfl
theorem tw_1245 : Cond.code yX12_isLane cX12_isLane 1 (some .boolean) ∈ gwL := gw_in (tk_6 _ (List.mem_of_getElem? (i := 45) (by decide +kernel))) rfl
theorem tw_1246 : Cond.methodLink RX12 188 yX12_isDay ∈ gwL := gw_in (tk_6 _ (List.mem_of_getElem? (i := 46) (by decide +kernel))) rfl
theorem tw_1247 : Cond.static yX12_isDay ∈ gwL := gw_in (tk_6 _ (List.mem_of_getElem? (i := 47) (by decide +kernel))) rfl
theorem tw_1248 : Cond.code yX12_isDay cX12_isDay 1 (some .boolean) ∈ gwL := gw_in (tk_6 _ (List.mem_of_getElem? (i := 48) (by decide +kernel))) rfl
theorem tw_1249 : Cond.methodLink RL 93 yX12_span ∈ gwL := gw_in (tk_6 _ (List.mem_of_getElem? (i := 49) (by decide +kernel))) rfl
theorem tw_1250 : Cond.instanceMethod yX12_span ∈ gwL := gw_in (tk_6 _ (List.mem_of_getElem? (i := 50) (by decide +kernel))) rfl
theorem tw_1251 : Cond.selects RX12 yX12_span yX12_span ∈ gwL := gw_in (tk_6 _ (List.mem_of_getElem? (i := 51) (by decide +kernel))) rfl
theorem tw_1252 : Cond.code yX12_span cX12_span 8 (some .int) ∈ gwL := gw_in (tk_6 _ (List.mem_of_getElem? (i := 52) (by decide +kernel))) rfl
theorem tw_1253 : Cond.methodLink RL 97 yX12_contract ∈ gwL := gw_in (tk_6 _ (List.mem_of_getElem? (i := 53) (by decide +kernel))) rfl
theorem tw_1254 : Cond.instanceMethod yX12_contract ∈ gwL := gw_in (tk_6 _ (List.mem_of_getElem? (i := 54) (by decide +kernel))) rfl
theorem tw_1255 : Cond.selects RX12 yX12_contract yX12_contract ∈ gwL := gw_in (tk_6 _ (List.mem_of_getElem? (i := 55) (by decide +kernel))) rfl
theorem tw_1256 : Cond.code yX12_contract cX12_contract 4 (some .int) ∈ gwL := gw_in (tk_6 _ (List.mem_of_getElem? (i := 56) (by decide +kernel))) rfl
theorem tw_1257 : Cond.methodLink RX12 191 yX12_isFirm ∈ gwL := gw_in (tk_6 _ (List.mem_of_getElem? (i := 57) (by decide +kernel))) rfl
theorem tw_1258 : Cond.static yX12_isFirm ∈ gwL := gw_in (tk_6 _ (List.mem_of_getElem? (i := 58) (by decide +kernel))) rfl
theorem tw_1259 : Cond.code yX12_isFirm cX12_isFirm 1 (some .boolean) ∈ gwL := gw_in (tk_6 _ (List.mem_of_getElem? (i := 59) (by decide +kernel))) rfl
theorem tw_1260 : Cond.methodLink RL 102 yX12_chain ∈ gwL := gw_in (tk_6 _ (List.mem_of_getElem? (i := 60) (by decide +kernel))) rfl
theorem tw_1261 : Cond.instanceMethod yX12_chain ∈ gwL := gw_in (tk_6 _ (List.mem_of_getElem? (i := 61) (by decide +kernel))) rfl
theorem tw_1262 : Cond.selects RX12 yX12_chain yX12_chain ∈ gwL := gw_in (tk_6 _ (List.mem_of_getElem? (i := 62) (by decide +kernel))) rfl
theorem tw_1263 : Cond.code yX12_chain cX12_chain 5 (some .int) ∈ gwL := gw_in (tk_6 _ (List.mem_of_getElem? (i := 63) (by decide +kernel))) rfl
theorem tw_1264 : Cond.methodLink RX12 197 yX12_endOf ∈ gwL := gw_in (tk_6 _ (List.mem_of_getElem? (i := 64) (by decide +kernel))) rfl
theorem tw_1266 : Cond.instanceMethod yX12_endOf ∈ gwL := gw_in (tk_6 _ (List.mem_of_getElem? (i := 66) (by decide +kernel))) rfl
theorem tw_1267 : Cond.code yX12_endOf cX12_endOf 9 (some .int) ∈ gwL := gw_in (tk_6 _ (List.mem_of_getElem? (i := 67) (by decide +kernel))) rfl
theorem tw_1268 : Cond.methodLink RL 106 yX12_doubles ∈ gwL := gw_in (tk_6 _ (List.mem_of_getElem? (i := 68) (by decide +kernel))) rfl
theorem tw_1269 : Cond.instanceMethod yX12_doubles ∈ gwL := gw_in (tk_6 _ (List.mem_of_getElem? (i := 69) (by decide +kernel))) rfl
theorem tw_1270 : Cond.selects RX12 yX12_doubles yX12_doubles ∈ gwL := gw_in (tk_6 _ (List.mem_of_getElem? (i := 70) (by decide +kernel))) rfl
theorem tw_1271 : Cond.code yX12_doubles cX12_doubles 7 (some .int) ∈ gwL := gw_in (tk_6 _ (List.mem_of_getElem? (i := 71) (by decide +kernel))) rfl
theorem tw_1272 : Cond.methodLink RL 110 yX12_report ∈ gwL := gw_in (tk_6 _ (List.mem_of_getElem? (i := 72) (by decide +kernel))) rfl
theorem tw_1273 : Cond.instanceMethod yX12_report ∈ gwL := gw_in (tk_6 _ (List.mem_of_getElem? (i := 73) (by decide +kernel))) rfl
theorem tw_1274 : Cond.selects RX12 yX12_report yX12_report ∈ gwL := gw_in (tk_6 _ (List.mem_of_getElem? (i := 74) (by decide +kernel))) rfl
theorem tw_1275 : Cond.code yX12_report cX12_report 4 (some .int) ∈ gwL := gw_in (tk_6 _ (List.mem_of_getElem? (i := 75) (by decide +kernel))) rfl
theorem tw_1276 : Cond.methodLink RL 115 yX12_cannot ∈ gwL := gw_in (tk_6 _ (List.mem_of_getElem? (i := 76) (by decide +kernel))) rfl
theorem tw_1277 : Cond.instanceMethod yX12_cannot ∈ gwL := gw_in (tk_6 _ (List.mem_of_getElem? (i := 77) (by decide +kernel))) rfl
theorem tw_1278 : Cond.selects RX12 yX12_cannot yX12_cannot ∈ gwL := gw_in (tk_6 _ (List.mem_of_getElem? (i := 78) (by decide +kernel))) rfl
theorem tw_1279 : Cond.code yX12_cannot cX12_cannot 9 (some .int) ∈ gwL := gw_in (tk_6 _ (List.mem_of_getElem? (i := 79) (by decide +kernel))) rfl
theorem tw_1280 : Cond.methodLink RX12 200 yJ9_abs_0f7a4 ∈ gwL := gw_in (tk_6 _ (List.mem_of_getElem? (i := 80) (by decide +kernel))) rfl
theorem tw_1281 : Cond.methodLink RL 119 yX12_trusts ∈ gwL := gw_in (tk_6 _ (List.mem_of_getElem? (i := 81) (by decide +kernel))) rfl
theorem tw_1282 : Cond.instanceMethod yX12_trusts ∈ gwL := gw_in (tk_6 _ (List.mem_of_getElem? (i := 82) (by decide +kernel))) rfl
theorem tw_1283 : Cond.selects RX12 yX12_trusts yX12_trusts ∈ gwL := gw_in (tk_6 _ (List.mem_of_getElem? (i := 83) (by decide +kernel))) rfl
theorem tw_1284 : Cond.code yX12_trusts cX12_trusts 4 (some .int) ∈ gwL := gw_in (tk_6 _ (List.mem_of_getElem? (i := 84) (by decide +kernel))) rfl
theorem tw_1285 : Cond.methodLink RL 123 yX12_trust ∈ gwL := gw_in (tk_6 _ (List.mem_of_getElem? (i := 85) (by decide +kernel))) rfl
theorem tw_1286 : Cond.instanceMethod yX12_trust ∈ gwL := gw_in (tk_6 _ (List.mem_of_getElem? (i := 86) (by decide +kernel))) rfl
theorem tw_1287 : Cond.selects RX12 yX12_trust yX12_trust ∈ gwL := gw_in (tk_6 _ (List.mem_of_getElem? (i := 87) (by decide +kernel))) rfl
theorem tw_1288 : Cond.code yX12_trust cX12_trust 3 (some .int) ∈ gwL := gw_in (tk_6 _ (List.mem_of_getElem? (i := 88) (by decide +kernel))) rfl
theorem tw_1289 : Cond.methodLink RX12 203 yX12_trustOf ∈ gwL := gw_in (tk_6 _ (List.mem_of_getElem? (i := 89) (by decide +kernel))) rfl
theorem tw_1291 : Cond.instanceMethod yX12_trustOf ∈ gwL := gw_in (tk_6 _ (List.mem_of_getElem? (i := 91) (by decide +kernel))) rfl
theorem tw_1292 : Cond.code yX12_trustOf cX12_trustOf 3 (some .int) ∈ gwL := gw_in (tk_6 _ (List.mem_of_getElem? (i := 92) (by decide +kernel))) rfl
theorem tw_1293 : Cond.methodLink RL 127 yX12_owe ∈ gwL := gw_in (tk_6 _ (List.mem_of_getElem? (i := 93) (by decide +kernel))) rfl
theorem tw_1294 : Cond.instanceMethod yX12_owe ∈ gwL := gw_in (tk_6 _ (List.mem_of_getElem? (i := 94) (by decide +kernel))) rfl
theorem tw_1295 : Cond.selects RX12 yX12_owe yX12_owe ∈ gwL := gw_in (tk_6 _ (List.mem_of_getElem? (i := 95) (by decide +kernel))) rfl
theorem tw_1296 : Cond.code yX12_owe cX12_owe 5 (some .int) ∈ gwL := gw_in (tk_6 _ (List.mem_of_getElem? (i := 96) (by decide +kernel))) rfl
theorem tw_1297 : Cond.methodLink RL 131 yX12_net ∈ gwL := gw_in (tk_6 _ (List.mem_of_getElem? (i := 97) (by decide +kernel))) rfl
theorem tw_1298 : Cond.instanceMethod yX12_net ∈ gwL := gw_in (tk_6 _ (List.mem_of_getElem? (i := 98) (by decide +kernel))) rfl
theorem tw_1299 : Cond.selects RX12 yX12_net yX12_net ∈ gwL := gw_in (tk_6 _ (List.mem_of_getElem? (i := 99) (by decide +kernel))) rfl
theorem tw_1300 : Cond.code yX12_net cX12_net 2 (some .int) ∈ gwL := gw_in (tk_6 _ (List.mem_of_getElem? (i := 100) (by decide +kernel))) rfl
theorem tw_1301 : Cond.methodLink RX12 206 yX12_netOf ∈ gwL := gw_in (tk_6 _ (List.mem_of_getElem? (i := 101) (by decide +kernel))) rfl
theorem tw_1303 : Cond.instanceMethod yX12_netOf ∈ gwL := gw_in (tk_6 _ (List.mem_of_getElem? (i := 103) (by decide +kernel))) rfl
theorem tw_1304 : Cond.code yX12_netOf cX12_netOf 4 (some .int) ∈ gwL := gw_in (tk_6 _ (List.mem_of_getElem? (i := 104) (by decide +kernel))) rfl
theorem tw_1305 : Cond.methodLink RL 135 yX12_clearing ∈ gwL := gw_in (tk_6 _ (List.mem_of_getElem? (i := 105) (by decide +kernel))) rfl
theorem tw_1306 : Cond.instanceMethod yX12_clearing ∈ gwL := gw_in (tk_6 _ (List.mem_of_getElem? (i := 106) (by decide +kernel))) rfl
theorem tw_1307 : Cond.selects RX12 yX12_clearing yX12_clearing ∈ gwL := gw_in (tk_6 _ (List.mem_of_getElem? (i := 107) (by decide +kernel))) rfl
theorem tw_1308 : Cond.code yX12_clearing cX12_clearing 3 (some .int) ∈ gwL := gw_in (tk_6 _ (List.mem_of_getElem? (i := 108) (by decide +kernel))) rfl
theorem tw_1309 : Cond.methodLink RX12 210 yX12_findPayments ∈ gwL := gw_in (tk_6 _ (List.mem_of_getElem? (i := 109) (by decide +kernel))) rfl
theorem tw_1311 : Cond.instanceMethod yX12_findPayments ∈ gwL := gw_in (tk_6 _ (List.mem_of_getElem? (i := 111) (by decide +kernel))) rfl
theorem tw_1312 : Cond.code yX12_findPayments cX12_findPayments 6 (some .int) ∈ gwL := gw_in (tk_6 _ (List.mem_of_getElem? (i := 112) (by decide +kernel))) rfl
theorem tw_1313 : Cond.constant RX12 209 (100000) ∈ gwL := gw_in (tk_6 _ (List.mem_of_getElem? (i := 113) (by decide +kernel))) rfl
theorem tw_1314 : Cond.methodLink RL 139 yX12_clear ∈ gwL := gw_in (tk_6 _ (List.mem_of_getElem? (i := 114) (by decide +kernel))) rfl
theorem tw_1315 : Cond.instanceMethod yX12_clear ∈ gwL := gw_in (tk_6 _ (List.mem_of_getElem? (i := 115) (by decide +kernel))) rfl
theorem tw_1316 : Cond.selects RX12 yX12_clear yX12_clear ∈ gwL := gw_in (tk_6 _ (List.mem_of_getElem? (i := 116) (by decide +kernel))) rfl
theorem tw_1317 : Cond.code yX12_clear cX12_clear 3 (some .int) ∈ gwL := gw_in (tk_6 _ (List.mem_of_getElem? (i := 117) (by decide +kernel))) rfl
theorem tw_1318 : Cond.methodLink RL 143 yX12_text ∈ gwL := gw_in (tk_6 _ (List.mem_of_getElem? (i := 118) (by decide +kernel))) rfl
theorem tw_1319 : Cond.instanceMethod yX12_text ∈ gwL := gw_in (tk_6 _ (List.mem_of_getElem? (i := 119) (by decide +kernel))) rfl
theorem tw_1320 : Cond.selects RX12 yX12_text yX12_text ∈ gwL := gw_in (tk_6 _ (List.mem_of_getElem? (i := 120) (by decide +kernel))) rfl
theorem tw_1321 : Cond.code yX12_text cX12_text 3 (some .int) ∈ gwL := gw_in (tk_6 _ (List.mem_of_getElem? (i := 121) (by decide +kernel))) rfl
theorem tw_1322 : Cond.methodLink RX12 213 yX12_isSign ∈ gwL := gw_in (tk_6 _ (List.mem_of_getElem? (i := 122) (by decide +kernel))) rfl
theorem tw_1323 : Cond.static yX12_isSign ∈ gwL := gw_in (tk_6 _ (List.mem_of_getElem? (i := 123) (by decide +kernel))) rfl
theorem tw_1324 : Cond.code yX12_isSign cX12_isSign 1 (some .boolean) ∈ gwL := gw_in (tk_6 _ (List.mem_of_getElem? (i := 124) (by decide +kernel))) rfl
theorem tw_1325 : Cond.methodLink RL 147 yX12_wrong ∈ gwL := gw_in (tk_6 _ (List.mem_of_getElem? (i := 125) (by decide +kernel))) rfl
theorem tw_1326 : Cond.instanceMethod yX12_wrong ∈ gwL := gw_in (tk_6 _ (List.mem_of_getElem? (i := 126) (by decide +kernel))) rfl
theorem tw_1327 : Cond.selects RX12 yX12_wrong yX12_wrong ∈ gwL := gw_in (tk_6 _ (List.mem_of_getElem? (i := 127) (by decide +kernel))) rfl
theorem tw_1328 : Cond.code yX12_wrong cX12_wrong 1 (some .int) ∈ gwL := gw_in (tk_6 _ (List.mem_of_getElem? (i := 128) (by decide +kernel))) rfl
theorem tw_1329 : Cond.methodLink RX12 216 yX12_wrongAt ∈ gwL := gw_in (tk_6 _ (List.mem_of_getElem? (i := 129) (by decide +kernel))) rfl
theorem tw_1331 : Cond.instanceMethod yX12_wrongAt ∈ gwL := gw_in (tk_6 _ (List.mem_of_getElem? (i := 131) (by decide +kernel))) rfl
theorem tw_1332 : Cond.code yX12_wrongAt cX12_wrongAt 4 (some .int) ∈ gwL := gw_in (tk_6 _ (List.mem_of_getElem? (i := 132) (by decide +kernel))) rfl
theorem tw_1333 : Cond.methodLink RL 151 yX12_claim ∈ gwL := gw_in (tk_6 _ (List.mem_of_getElem? (i := 133) (by decide +kernel))) rfl
theorem tw_1334 : Cond.instanceMethod yX12_claim ∈ gwL := gw_in (tk_6 _ (List.mem_of_getElem? (i := 134) (by decide +kernel))) rfl
theorem tw_1335 : Cond.selects RX12 yX12_claim yX12_claim ∈ gwL := gw_in (tk_6 _ (List.mem_of_getElem? (i := 135) (by decide +kernel))) rfl
theorem tw_1336 : Cond.code yX12_claim cX12_claim 7 (some .int) ∈ gwL := gw_in (tk_6 _ (List.mem_of_getElem? (i := 136) (by decide +kernel))) rfl
theorem tw_1337 : Cond.constant RX12 222 (-100008) ∈ gwL := gw_in (tk_6 _ (List.mem_of_getElem? (i := 137) (by decide +kernel))) rfl
theorem tw_1338 : Cond.methodLink RX12 223 yX12_readBy ∈ gwL := gw_in (tk_6 _ (List.mem_of_getElem? (i := 138) (by decide +kernel))) rfl
theorem tw_1340 : Cond.instanceMethod yX12_readBy ∈ gwL := gw_in (tk_6 _ (List.mem_of_getElem? (i := 140) (by decide +kernel))) rfl
theorem tw_1341 : Cond.code yX12_readBy cX12_readBy 5 (some .int) ∈ gwL := gw_in (tk_6 _ (List.mem_of_getElem? (i := 141) (by decide +kernel))) rfl
theorem tw_1342 : Cond.methodLink RX12 219 yX12_contractsOf ∈ gwL := gw_in (tk_6 _ (List.mem_of_getElem? (i := 142) (by decide +kernel))) rfl
theorem tw_1344 : Cond.instanceMethod yX12_contractsOf ∈ gwL := gw_in (tk_6 _ (List.mem_of_getElem? (i := 144) (by decide +kernel))) rfl
theorem tw_1345 : Cond.code yX12_contractsOf cX12_contractsOf 4 (some .int) ∈ gwL := gw_in (tk_6 _ (List.mem_of_getElem? (i := 145) (by decide +kernel))) rfl
theorem tw_1346 : Cond.methodLink RX12 227 yX12_joined ∈ gwL := gw_in (tk_6 _ (List.mem_of_getElem? (i := 146) (by decide +kernel))) rfl
theorem tw_1347 : Cond.static yX12_joined ∈ gwL := gw_in (tk_6 _ (List.mem_of_getElem? (i := 147) (by decide +kernel))) rfl
theorem tw_1348 : Cond.code yX12_joined cX12_joined 3 (some .int) ∈ gwL := gw_in (tk_6 _ (List.mem_of_getElem? (i := 148) (by decide +kernel))) rfl
theorem tw_1349 : Cond.constant RX12 230 (-99999) ∈ gwL := gw_in (tk_6 _ (List.mem_of_getElem? (i := 149) (by decide +kernel))) rfl
theorem tw_1350 : Cond.methodLink RL 159 yX12_sheet ∈ gwL := gw_in (tk_6 _ (List.mem_of_getElem? (i := 150) (by decide +kernel))) rfl
theorem tw_1351 : Cond.instanceMethod yX12_sheet ∈ gwL := gw_in (tk_6 _ (List.mem_of_getElem? (i := 151) (by decide +kernel))) rfl
theorem tw_1352 : Cond.selects RX12 yX12_sheet yX12_sheet ∈ gwL := gw_in (tk_6 _ (List.mem_of_getElem? (i := 152) (by decide +kernel))) rfl
theorem tw_1353 : Cond.code yX12_sheet cX12_sheet 5 (some .int) ∈ gwL := gw_in (tk_6 _ (List.mem_of_getElem? (i := 153) (by decide +kernel))) rfl
theorem tw_1354 : Cond.methodLink RL 163 yX12_put ∈ gwL := gw_in (tk_6 _ (List.mem_of_getElem? (i := 154) (by decide +kernel))) rfl
theorem tw_1355 : Cond.instanceMethod yX12_put ∈ gwL := gw_in (tk_6 _ (List.mem_of_getElem? (i := 155) (by decide +kernel))) rfl
theorem tw_1356 : Cond.selects RX12 yX12_put yX12_put ∈ gwL := gw_in (tk_6 _ (List.mem_of_getElem? (i := 156) (by decide +kernel))) rfl
theorem tw_1357 : Cond.code yX12_put cX12_put 5 (some .int) ∈ gwL := gw_in (tk_6 _ (List.mem_of_getElem? (i := 157) (by decide +kernel))) rfl
theorem tw_1358 : Cond.methodLink RL 167 yX12_copy ∈ gwL := gw_in (tk_6 _ (List.mem_of_getElem? (i := 158) (by decide +kernel))) rfl
theorem tw_1359 : Cond.instanceMethod yX12_copy ∈ gwL := gw_in (tk_6 _ (List.mem_of_getElem? (i := 159) (by decide +kernel))) rfl
theorem tw_1360 : Cond.selects RX12 yX12_copy yX12_copy ∈ gwL := gw_in (tk_6 _ (List.mem_of_getElem? (i := 160) (by decide +kernel))) rfl
theorem tw_1361 : Cond.code yX12_copy cX12_copy 7 (some .int) ∈ gwL := gw_in (tk_6 _ (List.mem_of_getElem? (i := 161) (by decide +kernel))) rfl
theorem tw_1362 : Cond.methodLink RL 175 yX12_all ∈ gwL := gw_in (tk_6 _ (List.mem_of_getElem? (i := 162) (by decide +kernel))) rfl
theorem tw_1363 : Cond.instanceMethod yX12_all ∈ gwL := gw_in (tk_6 _ (List.mem_of_getElem? (i := 163) (by decide +kernel))) rfl
theorem tw_1364 : Cond.selects RX12 yX12_all yX12_all ∈ gwL := gw_in (tk_6 _ (List.mem_of_getElem? (i := 164) (by decide +kernel))) rfl
theorem tw_1365 : Cond.code yX12_all cX12_all 2 (some .int) ∈ gwL := gw_in (tk_6 _ (List.mem_of_getElem? (i := 165) (by decide +kernel))) rfl
theorem ts_0 : Cond.selects RX11 yX11_told yX11_told ∈ gwL := gw_in (List.mem_append_left _ (List.mem_of_getElem? (i := 0) (by decide +kernel))) rfl
theorem ts_1 : Cond.selects RX10 yX10_shortenBy yX10_shortenBy ∈ gwL := gw_in (List.mem_append_left _ (List.mem_of_getElem? (i := 1) (by decide +kernel))) rfl
theorem ts_2 : Cond.selects RX8 yX8_isCell yX8_isCell ∈ gwL := gw_in (List.mem_append_left _ (List.mem_of_getElem? (i := 2) (by decide +kernel))) rfl
theorem ts_3 : Cond.selects RX11 yX11_givenTo yX11_givenTo ∈ gwL := gw_in (List.mem_append_left _ (List.mem_of_getElem? (i := 3) (by decide +kernel))) rfl
theorem ts_4 : Cond.selects RX11 yX11_findingOfRow yX11_findingOfRow ∈ gwL := gw_in (List.mem_append_left _ (List.mem_of_getElem? (i := 4) (by decide +kernel))) rfl
theorem ts_5 : Cond.selects RX11 yX11_isLoadOrNone yX11_isLoadOrNone ∈ gwL := gw_in (List.mem_append_left _ (List.mem_of_getElem? (i := 5) (by decide +kernel))) rfl
theorem ts_6 : Cond.selects RX0 yX0_carry yX0_carry ∈ gwL := gw_in (List.mem_append_left _ (List.mem_of_getElem? (i := 6) (by decide +kernel))) rfl
theorem ts_7 : Cond.selects RX0 yX0_go yX0_go ∈ gwL := gw_in (List.mem_append_left _ (List.mem_of_getElem? (i := 7) (by decide +kernel))) rfl
theorem ts_8 : Cond.selects RX0 yX0_roll yX0_roll ∈ gwL := gw_in (List.mem_append_left _ (List.mem_of_getElem? (i := 8) (by decide +kernel))) rfl
theorem ts_9 : Cond.selects RX0 yX0_dock yX0_dock ∈ gwL := gw_in (List.mem_append_left _ (List.mem_of_getElem? (i := 9) (by decide +kernel))) rfl
theorem ts_10 : Cond.selects RX2 yX2_gatherRows yX2_gatherRows ∈ gwL := gw_in (List.mem_append_left _ (List.mem_of_getElem? (i := 10) (by decide +kernel))) rfl
theorem ts_11 : Cond.selects RX2 yX2_fitting yX2_fitting ∈ gwL := gw_in (List.mem_append_left _ (List.mem_of_getElem? (i := 11) (by decide +kernel))) rfl
theorem ts_12 : Cond.selects RX2 yX2_addRow yX2_addRow ∈ gwL := gw_in (List.mem_append_left _ (List.mem_of_getElem? (i := 12) (by decide +kernel))) rfl
theorem ts_13 : Cond.selects RX2 yX2_choose yX2_choose ∈ gwL := gw_in (List.mem_append_left _ (List.mem_of_getElem? (i := 13) (by decide +kernel))) rfl
theorem ts_14 : Cond.selects RX2 yX2_handOut yX2_handOut ∈ gwL := gw_in (List.mem_append_left _ (List.mem_of_getElem? (i := 14) (by decide +kernel))) rfl
theorem ts_15 : Cond.selects RX5 yX5_gather yX5_gather ∈ gwL := gw_in (List.mem_append_left _ (List.mem_of_getElem? (i := 15) (by decide +kernel))) rfl
theorem ts_16 : Cond.selects RX5 yX5_insert yX5_insert ∈ gwL := gw_in (List.mem_append_left _ (List.mem_of_getElem? (i := 16) (by decide +kernel))) rfl
theorem ts_17 : Cond.selects RX1 yX1_firstUnused yX1_firstUnused ∈ gwL := gw_in (List.mem_append_left _ (List.mem_of_getElem? (i := 17) (by decide +kernel))) rfl
theorem ts_18 : Cond.selects RX6 yX6_cannotBe yX6_cannotBe ∈ gwL := gw_in (List.mem_append_left _ (List.mem_of_getElem? (i := 18) (by decide +kernel))) rfl
theorem ts_19 : Cond.selects RX1 yX1_judgedOf yX1_judgedOf ∈ gwL := gw_in (List.mem_append_left _ (List.mem_of_getElem? (i := 19) (by decide +kernel))) rfl
theorem ts_20 : Cond.selects RX1 yX1_doneOf yX1_doneOf ∈ gwL := gw_in (List.mem_append_left _ (List.mem_of_getElem? (i := 20) (by decide +kernel))) rfl
theorem ts_21 : Cond.selects RX4 yX4_settleOne yX4_settleOne ∈ gwL := gw_in (List.mem_append_left _ (List.mem_of_getElem? (i := 21) (by decide +kernel))) rfl
theorem ts_22 : Cond.selects RX9 yX9_count yX9_count ∈ gwL := gw_in (List.mem_append_left _ (List.mem_of_getElem? (i := 22) (by decide +kernel))) rfl
theorem ts_23 : Cond.selects RX9 yX9_single yX9_single ∈ gwL := gw_in (List.mem_append_left _ (List.mem_of_getElem? (i := 23) (by decide +kernel))) rfl
theorem ts_24 : Cond.selects RX12 yX12_finding yX12_finding ∈ gwL := gw_in (List.mem_append_left _ (List.mem_of_getElem? (i := 24) (by decide +kernel))) rfl
theorem ts_25 : Cond.selects RX12 yX12_keep yX12_keep ∈ gwL := gw_in (List.mem_append_left _ (List.mem_of_getElem? (i := 25) (by decide +kernel))) rfl
theorem ts_26 : Cond.selects RX12 yX12_findFar yX12_findFar ∈ gwL := gw_in (List.mem_append_left _ (List.mem_of_getElem? (i := 26) (by decide +kernel))) rfl
theorem ts_27 : Cond.selects RX12 yX12_isApart yX12_isApart ∈ gwL := gw_in (List.mem_append_left _ (List.mem_of_getElem? (i := 27) (by decide +kernel))) rfl
theorem ts_28 : Cond.selects RX12 yX12_isLorry yX12_isLorry ∈ gwL := gw_in (List.mem_append_left _ (List.mem_of_getElem? (i := 28) (by decide +kernel))) rfl
theorem ts_29 : Cond.selects RX12 yX12_isLoad yX12_isLoad ∈ gwL := gw_in (List.mem_append_left _ (List.mem_of_getElem? (i := 29) (by decide +kernel))) rfl
theorem ts_30 : Cond.selects RX12 yX12_fits yX12_fits ∈ gwL := gw_in (List.mem_append_left _ (List.mem_of_getElem? (i := 30) (by decide +kernel))) rfl
theorem ts_31 : Cond.selects RX12 yX12_refused yX12_refused ∈ gwL := gw_in (List.mem_append_left _ (List.mem_of_getElem? (i := 31) (by decide +kernel))) rfl
theorem ts_32 : Cond.selects RX12 yX12_drives yX12_drives ∈ gwL := gw_in (List.mem_append_left _ (List.mem_of_getElem? (i := 32) (by decide +kernel))) rfl
theorem ts_33 : Cond.selects RX12 yX12_carries yX12_carries ∈ gwL := gw_in (List.mem_append_left _ (List.mem_of_getElem? (i := 33) (by decide +kernel))) rfl
theorem ts_34 : Cond.selects RX12 yX12_goes yX12_goes ∈ gwL := gw_in (List.mem_append_left _ (List.mem_of_getElem? (i := 34) (by decide +kernel))) rfl
theorem ts_35 : Cond.selects RX12 yX12_docks yX12_docks ∈ gwL := gw_in (List.mem_append_left _ (List.mem_of_getElem? (i := 35) (by decide +kernel))) rfl
theorem ts_36 : Cond.selects RX12 yX12_valueOf yX12_valueOf ∈ gwL := gw_in (List.mem_append_left _ (List.mem_of_getElem? (i := 36) (by decide +kernel))) rfl
theorem ts_37 : Cond.selects RX12 yX12_payOf yX12_payOf ∈ gwL := gw_in (List.mem_append_left _ (List.mem_of_getElem? (i := 37) (by decide +kernel))) rfl
theorem ts_38 : Cond.selects RX12 yX12_findRows yX12_findRows ∈ gwL := gw_in (List.mem_append_left _ (List.mem_of_getElem? (i := 38) (by decide +kernel))) rfl
theorem ts_39 : Cond.selects RX12 yX12_given yX12_given ∈ gwL := gw_in (List.mem_append_left _ (List.mem_of_getElem? (i := 39) (by decide +kernel))) rfl
theorem ts_40 : Cond.selects RX12 yX12_findGiving yX12_findGiving ∈ gwL := gw_in (List.mem_append_left _ (List.mem_of_getElem? (i := 40) (by decide +kernel))) rfl
theorem ts_41 : Cond.selects RX12 yX12_with yX12_with ∈ gwL := gw_in (List.mem_append_left _ (List.mem_of_getElem? (i := 41) (by decide +kernel))) rfl
theorem ts_42 : Cond.selects RX12 yX12_isOpen yX12_isOpen ∈ gwL := gw_in (List.mem_append_left _ (List.mem_of_getElem? (i := 42) (by decide +kernel))) rfl
theorem ts_43 : Cond.selects RX12 yX12_endOf yX12_endOf ∈ gwL := gw_in (List.mem_append_left _ (List.mem_of_getElem? (i := 43) (by decide +kernel))) rfl
theorem ts_44 : Cond.selects RX12 yX12_trustOf yX12_trustOf ∈ gwL := gw_in (List.mem_append_left _ (List.mem_of_getElem? (i := 44) (by decide +kernel))) rfl
theorem ts_45 : Cond.selects RX12 yX12_netOf yX12_netOf ∈ gwL := gw_in (List.mem_append_left _ (List.mem_of_getElem? (i := 45) (by decide +kernel))) rfl
theorem ts_46 : Cond.selects RX12 yX12_findPayments yX12_findPayments ∈ gwL := gw_in (List.mem_append_left _ (List.mem_of_getElem? (i := 46) (by decide +kernel))) rfl
theorem ts_47 : Cond.selects RX12 yX12_wrongAt yX12_wrongAt ∈ gwL := gw_in (List.mem_append_left _ (List.mem_of_getElem? (i := 47) (by decide +kernel))) rfl
theorem ts_48 : Cond.selects RX12 yX12_readBy yX12_readBy ∈ gwL := gw_in (List.mem_append_left _ (List.mem_of_getElem? (i := 48) (by decide +kernel))) rfl
theorem ts_49 : Cond.selects RX12 yX12_contractsOf yX12_contractsOf ∈ gwL := gw_in (List.mem_append_left _ (List.mem_of_getElem? (i := 49) (by decide +kernel))) rfl
theorem gw_goodIn : GoodIn lw_tbl gwL := fun w h => ⟨(List.mem_filter.mp h).1, good_of_word (List.mem_filter.mp h).2⟩
theorem gw_goodIn2 : GoodIn gwL gwL := fun w h => ⟨h, good_of_word (List.mem_filter.mp h).2⟩
def nwL : List Cond := [Cond.methodLinkNest RX11 9 yX3_init RX11, Cond.methodLinkNest RX11 98 yX7_init RX11, Cond.methodLinkNest RX10 26 yX11_isTown RX11, Cond.methodLinkNest RX1 57 yX11_isFirm RX11, Cond.methodLinkNest RX4 25 yX11_isFirm RX11, Cond.methodLinkNest RX4 30 yX11_within RX11, Cond.methodLinkNest RX9 47 yX11_within RX11]
theorem nw_in : ∀ w ∈ nwL, w ∈ lw_tbl := by
  intro w h
  simp only [nwL, List.mem_cons, List.not_mem_nil, or_false] at h
  rcases h with rfl | rfl | rfl | rfl | rfl | rfl | rfl
  · exact tw_28
  · exact tw_288
  · exact tw_362
  · exact tw_751
  · exact tw_783
  · exact tw_785
  · exact tw_856
end
section
/-! WORLDS. Everything that this program makes lies in one world: the cell of number i stands at address z + i, where z is the heap's size at the law's start. -/
abbrev Wd : Type := Nat × (Nat → Nat) × (Nat → Nat → Int32) × (Nat → Nat → Option Nat)
def wn (S : Wd) : Nat := S.1
def wl (S : Wd) : Nat → Nat := S.2.1
def wI (S : Wd) : Nat → Nat → Int32 := S.2.2.1
def wO (S : Wd) : Nat → Nat → Option Nat := S.2.2.2
/-- an int of cell i, place k -/
def sI (S : Wd) (i k : Nat) (v : Int32) : Wd := (S.1, S.2.1, (fun a => if a = i then (fun b => if b = k then v else S.2.2.1 a b) else S.2.2.1 a), S.2.2.2)
/-- a reference of cell i, place k -/
def sO (S : Wd) (i k : Nat) (v : Option Nat) : Wd := (S.1, S.2.1, S.2.2.1, (fun a => if a = i then (fun b => if b = k then v else S.2.2.2 a b) else S.2.2.2 a))
/-- all ints of cell i -/
def sA (S : Wd) (i : Nat) (f : Nat → Int32) : Wd := (S.1, S.2.1, (fun a => if a = i then f else S.2.2.1 a), S.2.2.2)
/-- a new cell -/
def sN (S : Wd) (len : Nat) : Wd := (S.1 + 1, (fun a => if a = S.1 then len else S.2.1 a), (fun a => if a = S.1 then (fun _ => 0) else S.2.2.1 a), (fun a => if a = S.1 then (fun _ => none) else S.2.2.2 a))
def kL : List (Nat × Nat) := [(11, 0), (3, 0), (103, 16), (103, 16), (100, 16), (10, 0), (100, 64), (100, 64), (8, 0), (100, 43), (8, 0), (100, 89), (0, 0), (2, 0), (100, 1792), (100, 1536), (100, 6), (100, 65), (100, 65), (100, 65), (5, 0), (100, 40), (8, 0), (100, 121), (1, 0), (100, 20), (8, 0), (100, 61), (6, 0), (8, 0), (100, 91), (4, 0), (100, 100), (100, 10), (100, 10), (9, 0), (100, 15), (100, 7), (100, 5), (102, 4), (7, 0), (100, 20), (7, 0), (100, 20), (7, 0), (100, 20), (7, 0), (100, 20), (12, 0), (100, 424), (100, 6784), (100, 4), (100, 4), (100, 80), (100, 64), (101, 486), (100, 486), (100, 486), (100, 1792), (100, 6), (100, 40), (100, 10), (100, 10), (100, 5), (100, 20)]
/-- the kind of cell i: the number of its class, or 100 int[], 101 boolean[], 102 Sheet[], 103 int[][]; the length of those that are made at the start -/
def kT (i : Nat) : Nat × Nat := kL.getD i (100, 0)
def wlen (S : Wd) (i : Nat) : Nat := if i < 65 then (kT i).2 else wl S i
def nfL : List Nat := [12, 5, 13, 6, 5, 2, 4, 3, 4, 4, 4, 13, 26]
def nfT (c : Nat) : Nat := nfL.getD c 0
/-- which fields hold references -/
def rfL : List (List Nat) := [[0, 1, 2], [0, 1, 2], [0, 1, 2, 3, 4, 5, 6, 7, 8, 9], [0, 1, 2], [0, 1, 2, 3], [0, 1], [0, 1], [0], [0, 3], [0, 1, 2, 3], [0, 1, 2], [0, 1, 2, 3, 4, 5, 6, 7, 8, 9, 10, 11], [0, 1, 4, 5, 6, 7, 15, 16, 17, 18, 19, 20, 22, 23, 24, 25]]
def isR (c k : Nat) : Bool := (rfL.getD c []).contains k
def fv (z : Nat) (S : Wd) (i k : Nat) : Value := if isR (kT i).1 k = true then va_rf ((wO S i k).map (z + ·)) else .int (wI S i k)
def cv (z : Nat) : Value → Value
  | .ref i => .ref (z + i)
  | v => v
theorem cv_cat (z : Nat) (v : Value) : (cv z v).category = v.category := by cases v <;> rfl
/-- what stands at cell i -/
def cAt (D : va_G) (cA : Nat → ClassId) (z : Nat) (S : Wd) (i : Nat) (H : Heap) : Prop :=
  ((kT i).1 < 100 → t_OB (z + i) (D.1 (kT i).1) (nfT (kT i).1) (D.2 (kT i).1) H (fv z S i)) ∧
  ((kT i).1 = 100 → H[z + i]? = some (arrV (cA 0) (wlen S i) (fun j => .int (wI S i j)))) ∧
  ((kT i).1 = 101 → H[z + i]? = some (arrV (cA 1) (wlen S i) (fun j => .int (wI S i j)))) ∧
  ((kT i).1 = 102 → H[z + i]? = some (arrV (cA 2) (wlen S i) (fun j => va_rf ((wO S i j).map (z + ·))))) ∧
  ((kT i).1 = 103 → H[z + i]? = some (arrV (cA 3) (wlen S i) (fun j => va_rf ((wO S i j).map (z + ·)))))
def HO (D : va_G) (cA : Nat → ClassId) (z : Nat) (S : Wd) (H : Heap) : Prop := H.size = z + wn S ∧ ∀ i, i < wn S → cAt D cA z S i H
theorem cAt.to {D : va_G} {cA : Nat → ClassId} {z : Nat} {S S' : Wd} {i : Nat} {H H' : Heap} (h : cAt D cA z S i H) (hq : H'[z + i]? = H[z + i]?) (hI : wI S' i = wI S i) (hO : wO S' i = wO S i) (hl : wlen S' i = wlen S i) : cAt D cA z S' i H' := by
  obtain ⟨h1, h2, h3, h4, h5⟩ := h
  have hfv : fv z S' i = fv z S i := by funext k; simp only [fv, hI, hO]
  refine ⟨fun q => ?_, fun q => ?_, fun q => ?_, fun q => ?_, fun q => ?_⟩
  · rw [hfv]; exact (h1 q).kept hq
  · rw [hq, h2 q, hI, hl]
  · rw [hq, h3 q, hI, hl]
  · rw [hq, h4 q, hO, hl]
  · rw [hq, h5 q, hO, hl]
theorem HO.upd {D : va_G} {cA : Nat → ClassId} {z : Nat} {S S' : Wd} {a : Nat} {H H' : Heap} (h : HO D cA z S H) (hsz : H'.size = H.size) (ho : ∀ q, q ≠ z + a → H'[q]? = H[q]?) (hn : wn S' = wn S) (hl : wl S' = wl S) (hI : ∀ i, i ≠ a → wI S' i = wI S i) (hO : ∀ i, i ≠ a → wO S' i = wO S i) (ha : cAt D cA z S' a H') : HO D cA z S' H' := by
  refine ⟨by rw [hsz, hn]; exact h.1, fun i hi => ?_⟩
  rw [hn] at hi
  by_cases hia : i = a
  · subst hia; exact ha
  · exact (h.2 i hi).to (ho _ (by omega)) (hI i hia) (hO i hia) (by unfold wlen; rw [hl])
theorem HO.new {D : va_G} {cA : Nat → ClassId} {z : Nat} {S : Wd} {len : Nat} {H H' : Heap} (h : HO D cA z S H) (hsz : H'.size = H.size + 1) (ho : ∀ q, q < H.size → H'[q]? = H[q]?) (ha : cAt D cA z (sN S len) (wn S) H') : HO D cA z (sN S len) H' := by
  have hs1 := h.1
  refine ⟨by rw [hsz, hs1]; rfl, fun i hi => ?_⟩
  by_cases hia : i = wn S
  · subst hia; exact ha
  · have hi' : i < wn S := by
      have : i < wn S + 1 := hi
      omega
    have hne : i ≠ S.1 := hia
    refine (h.2 i hi').to (ho _ (by omega)) ?_ ?_ ?_
    · show (if i = S.1 then _ else _) = _
      rw [if_neg hne]; rfl
    · show (if i = S.1 then _ else _) = _
      rw [if_neg hne]; rfl
    · unfold wlen
      by_cases h65 : i < 65
      · rw [if_pos h65, if_pos h65]
      · rw [if_neg h65, if_neg h65]
        show (if i = S.1 then _ else _) = _
        rw [if_neg hne]; rfl
def tyL (cA : Nat → ClassId) : List (ClassId × FieldType) := [(cA 0, .int), (cA 1, .boolean), (cA 2, .object "LoadBourse$Sheet"), (cA 3, .array .int)]
/-- words that a call doesn't carry by itself -/
def Ex (U : State) : Prop := (∀ w ∈ nwL, va_Nw w U) ∧ va_Nw (.castable "[I" "java/lang/Cloneable") U ∧ va_AO "LoadBourse$Sheet" U ∧ (Cond.arrayOver (.array .int)).before #[] U = true
theorem Ex.warm {s U : State} (hW : s.WarmedH U.vm) (h : Ex s) : Ex U := by
  obtain ⟨h1, h2, h3, h4⟩ := h
  refine ⟨fun w hw => ?_, va_Nw.warmC hW h2, va_AO.moved hW.alike h3, over_moved hW.alike h4⟩
  have hw1 := h1 w hw
  simp only [nwL, List.mem_cons, List.not_mem_nil, or_false] at hw
  rcases hw with rfl | rfl | rfl | rfl | rfl | rfl | rfl <;> exact va_Nw.warmM hW hw1
theorem Ex.same {s U : State} (h : s.vm = U.vm) (hE : Ex s) : Ex U := by
  obtain ⟨h1, h2, h3, h4⟩ := hE
  refine ⟨fun w hw => ?_, va_Nw.same rfl h h2, va_AO.moved (by rw [h]; exact Vm.Alike.refl _) h3, over_moved (by rw [h]; exact Vm.Alike.refl _) h4⟩
  have hw1 := h1 w hw
  simp only [nwL, List.mem_cons, List.not_mem_nil, or_false] at hw
  rcases hw with rfl | rfl | rfl | rfl | rfl | rfl | rfl <;> exact va_Nw.same rfl h hw1
def KK (D : va_G) (cA : Nat → ClassId) (U : State) : Prop := va_K D clL (tyL cA) U ∧ Ex U
theorem KK.warm {D : va_G} {cA : Nat → ClassId} {s U : State} (hW : s.WarmedH U.vm) (h : KK D cA s) : KK D cA U := ⟨va_K.moved hW.alike h.1, h.2.warm hW⟩
/-- a frame's surroundings -/
abbrev Bd : Type := Program × Launch × Env × Room × State × MethodId × Array Value × List Frame × Method × Code × va_G × (Nat → ClassId) × Nat × Nat × (State → Prop)
/-- from place pc, with the locals L, the stack st and the world S, kc cells of ks slots made so far, the frame comes to its end -/
def G : Bd → Nat → List (Nat × Value) → List Value → Wd → Nat → Nat → Prop
  | (p, l, e, R, s, m, args, below, meth, c, D, cA, z, nL, Q), pc, L, st, S, kc, ks =>
    ∀ (H : Heap) (locs : List Loc) (ls : Array Slot), HO D cA z S H → va_S (fun q => z ≤ q) s.heap H locs → lv_has ls nL (L.map fun q => (q.1, cv z q.2)) → W p l e R s m args below meth c H locs kc ks Q (F0 m pc ls (st.map (cv z)))
/-- what is known of them -/
def CX : Bd → String → ByteArray → Nat → Room → Prop
  | (p, _l, _e, R, s, m, args, _below, _meth, c, D, cA, z, nL, _Q), own, cc, n, rm =>
    p.tables.exec = Jvm.exec ∧ c.code = cc ∧ c.maxLocals = nL ∧ s.vm.findClass own = some m.cls ∧ (∀ w ∈ gwL, w.before args s = true) ∧ KK D cA s ∧ z ≤ s.heap.size ∧ nL = n ∧ R = rm
def QP (D : va_G) (cA : Nat → ClassId) (z : Nat) (rv : Option Value) (S' : Wd) : Array Value → State → Outcome → State → Prop := fun _ st oc t =>
  oc = .returned (rv.map (cv z)) ∧ HO D cA z S' t.heap ∧ va_F (fun q => z ≤ q) st t
def RT : Bd → Option FieldType → Option Value → Wd → Nat → Nat → Prop
  | (_p, _l, _e, _R, s, _m, args, below, meth, _c, D, cA, z, _nL, Q), ret, rv, S', mc, ms =>
    meth.sig.returnType = ret ∧ meth.locks = false ∧ Q = MQ below (QP D cA z rv S') args s mc ms (fun q => z ≤ q)
def PC (D : va_G) (cA : Nat → ClassId) (z : Nat) (av : List Value) (S : Wd) : Array Value → State → Prop := va_Pc (av.map (cv z)) (fun U => HO D cA z S U.heap ∧ KK D cA U)
/-- the contract of a method: called with av in the world S it returns rv, and the world is S' -/
def Sp (y : MethodName) (cc : ByteArray) (n : Nat) (ret : Option FieldType) (fr lo mc ms : Nat) (av : List Value) (S : Wd) (rv : Option Value) (S' : Wd) : Prop :=
  ∀ (l : Launch) (D : va_G) (cA : Nat → ClassId) (z : Nat), Met l y (.code y cc n ret :: gwL) { frames := fr, cells := mc, slots := ms, locals := lo } (PC D cA z av S) (QP D cA z rv S') mc ms (fun q => z ≤ q)
theorem PC.blind {D : va_G} {cA : Nat → ClassId} {z : Nat} {av : List Value} {S : Wd} : FrameBlind (PC D cA z av S) := by
  intro a U g mk h
  obtain ⟨h1, h2, h3, h4⟩ := h
  exact ⟨h1, h2, va_K.moved (u := U) (U := U.calling g mk a) (Vm.Alike.refl U.vm) h3, Ex.same (s := U) (U := U.calling g mk a) rfl h4⟩
theorem lv_args_cv (z : Nat) : ∀ (av : List Value) (i : Nat), lv_args i (av.map (cv z)) = (lv_args i av).map (fun q => (q.1, cv z q.2))
  | [], _ => rfl
  | v :: vs, i => by
    simp only [List.map_cons, lv_args, cv_cat]
    rw [lv_args_cv z vs]
theorem lg_sl_cv (z : Nat) : ∀ (av : List Value), (lg_sl (av.map (cv z))).length = (lg_sl av).length
  | [] => rfl
  | v :: vs => by
    have ih := lg_sl_cv z vs
    simp only [lg_sl] at ih ⊢
    simp only [List.map_cons, List.flatMap_cons, List.length_append, ih, cv_cat]
    split <;> rfl
/-- the start of a contract's proof -/
theorem Sp.of {y : MethodName} {cc : ByteArray} {n : Nat} {ret : Option FieldType} {fr lo mc ms : Nat} {av : List Value} {S : Wd} {rv : Option Value} {S' : Wd} (hy : plainName y.cls = true) (hl : (lg_sl av).length ≤ n)
    (h : ∀ b : Bd, CX b y.cls cc n { frames := fr, cells := mc, slots := ms, locals := lo } → (y.name = "<init>" → b.2.2.2.2.2.2.2.2.1.name = "<init>") → RT b ret rv S' mc ms → G b 0 (lv_args 0 av) [] S 0 0) : Sp y cc n ret fr lo mc ms av S rv S' := by
  intro l D cA z
  refine Met.ofW (cc := cc) (maxL := n) (ret := ret) hy rfl ?_
  intro p e s m args below meth c s₁ B hml hv
  obtain ⟨rfl, hH, hK⟩ := hv
  have hts := atoms_spec (ws := .code y cc n ret :: gwL) B.pre
  have hown : s.vm.findClass y.cls = some m.cls := findClass_of_methodNamed B.named
  have hz : z ≤ s.heap.size := by rw [hH.1]; exact Nat.le_add_right _ _
  have hC : CX (p, l, e, { frames := fr, cells := mc, slots := ms, locals := lo }, s, m, (av.map (cv z)).toArray, below, meth, c, D, cA, z, n, MQ below (QP D cA z rv S') (av.map (cv z)).toArray s mc ms (fun q => z ≤ q)) y.cls cc n { frames := fr, cells := mc, slots := ms, locals := lo } :=
    ⟨B.exec, B.bytes, hml, hown, fun w hw => hts w (List.mem_cons_of_mem _ hw), hK, hz, rfl, rfl⟩
  have hin : y.name = "<init>" → meth.name = "<init>" := fun e => (name_of_methodNamed B.named B.method).1.trans e
  have hG := h _ hC hin ⟨B.returns, B.notSynchronized, rfl⟩
  rw [lg_entry_eq]
  have hle := lv_entry (av.map (cv z)) (n := n) (by rw [lg_sl_cv]; exact hl)
  rw [lv_args_cv] at hle
  exact hG s.heap [] _ hH va_S.rf hle
end
section
/-! ROWS over worlds: an instruction, a row -/
/-- cell a is of kind k -/
def ob (S : Wd) (a k : Nat) : Prop := a < wn S ∧ (kT a).1 = k
abbrev ClOk (ci : Nat) (C : String) (T : u_T) (N : Nat) (ty : Nat → FieldType) : Prop := clL[ci]? = some (C, T, N) ∧ (∀ w ∈ u_ws C T N, w ∈ gwL) ∧ (∀ k, k < N → parseFieldDescriptor (T k).2.2.1 = some (ty k)) ∧ (∀ a, a < N → ∀ b, b < N → a ≠ b → (T a).2.1 ≠ (T b).2.1) ∧ nfT ci = N ∧ ci < 100 ∧ ∀ k, k < N → defaultValue (ty k) = (if isR ci k = true then Value.null else .int 0)
def Lset (L : List (Nat × Value)) (k : Nat) (v : Value) : List (Nat × Value) := (k, v) :: L.filter (fun q => !(q.1 == k) && !(q.1 + 1 == k && q.2.category == 2))
theorem Lset_map (z : Nat) (L : List (Nat × Value)) (k : Nat) (v : Value) : (k, cv z v) :: (L.map fun q => (q.1, cv z q.2)).filter (fun q => !(q.1 == k) && !(q.1 + 1 == k && q.2.category == 2)) = (Lset L k v).map fun q => (q.1, cv z q.2) := by
  simp only [Lset, List.map_cons, List.filter_map]
  congr 2
  apply List.filter_congr
  intro q _
  simp only [Function.comp, cv_cat]
theorem lk_mem {L : List (Nat × Value)} {k : Nat} {v : Value} (h : L.lookup k = some v) : (k, v) ∈ L := by
  induction L with
  | nil => cases h
  | cons q L ih =>
    obtain ⟨a, b⟩ := q
    simp only [List.lookup_cons] at h
    split at h
    · rename_i e
      have := eq_of_beq e
      cases h
      subst this
      exact List.mem_cons_self
    · exact List.mem_cons_of_mem _ (ih h)
theorem lk_at {z nL : Nat} {ls : Array Slot} {L : List (Nat × Value)} {k : Nat} {v : Value} (hl : lv_has ls nL (L.map fun q => (q.1, cv z q.2))) (h : L.lookup k = some v) : ls[k]? = some (.val (cv z v)) :=
  hl.2.2 (k, cv z v) (List.mem_map.mpr ⟨(k, v), lk_mem h, rfl⟩)
section GR
variable {b : Bd} {own : String} {cc : ByteArray} {n : Nat} {rm : Room} {pc : Nat} {L L' : List (Nat × Value)} {st : List Value} {S : Wd} {kc ks : Nat}
theorem g_weak (h : ∀ q ∈ L', q ∈ L) (kk : G b pc L' st S kc ks) : G b pc L st S kc ks := by
  obtain ⟨p, l, e, R, s, m, args, below, meth, c, D, cA, z, nL, Q⟩ := b
  intro H locs ls hH hS hl
  refine kk H locs ls hH hS ⟨hl.1, hl.2.1, fun q hq => ?_⟩
  obtain ⟨q0, h1, rfl⟩ := List.mem_map.mp hq
  exact hl.2.2 _ (List.mem_map.mpr ⟨q0, h q0 h1, rfl⟩)
theorem g_widen {kc' ks' : Nat} (h1 : kc ≤ kc') (h2 : ks ≤ ks') (kk : G b pc L st S kc' ks') : G b pc L st S kc ks := by
  obtain ⟨p, l, e, R, s, m, args, below, meth, c, D, cA, z, nL, Q⟩ := b
  intro H locs ls hH hS hl
  exact W.widen h1 h2 (kk H locs ls hH hS hl)
theorem g_iconst {k : Int} {v : Int32} (hC : CX b own cc n rm) (hd : decode cc pc = .ok (.iconst k, 1)) (hv : Int32.ofInt k = v) (kk : G b (pc + 1) L (.int v :: st) S kc ks) : G b pc L st S kc ks := by
  obtain ⟨p, l, e, R, s, m, args, below, meth, c, D, cA, z, nL, Q⟩ := b
  obtain ⟨hx, hb, hml, ho, hts, hK, hz, hn, hR⟩ := hC
  intro H locs ls hH hS hl
  exact lv_iconst hx hb hd hv (kk H locs ls hH hS hl)
theorem g_bipush {k : Int} {v : Int32} (hC : CX b own cc n rm) (hd : decode cc pc = .ok (.bipush k, 2)) (hv : (Int8.ofInt k).toInt32 = v) (kk : G b (pc + 2) L (.int v :: st) S kc ks) : G b pc L st S kc ks := by
  obtain ⟨p, l, e, R, s, m, args, below, meth, c, D, cA, z, nL, Q⟩ := b
  obtain ⟨hx, hb, hml, ho, hts, hK, hz, hn, hR⟩ := hC
  intro H locs ls hH hS hl
  exact lv_bipush hx hb hd hv (kk H locs ls hH hS hl)
theorem g_sipush {k : Int} {v : Int32} (hC : CX b own cc n rm) (hd : decode cc pc = .ok (.sipush k, 3)) (hv : (Int16.ofInt k).toInt32 = v) (kk : G b (pc + 3) L (.int v :: st) S kc ks) : G b pc L st S kc ks := by
  obtain ⟨p, l, e, R, s, m, args, below, meth, c, D, cA, z, nL, Q⟩ := b
  obtain ⟨hx, hb, hml, ho, hts, hK, hz, hn, hR⟩ := hC
  intro H locs ls hH hS hl
  exact lv_sipush hx hb hd hv (kk H locs ls hH hS hl)
theorem g_ldc {i : Nat} {v : Int32} (hC : CX b own cc n rm) (hw : Cond.constant own i v ∈ gwL) (hd : decode cc pc = .ok (.ldc i, 2)) (kk : G b (pc + 2) L (.int v :: st) S kc ks) : G b pc L st S kc ks := by
  obtain ⟨p, l, e, R, s, m, args, below, meth, c, D, cA, z, nL, Q⟩ := b
  obtain ⟨hx, hb, hml, ho, hts, hK, hz, hn, hR⟩ := hC
  intro H locs ls hH hS hl
  exact lv_ldc hx hb ho (hts _ hw) hd (kk H locs ls hH hS hl)
theorem g_ldcw {i : Nat} {v : Int32} (hC : CX b own cc n rm) (hw : Cond.constant own i v ∈ gwL) (hd : decode cc pc = .ok (.ldc_w i, 3)) (kk : G b (pc + 3) L (.int v :: st) S kc ks) : G b pc L st S kc ks := by
  obtain ⟨p, l, e, R, s, m, args, below, meth, c, D, cA, z, nL, Q⟩ := b
  obtain ⟨hx, hb, hml, ho, hts, hK, hz, hn, hR⟩ := hC
  intro H locs ls hH hS hl
  exact lv_ldcw hx hb ho (hts _ hw) hd (kk H locs ls hH hS hl)
theorem g_iload_n {k : Fin 4} {v : Int32} (hC : CX b own cc n rm) (hd : decode cc pc = .ok (.iload_n k, 1)) (hv : L.lookup (k : Nat) = some (.int v)) (kk : G b (pc + 1) L (.int v :: st) S kc ks) : G b pc L st S kc ks := by
  obtain ⟨p, l, e, R, s, m, args, below, meth, c, D, cA, z, nL, Q⟩ := b
  obtain ⟨hx, hb, hml, ho, hts, hK, hz, hn, hR⟩ := hC
  intro H locs ls hH hS hl
  exact lv_iload_n hx hb hd rfl (lk_at hl hv) (kk H locs ls hH hS hl)
theorem g_iload {k : Nat} {v : Int32} (hC : CX b own cc n rm) (hd : decode cc pc = .ok (.iload k, 2)) (hv : L.lookup k = some (.int v)) (kk : G b (pc + 2) L (.int v :: st) S kc ks) : G b pc L st S kc ks := by
  obtain ⟨p, l, e, R, s, m, args, below, meth, c, D, cA, z, nL, Q⟩ := b
  obtain ⟨hx, hb, hml, ho, hts, hK, hz, hn, hR⟩ := hC
  intro H locs ls hH hS hl
  exact lv_iload hx hb hd (lk_at hl hv) (kk H locs ls hH hS hl)
theorem g_aload_n {k : Fin 4} {v : Nat} (hC : CX b own cc n rm) (hd : decode cc pc = .ok (.aload_n k, 1)) (hv : L.lookup (k : Nat) = some (.ref v)) (kk : G b (pc + 1) L (.ref v :: st) S kc ks) : G b pc L st S kc ks := by
  obtain ⟨p, l, e, R, s, m, args, below, meth, c, D, cA, z, nL, Q⟩ := b
  obtain ⟨hx, hb, hml, ho, hts, hK, hz, hn, hR⟩ := hC
  intro H locs ls hH hS hl
  exact lv_aload_n hx hb hd rfl (lk_at hl hv) (kk H locs ls hH hS hl)
theorem g_aload {k : Nat} {v : Nat} (hC : CX b own cc n rm) (hd : decode cc pc = .ok (.aload k, 2)) (hv : L.lookup k = some (.ref v)) (kk : G b (pc + 2) L (.ref v :: st) S kc ks) : G b pc L st S kc ks := by
  obtain ⟨p, l, e, R, s, m, args, below, meth, c, D, cA, z, nL, Q⟩ := b
  obtain ⟨hx, hb, hml, ho, hts, hK, hz, hn, hR⟩ := hC
  intro H locs ls hH hS hl
  exact lv_aload hx hb hd (lk_at hl hv) (kk H locs ls hH hS hl)
theorem g_istore_n {k : Fin 4} {v : Int32} (hC : CX b own cc n rm) (hd : decode cc pc = .ok (.istore_n k, 1)) (hk : (k : Nat) < n) (hL : Lset L (k : Nat) (.int v) = L') (kk : G b (pc + 1) L' st S kc ks) : G b pc L (.int v :: st) S kc ks := by
  obtain ⟨p, l, e, R, s, m, args, below, meth, c, D, cA, z, nL, Q⟩ := b
  obtain ⟨hx, hb, hml, ho, hts, hK, hz, hn, hR⟩ := hC
  intro H locs ls hH hS hl
  subst hL; subst hn
  exact lv_istore_n hx hb hd rfl hl hk (Lset_map z L _ (.int v)) (fun ls' hl' => kk H locs ls' hH hS hl')
theorem g_istore {k : Nat} {v : Int32} (hC : CX b own cc n rm) (hd : decode cc pc = .ok (.istore k, 2)) (hk : k < n) (hL : Lset L k (.int v) = L') (kk : G b (pc + 2) L' st S kc ks) : G b pc L (.int v :: st) S kc ks := by
  obtain ⟨p, l, e, R, s, m, args, below, meth, c, D, cA, z, nL, Q⟩ := b
  obtain ⟨hx, hb, hml, ho, hts, hK, hz, hn, hR⟩ := hC
  intro H locs ls hH hS hl
  subst hL; subst hn
  exact lv_istore hx hb hd hl hk (Lset_map z L _ (.int v)) (fun ls' hl' => kk H locs ls' hH hS hl')
theorem g_astore_n {k : Fin 4} {v : Nat} (hC : CX b own cc n rm) (hd : decode cc pc = .ok (.astore_n k, 1)) (hk : (k : Nat) < n) (hL : Lset L (k : Nat) (.ref v) = L') (kk : G b (pc + 1) L' st S kc ks) : G b pc L (.ref v :: st) S kc ks := by
  obtain ⟨p, l, e, R, s, m, args, below, meth, c, D, cA, z, nL, Q⟩ := b
  obtain ⟨hx, hb, hml, ho, hts, hK, hz, hn, hR⟩ := hC
  intro H locs ls hH hS hl
  subst hL; subst hn
  exact lv_astore_n hx hb hd rfl hl hk (Lset_map z L _ (.ref v)) (fun ls' hl' => kk H locs ls' hH hS hl')
theorem g_astore {k : Nat} {v : Nat} (hC : CX b own cc n rm) (hd : decode cc pc = .ok (.astore k, 2)) (hk : k < n) (hL : Lset L k (.ref v) = L') (kk : G b (pc + 2) L' st S kc ks) : G b pc L (.ref v :: st) S kc ks := by
  obtain ⟨p, l, e, R, s, m, args, below, meth, c, D, cA, z, nL, Q⟩ := b
  obtain ⟨hx, hb, hml, ho, hts, hK, hz, hn, hR⟩ := hC
  intro H locs ls hH hS hl
  subst hL; subst hn
  exact lv_astore hx hb hd hl hk (Lset_map z L _ (.ref v)) (fun ls' hl' => kk H locs ls' hH hS hl')
theorem g_iinc {k : Nat} {i : Int} {x v : Int32} (hC : CX b own cc n rm) (hd : decode cc pc = .ok (.iinc k i, 3)) (hx0 : L.lookup k = some (.int x)) (hv : Int32.ofInt i = v) (hk : k < n) (hL : Lset L k (.int (x + v)) = L') (kk : G b (pc + 3) L' st S kc ks) : G b pc L st S kc ks := by
  obtain ⟨p, l, e, R, s, m, args, below, meth, c, D, cA, z, nL, Q⟩ := b
  obtain ⟨hx, hb, hml, ho, hts, hK, hz, hn, hR⟩ := hC
  intro H locs ls hH hS hl
  subst hL; subst hn; subst hv
  have hm : (k, cv z (.int x)) ∈ L.map (fun q => (q.1, cv z q.2)) := List.mem_map.mpr ⟨(k, .int x), lk_mem hx0, rfl⟩
  obtain ⟨j, hj⟩ := List.getElem?_of_mem hm
  exact lv_iinc hx hb hd hl hj rfl hk (Lset_map z L _ (.int (x + Int32.ofInt i))) (fun ls' hl' => kk H locs ls' hH hS hl')
theorem g_iadd {x y : Int32} (hC : CX b own cc n rm) (hd : decode cc pc = .ok (.iadd, 1)) (kk : G b (pc + 1) L (.int (x + y) :: st) S kc ks) : G b pc L (.int y :: .int x :: st) S kc ks := by
  obtain ⟨p, l, e, R, s, m, args, below, meth, c, D, cA, z, nL, Q⟩ := b
  intro H locs ls hH hS hl
  exact lv_iadd hC.1 hC.2.1 hd (kk H locs ls hH hS hl)
theorem g_isub {x y : Int32} (hC : CX b own cc n rm) (hd : decode cc pc = .ok (.isub, 1)) (kk : G b (pc + 1) L (.int (x - y) :: st) S kc ks) : G b pc L (.int y :: .int x :: st) S kc ks := by
  obtain ⟨p, l, e, R, s, m, args, below, meth, c, D, cA, z, nL, Q⟩ := b
  intro H locs ls hH hS hl
  exact lv_isub hC.1 hC.2.1 hd (kk H locs ls hH hS hl)
theorem g_imul {x y : Int32} (hC : CX b own cc n rm) (hd : decode cc pc = .ok (.imul, 1)) (kk : G b (pc + 1) L (.int (x * y) :: st) S kc ks) : G b pc L (.int y :: .int x :: st) S kc ks := by
  obtain ⟨p, l, e, R, s, m, args, below, meth, c, D, cA, z, nL, Q⟩ := b
  intro H locs ls hH hS hl
  exact lv_imul hC.1 hC.2.1 hd (kk H locs ls hH hS hl)
theorem g_iand {x y : Int32} (hC : CX b own cc n rm) (hd : decode cc pc = .ok (.iand, 1)) (kk : G b (pc + 1) L (.int (x &&& y) :: st) S kc ks) : G b pc L (.int y :: .int x :: st) S kc ks := by
  obtain ⟨p, l, e, R, s, m, args, below, meth, c, D, cA, z, nL, Q⟩ := b
  intro H locs ls hH hS hl
  exact lv_iand hC.1 hC.2.1 hd (kk H locs ls hH hS hl)
theorem g_ior {x y : Int32} (hC : CX b own cc n rm) (hd : decode cc pc = .ok (.ior, 1)) (kk : G b (pc + 1) L (.int (x ||| y) :: st) S kc ks) : G b pc L (.int y :: .int x :: st) S kc ks := by
  obtain ⟨p, l, e, R, s, m, args, below, meth, c, D, cA, z, nL, Q⟩ := b
  intro H locs ls hH hS hl
  exact lv_ior hC.1 hC.2.1 hd (kk H locs ls hH hS hl)
theorem g_ixor {x y : Int32} (hC : CX b own cc n rm) (hd : decode cc pc = .ok (.ixor, 1)) (kk : G b (pc + 1) L (.int (x ^^^ y) :: st) S kc ks) : G b pc L (.int y :: .int x :: st) S kc ks := by
  obtain ⟨p, l, e, R, s, m, args, below, meth, c, D, cA, z, nL, Q⟩ := b
  intro H locs ls hH hS hl
  exact lv_ixor hC.1 hC.2.1 hd (kk H locs ls hH hS hl)
theorem g_ishl {x y : Int32} (hC : CX b own cc n rm) (hd : decode cc pc = .ok (.ishl, 1)) (kk : G b (pc + 1) L (.int (x <<< (y &&& 31)) :: st) S kc ks) : G b pc L (.int y :: .int x :: st) S kc ks := by
  obtain ⟨p, l, e, R, s, m, args, below, meth, c, D, cA, z, nL, Q⟩ := b
  intro H locs ls hH hS hl
  exact lv_ishl hC.1 hC.2.1 hd (kk H locs ls hH hS hl)
theorem g_ishr {x y : Int32} (hC : CX b own cc n rm) (hd : decode cc pc = .ok (.ishr, 1)) (kk : G b (pc + 1) L (.int (x >>> (y &&& 31)) :: st) S kc ks) : G b pc L (.int y :: .int x :: st) S kc ks := by
  obtain ⟨p, l, e, R, s, m, args, below, meth, c, D, cA, z, nL, Q⟩ := b
  intro H locs ls hH hS hl
  exact lv_ishr hC.1 hC.2.1 hd (kk H locs ls hH hS hl)
theorem g_iushr {x y : Int32} (hC : CX b own cc n rm) (hd : decode cc pc = .ok (.iushr, 1)) (kk : G b (pc + 1) L (.int ((x.toUInt32 >>> (y.toUInt32 &&& Int32.toUInt32 31)).toInt32) :: st) S kc ks) : G b pc L (.int y :: .int x :: st) S kc ks := by
  obtain ⟨p, l, e, R, s, m, args, below, meth, c, D, cA, z, nL, Q⟩ := b
  intro H locs ls hH hS hl
  exact lv_iushr hC.1 hC.2.1 hd rfl (kk H locs ls hH hS hl)
theorem g_ineg {x : Int32} (hC : CX b own cc n rm) (hd : decode cc pc = .ok (.ineg, 1)) (kk : G b (pc + 1) L (.int (-x) :: st) S kc ks) : G b pc L (.int x :: st) S kc ks := by
  obtain ⟨p, l, e, R, s, m, args, below, meth, c, D, cA, z, nL, Q⟩ := b
  intro H locs ls hH hS hl
  exact lv_ineg hC.1 hC.2.1 hd (kk H locs ls hH hS hl)
theorem g_i2b {x : Int32} (hC : CX b own cc n rm) (hd : decode cc pc = .ok (.i2b, 1)) (kk : G b (pc + 1) L (.int (x.toInt8.toInt32) :: st) S kc ks) : G b pc L (.int x :: st) S kc ks := by
  obtain ⟨p, l, e, R, s, m, args, below, meth, c, D, cA, z, nL, Q⟩ := b
  intro H locs ls hH hS hl
  exact lv_i2b hC.1 hC.2.1 hd rfl (kk H locs ls hH hS hl)
theorem g_i2s {x : Int32} (hC : CX b own cc n rm) (hd : decode cc pc = .ok (.i2s, 1)) (kk : G b (pc + 1) L (.int (x.toInt16.toInt32) :: st) S kc ks) : G b pc L (.int x :: st) S kc ks := by
  obtain ⟨p, l, e, R, s, m, args, below, meth, c, D, cA, z, nL, Q⟩ := b
  intro H locs ls hH hS hl
  exact lv_i2s hC.1 hC.2.1 hd rfl (kk H locs ls hH hS hl)
theorem g_i2l {x : Int32} (hC : CX b own cc n rm) (hd : decode cc pc = .ok (.i2l, 1)) (kk : G b (pc + 1) L (.long x.toInt64 :: st) S kc ks) : G b pc L (.int x :: st) S kc ks := by
  obtain ⟨p, l, e, R, s, m, args, below, meth, c, D, cA, z, nL, Q⟩ := b
  intro H locs ls hH hS hl
  exact lv_i2l hC.1 hC.2.1 hd rfl (kk H locs ls hH hS hl)
theorem g_ladd {x y : Int64} (hC : CX b own cc n rm) (hd : decode cc pc = .ok (.ladd, 1)) (kk : G b (pc + 1) L (.long (x + y) :: st) S kc ks) : G b pc L (.long y :: .long x :: st) S kc ks := by
  obtain ⟨p, l, e, R, s, m, args, below, meth, c, D, cA, z, nL, Q⟩ := b
  intro H locs ls hH hS hl
  exact lv_ladd hC.1 hC.2.1 hd (kk H locs ls hH hS hl)
theorem g_lcmp {x y : Int64} (hC : CX b own cc n rm) (hd : decode cc pc = .ok (.lcmp, 1)) (kk : G b (pc + 1) L (.int (lg_cmp x y) :: st) S kc ks) : G b pc L (.long y :: .long x :: st) S kc ks := by
  obtain ⟨p, l, e, R, s, m, args, below, meth, c, D, cA, z, nL, Q⟩ := b
  intro H locs ls hH hS hl
  exact W.lcmp hC.1 hC.2.1 hd (kk H locs ls hH hS hl)
theorem g_idiv {x y : Int32} (hC : CX b own cc n rm) (hd : decode cc pc = .ok (.idiv, 1)) (hne : ¬ y = 0) (kk : G b (pc + 1) L (.int (x / y) :: st) S kc ks) : G b pc L (.int y :: .int x :: st) S kc ks := by
  obtain ⟨p, l, e, R, s, m, args, below, meth, c, D, cA, z, nL, Q⟩ := b
  intro H locs ls hH hS hl
  exact lv_idiv hC.1 hC.2.1 hd hne (kk H locs ls hH hS hl)
theorem g_irem {x y : Int32} (hC : CX b own cc n rm) (hd : decode cc pc = .ok (.irem, 1)) (hne : ¬ y = 0) (kk : G b (pc + 1) L (.int (x - x / y * y) :: st) S kc ks) : G b pc L (.int y :: .int x :: st) S kc ks := by
  obtain ⟨p, l, e, R, s, m, args, below, meth, c, D, cA, z, nL, Q⟩ := b
  intro H locs ls hH hS hl
  exact lv_irem hC.1 hC.2.1 hd hne (kk H locs ls hH hS hl)
theorem g_dup {v : Value} (hC : CX b own cc n rm) (hd : decode cc pc = .ok (.dup, 1)) (hv : v.category = 1) (kk : G b (pc + 1) L (v :: v :: st) S kc ks) : G b pc L (v :: st) S kc ks := by
  obtain ⟨p, l, e, R, s, m, args, below, meth, c, D, cA, z, nL, Q⟩ := b
  intro H locs ls hH hS hl
  exact lv_dup hC.1 hC.2.1 hd ((cv_cat z v).trans hv) (kk H locs ls hH hS hl)
theorem g_dup2 {v w : Value} (hC : CX b own cc n rm) (hd : decode cc pc = .ok (.dup2, 1)) (hv : v.category = 1) (hw : w.category = 1) (kk : G b (pc + 1) L (v :: w :: v :: w :: st) S kc ks) : G b pc L (v :: w :: st) S kc ks := by
  obtain ⟨p, l, e, R, s, m, args, below, meth, c, D, cA, z, nL, Q⟩ := b
  intro H locs ls hH hS hl
  exact lv_dup2_11 hC.1 hC.2.1 hd ((cv_cat z v).trans hv) ((cv_cat z w).trans hw) (kk H locs ls hH hS hl)
theorem g_goto {off : Int} {tgt : Nat} (hC : CX b own cc n rm) (hd : decode cc pc = .ok (.goto off, 3)) (ht : (pc : Int) + off = (tgt : Int)) (kk : G b tgt L st S kc ks) : G b pc L st S kc ks := by
  obtain ⟨p, l, e, R, s, m, args, below, meth, c, D, cA, z, nL, Q⟩ := b
  intro H locs ls hH hS hl
  exact lv_goto hC.1 hC.2.1 hd ht (kk H locs ls hH hS hl)
theorem g_ifnull {x : Nat} {off : Int} (hC : CX b own cc n rm) (hd : decode cc pc = .ok (.ifnull off, 3)) (kk : G b (pc + 3) L st S kc ks) : G b pc L (.ref x :: st) S kc ks := by
  obtain ⟨p, l, e, R, s, m, args, below, meth, c, D, cA, z, nL, Q⟩ := b
  intro H locs ls hH hS hl
  exact lv_ifnull hC.1 hC.2.1 hd (kk H locs ls hH hS hl)
theorem g_tin {dflt lo hi : Int} {offs : Array Int} {len : Nat} {x v : Int32} {off : Int} {tgt : Nat} (hC : CX b own cc n rm) (hd : decode cc pc = .ok (.tableswitch dflt lo hi offs, len)) (hxv : x = v) (h1 : ¬ v.toInt < lo) (h2 : ¬ hi < v.toInt) (ho : offs[(v.toInt - lo).toNat]? = some off) (ht : (pc : Int) + off = (tgt : Int)) (kk : G b tgt L st S kc ks) : G b pc L (.int x :: st) S kc ks := by
  obtain ⟨p, l, e, R, s, m, args, below, meth, c, D, cA, z, nL, Q⟩ := b
  intro H locs ls hH hS hl
  subst hxv
  exact lv_tableIn hC.1 hC.2.1 hd h1 h2 ho ht (kk H locs ls hH hS hl)
theorem g_tout {dflt lo hi : Int} {offs : Array Int} {len : Nat} {x : Int32} {tgt : Nat} (hC : CX b own cc n rm) (hd : decode cc pc = .ok (.tableswitch dflt lo hi offs, len)) (h : x.toInt < lo ∨ hi < x.toInt) (ht : (pc : Int) + dflt = (tgt : Int)) (kk : G b tgt L st S kc ks) : G b pc L (.int x :: st) S kc ks := by
  obtain ⟨p, l, e, R, s, m, args, below, meth, c, D, cA, z, nL, Q⟩ := b
  intro H locs ls hH hS hl
  exact lv_tableOut hC.1 hC.2.1 hd h ht (kk H locs ls hH hS hl)
theorem g_lookup {dflt : Int} {ps : Array (Int × Int)} {len : Nat} {x : Int32} {off : Int} {tgt : Nat} (hC : CX b own cc n rm) (hd : decode cc pc = .ok (.lookupswitch dflt ps, len)) (hp : (ps.toList.zip (ps.toList.drop 1)).all (fun (a, next) => a.1 < next.1) = true) (ho : Op.lookupswitch.offset ps.toList dflt x.toInt = off) (ht : (pc : Int) + off = (tgt : Int)) (kk : G b tgt L st S kc ks) : G b pc L (.int x :: st) S kc ks := by
  obtain ⟨p, l, e, R, s, m, args, below, meth, c, D, cA, z, nL, Q⟩ := b
  intro H locs ls hH hS hl
  exact lv_lookup hC.1 hC.2.1 hd hp ho ht (kk H locs ls hH hS hl)
theorem g_if_eq {x : Int32} {off : Int} {tgt : Nat} (hC : CX b own cc n rm) (hd : decode cc pc = .ok (.ifCond .eq off, 3)) (ht : (pc : Int) + off = (tgt : Int)) (kt : x = 0 → G b tgt L st S kc ks) (kf : ¬ x = 0 → G b (pc + 3) L st S kc ks) : G b pc L (.int x :: st) S kc ks := by
  obtain ⟨p, l, e, R, s, m, args, below, meth, c, D, cA, z, nL, Q⟩ := b
  intro H locs ls hH hS hl
  exact lv_if_eq hC.1 hC.2.1 hd ht (fun h => kt h H locs ls hH hS hl) (fun h => kf h H locs ls hH hS hl)
theorem g_icmp_eq {x y : Int32} {off : Int} {tgt : Nat} (hC : CX b own cc n rm) (hd : decode cc pc = .ok (.if_icmp .eq off, 3)) (ht : (pc : Int) + off = (tgt : Int)) (kt : x = y → G b tgt L st S kc ks) (kf : ¬ x = y → G b (pc + 3) L st S kc ks) : G b pc L (.int y :: .int x :: st) S kc ks := by
  obtain ⟨p, l, e, R, s, m, args, below, meth, c, D, cA, z, nL, Q⟩ := b
  intro H locs ls hH hS hl
  exact lv_icmp_eq hC.1 hC.2.1 hd ht (fun h => kt h H locs ls hH hS hl) (fun h => kf h H locs ls hH hS hl)
theorem g_if_ne {x : Int32} {off : Int} {tgt : Nat} (hC : CX b own cc n rm) (hd : decode cc pc = .ok (.ifCond .ne off, 3)) (ht : (pc : Int) + off = (tgt : Int)) (kt : ¬ x = 0 → G b tgt L st S kc ks) (kf : x = 0 → G b (pc + 3) L st S kc ks) : G b pc L (.int x :: st) S kc ks := by
  obtain ⟨p, l, e, R, s, m, args, below, meth, c, D, cA, z, nL, Q⟩ := b
  intro H locs ls hH hS hl
  exact lv_if_ne hC.1 hC.2.1 hd ht (fun h => kt h H locs ls hH hS hl) (fun h => kf h H locs ls hH hS hl)
theorem g_icmp_ne {x y : Int32} {off : Int} {tgt : Nat} (hC : CX b own cc n rm) (hd : decode cc pc = .ok (.if_icmp .ne off, 3)) (ht : (pc : Int) + off = (tgt : Int)) (kt : ¬ x = y → G b tgt L st S kc ks) (kf : x = y → G b (pc + 3) L st S kc ks) : G b pc L (.int y :: .int x :: st) S kc ks := by
  obtain ⟨p, l, e, R, s, m, args, below, meth, c, D, cA, z, nL, Q⟩ := b
  intro H locs ls hH hS hl
  exact lv_icmp_ne hC.1 hC.2.1 hd ht (fun h => kt h H locs ls hH hS hl) (fun h => kf h H locs ls hH hS hl)
theorem g_if_lt {x : Int32} {off : Int} {tgt : Nat} (hC : CX b own cc n rm) (hd : decode cc pc = .ok (.ifCond .lt off, 3)) (ht : (pc : Int) + off = (tgt : Int)) (kt : x < 0 → G b tgt L st S kc ks) (kf : ¬ x < 0 → G b (pc + 3) L st S kc ks) : G b pc L (.int x :: st) S kc ks := by
  obtain ⟨p, l, e, R, s, m, args, below, meth, c, D, cA, z, nL, Q⟩ := b
  intro H locs ls hH hS hl
  exact lv_if_lt hC.1 hC.2.1 hd ht (fun h => kt h H locs ls hH hS hl) (fun h => kf h H locs ls hH hS hl)
theorem g_icmp_lt {x y : Int32} {off : Int} {tgt : Nat} (hC : CX b own cc n rm) (hd : decode cc pc = .ok (.if_icmp .lt off, 3)) (ht : (pc : Int) + off = (tgt : Int)) (kt : x < y → G b tgt L st S kc ks) (kf : ¬ x < y → G b (pc + 3) L st S kc ks) : G b pc L (.int y :: .int x :: st) S kc ks := by
  obtain ⟨p, l, e, R, s, m, args, below, meth, c, D, cA, z, nL, Q⟩ := b
  intro H locs ls hH hS hl
  exact lv_icmp_lt hC.1 hC.2.1 hd ht (fun h => kt h H locs ls hH hS hl) (fun h => kf h H locs ls hH hS hl)
theorem g_if_ge {x : Int32} {off : Int} {tgt : Nat} (hC : CX b own cc n rm) (hd : decode cc pc = .ok (.ifCond .ge off, 3)) (ht : (pc : Int) + off = (tgt : Int)) (kt : 0 ≤ x → G b tgt L st S kc ks) (kf : ¬ 0 ≤ x → G b (pc + 3) L st S kc ks) : G b pc L (.int x :: st) S kc ks := by
  obtain ⟨p, l, e, R, s, m, args, below, meth, c, D, cA, z, nL, Q⟩ := b
  intro H locs ls hH hS hl
  exact lv_if_ge hC.1 hC.2.1 hd ht (fun h => kt h H locs ls hH hS hl) (fun h => kf h H locs ls hH hS hl)
theorem g_icmp_ge {x y : Int32} {off : Int} {tgt : Nat} (hC : CX b own cc n rm) (hd : decode cc pc = .ok (.if_icmp .ge off, 3)) (ht : (pc : Int) + off = (tgt : Int)) (kt : y ≤ x → G b tgt L st S kc ks) (kf : ¬ y ≤ x → G b (pc + 3) L st S kc ks) : G b pc L (.int y :: .int x :: st) S kc ks := by
  obtain ⟨p, l, e, R, s, m, args, below, meth, c, D, cA, z, nL, Q⟩ := b
  intro H locs ls hH hS hl
  exact lv_icmp_ge hC.1 hC.2.1 hd ht (fun h => kt h H locs ls hH hS hl) (fun h => kf h H locs ls hH hS hl)
theorem g_if_gt {x : Int32} {off : Int} {tgt : Nat} (hC : CX b own cc n rm) (hd : decode cc pc = .ok (.ifCond .gt off, 3)) (ht : (pc : Int) + off = (tgt : Int)) (kt : 0 < x → G b tgt L st S kc ks) (kf : ¬ 0 < x → G b (pc + 3) L st S kc ks) : G b pc L (.int x :: st) S kc ks := by
  obtain ⟨p, l, e, R, s, m, args, below, meth, c, D, cA, z, nL, Q⟩ := b
  intro H locs ls hH hS hl
  exact lv_if_gt hC.1 hC.2.1 hd ht (fun h => kt h H locs ls hH hS hl) (fun h => kf h H locs ls hH hS hl)
theorem g_icmp_gt {x y : Int32} {off : Int} {tgt : Nat} (hC : CX b own cc n rm) (hd : decode cc pc = .ok (.if_icmp .gt off, 3)) (ht : (pc : Int) + off = (tgt : Int)) (kt : y < x → G b tgt L st S kc ks) (kf : ¬ y < x → G b (pc + 3) L st S kc ks) : G b pc L (.int y :: .int x :: st) S kc ks := by
  obtain ⟨p, l, e, R, s, m, args, below, meth, c, D, cA, z, nL, Q⟩ := b
  intro H locs ls hH hS hl
  exact lv_icmp_gt hC.1 hC.2.1 hd ht (fun h => kt h H locs ls hH hS hl) (fun h => kf h H locs ls hH hS hl)
theorem g_if_le {x : Int32} {off : Int} {tgt : Nat} (hC : CX b own cc n rm) (hd : decode cc pc = .ok (.ifCond .le off, 3)) (ht : (pc : Int) + off = (tgt : Int)) (kt : x ≤ 0 → G b tgt L st S kc ks) (kf : ¬ x ≤ 0 → G b (pc + 3) L st S kc ks) : G b pc L (.int x :: st) S kc ks := by
  obtain ⟨p, l, e, R, s, m, args, below, meth, c, D, cA, z, nL, Q⟩ := b
  intro H locs ls hH hS hl
  exact lv_if_le hC.1 hC.2.1 hd ht (fun h => kt h H locs ls hH hS hl) (fun h => kf h H locs ls hH hS hl)
theorem g_icmp_le {x y : Int32} {off : Int} {tgt : Nat} (hC : CX b own cc n rm) (hd : decode cc pc = .ok (.if_icmp .le off, 3)) (ht : (pc : Int) + off = (tgt : Int)) (kt : x ≤ y → G b tgt L st S kc ks) (kf : ¬ x ≤ y → G b (pc + 3) L st S kc ks) : G b pc L (.int y :: .int x :: st) S kc ks := by
  obtain ⟨p, l, e, R, s, m, args, below, meth, c, D, cA, z, nL, Q⟩ := b
  intro H locs ls hH hS hl
  exact lv_icmp_le hC.1 hC.2.1 hd ht (fun h => kt h H locs ls hH hS hl) (fun h => kf h H locs ls hH hS hl)
end GR
end
section
/-! ROWS that read and write cells, make them, call and return -/
section GH
variable {b : Bd} {own : String} {cc : ByteArray} {n : Nat} {rm : Room} {pc : Nat} {L L' : List (Nat × Value)} {st : List Value} {S : Wd} {kc ks : Nat}
theorem g_geti {ci : Nat} {C ref : String} {T : u_T} {N : Nat} {ty : Nat → FieldType} {i k a : Nat} (hC : CX b own cc n rm) (ck : ClOk ci C T N ty) (hk : k < N) (hw : Cond.fieldLink own i ref (T k).2.1 (T k).2.2.1 ∈ gwL) (hf : ref = (T k).1) (hr : isR ci k = false) (hd : decode cc pc = .ok (.getfield i, 3)) (ho : ob S a ci)
    (kk : G b (pc + 3) L (.int (wI S a k) :: st) S kc ks) : G b pc L (.ref a :: st) S kc ks := by
  obtain ⟨p, l, e, R, s, m, args, below, meth, c, D, cA, z, nL, Q⟩ := b
  obtain ⟨hx, hb, hml, how, hts, hK, hz, hn, hR⟩ := hC
  intro H locs ls hH hS hl
  obtain ⟨c1, c2, c3, c4, c5, c6, c7⟩ := ck
  obtain ⟨o1, o2⟩ := ho
  obtain ⟨cell, q1, q2, q3, q4⟩ := (hH.2 a o1).1 (by rw [o2]; exact c6)
  rw [o2] at q2 q4
  rw [c5] at q4
  obtain ⟨hSl, hfc, kC, hkC, hkind⟩ := hK.1.1 ci _ c1
  obtain ⟨cf, kf, fi, f, hi, hsl⟩ := hSl k hk
  subst hf
  refine W.getf hx hb how (hts _ hw) hi (u_facts hfc hkC (u_lays hts c2 hk) hi).1 q1 (by rw [q3]; exact fun h => by cases h) (v := .int (wI S a k)) ?_ rfl rfl hd (kk H locs ls hH hS hl)
  rw [hsl, q4 k hk]
  simp only [fv, o2, hr]
  rfl
theorem g_getr {ci : Nat} {C ref : String} {T : u_T} {N : Nat} {ty : Nat → FieldType} {i k a q : Nat} (hC : CX b own cc n rm) (ck : ClOk ci C T N ty) (hk : k < N) (hw : Cond.fieldLink own i ref (T k).2.1 (T k).2.2.1 ∈ gwL) (hf : ref = (T k).1) (hr : isR ci k = true) (hd : decode cc pc = .ok (.getfield i, 3)) (ho : ob S a ci) (hq : wO S a k = some q)
    (kk : G b (pc + 3) L (.ref q :: st) S kc ks) : G b pc L (.ref a :: st) S kc ks := by
  obtain ⟨p, l, e, R, s, m, args, below, meth, c, D, cA, z, nL, Q⟩ := b
  obtain ⟨hx, hb, hml, how, hts, hK, hz, hn, hR⟩ := hC
  intro H locs ls hH hS hl
  obtain ⟨c1, c2, c3, c4, c5, c6, c7⟩ := ck
  obtain ⟨o1, o2⟩ := ho
  obtain ⟨cell, q1, q2, q3, q4⟩ := (hH.2 a o1).1 (by rw [o2]; exact c6)
  rw [o2] at q2 q4
  rw [c5] at q4
  obtain ⟨hSl, hfc, kC, hkC, hkind⟩ := hK.1.1 ci _ c1
  obtain ⟨cf, kf, fi, f, hi, hsl⟩ := hSl k hk
  subst hf
  refine W.getf hx hb how (hts _ hw) hi (u_facts hfc hkC (u_lays hts c2 hk) hi).1 q1 (by rw [q3]; exact fun h => by cases h) (v := .ref (z + q)) ?_ rfl rfl hd (kk H locs ls hH hS hl)
  rw [hsl, q4 k hk]
  simp only [fv, o2, hr, hq]
  rfl
theorem apart_of {D : va_G} {cA : Nat → ClassId} {s : State} {args : Array Value} (hts : ∀ w ∈ gwL, w.before args s = true) {ci : Nat} {C : String} {T : u_T} {N : Nat} {ty : Nat → FieldType} (ck : ClOk ci C T N ty) (hK : KK D cA s) : ∀ x y, x < N → y < N → x ≠ y → (D.2 ci) x ≠ (D.2 ci) y :=
  va_apart (own := C) hts ck.2.1 ty ck.2.2.1 ck.2.2.2.1 hK.1 ck.1
theorem cAt.obj {D : va_G} {cA : Nat → ClassId} {z : Nat} {S : Wd} {a ci : Nat} {H : Heap} (o2 : (kT a).1 = ci) (c6 : ci < 100) (h : t_OB (z + a) (D.1 ci) (nfT ci) (D.2 ci) H (fv z S a)) : cAt D cA z S a H := by
  refine ⟨fun _ => by rw [o2]; exact h, fun q => ?_, fun q => ?_, fun q => ?_, fun q => ?_⟩ <;> (exfalso; omega)
theorem g_puti {ci : Nat} {C ref : String} {T : u_T} {N : Nat} {ty : Nat → FieldType} {i k a : Nat} {v : Int32} (hC : CX b own cc n rm) (ck : ClOk ci C T N ty) (hk : k < N) (hw : Cond.fieldLink own i ref (T k).2.1 (T k).2.2.1 ∈ gwL) (hf : ref = (T k).1) (hr : isR ci k = false) (hfin : (T k).2.2.2 = false) (hI : (T k).2.2.1 = "I") (hd : decode cc pc = .ok (.putfield i, 3)) (ho : ob S a ci)
    (kk : G b (pc + 3) L st (sI S a k v) kc ks) : G b pc L (.int v :: .ref a :: st) S kc ks := by
  obtain ⟨p, l, e, R, s, m, args, below, meth, c, D, cA, z, nL, Q⟩ := b
  obtain ⟨hx, hb, hml, how, hts, hK, hz, hn, hR⟩ := hC
  intro H locs ls hH hS hl
  have hap := apart_of hts ck hK
  obtain ⟨c1, c2, c3, c4, c5, c6, c7⟩ := ck
  obtain ⟨o1, o2⟩ := ho
  obtain ⟨cell, q1, q2, q3, q4⟩ := (hH.2 a o1).1 (by rw [o2]; exact c6)
  rw [o2] at q2 q4
  rw [c5] at q4
  obtain ⟨hSl, hfc, kC, hkC, hkind⟩ := hK.1.1 ci _ c1
  obtain ⟨cf, kf, fi, f, hi, hsl⟩ := hSl k hk
  subst hf
  have hlay := hts _ (c2 _ (u_in_lay hk))
  unfold u_lay at hlay
  rw [if_neg (by rw [hfin]; decide)] at hlay
  have hst := (u_facts hfc hkC (u_lays hts c2 hk) hi).1
  have h6 := u_store (v := .int v) (ty := .int) hfc hkC hkind hlay hi (by rw [hI]; decide +kernel) rfl rfl
  refine W.putK hx hb (f := f) ⟨how, hts _ hw, ⟨_, _, _, hi⟩, hst⟩ (by rw [q2]; exact h6) q1 q3 (by rw [hsl]; exact k2_hasslot (q4 k hk)) rfl rfl hd fun H' e1 e2 e3 => ?_
  rw [hsl] at e1 ⊢
  refine kk H' _ ls (HO.upd (a := a) hH e2 e3 rfl rfl (fun j hj => ?_) (fun _ _ => rfl) (cAt.obj o2 c6 ?_)) (hS.put e2 e3 (Nat.le_add_right z a)) hl
  · show (if j = a then _ else _) = _
    rw [if_neg hj]; rfl
  · rw [c5]
    refine t_OB.to (V := updV (fv z S a) k (.int v)) ⟨_, e1, q2, q3, t_set q4 hap hk _⟩ (fun j _ => ?_)
    by_cases hjk : j = k
    · subst hjk
      simp [updV, fv, o2, hr, wI, sI]
    · simp [updV, fv, wI, wO, sI, hjk]
theorem g_putiF {ci : Nat} {C ref : String} {T : u_T} {N : Nat} {ty : Nat → FieldType} {i k a : Nat} {v : Int32} (hC : CX b own cc n rm) (hin : b.2.2.2.2.2.2.2.2.1.name = "<init>") (ck : ClOk ci C T N ty) (hk : k < N) (hw : Cond.fieldLink own i ref (T k).2.1 (T k).2.2.1 ∈ gwL) (hf : ref = (T k).1) (hdecl : (T k).1 = own) (hr : isR ci k = false) (hfin : (T k).2.2.2 = true) (hI : (T k).2.2.1 = "I") (hd : decode cc pc = .ok (.putfield i, 3)) (ho : ob S a ci)
    (kk : G b (pc + 3) L st (sI S a k v) kc ks) : G b pc L (.int v :: .ref a :: st) S kc ks := by
  obtain ⟨p, l, e, R, s, m, args, below, meth, c, D, cA, z, nL, Q⟩ := b
  obtain ⟨hx, hb, hml, how, hts, hK, hz, hn, hR⟩ := hC
  intro H locs ls hH hS hl
  have hap := apart_of hts ck hK
  obtain ⟨c1, c2, c3, c4, c5, c6, c7⟩ := ck
  obtain ⟨o1, o2⟩ := ho
  obtain ⟨cell, q1, q2, q3, q4⟩ := (hH.2 a o1).1 (by rw [o2]; exact c6)
  rw [o2] at q2 q4
  rw [c5] at q4
  obtain ⟨hSl, hfc, kC, hkC, hkind⟩ := hK.1.1 ci _ c1
  obtain ⟨cf, kf, fi, f, hi, hsl⟩ := hSl k hk
  subst hf
  have hlay := hts _ (c2 _ (u_in_lay hk))
  unfold u_lay at hlay
  rw [if_pos hfin] at hlay
  have hst := (u_facts hfc hkC (u_lays hts c2 hk) hi).1
  have hcf : m.cls = cf := by
    obtain ⟨_, _, c', _, _, _, -, -, hf', -, -, -, hown2, -⟩ := Cond.laysFinal_spec hlay
    have e1 : c' = cf := by have := hi.symm.trans hf'; simp at this; exact this.1.symm
    rw [hdecl] at hown2
    rw [← e1]; exact Option.some.inj (how.symm.trans hown2)
  have h6 := u_fits (v := .int v) (ty := .int) hfc hkC hkind (Or.inr hlay) hi (by rw [hI]; decide +kernel) rfl rfl
  refine W.putFinK hx hb how (hts _ hw) hi hst hcf hin (by rw [q2]; exact h6) q1 q3 (by rw [hsl]; exact k2_hasslot (q4 k hk)) rfl rfl hd fun H' e1 e2 e3 => ?_
  rw [hsl] at e1 ⊢
  refine kk H' _ ls (HO.upd (a := a) hH e2 e3 rfl rfl (fun j hj => ?_) (fun _ _ => rfl) (cAt.obj o2 c6 ?_)) (hS.put e2 e3 (Nat.le_add_right z a)) hl
  · show (if j = a then _ else _) = _
    rw [if_neg hj]; rfl
  · rw [c5]
    refine t_OB.to (V := updV (fv z S a) k (.int v)) ⟨_, e1, q2, q3, t_set q4 hap hk _⟩ (fun j _ => ?_)
    by_cases hjk : j = k
    · subst hjk
      simp [updV, fv, o2, hr, wI, sI]
    · simp [updV, fv, wI, wO, sI, hjk]
theorem g_putrF {ci : Nat} {C ref : String} {T : u_T} {N : Nat} {ty : Nat → FieldType} {i k a q : Nat} (hC : CX b own cc n rm) (hin : b.2.2.2.2.2.2.2.2.1.name = "<init>") (ck : ClOk ci C T N ty) (hk : k < N) (hw : Cond.fieldLink own i ref (T k).2.1 (T k).2.2.1 ∈ gwL) (hf : ref = (T k).1) (hdecl : (T k).1 = own) (hr : isR ci k = true) (hfin : (T k).2.2.2 = true) (hty : (∃ x, ty k = .object x) ∨ ∃ x, ty k = .array x) (hd : decode cc pc = .ok (.putfield i, 3)) (ho : ob S a ci)
    (kk : G b (pc + 3) L st (sO S a k (some q)) kc ks) : G b pc L (.ref q :: .ref a :: st) S kc ks := by
  obtain ⟨p, l, e, R, s, m, args, below, meth, c, D, cA, z, nL, Q⟩ := b
  obtain ⟨hx, hb, hml, how, hts, hK, hz, hn, hR⟩ := hC
  intro H locs ls hH hS hl
  have hap := apart_of hts ck hK
  obtain ⟨c1, c2, c3, c4, c5, c6, c7⟩ := ck
  obtain ⟨o1, o2⟩ := ho
  obtain ⟨cell, q1, q2, q3, q4⟩ := (hH.2 a o1).1 (by rw [o2]; exact c6)
  rw [o2] at q2 q4
  rw [c5] at q4
  obtain ⟨hSl, hfc, kC, hkC, hkind⟩ := hK.1.1 ci _ c1
  obtain ⟨cf, kf, fi, f, hi, hsl⟩ := hSl k hk
  subst hf
  have hlay := hts _ (c2 _ (u_in_lay hk))
  unfold u_lay at hlay
  rw [if_pos hfin] at hlay
  have hst := (u_facts hfc hkC (u_lays hts c2 hk) hi).1
  have hcf : m.cls = cf := by
    obtain ⟨_, _, c', _, _, _, -, -, hf', -, -, -, hown2, -⟩ := Cond.laysFinal_spec hlay
    have e1 : c' = cf := by have := hi.symm.trans hf'; simp at this; exact this.1.symm
    rw [hdecl] at hown2
    rw [← e1]; exact Option.some.inj (how.symm.trans hown2)
  have h6 := u_fits (v := .ref (z + q)) (ty := ty k) hfc hkC hkind (Or.inr hlay) hi (c3 k hk) (by rcases hty with ⟨x, h⟩ | ⟨x, h⟩ <;> rw [h] <;> rfl) (by rcases hty with ⟨x, h⟩ | ⟨x, h⟩ <;> rw [h] <;> rfl)
  refine W.putFinK hx hb how (hts _ hw) hi hst hcf hin (by rw [q2]; exact h6) q1 q3 (by rw [hsl]; exact k2_hasslot (q4 k hk)) rfl rfl hd fun H' e1 e2 e3 => ?_
  rw [hsl] at e1 ⊢
  refine kk H' _ ls (HO.upd (a := a) hH e2 e3 rfl rfl (fun _ _ => rfl) (fun j hj => ?_) (cAt.obj o2 c6 ?_)) (hS.put e2 e3 (Nat.le_add_right z a)) hl
  · show (if j = a then _ else _) = _
    rw [if_neg hj]; rfl
  · rw [c5]
    refine t_OB.to (V := updV (fv z S a) k (.ref (z + q))) ⟨_, e1, q2, q3, t_set q4 hap hk _⟩ (fun j _ => ?_)
    by_cases hjk : j = k
    · subst hjk
      simp [updV, fv, o2, hr, wO, sO, va_rf]
    · simp [updV, fv, wI, wO, sO, hjk]
theorem g_iald {a : Nat} {i : Int32} (hC : CX b own cc n rm) (hd : decode cc pc = .ok (.iaload, 1)) (ho : ob S a 100) (hi : vp_in i (wlen S a)) (kk : G b (pc + 1) L (.int (wI S a i.toNatClampNeg) :: st) S kc ks) : G b pc L (.int i :: .ref a :: st) S kc ks := by
  obtain ⟨p, l, e, R, s, m, args, below, meth, c, D, cA, z, nL, Q⟩ := b
  obtain ⟨hx, hb, hml, how, hts, hK, hz, hn, hR⟩ := hC
  intro H locs ls hH hS hl
  have hlt : i.toNatClampNeg < wlen S a := Nat.not_le.mp fun q => hi (Or.inr q)
  exact W.iald hx hb ((hH.2 a ho.1).2.1 ho.2) ((hK.1.2 0 _ rfl).1 _ _) (fun q => by cases q) (by rw [arrV_size]; exact hi) (by rw [arrV_read _ _ hlt]; rfl) rfl rfl hd (kk H locs ls hH hS hl)
theorem g_zald {a : Nat} {i : Int32} (hC : CX b own cc n rm) (hd : decode cc pc = .ok (.baload, 1)) (ho : ob S a 101) (hi : vp_in i (wlen S a)) (kk : G b (pc + 1) L (.int (wI S a i.toNatClampNeg) :: st) S kc ks) : G b pc L (.int i :: .ref a :: st) S kc ks := by
  obtain ⟨p, l, e, R, s, m, args, below, meth, c, D, cA, z, nL, Q⟩ := b
  obtain ⟨hx, hb, hml, how, hts, hK, hz, hn, hR⟩ := hC
  intro H locs ls hH hS hl
  have hlt : i.toNatClampNeg < wlen S a := Nat.not_le.mp fun q => hi (Or.inr q)
  exact W.zald hx hb ((hH.2 a ho.1).2.2.1 ho.2) ((hK.1.2 1 _ rfl).1 _ _) (fun q => by cases q) (by rw [arrV_size]; exact hi) (by rw [arrV_read _ _ hlt]; rfl) rfl rfl hd (kk H locs ls hH hS hl)
theorem g_alen {a : Nat} (hC : CX b own cc n rm) (hd : decode cc pc = .ok (.arraylength, 1)) (ho : ob S a 100) (kk : G b (pc + 1) L (.int (Int32.ofNat (wlen S a)) :: st) S kc ks) : G b pc L (.ref a :: st) S kc ks := by
  obtain ⟨p, l, e, R, s, m, args, below, meth, c, D, cA, z, nL, Q⟩ := b
  obtain ⟨hx, hb, hml, how, hts, hK, hz, hn, hR⟩ := hC
  intro H locs ls hH hS hl
  exact W.alen hx hb ((hH.2 a ho.1).2.1 ho.2) ((hK.1.2 0 _ rfl).1 _ _) (by rw [arrV_size]) rfl rfl hd (kk H locs ls hH hS hl)
theorem g_iast {a : Nat} {i v : Int32} (hC : CX b own cc n rm) (hd : decode cc pc = .ok (.iastore, 1)) (ho : ob S a 100) (hi : vp_in i (wlen S a)) (kk : G b (pc + 1) L st (sI S a i.toNatClampNeg v) kc ks) : G b pc L (.int v :: .int i :: .ref a :: st) S kc ks := by
  obtain ⟨p, l, e, R, s, m, args, below, meth, c, D, cA, z, nL, Q⟩ := b
  obtain ⟨hx, hb, hml, how, hts, hK, hz, hn, hR⟩ := hC
  intro H locs ls hH hS hl
  obtain ⟨o1, o2⟩ := ho
  refine W.iast hx hb ((hH.2 a o1).2.1 o2) ((hK.1.2 0 _ rfl).1 _ _) (fun q => by cases q) (by rw [arrV_size]; exact hi) rfl rfl hd fun H' e1 e2 e3 => ?_
  rw [arrV_store] at e1
  refine kk H' _ ls (HO.upd (a := a) hH e2 e3 rfl rfl (fun j hj => ?_) (fun _ _ => rfl) ⟨fun q => ?_, fun q => ?_, fun q => ?_, fun q => ?_, fun q => ?_⟩) (hS.put e2 e3 (Nat.le_add_right z a)) hl
  · show (if j = a then _ else _) = _
    rw [if_neg hj]; rfl
  · exfalso; omega
  · rw [e1]
    congr 2
    funext j
    by_cases hj : j = i.toNatClampNeg <;> simp [updV, wI, sI, hj]
  · exfalso; omega
  · exfalso; omega
  · exfalso; omega
theorem g_zast {a : Nat} {i v : Int32} (hC : CX b own cc n rm) (hd : decode cc pc = .ok (.bastore, 1)) (ho : ob S a 101) (hi : vp_in i (wlen S a)) (kk : G b (pc + 1) L st (sI S a i.toNatClampNeg (vp_nar .boolean v)) kc ks) : G b pc L (.int v :: .int i :: .ref a :: st) S kc ks := by
  obtain ⟨p, l, e, R, s, m, args, below, meth, c, D, cA, z, nL, Q⟩ := b
  obtain ⟨hx, hb, hml, how, hts, hK, hz, hn, hR⟩ := hC
  intro H locs ls hH hS hl
  obtain ⟨o1, o2⟩ := ho
  refine W.zast hx hb ((hH.2 a o1).2.2.1 o2) ((hK.1.2 1 _ rfl).1 _ _) (fun q => by cases q) (by rw [arrV_size]; exact hi) rfl rfl hd fun H' e1 e2 e3 => ?_
  rw [arrV_store] at e1
  refine kk H' _ ls (HO.upd (a := a) hH e2 e3 rfl rfl (fun j hj => ?_) (fun _ _ => rfl) ⟨fun q => ?_, fun q => ?_, fun q => ?_, fun q => ?_, fun q => ?_⟩) (hS.put e2 e3 (Nat.le_add_right z a)) hl
  · show (if j = a then _ else _) = _
    rw [if_neg hj]; rfl
  · exfalso; omega
  · exfalso; omega
  · rw [e1]
    congr 2
    funext j
    by_cases hj : j = i.toNatClampNeg
    · subst hj
      simp [updV, wI, sI, vp_nar]
      rfl
    · simp [updV, wI, sI, hj]
  · exfalso; omega
  · exfalso; omega
theorem g_aald2 {a q : Nat} {i : Int32} (hC : CX b own cc n rm) (hd : decode cc pc = .ok (.aaload, 1)) (ho : ob S a 102) (hi : vp_in i (wlen S a)) (hq : wO S a i.toNatClampNeg = some q) (kk : G b (pc + 1) L (.ref q :: st) S kc ks) : G b pc L (.int i :: .ref a :: st) S kc ks := by
  obtain ⟨p, l, e, R, s, m, args, below, meth, c, D, cA, z, nL, Q⟩ := b
  obtain ⟨hx, hb, hml, how, hts, hK, hz, hn, hR⟩ := hC
  intro H locs ls hH hS hl
  have hlt : i.toNatClampNeg < wlen S a := Nat.not_le.mp fun q => hi (Or.inr q)
  exact W.aald (v := .ref (z + q)) (ty := .object "LoadBourse$Sheet") hx hb ((hH.2 a ho.1).2.2.2.1 ho.2) ((hK.1.2 2 _ rfl).1 _ _) rfl (fun q => by cases q) (by rw [arrV_size]; exact hi) (by rw [arrV_read _ _ hlt, hq]; rfl) rfl rfl hd (kk H locs ls hH hS hl)
theorem g_aald3 {a q : Nat} {i : Int32} (hC : CX b own cc n rm) (hd : decode cc pc = .ok (.aaload, 1)) (ho : ob S a 103) (hi : vp_in i (wlen S a)) (hq : wO S a i.toNatClampNeg = some q) (kk : G b (pc + 1) L (.ref q :: st) S kc ks) : G b pc L (.int i :: .ref a :: st) S kc ks := by
  obtain ⟨p, l, e, R, s, m, args, below, meth, c, D, cA, z, nL, Q⟩ := b
  obtain ⟨hx, hb, hml, how, hts, hK, hz, hn, hR⟩ := hC
  intro H locs ls hH hS hl
  have hlt : i.toNatClampNeg < wlen S a := Nat.not_le.mp fun q => hi (Or.inr q)
  exact W.aald (v := .ref (z + q)) (ty := .array .int) hx hb ((hH.2 a ho.1).2.2.2.2 ho.2) ((hK.1.2 3 _ rfl).1 _ _) rfl (fun q => by cases q) (by rw [arrV_size]; exact hi) (by rw [arrV_read _ _ hlt, hq]; rfl) rfl rfl hd (kk H locs ls hH hS hl)
theorem g_aast2 {a q : Nat} {i : Int32} (hC : CX b own cc n rm) (hd : decode cc pc = .ok (.aastore, 1)) (ho : ob S a 102) (hi : vp_in i (wlen S a)) (hq : ob S q 7) (kk : G b (pc + 1) L st (sO S a i.toNatClampNeg (some q)) kc ks) : G b pc L (.ref q :: .int i :: .ref a :: st) S kc ks := by
  obtain ⟨p, l, e, R, s, m, args, below, meth, c, D, cA, z, nL, Q⟩ := b
  obtain ⟨hx, hb, hml, how, hts, hK, hz, hn, hR⟩ := hC
  intro H locs ls hH hS hl
  obtain ⟨o1, o2⟩ := ho
  have hlt : i.toNatClampNeg < wlen S a := Nat.not_le.mp fun q => hi (Or.inr q)
  have h0 : ¬ i < 0 := fun q => hi (Or.inl q)
  obtain ⟨cellV, g1, g2, g3, -⟩ := (hH.2 q hq.1).1 (by rw [hq.2]; decide)
  rw [hq.2] at g2
  have hcls := (hK.1.1 7 _ rfl).2
  obtain ⟨kA, comp, k1, k2, k3, -⟩ := (hK.1.2 2 _ rfl).2
  have hcomp : comp = D.1 7 := Option.some.inj (k3.symm.trans hcls.1)
  subst hcomp
  obtain ⟨kC, hkC, -⟩ := hcls.2
  refine W.aast hx hb ((hH.2 a o1).2.2.2.1 o2) (fun q h => by cases h) (fun h => by cases h) k1 k2 rfl hkC ⟨h0, by rw [arrV_size]; exact hlt⟩ g1 (fun q h => by rw [g3] at h; cases h) (by rw [g2]; exact hkC) (by rw [g2]; exact va_asg _ _) rfl rfl hd fun H' e1 e2 e3 => ?_
  rw [arrV_store] at e1
  refine kk H' _ ls (HO.upd (a := a) hH e2 e3 rfl rfl (fun _ _ => rfl) (fun j hj => ?_) ⟨fun q => ?_, fun q => ?_, fun q => ?_, fun q => ?_, fun q => ?_⟩) (hS.put e2 e3 (Nat.le_add_right z a)) hl
  · show (if j = a then _ else _) = _
    rw [if_neg hj]; rfl
  · exfalso; omega
  · exfalso; omega
  · exfalso; omega
  · rw [e1]
    congr 2
    funext j
    by_cases hj : j = i.toNatClampNeg <;> simp [updV, wO, sO, hj, va_rf]
  · exfalso; omega
theorem g_aast3 {a q : Nat} {i : Int32} (hC : CX b own cc n rm) (hd : decode cc pc = .ok (.aastore, 1)) (ho : ob S a 103) (hi : vp_in i (wlen S a)) (hq : ob S q 100) (kk : G b (pc + 1) L st (sO S a i.toNatClampNeg (some q)) kc ks) : G b pc L (.ref q :: .int i :: .ref a :: st) S kc ks := by
  obtain ⟨p, l, e, R, s, m, args, below, meth, c, D, cA, z, nL, Q⟩ := b
  obtain ⟨hx, hb, hml, how, hts, hK, hz, hn, hR⟩ := hC
  intro H locs ls hH hS hl
  obtain ⟨o1, o2⟩ := ho
  have hlt : i.toNatClampNeg < wlen S a := Nat.not_le.mp fun q => hi (Or.inr q)
  have h0 : ¬ i < 0 := fun q => hi (Or.inl q)
  have g1 := (hH.2 q hq.1).2.1 hq.2
  obtain ⟨comp, cX, kX, x1, x2, x3, x4, x5⟩ := arrayOverA_spec hK.2.2.2.2
  have hI : s.vm.findClass ("[" ++ FieldType.int.toString) = some (cA 0) := (hK.1.2 0 _ rfl).2
  have hII : s.vm.findClass ("[" ++ (FieldType.array .int).toString) = some (cA 3) := (hK.1.2 3 _ rfl).2
  have hc3 : cX = cA 3 := Option.some.inj (x5.symm.trans hII)
  have hc0 : comp = cA 0 := Option.some.inj (x1.symm.trans hI)
  subst hc3; subst hc0
  obtain ⟨kC, hkC, -⟩ := Vm.findClass_spec hI
  refine W.aast hx hb ((hH.2 a o1).2.2.2.2 o2) (fun q h => by cases h) (fun h => by cases h) x3 x4 rfl hkC ⟨h0, by rw [arrV_size]; exact hlt⟩ g1 (fun q h => by cases h) hkC (va_asg _ _) rfl rfl hd fun H' e1 e2 e3 => ?_
  rw [arrV_store] at e1
  refine kk H' _ ls (HO.upd (a := a) hH e2 e3 rfl rfl (fun _ _ => rfl) (fun j hj => ?_) ⟨fun q => ?_, fun q => ?_, fun q => ?_, fun q => ?_, fun q => ?_⟩) (hS.put e2 e3 (Nat.le_add_right z a)) hl
  · show (if j = a then _ else _) = _
    rw [if_neg hj]; rfl
  · exfalso; omega
  · exfalso; omega
  · exfalso; omega
  · exfalso; omega
  · rw [e1]
    congr 2
    funext j
    by_cases hj : j = i.toNatClampNeg <;> simp [updV, wO, sO, hj, va_rf]
end GH
end
section
/-! ROWS that make cells, call and return -/
section GM
variable {b : Bd} {own : String} {cc : ByteArray} {n : Nat} {rm : Room} {pc : Nat} {L L' : List (Nat × Value)} {st : List Value} {S : Wd} {kc ks : Nat}
theorem va_S.pushed {A : Nat → Prop} {H0 H H' : Heap} {locs : List Loc} (hS : va_S A H0 H locs) (hz : H.size ≤ H'.size) (ho : ∀ q, q < H.size → H'[q]? = H[q]?) : va_S A H0 H' locs :=
  ⟨Nat.le_trans hS.1 hz, fun q h1 h2 => (ho q (Nat.lt_of_lt_of_le h1 hS.1)).trans (hS.2.1 q h1 h2), hS.2.2⟩
theorem g_new {ci : Nat} {C : String} {T : u_T} {N : Nat} {ty : Nat → FieldType} {i : Nat} (hC : CX b own cc n rm) (ck : ClOk ci C T N ty) (hw : Cond.classLink own i C ∈ gwL) (hins : Cond.instantiable C N ∈ gwL) (hini : Cond.initialized C ∈ gwL) (hd : decode cc pc = .ok (.new i, 3)) (hk : (kT (wn S)).1 = ci) (hc : kc + 1 ≤ rm.cells) (hs : ks + N ≤ rm.slots)
    (kk : G b (pc + 3) L (.ref (wn S) :: st) (sN S 0) (kc + 1) (ks + N)) : G b pc L st S kc ks := by
  obtain ⟨p, l, e, R, s, m, args, below, meth, c, D, cA, z, nL, Q⟩ := b
  obtain ⟨hx, hb, hml, how, hts, hK, hz, hn, hR⟩ := hC
  intro H locs ls hH hS hl
  subst hR
  obtain ⟨c1, c2, c3, c4, c5, c6, c7⟩ := ck
  have hKn := hK.1.1 ci _ c1
  refine W.newcK hx hb how (hts _ hw) (hts _ hins) (hts _ hini) rfl hd hc hs hKn.2.1 hH.1 fun H' kC hkC e1 z1 o1 => ?_
  have o2 : ∀ q, q < H.size → H'[q]? = H[q]? := fun q hq => o1 q (by rw [← hH.1]; exact hq)
  have z2 : H'.size = H.size + 1 := by rw [z1, hH.1]
  refine kk H' locs ls (HO.new hH z2 o2 (cAt.obj hk c6 ?_)) (hS.pushed (by omega) o2) hl
  rw [c5]
  refine (u_born ty hts c2 hKn hkC e1 c3).to (fun k hkN => ?_)
  rw [c7 k hkN]
  have x1 : wO (sN S 0) (wn S) k = none := by
    show (if S.1 = S.1 then (fun _ => none) else _) k = none
    rw [if_pos rfl]
  have x2 : wI (sN S 0) (wn S) k = 0 := by
    show (if S.1 = S.1 then (fun _ => (0 : Int32)) else _) k = 0
    rw [if_pos rfl]
  simp only [fv, hk, x1, x2]
  rfl
theorem g_newi {k : Int32} (hC : CX b own cc n rm) (hw : Cond.arrayClass .int ∈ gwL) (hd : decode cc pc = .ok (.newarray .int, 2)) (h0 : ¬ k < 0) (hle : k.toNatClampNeg ≤ 100000) (hk : (kT (wn S)).1 = 100) (hlen : wlen (sN S k.toNatClampNeg) (wn S) = k.toNatClampNeg) (hc : kc + 1 ≤ rm.cells) (hs : ks + k.toNatClampNeg ≤ rm.slots)
    (kk : G b (pc + 2) L (.ref (wn S) :: st) (sN S k.toNatClampNeg) (kc + 1) (ks + k.toNatClampNeg)) : G b pc L (.int k :: st) S kc ks := by
  obtain ⟨p, l, e, R, s, m, args, below, meth, c, D, cA, z, nL, Q⟩ := b
  obtain ⟨hx, hb, hml, how, hts, hK, hz, hn, hR⟩ := hC
  intro H locs ls hH hS hl
  subst hR
  refine va_newaK (atype := .int) hx hb (hts _ hw) rfl hd rfl h0 rfl (by show _ * 4 ≤ _; omega) hc hs hH.1 fun H' cX e1 z1 o1 hA hN => ?_
  have hI : s.vm.findClass ("[" ++ FieldType.int.toString) = some (cA 0) := (hK.1.2 0 _ rfl).2
  have hc0 : cX = cA 0 := Option.some.inj (hN.symm.trans hI)
  subst hc0
  have o2 : ∀ q, q < H.size → H'[q]? = H[q]? := fun q hq => o1 q (by rw [← hH.1]; exact hq)
  have z2 : H'.size = H.size + 1 := by rw [z1, hH.1]
  refine kk H' locs ls (HO.new hH z2 o2 ⟨fun q => ?_, fun q => ?_, fun q => ?_, fun q => ?_, fun q => ?_⟩) (hS.pushed (by omega) o2) hl
  · exfalso; omega
  · rw [e1, hlen]
    congr 2
    funext j
    simp [wI, sN, wn]
    rfl
  · exfalso; omega
  · exfalso; omega
  · exfalso; omega
theorem g_newz {k : Int32} (hC : CX b own cc n rm) (hw : Cond.arrayClass .boolean ∈ gwL) (hd : decode cc pc = .ok (.newarray .boolean, 2)) (h0 : ¬ k < 0) (hle : k.toNatClampNeg ≤ 100000) (hk : (kT (wn S)).1 = 101) (hlen : wlen (sN S k.toNatClampNeg) (wn S) = k.toNatClampNeg) (hc : kc + 1 ≤ rm.cells) (hs : ks + k.toNatClampNeg ≤ rm.slots)
    (kk : G b (pc + 2) L (.ref (wn S) :: st) (sN S k.toNatClampNeg) (kc + 1) (ks + k.toNatClampNeg)) : G b pc L (.int k :: st) S kc ks := by
  obtain ⟨p, l, e, R, s, m, args, below, meth, c, D, cA, z, nL, Q⟩ := b
  obtain ⟨hx, hb, hml, how, hts, hK, hz, hn, hR⟩ := hC
  intro H locs ls hH hS hl
  subst hR
  refine va_newaK (atype := .boolean) hx hb (hts _ hw) rfl hd rfl h0 rfl (by show _ * 1 ≤ _; omega) hc hs hH.1 fun H' cX e1 z1 o1 hA hN => ?_
  have hI : s.vm.findClass ("[" ++ FieldType.boolean.toString) = some (cA 1) := (hK.1.2 1 _ rfl).2
  have hc0 : cX = cA 1 := Option.some.inj (hN.symm.trans hI)
  subst hc0
  have o2 : ∀ q, q < H.size → H'[q]? = H[q]? := fun q hq => o1 q (by rw [← hH.1]; exact hq)
  have z2 : H'.size = H.size + 1 := by rw [z1, hH.1]
  refine kk H' locs ls (HO.new hH z2 o2 ⟨fun q => ?_, fun q => ?_, fun q => ?_, fun q => ?_, fun q => ?_⟩) (hS.pushed (by omega) o2) hl
  · exfalso; omega
  · exfalso; omega
  · rw [e1, hlen]
    congr 2
    funext j
    simp [wI, sN, wn]
    rfl
  · exfalso; omega
  · exfalso; omega
theorem g_new2 {k : Int32} {i : Nat} (hC : CX b own cc n rm) (hw : Cond.classLink own i "LoadBourse$Sheet" ∈ gwL) (hd : decode cc pc = .ok (.anewarray i, 3)) (h0 : ¬ k < 0) (hle : k.toNatClampNeg ≤ 100000) (hk : (kT (wn S)).1 = 102) (hlen : wlen (sN S k.toNatClampNeg) (wn S) = k.toNatClampNeg) (hc : kc + 1 ≤ rm.cells) (hs : ks + k.toNatClampNeg ≤ rm.slots)
    (kk : G b (pc + 3) L (.ref (wn S) :: st) (sN S k.toNatClampNeg) (kc + 1) (ks + k.toNatClampNeg)) : G b pc L (.int k :: st) S kc ks := by
  obtain ⟨p, l, e, R, s, m, args, below, meth, c, D, cA, z, nL, Q⟩ := b
  obtain ⟨hx, hb, hml, how, hts, hK, hz, hn, hR⟩ := hC
  intro H locs ls hH hS hl
  subst hR
  refine W.anew hx hb how (hts _ hw) (va_AO.use hK.2.2.2.1) rfl hd rfl h0 (by omega) hc hs fun cX kA comp f1 f2 f3 f4 => ?_
  have hI : s.vm.findClass ("[" ++ (FieldType.object "LoadBourse$Sheet").toString) = some (cA 2) := by
    obtain ⟨kA', comp', k1, k2, k3, k4⟩ := (hK.1.2 2 _ rfl).2
    exact k4
  have hc0 : cX = cA 2 := by
    first
      | exact Option.some.inj (f1.symm.trans hI)
      | exact Option.some.inj (f4.symm.trans hI)
      | exact Option.some.inj (f2.symm.trans hI)
  subst hc0
  generalize hH1 : H.push _ = H'
  have z2 : H'.size = H.size + 1 := by rw [← hH1, Array.size_push]
  have e1 : H'[H.size]? = some (arrV (cA 2) k.toNatClampNeg (fun _ => .null)) := by rw [← hH1, Array.getElem?_push_size, ← arrV_new]
  have o2 : ∀ q, q < H.size → H'[q]? = H[q]? := fun q hq => by rw [← hH1, Array.getElem?_push, if_neg (Nat.ne_of_lt hq)]
  rw [hH.1] at e1 ⊢
  refine kk H' locs ls (HO.new hH z2 o2 ⟨fun q => ?_, fun q => ?_, fun q => ?_, fun q => ?_, fun q => ?_⟩) (hS.pushed (by omega) o2) hl
  · exfalso; omega
  · exfalso; omega
  · exfalso; omega
  · rw [e1, hlen]
    congr 2
    funext j
    simp [wO, sN, wn, va_rf]
  · exfalso; omega
theorem g_new3 {k : Int32} {i : Nat} (hC : CX b own cc n rm) (hw : Cond.classLink own i "[I" ∈ gwL) (hd : decode cc pc = .ok (.anewarray i, 3)) (h0 : ¬ k < 0) (hle : k.toNatClampNeg ≤ 100000) (hk : (kT (wn S)).1 = 103) (hlen : wlen (sN S k.toNatClampNeg) (wn S) = k.toNatClampNeg) (hc : kc + 1 ≤ rm.cells) (hs : ks + k.toNatClampNeg ≤ rm.slots)
    (kk : G b (pc + 3) L (.ref (wn S) :: st) (sN S k.toNatClampNeg) (kc + 1) (ks + k.toNatClampNeg)) : G b pc L (.int k :: st) S kc ks := by
  obtain ⟨p, l, e, R, s, m, args, below, meth, c, D, cA, z, nL, Q⟩ := b
  obtain ⟨hx, hb, hml, how, hts, hK, hz, hn, hR⟩ := hC
  intro H locs ls hH hS hl
  subst hR
  refine W.anewA (t := .int) hx hb how (hts _ hw) (over_moved (Vm.Alike.refl _) hK.2.2.2.2) rfl hd rfl h0 (by omega) hc hs fun cX kA comp f1 f2 f3 f4 => ?_
  have hI : s.vm.findClass ("[" ++ (FieldType.array .int).toString) = some (cA 3) := (hK.1.2 3 _ rfl).2
  have hc0 : cX = cA 3 := Option.some.inj (f1.symm.trans hI)
  subst hc0
  generalize hH1 : H.push _ = H'
  have z2 : H'.size = H.size + 1 := by rw [← hH1, Array.size_push]
  have e1 : H'[H.size]? = some (arrV (cA 3) k.toNatClampNeg (fun _ => .null)) := by rw [← hH1, Array.getElem?_push_size, ← arrV_new]
  have o2 : ∀ q, q < H.size → H'[q]? = H[q]? := fun q hq => by rw [← hH1, Array.getElem?_push, if_neg (Nat.ne_of_lt hq)]
  rw [hH.1] at e1 ⊢
  refine kk H' locs ls (HO.new hH z2 o2 ⟨fun q => ?_, fun q => ?_, fun q => ?_, fun q => ?_, fun q => ?_⟩) (hS.pushed (by omega) o2) hl
  · exfalso; omega
  · exfalso; omega
  · exfalso; omega
  · exfalso; omega
  · rw [e1, hlen]
    congr 2
    funext j
    simp [wO, sN, wn, va_rf]
theorem cat_map (z : Nat) (rest : List Value) : ((rest.map (cv z)).map fun v => v.category) = rest.map fun v => v.category := by
  rw [List.map_map]
  exact List.map_congr_left fun v _ => cv_cat z v
theorem g_obj {i a : Nat} (hC : CX b own cc n rm) (hw : Cond.methodLink own i Lib.objectInit ∈ gwL) (hi : Cond.instanceMethod Lib.objectInit ∈ gwL) (hco : Cond.code Lib.objectInit ⟨#[0xb1]⟩ 1 none ∈ gwL) (hd : decode cc pc = .ok (.invokespecial i, 3)) (h1 : 1 ≤ rm.frames) (h2 : (st.map fun v => v.category).sum + 12 ≤ rm.locals) (kk : G b (pc + 3) L st S kc ks) : G b pc L (.ref a :: st) S kc ks := by
  obtain ⟨p, l, e, R, s, m, args, below, meth, c, D, cA, z, nL, Q⟩ := b
  obtain ⟨hx, hb, hml, how, hts, hK, hz, hn, hR⟩ := hC
  intro H locs ls hH hS hl
  subst hR
  exact W.objInit hx hb how (hts _ hw) (hts _ hi) (hts _ hco) rfl (by rw [hml]; exact hl.1) rfl hd h1 (by show 2 * 0 + ((st.map (cv z)).map fun v => v.category).sum + 12 ≤ _; rw [cat_map]; omega) (kk H locs ls hH hS hl)
theorem g_iret {v : Int32} {mc ms : Nat} (hC : CX b own cc n rm) (hR : RT b (some .int) (some (.int v)) S mc ms) (hd : decode cc pc = .ok (.ireturn, 1)) (h1 : kc ≤ mc) (h2 : ks ≤ ms) : G b pc L [.int v] S kc ks := by
  obtain ⟨p, l, e, R, s, m, args, below, meth, c, D, cA, z, nL, Q⟩ := b
  obtain ⟨hx, hb, hml, how, hts, hK, hz, hn, -⟩ := hC
  obtain ⟨hr, hlocks, hQ⟩ := hR
  subst hQ
  intro H locs ls hH hS hl
  exact W.widen h1 h2 (W.iret (v := v) hx hb hr (fun t ht hW => ⟨rfl, by rw [ht]; exact hH, hS.F ht⟩) hS.2.2 hd hlocks)
theorem g_zret {v : Int32} {mc ms : Nat} (hC : CX b own cc n rm) (hR : RT b (some .boolean) (some (.int v)) S mc ms) (hv : narrow .boolean (.int v) = .int v) (hd : decode cc pc = .ok (.ireturn, 1)) (h1 : kc ≤ mc) (h2 : ks ≤ ms) : G b pc L [.int v] S kc ks := by
  obtain ⟨p, l, e, R, s, m, args, below, meth, c, D, cA, z, nL, Q⟩ := b
  obtain ⟨hx, hb, hml, how, hts, hK, hz, hn, -⟩ := hC
  obtain ⟨hr, hlocks, hQ⟩ := hR
  subst hQ
  intro H locs ls hH hS hl
  exact W.widen h1 h2 (W.zret (v := v) hx hb hr hv (fun t ht hW => ⟨rfl, by rw [ht]; exact hH, hS.F ht⟩) hS.2.2 hd hlocks)
theorem g_vret {mc ms : Nat} (hC : CX b own cc n rm) (hR : RT b none none S mc ms) (hd : decode cc pc = .ok (.return_, 1)) (h1 : kc ≤ mc) (h2 : ks ≤ ms) : G b pc L [] S kc ks := by
  obtain ⟨p, l, e, R, s, m, args, below, meth, c, D, cA, z, nL, Q⟩ := b
  obtain ⟨hx, hb, hml, how, hts, hK, hz, hn, -⟩ := hC
  obtain ⟨hr, hlocks, hQ⟩ := hR
  subst hQ
  intro H locs ls hH hS hl
  exact W.widen h1 h2 (W.vret hx hb hr (fun t ht hW => ⟨rfl, by rw [ht]; exact hH, hS.F ht⟩) hS.2.2 hd hlocks)
theorem g_aret {a : Nat} {t : FieldType} {mc ms : Nat} (hC : CX b own cc n rm) (hR : RT b (some (.array t)) (some (.ref a)) S mc ms) (hd : decode cc pc = .ok (.areturn, 1)) (h1 : kc ≤ mc) (h2 : ks ≤ ms) : G b pc L [.ref a] S kc ks := by
  obtain ⟨p, l, e, R, s, m, args, below, meth, c, D, cA, z, nL, Q⟩ := b
  obtain ⟨hx, hb, hml, how, hts, hK, hz, hn, -⟩ := hC
  obtain ⟨hr, hlocks, hQ⟩ := hR
  subst hQ
  intro H locs ls hH hS hl
  exact W.widen h1 h2 (W.aret (v := .ref (z + a)) hx hb hr (Or.inr ⟨t, rfl⟩) (Or.inr ⟨_, rfl⟩) (fun t ht hW => ⟨rfl, by rw [ht]; exact hH, hS.F ht⟩) hS.2.2 hd hlocks)
end GM
/-! calls -/
theorem run_goes {p : Program} {l : Launch} {e : Env} {R : Room} {s : State} {m : MethodId} {args : Array Value} {below : List Frame} {meth : Method} {c : Code} {H : Heap} {locs : List Loc} {kc ks mc ms : Nat} {Q : State → Prop} {D : va_G} {cA : Nat → ClassId} {z pc : Nat} {ls : Array Slot} {st0 rest : List Value} {rv : Option Value} {S' : Wd} {a : Array Value}
    (hr : va_Run p l e R s m args below meth c H locs kc ks mc ms (F0 m pc ls st0) (rest.map (cv z)) (QP D cA z rv S' a) (fun q => z ≤ q)) (hS : va_S (fun q => z ≤ q) s.heap H locs)
    (kk : ∀ (H1 : Heap) (locs1 : List Loc), HO D cA z S' H1 → va_S (fun q => z ≤ q) s.heap H1 locs1 → W p l e R s m args below meth c H1 locs1 (kc + mc) (ks + ms) Q (F0 m (pc + 3) ls ((rv.toList ++ rest).map (cv z)))) : W p l e R s m args below meth c H locs kc ks Q (F0 m pc ls st0) := by
  intro T hT X
  obtain ⟨v, st₀, t, T', Lx, h0, X', hL, e1, e2, ⟨hv, hHO, hz, hk⟩, stp⟩ := hr T hT X
  cases hv
  rw [h0] at hz hk
  obtain ⟨t2, a1, b1⟩ := kk T'.heap (locs ++ Lx) (by rw [e1]; exact hHO)
    ⟨Nat.le_trans hS.1 (by rw [e1]; exact hz), fun q h1 h2 => by rw [e1, hk q (Nat.lt_of_lt_of_le h1 hS.1) h2]; exact hS.2.1 q h1 h2, fun q hq => by
      rcases List.mem_append.mp hq with h | h
      · exact hS.2.2 q h
      · exact hL q h⟩ T' rfl X'
  refine ⟨t2, stp t2 ?_, b1⟩
  have hse : (rv.map (cv z)).toList ++ rest.map (cv z) = (rv.toList ++ rest).map (cv z) := by cases rv <;> simp
  show Steps _ _ _ (T'.setTop (F0 m (pc + 3) ls ((rv.map (cv z)).toList ++ rest.map (cv z)))) t2
  rw [hse]
  exact a1
/-- what is known of a method -/
abbrev MI (y : MethodName) (cc : ByteArray) (n : Nat) (ret : Option FieldType) (np : Nat) : Prop := Cond.code y cc n ret ∈ gwL ∧ Cond.initialized y.cls ∈ gwL ∧ y.cls ≠ "java/lang/invoke/MethodHandle" ∧ y.cls ≠ "java/lang/invoke/VarHandle" ∧ (parseMethodDescriptor y.desc).map (fun d => d.parameters.length) = some np
theorem MI.good {y : MethodName} {cc : ByteArray} {n : Nat} {ret : Option FieldType} {np : Nat} (h : MI y cc n ret np) : GoodIn gwL (.code y cc n ret :: gwL) := by
  intro w hw
  rcases List.mem_cons.mp hw with rfl | hw
  · exact gw_goodIn2 _ h.1
  · exact gw_goodIn2 _ hw
section GC
variable {b : Bd} {own : String} {cc : ByteArray} {n : Nat} {rm : Room} {pc : Nat} {L L' : List (Nat × Value)} {st : List Value} {S : Wd} {kc ks : Nat}
variable {y : MethodName} {c2 : ByteArray} {n2 np fr lo mc ms i a : Nat} {ret : Option FieldType} {av As rest : List Value} {rv : Option Value} {S' : Wd}
theorem g_callS (hC : CX b own cc n rm) (hm : MI y c2 n2 ret np) (hs : Sp y c2 n2 ret fr lo mc ms av S rv S') (hlink : Cond.methodLink own i y ∈ gwL) (hstat : Cond.static y ∈ gwL) (hd : decode cc pc = .ok (.invokestatic i, 3)) (hst : st = av.reverse ++ rest) (hnp : av.length = np) (hR : fr + 1 ≤ rm.frames ∧ 8 + (n2 + 11) + lo ≤ rm.locals) (hW : (rest.map fun v => v.category).sum ≤ 8) (hf : kc + mc ≤ rm.cells ∧ ks + ms ≤ rm.slots)
    (kk : G b (pc + 3) L (rv.toList ++ rest) S' (kc + mc) (ks + ms)) : G b pc L st S kc ks := by
  obtain ⟨p, l, e, R, s, m, args, below, meth, c, D, cA, z, nL, Q⟩ := b
  obtain ⟨hx, hb, hml, how, hts, hK, hz, hn, hRm⟩ := hC
  intro H locs ls hH hS hl
  subst hRm; subst hst
  refine run_goes (rest := rest) (va_runS (As := av.map (cv z)) (rest := rest.map (cv z)) ⟨hx, hb, hml, how, hts⟩ (hs l D cA z) ⟨callB_of np hts hm.good rfl rfl rfl (hts _ hm.2.1) (hts _ hlink) hm.2.2 hR, hts _ hstat⟩ ⟨PC.blind, fun U hU hWm => ⟨rfl, by rw [hU]; exact hH, hK.warm hWm⟩⟩ rfl (by rw [List.length_map]; exact hnp) hl.1 (by simp [F0]) (lv_room (by rw [cat_map]; exact hW)) hd hf) hS ?_
  intro H1 locs1 hH1 hS1
  exact kk H1 locs1 ls hH1 hS1 hl
theorem g_callSN {host : String} (hC : CX b own cc n rm) (hm : MI y c2 n2 ret np) (hs : Sp y c2 n2 ret fr lo mc ms av S rv S') (hlink : Cond.methodLinkNest own i y host ∈ nwL) (hstat : Cond.static y ∈ gwL) (hd : decode cc pc = .ok (.invokestatic i, 3)) (hst : st = av.reverse ++ rest) (hnp : av.length = np) (hR : fr + 1 ≤ rm.frames ∧ 8 + (n2 + 11) + lo ≤ rm.locals) (hW : (rest.map fun v => v.category).sum ≤ 8) (hf : kc + mc ≤ rm.cells ∧ ks + ms ≤ rm.slots)
    (kk : G b (pc + 3) L (rv.toList ++ rest) S' (kc + mc) (ks + ms)) : G b pc L st S kc ks := by
  obtain ⟨p, l, e, R, s, m, args, below, meth, c, D, cA, z, nL, Q⟩ := b
  obtain ⟨hx, hb, hml, how, hts, hK, hz, hn, hRm⟩ := hC
  intro H locs ls hH hS hl
  subst hRm; subst hst
  refine run_goes (rest := rest) (va_runSN (As := av.map (cv z)) (rest := rest.map (cv z)) ⟨hx, hb, hml, how, hts⟩ (hs l D cA z) ⟨va_cnB np hts hm.good rfl rfl rfl (hK.2.1 _ hlink) (hts _ hm.2.1) hm.2.2 hR, hts _ hstat, trivial⟩ ⟨PC.blind, fun U hU hWm => ⟨rfl, by rw [hU]; exact hH, hK.warm hWm⟩⟩ rfl (by rw [List.length_map]; exact hnp) hl.1 (by simp [F0]) (lv_room (by rw [cat_map]; exact hW)) hd hf) hS ?_
  intro H1 locs1 hH1 hS1
  exact kk H1 locs1 ls hH1 hS1 hl
theorem g_callV {ci : Nat} {T : u_T} {N : Nat} (hC : CX b own cc n rm) (hm : MI y c2 n2 ret np) (hs : Sp y c2 n2 ret fr lo mc ms (.ref a :: As) S rv S') (hcl : clL[ci]? = some (y.cls, T, N)) (hci : ci < 100) (ho : ob S a ci) (hlink : Cond.methodLink own i y ∈ gwL) (hinst : Cond.instanceMethod y ∈ gwL) (hsel : Cond.selects y.cls y y ∈ gwL) (hd : decode cc pc = .ok (.invokevirtual i, 3)) (hst : st = As.reverse ++ .ref a :: rest) (hnp : As.length = np) (hR : fr + 1 ≤ rm.frames ∧ 8 + (n2 + 11) + lo ≤ rm.locals) (hW : (rest.map fun v => v.category).sum ≤ 8) (hf : kc + mc ≤ rm.cells ∧ ks + ms ≤ rm.slots)
    (kk : G b (pc + 3) L (rv.toList ++ rest) S' (kc + mc) (ks + ms)) : G b pc L st S kc ks := by
  obtain ⟨p, l, e, R, s, m, args, below, meth, c, D, cA, z, nL, Q⟩ := b
  obtain ⟨hx, hb, hml, how, hts, hK, hz, hn, hRm⟩ := hC
  intro H locs ls hH hS hl
  subst hRm; subst hst
  obtain ⟨cell, q1, q2, q3, -⟩ := (hH.2 a ho.1).1 (by rw [ho.2]; exact hci)
  rw [ho.2] at q2
  refine run_goes (rest := rest) (va_runV (C := y.cls) (b := z + a) (As := As.map (cv z)) (rest := rest.map (cv z)) ⟨hx, hb, hml, how, hts⟩ (hs l D cA z) ⟨callB_of np hts hm.good rfl rfl rfl (hts _ hm.2.1) (hts _ hlink) hm.2.2 hR, hts _ hinst, hts _ hsel⟩ ⟨PC.blind, ⟨cell, q1, by rw [q3]; rfl, by rw [q2]; exact (hK.1.1 ci _ hcl).2.1⟩, fun U hU hWm => ⟨rfl, by rw [hU]; exact hH, hK.warm hWm⟩⟩ rfl (by rw [List.length_map]; exact hnp) hl.1 (by simp [F0, cv]) (lv_room (by rw [cat_map]; exact hW)) hd hf) hS ?_
  intro H1 locs1 hH1 hS1
  exact kk H1 locs1 ls hH1 hS1 hl
theorem g_callI (hC : CX b own cc n rm) (hm : MI y c2 n2 none np) (hs : Sp y c2 n2 none fr lo mc ms (.ref a :: As) S none S') (hyn : y.name = "<init>") (hlink : Cond.methodLink own i y ∈ gwL) (hinst : Cond.instanceMethod y ∈ gwL) (hd : decode cc pc = .ok (.invokespecial i, 3)) (hst : st = As.reverse ++ .ref a :: rest) (hnp : As.length = np) (hR : fr + 1 ≤ rm.frames ∧ 8 + (n2 + 11) + lo ≤ rm.locals) (hW : (rest.map fun v => v.category).sum ≤ 8) (hf : kc + mc ≤ rm.cells ∧ ks + ms ≤ rm.slots)
    (kk : G b (pc + 3) L rest S' (kc + mc) (ks + ms)) : G b pc L st S kc ks := by
  obtain ⟨p, l, e, R, s, m, args, below, meth, c, D, cA, z, nL, Q⟩ := b
  obtain ⟨hx, hb, hml, how, hts, hK, hz, hn, hRm⟩ := hC
  intro H locs ls hH hS hl
  subst hRm; subst hst
  refine run_goes (rest := rest) (va_runI (b := z + a) (As := As.map (cv z)) (rest := rest.map (cv z)) ⟨hx, hb, hml, how, hts⟩ (hs l D cA z) ⟨callB_of np hts hm.good rfl rfl rfl (hts _ hm.2.1) (hts _ hlink) hm.2.2 hR, hyn, hts _ hinst⟩ ⟨PC.blind, fun U hU hWm => ⟨rfl, by rw [hU]; exact hH, hK.warm hWm⟩⟩ rfl (by rw [List.length_map]; exact hnp) hl.1 (by simp [F0, cv]) (lv_room (by rw [cat_map]; exact hW)) hd hf) hS ?_
  intro H1 locs1 hH1 hS1
  exact kk H1 locs1 ls hH1 hS1 hl
theorem g_callIN {host : String} (hC : CX b own cc n rm) (hm : MI y c2 n2 none np) (hs : Sp y c2 n2 none fr lo mc ms (.ref a :: As) S none S') (hyn : y.name = "<init>") (hlink : Cond.methodLinkNest own i y host ∈ nwL) (hinst : Cond.instanceMethod y ∈ gwL) (hd : decode cc pc = .ok (.invokespecial i, 3)) (hst : st = As.reverse ++ .ref a :: rest) (hnp : As.length = np) (hR : fr + 1 ≤ rm.frames ∧ 8 + (n2 + 11) + lo ≤ rm.locals) (hW : (rest.map fun v => v.category).sum ≤ 8) (hf : kc + mc ≤ rm.cells ∧ ks + ms ≤ rm.slots)
    (kk : G b (pc + 3) L rest S' (kc + mc) (ks + ms)) : G b pc L st S kc ks := by
  obtain ⟨p, l, e, R, s, m, args, below, meth, c, D, cA, z, nL, Q⟩ := b
  obtain ⟨hx, hb, hml, how, hts, hK, hz, hn, hRm⟩ := hC
  intro H locs ls hH hS hl
  subst hRm; subst hst
  refine run_goes (rest := rest) (va_runIN (b := z + a) (As := As.map (cv z)) (rest := rest.map (cv z)) ⟨hx, hb, hml, how, hts⟩ (hs l D cA z) ⟨va_cnB np hts hm.good rfl rfl rfl (hK.2.1 _ hlink) (hts _ hm.2.1) hm.2.2 hR, hyn, hts _ hinst⟩ ⟨PC.blind, fun U hU hWm => ⟨rfl, by rw [hU]; exact hH, hK.warm hWm⟩⟩ rfl (by rw [List.length_map]; exact hnp) hl.1 (by simp [F0, cv]) (lv_room (by rw [cat_map]; exact hW)) hd hf) hS ?_
  intro H1 locs1 hH1 hS1
  exact kk H1 locs1 ls hH1 hS1 hl
end GC
end
section
/-! System.arraycopy between int arrays, clone of an int array, the cast behind it -/
theorem i32_nn {z : Int32} (hz : ¬ z < 0) : z.toInt = (z.toNatClampNeg : Int) := by
  have hz0 : (0 : Int) ≤ z.toInt := by
    have := Int32.not_lt.mp hz
    simpa using Int32.le_iff_toInt_le.mp this
  show z.toInt = ((z.toInt.toNat : Nat) : Int)
  omega
section GK
variable {b : Bd} {own : String} {cc : ByteArray} {n : Nat} {rm : Room} {pc : Nat} {L L' : List (Nat × Value)} {st : List Value} {S : Wd} {kc ks : Nat}
theorem g_copy {a0 a i : Nat} {sp dp k : Int32} (hC : CX b own cc n rm) (hlink : Cond.methodLink own i arraycopyName ∈ gwL) (hnat : Cond.native arraycopyName ∈ gwL) (hstat : Cond.static arraycopyName ∈ gwL) (hini : Cond.initialized "java/lang/System" ∈ gwL) (hd : decode cc pc = .ok (.invokestatic i, 3)) (o0 : ob S a0 100) (o1 : ob S a 100)
    (h1 : ¬ sp < 0) (h2 : ¬ dp < 0) (h3 : ¬ k < 0) (h4 : sp.toNatClampNeg + k.toNatClampNeg ≤ wlen S a0) (h5 : dp.toNatClampNeg + k.toNatClampNeg ≤ wlen S a) (hfr : 1 ≤ rm.frames) (hlo : (st.map fun v => v.category).sum + (nativeFrameWords "java/lang/System" "arraycopy" 5 + 11) ≤ rm.locals)
    (kk : G b (pc + 3) L st (sA S a (va_cpy (wI S a0) (wI S a) sp.toNatClampNeg dp.toNatClampNeg k.toNatClampNeg)) kc ks) : G b pc L (.int k :: .int dp :: .ref a :: .int sp :: .ref a0 :: st) S kc ks := by
  obtain ⟨p, l, e, R, s, m, args, below, meth, c, D, cA, z, nL, Q⟩ := b
  obtain ⟨hx, hb, hml, how, hts, hK, hz, hn, hR⟩ := hC
  intro H locs ls hH hS hl
  subst hR
  have hc0 : H[z + a0]? = some (vp_cell (cA 0) (wlen S a0, .inl (wI S a0))) := (hH.2 a0 o0.1).2.1 o0.2
  have hc1 : H[z + a]? = some (vp_cell (cA 0) (wlen S a, .inl (wI S a))) := (hH.2 a o1.1).2.1 o1.2
  intro T hT X
  obtain ⟨-, k0, hk0, cm0, hkk0⟩ := (hK.1.2 0 _ rfl).1 (wlen S a0) (fun j => .int (wI S a0 j))
  obtain ⟨vm', X', step⟩ := X.arraycopy hx how (hts _ hlink) (hts _ hnat) (hts _ hstat) (hts _ hini) (src := z + a0) (dst := z + a) (cs := vp_cell (cA 0) (wlen S a0, .inl (wI S a0))) (cd := vp_cell (cA 0) (wlen S a, .inl (wI S a))) (srcPos := sp) (destPos := dp) (n := k) (by rw [hT]; exact hc0) (by rw [hT]; exact hc1)
    (fun _ h => by cases h) (fun _ h => by cases h) (fun h => by cases h) (fun h => by cases h) hk0 hk0 hkk0 hkk0 (by simp [refKind]) h1 h2 h3
    (by rw [i32_nn h1, i32_nn h3]; show ¬ _ > ((arrV (cA 0) (wlen S a0) (fun j => .int (wI S a0 j))).slots.size : Int); rw [arrV_size]; omega)
    (by rw [i32_nn h2, i32_nn h3]; show ¬ _ > ((arrV (cA 0) (wlen S a) (fun j => .int (wI S a j))).slots.size : Int); rw [arrV_size]; omega)
    (fun vm₁ _ j hj => by
      have e : (vp_cell (cA 0) (wlen S a0, .inl (wI S a0))).slots.getD (sp.toNatClampNeg + j) .null = .int (wI S a0 (sp.toNatClampNeg + j)) := by
        show (arrV (cA 0) (wlen S a0) (fun j => .int (wI S a0 j))).slots.getD _ _ = _
        rw [Array.getD_eq_getD_getElem?, arrV_read _ _ (by omega)]
        rfl
      refine ⟨?_, ?_⟩
      · rw [e]; rfl
      · rw [e]; exact trivial)
    (g := F0 m pc ls (.int k :: .int dp :: .ref (z + a) :: .int sp :: .ref (z + a0) :: st.map (cv z))) rfl (by rw [hml]; exact hl.1) (rest := st.map (cv z)) rfl (by rw [hb]; exact hd) hfr (by show 2 * 0 + ((st.map (cv z)).map fun v => v.category).sum + _ ≤ _; rw [cat_map]; omega)
  have e1 : copied (vp_cell (cA 0) (wlen S a0, .inl (wI S a0))) (vp_cell (cA 0) (wlen S a, .inl (wI S a))) sp dp k = vp_cell (cA 0) (wlen S a, .inl (va_cpy (wI S a0) (wI S a) sp.toNatClampNeg dp.toNatClampNeg k.toNatClampNeg)) := va_copied (fun z => .int z) (cA 0) (cA 0) (wI S a0) (wI S a) h4
  rw [e1] at X' step
  have hlt : z + a < H.size := (Array.getElem?_eq_some_iff.mp hc1).1
  generalize hv : vp_cell (cA 0) (wlen S a, .inl (va_cpy (wI S a0) (wI S a) sp.toNatClampNeg dp.toNatClampNeg k.toNatClampNeg)) = cN at X' step
  have hheap : ((T.setVm vm').setCell (z + a) cN).heap = H.setIfInBounds (z + a) cN := by rw [← hT]; rfl
  have oq : ∀ q : Nat, q ≠ z + a → (H.setIfInBounds (z + a) cN)[q]? = H[q]? := fun q hq => by simp [Array.getElem?_setIfInBounds, Ne.symm hq]
  have eq1 : (H.setIfInBounds (z + a) cN)[z + a]? = some cN := by simp [Array.getElem?_setIfInBounds, hlt]
  obtain ⟨t, a1, b1⟩ := kk (H.setIfInBounds (z + a) cN) _ ls (HO.upd (a := a) hH (by simp) oq rfl rfl (fun j hj => by
      show (if j = a then _ else _) = _
      rw [if_neg hj]; rfl) (fun _ _ => rfl) ⟨fun q => by exfalso; have := o1.2; omega, fun q => by
        rw [eq1, ← hv, vp_cell_i]
        congr 2
        funext j
        simp [wI, sA], fun q => by exfalso; have := o1.2; omega, fun q => by exfalso; have := o1.2; omega, fun q => by exfalso; have := o1.2; omega⟩)
    ⟨by simp; exact hS.1, fun q g1 g2 => by
      rw [oq q (fun e => g2 (by rw [e]; exact Nat.le_add_right z a))]
      exact hS.2.1 q g1 g2, fun q hq => by
      rcases List.mem_append.mp hq with h | h
      · exact hS.2.2 q h
      · obtain ⟨w, -, hw⟩ := List.mem_map.mp h
        rw [← hw]
        exact Nat.le_add_right z a⟩ hl _ hheap X'
  exact ⟨t, step t a1, b1⟩
theorem g_clone {a i : Nat} (hC : CX b own cc n rm) (hlink : Cond.methodLink own i ⟨"[I", "clone", "()Ljava/lang/Object;"⟩ ∈ gwL) (hsame : Cond.sameMethod "[I" "java/lang/Object" "clone" "()Ljava/lang/Object;" ∈ gwL) (hnat : Cond.native ⟨"java/lang/Object", "clone", "()Ljava/lang/Object;"⟩ ∈ gwL) (hinst : Cond.instanceMethod ⟨"java/lang/Object", "clone", "()Ljava/lang/Object;"⟩ ∈ gwL) (hsel : Cond.selects "[I" ⟨"[I", "clone", "()Ljava/lang/Object;"⟩ ⟨"java/lang/Object", "clone", "()Ljava/lang/Object;"⟩ ∈ gwL) (hd : decode cc pc = .ok (.invokevirtual i, 3)) (o0 : ob S a 100)
    (hk : (kT (wn S)).1 = 100) (hlen : wlen (sN S (wlen S a)) (wn S) = wlen S a) (hfr : 1 ≤ rm.frames) (hlo : (st.map fun v => v.category).sum + 14 ≤ rm.locals) (hc : kc + 1 ≤ rm.cells) (hs : ks + wlen S a ≤ rm.slots)
    (kk : G b (pc + 3) L (.ref (wn S) :: st) (sA (sN S (wlen S a)) (wn S) (wI S a)) (kc + 1) (ks + wlen S a)) : G b pc L (.ref a :: st) S kc ks := by
  obtain ⟨p, l, e, R, s, m, args, below, meth, c, D, cA, z, nL, Q⟩ := b
  obtain ⟨hx, hb, hml, how, hts, hK, hz, hn, hR⟩ := hC
  intro H locs ls hH hS hl
  subst hR
  have hI : s.vm.findClass "[I" = some (cA 0) := (hK.1.2 0 _ rfl).2
  obtain ⟨c0, t0', f1, f2, f3⟩ := Cond.castable_spec (va_Nw.use (A := args) rfl hK.2.2.1)
  cases hI.symm.trans f1
  have hcell : H[z + a]? = some (arrV (cA 0) (wlen S a) (fun j => .int (wI S a j))) := (hH.2 a o0.1).2.1 o0.2
  intro T hT X
  obtain ⟨-, kA, hkA, comp, hkind⟩ := State.isArrayOf_alike X.warmed.alike ((hK.1.2 0 _ rfl).1 0 (fun _ => .null))
  obtain ⟨-, kS, hkS, compS, hkindS⟩ := (hK.1.2 0 _ rfl).1 0 (fun _ => .null)
  obtain ⟨vm', X', stp⟩ := X.cloneArray hx how (hts _ hlink) (hts _ hsame) (hts _ hnat) (hts _ hinst) (hts _ hsel) (a := z + a) (cell := arrV (cA 0) (wlen S a) (fun j => .int (wI S a j))) (by rw [hT]; exact hcell) (fun k h => by cases h) (fun h => by cases h) hI f2 f3
    (fun j v hv => by
      have hk' : T.vm.classes[cA 0]? = some kA := hkA
      have hfit : fits .int v = true := by
        by_cases hj : j < wlen S a
        · rw [arrV_read _ _ hj] at hv
          cases hv
          rfl
        · rw [Array.getElem?_eq_none (by rw [arrV_size]; omega)] at hv
          cases hv
      simpa [State.fitsSlot, State.slotType?, hk', hkind, arrV] using hfit)
    (g := F0 m pc ls (.ref (z + a) :: st.map (cv z))) rfl (by rw [hml]; exact hl.1) rfl (by rw [hb]; exact hd) hfr (by show 2 * 0 + ((st.map (cv z)).map fun v => v.category).sum + 14 ≤ _; rw [cat_map]; omega) hc (by rw [arrV_size]; exact hs) (hloader := Vm.clonesLoader_of_array hkS hkindS)
  have hcellE : ({ cls := (arrV (cA 0) (wlen S a) (fun j => .int (wI S a j))).cls, slots := (arrV (cA 0) (wlen S a) (fun j => .int (wI S a j))).slots } : Cell) = arrV (cA 0) (wlen S a) (fun j => .int (wI S a j)) := rfl
  rw [hcellE, arrV_size] at X'
  generalize hH1 : H.push (arrV (cA 0) (wlen S a) (fun j => .int (wI S a j))) = H1
  have z1 : H1.size = H.size + 1 := by rw [← hH1, Array.size_push]
  have e1 : H1[H.size]? = some (arrV (cA 0) (wlen S a) (fun j => .int (wI S a j))) := by rw [← hH1, Array.getElem?_push_size]
  have o2 : ∀ q : Nat, q < H.size → H1[q]? = H[q]? := fun q hq => by rw [← hH1, Array.getElem?_push, if_neg (Nat.ne_of_lt hq)]
  have hsz := hH.1
  have hHO : HO D cA z (sA (sN S (wlen S a)) (wn S) (wI S a)) H1 := by
    refine ⟨by rw [z1, hsz]; rfl, fun j hj => ?_⟩
    by_cases hjn : j = wn S
    · subst hjn
      refine ⟨fun q => by exfalso; omega, fun q => ?_, fun q => by exfalso; omega, fun q => by exfalso; omega, fun q => by exfalso; omega⟩
      have hl2 : wlen (sA (sN S (wlen S a)) (wn S) (wI S a)) (wn S) = wlen S a := hlen
      rw [← hsz, e1, hl2]
      congr 2
      funext k
      simp [wI, sA]
    · have hj' : j < wn S := by
        have : j < wn S + 1 := hj
        omega
      have hne : j ≠ S.1 := hjn
      refine (hH.2 j hj').to (o2 _ (by omega)) ?_ ?_ ?_
      · show (if j = wn S then _ else (if j = S.1 then _ else _)) = _
        rw [if_neg hjn, if_neg hne]; rfl
      · show (if j = S.1 then _ else _) = _
        rw [if_neg hne]; rfl
      · unfold wlen
        by_cases h65 : j < 65
        · rw [if_pos h65, if_pos h65]
        · rw [if_neg h65, if_neg h65]
          show (if j = S.1 then _ else _) = _
          rw [if_neg hne]; rfl
  obtain ⟨t, b1, b2⟩ := kk H1 locs ls hHO (hS.pushed (by omega) o2) hl ((T.setVm vm').pushCell (arrV (cA 0) (wlen S a) (fun j => .int (wI S a j)))) (by rw [← hH1, ← hT]; rfl) X'
  refine ⟨t, stp t ?_, b2⟩
  rw [hcellE, hT, hsz]
  exact b1
theorem g_cast {a i : Nat} (hC : CX b own cc n rm) (hlink : Cond.classLink own i "[I" ∈ gwL) (hd : decode cc pc = .ok (.checkcast i, 3)) (o0 : ob S a 100) (kk : G b (pc + 3) L (.ref a :: st) S kc ks) : G b pc L (.ref a :: st) S kc ks := by
  obtain ⟨p, l, e, R, s, m, args, below, meth, c, D, cA, z, nL, Q⟩ := b
  obtain ⟨hx, hb, hml, how, hts, hK, hz, hn, hR⟩ := hC
  intro H locs ls hH hS hl
  have hI : s.vm.findClass "[I" = some (cA 0) := (hK.1.2 0 _ rfl).2
  have hcell : H[z + a]? = some (arrV (cA 0) (wlen S a) (fun j => .int (wI S a j))) := (hH.2 a o0.1).2.1 o0.2
  intro T hT X
  obtain ⟨vm', X', stp⟩ := X.checkcastYes hx how (hts _ hlink) (by rw [hT]; exact hcell) rfl hI (va_asg _ _) (g := F0 m pc ls (.ref (z + a) :: st.map (cv z))) rfl rfl (by rw [hb]; exact hd)
  obtain ⟨t, a1, b1⟩ := kk H locs ls hH hS hl (T.setVm vm') hT X'
  exact ⟨t, stp t a1, b1⟩
end GK
end
