-- ===== PART A: goes FIRST, ahead of the names: the tables' words, and 'selects' of the private methods out of them =====
/-- a private method of a class that the tables say can be made, by its rows of tables_1 -/
def lw_okq (q : MethodName × Nat) : Prop := (q.1.cls ≠ "java/lang/invoke/MethodHandle" ∧ q.1.cls ≠ "java/lang/invoke/VarHandle") ∧ Cond.instantiable q.1.cls q.2 ∈ tables_1 ∧ Cond.privateMethod q.1 ∈ tables_1 ∧ Cond.instanceMethod q.1 ∈ tables_1
theorem lw_p0 : lw_okq (⟨"OddPartners$Matching", "fillValues", "(LOddPartners$Net;)V"⟩, 5) := ⟨⟨by decide +kernel, by decide +kernel⟩, List.mem_of_getElem? (i := 179) (by decide +kernel), List.mem_of_getElem? (i := 397) (by decide +kernel), List.mem_of_getElem? (i := 398) (by decide +kernel)⟩
theorem lw_p1 : lw_okq (⟨"OddPartners$Matching", "valueWith", "(LOddPartners$Net;III)I"⟩, 5) := ⟨⟨by decide +kernel, by decide +kernel⟩, List.mem_of_getElem? (i := 179) (by decide +kernel), List.mem_of_getElem? (i := 416) (by decide +kernel), List.mem_of_getElem? (i := 417) (by decide +kernel)⟩
theorem lw_p2 : lw_okq (⟨"OddPartners$Matching", "choose", "(LOddPartners$Net;)V"⟩, 5) := ⟨⟨by decide +kernel, by decide +kernel⟩, List.mem_of_getElem? (i := 179) (by decide +kernel), List.mem_of_getElem? (i := 422) (by decide +kernel), List.mem_of_getElem? (i := 423) (by decide +kernel)⟩
theorem lw_p3 : lw_okq (⟨"OddPartners$Matching", "leastPartner", "(LOddPartners$Net;III)I"⟩, 5) := ⟨⟨by decide +kernel, by decide +kernel⟩, List.mem_of_getElem? (i := 179) (by decide +kernel), List.mem_of_getElem? (i := 427) (by decide +kernel), List.mem_of_getElem? (i := 428) (by decide +kernel)⟩
theorem lw_p4 : lw_okq (⟨"OddPartners$Line", "seek", "(LOddPartners$House;II)Z"⟩, 3) := ⟨⟨by decide +kernel, by decide +kernel⟩, List.mem_of_getElem? (i := 204) (by decide +kernel), List.mem_of_getElem? (i := 448) (by decide +kernel), List.mem_of_getElem? (i := 449) (by decide +kernel)⟩
theorem lw_p5 : lw_okq (⟨"OddPartners$Line", "ends", "(LOddPartners$House;)Z"⟩, 3) := ⟨⟨by decide +kernel, by decide +kernel⟩, List.mem_of_getElem? (i := 204) (by decide +kernel), List.mem_of_getElem? (i := 455) (by decide +kernel), List.mem_of_getElem? (i := 456) (by decide +kernel)⟩
theorem lw_p6 : lw_okq (⟨"OddPartners$Line", "mayStand", "(LOddPartners$House;II)Z"⟩, 3) := ⟨⟨by decide +kernel, by decide +kernel⟩, List.mem_of_getElem? (i := 204) (by decide +kernel), List.mem_of_getElem? (i := 466) (by decide +kernel), List.mem_of_getElem? (i := 467) (by decide +kernel)⟩
theorem lw_p7 : lw_okq (⟨"OddPartners$Text", "isClause", "(LOddPartners$Clause;)Z"⟩, 6) := ⟨⟨by decide +kernel, by decide +kernel⟩, List.mem_of_getElem? (i := 107) (by decide +kernel), List.mem_of_getElem? (i := 501) (by decide +kernel), List.mem_of_getElem? (i := 502) (by decide +kernel)⟩
theorem lw_p8 : lw_okq (⟨"OddPartners$Text", "ahead", "()I"⟩, 6) := ⟨⟨by decide +kernel, by decide +kernel⟩, List.mem_of_getElem? (i := 107) (by decide +kernel), List.mem_of_getElem? (i := 505) (by decide +kernel), List.mem_of_getElem? (i := 506) (by decide +kernel)⟩
theorem lw_p9 : lw_okq (⟨"OddPartners$Text", "nextDigit", "()I"⟩, 6) := ⟨⟨by decide +kernel, by decide +kernel⟩, List.mem_of_getElem? (i := 107) (by decide +kernel), List.mem_of_getElem? (i := 509) (by decide +kernel), List.mem_of_getElem? (i := 510) (by decide +kernel)⟩
theorem lw_p10 : lw_okq (⟨"OddPartners$Text", "nextNumber", "()I"⟩, 6) := ⟨⟨by decide +kernel, by decide +kernel⟩, List.mem_of_getElem? (i := 107) (by decide +kernel), List.mem_of_getElem? (i := 513) (by decide +kernel), List.mem_of_getElem? (i := 514) (by decide +kernel)⟩
theorem lw_p11 : lw_okq (⟨"OddPartners", "doClauses", "()I"⟩, 11) := ⟨⟨by decide +kernel, by decide +kernel⟩, List.mem_of_getElem? (i := 18) (by decide +kernel), List.mem_of_getElem? (i := 517) (by decide +kernel), List.mem_of_getElem? (i := 518) (by decide +kernel)⟩
theorem lw_p12 : lw_okq (⟨"OddPartners", "doClause", "(LOddPartners$Clause;)I"⟩, 11) := ⟨⟨by decide +kernel, by decide +kernel⟩, List.mem_of_getElem? (i := 18) (by decide +kernel), List.mem_of_getElem? (i := 522) (by decide +kernel), List.mem_of_getElem? (i := 523) (by decide +kernel)⟩
theorem lw_p13 : lw_okq (⟨"OddPartners$Parting", "oddParts", "(I)I"⟩, 6) := ⟨⟨by decide +kernel, by decide +kernel⟩, List.mem_of_getElem? (i := 223) (by decide +kernel), List.mem_of_getElem? (i := 638) (by decide +kernel), List.mem_of_getElem? (i := 639) (by decide +kernel)⟩
theorem lw_p14 : lw_okq (⟨"OddPartners$Parting", "partOf", "(II)I"⟩, 6) := ⟨⟨by decide +kernel, by decide +kernel⟩, List.mem_of_getElem? (i := 223) (by decide +kernel), List.mem_of_getElem? (i := 643) (by decide +kernel), List.mem_of_getElem? (i := 644) (by decide +kernel)⟩
theorem lw_p15 : lw_okq (⟨"OddPartners$Proving", "lacksHalves", "(LOddPartners$House;)Z"⟩, 3) := ⟨⟨by decide +kernel, by decide +kernel⟩, List.mem_of_getElem? (i := 253) (by decide +kernel), List.mem_of_getElem? (i := 697) (by decide +kernel), List.mem_of_getElem? (i := 698) (by decide +kernel)⟩
def lw_privs_1 : List (MethodName × Nat) := [(⟨"OddPartners$Matching", "fillValues", "(LOddPartners$Net;)V"⟩, 5), (⟨"OddPartners$Matching", "valueWith", "(LOddPartners$Net;III)I"⟩, 5), (⟨"OddPartners$Matching", "choose", "(LOddPartners$Net;)V"⟩, 5), (⟨"OddPartners$Matching", "leastPartner", "(LOddPartners$Net;III)I"⟩, 5), (⟨"OddPartners$Line", "seek", "(LOddPartners$House;II)Z"⟩, 3), (⟨"OddPartners$Line", "ends", "(LOddPartners$House;)Z"⟩, 3), (⟨"OddPartners$Line", "mayStand", "(LOddPartners$House;II)Z"⟩, 3), (⟨"OddPartners$Text", "isClause", "(LOddPartners$Clause;)Z"⟩, 6), (⟨"OddPartners$Text", "ahead", "()I"⟩, 6), (⟨"OddPartners$Text", "nextDigit", "()I"⟩, 6), (⟨"OddPartners$Text", "nextNumber", "()I"⟩, 6), (⟨"OddPartners", "doClauses", "()I"⟩, 11), (⟨"OddPartners", "doClause", "(LOddPartners$Clause;)I"⟩, 11), (⟨"OddPartners$Parting", "oddParts", "(I)I"⟩, 6), (⟨"OddPartners$Parting", "partOf", "(II)I"⟩, 6), (⟨"OddPartners$Proving", "lacksHalves", "(LOddPartners$House;)Z"⟩, 3)]
theorem lw_r1 : ∀ q ∈ lw_privs_1, lw_okq q := List.forall_mem_cons.mpr ⟨lw_p0, List.forall_mem_cons.mpr ⟨lw_p1, List.forall_mem_cons.mpr ⟨lw_p2, List.forall_mem_cons.mpr ⟨lw_p3, List.forall_mem_cons.mpr ⟨lw_p4, List.forall_mem_cons.mpr ⟨lw_p5, List.forall_mem_cons.mpr ⟨lw_p6, List.forall_mem_cons.mpr ⟨lw_p7, List.forall_mem_cons.mpr ⟨lw_p8, List.forall_mem_cons.mpr ⟨lw_p9, List.forall_mem_cons.mpr ⟨lw_p10, List.forall_mem_cons.mpr ⟨lw_p11, List.forall_mem_cons.mpr ⟨lw_p12, List.forall_mem_cons.mpr ⟨lw_p13, List.forall_mem_cons.mpr ⟨lw_p14, List.forall_mem_cons.mpr ⟨lw_p15, fun _ h => absurd h List.not_mem_nil⟩⟩⟩⟩⟩⟩⟩⟩⟩⟩⟩⟩⟩⟩⟩⟩
theorem lw_p16 : lw_okq (⟨"OddPartners$Proving", "faultIs", "(III)Z"⟩, 3) := ⟨⟨by decide +kernel, by decide +kernel⟩, List.mem_of_getElem? (i := 253) (by decide +kernel), List.mem_of_getElem? (i := 703) (by decide +kernel), List.mem_of_getElem? (i := 704) (by decide +kernel)⟩
theorem lw_p17 : lw_okq (⟨"OddPartners$Proving", "lacksPairs", "(LOddPartners$House;)Z"⟩, 3) := ⟨⟨by decide +kernel, by decide +kernel⟩, List.mem_of_getElem? (i := 253) (by decide +kernel), List.mem_of_getElem? (i := 707) (by decide +kernel), List.mem_of_getElem? (i := 708) (by decide +kernel)⟩
theorem lw_p18 : lw_okq (⟨"OddPartners$Proving", "hasFreeWithHalves", "(LOddPartners$House;)Z"⟩, 3) := ⟨⟨by decide +kernel, by decide +kernel⟩, List.mem_of_getElem? (i := 253) (by decide +kernel), List.mem_of_getElem? (i := 714) (by decide +kernel), List.mem_of_getElem? (i := 715) (by decide +kernel)⟩
theorem lw_p19 : lw_okq (⟨"OddPartners$Proving", "hasLoosePair", "(LOddPartners$House;)Z"⟩, 3) := ⟨⟨by decide +kernel, by decide +kernel⟩, List.mem_of_getElem? (i := 253) (by decide +kernel), List.mem_of_getElem? (i := 720) (by decide +kernel), List.mem_of_getElem? (i := 721) (by decide +kernel)⟩
theorem lw_p20 : lw_okq (⟨"OddPartners", "tellTwo", "(LOddPartners$Rows;II)I"⟩, 11) := ⟨⟨by decide +kernel, by decide +kernel⟩, List.mem_of_getElem? (i := 18) (by decide +kernel), List.mem_of_getElem? (i := 729) (by decide +kernel), List.mem_of_getElem? (i := 730) (by decide +kernel)⟩
theorem lw_p21 : lw_okq (⟨"OddPartners$Net", "weightBehind", "(IIII)I"⟩, 2) := ⟨⟨by decide +kernel, by decide +kernel⟩, List.mem_of_getElem? (i := 32) (by decide +kernel), List.mem_of_getElem? (i := 773) (by decide +kernel), List.mem_of_getElem? (i := 774) (by decide +kernel)⟩
theorem lw_p22 : lw_okq (⟨"OddPartnersModel", "areTwo", "(II)Z"⟩, 24) := ⟨⟨by decide +kernel, by decide +kernel⟩, List.mem_of_getElem? (i := 886) (by decide +kernel), List.mem_of_getElem? (i := 975) (by decide +kernel), List.mem_of_getElem? (i := 976) (by decide +kernel)⟩
theorem lw_p23 : lw_okq (⟨"OddPartnersModel", "isPerson", "(I)Z"⟩, 24) := ⟨⟨by decide +kernel, by decide +kernel⟩, List.mem_of_getElem? (i := 886) (by decide +kernel), List.mem_of_getElem? (i := 979) (by decide +kernel), List.mem_of_getElem? (i := 980) (by decide +kernel)⟩
theorem lw_p24 : lw_okq (⟨"OddPartnersModel", "weight", "(II)I"⟩, 24) := ⟨⟨by decide +kernel, by decide +kernel⟩, List.mem_of_getElem? (i := 886) (by decide +kernel), List.mem_of_getElem? (i := 986) (by decide +kernel), List.mem_of_getElem? (i := 987) (by decide +kernel)⟩
theorem lw_p25 : lw_okq (⟨"OddPartnersModel", "put", "(III)V"⟩, 24) := ⟨⟨by decide +kernel, by decide +kernel⟩, List.mem_of_getElem? (i := 886) (by decide +kernel), List.mem_of_getElem? (i := 990) (by decide +kernel), List.mem_of_getElem? (i := 991) (by decide +kernel)⟩
theorem lw_p26 : lw_okq (⟨"OddPartnersModel", "partnerOf", "(I)I"⟩, 24) := ⟨⟨by decide +kernel, by decide +kernel⟩, List.mem_of_getElem? (i := 886) (by decide +kernel), List.mem_of_getElem? (i := 994) (by decide +kernel), List.mem_of_getElem? (i := 995) (by decide +kernel)⟩
theorem lw_p27 : lw_okq (⟨"OddPartnersModel", "frees", "(I)V"⟩, 24) := ⟨⟨by decide +kernel, by decide +kernel⟩, List.mem_of_getElem? (i := 886) (by decide +kernel), List.mem_of_getElem? (i := 998) (by decide +kernel), List.mem_of_getElem? (i := 999) (by decide +kernel)⟩
theorem lw_p28 : lw_okq (⟨"OddPartnersModel", "areLinked", "(II)Z"⟩, 24) := ⟨⟨by decide +kernel, by decide +kernel⟩, List.mem_of_getElem? (i := 886) (by decide +kernel), List.mem_of_getElem? (i := 1010) (by decide +kernel), List.mem_of_getElem? (i := 1011) (by decide +kernel)⟩
theorem lw_p29 : lw_okq (⟨"OddPartnersModel", "join", "(II)V"⟩, 24) := ⟨⟨by decide +kernel, by decide +kernel⟩, List.mem_of_getElem? (i := 886) (by decide +kernel), List.mem_of_getElem? (i := 1014) (by decide +kernel), List.mem_of_getElem? (i := 1015) (by decide +kernel)⟩
theorem lw_p30 : lw_okq (⟨"OddPartnersModel", "pairs", "()I"⟩, 24) := ⟨⟨by decide +kernel, by decide +kernel⟩, List.mem_of_getElem? (i := 886) (by decide +kernel), List.mem_of_getElem? (i := 1018) (by decide +kernel), List.mem_of_getElem? (i := 1019) (by decide +kernel)⟩
theorem lw_p31 : lw_okq (⟨"OddPartnersModel", "chooses", "(II)V"⟩, 24) := ⟨⟨by decide +kernel, by decide +kernel⟩, List.mem_of_getElem? (i := 886) (by decide +kernel), List.mem_of_getElem? (i := 1033) (by decide +kernel), List.mem_of_getElem? (i := 1034) (by decide +kernel)⟩
def lw_privs_2 : List (MethodName × Nat) := [(⟨"OddPartners$Proving", "faultIs", "(III)Z"⟩, 3), (⟨"OddPartners$Proving", "lacksPairs", "(LOddPartners$House;)Z"⟩, 3), (⟨"OddPartners$Proving", "hasFreeWithHalves", "(LOddPartners$House;)Z"⟩, 3), (⟨"OddPartners$Proving", "hasLoosePair", "(LOddPartners$House;)Z"⟩, 3), (⟨"OddPartners", "tellTwo", "(LOddPartners$Rows;II)I"⟩, 11), (⟨"OddPartners$Net", "weightBehind", "(IIII)I"⟩, 2), (⟨"OddPartnersModel", "areTwo", "(II)Z"⟩, 24), (⟨"OddPartnersModel", "isPerson", "(I)Z"⟩, 24), (⟨"OddPartnersModel", "weight", "(II)I"⟩, 24), (⟨"OddPartnersModel", "put", "(III)V"⟩, 24), (⟨"OddPartnersModel", "partnerOf", "(I)I"⟩, 24), (⟨"OddPartnersModel", "frees", "(I)V"⟩, 24), (⟨"OddPartnersModel", "areLinked", "(II)Z"⟩, 24), (⟨"OddPartnersModel", "join", "(II)V"⟩, 24), (⟨"OddPartnersModel", "pairs", "()I"⟩, 24), (⟨"OddPartnersModel", "chooses", "(II)V"⟩, 24)]
theorem lw_r2 : ∀ q ∈ lw_privs_2, lw_okq q := List.forall_mem_cons.mpr ⟨lw_p16, List.forall_mem_cons.mpr ⟨lw_p17, List.forall_mem_cons.mpr ⟨lw_p18, List.forall_mem_cons.mpr ⟨lw_p19, List.forall_mem_cons.mpr ⟨lw_p20, List.forall_mem_cons.mpr ⟨lw_p21, List.forall_mem_cons.mpr ⟨lw_p22, List.forall_mem_cons.mpr ⟨lw_p23, List.forall_mem_cons.mpr ⟨lw_p24, List.forall_mem_cons.mpr ⟨lw_p25, List.forall_mem_cons.mpr ⟨lw_p26, List.forall_mem_cons.mpr ⟨lw_p27, List.forall_mem_cons.mpr ⟨lw_p28, List.forall_mem_cons.mpr ⟨lw_p29, List.forall_mem_cons.mpr ⟨lw_p30, List.forall_mem_cons.mpr ⟨lw_p31, fun _ h => absurd h List.not_mem_nil⟩⟩⟩⟩⟩⟩⟩⟩⟩⟩⟩⟩⟩⟩⟩⟩
theorem lw_p32 : lw_okq (⟨"OddPartnersModel", "tries", "(III)V"⟩, 24) := ⟨⟨by decide +kernel, by decide +kernel⟩, List.mem_of_getElem? (i := 886) (by decide +kernel), List.mem_of_getElem? (i := 1037) (by decide +kernel), List.mem_of_getElem? (i := 1038) (by decide +kernel)⟩
theorem lw_p33 : lw_okq (⟨"OddPartnersModel", "findsWay", "()Z"⟩, 24) := ⟨⟨by decide +kernel, by decide +kernel⟩, List.mem_of_getElem? (i := 886) (by decide +kernel), List.mem_of_getElem? (i := 1046) (by decide +kernel), List.mem_of_getElem? (i := 1047) (by decide +kernel)⟩
theorem lw_p34 : lw_okq (⟨"OddPartnersModel", "goes", "(I)Z"⟩, 24) := ⟨⟨by decide +kernel, by decide +kernel⟩, List.mem_of_getElem? (i := 886) (by decide +kernel), List.mem_of_getElem? (i := 1050) (by decide +kernel), List.mem_of_getElem? (i := 1051) (by decide +kernel)⟩
theorem lw_p35 : lw_okq (⟨"OddPartnersModel", "isOn", "(II)Z"⟩, 24) := ⟨⟨by decide +kernel, by decide +kernel⟩, List.mem_of_getElem? (i := 886) (by decide +kernel), List.mem_of_getElem? (i := 1054) (by decide +kernel), List.mem_of_getElem? (i := 1055) (by decide +kernel)⟩
theorem lw_p36 : lw_okq (⟨"OddPartnersModel", "faultOf", "()I"⟩, 24) := ⟨⟨by decide +kernel, by decide +kernel⟩, List.mem_of_getElem? (i := 886) (by decide +kernel), List.mem_of_getElem? (i := 1070) (by decide +kernel), List.mem_of_getElem? (i := 1071) (by decide +kernel)⟩
theorem lw_p37 : lw_okq (⟨"OddPartnersModel", "isSign", "(II)Z"⟩, 24) := ⟨⟨by decide +kernel, by decide +kernel⟩, List.mem_of_getElem? (i := 886) (by decide +kernel), List.mem_of_getElem? (i := 1074) (by decide +kernel), List.mem_of_getElem? (i := 1075) (by decide +kernel)⟩
theorem lw_p38 : lw_okq (⟨"OddPartnersModel", "isDigit", "(I)Z"⟩, 24) := ⟨⟨by decide +kernel, by decide +kernel⟩, List.mem_of_getElem? (i := 886) (by decide +kernel), List.mem_of_getElem? (i := 1078) (by decide +kernel), List.mem_of_getElem? (i := 1079) (by decide +kernel)⟩
theorem lw_p39 : lw_okq (⟨"OddPartnersModel", "does", "(I)I"⟩, 24) := ⟨⟨by decide +kernel, by decide +kernel⟩, List.mem_of_getElem? (i := 886) (by decide +kernel), List.mem_of_getElem? (i := 1082) (by decide +kernel), List.mem_of_getElem? (i := 1083) (by decide +kernel)⟩
theorem lw_p40 : lw_okq (⟨"OddPartnersModel", "digit", "(I)I"⟩, 24) := ⟨⟨by decide +kernel, by decide +kernel⟩, List.mem_of_getElem? (i := 886) (by decide +kernel), List.mem_of_getElem? (i := 1087) (by decide +kernel), List.mem_of_getElem? (i := 1088) (by decide +kernel)⟩
theorem lw_p41 : lw_okq (⟨"OddPartnersModel", "number", "(I)I"⟩, 24) := ⟨⟨by decide +kernel, by decide +kernel⟩, List.mem_of_getElem? (i := 886) (by decide +kernel), List.mem_of_getElem? (i := 1091) (by decide +kernel), List.mem_of_getElem? (i := 1092) (by decide +kernel)⟩
theorem lw_p42 : lw_okq (⟨"OddPartnersModel", "findsFlower", "()Z"⟩, 24) := ⟨⟨by decide +kernel, by decide +kernel⟩, List.mem_of_getElem? (i := 886) (by decide +kernel), List.mem_of_getElem? (i := 1109) (by decide +kernel), List.mem_of_getElem? (i := 1110) (by decide +kernel)⟩
theorem lw_p43 : lw_okq (⟨"OddPartnersModel", "blooms", "(I)Z"⟩, 24) := ⟨⟨by decide +kernel, by decide +kernel⟩, List.mem_of_getElem? (i := 886) (by decide +kernel), List.mem_of_getElem? (i := 1113) (by decide +kernel), List.mem_of_getElem? (i := 1114) (by decide +kernel)⟩
theorem lw_p44 : lw_okq (⟨"OddPartnersModel", "links", "()V"⟩, 24) := ⟨⟨by decide +kernel, by decide +kernel⟩, List.mem_of_getElem? (i := 886) (by decide +kernel), List.mem_of_getElem? (i := 1125) (by decide +kernel), List.mem_of_getElem? (i := 1126) (by decide +kernel)⟩
theorem lw_p45 : lw_okq (⟨"OddPartnersModel", "linkedTwos", "(Z)I"⟩, 24) := ⟨⟨by decide +kernel, by decide +kernel⟩, List.mem_of_getElem? (i := 886) (by decide +kernel), List.mem_of_getElem? (i := 1137) (by decide +kernel), List.mem_of_getElem? (i := 1138) (by decide +kernel)⟩
theorem lw_p46 : lw_okq (⟨"OddPartnersModel", "have", "(II)I"⟩, 24) := ⟨⟨by decide +kernel, by decide +kernel⟩, List.mem_of_getElem? (i := 886) (by decide +kernel), List.mem_of_getElem? (i := 1141) (by decide +kernel), List.mem_of_getElem? (i := 1142) (by decide +kernel)⟩
theorem lw_p47 : lw_okq (⟨"OddPartnersModel", "weightOfPairs", "()I"⟩, 24) := ⟨⟨by decide +kernel, by decide +kernel⟩, List.mem_of_getElem? (i := 886) (by decide +kernel), List.mem_of_getElem? (i := 1145) (by decide +kernel), List.mem_of_getElem? (i := 1146) (by decide +kernel)⟩
def lw_privs_3 : List (MethodName × Nat) := [(⟨"OddPartnersModel", "tries", "(III)V"⟩, 24), (⟨"OddPartnersModel", "findsWay", "()Z"⟩, 24), (⟨"OddPartnersModel", "goes", "(I)Z"⟩, 24), (⟨"OddPartnersModel", "isOn", "(II)Z"⟩, 24), (⟨"OddPartnersModel", "faultOf", "()I"⟩, 24), (⟨"OddPartnersModel", "isSign", "(II)Z"⟩, 24), (⟨"OddPartnersModel", "isDigit", "(I)Z"⟩, 24), (⟨"OddPartnersModel", "does", "(I)I"⟩, 24), (⟨"OddPartnersModel", "digit", "(I)I"⟩, 24), (⟨"OddPartnersModel", "number", "(I)I"⟩, 24), (⟨"OddPartnersModel", "findsFlower", "()Z"⟩, 24), (⟨"OddPartnersModel", "blooms", "(I)Z"⟩, 24), (⟨"OddPartnersModel", "links", "()V"⟩, 24), (⟨"OddPartnersModel", "linkedTwos", "(Z)I"⟩, 24), (⟨"OddPartnersModel", "have", "(II)I"⟩, 24), (⟨"OddPartnersModel", "weightOfPairs", "()I"⟩, 24)]
theorem lw_r3 : ∀ q ∈ lw_privs_3, lw_okq q := List.forall_mem_cons.mpr ⟨lw_p32, List.forall_mem_cons.mpr ⟨lw_p33, List.forall_mem_cons.mpr ⟨lw_p34, List.forall_mem_cons.mpr ⟨lw_p35, List.forall_mem_cons.mpr ⟨lw_p36, List.forall_mem_cons.mpr ⟨lw_p37, List.forall_mem_cons.mpr ⟨lw_p38, List.forall_mem_cons.mpr ⟨lw_p39, List.forall_mem_cons.mpr ⟨lw_p40, List.forall_mem_cons.mpr ⟨lw_p41, List.forall_mem_cons.mpr ⟨lw_p42, List.forall_mem_cons.mpr ⟨lw_p43, List.forall_mem_cons.mpr ⟨lw_p44, List.forall_mem_cons.mpr ⟨lw_p45, List.forall_mem_cons.mpr ⟨lw_p46, List.forall_mem_cons.mpr ⟨lw_p47, fun _ h => absurd h List.not_mem_nil⟩⟩⟩⟩⟩⟩⟩⟩⟩⟩⟩⟩⟩⟩⟩⟩
theorem lw_p48 : lw_okq (⟨"OddPartnersModel", "sum", "()I"⟩, 24) := ⟨⟨by decide +kernel, by decide +kernel⟩, List.mem_of_getElem? (i := 886) (by decide +kernel), List.mem_of_getElem? (i := 1149) (by decide +kernel), List.mem_of_getElem? (i := 1150) (by decide +kernel)⟩
theorem lw_p49 : lw_okq (⟨"OddPartnersModel", "barrier", "()I"⟩, 24) := ⟨⟨by decide +kernel, by decide +kernel⟩, List.mem_of_getElem? (i := 886) (by decide +kernel), List.mem_of_getElem? (i := 1160) (by decide +kernel), List.mem_of_getElem? (i := 1161) (by decide +kernel)⟩
theorem lw_p50 : lw_okq (⟨"OddPartnersModel", "gain", "(I)I"⟩, 24) := ⟨⟨by decide +kernel, by decide +kernel⟩, List.mem_of_getElem? (i := 886) (by decide +kernel), List.mem_of_getElem? (i := 1164) (by decide +kernel), List.mem_of_getElem? (i := 1165) (by decide +kernel)⟩
theorem lw_p51 : lw_okq (⟨"OddPartnersModel", "oddParts", "(I)I"⟩, 24) := ⟨⟨by decide +kernel, by decide +kernel⟩, List.mem_of_getElem? (i := 886) (by decide +kernel), List.mem_of_getElem? (i := 1168) (by decide +kernel), List.mem_of_getElem? (i := 1169) (by decide +kernel)⟩
theorem lw_p52 : lw_okq (⟨"OddPartnersModel", "over", "()I"⟩, 24) := ⟨⟨by decide +kernel, by decide +kernel⟩, List.mem_of_getElem? (i := 886) (by decide +kernel), List.mem_of_getElem? (i := 1172) (by decide +kernel), List.mem_of_getElem? (i := 1173) (by decide +kernel)⟩
theorem lw_p53 : lw_okq (⟨"OddPartnersModel", "edge", "(I)I"⟩, 24) := ⟨⟨by decide +kernel, by decide +kernel⟩, List.mem_of_getElem? (i := 886) (by decide +kernel), List.mem_of_getElem? (i := 1176) (by decide +kernel), List.mem_of_getElem? (i := 1177) (by decide +kernel)⟩
theorem lw_p54 : lw_okq (⟨"OddPartnersModel", "heaviest", "(I)I"⟩, 24) := ⟨⟨by decide +kernel, by decide +kernel⟩, List.mem_of_getElem? (i := 886) (by decide +kernel), List.mem_of_getElem? (i := 1184) (by decide +kernel), List.mem_of_getElem? (i := 1185) (by decide +kernel)⟩
theorem lw_p55 : lw_okq (⟨"OddPartnersModel", "pairsIn", "(I)I"⟩, 24) := ⟨⟨by decide +kernel, by decide +kernel⟩, List.mem_of_getElem? (i := 886) (by decide +kernel), List.mem_of_getElem? (i := 1201) (by decide +kernel), List.mem_of_getElem? (i := 1202) (by decide +kernel)⟩
theorem lw_p56 : lw_okq (⟨"OddPartnersModel", "comes", "(IIII)I"⟩, 24) := ⟨⟨by decide +kernel, by decide +kernel⟩, List.mem_of_getElem? (i := 886) (by decide +kernel), List.mem_of_getElem? (i := 1209) (by decide +kernel), List.mem_of_getElem? (i := 1210) (by decide +kernel)⟩
theorem lw_p57 : lw_okq (⟨"OddPartnersModel", "isSeen", "()Z"⟩, 24) := ⟨⟨by decide +kernel, by decide +kernel⟩, List.mem_of_getElem? (i := 886) (by decide +kernel), List.mem_of_getElem? (i := 1217) (by decide +kernel), List.mem_of_getElem? (i := 1218) (by decide +kernel)⟩
theorem lw_p58 : lw_okq (⟨"OddPartnersModel", "think", "()V"⟩, 24) := ⟨⟨by decide +kernel, by decide +kernel⟩, List.mem_of_getElem? (i := 886) (by decide +kernel), List.mem_of_getElem? (i := 1244) (by decide +kernel), List.mem_of_getElem? (i := 1245) (by decide +kernel)⟩
theorem lw_p59 : lw_okq (⟨"OddPartnersModel", "happens", "(II)V"⟩, 24) := ⟨⟨by decide +kernel, by decide +kernel⟩, List.mem_of_getElem? (i := 886) (by decide +kernel), List.mem_of_getElem? (i := 1248) (by decide +kernel), List.mem_of_getElem? (i := 1249) (by decide +kernel)⟩
theorem lw_p60 : lw_okq (⟨"OddPartnersModel", "forget", "()V"⟩, 24) := ⟨⟨by decide +kernel, by decide +kernel⟩, List.mem_of_getElem? (i := 886) (by decide +kernel), List.mem_of_getElem? (i := 1253) (by decide +kernel), List.mem_of_getElem? (i := 1254) (by decide +kernel)⟩
def lw_privs_4 : List (MethodName × Nat) := [(⟨"OddPartnersModel", "sum", "()I"⟩, 24), (⟨"OddPartnersModel", "barrier", "()I"⟩, 24), (⟨"OddPartnersModel", "gain", "(I)I"⟩, 24), (⟨"OddPartnersModel", "oddParts", "(I)I"⟩, 24), (⟨"OddPartnersModel", "over", "()I"⟩, 24), (⟨"OddPartnersModel", "edge", "(I)I"⟩, 24), (⟨"OddPartnersModel", "heaviest", "(I)I"⟩, 24), (⟨"OddPartnersModel", "pairsIn", "(I)I"⟩, 24), (⟨"OddPartnersModel", "comes", "(IIII)I"⟩, 24), (⟨"OddPartnersModel", "isSeen", "()Z"⟩, 24), (⟨"OddPartnersModel", "think", "()V"⟩, 24), (⟨"OddPartnersModel", "happens", "(II)V"⟩, 24), (⟨"OddPartnersModel", "forget", "()V"⟩, 24)]
theorem lw_r4 : ∀ q ∈ lw_privs_4, lw_okq q := List.forall_mem_cons.mpr ⟨lw_p48, List.forall_mem_cons.mpr ⟨lw_p49, List.forall_mem_cons.mpr ⟨lw_p50, List.forall_mem_cons.mpr ⟨lw_p51, List.forall_mem_cons.mpr ⟨lw_p52, List.forall_mem_cons.mpr ⟨lw_p53, List.forall_mem_cons.mpr ⟨lw_p54, List.forall_mem_cons.mpr ⟨lw_p55, List.forall_mem_cons.mpr ⟨lw_p56, List.forall_mem_cons.mpr ⟨lw_p57, List.forall_mem_cons.mpr ⟨lw_p58, List.forall_mem_cons.mpr ⟨lw_p59, List.forall_mem_cons.mpr ⟨lw_p60, fun _ h => absurd h List.not_mem_nil⟩⟩⟩⟩⟩⟩⟩⟩⟩⟩⟩⟩⟩
def lw_privs : List (MethodName × Nat) := lw_privs_1 ++ (lw_privs_2 ++ (lw_privs_3 ++ (lw_privs_4)))
def lw_tbl : List Cond := k2_sels lw_privs ++ tables_1
theorem lw_privs_ok : ∀ q ∈ lw_privs, lw_okq q := by
  show ∀ q ∈ lw_privs_1 ++ (lw_privs_2 ++ (lw_privs_3 ++ (lw_privs_4))), lw_okq q
  exact List.forall_mem_append.mpr ⟨lw_r1, List.forall_mem_append.mpr ⟨lw_r2, List.forall_mem_append.mpr ⟨lw_r3, lw_r4⟩⟩⟩

-- names and tables, by program
def RX0 : String := "OddPartners$Clause"
def TX0 : u_T := fun k => match k with
  | 0 => ("OddPartners$Clause", "kind", "I", false)
  | 1 => ("OddPartners$Clause", "i", "I", false)
  | 2 => ("OddPartners$Clause", "j", "I", false)
  | _ => ("OddPartners$Clause", "number", "I", false)
def tyX0 : Nat → FieldType := fun k => match k with
  | 0 => .int
  | 1 => .int
  | 2 => .int
  | _ => .int
theorem nmX0 : ∀ a, a < 4 → ∀ b, b < 4 → a ≠ b → (TX0 a).2.1 ≠ (TX0 b).2.1 := by decide +kernel
theorem tyX0_ok : ∀ k, k < 4 → parseFieldDescriptor (TX0 k).2.2.1 = some (tyX0 k) := by decide +kernel
theorem inX0 : ∀ w ∈ u_ws RX0 TX0 4, w ∈ lw_tbl := by decide +kernel
def RX1 : String := "OddPartners$House"
def TX1 : u_T := fun k => match k with
  | 0 => ("OddPartners$House", "net", "LOddPartners$Net;", true)
  | 1 => ("OddPartners$House", "mates", "[I", true)
  | 2 => ("OddPartners$House", "halves", "[I", true)
  | 3 => ("OddPartners$House", "oddSets", "LOddPartners$Rows;", true)
  | 4 => ("OddPartners$House", "seen", "LOddPartners$Rows;", true)
  | 5 => ("OddPartners$House", "events", "LOddPartners$Rows;", true)
  | _ => ("OddPartners$House", "book", "LOddPartners$Rows;", true)
def tyX1 : Nat → FieldType := fun k => match k with
  | 0 => .object "OddPartners$Net"
  | 1 => .array .int
  | 2 => .array .int
  | 3 => .object "OddPartners$Rows"
  | 4 => .object "OddPartners$Rows"
  | 5 => .object "OddPartners$Rows"
  | _ => .object "OddPartners$Rows"
theorem nmX1 : ∀ a, a < 7 → ∀ b, b < 7 → a ≠ b → (TX1 a).2.1 ≠ (TX1 b).2.1 := by decide +kernel
theorem tyX1_ok : ∀ k, k < 7 → parseFieldDescriptor (TX1 k).2.2.1 = some (tyX1 k) := by decide +kernel
theorem inX1 : ∀ w ∈ u_ws RX1 TX1 7, w ∈ lw_tbl := by decide +kernel
def RX2 : String := "OddPartners$Line"
def TX2 : u_T := fun k => match k with
  | 0 => ("OddPartners$Line", "size", "I", false)
  | 1 => ("OddPartners$Line", "base", "I", false)
  | _ => ("OddPartners$Line", "people", "[I", true)
def tyX2 : Nat → FieldType := fun k => match k with
  | 0 => .int
  | 1 => .int
  | _ => .array .int
theorem nmX2 : ∀ a, a < 3 → ∀ b, b < 3 → a ≠ b → (TX2 a).2.1 ≠ (TX2 b).2.1 := by decide +kernel
theorem tyX2_ok : ∀ k, k < 3 → parseFieldDescriptor (TX2 k).2.2.1 = some (tyX2 k) := by decide +kernel
theorem inX2 : ∀ w ∈ u_ws RX2 TX2 3, w ∈ lw_tbl := by decide +kernel
def RX3 : String := "OddPartners$Matching"
def TX3 : u_T := fun k => match k with
  | 0 => ("OddPartners$Matching", "weight", "I", false)
  | 1 => ("OddPartners$Matching", "pairs", "I", false)
  | 2 => ("OddPartners$Matching", "worth", "I", false)
  | 3 => ("OddPartners$Matching", "mates", "[I", true)
  | _ => ("OddPartners$Matching", "values", "[I", true)
def tyX3 : Nat → FieldType := fun k => match k with
  | 0 => .int
  | 1 => .int
  | 2 => .int
  | 3 => .array .int
  | _ => .array .int
theorem nmX3 : ∀ a, a < 5 → ∀ b, b < 5 → a ≠ b → (TX3 a).2.1 ≠ (TX3 b).2.1 := by decide +kernel
theorem tyX3_ok : ∀ k, k < 5 → parseFieldDescriptor (TX3 k).2.2.1 = some (tyX3 k) := by decide +kernel
theorem inX3 : ∀ w ∈ u_ws RX3 TX3 5, w ∈ lw_tbl := by decide +kernel
def RX4 : String := "OddPartners$Net"
def TX4 : u_T := fun k => match k with
  | 0 => ("OddPartners$Net", "people", "I", false)
  | _ => ("OddPartners$Net", "weights", "[I", true)
def tyX4 : Nat → FieldType := fun k => match k with
  | 0 => .int
  | _ => .array .int
theorem nmX4 : ∀ a, a < 2 → ∀ b, b < 2 → a ≠ b → (TX4 a).2.1 ≠ (TX4 b).2.1 := by decide +kernel
theorem tyX4_ok : ∀ k, k < 2 → parseFieldDescriptor (TX4 k).2.2.1 = some (tyX4 k) := by decide +kernel
theorem inX4 : ∀ w ∈ u_ws RX4 TX4 2, w ∈ lw_tbl := by decide +kernel
def RX5 : String := "OddPartners$Parting"
def TX5 : u_T := fun k => match k with
  | 0 => ("OddPartners$Parting", "over", "I", false)
  | 1 => ("OddPartners$Parting", "edge", "I", false)
  | 2 => ("OddPartners$Parting", "rest", "I", false)
  | 3 => ("OddPartners$Parting", "barrier", "I", false)
  | 4 => ("OddPartners$Parting", "gain", "I", false)
  | _ => ("OddPartners$Parting", "linked", "[I", true)
def tyX5 : Nat → FieldType := fun k => match k with
  | 0 => .int
  | 1 => .int
  | 2 => .int
  | 3 => .int
  | 4 => .int
  | _ => .array .int
theorem nmX5 : ∀ a, a < 6 → ∀ b, b < 6 → a ≠ b → (TX5 a).2.1 ≠ (TX5 b).2.1 := by decide +kernel
theorem tyX5_ok : ∀ k, k < 6 → parseFieldDescriptor (TX5 k).2.2.1 = some (tyX5 k) := by decide +kernel
theorem inX5 : ∀ w ∈ u_ws RX5 TX5 6, w ∈ lw_tbl := by decide +kernel
def RX6 : String := "OddPartners$Proving"
def TX6 : u_T := fun k => match k with
  | 0 => ("OddPartners$Proving", "fault", "I", false)
  | 1 => ("OddPartners$Proving", "cause", "I", false)
  | _ => ("OddPartners$Proving", "deeper", "I", false)
def tyX6 : Nat → FieldType := fun k => match k with
  | 0 => .int
  | 1 => .int
  | _ => .int
theorem nmX6 : ∀ a, a < 3 → ∀ b, b < 3 → a ≠ b → (TX6 a).2.1 ≠ (TX6 b).2.1 := by decide +kernel
theorem tyX6_ok : ∀ k, k < 3 → parseFieldDescriptor (TX6 k).2.2.1 = some (tyX6 k) := by decide +kernel
theorem inX6 : ∀ w ∈ u_ws RX6 TX6 3, w ∈ lw_tbl := by decide +kernel
def RX7 : String := "OddPartners$Rows"
def TX7 : u_T := fun k => match k with
  | 0 => ("OddPartners$Rows", "size", "I", false)
  | 1 => ("OddPartners$Rows", "firsts", "[I", true)
  | _ => ("OddPartners$Rows", "seconds", "[I", true)
def tyX7 : Nat → FieldType := fun k => match k with
  | 0 => .int
  | 1 => .array .int
  | _ => .array .int
theorem nmX7 : ∀ a, a < 3 → ∀ b, b < 3 → a ≠ b → (TX7 a).2.1 ≠ (TX7 b).2.1 := by decide +kernel
theorem tyX7_ok : ∀ k, k < 3 → parseFieldDescriptor (TX7 k).2.2.1 = some (tyX7 k) := by decide +kernel
theorem inX7 : ∀ w ∈ u_ws RX7 TX7 3, w ∈ lw_tbl := by decide +kernel
def RX8 : String := "OddPartners$Tapes"
def TX8 : u_T := fun k => match k with
  | 0 => ("OddPartners$Tapes", "sorts", "[I", true)
  | 1 => ("OddPartners$Tapes", "sizes", "[I", true)
  | _ => ("OddPartners$Tapes", "items", "[J", true)
def tyX8 : Nat → FieldType := fun k => match k with
  | 0 => .array .int
  | 1 => .array .int
  | _ => .array .long
theorem nmX8 : ∀ a, a < 3 → ∀ b, b < 3 → a ≠ b → (TX8 a).2.1 ≠ (TX8 b).2.1 := by decide +kernel
theorem tyX8_ok : ∀ k, k < 3 → parseFieldDescriptor (TX8 k).2.2.1 = some (tyX8 k) := by decide +kernel
theorem inX8 : ∀ w ∈ u_ws RX8 TX8 3, w ∈ lw_tbl := by decide +kernel
def RX9 : String := "OddPartners$Text"
def TX9 : u_T := fun k => match k with
  | 0 => ("OddPartners$Text", "size", "I", false)
  | 1 => ("OddPartners$Text", "clauses", "I", false)
  | 2 => ("OddPartners$Text", "at", "I", false)
  | 3 => ("OddPartners$Text", "bytes", "[B", true)
  | 4 => ("OddPartners$Text", "list", "[LOddPartners$Clause;", true)
  | _ => ("OddPartners$Text", "spare", "LOddPartners$Clause;", true)
def tyX9 : Nat → FieldType := fun k => match k with
  | 0 => .int
  | 1 => .int
  | 2 => .int
  | 3 => .array .byte
  | 4 => .array (.object "OddPartners$Clause")
  | _ => .object "OddPartners$Clause"
theorem nmX9 : ∀ a, a < 6 → ∀ b, b < 6 → a ≠ b → (TX9 a).2.1 ≠ (TX9 b).2.1 := by decide +kernel
theorem tyX9_ok : ∀ k, k < 6 → parseFieldDescriptor (TX9 k).2.2.1 = some (tyX9 k) := by decide +kernel
theorem inX9 : ∀ w ∈ u_ws RX9 TX9 6, w ∈ lw_tbl := by decide +kernel
def RX10 : String := "OddPartners"
def TX10 : u_T := fun k => match k with
  | 0 => ("OddPartners", "house", "LOddPartners$House;", true)
  | 1 => ("OddPartners", "kept", "LOddPartners$House;", true)
  | 2 => ("OddPartners", "isKept", "Z", false)
  | 3 => ("OddPartners", "text", "LOddPartners$Text;", true)
  | 4 => ("OddPartners", "tapes", "LOddPartners$Tapes;", true)
  | 5 => ("OddPartners", "otherwise", "LOddPartners$Net;", true)
  | 6 => ("OddPartners", "now", "LOddPartners$Matching;", true)
  | 7 => ("OddPartners", "then", "LOddPartners$Matching;", true)
  | 8 => ("OddPartners", "line", "LOddPartners$Line;", true)
  | 9 => ("OddPartners", "parting", "LOddPartners$Parting;", true)
  | _ => ("OddPartners", "proving", "LOddPartners$Proving;", true)
def tyX10 : Nat → FieldType := fun k => match k with
  | 0 => .object "OddPartners$House"
  | 1 => .object "OddPartners$House"
  | 2 => .boolean
  | 3 => .object "OddPartners$Text"
  | 4 => .object "OddPartners$Tapes"
  | 5 => .object "OddPartners$Net"
  | 6 => .object "OddPartners$Matching"
  | 7 => .object "OddPartners$Matching"
  | 8 => .object "OddPartners$Line"
  | 9 => .object "OddPartners$Parting"
  | _ => .object "OddPartners$Proving"
theorem nmX10 : ∀ a, a < 11 → ∀ b, b < 11 → a ≠ b → (TX10 a).2.1 ≠ (TX10 b).2.1 := by decide +kernel
theorem tyX10_ok : ∀ k, k < 11 → parseFieldDescriptor (TX10 k).2.2.1 = some (tyX10 k) := by decide +kernel
theorem inX10 : ∀ w ∈ u_ws RX10 TX10 11, w ∈ lw_tbl := by decide +kernel
def RX11 : String := "OddPartnersModel"
def TX11 : u_T := fun k => match k with
  | 0 => ("OddPartnersModel", "a", "[I", true)
  | 1 => ("OddPartnersModel", "kept", "[I", true)
  | 2 => ("OddPartnersModel", "aside", "[I", true)
  | 3 => ("OddPartnersModel", "isKept", "Z", false)
  | 4 => ("OddPartnersModel", "text", "[I", true)
  | 5 => ("OddPartnersModel", "starts", "[I", true)
  | 6 => ("OddPartnersModel", "signs", "I", false)
  | 7 => ("OddPartnersModel", "clauses", "I", false)
  | 8 => ("OddPartnersModel", "path", "[I", true)
  | 9 => ("OddPartnersModel", "length", "I", false)
  | 10 => ("OddPartnersModel", "stem", "I", false)
  | 11 => ("OddPartnersModel", "ring", "I", false)
  | 12 => ("OddPartnersModel", "tried", "[I", true)
  | 13 => ("OddPartnersModel", "bestOnes", "[I", true)
  | 14 => ("OddPartnersModel", "bestPairs", "I", false)
  | 15 => ("OddPartnersModel", "bestWeight", "I", false)
  | 16 => ("OddPartnersModel", "missing", "I", false)
  | 17 => ("OddPartnersModel", "by", "I", false)
  | 18 => ("OddPartnersModel", "linked", "[I", true)
  | 19 => ("OddPartnersModel", "were", "[I", true)
  | 20 => ("OddPartnersModel", "sorts", "[I", true)
  | 21 => ("OddPartnersModel", "sizes", "[I", true)
  | 22 => ("OddPartnersModel", "rows", "[[J", true)
  | _ => ("OddPartnersModel", "passed", "[J", true)
def tyX11 : Nat → FieldType := fun k => match k with
  | 0 => .array .int
  | 1 => .array .int
  | 2 => .array .int
  | 3 => .boolean
  | 4 => .array .int
  | 5 => .array .int
  | 6 => .int
  | 7 => .int
  | 8 => .array .int
  | 9 => .int
  | 10 => .int
  | 11 => .int
  | 12 => .array .int
  | 13 => .array .int
  | 14 => .int
  | 15 => .int
  | 16 => .int
  | 17 => .int
  | 18 => .array .int
  | 19 => .array .int
  | 20 => .array .int
  | 21 => .array .int
  | 22 => .array (.array .long)
  | _ => .array .long
theorem nmX11 : ∀ a, a < 24 → ∀ b, b < 24 → a ≠ b → (TX11 a).2.1 ≠ (TX11 b).2.1 := by decide +kernel
theorem tyX11_ok : ∀ k, k < 24 → parseFieldDescriptor (TX11 k).2.2.1 = some (tyX11 k) := by decide +kernel
theorem inX11 : ∀ w ∈ u_ws RX11 TX11 24, w ∈ lw_tbl := by decide +kernel
def oCls : List vw_C := [(RX0, TX0, 4), (RX1, TX1, 7), (RX2, TX2, 3), (RX3, TX3, 5), (RX4, TX4, 2), (RX5, TX5, 6), (RX6, TX6, 3), (RX7, TX7, 3), (RX8, TX8, 3), (RX9, TX9, 6), (RX10, TX10, 11), (RX11, TX11, 24)]
/-- the names of classes by number: those of oCls, then the law and the JDK -/
def oNms : List String := ["OddPartners$Clause", "OddPartners$House", "OddPartners$Line", "OddPartners$Matching", "OddPartners$Net", "OddPartners$Parting", "OddPartners$Proving", "OddPartners$Rows", "OddPartners$Tapes", "OddPartners$Text", "OddPartners", "OddPartnersModel", "OddPartnersLaw", "java/lang/Integer", "java/lang/Math", "java/util/Arrays"]
def oNm (c : Nat) : String := oNms.getD c ""
/-- a method: name, bytes, words of locals, what it answers, its class by number, arguments (without this), whether static, cells and slots that it makes -/
abbrev oM : Type := MethodName × ByteArray × Nat × Option FieldType × Nat × Nat × Bool × Nat × Nat
def oTab : List oM := [
  (⟨"OddPartners", "<init>", "()V"⟩, prog_1_method_1_code, 1, none, 10, 0, false, 67, 1166),
  (⟨"OddPartners$House", "<init>", "()V"⟩, prog_3_method_1_code, 1, none, 1, 0, false, 16, 125),
  (⟨"OddPartners$Net", "<init>", "()V"⟩, prog_6_method_1_code, 1, none, 4, 0, false, 1, 49),
  (⟨"OddPartners$Rows", "<init>", "(I)V"⟩, prog_9_method_1_code, 3, none, 7, 1, false, 2, 0),
  (⟨"java/util/Arrays", "fill", "([II)V"⟩, prog_17_method_103_code, 4, none, 15, 2, true, 0, 0),
  (⟨"OddPartners$Text", "<init>", "()V"⟩, prog_11_method_1_code, 2, none, 9, 0, false, 15, 164),
  (⟨"OddPartners$Clause", "<init>", "()V"⟩, prog_2_method_1_code, 1, none, 0, 0, false, 0, 0),
  (⟨"OddPartners$Tapes", "<init>", "()V"⟩, prog_10_method_1_code, 1, none, 8, 0, false, 3, 372),
  (⟨"OddPartners$Matching", "<init>", "()V"⟩, prog_5_method_1_code, 1, none, 3, 0, false, 2, 135),
  (⟨"OddPartners$Line", "<init>", "()V"⟩, prog_4_method_1_code, 1, none, 2, 0, false, 1, 7),
  (⟨"OddPartners$Parting", "<init>", "()V"⟩, prog_7_method_1_code, 1, none, 5, 0, false, 1, 7),
  (⟨"OddPartners$Proving", "<init>", "()V"⟩, prog_8_method_1_code, 1, none, 6, 0, false, 0, 0),
  (⟨"OddPartners", "person", "()I"⟩, prog_1_method_2_code, 1, some .int, 10, 0, false, 0, 0),
  (⟨"OddPartners", "weigh", "(III)I"⟩, prog_1_method_3_code, 5, some .int, 10, 3, false, 0, 0),
  (⟨"OddPartners$Net", "areTwo", "(II)Z"⟩, prog_6_method_3_code, 3, some .boolean, 4, 2, false, 0, 0),
  (⟨"OddPartners$Net", "has", "(I)Z"⟩, prog_6_method_2_code, 2, some .boolean, 4, 1, false, 0, 0),
  (⟨"OddPartners$Net", "weightOf", "(II)I"⟩, prog_6_method_4_code, 4, some .int, 4, 2, false, 0, 0),
  (⟨"OddPartners$Net", "setWeight", "(III)V"⟩, prog_6_method_6_code, 4, none, 4, 3, false, 0, 0),
  (⟨"OddPartners$House", "mateOf", "(I)I"⟩, prog_3_method_2_code, 2, some .int, 1, 1, false, 0, 0),
  (⟨"OddPartners$House", "part", "(I)V"⟩, prog_3_method_5_code, 3, none, 1, 1, false, 0, 0),
  (⟨"OddPartners", "of", "(II)I"⟩, prog_1_method_4_code, 3, some .int, 10, 2, false, 0, 0),
  (⟨"OddPartners", "pair", "(II)I"⟩, prog_1_method_5_code, 3, some .int, 10, 2, false, 0, 0),
  (⟨"OddPartners$Net", "areLinked", "(II)Z"⟩, prog_6_method_5_code, 3, some .boolean, 4, 2, false, 0, 0),
  (⟨"OddPartners$House", "isFree", "(I)Z"⟩, prog_3_method_3_code, 2, some .boolean, 1, 1, false, 0, 0),
  (⟨"OddPartners$House", "join", "(II)V"⟩, prog_3_method_4_code, 3, none, 1, 2, false, 0, 0),
  (⟨"OddPartners$House", "pairs", "()I"⟩, prog_3_method_8_code, 1, some .int, 1, 0, false, 0, 0),
  (⟨"OddPartners$Net", "everybody", "()I"⟩, prog_6_method_7_code, 1, some .int, 4, 0, false, 0, 0),
  (⟨"OddPartners$House", "pairsAmong", "(I)I"⟩, prog_3_method_9_code, 5, some .int, 1, 1, false, 0, 0),
  (⟨"OddPartners$House", "isIn", "(II)Z"⟩, prog_3_method_10_code, 2, some .boolean, 1, 2, true, 0, 0),
  (⟨"OddPartners", "alone", "(I)I"⟩, prog_1_method_6_code, 3, some .int, 10, 1, false, 0, 0),
  (⟨"OddPartners", "noneAsAbsent", "(I)I"⟩, prog_1_method_15_code, 1, some .int, 10, 1, true, 0, 0),
  (⟨"OddPartners", "take", "(I)I"⟩, prog_1_method_7_code, 2, some .int, 10, 1, false, 0, 0),
  (⟨"OddPartners", "isRule", "(I)Z"⟩, prog_1_method_14_code, 1, some .boolean, 10, 1, true, 0, 0),
  (⟨"OddPartners$Matching", "find", "(LOddPartners$Net;I)V"⟩, prog_5_method_2_code, 3, none, 3, 2, false, 0, 0),
  (⟨"OddPartners$Matching", "fillValues", "(LOddPartners$Net;)V"⟩, prog_5_method_3_code, 8, none, 3, 1, false, 0, 0),
  (⟨"java/lang/Integer", "bitCount", "(I)I"⟩, prog_14_method_49_code, 1, some .int, 13, 1, true, 0, 0),
  (⟨"OddPartners$Matching", "valueAmong", "(I)I"⟩, prog_5_method_5_code, 2, some .int, 3, 1, false, 0, 0),
  (⟨"OddPartners$Matching", "valueWith", "(LOddPartners$Net;III)I"⟩, prog_5_method_4_code, 6, some .int, 3, 4, false, 0, 0),
  (⟨"OddPartners$Matching", "choose", "(LOddPartners$Net;)V"⟩, prog_5_method_7_code, 6, none, 3, 1, false, 0, 0),
  (⟨"OddPartners$Matching", "leastPartner", "(LOddPartners$Net;III)I"⟩, prog_5_method_8_code, 6, some .int, 3, 4, false, 0, 0),
  (⟨"OddPartners$House", "takeMates", "(LOddPartners$Matching;)V"⟩, prog_3_method_6_code, 3, none, 1, 1, false, 0, 0),
  (⟨"OddPartners$Matching", "mateOf", "(I)I"⟩, prog_5_method_9_code, 2, some .int, 3, 1, false, 0, 0),
  (⟨"OddPartners", "mend", "(I)I"⟩, prog_1_method_8_code, 3, some .int, 10, 1, false, 0, 0),
  (⟨"OddPartners$Line", "findWay", "(LOddPartners$House;)Z"⟩, prog_4_method_2_code, 3, some .boolean, 2, 1, false, 0, 0),
  (⟨"OddPartners$Line", "seek", "(LOddPartners$House;II)Z"⟩, prog_4_method_4_code, 4, some .boolean, 2, 3, false, 0, 0),
  (⟨"OddPartners$Line", "isCompleted", "(LOddPartners$Line;LOddPartners$House;II)Z"⟩, prog_4_method_5_code, 5, some .boolean, 2, 4, true, 0, 0),
  (⟨"OddPartners$Line", "ends", "(LOddPartners$House;)Z"⟩, prog_4_method_7_code, 3, some .boolean, 2, 1, false, 0, 0),
  (⟨"OddPartners$Line", "personAt", "(I)I"⟩, prog_4_method_8_code, 2, some .int, 2, 1, false, 0, 0),
  (⟨"OddPartners$Line", "mayStand", "(LOddPartners$House;II)Z"⟩, prog_4_method_6_code, 5, some .boolean, 2, 3, false, 0, 0),
  (⟨"OddPartners$House", "joinAlong", "(LOddPartners$Line;)V"⟩, prog_3_method_7_code, 3, none, 1, 1, false, 0, 0),
  (⟨"OddPartners", "partner", "(I)I"⟩, prog_1_method_9_code, 2, some .int, 10, 1, false, 0, 0),
  (⟨"OddPartners", "feed", "(I)I"⟩, prog_1_method_10_code, 2, some .int, 10, 1, false, 0, 0),
  (⟨"OddPartners$Text", "append", "(I)Z"⟩, prog_11_method_2_code, 2, some .boolean, 9, 1, false, 0, 0),
  (⟨"OddPartners", "read", "()I"⟩, prog_1_method_11_code, 2, some .int, 10, 0, false, 0, 0),
  (⟨"OddPartners$Text", "findFault", "()I"⟩, prog_11_method_4_code, 2, some .int, 9, 0, false, 0, 0),
  (⟨"OddPartners$Text", "clauseAt", "(I)LOddPartners$Clause;"⟩, prog_11_method_3_code, 3, some (.object "OddPartners$Clause"), 9, 1, false, 0, 0),
  (⟨"OddPartners$Text", "isClause", "(LOddPartners$Clause;)Z"⟩, prog_11_method_6_code, 3, some .boolean, 9, 1, false, 0, 0),
  (⟨"OddPartners$Text", "ahead", "()I"⟩, prog_11_method_5_code, 1, some .int, 9, 0, false, 0, 0),
  (⟨"OddPartners$Text", "nextDigit", "()I"⟩, prog_11_method_7_code, 2, some .int, 9, 0, false, 0, 0),
  (⟨"OddPartners$Text", "nextNumber", "()I"⟩, prog_11_method_8_code, 3, some .int, 9, 0, false, 0, 0),
  (⟨"OddPartners", "doClauses", "()I"⟩, prog_1_method_12_code, 3, some .int, 10, 0, false, 0, 0),
  (⟨"OddPartners", "doClause", "(LOddPartners$Clause;)I"⟩, prog_1_method_13_code, 2, some .int, 10, 1, false, 0, 0),
  (⟨"OddPartners", "halves", "(II)I"⟩, prog_1_method_23_code, 4, some .int, 10, 2, false, 0, 0),
  (⟨"OddPartners$House", "halvesOf", "(I)I"⟩, prog_3_method_12_code, 2, some .int, 1, 1, false, 0, 0),
  (⟨"OddPartners$House", "setHalves", "(II)V"⟩, prog_3_method_13_code, 3, none, 1, 2, false, 0, 0),
  (⟨"OddPartners", "way", "(I)I"⟩, prog_1_method_16_code, 2, some .int, 10, 1, false, 0, 0),
  (⟨"OddPartners", "flower", "(II)I"⟩, prog_1_method_17_code, 3, some .int, 10, 2, false, 0, 0),
  (⟨"OddPartners$Line", "findFlower", "(LOddPartners$House;)Z"⟩, prog_4_method_3_code, 4, some .boolean, 2, 1, false, 0, 0),
  (⟨"OddPartners$Line", "stemAnswer", "(I)I"⟩, prog_4_method_9_code, 2, some .int, 2, 1, false, 0, 0),
  (⟨"OddPartners$Line", "ringAnswer", "(I)I"⟩, prog_4_method_10_code, 2, some .int, 2, 1, false, 0, 0),
  (⟨"OddPartners", "shrunk", "()I"⟩, prog_1_method_18_code, 3, some .int, 10, 0, false, 0, 0),
  (⟨"OddPartners$Net", "copyFrom", "(LOddPartners$Net;)V"⟩, prog_6_method_15_code, 2, none, 4, 1, false, 0, 0),
  (⟨"OddPartners$Net", "merge", "(II)V"⟩, prog_6_method_12_code, 4, none, 4, 2, false, 0, 0),
  (⟨"OddPartners", "best", "(II)I"⟩, prog_1_method_19_code, 3, some .int, 10, 2, false, 0, 0),
  (⟨"OddPartners", "told", "(I)I"⟩, prog_1_method_20_code, 2, some .int, 10, 1, false, 0, 0),
  (⟨"OddPartners$Net", "linkedTwos", "()I"⟩, prog_6_method_9_code, 3, some .int, 4, 0, false, 0, 0),
  (⟨"OddPartners$Net", "linkedTo", "(I)I"⟩, prog_6_method_10_code, 4, some .int, 4, 1, false, 0, 0),
  (⟨"OddPartners$House", "weightOfPairs", "()I"⟩, prog_3_method_11_code, 4, some .int, 1, 0, false, 0, 0),
  (⟨"OddPartners$House", "tightTwos", "()I"⟩, prog_3_method_15_code, 4, some .int, 1, 0, false, 0, 0),
  (⟨"OddPartners$House", "excess", "(II)I"⟩, prog_3_method_14_code, 6, some .int, 1, 2, false, 0, 0),
  (⟨"OddPartners$Rows", "firstAt", "(I)I"⟩, prog_9_method_4_code, 2, some .int, 7, 1, false, 0, 0),
  (⟨"OddPartners$Rows", "secondAt", "(I)I"⟩, prog_9_method_5_code, 2, some .int, 7, 1, false, 0, 0),
  (⟨"OddPartners$House", "sum", "()I"⟩, prog_3_method_16_code, 3, some .int, 1, 0, false, 0, 0),
  (⟨"OddPartners$House", "mostPairsOf", "(I)I"⟩, prog_3_method_17_code, 1, some .int, 1, 1, true, 0, 0),
  (⟨"OddPartners", "parts", "(I)I"⟩, prog_1_method_21_code, 2, some .int, 10, 1, false, 0, 0),
  (⟨"OddPartners$Parting", "findBarrier", "(LOddPartners$Net;)V"⟩, prog_7_method_3_code, 6, none, 5, 1, false, 0, 0),
  (⟨"OddPartners$Parting", "oddParts", "(I)I"⟩, prog_7_method_4_code, 6, some .int, 5, 1, false, 0, 0),
  (⟨"OddPartners$Parting", "partOf", "(II)I"⟩, prog_7_method_5_code, 8, some .int, 5, 2, false, 0, 0),
  (⟨"OddPartners$Parting", "sortPeople", "(LOddPartners$Net;LOddPartners$Matching;)V"⟩, prog_7_method_2_code, 5, none, 5, 2, false, 0, 0),
  (⟨"OddPartners$Matching", "mostPairsAmong", "(I)I"⟩, prog_5_method_6_code, 2, some .int, 3, 1, false, 0, 0),
  (⟨"OddPartners", "loss", "(I)I"⟩, prog_1_method_22_code, 3, some .int, 10, 1, false, 0, 0),
  (⟨"OddPartners", "odd", "(II)I"⟩, prog_1_method_24_code, 3, some .int, 10, 2, false, 0, 0),
  (⟨"OddPartners$Rows", "empty", "()I"⟩, prog_9_method_2_code, 1, some .int, 7, 0, false, 0, 0),
  (⟨"OddPartners$Net", "isOddSet", "(I)Z"⟩, prog_6_method_8_code, 3, some .boolean, 4, 1, false, 0, 0),
  (⟨"OddPartners$Rows", "append", "(II)I"⟩, prog_9_method_3_code, 3, some .int, 7, 2, false, 0, 0),
  (⟨"OddPartners", "bear", "()I"⟩, prog_1_method_25_code, 2, some .int, 10, 0, false, 0, 0),
  (⟨"OddPartners$Net", "greatestWeightOf", "(I)I"⟩, prog_6_method_11_code, 4, some .int, 4, 1, false, 0, 0),
  (⟨"OddPartners", "proof", "(I)I"⟩, prog_1_method_26_code, 2, some .int, 10, 1, false, 0, 0),
  (⟨"OddPartners$Proving", "findFault", "(LOddPartners$House;)Z"⟩, prog_8_method_2_code, 2, some .boolean, 6, 1, false, 0, 0),
  (⟨"OddPartners$Proving", "lacksHalves", "(LOddPartners$House;)Z"⟩, prog_8_method_4_code, 5, some .boolean, 6, 1, false, 0, 0),
  (⟨"OddPartners$Proving", "faultIs", "(III)Z"⟩, prog_8_method_3_code, 4, some .boolean, 6, 3, false, 0, 0),
  (⟨"OddPartners$Proving", "lacksPairs", "(LOddPartners$House;)Z"⟩, prog_8_method_5_code, 5, some .boolean, 6, 1, false, 0, 0),
  (⟨"OddPartners$Proving", "hasFreeWithHalves", "(LOddPartners$House;)Z"⟩, prog_8_method_6_code, 3, some .boolean, 6, 1, false, 0, 0),
  (⟨"OddPartners$Proving", "hasLoosePair", "(LOddPartners$House;)Z"⟩, prog_8_method_7_code, 4, some .boolean, 6, 1, false, 0, 0),
  (⟨"OddPartners", "see", "(II)I"⟩, prog_1_method_27_code, 3, some .int, 10, 2, false, 0, 0),
  (⟨"OddPartners", "tellTwo", "(LOddPartners$Rows;II)I"⟩, prog_1_method_31_code, 4, some .int, 10, 3, false, 0, 0),
  (⟨"OddPartners", "fits", "(III)I"⟩, prog_1_method_28_code, 7, some .int, 10, 3, false, 0, 0),
  (⟨"OddPartners$Matching", "hasAll", "(LOddPartners$Rows;)Z"⟩, prog_5_method_10_code, 3, some .boolean, 3, 1, false, 0, 0),
  (⟨"OddPartners", "odds", "(III)J"⟩, prog_1_method_29_code, 6, some .long, 10, 3, false, 0, 0),
  (⟨"OddPartners", "lowest", "(III)J"⟩, prog_1_method_32_code, 4, some .long, 10, 3, true, 0, 0),
  (⟨"OddPartners", "commonDivisor", "(II)I"⟩, prog_1_method_33_code, 3, some .int, 10, 2, true, 0, 0),
  (⟨"OddPartners", "mean", "(I)J"⟩, prog_1_method_30_code, 2, some .long, 10, 1, false, 0, 0),
  (⟨"OddPartners", "event", "(II)I"⟩, prog_1_method_34_code, 3, some .int, 10, 2, false, 0, 0),
  (⟨"OddPartners", "after", "(I)I"⟩, prog_1_method_35_code, 3, some .int, 10, 1, false, 0, 0),
  (⟨"OddPartners$Net", "befall", "(II)V"⟩, prog_6_method_13_code, 5, none, 4, 2, false, 0, 0),
  (⟨"OddPartners$Net", "weightBehind", "(IIII)I"⟩, prog_6_method_14_code, 7, some .int, 4, 4, false, 0, 0),
  (⟨"OddPartners$Matching", "unlike", "(LOddPartners$Matching;I)I"⟩, prog_5_method_11_code, 5, some .int, 3, 2, false, 0, 0),
  (⟨"OddPartners", "book", "(II)I"⟩, prog_1_method_36_code, 3, some .int, 10, 2, false, 0, 0),
  (⟨"OddPartners", "looked", "()I"⟩, prog_1_method_37_code, 2, some .int, 10, 0, false, 0, 0),
  (⟨"OddPartners", "judge", "(II)I"⟩, prog_1_method_38_code, 4, some .int, 10, 2, false, 0, 0),
  (⟨"OddPartners$Tapes", "has", "(I)Z"⟩, prog_10_method_2_code, 2, some .boolean, 8, 1, false, 0, 0),
  (⟨"OddPartners$Tapes", "holds", "(I)Z"⟩, prog_10_method_4_code, 2, some .boolean, 8, 1, false, 0, 0),
  (⟨"OddPartners$Tapes", "sortOf", "(I)I"⟩, prog_10_method_3_code, 2, some .int, 8, 1, false, 0, 0),
  (⟨"OddPartners$Tapes", "sizeOf", "(I)I"⟩, prog_10_method_5_code, 2, some .int, 8, 1, false, 0, 0),
  (⟨"OddPartners$Tapes", "valueAt", "(II)J"⟩, prog_10_method_8_code, 3, some .long, 8, 2, false, 0, 0),
  (⟨"OddPartners$Tapes", "hasRun", "(III)Z"⟩, prog_10_method_6_code, 4, some .boolean, 8, 3, false, 0, 0),
  (⟨"OddPartners", "image", "()I"⟩, prog_1_method_39_code, 1, some .int, 10, 0, false, 0, 0),
  (⟨"OddPartners$House", "copyFrom", "(LOddPartners$House;)V"⟩, prog_3_method_18_code, 2, none, 1, 1, false, 0, 0),
  (⟨"OddPartners$Rows", "copyFrom", "(LOddPartners$Rows;)V"⟩, prog_9_method_6_code, 3, none, 7, 1, false, 0, 0),
  (⟨"OddPartners", "undo", "()I"⟩, prog_1_method_40_code, 1, some .int, 10, 0, false, 0, 0),
  (⟨"OddPartners", "count", "(I)I"⟩, prog_1_method_41_code, 2, some .int, 10, 1, false, 0, 0),
  (⟨"OddPartners", "tape", "(III)I"⟩, prog_1_method_42_code, 4, some .int, 10, 3, false, 0, 0),
  (⟨"OddPartners$Tapes", "renew", "(III)V"⟩, prog_10_method_7_code, 4, none, 8, 3, false, 0, 0),
  (⟨"java/util/Arrays", "fill", "([JIIJ)V"⟩, prog_17_method_102_code, 6, none, 15, 4, true, 0, 0),
  (⟨"java/util/Arrays", "rangeCheck", "(III)V"⟩, prog_17_method_30_code, 3, none, 15, 3, true, 0, 0),
  (⟨"OddPartners", "item", "(IIJ)I"⟩, prog_1_method_43_code, 5, some .int, 10, 3, false, 0, 0),
  (⟨"OddPartners$Tapes", "setValue", "(IIJ)V"⟩, prog_10_method_9_code, 5, none, 8, 3, false, 0, 0),
  (⟨"OddPartners$Tapes", "asItem", "(IJ)J"⟩, prog_10_method_10_code, 3, some .long, 8, 2, true, 0, 0),
  (⟨"OddPartners", "peek", "(II)J"⟩, prog_1_method_44_code, 3, some .long, 10, 2, false, 0, 0),
  (⟨"OddPartners", "shift", "(IIIII)I"⟩, prog_1_method_45_code, 6, some .int, 10, 5, false, 0, 0),
  (⟨"OddPartners$Tapes", "move", "(IIIII)V"⟩, prog_10_method_11_code, 6, none, 8, 5, false, 0, 0),
  (⟨"OddPartnersModel", "<init>", "()V"⟩, prog_13_method_1_code, 2, none, 11, 0, false, 20, 940),
  (⟨"OddPartnersModel", "person", "()I"⟩, prog_13_method_11_code, 1, some .int, 11, 0, false, 0, 0),
  (⟨"OddPartnersModel", "weigh", "(III)I"⟩, prog_13_method_13_code, 5, some .int, 11, 3, false, 0, 0),
  (⟨"OddPartnersModel", "areTwo", "(II)Z"⟩, prog_13_method_4_code, 3, some .boolean, 11, 2, false, 0, 0),
  (⟨"OddPartnersModel", "isPerson", "(I)Z"⟩, prog_13_method_3_code, 2, some .boolean, 11, 1, false, 0, 0),
  (⟨"OddPartnersModel", "in", "(III)Z"⟩, prog_13_method_2_code, 3, some .boolean, 11, 3, true, 0, 0),
  (⟨"OddPartnersModel", "weight", "(II)I"⟩, prog_13_method_5_code, 3, some .int, 11, 2, false, 0, 0),
  (⟨"OddPartnersModel", "put", "(III)V"⟩, prog_13_method_7_code, 4, none, 11, 3, false, 0, 0),
  (⟨"OddPartnersModel", "partnerOf", "(I)I"⟩, prog_13_method_8_code, 2, some .int, 11, 1, false, 0, 0),
  (⟨"OddPartnersModel", "frees", "(I)V"⟩, prog_13_method_12_code, 3, none, 11, 1, false, 0, 0),
  (⟨"OddPartnersModel", "of", "(II)I"⟩, prog_13_method_14_code, 3, some .int, 11, 2, false, 0, 0),
  (⟨"OddPartnersModel", "pair", "(II)I"⟩, prog_13_method_17_code, 3, some .int, 11, 2, false, 0, 0),
  (⟨"OddPartnersModel", "areLinked", "(II)Z"⟩, prog_13_method_6_code, 3, some .boolean, 11, 2, false, 0, 0),
  (⟨"OddPartnersModel", "join", "(II)V"⟩, prog_13_method_16_code, 3, none, 11, 2, false, 0, 0),
  (⟨"OddPartnersModel", "pairs", "()I"⟩, prog_13_method_15_code, 3, some .int, 11, 0, false, 0, 0),
  (⟨"OddPartnersModel", "alone", "(I)I"⟩, prog_13_method_19_code, 3, some .int, 11, 1, false, 0, 0),
  (⟨"OddPartnersModel", "told", "(II)I"⟩, prog_13_method_18_code, 2, some .int, 11, 2, true, 0, 0),
  (⟨"OddPartnersModel", "take", "(I)I"⟩, prog_13_method_20_code, 2, some .int, 11, 1, false, 0, 0),
  (⟨"OddPartnersModel", "chooses", "(II)V"⟩, prog_13_method_38_code, 4, none, 11, 2, false, 0, 0),
  (⟨"OddPartnersModel", "tries", "(III)V"⟩, prog_13_method_39_code, 5, none, 11, 3, false, 0, 0),
  (⟨"OddPartnersModel", "mend", "(I)I"⟩, prog_13_method_21_code, 4, some .int, 11, 1, false, 0, 0),
  (⟨"OddPartnersModel", "findsWay", "()Z"⟩, prog_13_method_33_code, 1, some .boolean, 11, 0, false, 0, 0),
  (⟨"OddPartnersModel", "goes", "(I)Z"⟩, prog_13_method_32_code, 4, some .boolean, 11, 1, false, 0, 0),
  (⟨"OddPartnersModel", "isOn", "(II)Z"⟩, prog_13_method_31_code, 4, some .boolean, 11, 2, false, 0, 0),
  (⟨"OddPartnersModel", "partner", "(I)I"⟩, prog_13_method_22_code, 2, some .int, 11, 1, false, 0, 0),
  (⟨"OddPartnersModel", "feed", "(I)I"⟩, prog_13_method_23_code, 2, some .int, 11, 1, false, 0, 0),
  (⟨"OddPartnersModel", "read", "()I"⟩, prog_13_method_30_code, 4, some .int, 11, 0, false, 0, 0),
  (⟨"OddPartnersModel", "faultOf", "()I"⟩, prog_13_method_26_code, 6, some .int, 11, 0, false, 0, 0),
  (⟨"OddPartnersModel", "isSign", "(II)Z"⟩, prog_13_method_25_code, 3, some .boolean, 11, 2, false, 0, 0),
  (⟨"OddPartnersModel", "isDigit", "(I)Z"⟩, prog_13_method_24_code, 2, some .boolean, 11, 1, false, 0, 0),
  (⟨"OddPartnersModel", "does", "(I)I"⟩, prog_13_method_29_code, 2, some .int, 11, 1, false, 0, 0),
  (⟨"OddPartnersModel", "digit", "(I)I"⟩, prog_13_method_27_code, 2, some .int, 11, 1, false, 0, 0),
  (⟨"OddPartnersModel", "number", "(I)I"⟩, prog_13_method_28_code, 2, some .int, 11, 1, false, 0, 0),
  (⟨"OddPartnersModel", "halves", "(II)I"⟩, prog_13_method_56_code, 4, some .int, 11, 2, false, 0, 0),
  (⟨"OddPartnersModel", "way", "(I)I"⟩, prog_13_method_36_code, 2, some .int, 11, 1, false, 0, 0),
  (⟨"OddPartnersModel", "flower", "(II)I"⟩, prog_13_method_37_code, 4, some .int, 11, 2, false, 0, 0),
  (⟨"OddPartnersModel", "findsFlower", "()Z"⟩, prog_13_method_35_code, 2, some .boolean, 11, 0, false, 0, 0),
  (⟨"OddPartnersModel", "blooms", "(I)Z"⟩, prog_13_method_34_code, 6, some .boolean, 11, 1, false, 0, 0),
  (⟨"OddPartnersModel", "best", "(II)I"⟩, prog_13_method_40_code, 3, some .int, 11, 2, false, 0, 0),
  (⟨"OddPartnersModel", "shrunk", "()I"⟩, prog_13_method_43_code, 5, some .int, 11, 0, false, 0, 0),
  (⟨"OddPartnersModel", "links", "()V"⟩, prog_13_method_42_code, 3, none, 11, 0, false, 0, 0),
  (⟨"OddPartnersModel", "mostPairs", "([II)I"⟩, prog_13_method_41_code, 6, some .int, 11, 2, true, 0, 0),
  (⟨"OddPartnersModel", "told", "(I)I"⟩, prog_13_method_46_code, 2, some .int, 11, 1, false, 0, 0),
  (⟨"OddPartnersModel", "linkedTwos", "(Z)I"⟩, prog_13_method_45_code, 5, some .int, 11, 1, false, 0, 0),
  (⟨"OddPartnersModel", "have", "(II)I"⟩, prog_13_method_59_code, 5, some .int, 11, 2, false, 0, 0),
  (⟨"OddPartnersModel", "weightOfPairs", "()I"⟩, prog_13_method_44_code, 3, some .int, 11, 0, false, 0, 0),
  (⟨"OddPartnersModel", "sum", "()I"⟩, prog_13_method_60_code, 3, some .int, 11, 0, false, 0, 0),
  (⟨"OddPartnersModel", "size", "(I)I"⟩, prog_13_method_49_code, 3, some .int, 11, 1, true, 0, 0),
  (⟨"OddPartnersModel", "parts", "(I)I"⟩, prog_13_method_53_code, 4, some .int, 11, 1, false, 0, 0),
  (⟨"OddPartnersModel", "barrier", "()I"⟩, prog_13_method_52_code, 3, some .int, 11, 0, false, 0, 0),
  (⟨"OddPartnersModel", "gain", "(I)I"⟩, prog_13_method_51_code, 2, some .int, 11, 1, false, 0, 0),
  (⟨"OddPartnersModel", "oddParts", "(I)I"⟩, prog_13_method_50_code, 7, some .int, 11, 1, false, 0, 0),
  (⟨"OddPartnersModel", "over", "()I"⟩, prog_13_method_47_code, 5, some .int, 11, 0, false, 0, 0),
  (⟨"OddPartnersModel", "edge", "(I)I"⟩, prog_13_method_48_code, 4, some .int, 11, 1, false, 0, 0),
  (⟨"OddPartnersModel", "loss", "(I)I"⟩, prog_13_method_55_code, 2, some .int, 11, 1, false, 0, 0),
  (⟨"OddPartnersModel", "heaviest", "(I)I"⟩, prog_13_method_54_code, 2, some .int, 11, 1, false, 0, 0),
  (⟨"OddPartnersModel", "odd", "(II)I"⟩, prog_13_method_57_code, 3, some .int, 11, 2, false, 0, 0),
  (⟨"OddPartnersModel", "bear", "()I"⟩, prog_13_method_58_code, 4, some .int, 11, 0, false, 0, 0),
  (⟨"OddPartnersModel", "proof", "(I)I"⟩, prog_13_method_62_code, 4, some .int, 11, 1, false, 0, 0),
  (⟨"OddPartnersModel", "pairsIn", "(I)I"⟩, prog_13_method_61_code, 4, some .int, 11, 1, false, 0, 0),
  (⟨"OddPartnersModel", "see", "(II)I"⟩, prog_13_method_64_code, 3, some .int, 11, 2, false, 0, 0),
  (⟨"OddPartnersModel", "comes", "(IIII)I"⟩, prog_13_method_63_code, 5, some .int, 11, 4, false, 0, 0),
  (⟨"OddPartnersModel", "fits", "(III)I"⟩, prog_13_method_66_code, 8, some .int, 11, 3, false, 0, 0),
  (⟨"OddPartnersModel", "isSeen", "()Z"⟩, prog_13_method_65_code, 2, some .boolean, 11, 0, false, 0, 0),
  (⟨"OddPartnersModel", "odds", "(III)J"⟩, prog_13_method_69_code, 7, some .long, 11, 3, false, 0, 0),
  (⟨"OddPartnersModel", "lowest", "(III)J"⟩, prog_13_method_68_code, 3, some .long, 11, 3, true, 0, 0),
  (⟨"OddPartnersModel", "common", "(II)I"⟩, prog_13_method_67_code, 2, some .int, 11, 2, true, 0, 0),
  (⟨"OddPartnersModel", "mean", "(I)J"⟩, prog_13_method_70_code, 2, some .long, 11, 1, false, 0, 0),
  (⟨"OddPartnersModel", "event", "(II)I"⟩, prog_13_method_71_code, 3, some .int, 11, 2, false, 0, 0),
  (⟨"OddPartnersModel", "after", "(I)I"⟩, prog_13_method_73_code, 4, some .int, 11, 1, false, 0, 0),
  (⟨"OddPartnersModel", "think", "()V"⟩, prog_13_method_9_code, 1, none, 11, 0, false, 0, 0),
  (⟨"OddPartnersModel", "happens", "(II)V"⟩, prog_13_method_72_code, 7, none, 11, 2, false, 0, 0),
  (⟨"OddPartnersModel", "forget", "()V"⟩, prog_13_method_10_code, 1, none, 11, 0, false, 0, 0),
  (⟨"OddPartnersModel", "book", "(II)I"⟩, prog_13_method_74_code, 3, some .int, 11, 2, false, 0, 0),
  (⟨"OddPartnersModel", "looked", "()I"⟩, prog_13_method_75_code, 2, some .int, 11, 0, false, 0, 0),
  (⟨"OddPartnersModel", "judge", "(II)I"⟩, prog_13_method_77_code, 4, some .int, 11, 2, false, 0, 0),
  (⟨"OddPartnersModel", "isTape", "(I)Z"⟩, prog_13_method_76_code, 1, some .boolean, 11, 1, true, 0, 0),
  (⟨"OddPartnersModel", "image", "()I"⟩, prog_13_method_78_code, 1, some .int, 11, 0, false, 0, 0),
  (⟨"OddPartnersModel", "undo", "()I"⟩, prog_13_method_79_code, 1, some .int, 11, 0, false, 0, 0),
  (⟨"OddPartnersModel", "count", "(I)I"⟩, prog_13_method_80_code, 2, some .int, 11, 1, false, 0, 0),
  (⟨"OddPartnersModel", "tape", "(III)I"⟩, prog_13_method_81_code, 5, some .int, 11, 3, false, 0, 0),
  (⟨"OddPartnersModel", "item", "(IIJ)I"⟩, prog_13_method_83_code, 5, some .int, 11, 3, false, 0, 0),
  (⟨"OddPartnersModel", "lowestBits", "(IJ)J"⟩, prog_13_method_82_code, 3, some .long, 11, 2, true, 0, 0),
  (⟨"OddPartnersModel", "peek", "(II)J"⟩, prog_13_method_84_code, 3, some .long, 11, 2, false, 0, 0),
  (⟨"OddPartnersModel", "shift", "(IIIII)I"⟩, prog_13_method_85_code, 6, some .int, 11, 5, false, 0, 0),
  (x, code, 4, ret, 12, 1, true, 600000, 7302249)]
def oD : oM := (⟨"", "", ""⟩, code, 0, none, 99, 0, false, 0, 0)
def oMt (y : Nat) : oM := oTab.getD y oD
def oPl : List (Nat × Nat × Nat × Nat) := [(82, 62, 81, 0), (90, 63, 89, 0), (96, 64, 95, 0), (115, 65, 114, 0), (136, 67, 135, 0), (171, 68, 170, 0), (178, 69, 177, 0), (223, 70, 222, 0), (243, 71, 242, 0), (268, 72, 267, 0), (287, 73, 286, 0), (317, 74, 316, 0), (369, 62, 367, 368), (373, 62, 371, 372), (377, 64, 375, 376), (381, 64, 379, 380), (385, 64, 383, 384), (389, 64, 387, 388), (394, 63, 392, 393), (398, 63, 396, 397), (404, 62, 402, 403), (408, 62, 406, 407), (412, 64, 410, 411), (417, 63, 415, 416), (421, 63, 419, 420), (426, 63, 424, 425), (430, 64, 428, 429), (434, 63, 432, 433), (437, 63, 436, 0), (441, 62, 439, 440), (445, 62, 444, 0), (449, 62, 447, 448), (452, 62, 451, 0), (456, 71, 454, 455), (460, 71, 459, 0), (467, 76, 466, 0), (474, 71, 472, 473), (479, 71, 478, 1), (485, 71, 484, 2), (490, 71, 489, 3), (495, 63, 493, 494), (499, 71, 497, 498), (503, 62, 501, 502), (507, 72, 505, 506), (511, 72, 510, 4), (514, 72, 513, 0), (518, 72, 517, 5), (522, 72, 520, 521), (529, 72, 528, 6), (534, 63, 532, 533), (540, 62, 538, 539), (544, 62, 542, 543), (548, 68, 546, 547), (552, 62, 550, 551), (556, 68, 554, 555), (560, 68, 558, 559), (564, 68, 563, 7), (568, 68, 567, 8), (572, 68, 571, 9), (576, 68, 575, 10), (580, 62, 579, 11), (585, 62, 584, 12), (592, 62, 590, 591), (596, 63, 594, 595), (600, 63, 598, 599), (604, 62, 602, 603), (609, 62, 607, 608), (613, 72, 611, 612), (617, 72, 615, 616), (621, 72, 619, 620), (625, 62, 623, 624), (629, 64, 627, 628), (636, 64, 634, 635), (642, 62, 640, 641), (647, 62, 645, 646), (651, 64, 649, 650), (655, 64, 653, 654), (660, 63, 658, 659), (665, 63, 663, 664), (670, 63, 668, 669), (675, 65, 673, 674), (679, 65, 677, 678), (683, 63, 681, 682), (686, 63, 685, 0), (691, 62, 689, 690), (695, 73, 693, 694), (701, 73, 700, 13), (706, 73, 705, 14), (711, 73, 709, 710), (715, 71, 713, 714), (719, 62, 717, 718), (726, 62, 724, 725), (730, 65, 728, 729), (734, 64, 732, 733), (739, 65, 737, 738), (743, 62, 741, 742), (747, 64, 745, 746), (752, 62, 750, 751), (756, 74, 754, 755), (760, 74, 759, 15), (766, 74, 765, 16), (770, 74, 769, 17), (777, 74, 776, 18), (783, 74, 782, 19), (788, 62, 786, 787), (792, 62, 791, 20), (796, 62, 794, 795), (800, 71, 798, 799), (807, 62, 805, 806), (811, 62, 810, 0), (814, 62, 813, 0), (818, 62, 816, 817), (822, 62, 820, 821), (826, 62, 824, 825), (832, 64, 830, 831), (836, 64, 835, 21), (841, 71, 839, 840), (845, 62, 843, 844), (849, 62, 847, 848), (853, 62, 851, 852), (857, 70, 855, 856), (861, 70, 859, 860), (865, 70, 863, 864), (871, 70, 869, 870), (875, 70, 873, 874), (879, 70, 877, 878), (884, 62, 882, 883), (888, 63, 886, 887), (894, 65, 892, 893), (902, 62, 900, 901), (906, 62, 904, 905), (910, 62, 908, 909), (914, 70, 912, 913), (917, 67, 916, 0), (920, 67, 919, 0), (924, 62, 922, 923), (928, 70, 926, 927), (931, 70, 930, 0), (935, 62, 933, 934), (939, 62, 937, 938), (944, 70, 942, 943), (950, 75, 949, 0), (1030, 75, 1028, 1029), (1034, 75, 1032, 1033), (1038, 75, 1037, 22), (1042, 75, 1041, 23), (1045, 75, 1044, 0), (1049, 75, 1048, 24), (1053, 75, 1052, 25), (1057, 75, 1056, 26), (1061, 75, 1060, 27), (1065, 75, 1063, 1064), (1069, 75, 1067, 1068), (1073, 75, 1072, 28), (1077, 75, 1076, 29), (1081, 75, 1080, 30), (1085, 75, 1083, 1084), (1088, 75, 1087, 0), (1092, 75, 1090, 1091), (1096, 75, 1095, 31), (1100, 75, 1099, 32), (1105, 75, 1103, 1104), (1109, 75, 1108, 33), (1113, 75, 1112, 34), (1117, 75, 1116, 35), (1121, 75, 1119, 1120), (1125, 75, 1123, 1124), (1129, 75, 1127, 1128), (1133, 75, 1132, 36), (1137, 75, 1136, 37), (1141, 75, 1140, 38), (1145, 75, 1144, 39), (1150, 75, 1149, 40), (1154, 75, 1153, 41), (1160, 75, 1158, 1159), (1164, 75, 1162, 1163), (1168, 75, 1166, 1167), (1172, 75, 1171, 42), (1176, 75, 1175, 43), (1180, 75, 1178, 1179), (1184, 75, 1182, 1183), (1188, 75, 1187, 44), (1191, 75, 1190, 0), (1196, 75, 1194, 1195), (1200, 75, 1199, 45), (1204, 75, 1203, 46), (1208, 75, 1207, 47), (1212, 75, 1211, 48), (1215, 75, 1214, 0), (1219, 75, 1217, 1218), (1223, 75, 1222, 49), (1227, 75, 1226, 50), (1231, 75, 1230, 51), (1235, 75, 1234, 52), (1239, 75, 1238, 53), (1243, 75, 1241, 1242), (1247, 75, 1246, 54), (1252, 75, 1250, 1251), (1256, 75, 1254, 1255), (1260, 75, 1258, 1259), (1264, 75, 1263, 55), (1268, 75, 1266, 1267), (1272, 75, 1271, 56), (1276, 75, 1274, 1275), (1280, 75, 1279, 57), (1284, 75, 1282, 1283), (1288, 75, 1287, 0), (1291, 75, 1290, 0), (1295, 75, 1293, 1294), (1299, 75, 1297, 1298), (1303, 75, 1301, 1302), (1307, 75, 1306, 58), (1311, 75, 1310, 59), (1316, 75, 1315, 60), (1320, 75, 1318, 1319), (1324, 75, 1322, 1323), (1328, 75, 1326, 1327), (1331, 75, 1330, 0), (1335, 75, 1333, 1334), (1339, 75, 1337, 1338), (1343, 75, 1341, 1342), (1347, 75, 1345, 1346), (1351, 75, 1349, 1350), (1354, 75, 1353, 0), (1358, 75, 1356, 1357), (1362, 75, 1360, 1361)]
/-- links of methods: owner, index, kind, method, place -/
def oLk : List (Nat × Nat × Nat × Nat × Nat) := [(0, 1, 4, 0, 179), (1, 3, 4, 0, 91), (1, 11, 3, 2, 94), (1, 27, 2, 3, 113), (1, 43, 1, 4, 134), (1, 49, 0, 18, 399), (1, 53, 0, 14, 422), (1, 57, 0, 15, 400), (1, 61, 0, 41, 496), (1, 70, 0, 47, 535), (1, 73, 0, 24, 536), (1, 77, 0, 26, 427), (1, 81, 0, 27, 431), (1, 87, 1, 28, 435), (1, 90, 0, 16, 661), (1, 94, 0, 63, 671), (1, 98, 0, 80, 672), (1, 101, 0, 81, 676), (1, 104, 0, 22, 666), (1, 107, 0, 79, 667), (1, 110, 1, 83, 684), (1, 113, 1, 35, 687), (1, 118, 0, 71, 889), (1, 122, 5, 0, 890), (1, 128, 0, 128, 891), (2, 3, 4, 0, 269), (2, 15, 0, 44, 508), (2, 26, 1, 45, 512), (2, 30, 0, 46, 515), (2, 44, 1, 28, 525), (2, 48, 0, 48, 526), (2, 51, 0, 23, 523), (2, 55, 0, 47, 519), (2, 59, 0, 22, 524), (2, 62, 0, 18, 530), (3, 3, 4, 0, 244), (3, 22, 0, 34, 457), (3, 26, 0, 38, 482), (3, 29, 0, 26, 461), (3, 35, 7, 0, 462), (3, 41, 1, 35, 465), (3, 47, 0, 36, 471), (3, 50, 1, 28, 475), (3, 56, 0, 37, 476), (3, 60, 6, 0, 481), (3, 63, 0, 16, 480), (3, 66, 1, 4, 486), (3, 78, 0, 39, 487), (3, 81, 0, 22, 491), (3, 89, 0, 80, 801), (3, 92, 0, 41, 802), (3, 95, 0, 81, 803), (4, 3, 4, 0, 97), (4, 19, 0, 15, 378), (4, 23, 0, 16, 413), (4, 27, 0, 14, 390), (4, 31, 1, 35, 656), (4, 37, 0, 26, 735), (4, 41, 0, 76, 652), (4, 44, 0, 22, 637), (4, 47, 6, 0, 748), (4, 52, 0, 17, 638), (4, 56, 0, 115, 833), (4, 60, 7, 0, 837), (4, 63, 5, 0, 630), (5, 3, 4, 0, 288), (5, 15, 0, 26, 696), (5, 28, 0, 89, 712), (5, 40, 1, 28, 702), (5, 46, 0, 76, 697), (5, 55, 0, 86, 698), (5, 61, 1, 35, 707), (5, 66, 0, 87, 703), (6, 1, 4, 0, 318), (6, 7, 0, 99, 757), (6, 13, 0, 101, 767), (6, 16, 0, 102, 774), (6, 19, 0, 103, 780), (6, 43, 0, 79, 761), (6, 47, 0, 22, 762), (6, 51, 0, 100, 763), (6, 64, 0, 80, 771), (6, 68, 0, 27, 772), (6, 71, 1, 83, 773), (6, 74, 0, 23, 778), (6, 78, 0, 63, 779), (6, 81, 0, 18, 784), (7, 3, 4, 0, 116), (7, 9, 6, 0, 117), (7, 28, 0, 92, 895), (7, 32, 0, 80, 896), (7, 36, 0, 81, 897), (7, 39, 0, 94, 898), (8, 1, 4, 0, 224), (8, 20, 1, 4, 225), (8, 26, 0, 120, 866), (8, 30, 0, 122, 862), (8, 34, 0, 123, 880), (8, 37, 1, 133, 915), (8, 40, 0, 125, 876), (8, 44, 1, 137, 929), (8, 48, 5, 0, 945), (9, 1, 4, 0, 172), (9, 19, 3, 6, 176), (9, 34, 0, 55, 557), (9, 38, 0, 56, 561), (9, 42, 0, 57, 565), (9, 49, 0, 58, 569), (9, 58, 0, 59, 573), (10, 3, 4, 0, 83), (10, 11, 2, 1, 88), (10, 23, 2, 5, 169), (10, 30, 2, 7, 221), (10, 37, 3, 2, 238), (10, 44, 3, 8, 241), (10, 54, 3, 9, 266), (10, 61, 3, 10, 285), (10, 68, 3, 11, 315), (10, 80, 0, 14, 374), (10, 84, 0, 16, 382), (10, 88, 0, 17, 386), (10, 92, 0, 18, 391), (10, 96, 0, 19, 395), (10, 100, 0, 22, 409), (10, 103, 0, 23, 414), (10, 107, 0, 24, 418), (10, 111, 0, 25, 423), (10, 115, 0, 15, 442), (10, 118, 1, 30, 443), (10, 121, 1, 32, 450), (10, 124, 0, 33, 453), (10, 128, 0, 40, 492), (10, 134, 0, 43, 504), (10, 138, 0, 49, 531), (10, 142, 0, 52, 545), (10, 148, 0, 54, 553), (10, 151, 0, 60, 577), (10, 157, 0, 55, 581), (10, 161, 0, 61, 582), (10, 170, 0, 12, 586), (10, 182, 0, 13, 587), (10, 186, 0, 21, 588), (10, 189, 0, 62, 589), (10, 193, 0, 47, 605), (10, 196, 0, 67, 610), (10, 199, 0, 68, 614), (10, 202, 0, 69, 618), (10, 205, 0, 71, 626), (10, 212, 0, 72, 633), (10, 215, 0, 41, 643), (10, 216, 0, 75, 648), (10, 219, 0, 77, 657), (10, 225, 0, 78, 662), (10, 228, 0, 82, 680), (10, 231, 0, 85, 692), (10, 240, 0, 88, 708), (10, 253, 0, 26, 720), (10, 256, 0, 36, 721), (10, 259, 0, 63, 593), (10, 262, 0, 64, 597), (10, 269, 0, 92, 727), (10, 274, 0, 93, 731), (10, 277, 0, 94, 736), (10, 279, 0, 96, 744), (10, 282, 0, 98, 753), (10, 296, 0, 105, 789), (10, 300, 0, 107, 797), (10, 306, 1, 109, 809), (10, 310, 1, 110, 812), (10, 317, 0, 80, 827), (10, 320, 0, 81, 828), (10, 323, 0, 114, 829), (10, 326, 0, 116, 838), (10, 333, 0, 120, 854), (10, 334, 0, 121, 858), (10, 337, 0, 122, 867), (10, 340, 0, 123, 868), (10, 343, 0, 124, 872), (10, 347, 0, 127, 885), (10, 354, 0, 132, 911), (10, 357, 0, 136, 925), (10, 361, 0, 125, 940), (10, 365, 0, 140, 941), (11, 5, 4, 0, 951), (11, 57, 1, 146, 1043), (11, 61, 0, 145, 1039), (11, 65, 0, 147, 1046), (11, 69, 5, 0, 1101), (11, 75, 0, 149, 1054), (11, 79, 0, 144, 1035), (11, 83, 0, 148, 1050), (11, 87, 0, 150, 1058), (11, 91, 0, 153, 1070), (11, 94, 0, 154, 1074), (11, 98, 0, 155, 1078), (11, 102, 1, 157, 1086), (11, 105, 0, 159, 1093), (11, 108, 0, 162, 1106), (11, 119, 0, 169, 1134), (11, 122, 0, 170, 1138), (11, 128, 0, 172, 1147), (11, 131, 0, 142, 1146), (11, 134, 0, 173, 1151), (11, 137, 0, 143, 1155), (11, 141, 0, 152, 1156), (11, 144, 0, 174, 1157), (11, 147, 0, 168, 1130), (11, 150, 0, 171, 1142), (11, 153, 0, 164, 1114), (11, 156, 0, 163, 1110), (11, 165, 0, 178, 1173), (11, 168, 0, 177, 1169), (11, 183, 0, 160, 1097), (11, 186, 1, 182, 1189), (11, 190, 6, 0, 1192), (11, 195, 0, 181, 1185), (11, 198, 0, 185, 1201), (11, 201, 0, 184, 1197), (11, 205, 0, 186, 1205), (11, 208, 0, 187, 1209), (11, 211, 1, 188, 1213), (11, 214, 0, 192, 1228), (11, 217, 0, 191, 1224), (11, 220, 0, 190, 1220), (11, 223, 0, 193, 1232), (11, 226, 0, 194, 1236), (11, 229, 0, 196, 1244), (11, 232, 0, 200, 1261), (11, 235, 0, 202, 1269), (11, 239, 0, 204, 1277), (11, 242, 1, 207, 1289), (11, 247, 1, 206, 1286), (11, 251, 7, 0, 1312), (11, 254, 0, 211, 1304), (11, 257, 0, 212, 1308), (11, 260, 0, 213, 1313), (11, 263, 1, 217, 1329), (11, 270, 1, 223, 1352), (12, 9, 2, 0, 80), (12, 12, 2, 141, 948), (12, 13, 0, 12, 366), (12, 17, 0, 142, 1027), (12, 18, 0, 13, 370), (12, 22, 0, 143, 1031), (12, 23, 0, 20, 401), (12, 27, 0, 151, 1062), (12, 28, 0, 21, 405), (12, 31, 0, 152, 1066), (12, 32, 0, 29, 438), (12, 36, 0, 156, 1082), (12, 37, 0, 31, 446), (12, 40, 0, 158, 1089), (12, 41, 0, 42, 500), (12, 44, 0, 161, 1102), (12, 45, 0, 50, 537), (12, 48, 0, 165, 1118), (12, 49, 0, 51, 541), (12, 52, 0, 166, 1122), (12, 53, 0, 53, 549), (12, 56, 0, 167, 1126), (12, 57, 0, 65, 601), (12, 60, 0, 175, 1161), (12, 61, 0, 66, 606), (12, 64, 0, 176, 1165), (12, 65, 0, 70, 622), (12, 68, 0, 180, 1181), (12, 69, 0, 73, 639), (12, 72, 0, 179, 1177), (12, 73, 0, 74, 644), (12, 76, 0, 183, 1193), (12, 77, 0, 84, 688), (12, 80, 0, 189, 1216), (12, 81, 0, 90, 716), (12, 84, 0, 195, 1240), (12, 85, 0, 62, 722), (12, 88, 0, 174, 1248), (12, 89, 0, 91, 723), (12, 92, 0, 197, 1249), (12, 93, 0, 95, 740), (12, 96, 0, 198, 1253), (12, 97, 0, 97, 749), (12, 100, 0, 199, 1257), (12, 101, 0, 104, 785), (12, 104, 0, 201, 1265), (12, 105, 0, 106, 793), (12, 108, 0, 203, 1273), (12, 109, 0, 108, 804), (12, 113, 0, 205, 1281), (12, 114, 0, 111, 815), (12, 118, 0, 208, 1292), (12, 119, 0, 112, 819), (12, 122, 0, 209, 1296), (12, 123, 0, 113, 823), (12, 126, 0, 210, 1300), (12, 127, 0, 117, 842), (12, 130, 0, 214, 1317), (12, 131, 0, 118, 846), (12, 134, 0, 215, 1321), (12, 135, 0, 119, 850), (12, 138, 0, 216, 1325), (12, 139, 0, 126, 881), (12, 142, 0, 218, 1332), (12, 143, 0, 129, 899), (12, 146, 0, 219, 1336), (12, 147, 0, 130, 903), (12, 150, 0, 220, 1340), (12, 151, 0, 131, 907), (12, 154, 0, 221, 1344), (12, 157, 0, 135, 921), (12, 161, 0, 222, 1348), (12, 162, 0, 138, 932), (12, 166, 0, 224, 1355), (12, 167, 0, 139, 936), (12, 171, 0, 225, 1359), (15, 13, 1, 134, 918)]
def oFl : List (Nat × Nat × Nat × Nat × Nat) := [(1, 12, 1, 0, 137), (1, 18, 1, 1, 141), (1, 22, 1, 2, 142), (1, 30, 1, 3, 143), (1, 34, 1, 4, 146), (1, 37, 1, 5, 148), (1, 40, 1, 6, 150), (1, 64, 2, 0, 271), (1, 84, 4, 0, 103), (1, 97, 7, 0, 123), (2, 9, 2, 2, 275), (2, 19, 2, 0, 270), (2, 23, 2, 1, 273), (2, 34, 1, 0, 140), (2, 40, 4, 0, 102), (3, 9, 3, 3, 251), (3, 15, 3, 4, 252), (3, 18, 3, 2, 250), (3, 72, 3, 0, 245), (3, 75, 3, 1, 248), (3, 84, 7, 0, 122), (4, 9, 4, 1, 104), (4, 15, 4, 0, 98), (5, 9, 5, 5, 299), (5, 21, 5, 0, 289), (5, 25, 4, 0, 100), (5, 34, 3, 1, 247), (5, 37, 5, 1, 291), (5, 49, 5, 2, 293), (5, 52, 5, 3, 295), (5, 58, 5, 4, 297), (6, 22, 6, 0, 319), (6, 26, 6, 1, 321), (6, 29, 6, 2, 323), (6, 32, 1, 0, 139), (6, 38, 4, 0, 101), (6, 55, 1, 3, 144), (6, 59, 7, 0, 121), (7, 15, 7, 1, 125), (7, 21, 7, 2, 126), (7, 24, 7, 0, 120), (8, 9, 8, 0, 226), (8, 13, 8, 1, 227), (8, 16, 8, 2, 228), (9, 9, 9, 3, 203), (9, 15, 9, 4, 204), (9, 20, 9, 5, 205), (9, 24, 9, 0, 198), (9, 28, 9, 2, 202), (9, 31, 9, 1, 200), (9, 46, 0, 0, 180), (9, 52, 0, 1, 182), (9, 55, 0, 2, 184), (9, 61, 0, 3, 186), (10, 12, 10, 0, 332), (10, 18, 10, 1, 333), (10, 24, 10, 3, 335), (10, 31, 10, 4, 336), (10, 38, 10, 5, 337), (10, 45, 10, 6, 338), (10, 49, 10, 7, 339), (10, 55, 10, 8, 340), (10, 62, 10, 9, 341), (10, 69, 10, 10, 342), (10, 73, 1, 0, 138), (10, 76, 4, 0, 99), (10, 132, 3, 1, 249), (10, 145, 9, 0, 199), (10, 154, 9, 1, 201), (10, 165, 0, 0, 181), (10, 173, 0, 1, 183), (10, 176, 0, 2, 185), (10, 179, 0, 3, 187), (10, 192, 2, 0, 272), (10, 209, 2, 1, 274), (10, 222, 3, 0, 246), (10, 234, 5, 3, 296), (10, 237, 5, 4, 298), (10, 244, 5, 0, 290), (10, 247, 5, 1, 292), (10, 250, 5, 2, 294), (10, 265, 1, 3, 145), (10, 284, 6, 0, 320), (10, 287, 6, 1, 322), (10, 290, 6, 2, 324), (10, 293, 1, 4, 147), (10, 313, 1, 5, 149), (10, 316, 7, 0, 124), (10, 330, 1, 6, 151), (10, 350, 10, 2, 334), (11, 11, 11, 0, 954), (11, 15, 11, 1, 955), (11, 18, 11, 2, 956), (11, 21, 11, 4, 958), (11, 24, 11, 5, 959), (11, 27, 11, 8, 962), (11, 30, 11, 12, 966), (11, 33, 11, 13, 967), (11, 36, 11, 18, 972), (11, 39, 11, 19, 973), (11, 42, 11, 20, 974), (11, 45, 11, 21, 975), (11, 50, 11, 22, 976), (11, 53, 11, 23, 977), (11, 112, 11, 9, 963), (11, 116, 11, 6, 960), (11, 125, 11, 7, 961), (11, 159, 11, 10, 964), (11, 162, 11, 11, 965), (11, 171, 11, 17, 971), (11, 174, 11, 16, 970), (11, 177, 11, 14, 968), (11, 180, 11, 15, 969), (11, 266, 11, 3, 957)]
def oNw : List (Nat × Nat × Nat × Nat × Nat × Nat) := [(1, 9, 4, 92, 93, 64), (1, 25, 7, 111, 112, 65), (9, 13, 0, 173, 175, 69), (10, 9, 1, 86, 87, 63), (10, 21, 9, 167, 168, 68), (10, 28, 8, 219, 220, 70), (10, 35, 4, 237, 93, 64), (10, 42, 3, 239, 240, 71), (10, 52, 2, 264, 265, 72), (10, 59, 5, 283, 284, 73), (10, 66, 6, 313, 314, 74), (12, 7, 10, 78, 79, 62), (12, 10, 11, 946, 947, 75)]
def oKi : List (Nat × Nat × Int × Nat) := [(13, 265, 1431655765, 468), (13, 266, 858993459, 469), (13, 267, 252645135, 470)]
def oKl : List (Nat × Nat × Int × Nat) := [(10, 304, (-9223372036854775808), 808), (11, 245, (-9223372036854775808), 1285), (12, 155, (4294967295), 1363)]
