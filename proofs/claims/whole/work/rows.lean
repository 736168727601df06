section
-- ===== PART A: goes FIRST, ahead of the names: the tables' words, and 'selects' of the private methods out of them =====
/-- a private method of a class that the tables say can be made, by its rows of tables_1 -/
def lw_okq (q : MethodName × Nat) : Prop := (q.1.cls ≠ "java/lang/invoke/MethodHandle" ∧ q.1.cls ≠ "java/lang/invoke/VarHandle") ∧ Cond.instantiable q.1.cls q.2 ∈ tables_1 ∧ Cond.privateMethod q.1 ∈ tables_1 ∧ Cond.instanceMethod q.1 ∈ tables_1
theorem lw_p0 : lw_okq (⟨"QuayBrands", "work", "()V"⟩, 13) := ⟨⟨by decide +kernel, by decide +kernel⟩, List.mem_of_getElem? (i := 17) (by decide +kernel), List.mem_of_getElem? (i := 431) (by decide +kernel), List.mem_of_getElem? (i := 432) (by decide +kernel)⟩
theorem lw_p1 : lw_okq (⟨"QuayBrands$Landings", "workOne", "(III)V"⟩, 14) := ⟨⟨by decide +kernel, by decide +kernel⟩, List.mem_of_getElem? (i := 71) (by decide +kernel), List.mem_of_getElem? (i := 439) (by decide +kernel), List.mem_of_getElem? (i := 440) (by decide +kernel)⟩
theorem lw_p2 : lw_okq (⟨"QuayBrands$Landings", "startOf", "(III)I"⟩, 14) := ⟨⟨by decide +kernel, by decide +kernel⟩, List.mem_of_getElem? (i := 71) (by decide +kernel), List.mem_of_getElem? (i := 443) (by decide +kernel), List.mem_of_getElem? (i := 444) (by decide +kernel)⟩
theorem lw_p3 : lw_okq (⟨"QuayBrands$Landings", "workedFrom", "(IIII)I"⟩, 14) := ⟨⟨by decide +kernel, by decide +kernel⟩, List.mem_of_getElem? (i := 71) (by decide +kernel), List.mem_of_getElem? (i := 454) (by decide +kernel), List.mem_of_getElem? (i := 455) (by decide +kernel)⟩
theorem lw_p4 : lw_okq (⟨"QuayBrands", "barrelsAt", "(I)I"⟩, 13) := ⟨⟨by decide +kernel, by decide +kernel⟩, List.mem_of_getElem? (i := 17) (by decide +kernel), List.mem_of_getElem? (i := 461) (by decide +kernel), List.mem_of_getElem? (i := 462) (by decide +kernel)⟩
theorem lw_p5 : lw_okq (⟨"QuayBrands", "measureOne", "(II)V"⟩, 13) := ⟨⟨by decide +kernel, by decide +kernel⟩, List.mem_of_getElem? (i := 17) (by decide +kernel), List.mem_of_getElem? (i := 465) (by decide +kernel), List.mem_of_getElem? (i := 466) (by decide +kernel)⟩
theorem lw_p6 : lw_okq (⟨"QuayBrands", "brandOfCask", "(I)I"⟩, 13) := ⟨⟨by decide +kernel, by decide +kernel⟩, List.mem_of_getElem? (i := 17) (by decide +kernel), List.mem_of_getElem? (i := 491) (by decide +kernel), List.mem_of_getElem? (i := 492) (by decide +kernel)⟩
theorem lw_p7 : lw_okq (⟨"QuayBrands", "tiers", "()I"⟩, 13) := ⟨⟨by decide +kernel, by decide +kernel⟩, List.mem_of_getElem? (i := 17) (by decide +kernel), List.mem_of_getElem? (i := 495) (by decide +kernel), List.mem_of_getElem? (i := 496) (by decide +kernel)⟩
theorem lw_p8 : lw_okq (⟨"QuayBrands$Salts", "find", "(II)I"⟩, 5) := ⟨⟨by decide +kernel, by decide +kernel⟩, List.mem_of_getElem? (i := 177) (by decide +kernel), List.mem_of_getElem? (i := 503) (by decide +kernel), List.mem_of_getElem? (i := 504) (by decide +kernel)⟩
theorem lw_p9 : lw_okq (⟨"QuayBrands$Acts", "actOn", "(I)I"⟩, 7) := ⟨⟨by decide +kernel, by decide +kernel⟩, List.mem_of_getElem? (i := 42) (by decide +kernel), List.mem_of_getElem? (i := 511) (by decide +kernel), List.mem_of_getElem? (i := 512) (by decide +kernel)⟩
theorem lw_p10 : lw_okq (⟨"QuayBrands$Acts", "beginsGrade", "(II)Z"⟩, 7) := ⟨⟨by decide +kernel, by decide +kernel⟩, List.mem_of_getElem? (i := 42) (by decide +kernel), List.mem_of_getElem? (i := 515) (by decide +kernel), List.mem_of_getElem? (i := 516) (by decide +kernel)⟩
theorem lw_p11 : lw_okq (⟨"QuayBrands", "isLanding", "(I)Z"⟩, 13) := ⟨⟨by decide +kernel, by decide +kernel⟩, List.mem_of_getElem? (i := 17) (by decide +kernel), List.mem_of_getElem? (i := 571) (by decide +kernel), List.mem_of_getElem? (i := 572) (by decide +kernel)⟩
theorem lw_p12 : lw_okq (⟨"QuayBrands", "ofCask", "(I)I"⟩, 13) := ⟨⟨by decide +kernel, by decide +kernel⟩, List.mem_of_getElem? (i := 17) (by decide +kernel), List.mem_of_getElem? (i := 599) (by decide +kernel), List.mem_of_getElem? (i := 600) (by decide +kernel)⟩
theorem lw_p13 : lw_okq (⟨"QuayBrands", "countBranded", "(III)I"⟩, 13) := ⟨⟨by decide +kernel, by decide +kernel⟩, List.mem_of_getElem? (i := 17) (by decide +kernel), List.mem_of_getElem? (i := 611) (by decide +kernel), List.mem_of_getElem? (i := 612) (by decide +kernel)⟩
theorem lw_p14 : lw_okq (⟨"QuayBrands$Judged", "listAble", "()V"⟩, 6) := ⟨⟨by decide +kernel, by decide +kernel⟩, List.mem_of_getElem? (i := 200) (by decide +kernel), List.mem_of_getElem? (i := 665) (by decide +kernel), List.mem_of_getElem? (i := 666) (by decide +kernel)⟩
theorem lw_p15 : lw_okq (⟨"QuayBrands$Judged", "explainsAll", "(I)Z"⟩, 6) := ⟨⟨by decide +kernel, by decide +kernel⟩, List.mem_of_getElem? (i := 200) (by decide +kernel), List.mem_of_getElem? (i := 670) (by decide +kernel), List.mem_of_getElem? (i := 671) (by decide +kernel)⟩
def lw_privs_1 : List (MethodName × Nat) := [(⟨"QuayBrands", "work", "()V"⟩, 13), (⟨"QuayBrands$Landings", "workOne", "(III)V"⟩, 14), (⟨"QuayBrands$Landings", "startOf", "(III)I"⟩, 14), (⟨"QuayBrands$Landings", "workedFrom", "(IIII)I"⟩, 14), (⟨"QuayBrands", "barrelsAt", "(I)I"⟩, 13), (⟨"QuayBrands", "measureOne", "(II)V"⟩, 13), (⟨"QuayBrands", "brandOfCask", "(I)I"⟩, 13), (⟨"QuayBrands", "tiers", "()I"⟩, 13), (⟨"QuayBrands$Salts", "find", "(II)I"⟩, 5), (⟨"QuayBrands$Acts", "actOn", "(I)I"⟩, 7), (⟨"QuayBrands$Acts", "beginsGrade", "(II)Z"⟩, 7), (⟨"QuayBrands", "isLanding", "(I)Z"⟩, 13), (⟨"QuayBrands", "ofCask", "(I)I"⟩, 13), (⟨"QuayBrands", "countBranded", "(III)I"⟩, 13), (⟨"QuayBrands$Judged", "listAble", "()V"⟩, 6), (⟨"QuayBrands$Judged", "explainsAll", "(I)Z"⟩, 6)]
theorem lw_r1 : ∀ q ∈ lw_privs_1, lw_okq q := List.forall_mem_cons.mpr ⟨lw_p0, List.forall_mem_cons.mpr ⟨lw_p1, List.forall_mem_cons.mpr ⟨lw_p2, List.forall_mem_cons.mpr ⟨lw_p3, List.forall_mem_cons.mpr ⟨lw_p4, List.forall_mem_cons.mpr ⟨lw_p5, List.forall_mem_cons.mpr ⟨lw_p6, List.forall_mem_cons.mpr ⟨lw_p7, List.forall_mem_cons.mpr ⟨lw_p8, List.forall_mem_cons.mpr ⟨lw_p9, List.forall_mem_cons.mpr ⟨lw_p10, List.forall_mem_cons.mpr ⟨lw_p11, List.forall_mem_cons.mpr ⟨lw_p12, List.forall_mem_cons.mpr ⟨lw_p13, List.forall_mem_cons.mpr ⟨lw_p14, List.forall_mem_cons.mpr ⟨lw_p15, fun _ h => absurd h List.not_mem_nil⟩⟩⟩⟩⟩⟩⟩⟩⟩⟩⟩⟩⟩⟩⟩⟩
theorem lw_p16 : lw_okq (⟨"QuayBrands$Judged", "advance", "(I)Z"⟩, 6) := ⟨⟨by decide +kernel, by decide +kernel⟩, List.mem_of_getElem? (i := 200) (by decide +kernel), List.mem_of_getElem? (i := 674) (by decide +kernel), List.mem_of_getElem? (i := 675) (by decide +kernel)⟩
theorem lw_p17 : lw_okq (⟨"QuayBrands", "freePrice", "(II)I"⟩, 13) := ⟨⟨by decide +kernel, by decide +kernel⟩, List.mem_of_getElem? (i := 17) (by decide +kernel), List.mem_of_getElem? (i := 707) (by decide +kernel), List.mem_of_getElem? (i := 708) (by decide +kernel)⟩
theorem lw_p18 : lw_okq (⟨"QuayBrands", "costOf", "(IIII)I"⟩, 13) := ⟨⟨by decide +kernel, by decide +kernel⟩, List.mem_of_getElem? (i := 17) (by decide +kernel), List.mem_of_getElem? (i := 723) (by decide +kernel), List.mem_of_getElem? (i := 724) (by decide +kernel)⟩
theorem lw_p19 : lw_okq (⟨"QuayBrands", "savedBy", "(III)I"⟩, 13) := ⟨⟨by decide +kernel, by decide +kernel⟩, List.mem_of_getElem? (i := 17) (by decide +kernel), List.mem_of_getElem? (i := 728) (by decide +kernel), List.mem_of_getElem? (i := 729) (by decide +kernel)⟩
theorem lw_p20 : lw_okq (⟨"QuayBrands", "costsAt", "(II)I"⟩, 13) := ⟨⟨by decide +kernel, by decide +kernel⟩, List.mem_of_getElem? (i := 17) (by decide +kernel), List.mem_of_getElem? (i := 740) (by decide +kernel), List.mem_of_getElem? (i := 741) (by decide +kernel)⟩
theorem lw_p21 : lw_okq (⟨"QuayBrands", "wagesAt", "(I)I"⟩, 13) := ⟨⟨by decide +kernel, by decide +kernel⟩, List.mem_of_getElem? (i := 17) (by decide +kernel), List.mem_of_getElem? (i := 744) (by decide +kernel), List.mem_of_getElem? (i := 745) (by decide +kernel)⟩
theorem lw_p22 : lw_okq (⟨"QuayBrands", "bountyAt", "(I)I"⟩, 13) := ⟨⟨by decide +kernel, by decide +kernel⟩, List.mem_of_getElem? (i := 17) (by decide +kernel), List.mem_of_getElem? (i := 748) (by decide +kernel), List.mem_of_getElem? (i := 749) (by decide +kernel)⟩
theorem lw_p23 : lw_okq (⟨"QuayBrands", "brandedAt", "(I)I"⟩, 13) := ⟨⟨by decide +kernel, by decide +kernel⟩, List.mem_of_getElem? (i := 17) (by decide +kernel), List.mem_of_getElem? (i := 752) (by decide +kernel), List.mem_of_getElem? (i := 753) (by decide +kernel)⟩
theorem lw_p24 : lw_okq (⟨"QuayBrands$Spreading", "list", "(LQuayBrands$Landings;)V"⟩, 6) := ⟨⟨by decide +kernel, by decide +kernel⟩, List.mem_of_getElem? (i := 266) (by decide +kernel), List.mem_of_getElem? (i := 770) (by decide +kernel), List.mem_of_getElem? (i := 771) (by decide +kernel)⟩
theorem lw_p25 : lw_okq (⟨"QuayBrands$Spreading", "spoiltBy", "(I)I"⟩, 6) := ⟨⟨by decide +kernel, by decide +kernel⟩, List.mem_of_getElem? (i := 266) (by decide +kernel), List.mem_of_getElem? (i := 778) (by decide +kernel), List.mem_of_getElem? (i := 779) (by decide +kernel)⟩
theorem lw_p26 : lw_okq (⟨"QuayBrands$Spreading", "digit", "(II)I"⟩, 6) := ⟨⟨by decide +kernel, by decide +kernel⟩, List.mem_of_getElem? (i := 266) (by decide +kernel), List.mem_of_getElem? (i := 782) (by decide +kernel), List.mem_of_getElem? (i := 783) (by decide +kernel)⟩
theorem lw_p27 : lw_okq (⟨"QuayBrands$Fleet", "bearOneMore", "(III)V"⟩, 5) := ⟨⟨by decide +kernel, by decide +kernel⟩, List.mem_of_getElem? (i := 294) (by decide +kernel), List.mem_of_getElem? (i := 817) (by decide +kernel), List.mem_of_getElem? (i := 818) (by decide +kernel)⟩
theorem lw_p28 : lw_okq (⟨"QuayBrands$Fleet", "leastRow", "(III)I"⟩, 5) := ⟨⟨by decide +kernel, by decide +kernel⟩, List.mem_of_getElem? (i := 294) (by decide +kernel), List.mem_of_getElem? (i := 831) (by decide +kernel), List.mem_of_getElem? (i := 832) (by decide +kernel)⟩
theorem lw_p29 : lw_okq (⟨"QuayBrands", "spoiltOfAll", "()I"⟩, 13) := ⟨⟨by decide +kernel, by decide +kernel⟩, List.mem_of_getElem? (i := 17) (by decide +kernel), List.mem_of_getElem? (i := 840) (by decide +kernel), List.mem_of_getElem? (i := 841) (by decide +kernel)⟩
theorem lw_p30 : lw_okq (⟨"QuayBrands", "barrelsOfAll", "()I"⟩, 13) := ⟨⟨by decide +kernel, by decide +kernel⟩, List.mem_of_getElem? (i := 17) (by decide +kernel), List.mem_of_getElem? (i := 844) (by decide +kernel), List.mem_of_getElem? (i := 845) (by decide +kernel)⟩
theorem lw_p31 : lw_okq (⟨"QuayBrandsModel", "faultOf", "()I"⟩, 50) := ⟨⟨by decide +kernel, by decide +kernel⟩, List.mem_of_getElem? (i := 848) (by decide +kernel), List.mem_of_getElem? (i := 1020) (by decide +kernel), List.mem_of_getElem? (i := 1021) (by decide +kernel)⟩
def lw_privs_2 : List (MethodName × Nat) := [(⟨"QuayBrands$Judged", "advance", "(I)Z"⟩, 6), (⟨"QuayBrands", "freePrice", "(II)I"⟩, 13), (⟨"QuayBrands", "costOf", "(IIII)I"⟩, 13), (⟨"QuayBrands", "savedBy", "(III)I"⟩, 13), (⟨"QuayBrands", "costsAt", "(II)I"⟩, 13), (⟨"QuayBrands", "wagesAt", "(I)I"⟩, 13), (⟨"QuayBrands", "bountyAt", "(I)I"⟩, 13), (⟨"QuayBrands", "brandedAt", "(I)I"⟩, 13), (⟨"QuayBrands$Spreading", "list", "(LQuayBrands$Landings;)V"⟩, 6), (⟨"QuayBrands$Spreading", "spoiltBy", "(I)I"⟩, 6), (⟨"QuayBrands$Spreading", "digit", "(II)I"⟩, 6), (⟨"QuayBrands$Fleet", "bearOneMore", "(III)V"⟩, 5), (⟨"QuayBrands$Fleet", "leastRow", "(III)I"⟩, 5), (⟨"QuayBrands", "spoiltOfAll", "()I"⟩, 13), (⟨"QuayBrands", "barrelsOfAll", "()I"⟩, 13), (⟨"QuayBrandsModel", "faultOf", "()I"⟩, 50)]
theorem lw_r2 : ∀ q ∈ lw_privs_2, lw_okq q := List.forall_mem_cons.mpr ⟨lw_p16, List.forall_mem_cons.mpr ⟨lw_p17, List.forall_mem_cons.mpr ⟨lw_p18, List.forall_mem_cons.mpr ⟨lw_p19, List.forall_mem_cons.mpr ⟨lw_p20, List.forall_mem_cons.mpr ⟨lw_p21, List.forall_mem_cons.mpr ⟨lw_p22, List.forall_mem_cons.mpr ⟨lw_p23, List.forall_mem_cons.mpr ⟨lw_p24, List.forall_mem_cons.mpr ⟨lw_p25, List.forall_mem_cons.mpr ⟨lw_p26, List.forall_mem_cons.mpr ⟨lw_p27, List.forall_mem_cons.mpr ⟨lw_p28, List.forall_mem_cons.mpr ⟨lw_p29, List.forall_mem_cons.mpr ⟨lw_p30, List.forall_mem_cons.mpr ⟨lw_p31, fun _ h => absurd h List.not_mem_nil⟩⟩⟩⟩⟩⟩⟩⟩⟩⟩⟩⟩⟩⟩⟩⟩
theorem lw_p32 : lw_okq (⟨"QuayBrandsModel", "actOn", "(I)I"⟩, 50) := ⟨⟨by decide +kernel, by decide +kernel⟩, List.mem_of_getElem? (i := 848) (by decide +kernel), List.mem_of_getElem? (i := 1038) (by decide +kernel), List.mem_of_getElem? (i := 1039) (by decide +kernel)⟩
theorem lw_p33 : lw_okq (⟨"QuayBrandsModel", "waiting", "()I"⟩, 50) := ⟨⟨by decide +kernel, by decide +kernel⟩, List.mem_of_getElem? (i := 848) (by decide +kernel), List.mem_of_getElem? (i := 1060) (by decide +kernel), List.mem_of_getElem? (i := 1061) (by decide +kernel)⟩
theorem lw_p34 : lw_okq (⟨"QuayBrandsModel", "workQuay", "(I)V"⟩, 50) := ⟨⟨by decide +kernel, by decide +kernel⟩, List.mem_of_getElem? (i := 848) (by decide +kernel), List.mem_of_getElem? (i := 1072) (by decide +kernel), List.mem_of_getElem? (i := 1073) (by decide +kernel)⟩
theorem lw_p35 : lw_okq (⟨"QuayBrandsModel", "nextHour", "(I)I"⟩, 50) := ⟨⟨by decide +kernel, by decide +kernel⟩, List.mem_of_getElem? (i := 848) (by decide +kernel), List.mem_of_getElem? (i := 1076) (by decide +kernel), List.mem_of_getElem? (i := 1077) (by decide +kernel)⟩
theorem lw_p36 : lw_okq (⟨"QuayBrandsModel", "firstOf", "(II)I"⟩, 50) := ⟨⟨by decide +kernel, by decide +kernel⟩, List.mem_of_getElem? (i := 848) (by decide +kernel), List.mem_of_getElem? (i := 1080) (by decide +kernel), List.mem_of_getElem? (i := 1081) (by decide +kernel)⟩
theorem lw_p37 : lw_okq (⟨"QuayBrandsModel", "takes", "(II)Z"⟩, 50) := ⟨⟨by decide +kernel, by decide +kernel⟩, List.mem_of_getElem? (i := 848) (by decide +kernel), List.mem_of_getElem? (i := 1092) (by decide +kernel), List.mem_of_getElem? (i := 1093) (by decide +kernel)⟩
theorem lw_p38 : lw_okq (⟨"QuayBrandsModel", "beginBarrels", "(I)V"⟩, 50) := ⟨⟨by decide +kernel, by decide +kernel⟩, List.mem_of_getElem? (i := 848) (by decide +kernel), List.mem_of_getElem? (i := 1096) (by decide +kernel), List.mem_of_getElem? (i := 1097) (by decide +kernel)⟩
theorem lw_p39 : lw_okq (⟨"QuayBrandsModel", "barrelsNow", "()I"⟩, 50) := ⟨⟨by decide +kernel, by decide +kernel⟩, List.mem_of_getElem? (i := 848) (by decide +kernel), List.mem_of_getElem? (i := 1100) (by decide +kernel), List.mem_of_getElem? (i := 1101) (by decide +kernel)⟩
theorem lw_p40 : lw_okq (⟨"QuayBrandsModel", "takeBarrel", "()V"⟩, 50) := ⟨⟨by decide +kernel, by decide +kernel⟩, List.mem_of_getElem? (i := 848) (by decide +kernel), List.mem_of_getElem? (i := 1104) (by decide +kernel), List.mem_of_getElem? (i := 1105) (by decide +kernel)⟩
theorem lw_p41 : lw_okq (⟨"QuayBrandsModel", "brandOf", "(II)I"⟩, 50) := ⟨⟨by decide +kernel, by decide +kernel⟩, List.mem_of_getElem? (i := 848) (by decide +kernel), List.mem_of_getElem? (i := 1108) (by decide +kernel), List.mem_of_getElem? (i := 1109) (by decide +kernel)⟩
theorem lw_p42 : lw_okq (⟨"QuayBrandsModel", "factOf", "(II)I"⟩, 50) := ⟨⟨by decide +kernel, by decide +kernel⟩, List.mem_of_getElem? (i := 848) (by decide +kernel), List.mem_of_getElem? (i := 1112) (by decide +kernel), List.mem_of_getElem? (i := 1113) (by decide +kernel)⟩
theorem lw_p43 : lw_okq (⟨"QuayBrandsModel", "saltOf", "(II)I"⟩, 50) := ⟨⟨by decide +kernel, by decide +kernel⟩, List.mem_of_getElem? (i := 848) (by decide +kernel), List.mem_of_getElem? (i := 1116) (by decide +kernel), List.mem_of_getElem? (i := 1117) (by decide +kernel)⟩
theorem lw_p44 : lw_okq (⟨"QuayBrandsModel", "mayBe", "(I)Z"⟩, 50) := ⟨⟨by decide +kernel, by decide +kernel⟩, List.mem_of_getElem? (i := 848) (by decide +kernel), List.mem_of_getElem? (i := 1148) (by decide +kernel), List.mem_of_getElem? (i := 1149) (by decide +kernel)⟩
theorem lw_p45 : lw_okq (⟨"QuayBrandsModel", "hasCause", "(II)Z"⟩, 50) := ⟨⟨by decide +kernel, by decide +kernel⟩, List.mem_of_getElem? (i := 848) (by decide +kernel), List.mem_of_getElem? (i := 1152) (by decide +kernel), List.mem_of_getElem? (i := 1153) (by decide +kernel)⟩
theorem lw_p46 : lw_okq (⟨"QuayBrandsModel", "fewest", "()I"⟩, 50) := ⟨⟨by decide +kernel, by decide +kernel⟩, List.mem_of_getElem? (i := 848) (by decide +kernel), List.mem_of_getElem? (i := 1160) (by decide +kernel), List.mem_of_getElem? (i := 1161) (by decide +kernel)⟩
theorem lw_p47 : lw_okq (⟨"QuayBrandsModel", "setOf", "(III)I"⟩, 50) := ⟨⟨by decide +kernel, by decide +kernel⟩, List.mem_of_getElem? (i := 848) (by decide +kernel), List.mem_of_getElem? (i := 1164) (by decide +kernel), List.mem_of_getElem? (i := 1165) (by decide +kernel)⟩
def lw_privs_3 : List (MethodName × Nat) := [(⟨"QuayBrandsModel", "actOn", "(I)I"⟩, 50), (⟨"QuayBrandsModel", "waiting", "()I"⟩, 50), (⟨"QuayBrandsModel", "workQuay", "(I)V"⟩, 50), (⟨"QuayBrandsModel", "nextHour", "(I)I"⟩, 50), (⟨"QuayBrandsModel", "firstOf", "(II)I"⟩, 50), (⟨"QuayBrandsModel", "takes", "(II)Z"⟩, 50), (⟨"QuayBrandsModel", "beginBarrels", "(I)V"⟩, 50), (⟨"QuayBrandsModel", "barrelsNow", "()I"⟩, 50), (⟨"QuayBrandsModel", "takeBarrel", "()V"⟩, 50), (⟨"QuayBrandsModel", "brandOf", "(II)I"⟩, 50), (⟨"QuayBrandsModel", "factOf", "(II)I"⟩, 50), (⟨"QuayBrandsModel", "saltOf", "(II)I"⟩, 50), (⟨"QuayBrandsModel", "mayBe", "(I)Z"⟩, 50), (⟨"QuayBrandsModel", "hasCause", "(II)Z"⟩, 50), (⟨"QuayBrandsModel", "fewest", "()I"⟩, 50), (⟨"QuayBrandsModel", "setOf", "(III)I"⟩, 50)]
theorem lw_r3 : ∀ q ∈ lw_privs_3, lw_okq q := List.forall_mem_cons.mpr ⟨lw_p32, List.forall_mem_cons.mpr ⟨lw_p33, List.forall_mem_cons.mpr ⟨lw_p34, List.forall_mem_cons.mpr ⟨lw_p35, List.forall_mem_cons.mpr ⟨lw_p36, List.forall_mem_cons.mpr ⟨lw_p37, List.forall_mem_cons.mpr ⟨lw_p38, List.forall_mem_cons.mpr ⟨lw_p39, List.forall_mem_cons.mpr ⟨lw_p40, List.forall_mem_cons.mpr ⟨lw_p41, List.forall_mem_cons.mpr ⟨lw_p42, List.forall_mem_cons.mpr ⟨lw_p43, List.forall_mem_cons.mpr ⟨lw_p44, List.forall_mem_cons.mpr ⟨lw_p45, List.forall_mem_cons.mpr ⟨lw_p46, List.forall_mem_cons.mpr ⟨lw_p47, fun _ h => absurd h List.not_mem_nil⟩⟩⟩⟩⟩⟩⟩⟩⟩⟩⟩⟩⟩⟩⟩⟩
theorem lw_p48 : lw_okq (⟨"QuayBrandsModel", "explain", "(III)Z"⟩, 50) := ⟨⟨by decide +kernel, by decide +kernel⟩, List.mem_of_getElem? (i := 848) (by decide +kernel), List.mem_of_getElem? (i := 1168) (by decide +kernel), List.mem_of_getElem? (i := 1169) (by decide +kernel)⟩
theorem lw_p49 : lw_okq (⟨"QuayBrandsModel", "freeAt", "(II)I"⟩, 50) := ⟨⟨by decide +kernel, by decide +kernel⟩, List.mem_of_getElem? (i := 848) (by decide +kernel), List.mem_of_getElem? (i := 1191) (by decide +kernel), List.mem_of_getElem? (i := 1192) (by decide +kernel)⟩
theorem lw_p50 : lw_okq (⟨"QuayBrandsModel", "layCost", "(III)V"⟩, 50) := ⟨⟨by decide +kernel, by decide +kernel⟩, List.mem_of_getElem? (i := 848) (by decide +kernel), List.mem_of_getElem? (i := 1199) (by decide +kernel), List.mem_of_getElem? (i := 1200) (by decide +kernel)⟩
theorem lw_p51 : lw_okq (⟨"QuayBrandsModel", "brandedOf", "(I)I"⟩, 50) := ⟨⟨by decide +kernel, by decide +kernel⟩, List.mem_of_getElem? (i := 848) (by decide +kernel), List.mem_of_getElem? (i := 1207) (by decide +kernel), List.mem_of_getElem? (i := 1208) (by decide +kernel)⟩
theorem lw_p52 : lw_okq (⟨"QuayBrandsModel", "costsOf", "(II)I"⟩, 50) := ⟨⟨by decide +kernel, by decide +kernel⟩, List.mem_of_getElem? (i := 848) (by decide +kernel), List.mem_of_getElem? (i := 1211) (by decide +kernel), List.mem_of_getElem? (i := 1212) (by decide +kernel)⟩
theorem lw_p53 : lw_okq (⟨"QuayBrandsModel", "laySpread", "()V"⟩, 50) := ⟨⟨by decide +kernel, by decide +kernel⟩, List.mem_of_getElem? (i := 848) (by decide +kernel), List.mem_of_getElem? (i := 1219) (by decide +kernel), List.mem_of_getElem? (i := 1220) (by decide +kernel)⟩
theorem lw_p54 : lw_okq (⟨"QuayBrandsModel", "leadAll", "(I)V"⟩, 50) := ⟨⟨by decide +kernel, by decide +kernel⟩, List.mem_of_getElem? (i := 848) (by decide +kernel), List.mem_of_getElem? (i := 1223) (by decide +kernel), List.mem_of_getElem? (i := 1224) (by decide +kernel)⟩
theorem lw_p55 : lw_okq (⟨"QuayBrandsModel", "allSpoilt", "()I"⟩, 50) := ⟨⟨by decide +kernel, by decide +kernel⟩, List.mem_of_getElem? (i := 848) (by decide +kernel), List.mem_of_getElem? (i := 1227) (by decide +kernel), List.mem_of_getElem? (i := 1228) (by decide +kernel)⟩
theorem lw_p56 : lw_okq (⟨"QuayBrandsModel", "priceAt", "(III)I"⟩, 50) := ⟨⟨by decide +kernel, by decide +kernel⟩, List.mem_of_getElem? (i := 848) (by decide +kernel), List.mem_of_getElem? (i := 1247) (by decide +kernel), List.mem_of_getElem? (i := 1248) (by decide +kernel)⟩
theorem lw_p57 : lw_okq (⟨"QuayBrandsModel", "layMost", "(I)V"⟩, 50) := ⟨⟨by decide +kernel, by decide +kernel⟩, List.mem_of_getElem? (i := 848) (by decide +kernel), List.mem_of_getElem? (i := 1255) (by decide +kernel), List.mem_of_getElem? (i := 1256) (by decide +kernel)⟩
theorem lw_p58 : lw_okq (⟨"QuayBrandsModel", "gain", "(IIII)I"⟩, 50) := ⟨⟨by decide +kernel, by decide +kernel⟩, List.mem_of_getElem? (i := 848) (by decide +kernel), List.mem_of_getElem? (i := 1259) (by decide +kernel), List.mem_of_getElem? (i := 1260) (by decide +kernel)⟩
def lw_privs_4 : List (MethodName × Nat) := [(⟨"QuayBrandsModel", "explain", "(III)Z"⟩, 50), (⟨"QuayBrandsModel", "freeAt", "(II)I"⟩, 50), (⟨"QuayBrandsModel", "layCost", "(III)V"⟩, 50), (⟨"QuayBrandsModel", "brandedOf", "(I)I"⟩, 50), (⟨"QuayBrandsModel", "costsOf", "(II)I"⟩, 50), (⟨"QuayBrandsModel", "laySpread", "()V"⟩, 50), (⟨"QuayBrandsModel", "leadAll", "(I)V"⟩, 50), (⟨"QuayBrandsModel", "allSpoilt", "()I"⟩, 50), (⟨"QuayBrandsModel", "priceAt", "(III)I"⟩, 50), (⟨"QuayBrandsModel", "layMost", "(I)V"⟩, 50), (⟨"QuayBrandsModel", "gain", "(IIII)I"⟩, 50)]
theorem lw_r4 : ∀ q ∈ lw_privs_4, lw_okq q := List.forall_mem_cons.mpr ⟨lw_p48, List.forall_mem_cons.mpr ⟨lw_p49, List.forall_mem_cons.mpr ⟨lw_p50, List.forall_mem_cons.mpr ⟨lw_p51, List.forall_mem_cons.mpr ⟨lw_p52, List.forall_mem_cons.mpr ⟨lw_p53, List.forall_mem_cons.mpr ⟨lw_p54, List.forall_mem_cons.mpr ⟨lw_p55, List.forall_mem_cons.mpr ⟨lw_p56, List.forall_mem_cons.mpr ⟨lw_p57, List.forall_mem_cons.mpr ⟨lw_p58, fun _ h => absurd h List.not_mem_nil⟩⟩⟩⟩⟩⟩⟩⟩⟩⟩⟩
def lw_privs : List (MethodName × Nat) := lw_privs_1 ++ (lw_privs_2 ++ (lw_privs_3 ++ (lw_privs_4)))
def lw_tbl : List Cond := k2_sels lw_privs ++ tables_1
theorem lw_privs_ok : ∀ q ∈ lw_privs, lw_okq q := by
  show ∀ q ∈ lw_privs_1 ++ (lw_privs_2 ++ (lw_privs_3 ++ (lw_privs_4))), lw_okq q
  exact List.forall_mem_append.mpr ⟨lw_r1, List.forall_mem_append.mpr ⟨lw_r2, List.forall_mem_append.mpr ⟨lw_r3, lw_r4⟩⟩⟩
-- ===== end of PART A; then your names; then what follows =====
end
section
/-! the names, by program out of what TURN prints (claim/NAMES.whole) -/
def RX0 : String := "QuayBrands$Acts"
def TX0 : u_T := fun k => match k with
  | 0 => ("QuayBrands$Acts", "days", "[I", true)
  | 1 => ("QuayBrands$Acts", "lengths", "[I", true)
  | 2 => ("QuayBrands$Acts", "letters", "[I", true)
  | 3 => ("QuayBrands$Acts", "kinds", "[I", true)
  | 4 => ("QuayBrands$Acts", "comparers", "[I", true)
  | 5 => ("QuayBrands$Acts", "numbers", "[I", true)
  | _ => ("QuayBrands$Acts", "count", "I", false)
def tyX0 : Nat → FieldType := fun k => match k with
  | 0 => .array .int
  | 1 => .array .int
  | 2 => .array .int
  | 3 => .array .int
  | 4 => .array .int
  | 5 => .array .int
  | _ => .int
theorem nmX0 : ∀ a, a < 7 → ∀ b, b < 7 → a ≠ b → (TX0 a).2.1 ≠ (TX0 b).2.1 := by decide +kernel
theorem tyX0_ok : ∀ k, k < 7 → parseFieldDescriptor (TX0 k).2.2.1 = some (tyX0 k) := by decide +kernel
abbrev cX0_init : ByteArray := prog_2_method_1_code
def yX0_init : MethodName := ⟨RX0, "<init>", "()V"⟩
abbrev cX0_letterOf : ByteArray := prog_2_method_2_code
def yX0_letterOf : MethodName := ⟨RX0, "letterOf", "(I)I"⟩
abbrev cX0_factOf : ByteArray := prog_2_method_3_code
def yX0_factOf : MethodName := ⟨RX0, "factOf", "(I)I"⟩
abbrev cX0_isComparer : ByteArray := prog_2_method_4_code
def yX0_isComparer : MethodName := ⟨RX0, "isComparer", "(I)Z"⟩
abbrev cX0_isDigit : ByteArray := prog_2_method_5_code
def yX0_isDigit : MethodName := ⟨RX0, "isDigit", "(I)Z"⟩
abbrev cX0_add : ByteArray := prog_2_method_6_code
def yX0_add : MethodName := ⟨RX0, "add", "(ILQuayBrands$Draft;)V"⟩
abbrev cX0_actOn : ByteArray := prog_2_method_7_code
def yX0_actOn : MethodName := ⟨RX0, "actOn", "(I)I"⟩
abbrev cX0_gradesOn : ByteArray := prog_2_method_8_code
def yX0_gradesOn : MethodName := ⟨RX0, "gradesOn", "(I)I"⟩
abbrev cX0_gradeAt : ByteArray := prog_2_method_9_code
def yX0_gradeAt : MethodName := ⟨RX0, "gradeAt", "(II)I"⟩
abbrev cX0_beginsGrade : ByteArray := prog_2_method_10_code
def yX0_beginsGrade : MethodName := ⟨RX0, "beginsGrade", "(II)Z"⟩
abbrev cX0_brandOn : ByteArray := prog_2_method_11_code
def yX0_brandOn : MethodName := ⟨RX0, "brandOn", "(I[I)I"⟩
abbrev cX0_holds : ByteArray := prog_2_method_12_code
def yX0_holds : MethodName := ⟨RX0, "holds", "(III)Z"⟩
def RX1 : String := "QuayBrands$Boats"
def TX1 : u_T := fun k => match k with
  | 0 => ("QuayBrands$Boats", "quays", "[I", true)
  | 1 => ("QuayBrands$Boats", "crans", "[I", true)
  | _ => ("QuayBrands$Boats", "prices", "[I", true)
def tyX1 : Nat → FieldType := fun k => match k with
  | 0 => .array .int
  | 1 => .array .int
  | _ => .array .int
theorem nmX1 : ∀ a, a < 3 → ∀ b, b < 3 → a ≠ b → (TX1 a).2.1 ≠ (TX1 b).2.1 := by decide +kernel
theorem tyX1_ok : ∀ k, k < 3 → parseFieldDescriptor (TX1 k).2.2.1 = some (tyX1 k) := by decide +kernel
abbrev cX1_init : ByteArray := prog_3_method_1_code
def yX1_init : MethodName := ⟨RX1, "<init>", "()V"⟩
abbrev cX1_bind : ByteArray := prog_3_method_2_code
def yX1_bind : MethodName := ⟨RX1, "bind", "(IIII)V"⟩
abbrev cX1_agreedAt : ByteArray := prog_3_method_3_code
def yX1_agreedAt : MethodName := ⟨RX1, "agreedAt", "(III)I"⟩
def RX2 : String := "QuayBrands$Cask"
def TX2 : u_T := fun k => match k with
  | 0 => ("QuayBrands$Cask", "quay", "I", false)
  | 1 => ("QuayBrands$Cask", "place", "I", false)
  | 2 => ("QuayBrands$Cask", "done", "I", false)
  | 3 => ("QuayBrands$Cask", "most", "I", false)
  | 4 => ("QuayBrands$Cask", "least", "I", false)
  | 5 => ("QuayBrands$Cask", "parts", "I", false)
  | 6 => ("QuayBrands$Cask", "likeLast", "Z", false)
  | 7 => ("QuayBrands$Cask", "lastDone", "I", false)
  | 8 => ("QuayBrands$Cask", "lastMost", "I", false)
  | _ => ("QuayBrands$Cask", "lastLeast", "I", false)
def tyX2 : Nat → FieldType := fun k => match k with
  | 0 => .int
  | 1 => .int
  | 2 => .int
  | 3 => .int
  | 4 => .int
  | 5 => .int
  | 6 => .boolean
  | 7 => .int
  | 8 => .int
  | _ => .int
theorem nmX2 : ∀ a, a < 10 → ∀ b, b < 10 → a ≠ b → (TX2 a).2.1 ≠ (TX2 b).2.1 := by decide +kernel
theorem tyX2_ok : ∀ k, k < 10 → parseFieldDescriptor (TX2 k).2.2.1 = some (tyX2 k) := by decide +kernel
abbrev cX2_init : ByteArray := prog_4_method_1_code
def yX2_init : MethodName := ⟨RX2, "<init>", "()V"⟩
abbrev cX2_start : ByteArray := prog_4_method_2_code
def yX2_start : MethodName := ⟨RX2, "start", "(I)V"⟩
abbrev cX2_empty : ByteArray := prog_4_method_3_code
def yX2_empty : MethodName := ⟨RX2, "empty", "()V"⟩
abbrev cX2_take : ByteArray := prog_4_method_4_code
def yX2_take : MethodName := ⟨RX2, "take", "(III)V"⟩
abbrev cX2_compare : ByteArray := prog_4_method_5_code
def yX2_compare : MethodName := ⟨RX2, "compare", "()V"⟩
def RX3 : String := "QuayBrands$Draft"
def TX3 : u_T := fun k => match k with
  | 0 => ("QuayBrands$Draft", "signs", "[I", true)
  | _ => ("QuayBrands$Draft", "count", "I", false)
def tyX3 : Nat → FieldType := fun k => match k with
  | 0 => .array .int
  | _ => .int
theorem nmX3 : ∀ a, a < 2 → ∀ b, b < 2 → a ≠ b → (TX3 a).2.1 ≠ (TX3 b).2.1 := by decide +kernel
theorem tyX3_ok : ∀ k, k < 2 → parseFieldDescriptor (TX3 k).2.2.1 = some (tyX3 k) := by decide +kernel
abbrev cX3_init : ByteArray := prog_5_method_1_code
def yX3_init : MethodName := ⟨RX3, "<init>", "()V"⟩
abbrev cX3_add : ByteArray := prog_5_method_2_code
def yX3_add : MethodName := ⟨RX3, "add", "(I)I"⟩
abbrev cX3_clear : ByteArray := prog_5_method_3_code
def yX3_clear : MethodName := ⟨RX3, "clear", "()I"⟩
abbrev cX3_firstFault : ByteArray := prog_5_method_4_code
def yX3_firstFault : MethodName := ⟨RX3, "firstFault", "()I"⟩
abbrev cX3_following : ByteArray := prog_5_method_5_code
def yX3_following : MethodName := ⟨RX3, "following", "(III)I"⟩
abbrev cX3_isNewLetter : ByteArray := prog_5_method_6_code
def yX3_isNewLetter : MethodName := ⟨RX3, "isNewLetter", "(II)Z"⟩
abbrev cX3_behindDigit : ByteArray := prog_5_method_7_code
def yX3_behindDigit : MethodName := ⟨RX3, "behindDigit", "(III)I"⟩
def RX4 : String := "QuayBrands$Fleet"
def TX4 : u_T := fun k => match k with
  | 0 => ("QuayBrands$Fleet", "days", "[I", true)
  | 1 => ("QuayBrands$Fleet", "bears", "[I", true)
  | 2 => ("QuayBrands$Fleet", "firstPrices", "[I", true)
  | 3 => ("QuayBrands$Fleet", "secondPrices", "[I", true)
  | _ => ("QuayBrands$Fleet", "best", "[I", true)
def tyX4 : Nat → FieldType := fun k => match k with
  | 0 => .array .int
  | 1 => .array .int
  | 2 => .array .int
  | 3 => .array .int
  | _ => .array .int
theorem nmX4 : ∀ a, a < 5 → ∀ b, b < 5 → a ≠ b → (TX4 a).2.1 ≠ (TX4 b).2.1 := by decide +kernel
theorem tyX4_ok : ∀ k, k < 5 → parseFieldDescriptor (TX4 k).2.2.1 = some (tyX4 k) := by decide +kernel
abbrev cX4_init : ByteArray := prog_6_method_1_code
def yX4_init : MethodName := ⟨RX4, "<init>", "()V"⟩
abbrev cX4_worth : ByteArray := prog_6_method_2_code
def yX4_worth : MethodName := ⟨RX4, "worth", "(III)I"⟩
abbrev cX4_plan : ByteArray := prog_6_method_3_code
def yX4_plan : MethodName := ⟨RX4, "plan", "(II)V"⟩
abbrev cX4_bearOneMore : ByteArray := prog_6_method_4_code
def yX4_bearOneMore : MethodName := ⟨RX4, "bearOneMore", "(III)V"⟩
abbrev cX4_borneBy : ByteArray := prog_6_method_5_code
def yX4_borneBy : MethodName := ⟨RX4, "borneBy", "(III)I"⟩
abbrev cX4_leastRow : ByteArray := prog_6_method_6_code
def yX4_leastRow : MethodName := ⟨RX4, "leastRow", "(III)I"⟩
def RX5 : String := "QuayBrands$Forecasts"
def TX5 : u_T := fun k => match k with
  | 0 => ("QuayBrands$Forecasts", "kinds", "[I", true)
  | 1 => ("QuayBrands$Forecasts", "days", "[I", true)
  | 2 => ("QuayBrands$Forecasts", "values", "[I", true)
  | 3 => ("QuayBrands$Forecasts", "tolds", "[I", true)
  | _ => ("QuayBrands$Forecasts", "count", "I", false)
def tyX5 : Nat → FieldType := fun k => match k with
  | 0 => .array .int
  | 1 => .array .int
  | 2 => .array .int
  | 3 => .array .int
  | _ => .int
theorem nmX5 : ∀ a, a < 5 → ∀ b, b < 5 → a ≠ b → (TX5 a).2.1 ≠ (TX5 b).2.1 := by decide +kernel
theorem tyX5_ok : ∀ k, k < 5 → parseFieldDescriptor (TX5 k).2.2.1 = some (tyX5 k) := by decide +kernel
abbrev cX5_init : ByteArray := prog_7_method_1_code
def yX5_init : MethodName := ⟨RX5, "<init>", "()V"⟩
abbrev cX5_add : ByteArray := prog_7_method_2_code
def yX5_add : MethodName := ⟨RX5, "add", "(IIII)I"⟩
abbrev cX5_find : ByteArray := prog_7_method_3_code
def yX5_find : MethodName := ⟨RX5, "find", "(IIII)I"⟩
def RX6 : String := "QuayBrands$Judged"
def TX6 : u_T := fun k => match k with
  | 0 => ("QuayBrands$Judged", "having", "[I", true)
  | 1 => ("QuayBrands$Judged", "able", "[I", true)
  | 2 => ("QuayBrands$Judged", "chosen", "[I", true)
  | 3 => ("QuayBrands$Judged", "rejects", "I", false)
  | 4 => ("QuayBrands$Judged", "count", "I", false)
  | _ => ("QuayBrands$Judged", "ables", "I", false)
def tyX6 : Nat → FieldType := fun k => match k with
  | 0 => .array .int
  | 1 => .array .int
  | 2 => .array .int
  | 3 => .int
  | 4 => .int
  | _ => .int
theorem nmX6 : ∀ a, a < 6 → ∀ b, b < 6 → a ≠ b → (TX6 a).2.1 ≠ (TX6 b).2.1 := by decide +kernel
theorem tyX6_ok : ∀ k, k < 6 → parseFieldDescriptor (TX6 k).2.2.1 = some (tyX6 k) := by decide +kernel
abbrev cX6_init : ByteArray := prog_8_method_1_code
def yX6_init : MethodName := ⟨RX6, "<init>", "()V"⟩
abbrev cX6_add : ByteArray := prog_8_method_2_code
def yX6_add : MethodName := ⟨RX6, "add", "(IIIZ)I"⟩
abbrev cX6_clear : ByteArray := prog_8_method_3_code
def yX6_clear : MethodName := ⟨RX6, "clear", "()I"⟩
abbrev cX6_mayBe : ByteArray := prog_8_method_4_code
def yX6_mayBe : MethodName := ⟨RX6, "mayBe", "(I)Z"⟩
abbrev cX6_fewest : ByteArray := prog_8_method_5_code
def yX6_fewest : MethodName := ⟨RX6, "fewest", "()I"⟩
abbrev cX6_explaining : ByteArray := prog_8_method_6_code
def yX6_explaining : MethodName := ⟨RX6, "explaining", "(II)I"⟩
abbrev cX6_chosenCause : ByteArray := prog_8_method_7_code
def yX6_chosenCause : MethodName := ⟨RX6, "chosenCause", "(I)I"⟩
abbrev cX6_listAble : ByteArray := prog_8_method_8_code
def yX6_listAble : MethodName := ⟨RX6, "listAble", "()V"⟩
abbrev cX6_explainsAll : ByteArray := prog_8_method_9_code
def yX6_explainsAll : MethodName := ⟨RX6, "explainsAll", "(I)Z"⟩
abbrev cX6_advance : ByteArray := prog_8_method_10_code
def yX6_advance : MethodName := ⟨RX6, "advance", "(I)Z"⟩
def RX7 : String := "QuayBrands$Landings"
def TX7 : u_T := fun k => match k with
  | 0 => ("QuayBrands$Landings", "boats", "[I", true)
  | 1 => ("QuayBrands$Landings", "quays", "[I", true)
  | 2 => ("QuayBrands$Landings", "hours", "[I", true)
  | 3 => ("QuayBrands$Landings", "fish", "[I", true)
  | 4 => ("QuayBrands$Landings", "sizes", "[I", true)
  | 5 => ("QuayBrands$Landings", "order", "[I", true)
  | 6 => ("QuayBrands$Landings", "starts", "[I", true)
  | 7 => ("QuayBrands$Landings", "worked", "[I", true)
  | 8 => ("QuayBrands$Landings", "before", "[I", true)
  | 9 => ("QuayBrands$Landings", "crews", "[I", true)
  | 10 => ("QuayBrands$Landings", "rates", "[I", true)
  | 11 => ("QuayBrands$Landings", "reached", "[I", true)
  | 12 => ("QuayBrands$Landings", "totals", "[I", true)
  | _ => ("QuayBrands$Landings", "count", "I", false)
def tyX7 : Nat → FieldType := fun k => match k with
  | 0 => .array .int
  | 1 => .array .int
  | 2 => .array .int
  | 3 => .array .int
  | 4 => .array .int
  | 5 => .array .int
  | 6 => .array .int
  | 7 => .array .int
  | 8 => .array .int
  | 9 => .array .int
  | 10 => .array .int
  | 11 => .array .int
  | 12 => .array .int
  | _ => .int
theorem nmX7 : ∀ a, a < 14 → ∀ b, b < 14 → a ≠ b → (TX7 a).2.1 ≠ (TX7 b).2.1 := by decide +kernel
theorem tyX7_ok : ∀ k, k < 14 → parseFieldDescriptor (TX7 k).2.2.1 = some (tyX7 k) := by decide +kernel
abbrev cX7_init : ByteArray := prog_9_method_1_code
def yX7_init : MethodName := ⟨RX7, "<init>", "()V"⟩
abbrev cX7_add : ByteArray := prog_9_method_2_code
def yX7_add : MethodName := ⟨RX7, "add", "(IIIII)I"⟩
abbrev cX7_waiting : ByteArray := prog_9_method_3_code
def yX7_waiting : MethodName := ⟨RX7, "waiting", "()I"⟩
abbrev cX7_paceAt : ByteArray := prog_9_method_4_code
def yX7_paceAt : MethodName := ⟨RX7, "paceAt", "(I)I"⟩
abbrev cX7_work : ByteArray := prog_9_method_5_code
def yX7_work : MethodName := ⟨RX7, "work", "(I)V"⟩
abbrev cX7_workOne : ByteArray := prog_9_method_6_code
def yX7_workOne : MethodName := ⟨RX7, "workOne", "(III)V"⟩
abbrev cX7_startOf : ByteArray := prog_9_method_7_code
def yX7_startOf : MethodName := ⟨RX7, "startOf", "(III)I"⟩
abbrev cX7_workedFrom : ByteArray := prog_9_method_8_code
def yX7_workedFrom : MethodName := ⟨RX7, "workedFrom", "(IIII)I"⟩
abbrev cX7_spoiltOf : ByteArray := prog_9_method_9_code
def yX7_spoiltOf : MethodName := ⟨RX7, "spoiltOf", "(I)I"⟩
abbrev cX7_lastHourOf : ByteArray := prog_9_method_10_code
def yX7_lastHourOf : MethodName := ⟨RX7, "lastHourOf", "(I)I"⟩
abbrev cX7_spoiltAt : ByteArray := prog_9_method_11_code
def yX7_spoiltAt : MethodName := ⟨RX7, "spoiltAt", "(I)I"⟩
abbrev cX7_spoiltWith : ByteArray := prog_9_method_12_code
def yX7_spoiltWith : MethodName := ⟨RX7, "spoiltWith", "(II[II)I"⟩
abbrev cX7_fishOf : ByteArray := prog_9_method_13_code
def yX7_fishOf : MethodName := ⟨RX7, "fishOf", "(II)I"⟩
abbrev cX7_measure : ByteArray := prog_9_method_14_code
def yX7_measure : MethodName := ⟨RX7, "measure", "(LQuayBrands$Cask;II)V"⟩
def RX8 : String := "QuayBrands$Salts"
def TX8 : u_T := fun k => match k with
  | 0 => ("QuayBrands$Salts", "quays", "[I", true)
  | 1 => ("QuayBrands$Salts", "hours", "[I", true)
  | 2 => ("QuayBrands$Salts", "lots", "[I", true)
  | 3 => ("QuayBrands$Salts", "muches", "[I", true)
  | _ => ("QuayBrands$Salts", "count", "I", false)
def tyX8 : Nat → FieldType := fun k => match k with
  | 0 => .array .int
  | 1 => .array .int
  | 2 => .array .int
  | 3 => .array .int
  | _ => .int
theorem nmX8 : ∀ a, a < 5 → ∀ b, b < 5 → a ≠ b → (TX8 a).2.1 ≠ (TX8 b).2.1 := by decide +kernel
theorem tyX8_ok : ∀ k, k < 5 → parseFieldDescriptor (TX8 k).2.2.1 = some (tyX8 k) := by decide +kernel
abbrev cX8_init : ByteArray := prog_10_method_1_code
def yX8_init : MethodName := ⟨RX8, "<init>", "()V"⟩
abbrev cX8_add : ByteArray := prog_10_method_2_code
def yX8_add : MethodName := ⟨RX8, "add", "(IIII)I"⟩
abbrev cX8_find : ByteArray := prog_10_method_3_code
def yX8_find : MethodName := ⟨RX8, "find", "(II)I"⟩
abbrev cX8_lotAt : ByteArray := prog_10_method_4_code
def yX8_lotAt : MethodName := ⟨RX8, "lotAt", "(II)I"⟩
abbrev cX8_muchAt : ByteArray := prog_10_method_5_code
def yX8_muchAt : MethodName := ⟨RX8, "muchAt", "(II)I"⟩
def RX9 : String := "QuayBrands$Spreading"
def TX9 : u_T := fun k => match k with
  | 0 => ("QuayBrands$Spreading", "slots", "[I", true)
  | 1 => ("QuayBrands$Spreading", "numbers", "[I", true)
  | 2 => ("QuayBrands$Spreading", "spoilt", "[I", true)
  | 3 => ("QuayBrands$Spreading", "count", "I", false)
  | 4 => ("QuayBrands$Spreading", "fewest", "I", false)
  | _ => ("QuayBrands$Spreading", "code", "I", false)
def tyX9 : Nat → FieldType := fun k => match k with
  | 0 => .array .int
  | 1 => .array .int
  | 2 => .array .int
  | 3 => .int
  | 4 => .int
  | _ => .int
theorem nmX9 : ∀ a, a < 6 → ∀ b, b < 6 → a ≠ b → (TX9 a).2.1 ≠ (TX9 b).2.1 := by decide +kernel
theorem tyX9_ok : ∀ k, k < 6 → parseFieldDescriptor (TX9 k).2.2.1 = some (tyX9 k) := by decide +kernel
abbrev cX9_init : ByteArray := prog_11_method_1_code
def yX9_init : MethodName := ⟨RX9, "<init>", "()V"⟩
abbrev cX9_plan : ByteArray := prog_11_method_2_code
def yX9_plan : MethodName := ⟨RX9, "plan", "(LQuayBrands$Landings;I)V"⟩
abbrev cX9_quayOf : ByteArray := prog_11_method_3_code
def yX9_quayOf : MethodName := ⟨RX9, "quayOf", "(I)I"⟩
abbrev cX9_list : ByteArray := prog_11_method_4_code
def yX9_list : MethodName := ⟨RX9, "list", "(LQuayBrands$Landings;)V"⟩
abbrev cX9_digit : ByteArray := prog_11_method_5_code
def yX9_digit : MethodName := ⟨RX9, "digit", "(II)I"⟩
abbrev cX9_spoiltBy : ByteArray := prog_11_method_6_code
def yX9_spoiltBy : MethodName := ⟨RX9, "spoiltBy", "(I)I"⟩
def RX10 : String := "QuayBrands"
def TX10 : u_T := fun k => match k with
  | 0 => ("QuayBrands", "draft", "LQuayBrands$Draft;", true)
  | 1 => ("QuayBrands", "acts", "LQuayBrands$Acts;", true)
  | 2 => ("QuayBrands", "rules", "[I", true)
  | 3 => ("QuayBrands", "landings", "LQuayBrands$Landings;", true)
  | 4 => ("QuayBrands", "cask", "LQuayBrands$Cask;", true)
  | 5 => ("QuayBrands", "salts", "LQuayBrands$Salts;", true)
  | 6 => ("QuayBrands", "facts", "[I", true)
  | 7 => ("QuayBrands", "judged", "LQuayBrands$Judged;", true)
  | 8 => ("QuayBrands", "boats", "LQuayBrands$Boats;", true)
  | 9 => ("QuayBrands", "frees", "LQuayBrands$Forecasts;", true)
  | 10 => ("QuayBrands", "prices", "LQuayBrands$Forecasts;", true)
  | 11 => ("QuayBrands", "spreading", "LQuayBrands$Spreading;", true)
  | _ => ("QuayBrands", "fleet", "LQuayBrands$Fleet;", true)
def tyX10 : Nat → FieldType := fun k => match k with
  | 0 => .object "QuayBrands$Draft"
  | 1 => .object "QuayBrands$Acts"
  | 2 => .array .int
  | 3 => .object "QuayBrands$Landings"
  | 4 => .object "QuayBrands$Cask"
  | 5 => .object "QuayBrands$Salts"
  | 6 => .array .int
  | 7 => .object "QuayBrands$Judged"
  | 8 => .object "QuayBrands$Boats"
  | 9 => .object "QuayBrands$Forecasts"
  | 10 => .object "QuayBrands$Forecasts"
  | 11 => .object "QuayBrands$Spreading"
  | _ => .object "QuayBrands$Fleet"
theorem nmX10 : ∀ a, a < 13 → ∀ b, b < 13 → a ≠ b → (TX10 a).2.1 ≠ (TX10 b).2.1 := by decide +kernel
theorem tyX10_ok : ∀ k, k < 13 → parseFieldDescriptor (TX10 k).2.2.1 = some (tyX10 k) := by decide +kernel
abbrev cX10_init : ByteArray := prog_1_method_1_code
def yX10_init : MethodName := ⟨RX10, "<init>", "()V"⟩
abbrev cX10_say : ByteArray := prog_1_method_2_code
def yX10_say : MethodName := ⟨RX10, "say", "(I)I"⟩
abbrev cX10_wipe : ByteArray := prog_1_method_3_code
def yX10_wipe : MethodName := ⟨RX10, "wipe", "()I"⟩
abbrev cX10_fault : ByteArray := prog_1_method_4_code
def yX10_fault : MethodName := ⟨RX10, "fault", "()I"⟩
abbrev cX10_act : ByteArray := prog_1_method_5_code
def yX10_act : MethodName := ⟨RX10, "act", "(I)I"⟩
abbrev cX10_brand : ByteArray := prog_1_method_6_code
def yX10_brand : MethodName := ⟨RX10, "brand", "(III)I"⟩
abbrev cX10_grade : ByteArray := prog_1_method_7_code
def yX10_grade : MethodName := ⟨RX10, "grade", "(II)I"⟩
abbrev cX10_set : ByteArray := prog_1_method_8_code
def yX10_set : MethodName := ⟨RX10, "set", "(III)I"⟩
abbrev cX10_rule : ByteArray := prog_1_method_9_code
def yX10_rule : MethodName := ⟨RX10, "rule", "(II)I"⟩
abbrev cX10_land : ByteArray := prog_1_method_10_code
def yX10_land : MethodName := ⟨RX10, "land", "(IIIII)I"⟩
abbrev cX10_lead : ByteArray := prog_1_method_11_code
def yX10_lead : MethodName := ⟨RX10, "lead", "(II)I"⟩
abbrev cX10_landing : ByteArray := prog_1_method_12_code
def yX10_landing : MethodName := ⟨RX10, "landing", "(II)I"⟩
abbrev cX10_salt : ByteArray := prog_1_method_13_code
def yX10_salt : MethodName := ⟨RX10, "salt", "(IIII)I"⟩
abbrev cX10_barrel : ByteArray := prog_1_method_14_code
def yX10_barrel : MethodName := ⟨RX10, "barrel", "(III)I"⟩
abbrev cX10_filled : ByteArray := prog_1_method_15_code
def yX10_filled : MethodName := ⟨RX10, "filled", "(IIII)I"⟩
abbrev cX10_open : ByteArray := prog_1_method_16_code
def yX10_open : MethodName := ⟨RX10, "open", "(III)I"⟩
abbrev cX10_judge : ByteArray := prog_1_method_17_code
def yX10_judge : MethodName := ⟨RX10, "judge", "(IIIZ)I"⟩
abbrev cX10_absolve : ByteArray := prog_1_method_18_code
def yX10_absolve : MethodName := ⟨RX10, "absolve", "()I"⟩
abbrev cX10_cause : ByteArray := prog_1_method_19_code
def yX10_cause : MethodName := ⟨RX10, "cause", "(I)I"⟩
abbrev cX10_explained : ByteArray := prog_1_method_20_code
def yX10_explained : MethodName := ⟨RX10, "explained", "()I"⟩
abbrev cX10_rival : ByteArray := prog_1_method_21_code
def yX10_rival : MethodName := ⟨RX10, "rival", "(II)I"⟩
abbrev cX10_engage : ByteArray := prog_1_method_22_code
def yX10_engage : MethodName := ⟨RX10, "engage", "(IIII)I"⟩
abbrev cX10_free : ByteArray := prog_1_method_23_code
def yX10_free : MethodName := ⟨RX10, "free", "(III)I"⟩
abbrev cX10_freeOn : ByteArray := prog_1_method_24_code
def yX10_freeOn : MethodName := ⟨RX10, "freeOn", "(II)I"⟩
abbrev cX10_cost : ByteArray := prog_1_method_25_code
def yX10_cost : MethodName := ⟨RX10, "cost", "(IIII)I"⟩
abbrev cX10_account : ByteArray := prog_1_method_26_code
def yX10_account : MethodName := ⟨RX10, "account", "(III)I"⟩
abbrev cX10_spread : ByteArray := prog_1_method_27_code
def yX10_spread : MethodName := ⟨RX10, "spread", "(I)I"⟩
abbrev cX10_settle : ByteArray := prog_1_method_28_code
def yX10_settle : MethodName := ⟨RX10, "settle", "()I"⟩
abbrev cX10_ship : ByteArray := prog_1_method_29_code
def yX10_ship : MethodName := ⟨RX10, "ship", "(III)I"⟩
abbrev cX10_price : ByteArray := prog_1_method_30_code
def yX10_price : MethodName := ⟨RX10, "price", "(IIII)I"⟩
abbrev cX10_priceOn : ByteArray := prog_1_method_31_code
def yX10_priceOn : MethodName := ⟨RX10, "priceOn", "(III)I"⟩
abbrev cX10_load : ByteArray := prog_1_method_32_code
def yX10_load : MethodName := ⟨RX10, "load", "(IIII)I"⟩
abbrev cX10_told : ByteArray := prog_1_method_33_code
def yX10_told : MethodName := ⟨RX10, "told", "(I)I"⟩
abbrev cX10_within : ByteArray := prog_1_method_34_code
def yX10_within : MethodName := ⟨RX10, "within", "(III)Z"⟩
abbrev cX10_isDay : ByteArray := prog_1_method_35_code
def yX10_isDay : MethodName := ⟨RX10, "isDay", "(I)Z"⟩
abbrev cX10_isHour : ByteArray := prog_1_method_36_code
def yX10_isHour : MethodName := ⟨RX10, "isHour", "(I)Z"⟩
abbrev cX10_isBoat : ByteArray := prog_1_method_37_code
def yX10_isBoat : MethodName := ⟨RX10, "isBoat", "(I)Z"⟩
abbrev cX10_isQuay : ByteArray := prog_1_method_38_code
def yX10_isQuay : MethodName := ⟨RX10, "isQuay", "(I)Z"⟩
abbrev cX10_isQuayOrNone : ByteArray := prog_1_method_39_code
def yX10_isQuayOrNone : MethodName := ⟨RX10, "isQuayOrNone", "(I)Z"⟩
abbrev cX10_isLanding : ByteArray := prog_1_method_40_code
def yX10_isLanding : MethodName := ⟨RX10, "isLanding", "(I)Z"⟩
abbrev cX10_choose : ByteArray := prog_1_method_41_code
def yX10_choose : MethodName := ⟨RX10, "choose", "(II)J"⟩
abbrev cX10_work : ByteArray := prog_1_method_42_code
def yX10_work : MethodName := ⟨RX10, "work", "()V"⟩
abbrev cX10_barrelsAt : ByteArray := prog_1_method_43_code
def yX10_barrelsAt : MethodName := ⟨RX10, "barrelsAt", "(I)I"⟩
abbrev cX10_barrelsOfAll : ByteArray := prog_1_method_44_code
def yX10_barrelsOfAll : MethodName := ⟨RX10, "barrelsOfAll", "()I"⟩
abbrev cX10_spoiltOfAll : ByteArray := prog_1_method_45_code
def yX10_spoiltOfAll : MethodName := ⟨RX10, "spoiltOfAll", "()I"⟩
abbrev cX10_measureOne : ByteArray := prog_1_method_46_code
def yX10_measureOne : MethodName := ⟨RX10, "measureOne", "(II)V"⟩
abbrev cX10_tiers : ByteArray := prog_1_method_47_code
def yX10_tiers : MethodName := ⟨RX10, "tiers", "()I"⟩
abbrev cX10_ofCask : ByteArray := prog_1_method_48_code
def yX10_ofCask : MethodName := ⟨RX10, "ofCask", "(I)I"⟩
abbrev cX10_brandOfCask : ByteArray := prog_1_method_49_code
def yX10_brandOfCask : MethodName := ⟨RX10, "brandOfCask", "(I)I"⟩
abbrev cX10_countBranded : ByteArray := prog_1_method_50_code
def yX10_countBranded : MethodName := ⟨RX10, "countBranded", "(III)I"⟩
abbrev cX10_brandedAt : ByteArray := prog_1_method_51_code
def yX10_brandedAt : MethodName := ⟨RX10, "brandedAt", "(I)I"⟩
abbrev cX10_wagesAt : ByteArray := prog_1_method_52_code
def yX10_wagesAt : MethodName := ⟨RX10, "wagesAt", "(I)I"⟩
abbrev cX10_bountyAt : ByteArray := prog_1_method_53_code
def yX10_bountyAt : MethodName := ⟨RX10, "bountyAt", "(I)I"⟩
abbrev cX10_freePrice : ByteArray := prog_1_method_54_code
def yX10_freePrice : MethodName := ⟨RX10, "freePrice", "(II)I"⟩
abbrev cX10_costOf : ByteArray := prog_1_method_55_code
def yX10_costOf : MethodName := ⟨RX10, "costOf", "(IIII)I"⟩
abbrev cX10_savedBy : ByteArray := prog_1_method_56_code
def yX10_savedBy : MethodName := ⟨RX10, "savedBy", "(III)I"⟩
abbrev cX10_costsAt : ByteArray := prog_1_method_57_code
def yX10_costsAt : MethodName := ⟨RX10, "costsAt", "(II)I"⟩
def RX11 : String := "QuayBrandsModel"
def TX11 : u_T := fun k => match k with
  | 0 => ("QuayBrandsModel", "signs", "I", false)
  | 1 => ("QuayBrandsModel", "sign", "[I", true)
  | 2 => ("QuayBrandsModel", "acts", "I", false)
  | 3 => ("QuayBrandsModel", "actDay", "[I", true)
  | 4 => ("QuayBrandsModel", "actMany", "[I", true)
  | 5 => ("QuayBrandsModel", "actSign", "[I", true)
  | 6 => ("QuayBrandsModel", "crews", "[I", true)
  | 7 => ("QuayBrandsModel", "rate", "[I", true)
  | 8 => ("QuayBrandsModel", "rules", "[I", true)
  | 9 => ("QuayBrandsModel", "landings", "I", false)
  | 10 => ("QuayBrandsModel", "landing", "[I", true)
  | 11 => ("QuayBrandsModel", "salts", "I", false)
  | 12 => ("QuayBrandsModel", "salted", "[I", true)
  | 13 => ("QuayBrandsModel", "judged", "I", false)
  | 14 => ("QuayBrandsModel", "verdict", "[I", true)
  | 15 => ("QuayBrandsModel", "engagedBy", "[I", true)
  | 16 => ("QuayBrandsModel", "crans", "[I", true)
  | 17 => ("QuayBrandsModel", "engagedAt", "[I", true)
  | 18 => ("QuayBrandsModel", "frees", "I", false)
  | 19 => ("QuayBrandsModel", "freeDay", "[I", true)
  | 20 => ("QuayBrandsModel", "freePrice", "[I", true)
  | 21 => ("QuayBrandsModel", "freeTold", "[I", true)
  | 22 => ("QuayBrandsModel", "shipDay", "[I", true)
  | 23 => ("QuayBrandsModel", "bears", "[I", true)
  | 24 => ("QuayBrandsModel", "prices", "I", false)
  | 25 => ("QuayBrandsModel", "priceGrade", "[I", true)
  | 26 => ("QuayBrandsModel", "priceDay", "[I", true)
  | 27 => ("QuayBrandsModel", "priceIs", "[I", true)
  | 28 => ("QuayBrandsModel", "priceTold", "[I", true)
  | 29 => ("QuayBrandsModel", "doneAt", "I", false)
  | 30 => ("QuayBrandsModel", "mostHours", "I", false)
  | 31 => ("QuayBrandsModel", "leastSize", "I", false)
  | 32 => ("QuayBrandsModel", "parts", "I", false)
  | 33 => ("QuayBrandsModel", "pieces", "I", false)
  | 34 => ("QuayBrandsModel", "pieceOf", "[I", true)
  | 35 => ("QuayBrandsModel", "pieceHour", "[I", true)
  | 36 => ("QuayBrandsModel", "pieceFish", "[I", true)
  | 37 => ("QuayBrandsModel", "left", "[I", true)
  | 38 => ("QuayBrandsModel", "workedFish", "I", false)
  | 39 => ("QuayBrandsModel", "spoiltFish", "I", false)
  | 40 => ("QuayBrandsModel", "atPiece", "I", false)
  | 41 => ("QuayBrandsModel", "usedOfPiece", "I", false)
  | 42 => ("QuayBrandsModel", "costAll", "I", false)
  | 43 => ("QuayBrandsModel", "costFree", "I", false)
  | 44 => ("QuayBrandsModel", "costFish", "I", false)
  | 45 => ("QuayBrandsModel", "leastSpoilt", "I", false)
  | 46 => ("QuayBrandsModel", "bestCode", "I", false)
  | 47 => ("QuayBrandsModel", "waits", "I", false)
  | 48 => ("QuayBrandsModel", "waiter", "[I", true)
  | _ => ("QuayBrandsModel", "most", "[I", true)
def tyX11 : Nat → FieldType := fun k => match k with
  | 0 => .int
  | 1 => .array .int
  | 2 => .int
  | 3 => .array .int
  | 4 => .array .int
  | 5 => .array .int
  | 6 => .array .int
  | 7 => .array .int
  | 8 => .array .int
  | 9 => .int
  | 10 => .array .int
  | 11 => .int
  | 12 => .array .int
  | 13 => .int
  | 14 => .array .int
  | 15 => .array .int
  | 16 => .array .int
  | 17 => .array .int
  | 18 => .int
  | 19 => .array .int
  | 20 => .array .int
  | 21 => .array .int
  | 22 => .array .int
  | 23 => .array .int
  | 24 => .int
  | 25 => .array .int
  | 26 => .array .int
  | 27 => .array .int
  | 28 => .array .int
  | 29 => .int
  | 30 => .int
  | 31 => .int
  | 32 => .int
  | 33 => .int
  | 34 => .array .int
  | 35 => .array .int
  | 36 => .array .int
  | 37 => .array .int
  | 38 => .int
  | 39 => .int
  | 40 => .int
  | 41 => .int
  | 42 => .int
  | 43 => .int
  | 44 => .int
  | 45 => .int
  | 46 => .int
  | 47 => .int
  | 48 => .array .int
  | _ => .array .int
theorem nmX11 : ∀ a, a < 50 → ∀ b, b < 50 → a ≠ b → (TX11 a).2.1 ≠ (TX11 b).2.1 := by decide +kernel
theorem tyX11_ok : ∀ k, k < 50 → parseFieldDescriptor (TX11 k).2.2.1 = some (tyX11 k) := by decide +kernel
abbrev cX11_init : ByteArray := prog_13_method_1_code
def yX11_init : MethodName := ⟨RX11, "<init>", "()V"⟩
abbrev cX11_in : ByteArray := prog_13_method_2_code
def yX11_in : MethodName := ⟨RX11, "in", "(III)Z"⟩
abbrev cX11_isDay : ByteArray := prog_13_method_3_code
def yX11_isDay : MethodName := ⟨RX11, "isDay", "(I)Z"⟩
abbrev cX11_isHour : ByteArray := prog_13_method_4_code
def yX11_isHour : MethodName := ⟨RX11, "isHour", "(I)Z"⟩
abbrev cX11_isQuay : ByteArray := prog_13_method_5_code
def yX11_isQuay : MethodName := ⟨RX11, "isQuay", "(I)Z"⟩
abbrev cX11_say : ByteArray := prog_13_method_6_code
def yX11_say : MethodName := ⟨RX11, "say", "(I)I"⟩
abbrev cX11_wipe : ByteArray := prog_13_method_7_code
def yX11_wipe : MethodName := ⟨RX11, "wipe", "()I"⟩
abbrev cX11_isFact : ByteArray := prog_13_method_8_code
def yX11_isFact : MethodName := ⟨RX11, "isFact", "(I)Z"⟩
abbrev cX11_faultOf : ByteArray := prog_13_method_9_code
def yX11_faultOf : MethodName := ⟨RX11, "faultOf", "()I"⟩
abbrev cX11_fault : ByteArray := prog_13_method_10_code
def yX11_fault : MethodName := ⟨RX11, "fault", "()I"⟩
abbrev cX11_act : ByteArray := prog_13_method_11_code
def yX11_act : MethodName := ⟨RX11, "act", "(I)I"⟩
abbrev cX11_actOn : ByteArray := prog_13_method_12_code
def yX11_actOn : MethodName := ⟨RX11, "actOn", "(I)I"⟩
abbrev cX11_grade : ByteArray := prog_13_method_13_code
def yX11_grade : MethodName := ⟨RX11, "grade", "(II)I"⟩
abbrev cX11_factOf : ByteArray := prog_13_method_14_code
def yX11_factOf : MethodName := ⟨RX11, "factOf", "(II)I"⟩
abbrev cX11_brandOf : ByteArray := prog_13_method_15_code
def yX11_brandOf : MethodName := ⟨RX11, "brandOf", "(II)I"⟩
abbrev cX11_set : ByteArray := prog_13_method_16_code
def yX11_set : MethodName := ⟨RX11, "set", "(III)I"⟩
abbrev cX11_rule : ByteArray := prog_13_method_17_code
def yX11_rule : MethodName := ⟨RX11, "rule", "(II)I"⟩
abbrev cX11_waiting : ByteArray := prog_13_method_18_code
def yX11_waiting : MethodName := ⟨RX11, "waiting", "()I"⟩
abbrev cX11_land : ByteArray := prog_13_method_19_code
def yX11_land : MethodName := ⟨RX11, "land", "(IIIII)I"⟩
abbrev cX11_lead : ByteArray := prog_13_method_20_code
def yX11_lead : MethodName := ⟨RX11, "lead", "(II)I"⟩
abbrev cX11_firstOf : ByteArray := prog_13_method_21_code
def yX11_firstOf : MethodName := ⟨RX11, "firstOf", "(II)I"⟩
abbrev cX11_nextHour : ByteArray := prog_13_method_22_code
def yX11_nextHour : MethodName := ⟨RX11, "nextHour", "(I)I"⟩
abbrev cX11_workQuay : ByteArray := prog_13_method_23_code
def yX11_workQuay : MethodName := ⟨RX11, "workQuay", "(I)V"⟩
abbrev cX11_landing : ByteArray := prog_13_method_24_code
def yX11_landing : MethodName := ⟨RX11, "landing", "(II)I"⟩
abbrev cX11_salt : ByteArray := prog_13_method_25_code
def yX11_salt : MethodName := ⟨RX11, "salt", "(IIII)I"⟩
abbrev cX11_saltOf : ByteArray := prog_13_method_26_code
def yX11_saltOf : MethodName := ⟨RX11, "saltOf", "(II)I"⟩
abbrev cX11_beginBarrels : ByteArray := prog_13_method_27_code
def yX11_beginBarrels : MethodName := ⟨RX11, "beginBarrels", "(I)V"⟩
abbrev cX11_takeBarrel : ByteArray := prog_13_method_28_code
def yX11_takeBarrel : MethodName := ⟨RX11, "takeBarrel", "()V"⟩
abbrev cX11_barrelsNow : ByteArray := prog_13_method_29_code
def yX11_barrelsNow : MethodName := ⟨RX11, "barrelsNow", "()I"⟩
abbrev cX11_takes : ByteArray := prog_13_method_30_code
def yX11_takes : MethodName := ⟨RX11, "takes", "(II)Z"⟩
abbrev cX11_brand : ByteArray := prog_13_method_31_code
def yX11_brand : MethodName := ⟨RX11, "brand", "(III)I"⟩
abbrev cX11_barrel : ByteArray := prog_13_method_32_code
def yX11_barrel : MethodName := ⟨RX11, "barrel", "(III)I"⟩
abbrev cX11_filled : ByteArray := prog_13_method_33_code
def yX11_filled : MethodName := ⟨RX11, "filled", "(IIII)I"⟩
abbrev cX11_choose : ByteArray := prog_13_method_34_code
def yX11_choose : MethodName := ⟨RX11, "choose", "(II)J"⟩
abbrev cX11_open : ByteArray := prog_13_method_35_code
def yX11_open : MethodName := ⟨RX11, "open", "(III)I"⟩
abbrev cX11_judge : ByteArray := prog_13_method_36_code
def yX11_judge : MethodName := ⟨RX11, "judge", "(IIIZ)I"⟩
abbrev cX11_absolve : ByteArray := prog_13_method_37_code
def yX11_absolve : MethodName := ⟨RX11, "absolve", "()I"⟩
abbrev cX11_hasCause : ByteArray := prog_13_method_38_code
def yX11_hasCause : MethodName := ⟨RX11, "hasCause", "(II)Z"⟩
abbrev cX11_mayBe : ByteArray := prog_13_method_39_code
def yX11_mayBe : MethodName := ⟨RX11, "mayBe", "(I)Z"⟩
abbrev cX11_cause : ByteArray := prog_13_method_40_code
def yX11_cause : MethodName := ⟨RX11, "cause", "(I)I"⟩
abbrev cX11_explain : ByteArray := prog_13_method_41_code
def yX11_explain : MethodName := ⟨RX11, "explain", "(III)Z"⟩
abbrev cX11_setOf : ByteArray := prog_13_method_42_code
def yX11_setOf : MethodName := ⟨RX11, "setOf", "(III)I"⟩
abbrev cX11_fewest : ByteArray := prog_13_method_43_code
def yX11_fewest : MethodName := ⟨RX11, "fewest", "()I"⟩
abbrev cX11_explained : ByteArray := prog_13_method_44_code
def yX11_explained : MethodName := ⟨RX11, "explained", "()I"⟩
abbrev cX11_rival : ByteArray := prog_13_method_45_code
def yX11_rival : MethodName := ⟨RX11, "rival", "(II)I"⟩
abbrev cX11_isPrice : ByteArray := prog_13_method_46_code
def yX11_isPrice : MethodName := ⟨RX11, "isPrice", "(I)Z"⟩
abbrev cX11_engage : ByteArray := prog_13_method_47_code
def yX11_engage : MethodName := ⟨RX11, "engage", "(IIII)I"⟩
abbrev cX11_free : ByteArray := prog_13_method_48_code
def yX11_free : MethodName := ⟨RX11, "free", "(III)I"⟩
abbrev cX11_freeAt : ByteArray := prog_13_method_49_code
def yX11_freeAt : MethodName := ⟨RX11, "freeAt", "(II)I"⟩
abbrev cX11_freeOn : ByteArray := prog_13_method_50_code
def yX11_freeOn : MethodName := ⟨RX11, "freeOn", "(II)I"⟩
abbrev cX11_layCost : ByteArray := prog_13_method_51_code
def yX11_layCost : MethodName := ⟨RX11, "layCost", "(III)V"⟩
abbrev cX11_cost : ByteArray := prog_13_method_52_code
def yX11_cost : MethodName := ⟨RX11, "cost", "(IIII)I"⟩
abbrev cX11_costsOf : ByteArray := prog_13_method_53_code
def yX11_costsOf : MethodName := ⟨RX11, "costsOf", "(II)I"⟩
abbrev cX11_brandedOf : ByteArray := prog_13_method_54_code
def yX11_brandedOf : MethodName := ⟨RX11, "brandedOf", "(I)I"⟩
abbrev cX11_account : ByteArray := prog_13_method_55_code
def yX11_account : MethodName := ⟨RX11, "account", "(III)I"⟩
abbrev cX11_allSpoilt : ByteArray := prog_13_method_56_code
def yX11_allSpoilt : MethodName := ⟨RX11, "allSpoilt", "()I"⟩
abbrev cX11_leadAll : ByteArray := prog_13_method_57_code
def yX11_leadAll : MethodName := ⟨RX11, "leadAll", "(I)V"⟩
abbrev cX11_laySpread : ByteArray := prog_13_method_58_code
def yX11_laySpread : MethodName := ⟨RX11, "laySpread", "()V"⟩
abbrev cX11_spread : ByteArray := prog_13_method_59_code
def yX11_spread : MethodName := ⟨RX11, "spread", "(I)I"⟩
abbrev cX11_settle : ByteArray := prog_13_method_60_code
def yX11_settle : MethodName := ⟨RX11, "settle", "()I"⟩
abbrev cX11_ship : ByteArray := prog_13_method_61_code
def yX11_ship : MethodName := ⟨RX11, "ship", "(III)I"⟩
abbrev cX11_price : ByteArray := prog_13_method_62_code
def yX11_price : MethodName := ⟨RX11, "price", "(IIII)I"⟩
abbrev cX11_priceAt : ByteArray := prog_13_method_63_code
def yX11_priceAt : MethodName := ⟨RX11, "priceAt", "(III)I"⟩
abbrev cX11_priceOn : ByteArray := prog_13_method_64_code
def yX11_priceOn : MethodName := ⟨RX11, "priceOn", "(III)I"⟩
abbrev cX11_gain : ByteArray := prog_13_method_65_code
def yX11_gain : MethodName := ⟨RX11, "gain", "(IIII)I"⟩
abbrev cX11_layMost : ByteArray := prog_13_method_66_code
def yX11_layMost : MethodName := ⟨RX11, "layMost", "(I)V"⟩
abbrev cX11_load : ByteArray := prog_13_method_67_code
def yX11_load : MethodName := ⟨RX11, "load", "(IIII)I"⟩
abbrev cX11_told : ByteArray := prog_13_method_68_code
def yX11_told : MethodName := ⟨RX11, "told", "(I)I"⟩
def RJ6 : String := "java/lang/Integer"
def TJ6 : u_T := fun k => match k with
  | _ => ("", "", "", false)
def tyJ6 : Nat → FieldType := fun k => match k with
  | _ => .int
abbrev cJ6_bitCount_0f7a4 : ByteArray := prog_14_method_49_code
def yJ6_bitCount_0f7a4 : MethodName := ⟨RJ6, "bitCount", "(I)I"⟩
def RJ9 : String := "java/lang/Math"
def TJ9 : u_T := fun k => match k with
  | _ => ("", "", "", false)
def tyJ9 : Nat → FieldType := fun k => match k with
  | _ => .int
abbrev cJ9_max_7cf53 : ByteArray := prog_15_method_65_code
def yJ9_max_7cf53 : MethodName := ⟨RJ9, "max", "(II)I"⟩
abbrev cJ9_min_7cf53 : ByteArray := prog_15_method_69_code
def yJ9_min_7cf53 : MethodName := ⟨RJ9, "min", "(II)I"⟩
def RJ10 : String := "java/lang/System"
def TJ10 : u_T := fun k => match k with
  | _ => ("", "", "", false)
def tyJ10 : Nat → FieldType := fun k => match k with
  | _ => .int
def RL : String := "QuayBrandsLaw"
abbrev cL_law : ByteArray := code
def yL_law : MethodName := ⟨RL, "law", "([I)Z"⟩
abbrev vwCl : List vw_C := [(RX0, TX0, 7), (RX1, TX1, 3), (RX2, TX2, 10), (RX3, TX3, 2), (RX4, TX4, 5), (RX5, TX5, 5), (RX6, TX6, 6), (RX7, TX7, 14), (RX8, TX8, 5), (RX9, TX9, 6), (RX10, TX10, 13), (RX11, TX11, 50)]
end
section
/-! decode rows, by program out of what TURN prints -/
theorem dX0_init_0 : decode cX0_init 0 = .ok (.aload_n 0, 1) := by decide +kernel
theorem dX0_init_1 : decode cX0_init 1 = .ok (.invokespecial 3, 3) := by decide +kernel
theorem dX0_init_4 : decode cX0_init 4 = .ok (.aload_n 0, 1) := by decide +kernel
theorem dX0_init_5 : decode cX0_init 5 = .ok (.bipush 8, 2) := by decide +kernel
theorem dX0_init_7 : decode cX0_init 7 = .ok (.newarray .int, 2) := by decide +kernel
theorem dX0_init_9 : decode cX0_init 9 = .ok (.putfield 9, 3) := by decide +kernel
theorem dX0_init_12 : decode cX0_init 12 = .ok (.aload_n 0, 1) := by decide +kernel
theorem dX0_init_13 : decode cX0_init 13 = .ok (.bipush 8, 2) := by decide +kernel
theorem dX0_init_15 : decode cX0_init 15 = .ok (.newarray .int, 2) := by decide +kernel
theorem dX0_init_17 : decode cX0_init 17 = .ok (.putfield 15, 3) := by decide +kernel
theorem dX0_init_20 : decode cX0_init 20 = .ok (.aload_n 0, 1) := by decide +kernel
theorem dX0_init_21 : decode cX0_init 21 = .ok (.bipush 120, 2) := by decide +kernel
theorem dX0_init_23 : decode cX0_init 23 = .ok (.newarray .int, 2) := by decide +kernel
theorem dX0_init_25 : decode cX0_init 25 = .ok (.putfield 18, 3) := by decide +kernel
theorem dX0_init_28 : decode cX0_init 28 = .ok (.aload_n 0, 1) := by decide +kernel
theorem dX0_init_29 : decode cX0_init 29 = .ok (.bipush 120, 2) := by decide +kernel
theorem dX0_init_31 : decode cX0_init 31 = .ok (.newarray .int, 2) := by decide +kernel
theorem dX0_init_33 : decode cX0_init 33 = .ok (.putfield 21, 3) := by decide +kernel
theorem dX0_init_36 : decode cX0_init 36 = .ok (.aload_n 0, 1) := by decide +kernel
theorem dX0_init_37 : decode cX0_init 37 = .ok (.bipush 120, 2) := by decide +kernel
theorem dX0_init_39 : decode cX0_init 39 = .ok (.newarray .int, 2) := by decide +kernel
theorem dX0_init_41 : decode cX0_init 41 = .ok (.putfield 24, 3) := by decide +kernel
theorem dX0_init_44 : decode cX0_init 44 = .ok (.aload_n 0, 1) := by decide +kernel
theorem dX0_init_45 : decode cX0_init 45 = .ok (.bipush 120, 2) := by decide +kernel
theorem dX0_init_47 : decode cX0_init 47 = .ok (.newarray .int, 2) := by decide +kernel
theorem dX0_init_49 : decode cX0_init 49 = .ok (.putfield 27, 3) := by decide +kernel
theorem dX0_init_52 : decode cX0_init 52 = .ok (.return_, 1) := by decide +kernel
theorem dX0_letterOf_0 : decode cX0_letterOf 0 = .ok (.iload_n 0, 1) := by decide +kernel
theorem dX0_letterOf_1 : decode cX0_letterOf 1 = .ok (.bipush 65, 2) := by decide +kernel
theorem dX0_letterOf_3 : decode cX0_letterOf 3 = .ok (.bipush 70, 2) := by decide +kernel
theorem dX0_letterOf_5 : decode cX0_letterOf 5 = .ok (.invokestatic 30, 3) := by decide +kernel
theorem dX0_letterOf_8 : decode cX0_letterOf 8 = .ok (.ifCond .eq 10, 3) := by decide +kernel
theorem dX0_letterOf_11 : decode cX0_letterOf 11 = .ok (.iload_n 0, 1) := by decide +kernel
theorem dX0_letterOf_12 : decode cX0_letterOf 12 = .ok (.bipush 65, 2) := by decide +kernel
theorem dX0_letterOf_14 : decode cX0_letterOf 14 = .ok (.isub, 1) := by decide +kernel
theorem dX0_letterOf_15 : decode cX0_letterOf 15 = .ok (.goto 5, 3) := by decide +kernel
theorem dX0_letterOf_18 : decode cX0_letterOf 18 = .ok (.bipush (-6), 2) := by decide +kernel
theorem dX0_letterOf_20 : decode cX0_letterOf 20 = .ok (.ireturn, 1) := by decide +kernel
theorem dX0_factOf_0 : decode cX0_factOf 0 = .ok (.iload_n 0, 1) := by decide +kernel
theorem dX0_factOf_1 : decode cX0_factOf 1 = .ok (.lookupswitch 61 #[(104, 51), (113, 59), (115, 55), (116, 53), (122, 57)], 51) := by decide +kernel
theorem dX0_factOf_52 : decode cX0_factOf 52 = .ok (.iconst 0, 1) := by decide +kernel
theorem dX0_factOf_53 : decode cX0_factOf 53 = .ok (.ireturn, 1) := by decide +kernel
theorem dX0_factOf_54 : decode cX0_factOf 54 = .ok (.iconst 1, 1) := by decide +kernel
theorem dX0_factOf_55 : decode cX0_factOf 55 = .ok (.ireturn, 1) := by decide +kernel
theorem dX0_factOf_56 : decode cX0_factOf 56 = .ok (.iconst 2, 1) := by decide +kernel
theorem dX0_factOf_57 : decode cX0_factOf 57 = .ok (.ireturn, 1) := by decide +kernel
theorem dX0_factOf_58 : decode cX0_factOf 58 = .ok (.iconst 3, 1) := by decide +kernel
theorem dX0_factOf_59 : decode cX0_factOf 59 = .ok (.ireturn, 1) := by decide +kernel
theorem dX0_factOf_60 : decode cX0_factOf 60 = .ok (.iconst 4, 1) := by decide +kernel
theorem dX0_factOf_61 : decode cX0_factOf 61 = .ok (.ireturn, 1) := by decide +kernel
theorem dX0_factOf_62 : decode cX0_factOf 62 = .ok (.bipush (-6), 2) := by decide +kernel
theorem dX0_factOf_64 : decode cX0_factOf 64 = .ok (.ireturn, 1) := by decide +kernel
theorem dX0_isComparer_0 : decode cX0_isComparer 0 = .ok (.iload_n 0, 1) := by decide +kernel
theorem dX0_isComparer_1 : decode cX0_isComparer 1 = .ok (.bipush 60, 2) := by decide +kernel
theorem dX0_isComparer_3 : decode cX0_isComparer 3 = .ok (.bipush 62, 2) := by decide +kernel
theorem dX0_isComparer_5 : decode cX0_isComparer 5 = .ok (.invokestatic 30, 3) := by decide +kernel
theorem dX0_isComparer_8 : decode cX0_isComparer 8 = .ok (.ireturn, 1) := by decide +kernel
theorem dX0_isDigit_0 : decode cX0_isDigit 0 = .ok (.iload_n 0, 1) := by decide +kernel
theorem dX0_isDigit_1 : decode cX0_isDigit 1 = .ok (.bipush 48, 2) := by decide +kernel
theorem dX0_isDigit_3 : decode cX0_isDigit 3 = .ok (.bipush 57, 2) := by decide +kernel
theorem dX0_isDigit_5 : decode cX0_isDigit 5 = .ok (.invokestatic 30, 3) := by decide +kernel
theorem dX0_isDigit_8 : decode cX0_isDigit 8 = .ok (.ireturn, 1) := by decide +kernel
theorem dX0_add_0 : decode cX0_add 0 = .ok (.iconst 0, 1) := by decide +kernel
theorem dX0_add_1 : decode cX0_add 1 = .ok (.istore_n 3, 1) := by decide +kernel
theorem dX0_add_2 : decode cX0_add 2 = .ok (.iconst 0, 1) := by decide +kernel
theorem dX0_add_3 : decode cX0_add 3 = .ok (.istore 4, 2) := by decide +kernel
theorem dX0_add_5 : decode cX0_add 5 = .ok (.iconst 0, 1) := by decide +kernel
theorem dX0_add_6 : decode cX0_add 6 = .ok (.istore 5, 2) := by decide +kernel
theorem dX0_add_8 : decode cX0_add 8 = .ok (.aload_n 0, 1) := by decide +kernel
theorem dX0_add_9 : decode cX0_add 9 = .ok (.getfield 34, 3) := by decide +kernel
theorem dX0_add_12 : decode cX0_add 12 = .ok (.bipush 15, 2) := by decide +kernel
theorem dX0_add_14 : decode cX0_add 14 = .ok (.imul, 1) := by decide +kernel
theorem dX0_add_15 : decode cX0_add 15 = .ok (.istore 6, 2) := by decide +kernel
theorem dX0_add_17 : decode cX0_add 17 = .ok (.iconst 0, 1) := by decide +kernel
theorem dX0_add_18 : decode cX0_add 18 = .ok (.istore 7, 2) := by decide +kernel
theorem dX0_add_20 : decode cX0_add 20 = .ok (.iload 7, 2) := by decide +kernel
theorem dX0_add_22 : decode cX0_add 22 = .ok (.aload_n 2, 1) := by decide +kernel
theorem dX0_add_23 : decode cX0_add 23 = .ok (.getfield 38, 3) := by decide +kernel
theorem dX0_add_26 : decode cX0_add 26 = .ok (.if_icmp .ge 164, 3) := by decide +kernel
theorem dX0_add_29 : decode cX0_add 29 = .ok (.aload_n 2, 1) := by decide +kernel
theorem dX0_add_30 : decode cX0_add 30 = .ok (.getfield 41, 3) := by decide +kernel
theorem dX0_add_33 : decode cX0_add 33 = .ok (.iload 7, 2) := by decide +kernel
theorem dX0_add_35 : decode cX0_add 35 = .ok (.iaload, 1) := by decide +kernel
theorem dX0_add_36 : decode cX0_add 36 = .ok (.istore 8, 2) := by decide +kernel
theorem dX0_add_38 : decode cX0_add 38 = .ok (.iload 8, 2) := by decide +kernel
theorem dX0_add_40 : decode cX0_add 40 = .ok (.invokestatic 44, 3) := by decide +kernel
theorem dX0_add_43 : decode cX0_add 43 = .ok (.bipush (-6), 2) := by decide +kernel
theorem dX0_add_45 : decode cX0_add 45 = .ok (.if_icmp .eq 13, 3) := by decide +kernel
theorem dX0_add_48 : decode cX0_add 48 = .ok (.iload 8, 2) := by decide +kernel
theorem dX0_add_50 : decode cX0_add 50 = .ok (.invokestatic 44, 3) := by decide +kernel
theorem dX0_add_53 : decode cX0_add 53 = .ok (.istore 4, 2) := by decide +kernel
theorem dX0_add_55 : decode cX0_add 55 = .ok (.goto 129, 3) := by decide +kernel
theorem dX0_add_58 : decode cX0_add 58 = .ok (.iload 8, 2) := by decide +kernel
theorem dX0_add_60 : decode cX0_add 60 = .ok (.invokestatic 48, 3) := by decide +kernel
theorem dX0_add_63 : decode cX0_add 63 = .ok (.bipush (-6), 2) := by decide +kernel
theorem dX0_add_65 : decode cX0_add 65 = .ok (.if_icmp .eq 13, 3) := by decide +kernel
theorem dX0_add_68 : decode cX0_add 68 = .ok (.iload 8, 2) := by decide +kernel
theorem dX0_add_70 : decode cX0_add 70 = .ok (.invokestatic 48, 3) := by decide +kernel
theorem dX0_add_73 : decode cX0_add 73 = .ok (.istore 5, 2) := by decide +kernel
theorem dX0_add_75 : decode cX0_add 75 = .ok (.goto 109, 3) := by decide +kernel
theorem dX0_add_78 : decode cX0_add 78 = .ok (.iload 8, 2) := by decide +kernel
theorem dX0_add_80 : decode cX0_add 80 = .ok (.invokestatic 51, 3) := by decide +kernel
theorem dX0_add_83 : decode cX0_add 83 = .ok (.ifCond .eq 58, 3) := by decide +kernel
theorem dX0_add_86 : decode cX0_add 86 = .ok (.iload_n 3, 1) := by decide +kernel
theorem dX0_add_87 : decode cX0_add 87 = .ok (.bipush 15, 2) := by decide +kernel
theorem dX0_add_89 : decode cX0_add 89 = .ok (.if_icmp .ge 52, 3) := by decide +kernel
theorem dX0_add_92 : decode cX0_add 92 = .ok (.aload_n 0, 1) := by decide +kernel
theorem dX0_add_93 : decode cX0_add 93 = .ok (.getfield 18, 3) := by decide +kernel
theorem dX0_add_96 : decode cX0_add 96 = .ok (.iload 6, 2) := by decide +kernel
theorem dX0_add_98 : decode cX0_add 98 = .ok (.iload_n 3, 1) := by decide +kernel
theorem dX0_add_99 : decode cX0_add 99 = .ok (.iadd, 1) := by decide +kernel
theorem dX0_add_100 : decode cX0_add 100 = .ok (.iload 4, 2) := by decide +kernel
theorem dX0_add_102 : decode cX0_add 102 = .ok (.iastore, 1) := by decide +kernel
theorem dX0_add_103 : decode cX0_add 103 = .ok (.aload_n 0, 1) := by decide +kernel
theorem dX0_add_104 : decode cX0_add 104 = .ok (.getfield 21, 3) := by decide +kernel
theorem dX0_add_107 : decode cX0_add 107 = .ok (.iload 6, 2) := by decide +kernel
theorem dX0_add_109 : decode cX0_add 109 = .ok (.iload_n 3, 1) := by decide +kernel
theorem dX0_add_110 : decode cX0_add 110 = .ok (.iadd, 1) := by decide +kernel
theorem dX0_add_111 : decode cX0_add 111 = .ok (.iload 5, 2) := by decide +kernel
theorem dX0_add_113 : decode cX0_add 113 = .ok (.iastore, 1) := by decide +kernel
theorem dX0_add_114 : decode cX0_add 114 = .ok (.aload_n 0, 1) := by decide +kernel
theorem dX0_add_115 : decode cX0_add 115 = .ok (.getfield 24, 3) := by decide +kernel
theorem dX0_add_118 : decode cX0_add 118 = .ok (.iload 6, 2) := by decide +kernel
theorem dX0_add_120 : decode cX0_add 120 = .ok (.iload_n 3, 1) := by decide +kernel
theorem dX0_add_121 : decode cX0_add 121 = .ok (.iadd, 1) := by decide +kernel
theorem dX0_add_122 : decode cX0_add 122 = .ok (.iload 8, 2) := by decide +kernel
theorem dX0_add_124 : decode cX0_add 124 = .ok (.iastore, 1) := by decide +kernel
theorem dX0_add_125 : decode cX0_add 125 = .ok (.aload_n 0, 1) := by decide +kernel
theorem dX0_add_126 : decode cX0_add 126 = .ok (.getfield 27, 3) := by decide +kernel
theorem dX0_add_129 : decode cX0_add 129 = .ok (.iload 6, 2) := by decide +kernel
theorem dX0_add_131 : decode cX0_add 131 = .ok (.iload_n 3, 1) := by decide +kernel
theorem dX0_add_132 : decode cX0_add 132 = .ok (.iadd, 1) := by decide +kernel
theorem dX0_add_133 : decode cX0_add 133 = .ok (.iconst 0, 1) := by decide +kernel
theorem dX0_add_134 : decode cX0_add 134 = .ok (.iastore, 1) := by decide +kernel
theorem dX0_add_135 : decode cX0_add 135 = .ok (.iinc 3 1, 3) := by decide +kernel
theorem dX0_add_138 : decode cX0_add 138 = .ok (.goto 46, 3) := by decide +kernel
theorem dX0_add_141 : decode cX0_add 141 = .ok (.iload 8, 2) := by decide +kernel
theorem dX0_add_143 : decode cX0_add 143 = .ok (.invokestatic 55, 3) := by decide +kernel
theorem dX0_add_146 : decode cX0_add 146 = .ok (.ifCond .eq 38, 3) := by decide +kernel
theorem dX0_add_149 : decode cX0_add 149 = .ok (.iload_n 3, 1) := by decide +kernel
theorem dX0_add_150 : decode cX0_add 150 = .ok (.ifCond .le 34, 3) := by decide +kernel
theorem dX0_add_153 : decode cX0_add 153 = .ok (.aload_n 0, 1) := by decide +kernel
theorem dX0_add_154 : decode cX0_add 154 = .ok (.getfield 27, 3) := by decide +kernel
theorem dX0_add_157 : decode cX0_add 157 = .ok (.iload 6, 2) := by decide +kernel
theorem dX0_add_159 : decode cX0_add 159 = .ok (.iload_n 3, 1) := by decide +kernel
theorem dX0_add_160 : decode cX0_add 160 = .ok (.iadd, 1) := by decide +kernel
theorem dX0_add_161 : decode cX0_add 161 = .ok (.iconst 1, 1) := by decide +kernel
theorem dX0_add_162 : decode cX0_add 162 = .ok (.isub, 1) := by decide +kernel
theorem dX0_add_163 : decode cX0_add 163 = .ok (.aload_n 0, 1) := by decide +kernel
theorem dX0_add_164 : decode cX0_add 164 = .ok (.getfield 27, 3) := by decide +kernel
theorem dX0_add_167 : decode cX0_add 167 = .ok (.iload 6, 2) := by decide +kernel
theorem dX0_add_169 : decode cX0_add 169 = .ok (.iload_n 3, 1) := by decide +kernel
theorem dX0_add_170 : decode cX0_add 170 = .ok (.iadd, 1) := by decide +kernel
theorem dX0_add_171 : decode cX0_add 171 = .ok (.iconst 1, 1) := by decide +kernel
theorem dX0_add_172 : decode cX0_add 172 = .ok (.isub, 1) := by decide +kernel
theorem dX0_add_173 : decode cX0_add 173 = .ok (.iaload, 1) := by decide +kernel
theorem dX0_add_174 : decode cX0_add 174 = .ok (.bipush 10, 2) := by decide +kernel
theorem dX0_add_176 : decode cX0_add 176 = .ok (.imul, 1) := by decide +kernel
theorem dX0_add_177 : decode cX0_add 177 = .ok (.iload 8, 2) := by decide +kernel
theorem dX0_add_179 : decode cX0_add 179 = .ok (.iadd, 1) := by decide +kernel
theorem dX0_add_180 : decode cX0_add 180 = .ok (.bipush 48, 2) := by decide +kernel
theorem dX0_add_182 : decode cX0_add 182 = .ok (.isub, 1) := by decide +kernel
theorem dX0_add_183 : decode cX0_add 183 = .ok (.iastore, 1) := by decide +kernel
theorem dX0_add_184 : decode cX0_add 184 = .ok (.iinc 7 1, 3) := by decide +kernel
theorem dX0_add_187 : decode cX0_add 187 = .ok (.goto (-167), 3) := by decide +kernel
theorem dX0_add_190 : decode cX0_add 190 = .ok (.aload_n 0, 1) := by decide +kernel
theorem dX0_add_191 : decode cX0_add 191 = .ok (.getfield 9, 3) := by decide +kernel
theorem dX0_add_194 : decode cX0_add 194 = .ok (.aload_n 0, 1) := by decide +kernel
theorem dX0_add_195 : decode cX0_add 195 = .ok (.getfield 34, 3) := by decide +kernel
theorem dX0_add_198 : decode cX0_add 198 = .ok (.iload_n 1, 1) := by decide +kernel
theorem dX0_add_199 : decode cX0_add 199 = .ok (.iastore, 1) := by decide +kernel
theorem dX0_add_200 : decode cX0_add 200 = .ok (.aload_n 0, 1) := by decide +kernel
theorem dX0_add_201 : decode cX0_add 201 = .ok (.getfield 15, 3) := by decide +kernel
theorem dX0_add_204 : decode cX0_add 204 = .ok (.aload_n 0, 1) := by decide +kernel
theorem dX0_add_205 : decode cX0_add 205 = .ok (.getfield 34, 3) := by decide +kernel
theorem dX0_add_208 : decode cX0_add 208 = .ok (.iload_n 3, 1) := by decide +kernel
theorem dX0_add_209 : decode cX0_add 209 = .ok (.iastore, 1) := by decide +kernel
theorem dX0_add_210 : decode cX0_add 210 = .ok (.aload_n 0, 1) := by decide +kernel
theorem dX0_add_211 : decode cX0_add 211 = .ok (.dup, 1) := by decide +kernel
theorem dX0_add_212 : decode cX0_add 212 = .ok (.getfield 34, 3) := by decide +kernel
theorem dX0_add_215 : decode cX0_add 215 = .ok (.iconst 1, 1) := by decide +kernel
theorem dX0_add_216 : decode cX0_add 216 = .ok (.iadd, 1) := by decide +kernel
theorem dX0_add_217 : decode cX0_add 217 = .ok (.putfield 34, 3) := by decide +kernel
theorem dX0_add_220 : decode cX0_add 220 = .ok (.return_, 1) := by decide +kernel
theorem dX0_actOn_0 : decode cX0_actOn 0 = .ok (.bipush (-6), 2) := by decide +kernel
theorem dX0_actOn_2 : decode cX0_actOn 2 = .ok (.istore_n 2, 1) := by decide +kernel
theorem dX0_actOn_3 : decode cX0_actOn 3 = .ok (.iconst 0, 1) := by decide +kernel
theorem dX0_actOn_4 : decode cX0_actOn 4 = .ok (.istore_n 3, 1) := by decide +kernel
theorem dX0_actOn_5 : decode cX0_actOn 5 = .ok (.iload_n 3, 1) := by decide +kernel
theorem dX0_actOn_6 : decode cX0_actOn 6 = .ok (.aload_n 0, 1) := by decide +kernel
theorem dX0_actOn_7 : decode cX0_actOn 7 = .ok (.getfield 34, 3) := by decide +kernel
theorem dX0_actOn_10 : decode cX0_actOn 10 = .ok (.if_icmp .ge 42, 3) := by decide +kernel
theorem dX0_actOn_13 : decode cX0_actOn 13 = .ok (.aload_n 0, 1) := by decide +kernel
theorem dX0_actOn_14 : decode cX0_actOn 14 = .ok (.getfield 9, 3) := by decide +kernel
theorem dX0_actOn_17 : decode cX0_actOn 17 = .ok (.iload_n 3, 1) := by decide +kernel
theorem dX0_actOn_18 : decode cX0_actOn 18 = .ok (.iaload, 1) := by decide +kernel
theorem dX0_actOn_19 : decode cX0_actOn 19 = .ok (.iload_n 1, 1) := by decide +kernel
theorem dX0_actOn_20 : decode cX0_actOn 20 = .ok (.if_icmp .gt 26, 3) := by decide +kernel
theorem dX0_actOn_23 : decode cX0_actOn 23 = .ok (.iload_n 2, 1) := by decide +kernel
theorem dX0_actOn_24 : decode cX0_actOn 24 = .ok (.bipush (-6), 2) := by decide +kernel
theorem dX0_actOn_26 : decode cX0_actOn 26 = .ok (.if_icmp .eq 18, 3) := by decide +kernel
theorem dX0_actOn_29 : decode cX0_actOn 29 = .ok (.aload_n 0, 1) := by decide +kernel
theorem dX0_actOn_30 : decode cX0_actOn 30 = .ok (.getfield 9, 3) := by decide +kernel
theorem dX0_actOn_33 : decode cX0_actOn 33 = .ok (.iload_n 3, 1) := by decide +kernel
theorem dX0_actOn_34 : decode cX0_actOn 34 = .ok (.iaload, 1) := by decide +kernel
theorem dX0_actOn_35 : decode cX0_actOn 35 = .ok (.aload_n 0, 1) := by decide +kernel
theorem dX0_actOn_36 : decode cX0_actOn 36 = .ok (.getfield 9, 3) := by decide +kernel
theorem dX0_actOn_39 : decode cX0_actOn 39 = .ok (.iload_n 2, 1) := by decide +kernel
theorem dX0_actOn_40 : decode cX0_actOn 40 = .ok (.iaload, 1) := by decide +kernel
theorem dX0_actOn_41 : decode cX0_actOn 41 = .ok (.if_icmp .lt 5, 3) := by decide +kernel
theorem dX0_actOn_44 : decode cX0_actOn 44 = .ok (.iload_n 3, 1) := by decide +kernel
theorem dX0_actOn_45 : decode cX0_actOn 45 = .ok (.istore_n 2, 1) := by decide +kernel
theorem dX0_actOn_46 : decode cX0_actOn 46 = .ok (.iinc 3 1, 3) := by decide +kernel
theorem dX0_actOn_49 : decode cX0_actOn 49 = .ok (.goto (-44), 3) := by decide +kernel
theorem dX0_actOn_52 : decode cX0_actOn 52 = .ok (.iload_n 2, 1) := by decide +kernel
theorem dX0_actOn_53 : decode cX0_actOn 53 = .ok (.ireturn, 1) := by decide +kernel
theorem dX0_gradesOn_0 : decode cX0_gradesOn 0 = .ok (.aload_n 0, 1) := by decide +kernel
theorem dX0_gradesOn_1 : decode cX0_gradesOn 1 = .ok (.iload_n 1, 1) := by decide +kernel
theorem dX0_gradesOn_2 : decode cX0_gradesOn 2 = .ok (.invokevirtual 58, 3) := by decide +kernel
theorem dX0_gradesOn_5 : decode cX0_gradesOn 5 = .ok (.istore_n 2, 1) := by decide +kernel
theorem dX0_gradesOn_6 : decode cX0_gradesOn 6 = .ok (.iconst 0, 1) := by decide +kernel
theorem dX0_gradesOn_7 : decode cX0_gradesOn 7 = .ok (.istore_n 3, 1) := by decide +kernel
theorem dX0_gradesOn_8 : decode cX0_gradesOn 8 = .ok (.iconst 0, 1) := by decide +kernel
theorem dX0_gradesOn_9 : decode cX0_gradesOn 9 = .ok (.istore 4, 2) := by decide +kernel
theorem dX0_gradesOn_11 : decode cX0_gradesOn 11 = .ok (.iload_n 2, 1) := by decide +kernel
theorem dX0_gradesOn_12 : decode cX0_gradesOn 12 = .ok (.bipush (-6), 2) := by decide +kernel
theorem dX0_gradesOn_14 : decode cX0_gradesOn 14 = .ok (.if_icmp .eq 33, 3) := by decide +kernel
theorem dX0_gradesOn_17 : decode cX0_gradesOn 17 = .ok (.iload 4, 2) := by decide +kernel
theorem dX0_gradesOn_19 : decode cX0_gradesOn 19 = .ok (.aload_n 0, 1) := by decide +kernel
theorem dX0_gradesOn_20 : decode cX0_gradesOn 20 = .ok (.getfield 15, 3) := by decide +kernel
theorem dX0_gradesOn_23 : decode cX0_gradesOn 23 = .ok (.iload_n 2, 1) := by decide +kernel
theorem dX0_gradesOn_24 : decode cX0_gradesOn 24 = .ok (.iaload, 1) := by decide +kernel
theorem dX0_gradesOn_25 : decode cX0_gradesOn 25 = .ok (.if_icmp .ge 22, 3) := by decide +kernel
theorem dX0_gradesOn_28 : decode cX0_gradesOn 28 = .ok (.aload_n 0, 1) := by decide +kernel
theorem dX0_gradesOn_29 : decode cX0_gradesOn 29 = .ok (.iload_n 2, 1) := by decide +kernel
theorem dX0_gradesOn_30 : decode cX0_gradesOn 30 = .ok (.iload 4, 2) := by decide +kernel
theorem dX0_gradesOn_32 : decode cX0_gradesOn 32 = .ok (.invokevirtual 61, 3) := by decide +kernel
theorem dX0_gradesOn_35 : decode cX0_gradesOn 35 = .ok (.ifCond .eq 6, 3) := by decide +kernel
theorem dX0_gradesOn_38 : decode cX0_gradesOn 38 = .ok (.iinc 3 1, 3) := by decide +kernel
theorem dX0_gradesOn_41 : decode cX0_gradesOn 41 = .ok (.iinc 4 1, 3) := by decide +kernel
theorem dX0_gradesOn_44 : decode cX0_gradesOn 44 = .ok (.goto (-33), 3) := by decide +kernel
theorem dX0_gradesOn_47 : decode cX0_gradesOn 47 = .ok (.iload_n 3, 1) := by decide +kernel
theorem dX0_gradesOn_48 : decode cX0_gradesOn 48 = .ok (.ireturn, 1) := by decide +kernel
theorem dX0_gradeAt_0 : decode cX0_gradeAt 0 = .ok (.aload_n 0, 1) := by decide +kernel
theorem dX0_gradeAt_1 : decode cX0_gradeAt 1 = .ok (.iload_n 1, 1) := by decide +kernel
theorem dX0_gradeAt_2 : decode cX0_gradeAt 2 = .ok (.invokevirtual 58, 3) := by decide +kernel
theorem dX0_gradeAt_5 : decode cX0_gradeAt 5 = .ok (.istore_n 3, 1) := by decide +kernel
theorem dX0_gradeAt_6 : decode cX0_gradeAt 6 = .ok (.iconst 0, 1) := by decide +kernel
theorem dX0_gradeAt_7 : decode cX0_gradeAt 7 = .ok (.istore 4, 2) := by decide +kernel
theorem dX0_gradeAt_9 : decode cX0_gradeAt 9 = .ok (.iconst 0, 1) := by decide +kernel
theorem dX0_gradeAt_10 : decode cX0_gradeAt 10 = .ok (.istore 5, 2) := by decide +kernel
theorem dX0_gradeAt_12 : decode cX0_gradeAt 12 = .ok (.iload_n 3, 1) := by decide +kernel
theorem dX0_gradeAt_13 : decode cX0_gradeAt 13 = .ok (.bipush (-6), 2) := by decide +kernel
theorem dX0_gradeAt_15 : decode cX0_gradeAt 15 = .ok (.if_icmp .eq 52, 3) := by decide +kernel
theorem dX0_gradeAt_18 : decode cX0_gradeAt 18 = .ok (.iload 5, 2) := by decide +kernel
theorem dX0_gradeAt_20 : decode cX0_gradeAt 20 = .ok (.aload_n 0, 1) := by decide +kernel
theorem dX0_gradeAt_21 : decode cX0_gradeAt 21 = .ok (.getfield 15, 3) := by decide +kernel
theorem dX0_gradeAt_24 : decode cX0_gradeAt 24 = .ok (.iload_n 3, 1) := by decide +kernel
theorem dX0_gradeAt_25 : decode cX0_gradeAt 25 = .ok (.iaload, 1) := by decide +kernel
theorem dX0_gradeAt_26 : decode cX0_gradeAt 26 = .ok (.if_icmp .ge 41, 3) := by decide +kernel
theorem dX0_gradeAt_29 : decode cX0_gradeAt 29 = .ok (.aload_n 0, 1) := by decide +kernel
theorem dX0_gradeAt_30 : decode cX0_gradeAt 30 = .ok (.iload_n 3, 1) := by decide +kernel
theorem dX0_gradeAt_31 : decode cX0_gradeAt 31 = .ok (.iload 5, 2) := by decide +kernel
theorem dX0_gradeAt_33 : decode cX0_gradeAt 33 = .ok (.invokevirtual 61, 3) := by decide +kernel
theorem dX0_gradeAt_36 : decode cX0_gradeAt 36 = .ok (.ifCond .eq 25, 3) := by decide +kernel
theorem dX0_gradeAt_39 : decode cX0_gradeAt 39 = .ok (.iload 4, 2) := by decide +kernel
theorem dX0_gradeAt_41 : decode cX0_gradeAt 41 = .ok (.iload_n 2, 1) := by decide +kernel
theorem dX0_gradeAt_42 : decode cX0_gradeAt 42 = .ok (.if_icmp .ne 16, 3) := by decide +kernel
theorem dX0_gradeAt_45 : decode cX0_gradeAt 45 = .ok (.aload_n 0, 1) := by decide +kernel
theorem dX0_gradeAt_46 : decode cX0_gradeAt 46 = .ok (.getfield 18, 3) := by decide +kernel
theorem dX0_gradeAt_49 : decode cX0_gradeAt 49 = .ok (.iload_n 3, 1) := by decide +kernel
theorem dX0_gradeAt_50 : decode cX0_gradeAt 50 = .ok (.bipush 15, 2) := by decide +kernel
theorem dX0_gradeAt_52 : decode cX0_gradeAt 52 = .ok (.imul, 1) := by decide +kernel
theorem dX0_gradeAt_53 : decode cX0_gradeAt 53 = .ok (.iload 5, 2) := by decide +kernel
theorem dX0_gradeAt_55 : decode cX0_gradeAt 55 = .ok (.iadd, 1) := by decide +kernel
theorem dX0_gradeAt_56 : decode cX0_gradeAt 56 = .ok (.iaload, 1) := by decide +kernel
theorem dX0_gradeAt_57 : decode cX0_gradeAt 57 = .ok (.ireturn, 1) := by decide +kernel
theorem dX0_gradeAt_58 : decode cX0_gradeAt 58 = .ok (.iinc 4 1, 3) := by decide +kernel
theorem dX0_gradeAt_61 : decode cX0_gradeAt 61 = .ok (.iinc 5 1, 3) := by decide +kernel
theorem dX0_gradeAt_64 : decode cX0_gradeAt 64 = .ok (.goto (-52), 3) := by decide +kernel
theorem dX0_gradeAt_67 : decode cX0_gradeAt 67 = .ok (.bipush (-6), 2) := by decide +kernel
theorem dX0_gradeAt_69 : decode cX0_gradeAt 69 = .ok (.ireturn, 1) := by decide +kernel
theorem dX0_beginsGrade_0 : decode cX0_beginsGrade 0 = .ok (.iload_n 2, 1) := by decide +kernel
theorem dX0_beginsGrade_1 : decode cX0_beginsGrade 1 = .ok (.ifCond .eq 30, 3) := by decide +kernel
theorem dX0_beginsGrade_4 : decode cX0_beginsGrade 4 = .ok (.aload_n 0, 1) := by decide +kernel
theorem dX0_beginsGrade_5 : decode cX0_beginsGrade 5 = .ok (.getfield 18, 3) := by decide +kernel
theorem dX0_beginsGrade_8 : decode cX0_beginsGrade 8 = .ok (.iload_n 1, 1) := by decide +kernel
theorem dX0_beginsGrade_9 : decode cX0_beginsGrade 9 = .ok (.bipush 15, 2) := by decide +kernel
theorem dX0_beginsGrade_11 : decode cX0_beginsGrade 11 = .ok (.imul, 1) := by decide +kernel
theorem dX0_beginsGrade_12 : decode cX0_beginsGrade 12 = .ok (.iload_n 2, 1) := by decide +kernel
theorem dX0_beginsGrade_13 : decode cX0_beginsGrade 13 = .ok (.iadd, 1) := by decide +kernel
theorem dX0_beginsGrade_14 : decode cX0_beginsGrade 14 = .ok (.iaload, 1) := by decide +kernel
theorem dX0_beginsGrade_15 : decode cX0_beginsGrade 15 = .ok (.aload_n 0, 1) := by decide +kernel
theorem dX0_beginsGrade_16 : decode cX0_beginsGrade 16 = .ok (.getfield 18, 3) := by decide +kernel
theorem dX0_beginsGrade_19 : decode cX0_beginsGrade 19 = .ok (.iload_n 1, 1) := by decide +kernel
theorem dX0_beginsGrade_20 : decode cX0_beginsGrade 20 = .ok (.bipush 15, 2) := by decide +kernel
theorem dX0_beginsGrade_22 : decode cX0_beginsGrade 22 = .ok (.imul, 1) := by decide +kernel
theorem dX0_beginsGrade_23 : decode cX0_beginsGrade 23 = .ok (.iload_n 2, 1) := by decide +kernel
theorem dX0_beginsGrade_24 : decode cX0_beginsGrade 24 = .ok (.iadd, 1) := by decide +kernel
theorem dX0_beginsGrade_25 : decode cX0_beginsGrade 25 = .ok (.iconst 1, 1) := by decide +kernel
theorem dX0_beginsGrade_26 : decode cX0_beginsGrade 26 = .ok (.isub, 1) := by decide +kernel
theorem dX0_beginsGrade_27 : decode cX0_beginsGrade 27 = .ok (.iaload, 1) := by decide +kernel
theorem dX0_beginsGrade_28 : decode cX0_beginsGrade 28 = .ok (.if_icmp .eq 7, 3) := by decide +kernel
theorem dX0_beginsGrade_31 : decode cX0_beginsGrade 31 = .ok (.iconst 1, 1) := by decide +kernel
theorem dX0_beginsGrade_32 : decode cX0_beginsGrade 32 = .ok (.goto 4, 3) := by decide +kernel
theorem dX0_beginsGrade_35 : decode cX0_beginsGrade 35 = .ok (.iconst 0, 1) := by decide +kernel
theorem dX0_beginsGrade_36 : decode cX0_beginsGrade 36 = .ok (.ireturn, 1) := by decide +kernel
theorem dX0_brandOn_0 : decode cX0_brandOn 0 = .ok (.aload_n 0, 1) := by decide +kernel
theorem dX0_brandOn_1 : decode cX0_brandOn 1 = .ok (.iload_n 1, 1) := by decide +kernel
theorem dX0_brandOn_2 : decode cX0_brandOn 2 = .ok (.invokevirtual 58, 3) := by decide +kernel
theorem dX0_brandOn_5 : decode cX0_brandOn 5 = .ok (.istore_n 3, 1) := by decide +kernel
theorem dX0_brandOn_6 : decode cX0_brandOn 6 = .ok (.iconst 0, 1) := by decide +kernel
theorem dX0_brandOn_7 : decode cX0_brandOn 7 = .ok (.istore 4, 2) := by decide +kernel
theorem dX0_brandOn_9 : decode cX0_brandOn 9 = .ok (.iconst 0, 1) := by decide +kernel
theorem dX0_brandOn_10 : decode cX0_brandOn 10 = .ok (.istore 5, 2) := by decide +kernel
theorem dX0_brandOn_12 : decode cX0_brandOn 12 = .ok (.iload_n 3, 1) := by decide +kernel
theorem dX0_brandOn_13 : decode cX0_brandOn 13 = .ok (.bipush (-6), 2) := by decide +kernel
theorem dX0_brandOn_15 : decode cX0_brandOn 15 = .ok (.if_icmp .eq 98, 3) := by decide +kernel
theorem dX0_brandOn_18 : decode cX0_brandOn 18 = .ok (.iload 5, 2) := by decide +kernel
theorem dX0_brandOn_20 : decode cX0_brandOn 20 = .ok (.aload_n 0, 1) := by decide +kernel
theorem dX0_brandOn_21 : decode cX0_brandOn 21 = .ok (.getfield 15, 3) := by decide +kernel
theorem dX0_brandOn_24 : decode cX0_brandOn 24 = .ok (.iload_n 3, 1) := by decide +kernel
theorem dX0_brandOn_25 : decode cX0_brandOn 25 = .ok (.iaload, 1) := by decide +kernel
theorem dX0_brandOn_26 : decode cX0_brandOn 26 = .ok (.if_icmp .ge 87, 3) := by decide +kernel
theorem dX0_brandOn_29 : decode cX0_brandOn 29 = .ok (.iload_n 3, 1) := by decide +kernel
theorem dX0_brandOn_30 : decode cX0_brandOn 30 = .ok (.bipush 15, 2) := by decide +kernel
theorem dX0_brandOn_32 : decode cX0_brandOn 32 = .ok (.imul, 1) := by decide +kernel
theorem dX0_brandOn_33 : decode cX0_brandOn 33 = .ok (.iload 5, 2) := by decide +kernel
theorem dX0_brandOn_35 : decode cX0_brandOn 35 = .ok (.iadd, 1) := by decide +kernel
theorem dX0_brandOn_36 : decode cX0_brandOn 36 = .ok (.istore 6, 2) := by decide +kernel
theorem dX0_brandOn_38 : decode cX0_brandOn 38 = .ok (.aload_n 0, 1) := by decide +kernel
theorem dX0_brandOn_39 : decode cX0_brandOn 39 = .ok (.iload_n 3, 1) := by decide +kernel
theorem dX0_brandOn_40 : decode cX0_brandOn 40 = .ok (.iload 5, 2) := by decide +kernel
theorem dX0_brandOn_42 : decode cX0_brandOn 42 = .ok (.invokevirtual 61, 3) := by decide +kernel
theorem dX0_brandOn_45 : decode cX0_brandOn 45 = .ok (.ifCond .eq 21, 3) := by decide +kernel
theorem dX0_brandOn_48 : decode cX0_brandOn 48 = .ok (.iload 4, 2) := by decide +kernel
theorem dX0_brandOn_50 : decode cX0_brandOn 50 = .ok (.ifCond .eq 13, 3) := by decide +kernel
theorem dX0_brandOn_53 : decode cX0_brandOn 53 = .ok (.aload_n 0, 1) := by decide +kernel
theorem dX0_brandOn_54 : decode cX0_brandOn 54 = .ok (.getfield 18, 3) := by decide +kernel
theorem dX0_brandOn_57 : decode cX0_brandOn 57 = .ok (.iload 6, 2) := by decide +kernel
theorem dX0_brandOn_59 : decode cX0_brandOn 59 = .ok (.iconst 1, 1) := by decide +kernel
theorem dX0_brandOn_60 : decode cX0_brandOn 60 = .ok (.isub, 1) := by decide +kernel
theorem dX0_brandOn_61 : decode cX0_brandOn 61 = .ok (.iaload, 1) := by decide +kernel
theorem dX0_brandOn_62 : decode cX0_brandOn 62 = .ok (.ireturn, 1) := by decide +kernel
theorem dX0_brandOn_63 : decode cX0_brandOn 63 = .ok (.iconst 1, 1) := by decide +kernel
theorem dX0_brandOn_64 : decode cX0_brandOn 64 = .ok (.istore 4, 2) := by decide +kernel
theorem dX0_brandOn_66 : decode cX0_brandOn 66 = .ok (.iload 4, 2) := by decide +kernel
theorem dX0_brandOn_68 : decode cX0_brandOn 68 = .ok (.ifCond .eq 36, 3) := by decide +kernel
theorem dX0_brandOn_71 : decode cX0_brandOn 71 = .ok (.aload_n 0, 1) := by decide +kernel
theorem dX0_brandOn_72 : decode cX0_brandOn 72 = .ok (.getfield 24, 3) := by decide +kernel
theorem dX0_brandOn_75 : decode cX0_brandOn 75 = .ok (.iload 6, 2) := by decide +kernel
theorem dX0_brandOn_77 : decode cX0_brandOn 77 = .ok (.iaload, 1) := by decide +kernel
theorem dX0_brandOn_78 : decode cX0_brandOn 78 = .ok (.aload_n 2, 1) := by decide +kernel
theorem dX0_brandOn_79 : decode cX0_brandOn 79 = .ok (.aload_n 0, 1) := by decide +kernel
theorem dX0_brandOn_80 : decode cX0_brandOn 80 = .ok (.getfield 21, 3) := by decide +kernel
theorem dX0_brandOn_83 : decode cX0_brandOn 83 = .ok (.iload 6, 2) := by decide +kernel
theorem dX0_brandOn_85 : decode cX0_brandOn 85 = .ok (.iaload, 1) := by decide +kernel
theorem dX0_brandOn_86 : decode cX0_brandOn 86 = .ok (.iaload, 1) := by decide +kernel
theorem dX0_brandOn_87 : decode cX0_brandOn 87 = .ok (.aload_n 0, 1) := by decide +kernel
theorem dX0_brandOn_88 : decode cX0_brandOn 88 = .ok (.getfield 27, 3) := by decide +kernel
theorem dX0_brandOn_91 : decode cX0_brandOn 91 = .ok (.iload 6, 2) := by decide +kernel
theorem dX0_brandOn_93 : decode cX0_brandOn 93 = .ok (.iaload, 1) := by decide +kernel
theorem dX0_brandOn_94 : decode cX0_brandOn 94 = .ok (.invokestatic 65, 3) := by decide +kernel
theorem dX0_brandOn_97 : decode cX0_brandOn 97 = .ok (.ifCond .eq 7, 3) := by decide +kernel
theorem dX0_brandOn_100 : decode cX0_brandOn 100 = .ok (.iconst 1, 1) := by decide +kernel
theorem dX0_brandOn_101 : decode cX0_brandOn 101 = .ok (.goto 4, 3) := by decide +kernel
theorem dX0_brandOn_104 : decode cX0_brandOn 104 = .ok (.iconst 0, 1) := by decide +kernel
theorem dX0_brandOn_105 : decode cX0_brandOn 105 = .ok (.istore 4, 2) := by decide +kernel
theorem dX0_brandOn_107 : decode cX0_brandOn 107 = .ok (.iinc 5 1, 3) := by decide +kernel
theorem dX0_brandOn_110 : decode cX0_brandOn 110 = .ok (.goto (-98), 3) := by decide +kernel
theorem dX0_brandOn_113 : decode cX0_brandOn 113 = .ok (.iload 4, 2) := by decide +kernel
theorem dX0_brandOn_115 : decode cX0_brandOn 115 = .ok (.ifCond .eq 24, 3) := by decide +kernel
theorem dX0_brandOn_118 : decode cX0_brandOn 118 = .ok (.aload_n 0, 1) := by decide +kernel
theorem dX0_brandOn_119 : decode cX0_brandOn 119 = .ok (.getfield 18, 3) := by decide +kernel
theorem dX0_brandOn_122 : decode cX0_brandOn 122 = .ok (.iload_n 3, 1) := by decide +kernel
theorem dX0_brandOn_123 : decode cX0_brandOn 123 = .ok (.bipush 15, 2) := by decide +kernel
theorem dX0_brandOn_125 : decode cX0_brandOn 125 = .ok (.imul, 1) := by decide +kernel
theorem dX0_brandOn_126 : decode cX0_brandOn 126 = .ok (.aload_n 0, 1) := by decide +kernel
theorem dX0_brandOn_127 : decode cX0_brandOn 127 = .ok (.getfield 15, 3) := by decide +kernel
theorem dX0_brandOn_130 : decode cX0_brandOn 130 = .ok (.iload_n 3, 1) := by decide +kernel
theorem dX0_brandOn_131 : decode cX0_brandOn 131 = .ok (.iaload, 1) := by decide +kernel
theorem dX0_brandOn_132 : decode cX0_brandOn 132 = .ok (.iadd, 1) := by decide +kernel
theorem dX0_brandOn_133 : decode cX0_brandOn 133 = .ok (.iconst 1, 1) := by decide +kernel
theorem dX0_brandOn_134 : decode cX0_brandOn 134 = .ok (.isub, 1) := by decide +kernel
theorem dX0_brandOn_135 : decode cX0_brandOn 135 = .ok (.iaload, 1) := by decide +kernel
theorem dX0_brandOn_136 : decode cX0_brandOn 136 = .ok (.goto 5, 3) := by decide +kernel
theorem dX0_brandOn_139 : decode cX0_brandOn 139 = .ok (.bipush (-6), 2) := by decide +kernel
theorem dX0_brandOn_141 : decode cX0_brandOn 141 = .ok (.ireturn, 1) := by decide +kernel
theorem dX0_holds_0 : decode cX0_holds 0 = .ok (.iload_n 0, 1) := by decide +kernel
theorem dX0_holds_1 : decode cX0_holds 1 = .ok (.bipush 60, 2) := by decide +kernel
theorem dX0_holds_3 : decode cX0_holds 3 = .ok (.if_icmp .ne 14, 3) := by decide +kernel
theorem dX0_holds_6 : decode cX0_holds 6 = .ok (.iload_n 1, 1) := by decide +kernel
theorem dX0_holds_7 : decode cX0_holds 7 = .ok (.iload_n 2, 1) := by decide +kernel
theorem dX0_holds_8 : decode cX0_holds 8 = .ok (.if_icmp .ge 7, 3) := by decide +kernel
theorem dX0_holds_11 : decode cX0_holds 11 = .ok (.iconst 1, 1) := by decide +kernel
theorem dX0_holds_12 : decode cX0_holds 12 = .ok (.goto 4, 3) := by decide +kernel
theorem dX0_holds_15 : decode cX0_holds 15 = .ok (.iconst 0, 1) := by decide +kernel
theorem dX0_holds_16 : decode cX0_holds 16 = .ok (.ireturn, 1) := by decide +kernel
theorem dX0_holds_17 : decode cX0_holds 17 = .ok (.iload_n 0, 1) := by decide +kernel
theorem dX0_holds_18 : decode cX0_holds 18 = .ok (.bipush 62, 2) := by decide +kernel
theorem dX0_holds_20 : decode cX0_holds 20 = .ok (.if_icmp .ne 16, 3) := by decide +kernel
theorem dX0_holds_23 : decode cX0_holds 23 = .ok (.iload_n 1, 1) := by decide +kernel
theorem dX0_holds_24 : decode cX0_holds 24 = .ok (.iload_n 2, 1) := by decide +kernel
theorem dX0_holds_25 : decode cX0_holds 25 = .ok (.if_icmp .le 7, 3) := by decide +kernel
theorem dX0_holds_28 : decode cX0_holds 28 = .ok (.iconst 1, 1) := by decide +kernel
theorem dX0_holds_29 : decode cX0_holds 29 = .ok (.goto 17, 3) := by decide +kernel
theorem dX0_holds_32 : decode cX0_holds 32 = .ok (.iconst 0, 1) := by decide +kernel
theorem dX0_holds_33 : decode cX0_holds 33 = .ok (.goto 13, 3) := by decide +kernel
theorem dX0_holds_36 : decode cX0_holds 36 = .ok (.iload_n 1, 1) := by decide +kernel
theorem dX0_holds_37 : decode cX0_holds 37 = .ok (.iload_n 2, 1) := by decide +kernel
theorem dX0_holds_38 : decode cX0_holds 38 = .ok (.if_icmp .ne 7, 3) := by decide +kernel
theorem dX0_holds_41 : decode cX0_holds 41 = .ok (.iconst 1, 1) := by decide +kernel
theorem dX0_holds_42 : decode cX0_holds 42 = .ok (.goto 4, 3) := by decide +kernel
theorem dX0_holds_45 : decode cX0_holds 45 = .ok (.iconst 0, 1) := by decide +kernel
theorem dX0_holds_46 : decode cX0_holds 46 = .ok (.ireturn, 1) := by decide +kernel
theorem dX1_init_0 : decode cX1_init 0 = .ok (.aload_n 0, 1) := by decide +kernel
theorem dX1_init_1 : decode cX1_init 1 = .ok (.invokespecial 3, 3) := by decide +kernel
theorem dX1_init_4 : decode cX1_init 4 = .ok (.aload_n 0, 1) := by decide +kernel
theorem dX1_init_5 : decode cX1_init 5 = .ok (.bipush 10, 2) := by decide +kernel
theorem dX1_init_7 : decode cX1_init 7 = .ok (.newarray .int, 2) := by decide +kernel
theorem dX1_init_9 : decode cX1_init 9 = .ok (.putfield 9, 3) := by decide +kernel
theorem dX1_init_12 : decode cX1_init 12 = .ok (.aload_n 0, 1) := by decide +kernel
theorem dX1_init_13 : decode cX1_init 13 = .ok (.bipush 10, 2) := by decide +kernel
theorem dX1_init_15 : decode cX1_init 15 = .ok (.newarray .int, 2) := by decide +kernel
theorem dX1_init_17 : decode cX1_init 17 = .ok (.putfield 15, 3) := by decide +kernel
theorem dX1_init_20 : decode cX1_init 20 = .ok (.aload_n 0, 1) := by decide +kernel
theorem dX1_init_21 : decode cX1_init 21 = .ok (.bipush 10, 2) := by decide +kernel
theorem dX1_init_23 : decode cX1_init 23 = .ok (.newarray .int, 2) := by decide +kernel
theorem dX1_init_25 : decode cX1_init 25 = .ok (.putfield 18, 3) := by decide +kernel
theorem dX1_init_28 : decode cX1_init 28 = .ok (.iconst 0, 1) := by decide +kernel
theorem dX1_init_29 : decode cX1_init 29 = .ok (.istore_n 1, 1) := by decide +kernel
theorem dX1_init_30 : decode cX1_init 30 = .ok (.iload_n 1, 1) := by decide +kernel
theorem dX1_init_31 : decode cX1_init 31 = .ok (.bipush 10, 2) := by decide +kernel
theorem dX1_init_33 : decode cX1_init 33 = .ok (.if_icmp .ge 16, 3) := by decide +kernel
theorem dX1_init_36 : decode cX1_init 36 = .ok (.aload_n 0, 1) := by decide +kernel
theorem dX1_init_37 : decode cX1_init 37 = .ok (.getfield 9, 3) := by decide +kernel
theorem dX1_init_40 : decode cX1_init 40 = .ok (.iload_n 1, 1) := by decide +kernel
theorem dX1_init_41 : decode cX1_init 41 = .ok (.iconst (-1), 1) := by decide +kernel
theorem dX1_init_42 : decode cX1_init 42 = .ok (.iastore, 1) := by decide +kernel
theorem dX1_init_43 : decode cX1_init 43 = .ok (.iinc 1 1, 3) := by decide +kernel
theorem dX1_init_46 : decode cX1_init 46 = .ok (.goto (-16), 3) := by decide +kernel
theorem dX1_init_49 : decode cX1_init 49 = .ok (.return_, 1) := by decide +kernel
theorem dX1_bind_0 : decode cX1_bind 0 = .ok (.aload_n 0, 1) := by decide +kernel
theorem dX1_bind_1 : decode cX1_bind 1 = .ok (.getfield 9, 3) := by decide +kernel
theorem dX1_bind_4 : decode cX1_bind 4 = .ok (.iload_n 1, 1) := by decide +kernel
theorem dX1_bind_5 : decode cX1_bind 5 = .ok (.iload_n 2, 1) := by decide +kernel
theorem dX1_bind_6 : decode cX1_bind 6 = .ok (.iastore, 1) := by decide +kernel
theorem dX1_bind_7 : decode cX1_bind 7 = .ok (.aload_n 0, 1) := by decide +kernel
theorem dX1_bind_8 : decode cX1_bind 8 = .ok (.getfield 15, 3) := by decide +kernel
theorem dX1_bind_11 : decode cX1_bind 11 = .ok (.iload_n 1, 1) := by decide +kernel
theorem dX1_bind_12 : decode cX1_bind 12 = .ok (.iload_n 3, 1) := by decide +kernel
theorem dX1_bind_13 : decode cX1_bind 13 = .ok (.iastore, 1) := by decide +kernel
theorem dX1_bind_14 : decode cX1_bind 14 = .ok (.aload_n 0, 1) := by decide +kernel
theorem dX1_bind_15 : decode cX1_bind 15 = .ok (.getfield 18, 3) := by decide +kernel
theorem dX1_bind_18 : decode cX1_bind 18 = .ok (.iload_n 1, 1) := by decide +kernel
theorem dX1_bind_19 : decode cX1_bind 19 = .ok (.iload 4, 2) := by decide +kernel
theorem dX1_bind_21 : decode cX1_bind 21 = .ok (.iastore, 1) := by decide +kernel
theorem dX1_bind_22 : decode cX1_bind 22 = .ok (.return_, 1) := by decide +kernel
theorem dX1_agreedAt_0 : decode cX1_agreedAt 0 = .ok (.aload_n 0, 1) := by decide +kernel
theorem dX1_agreedAt_1 : decode cX1_agreedAt 1 = .ok (.getfield 9, 3) := by decide +kernel
theorem dX1_agreedAt_4 : decode cX1_agreedAt 4 = .ok (.iload_n 1, 1) := by decide +kernel
theorem dX1_agreedAt_5 : decode cX1_agreedAt 5 = .ok (.iaload, 1) := by decide +kernel
theorem dX1_agreedAt_6 : decode cX1_agreedAt 6 = .ok (.iload_n 2, 1) := by decide +kernel
theorem dX1_agreedAt_7 : decode cX1_agreedAt 7 = .ok (.if_icmp .ne 14, 3) := by decide +kernel
theorem dX1_agreedAt_10 : decode cX1_agreedAt 10 = .ok (.aload_n 0, 1) := by decide +kernel
theorem dX1_agreedAt_11 : decode cX1_agreedAt 11 = .ok (.getfield 15, 3) := by decide +kernel
theorem dX1_agreedAt_14 : decode cX1_agreedAt 14 = .ok (.iload_n 1, 1) := by decide +kernel
theorem dX1_agreedAt_15 : decode cX1_agreedAt 15 = .ok (.iaload, 1) := by decide +kernel
theorem dX1_agreedAt_16 : decode cX1_agreedAt 16 = .ok (.iload_n 3, 1) := by decide +kernel
theorem dX1_agreedAt_17 : decode cX1_agreedAt 17 = .ok (.imul, 1) := by decide +kernel
theorem dX1_agreedAt_18 : decode cX1_agreedAt 18 = .ok (.goto 4, 3) := by decide +kernel
theorem dX1_agreedAt_21 : decode cX1_agreedAt 21 = .ok (.iconst 0, 1) := by decide +kernel
theorem dX1_agreedAt_22 : decode cX1_agreedAt 22 = .ok (.ireturn, 1) := by decide +kernel
theorem dX2_init_0 : decode cX2_init 0 = .ok (.aload_n 0, 1) := by decide +kernel
theorem dX2_init_1 : decode cX2_init 1 = .ok (.invokespecial 3, 3) := by decide +kernel
theorem dX2_init_4 : decode cX2_init 4 = .ok (.return_, 1) := by decide +kernel
theorem dX2_start_0 : decode cX2_start 0 = .ok (.aload_n 0, 1) := by decide +kernel
theorem dX2_start_1 : decode cX2_start 1 = .ok (.iload_n 1, 1) := by decide +kernel
theorem dX2_start_2 : decode cX2_start 2 = .ok (.putfield 9, 3) := by decide +kernel
theorem dX2_start_5 : decode cX2_start 5 = .ok (.aload_n 0, 1) := by decide +kernel
theorem dX2_start_6 : decode cX2_start 6 = .ok (.iconst 0, 1) := by decide +kernel
theorem dX2_start_7 : decode cX2_start 7 = .ok (.putfield 15, 3) := by decide +kernel
theorem dX2_start_10 : decode cX2_start 10 = .ok (.aload_n 0, 1) := by decide +kernel
theorem dX2_start_11 : decode cX2_start 11 = .ok (.bipush (-6), 2) := by decide +kernel
theorem dX2_start_13 : decode cX2_start 13 = .ok (.putfield 18, 3) := by decide +kernel
theorem dX2_start_16 : decode cX2_start 16 = .ok (.return_, 1) := by decide +kernel
theorem dX2_empty_0 : decode cX2_empty 0 = .ok (.aload_n 0, 1) := by decide +kernel
theorem dX2_empty_1 : decode cX2_empty 1 = .ok (.aload_n 0, 1) := by decide +kernel
theorem dX2_empty_2 : decode cX2_empty 2 = .ok (.getfield 18, 3) := by decide +kernel
theorem dX2_empty_5 : decode cX2_empty 5 = .ok (.putfield 21, 3) := by decide +kernel
theorem dX2_empty_8 : decode cX2_empty 8 = .ok (.aload_n 0, 1) := by decide +kernel
theorem dX2_empty_9 : decode cX2_empty 9 = .ok (.aload_n 0, 1) := by decide +kernel
theorem dX2_empty_10 : decode cX2_empty 10 = .ok (.getfield 24, 3) := by decide +kernel
theorem dX2_empty_13 : decode cX2_empty 13 = .ok (.putfield 27, 3) := by decide +kernel
theorem dX2_empty_16 : decode cX2_empty 16 = .ok (.aload_n 0, 1) := by decide +kernel
theorem dX2_empty_17 : decode cX2_empty 17 = .ok (.aload_n 0, 1) := by decide +kernel
theorem dX2_empty_18 : decode cX2_empty 18 = .ok (.getfield 30, 3) := by decide +kernel
theorem dX2_empty_21 : decode cX2_empty 21 = .ok (.putfield 33, 3) := by decide +kernel
theorem dX2_empty_24 : decode cX2_empty 24 = .ok (.aload_n 0, 1) := by decide +kernel
theorem dX2_empty_25 : decode cX2_empty 25 = .ok (.iconst 0, 1) := by decide +kernel
theorem dX2_empty_26 : decode cX2_empty 26 = .ok (.putfield 18, 3) := by decide +kernel
theorem dX2_empty_29 : decode cX2_empty 29 = .ok (.aload_n 0, 1) := by decide +kernel
theorem dX2_empty_30 : decode cX2_empty 30 = .ok (.iconst 0, 1) := by decide +kernel
theorem dX2_empty_31 : decode cX2_empty 31 = .ok (.putfield 24, 3) := by decide +kernel
theorem dX2_empty_34 : decode cX2_empty 34 = .ok (.aload_n 0, 1) := by decide +kernel
theorem dX2_empty_35 : decode cX2_empty 35 = .ok (.bipush 9, 2) := by decide +kernel
theorem dX2_empty_37 : decode cX2_empty 37 = .ok (.putfield 30, 3) := by decide +kernel
theorem dX2_empty_40 : decode cX2_empty 40 = .ok (.aload_n 0, 1) := by decide +kernel
theorem dX2_empty_41 : decode cX2_empty 41 = .ok (.iconst 0, 1) := by decide +kernel
theorem dX2_empty_42 : decode cX2_empty 42 = .ok (.putfield 36, 3) := by decide +kernel
theorem dX2_empty_45 : decode cX2_empty 45 = .ok (.return_, 1) := by decide +kernel
theorem dX2_take_0 : decode cX2_take 0 = .ok (.aload_n 0, 1) := by decide +kernel
theorem dX2_take_1 : decode cX2_take 1 = .ok (.iload_n 1, 1) := by decide +kernel
theorem dX2_take_2 : decode cX2_take 2 = .ok (.putfield 18, 3) := by decide +kernel
theorem dX2_take_5 : decode cX2_take 5 = .ok (.aload_n 0, 1) := by decide +kernel
theorem dX2_take_6 : decode cX2_take 6 = .ok (.aload_n 0, 1) := by decide +kernel
theorem dX2_take_7 : decode cX2_take 7 = .ok (.getfield 24, 3) := by decide +kernel
theorem dX2_take_10 : decode cX2_take 10 = .ok (.iload_n 2, 1) := by decide +kernel
theorem dX2_take_11 : decode cX2_take 11 = .ok (.invokestatic 39, 3) := by decide +kernel
theorem dX2_take_14 : decode cX2_take 14 = .ok (.putfield 24, 3) := by decide +kernel
theorem dX2_take_17 : decode cX2_take 17 = .ok (.aload_n 0, 1) := by decide +kernel
theorem dX2_take_18 : decode cX2_take 18 = .ok (.aload_n 0, 1) := by decide +kernel
theorem dX2_take_19 : decode cX2_take 19 = .ok (.getfield 30, 3) := by decide +kernel
theorem dX2_take_22 : decode cX2_take 22 = .ok (.iload_n 3, 1) := by decide +kernel
theorem dX2_take_23 : decode cX2_take 23 = .ok (.invokestatic 45, 3) := by decide +kernel
theorem dX2_take_26 : decode cX2_take 26 = .ok (.putfield 30, 3) := by decide +kernel
theorem dX2_take_29 : decode cX2_take 29 = .ok (.aload_n 0, 1) := by decide +kernel
theorem dX2_take_30 : decode cX2_take 30 = .ok (.dup, 1) := by decide +kernel
theorem dX2_take_31 : decode cX2_take 31 = .ok (.getfield 36, 3) := by decide +kernel
theorem dX2_take_34 : decode cX2_take 34 = .ok (.iconst 1, 1) := by decide +kernel
theorem dX2_take_35 : decode cX2_take 35 = .ok (.iadd, 1) := by decide +kernel
theorem dX2_take_36 : decode cX2_take 36 = .ok (.putfield 36, 3) := by decide +kernel
theorem dX2_take_39 : decode cX2_take 39 = .ok (.return_, 1) := by decide +kernel
theorem dX2_compare_0 : decode cX2_compare 0 = .ok (.aload_n 0, 1) := by decide +kernel
theorem dX2_compare_1 : decode cX2_compare 1 = .ok (.aload_n 0, 1) := by decide +kernel
theorem dX2_compare_2 : decode cX2_compare 2 = .ok (.getfield 18, 3) := by decide +kernel
theorem dX2_compare_5 : decode cX2_compare 5 = .ok (.aload_n 0, 1) := by decide +kernel
theorem dX2_compare_6 : decode cX2_compare 6 = .ok (.getfield 21, 3) := by decide +kernel
theorem dX2_compare_9 : decode cX2_compare 9 = .ok (.if_icmp .ne 29, 3) := by decide +kernel
theorem dX2_compare_12 : decode cX2_compare 12 = .ok (.aload_n 0, 1) := by decide +kernel
theorem dX2_compare_13 : decode cX2_compare 13 = .ok (.getfield 24, 3) := by decide +kernel
theorem dX2_compare_16 : decode cX2_compare 16 = .ok (.aload_n 0, 1) := by decide +kernel
theorem dX2_compare_17 : decode cX2_compare 17 = .ok (.getfield 27, 3) := by decide +kernel
theorem dX2_compare_20 : decode cX2_compare 20 = .ok (.if_icmp .ne 18, 3) := by decide +kernel
theorem dX2_compare_23 : decode cX2_compare 23 = .ok (.aload_n 0, 1) := by decide +kernel
theorem dX2_compare_24 : decode cX2_compare 24 = .ok (.getfield 30, 3) := by decide +kernel
theorem dX2_compare_27 : decode cX2_compare 27 = .ok (.aload_n 0, 1) := by decide +kernel
theorem dX2_compare_28 : decode cX2_compare 28 = .ok (.getfield 33, 3) := by decide +kernel
theorem dX2_compare_31 : decode cX2_compare 31 = .ok (.if_icmp .ne 7, 3) := by decide +kernel
theorem dX2_compare_34 : decode cX2_compare 34 = .ok (.iconst 1, 1) := by decide +kernel
theorem dX2_compare_35 : decode cX2_compare 35 = .ok (.goto 4, 3) := by decide +kernel
theorem dX2_compare_38 : decode cX2_compare 38 = .ok (.iconst 0, 1) := by decide +kernel
theorem dX2_compare_39 : decode cX2_compare 39 = .ok (.putfield 48, 3) := by decide +kernel
theorem dX2_compare_42 : decode cX2_compare 42 = .ok (.return_, 1) := by decide +kernel
theorem dX3_init_0 : decode cX3_init 0 = .ok (.aload_n 0, 1) := by decide +kernel
theorem dX3_init_1 : decode cX3_init 1 = .ok (.invokespecial 3, 3) := by decide +kernel
theorem dX3_init_4 : decode cX3_init 4 = .ok (.aload_n 0, 1) := by decide +kernel
theorem dX3_init_5 : decode cX3_init 5 = .ok (.bipush 60, 2) := by decide +kernel
theorem dX3_init_7 : decode cX3_init 7 = .ok (.newarray .int, 2) := by decide +kernel
theorem dX3_init_9 : decode cX3_init 9 = .ok (.putfield 9, 3) := by decide +kernel
theorem dX3_init_12 : decode cX3_init 12 = .ok (.return_, 1) := by decide +kernel
theorem dX3_add_0 : decode cX3_add 0 = .ok (.aload_n 0, 1) := by decide +kernel
theorem dX3_add_1 : decode cX3_add 1 = .ok (.getfield 9, 3) := by decide +kernel
theorem dX3_add_4 : decode cX3_add 4 = .ok (.aload_n 0, 1) := by decide +kernel
theorem dX3_add_5 : decode cX3_add 5 = .ok (.getfield 15, 3) := by decide +kernel
theorem dX3_add_8 : decode cX3_add 8 = .ok (.iload_n 1, 1) := by decide +kernel
theorem dX3_add_9 : decode cX3_add 9 = .ok (.iastore, 1) := by decide +kernel
theorem dX3_add_10 : decode cX3_add 10 = .ok (.aload_n 0, 1) := by decide +kernel
theorem dX3_add_11 : decode cX3_add 11 = .ok (.dup, 1) := by decide +kernel
theorem dX3_add_12 : decode cX3_add 12 = .ok (.getfield 15, 3) := by decide +kernel
theorem dX3_add_15 : decode cX3_add 15 = .ok (.iconst 1, 1) := by decide +kernel
theorem dX3_add_16 : decode cX3_add 16 = .ok (.iadd, 1) := by decide +kernel
theorem dX3_add_17 : decode cX3_add 17 = .ok (.putfield 15, 3) := by decide +kernel
theorem dX3_add_20 : decode cX3_add 20 = .ok (.aload_n 0, 1) := by decide +kernel
theorem dX3_add_21 : decode cX3_add 21 = .ok (.getfield 15, 3) := by decide +kernel
theorem dX3_add_24 : decode cX3_add 24 = .ok (.ireturn, 1) := by decide +kernel
theorem dX3_clear_0 : decode cX3_clear 0 = .ok (.aload_n 0, 1) := by decide +kernel
theorem dX3_clear_1 : decode cX3_clear 1 = .ok (.getfield 15, 3) := by decide +kernel
theorem dX3_clear_4 : decode cX3_clear 4 = .ok (.istore_n 1, 1) := by decide +kernel
theorem dX3_clear_5 : decode cX3_clear 5 = .ok (.aload_n 0, 1) := by decide +kernel
theorem dX3_clear_6 : decode cX3_clear 6 = .ok (.iconst 0, 1) := by decide +kernel
theorem dX3_clear_7 : decode cX3_clear 7 = .ok (.putfield 15, 3) := by decide +kernel
theorem dX3_clear_10 : decode cX3_clear 10 = .ok (.iload_n 1, 1) := by decide +kernel
theorem dX3_clear_11 : decode cX3_clear 11 = .ok (.ireturn, 1) := by decide +kernel
theorem dX3_firstFault_0 : decode cX3_firstFault 0 = .ok (.iconst 0, 1) := by decide +kernel
theorem dX3_firstFault_1 : decode cX3_firstFault 1 = .ok (.istore_n 1, 1) := by decide +kernel
theorem dX3_firstFault_2 : decode cX3_firstFault 2 = .ok (.iconst 0, 1) := by decide +kernel
theorem dX3_firstFault_3 : decode cX3_firstFault 3 = .ok (.istore_n 2, 1) := by decide +kernel
theorem dX3_firstFault_4 : decode cX3_firstFault 4 = .ok (.iconst 0, 1) := by decide +kernel
theorem dX3_firstFault_5 : decode cX3_firstFault 5 = .ok (.istore_n 3, 1) := by decide +kernel
theorem dX3_firstFault_6 : decode cX3_firstFault 6 = .ok (.iload_n 3, 1) := by decide +kernel
theorem dX3_firstFault_7 : decode cX3_firstFault 7 = .ok (.aload_n 0, 1) := by decide +kernel
theorem dX3_firstFault_8 : decode cX3_firstFault 8 = .ok (.getfield 15, 3) := by decide +kernel
theorem dX3_firstFault_11 : decode cX3_firstFault 11 = .ok (.if_icmp .ge 51, 3) := by decide +kernel
theorem dX3_firstFault_14 : decode cX3_firstFault 14 = .ok (.iload_n 1, 1) := by decide +kernel
theorem dX3_firstFault_15 : decode cX3_firstFault 15 = .ok (.aload_n 0, 1) := by decide +kernel
theorem dX3_firstFault_16 : decode cX3_firstFault 16 = .ok (.getfield 9, 3) := by decide +kernel
theorem dX3_firstFault_19 : decode cX3_firstFault 19 = .ok (.iload_n 3, 1) := by decide +kernel
theorem dX3_firstFault_20 : decode cX3_firstFault 20 = .ok (.iaload, 1) := by decide +kernel
theorem dX3_firstFault_21 : decode cX3_firstFault 21 = .ok (.iload_n 2, 1) := by decide +kernel
theorem dX3_firstFault_22 : decode cX3_firstFault 22 = .ok (.invokestatic 19, 3) := by decide +kernel
theorem dX3_firstFault_25 : decode cX3_firstFault 25 = .ok (.istore 4, 2) := by decide +kernel
theorem dX3_firstFault_27 : decode cX3_firstFault 27 = .ok (.iload 4, 2) := by decide +kernel
theorem dX3_firstFault_29 : decode cX3_firstFault 29 = .ok (.iconst (-1), 1) := by decide +kernel
theorem dX3_firstFault_30 : decode cX3_firstFault 30 = .ok (.if_icmp .ne 5, 3) := by decide +kernel
theorem dX3_firstFault_33 : decode cX3_firstFault 33 = .ok (.iload_n 3, 1) := by decide +kernel
theorem dX3_firstFault_34 : decode cX3_firstFault 34 = .ok (.ireturn, 1) := by decide +kernel
theorem dX3_firstFault_35 : decode cX3_firstFault 35 = .ok (.iload_n 1, 1) := by decide +kernel
theorem dX3_firstFault_36 : decode cX3_firstFault 36 = .ok (.ifCond .ne 17, 3) := by decide +kernel
theorem dX3_firstFault_39 : decode cX3_firstFault 39 = .ok (.iload_n 2, 1) := by decide +kernel
theorem dX3_firstFault_40 : decode cX3_firstFault 40 = .ok (.iconst 1, 1) := by decide +kernel
theorem dX3_firstFault_41 : decode cX3_firstFault 41 = .ok (.aload_n 0, 1) := by decide +kernel
theorem dX3_firstFault_42 : decode cX3_firstFault 42 = .ok (.getfield 9, 3) := by decide +kernel
theorem dX3_firstFault_45 : decode cX3_firstFault 45 = .ok (.iload_n 3, 1) := by decide +kernel
theorem dX3_firstFault_46 : decode cX3_firstFault 46 = .ok (.iaload, 1) := by decide +kernel
theorem dX3_firstFault_47 : decode cX3_firstFault 47 = .ok (.invokestatic 23, 3) := by decide +kernel
theorem dX3_firstFault_50 : decode cX3_firstFault 50 = .ok (.ishl, 1) := by decide +kernel
theorem dX3_firstFault_51 : decode cX3_firstFault 51 = .ok (.ior, 1) := by decide +kernel
theorem dX3_firstFault_52 : decode cX3_firstFault 52 = .ok (.istore_n 2, 1) := by decide +kernel
theorem dX3_firstFault_53 : decode cX3_firstFault 53 = .ok (.iload 4, 2) := by decide +kernel
theorem dX3_firstFault_55 : decode cX3_firstFault 55 = .ok (.istore_n 1, 1) := by decide +kernel
theorem dX3_firstFault_56 : decode cX3_firstFault 56 = .ok (.iinc 3 1, 3) := by decide +kernel
theorem dX3_firstFault_59 : decode cX3_firstFault 59 = .ok (.goto (-53), 3) := by decide +kernel
theorem dX3_firstFault_62 : decode cX3_firstFault 62 = .ok (.iload_n 1, 1) := by decide +kernel
theorem dX3_firstFault_63 : decode cX3_firstFault 63 = .ok (.iconst 5, 1) := by decide +kernel
theorem dX3_firstFault_64 : decode cX3_firstFault 64 = .ok (.if_icmp .lt 8, 3) := by decide +kernel
theorem dX3_firstFault_67 : decode cX3_firstFault 67 = .ok (.bipush (-6), 2) := by decide +kernel
theorem dX3_firstFault_69 : decode cX3_firstFault 69 = .ok (.goto 7, 3) := by decide +kernel
theorem dX3_firstFault_72 : decode cX3_firstFault 72 = .ok (.aload_n 0, 1) := by decide +kernel
theorem dX3_firstFault_73 : decode cX3_firstFault 73 = .ok (.getfield 15, 3) := by decide +kernel
theorem dX3_firstFault_76 : decode cX3_firstFault 76 = .ok (.ireturn, 1) := by decide +kernel
theorem dX3_following_0 : decode cX3_following 0 = .ok (.iload_n 0, 1) := by decide +kernel
theorem dX3_following_1 : decode cX3_following 1 = .ok (.tableswitch 102 0 4 #[35, 49, 61, 76, 89], 35) := by decide +kernel
theorem dX3_following_36 : decode cX3_following 36 = .ok (.iload_n 1, 1) := by decide +kernel
theorem dX3_following_37 : decode cX3_following 37 = .ok (.iload_n 2, 1) := by decide +kernel
theorem dX3_following_38 : decode cX3_following 38 = .ok (.invokestatic 29, 3) := by decide +kernel
theorem dX3_following_41 : decode cX3_following 41 = .ok (.ifCond .eq 7, 3) := by decide +kernel
theorem dX3_following_44 : decode cX3_following 44 = .ok (.iconst 1, 1) := by decide +kernel
theorem dX3_following_45 : decode cX3_following 45 = .ok (.goto 4, 3) := by decide +kernel
theorem dX3_following_48 : decode cX3_following 48 = .ok (.iconst (-1), 1) := by decide +kernel
theorem dX3_following_49 : decode cX3_following 49 = .ok (.ireturn, 1) := by decide +kernel
theorem dX3_following_50 : decode cX3_following 50 = .ok (.iload_n 1, 1) := by decide +kernel
theorem dX3_following_51 : decode cX3_following 51 = .ok (.bipush 58, 2) := by decide +kernel
theorem dX3_following_53 : decode cX3_following 53 = .ok (.if_icmp .ne 7, 3) := by decide +kernel
theorem dX3_following_56 : decode cX3_following 56 = .ok (.iconst 2, 1) := by decide +kernel
theorem dX3_following_57 : decode cX3_following 57 = .ok (.goto 4, 3) := by decide +kernel
theorem dX3_following_60 : decode cX3_following 60 = .ok (.iconst (-1), 1) := by decide +kernel
theorem dX3_following_61 : decode cX3_following 61 = .ok (.ireturn, 1) := by decide +kernel
theorem dX3_following_62 : decode cX3_following 62 = .ok (.iload_n 1, 1) := by decide +kernel
theorem dX3_following_63 : decode cX3_following 63 = .ok (.invokestatic 33, 3) := by decide +kernel
theorem dX3_following_66 : decode cX3_following 66 = .ok (.bipush (-6), 2) := by decide +kernel
theorem dX3_following_68 : decode cX3_following 68 = .ok (.if_icmp .eq 7, 3) := by decide +kernel
theorem dX3_following_71 : decode cX3_following 71 = .ok (.iconst 3, 1) := by decide +kernel
theorem dX3_following_72 : decode cX3_following 72 = .ok (.goto 4, 3) := by decide +kernel
theorem dX3_following_75 : decode cX3_following 75 = .ok (.iconst (-1), 1) := by decide +kernel
theorem dX3_following_76 : decode cX3_following 76 = .ok (.ireturn, 1) := by decide +kernel
theorem dX3_following_77 : decode cX3_following 77 = .ok (.iload_n 1, 1) := by decide +kernel
theorem dX3_following_78 : decode cX3_following 78 = .ok (.invokestatic 36, 3) := by decide +kernel
theorem dX3_following_81 : decode cX3_following 81 = .ok (.ifCond .eq 7, 3) := by decide +kernel
theorem dX3_following_84 : decode cX3_following 84 = .ok (.iconst 4, 1) := by decide +kernel
theorem dX3_following_85 : decode cX3_following 85 = .ok (.goto 4, 3) := by decide +kernel
theorem dX3_following_88 : decode cX3_following 88 = .ok (.iconst (-1), 1) := by decide +kernel
theorem dX3_following_89 : decode cX3_following 89 = .ok (.ireturn, 1) := by decide +kernel
theorem dX3_following_90 : decode cX3_following 90 = .ok (.iload_n 1, 1) := by decide +kernel
theorem dX3_following_91 : decode cX3_following 91 = .ok (.invokestatic 40, 3) := by decide +kernel
theorem dX3_following_94 : decode cX3_following 94 = .ok (.ifCond .eq 7, 3) := by decide +kernel
theorem dX3_following_97 : decode cX3_following 97 = .ok (.iconst 5, 1) := by decide +kernel
theorem dX3_following_98 : decode cX3_following 98 = .ok (.goto 4, 3) := by decide +kernel
theorem dX3_following_101 : decode cX3_following 101 = .ok (.iconst (-1), 1) := by decide +kernel
theorem dX3_following_102 : decode cX3_following 102 = .ok (.ireturn, 1) := by decide +kernel
theorem dX3_following_103 : decode cX3_following 103 = .ok (.iload_n 0, 1) := by decide +kernel
theorem dX3_following_104 : decode cX3_following 104 = .ok (.iload_n 1, 1) := by decide +kernel
theorem dX3_following_105 : decode cX3_following 105 = .ok (.iload_n 2, 1) := by decide +kernel
theorem dX3_following_106 : decode cX3_following 106 = .ok (.invokestatic 43, 3) := by decide +kernel
theorem dX3_following_109 : decode cX3_following 109 = .ok (.ireturn, 1) := by decide +kernel
theorem dX3_isNewLetter_0 : decode cX3_isNewLetter 0 = .ok (.iload_n 0, 1) := by decide +kernel
theorem dX3_isNewLetter_1 : decode cX3_isNewLetter 1 = .ok (.invokestatic 23, 3) := by decide +kernel
theorem dX3_isNewLetter_4 : decode cX3_isNewLetter 4 = .ok (.istore_n 2, 1) := by decide +kernel
theorem dX3_isNewLetter_5 : decode cX3_isNewLetter 5 = .ok (.iload_n 2, 1) := by decide +kernel
theorem dX3_isNewLetter_6 : decode cX3_isNewLetter 6 = .ok (.bipush (-6), 2) := by decide +kernel
theorem dX3_isNewLetter_8 : decode cX3_isNewLetter 8 = .ok (.if_icmp .eq 15, 3) := by decide +kernel
theorem dX3_isNewLetter_11 : decode cX3_isNewLetter 11 = .ok (.iload_n 1, 1) := by decide +kernel
theorem dX3_isNewLetter_12 : decode cX3_isNewLetter 12 = .ok (.iload_n 2, 1) := by decide +kernel
theorem dX3_isNewLetter_13 : decode cX3_isNewLetter 13 = .ok (.ishr, 1) := by decide +kernel
theorem dX3_isNewLetter_14 : decode cX3_isNewLetter 14 = .ok (.iconst 1, 1) := by decide +kernel
theorem dX3_isNewLetter_15 : decode cX3_isNewLetter 15 = .ok (.iand, 1) := by decide +kernel
theorem dX3_isNewLetter_16 : decode cX3_isNewLetter 16 = .ok (.ifCond .ne 7, 3) := by decide +kernel
theorem dX3_isNewLetter_19 : decode cX3_isNewLetter 19 = .ok (.iconst 1, 1) := by decide +kernel
theorem dX3_isNewLetter_20 : decode cX3_isNewLetter 20 = .ok (.goto 4, 3) := by decide +kernel
theorem dX3_isNewLetter_23 : decode cX3_isNewLetter 23 = .ok (.iconst 0, 1) := by decide +kernel
theorem dX3_isNewLetter_24 : decode cX3_isNewLetter 24 = .ok (.ireturn, 1) := by decide +kernel
theorem dX3_behindDigit_0 : decode cX3_behindDigit 0 = .ok (.iload_n 1, 1) := by decide +kernel
theorem dX3_behindDigit_1 : decode cX3_behindDigit 1 = .ok (.bipush 44, 2) := by decide +kernel
theorem dX3_behindDigit_3 : decode cX3_behindDigit 3 = .ok (.if_icmp .ne 5, 3) := by decide +kernel
theorem dX3_behindDigit_6 : decode cX3_behindDigit 6 = .ok (.iconst 2, 1) := by decide +kernel
theorem dX3_behindDigit_7 : decode cX3_behindDigit 7 = .ok (.ireturn, 1) := by decide +kernel
theorem dX3_behindDigit_8 : decode cX3_behindDigit 8 = .ok (.iload_n 1, 1) := by decide +kernel
theorem dX3_behindDigit_9 : decode cX3_behindDigit 9 = .ok (.bipush 59, 2) := by decide +kernel
theorem dX3_behindDigit_11 : decode cX3_behindDigit 11 = .ok (.if_icmp .ne 15, 3) := by decide +kernel
theorem dX3_behindDigit_14 : decode cX3_behindDigit 14 = .ok (.iload_n 2, 1) := by decide +kernel
theorem dX3_behindDigit_15 : decode cX3_behindDigit 15 = .ok (.bipush 63, 2) := by decide +kernel
theorem dX3_behindDigit_17 : decode cX3_behindDigit 17 = .ok (.if_icmp .ne 7, 3) := by decide +kernel
theorem dX3_behindDigit_20 : decode cX3_behindDigit 20 = .ok (.iconst (-1), 1) := by decide +kernel
theorem dX3_behindDigit_21 : decode cX3_behindDigit 21 = .ok (.goto 4, 3) := by decide +kernel
theorem dX3_behindDigit_24 : decode cX3_behindDigit 24 = .ok (.iconst 0, 1) := by decide +kernel
theorem dX3_behindDigit_25 : decode cX3_behindDigit 25 = .ok (.ireturn, 1) := by decide +kernel
theorem dX3_behindDigit_26 : decode cX3_behindDigit 26 = .ok (.iload_n 1, 1) := by decide +kernel
theorem dX3_behindDigit_27 : decode cX3_behindDigit 27 = .ok (.invokestatic 40, 3) := by decide +kernel
theorem dX3_behindDigit_30 : decode cX3_behindDigit 30 = .ok (.ifCond .eq 15, 3) := by decide +kernel
theorem dX3_behindDigit_33 : decode cX3_behindDigit 33 = .ok (.iload_n 0, 1) := by decide +kernel
theorem dX3_behindDigit_34 : decode cX3_behindDigit 34 = .ok (.bipush 8, 2) := by decide +kernel
theorem dX3_behindDigit_36 : decode cX3_behindDigit 36 = .ok (.if_icmp .ge 9, 3) := by decide +kernel
theorem dX3_behindDigit_39 : decode cX3_behindDigit 39 = .ok (.iload_n 0, 1) := by decide +kernel
theorem dX3_behindDigit_40 : decode cX3_behindDigit 40 = .ok (.iconst 1, 1) := by decide +kernel
theorem dX3_behindDigit_41 : decode cX3_behindDigit 41 = .ok (.iadd, 1) := by decide +kernel
theorem dX3_behindDigit_42 : decode cX3_behindDigit 42 = .ok (.goto 4, 3) := by decide +kernel
theorem dX3_behindDigit_45 : decode cX3_behindDigit 45 = .ok (.iconst (-1), 1) := by decide +kernel
theorem dX3_behindDigit_46 : decode cX3_behindDigit 46 = .ok (.ireturn, 1) := by decide +kernel
theorem dX4_init_0 : decode cX4_init 0 = .ok (.aload_n 0, 1) := by decide +kernel
theorem dX4_init_1 : decode cX4_init 1 = .ok (.invokespecial 5, 3) := by decide +kernel
theorem dX4_init_4 : decode cX4_init 4 = .ok (.aload_n 0, 1) := by decide +kernel
theorem dX4_init_5 : decode cX4_init 5 = .ok (.iconst 4, 1) := by decide +kernel
theorem dX4_init_6 : decode cX4_init 6 = .ok (.newarray .int, 2) := by decide +kernel
theorem dX4_init_8 : decode cX4_init 8 = .ok (.putfield 11, 3) := by decide +kernel
theorem dX4_init_11 : decode cX4_init 11 = .ok (.aload_n 0, 1) := by decide +kernel
theorem dX4_init_12 : decode cX4_init 12 = .ok (.iconst 4, 1) := by decide +kernel
theorem dX4_init_13 : decode cX4_init 13 = .ok (.newarray .int, 2) := by decide +kernel
theorem dX4_init_15 : decode cX4_init 15 = .ok (.putfield 15, 3) := by decide +kernel
theorem dX4_init_18 : decode cX4_init 18 = .ok (.aload_n 0, 1) := by decide +kernel
theorem dX4_init_19 : decode cX4_init 19 = .ok (.iconst 4, 1) := by decide +kernel
theorem dX4_init_20 : decode cX4_init 20 = .ok (.newarray .int, 2) := by decide +kernel
theorem dX4_init_22 : decode cX4_init 22 = .ok (.putfield 18, 3) := by decide +kernel
theorem dX4_init_25 : decode cX4_init 25 = .ok (.aload_n 0, 1) := by decide +kernel
theorem dX4_init_26 : decode cX4_init 26 = .ok (.iconst 4, 1) := by decide +kernel
theorem dX4_init_27 : decode cX4_init 27 = .ok (.newarray .int, 2) := by decide +kernel
theorem dX4_init_29 : decode cX4_init 29 = .ok (.putfield 21, 3) := by decide +kernel
theorem dX4_init_32 : decode cX4_init 32 = .ok (.aload_n 0, 1) := by decide +kernel
theorem dX4_init_33 : decode cX4_init 33 = .ok (.sipush 2205, 3) := by decide +kernel
theorem dX4_init_36 : decode cX4_init 36 = .ok (.newarray .int, 2) := by decide +kernel
theorem dX4_init_38 : decode cX4_init 38 = .ok (.putfield 24, 3) := by decide +kernel
theorem dX4_init_41 : decode cX4_init 41 = .ok (.return_, 1) := by decide +kernel
theorem dX4_worth_0 : decode cX4_worth 0 = .ok (.aload_n 0, 1) := by decide +kernel
theorem dX4_worth_1 : decode cX4_worth 1 = .ok (.getfield 24, 3) := by decide +kernel
theorem dX4_worth_4 : decode cX4_worth 4 = .ok (.iload_n 1, 1) := by decide +kernel
theorem dX4_worth_5 : decode cX4_worth 5 = .ok (.sipush 441, 3) := by decide +kernel
theorem dX4_worth_8 : decode cX4_worth 8 = .ok (.imul, 1) := by decide +kernel
theorem dX4_worth_9 : decode cX4_worth 9 = .ok (.iload_n 2, 1) := by decide +kernel
theorem dX4_worth_10 : decode cX4_worth 10 = .ok (.bipush 21, 2) := by decide +kernel
theorem dX4_worth_12 : decode cX4_worth 12 = .ok (.imul, 1) := by decide +kernel
theorem dX4_worth_13 : decode cX4_worth 13 = .ok (.iadd, 1) := by decide +kernel
theorem dX4_worth_14 : decode cX4_worth 14 = .ok (.iload_n 3, 1) := by decide +kernel
theorem dX4_worth_15 : decode cX4_worth 15 = .ok (.iadd, 1) := by decide +kernel
theorem dX4_worth_16 : decode cX4_worth 16 = .ok (.iaload, 1) := by decide +kernel
theorem dX4_worth_17 : decode cX4_worth 17 = .ok (.ireturn, 1) := by decide +kernel
theorem dX4_plan_0 : decode cX4_plan 0 = .ok (.iconst 3, 1) := by decide +kernel
theorem dX4_plan_1 : decode cX4_plan 1 = .ok (.istore_n 3, 1) := by decide +kernel
theorem dX4_plan_2 : decode cX4_plan 2 = .ok (.iload_n 3, 1) := by decide +kernel
theorem dX4_plan_3 : decode cX4_plan 3 = .ok (.ifCond .lt 62, 3) := by decide +kernel
theorem dX4_plan_6 : decode cX4_plan 6 = .ok (.aload_n 0, 1) := by decide +kernel
theorem dX4_plan_7 : decode cX4_plan 7 = .ok (.getfield 24, 3) := by decide +kernel
theorem dX4_plan_10 : decode cX4_plan 10 = .ok (.iload_n 3, 1) := by decide +kernel
theorem dX4_plan_11 : decode cX4_plan 11 = .ok (.iconst 1, 1) := by decide +kernel
theorem dX4_plan_12 : decode cX4_plan 12 = .ok (.iadd, 1) := by decide +kernel
theorem dX4_plan_13 : decode cX4_plan 13 = .ok (.sipush 441, 3) := by decide +kernel
theorem dX4_plan_16 : decode cX4_plan 16 = .ok (.imul, 1) := by decide +kernel
theorem dX4_plan_17 : decode cX4_plan 17 = .ok (.aload_n 0, 1) := by decide +kernel
theorem dX4_plan_18 : decode cX4_plan 18 = .ok (.getfield 24, 3) := by decide +kernel
theorem dX4_plan_21 : decode cX4_plan 21 = .ok (.iload_n 3, 1) := by decide +kernel
theorem dX4_plan_22 : decode cX4_plan 22 = .ok (.sipush 441, 3) := by decide +kernel
theorem dX4_plan_25 : decode cX4_plan 25 = .ok (.imul, 1) := by decide +kernel
theorem dX4_plan_26 : decode cX4_plan 26 = .ok (.sipush 441, 3) := by decide +kernel
theorem dX4_plan_29 : decode cX4_plan 29 = .ok (.invokestatic 27, 3) := by decide +kernel
theorem dX4_plan_32 : decode cX4_plan 32 = .ok (.iconst 0, 1) := by decide +kernel
theorem dX4_plan_33 : decode cX4_plan 33 = .ok (.istore 4, 2) := by decide +kernel
theorem dX4_plan_35 : decode cX4_plan 35 = .ok (.iload 4, 2) := by decide +kernel
theorem dX4_plan_37 : decode cX4_plan 37 = .ok (.aload_n 0, 1) := by decide +kernel
theorem dX4_plan_38 : decode cX4_plan 38 = .ok (.getfield 15, 3) := by decide +kernel
theorem dX4_plan_41 : decode cX4_plan 41 = .ok (.iload_n 3, 1) := by decide +kernel
theorem dX4_plan_42 : decode cX4_plan 42 = .ok (.iaload, 1) := by decide +kernel
theorem dX4_plan_43 : decode cX4_plan 43 = .ok (.if_icmp .ge 16, 3) := by decide +kernel
theorem dX4_plan_46 : decode cX4_plan 46 = .ok (.aload_n 0, 1) := by decide +kernel
theorem dX4_plan_47 : decode cX4_plan 47 = .ok (.iload_n 3, 1) := by decide +kernel
theorem dX4_plan_48 : decode cX4_plan 48 = .ok (.iload_n 1, 1) := by decide +kernel
theorem dX4_plan_49 : decode cX4_plan 49 = .ok (.iload_n 2, 1) := by decide +kernel
theorem dX4_plan_50 : decode cX4_plan 50 = .ok (.invokevirtual 33, 3) := by decide +kernel
theorem dX4_plan_53 : decode cX4_plan 53 = .ok (.iinc 4 1, 3) := by decide +kernel
theorem dX4_plan_56 : decode cX4_plan 56 = .ok (.goto (-21), 3) := by decide +kernel
theorem dX4_plan_59 : decode cX4_plan 59 = .ok (.iinc 3 (-1), 3) := by decide +kernel
theorem dX4_plan_62 : decode cX4_plan 62 = .ok (.goto (-60), 3) := by decide +kernel
theorem dX4_plan_65 : decode cX4_plan 65 = .ok (.return_, 1) := by decide +kernel
theorem dX4_bearOneMore_0 : decode cX4_bearOneMore 0 = .ok (.iload_n 2, 1) := by decide +kernel
theorem dX4_bearOneMore_1 : decode cX4_bearOneMore 1 = .ok (.istore 4, 2) := by decide +kernel
theorem dX4_bearOneMore_3 : decode cX4_bearOneMore 3 = .ok (.iload 4, 2) := by decide +kernel
theorem dX4_bearOneMore_5 : decode cX4_bearOneMore 5 = .ok (.ifCond .lt 115, 3) := by decide +kernel
theorem dX4_bearOneMore_8 : decode cX4_bearOneMore 8 = .ok (.iload_n 3, 1) := by decide +kernel
theorem dX4_bearOneMore_9 : decode cX4_bearOneMore 9 = .ok (.istore 5, 2) := by decide +kernel
theorem dX4_bearOneMore_11 : decode cX4_bearOneMore 11 = .ok (.iload 5, 2) := by decide +kernel
theorem dX4_bearOneMore_13 : decode cX4_bearOneMore 13 = .ok (.ifCond .lt 101, 3) := by decide +kernel
theorem dX4_bearOneMore_16 : decode cX4_bearOneMore 16 = .ok (.aload_n 0, 1) := by decide +kernel
theorem dX4_bearOneMore_17 : decode cX4_bearOneMore 17 = .ok (.iload_n 1, 1) := by decide +kernel
theorem dX4_bearOneMore_18 : decode cX4_bearOneMore 18 = .ok (.iload 4, 2) := by decide +kernel
theorem dX4_bearOneMore_20 : decode cX4_bearOneMore 20 = .ok (.iload 5, 2) := by decide +kernel
theorem dX4_bearOneMore_22 : decode cX4_bearOneMore 22 = .ok (.invokevirtual 37, 3) := by decide +kernel
theorem dX4_bearOneMore_25 : decode cX4_bearOneMore 25 = .ok (.istore 6, 2) := by decide +kernel
theorem dX4_bearOneMore_27 : decode cX4_bearOneMore 27 = .ok (.iload 4, 2) := by decide +kernel
theorem dX4_bearOneMore_29 : decode cX4_bearOneMore 29 = .ok (.ifCond .le 28, 3) := by decide +kernel
theorem dX4_bearOneMore_32 : decode cX4_bearOneMore 32 = .ok (.iload 6, 2) := by decide +kernel
theorem dX4_bearOneMore_34 : decode cX4_bearOneMore 34 = .ok (.aload_n 0, 1) := by decide +kernel
theorem dX4_bearOneMore_35 : decode cX4_bearOneMore 35 = .ok (.iload_n 1, 1) := by decide +kernel
theorem dX4_bearOneMore_36 : decode cX4_bearOneMore 36 = .ok (.iload 4, 2) := by decide +kernel
theorem dX4_bearOneMore_38 : decode cX4_bearOneMore 38 = .ok (.iconst 1, 1) := by decide +kernel
theorem dX4_bearOneMore_39 : decode cX4_bearOneMore 39 = .ok (.isub, 1) := by decide +kernel
theorem dX4_bearOneMore_40 : decode cX4_bearOneMore 40 = .ok (.iload 5, 2) := by decide +kernel
theorem dX4_bearOneMore_42 : decode cX4_bearOneMore 42 = .ok (.invokevirtual 37, 3) := by decide +kernel
theorem dX4_bearOneMore_45 : decode cX4_bearOneMore 45 = .ok (.aload_n 0, 1) := by decide +kernel
theorem dX4_bearOneMore_46 : decode cX4_bearOneMore 46 = .ok (.getfield 18, 3) := by decide +kernel
theorem dX4_bearOneMore_49 : decode cX4_bearOneMore 49 = .ok (.iload_n 1, 1) := by decide +kernel
theorem dX4_bearOneMore_50 : decode cX4_bearOneMore 50 = .ok (.iaload, 1) := by decide +kernel
theorem dX4_bearOneMore_51 : decode cX4_bearOneMore 51 = .ok (.iadd, 1) := by decide +kernel
theorem dX4_bearOneMore_52 : decode cX4_bearOneMore 52 = .ok (.invokestatic 41, 3) := by decide +kernel
theorem dX4_bearOneMore_55 : decode cX4_bearOneMore 55 = .ok (.istore 6, 2) := by decide +kernel
theorem dX4_bearOneMore_57 : decode cX4_bearOneMore 57 = .ok (.iload 5, 2) := by decide +kernel
theorem dX4_bearOneMore_59 : decode cX4_bearOneMore 59 = .ok (.ifCond .le 28, 3) := by decide +kernel
theorem dX4_bearOneMore_62 : decode cX4_bearOneMore 62 = .ok (.iload 6, 2) := by decide +kernel
theorem dX4_bearOneMore_64 : decode cX4_bearOneMore 64 = .ok (.aload_n 0, 1) := by decide +kernel
theorem dX4_bearOneMore_65 : decode cX4_bearOneMore 65 = .ok (.iload_n 1, 1) := by decide +kernel
theorem dX4_bearOneMore_66 : decode cX4_bearOneMore 66 = .ok (.iload 4, 2) := by decide +kernel
theorem dX4_bearOneMore_68 : decode cX4_bearOneMore 68 = .ok (.iload 5, 2) := by decide +kernel
theorem dX4_bearOneMore_70 : decode cX4_bearOneMore 70 = .ok (.iconst 1, 1) := by decide +kernel
theorem dX4_bearOneMore_71 : decode cX4_bearOneMore 71 = .ok (.isub, 1) := by decide +kernel
theorem dX4_bearOneMore_72 : decode cX4_bearOneMore 72 = .ok (.invokevirtual 37, 3) := by decide +kernel
theorem dX4_bearOneMore_75 : decode cX4_bearOneMore 75 = .ok (.aload_n 0, 1) := by decide +kernel
theorem dX4_bearOneMore_76 : decode cX4_bearOneMore 76 = .ok (.getfield 21, 3) := by decide +kernel
theorem dX4_bearOneMore_79 : decode cX4_bearOneMore 79 = .ok (.iload_n 1, 1) := by decide +kernel
theorem dX4_bearOneMore_80 : decode cX4_bearOneMore 80 = .ok (.iaload, 1) := by decide +kernel
theorem dX4_bearOneMore_81 : decode cX4_bearOneMore 81 = .ok (.iadd, 1) := by decide +kernel
theorem dX4_bearOneMore_82 : decode cX4_bearOneMore 82 = .ok (.invokestatic 41, 3) := by decide +kernel
theorem dX4_bearOneMore_85 : decode cX4_bearOneMore 85 = .ok (.istore 6, 2) := by decide +kernel
theorem dX4_bearOneMore_87 : decode cX4_bearOneMore 87 = .ok (.aload_n 0, 1) := by decide +kernel
theorem dX4_bearOneMore_88 : decode cX4_bearOneMore 88 = .ok (.getfield 24, 3) := by decide +kernel
theorem dX4_bearOneMore_91 : decode cX4_bearOneMore 91 = .ok (.iload_n 1, 1) := by decide +kernel
theorem dX4_bearOneMore_92 : decode cX4_bearOneMore 92 = .ok (.sipush 441, 3) := by decide +kernel
theorem dX4_bearOneMore_95 : decode cX4_bearOneMore 95 = .ok (.imul, 1) := by decide +kernel
theorem dX4_bearOneMore_96 : decode cX4_bearOneMore 96 = .ok (.iload 4, 2) := by decide +kernel
theorem dX4_bearOneMore_98 : decode cX4_bearOneMore 98 = .ok (.bipush 21, 2) := by decide +kernel
theorem dX4_bearOneMore_100 : decode cX4_bearOneMore 100 = .ok (.imul, 1) := by decide +kernel
theorem dX4_bearOneMore_101 : decode cX4_bearOneMore 101 = .ok (.iadd, 1) := by decide +kernel
theorem dX4_bearOneMore_102 : decode cX4_bearOneMore 102 = .ok (.iload 5, 2) := by decide +kernel
theorem dX4_bearOneMore_104 : decode cX4_bearOneMore 104 = .ok (.iadd, 1) := by decide +kernel
theorem dX4_bearOneMore_105 : decode cX4_bearOneMore 105 = .ok (.iload 6, 2) := by decide +kernel
theorem dX4_bearOneMore_107 : decode cX4_bearOneMore 107 = .ok (.iastore, 1) := by decide +kernel
theorem dX4_bearOneMore_108 : decode cX4_bearOneMore 108 = .ok (.iinc 5 (-1), 3) := by decide +kernel
theorem dX4_bearOneMore_111 : decode cX4_bearOneMore 111 = .ok (.goto (-100), 3) := by decide +kernel
theorem dX4_bearOneMore_114 : decode cX4_bearOneMore 114 = .ok (.iinc 4 (-1), 3) := by decide +kernel
theorem dX4_bearOneMore_117 : decode cX4_bearOneMore 117 = .ok (.goto (-114), 3) := by decide +kernel
theorem dX4_bearOneMore_120 : decode cX4_bearOneMore 120 = .ok (.return_, 1) := by decide +kernel
theorem dX4_borneBy_0 : decode cX4_borneBy 0 = .ok (.iload_n 2, 1) := by decide +kernel
theorem dX4_borneBy_1 : decode cX4_borneBy 1 = .ok (.istore 4, 2) := by decide +kernel
theorem dX4_borneBy_3 : decode cX4_borneBy 3 = .ok (.iload_n 3, 1) := by decide +kernel
theorem dX4_borneBy_4 : decode cX4_borneBy 4 = .ok (.istore 5, 2) := by decide +kernel
theorem dX4_borneBy_6 : decode cX4_borneBy 6 = .ok (.iconst 0, 1) := by decide +kernel
theorem dX4_borneBy_7 : decode cX4_borneBy 7 = .ok (.istore 6, 2) := by decide +kernel
theorem dX4_borneBy_9 : decode cX4_borneBy 9 = .ok (.iconst 0, 1) := by decide +kernel
theorem dX4_borneBy_10 : decode cX4_borneBy 10 = .ok (.istore 7, 2) := by decide +kernel
theorem dX4_borneBy_12 : decode cX4_borneBy 12 = .ok (.iload 7, 2) := by decide +kernel
theorem dX4_borneBy_14 : decode cX4_borneBy 14 = .ok (.iload_n 1, 1) := by decide +kernel
theorem dX4_borneBy_15 : decode cX4_borneBy 15 = .ok (.if_icmp .gt 41, 3) := by decide +kernel
theorem dX4_borneBy_18 : decode cX4_borneBy 18 = .ok (.aload_n 0, 1) := by decide +kernel
theorem dX4_borneBy_19 : decode cX4_borneBy 19 = .ok (.iload 7, 2) := by decide +kernel
theorem dX4_borneBy_21 : decode cX4_borneBy 21 = .ok (.iload 4, 2) := by decide +kernel
theorem dX4_borneBy_23 : decode cX4_borneBy 23 = .ok (.iload 5, 2) := by decide +kernel
theorem dX4_borneBy_25 : decode cX4_borneBy 25 = .ok (.invokevirtual 47, 3) := by decide +kernel
theorem dX4_borneBy_28 : decode cX4_borneBy 28 = .ok (.istore 6, 2) := by decide +kernel
theorem dX4_borneBy_30 : decode cX4_borneBy 30 = .ok (.iload 4, 2) := by decide +kernel
theorem dX4_borneBy_32 : decode cX4_borneBy 32 = .ok (.iload 6, 2) := by decide +kernel
theorem dX4_borneBy_34 : decode cX4_borneBy 34 = .ok (.bipush 100, 2) := by decide +kernel
theorem dX4_borneBy_36 : decode cX4_borneBy 36 = .ok (.idiv, 1) := by decide +kernel
theorem dX4_borneBy_37 : decode cX4_borneBy 37 = .ok (.isub, 1) := by decide +kernel
theorem dX4_borneBy_38 : decode cX4_borneBy 38 = .ok (.istore 4, 2) := by decide +kernel
theorem dX4_borneBy_40 : decode cX4_borneBy 40 = .ok (.iload 5, 2) := by decide +kernel
theorem dX4_borneBy_42 : decode cX4_borneBy 42 = .ok (.iload 6, 2) := by decide +kernel
theorem dX4_borneBy_44 : decode cX4_borneBy 44 = .ok (.bipush 100, 2) := by decide +kernel
theorem dX4_borneBy_46 : decode cX4_borneBy 46 = .ok (.irem, 1) := by decide +kernel
theorem dX4_borneBy_47 : decode cX4_borneBy 47 = .ok (.isub, 1) := by decide +kernel
theorem dX4_borneBy_48 : decode cX4_borneBy 48 = .ok (.istore 5, 2) := by decide +kernel
theorem dX4_borneBy_50 : decode cX4_borneBy 50 = .ok (.iinc 7 1, 3) := by decide +kernel
theorem dX4_borneBy_53 : decode cX4_borneBy 53 = .ok (.goto (-41), 3) := by decide +kernel
theorem dX4_borneBy_56 : decode cX4_borneBy 56 = .ok (.iload 6, 2) := by decide +kernel
theorem dX4_borneBy_58 : decode cX4_borneBy 58 = .ok (.ireturn, 1) := by decide +kernel
theorem dX4_leastRow_0 : decode cX4_leastRow 0 = .ok (.aload_n 0, 1) := by decide +kernel
theorem dX4_leastRow_1 : decode cX4_leastRow 1 = .ok (.iload_n 1, 1) := by decide +kernel
theorem dX4_leastRow_2 : decode cX4_leastRow 2 = .ok (.iload_n 2, 1) := by decide +kernel
theorem dX4_leastRow_3 : decode cX4_leastRow 3 = .ok (.iload_n 3, 1) := by decide +kernel
theorem dX4_leastRow_4 : decode cX4_leastRow 4 = .ok (.invokevirtual 37, 3) := by decide +kernel
theorem dX4_leastRow_7 : decode cX4_leastRow 7 = .ok (.istore 4, 2) := by decide +kernel
theorem dX4_leastRow_9 : decode cX4_leastRow 9 = .ok (.iconst 0, 1) := by decide +kernel
theorem dX4_leastRow_10 : decode cX4_leastRow 10 = .ok (.istore 5, 2) := by decide +kernel
theorem dX4_leastRow_12 : decode cX4_leastRow 12 = .ok (.iload 5, 2) := by decide +kernel
theorem dX4_leastRow_14 : decode cX4_leastRow 14 = .ok (.aload_n 0, 1) := by decide +kernel
theorem dX4_leastRow_15 : decode cX4_leastRow 15 = .ok (.getfield 15, 3) := by decide +kernel
theorem dX4_leastRow_18 : decode cX4_leastRow 18 = .ok (.iload_n 1, 1) := by decide +kernel
theorem dX4_leastRow_19 : decode cX4_leastRow 19 = .ok (.iaload, 1) := by decide +kernel
theorem dX4_leastRow_20 : decode cX4_leastRow 20 = .ok (.iload_n 2, 1) := by decide +kernel
theorem dX4_leastRow_21 : decode cX4_leastRow 21 = .ok (.invokestatic 50, 3) := by decide +kernel
theorem dX4_leastRow_24 : decode cX4_leastRow 24 = .ok (.if_icmp .gt 89, 3) := by decide +kernel
theorem dX4_leastRow_27 : decode cX4_leastRow 27 = .ok (.iconst 0, 1) := by decide +kernel
theorem dX4_leastRow_28 : decode cX4_leastRow 28 = .ok (.istore 6, 2) := by decide +kernel
theorem dX4_leastRow_30 : decode cX4_leastRow 30 = .ok (.iload 6, 2) := by decide +kernel
theorem dX4_leastRow_32 : decode cX4_leastRow 32 = .ok (.aload_n 0, 1) := by decide +kernel
theorem dX4_leastRow_33 : decode cX4_leastRow 33 = .ok (.getfield 15, 3) := by decide +kernel
theorem dX4_leastRow_36 : decode cX4_leastRow 36 = .ok (.iload_n 1, 1) := by decide +kernel
theorem dX4_leastRow_37 : decode cX4_leastRow 37 = .ok (.iaload, 1) := by decide +kernel
theorem dX4_leastRow_38 : decode cX4_leastRow 38 = .ok (.iload 5, 2) := by decide +kernel
theorem dX4_leastRow_40 : decode cX4_leastRow 40 = .ok (.isub, 1) := by decide +kernel
theorem dX4_leastRow_41 : decode cX4_leastRow 41 = .ok (.iload_n 3, 1) := by decide +kernel
theorem dX4_leastRow_42 : decode cX4_leastRow 42 = .ok (.invokestatic 50, 3) := by decide +kernel
theorem dX4_leastRow_45 : decode cX4_leastRow 45 = .ok (.if_icmp .gt 62, 3) := by decide +kernel
theorem dX4_leastRow_48 : decode cX4_leastRow 48 = .ok (.iload 5, 2) := by decide +kernel
theorem dX4_leastRow_50 : decode cX4_leastRow 50 = .ok (.aload_n 0, 1) := by decide +kernel
theorem dX4_leastRow_51 : decode cX4_leastRow 51 = .ok (.getfield 18, 3) := by decide +kernel
theorem dX4_leastRow_54 : decode cX4_leastRow 54 = .ok (.iload_n 1, 1) := by decide +kernel
theorem dX4_leastRow_55 : decode cX4_leastRow 55 = .ok (.iaload, 1) := by decide +kernel
theorem dX4_leastRow_56 : decode cX4_leastRow 56 = .ok (.imul, 1) := by decide +kernel
theorem dX4_leastRow_57 : decode cX4_leastRow 57 = .ok (.iload 6, 2) := by decide +kernel
theorem dX4_leastRow_59 : decode cX4_leastRow 59 = .ok (.aload_n 0, 1) := by decide +kernel
theorem dX4_leastRow_60 : decode cX4_leastRow 60 = .ok (.getfield 21, 3) := by decide +kernel
theorem dX4_leastRow_63 : decode cX4_leastRow 63 = .ok (.iload_n 1, 1) := by decide +kernel
theorem dX4_leastRow_64 : decode cX4_leastRow 64 = .ok (.iaload, 1) := by decide +kernel
theorem dX4_leastRow_65 : decode cX4_leastRow 65 = .ok (.imul, 1) := by decide +kernel
theorem dX4_leastRow_66 : decode cX4_leastRow 66 = .ok (.iadd, 1) := by decide +kernel
theorem dX4_leastRow_67 : decode cX4_leastRow 67 = .ok (.aload_n 0, 1) := by decide +kernel
theorem dX4_leastRow_68 : decode cX4_leastRow 68 = .ok (.iload_n 1, 1) := by decide +kernel
theorem dX4_leastRow_69 : decode cX4_leastRow 69 = .ok (.iconst 1, 1) := by decide +kernel
theorem dX4_leastRow_70 : decode cX4_leastRow 70 = .ok (.iadd, 1) := by decide +kernel
theorem dX4_leastRow_71 : decode cX4_leastRow 71 = .ok (.iload_n 2, 1) := by decide +kernel
theorem dX4_leastRow_72 : decode cX4_leastRow 72 = .ok (.iload 5, 2) := by decide +kernel
theorem dX4_leastRow_74 : decode cX4_leastRow 74 = .ok (.isub, 1) := by decide +kernel
theorem dX4_leastRow_75 : decode cX4_leastRow 75 = .ok (.iload_n 3, 1) := by decide +kernel
theorem dX4_leastRow_76 : decode cX4_leastRow 76 = .ok (.iload 6, 2) := by decide +kernel
theorem dX4_leastRow_78 : decode cX4_leastRow 78 = .ok (.isub, 1) := by decide +kernel
theorem dX4_leastRow_79 : decode cX4_leastRow 79 = .ok (.invokevirtual 37, 3) := by decide +kernel
theorem dX4_leastRow_82 : decode cX4_leastRow 82 = .ok (.iadd, 1) := by decide +kernel
theorem dX4_leastRow_83 : decode cX4_leastRow 83 = .ok (.istore 7, 2) := by decide +kernel
theorem dX4_leastRow_85 : decode cX4_leastRow 85 = .ok (.iload 7, 2) := by decide +kernel
theorem dX4_leastRow_87 : decode cX4_leastRow 87 = .ok (.iload 4, 2) := by decide +kernel
theorem dX4_leastRow_89 : decode cX4_leastRow 89 = .ok (.if_icmp .ne 12, 3) := by decide +kernel
theorem dX4_leastRow_92 : decode cX4_leastRow 92 = .ok (.bipush 100, 2) := by decide +kernel
theorem dX4_leastRow_94 : decode cX4_leastRow 94 = .ok (.iload 5, 2) := by decide +kernel
theorem dX4_leastRow_96 : decode cX4_leastRow 96 = .ok (.imul, 1) := by decide +kernel
theorem dX4_leastRow_97 : decode cX4_leastRow 97 = .ok (.iload 6, 2) := by decide +kernel
theorem dX4_leastRow_99 : decode cX4_leastRow 99 = .ok (.iadd, 1) := by decide +kernel
theorem dX4_leastRow_100 : decode cX4_leastRow 100 = .ok (.ireturn, 1) := by decide +kernel
theorem dX4_leastRow_101 : decode cX4_leastRow 101 = .ok (.iinc 6 1, 3) := by decide +kernel
theorem dX4_leastRow_104 : decode cX4_leastRow 104 = .ok (.goto (-74), 3) := by decide +kernel
theorem dX4_leastRow_107 : decode cX4_leastRow 107 = .ok (.iinc 5 1, 3) := by decide +kernel
theorem dX4_leastRow_110 : decode cX4_leastRow 110 = .ok (.goto (-98), 3) := by decide +kernel
theorem dX4_leastRow_113 : decode cX4_leastRow 113 = .ok (.iconst 0, 1) := by decide +kernel
theorem dX4_leastRow_114 : decode cX4_leastRow 114 = .ok (.ireturn, 1) := by decide +kernel
theorem dX5_init_0 : decode cX5_init 0 = .ok (.aload_n 0, 1) := by decide +kernel
theorem dX5_init_1 : decode cX5_init 1 = .ok (.invokespecial 3, 3) := by decide +kernel
theorem dX5_init_4 : decode cX5_init 4 = .ok (.aload_n 0, 1) := by decide +kernel
theorem dX5_init_5 : decode cX5_init 5 = .ok (.bipush 60, 2) := by decide +kernel
theorem dX5_init_7 : decode cX5_init 7 = .ok (.newarray .int, 2) := by decide +kernel
theorem dX5_init_9 : decode cX5_init 9 = .ok (.putfield 9, 3) := by decide +kernel
theorem dX5_init_12 : decode cX5_init 12 = .ok (.aload_n 0, 1) := by decide +kernel
theorem dX5_init_13 : decode cX5_init 13 = .ok (.bipush 60, 2) := by decide +kernel
theorem dX5_init_15 : decode cX5_init 15 = .ok (.newarray .int, 2) := by decide +kernel
theorem dX5_init_17 : decode cX5_init 17 = .ok (.putfield 15, 3) := by decide +kernel
theorem dX5_init_20 : decode cX5_init 20 = .ok (.aload_n 0, 1) := by decide +kernel
theorem dX5_init_21 : decode cX5_init 21 = .ok (.bipush 60, 2) := by decide +kernel
theorem dX5_init_23 : decode cX5_init 23 = .ok (.newarray .int, 2) := by decide +kernel
theorem dX5_init_25 : decode cX5_init 25 = .ok (.putfield 18, 3) := by decide +kernel
theorem dX5_init_28 : decode cX5_init 28 = .ok (.aload_n 0, 1) := by decide +kernel
theorem dX5_init_29 : decode cX5_init 29 = .ok (.bipush 60, 2) := by decide +kernel
theorem dX5_init_31 : decode cX5_init 31 = .ok (.newarray .int, 2) := by decide +kernel
theorem dX5_init_33 : decode cX5_init 33 = .ok (.putfield 21, 3) := by decide +kernel
theorem dX5_init_36 : decode cX5_init 36 = .ok (.return_, 1) := by decide +kernel
theorem dX5_add_0 : decode cX5_add 0 = .ok (.aload_n 0, 1) := by decide +kernel
theorem dX5_add_1 : decode cX5_add 1 = .ok (.getfield 9, 3) := by decide +kernel
theorem dX5_add_4 : decode cX5_add 4 = .ok (.aload_n 0, 1) := by decide +kernel
theorem dX5_add_5 : decode cX5_add 5 = .ok (.getfield 24, 3) := by decide +kernel
theorem dX5_add_8 : decode cX5_add 8 = .ok (.iload_n 1, 1) := by decide +kernel
theorem dX5_add_9 : decode cX5_add 9 = .ok (.iastore, 1) := by decide +kernel
theorem dX5_add_10 : decode cX5_add 10 = .ok (.aload_n 0, 1) := by decide +kernel
theorem dX5_add_11 : decode cX5_add 11 = .ok (.getfield 15, 3) := by decide +kernel
theorem dX5_add_14 : decode cX5_add 14 = .ok (.aload_n 0, 1) := by decide +kernel
theorem dX5_add_15 : decode cX5_add 15 = .ok (.getfield 24, 3) := by decide +kernel
theorem dX5_add_18 : decode cX5_add 18 = .ok (.iload_n 2, 1) := by decide +kernel
theorem dX5_add_19 : decode cX5_add 19 = .ok (.iastore, 1) := by decide +kernel
theorem dX5_add_20 : decode cX5_add 20 = .ok (.aload_n 0, 1) := by decide +kernel
theorem dX5_add_21 : decode cX5_add 21 = .ok (.getfield 18, 3) := by decide +kernel
theorem dX5_add_24 : decode cX5_add 24 = .ok (.aload_n 0, 1) := by decide +kernel
theorem dX5_add_25 : decode cX5_add 25 = .ok (.getfield 24, 3) := by decide +kernel
theorem dX5_add_28 : decode cX5_add 28 = .ok (.iload_n 3, 1) := by decide +kernel
theorem dX5_add_29 : decode cX5_add 29 = .ok (.iastore, 1) := by decide +kernel
theorem dX5_add_30 : decode cX5_add 30 = .ok (.aload_n 0, 1) := by decide +kernel
theorem dX5_add_31 : decode cX5_add 31 = .ok (.getfield 21, 3) := by decide +kernel
theorem dX5_add_34 : decode cX5_add 34 = .ok (.aload_n 0, 1) := by decide +kernel
theorem dX5_add_35 : decode cX5_add 35 = .ok (.getfield 24, 3) := by decide +kernel
theorem dX5_add_38 : decode cX5_add 38 = .ok (.iload 4, 2) := by decide +kernel
theorem dX5_add_40 : decode cX5_add 40 = .ok (.iastore, 1) := by decide +kernel
theorem dX5_add_41 : decode cX5_add 41 = .ok (.aload_n 0, 1) := by decide +kernel
theorem dX5_add_42 : decode cX5_add 42 = .ok (.dup, 1) := by decide +kernel
theorem dX5_add_43 : decode cX5_add 43 = .ok (.getfield 24, 3) := by decide +kernel
theorem dX5_add_46 : decode cX5_add 46 = .ok (.iconst 1, 1) := by decide +kernel
theorem dX5_add_47 : decode cX5_add 47 = .ok (.iadd, 1) := by decide +kernel
theorem dX5_add_48 : decode cX5_add 48 = .ok (.putfield 24, 3) := by decide +kernel
theorem dX5_add_51 : decode cX5_add 51 = .ok (.aload_n 0, 1) := by decide +kernel
theorem dX5_add_52 : decode cX5_add 52 = .ok (.getfield 24, 3) := by decide +kernel
theorem dX5_add_55 : decode cX5_add 55 = .ok (.ireturn, 1) := by decide +kernel
theorem dX5_find_0 : decode cX5_find 0 = .ok (.bipush (-6), 2) := by decide +kernel
theorem dX5_find_2 : decode cX5_find 2 = .ok (.istore 5, 2) := by decide +kernel
theorem dX5_find_4 : decode cX5_find 4 = .ok (.iconst 0, 1) := by decide +kernel
theorem dX5_find_5 : decode cX5_find 5 = .ok (.istore 6, 2) := by decide +kernel
theorem dX5_find_7 : decode cX5_find 7 = .ok (.iload 6, 2) := by decide +kernel
theorem dX5_find_9 : decode cX5_find 9 = .ok (.aload_n 0, 1) := by decide +kernel
theorem dX5_find_10 : decode cX5_find 10 = .ok (.getfield 24, 3) := by decide +kernel
theorem dX5_find_13 : decode cX5_find 13 = .ok (.if_icmp .ge 82, 3) := by decide +kernel
theorem dX5_find_16 : decode cX5_find 16 = .ok (.aload_n 0, 1) := by decide +kernel
theorem dX5_find_17 : decode cX5_find 17 = .ok (.getfield 9, 3) := by decide +kernel
theorem dX5_find_20 : decode cX5_find 20 = .ok (.iload 6, 2) := by decide +kernel
theorem dX5_find_22 : decode cX5_find 22 = .ok (.iaload, 1) := by decide +kernel
theorem dX5_find_23 : decode cX5_find 23 = .ok (.iload_n 1, 1) := by decide +kernel
theorem dX5_find_24 : decode cX5_find 24 = .ok (.if_icmp .ne 29, 3) := by decide +kernel
theorem dX5_find_27 : decode cX5_find 27 = .ok (.aload_n 0, 1) := by decide +kernel
theorem dX5_find_28 : decode cX5_find 28 = .ok (.getfield 21, 3) := by decide +kernel
theorem dX5_find_31 : decode cX5_find 31 = .ok (.iload 6, 2) := by decide +kernel
theorem dX5_find_33 : decode cX5_find 33 = .ok (.iaload, 1) := by decide +kernel
theorem dX5_find_34 : decode cX5_find 34 = .ok (.iload_n 3, 1) := by decide +kernel
theorem dX5_find_35 : decode cX5_find 35 = .ok (.if_icmp .gt 18, 3) := by decide +kernel
theorem dX5_find_38 : decode cX5_find 38 = .ok (.aload_n 0, 1) := by decide +kernel
theorem dX5_find_39 : decode cX5_find 39 = .ok (.getfield 15, 3) := by decide +kernel
theorem dX5_find_42 : decode cX5_find 42 = .ok (.iload 6, 2) := by decide +kernel
theorem dX5_find_44 : decode cX5_find 44 = .ok (.iaload, 1) := by decide +kernel
theorem dX5_find_45 : decode cX5_find 45 = .ok (.iload_n 2, 1) := by decide +kernel
theorem dX5_find_46 : decode cX5_find 46 = .ok (.if_icmp .gt 7, 3) := by decide +kernel
theorem dX5_find_49 : decode cX5_find 49 = .ok (.iconst 1, 1) := by decide +kernel
theorem dX5_find_50 : decode cX5_find 50 = .ok (.goto 4, 3) := by decide +kernel
theorem dX5_find_53 : decode cX5_find 53 = .ok (.iconst 0, 1) := by decide +kernel
theorem dX5_find_54 : decode cX5_find 54 = .ok (.istore 7, 2) := by decide +kernel
theorem dX5_find_56 : decode cX5_find 56 = .ok (.iload 7, 2) := by decide +kernel
theorem dX5_find_58 : decode cX5_find 58 = .ok (.ifCond .eq 31, 3) := by decide +kernel
theorem dX5_find_61 : decode cX5_find 61 = .ok (.iload 5, 2) := by decide +kernel
theorem dX5_find_63 : decode cX5_find 63 = .ok (.bipush (-6), 2) := by decide +kernel
theorem dX5_find_65 : decode cX5_find 65 = .ok (.if_icmp .eq 20, 3) := by decide +kernel
theorem dX5_find_68 : decode cX5_find 68 = .ok (.aload_n 0, 1) := by decide +kernel
theorem dX5_find_69 : decode cX5_find 69 = .ok (.getfield 15, 3) := by decide +kernel
theorem dX5_find_72 : decode cX5_find 72 = .ok (.iload 6, 2) := by decide +kernel
theorem dX5_find_74 : decode cX5_find 74 = .ok (.iaload, 1) := by decide +kernel
theorem dX5_find_75 : decode cX5_find 75 = .ok (.aload_n 0, 1) := by decide +kernel
theorem dX5_find_76 : decode cX5_find 76 = .ok (.getfield 15, 3) := by decide +kernel
theorem dX5_find_79 : decode cX5_find 79 = .ok (.iload 5, 2) := by decide +kernel
theorem dX5_find_81 : decode cX5_find 81 = .ok (.iaload, 1) := by decide +kernel
theorem dX5_find_82 : decode cX5_find 82 = .ok (.if_icmp .lt 7, 3) := by decide +kernel
theorem dX5_find_85 : decode cX5_find 85 = .ok (.iload 6, 2) := by decide +kernel
theorem dX5_find_87 : decode cX5_find 87 = .ok (.istore 5, 2) := by decide +kernel
theorem dX5_find_89 : decode cX5_find 89 = .ok (.iinc 6 1, 3) := by decide +kernel
theorem dX5_find_92 : decode cX5_find 92 = .ok (.goto (-85), 3) := by decide +kernel
theorem dX5_find_95 : decode cX5_find 95 = .ok (.iload 5, 2) := by decide +kernel
theorem dX5_find_97 : decode cX5_find 97 = .ok (.bipush (-6), 2) := by decide +kernel
theorem dX5_find_99 : decode cX5_find 99 = .ok (.if_icmp .ne 8, 3) := by decide +kernel
theorem dX5_find_102 : decode cX5_find 102 = .ok (.iload 4, 2) := by decide +kernel
theorem dX5_find_104 : decode cX5_find 104 = .ok (.goto 10, 3) := by decide +kernel
theorem dX5_find_107 : decode cX5_find 107 = .ok (.aload_n 0, 1) := by decide +kernel
theorem dX5_find_108 : decode cX5_find 108 = .ok (.getfield 18, 3) := by decide +kernel
theorem dX5_find_111 : decode cX5_find 111 = .ok (.iload 5, 2) := by decide +kernel
theorem dX5_find_113 : decode cX5_find 113 = .ok (.iaload, 1) := by decide +kernel
theorem dX5_find_114 : decode cX5_find 114 = .ok (.ireturn, 1) := by decide +kernel
theorem dX6_init_0 : decode cX6_init 0 = .ok (.aload_n 0, 1) := by decide +kernel
theorem dX6_init_1 : decode cX6_init 1 = .ok (.invokespecial 3, 3) := by decide +kernel
theorem dX6_init_4 : decode cX6_init 4 = .ok (.aload_n 0, 1) := by decide +kernel
theorem dX6_init_5 : decode cX6_init 5 = .ok (.bipush 30, 2) := by decide +kernel
theorem dX6_init_7 : decode cX6_init 7 = .ok (.newarray .int, 2) := by decide +kernel
theorem dX6_init_9 : decode cX6_init 9 = .ok (.putfield 9, 3) := by decide +kernel
theorem dX6_init_12 : decode cX6_init 12 = .ok (.aload_n 0, 1) := by decide +kernel
theorem dX6_init_13 : decode cX6_init 13 = .ok (.bipush 30, 2) := by decide +kernel
theorem dX6_init_15 : decode cX6_init 15 = .ok (.newarray .int, 2) := by decide +kernel
theorem dX6_init_17 : decode cX6_init 17 = .ok (.putfield 15, 3) := by decide +kernel
theorem dX6_init_20 : decode cX6_init 20 = .ok (.aload_n 0, 1) := by decide +kernel
theorem dX6_init_21 : decode cX6_init 21 = .ok (.iconst 3, 1) := by decide +kernel
theorem dX6_init_22 : decode cX6_init 22 = .ok (.newarray .int, 2) := by decide +kernel
theorem dX6_init_24 : decode cX6_init 24 = .ok (.putfield 18, 3) := by decide +kernel
theorem dX6_init_27 : decode cX6_init 27 = .ok (.return_, 1) := by decide +kernel
theorem dX6_add_0 : decode cX6_add 0 = .ok (.iconst 1, 1) := by decide +kernel
theorem dX6_add_1 : decode cX6_add 1 = .ok (.aload_n 0, 1) := by decide +kernel
theorem dX6_add_2 : decode cX6_add 2 = .ok (.getfield 21, 3) := by decide +kernel
theorem dX6_add_5 : decode cX6_add 5 = .ok (.ishl, 1) := by decide +kernel
theorem dX6_add_6 : decode cX6_add 6 = .ok (.istore 5, 2) := by decide +kernel
theorem dX6_add_8 : decode cX6_add 8 = .ok (.aload_n 0, 1) := by decide +kernel
theorem dX6_add_9 : decode cX6_add 9 = .ok (.getfield 9, 3) := by decide +kernel
theorem dX6_add_12 : decode cX6_add 12 = .ok (.iload_n 1, 1) := by decide +kernel
theorem dX6_add_13 : decode cX6_add 13 = .ok (.dup2, 1) := by decide +kernel
theorem dX6_add_14 : decode cX6_add 14 = .ok (.iaload, 1) := by decide +kernel
theorem dX6_add_15 : decode cX6_add 15 = .ok (.iload 5, 2) := by decide +kernel
theorem dX6_add_17 : decode cX6_add 17 = .ok (.ior, 1) := by decide +kernel
theorem dX6_add_18 : decode cX6_add 18 = .ok (.iastore, 1) := by decide +kernel
theorem dX6_add_19 : decode cX6_add 19 = .ok (.aload_n 0, 1) := by decide +kernel
theorem dX6_add_20 : decode cX6_add 20 = .ok (.getfield 9, 3) := by decide +kernel
theorem dX6_add_23 : decode cX6_add 23 = .ok (.bipush 10, 2) := by decide +kernel
theorem dX6_add_25 : decode cX6_add 25 = .ok (.iload_n 2, 1) := by decide +kernel
theorem dX6_add_26 : decode cX6_add 26 = .ok (.iadd, 1) := by decide +kernel
theorem dX6_add_27 : decode cX6_add 27 = .ok (.dup2, 1) := by decide +kernel
theorem dX6_add_28 : decode cX6_add 28 = .ok (.iaload, 1) := by decide +kernel
theorem dX6_add_29 : decode cX6_add 29 = .ok (.iload 5, 2) := by decide +kernel
theorem dX6_add_31 : decode cX6_add 31 = .ok (.ior, 1) := by decide +kernel
theorem dX6_add_32 : decode cX6_add 32 = .ok (.iastore, 1) := by decide +kernel
theorem dX6_add_33 : decode cX6_add 33 = .ok (.aload_n 0, 1) := by decide +kernel
theorem dX6_add_34 : decode cX6_add 34 = .ok (.getfield 9, 3) := by decide +kernel
theorem dX6_add_37 : decode cX6_add 37 = .ok (.bipush 20, 2) := by decide +kernel
theorem dX6_add_39 : decode cX6_add 39 = .ok (.iload_n 3, 1) := by decide +kernel
theorem dX6_add_40 : decode cX6_add 40 = .ok (.iadd, 1) := by decide +kernel
theorem dX6_add_41 : decode cX6_add 41 = .ok (.dup2, 1) := by decide +kernel
theorem dX6_add_42 : decode cX6_add 42 = .ok (.iaload, 1) := by decide +kernel
theorem dX6_add_43 : decode cX6_add 43 = .ok (.iload 5, 2) := by decide +kernel
theorem dX6_add_45 : decode cX6_add 45 = .ok (.ior, 1) := by decide +kernel
theorem dX6_add_46 : decode cX6_add 46 = .ok (.iastore, 1) := by decide +kernel
theorem dX6_add_47 : decode cX6_add 47 = .ok (.iload 4, 2) := by decide +kernel
theorem dX6_add_49 : decode cX6_add 49 = .ok (.ifCond .eq 14, 3) := by decide +kernel
theorem dX6_add_52 : decode cX6_add 52 = .ok (.aload_n 0, 1) := by decide +kernel
theorem dX6_add_53 : decode cX6_add 53 = .ok (.dup, 1) := by decide +kernel
theorem dX6_add_54 : decode cX6_add 54 = .ok (.getfield 25, 3) := by decide +kernel
theorem dX6_add_57 : decode cX6_add 57 = .ok (.iload 5, 2) := by decide +kernel
theorem dX6_add_59 : decode cX6_add 59 = .ok (.ior, 1) := by decide +kernel
theorem dX6_add_60 : decode cX6_add 60 = .ok (.putfield 25, 3) := by decide +kernel
theorem dX6_add_63 : decode cX6_add 63 = .ok (.aload_n 0, 1) := by decide +kernel
theorem dX6_add_64 : decode cX6_add 64 = .ok (.dup, 1) := by decide +kernel
theorem dX6_add_65 : decode cX6_add 65 = .ok (.getfield 21, 3) := by decide +kernel
theorem dX6_add_68 : decode cX6_add 68 = .ok (.iconst 1, 1) := by decide +kernel
theorem dX6_add_69 : decode cX6_add 69 = .ok (.iadd, 1) := by decide +kernel
theorem dX6_add_70 : decode cX6_add 70 = .ok (.putfield 21, 3) := by decide +kernel
theorem dX6_add_73 : decode cX6_add 73 = .ok (.aload_n 0, 1) := by decide +kernel
theorem dX6_add_74 : decode cX6_add 74 = .ok (.getfield 21, 3) := by decide +kernel
theorem dX6_add_77 : decode cX6_add 77 = .ok (.ireturn, 1) := by decide +kernel
theorem dX6_clear_0 : decode cX6_clear 0 = .ok (.aload_n 0, 1) := by decide +kernel
theorem dX6_clear_1 : decode cX6_clear 1 = .ok (.getfield 21, 3) := by decide +kernel
theorem dX6_clear_4 : decode cX6_clear 4 = .ok (.istore_n 1, 1) := by decide +kernel
theorem dX6_clear_5 : decode cX6_clear 5 = .ok (.iconst 0, 1) := by decide +kernel
theorem dX6_clear_6 : decode cX6_clear 6 = .ok (.istore_n 2, 1) := by decide +kernel
theorem dX6_clear_7 : decode cX6_clear 7 = .ok (.iload_n 2, 1) := by decide +kernel
theorem dX6_clear_8 : decode cX6_clear 8 = .ok (.bipush 30, 2) := by decide +kernel
theorem dX6_clear_10 : decode cX6_clear 10 = .ok (.if_icmp .ge 16, 3) := by decide +kernel
theorem dX6_clear_13 : decode cX6_clear 13 = .ok (.aload_n 0, 1) := by decide +kernel
theorem dX6_clear_14 : decode cX6_clear 14 = .ok (.getfield 9, 3) := by decide +kernel
theorem dX6_clear_17 : decode cX6_clear 17 = .ok (.iload_n 2, 1) := by decide +kernel
theorem dX6_clear_18 : decode cX6_clear 18 = .ok (.iconst 0, 1) := by decide +kernel
theorem dX6_clear_19 : decode cX6_clear 19 = .ok (.iastore, 1) := by decide +kernel
theorem dX6_clear_20 : decode cX6_clear 20 = .ok (.iinc 2 1, 3) := by decide +kernel
theorem dX6_clear_23 : decode cX6_clear 23 = .ok (.goto (-16), 3) := by decide +kernel
theorem dX6_clear_26 : decode cX6_clear 26 = .ok (.aload_n 0, 1) := by decide +kernel
theorem dX6_clear_27 : decode cX6_clear 27 = .ok (.iconst 0, 1) := by decide +kernel
theorem dX6_clear_28 : decode cX6_clear 28 = .ok (.putfield 25, 3) := by decide +kernel
theorem dX6_clear_31 : decode cX6_clear 31 = .ok (.aload_n 0, 1) := by decide +kernel
theorem dX6_clear_32 : decode cX6_clear 32 = .ok (.iconst 0, 1) := by decide +kernel
theorem dX6_clear_33 : decode cX6_clear 33 = .ok (.putfield 21, 3) := by decide +kernel
theorem dX6_clear_36 : decode cX6_clear 36 = .ok (.iload_n 1, 1) := by decide +kernel
theorem dX6_clear_37 : decode cX6_clear 37 = .ok (.ireturn, 1) := by decide +kernel
theorem dX6_mayBe_0 : decode cX6_mayBe 0 = .ok (.aload_n 0, 1) := by decide +kernel
theorem dX6_mayBe_1 : decode cX6_mayBe 1 = .ok (.getfield 9, 3) := by decide +kernel
theorem dX6_mayBe_4 : decode cX6_mayBe 4 = .ok (.iload_n 1, 1) := by decide +kernel
theorem dX6_mayBe_5 : decode cX6_mayBe 5 = .ok (.iaload, 1) := by decide +kernel
theorem dX6_mayBe_6 : decode cX6_mayBe 6 = .ok (.aload_n 0, 1) := by decide +kernel
theorem dX6_mayBe_7 : decode cX6_mayBe 7 = .ok (.getfield 25, 3) := by decide +kernel
theorem dX6_mayBe_10 : decode cX6_mayBe 10 = .ok (.iconst (-1), 1) := by decide +kernel
theorem dX6_mayBe_11 : decode cX6_mayBe 11 = .ok (.ixor, 1) := by decide +kernel
theorem dX6_mayBe_12 : decode cX6_mayBe 12 = .ok (.iand, 1) := by decide +kernel
theorem dX6_mayBe_13 : decode cX6_mayBe 13 = .ok (.ifCond .ne 20, 3) := by decide +kernel
theorem dX6_mayBe_16 : decode cX6_mayBe 16 = .ok (.aload_n 0, 1) := by decide +kernel
theorem dX6_mayBe_17 : decode cX6_mayBe 17 = .ok (.getfield 9, 3) := by decide +kernel
theorem dX6_mayBe_20 : decode cX6_mayBe 20 = .ok (.iload_n 1, 1) := by decide +kernel
theorem dX6_mayBe_21 : decode cX6_mayBe 21 = .ok (.iaload, 1) := by decide +kernel
theorem dX6_mayBe_22 : decode cX6_mayBe 22 = .ok (.invokestatic 28, 3) := by decide +kernel
theorem dX6_mayBe_25 : decode cX6_mayBe 25 = .ok (.iconst 2, 1) := by decide +kernel
theorem dX6_mayBe_26 : decode cX6_mayBe 26 = .ok (.if_icmp .lt 7, 3) := by decide +kernel
theorem dX6_mayBe_29 : decode cX6_mayBe 29 = .ok (.iconst 1, 1) := by decide +kernel
theorem dX6_mayBe_30 : decode cX6_mayBe 30 = .ok (.goto 4, 3) := by decide +kernel
theorem dX6_mayBe_33 : decode cX6_mayBe 33 = .ok (.iconst 0, 1) := by decide +kernel
theorem dX6_mayBe_34 : decode cX6_mayBe 34 = .ok (.ireturn, 1) := by decide +kernel
theorem dX6_fewest_0 : decode cX6_fewest 0 = .ok (.iconst 0, 1) := by decide +kernel
theorem dX6_fewest_1 : decode cX6_fewest 1 = .ok (.istore_n 1, 1) := by decide +kernel
theorem dX6_fewest_2 : decode cX6_fewest 2 = .ok (.iload_n 1, 1) := by decide +kernel
theorem dX6_fewest_3 : decode cX6_fewest 3 = .ok (.iconst 3, 1) := by decide +kernel
theorem dX6_fewest_4 : decode cX6_fewest 4 = .ok (.if_icmp .gt 20, 3) := by decide +kernel
theorem dX6_fewest_7 : decode cX6_fewest 7 = .ok (.aload_n 0, 1) := by decide +kernel
theorem dX6_fewest_8 : decode cX6_fewest 8 = .ok (.iload_n 1, 1) := by decide +kernel
theorem dX6_fewest_9 : decode cX6_fewest 9 = .ok (.iconst 0, 1) := by decide +kernel
theorem dX6_fewest_10 : decode cX6_fewest 10 = .ok (.invokevirtual 34, 3) := by decide +kernel
theorem dX6_fewest_13 : decode cX6_fewest 13 = .ok (.ifCond .le 5, 3) := by decide +kernel
theorem dX6_fewest_16 : decode cX6_fewest 16 = .ok (.iload_n 1, 1) := by decide +kernel
theorem dX6_fewest_17 : decode cX6_fewest 17 = .ok (.ireturn, 1) := by decide +kernel
theorem dX6_fewest_18 : decode cX6_fewest 18 = .ok (.iinc 1 1, 3) := by decide +kernel
theorem dX6_fewest_21 : decode cX6_fewest 21 = .ok (.goto (-19), 3) := by decide +kernel
theorem dX6_fewest_24 : decode cX6_fewest 24 = .ok (.bipush (-6), 2) := by decide +kernel
theorem dX6_fewest_26 : decode cX6_fewest 26 = .ok (.ireturn, 1) := by decide +kernel
theorem dX6_explaining_0 : decode cX6_explaining 0 = .ok (.aload_n 0, 1) := by decide +kernel
theorem dX6_explaining_1 : decode cX6_explaining 1 = .ok (.invokevirtual 38, 3) := by decide +kernel
theorem dX6_explaining_4 : decode cX6_explaining 4 = .ok (.iload_n 1, 1) := by decide +kernel
theorem dX6_explaining_5 : decode cX6_explaining 5 = .ok (.aload_n 0, 1) := by decide +kernel
theorem dX6_explaining_6 : decode cX6_explaining 6 = .ok (.getfield 41, 3) := by decide +kernel
theorem dX6_explaining_9 : decode cX6_explaining 9 = .ok (.if_icmp .gt 7, 3) := by decide +kernel
theorem dX6_explaining_12 : decode cX6_explaining 12 = .ok (.iconst 1, 1) := by decide +kernel
theorem dX6_explaining_13 : decode cX6_explaining 13 = .ok (.goto 4, 3) := by decide +kernel
theorem dX6_explaining_16 : decode cX6_explaining 16 = .ok (.iconst 0, 1) := by decide +kernel
theorem dX6_explaining_17 : decode cX6_explaining 17 = .ok (.istore_n 3, 1) := by decide +kernel
theorem dX6_explaining_18 : decode cX6_explaining 18 = .ok (.iconst 0, 1) := by decide +kernel
theorem dX6_explaining_19 : decode cX6_explaining 19 = .ok (.istore 4, 2) := by decide +kernel
theorem dX6_explaining_21 : decode cX6_explaining 21 = .ok (.iload 4, 2) := by decide +kernel
theorem dX6_explaining_23 : decode cX6_explaining 23 = .ok (.iload_n 1, 1) := by decide +kernel
theorem dX6_explaining_24 : decode cX6_explaining 24 = .ok (.if_icmp .ge 18, 3) := by decide +kernel
theorem dX6_explaining_27 : decode cX6_explaining 27 = .ok (.aload_n 0, 1) := by decide +kernel
theorem dX6_explaining_28 : decode cX6_explaining 28 = .ok (.getfield 18, 3) := by decide +kernel
theorem dX6_explaining_31 : decode cX6_explaining 31 = .ok (.iload 4, 2) := by decide +kernel
theorem dX6_explaining_33 : decode cX6_explaining 33 = .ok (.iload 4, 2) := by decide +kernel
theorem dX6_explaining_35 : decode cX6_explaining 35 = .ok (.iastore, 1) := by decide +kernel
theorem dX6_explaining_36 : decode cX6_explaining 36 = .ok (.iinc 4 1, 3) := by decide +kernel
theorem dX6_explaining_39 : decode cX6_explaining 39 = .ok (.goto (-18), 3) := by decide +kernel
theorem dX6_explaining_42 : decode cX6_explaining 42 = .ok (.iconst 0, 1) := by decide +kernel
theorem dX6_explaining_43 : decode cX6_explaining 43 = .ok (.istore 4, 2) := by decide +kernel
theorem dX6_explaining_45 : decode cX6_explaining 45 = .ok (.iconst 0, 1) := by decide +kernel
theorem dX6_explaining_46 : decode cX6_explaining 46 = .ok (.istore 5, 2) := by decide +kernel
theorem dX6_explaining_48 : decode cX6_explaining 48 = .ok (.iload_n 3, 1) := by decide +kernel
theorem dX6_explaining_49 : decode cX6_explaining 49 = .ok (.ifCond .eq 45, 3) := by decide +kernel
theorem dX6_explaining_52 : decode cX6_explaining 52 = .ok (.iload 5, 2) := by decide +kernel
theorem dX6_explaining_54 : decode cX6_explaining 54 = .ok (.sipush 5000, 3) := by decide +kernel
theorem dX6_explaining_57 : decode cX6_explaining 57 = .ok (.if_icmp .ge 37, 3) := by decide +kernel
theorem dX6_explaining_60 : decode cX6_explaining 60 = .ok (.aload_n 0, 1) := by decide +kernel
theorem dX6_explaining_61 : decode cX6_explaining 61 = .ok (.iload_n 1, 1) := by decide +kernel
theorem dX6_explaining_62 : decode cX6_explaining 62 = .ok (.invokevirtual 44, 3) := by decide +kernel
theorem dX6_explaining_65 : decode cX6_explaining 65 = .ok (.ifCond .eq 17, 3) := by decide +kernel
theorem dX6_explaining_68 : decode cX6_explaining 68 = .ok (.iinc 4 1, 3) := by decide +kernel
theorem dX6_explaining_71 : decode cX6_explaining 71 = .ok (.iload 4, 2) := by decide +kernel
theorem dX6_explaining_73 : decode cX6_explaining 73 = .ok (.iconst 1, 1) := by decide +kernel
theorem dX6_explaining_74 : decode cX6_explaining 74 = .ok (.isub, 1) := by decide +kernel
theorem dX6_explaining_75 : decode cX6_explaining 75 = .ok (.iload_n 2, 1) := by decide +kernel
theorem dX6_explaining_76 : decode cX6_explaining 76 = .ok (.if_icmp .ne 6, 3) := by decide +kernel
theorem dX6_explaining_79 : decode cX6_explaining 79 = .ok (.iload 4, 2) := by decide +kernel
theorem dX6_explaining_81 : decode cX6_explaining 81 = .ok (.ireturn, 1) := by decide +kernel
theorem dX6_explaining_82 : decode cX6_explaining 82 = .ok (.aload_n 0, 1) := by decide +kernel
theorem dX6_explaining_83 : decode cX6_explaining 83 = .ok (.iload_n 1, 1) := by decide +kernel
theorem dX6_explaining_84 : decode cX6_explaining 84 = .ok (.invokevirtual 48, 3) := by decide +kernel
theorem dX6_explaining_87 : decode cX6_explaining 87 = .ok (.istore_n 3, 1) := by decide +kernel
theorem dX6_explaining_88 : decode cX6_explaining 88 = .ok (.iinc 5 1, 3) := by decide +kernel
theorem dX6_explaining_91 : decode cX6_explaining 91 = .ok (.goto (-43), 3) := by decide +kernel
theorem dX6_explaining_94 : decode cX6_explaining 94 = .ok (.iload 4, 2) := by decide +kernel
theorem dX6_explaining_96 : decode cX6_explaining 96 = .ok (.ireturn, 1) := by decide +kernel
theorem dX6_chosenCause_0 : decode cX6_chosenCause 0 = .ok (.aload_n 0, 1) := by decide +kernel
theorem dX6_chosenCause_1 : decode cX6_chosenCause 1 = .ok (.getfield 15, 3) := by decide +kernel
theorem dX6_chosenCause_4 : decode cX6_chosenCause 4 = .ok (.aload_n 0, 1) := by decide +kernel
theorem dX6_chosenCause_5 : decode cX6_chosenCause 5 = .ok (.getfield 18, 3) := by decide +kernel
theorem dX6_chosenCause_8 : decode cX6_chosenCause 8 = .ok (.iload_n 1, 1) := by decide +kernel
theorem dX6_chosenCause_9 : decode cX6_chosenCause 9 = .ok (.iaload, 1) := by decide +kernel
theorem dX6_chosenCause_10 : decode cX6_chosenCause 10 = .ok (.iaload, 1) := by decide +kernel
theorem dX6_chosenCause_11 : decode cX6_chosenCause 11 = .ok (.ireturn, 1) := by decide +kernel
theorem dX6_listAble_0 : decode cX6_listAble 0 = .ok (.aload_n 0, 1) := by decide +kernel
theorem dX6_listAble_1 : decode cX6_listAble 1 = .ok (.iconst 0, 1) := by decide +kernel
theorem dX6_listAble_2 : decode cX6_listAble 2 = .ok (.putfield 41, 3) := by decide +kernel
theorem dX6_listAble_5 : decode cX6_listAble 5 = .ok (.iconst 0, 1) := by decide +kernel
theorem dX6_listAble_6 : decode cX6_listAble 6 = .ok (.istore_n 1, 1) := by decide +kernel
theorem dX6_listAble_7 : decode cX6_listAble 7 = .ok (.iload_n 1, 1) := by decide +kernel
theorem dX6_listAble_8 : decode cX6_listAble 8 = .ok (.bipush 30, 2) := by decide +kernel
theorem dX6_listAble_10 : decode cX6_listAble 10 = .ok (.if_icmp .ge 37, 3) := by decide +kernel
theorem dX6_listAble_13 : decode cX6_listAble 13 = .ok (.aload_n 0, 1) := by decide +kernel
theorem dX6_listAble_14 : decode cX6_listAble 14 = .ok (.iload_n 1, 1) := by decide +kernel
theorem dX6_listAble_15 : decode cX6_listAble 15 = .ok (.invokevirtual 51, 3) := by decide +kernel
theorem dX6_listAble_18 : decode cX6_listAble 18 = .ok (.ifCond .eq 23, 3) := by decide +kernel
theorem dX6_listAble_21 : decode cX6_listAble 21 = .ok (.aload_n 0, 1) := by decide +kernel
theorem dX6_listAble_22 : decode cX6_listAble 22 = .ok (.getfield 15, 3) := by decide +kernel
theorem dX6_listAble_25 : decode cX6_listAble 25 = .ok (.aload_n 0, 1) := by decide +kernel
theorem dX6_listAble_26 : decode cX6_listAble 26 = .ok (.getfield 41, 3) := by decide +kernel
theorem dX6_listAble_29 : decode cX6_listAble 29 = .ok (.iload_n 1, 1) := by decide +kernel
theorem dX6_listAble_30 : decode cX6_listAble 30 = .ok (.iastore, 1) := by decide +kernel
theorem dX6_listAble_31 : decode cX6_listAble 31 = .ok (.aload_n 0, 1) := by decide +kernel
theorem dX6_listAble_32 : decode cX6_listAble 32 = .ok (.dup, 1) := by decide +kernel
theorem dX6_listAble_33 : decode cX6_listAble 33 = .ok (.getfield 41, 3) := by decide +kernel
theorem dX6_listAble_36 : decode cX6_listAble 36 = .ok (.iconst 1, 1) := by decide +kernel
theorem dX6_listAble_37 : decode cX6_listAble 37 = .ok (.iadd, 1) := by decide +kernel
theorem dX6_listAble_38 : decode cX6_listAble 38 = .ok (.putfield 41, 3) := by decide +kernel
theorem dX6_listAble_41 : decode cX6_listAble 41 = .ok (.iinc 1 1, 3) := by decide +kernel
theorem dX6_listAble_44 : decode cX6_listAble 44 = .ok (.goto (-37), 3) := by decide +kernel
theorem dX6_listAble_47 : decode cX6_listAble 47 = .ok (.return_, 1) := by decide +kernel
theorem dX6_explainsAll_0 : decode cX6_explainsAll 0 = .ok (.aload_n 0, 1) := by decide +kernel
theorem dX6_explainsAll_1 : decode cX6_explainsAll 1 = .ok (.getfield 25, 3) := by decide +kernel
theorem dX6_explainsAll_4 : decode cX6_explainsAll 4 = .ok (.istore_n 2, 1) := by decide +kernel
theorem dX6_explainsAll_5 : decode cX6_explainsAll 5 = .ok (.iconst 0, 1) := by decide +kernel
theorem dX6_explainsAll_6 : decode cX6_explainsAll 6 = .ok (.istore_n 3, 1) := by decide +kernel
theorem dX6_explainsAll_7 : decode cX6_explainsAll 7 = .ok (.iload_n 3, 1) := by decide +kernel
theorem dX6_explainsAll_8 : decode cX6_explainsAll 8 = .ok (.iload_n 1, 1) := by decide +kernel
theorem dX6_explainsAll_9 : decode cX6_explainsAll 9 = .ok (.if_icmp .ge 30, 3) := by decide +kernel
theorem dX6_explainsAll_12 : decode cX6_explainsAll 12 = .ok (.iload_n 2, 1) := by decide +kernel
theorem dX6_explainsAll_13 : decode cX6_explainsAll 13 = .ok (.aload_n 0, 1) := by decide +kernel
theorem dX6_explainsAll_14 : decode cX6_explainsAll 14 = .ok (.getfield 9, 3) := by decide +kernel
theorem dX6_explainsAll_17 : decode cX6_explainsAll 17 = .ok (.aload_n 0, 1) := by decide +kernel
theorem dX6_explainsAll_18 : decode cX6_explainsAll 18 = .ok (.getfield 15, 3) := by decide +kernel
theorem dX6_explainsAll_21 : decode cX6_explainsAll 21 = .ok (.aload_n 0, 1) := by decide +kernel
theorem dX6_explainsAll_22 : decode cX6_explainsAll 22 = .ok (.getfield 18, 3) := by decide +kernel
theorem dX6_explainsAll_25 : decode cX6_explainsAll 25 = .ok (.iload_n 3, 1) := by decide +kernel
theorem dX6_explainsAll_26 : decode cX6_explainsAll 26 = .ok (.iaload, 1) := by decide +kernel
theorem dX6_explainsAll_27 : decode cX6_explainsAll 27 = .ok (.iaload, 1) := by decide +kernel
theorem dX6_explainsAll_28 : decode cX6_explainsAll 28 = .ok (.iaload, 1) := by decide +kernel
theorem dX6_explainsAll_29 : decode cX6_explainsAll 29 = .ok (.iconst (-1), 1) := by decide +kernel
theorem dX6_explainsAll_30 : decode cX6_explainsAll 30 = .ok (.ixor, 1) := by decide +kernel
theorem dX6_explainsAll_31 : decode cX6_explainsAll 31 = .ok (.iand, 1) := by decide +kernel
theorem dX6_explainsAll_32 : decode cX6_explainsAll 32 = .ok (.istore_n 2, 1) := by decide +kernel
theorem dX6_explainsAll_33 : decode cX6_explainsAll 33 = .ok (.iinc 3 1, 3) := by decide +kernel
theorem dX6_explainsAll_36 : decode cX6_explainsAll 36 = .ok (.goto (-29), 3) := by decide +kernel
theorem dX6_explainsAll_39 : decode cX6_explainsAll 39 = .ok (.iload_n 2, 1) := by decide +kernel
theorem dX6_explainsAll_40 : decode cX6_explainsAll 40 = .ok (.ifCond .ne 7, 3) := by decide +kernel
theorem dX6_explainsAll_43 : decode cX6_explainsAll 43 = .ok (.iconst 1, 1) := by decide +kernel
theorem dX6_explainsAll_44 : decode cX6_explainsAll 44 = .ok (.goto 4, 3) := by decide +kernel
theorem dX6_explainsAll_47 : decode cX6_explainsAll 47 = .ok (.iconst 0, 1) := by decide +kernel
theorem dX6_explainsAll_48 : decode cX6_explainsAll 48 = .ok (.ireturn, 1) := by decide +kernel
theorem dX6_advance_0 : decode cX6_advance 0 = .ok (.iload_n 1, 1) := by decide +kernel
theorem dX6_advance_1 : decode cX6_advance 1 = .ok (.iconst 1, 1) := by decide +kernel
theorem dX6_advance_2 : decode cX6_advance 2 = .ok (.isub, 1) := by decide +kernel
theorem dX6_advance_3 : decode cX6_advance 3 = .ok (.istore_n 2, 1) := by decide +kernel
theorem dX6_advance_4 : decode cX6_advance 4 = .ok (.iload_n 2, 1) := by decide +kernel
theorem dX6_advance_5 : decode cX6_advance 5 = .ok (.ifCond .lt 69, 3) := by decide +kernel
theorem dX6_advance_8 : decode cX6_advance 8 = .ok (.aload_n 0, 1) := by decide +kernel
theorem dX6_advance_9 : decode cX6_advance 9 = .ok (.getfield 18, 3) := by decide +kernel
theorem dX6_advance_12 : decode cX6_advance 12 = .ok (.iload_n 2, 1) := by decide +kernel
theorem dX6_advance_13 : decode cX6_advance 13 = .ok (.iaload, 1) := by decide +kernel
theorem dX6_advance_14 : decode cX6_advance 14 = .ok (.aload_n 0, 1) := by decide +kernel
theorem dX6_advance_15 : decode cX6_advance 15 = .ok (.getfield 41, 3) := by decide +kernel
theorem dX6_advance_18 : decode cX6_advance 18 = .ok (.iload_n 1, 1) := by decide +kernel
theorem dX6_advance_19 : decode cX6_advance 19 = .ok (.isub, 1) := by decide +kernel
theorem dX6_advance_20 : decode cX6_advance 20 = .ok (.iload_n 2, 1) := by decide +kernel
theorem dX6_advance_21 : decode cX6_advance 21 = .ok (.iadd, 1) := by decide +kernel
theorem dX6_advance_22 : decode cX6_advance 22 = .ok (.if_icmp .ge 46, 3) := by decide +kernel
theorem dX6_advance_25 : decode cX6_advance 25 = .ok (.aload_n 0, 1) := by decide +kernel
theorem dX6_advance_26 : decode cX6_advance 26 = .ok (.getfield 18, 3) := by decide +kernel
theorem dX6_advance_29 : decode cX6_advance 29 = .ok (.iload_n 2, 1) := by decide +kernel
theorem dX6_advance_30 : decode cX6_advance 30 = .ok (.dup2, 1) := by decide +kernel
theorem dX6_advance_31 : decode cX6_advance 31 = .ok (.iaload, 1) := by decide +kernel
theorem dX6_advance_32 : decode cX6_advance 32 = .ok (.iconst 1, 1) := by decide +kernel
theorem dX6_advance_33 : decode cX6_advance 33 = .ok (.iadd, 1) := by decide +kernel
theorem dX6_advance_34 : decode cX6_advance 34 = .ok (.iastore, 1) := by decide +kernel
theorem dX6_advance_35 : decode cX6_advance 35 = .ok (.iload_n 2, 1) := by decide +kernel
theorem dX6_advance_36 : decode cX6_advance 36 = .ok (.iconst 1, 1) := by decide +kernel
theorem dX6_advance_37 : decode cX6_advance 37 = .ok (.iadd, 1) := by decide +kernel
theorem dX6_advance_38 : decode cX6_advance 38 = .ok (.istore_n 3, 1) := by decide +kernel
theorem dX6_advance_39 : decode cX6_advance 39 = .ok (.iload_n 3, 1) := by decide +kernel
theorem dX6_advance_40 : decode cX6_advance 40 = .ok (.iload_n 1, 1) := by decide +kernel
theorem dX6_advance_41 : decode cX6_advance 41 = .ok (.if_icmp .ge 25, 3) := by decide +kernel
theorem dX6_advance_44 : decode cX6_advance 44 = .ok (.aload_n 0, 1) := by decide +kernel
theorem dX6_advance_45 : decode cX6_advance 45 = .ok (.getfield 18, 3) := by decide +kernel
theorem dX6_advance_48 : decode cX6_advance 48 = .ok (.iload_n 3, 1) := by decide +kernel
theorem dX6_advance_49 : decode cX6_advance 49 = .ok (.aload_n 0, 1) := by decide +kernel
theorem dX6_advance_50 : decode cX6_advance 50 = .ok (.getfield 18, 3) := by decide +kernel
theorem dX6_advance_53 : decode cX6_advance 53 = .ok (.iload_n 3, 1) := by decide +kernel
theorem dX6_advance_54 : decode cX6_advance 54 = .ok (.iconst 1, 1) := by decide +kernel
theorem dX6_advance_55 : decode cX6_advance 55 = .ok (.isub, 1) := by decide +kernel
theorem dX6_advance_56 : decode cX6_advance 56 = .ok (.iaload, 1) := by decide +kernel
theorem dX6_advance_57 : decode cX6_advance 57 = .ok (.iconst 1, 1) := by decide +kernel
theorem dX6_advance_58 : decode cX6_advance 58 = .ok (.iadd, 1) := by decide +kernel
theorem dX6_advance_59 : decode cX6_advance 59 = .ok (.iastore, 1) := by decide +kernel
theorem dX6_advance_60 : decode cX6_advance 60 = .ok (.iinc 3 1, 3) := by decide +kernel
theorem dX6_advance_63 : decode cX6_advance 63 = .ok (.goto (-24), 3) := by decide +kernel
theorem dX6_advance_66 : decode cX6_advance 66 = .ok (.iconst 1, 1) := by decide +kernel
theorem dX6_advance_67 : decode cX6_advance 67 = .ok (.ireturn, 1) := by decide +kernel
theorem dX6_advance_68 : decode cX6_advance 68 = .ok (.iinc 2 (-1), 3) := by decide +kernel
theorem dX6_advance_71 : decode cX6_advance 71 = .ok (.goto (-67), 3) := by decide +kernel
theorem dX6_advance_74 : decode cX6_advance 74 = .ok (.iconst 0, 1) := by decide +kernel
theorem dX6_advance_75 : decode cX6_advance 75 = .ok (.ireturn, 1) := by decide +kernel
theorem dX7_init_0 : decode cX7_init 0 = .ok (.aload_n 0, 1) := by decide +kernel
theorem dX7_init_1 : decode cX7_init 1 = .ok (.invokespecial 3, 3) := by decide +kernel
theorem dX7_init_4 : decode cX7_init 4 = .ok (.aload_n 0, 1) := by decide +kernel
theorem dX7_init_5 : decode cX7_init 5 = .ok (.bipush 30, 2) := by decide +kernel
theorem dX7_init_7 : decode cX7_init 7 = .ok (.newarray .int, 2) := by decide +kernel
theorem dX7_init_9 : decode cX7_init 9 = .ok (.putfield 9, 3) := by decide +kernel
theorem dX7_init_12 : decode cX7_init 12 = .ok (.aload_n 0, 1) := by decide +kernel
theorem dX7_init_13 : decode cX7_init 13 = .ok (.bipush 30, 2) := by decide +kernel
theorem dX7_init_15 : decode cX7_init 15 = .ok (.newarray .int, 2) := by decide +kernel
theorem dX7_init_17 : decode cX7_init 17 = .ok (.putfield 15, 3) := by decide +kernel
theorem dX7_init_20 : decode cX7_init 20 = .ok (.aload_n 0, 1) := by decide +kernel
theorem dX7_init_21 : decode cX7_init 21 = .ok (.bipush 30, 2) := by decide +kernel
theorem dX7_init_23 : decode cX7_init 23 = .ok (.newarray .int, 2) := by decide +kernel
theorem dX7_init_25 : decode cX7_init 25 = .ok (.putfield 18, 3) := by decide +kernel
theorem dX7_init_28 : decode cX7_init 28 = .ok (.aload_n 0, 1) := by decide +kernel
theorem dX7_init_29 : decode cX7_init 29 = .ok (.bipush 30, 2) := by decide +kernel
theorem dX7_init_31 : decode cX7_init 31 = .ok (.newarray .int, 2) := by decide +kernel
theorem dX7_init_33 : decode cX7_init 33 = .ok (.putfield 21, 3) := by decide +kernel
theorem dX7_init_36 : decode cX7_init 36 = .ok (.aload_n 0, 1) := by decide +kernel
theorem dX7_init_37 : decode cX7_init 37 = .ok (.bipush 30, 2) := by decide +kernel
theorem dX7_init_39 : decode cX7_init 39 = .ok (.newarray .int, 2) := by decide +kernel
theorem dX7_init_41 : decode cX7_init 41 = .ok (.putfield 24, 3) := by decide +kernel
theorem dX7_init_44 : decode cX7_init 44 = .ok (.aload_n 0, 1) := by decide +kernel
theorem dX7_init_45 : decode cX7_init 45 = .ok (.bipush 30, 2) := by decide +kernel
theorem dX7_init_47 : decode cX7_init 47 = .ok (.newarray .int, 2) := by decide +kernel
theorem dX7_init_49 : decode cX7_init 49 = .ok (.putfield 27, 3) := by decide +kernel
theorem dX7_init_52 : decode cX7_init 52 = .ok (.aload_n 0, 1) := by decide +kernel
theorem dX7_init_53 : decode cX7_init 53 = .ok (.bipush 30, 2) := by decide +kernel
theorem dX7_init_55 : decode cX7_init 55 = .ok (.newarray .int, 2) := by decide +kernel
theorem dX7_init_57 : decode cX7_init 57 = .ok (.putfield 30, 3) := by decide +kernel
theorem dX7_init_60 : decode cX7_init 60 = .ok (.aload_n 0, 1) := by decide +kernel
theorem dX7_init_61 : decode cX7_init 61 = .ok (.bipush 30, 2) := by decide +kernel
theorem dX7_init_63 : decode cX7_init 63 = .ok (.newarray .int, 2) := by decide +kernel
theorem dX7_init_65 : decode cX7_init 65 = .ok (.putfield 33, 3) := by decide +kernel
theorem dX7_init_68 : decode cX7_init 68 = .ok (.aload_n 0, 1) := by decide +kernel
theorem dX7_init_69 : decode cX7_init 69 = .ok (.bipush 30, 2) := by decide +kernel
theorem dX7_init_71 : decode cX7_init 71 = .ok (.newarray .int, 2) := by decide +kernel
theorem dX7_init_73 : decode cX7_init 73 = .ok (.putfield 36, 3) := by decide +kernel
theorem dX7_init_76 : decode cX7_init 76 = .ok (.aload_n 0, 1) := by decide +kernel
theorem dX7_init_77 : decode cX7_init 77 = .ok (.iconst 4, 1) := by decide +kernel
theorem dX7_init_78 : decode cX7_init 78 = .ok (.newarray .int, 2) := by decide +kernel
theorem dX7_init_80 : decode cX7_init 80 = .ok (.dup, 1) := by decide +kernel
theorem dX7_init_81 : decode cX7_init 81 = .ok (.iconst 0, 1) := by decide +kernel
theorem dX7_init_82 : decode cX7_init 82 = .ok (.iconst 1, 1) := by decide +kernel
theorem dX7_init_83 : decode cX7_init 83 = .ok (.iastore, 1) := by decide +kernel
theorem dX7_init_84 : decode cX7_init 84 = .ok (.dup, 1) := by decide +kernel
theorem dX7_init_85 : decode cX7_init 85 = .ok (.iconst 1, 1) := by decide +kernel
theorem dX7_init_86 : decode cX7_init 86 = .ok (.iconst 1, 1) := by decide +kernel
theorem dX7_init_87 : decode cX7_init 87 = .ok (.iastore, 1) := by decide +kernel
theorem dX7_init_88 : decode cX7_init 88 = .ok (.dup, 1) := by decide +kernel
theorem dX7_init_89 : decode cX7_init 89 = .ok (.iconst 2, 1) := by decide +kernel
theorem dX7_init_90 : decode cX7_init 90 = .ok (.iconst 1, 1) := by decide +kernel
theorem dX7_init_91 : decode cX7_init 91 = .ok (.iastore, 1) := by decide +kernel
theorem dX7_init_92 : decode cX7_init 92 = .ok (.dup, 1) := by decide +kernel
theorem dX7_init_93 : decode cX7_init 93 = .ok (.iconst 3, 1) := by decide +kernel
theorem dX7_init_94 : decode cX7_init 94 = .ok (.iconst 1, 1) := by decide +kernel
theorem dX7_init_95 : decode cX7_init 95 = .ok (.iastore, 1) := by decide +kernel
theorem dX7_init_96 : decode cX7_init 96 = .ok (.putfield 39, 3) := by decide +kernel
theorem dX7_init_99 : decode cX7_init 99 = .ok (.aload_n 0, 1) := by decide +kernel
theorem dX7_init_100 : decode cX7_init 100 = .ok (.iconst 4, 1) := by decide +kernel
theorem dX7_init_101 : decode cX7_init 101 = .ok (.newarray .int, 2) := by decide +kernel
theorem dX7_init_103 : decode cX7_init 103 = .ok (.dup, 1) := by decide +kernel
theorem dX7_init_104 : decode cX7_init 104 = .ok (.iconst 0, 1) := by decide +kernel
theorem dX7_init_105 : decode cX7_init 105 = .ok (.sipush 500, 3) := by decide +kernel
theorem dX7_init_108 : decode cX7_init 108 = .ok (.iastore, 1) := by decide +kernel
theorem dX7_init_109 : decode cX7_init 109 = .ok (.dup, 1) := by decide +kernel
theorem dX7_init_110 : decode cX7_init 110 = .ok (.iconst 1, 1) := by decide +kernel
theorem dX7_init_111 : decode cX7_init 111 = .ok (.sipush 500, 3) := by decide +kernel
theorem dX7_init_114 : decode cX7_init 114 = .ok (.iastore, 1) := by decide +kernel
theorem dX7_init_115 : decode cX7_init 115 = .ok (.dup, 1) := by decide +kernel
theorem dX7_init_116 : decode cX7_init 116 = .ok (.iconst 2, 1) := by decide +kernel
theorem dX7_init_117 : decode cX7_init 117 = .ok (.sipush 500, 3) := by decide +kernel
theorem dX7_init_120 : decode cX7_init 120 = .ok (.iastore, 1) := by decide +kernel
theorem dX7_init_121 : decode cX7_init 121 = .ok (.dup, 1) := by decide +kernel
theorem dX7_init_122 : decode cX7_init 122 = .ok (.iconst 3, 1) := by decide +kernel
theorem dX7_init_123 : decode cX7_init 123 = .ok (.sipush 500, 3) := by decide +kernel
theorem dX7_init_126 : decode cX7_init 126 = .ok (.iastore, 1) := by decide +kernel
theorem dX7_init_127 : decode cX7_init 127 = .ok (.putfield 42, 3) := by decide +kernel
theorem dX7_init_130 : decode cX7_init 130 = .ok (.aload_n 0, 1) := by decide +kernel
theorem dX7_init_131 : decode cX7_init 131 = .ok (.iconst 4, 1) := by decide +kernel
theorem dX7_init_132 : decode cX7_init 132 = .ok (.newarray .int, 2) := by decide +kernel
theorem dX7_init_134 : decode cX7_init 134 = .ok (.putfield 45, 3) := by decide +kernel
theorem dX7_init_137 : decode cX7_init 137 = .ok (.aload_n 0, 1) := by decide +kernel
theorem dX7_init_138 : decode cX7_init 138 = .ok (.iconst 4, 1) := by decide +kernel
theorem dX7_init_139 : decode cX7_init 139 = .ok (.newarray .int, 2) := by decide +kernel
theorem dX7_init_141 : decode cX7_init 141 = .ok (.putfield 48, 3) := by decide +kernel
theorem dX7_init_144 : decode cX7_init 144 = .ok (.return_, 1) := by decide +kernel
theorem dX7_add_0 : decode cX7_add 0 = .ok (.aload_n 0, 1) := by decide +kernel
theorem dX7_add_1 : decode cX7_add 1 = .ok (.getfield 51, 3) := by decide +kernel
theorem dX7_add_4 : decode cX7_add 4 = .ok (.istore 6, 2) := by decide +kernel
theorem dX7_add_6 : decode cX7_add 6 = .ok (.aload_n 0, 1) := by decide +kernel
theorem dX7_add_7 : decode cX7_add 7 = .ok (.getfield 9, 3) := by decide +kernel
theorem dX7_add_10 : decode cX7_add 10 = .ok (.iload 6, 2) := by decide +kernel
theorem dX7_add_12 : decode cX7_add 12 = .ok (.iload_n 1, 1) := by decide +kernel
theorem dX7_add_13 : decode cX7_add 13 = .ok (.iastore, 1) := by decide +kernel
theorem dX7_add_14 : decode cX7_add 14 = .ok (.aload_n 0, 1) := by decide +kernel
theorem dX7_add_15 : decode cX7_add 15 = .ok (.getfield 15, 3) := by decide +kernel
theorem dX7_add_18 : decode cX7_add 18 = .ok (.iload 6, 2) := by decide +kernel
theorem dX7_add_20 : decode cX7_add 20 = .ok (.iload_n 2, 1) := by decide +kernel
theorem dX7_add_21 : decode cX7_add 21 = .ok (.iastore, 1) := by decide +kernel
theorem dX7_add_22 : decode cX7_add 22 = .ok (.aload_n 0, 1) := by decide +kernel
theorem dX7_add_23 : decode cX7_add 23 = .ok (.getfield 18, 3) := by decide +kernel
theorem dX7_add_26 : decode cX7_add 26 = .ok (.iload 6, 2) := by decide +kernel
theorem dX7_add_28 : decode cX7_add 28 = .ok (.iload_n 3, 1) := by decide +kernel
theorem dX7_add_29 : decode cX7_add 29 = .ok (.iastore, 1) := by decide +kernel
theorem dX7_add_30 : decode cX7_add 30 = .ok (.aload_n 0, 1) := by decide +kernel
theorem dX7_add_31 : decode cX7_add 31 = .ok (.getfield 21, 3) := by decide +kernel
theorem dX7_add_34 : decode cX7_add 34 = .ok (.iload 6, 2) := by decide +kernel
theorem dX7_add_36 : decode cX7_add 36 = .ok (.iload 4, 2) := by decide +kernel
theorem dX7_add_38 : decode cX7_add 38 = .ok (.iastore, 1) := by decide +kernel
theorem dX7_add_39 : decode cX7_add 39 = .ok (.aload_n 0, 1) := by decide +kernel
theorem dX7_add_40 : decode cX7_add 40 = .ok (.getfield 24, 3) := by decide +kernel
theorem dX7_add_43 : decode cX7_add 43 = .ok (.iload 6, 2) := by decide +kernel
theorem dX7_add_45 : decode cX7_add 45 = .ok (.iload 5, 2) := by decide +kernel
theorem dX7_add_47 : decode cX7_add 47 = .ok (.iastore, 1) := by decide +kernel
theorem dX7_add_48 : decode cX7_add 48 = .ok (.iload 6, 2) := by decide +kernel
theorem dX7_add_50 : decode cX7_add 50 = .ok (.istore 7, 2) := by decide +kernel
theorem dX7_add_52 : decode cX7_add 52 = .ok (.iload 7, 2) := by decide +kernel
theorem dX7_add_54 : decode cX7_add 54 = .ok (.ifCond .le 43, 3) := by decide +kernel
theorem dX7_add_57 : decode cX7_add 57 = .ok (.aload_n 0, 1) := by decide +kernel
theorem dX7_add_58 : decode cX7_add 58 = .ok (.getfield 18, 3) := by decide +kernel
theorem dX7_add_61 : decode cX7_add 61 = .ok (.aload_n 0, 1) := by decide +kernel
theorem dX7_add_62 : decode cX7_add 62 = .ok (.getfield 27, 3) := by decide +kernel
theorem dX7_add_65 : decode cX7_add 65 = .ok (.iload 7, 2) := by decide +kernel
theorem dX7_add_67 : decode cX7_add 67 = .ok (.iconst 1, 1) := by decide +kernel
theorem dX7_add_68 : decode cX7_add 68 = .ok (.isub, 1) := by decide +kernel
theorem dX7_add_69 : decode cX7_add 69 = .ok (.iaload, 1) := by decide +kernel
theorem dX7_add_70 : decode cX7_add 70 = .ok (.iaload, 1) := by decide +kernel
theorem dX7_add_71 : decode cX7_add 71 = .ok (.iload_n 3, 1) := by decide +kernel
theorem dX7_add_72 : decode cX7_add 72 = .ok (.if_icmp .le 25, 3) := by decide +kernel
theorem dX7_add_75 : decode cX7_add 75 = .ok (.aload_n 0, 1) := by decide +kernel
theorem dX7_add_76 : decode cX7_add 76 = .ok (.getfield 27, 3) := by decide +kernel
theorem dX7_add_79 : decode cX7_add 79 = .ok (.iload 7, 2) := by decide +kernel
theorem dX7_add_81 : decode cX7_add 81 = .ok (.aload_n 0, 1) := by decide +kernel
theorem dX7_add_82 : decode cX7_add 82 = .ok (.getfield 27, 3) := by decide +kernel
theorem dX7_add_85 : decode cX7_add 85 = .ok (.iload 7, 2) := by decide +kernel
theorem dX7_add_87 : decode cX7_add 87 = .ok (.iconst 1, 1) := by decide +kernel
theorem dX7_add_88 : decode cX7_add 88 = .ok (.isub, 1) := by decide +kernel
end
section
/-! decode rows, by program out of what TURN prints -/
theorem dX7_add_89 : decode cX7_add 89 = .ok (.iaload, 1) := by decide +kernel
theorem dX7_add_90 : decode cX7_add 90 = .ok (.iastore, 1) := by decide +kernel
theorem dX7_add_91 : decode cX7_add 91 = .ok (.iinc 7 (-1), 3) := by decide +kernel
theorem dX7_add_94 : decode cX7_add 94 = .ok (.goto (-42), 3) := by decide +kernel
theorem dX7_add_97 : decode cX7_add 97 = .ok (.aload_n 0, 1) := by decide +kernel
theorem dX7_add_98 : decode cX7_add 98 = .ok (.getfield 27, 3) := by decide +kernel
theorem dX7_add_101 : decode cX7_add 101 = .ok (.iload 7, 2) := by decide +kernel
theorem dX7_add_103 : decode cX7_add 103 = .ok (.iload 6, 2) := by decide +kernel
theorem dX7_add_105 : decode cX7_add 105 = .ok (.iastore, 1) := by decide +kernel
theorem dX7_add_106 : decode cX7_add 106 = .ok (.aload_n 0, 1) := by decide +kernel
theorem dX7_add_107 : decode cX7_add 107 = .ok (.dup, 1) := by decide +kernel
theorem dX7_add_108 : decode cX7_add 108 = .ok (.getfield 51, 3) := by decide +kernel
theorem dX7_add_111 : decode cX7_add 111 = .ok (.iconst 1, 1) := by decide +kernel
theorem dX7_add_112 : decode cX7_add 112 = .ok (.iadd, 1) := by decide +kernel
theorem dX7_add_113 : decode cX7_add 113 = .ok (.putfield 51, 3) := by decide +kernel
theorem dX7_add_116 : decode cX7_add 116 = .ok (.iload 6, 2) := by decide +kernel
theorem dX7_add_118 : decode cX7_add 118 = .ok (.ireturn, 1) := by decide +kernel
theorem dX7_waiting_0 : decode cX7_waiting 0 = .ok (.iconst 0, 1) := by decide +kernel
theorem dX7_waiting_1 : decode cX7_waiting 1 = .ok (.istore_n 1, 1) := by decide +kernel
theorem dX7_waiting_2 : decode cX7_waiting 2 = .ok (.iconst 0, 1) := by decide +kernel
theorem dX7_waiting_3 : decode cX7_waiting 3 = .ok (.istore_n 2, 1) := by decide +kernel
theorem dX7_waiting_4 : decode cX7_waiting 4 = .ok (.iload_n 2, 1) := by decide +kernel
theorem dX7_waiting_5 : decode cX7_waiting 5 = .ok (.aload_n 0, 1) := by decide +kernel
theorem dX7_waiting_6 : decode cX7_waiting 6 = .ok (.getfield 51, 3) := by decide +kernel
theorem dX7_waiting_9 : decode cX7_waiting 9 = .ok (.if_icmp .ge 22, 3) := by decide +kernel
theorem dX7_waiting_12 : decode cX7_waiting 12 = .ok (.aload_n 0, 1) := by decide +kernel
theorem dX7_waiting_13 : decode cX7_waiting 13 = .ok (.getfield 15, 3) := by decide +kernel
theorem dX7_waiting_16 : decode cX7_waiting 16 = .ok (.iload_n 2, 1) := by decide +kernel
theorem dX7_waiting_17 : decode cX7_waiting 17 = .ok (.iaload, 1) := by decide +kernel
theorem dX7_waiting_18 : decode cX7_waiting 18 = .ok (.iconst (-1), 1) := by decide +kernel
theorem dX7_waiting_19 : decode cX7_waiting 19 = .ok (.if_icmp .ne 6, 3) := by decide +kernel
theorem dX7_waiting_22 : decode cX7_waiting 22 = .ok (.iinc 1 1, 3) := by decide +kernel
theorem dX7_waiting_25 : decode cX7_waiting 25 = .ok (.iinc 2 1, 3) := by decide +kernel
theorem dX7_waiting_28 : decode cX7_waiting 28 = .ok (.goto (-24), 3) := by decide +kernel
theorem dX7_waiting_31 : decode cX7_waiting 31 = .ok (.iload_n 1, 1) := by decide +kernel
theorem dX7_waiting_32 : decode cX7_waiting 32 = .ok (.ireturn, 1) := by decide +kernel
theorem dX7_paceAt_0 : decode cX7_paceAt 0 = .ok (.aload_n 0, 1) := by decide +kernel
theorem dX7_paceAt_1 : decode cX7_paceAt 1 = .ok (.getfield 39, 3) := by decide +kernel
theorem dX7_paceAt_4 : decode cX7_paceAt 4 = .ok (.iload_n 1, 1) := by decide +kernel
theorem dX7_paceAt_5 : decode cX7_paceAt 5 = .ok (.iaload, 1) := by decide +kernel
theorem dX7_paceAt_6 : decode cX7_paceAt 6 = .ok (.aload_n 0, 1) := by decide +kernel
theorem dX7_paceAt_7 : decode cX7_paceAt 7 = .ok (.getfield 42, 3) := by decide +kernel
theorem dX7_paceAt_10 : decode cX7_paceAt 10 = .ok (.iload_n 1, 1) := by decide +kernel
theorem dX7_paceAt_11 : decode cX7_paceAt 11 = .ok (.iaload, 1) := by decide +kernel
theorem dX7_paceAt_12 : decode cX7_paceAt 12 = .ok (.imul, 1) := by decide +kernel
theorem dX7_paceAt_13 : decode cX7_paceAt 13 = .ok (.ireturn, 1) := by decide +kernel
theorem dX7_work_0 : decode cX7_work 0 = .ok (.iconst 0, 1) := by decide +kernel
theorem dX7_work_1 : decode cX7_work 1 = .ok (.istore_n 2, 1) := by decide +kernel
theorem dX7_work_2 : decode cX7_work 2 = .ok (.iload_n 2, 1) := by decide +kernel
theorem dX7_work_3 : decode cX7_work 3 = .ok (.iconst 4, 1) := by decide +kernel
theorem dX7_work_4 : decode cX7_work 4 = .ok (.if_icmp .ge 23, 3) := by decide +kernel
theorem dX7_work_7 : decode cX7_work 7 = .ok (.aload_n 0, 1) := by decide +kernel
theorem dX7_work_8 : decode cX7_work 8 = .ok (.getfield 45, 3) := by decide +kernel
theorem dX7_work_11 : decode cX7_work 11 = .ok (.iload_n 2, 1) := by decide +kernel
theorem dX7_work_12 : decode cX7_work 12 = .ok (.iconst 0, 1) := by decide +kernel
theorem dX7_work_13 : decode cX7_work 13 = .ok (.iastore, 1) := by decide +kernel
theorem dX7_work_14 : decode cX7_work 14 = .ok (.aload_n 0, 1) := by decide +kernel
theorem dX7_work_15 : decode cX7_work 15 = .ok (.getfield 48, 3) := by decide +kernel
theorem dX7_work_18 : decode cX7_work 18 = .ok (.iload_n 2, 1) := by decide +kernel
theorem dX7_work_19 : decode cX7_work 19 = .ok (.iconst 0, 1) := by decide +kernel
theorem dX7_work_20 : decode cX7_work 20 = .ok (.iastore, 1) := by decide +kernel
theorem dX7_work_21 : decode cX7_work 21 = .ok (.iinc 2 1, 3) := by decide +kernel
theorem dX7_work_24 : decode cX7_work 24 = .ok (.goto (-22), 3) := by decide +kernel
theorem dX7_work_27 : decode cX7_work 27 = .ok (.iconst 0, 1) := by decide +kernel
theorem dX7_work_28 : decode cX7_work 28 = .ok (.istore_n 2, 1) := by decide +kernel
theorem dX7_work_29 : decode cX7_work 29 = .ok (.iload_n 2, 1) := by decide +kernel
theorem dX7_work_30 : decode cX7_work 30 = .ok (.aload_n 0, 1) := by decide +kernel
theorem dX7_work_31 : decode cX7_work 31 = .ok (.getfield 51, 3) := by decide +kernel
theorem dX7_work_34 : decode cX7_work 34 = .ok (.if_icmp .ge 38, 3) := by decide +kernel
theorem dX7_work_37 : decode cX7_work 37 = .ok (.aload_n 0, 1) := by decide +kernel
theorem dX7_work_38 : decode cX7_work 38 = .ok (.getfield 27, 3) := by decide +kernel
theorem dX7_work_41 : decode cX7_work 41 = .ok (.iload_n 2, 1) := by decide +kernel
theorem dX7_work_42 : decode cX7_work 42 = .ok (.iaload, 1) := by decide +kernel
theorem dX7_work_43 : decode cX7_work 43 = .ok (.istore_n 3, 1) := by decide +kernel
theorem dX7_work_44 : decode cX7_work 44 = .ok (.aload_n 0, 1) := by decide +kernel
theorem dX7_work_45 : decode cX7_work 45 = .ok (.getfield 15, 3) := by decide +kernel
theorem dX7_work_48 : decode cX7_work 48 = .ok (.iload_n 3, 1) := by decide +kernel
theorem dX7_work_49 : decode cX7_work 49 = .ok (.iaload, 1) := by decide +kernel
theorem dX7_work_50 : decode cX7_work 50 = .ok (.iconst (-1), 1) := by decide +kernel
theorem dX7_work_51 : decode cX7_work 51 = .ok (.if_icmp .eq 15, 3) := by decide +kernel
theorem dX7_work_54 : decode cX7_work 54 = .ok (.aload_n 0, 1) := by decide +kernel
theorem dX7_work_55 : decode cX7_work 55 = .ok (.iload_n 3, 1) := by decide +kernel
theorem dX7_work_56 : decode cX7_work 56 = .ok (.aload_n 0, 1) := by decide +kernel
theorem dX7_work_57 : decode cX7_work 57 = .ok (.getfield 15, 3) := by decide +kernel
theorem dX7_work_60 : decode cX7_work 60 = .ok (.iload_n 3, 1) := by decide +kernel
theorem dX7_work_61 : decode cX7_work 61 = .ok (.iaload, 1) := by decide +kernel
theorem dX7_work_62 : decode cX7_work 62 = .ok (.iload_n 1, 1) := by decide +kernel
theorem dX7_work_63 : decode cX7_work 63 = .ok (.invokevirtual 55, 3) := by decide +kernel
theorem dX7_work_66 : decode cX7_work 66 = .ok (.iinc 2 1, 3) := by decide +kernel
theorem dX7_work_69 : decode cX7_work 69 = .ok (.goto (-40), 3) := by decide +kernel
theorem dX7_work_72 : decode cX7_work 72 = .ok (.return_, 1) := by decide +kernel
theorem dX7_workOne_0 : decode cX7_workOne 0 = .ok (.aload_n 0, 1) := by decide +kernel
theorem dX7_workOne_1 : decode cX7_workOne 1 = .ok (.getfield 30, 3) := by decide +kernel
theorem dX7_workOne_4 : decode cX7_workOne 4 = .ok (.iload_n 1, 1) := by decide +kernel
theorem dX7_workOne_5 : decode cX7_workOne 5 = .ok (.aload_n 0, 1) := by decide +kernel
theorem dX7_workOne_6 : decode cX7_workOne 6 = .ok (.iload_n 1, 1) := by decide +kernel
theorem dX7_workOne_7 : decode cX7_workOne 7 = .ok (.iload_n 2, 1) := by decide +kernel
theorem dX7_workOne_8 : decode cX7_workOne 8 = .ok (.aload_n 0, 1) := by decide +kernel
theorem dX7_workOne_9 : decode cX7_workOne 9 = .ok (.getfield 45, 3) := by decide +kernel
theorem dX7_workOne_12 : decode cX7_workOne 12 = .ok (.iload_n 2, 1) := by decide +kernel
theorem dX7_workOne_13 : decode cX7_workOne 13 = .ok (.iaload, 1) := by decide +kernel
theorem dX7_workOne_14 : decode cX7_workOne 14 = .ok (.invokevirtual 59, 3) := by decide +kernel
theorem dX7_workOne_17 : decode cX7_workOne 17 = .ok (.iastore, 1) := by decide +kernel
theorem dX7_workOne_18 : decode cX7_workOne 18 = .ok (.aload_n 0, 1) := by decide +kernel
theorem dX7_workOne_19 : decode cX7_workOne 19 = .ok (.getfield 33, 3) := by decide +kernel
theorem dX7_workOne_22 : decode cX7_workOne 22 = .ok (.iload_n 1, 1) := by decide +kernel
theorem dX7_workOne_23 : decode cX7_workOne 23 = .ok (.aload_n 0, 1) := by decide +kernel
theorem dX7_workOne_24 : decode cX7_workOne 24 = .ok (.aload_n 0, 1) := by decide +kernel
theorem dX7_workOne_25 : decode cX7_workOne 25 = .ok (.getfield 30, 3) := by decide +kernel
theorem dX7_workOne_28 : decode cX7_workOne 28 = .ok (.iload_n 1, 1) := by decide +kernel
theorem dX7_workOne_29 : decode cX7_workOne 29 = .ok (.iaload, 1) := by decide +kernel
theorem dX7_workOne_30 : decode cX7_workOne 30 = .ok (.iload_n 1, 1) := by decide +kernel
theorem dX7_workOne_31 : decode cX7_workOne 31 = .ok (.iload_n 2, 1) := by decide +kernel
theorem dX7_workOne_32 : decode cX7_workOne 32 = .ok (.iload_n 3, 1) := by decide +kernel
theorem dX7_workOne_33 : decode cX7_workOne 33 = .ok (.invokevirtual 63, 3) := by decide +kernel
theorem dX7_workOne_36 : decode cX7_workOne 36 = .ok (.iastore, 1) := by decide +kernel
theorem dX7_workOne_37 : decode cX7_workOne 37 = .ok (.aload_n 0, 1) := by decide +kernel
theorem dX7_workOne_38 : decode cX7_workOne 38 = .ok (.getfield 36, 3) := by decide +kernel
theorem dX7_workOne_41 : decode cX7_workOne 41 = .ok (.iload_n 1, 1) := by decide +kernel
theorem dX7_workOne_42 : decode cX7_workOne 42 = .ok (.aload_n 0, 1) := by decide +kernel
theorem dX7_workOne_43 : decode cX7_workOne 43 = .ok (.getfield 48, 3) := by decide +kernel
theorem dX7_workOne_46 : decode cX7_workOne 46 = .ok (.iload_n 2, 1) := by decide +kernel
theorem dX7_workOne_47 : decode cX7_workOne 47 = .ok (.iaload, 1) := by decide +kernel
theorem dX7_workOne_48 : decode cX7_workOne 48 = .ok (.iastore, 1) := by decide +kernel
theorem dX7_workOne_49 : decode cX7_workOne 49 = .ok (.aload_n 0, 1) := by decide +kernel
theorem dX7_workOne_50 : decode cX7_workOne 50 = .ok (.getfield 45, 3) := by decide +kernel
theorem dX7_workOne_53 : decode cX7_workOne 53 = .ok (.iload_n 2, 1) := by decide +kernel
theorem dX7_workOne_54 : decode cX7_workOne 54 = .ok (.aload_n 0, 1) := by decide +kernel
theorem dX7_workOne_55 : decode cX7_workOne 55 = .ok (.getfield 30, 3) := by decide +kernel
theorem dX7_workOne_58 : decode cX7_workOne 58 = .ok (.iload_n 1, 1) := by decide +kernel
theorem dX7_workOne_59 : decode cX7_workOne 59 = .ok (.iaload, 1) := by decide +kernel
theorem dX7_workOne_60 : decode cX7_workOne 60 = .ok (.aload_n 0, 1) := by decide +kernel
theorem dX7_workOne_61 : decode cX7_workOne 61 = .ok (.getfield 33, 3) := by decide +kernel
theorem dX7_workOne_64 : decode cX7_workOne 64 = .ok (.iload_n 1, 1) := by decide +kernel
theorem dX7_workOne_65 : decode cX7_workOne 65 = .ok (.iaload, 1) := by decide +kernel
theorem dX7_workOne_66 : decode cX7_workOne 66 = .ok (.iadd, 1) := by decide +kernel
theorem dX7_workOne_67 : decode cX7_workOne 67 = .ok (.iastore, 1) := by decide +kernel
theorem dX7_workOne_68 : decode cX7_workOne 68 = .ok (.aload_n 0, 1) := by decide +kernel
theorem dX7_workOne_69 : decode cX7_workOne 69 = .ok (.getfield 48, 3) := by decide +kernel
theorem dX7_workOne_72 : decode cX7_workOne 72 = .ok (.iload_n 2, 1) := by decide +kernel
theorem dX7_workOne_73 : decode cX7_workOne 73 = .ok (.dup2, 1) := by decide +kernel
theorem dX7_workOne_74 : decode cX7_workOne 74 = .ok (.iaload, 1) := by decide +kernel
theorem dX7_workOne_75 : decode cX7_workOne 75 = .ok (.aload_n 0, 1) := by decide +kernel
theorem dX7_workOne_76 : decode cX7_workOne 76 = .ok (.getfield 33, 3) := by decide +kernel
theorem dX7_workOne_79 : decode cX7_workOne 79 = .ok (.iload_n 1, 1) := by decide +kernel
theorem dX7_workOne_80 : decode cX7_workOne 80 = .ok (.iaload, 1) := by decide +kernel
theorem dX7_workOne_81 : decode cX7_workOne 81 = .ok (.iadd, 1) := by decide +kernel
theorem dX7_workOne_82 : decode cX7_workOne 82 = .ok (.iastore, 1) := by decide +kernel
theorem dX7_workOne_83 : decode cX7_workOne 83 = .ok (.return_, 1) := by decide +kernel
theorem dX7_startOf_0 : decode cX7_startOf 0 = .ok (.iload_n 3, 1) := by decide +kernel
theorem dX7_startOf_1 : decode cX7_startOf 1 = .ok (.aload_n 0, 1) := by decide +kernel
theorem dX7_startOf_2 : decode cX7_startOf 2 = .ok (.getfield 18, 3) := by decide +kernel
theorem dX7_startOf_5 : decode cX7_startOf 5 = .ok (.iload_n 1, 1) := by decide +kernel
theorem dX7_startOf_6 : decode cX7_startOf 6 = .ok (.iaload, 1) := by decide +kernel
theorem dX7_startOf_7 : decode cX7_startOf 7 = .ok (.aload_n 0, 1) := by decide +kernel
theorem dX7_startOf_8 : decode cX7_startOf 8 = .ok (.iload_n 2, 1) := by decide +kernel
theorem dX7_startOf_9 : decode cX7_startOf 9 = .ok (.invokevirtual 67, 3) := by decide +kernel
theorem dX7_startOf_12 : decode cX7_startOf 12 = .ok (.imul, 1) := by decide +kernel
theorem dX7_startOf_13 : decode cX7_startOf 13 = .ok (.invokestatic 71, 3) := by decide +kernel
theorem dX7_startOf_16 : decode cX7_startOf 16 = .ok (.ireturn, 1) := by decide +kernel
theorem dX7_workedFrom_0 : decode cX7_workedFrom 0 = .ok (.aload_n 0, 1) := by decide +kernel
theorem dX7_workedFrom_1 : decode cX7_workedFrom 1 = .ok (.getfield 18, 3) := by decide +kernel
theorem dX7_workedFrom_4 : decode cX7_workedFrom 4 = .ok (.iload_n 2, 1) := by decide +kernel
theorem dX7_workedFrom_5 : decode cX7_workedFrom 5 = .ok (.iaload, 1) := by decide +kernel
theorem dX7_workedFrom_6 : decode cX7_workedFrom 6 = .ok (.iload 4, 2) := by decide +kernel
theorem dX7_workedFrom_8 : decode cX7_workedFrom 8 = .ok (.iadd, 1) := by decide +kernel
theorem dX7_workedFrom_9 : decode cX7_workedFrom 9 = .ok (.aload_n 0, 1) := by decide +kernel
theorem dX7_workedFrom_10 : decode cX7_workedFrom 10 = .ok (.iload_n 3, 1) := by decide +kernel
theorem dX7_workedFrom_11 : decode cX7_workedFrom 11 = .ok (.invokevirtual 67, 3) := by decide +kernel
theorem dX7_workedFrom_14 : decode cX7_workedFrom 14 = .ok (.imul, 1) := by decide +kernel
theorem dX7_workedFrom_15 : decode cX7_workedFrom 15 = .ok (.iload_n 1, 1) := by decide +kernel
theorem dX7_workedFrom_16 : decode cX7_workedFrom 16 = .ok (.isub, 1) := by decide +kernel
theorem dX7_workedFrom_17 : decode cX7_workedFrom 17 = .ok (.istore 5, 2) := by decide +kernel
theorem dX7_workedFrom_19 : decode cX7_workedFrom 19 = .ok (.iconst 0, 1) := by decide +kernel
theorem dX7_workedFrom_20 : decode cX7_workedFrom 20 = .ok (.aload_n 0, 1) := by decide +kernel
theorem dX7_workedFrom_21 : decode cX7_workedFrom 21 = .ok (.getfield 21, 3) := by decide +kernel
theorem dX7_workedFrom_24 : decode cX7_workedFrom 24 = .ok (.iload_n 2, 1) := by decide +kernel
theorem dX7_workedFrom_25 : decode cX7_workedFrom 25 = .ok (.iaload, 1) := by decide +kernel
theorem dX7_workedFrom_26 : decode cX7_workedFrom 26 = .ok (.iload 5, 2) := by decide +kernel
theorem dX7_workedFrom_28 : decode cX7_workedFrom 28 = .ok (.invokestatic 77, 3) := by decide +kernel
theorem dX7_workedFrom_31 : decode cX7_workedFrom 31 = .ok (.invokestatic 71, 3) := by decide +kernel
theorem dX7_workedFrom_34 : decode cX7_workedFrom 34 = .ok (.ireturn, 1) := by decide +kernel
theorem dX7_spoiltOf_0 : decode cX7_spoiltOf 0 = .ok (.aload_n 0, 1) := by decide +kernel
theorem dX7_spoiltOf_1 : decode cX7_spoiltOf 1 = .ok (.getfield 15, 3) := by decide +kernel
theorem dX7_spoiltOf_4 : decode cX7_spoiltOf 4 = .ok (.iload_n 1, 1) := by decide +kernel
theorem dX7_spoiltOf_5 : decode cX7_spoiltOf 5 = .ok (.iaload, 1) := by decide +kernel
theorem dX7_spoiltOf_6 : decode cX7_spoiltOf 6 = .ok (.iconst (-1), 1) := by decide +kernel
theorem dX7_spoiltOf_7 : decode cX7_spoiltOf 7 = .ok (.if_icmp .ne 7, 3) := by decide +kernel
theorem dX7_spoiltOf_10 : decode cX7_spoiltOf 10 = .ok (.iconst 0, 1) := by decide +kernel
theorem dX7_spoiltOf_11 : decode cX7_spoiltOf 11 = .ok (.goto 16, 3) := by decide +kernel
theorem dX7_spoiltOf_14 : decode cX7_spoiltOf 14 = .ok (.aload_n 0, 1) := by decide +kernel
theorem dX7_spoiltOf_15 : decode cX7_spoiltOf 15 = .ok (.getfield 21, 3) := by decide +kernel
theorem dX7_spoiltOf_18 : decode cX7_spoiltOf 18 = .ok (.iload_n 1, 1) := by decide +kernel
theorem dX7_spoiltOf_19 : decode cX7_spoiltOf 19 = .ok (.iaload, 1) := by decide +kernel
theorem dX7_spoiltOf_20 : decode cX7_spoiltOf 20 = .ok (.aload_n 0, 1) := by decide +kernel
theorem dX7_spoiltOf_21 : decode cX7_spoiltOf 21 = .ok (.getfield 33, 3) := by decide +kernel
theorem dX7_spoiltOf_24 : decode cX7_spoiltOf 24 = .ok (.iload_n 1, 1) := by decide +kernel
theorem dX7_spoiltOf_25 : decode cX7_spoiltOf 25 = .ok (.iaload, 1) := by decide +kernel
theorem dX7_spoiltOf_26 : decode cX7_spoiltOf 26 = .ok (.isub, 1) := by decide +kernel
theorem dX7_spoiltOf_27 : decode cX7_spoiltOf 27 = .ok (.ireturn, 1) := by decide +kernel
theorem dX7_lastHourOf_0 : decode cX7_lastHourOf 0 = .ok (.aload_n 0, 1) := by decide +kernel
theorem dX7_lastHourOf_1 : decode cX7_lastHourOf 1 = .ok (.getfield 15, 3) := by decide +kernel
theorem dX7_lastHourOf_4 : decode cX7_lastHourOf 4 = .ok (.iload_n 1, 1) := by decide +kernel
theorem dX7_lastHourOf_5 : decode cX7_lastHourOf 5 = .ok (.iaload, 1) := by decide +kernel
theorem dX7_lastHourOf_6 : decode cX7_lastHourOf 6 = .ok (.iconst (-1), 1) := by decide +kernel
theorem dX7_lastHourOf_7 : decode cX7_lastHourOf 7 = .ok (.if_icmp .eq 12, 3) := by decide +kernel
theorem dX7_lastHourOf_10 : decode cX7_lastHourOf 10 = .ok (.aload_n 0, 1) := by decide +kernel
theorem dX7_lastHourOf_11 : decode cX7_lastHourOf 11 = .ok (.getfield 33, 3) := by decide +kernel
theorem dX7_lastHourOf_14 : decode cX7_lastHourOf 14 = .ok (.iload_n 1, 1) := by decide +kernel
theorem dX7_lastHourOf_15 : decode cX7_lastHourOf 15 = .ok (.iaload, 1) := by decide +kernel
theorem dX7_lastHourOf_16 : decode cX7_lastHourOf 16 = .ok (.ifCond .ne 6, 3) := by decide +kernel
theorem dX7_lastHourOf_19 : decode cX7_lastHourOf 19 = .ok (.bipush (-6), 2) := by decide +kernel
theorem dX7_lastHourOf_21 : decode cX7_lastHourOf 21 = .ok (.ireturn, 1) := by decide +kernel
theorem dX7_lastHourOf_22 : decode cX7_lastHourOf 22 = .ok (.aload_n 0, 1) := by decide +kernel
theorem dX7_lastHourOf_23 : decode cX7_lastHourOf 23 = .ok (.getfield 30, 3) := by decide +kernel
theorem dX7_lastHourOf_26 : decode cX7_lastHourOf 26 = .ok (.iload_n 1, 1) := by decide +kernel
theorem dX7_lastHourOf_27 : decode cX7_lastHourOf 27 = .ok (.iaload, 1) := by decide +kernel
theorem dX7_lastHourOf_28 : decode cX7_lastHourOf 28 = .ok (.aload_n 0, 1) := by decide +kernel
theorem dX7_lastHourOf_29 : decode cX7_lastHourOf 29 = .ok (.getfield 33, 3) := by decide +kernel
theorem dX7_lastHourOf_32 : decode cX7_lastHourOf 32 = .ok (.iload_n 1, 1) := by decide +kernel
theorem dX7_lastHourOf_33 : decode cX7_lastHourOf 33 = .ok (.iaload, 1) := by decide +kernel
theorem dX7_lastHourOf_34 : decode cX7_lastHourOf 34 = .ok (.iadd, 1) := by decide +kernel
theorem dX7_lastHourOf_35 : decode cX7_lastHourOf 35 = .ok (.iconst 1, 1) := by decide +kernel
theorem dX7_lastHourOf_36 : decode cX7_lastHourOf 36 = .ok (.isub, 1) := by decide +kernel
theorem dX7_lastHourOf_37 : decode cX7_lastHourOf 37 = .ok (.aload_n 0, 1) := by decide +kernel
theorem dX7_lastHourOf_38 : decode cX7_lastHourOf 38 = .ok (.aload_n 0, 1) := by decide +kernel
theorem dX7_lastHourOf_39 : decode cX7_lastHourOf 39 = .ok (.getfield 15, 3) := by decide +kernel
theorem dX7_lastHourOf_42 : decode cX7_lastHourOf 42 = .ok (.iload_n 1, 1) := by decide +kernel
theorem dX7_lastHourOf_43 : decode cX7_lastHourOf 43 = .ok (.iaload, 1) := by decide +kernel
theorem dX7_lastHourOf_44 : decode cX7_lastHourOf 44 = .ok (.invokevirtual 67, 3) := by decide +kernel
theorem dX7_lastHourOf_47 : decode cX7_lastHourOf 47 = .ok (.idiv, 1) := by decide +kernel
theorem dX7_lastHourOf_48 : decode cX7_lastHourOf 48 = .ok (.ireturn, 1) := by decide +kernel
theorem dX7_spoiltAt_0 : decode cX7_spoiltAt 0 = .ok (.iconst 0, 1) := by decide +kernel
theorem dX7_spoiltAt_1 : decode cX7_spoiltAt 1 = .ok (.istore_n 2, 1) := by decide +kernel
theorem dX7_spoiltAt_2 : decode cX7_spoiltAt 2 = .ok (.iconst 0, 1) := by decide +kernel
theorem dX7_spoiltAt_3 : decode cX7_spoiltAt 3 = .ok (.istore_n 3, 1) := by decide +kernel
theorem dX7_spoiltAt_4 : decode cX7_spoiltAt 4 = .ok (.iload_n 3, 1) := by decide +kernel
theorem dX7_spoiltAt_5 : decode cX7_spoiltAt 5 = .ok (.aload_n 0, 1) := by decide +kernel
theorem dX7_spoiltAt_6 : decode cX7_spoiltAt 6 = .ok (.getfield 51, 3) := by decide +kernel
theorem dX7_spoiltAt_9 : decode cX7_spoiltAt 9 = .ok (.if_icmp .ge 27, 3) := by decide +kernel
theorem dX7_spoiltAt_12 : decode cX7_spoiltAt 12 = .ok (.aload_n 0, 1) := by decide +kernel
theorem dX7_spoiltAt_13 : decode cX7_spoiltAt 13 = .ok (.getfield 15, 3) := by decide +kernel
theorem dX7_spoiltAt_16 : decode cX7_spoiltAt 16 = .ok (.iload_n 3, 1) := by decide +kernel
theorem dX7_spoiltAt_17 : decode cX7_spoiltAt 17 = .ok (.iaload, 1) := by decide +kernel
theorem dX7_spoiltAt_18 : decode cX7_spoiltAt 18 = .ok (.iload_n 1, 1) := by decide +kernel
theorem dX7_spoiltAt_19 : decode cX7_spoiltAt 19 = .ok (.if_icmp .ne 11, 3) := by decide +kernel
theorem dX7_spoiltAt_22 : decode cX7_spoiltAt 22 = .ok (.iload_n 2, 1) := by decide +kernel
theorem dX7_spoiltAt_23 : decode cX7_spoiltAt 23 = .ok (.aload_n 0, 1) := by decide +kernel
theorem dX7_spoiltAt_24 : decode cX7_spoiltAt 24 = .ok (.iload_n 3, 1) := by decide +kernel
theorem dX7_spoiltAt_25 : decode cX7_spoiltAt 25 = .ok (.invokevirtual 80, 3) := by decide +kernel
theorem dX7_spoiltAt_28 : decode cX7_spoiltAt 28 = .ok (.iadd, 1) := by decide +kernel
theorem dX7_spoiltAt_29 : decode cX7_spoiltAt 29 = .ok (.istore_n 2, 1) := by decide +kernel
theorem dX7_spoiltAt_30 : decode cX7_spoiltAt 30 = .ok (.iinc 3 1, 3) := by decide +kernel
theorem dX7_spoiltAt_33 : decode cX7_spoiltAt 33 = .ok (.goto (-29), 3) := by decide +kernel
theorem dX7_spoiltAt_36 : decode cX7_spoiltAt 36 = .ok (.iload_n 2, 1) := by decide +kernel
theorem dX7_spoiltAt_37 : decode cX7_spoiltAt 37 = .ok (.ireturn, 1) := by decide +kernel
theorem dX7_spoiltWith_0 : decode cX7_spoiltWith 0 = .ok (.iconst 0, 1) := by decide +kernel
theorem dX7_spoiltWith_1 : decode cX7_spoiltWith 1 = .ok (.istore 5, 2) := by decide +kernel
theorem dX7_spoiltWith_3 : decode cX7_spoiltWith 3 = .ok (.iconst 0, 1) := by decide +kernel
theorem dX7_spoiltWith_4 : decode cX7_spoiltWith 4 = .ok (.istore 6, 2) := by decide +kernel
theorem dX7_spoiltWith_6 : decode cX7_spoiltWith 6 = .ok (.iconst 0, 1) := by decide +kernel
theorem dX7_spoiltWith_7 : decode cX7_spoiltWith 7 = .ok (.istore 7, 2) := by decide +kernel
theorem dX7_spoiltWith_9 : decode cX7_spoiltWith 9 = .ok (.iload 7, 2) := by decide +kernel
theorem dX7_spoiltWith_11 : decode cX7_spoiltWith 11 = .ok (.aload_n 0, 1) := by decide +kernel
theorem dX7_spoiltWith_12 : decode cX7_spoiltWith 12 = .ok (.getfield 51, 3) := by decide +kernel
theorem dX7_spoiltWith_15 : decode cX7_spoiltWith 15 = .ok (.if_icmp .ge 110, 3) := by decide +kernel
theorem dX7_spoiltWith_18 : decode cX7_spoiltWith 18 = .ok (.aload_n 0, 1) := by decide +kernel
theorem dX7_spoiltWith_19 : decode cX7_spoiltWith 19 = .ok (.getfield 27, 3) := by decide +kernel
theorem dX7_spoiltWith_22 : decode cX7_spoiltWith 22 = .ok (.iload 7, 2) := by decide +kernel
theorem dX7_spoiltWith_24 : decode cX7_spoiltWith 24 = .ok (.iaload, 1) := by decide +kernel
theorem dX7_spoiltWith_25 : decode cX7_spoiltWith 25 = .ok (.istore 8, 2) := by decide +kernel
theorem dX7_spoiltWith_27 : decode cX7_spoiltWith 27 = .ok (.aload_n 0, 1) := by decide +kernel
theorem dX7_spoiltWith_28 : decode cX7_spoiltWith 28 = .ok (.getfield 15, 3) := by decide +kernel
theorem dX7_spoiltWith_31 : decode cX7_spoiltWith 31 = .ok (.iload 8, 2) := by decide +kernel
theorem dX7_spoiltWith_33 : decode cX7_spoiltWith 33 = .ok (.iaload, 1) := by decide +kernel
theorem dX7_spoiltWith_34 : decode cX7_spoiltWith 34 = .ok (.iconst (-1), 1) := by decide +kernel
theorem dX7_spoiltWith_35 : decode cX7_spoiltWith 35 = .ok (.if_icmp .ne 19, 3) := by decide +kernel
theorem dX7_spoiltWith_38 : decode cX7_spoiltWith 38 = .ok (.iload_n 2, 1) := by decide +kernel
theorem dX7_spoiltWith_39 : decode cX7_spoiltWith 39 = .ok (.aload_n 3, 1) := by decide +kernel
theorem dX7_spoiltWith_40 : decode cX7_spoiltWith 40 = .ok (.iload 8, 2) := by decide +kernel
theorem dX7_spoiltWith_42 : decode cX7_spoiltWith 42 = .ok (.iaload, 1) := by decide +kernel
theorem dX7_spoiltWith_43 : decode cX7_spoiltWith 43 = .ok (.ishr, 1) := by decide +kernel
theorem dX7_spoiltWith_44 : decode cX7_spoiltWith 44 = .ok (.iconst 1, 1) := by decide +kernel
theorem dX7_spoiltWith_45 : decode cX7_spoiltWith 45 = .ok (.iand, 1) := by decide +kernel
theorem dX7_spoiltWith_46 : decode cX7_spoiltWith 46 = .ok (.iconst 1, 1) := by decide +kernel
theorem dX7_spoiltWith_47 : decode cX7_spoiltWith 47 = .ok (.if_icmp .ne 7, 3) := by decide +kernel
theorem dX7_spoiltWith_50 : decode cX7_spoiltWith 50 = .ok (.iconst 1, 1) := by decide +kernel
theorem dX7_spoiltWith_51 : decode cX7_spoiltWith 51 = .ok (.goto 4, 3) := by decide +kernel
theorem dX7_spoiltWith_54 : decode cX7_spoiltWith 54 = .ok (.iconst 0, 1) := by decide +kernel
theorem dX7_spoiltWith_55 : decode cX7_spoiltWith 55 = .ok (.istore 9, 2) := by decide +kernel
theorem dX7_spoiltWith_57 : decode cX7_spoiltWith 57 = .ok (.iload 9, 2) := by decide +kernel
theorem dX7_spoiltWith_59 : decode cX7_spoiltWith 59 = .ok (.ifCond .ne 14, 3) := by decide +kernel
theorem dX7_spoiltWith_62 : decode cX7_spoiltWith 62 = .ok (.aload_n 0, 1) := by decide +kernel
theorem dX7_spoiltWith_63 : decode cX7_spoiltWith 63 = .ok (.getfield 15, 3) := by decide +kernel
theorem dX7_spoiltWith_66 : decode cX7_spoiltWith 66 = .ok (.iload 8, 2) := by decide +kernel
theorem dX7_spoiltWith_68 : decode cX7_spoiltWith 68 = .ok (.iaload, 1) := by decide +kernel
theorem dX7_spoiltWith_69 : decode cX7_spoiltWith 69 = .ok (.iload_n 1, 1) := by decide +kernel
theorem dX7_spoiltWith_70 : decode cX7_spoiltWith 70 = .ok (.if_icmp .ne 49, 3) := by decide +kernel
theorem dX7_spoiltWith_73 : decode cX7_spoiltWith 73 = .ok (.aload_n 0, 1) := by decide +kernel
theorem dX7_spoiltWith_74 : decode cX7_spoiltWith 74 = .ok (.iload 8, 2) := by decide +kernel
theorem dX7_spoiltWith_76 : decode cX7_spoiltWith 76 = .ok (.iload_n 1, 1) := by decide +kernel
theorem dX7_spoiltWith_77 : decode cX7_spoiltWith 77 = .ok (.iload 5, 2) := by decide +kernel
theorem dX7_spoiltWith_79 : decode cX7_spoiltWith 79 = .ok (.invokevirtual 59, 3) := by decide +kernel
theorem dX7_spoiltWith_82 : decode cX7_spoiltWith 82 = .ok (.istore 10, 2) := by decide +kernel
theorem dX7_spoiltWith_84 : decode cX7_spoiltWith 84 = .ok (.aload_n 0, 1) := by decide +kernel
theorem dX7_spoiltWith_85 : decode cX7_spoiltWith 85 = .ok (.iload 10, 2) := by decide +kernel
theorem dX7_spoiltWith_87 : decode cX7_spoiltWith 87 = .ok (.iload 8, 2) := by decide +kernel
theorem dX7_spoiltWith_89 : decode cX7_spoiltWith 89 = .ok (.iload_n 1, 1) := by decide +kernel
theorem dX7_spoiltWith_90 : decode cX7_spoiltWith 90 = .ok (.iload 4, 2) := by decide +kernel
theorem dX7_spoiltWith_92 : decode cX7_spoiltWith 92 = .ok (.invokevirtual 63, 3) := by decide +kernel
theorem dX7_spoiltWith_95 : decode cX7_spoiltWith 95 = .ok (.istore 11, 2) := by decide +kernel
theorem dX7_spoiltWith_97 : decode cX7_spoiltWith 97 = .ok (.iload 10, 2) := by decide +kernel
theorem dX7_spoiltWith_99 : decode cX7_spoiltWith 99 = .ok (.iload 11, 2) := by decide +kernel
theorem dX7_spoiltWith_101 : decode cX7_spoiltWith 101 = .ok (.iadd, 1) := by decide +kernel
theorem dX7_spoiltWith_102 : decode cX7_spoiltWith 102 = .ok (.istore 5, 2) := by decide +kernel
theorem dX7_spoiltWith_104 : decode cX7_spoiltWith 104 = .ok (.iload 6, 2) := by decide +kernel
theorem dX7_spoiltWith_106 : decode cX7_spoiltWith 106 = .ok (.aload_n 0, 1) := by decide +kernel
theorem dX7_spoiltWith_107 : decode cX7_spoiltWith 107 = .ok (.getfield 21, 3) := by decide +kernel
theorem dX7_spoiltWith_110 : decode cX7_spoiltWith 110 = .ok (.iload 8, 2) := by decide +kernel
theorem dX7_spoiltWith_112 : decode cX7_spoiltWith 112 = .ok (.iaload, 1) := by decide +kernel
theorem dX7_spoiltWith_113 : decode cX7_spoiltWith 113 = .ok (.iload 11, 2) := by decide +kernel
theorem dX7_spoiltWith_115 : decode cX7_spoiltWith 115 = .ok (.isub, 1) := by decide +kernel
theorem dX7_spoiltWith_116 : decode cX7_spoiltWith 116 = .ok (.iadd, 1) := by decide +kernel
theorem dX7_spoiltWith_117 : decode cX7_spoiltWith 117 = .ok (.istore 6, 2) := by decide +kernel
theorem dX7_spoiltWith_119 : decode cX7_spoiltWith 119 = .ok (.iinc 7 1, 3) := by decide +kernel
theorem dX7_spoiltWith_122 : decode cX7_spoiltWith 122 = .ok (.goto (-113), 3) := by decide +kernel
theorem dX7_spoiltWith_125 : decode cX7_spoiltWith 125 = .ok (.iload 6, 2) := by decide +kernel
theorem dX7_spoiltWith_127 : decode cX7_spoiltWith 127 = .ok (.ireturn, 1) := by decide +kernel
theorem dX7_fishOf_0 : decode cX7_fishOf 0 = .ok (.iconst 0, 1) := by decide +kernel
theorem dX7_fishOf_1 : decode cX7_fishOf 1 = .ok (.istore_n 3, 1) := by decide +kernel
theorem dX7_fishOf_2 : decode cX7_fishOf 2 = .ok (.iconst 0, 1) := by decide +kernel
theorem dX7_fishOf_3 : decode cX7_fishOf 3 = .ok (.istore 4, 2) := by decide +kernel
theorem dX7_fishOf_5 : decode cX7_fishOf 5 = .ok (.iload 4, 2) := by decide +kernel
theorem dX7_fishOf_7 : decode cX7_fishOf 7 = .ok (.aload_n 0, 1) := by decide +kernel
theorem dX7_fishOf_8 : decode cX7_fishOf 8 = .ok (.getfield 51, 3) := by decide +kernel
theorem dX7_fishOf_11 : decode cX7_fishOf 11 = .ok (.if_icmp .ge 41, 3) := by decide +kernel
theorem dX7_fishOf_14 : decode cX7_fishOf 14 = .ok (.aload_n 0, 1) := by decide +kernel
theorem dX7_fishOf_15 : decode cX7_fishOf 15 = .ok (.getfield 9, 3) := by decide +kernel
theorem dX7_fishOf_18 : decode cX7_fishOf 18 = .ok (.iload 4, 2) := by decide +kernel
theorem dX7_fishOf_20 : decode cX7_fishOf 20 = .ok (.iaload, 1) := by decide +kernel
theorem dX7_fishOf_21 : decode cX7_fishOf 21 = .ok (.iload_n 1, 1) := by decide +kernel
theorem dX7_fishOf_22 : decode cX7_fishOf 22 = .ok (.if_icmp .ne 24, 3) := by decide +kernel
theorem dX7_fishOf_25 : decode cX7_fishOf 25 = .ok (.aload_n 0, 1) := by decide +kernel
theorem dX7_fishOf_26 : decode cX7_fishOf 26 = .ok (.getfield 15, 3) := by decide +kernel
theorem dX7_fishOf_29 : decode cX7_fishOf 29 = .ok (.iload 4, 2) := by decide +kernel
theorem dX7_fishOf_31 : decode cX7_fishOf 31 = .ok (.iaload, 1) := by decide +kernel
theorem dX7_fishOf_32 : decode cX7_fishOf 32 = .ok (.iload_n 2, 1) := by decide +kernel
theorem dX7_fishOf_33 : decode cX7_fishOf 33 = .ok (.if_icmp .ne 13, 3) := by decide +kernel
theorem dX7_fishOf_36 : decode cX7_fishOf 36 = .ok (.iload_n 3, 1) := by decide +kernel
theorem dX7_fishOf_37 : decode cX7_fishOf 37 = .ok (.aload_n 0, 1) := by decide +kernel
theorem dX7_fishOf_38 : decode cX7_fishOf 38 = .ok (.getfield 21, 3) := by decide +kernel
theorem dX7_fishOf_41 : decode cX7_fishOf 41 = .ok (.iload 4, 2) := by decide +kernel
theorem dX7_fishOf_43 : decode cX7_fishOf 43 = .ok (.iaload, 1) := by decide +kernel
theorem dX7_fishOf_44 : decode cX7_fishOf 44 = .ok (.iadd, 1) := by decide +kernel
theorem dX7_fishOf_45 : decode cX7_fishOf 45 = .ok (.istore_n 3, 1) := by decide +kernel
theorem dX7_fishOf_46 : decode cX7_fishOf 46 = .ok (.iinc 4 1, 3) := by decide +kernel
theorem dX7_fishOf_49 : decode cX7_fishOf 49 = .ok (.goto (-44), 3) := by decide +kernel
theorem dX7_fishOf_52 : decode cX7_fishOf 52 = .ok (.iload_n 3, 1) := by decide +kernel
theorem dX7_fishOf_53 : decode cX7_fishOf 53 = .ok (.ireturn, 1) := by decide +kernel
theorem dX7_measure_0 : decode cX7_measure 0 = .ok (.iload_n 2, 1) := by decide +kernel
theorem dX7_measure_1 : decode cX7_measure 1 = .ok (.iload_n 3, 1) := by decide +kernel
theorem dX7_measure_2 : decode cX7_measure 2 = .ok (.imul, 1) := by decide +kernel
theorem dX7_measure_3 : decode cX7_measure 3 = .ok (.istore 4, 2) := by decide +kernel
theorem dX7_measure_5 : decode cX7_measure 5 = .ok (.iload 4, 2) := by decide +kernel
theorem dX7_measure_7 : decode cX7_measure 7 = .ok (.iload_n 3, 1) := by decide +kernel
theorem dX7_measure_8 : decode cX7_measure 8 = .ok (.iadd, 1) := by decide +kernel
theorem dX7_measure_9 : decode cX7_measure 9 = .ok (.istore 5, 2) := by decide +kernel
theorem dX7_measure_11 : decode cX7_measure 11 = .ok (.aload_n 0, 1) := by decide +kernel
theorem dX7_measure_12 : decode cX7_measure 12 = .ok (.aload_n 1, 1) := by decide +kernel
theorem dX7_measure_13 : decode cX7_measure 13 = .ok (.getfield 83, 3) := by decide +kernel
theorem dX7_measure_16 : decode cX7_measure 16 = .ok (.invokevirtual 67, 3) := by decide +kernel
theorem dX7_measure_19 : decode cX7_measure 19 = .ok (.istore 6, 2) := by decide +kernel
theorem dX7_measure_21 : decode cX7_measure 21 = .ok (.aload_n 1, 1) := by decide +kernel
theorem dX7_measure_22 : decode cX7_measure 22 = .ok (.invokevirtual 88, 3) := by decide +kernel
theorem dX7_measure_25 : decode cX7_measure 25 = .ok (.aload_n 1, 1) := by decide +kernel
theorem dX7_measure_26 : decode cX7_measure 26 = .ok (.getfield 91, 3) := by decide +kernel
theorem dX7_measure_29 : decode cX7_measure 29 = .ok (.istore 7, 2) := by decide +kernel
theorem dX7_measure_31 : decode cX7_measure 31 = .ok (.iload 7, 2) := by decide +kernel
theorem dX7_measure_33 : decode cX7_measure 33 = .ok (.aload_n 0, 1) := by decide +kernel
theorem dX7_measure_34 : decode cX7_measure 34 = .ok (.getfield 51, 3) := by decide +kernel
theorem dX7_measure_37 : decode cX7_measure 37 = .ok (.if_icmp .ge 140, 3) := by decide +kernel
theorem dX7_measure_40 : decode cX7_measure 40 = .ok (.aload_n 0, 1) := by decide +kernel
theorem dX7_measure_41 : decode cX7_measure 41 = .ok (.getfield 27, 3) := by decide +kernel
theorem dX7_measure_44 : decode cX7_measure 44 = .ok (.iload 7, 2) := by decide +kernel
theorem dX7_measure_46 : decode cX7_measure 46 = .ok (.iaload, 1) := by decide +kernel
theorem dX7_measure_47 : decode cX7_measure 47 = .ok (.istore 8, 2) := by decide +kernel
theorem dX7_measure_49 : decode cX7_measure 49 = .ok (.aload_n 0, 1) := by decide +kernel
theorem dX7_measure_50 : decode cX7_measure 50 = .ok (.getfield 15, 3) := by decide +kernel
theorem dX7_measure_53 : decode cX7_measure 53 = .ok (.iload 8, 2) := by decide +kernel
theorem dX7_measure_55 : decode cX7_measure 55 = .ok (.iaload, 1) := by decide +kernel
theorem dX7_measure_56 : decode cX7_measure 56 = .ok (.aload_n 1, 1) := by decide +kernel
theorem dX7_measure_57 : decode cX7_measure 57 = .ok (.getfield 83, 3) := by decide +kernel
theorem dX7_measure_60 : decode cX7_measure 60 = .ok (.if_icmp .ne 111, 3) := by decide +kernel
theorem dX7_measure_63 : decode cX7_measure 63 = .ok (.aload_n 0, 1) := by decide +kernel
theorem dX7_measure_64 : decode cX7_measure 64 = .ok (.getfield 36, 3) := by decide +kernel
theorem dX7_measure_67 : decode cX7_measure 67 = .ok (.iload 8, 2) := by decide +kernel
theorem dX7_measure_69 : decode cX7_measure 69 = .ok (.iaload, 1) := by decide +kernel
theorem dX7_measure_70 : decode cX7_measure 70 = .ok (.iload 5, 2) := by decide +kernel
theorem dX7_measure_72 : decode cX7_measure 72 = .ok (.if_icmp .lt 6, 3) := by decide +kernel
theorem dX7_measure_75 : decode cX7_measure 75 = .ok (.goto 102, 3) := by decide +kernel
theorem dX7_measure_78 : decode cX7_measure 78 = .ok (.iload 5, 2) := by decide +kernel
theorem dX7_measure_80 : decode cX7_measure 80 = .ok (.aload_n 0, 1) := by decide +kernel
theorem dX7_measure_81 : decode cX7_measure 81 = .ok (.getfield 36, 3) := by decide +kernel
theorem dX7_measure_84 : decode cX7_measure 84 = .ok (.iload 8, 2) := by decide +kernel
theorem dX7_measure_86 : decode cX7_measure 86 = .ok (.iaload, 1) := by decide +kernel
theorem dX7_measure_87 : decode cX7_measure 87 = .ok (.aload_n 0, 1) := by decide +kernel
theorem dX7_measure_88 : decode cX7_measure 88 = .ok (.getfield 33, 3) := by decide +kernel
theorem dX7_measure_91 : decode cX7_measure 91 = .ok (.iload 8, 2) := by decide +kernel
theorem dX7_measure_93 : decode cX7_measure 93 = .ok (.iaload, 1) := by decide +kernel
theorem dX7_measure_94 : decode cX7_measure 94 = .ok (.iadd, 1) := by decide +kernel
theorem dX7_measure_95 : decode cX7_measure 95 = .ok (.invokestatic 77, 3) := by decide +kernel
theorem dX7_measure_98 : decode cX7_measure 98 = .ok (.istore 9, 2) := by decide +kernel
theorem dX7_measure_100 : decode cX7_measure 100 = .ok (.iload 4, 2) := by decide +kernel
theorem dX7_measure_102 : decode cX7_measure 102 = .ok (.aload_n 0, 1) := by decide +kernel
theorem dX7_measure_103 : decode cX7_measure 103 = .ok (.getfield 36, 3) := by decide +kernel
theorem dX7_measure_106 : decode cX7_measure 106 = .ok (.iload 8, 2) := by decide +kernel
theorem dX7_measure_108 : decode cX7_measure 108 = .ok (.iaload, 1) := by decide +kernel
theorem dX7_measure_109 : decode cX7_measure 109 = .ok (.invokestatic 71, 3) := by decide +kernel
theorem dX7_measure_112 : decode cX7_measure 112 = .ok (.iload 9, 2) := by decide +kernel
theorem dX7_measure_114 : decode cX7_measure 114 = .ok (.if_icmp .ge 57, 3) := by decide +kernel
theorem dX7_measure_117 : decode cX7_measure 117 = .ok (.aload_n 0, 1) := by decide +kernel
theorem dX7_measure_118 : decode cX7_measure 118 = .ok (.getfield 30, 3) := by decide +kernel
theorem dX7_measure_121 : decode cX7_measure 121 = .ok (.iload 8, 2) := by decide +kernel
theorem dX7_measure_123 : decode cX7_measure 123 = .ok (.iaload, 1) := by decide +kernel
theorem dX7_measure_124 : decode cX7_measure 124 = .ok (.iload 9, 2) := by decide +kernel
theorem dX7_measure_126 : decode cX7_measure 126 = .ok (.iadd, 1) := by decide +kernel
theorem dX7_measure_127 : decode cX7_measure 127 = .ok (.iconst 1, 1) := by decide +kernel
theorem dX7_measure_128 : decode cX7_measure 128 = .ok (.isub, 1) := by decide +kernel
theorem dX7_measure_129 : decode cX7_measure 129 = .ok (.aload_n 0, 1) := by decide +kernel
theorem dX7_measure_130 : decode cX7_measure 130 = .ok (.getfield 36, 3) := by decide +kernel
theorem dX7_measure_133 : decode cX7_measure 133 = .ok (.iload 8, 2) := by decide +kernel
theorem dX7_measure_135 : decode cX7_measure 135 = .ok (.iaload, 1) := by decide +kernel
theorem dX7_measure_136 : decode cX7_measure 136 = .ok (.isub, 1) := by decide +kernel
theorem dX7_measure_137 : decode cX7_measure 137 = .ok (.iload 6, 2) := by decide +kernel
theorem dX7_measure_139 : decode cX7_measure 139 = .ok (.idiv, 1) := by decide +kernel
theorem dX7_measure_140 : decode cX7_measure 140 = .ok (.istore 10, 2) := by decide +kernel
theorem dX7_measure_142 : decode cX7_measure 142 = .ok (.aload_n 1, 1) := by decide +kernel
theorem dX7_measure_143 : decode cX7_measure 143 = .ok (.iload 10, 2) := by decide +kernel
theorem dX7_measure_145 : decode cX7_measure 145 = .ok (.iload 10, 2) := by decide +kernel
theorem dX7_measure_147 : decode cX7_measure 147 = .ok (.aload_n 0, 1) := by decide +kernel
theorem dX7_measure_148 : decode cX7_measure 148 = .ok (.getfield 18, 3) := by decide +kernel
theorem dX7_measure_151 : decode cX7_measure 151 = .ok (.iload 8, 2) := by decide +kernel
theorem dX7_measure_153 : decode cX7_measure 153 = .ok (.iaload, 1) := by decide +kernel
theorem dX7_measure_154 : decode cX7_measure 154 = .ok (.isub, 1) := by decide +kernel
theorem dX7_measure_155 : decode cX7_measure 155 = .ok (.aload_n 0, 1) := by decide +kernel
theorem dX7_measure_156 : decode cX7_measure 156 = .ok (.getfield 24, 3) := by decide +kernel
theorem dX7_measure_159 : decode cX7_measure 159 = .ok (.iload 8, 2) := by decide +kernel
theorem dX7_measure_161 : decode cX7_measure 161 = .ok (.iaload, 1) := by decide +kernel
theorem dX7_measure_162 : decode cX7_measure 162 = .ok (.invokevirtual 94, 3) := by decide +kernel
theorem dX7_measure_165 : decode cX7_measure 165 = .ok (.aload_n 1, 1) := by decide +kernel
theorem dX7_measure_166 : decode cX7_measure 166 = .ok (.iload 7, 2) := by decide +kernel
theorem dX7_measure_168 : decode cX7_measure 168 = .ok (.putfield 91, 3) := by decide +kernel
theorem dX7_measure_171 : decode cX7_measure 171 = .ok (.iinc 7 1, 3) := by decide +kernel
theorem dX7_measure_174 : decode cX7_measure 174 = .ok (.goto (-143), 3) := by decide +kernel
theorem dX7_measure_177 : decode cX7_measure 177 = .ok (.aload_n 1, 1) := by decide +kernel
theorem dX7_measure_178 : decode cX7_measure 178 = .ok (.invokevirtual 97, 3) := by decide +kernel
theorem dX7_measure_181 : decode cX7_measure 181 = .ok (.return_, 1) := by decide +kernel
theorem dX8_init_0 : decode cX8_init 0 = .ok (.aload_n 0, 1) := by decide +kernel
theorem dX8_init_1 : decode cX8_init 1 = .ok (.invokespecial 3, 3) := by decide +kernel
theorem dX8_init_4 : decode cX8_init 4 = .ok (.aload_n 0, 1) := by decide +kernel
theorem dX8_init_5 : decode cX8_init 5 = .ok (.bipush 12, 2) := by decide +kernel
theorem dX8_init_7 : decode cX8_init 7 = .ok (.newarray .int, 2) := by decide +kernel
theorem dX8_init_9 : decode cX8_init 9 = .ok (.putfield 9, 3) := by decide +kernel
theorem dX8_init_12 : decode cX8_init 12 = .ok (.aload_n 0, 1) := by decide +kernel
theorem dX8_init_13 : decode cX8_init 13 = .ok (.bipush 12, 2) := by decide +kernel
theorem dX8_init_15 : decode cX8_init 15 = .ok (.newarray .int, 2) := by decide +kernel
theorem dX8_init_17 : decode cX8_init 17 = .ok (.putfield 15, 3) := by decide +kernel
theorem dX8_init_20 : decode cX8_init 20 = .ok (.aload_n 0, 1) := by decide +kernel
theorem dX8_init_21 : decode cX8_init 21 = .ok (.bipush 12, 2) := by decide +kernel
theorem dX8_init_23 : decode cX8_init 23 = .ok (.newarray .int, 2) := by decide +kernel
theorem dX8_init_25 : decode cX8_init 25 = .ok (.putfield 18, 3) := by decide +kernel
theorem dX8_init_28 : decode cX8_init 28 = .ok (.aload_n 0, 1) := by decide +kernel
theorem dX8_init_29 : decode cX8_init 29 = .ok (.bipush 12, 2) := by decide +kernel
theorem dX8_init_31 : decode cX8_init 31 = .ok (.newarray .int, 2) := by decide +kernel
theorem dX8_init_33 : decode cX8_init 33 = .ok (.putfield 21, 3) := by decide +kernel
theorem dX8_init_36 : decode cX8_init 36 = .ok (.return_, 1) := by decide +kernel
theorem dX8_add_0 : decode cX8_add 0 = .ok (.aload_n 0, 1) := by decide +kernel
theorem dX8_add_1 : decode cX8_add 1 = .ok (.getfield 9, 3) := by decide +kernel
theorem dX8_add_4 : decode cX8_add 4 = .ok (.aload_n 0, 1) := by decide +kernel
theorem dX8_add_5 : decode cX8_add 5 = .ok (.getfield 24, 3) := by decide +kernel
theorem dX8_add_8 : decode cX8_add 8 = .ok (.iload_n 1, 1) := by decide +kernel
theorem dX8_add_9 : decode cX8_add 9 = .ok (.iastore, 1) := by decide +kernel
theorem dX8_add_10 : decode cX8_add 10 = .ok (.aload_n 0, 1) := by decide +kernel
theorem dX8_add_11 : decode cX8_add 11 = .ok (.getfield 15, 3) := by decide +kernel
theorem dX8_add_14 : decode cX8_add 14 = .ok (.aload_n 0, 1) := by decide +kernel
theorem dX8_add_15 : decode cX8_add 15 = .ok (.getfield 24, 3) := by decide +kernel
theorem dX8_add_18 : decode cX8_add 18 = .ok (.iload_n 2, 1) := by decide +kernel
theorem dX8_add_19 : decode cX8_add 19 = .ok (.iastore, 1) := by decide +kernel
theorem dX8_add_20 : decode cX8_add 20 = .ok (.aload_n 0, 1) := by decide +kernel
theorem dX8_add_21 : decode cX8_add 21 = .ok (.getfield 18, 3) := by decide +kernel
theorem dX8_add_24 : decode cX8_add 24 = .ok (.aload_n 0, 1) := by decide +kernel
theorem dX8_add_25 : decode cX8_add 25 = .ok (.getfield 24, 3) := by decide +kernel
theorem dX8_add_28 : decode cX8_add 28 = .ok (.iload_n 3, 1) := by decide +kernel
theorem dX8_add_29 : decode cX8_add 29 = .ok (.iastore, 1) := by decide +kernel
theorem dX8_add_30 : decode cX8_add 30 = .ok (.aload_n 0, 1) := by decide +kernel
theorem dX8_add_31 : decode cX8_add 31 = .ok (.getfield 21, 3) := by decide +kernel
theorem dX8_add_34 : decode cX8_add 34 = .ok (.aload_n 0, 1) := by decide +kernel
theorem dX8_add_35 : decode cX8_add 35 = .ok (.getfield 24, 3) := by decide +kernel
theorem dX8_add_38 : decode cX8_add 38 = .ok (.iload 4, 2) := by decide +kernel
theorem dX8_add_40 : decode cX8_add 40 = .ok (.iastore, 1) := by decide +kernel
theorem dX8_add_41 : decode cX8_add 41 = .ok (.aload_n 0, 1) := by decide +kernel
theorem dX8_add_42 : decode cX8_add 42 = .ok (.dup, 1) := by decide +kernel
theorem dX8_add_43 : decode cX8_add 43 = .ok (.getfield 24, 3) := by decide +kernel
theorem dX8_add_46 : decode cX8_add 46 = .ok (.iconst 1, 1) := by decide +kernel
theorem dX8_add_47 : decode cX8_add 47 = .ok (.iadd, 1) := by decide +kernel
theorem dX8_add_48 : decode cX8_add 48 = .ok (.putfield 24, 3) := by decide +kernel
theorem dX8_add_51 : decode cX8_add 51 = .ok (.aload_n 0, 1) := by decide +kernel
theorem dX8_add_52 : decode cX8_add 52 = .ok (.getfield 24, 3) := by decide +kernel
theorem dX8_add_55 : decode cX8_add 55 = .ok (.ireturn, 1) := by decide +kernel
theorem dX8_find_0 : decode cX8_find 0 = .ok (.bipush (-6), 2) := by decide +kernel
theorem dX8_find_2 : decode cX8_find 2 = .ok (.istore_n 3, 1) := by decide +kernel
theorem dX8_find_3 : decode cX8_find 3 = .ok (.iconst 0, 1) := by decide +kernel
theorem dX8_find_4 : decode cX8_find 4 = .ok (.istore 4, 2) := by decide +kernel
theorem dX8_find_6 : decode cX8_find 6 = .ok (.iload 4, 2) := by decide +kernel
theorem dX8_find_8 : decode cX8_find 8 = .ok (.aload_n 0, 1) := by decide +kernel
theorem dX8_find_9 : decode cX8_find 9 = .ok (.getfield 24, 3) := by decide +kernel
theorem dX8_find_12 : decode cX8_find 12 = .ok (.if_icmp .ge 68, 3) := by decide +kernel
theorem dX8_find_15 : decode cX8_find 15 = .ok (.aload_n 0, 1) := by decide +kernel
theorem dX8_find_16 : decode cX8_find 16 = .ok (.getfield 9, 3) := by decide +kernel
theorem dX8_find_19 : decode cX8_find 19 = .ok (.iload 4, 2) := by decide +kernel
theorem dX8_find_21 : decode cX8_find 21 = .ok (.iaload, 1) := by decide +kernel
theorem dX8_find_22 : decode cX8_find 22 = .ok (.iload_n 1, 1) := by decide +kernel
theorem dX8_find_23 : decode cX8_find 23 = .ok (.if_icmp .ne 18, 3) := by decide +kernel
theorem dX8_find_26 : decode cX8_find 26 = .ok (.aload_n 0, 1) := by decide +kernel
theorem dX8_find_27 : decode cX8_find 27 = .ok (.getfield 15, 3) := by decide +kernel
theorem dX8_find_30 : decode cX8_find 30 = .ok (.iload 4, 2) := by decide +kernel
theorem dX8_find_32 : decode cX8_find 32 = .ok (.iaload, 1) := by decide +kernel
theorem dX8_find_33 : decode cX8_find 33 = .ok (.iload_n 2, 1) := by decide +kernel
theorem dX8_find_34 : decode cX8_find 34 = .ok (.if_icmp .gt 7, 3) := by decide +kernel
theorem dX8_find_37 : decode cX8_find 37 = .ok (.iconst 1, 1) := by decide +kernel
theorem dX8_find_38 : decode cX8_find 38 = .ok (.goto 4, 3) := by decide +kernel
theorem dX8_find_41 : decode cX8_find 41 = .ok (.iconst 0, 1) := by decide +kernel
theorem dX8_find_42 : decode cX8_find 42 = .ok (.istore 5, 2) := by decide +kernel
theorem dX8_find_44 : decode cX8_find 44 = .ok (.iload 5, 2) := by decide +kernel
theorem dX8_find_46 : decode cX8_find 46 = .ok (.ifCond .eq 28, 3) := by decide +kernel
theorem dX8_find_49 : decode cX8_find 49 = .ok (.iload_n 3, 1) := by decide +kernel
theorem dX8_find_50 : decode cX8_find 50 = .ok (.bipush (-6), 2) := by decide +kernel
theorem dX8_find_52 : decode cX8_find 52 = .ok (.if_icmp .eq 19, 3) := by decide +kernel
theorem dX8_find_55 : decode cX8_find 55 = .ok (.aload_n 0, 1) := by decide +kernel
theorem dX8_find_56 : decode cX8_find 56 = .ok (.getfield 15, 3) := by decide +kernel
theorem dX8_find_59 : decode cX8_find 59 = .ok (.iload 4, 2) := by decide +kernel
theorem dX8_find_61 : decode cX8_find 61 = .ok (.iaload, 1) := by decide +kernel
theorem dX8_find_62 : decode cX8_find 62 = .ok (.aload_n 0, 1) := by decide +kernel
theorem dX8_find_63 : decode cX8_find 63 = .ok (.getfield 15, 3) := by decide +kernel
theorem dX8_find_66 : decode cX8_find 66 = .ok (.iload_n 3, 1) := by decide +kernel
theorem dX8_find_67 : decode cX8_find 67 = .ok (.iaload, 1) := by decide +kernel
theorem dX8_find_68 : decode cX8_find 68 = .ok (.if_icmp .lt 6, 3) := by decide +kernel
theorem dX8_find_71 : decode cX8_find 71 = .ok (.iload 4, 2) := by decide +kernel
theorem dX8_find_73 : decode cX8_find 73 = .ok (.istore_n 3, 1) := by decide +kernel
theorem dX8_find_74 : decode cX8_find 74 = .ok (.iinc 4 1, 3) := by decide +kernel
theorem dX8_find_77 : decode cX8_find 77 = .ok (.goto (-71), 3) := by decide +kernel
theorem dX8_find_80 : decode cX8_find 80 = .ok (.iload_n 3, 1) := by decide +kernel
theorem dX8_find_81 : decode cX8_find 81 = .ok (.ireturn, 1) := by decide +kernel
theorem dX8_lotAt_0 : decode cX8_lotAt 0 = .ok (.aload_n 0, 1) := by decide +kernel
theorem dX8_lotAt_1 : decode cX8_lotAt 1 = .ok (.iload_n 1, 1) := by decide +kernel
theorem dX8_lotAt_2 : decode cX8_lotAt 2 = .ok (.iload_n 2, 1) := by decide +kernel
theorem dX8_lotAt_3 : decode cX8_lotAt 3 = .ok (.invokevirtual 28, 3) := by decide +kernel
theorem dX8_lotAt_6 : decode cX8_lotAt 6 = .ok (.istore_n 3, 1) := by decide +kernel
theorem dX8_lotAt_7 : decode cX8_lotAt 7 = .ok (.iload_n 3, 1) := by decide +kernel
theorem dX8_lotAt_8 : decode cX8_lotAt 8 = .ok (.bipush (-6), 2) := by decide +kernel
theorem dX8_lotAt_10 : decode cX8_lotAt 10 = .ok (.if_icmp .ne 7, 3) := by decide +kernel
theorem dX8_lotAt_13 : decode cX8_lotAt 13 = .ok (.iconst 0, 1) := by decide +kernel
theorem dX8_lotAt_14 : decode cX8_lotAt 14 = .ok (.goto 9, 3) := by decide +kernel
theorem dX8_lotAt_17 : decode cX8_lotAt 17 = .ok (.aload_n 0, 1) := by decide +kernel
theorem dX8_lotAt_18 : decode cX8_lotAt 18 = .ok (.getfield 18, 3) := by decide +kernel
theorem dX8_lotAt_21 : decode cX8_lotAt 21 = .ok (.iload_n 3, 1) := by decide +kernel
theorem dX8_lotAt_22 : decode cX8_lotAt 22 = .ok (.iaload, 1) := by decide +kernel
theorem dX8_lotAt_23 : decode cX8_lotAt 23 = .ok (.ireturn, 1) := by decide +kernel
theorem dX8_muchAt_0 : decode cX8_muchAt 0 = .ok (.aload_n 0, 1) := by decide +kernel
theorem dX8_muchAt_1 : decode cX8_muchAt 1 = .ok (.iload_n 1, 1) := by decide +kernel
theorem dX8_muchAt_2 : decode cX8_muchAt 2 = .ok (.iload_n 2, 1) := by decide +kernel
theorem dX8_muchAt_3 : decode cX8_muchAt 3 = .ok (.invokevirtual 28, 3) := by decide +kernel
theorem dX8_muchAt_6 : decode cX8_muchAt 6 = .ok (.istore_n 3, 1) := by decide +kernel
theorem dX8_muchAt_7 : decode cX8_muchAt 7 = .ok (.iload_n 3, 1) := by decide +kernel
theorem dX8_muchAt_8 : decode cX8_muchAt 8 = .ok (.bipush (-6), 2) := by decide +kernel
theorem dX8_muchAt_10 : decode cX8_muchAt 10 = .ok (.if_icmp .ne 8, 3) := by decide +kernel
theorem dX8_muchAt_13 : decode cX8_muchAt 13 = .ok (.bipush 50, 2) := by decide +kernel
theorem dX8_muchAt_15 : decode cX8_muchAt 15 = .ok (.goto 9, 3) := by decide +kernel
theorem dX8_muchAt_18 : decode cX8_muchAt 18 = .ok (.aload_n 0, 1) := by decide +kernel
theorem dX8_muchAt_19 : decode cX8_muchAt 19 = .ok (.getfield 21, 3) := by decide +kernel
theorem dX8_muchAt_22 : decode cX8_muchAt 22 = .ok (.iload_n 3, 1) := by decide +kernel
theorem dX8_muchAt_23 : decode cX8_muchAt 23 = .ok (.iaload, 1) := by decide +kernel
theorem dX8_muchAt_24 : decode cX8_muchAt 24 = .ok (.ireturn, 1) := by decide +kernel
theorem dX9_init_0 : decode cX9_init 0 = .ok (.aload_n 0, 1) := by decide +kernel
theorem dX9_init_1 : decode cX9_init 1 = .ok (.invokespecial 3, 3) := by decide +kernel
theorem dX9_init_4 : decode cX9_init 4 = .ok (.aload_n 0, 1) := by decide +kernel
theorem dX9_init_5 : decode cX9_init 5 = .ok (.bipush 30, 2) := by decide +kernel
theorem dX9_init_7 : decode cX9_init 7 = .ok (.newarray .int, 2) := by decide +kernel
theorem dX9_init_9 : decode cX9_init 9 = .ok (.putfield 9, 3) := by decide +kernel
theorem dX9_init_12 : decode cX9_init 12 = .ok (.aload_n 0, 1) := by decide +kernel
theorem dX9_init_13 : decode cX9_init 13 = .ok (.iconst 5, 1) := by decide +kernel
theorem dX9_init_14 : decode cX9_init 14 = .ok (.newarray .int, 2) := by decide +kernel
theorem dX9_init_16 : decode cX9_init 16 = .ok (.putfield 15, 3) := by decide +kernel
theorem dX9_init_19 : decode cX9_init 19 = .ok (.aload_n 0, 1) := by decide +kernel
theorem dX9_init_20 : decode cX9_init 20 = .ok (.sipush 128, 3) := by decide +kernel
theorem dX9_init_23 : decode cX9_init 23 = .ok (.newarray .int, 2) := by decide +kernel
theorem dX9_init_25 : decode cX9_init 25 = .ok (.putfield 18, 3) := by decide +kernel
theorem dX9_init_28 : decode cX9_init 28 = .ok (.return_, 1) := by decide +kernel
theorem dX9_plan_0 : decode cX9_plan 0 = .ok (.aload_n 0, 1) := by decide +kernel
theorem dX9_plan_1 : decode cX9_plan 1 = .ok (.aload_n 1, 1) := by decide +kernel
theorem dX9_plan_2 : decode cX9_plan 2 = .ok (.invokevirtual 21, 3) := by decide +kernel
theorem dX9_plan_5 : decode cX9_plan 5 = .ok (.iconst 0, 1) := by decide +kernel
theorem dX9_plan_6 : decode cX9_plan 6 = .ok (.istore_n 3, 1) := by decide +kernel
theorem dX9_plan_7 : decode cX9_plan 7 = .ok (.iload_n 3, 1) := by decide +kernel
theorem dX9_plan_8 : decode cX9_plan 8 = .ok (.iconst 4, 1) := by decide +kernel
theorem dX9_plan_9 : decode cX9_plan 9 = .ok (.if_icmp .ge 53, 3) := by decide +kernel
theorem dX9_plan_12 : decode cX9_plan 12 = .ok (.iconst 0, 1) := by decide +kernel
theorem dX9_plan_13 : decode cX9_plan 13 = .ok (.istore 4, 2) := by decide +kernel
theorem dX9_plan_15 : decode cX9_plan 15 = .ok (.iload 4, 2) := by decide +kernel
theorem dX9_plan_17 : decode cX9_plan 17 = .ok (.iconst 1, 1) := by decide +kernel
theorem dX9_plan_18 : decode cX9_plan 18 = .ok (.aload_n 0, 1) := by decide +kernel
theorem dX9_plan_19 : decode cX9_plan 19 = .ok (.getfield 25, 3) := by decide +kernel
theorem dX9_plan_22 : decode cX9_plan 22 = .ok (.ishl, 1) := by decide +kernel
theorem dX9_plan_23 : decode cX9_plan 23 = .ok (.if_icmp .ge 33, 3) := by decide +kernel
theorem dX9_plan_26 : decode cX9_plan 26 = .ok (.aload_n 0, 1) := by decide +kernel
theorem dX9_plan_27 : decode cX9_plan 27 = .ok (.getfield 18, 3) := by decide +kernel
theorem dX9_plan_30 : decode cX9_plan 30 = .ok (.iload_n 3, 1) := by decide +kernel
theorem dX9_plan_31 : decode cX9_plan 31 = .ok (.bipush 32, 2) := by decide +kernel
theorem dX9_plan_33 : decode cX9_plan 33 = .ok (.imul, 1) := by decide +kernel
theorem dX9_plan_34 : decode cX9_plan 34 = .ok (.iload 4, 2) := by decide +kernel
theorem dX9_plan_36 : decode cX9_plan 36 = .ok (.iadd, 1) := by decide +kernel
theorem dX9_plan_37 : decode cX9_plan 37 = .ok (.aload_n 1, 1) := by decide +kernel
theorem dX9_plan_38 : decode cX9_plan 38 = .ok (.iload_n 3, 1) := by decide +kernel
theorem dX9_plan_39 : decode cX9_plan 39 = .ok (.iload 4, 2) := by decide +kernel
theorem dX9_plan_41 : decode cX9_plan 41 = .ok (.aload_n 0, 1) := by decide +kernel
theorem dX9_plan_42 : decode cX9_plan 42 = .ok (.getfield 9, 3) := by decide +kernel
theorem dX9_plan_45 : decode cX9_plan 45 = .ok (.iload_n 2, 1) := by decide +kernel
theorem dX9_plan_46 : decode cX9_plan 46 = .ok (.invokevirtual 29, 3) := by decide +kernel
theorem dX9_plan_49 : decode cX9_plan 49 = .ok (.iastore, 1) := by decide +kernel
theorem dX9_plan_50 : decode cX9_plan 50 = .ok (.iinc 4 1, 3) := by decide +kernel
theorem dX9_plan_53 : decode cX9_plan 53 = .ok (.goto (-38), 3) := by decide +kernel
theorem dX9_plan_56 : decode cX9_plan 56 = .ok (.iinc 3 1, 3) := by decide +kernel
theorem dX9_plan_59 : decode cX9_plan 59 = .ok (.goto (-52), 3) := by decide +kernel
theorem dX9_plan_62 : decode cX9_plan 62 = .ok (.aload_n 0, 1) := by decide +kernel
theorem dX9_plan_63 : decode cX9_plan 63 = .ok (.iconst 0, 1) := by decide +kernel
theorem dX9_plan_64 : decode cX9_plan 64 = .ok (.putfield 35, 3) := by decide +kernel
theorem dX9_plan_67 : decode cX9_plan 67 = .ok (.aload_n 0, 1) := by decide +kernel
theorem dX9_plan_68 : decode cX9_plan 68 = .ok (.aload_n 0, 1) := by decide +kernel
theorem dX9_plan_69 : decode cX9_plan 69 = .ok (.iconst 0, 1) := by decide +kernel
theorem dX9_plan_70 : decode cX9_plan 70 = .ok (.invokevirtual 38, 3) := by decide +kernel
theorem dX9_plan_73 : decode cX9_plan 73 = .ok (.putfield 42, 3) := by decide +kernel
theorem dX9_plan_76 : decode cX9_plan 76 = .ok (.iconst 1, 1) := by decide +kernel
theorem dX9_plan_77 : decode cX9_plan 77 = .ok (.istore_n 3, 1) := by decide +kernel
theorem dX9_plan_78 : decode cX9_plan 78 = .ok (.iload_n 3, 1) := by decide +kernel
theorem dX9_plan_79 : decode cX9_plan 79 = .ok (.iconst 1, 1) := by decide +kernel
theorem dX9_plan_80 : decode cX9_plan 80 = .ok (.iconst 2, 1) := by decide +kernel
theorem dX9_plan_81 : decode cX9_plan 81 = .ok (.aload_n 0, 1) := by decide +kernel
theorem dX9_plan_82 : decode cX9_plan 82 = .ok (.getfield 25, 3) := by decide +kernel
theorem dX9_plan_85 : decode cX9_plan 85 = .ok (.imul, 1) := by decide +kernel
theorem dX9_plan_86 : decode cX9_plan 86 = .ok (.ishl, 1) := by decide +kernel
theorem dX9_plan_87 : decode cX9_plan 87 = .ok (.if_icmp .ge 36, 3) := by decide +kernel
theorem dX9_plan_90 : decode cX9_plan 90 = .ok (.aload_n 0, 1) := by decide +kernel
theorem dX9_plan_91 : decode cX9_plan 91 = .ok (.iload_n 3, 1) := by decide +kernel
theorem dX9_plan_92 : decode cX9_plan 92 = .ok (.invokevirtual 38, 3) := by decide +kernel
theorem dX9_plan_95 : decode cX9_plan 95 = .ok (.istore 4, 2) := by decide +kernel
theorem dX9_plan_97 : decode cX9_plan 97 = .ok (.iload 4, 2) := by decide +kernel
theorem dX9_plan_99 : decode cX9_plan 99 = .ok (.aload_n 0, 1) := by decide +kernel
theorem dX9_plan_100 : decode cX9_plan 100 = .ok (.getfield 42, 3) := by decide +kernel
theorem dX9_plan_103 : decode cX9_plan 103 = .ok (.if_icmp .ge 14, 3) := by decide +kernel
theorem dX9_plan_106 : decode cX9_plan 106 = .ok (.aload_n 0, 1) := by decide +kernel
theorem dX9_plan_107 : decode cX9_plan 107 = .ok (.iload 4, 2) := by decide +kernel
theorem dX9_plan_109 : decode cX9_plan 109 = .ok (.putfield 42, 3) := by decide +kernel
theorem dX9_plan_112 : decode cX9_plan 112 = .ok (.aload_n 0, 1) := by decide +kernel
theorem dX9_plan_113 : decode cX9_plan 113 = .ok (.iload_n 3, 1) := by decide +kernel
theorem dX9_plan_114 : decode cX9_plan 114 = .ok (.putfield 35, 3) := by decide +kernel
theorem dX9_plan_117 : decode cX9_plan 117 = .ok (.iinc 3 1, 3) := by decide +kernel
theorem dX9_plan_120 : decode cX9_plan 120 = .ok (.goto (-42), 3) := by decide +kernel
theorem dX9_plan_123 : decode cX9_plan 123 = .ok (.return_, 1) := by decide +kernel
theorem dX9_quayOf_0 : decode cX9_quayOf 0 = .ok (.aload_n 0, 1) := by decide +kernel
theorem dX9_quayOf_1 : decode cX9_quayOf 1 = .ok (.aload_n 0, 1) := by decide +kernel
theorem dX9_quayOf_2 : decode cX9_quayOf 2 = .ok (.getfield 35, 3) := by decide +kernel
theorem dX9_quayOf_5 : decode cX9_quayOf 5 = .ok (.iload_n 1, 1) := by decide +kernel
theorem dX9_quayOf_6 : decode cX9_quayOf 6 = .ok (.invokevirtual 45, 3) := by decide +kernel
theorem dX9_quayOf_9 : decode cX9_quayOf 9 = .ok (.ireturn, 1) := by decide +kernel
theorem dX9_list_0 : decode cX9_list 0 = .ok (.aload_n 0, 1) := by decide +kernel
theorem dX9_list_1 : decode cX9_list 1 = .ok (.iconst 0, 1) := by decide +kernel
theorem dX9_list_2 : decode cX9_list 2 = .ok (.putfield 25, 3) := by decide +kernel
theorem dX9_list_5 : decode cX9_list 5 = .ok (.iconst 0, 1) := by decide +kernel
theorem dX9_list_6 : decode cX9_list 6 = .ok (.istore_n 2, 1) := by decide +kernel
theorem dX9_list_7 : decode cX9_list 7 = .ok (.iload_n 2, 1) := by decide +kernel
theorem dX9_list_8 : decode cX9_list 8 = .ok (.aload_n 1, 1) := by decide +kernel
theorem dX9_list_9 : decode cX9_list 9 = .ok (.getfield 49, 3) := by decide +kernel
theorem dX9_list_12 : decode cX9_list 12 = .ok (.if_icmp .ge 57, 3) := by decide +kernel
theorem dX9_list_15 : decode cX9_list 15 = .ok (.aload_n 1, 1) := by decide +kernel
theorem dX9_list_16 : decode cX9_list 16 = .ok (.getfield 50, 3) := by decide +kernel
theorem dX9_list_19 : decode cX9_list 19 = .ok (.iload_n 2, 1) := by decide +kernel
theorem dX9_list_20 : decode cX9_list 20 = .ok (.iaload, 1) := by decide +kernel
theorem dX9_list_21 : decode cX9_list 21 = .ok (.iconst (-1), 1) := by decide +kernel
theorem dX9_list_22 : decode cX9_list 22 = .ok (.if_icmp .ne 41, 3) := by decide +kernel
theorem dX9_list_25 : decode cX9_list 25 = .ok (.aload_n 0, 1) := by decide +kernel
theorem dX9_list_26 : decode cX9_list 26 = .ok (.getfield 25, 3) := by decide +kernel
theorem dX9_list_29 : decode cX9_list 29 = .ok (.iconst 5, 1) := by decide +kernel
theorem dX9_list_30 : decode cX9_list 30 = .ok (.if_icmp .ge 33, 3) := by decide +kernel
theorem dX9_list_33 : decode cX9_list 33 = .ok (.aload_n 0, 1) := by decide +kernel
theorem dX9_list_34 : decode cX9_list 34 = .ok (.getfield 9, 3) := by decide +kernel
theorem dX9_list_37 : decode cX9_list 37 = .ok (.iload_n 2, 1) := by decide +kernel
theorem dX9_list_38 : decode cX9_list 38 = .ok (.aload_n 0, 1) := by decide +kernel
theorem dX9_list_39 : decode cX9_list 39 = .ok (.getfield 25, 3) := by decide +kernel
theorem dX9_list_42 : decode cX9_list 42 = .ok (.iastore, 1) := by decide +kernel
theorem dX9_list_43 : decode cX9_list 43 = .ok (.aload_n 0, 1) := by decide +kernel
theorem dX9_list_44 : decode cX9_list 44 = .ok (.getfield 15, 3) := by decide +kernel
theorem dX9_list_47 : decode cX9_list 47 = .ok (.aload_n 0, 1) := by decide +kernel
theorem dX9_list_48 : decode cX9_list 48 = .ok (.getfield 25, 3) := by decide +kernel
theorem dX9_list_51 : decode cX9_list 51 = .ok (.iload_n 2, 1) := by decide +kernel
theorem dX9_list_52 : decode cX9_list 52 = .ok (.iastore, 1) := by decide +kernel
theorem dX9_list_53 : decode cX9_list 53 = .ok (.aload_n 0, 1) := by decide +kernel
theorem dX9_list_54 : decode cX9_list 54 = .ok (.dup, 1) := by decide +kernel
theorem dX9_list_55 : decode cX9_list 55 = .ok (.getfield 25, 3) := by decide +kernel
theorem dX9_list_58 : decode cX9_list 58 = .ok (.iconst 1, 1) := by decide +kernel
theorem dX9_list_59 : decode cX9_list 59 = .ok (.iadd, 1) := by decide +kernel
theorem dX9_list_60 : decode cX9_list 60 = .ok (.putfield 25, 3) := by decide +kernel
theorem dX9_list_63 : decode cX9_list 63 = .ok (.iinc 2 1, 3) := by decide +kernel
theorem dX9_list_66 : decode cX9_list 66 = .ok (.goto (-59), 3) := by decide +kernel
theorem dX9_list_69 : decode cX9_list 69 = .ok (.return_, 1) := by decide +kernel
theorem dX9_digit_0 : decode cX9_digit 0 = .ok (.iload_n 1, 1) := by decide +kernel
theorem dX9_digit_1 : decode cX9_digit 1 = .ok (.iconst 2, 1) := by decide +kernel
theorem dX9_digit_2 : decode cX9_digit 2 = .ok (.aload_n 0, 1) := by decide +kernel
theorem dX9_digit_3 : decode cX9_digit 3 = .ok (.getfield 25, 3) := by decide +kernel
theorem dX9_digit_6 : decode cX9_digit 6 = .ok (.iconst 1, 1) := by decide +kernel
theorem dX9_digit_7 : decode cX9_digit 7 = .ok (.isub, 1) := by decide +kernel
theorem dX9_digit_8 : decode cX9_digit 8 = .ok (.iload_n 2, 1) := by decide +kernel
theorem dX9_digit_9 : decode cX9_digit 9 = .ok (.isub, 1) := by decide +kernel
theorem dX9_digit_10 : decode cX9_digit 10 = .ok (.imul, 1) := by decide +kernel
theorem dX9_digit_11 : decode cX9_digit 11 = .ok (.ishr, 1) := by decide +kernel
theorem dX9_digit_12 : decode cX9_digit 12 = .ok (.iconst 3, 1) := by decide +kernel
theorem dX9_digit_13 : decode cX9_digit 13 = .ok (.iand, 1) := by decide +kernel
theorem dX9_digit_14 : decode cX9_digit 14 = .ok (.ireturn, 1) := by decide +kernel
theorem dX9_spoiltBy_0 : decode cX9_spoiltBy 0 = .ok (.iconst 0, 1) := by decide +kernel
theorem dX9_spoiltBy_1 : decode cX9_spoiltBy 1 = .ok (.istore_n 2, 1) := by decide +kernel
theorem dX9_spoiltBy_2 : decode cX9_spoiltBy 2 = .ok (.iconst 0, 1) := by decide +kernel
theorem dX9_spoiltBy_3 : decode cX9_spoiltBy 3 = .ok (.istore_n 3, 1) := by decide +kernel
theorem dX9_spoiltBy_4 : decode cX9_spoiltBy 4 = .ok (.iload_n 3, 1) := by decide +kernel
theorem dX9_spoiltBy_5 : decode cX9_spoiltBy 5 = .ok (.iconst 4, 1) := by decide +kernel
theorem dX9_spoiltBy_6 : decode cX9_spoiltBy 6 = .ok (.if_icmp .ge 65, 3) := by decide +kernel
theorem dX9_spoiltBy_9 : decode cX9_spoiltBy 9 = .ok (.iconst 0, 1) := by decide +kernel
theorem dX9_spoiltBy_10 : decode cX9_spoiltBy 10 = .ok (.istore 4, 2) := by decide +kernel
theorem dX9_spoiltBy_12 : decode cX9_spoiltBy 12 = .ok (.iconst 0, 1) := by decide +kernel
theorem dX9_spoiltBy_13 : decode cX9_spoiltBy 13 = .ok (.istore 5, 2) := by decide +kernel
theorem dX9_spoiltBy_15 : decode cX9_spoiltBy 15 = .ok (.iload 5, 2) := by decide +kernel
theorem dX9_spoiltBy_17 : decode cX9_spoiltBy 17 = .ok (.aload_n 0, 1) := by decide +kernel
theorem dX9_spoiltBy_18 : decode cX9_spoiltBy 18 = .ok (.getfield 25, 3) := by decide +kernel
theorem dX9_spoiltBy_21 : decode cX9_spoiltBy 21 = .ok (.if_icmp .ge 29, 3) := by decide +kernel
theorem dX9_spoiltBy_24 : decode cX9_spoiltBy 24 = .ok (.aload_n 0, 1) := by decide +kernel
theorem dX9_spoiltBy_25 : decode cX9_spoiltBy 25 = .ok (.iload_n 1, 1) := by decide +kernel
theorem dX9_spoiltBy_26 : decode cX9_spoiltBy 26 = .ok (.iload 5, 2) := by decide +kernel
theorem dX9_spoiltBy_28 : decode cX9_spoiltBy 28 = .ok (.invokevirtual 45, 3) := by decide +kernel
theorem dX9_spoiltBy_31 : decode cX9_spoiltBy 31 = .ok (.iload_n 3, 1) := by decide +kernel
theorem dX9_spoiltBy_32 : decode cX9_spoiltBy 32 = .ok (.if_icmp .ne 12, 3) := by decide +kernel
theorem dX9_spoiltBy_35 : decode cX9_spoiltBy 35 = .ok (.iload 4, 2) := by decide +kernel
theorem dX9_spoiltBy_37 : decode cX9_spoiltBy 37 = .ok (.iconst 1, 1) := by decide +kernel
theorem dX9_spoiltBy_38 : decode cX9_spoiltBy 38 = .ok (.iload 5, 2) := by decide +kernel
theorem dX9_spoiltBy_40 : decode cX9_spoiltBy 40 = .ok (.ishl, 1) := by decide +kernel
theorem dX9_spoiltBy_41 : decode cX9_spoiltBy 41 = .ok (.ior, 1) := by decide +kernel
theorem dX9_spoiltBy_42 : decode cX9_spoiltBy 42 = .ok (.istore 4, 2) := by decide +kernel
theorem dX9_spoiltBy_44 : decode cX9_spoiltBy 44 = .ok (.iinc 5 1, 3) := by decide +kernel
theorem dX9_spoiltBy_47 : decode cX9_spoiltBy 47 = .ok (.goto (-32), 3) := by decide +kernel
theorem dX9_spoiltBy_50 : decode cX9_spoiltBy 50 = .ok (.iload_n 2, 1) := by decide +kernel
theorem dX9_spoiltBy_51 : decode cX9_spoiltBy 51 = .ok (.aload_n 0, 1) := by decide +kernel
theorem dX9_spoiltBy_52 : decode cX9_spoiltBy 52 = .ok (.getfield 18, 3) := by decide +kernel
theorem dX9_spoiltBy_55 : decode cX9_spoiltBy 55 = .ok (.iload_n 3, 1) := by decide +kernel
theorem dX9_spoiltBy_56 : decode cX9_spoiltBy 56 = .ok (.bipush 32, 2) := by decide +kernel
theorem dX9_spoiltBy_58 : decode cX9_spoiltBy 58 = .ok (.imul, 1) := by decide +kernel
theorem dX9_spoiltBy_59 : decode cX9_spoiltBy 59 = .ok (.iload 4, 2) := by decide +kernel
theorem dX9_spoiltBy_61 : decode cX9_spoiltBy 61 = .ok (.iadd, 1) := by decide +kernel
theorem dX9_spoiltBy_62 : decode cX9_spoiltBy 62 = .ok (.iaload, 1) := by decide +kernel
theorem dX9_spoiltBy_63 : decode cX9_spoiltBy 63 = .ok (.iadd, 1) := by decide +kernel
theorem dX9_spoiltBy_64 : decode cX9_spoiltBy 64 = .ok (.istore_n 2, 1) := by decide +kernel
theorem dX9_spoiltBy_65 : decode cX9_spoiltBy 65 = .ok (.iinc 3 1, 3) := by decide +kernel
theorem dX9_spoiltBy_68 : decode cX9_spoiltBy 68 = .ok (.goto (-64), 3) := by decide +kernel
theorem dX9_spoiltBy_71 : decode cX9_spoiltBy 71 = .ok (.iload_n 2, 1) := by decide +kernel
theorem dX9_spoiltBy_72 : decode cX9_spoiltBy 72 = .ok (.ireturn, 1) := by decide +kernel
theorem dX10_init_0 : decode cX10_init 0 = .ok (.aload_n 0, 1) := by decide +kernel
theorem dX10_init_1 : decode cX10_init 1 = .ok (.invokespecial 1, 3) := by decide +kernel
theorem dX10_init_4 : decode cX10_init 4 = .ok (.aload_n 0, 1) := by decide +kernel
theorem dX10_init_5 : decode cX10_init 5 = .ok (.new 7, 3) := by decide +kernel
theorem dX10_init_8 : decode cX10_init 8 = .ok (.dup, 1) := by decide +kernel
theorem dX10_init_9 : decode cX10_init 9 = .ok (.invokespecial 9, 3) := by decide +kernel
theorem dX10_init_12 : decode cX10_init 12 = .ok (.putfield 10, 3) := by decide +kernel
theorem dX10_init_15 : decode cX10_init 15 = .ok (.aload_n 0, 1) := by decide +kernel
theorem dX10_init_16 : decode cX10_init 16 = .ok (.new 16, 3) := by decide +kernel
theorem dX10_init_19 : decode cX10_init 19 = .ok (.dup, 1) := by decide +kernel
theorem dX10_init_20 : decode cX10_init 20 = .ok (.invokespecial 18, 3) := by decide +kernel
theorem dX10_init_23 : decode cX10_init 23 = .ok (.putfield 19, 3) := by decide +kernel
theorem dX10_init_26 : decode cX10_init 26 = .ok (.aload_n 0, 1) := by decide +kernel
theorem dX10_init_27 : decode cX10_init 27 = .ok (.bipush 7, 2) := by decide +kernel
theorem dX10_init_29 : decode cX10_init 29 = .ok (.newarray .int, 2) := by decide +kernel
theorem dX10_init_31 : decode cX10_init 31 = .ok (.dup, 1) := by decide +kernel
theorem dX10_init_32 : decode cX10_init 32 = .ok (.iconst 0, 1) := by decide +kernel
theorem dX10_init_33 : decode cX10_init 33 = .ok (.bipush 24, 2) := by decide +kernel
theorem dX10_init_35 : decode cX10_init 35 = .ok (.iastore, 1) := by decide +kernel
theorem dX10_init_36 : decode cX10_init 36 = .ok (.dup, 1) := by decide +kernel
theorem dX10_init_37 : decode cX10_init 37 = .ok (.iconst 1, 1) := by decide +kernel
theorem dX10_init_38 : decode cX10_init 38 = .ok (.sipush 800, 3) := by decide +kernel
theorem dX10_init_41 : decode cX10_init 41 = .ok (.iastore, 1) := by decide +kernel
theorem dX10_init_42 : decode cX10_init 42 = .ok (.dup, 1) := by decide +kernel
theorem dX10_init_43 : decode cX10_init 43 = .ok (.iconst 2, 1) := by decide +kernel
theorem dX10_init_44 : decode cX10_init 44 = .ok (.bipush 40, 2) := by decide +kernel
theorem dX10_init_46 : decode cX10_init 46 = .ok (.iastore, 1) := by decide +kernel
theorem dX10_init_47 : decode cX10_init 47 = .ok (.dup, 1) := by decide +kernel
theorem dX10_init_48 : decode cX10_init 48 = .ok (.iconst 3, 1) := by decide +kernel
theorem dX10_init_49 : decode cX10_init 49 = .ok (.bipush 10, 2) := by decide +kernel
theorem dX10_init_51 : decode cX10_init 51 = .ok (.iastore, 1) := by decide +kernel
theorem dX10_init_52 : decode cX10_init 52 = .ok (.dup, 1) := by decide +kernel
theorem dX10_init_53 : decode cX10_init 53 = .ok (.iconst 4, 1) := by decide +kernel
theorem dX10_init_54 : decode cX10_init 54 = .ok (.sipush 1000, 3) := by decide +kernel
theorem dX10_init_57 : decode cX10_init 57 = .ok (.iastore, 1) := by decide +kernel
theorem dX10_init_58 : decode cX10_init 58 = .ok (.dup, 1) := by decide +kernel
theorem dX10_init_59 : decode cX10_init 59 = .ok (.iconst 5, 1) := by decide +kernel
theorem dX10_init_60 : decode cX10_init 60 = .ok (.iconst 5, 1) := by decide +kernel
theorem dX10_init_61 : decode cX10_init 61 = .ok (.iastore, 1) := by decide +kernel
theorem dX10_init_62 : decode cX10_init 62 = .ok (.dup, 1) := by decide +kernel
theorem dX10_init_63 : decode cX10_init 63 = .ok (.bipush 6, 2) := by decide +kernel
theorem dX10_init_65 : decode cX10_init 65 = .ok (.iconst 4, 1) := by decide +kernel
theorem dX10_init_66 : decode cX10_init 66 = .ok (.iastore, 1) := by decide +kernel
theorem dX10_init_67 : decode cX10_init 67 = .ok (.putfield 23, 3) := by decide +kernel
theorem dX10_init_70 : decode cX10_init 70 = .ok (.aload_n 0, 1) := by decide +kernel
theorem dX10_init_71 : decode cX10_init 71 = .ok (.new 27, 3) := by decide +kernel
theorem dX10_init_74 : decode cX10_init 74 = .ok (.dup, 1) := by decide +kernel
theorem dX10_init_75 : decode cX10_init 75 = .ok (.invokespecial 29, 3) := by decide +kernel
theorem dX10_init_78 : decode cX10_init 78 = .ok (.putfield 30, 3) := by decide +kernel
theorem dX10_init_81 : decode cX10_init 81 = .ok (.aload_n 0, 1) := by decide +kernel
theorem dX10_init_82 : decode cX10_init 82 = .ok (.new 34, 3) := by decide +kernel
theorem dX10_init_85 : decode cX10_init 85 = .ok (.dup, 1) := by decide +kernel
theorem dX10_init_86 : decode cX10_init 86 = .ok (.invokespecial 36, 3) := by decide +kernel
theorem dX10_init_89 : decode cX10_init 89 = .ok (.putfield 37, 3) := by decide +kernel
theorem dX10_init_92 : decode cX10_init 92 = .ok (.aload_n 0, 1) := by decide +kernel
theorem dX10_init_93 : decode cX10_init 93 = .ok (.new 41, 3) := by decide +kernel
theorem dX10_init_96 : decode cX10_init 96 = .ok (.dup, 1) := by decide +kernel
theorem dX10_init_97 : decode cX10_init 97 = .ok (.invokespecial 43, 3) := by decide +kernel
theorem dX10_init_100 : decode cX10_init 100 = .ok (.putfield 44, 3) := by decide +kernel
theorem dX10_init_103 : decode cX10_init 103 = .ok (.aload_n 0, 1) := by decide +kernel
theorem dX10_init_104 : decode cX10_init 104 = .ok (.iconst 5, 1) := by decide +kernel
theorem dX10_init_105 : decode cX10_init 105 = .ok (.newarray .int, 2) := by decide +kernel
theorem dX10_init_107 : decode cX10_init 107 = .ok (.putfield 48, 3) := by decide +kernel
theorem dX10_init_110 : decode cX10_init 110 = .ok (.aload_n 0, 1) := by decide +kernel
theorem dX10_init_111 : decode cX10_init 111 = .ok (.new 51, 3) := by decide +kernel
theorem dX10_init_114 : decode cX10_init 114 = .ok (.dup, 1) := by decide +kernel
theorem dX10_init_115 : decode cX10_init 115 = .ok (.invokespecial 53, 3) := by decide +kernel
theorem dX10_init_118 : decode cX10_init 118 = .ok (.putfield 54, 3) := by decide +kernel
theorem dX10_init_121 : decode cX10_init 121 = .ok (.aload_n 0, 1) := by decide +kernel
theorem dX10_init_122 : decode cX10_init 122 = .ok (.new 58, 3) := by decide +kernel
theorem dX10_init_125 : decode cX10_init 125 = .ok (.dup, 1) := by decide +kernel
theorem dX10_init_126 : decode cX10_init 126 = .ok (.invokespecial 60, 3) := by decide +kernel
theorem dX10_init_129 : decode cX10_init 129 = .ok (.putfield 61, 3) := by decide +kernel
theorem dX10_init_132 : decode cX10_init 132 = .ok (.aload_n 0, 1) := by decide +kernel
theorem dX10_init_133 : decode cX10_init 133 = .ok (.new 65, 3) := by decide +kernel
theorem dX10_init_136 : decode cX10_init 136 = .ok (.dup, 1) := by decide +kernel
theorem dX10_init_137 : decode cX10_init 137 = .ok (.invokespecial 67, 3) := by decide +kernel
theorem dX10_init_140 : decode cX10_init 140 = .ok (.putfield 68, 3) := by decide +kernel
theorem dX10_init_143 : decode cX10_init 143 = .ok (.aload_n 0, 1) := by decide +kernel
theorem dX10_init_144 : decode cX10_init 144 = .ok (.new 65, 3) := by decide +kernel
theorem dX10_init_147 : decode cX10_init 147 = .ok (.dup, 1) := by decide +kernel
theorem dX10_init_148 : decode cX10_init 148 = .ok (.invokespecial 67, 3) := by decide +kernel
theorem dX10_init_151 : decode cX10_init 151 = .ok (.putfield 72, 3) := by decide +kernel
theorem dX10_init_154 : decode cX10_init 154 = .ok (.aload_n 0, 1) := by decide +kernel
theorem dX10_init_155 : decode cX10_init 155 = .ok (.new 75, 3) := by decide +kernel
theorem dX10_init_158 : decode cX10_init 158 = .ok (.dup, 1) := by decide +kernel
theorem dX10_init_159 : decode cX10_init 159 = .ok (.invokespecial 77, 3) := by decide +kernel
theorem dX10_init_162 : decode cX10_init 162 = .ok (.putfield 78, 3) := by decide +kernel
theorem dX10_init_165 : decode cX10_init 165 = .ok (.aload_n 0, 1) := by decide +kernel
theorem dX10_init_166 : decode cX10_init 166 = .ok (.new 82, 3) := by decide +kernel
theorem dX10_init_169 : decode cX10_init 169 = .ok (.dup, 1) := by decide +kernel
theorem dX10_init_170 : decode cX10_init 170 = .ok (.invokespecial 84, 3) := by decide +kernel
theorem dX10_init_173 : decode cX10_init 173 = .ok (.putfield 85, 3) := by decide +kernel
theorem dX10_init_176 : decode cX10_init 176 = .ok (.return_, 1) := by decide +kernel
theorem dX10_say_0 : decode cX10_say 0 = .ok (.iload_n 1, 1) := by decide +kernel
theorem dX10_say_1 : decode cX10_say 1 = .ok (.bipush 33, 2) := by decide +kernel
theorem dX10_say_3 : decode cX10_say 3 = .ok (.bipush 126, 2) := by decide +kernel
theorem dX10_say_5 : decode cX10_say 5 = .ok (.invokestatic 89, 3) := by decide +kernel
theorem dX10_say_8 : decode cX10_say 8 = .ok (.ifCond .ne 6, 3) := by decide +kernel
theorem dX10_say_11 : decode cX10_say 11 = .ok (.bipush (-2), 2) := by decide +kernel
theorem dX10_say_13 : decode cX10_say 13 = .ok (.ireturn, 1) := by decide +kernel
theorem dX10_say_14 : decode cX10_say 14 = .ok (.aload_n 0, 1) := by decide +kernel
theorem dX10_say_15 : decode cX10_say 15 = .ok (.getfield 10, 3) := by decide +kernel
theorem dX10_say_18 : decode cX10_say 18 = .ok (.getfield 93, 3) := by decide +kernel
theorem dX10_say_21 : decode cX10_say 21 = .ok (.bipush 60, 2) := by decide +kernel
theorem dX10_say_23 : decode cX10_say 23 = .ok (.if_icmp .lt 6, 3) := by decide +kernel
theorem dX10_say_26 : decode cX10_say 26 = .ok (.bipush (-4), 2) := by decide +kernel
theorem dX10_say_28 : decode cX10_say 28 = .ok (.ireturn, 1) := by decide +kernel
theorem dX10_say_29 : decode cX10_say 29 = .ok (.aload_n 0, 1) := by decide +kernel
theorem dX10_say_30 : decode cX10_say 30 = .ok (.getfield 10, 3) := by decide +kernel
theorem dX10_say_33 : decode cX10_say 33 = .ok (.iload_n 1, 1) := by decide +kernel
theorem dX10_say_34 : decode cX10_say 34 = .ok (.invokevirtual 97, 3) := by decide +kernel
theorem dX10_say_37 : decode cX10_say 37 = .ok (.ireturn, 1) := by decide +kernel
theorem dX10_wipe_0 : decode cX10_wipe 0 = .ok (.aload_n 0, 1) := by decide +kernel
theorem dX10_wipe_1 : decode cX10_wipe 1 = .ok (.getfield 10, 3) := by decide +kernel
theorem dX10_wipe_4 : decode cX10_wipe 4 = .ok (.invokevirtual 101, 3) := by decide +kernel
theorem dX10_wipe_7 : decode cX10_wipe 7 = .ok (.ireturn, 1) := by decide +kernel
theorem dX10_fault_0 : decode cX10_fault 0 = .ok (.aload_n 0, 1) := by decide +kernel
theorem dX10_fault_1 : decode cX10_fault 1 = .ok (.getfield 10, 3) := by decide +kernel
theorem dX10_fault_4 : decode cX10_fault 4 = .ok (.invokevirtual 105, 3) := by decide +kernel
theorem dX10_fault_7 : decode cX10_fault 7 = .ok (.ireturn, 1) := by decide +kernel
theorem dX10_act_0 : decode cX10_act 0 = .ok (.iload_n 1, 1) := by decide +kernel
theorem dX10_act_1 : decode cX10_act 1 = .ok (.invokestatic 108, 3) := by decide +kernel
theorem dX10_act_4 : decode cX10_act 4 = .ok (.ifCond .ne 6, 3) := by decide +kernel
theorem dX10_act_7 : decode cX10_act 7 = .ok (.bipush (-2), 2) := by decide +kernel
theorem dX10_act_9 : decode cX10_act 9 = .ok (.ireturn, 1) := by decide +kernel
theorem dX10_act_10 : decode cX10_act 10 = .ok (.aload_n 0, 1) := by decide +kernel
theorem dX10_act_11 : decode cX10_act 11 = .ok (.getfield 19, 3) := by decide +kernel
theorem dX10_act_14 : decode cX10_act 14 = .ok (.getfield 112, 3) := by decide +kernel
theorem dX10_act_17 : decode cX10_act 17 = .ok (.bipush 8, 2) := by decide +kernel
theorem dX10_act_19 : decode cX10_act 19 = .ok (.if_icmp .lt 6, 3) := by decide +kernel
theorem dX10_act_22 : decode cX10_act 22 = .ok (.bipush (-4), 2) := by decide +kernel
theorem dX10_act_24 : decode cX10_act 24 = .ok (.ireturn, 1) := by decide +kernel
theorem dX10_act_25 : decode cX10_act 25 = .ok (.aload_n 0, 1) := by decide +kernel
theorem dX10_act_26 : decode cX10_act 26 = .ok (.getfield 10, 3) := by decide +kernel
theorem dX10_act_29 : decode cX10_act 29 = .ok (.invokevirtual 105, 3) := by decide +kernel
theorem dX10_act_32 : decode cX10_act 32 = .ok (.bipush (-6), 2) := by decide +kernel
theorem dX10_act_34 : decode cX10_act 34 = .ok (.if_icmp .eq 6, 3) := by decide +kernel
theorem dX10_act_37 : decode cX10_act 37 = .ok (.bipush (-5), 2) := by decide +kernel
theorem dX10_act_39 : decode cX10_act 39 = .ok (.ireturn, 1) := by decide +kernel
theorem dX10_act_40 : decode cX10_act 40 = .ok (.aload_n 0, 1) := by decide +kernel
theorem dX10_act_41 : decode cX10_act 41 = .ok (.getfield 19, 3) := by decide +kernel
theorem dX10_act_44 : decode cX10_act 44 = .ok (.iload_n 1, 1) := by decide +kernel
theorem dX10_act_45 : decode cX10_act 45 = .ok (.aload_n 0, 1) := by decide +kernel
theorem dX10_act_46 : decode cX10_act 46 = .ok (.getfield 10, 3) := by decide +kernel
theorem dX10_act_49 : decode cX10_act 49 = .ok (.invokevirtual 113, 3) := by decide +kernel
theorem dX10_act_52 : decode cX10_act 52 = .ok (.aload_n 0, 1) := by decide +kernel
theorem dX10_act_53 : decode cX10_act 53 = .ok (.getfield 10, 3) := by decide +kernel
theorem dX10_act_56 : decode cX10_act 56 = .ok (.invokevirtual 101, 3) := by decide +kernel
theorem dX10_act_59 : decode cX10_act 59 = .ok (.pop, 1) := by decide +kernel
theorem dX10_act_60 : decode cX10_act 60 = .ok (.aload_n 0, 1) := by decide +kernel
theorem dX10_act_61 : decode cX10_act 61 = .ok (.getfield 19, 3) := by decide +kernel
theorem dX10_act_64 : decode cX10_act 64 = .ok (.getfield 112, 3) := by decide +kernel
theorem dX10_act_67 : decode cX10_act 67 = .ok (.ireturn, 1) := by decide +kernel
theorem dX10_brand_0 : decode cX10_brand 0 = .ok (.iload_n 1, 1) := by decide +kernel
theorem dX10_brand_1 : decode cX10_brand 1 = .ok (.invokestatic 116, 3) := by decide +kernel
theorem dX10_brand_4 : decode cX10_brand 4 = .ok (.ifCond .ne 5, 3) := by decide +kernel
theorem dX10_brand_7 : decode cX10_brand 7 = .ok (.iconst (-1), 1) := by decide +kernel
theorem dX10_brand_8 : decode cX10_brand 8 = .ok (.ireturn, 1) := by decide +kernel
theorem dX10_brand_9 : decode cX10_brand 9 = .ok (.aload_n 0, 1) := by decide +kernel
theorem dX10_brand_10 : decode cX10_brand 10 = .ok (.invokevirtual 119, 3) := by decide +kernel
theorem dX10_brand_13 : decode cX10_brand 13 = .ok (.iload_n 2, 1) := by decide +kernel
theorem dX10_brand_14 : decode cX10_brand 14 = .ok (.iconst 0, 1) := by decide +kernel
theorem dX10_brand_15 : decode cX10_brand 15 = .ok (.aload_n 0, 1) := by decide +kernel
theorem dX10_brand_16 : decode cX10_brand 16 = .ok (.iload_n 1, 1) := by decide +kernel
theorem dX10_brand_17 : decode cX10_brand 17 = .ok (.invokevirtual 122, 3) := by decide +kernel
theorem dX10_brand_20 : decode cX10_brand 20 = .ok (.iconst 1, 1) := by decide +kernel
theorem dX10_brand_21 : decode cX10_brand 21 = .ok (.isub, 1) := by decide +kernel
theorem dX10_brand_22 : decode cX10_brand 22 = .ok (.invokestatic 89, 3) := by decide +kernel
theorem dX10_brand_25 : decode cX10_brand 25 = .ok (.ifCond .ne 5, 3) := by decide +kernel
theorem dX10_brand_28 : decode cX10_brand 28 = .ok (.iconst (-1), 1) := by decide +kernel
theorem dX10_brand_29 : decode cX10_brand 29 = .ok (.ireturn, 1) := by decide +kernel
theorem dX10_brand_30 : decode cX10_brand 30 = .ok (.iload_n 3, 1) := by decide +kernel
theorem dX10_brand_31 : decode cX10_brand 31 = .ok (.invokestatic 108, 3) := by decide +kernel
theorem dX10_brand_34 : decode cX10_brand 34 = .ok (.ifCond .ne 6, 3) := by decide +kernel
theorem dX10_brand_37 : decode cX10_brand 37 = .ok (.bipush (-2), 2) := by decide +kernel
theorem dX10_brand_39 : decode cX10_brand 39 = .ok (.ireturn, 1) := by decide +kernel
theorem dX10_brand_40 : decode cX10_brand 40 = .ok (.aload_n 0, 1) := by decide +kernel
theorem dX10_brand_41 : decode cX10_brand 41 = .ok (.iload_n 1, 1) := by decide +kernel
theorem dX10_brand_42 : decode cX10_brand 42 = .ok (.iload_n 2, 1) := by decide +kernel
theorem dX10_brand_43 : decode cX10_brand 43 = .ok (.invokevirtual 125, 3) := by decide +kernel
theorem dX10_brand_46 : decode cX10_brand 46 = .ok (.aload_n 0, 1) := by decide +kernel
theorem dX10_brand_47 : decode cX10_brand 47 = .ok (.iload_n 3, 1) := by decide +kernel
theorem dX10_brand_48 : decode cX10_brand 48 = .ok (.invokevirtual 129, 3) := by decide +kernel
theorem dX10_brand_51 : decode cX10_brand 51 = .ok (.ireturn, 1) := by decide +kernel
theorem dX10_grade_0 : decode cX10_grade 0 = .ok (.iload_n 1, 1) := by decide +kernel
theorem dX10_grade_1 : decode cX10_grade 1 = .ok (.invokestatic 108, 3) := by decide +kernel
theorem dX10_grade_4 : decode cX10_grade 4 = .ok (.ifCond .ne 6, 3) := by decide +kernel
theorem dX10_grade_7 : decode cX10_grade 7 = .ok (.bipush (-2), 2) := by decide +kernel
theorem dX10_grade_9 : decode cX10_grade 9 = .ok (.ireturn, 1) := by decide +kernel
theorem dX10_grade_10 : decode cX10_grade 10 = .ok (.iload_n 2, 1) := by decide +kernel
theorem dX10_grade_11 : decode cX10_grade 11 = .ok (.iconst (-1), 1) := by decide +kernel
theorem dX10_grade_12 : decode cX10_grade 12 = .ok (.if_icmp .ne 14, 3) := by decide +kernel
theorem dX10_grade_15 : decode cX10_grade 15 = .ok (.aload_n 0, 1) := by decide +kernel
theorem dX10_grade_16 : decode cX10_grade 16 = .ok (.getfield 19, 3) := by decide +kernel
theorem dX10_grade_19 : decode cX10_grade 19 = .ok (.iload_n 1, 1) := by decide +kernel
theorem dX10_grade_20 : decode cX10_grade 20 = .ok (.invokevirtual 132, 3) := by decide +kernel
theorem dX10_grade_23 : decode cX10_grade 23 = .ok (.goto 12, 3) := by decide +kernel
theorem dX10_grade_26 : decode cX10_grade 26 = .ok (.aload_n 0, 1) := by decide +kernel
theorem dX10_grade_27 : decode cX10_grade 27 = .ok (.getfield 19, 3) := by decide +kernel
theorem dX10_grade_30 : decode cX10_grade 30 = .ok (.iload_n 1, 1) := by decide +kernel
theorem dX10_grade_31 : decode cX10_grade 31 = .ok (.iload_n 2, 1) := by decide +kernel
theorem dX10_grade_32 : decode cX10_grade 32 = .ok (.invokevirtual 135, 3) := by decide +kernel
theorem dX10_grade_35 : decode cX10_grade 35 = .ok (.ireturn, 1) := by decide +kernel
theorem dX10_set_0 : decode cX10_set 0 = .ok (.iload_n 1, 1) := by decide +kernel
theorem dX10_set_1 : decode cX10_set 1 = .ok (.invokestatic 116, 3) := by decide +kernel
theorem dX10_set_4 : decode cX10_set 4 = .ok (.ifCond .ne 5, 3) := by decide +kernel
theorem dX10_set_7 : decode cX10_set 7 = .ok (.iconst (-1), 1) := by decide +kernel
theorem dX10_set_8 : decode cX10_set 8 = .ok (.ireturn, 1) := by decide +kernel
theorem dX10_set_9 : decode cX10_set 9 = .ok (.iload_n 2, 1) := by decide +kernel
theorem dX10_set_10 : decode cX10_set 10 = .ok (.iconst 0, 1) := by decide +kernel
theorem dX10_set_11 : decode cX10_set 11 = .ok (.iconst 1, 1) := by decide +kernel
theorem dX10_set_12 : decode cX10_set 12 = .ok (.invokestatic 89, 3) := by decide +kernel
theorem dX10_set_15 : decode cX10_set 15 = .ok (.ifCond .eq 23, 3) := by decide +kernel
theorem dX10_set_18 : decode cX10_set 18 = .ok (.iload_n 3, 1) := by decide +kernel
theorem dX10_set_19 : decode cX10_set 19 = .ok (.iconst 1, 1) := by decide +kernel
theorem dX10_set_20 : decode cX10_set 20 = .ok (.iload_n 2, 1) := by decide +kernel
theorem dX10_set_21 : decode cX10_set 21 = .ok (.ifCond .ne 8, 3) := by decide +kernel
theorem dX10_set_24 : decode cX10_set 24 = .ok (.bipush 9, 2) := by decide +kernel
theorem dX10_set_26 : decode cX10_set 26 = .ok (.goto 6, 3) := by decide +kernel
theorem dX10_set_29 : decode cX10_set 29 = .ok (.sipush 2000, 3) := by decide +kernel
theorem dX10_set_32 : decode cX10_set 32 = .ok (.invokestatic 89, 3) := by decide +kernel
theorem dX10_set_35 : decode cX10_set 35 = .ok (.ifCond .ne 6, 3) := by decide +kernel
theorem dX10_set_38 : decode cX10_set 38 = .ok (.bipush (-2), 2) := by decide +kernel
theorem dX10_set_40 : decode cX10_set 40 = .ok (.ireturn, 1) := by decide +kernel
theorem dX10_set_41 : decode cX10_set 41 = .ok (.iload_n 2, 1) := by decide +kernel
theorem dX10_set_42 : decode cX10_set 42 = .ok (.ifCond .ne 13, 3) := by decide +kernel
theorem dX10_set_45 : decode cX10_set 45 = .ok (.aload_n 0, 1) := by decide +kernel
theorem dX10_set_46 : decode cX10_set 46 = .ok (.getfield 30, 3) := by decide +kernel
theorem dX10_set_49 : decode cX10_set 49 = .ok (.getfield 139, 3) := by decide +kernel
theorem dX10_set_52 : decode cX10_set 52 = .ok (.goto 10, 3) := by decide +kernel
theorem dX10_set_55 : decode cX10_set 55 = .ok (.aload_n 0, 1) := by decide +kernel
theorem dX10_set_56 : decode cX10_set 56 = .ok (.getfield 30, 3) := by decide +kernel
theorem dX10_set_59 : decode cX10_set 59 = .ok (.getfield 142, 3) := by decide +kernel
theorem dX10_set_62 : decode cX10_set 62 = .ok (.astore 4, 2) := by decide +kernel
theorem dX10_set_64 : decode cX10_set 64 = .ok (.aload 4, 2) := by decide +kernel
theorem dX10_set_66 : decode cX10_set 66 = .ok (.iload_n 1, 1) := by decide +kernel
theorem dX10_set_67 : decode cX10_set 67 = .ok (.iaload, 1) := by decide +kernel
theorem dX10_set_68 : decode cX10_set 68 = .ok (.istore 5, 2) := by decide +kernel
theorem dX10_set_70 : decode cX10_set 70 = .ok (.aload 4, 2) := by decide +kernel
theorem dX10_set_72 : decode cX10_set 72 = .ok (.iload_n 1, 1) := by decide +kernel
theorem dX10_set_73 : decode cX10_set 73 = .ok (.iload_n 3, 1) := by decide +kernel
theorem dX10_set_74 : decode cX10_set 74 = .ok (.iastore, 1) := by decide +kernel
theorem dX10_set_75 : decode cX10_set 75 = .ok (.iload 5, 2) := by decide +kernel
theorem dX10_set_77 : decode cX10_set 77 = .ok (.ireturn, 1) := by decide +kernel
theorem dX10_rule_0 : decode cX10_rule 0 = .ok (.iload_n 1, 1) := by decide +kernel
theorem dX10_rule_1 : decode cX10_rule 1 = .ok (.iconst 0, 1) := by decide +kernel
theorem dX10_rule_2 : decode cX10_rule 2 = .ok (.bipush 6, 2) := by decide +kernel
theorem dX10_rule_4 : decode cX10_rule 4 = .ok (.invokestatic 89, 3) := by decide +kernel
theorem dX10_rule_7 : decode cX10_rule 7 = .ok (.ifCond .eq 20, 3) := by decide +kernel
theorem dX10_rule_10 : decode cX10_rule 10 = .ok (.iload_n 2, 1) := by decide +kernel
theorem dX10_rule_11 : decode cX10_rule 11 = .ok (.getstatic 145, 3) := by decide +kernel
theorem dX10_rule_14 : decode cX10_rule 14 = .ok (.iload_n 1, 1) := by decide +kernel
theorem dX10_rule_15 : decode cX10_rule 15 = .ok (.iaload, 1) := by decide +kernel
theorem dX10_rule_16 : decode cX10_rule 16 = .ok (.getstatic 148, 3) := by decide +kernel
theorem dX10_rule_19 : decode cX10_rule 19 = .ok (.iload_n 1, 1) := by decide +kernel
theorem dX10_rule_20 : decode cX10_rule 20 = .ok (.iaload, 1) := by decide +kernel
theorem dX10_rule_21 : decode cX10_rule 21 = .ok (.invokestatic 89, 3) := by decide +kernel
theorem dX10_rule_24 : decode cX10_rule 24 = .ok (.ifCond .ne 6, 3) := by decide +kernel
theorem dX10_rule_27 : decode cX10_rule 27 = .ok (.bipush (-2), 2) := by decide +kernel
theorem dX10_rule_29 : decode cX10_rule 29 = .ok (.ireturn, 1) := by decide +kernel
theorem dX10_rule_30 : decode cX10_rule 30 = .ok (.aload_n 0, 1) := by decide +kernel
theorem dX10_rule_31 : decode cX10_rule 31 = .ok (.getfield 23, 3) := by decide +kernel
theorem dX10_rule_34 : decode cX10_rule 34 = .ok (.iload_n 1, 1) := by decide +kernel
theorem dX10_rule_35 : decode cX10_rule 35 = .ok (.iaload, 1) := by decide +kernel
theorem dX10_rule_36 : decode cX10_rule 36 = .ok (.istore_n 3, 1) := by decide +kernel
theorem dX10_rule_37 : decode cX10_rule 37 = .ok (.aload_n 0, 1) := by decide +kernel
theorem dX10_rule_38 : decode cX10_rule 38 = .ok (.getfield 23, 3) := by decide +kernel
theorem dX10_rule_41 : decode cX10_rule 41 = .ok (.iload_n 1, 1) := by decide +kernel
theorem dX10_rule_42 : decode cX10_rule 42 = .ok (.iload_n 2, 1) := by decide +kernel
theorem dX10_rule_43 : decode cX10_rule 43 = .ok (.iastore, 1) := by decide +kernel
theorem dX10_rule_44 : decode cX10_rule 44 = .ok (.iload_n 3, 1) := by decide +kernel
theorem dX10_rule_45 : decode cX10_rule 45 = .ok (.ireturn, 1) := by decide +kernel
theorem dX10_land_0 : decode cX10_land 0 = .ok (.iload_n 1, 1) := by decide +kernel
theorem dX10_land_1 : decode cX10_land 1 = .ok (.invokestatic 151, 3) := by decide +kernel
theorem dX10_land_4 : decode cX10_land 4 = .ok (.ifCond .eq 10, 3) := by decide +kernel
theorem dX10_land_7 : decode cX10_land 7 = .ok (.iload_n 2, 1) := by decide +kernel
theorem dX10_land_8 : decode cX10_land 8 = .ok (.invokestatic 154, 3) := by decide +kernel
theorem dX10_land_11 : decode cX10_land 11 = .ok (.ifCond .ne 5, 3) := by decide +kernel
theorem dX10_land_14 : decode cX10_land 14 = .ok (.iconst (-1), 1) := by decide +kernel
theorem dX10_land_15 : decode cX10_land 15 = .ok (.ireturn, 1) := by decide +kernel
theorem dX10_land_16 : decode cX10_land 16 = .ok (.iload_n 3, 1) := by decide +kernel
theorem dX10_land_17 : decode cX10_land 17 = .ok (.invokestatic 157, 3) := by decide +kernel
theorem dX10_land_20 : decode cX10_land 20 = .ok (.ifCond .eq 26, 3) := by decide +kernel
theorem dX10_land_23 : decode cX10_land 23 = .ok (.iload 4, 2) := by decide +kernel
theorem dX10_land_25 : decode cX10_land 25 = .ok (.iconst 1, 1) := by decide +kernel
theorem dX10_land_26 : decode cX10_land 26 = .ok (.sipush 20000, 3) := by decide +kernel
theorem dX10_land_29 : decode cX10_land 29 = .ok (.invokestatic 89, 3) := by decide +kernel
theorem dX10_land_32 : decode cX10_land 32 = .ok (.ifCond .eq 14, 3) := by decide +kernel
theorem dX10_land_35 : decode cX10_land 35 = .ok (.iload 5, 2) := by decide +kernel
theorem dX10_land_37 : decode cX10_land 37 = .ok (.iconst 1, 1) := by decide +kernel
theorem dX10_land_38 : decode cX10_land 38 = .ok (.bipush 9, 2) := by decide +kernel
theorem dX10_land_40 : decode cX10_land 40 = .ok (.invokestatic 89, 3) := by decide +kernel
theorem dX10_land_43 : decode cX10_land 43 = .ok (.ifCond .ne 6, 3) := by decide +kernel
theorem dX10_land_46 : decode cX10_land 46 = .ok (.bipush (-2), 2) := by decide +kernel
theorem dX10_land_48 : decode cX10_land 48 = .ok (.ireturn, 1) := by decide +kernel
theorem dX10_land_49 : decode cX10_land 49 = .ok (.aload_n 0, 1) := by decide +kernel
theorem dX10_land_50 : decode cX10_land 50 = .ok (.getfield 30, 3) := by decide +kernel
theorem dX10_land_53 : decode cX10_land 53 = .ok (.getfield 160, 3) := by decide +kernel
theorem dX10_land_56 : decode cX10_land 56 = .ok (.bipush 30, 2) := by decide +kernel
theorem dX10_land_58 : decode cX10_land 58 = .ok (.if_icmp .lt 6, 3) := by decide +kernel
theorem dX10_land_61 : decode cX10_land 61 = .ok (.bipush (-4), 2) := by decide +kernel
theorem dX10_land_63 : decode cX10_land 63 = .ok (.ireturn, 1) := by decide +kernel
theorem dX10_land_64 : decode cX10_land 64 = .ok (.iload_n 2, 1) := by decide +kernel
theorem dX10_land_65 : decode cX10_land 65 = .ok (.iconst (-1), 1) := by decide +kernel
theorem dX10_land_66 : decode cX10_land 66 = .ok (.if_icmp .ne 17, 3) := by decide +kernel
theorem dX10_land_69 : decode cX10_land 69 = .ok (.aload_n 0, 1) := by decide +kernel
theorem dX10_land_70 : decode cX10_land 70 = .ok (.getfield 30, 3) := by decide +kernel
theorem dX10_land_73 : decode cX10_land 73 = .ok (.invokevirtual 161, 3) := by decide +kernel
theorem dX10_land_76 : decode cX10_land 76 = .ok (.iconst 5, 1) := by decide +kernel
theorem dX10_land_77 : decode cX10_land 77 = .ok (.if_icmp .lt 6, 3) := by decide +kernel
theorem dX10_land_80 : decode cX10_land 80 = .ok (.bipush (-5), 2) := by decide +kernel
theorem dX10_land_82 : decode cX10_land 82 = .ok (.ireturn, 1) := by decide +kernel
theorem dX10_land_83 : decode cX10_land 83 = .ok (.aload_n 0, 1) := by decide +kernel
theorem dX10_land_84 : decode cX10_land 84 = .ok (.getfield 30, 3) := by decide +kernel
theorem dX10_land_87 : decode cX10_land 87 = .ok (.iload_n 1, 1) := by decide +kernel
theorem dX10_land_88 : decode cX10_land 88 = .ok (.iload_n 2, 1) := by decide +kernel
theorem dX10_land_89 : decode cX10_land 89 = .ok (.iload_n 3, 1) := by decide +kernel
theorem dX10_land_90 : decode cX10_land 90 = .ok (.iload 4, 2) := by decide +kernel
theorem dX10_land_92 : decode cX10_land 92 = .ok (.iload 5, 2) := by decide +kernel
theorem dX10_land_94 : decode cX10_land 94 = .ok (.invokevirtual 164, 3) := by decide +kernel
theorem dX10_land_97 : decode cX10_land 97 = .ok (.ireturn, 1) := by decide +kernel
theorem dX10_lead_0 : decode cX10_lead 0 = .ok (.aload_n 0, 1) := by decide +kernel
theorem dX10_lead_1 : decode cX10_lead 1 = .ok (.iload_n 1, 1) := by decide +kernel
theorem dX10_lead_2 : decode cX10_lead 2 = .ok (.invokevirtual 167, 3) := by decide +kernel
theorem dX10_lead_5 : decode cX10_lead 5 = .ok (.ifCond .eq 10, 3) := by decide +kernel
theorem dX10_lead_8 : decode cX10_lead 8 = .ok (.iload_n 2, 1) := by decide +kernel
theorem dX10_lead_9 : decode cX10_lead 9 = .ok (.invokestatic 154, 3) := by decide +kernel
theorem dX10_lead_12 : decode cX10_lead 12 = .ok (.ifCond .ne 5, 3) := by decide +kernel
theorem dX10_lead_15 : decode cX10_lead 15 = .ok (.iconst (-1), 1) := by decide +kernel
theorem dX10_lead_16 : decode cX10_lead 16 = .ok (.ireturn, 1) := by decide +kernel
theorem dX10_lead_17 : decode cX10_lead 17 = .ok (.aload_n 0, 1) := by decide +kernel
theorem dX10_lead_18 : decode cX10_lead 18 = .ok (.getfield 30, 3) := by decide +kernel
theorem dX10_lead_21 : decode cX10_lead 21 = .ok (.getfield 170, 3) := by decide +kernel
theorem dX10_lead_24 : decode cX10_lead 24 = .ok (.iload_n 1, 1) := by decide +kernel
theorem dX10_lead_25 : decode cX10_lead 25 = .ok (.iaload, 1) := by decide +kernel
theorem dX10_lead_26 : decode cX10_lead 26 = .ok (.istore_n 3, 1) := by decide +kernel
theorem dX10_lead_27 : decode cX10_lead 27 = .ok (.iload_n 2, 1) := by decide +kernel
theorem dX10_lead_28 : decode cX10_lead 28 = .ok (.iconst (-1), 1) := by decide +kernel
theorem dX10_lead_29 : decode cX10_lead 29 = .ok (.if_icmp .ne 22, 3) := by decide +kernel
theorem dX10_lead_32 : decode cX10_lead 32 = .ok (.iload_n 3, 1) := by decide +kernel
theorem dX10_lead_33 : decode cX10_lead 33 = .ok (.iconst (-1), 1) := by decide +kernel
theorem dX10_lead_34 : decode cX10_lead 34 = .ok (.if_icmp .eq 17, 3) := by decide +kernel
theorem dX10_lead_37 : decode cX10_lead 37 = .ok (.aload_n 0, 1) := by decide +kernel
theorem dX10_lead_38 : decode cX10_lead 38 = .ok (.getfield 30, 3) := by decide +kernel
theorem dX10_lead_41 : decode cX10_lead 41 = .ok (.invokevirtual 161, 3) := by decide +kernel
theorem dX10_lead_44 : decode cX10_lead 44 = .ok (.iconst 5, 1) := by decide +kernel
theorem dX10_lead_45 : decode cX10_lead 45 = .ok (.if_icmp .lt 6, 3) := by decide +kernel
theorem dX10_lead_48 : decode cX10_lead 48 = .ok (.bipush (-5), 2) := by decide +kernel
theorem dX10_lead_50 : decode cX10_lead 50 = .ok (.ireturn, 1) := by decide +kernel
theorem dX10_lead_51 : decode cX10_lead 51 = .ok (.aload_n 0, 1) := by decide +kernel
theorem dX10_lead_52 : decode cX10_lead 52 = .ok (.getfield 30, 3) := by decide +kernel
theorem dX10_lead_55 : decode cX10_lead 55 = .ok (.getfield 170, 3) := by decide +kernel
theorem dX10_lead_58 : decode cX10_lead 58 = .ok (.iload_n 1, 1) := by decide +kernel
theorem dX10_lead_59 : decode cX10_lead 59 = .ok (.iload_n 2, 1) := by decide +kernel
theorem dX10_lead_60 : decode cX10_lead 60 = .ok (.iastore, 1) := by decide +kernel
theorem dX10_lead_61 : decode cX10_lead 61 = .ok (.iload_n 3, 1) := by decide +kernel
theorem dX10_lead_62 : decode cX10_lead 62 = .ok (.ireturn, 1) := by decide +kernel
theorem dX10_landing_0 : decode cX10_landing 0 = .ok (.aload_n 0, 1) := by decide +kernel
theorem dX10_landing_1 : decode cX10_landing 1 = .ok (.iload_n 1, 1) := by decide +kernel
theorem dX10_landing_2 : decode cX10_landing 2 = .ok (.invokevirtual 167, 3) := by decide +kernel
theorem dX10_landing_5 : decode cX10_landing 5 = .ok (.ifCond .ne 5, 3) := by decide +kernel
theorem dX10_landing_8 : decode cX10_landing 8 = .ok (.iconst (-1), 1) := by decide +kernel
theorem dX10_landing_9 : decode cX10_landing 9 = .ok (.ireturn, 1) := by decide +kernel
theorem dX10_landing_10 : decode cX10_landing 10 = .ok (.iload_n 2, 1) := by decide +kernel
theorem dX10_landing_11 : decode cX10_landing 11 = .ok (.tableswitch 117 0 6 #[41, 51, 61, 71, 81, 91, 104], 41) := by decide +kernel
theorem dX10_landing_52 : decode cX10_landing 52 = .ok (.aload_n 0, 1) := by decide +kernel
theorem dX10_landing_53 : decode cX10_landing 53 = .ok (.getfield 30, 3) := by decide +kernel
theorem dX10_landing_56 : decode cX10_landing 56 = .ok (.getfield 173, 3) := by decide +kernel
theorem dX10_landing_59 : decode cX10_landing 59 = .ok (.iload_n 1, 1) := by decide +kernel
theorem dX10_landing_60 : decode cX10_landing 60 = .ok (.iaload, 1) := by decide +kernel
theorem dX10_landing_61 : decode cX10_landing 61 = .ok (.ireturn, 1) := by decide +kernel
theorem dX10_landing_62 : decode cX10_landing 62 = .ok (.aload_n 0, 1) := by decide +kernel
theorem dX10_landing_63 : decode cX10_landing 63 = .ok (.getfield 30, 3) := by decide +kernel
theorem dX10_landing_66 : decode cX10_landing 66 = .ok (.getfield 170, 3) := by decide +kernel
theorem dX10_landing_69 : decode cX10_landing 69 = .ok (.iload_n 1, 1) := by decide +kernel
theorem dX10_landing_70 : decode cX10_landing 70 = .ok (.iaload, 1) := by decide +kernel
theorem dX10_landing_71 : decode cX10_landing 71 = .ok (.ireturn, 1) := by decide +kernel
theorem dX10_landing_72 : decode cX10_landing 72 = .ok (.aload_n 0, 1) := by decide +kernel
theorem dX10_landing_73 : decode cX10_landing 73 = .ok (.getfield 30, 3) := by decide +kernel
theorem dX10_landing_76 : decode cX10_landing 76 = .ok (.getfield 175, 3) := by decide +kernel
theorem dX10_landing_79 : decode cX10_landing 79 = .ok (.iload_n 1, 1) := by decide +kernel
theorem dX10_landing_80 : decode cX10_landing 80 = .ok (.iaload, 1) := by decide +kernel
theorem dX10_landing_81 : decode cX10_landing 81 = .ok (.ireturn, 1) := by decide +kernel
theorem dX10_landing_82 : decode cX10_landing 82 = .ok (.aload_n 0, 1) := by decide +kernel
theorem dX10_landing_83 : decode cX10_landing 83 = .ok (.getfield 30, 3) := by decide +kernel
theorem dX10_landing_86 : decode cX10_landing 86 = .ok (.getfield 178, 3) := by decide +kernel
theorem dX10_landing_89 : decode cX10_landing 89 = .ok (.iload_n 1, 1) := by decide +kernel
theorem dX10_landing_90 : decode cX10_landing 90 = .ok (.iaload, 1) := by decide +kernel
theorem dX10_landing_91 : decode cX10_landing 91 = .ok (.ireturn, 1) := by decide +kernel
theorem dX10_landing_92 : decode cX10_landing 92 = .ok (.aload_n 0, 1) := by decide +kernel
theorem dX10_landing_93 : decode cX10_landing 93 = .ok (.getfield 30, 3) := by decide +kernel
theorem dX10_landing_96 : decode cX10_landing 96 = .ok (.getfield 181, 3) := by decide +kernel
theorem dX10_landing_99 : decode cX10_landing 99 = .ok (.iload_n 1, 1) := by decide +kernel
theorem dX10_landing_100 : decode cX10_landing 100 = .ok (.iaload, 1) := by decide +kernel
theorem dX10_landing_101 : decode cX10_landing 101 = .ok (.ireturn, 1) := by decide +kernel
theorem dX10_landing_102 : decode cX10_landing 102 = .ok (.aload_n 0, 1) := by decide +kernel
theorem dX10_landing_103 : decode cX10_landing 103 = .ok (.invokevirtual 119, 3) := by decide +kernel
theorem dX10_landing_106 : decode cX10_landing 106 = .ok (.aload_n 0, 1) := by decide +kernel
theorem dX10_landing_107 : decode cX10_landing 107 = .ok (.getfield 30, 3) := by decide +kernel
theorem dX10_landing_110 : decode cX10_landing 110 = .ok (.iload_n 1, 1) := by decide +kernel
theorem dX10_landing_111 : decode cX10_landing 111 = .ok (.invokevirtual 184, 3) := by decide +kernel
theorem dX10_landing_114 : decode cX10_landing 114 = .ok (.ireturn, 1) := by decide +kernel
theorem dX10_landing_115 : decode cX10_landing 115 = .ok (.aload_n 0, 1) := by decide +kernel
theorem dX10_landing_116 : decode cX10_landing 116 = .ok (.invokevirtual 119, 3) := by decide +kernel
theorem dX10_landing_119 : decode cX10_landing 119 = .ok (.aload_n 0, 1) := by decide +kernel
theorem dX10_landing_120 : decode cX10_landing 120 = .ok (.getfield 30, 3) := by decide +kernel
theorem dX10_landing_123 : decode cX10_landing 123 = .ok (.iload_n 1, 1) := by decide +kernel
theorem dX10_landing_124 : decode cX10_landing 124 = .ok (.invokevirtual 187, 3) := by decide +kernel
theorem dX10_landing_127 : decode cX10_landing 127 = .ok (.ireturn, 1) := by decide +kernel
theorem dX10_landing_128 : decode cX10_landing 128 = .ok (.bipush (-2), 2) := by decide +kernel
theorem dX10_landing_130 : decode cX10_landing 130 = .ok (.ireturn, 1) := by decide +kernel
theorem dX10_salt_0 : decode cX10_salt 0 = .ok (.iload_n 1, 1) := by decide +kernel
theorem dX10_salt_1 : decode cX10_salt 1 = .ok (.invokestatic 116, 3) := by decide +kernel
theorem dX10_salt_4 : decode cX10_salt 4 = .ok (.ifCond .ne 5, 3) := by decide +kernel
theorem dX10_salt_7 : decode cX10_salt 7 = .ok (.iconst (-1), 1) := by decide +kernel
theorem dX10_salt_8 : decode cX10_salt 8 = .ok (.ireturn, 1) := by decide +kernel
theorem dX10_salt_9 : decode cX10_salt 9 = .ok (.iload_n 2, 1) := by decide +kernel
theorem dX10_salt_10 : decode cX10_salt 10 = .ok (.invokestatic 157, 3) := by decide +kernel
theorem dX10_salt_13 : decode cX10_salt 13 = .ok (.ifCond .eq 24, 3) := by decide +kernel
theorem dX10_salt_16 : decode cX10_salt 16 = .ok (.iload_n 3, 1) := by decide +kernel
theorem dX10_salt_17 : decode cX10_salt 17 = .ok (.iconst 0, 1) := by decide +kernel
theorem dX10_salt_18 : decode cX10_salt 18 = .ok (.bipush 9, 2) := by decide +kernel
theorem dX10_salt_20 : decode cX10_salt 20 = .ok (.invokestatic 89, 3) := by decide +kernel
theorem dX10_salt_23 : decode cX10_salt 23 = .ok (.ifCond .eq 14, 3) := by decide +kernel
theorem dX10_salt_26 : decode cX10_salt 26 = .ok (.iload 4, 2) := by decide +kernel
theorem dX10_salt_28 : decode cX10_salt 28 = .ok (.iconst 1, 1) := by decide +kernel
theorem dX10_salt_29 : decode cX10_salt 29 = .ok (.bipush 100, 2) := by decide +kernel
theorem dX10_salt_31 : decode cX10_salt 31 = .ok (.invokestatic 89, 3) := by decide +kernel
theorem dX10_salt_34 : decode cX10_salt 34 = .ok (.ifCond .ne 6, 3) := by decide +kernel
theorem dX10_salt_37 : decode cX10_salt 37 = .ok (.bipush (-2), 2) := by decide +kernel
theorem dX10_salt_39 : decode cX10_salt 39 = .ok (.ireturn, 1) := by decide +kernel
theorem dX10_salt_40 : decode cX10_salt 40 = .ok (.aload_n 0, 1) := by decide +kernel
theorem dX10_salt_41 : decode cX10_salt 41 = .ok (.getfield 44, 3) := by decide +kernel
theorem dX10_salt_44 : decode cX10_salt 44 = .ok (.getfield 190, 3) := by decide +kernel
theorem dX10_salt_47 : decode cX10_salt 47 = .ok (.bipush 12, 2) := by decide +kernel
theorem dX10_salt_49 : decode cX10_salt 49 = .ok (.if_icmp .lt 6, 3) := by decide +kernel
theorem dX10_salt_52 : decode cX10_salt 52 = .ok (.bipush (-4), 2) := by decide +kernel
theorem dX10_salt_54 : decode cX10_salt 54 = .ok (.ireturn, 1) := by decide +kernel
theorem dX10_salt_55 : decode cX10_salt 55 = .ok (.aload_n 0, 1) := by decide +kernel
theorem dX10_salt_56 : decode cX10_salt 56 = .ok (.getfield 44, 3) := by decide +kernel
theorem dX10_salt_59 : decode cX10_salt 59 = .ok (.iload_n 1, 1) := by decide +kernel
theorem dX10_salt_60 : decode cX10_salt 60 = .ok (.iload_n 2, 1) := by decide +kernel
theorem dX10_salt_61 : decode cX10_salt 61 = .ok (.iload_n 3, 1) := by decide +kernel
theorem dX10_salt_62 : decode cX10_salt 62 = .ok (.iload 4, 2) := by decide +kernel
theorem dX10_salt_64 : decode cX10_salt 64 = .ok (.invokevirtual 191, 3) := by decide +kernel
theorem dX10_salt_67 : decode cX10_salt 67 = .ok (.ireturn, 1) := by decide +kernel
theorem dX10_barrel_0 : decode cX10_barrel 0 = .ok (.iload_n 1, 1) := by decide +kernel
theorem dX10_barrel_1 : decode cX10_barrel 1 = .ok (.invokestatic 116, 3) := by decide +kernel
theorem dX10_barrel_4 : decode cX10_barrel 4 = .ok (.ifCond .ne 5, 3) := by decide +kernel
theorem dX10_barrel_7 : decode cX10_barrel 7 = .ok (.iconst (-1), 1) := by decide +kernel
theorem dX10_barrel_8 : decode cX10_barrel 8 = .ok (.ireturn, 1) := by decide +kernel
theorem dX10_barrel_9 : decode cX10_barrel 9 = .ok (.aload_n 0, 1) := by decide +kernel
theorem dX10_barrel_10 : decode cX10_barrel 10 = .ok (.invokevirtual 119, 3) := by decide +kernel
theorem dX10_barrel_13 : decode cX10_barrel 13 = .ok (.aload_n 0, 1) := by decide +kernel
theorem dX10_barrel_14 : decode cX10_barrel 14 = .ok (.iload_n 1, 1) := by decide +kernel
theorem dX10_barrel_15 : decode cX10_barrel 15 = .ok (.invokevirtual 122, 3) := by decide +kernel
theorem dX10_barrel_18 : decode cX10_barrel 18 = .ok (.istore 4, 2) := by decide +kernel
theorem dX10_barrel_20 : decode cX10_barrel 20 = .ok (.iload_n 2, 1) := by decide +kernel
theorem dX10_barrel_21 : decode cX10_barrel 21 = .ok (.iconst (-1), 1) := by decide +kernel
theorem dX10_barrel_22 : decode cX10_barrel 22 = .ok (.iload 4, 2) := by decide +kernel
theorem dX10_barrel_24 : decode cX10_barrel 24 = .ok (.iconst 1, 1) := by decide +kernel
theorem dX10_barrel_25 : decode cX10_barrel 25 = .ok (.isub, 1) := by decide +kernel
theorem dX10_barrel_26 : decode cX10_barrel 26 = .ok (.invokestatic 89, 3) := by decide +kernel
theorem dX10_barrel_29 : decode cX10_barrel 29 = .ok (.ifCond .ne 5, 3) := by decide +kernel
theorem dX10_barrel_32 : decode cX10_barrel 32 = .ok (.iconst (-1), 1) := by decide +kernel
theorem dX10_barrel_33 : decode cX10_barrel 33 = .ok (.ireturn, 1) := by decide +kernel
theorem dX10_barrel_34 : decode cX10_barrel 34 = .ok (.iload_n 3, 1) := by decide +kernel
theorem dX10_barrel_35 : decode cX10_barrel 35 = .ok (.iconst 0, 1) := by decide +kernel
theorem dX10_barrel_36 : decode cX10_barrel 36 = .ok (.bipush 6, 2) := by decide +kernel
theorem dX10_barrel_38 : decode cX10_barrel 38 = .ok (.invokestatic 89, 3) := by decide +kernel
theorem dX10_barrel_41 : decode cX10_barrel 41 = .ok (.ifCond .ne 6, 3) := by decide +kernel
theorem dX10_barrel_44 : decode cX10_barrel 44 = .ok (.bipush (-2), 2) := by decide +kernel
theorem dX10_barrel_46 : decode cX10_barrel 46 = .ok (.ireturn, 1) := by decide +kernel
theorem dX10_barrel_47 : decode cX10_barrel 47 = .ok (.iload_n 2, 1) := by decide +kernel
theorem dX10_barrel_48 : decode cX10_barrel 48 = .ok (.iconst (-1), 1) := by decide +kernel
theorem dX10_barrel_49 : decode cX10_barrel 49 = .ok (.if_icmp .ne 6, 3) := by decide +kernel
theorem dX10_barrel_52 : decode cX10_barrel 52 = .ok (.iload 4, 2) := by decide +kernel
theorem dX10_barrel_54 : decode cX10_barrel 54 = .ok (.ireturn, 1) := by decide +kernel
theorem dX10_barrel_55 : decode cX10_barrel 55 = .ok (.aload_n 0, 1) := by decide +kernel
theorem dX10_barrel_56 : decode cX10_barrel 56 = .ok (.iload_n 1, 1) := by decide +kernel
theorem dX10_barrel_57 : decode cX10_barrel 57 = .ok (.iload_n 2, 1) := by decide +kernel
theorem dX10_barrel_58 : decode cX10_barrel 58 = .ok (.invokevirtual 125, 3) := by decide +kernel
theorem dX10_barrel_61 : decode cX10_barrel 61 = .ok (.aload_n 0, 1) := by decide +kernel
theorem dX10_barrel_62 : decode cX10_barrel 62 = .ok (.iload_n 3, 1) := by decide +kernel
theorem dX10_barrel_63 : decode cX10_barrel 63 = .ok (.invokevirtual 194, 3) := by decide +kernel
theorem dX10_barrel_66 : decode cX10_barrel 66 = .ok (.ireturn, 1) := by decide +kernel
theorem dX10_filled_0 : decode cX10_filled 0 = .ok (.iload_n 1, 1) := by decide +kernel
theorem dX10_filled_1 : decode cX10_filled 1 = .ok (.invokestatic 116, 3) := by decide +kernel
theorem dX10_filled_4 : decode cX10_filled 4 = .ok (.ifCond .eq 12, 3) := by decide +kernel
theorem dX10_filled_7 : decode cX10_filled 7 = .ok (.iload_n 2, 1) := by decide +kernel
theorem dX10_filled_8 : decode cX10_filled 8 = .ok (.iconst 0, 1) := by decide +kernel
theorem dX10_filled_9 : decode cX10_filled 9 = .ok (.iconst 5, 1) := by decide +kernel
theorem dX10_filled_10 : decode cX10_filled 10 = .ok (.invokestatic 89, 3) := by decide +kernel
theorem dX10_filled_13 : decode cX10_filled 13 = .ok (.ifCond .ne 5, 3) := by decide +kernel
theorem dX10_filled_16 : decode cX10_filled 16 = .ok (.iconst (-1), 1) := by decide +kernel
theorem dX10_filled_17 : decode cX10_filled 17 = .ok (.ireturn, 1) := by decide +kernel
theorem dX10_filled_18 : decode cX10_filled 18 = .ok (.iload_n 3, 1) := by decide +kernel
theorem dX10_filled_19 : decode cX10_filled 19 = .ok (.invokestatic 157, 3) := by decide +kernel
theorem dX10_filled_22 : decode cX10_filled 22 = .ok (.ifCond .eq 13, 3) := by decide +kernel
theorem dX10_filled_25 : decode cX10_filled 25 = .ok (.iload 4, 2) := by decide +kernel
theorem dX10_filled_27 : decode cX10_filled 27 = .ok (.iconst 0, 1) := by decide +kernel
theorem dX10_filled_28 : decode cX10_filled 28 = .ok (.iconst 1, 1) := by decide +kernel
theorem dX10_filled_29 : decode cX10_filled 29 = .ok (.invokestatic 89, 3) := by decide +kernel
theorem dX10_filled_32 : decode cX10_filled 32 = .ok (.ifCond .ne 6, 3) := by decide +kernel
theorem dX10_filled_35 : decode cX10_filled 35 = .ok (.bipush (-2), 2) := by decide +kernel
theorem dX10_filled_37 : decode cX10_filled 37 = .ok (.ireturn, 1) := by decide +kernel
theorem dX10_filled_38 : decode cX10_filled 38 = .ok (.aload_n 0, 1) := by decide +kernel
theorem dX10_filled_39 : decode cX10_filled 39 = .ok (.invokevirtual 119, 3) := by decide +kernel
theorem dX10_filled_42 : decode cX10_filled 42 = .ok (.aload_n 0, 1) := by decide +kernel
theorem dX10_filled_43 : decode cX10_filled 43 = .ok (.getfield 23, 3) := by decide +kernel
theorem dX10_filled_46 : decode cX10_filled 46 = .ok (.iconst 1, 1) := by decide +kernel
theorem dX10_filled_47 : decode cX10_filled 47 = .ok (.iaload, 1) := by decide +kernel
theorem dX10_filled_48 : decode cX10_filled 48 = .ok (.istore 5, 2) := by decide +kernel
theorem dX10_filled_50 : decode cX10_filled 50 = .ok (.iload 5, 2) := by decide +kernel
theorem dX10_filled_52 : decode cX10_filled 52 = .ok (.iload 5, 2) := by decide +kernel
theorem dX10_filled_54 : decode cX10_filled 54 = .ok (.aload_n 0, 1) := by decide +kernel
theorem dX10_filled_55 : decode cX10_filled 55 = .ok (.getfield 23, 3) := by decide +kernel
theorem dX10_filled_58 : decode cX10_filled 58 = .ok (.iconst 3, 1) := by decide +kernel
theorem dX10_filled_59 : decode cX10_filled 59 = .ok (.iaload, 1) := by decide +kernel
theorem dX10_filled_60 : decode cX10_filled 60 = .ok (.imul, 1) := by decide +kernel
theorem dX10_filled_61 : decode cX10_filled 61 = .ok (.bipush 100, 2) := by decide +kernel
theorem dX10_filled_63 : decode cX10_filled 63 = .ok (.idiv, 1) := by decide +kernel
theorem dX10_filled_64 : decode cX10_filled 64 = .ok (.isub, 1) := by decide +kernel
theorem dX10_filled_65 : decode cX10_filled 65 = .ok (.aload_n 0, 1) := by decide +kernel
theorem dX10_filled_66 : decode cX10_filled 66 = .ok (.iload_n 1, 1) := by decide +kernel
theorem dX10_filled_67 : decode cX10_filled 67 = .ok (.iload_n 2, 1) := by decide +kernel
theorem dX10_filled_68 : decode cX10_filled 68 = .ok (.iload_n 3, 1) := by decide +kernel
theorem dX10_filled_69 : decode cX10_filled 69 = .ok (.sipush 240, 3) := by decide +kernel
theorem dX10_filled_72 : decode cX10_filled 72 = .ok (.isub, 1) := by decide +kernel
theorem dX10_filled_73 : decode cX10_filled 73 = .ok (.invokevirtual 197, 3) := by decide +kernel
theorem dX10_filled_76 : decode cX10_filled 76 = .ok (.imul, 1) := by decide +kernel
theorem dX10_filled_77 : decode cX10_filled 77 = .ok (.istore 6, 2) := by decide +kernel
theorem dX10_filled_79 : decode cX10_filled 79 = .ok (.iload 4, 2) := by decide +kernel
theorem dX10_filled_81 : decode cX10_filled 81 = .ok (.ifCond .ne 11, 3) := by decide +kernel
theorem dX10_filled_84 : decode cX10_filled 84 = .ok (.iload 6, 2) := by decide +kernel
theorem dX10_filled_86 : decode cX10_filled 86 = .ok (.iload 5, 2) := by decide +kernel
theorem dX10_filled_88 : decode cX10_filled 88 = .ok (.idiv, 1) := by decide +kernel
theorem dX10_filled_89 : decode cX10_filled 89 = .ok (.goto 8, 3) := by decide +kernel
theorem dX10_filled_92 : decode cX10_filled 92 = .ok (.iload 6, 2) := by decide +kernel
theorem dX10_filled_94 : decode cX10_filled 94 = .ok (.iload 5, 2) := by decide +kernel
theorem dX10_filled_96 : decode cX10_filled 96 = .ok (.irem, 1) := by decide +kernel
theorem dX10_filled_97 : decode cX10_filled 97 = .ok (.ireturn, 1) := by decide +kernel
theorem dX10_open_0 : decode cX10_open 0 = .ok (.iload_n 1, 1) := by decide +kernel
theorem dX10_open_1 : decode cX10_open 1 = .ok (.iconst 1, 1) := by decide +kernel
theorem dX10_open_2 : decode cX10_open 2 = .ok (.bipush 30, 2) := by decide +kernel
theorem dX10_open_4 : decode cX10_open 4 = .ok (.invokestatic 89, 3) := by decide +kernel
theorem dX10_open_7 : decode cX10_open 7 = .ok (.ifCond .eq 22, 3) := by decide +kernel
theorem dX10_open_10 : decode cX10_open 10 = .ok (.iload_n 2, 1) := by decide +kernel
theorem dX10_open_11 : decode cX10_open 11 = .ok (.iconst 1, 1) := by decide +kernel
theorem dX10_open_12 : decode cX10_open 12 = .ok (.iload_n 1, 1) := by decide +kernel
theorem dX10_open_13 : decode cX10_open 13 = .ok (.invokestatic 89, 3) := by decide +kernel
theorem dX10_open_16 : decode cX10_open 16 = .ok (.ifCond .eq 13, 3) := by decide +kernel
theorem dX10_open_19 : decode cX10_open 19 = .ok (.iload_n 3, 1) := by decide +kernel
theorem dX10_open_20 : decode cX10_open 20 = .ok (.iconst 0, 1) := by decide +kernel
theorem dX10_open_21 : decode cX10_open 21 = .ok (.bipush 99, 2) := by decide +kernel
theorem dX10_open_23 : decode cX10_open 23 = .ok (.invokestatic 89, 3) := by decide +kernel
theorem dX10_open_26 : decode cX10_open 26 = .ok (.ifCond .ne 6, 3) := by decide +kernel
theorem dX10_open_29 : decode cX10_open 29 = .ok (.bipush (-2), 2) := by decide +kernel
theorem dX10_open_31 : decode cX10_open 31 = .ok (.ireturn, 1) := by decide +kernel
theorem dX10_open_32 : decode cX10_open 32 = .ok (.iload_n 1, 1) := by decide +kernel
theorem dX10_open_33 : decode cX10_open 33 = .ok (.iload_n 2, 1) := by decide +kernel
theorem dX10_open_34 : decode cX10_open 34 = .ok (.invokestatic 201, 3) := by decide +kernel
theorem dX10_open_37 : decode cX10_open 37 = .ok (.lstore 4, 2) := by decide +kernel
theorem dX10_open_39 : decode cX10_open 39 = .ok (.iconst 1, 1) := by decide +kernel
theorem dX10_open_40 : decode cX10_open 40 = .ok (.istore 6, 2) := by decide +kernel
theorem dX10_open_42 : decode cX10_open 42 = .ok (.iload 6, 2) := by decide +kernel
theorem dX10_open_44 : decode cX10_open 44 = .ok (.iload_n 1, 1) := by decide +kernel
theorem dX10_open_45 : decode cX10_open 45 = .ok (.if_icmp .ge 33, 3) := by decide +kernel
theorem dX10_open_48 : decode cX10_open 48 = .ok (.ldc2_w 205, 3) := by decide +kernel
theorem dX10_open_51 : decode cX10_open 51 = .ok (.iload_n 1, 1) := by decide +kernel
theorem dX10_open_52 : decode cX10_open 52 = .ok (.iload 6, 2) := by decide +kernel
theorem dX10_open_54 : decode cX10_open 54 = .ok (.isub, 1) := by decide +kernel
theorem dX10_open_55 : decode cX10_open 55 = .ok (.iload_n 2, 1) := by decide +kernel
theorem dX10_open_56 : decode cX10_open 56 = .ok (.invokestatic 201, 3) := by decide +kernel
theorem dX10_open_59 : decode cX10_open 59 = .ok (.lmul, 1) := by decide +kernel
theorem dX10_open_60 : decode cX10_open 60 = .ok (.iload_n 3, 1) := by decide +kernel
theorem dX10_open_61 : decode cX10_open 61 = .ok (.i2l, 1) := by decide +kernel
theorem dX10_open_62 : decode cX10_open 62 = .ok (.lload 4, 2) := by decide +kernel
theorem dX10_open_64 : decode cX10_open 64 = .ok (.lmul, 1) := by decide +kernel
theorem dX10_open_65 : decode cX10_open 65 = .ok (.lcmp, 1) := by decide +kernel
theorem dX10_open_66 : decode cX10_open 66 = .ok (.ifCond .gt 6, 3) := by decide +kernel
theorem dX10_open_69 : decode cX10_open 69 = .ok (.iload 6, 2) := by decide +kernel
theorem dX10_open_71 : decode cX10_open 71 = .ok (.ireturn, 1) := by decide +kernel
theorem dX10_open_72 : decode cX10_open 72 = .ok (.iinc 6 1, 3) := by decide +kernel
theorem dX10_open_75 : decode cX10_open 75 = .ok (.goto (-33), 3) := by decide +kernel
theorem dX10_open_78 : decode cX10_open 78 = .ok (.iload_n 1, 1) := by decide +kernel
theorem dX10_open_79 : decode cX10_open 79 = .ok (.ireturn, 1) := by decide +kernel
theorem dX10_judge_0 : decode cX10_judge 0 = .ok (.iload_n 1, 1) := by decide +kernel
theorem dX10_judge_1 : decode cX10_judge 1 = .ok (.iconst 0, 1) := by decide +kernel
theorem dX10_judge_2 : decode cX10_judge 2 = .ok (.bipush 9, 2) := by decide +kernel
theorem dX10_judge_4 : decode cX10_judge 4 = .ok (.invokestatic 89, 3) := by decide +kernel
theorem dX10_judge_7 : decode cX10_judge 7 = .ok (.ifCond .eq 23, 3) := by decide +kernel
theorem dX10_judge_10 : decode cX10_judge 10 = .ok (.iload_n 2, 1) := by decide +kernel
theorem dX10_judge_11 : decode cX10_judge 11 = .ok (.iconst 0, 1) := by decide +kernel
theorem dX10_judge_12 : decode cX10_judge 12 = .ok (.bipush 9, 2) := by decide +kernel
theorem dX10_judge_14 : decode cX10_judge 14 = .ok (.invokestatic 89, 3) := by decide +kernel
theorem dX10_judge_17 : decode cX10_judge 17 = .ok (.ifCond .eq 13, 3) := by decide +kernel
theorem dX10_judge_20 : decode cX10_judge 20 = .ok (.iload_n 3, 1) := by decide +kernel
theorem dX10_judge_21 : decode cX10_judge 21 = .ok (.iconst 0, 1) := by decide +kernel
theorem dX10_judge_22 : decode cX10_judge 22 = .ok (.bipush 9, 2) := by decide +kernel
theorem dX10_judge_24 : decode cX10_judge 24 = .ok (.invokestatic 89, 3) := by decide +kernel
theorem dX10_judge_27 : decode cX10_judge 27 = .ok (.ifCond .ne 6, 3) := by decide +kernel
theorem dX10_judge_30 : decode cX10_judge 30 = .ok (.bipush (-2), 2) := by decide +kernel
theorem dX10_judge_32 : decode cX10_judge 32 = .ok (.ireturn, 1) := by decide +kernel
theorem dX10_judge_33 : decode cX10_judge 33 = .ok (.aload_n 0, 1) := by decide +kernel
theorem dX10_judge_34 : decode cX10_judge 34 = .ok (.getfield 54, 3) := by decide +kernel
theorem dX10_judge_37 : decode cX10_judge 37 = .ok (.getfield 207, 3) := by decide +kernel
theorem dX10_judge_40 : decode cX10_judge 40 = .ok (.bipush 24, 2) := by decide +kernel
theorem dX10_judge_42 : decode cX10_judge 42 = .ok (.if_icmp .lt 6, 3) := by decide +kernel
theorem dX10_judge_45 : decode cX10_judge 45 = .ok (.bipush (-4), 2) := by decide +kernel
theorem dX10_judge_47 : decode cX10_judge 47 = .ok (.ireturn, 1) := by decide +kernel
theorem dX10_judge_48 : decode cX10_judge 48 = .ok (.aload_n 0, 1) := by decide +kernel
theorem dX10_judge_49 : decode cX10_judge 49 = .ok (.getfield 54, 3) := by decide +kernel
theorem dX10_judge_52 : decode cX10_judge 52 = .ok (.iload_n 1, 1) := by decide +kernel
theorem dX10_judge_53 : decode cX10_judge 53 = .ok (.iload_n 2, 1) := by decide +kernel
theorem dX10_judge_54 : decode cX10_judge 54 = .ok (.iload_n 3, 1) := by decide +kernel
theorem dX10_judge_55 : decode cX10_judge 55 = .ok (.iload 4, 2) := by decide +kernel
theorem dX10_judge_57 : decode cX10_judge 57 = .ok (.invokevirtual 208, 3) := by decide +kernel
theorem dX10_judge_60 : decode cX10_judge 60 = .ok (.ireturn, 1) := by decide +kernel
theorem dX10_absolve_0 : decode cX10_absolve 0 = .ok (.aload_n 0, 1) := by decide +kernel
theorem dX10_absolve_1 : decode cX10_absolve 1 = .ok (.getfield 54, 3) := by decide +kernel
theorem dX10_absolve_4 : decode cX10_absolve 4 = .ok (.invokevirtual 211, 3) := by decide +kernel
theorem dX10_absolve_7 : decode cX10_absolve 7 = .ok (.ireturn, 1) := by decide +kernel
theorem dX10_cause_0 : decode cX10_cause 0 = .ok (.iload_n 1, 1) := by decide +kernel
theorem dX10_cause_1 : decode cX10_cause 1 = .ok (.iconst 0, 1) := by decide +kernel
theorem dX10_cause_2 : decode cX10_cause 2 = .ok (.bipush 29, 2) := by decide +kernel
theorem dX10_cause_4 : decode cX10_cause 4 = .ok (.invokestatic 89, 3) := by decide +kernel
theorem dX10_cause_7 : decode cX10_cause 7 = .ok (.ifCond .ne 6, 3) := by decide +kernel
theorem dX10_cause_10 : decode cX10_cause 10 = .ok (.bipush (-2), 2) := by decide +kernel
theorem dX10_cause_12 : decode cX10_cause 12 = .ok (.ireturn, 1) := by decide +kernel
theorem dX10_cause_13 : decode cX10_cause 13 = .ok (.aload_n 0, 1) := by decide +kernel
theorem dX10_cause_14 : decode cX10_cause 14 = .ok (.getfield 54, 3) := by decide +kernel
theorem dX10_cause_17 : decode cX10_cause 17 = .ok (.iload_n 1, 1) := by decide +kernel
theorem dX10_cause_18 : decode cX10_cause 18 = .ok (.invokevirtual 212, 3) := by decide +kernel
theorem dX10_cause_21 : decode cX10_cause 21 = .ok (.ifCond .eq 7, 3) := by decide +kernel
theorem dX10_cause_24 : decode cX10_cause 24 = .ok (.iconst 1, 1) := by decide +kernel
theorem dX10_cause_25 : decode cX10_cause 25 = .ok (.goto 4, 3) := by decide +kernel
theorem dX10_cause_28 : decode cX10_cause 28 = .ok (.iconst 0, 1) := by decide +kernel
theorem dX10_cause_29 : decode cX10_cause 29 = .ok (.ireturn, 1) := by decide +kernel
theorem dX10_explained_0 : decode cX10_explained 0 = .ok (.aload_n 0, 1) := by decide +kernel
theorem dX10_explained_1 : decode cX10_explained 1 = .ok (.getfield 54, 3) := by decide +kernel
theorem dX10_explained_4 : decode cX10_explained 4 = .ok (.invokevirtual 215, 3) := by decide +kernel
theorem dX10_explained_7 : decode cX10_explained 7 = .ok (.ireturn, 1) := by decide +kernel
theorem dX10_rival_0 : decode cX10_rival 0 = .ok (.aload_n 0, 1) := by decide +kernel
theorem dX10_rival_1 : decode cX10_rival 1 = .ok (.getfield 54, 3) := by decide +kernel
theorem dX10_rival_4 : decode cX10_rival 4 = .ok (.invokevirtual 215, 3) := by decide +kernel
theorem dX10_rival_7 : decode cX10_rival 7 = .ok (.istore_n 3, 1) := by decide +kernel
theorem dX10_rival_8 : decode cX10_rival 8 = .ok (.iload_n 1, 1) := by decide +kernel
theorem dX10_rival_9 : decode cX10_rival 9 = .ok (.iconst (-1), 1) := by decide +kernel
theorem dX10_rival_10 : decode cX10_rival 10 = .ok (.if_icmp .ne 24, 3) := by decide +kernel
theorem dX10_rival_13 : decode cX10_rival 13 = .ok (.iload_n 3, 1) := by decide +kernel
theorem dX10_rival_14 : decode cX10_rival 14 = .ok (.bipush (-6), 2) := by decide +kernel
theorem dX10_rival_16 : decode cX10_rival 16 = .ok (.if_icmp .ne 7, 3) := by decide +kernel
theorem dX10_rival_19 : decode cX10_rival 19 = .ok (.iconst 0, 1) := by decide +kernel
theorem dX10_rival_20 : decode cX10_rival 20 = .ok (.goto 13, 3) := by decide +kernel
theorem dX10_rival_23 : decode cX10_rival 23 = .ok (.aload_n 0, 1) := by decide +kernel
theorem dX10_rival_24 : decode cX10_rival 24 = .ok (.getfield 54, 3) := by decide +kernel
theorem dX10_rival_27 : decode cX10_rival 27 = .ok (.iload_n 3, 1) := by decide +kernel
theorem dX10_rival_28 : decode cX10_rival 28 = .ok (.bipush (-6), 2) := by decide +kernel
theorem dX10_rival_30 : decode cX10_rival 30 = .ok (.invokevirtual 218, 3) := by decide +kernel
theorem dX10_rival_33 : decode cX10_rival 33 = .ok (.ireturn, 1) := by decide +kernel
theorem dX10_rival_34 : decode cX10_rival 34 = .ok (.iload_n 1, 1) := by decide +kernel
theorem dX10_rival_35 : decode cX10_rival 35 = .ok (.ifCond .lt 14, 3) := by decide +kernel
theorem dX10_rival_38 : decode cX10_rival 38 = .ok (.iload_n 2, 1) := by decide +kernel
theorem dX10_rival_39 : decode cX10_rival 39 = .ok (.iconst 0, 1) := by decide +kernel
theorem dX10_rival_40 : decode cX10_rival 40 = .ok (.iload_n 3, 1) := by decide +kernel
theorem dX10_rival_41 : decode cX10_rival 41 = .ok (.iconst 1, 1) := by decide +kernel
theorem dX10_rival_42 : decode cX10_rival 42 = .ok (.isub, 1) := by decide +kernel
theorem dX10_rival_43 : decode cX10_rival 43 = .ok (.invokestatic 89, 3) := by decide +kernel
theorem dX10_rival_46 : decode cX10_rival 46 = .ok (.ifCond .ne 6, 3) := by decide +kernel
theorem dX10_rival_49 : decode cX10_rival 49 = .ok (.bipush (-6), 2) := by decide +kernel
theorem dX10_rival_51 : decode cX10_rival 51 = .ok (.ireturn, 1) := by decide +kernel
theorem dX10_rival_52 : decode cX10_rival 52 = .ok (.aload_n 0, 1) := by decide +kernel
theorem dX10_rival_53 : decode cX10_rival 53 = .ok (.getfield 54, 3) := by decide +kernel
theorem dX10_rival_56 : decode cX10_rival 56 = .ok (.iload_n 3, 1) := by decide +kernel
theorem dX10_rival_57 : decode cX10_rival 57 = .ok (.iload_n 1, 1) := by decide +kernel
theorem dX10_rival_58 : decode cX10_rival 58 = .ok (.invokevirtual 218, 3) := by decide +kernel
theorem dX10_rival_61 : decode cX10_rival 61 = .ok (.iload_n 1, 1) := by decide +kernel
theorem dX10_rival_62 : decode cX10_rival 62 = .ok (.if_icmp .le 14, 3) := by decide +kernel
theorem dX10_rival_65 : decode cX10_rival 65 = .ok (.aload_n 0, 1) := by decide +kernel
theorem dX10_rival_66 : decode cX10_rival 66 = .ok (.getfield 54, 3) := by decide +kernel
theorem dX10_rival_69 : decode cX10_rival 69 = .ok (.iload_n 2, 1) := by decide +kernel
theorem dX10_rival_70 : decode cX10_rival 70 = .ok (.invokevirtual 221, 3) := by decide +kernel
theorem dX10_rival_73 : decode cX10_rival 73 = .ok (.goto 5, 3) := by decide +kernel
theorem dX10_rival_76 : decode cX10_rival 76 = .ok (.bipush (-6), 2) := by decide +kernel
theorem dX10_rival_78 : decode cX10_rival 78 = .ok (.ireturn, 1) := by decide +kernel
theorem dX10_engage_0 : decode cX10_engage 0 = .ok (.iload_n 1, 1) := by decide +kernel
theorem dX10_engage_1 : decode cX10_engage 1 = .ok (.invokestatic 151, 3) := by decide +kernel
theorem dX10_engage_4 : decode cX10_engage 4 = .ok (.ifCond .eq 10, 3) := by decide +kernel
theorem dX10_engage_7 : decode cX10_engage 7 = .ok (.iload_n 2, 1) := by decide +kernel
theorem dX10_engage_8 : decode cX10_engage 8 = .ok (.invokestatic 154, 3) := by decide +kernel
theorem dX10_engage_11 : decode cX10_engage 11 = .ok (.ifCond .ne 5, 3) := by decide +kernel
theorem dX10_engage_14 : decode cX10_engage 14 = .ok (.iconst (-1), 1) := by decide +kernel
theorem dX10_engage_15 : decode cX10_engage 15 = .ok (.ireturn, 1) := by decide +kernel
theorem dX10_engage_16 : decode cX10_engage 16 = .ok (.iload_n 3, 1) := by decide +kernel
theorem dX10_engage_17 : decode cX10_engage 17 = .ok (.iconst 0, 1) := by decide +kernel
theorem dX10_engage_18 : decode cX10_engage 18 = .ok (.bipush 50, 2) := by decide +kernel
theorem dX10_engage_20 : decode cX10_engage 20 = .ok (.invokestatic 89, 3) := by decide +kernel
theorem dX10_engage_23 : decode cX10_engage 23 = .ok (.ifCond .eq 15, 3) := by decide +kernel
theorem dX10_engage_26 : decode cX10_engage 26 = .ok (.iload 4, 2) := by decide +kernel
theorem dX10_engage_28 : decode cX10_engage 28 = .ok (.iconst 1, 1) := by decide +kernel
theorem dX10_engage_29 : decode cX10_engage 29 = .ok (.sipush 1000, 3) := by decide +kernel
theorem dX10_engage_32 : decode cX10_engage 32 = .ok (.invokestatic 89, 3) := by decide +kernel
theorem dX10_engage_35 : decode cX10_engage 35 = .ok (.ifCond .ne 6, 3) := by decide +kernel
theorem dX10_engage_38 : decode cX10_engage 38 = .ok (.bipush (-2), 2) := by decide +kernel
theorem dX10_engage_40 : decode cX10_engage 40 = .ok (.ireturn, 1) := by decide +kernel
theorem dX10_engage_41 : decode cX10_engage 41 = .ok (.aload_n 0, 1) := by decide +kernel
theorem dX10_engage_42 : decode cX10_engage 42 = .ok (.getfield 61, 3) := by decide +kernel
theorem dX10_engage_45 : decode cX10_engage 45 = .ok (.iload_n 1, 1) := by decide +kernel
theorem dX10_engage_46 : decode cX10_engage 46 = .ok (.iload_n 2, 1) := by decide +kernel
theorem dX10_engage_47 : decode cX10_engage 47 = .ok (.iload_n 3, 1) := by decide +kernel
theorem dX10_engage_48 : decode cX10_engage 48 = .ok (.iload 4, 2) := by decide +kernel
theorem dX10_engage_50 : decode cX10_engage 50 = .ok (.invokevirtual 224, 3) := by decide +kernel
theorem dX10_engage_53 : decode cX10_engage 53 = .ok (.iconst 1, 1) := by decide +kernel
theorem dX10_engage_54 : decode cX10_engage 54 = .ok (.ireturn, 1) := by decide +kernel
theorem dX10_free_0 : decode cX10_free 0 = .ok (.iload_n 1, 1) := by decide +kernel
theorem dX10_free_1 : decode cX10_free 1 = .ok (.invokestatic 108, 3) := by decide +kernel
theorem dX10_free_4 : decode cX10_free 4 = .ok (.ifCond .eq 21, 3) := by decide +kernel
theorem dX10_free_7 : decode cX10_free 7 = .ok (.iload_n 2, 1) := by decide +kernel
theorem dX10_free_8 : decode cX10_free 8 = .ok (.iconst 1, 1) := by decide +kernel
theorem dX10_free_9 : decode cX10_free 9 = .ok (.sipush 1000, 3) := by decide +kernel
theorem dX10_free_12 : decode cX10_free 12 = .ok (.invokestatic 89, 3) := by decide +kernel
theorem dX10_free_15 : decode cX10_free 15 = .ok (.ifCond .eq 10, 3) := by decide +kernel
theorem dX10_free_18 : decode cX10_free 18 = .ok (.iload_n 3, 1) := by decide +kernel
theorem dX10_free_19 : decode cX10_free 19 = .ok (.invokestatic 108, 3) := by decide +kernel
theorem dX10_free_22 : decode cX10_free 22 = .ok (.ifCond .ne 6, 3) := by decide +kernel
theorem dX10_free_25 : decode cX10_free 25 = .ok (.bipush (-2), 2) := by decide +kernel
theorem dX10_free_27 : decode cX10_free 27 = .ok (.ireturn, 1) := by decide +kernel
end
section
/-! decode rows, by program out of what TURN prints -/
theorem dX10_free_28 : decode cX10_free 28 = .ok (.aload_n 0, 1) := by decide +kernel
theorem dX10_free_29 : decode cX10_free 29 = .ok (.getfield 68, 3) := by decide +kernel
theorem dX10_free_32 : decode cX10_free 32 = .ok (.getfield 228, 3) := by decide +kernel
theorem dX10_free_35 : decode cX10_free 35 = .ok (.bipush 60, 2) := by decide +kernel
theorem dX10_free_37 : decode cX10_free 37 = .ok (.if_icmp .lt 6, 3) := by decide +kernel
theorem dX10_free_40 : decode cX10_free 40 = .ok (.bipush (-4), 2) := by decide +kernel
theorem dX10_free_42 : decode cX10_free 42 = .ok (.ireturn, 1) := by decide +kernel
theorem dX10_free_43 : decode cX10_free 43 = .ok (.aload_n 0, 1) := by decide +kernel
theorem dX10_free_44 : decode cX10_free 44 = .ok (.getfield 68, 3) := by decide +kernel
theorem dX10_free_47 : decode cX10_free 47 = .ok (.iconst 0, 1) := by decide +kernel
theorem dX10_free_48 : decode cX10_free 48 = .ok (.iload_n 1, 1) := by decide +kernel
theorem dX10_free_49 : decode cX10_free 49 = .ok (.iload_n 2, 1) := by decide +kernel
theorem dX10_free_50 : decode cX10_free 50 = .ok (.iload_n 3, 1) := by decide +kernel
theorem dX10_free_51 : decode cX10_free 51 = .ok (.invokevirtual 229, 3) := by decide +kernel
theorem dX10_free_54 : decode cX10_free 54 = .ok (.ireturn, 1) := by decide +kernel
theorem dX10_freeOn_0 : decode cX10_freeOn 0 = .ok (.iload_n 1, 1) := by decide +kernel
theorem dX10_freeOn_1 : decode cX10_freeOn 1 = .ok (.invokestatic 108, 3) := by decide +kernel
theorem dX10_freeOn_4 : decode cX10_freeOn 4 = .ok (.ifCond .eq 10, 3) := by decide +kernel
theorem dX10_freeOn_7 : decode cX10_freeOn 7 = .ok (.iload_n 2, 1) := by decide +kernel
theorem dX10_freeOn_8 : decode cX10_freeOn 8 = .ok (.invokestatic 108, 3) := by decide +kernel
theorem dX10_freeOn_11 : decode cX10_freeOn 11 = .ok (.ifCond .ne 6, 3) := by decide +kernel
theorem dX10_freeOn_14 : decode cX10_freeOn 14 = .ok (.bipush (-2), 2) := by decide +kernel
theorem dX10_freeOn_16 : decode cX10_freeOn 16 = .ok (.ireturn, 1) := by decide +kernel
theorem dX10_freeOn_17 : decode cX10_freeOn 17 = .ok (.aload_n 0, 1) := by decide +kernel
theorem dX10_freeOn_18 : decode cX10_freeOn 18 = .ok (.iload_n 1, 1) := by decide +kernel
theorem dX10_freeOn_19 : decode cX10_freeOn 19 = .ok (.iload_n 2, 1) := by decide +kernel
theorem dX10_freeOn_20 : decode cX10_freeOn 20 = .ok (.invokevirtual 230, 3) := by decide +kernel
theorem dX10_freeOn_23 : decode cX10_freeOn 23 = .ok (.ireturn, 1) := by decide +kernel
theorem dX10_cost_0 : decode cX10_cost 0 = .ok (.iload_n 1, 1) := by decide +kernel
theorem dX10_cost_1 : decode cX10_cost 1 = .ok (.invokestatic 151, 3) := by decide +kernel
theorem dX10_cost_4 : decode cX10_cost 4 = .ok (.ifCond .eq 10, 3) := by decide +kernel
theorem dX10_cost_7 : decode cX10_cost 7 = .ok (.iload_n 2, 1) := by decide +kernel
theorem dX10_cost_8 : decode cX10_cost 8 = .ok (.invokestatic 116, 3) := by decide +kernel
theorem dX10_cost_11 : decode cX10_cost 11 = .ok (.ifCond .ne 5, 3) := by decide +kernel
theorem dX10_cost_14 : decode cX10_cost 14 = .ok (.iconst (-1), 1) := by decide +kernel
theorem dX10_cost_15 : decode cX10_cost 15 = .ok (.ireturn, 1) := by decide +kernel
theorem dX10_cost_16 : decode cX10_cost 16 = .ok (.iload_n 3, 1) := by decide +kernel
theorem dX10_cost_17 : decode cX10_cost 17 = .ok (.invokestatic 108, 3) := by decide +kernel
theorem dX10_cost_20 : decode cX10_cost 20 = .ok (.ifCond .eq 13, 3) := by decide +kernel
theorem dX10_cost_23 : decode cX10_cost 23 = .ok (.iload 4, 2) := by decide +kernel
theorem dX10_cost_25 : decode cX10_cost 25 = .ok (.iconst 0, 1) := by decide +kernel
theorem dX10_cost_26 : decode cX10_cost 26 = .ok (.iconst 2, 1) := by decide +kernel
theorem dX10_cost_27 : decode cX10_cost 27 = .ok (.invokestatic 89, 3) := by decide +kernel
theorem dX10_cost_30 : decode cX10_cost 30 = .ok (.ifCond .ne 6, 3) := by decide +kernel
theorem dX10_cost_33 : decode cX10_cost 33 = .ok (.bipush (-2), 2) := by decide +kernel
theorem dX10_cost_35 : decode cX10_cost 35 = .ok (.ireturn, 1) := by decide +kernel
theorem dX10_cost_36 : decode cX10_cost 36 = .ok (.iload 4, 2) := by decide +kernel
theorem dX10_cost_38 : decode cX10_cost 38 = .ok (.lookupswitch 57 #[(0, 26), (1, 49)], 26) := by decide +kernel
theorem dX10_cost_64 : decode cX10_cost 64 = .ok (.aload_n 0, 1) := by decide +kernel
theorem dX10_cost_65 : decode cX10_cost 65 = .ok (.iload_n 1, 1) := by decide +kernel
theorem dX10_cost_66 : decode cX10_cost 66 = .ok (.iload_n 2, 1) := by decide +kernel
theorem dX10_cost_67 : decode cX10_cost 67 = .ok (.iload_n 3, 1) := by decide +kernel
theorem dX10_cost_68 : decode cX10_cost 68 = .ok (.aload_n 0, 1) := by decide +kernel
theorem dX10_cost_69 : decode cX10_cost 69 = .ok (.getfield 61, 3) := by decide +kernel
theorem dX10_cost_72 : decode cX10_cost 72 = .ok (.iload_n 1, 1) := by decide +kernel
theorem dX10_cost_73 : decode cX10_cost 73 = .ok (.iload_n 2, 1) := by decide +kernel
theorem dX10_cost_74 : decode cX10_cost 74 = .ok (.aload_n 0, 1) := by decide +kernel
theorem dX10_cost_75 : decode cX10_cost 75 = .ok (.getfield 23, 3) := by decide +kernel
theorem dX10_cost_78 : decode cX10_cost 78 = .ok (.iconst 4, 1) := by decide +kernel
theorem dX10_cost_79 : decode cX10_cost 79 = .ok (.iaload, 1) := by decide +kernel
theorem dX10_cost_80 : decode cX10_cost 80 = .ok (.invokevirtual 233, 3) := by decide +kernel
theorem dX10_cost_83 : decode cX10_cost 83 = .ok (.invokevirtual 236, 3) := by decide +kernel
theorem dX10_cost_86 : decode cX10_cost 86 = .ok (.ireturn, 1) := by decide +kernel
theorem dX10_cost_87 : decode cX10_cost 87 = .ok (.aload_n 0, 1) := by decide +kernel
theorem dX10_cost_88 : decode cX10_cost 88 = .ok (.iload_n 1, 1) := by decide +kernel
theorem dX10_cost_89 : decode cX10_cost 89 = .ok (.iload_n 2, 1) := by decide +kernel
theorem dX10_cost_90 : decode cX10_cost 90 = .ok (.iload_n 3, 1) := by decide +kernel
theorem dX10_cost_91 : decode cX10_cost 91 = .ok (.invokevirtual 239, 3) := by decide +kernel
theorem dX10_cost_94 : decode cX10_cost 94 = .ok (.ireturn, 1) := by decide +kernel
theorem dX10_cost_95 : decode cX10_cost 95 = .ok (.aload_n 0, 1) := by decide +kernel
theorem dX10_cost_96 : decode cX10_cost 96 = .ok (.getfield 30, 3) := by decide +kernel
theorem dX10_cost_99 : decode cX10_cost 99 = .ok (.iload_n 1, 1) := by decide +kernel
theorem dX10_cost_100 : decode cX10_cost 100 = .ok (.iload_n 2, 1) := by decide +kernel
theorem dX10_cost_101 : decode cX10_cost 101 = .ok (.invokevirtual 242, 3) := by decide +kernel
theorem dX10_cost_104 : decode cX10_cost 104 = .ok (.ireturn, 1) := by decide +kernel
theorem dX10_account_0 : decode cX10_account 0 = .ok (.iload_n 1, 1) := by decide +kernel
theorem dX10_account_1 : decode cX10_account 1 = .ok (.invokestatic 116, 3) := by decide +kernel
theorem dX10_account_4 : decode cX10_account 4 = .ok (.ifCond .ne 5, 3) := by decide +kernel
theorem dX10_account_7 : decode cX10_account 7 = .ok (.iconst (-1), 1) := by decide +kernel
theorem dX10_account_8 : decode cX10_account 8 = .ok (.ireturn, 1) := by decide +kernel
theorem dX10_account_9 : decode cX10_account 9 = .ok (.iload_n 2, 1) := by decide +kernel
theorem dX10_account_10 : decode cX10_account 10 = .ok (.invokestatic 108, 3) := by decide +kernel
theorem dX10_account_13 : decode cX10_account 13 = .ok (.ifCond .eq 13, 3) := by decide +kernel
theorem dX10_account_16 : decode cX10_account 16 = .ok (.iload_n 3, 1) := by decide +kernel
theorem dX10_account_17 : decode cX10_account 17 = .ok (.iconst 0, 1) := by decide +kernel
theorem dX10_account_18 : decode cX10_account 18 = .ok (.bipush 7, 2) := by decide +kernel
theorem dX10_account_20 : decode cX10_account 20 = .ok (.invokestatic 89, 3) := by decide +kernel
theorem dX10_account_23 : decode cX10_account 23 = .ok (.ifCond .ne 6, 3) := by decide +kernel
theorem dX10_account_26 : decode cX10_account 26 = .ok (.bipush (-2), 2) := by decide +kernel
theorem dX10_account_28 : decode cX10_account 28 = .ok (.ireturn, 1) := by decide +kernel
theorem dX10_account_29 : decode cX10_account 29 = .ok (.aload_n 0, 1) := by decide +kernel
theorem dX10_account_30 : decode cX10_account 30 = .ok (.invokevirtual 119, 3) := by decide +kernel
theorem dX10_account_33 : decode cX10_account 33 = .ok (.iload_n 3, 1) := by decide +kernel
theorem dX10_account_34 : decode cX10_account 34 = .ok (.tableswitch 99 0 6 #[42, 49, 55, 61, 67, 73, 82], 42) := by decide +kernel
theorem dX10_account_76 : decode cX10_account 76 = .ok (.aload_n 0, 1) := by decide +kernel
theorem dX10_account_77 : decode cX10_account 77 = .ok (.iload_n 1, 1) := by decide +kernel
theorem dX10_account_78 : decode cX10_account 78 = .ok (.iload_n 2, 1) := by decide +kernel
theorem dX10_account_79 : decode cX10_account 79 = .ok (.invokevirtual 245, 3) := by decide +kernel
theorem dX10_account_82 : decode cX10_account 82 = .ok (.ireturn, 1) := by decide +kernel
theorem dX10_account_83 : decode cX10_account 83 = .ok (.aload_n 0, 1) := by decide +kernel
theorem dX10_account_84 : decode cX10_account 84 = .ok (.iload_n 1, 1) := by decide +kernel
theorem dX10_account_85 : decode cX10_account 85 = .ok (.invokevirtual 248, 3) := by decide +kernel
theorem dX10_account_88 : decode cX10_account 88 = .ok (.ireturn, 1) := by decide +kernel
theorem dX10_account_89 : decode cX10_account 89 = .ok (.aload_n 0, 1) := by decide +kernel
theorem dX10_account_90 : decode cX10_account 90 = .ok (.iload_n 1, 1) := by decide +kernel
theorem dX10_account_91 : decode cX10_account 91 = .ok (.invokevirtual 251, 3) := by decide +kernel
theorem dX10_account_94 : decode cX10_account 94 = .ok (.ireturn, 1) := by decide +kernel
theorem dX10_account_95 : decode cX10_account 95 = .ok (.aload_n 0, 1) := by decide +kernel
theorem dX10_account_96 : decode cX10_account 96 = .ok (.iload_n 1, 1) := by decide +kernel
theorem dX10_account_97 : decode cX10_account 97 = .ok (.invokevirtual 122, 3) := by decide +kernel
theorem dX10_account_100 : decode cX10_account 100 = .ok (.ireturn, 1) := by decide +kernel
theorem dX10_account_101 : decode cX10_account 101 = .ok (.aload_n 0, 1) := by decide +kernel
theorem dX10_account_102 : decode cX10_account 102 = .ok (.iload_n 1, 1) := by decide +kernel
theorem dX10_account_103 : decode cX10_account 103 = .ok (.invokevirtual 254, 3) := by decide +kernel
theorem dX10_account_106 : decode cX10_account 106 = .ok (.ireturn, 1) := by decide +kernel
theorem dX10_account_107 : decode cX10_account 107 = .ok (.aload_n 0, 1) := by decide +kernel
theorem dX10_account_108 : decode cX10_account 108 = .ok (.getfield 30, 3) := by decide +kernel
theorem dX10_account_111 : decode cX10_account 111 = .ok (.iload_n 1, 1) := by decide +kernel
theorem dX10_account_112 : decode cX10_account 112 = .ok (.invokevirtual 257, 3) := by decide +kernel
theorem dX10_account_115 : decode cX10_account 115 = .ok (.ireturn, 1) := by decide +kernel
theorem dX10_account_116 : decode cX10_account 116 = .ok (.aload_n 0, 1) := by decide +kernel
theorem dX10_account_117 : decode cX10_account 117 = .ok (.getfield 30, 3) := by decide +kernel
theorem dX10_account_120 : decode cX10_account 120 = .ok (.getfield 260, 3) := by decide +kernel
theorem dX10_account_123 : decode cX10_account 123 = .ok (.iload_n 1, 1) := by decide +kernel
theorem dX10_account_124 : decode cX10_account 124 = .ok (.iaload, 1) := by decide +kernel
theorem dX10_account_125 : decode cX10_account 125 = .ok (.aload_n 0, 1) := by decide +kernel
theorem dX10_account_126 : decode cX10_account 126 = .ok (.getfield 23, 3) := by decide +kernel
theorem dX10_account_129 : decode cX10_account 129 = .ok (.iconst 1, 1) := by decide +kernel
theorem dX10_account_130 : decode cX10_account 130 = .ok (.iaload, 1) := by decide +kernel
theorem dX10_account_131 : decode cX10_account 131 = .ok (.irem, 1) := by decide +kernel
theorem dX10_account_132 : decode cX10_account 132 = .ok (.ireturn, 1) := by decide +kernel
theorem dX10_account_133 : decode cX10_account 133 = .ok (.aload_n 0, 1) := by decide +kernel
theorem dX10_account_134 : decode cX10_account 134 = .ok (.iload_n 1, 1) := by decide +kernel
theorem dX10_account_135 : decode cX10_account 135 = .ok (.iload_n 2, 1) := by decide +kernel
theorem dX10_account_136 : decode cX10_account 136 = .ok (.invokevirtual 245, 3) := by decide +kernel
theorem dX10_account_139 : decode cX10_account 139 = .ok (.aload_n 0, 1) := by decide +kernel
theorem dX10_account_140 : decode cX10_account 140 = .ok (.iload_n 1, 1) := by decide +kernel
theorem dX10_account_141 : decode cX10_account 141 = .ok (.invokevirtual 248, 3) := by decide +kernel
theorem dX10_account_144 : decode cX10_account 144 = .ok (.iadd, 1) := by decide +kernel
theorem dX10_account_145 : decode cX10_account 145 = .ok (.aload_n 0, 1) := by decide +kernel
theorem dX10_account_146 : decode cX10_account 146 = .ok (.iload_n 1, 1) := by decide +kernel
theorem dX10_account_147 : decode cX10_account 147 = .ok (.invokevirtual 251, 3) := by decide +kernel
theorem dX10_account_150 : decode cX10_account 150 = .ok (.isub, 1) := by decide +kernel
theorem dX10_account_151 : decode cX10_account 151 = .ok (.ireturn, 1) := by decide +kernel
theorem dX10_spread_0 : decode cX10_spread 0 = .ok (.iload_n 1, 1) := by decide +kernel
theorem dX10_spread_1 : decode cX10_spread 1 = .ok (.iconst (-1), 1) := by decide +kernel
theorem dX10_spread_2 : decode cX10_spread 2 = .ok (.aload_n 0, 1) := by decide +kernel
theorem dX10_spread_3 : decode cX10_spread 3 = .ok (.getfield 30, 3) := by decide +kernel
theorem dX10_spread_6 : decode cX10_spread 6 = .ok (.invokevirtual 161, 3) := by decide +kernel
theorem dX10_spread_9 : decode cX10_spread 9 = .ok (.iconst 1, 1) := by decide +kernel
theorem dX10_spread_10 : decode cX10_spread 10 = .ok (.isub, 1) := by decide +kernel
theorem dX10_spread_11 : decode cX10_spread 11 = .ok (.invokestatic 89, 3) := by decide +kernel
theorem dX10_spread_14 : decode cX10_spread 14 = .ok (.ifCond .ne 6, 3) := by decide +kernel
theorem dX10_spread_17 : decode cX10_spread 17 = .ok (.bipush (-6), 2) := by decide +kernel
theorem dX10_spread_19 : decode cX10_spread 19 = .ok (.ireturn, 1) := by decide +kernel
theorem dX10_spread_20 : decode cX10_spread 20 = .ok (.aload_n 0, 1) := by decide +kernel
theorem dX10_spread_21 : decode cX10_spread 21 = .ok (.getfield 78, 3) := by decide +kernel
theorem dX10_spread_24 : decode cX10_spread 24 = .ok (.aload_n 0, 1) := by decide +kernel
theorem dX10_spread_25 : decode cX10_spread 25 = .ok (.getfield 30, 3) := by decide +kernel
theorem dX10_spread_28 : decode cX10_spread 28 = .ok (.aload_n 0, 1) := by decide +kernel
theorem dX10_spread_29 : decode cX10_spread 29 = .ok (.getfield 23, 3) := by decide +kernel
theorem dX10_spread_32 : decode cX10_spread 32 = .ok (.iconst 0, 1) := by decide +kernel
theorem dX10_spread_33 : decode cX10_spread 33 = .ok (.iaload, 1) := by decide +kernel
theorem dX10_spread_34 : decode cX10_spread 34 = .ok (.invokevirtual 263, 3) := by decide +kernel
theorem dX10_spread_37 : decode cX10_spread 37 = .ok (.iload_n 1, 1) := by decide +kernel
theorem dX10_spread_38 : decode cX10_spread 38 = .ok (.iconst (-1), 1) := by decide +kernel
theorem dX10_spread_39 : decode cX10_spread 39 = .ok (.if_icmp .ne 13, 3) := by decide +kernel
theorem dX10_spread_42 : decode cX10_spread 42 = .ok (.aload_n 0, 1) := by decide +kernel
theorem dX10_spread_43 : decode cX10_spread 43 = .ok (.getfield 78, 3) := by decide +kernel
theorem dX10_spread_46 : decode cX10_spread 46 = .ok (.getfield 267, 3) := by decide +kernel
theorem dX10_spread_49 : decode cX10_spread 49 = .ok (.goto 11, 3) := by decide +kernel
theorem dX10_spread_52 : decode cX10_spread 52 = .ok (.aload_n 0, 1) := by decide +kernel
theorem dX10_spread_53 : decode cX10_spread 53 = .ok (.getfield 78, 3) := by decide +kernel
theorem dX10_spread_56 : decode cX10_spread 56 = .ok (.iload_n 1, 1) := by decide +kernel
theorem dX10_spread_57 : decode cX10_spread 57 = .ok (.invokevirtual 269, 3) := by decide +kernel
theorem dX10_spread_60 : decode cX10_spread 60 = .ok (.ireturn, 1) := by decide +kernel
theorem dX10_settle_0 : decode cX10_settle 0 = .ok (.aload_n 0, 1) := by decide +kernel
theorem dX10_settle_1 : decode cX10_settle 1 = .ok (.getfield 78, 3) := by decide +kernel
theorem dX10_settle_4 : decode cX10_settle 4 = .ok (.aload_n 0, 1) := by decide +kernel
theorem dX10_settle_5 : decode cX10_settle 5 = .ok (.getfield 30, 3) := by decide +kernel
theorem dX10_settle_8 : decode cX10_settle 8 = .ok (.aload_n 0, 1) := by decide +kernel
theorem dX10_settle_9 : decode cX10_settle 9 = .ok (.getfield 23, 3) := by decide +kernel
theorem dX10_settle_12 : decode cX10_settle 12 = .ok (.iconst 0, 1) := by decide +kernel
theorem dX10_settle_13 : decode cX10_settle 13 = .ok (.iaload, 1) := by decide +kernel
theorem dX10_settle_14 : decode cX10_settle 14 = .ok (.invokevirtual 263, 3) := by decide +kernel
theorem dX10_settle_17 : decode cX10_settle 17 = .ok (.iconst 0, 1) := by decide +kernel
theorem dX10_settle_18 : decode cX10_settle 18 = .ok (.istore_n 1, 1) := by decide +kernel
theorem dX10_settle_19 : decode cX10_settle 19 = .ok (.iload_n 1, 1) := by decide +kernel
theorem dX10_settle_20 : decode cX10_settle 20 = .ok (.aload_n 0, 1) := by decide +kernel
theorem dX10_settle_21 : decode cX10_settle 21 = .ok (.getfield 78, 3) := by decide +kernel
theorem dX10_settle_24 : decode cX10_settle 24 = .ok (.getfield 272, 3) := by decide +kernel
theorem dX10_settle_27 : decode cX10_settle 27 = .ok (.if_icmp .ge 34, 3) := by decide +kernel
theorem dX10_settle_30 : decode cX10_settle 30 = .ok (.aload_n 0, 1) := by decide +kernel
theorem dX10_settle_31 : decode cX10_settle 31 = .ok (.getfield 30, 3) := by decide +kernel
theorem dX10_settle_34 : decode cX10_settle 34 = .ok (.getfield 170, 3) := by decide +kernel
theorem dX10_settle_37 : decode cX10_settle 37 = .ok (.aload_n 0, 1) := by decide +kernel
theorem dX10_settle_38 : decode cX10_settle 38 = .ok (.getfield 78, 3) := by decide +kernel
theorem dX10_settle_41 : decode cX10_settle 41 = .ok (.getfield 273, 3) := by decide +kernel
theorem dX10_settle_44 : decode cX10_settle 44 = .ok (.iload_n 1, 1) := by decide +kernel
theorem dX10_settle_45 : decode cX10_settle 45 = .ok (.iaload, 1) := by decide +kernel
theorem dX10_settle_46 : decode cX10_settle 46 = .ok (.aload_n 0, 1) := by decide +kernel
theorem dX10_settle_47 : decode cX10_settle 47 = .ok (.getfield 78, 3) := by decide +kernel
theorem dX10_settle_50 : decode cX10_settle 50 = .ok (.iload_n 1, 1) := by decide +kernel
theorem dX10_settle_51 : decode cX10_settle 51 = .ok (.invokevirtual 269, 3) := by decide +kernel
theorem dX10_settle_54 : decode cX10_settle 54 = .ok (.iastore, 1) := by decide +kernel
theorem dX10_settle_55 : decode cX10_settle 55 = .ok (.iinc 1 1, 3) := by decide +kernel
theorem dX10_settle_58 : decode cX10_settle 58 = .ok (.goto (-39), 3) := by decide +kernel
theorem dX10_settle_61 : decode cX10_settle 61 = .ok (.aload_n 0, 1) := by decide +kernel
theorem dX10_settle_62 : decode cX10_settle 62 = .ok (.getfield 78, 3) := by decide +kernel
theorem dX10_settle_65 : decode cX10_settle 65 = .ok (.getfield 272, 3) := by decide +kernel
theorem dX10_settle_68 : decode cX10_settle 68 = .ok (.ireturn, 1) := by decide +kernel
theorem dX10_ship_0 : decode cX10_ship 0 = .ok (.iload_n 1, 1) := by decide +kernel
theorem dX10_ship_1 : decode cX10_ship 1 = .ok (.iconst 0, 1) := by decide +kernel
theorem dX10_ship_2 : decode cX10_ship 2 = .ok (.iconst 3, 1) := by decide +kernel
theorem dX10_ship_3 : decode cX10_ship 3 = .ok (.invokestatic 89, 3) := by decide +kernel
theorem dX10_ship_6 : decode cX10_ship 6 = .ok (.ifCond .ne 5, 3) := by decide +kernel
theorem dX10_ship_9 : decode cX10_ship 9 = .ok (.iconst (-1), 1) := by decide +kernel
theorem dX10_ship_10 : decode cX10_ship 10 = .ok (.ireturn, 1) := by decide +kernel
theorem dX10_ship_11 : decode cX10_ship 11 = .ok (.iload_n 2, 1) := by decide +kernel
theorem dX10_ship_12 : decode cX10_ship 12 = .ok (.invokestatic 108, 3) := by decide +kernel
theorem dX10_ship_15 : decode cX10_ship 15 = .ok (.ifCond .eq 13, 3) := by decide +kernel
theorem dX10_ship_18 : decode cX10_ship 18 = .ok (.iload_n 3, 1) := by decide +kernel
theorem dX10_ship_19 : decode cX10_ship 19 = .ok (.iconst 0, 1) := by decide +kernel
theorem dX10_ship_20 : decode cX10_ship 20 = .ok (.bipush 20, 2) := by decide +kernel
theorem dX10_ship_22 : decode cX10_ship 22 = .ok (.invokestatic 89, 3) := by decide +kernel
theorem dX10_ship_25 : decode cX10_ship 25 = .ok (.ifCond .ne 6, 3) := by decide +kernel
theorem dX10_ship_28 : decode cX10_ship 28 = .ok (.bipush (-2), 2) := by decide +kernel
theorem dX10_ship_30 : decode cX10_ship 30 = .ok (.ireturn, 1) := by decide +kernel
theorem dX10_ship_31 : decode cX10_ship 31 = .ok (.aload_n 0, 1) := by decide +kernel
theorem dX10_ship_32 : decode cX10_ship 32 = .ok (.getfield 85, 3) := by decide +kernel
theorem dX10_ship_35 : decode cX10_ship 35 = .ok (.getfield 276, 3) := by decide +kernel
theorem dX10_ship_38 : decode cX10_ship 38 = .ok (.iload_n 1, 1) := by decide +kernel
theorem dX10_ship_39 : decode cX10_ship 39 = .ok (.iload_n 2, 1) := by decide +kernel
theorem dX10_ship_40 : decode cX10_ship 40 = .ok (.iastore, 1) := by decide +kernel
theorem dX10_ship_41 : decode cX10_ship 41 = .ok (.aload_n 0, 1) := by decide +kernel
theorem dX10_ship_42 : decode cX10_ship 42 = .ok (.getfield 85, 3) := by decide +kernel
theorem dX10_ship_45 : decode cX10_ship 45 = .ok (.getfield 279, 3) := by decide +kernel
theorem dX10_ship_48 : decode cX10_ship 48 = .ok (.iload_n 1, 1) := by decide +kernel
theorem dX10_ship_49 : decode cX10_ship 49 = .ok (.iload_n 3, 1) := by decide +kernel
theorem dX10_ship_50 : decode cX10_ship 50 = .ok (.iastore, 1) := by decide +kernel
theorem dX10_ship_51 : decode cX10_ship 51 = .ok (.iconst 1, 1) := by decide +kernel
theorem dX10_ship_52 : decode cX10_ship 52 = .ok (.ireturn, 1) := by decide +kernel
theorem dX10_price_0 : decode cX10_price 0 = .ok (.iload_n 1, 1) := by decide +kernel
theorem dX10_price_1 : decode cX10_price 1 = .ok (.iconst 0, 1) := by decide +kernel
theorem dX10_price_2 : decode cX10_price 2 = .ok (.iconst 1, 1) := by decide +kernel
theorem dX10_price_3 : decode cX10_price 3 = .ok (.invokestatic 89, 3) := by decide +kernel
theorem dX10_price_6 : decode cX10_price 6 = .ok (.ifCond .ne 5, 3) := by decide +kernel
theorem dX10_price_9 : decode cX10_price 9 = .ok (.iconst (-1), 1) := by decide +kernel
theorem dX10_price_10 : decode cX10_price 10 = .ok (.ireturn, 1) := by decide +kernel
theorem dX10_price_11 : decode cX10_price 11 = .ok (.iload_n 2, 1) := by decide +kernel
theorem dX10_price_12 : decode cX10_price 12 = .ok (.invokestatic 108, 3) := by decide +kernel
theorem dX10_price_15 : decode cX10_price 15 = .ok (.ifCond .eq 22, 3) := by decide +kernel
theorem dX10_price_18 : decode cX10_price 18 = .ok (.iload_n 3, 1) := by decide +kernel
theorem dX10_price_19 : decode cX10_price 19 = .ok (.iconst 0, 1) := by decide +kernel
theorem dX10_price_20 : decode cX10_price 20 = .ok (.sipush 1000, 3) := by decide +kernel
theorem dX10_price_23 : decode cX10_price 23 = .ok (.invokestatic 89, 3) := by decide +kernel
theorem dX10_price_26 : decode cX10_price 26 = .ok (.ifCond .eq 11, 3) := by decide +kernel
theorem dX10_price_29 : decode cX10_price 29 = .ok (.iload 4, 2) := by decide +kernel
theorem dX10_price_31 : decode cX10_price 31 = .ok (.invokestatic 108, 3) := by decide +kernel
theorem dX10_price_34 : decode cX10_price 34 = .ok (.ifCond .ne 6, 3) := by decide +kernel
theorem dX10_price_37 : decode cX10_price 37 = .ok (.bipush (-2), 2) := by decide +kernel
theorem dX10_price_39 : decode cX10_price 39 = .ok (.ireturn, 1) := by decide +kernel
theorem dX10_price_40 : decode cX10_price 40 = .ok (.aload_n 0, 1) := by decide +kernel
theorem dX10_price_41 : decode cX10_price 41 = .ok (.getfield 72, 3) := by decide +kernel
theorem dX10_price_44 : decode cX10_price 44 = .ok (.getfield 228, 3) := by decide +kernel
theorem dX10_price_47 : decode cX10_price 47 = .ok (.bipush 60, 2) := by decide +kernel
theorem dX10_price_49 : decode cX10_price 49 = .ok (.if_icmp .lt 6, 3) := by decide +kernel
theorem dX10_price_52 : decode cX10_price 52 = .ok (.bipush (-4), 2) := by decide +kernel
theorem dX10_price_54 : decode cX10_price 54 = .ok (.ireturn, 1) := by decide +kernel
theorem dX10_price_55 : decode cX10_price 55 = .ok (.aload_n 0, 1) := by decide +kernel
theorem dX10_price_56 : decode cX10_price 56 = .ok (.getfield 72, 3) := by decide +kernel
theorem dX10_price_59 : decode cX10_price 59 = .ok (.iload_n 1, 1) := by decide +kernel
theorem dX10_price_60 : decode cX10_price 60 = .ok (.iload_n 2, 1) := by decide +kernel
theorem dX10_price_61 : decode cX10_price 61 = .ok (.iload_n 3, 1) := by decide +kernel
theorem dX10_price_62 : decode cX10_price 62 = .ok (.iload 4, 2) := by decide +kernel
theorem dX10_price_64 : decode cX10_price 64 = .ok (.invokevirtual 229, 3) := by decide +kernel
theorem dX10_price_67 : decode cX10_price 67 = .ok (.ireturn, 1) := by decide +kernel
theorem dX10_priceOn_0 : decode cX10_priceOn 0 = .ok (.iload_n 1, 1) := by decide +kernel
theorem dX10_priceOn_1 : decode cX10_priceOn 1 = .ok (.iconst 0, 1) := by decide +kernel
theorem dX10_priceOn_2 : decode cX10_priceOn 2 = .ok (.iconst 1, 1) := by decide +kernel
theorem dX10_priceOn_3 : decode cX10_priceOn 3 = .ok (.invokestatic 89, 3) := by decide +kernel
theorem dX10_priceOn_6 : decode cX10_priceOn 6 = .ok (.ifCond .ne 5, 3) := by decide +kernel
theorem dX10_priceOn_9 : decode cX10_priceOn 9 = .ok (.iconst (-1), 1) := by decide +kernel
theorem dX10_priceOn_10 : decode cX10_priceOn 10 = .ok (.ireturn, 1) := by decide +kernel
theorem dX10_priceOn_11 : decode cX10_priceOn 11 = .ok (.iload_n 2, 1) := by decide +kernel
theorem dX10_priceOn_12 : decode cX10_priceOn 12 = .ok (.invokestatic 108, 3) := by decide +kernel
theorem dX10_priceOn_15 : decode cX10_priceOn 15 = .ok (.ifCond .eq 10, 3) := by decide +kernel
theorem dX10_priceOn_18 : decode cX10_priceOn 18 = .ok (.iload_n 3, 1) := by decide +kernel
theorem dX10_priceOn_19 : decode cX10_priceOn 19 = .ok (.invokestatic 108, 3) := by decide +kernel
theorem dX10_priceOn_22 : decode cX10_priceOn 22 = .ok (.ifCond .ne 6, 3) := by decide +kernel
theorem dX10_priceOn_25 : decode cX10_priceOn 25 = .ok (.bipush (-2), 2) := by decide +kernel
theorem dX10_priceOn_27 : decode cX10_priceOn 27 = .ok (.ireturn, 1) := by decide +kernel
theorem dX10_priceOn_28 : decode cX10_priceOn 28 = .ok (.aload_n 0, 1) := by decide +kernel
theorem dX10_priceOn_29 : decode cX10_priceOn 29 = .ok (.getfield 72, 3) := by decide +kernel
theorem dX10_priceOn_32 : decode cX10_priceOn 32 = .ok (.iload_n 1, 1) := by decide +kernel
theorem dX10_priceOn_33 : decode cX10_priceOn 33 = .ok (.iload_n 2, 1) := by decide +kernel
theorem dX10_priceOn_34 : decode cX10_priceOn 34 = .ok (.iload_n 3, 1) := by decide +kernel
theorem dX10_priceOn_35 : decode cX10_priceOn 35 = .ok (.iconst 0, 1) := by decide +kernel
theorem dX10_priceOn_36 : decode cX10_priceOn 36 = .ok (.invokevirtual 282, 3) := by decide +kernel
theorem dX10_priceOn_39 : decode cX10_priceOn 39 = .ok (.ireturn, 1) := by decide +kernel
theorem dX10_load_0 : decode cX10_load 0 = .ok (.iload_n 1, 1) := by decide +kernel
theorem dX10_load_1 : decode cX10_load 1 = .ok (.iconst 0, 1) := by decide +kernel
theorem dX10_load_2 : decode cX10_load 2 = .ok (.bipush 20, 2) := by decide +kernel
theorem dX10_load_4 : decode cX10_load 4 = .ok (.invokestatic 89, 3) := by decide +kernel
theorem dX10_load_7 : decode cX10_load 7 = .ok (.ifCond .eq 20, 3) := by decide +kernel
theorem dX10_load_10 : decode cX10_load 10 = .ok (.iload_n 2, 1) := by decide +kernel
theorem dX10_load_11 : decode cX10_load 11 = .ok (.iconst 0, 1) := by decide +kernel
theorem dX10_load_12 : decode cX10_load 12 = .ok (.bipush 20, 2) := by decide +kernel
theorem dX10_load_14 : decode cX10_load 14 = .ok (.invokestatic 89, 3) := by decide +kernel
theorem dX10_load_17 : decode cX10_load 17 = .ok (.ifCond .eq 10, 3) := by decide +kernel
theorem dX10_load_20 : decode cX10_load 20 = .ok (.iload_n 3, 1) := by decide +kernel
theorem dX10_load_21 : decode cX10_load 21 = .ok (.invokestatic 108, 3) := by decide +kernel
theorem dX10_load_24 : decode cX10_load 24 = .ok (.ifCond .ne 6, 3) := by decide +kernel
theorem dX10_load_27 : decode cX10_load 27 = .ok (.bipush (-2), 2) := by decide +kernel
theorem dX10_load_29 : decode cX10_load 29 = .ok (.ireturn, 1) := by decide +kernel
theorem dX10_load_30 : decode cX10_load 30 = .ok (.iload 4, 2) := by decide +kernel
theorem dX10_load_32 : decode cX10_load 32 = .ok (.iconst (-1), 1) := by decide +kernel
theorem dX10_load_33 : decode cX10_load 33 = .ok (.iconst 3, 1) := by decide +kernel
theorem dX10_load_34 : decode cX10_load 34 = .ok (.invokestatic 89, 3) := by decide +kernel
theorem dX10_load_37 : decode cX10_load 37 = .ok (.ifCond .ne 6, 3) := by decide +kernel
theorem dX10_load_40 : decode cX10_load 40 = .ok (.bipush (-6), 2) := by decide +kernel
theorem dX10_load_42 : decode cX10_load 42 = .ok (.ireturn, 1) := by decide +kernel
theorem dX10_load_43 : decode cX10_load 43 = .ok (.iconst 0, 1) := by decide +kernel
theorem dX10_load_44 : decode cX10_load 44 = .ok (.istore 5, 2) := by decide +kernel
theorem dX10_load_46 : decode cX10_load 46 = .ok (.iload 5, 2) := by decide +kernel
theorem dX10_load_48 : decode cX10_load 48 = .ok (.iconst 4, 1) := by decide +kernel
theorem dX10_load_49 : decode cX10_load 49 = .ok (.if_icmp .ge 69, 3) := by decide +kernel
theorem dX10_load_52 : decode cX10_load 52 = .ok (.aload_n 0, 1) := by decide +kernel
theorem dX10_load_53 : decode cX10_load 53 = .ok (.getfield 85, 3) := by decide +kernel
theorem dX10_load_56 : decode cX10_load 56 = .ok (.getfield 285, 3) := by decide +kernel
theorem dX10_load_59 : decode cX10_load 59 = .ok (.iload 5, 2) := by decide +kernel
theorem dX10_load_61 : decode cX10_load 61 = .ok (.aload_n 0, 1) := by decide +kernel
theorem dX10_load_62 : decode cX10_load 62 = .ok (.getfield 72, 3) := by decide +kernel
theorem dX10_load_65 : decode cX10_load 65 = .ok (.iconst 0, 1) := by decide +kernel
theorem dX10_load_66 : decode cX10_load 66 = .ok (.aload_n 0, 1) := by decide +kernel
theorem dX10_load_67 : decode cX10_load 67 = .ok (.getfield 85, 3) := by decide +kernel
theorem dX10_load_70 : decode cX10_load 70 = .ok (.getfield 276, 3) := by decide +kernel
theorem dX10_load_73 : decode cX10_load 73 = .ok (.iload 5, 2) := by decide +kernel
theorem dX10_load_75 : decode cX10_load 75 = .ok (.iaload, 1) := by decide +kernel
theorem dX10_load_76 : decode cX10_load 76 = .ok (.iload_n 3, 1) := by decide +kernel
theorem dX10_load_77 : decode cX10_load 77 = .ok (.iconst 0, 1) := by decide +kernel
theorem dX10_load_78 : decode cX10_load 78 = .ok (.invokevirtual 282, 3) := by decide +kernel
theorem dX10_load_81 : decode cX10_load 81 = .ok (.iastore, 1) := by decide +kernel
theorem dX10_load_82 : decode cX10_load 82 = .ok (.aload_n 0, 1) := by decide +kernel
theorem dX10_load_83 : decode cX10_load 83 = .ok (.getfield 85, 3) := by decide +kernel
theorem dX10_load_86 : decode cX10_load 86 = .ok (.getfield 288, 3) := by decide +kernel
theorem dX10_load_89 : decode cX10_load 89 = .ok (.iload 5, 2) := by decide +kernel
theorem dX10_load_91 : decode cX10_load 91 = .ok (.aload_n 0, 1) := by decide +kernel
theorem dX10_load_92 : decode cX10_load 92 = .ok (.getfield 72, 3) := by decide +kernel
theorem dX10_load_95 : decode cX10_load 95 = .ok (.iconst 1, 1) := by decide +kernel
theorem dX10_load_96 : decode cX10_load 96 = .ok (.aload_n 0, 1) := by decide +kernel
theorem dX10_load_97 : decode cX10_load 97 = .ok (.getfield 85, 3) := by decide +kernel
theorem dX10_load_100 : decode cX10_load 100 = .ok (.getfield 276, 3) := by decide +kernel
theorem dX10_load_103 : decode cX10_load 103 = .ok (.iload 5, 2) := by decide +kernel
theorem dX10_load_105 : decode cX10_load 105 = .ok (.iaload, 1) := by decide +kernel
theorem dX10_load_106 : decode cX10_load 106 = .ok (.iload_n 3, 1) := by decide +kernel
theorem dX10_load_107 : decode cX10_load 107 = .ok (.iconst 0, 1) := by decide +kernel
theorem dX10_load_108 : decode cX10_load 108 = .ok (.invokevirtual 282, 3) := by decide +kernel
theorem dX10_load_111 : decode cX10_load 111 = .ok (.iastore, 1) := by decide +kernel
theorem dX10_load_112 : decode cX10_load 112 = .ok (.iinc 5 1, 3) := by decide +kernel
theorem dX10_load_115 : decode cX10_load 115 = .ok (.goto (-69), 3) := by decide +kernel
theorem dX10_load_118 : decode cX10_load 118 = .ok (.aload_n 0, 1) := by decide +kernel
theorem dX10_load_119 : decode cX10_load 119 = .ok (.getfield 85, 3) := by decide +kernel
theorem dX10_load_122 : decode cX10_load 122 = .ok (.iload_n 1, 1) := by decide +kernel
theorem dX10_load_123 : decode cX10_load 123 = .ok (.iload_n 2, 1) := by decide +kernel
theorem dX10_load_124 : decode cX10_load 124 = .ok (.invokevirtual 291, 3) := by decide +kernel
theorem dX10_load_127 : decode cX10_load 127 = .ok (.iload 4, 2) := by decide +kernel
theorem dX10_load_129 : decode cX10_load 129 = .ok (.iconst (-1), 1) := by decide +kernel
theorem dX10_load_130 : decode cX10_load 130 = .ok (.if_icmp .ne 16, 3) := by decide +kernel
theorem dX10_load_133 : decode cX10_load 133 = .ok (.aload_n 0, 1) := by decide +kernel
theorem dX10_load_134 : decode cX10_load 134 = .ok (.getfield 85, 3) := by decide +kernel
theorem dX10_load_137 : decode cX10_load 137 = .ok (.iconst 0, 1) := by decide +kernel
theorem dX10_load_138 : decode cX10_load 138 = .ok (.iload_n 1, 1) := by decide +kernel
theorem dX10_load_139 : decode cX10_load 139 = .ok (.iload_n 2, 1) := by decide +kernel
theorem dX10_load_140 : decode cX10_load 140 = .ok (.invokevirtual 293, 3) := by decide +kernel
theorem dX10_load_143 : decode cX10_load 143 = .ok (.goto 14, 3) := by decide +kernel
theorem dX10_load_146 : decode cX10_load 146 = .ok (.aload_n 0, 1) := by decide +kernel
theorem dX10_load_147 : decode cX10_load 147 = .ok (.getfield 85, 3) := by decide +kernel
theorem dX10_load_150 : decode cX10_load 150 = .ok (.iload 4, 2) := by decide +kernel
theorem dX10_load_152 : decode cX10_load 152 = .ok (.iload_n 1, 1) := by decide +kernel
theorem dX10_load_153 : decode cX10_load 153 = .ok (.iload_n 2, 1) := by decide +kernel
theorem dX10_load_154 : decode cX10_load 154 = .ok (.invokevirtual 296, 3) := by decide +kernel
theorem dX10_load_157 : decode cX10_load 157 = .ok (.ireturn, 1) := by decide +kernel
theorem dX10_told_0 : decode cX10_told 0 = .ok (.iload_n 1, 1) := by decide +kernel
theorem dX10_told_1 : decode cX10_told 1 = .ok (.tableswitch 129 0 9 #[55, 63, 71, 79, 87, 95, 103, 111, 119, 124], 55) := by decide +kernel
theorem dX10_told_56 : decode cX10_told 56 = .ok (.aload_n 0, 1) := by decide +kernel
theorem dX10_told_57 : decode cX10_told 57 = .ok (.getfield 10, 3) := by decide +kernel
theorem dX10_told_60 : decode cX10_told 60 = .ok (.getfield 93, 3) := by decide +kernel
theorem dX10_told_63 : decode cX10_told 63 = .ok (.ireturn, 1) := by decide +kernel
theorem dX10_told_64 : decode cX10_told 64 = .ok (.aload_n 0, 1) := by decide +kernel
theorem dX10_told_65 : decode cX10_told 65 = .ok (.getfield 19, 3) := by decide +kernel
theorem dX10_told_68 : decode cX10_told 68 = .ok (.getfield 112, 3) := by decide +kernel
theorem dX10_told_71 : decode cX10_told 71 = .ok (.ireturn, 1) := by decide +kernel
theorem dX10_told_72 : decode cX10_told 72 = .ok (.aload_n 0, 1) := by decide +kernel
theorem dX10_told_73 : decode cX10_told 73 = .ok (.getfield 30, 3) := by decide +kernel
theorem dX10_told_76 : decode cX10_told 76 = .ok (.getfield 160, 3) := by decide +kernel
theorem dX10_told_79 : decode cX10_told 79 = .ok (.ireturn, 1) := by decide +kernel
theorem dX10_told_80 : decode cX10_told 80 = .ok (.aload_n 0, 1) := by decide +kernel
theorem dX10_told_81 : decode cX10_told 81 = .ok (.getfield 30, 3) := by decide +kernel
theorem dX10_told_84 : decode cX10_told 84 = .ok (.invokevirtual 161, 3) := by decide +kernel
theorem dX10_told_87 : decode cX10_told 87 = .ok (.ireturn, 1) := by decide +kernel
theorem dX10_told_88 : decode cX10_told 88 = .ok (.aload_n 0, 1) := by decide +kernel
theorem dX10_told_89 : decode cX10_told 89 = .ok (.getfield 44, 3) := by decide +kernel
theorem dX10_told_92 : decode cX10_told 92 = .ok (.getfield 190, 3) := by decide +kernel
theorem dX10_told_95 : decode cX10_told 95 = .ok (.ireturn, 1) := by decide +kernel
theorem dX10_told_96 : decode cX10_told 96 = .ok (.aload_n 0, 1) := by decide +kernel
theorem dX10_told_97 : decode cX10_told 97 = .ok (.getfield 54, 3) := by decide +kernel
theorem dX10_told_100 : decode cX10_told 100 = .ok (.getfield 207, 3) := by decide +kernel
theorem dX10_told_103 : decode cX10_told 103 = .ok (.ireturn, 1) := by decide +kernel
theorem dX10_told_104 : decode cX10_told 104 = .ok (.aload_n 0, 1) := by decide +kernel
theorem dX10_told_105 : decode cX10_told 105 = .ok (.getfield 68, 3) := by decide +kernel
theorem dX10_told_108 : decode cX10_told 108 = .ok (.getfield 228, 3) := by decide +kernel
theorem dX10_told_111 : decode cX10_told 111 = .ok (.ireturn, 1) := by decide +kernel
theorem dX10_told_112 : decode cX10_told 112 = .ok (.aload_n 0, 1) := by decide +kernel
theorem dX10_told_113 : decode cX10_told 113 = .ok (.getfield 72, 3) := by decide +kernel
theorem dX10_told_116 : decode cX10_told 116 = .ok (.getfield 228, 3) := by decide +kernel
theorem dX10_told_119 : decode cX10_told 119 = .ok (.ireturn, 1) := by decide +kernel
theorem dX10_told_120 : decode cX10_told 120 = .ok (.aload_n 0, 1) := by decide +kernel
theorem dX10_told_121 : decode cX10_told 121 = .ok (.invokevirtual 299, 3) := by decide +kernel
theorem dX10_told_124 : decode cX10_told 124 = .ok (.ireturn, 1) := by decide +kernel
theorem dX10_told_125 : decode cX10_told 125 = .ok (.aload_n 0, 1) := by decide +kernel
theorem dX10_told_126 : decode cX10_told 126 = .ok (.invokevirtual 302, 3) := by decide +kernel
theorem dX10_told_129 : decode cX10_told 129 = .ok (.ireturn, 1) := by decide +kernel
theorem dX10_told_130 : decode cX10_told 130 = .ok (.bipush (-2), 2) := by decide +kernel
theorem dX10_told_132 : decode cX10_told 132 = .ok (.ireturn, 1) := by decide +kernel
theorem dX10_within_0 : decode cX10_within 0 = .ok (.iload_n 0, 1) := by decide +kernel
theorem dX10_within_1 : decode cX10_within 1 = .ok (.iload_n 1, 1) := by decide +kernel
theorem dX10_within_2 : decode cX10_within 2 = .ok (.if_icmp .lt 12, 3) := by decide +kernel
theorem dX10_within_5 : decode cX10_within 5 = .ok (.iload_n 0, 1) := by decide +kernel
theorem dX10_within_6 : decode cX10_within 6 = .ok (.iload_n 2, 1) := by decide +kernel
theorem dX10_within_7 : decode cX10_within 7 = .ok (.if_icmp .gt 7, 3) := by decide +kernel
theorem dX10_within_10 : decode cX10_within 10 = .ok (.iconst 1, 1) := by decide +kernel
theorem dX10_within_11 : decode cX10_within 11 = .ok (.goto 4, 3) := by decide +kernel
theorem dX10_within_14 : decode cX10_within 14 = .ok (.iconst 0, 1) := by decide +kernel
theorem dX10_within_15 : decode cX10_within 15 = .ok (.ireturn, 1) := by decide +kernel
theorem dX10_isDay_0 : decode cX10_isDay 0 = .ok (.iload_n 0, 1) := by decide +kernel
theorem dX10_isDay_1 : decode cX10_isDay 1 = .ok (.iconst 0, 1) := by decide +kernel
theorem dX10_isDay_2 : decode cX10_isDay 2 = .ok (.sipush 400, 3) := by decide +kernel
theorem dX10_isDay_5 : decode cX10_isDay 5 = .ok (.invokestatic 89, 3) := by decide +kernel
theorem dX10_isDay_8 : decode cX10_isDay 8 = .ok (.ireturn, 1) := by decide +kernel
theorem dX10_isHour_0 : decode cX10_isHour 0 = .ok (.iload_n 0, 1) := by decide +kernel
theorem dX10_isHour_1 : decode cX10_isHour 1 = .ok (.iconst 0, 1) := by decide +kernel
theorem dX10_isHour_2 : decode cX10_isHour 2 = .ok (.sipush 2000, 3) := by decide +kernel
theorem dX10_isHour_5 : decode cX10_isHour 5 = .ok (.invokestatic 89, 3) := by decide +kernel
theorem dX10_isHour_8 : decode cX10_isHour 8 = .ok (.ireturn, 1) := by decide +kernel
theorem dX10_isBoat_0 : decode cX10_isBoat 0 = .ok (.iload_n 0, 1) := by decide +kernel
theorem dX10_isBoat_1 : decode cX10_isBoat 1 = .ok (.iconst 0, 1) := by decide +kernel
theorem dX10_isBoat_2 : decode cX10_isBoat 2 = .ok (.bipush 9, 2) := by decide +kernel
theorem dX10_isBoat_4 : decode cX10_isBoat 4 = .ok (.invokestatic 89, 3) := by decide +kernel
theorem dX10_isBoat_7 : decode cX10_isBoat 7 = .ok (.ireturn, 1) := by decide +kernel
theorem dX10_isQuay_0 : decode cX10_isQuay 0 = .ok (.iload_n 0, 1) := by decide +kernel
theorem dX10_isQuay_1 : decode cX10_isQuay 1 = .ok (.iconst 0, 1) := by decide +kernel
theorem dX10_isQuay_2 : decode cX10_isQuay 2 = .ok (.iconst 3, 1) := by decide +kernel
theorem dX10_isQuay_3 : decode cX10_isQuay 3 = .ok (.invokestatic 89, 3) := by decide +kernel
theorem dX10_isQuay_6 : decode cX10_isQuay 6 = .ok (.ireturn, 1) := by decide +kernel
theorem dX10_isQuayOrNone_0 : decode cX10_isQuayOrNone 0 = .ok (.iload_n 0, 1) := by decide +kernel
theorem dX10_isQuayOrNone_1 : decode cX10_isQuayOrNone 1 = .ok (.iconst (-1), 1) := by decide +kernel
theorem dX10_isQuayOrNone_2 : decode cX10_isQuayOrNone 2 = .ok (.if_icmp .eq 10, 3) := by decide +kernel
theorem dX10_isQuayOrNone_5 : decode cX10_isQuayOrNone 5 = .ok (.iload_n 0, 1) := by decide +kernel
theorem dX10_isQuayOrNone_6 : decode cX10_isQuayOrNone 6 = .ok (.invokestatic 116, 3) := by decide +kernel
theorem dX10_isQuayOrNone_9 : decode cX10_isQuayOrNone 9 = .ok (.ifCond .eq 7, 3) := by decide +kernel
theorem dX10_isQuayOrNone_12 : decode cX10_isQuayOrNone 12 = .ok (.iconst 1, 1) := by decide +kernel
theorem dX10_isQuayOrNone_13 : decode cX10_isQuayOrNone 13 = .ok (.goto 4, 3) := by decide +kernel
theorem dX10_isQuayOrNone_16 : decode cX10_isQuayOrNone 16 = .ok (.iconst 0, 1) := by decide +kernel
theorem dX10_isQuayOrNone_17 : decode cX10_isQuayOrNone 17 = .ok (.ireturn, 1) := by decide +kernel
theorem dX10_isLanding_0 : decode cX10_isLanding 0 = .ok (.iload_n 1, 1) := by decide +kernel
theorem dX10_isLanding_1 : decode cX10_isLanding 1 = .ok (.iconst 0, 1) := by decide +kernel
theorem dX10_isLanding_2 : decode cX10_isLanding 2 = .ok (.aload_n 0, 1) := by decide +kernel
theorem dX10_isLanding_3 : decode cX10_isLanding 3 = .ok (.getfield 30, 3) := by decide +kernel
theorem dX10_isLanding_6 : decode cX10_isLanding 6 = .ok (.getfield 160, 3) := by decide +kernel
theorem dX10_isLanding_9 : decode cX10_isLanding 9 = .ok (.iconst 1, 1) := by decide +kernel
theorem dX10_isLanding_10 : decode cX10_isLanding 10 = .ok (.isub, 1) := by decide +kernel
theorem dX10_isLanding_11 : decode cX10_isLanding 11 = .ok (.invokestatic 89, 3) := by decide +kernel
theorem dX10_isLanding_14 : decode cX10_isLanding 14 = .ok (.ireturn, 1) := by decide +kernel
theorem dX10_choose_0 : decode cX10_choose 0 = .ok (.iload_n 1, 1) := by decide +kernel
theorem dX10_choose_1 : decode cX10_choose 1 = .ok (.iload_n 0, 1) := by decide +kernel
theorem dX10_choose_2 : decode cX10_choose 2 = .ok (.if_icmp .le 5, 3) := by decide +kernel
theorem dX10_choose_5 : decode cX10_choose 5 = .ok (.lconst 0, 1) := by decide +kernel
theorem dX10_choose_6 : decode cX10_choose 6 = .ok (.lreturn, 1) := by decide +kernel
theorem dX10_choose_7 : decode cX10_choose 7 = .ok (.lconst 1, 1) := by decide +kernel
theorem dX10_choose_8 : decode cX10_choose 8 = .ok (.lstore_n 2, 1) := by decide +kernel
theorem dX10_choose_9 : decode cX10_choose 9 = .ok (.iconst 1, 1) := by decide +kernel
theorem dX10_choose_10 : decode cX10_choose 10 = .ok (.istore 4, 2) := by decide +kernel
theorem dX10_choose_12 : decode cX10_choose 12 = .ok (.iload 4, 2) := by decide +kernel
theorem dX10_choose_14 : decode cX10_choose 14 = .ok (.iload_n 1, 1) := by decide +kernel
theorem dX10_choose_15 : decode cX10_choose 15 = .ok (.if_icmp .gt 23, 3) := by decide +kernel
theorem dX10_choose_18 : decode cX10_choose 18 = .ok (.lload_n 2, 1) := by decide +kernel
theorem dX10_choose_19 : decode cX10_choose 19 = .ok (.iload_n 0, 1) := by decide +kernel
theorem dX10_choose_20 : decode cX10_choose 20 = .ok (.iload_n 1, 1) := by decide +kernel
theorem dX10_choose_21 : decode cX10_choose 21 = .ok (.isub, 1) := by decide +kernel
theorem dX10_choose_22 : decode cX10_choose 22 = .ok (.iload 4, 2) := by decide +kernel
theorem dX10_choose_24 : decode cX10_choose 24 = .ok (.iadd, 1) := by decide +kernel
theorem dX10_choose_25 : decode cX10_choose 25 = .ok (.i2l, 1) := by decide +kernel
theorem dX10_choose_26 : decode cX10_choose 26 = .ok (.lmul, 1) := by decide +kernel
theorem dX10_choose_27 : decode cX10_choose 27 = .ok (.iload 4, 2) := by decide +kernel
theorem dX10_choose_29 : decode cX10_choose 29 = .ok (.i2l, 1) := by decide +kernel
theorem dX10_choose_30 : decode cX10_choose 30 = .ok (.ldiv, 1) := by decide +kernel
theorem dX10_choose_31 : decode cX10_choose 31 = .ok (.lstore_n 2, 1) := by decide +kernel
theorem dX10_choose_32 : decode cX10_choose 32 = .ok (.iinc 4 1, 3) := by decide +kernel
theorem dX10_choose_35 : decode cX10_choose 35 = .ok (.goto (-23), 3) := by decide +kernel
theorem dX10_choose_38 : decode cX10_choose 38 = .ok (.lload_n 2, 1) := by decide +kernel
theorem dX10_choose_39 : decode cX10_choose 39 = .ok (.lreturn, 1) := by decide +kernel
theorem dX10_work_0 : decode cX10_work 0 = .ok (.aload_n 0, 1) := by decide +kernel
theorem dX10_work_1 : decode cX10_work 1 = .ok (.getfield 30, 3) := by decide +kernel
theorem dX10_work_4 : decode cX10_work 4 = .ok (.aload_n 0, 1) := by decide +kernel
theorem dX10_work_5 : decode cX10_work 5 = .ok (.getfield 23, 3) := by decide +kernel
theorem dX10_work_8 : decode cX10_work 8 = .ok (.iconst 0, 1) := by decide +kernel
theorem dX10_work_9 : decode cX10_work 9 = .ok (.iaload, 1) := by decide +kernel
theorem dX10_work_10 : decode cX10_work 10 = .ok (.invokevirtual 305, 3) := by decide +kernel
theorem dX10_work_13 : decode cX10_work 13 = .ok (.return_, 1) := by decide +kernel
theorem dX10_barrelsAt_0 : decode cX10_barrelsAt 0 = .ok (.aload_n 0, 1) := by decide +kernel
theorem dX10_barrelsAt_1 : decode cX10_barrelsAt 1 = .ok (.getfield 30, 3) := by decide +kernel
theorem dX10_barrelsAt_4 : decode cX10_barrelsAt 4 = .ok (.getfield 260, 3) := by decide +kernel
theorem dX10_barrelsAt_7 : decode cX10_barrelsAt 7 = .ok (.iload_n 1, 1) := by decide +kernel
theorem dX10_barrelsAt_8 : decode cX10_barrelsAt 8 = .ok (.iaload, 1) := by decide +kernel
theorem dX10_barrelsAt_9 : decode cX10_barrelsAt 9 = .ok (.aload_n 0, 1) := by decide +kernel
theorem dX10_barrelsAt_10 : decode cX10_barrelsAt 10 = .ok (.getfield 23, 3) := by decide +kernel
theorem dX10_barrelsAt_13 : decode cX10_barrelsAt 13 = .ok (.iconst 1, 1) := by decide +kernel
theorem dX10_barrelsAt_14 : decode cX10_barrelsAt 14 = .ok (.iaload, 1) := by decide +kernel
theorem dX10_barrelsAt_15 : decode cX10_barrelsAt 15 = .ok (.idiv, 1) := by decide +kernel
theorem dX10_barrelsAt_16 : decode cX10_barrelsAt 16 = .ok (.ireturn, 1) := by decide +kernel
theorem dX10_barrelsOfAll_0 : decode cX10_barrelsOfAll 0 = .ok (.aload_n 0, 1) := by decide +kernel
theorem dX10_barrelsOfAll_1 : decode cX10_barrelsOfAll 1 = .ok (.invokevirtual 119, 3) := by decide +kernel
theorem dX10_barrelsOfAll_4 : decode cX10_barrelsOfAll 4 = .ok (.iconst 0, 1) := by decide +kernel
theorem dX10_barrelsOfAll_5 : decode cX10_barrelsOfAll 5 = .ok (.istore_n 1, 1) := by decide +kernel
theorem dX10_barrelsOfAll_6 : decode cX10_barrelsOfAll 6 = .ok (.iconst 0, 1) := by decide +kernel
theorem dX10_barrelsOfAll_7 : decode cX10_barrelsOfAll 7 = .ok (.istore_n 2, 1) := by decide +kernel
theorem dX10_barrelsOfAll_8 : decode cX10_barrelsOfAll 8 = .ok (.iload_n 2, 1) := by decide +kernel
theorem dX10_barrelsOfAll_9 : decode cX10_barrelsOfAll 9 = .ok (.iconst 4, 1) := by decide +kernel
theorem dX10_barrelsOfAll_10 : decode cX10_barrelsOfAll 10 = .ok (.if_icmp .ge 17, 3) := by decide +kernel
theorem dX10_barrelsOfAll_13 : decode cX10_barrelsOfAll 13 = .ok (.iload_n 1, 1) := by decide +kernel
theorem dX10_barrelsOfAll_14 : decode cX10_barrelsOfAll 14 = .ok (.aload_n 0, 1) := by decide +kernel
theorem dX10_barrelsOfAll_15 : decode cX10_barrelsOfAll 15 = .ok (.iload_n 2, 1) := by decide +kernel
theorem dX10_barrelsOfAll_16 : decode cX10_barrelsOfAll 16 = .ok (.invokevirtual 122, 3) := by decide +kernel
theorem dX10_barrelsOfAll_19 : decode cX10_barrelsOfAll 19 = .ok (.iadd, 1) := by decide +kernel
theorem dX10_barrelsOfAll_20 : decode cX10_barrelsOfAll 20 = .ok (.istore_n 1, 1) := by decide +kernel
theorem dX10_barrelsOfAll_21 : decode cX10_barrelsOfAll 21 = .ok (.iinc 2 1, 3) := by decide +kernel
theorem dX10_barrelsOfAll_24 : decode cX10_barrelsOfAll 24 = .ok (.goto (-16), 3) := by decide +kernel
theorem dX10_barrelsOfAll_27 : decode cX10_barrelsOfAll 27 = .ok (.iload_n 1, 1) := by decide +kernel
theorem dX10_barrelsOfAll_28 : decode cX10_barrelsOfAll 28 = .ok (.ireturn, 1) := by decide +kernel
theorem dX10_spoiltOfAll_0 : decode cX10_spoiltOfAll 0 = .ok (.aload_n 0, 1) := by decide +kernel
theorem dX10_spoiltOfAll_1 : decode cX10_spoiltOfAll 1 = .ok (.invokevirtual 119, 3) := by decide +kernel
theorem dX10_spoiltOfAll_4 : decode cX10_spoiltOfAll 4 = .ok (.iconst 0, 1) := by decide +kernel
theorem dX10_spoiltOfAll_5 : decode cX10_spoiltOfAll 5 = .ok (.istore_n 1, 1) := by decide +kernel
theorem dX10_spoiltOfAll_6 : decode cX10_spoiltOfAll 6 = .ok (.iconst 0, 1) := by decide +kernel
theorem dX10_spoiltOfAll_7 : decode cX10_spoiltOfAll 7 = .ok (.istore_n 2, 1) := by decide +kernel
theorem dX10_spoiltOfAll_8 : decode cX10_spoiltOfAll 8 = .ok (.iload_n 2, 1) := by decide +kernel
theorem dX10_spoiltOfAll_9 : decode cX10_spoiltOfAll 9 = .ok (.iconst 4, 1) := by decide +kernel
theorem dX10_spoiltOfAll_10 : decode cX10_spoiltOfAll 10 = .ok (.if_icmp .ge 20, 3) := by decide +kernel
theorem dX10_spoiltOfAll_13 : decode cX10_spoiltOfAll 13 = .ok (.iload_n 1, 1) := by decide +kernel
theorem dX10_spoiltOfAll_14 : decode cX10_spoiltOfAll 14 = .ok (.aload_n 0, 1) := by decide +kernel
theorem dX10_spoiltOfAll_15 : decode cX10_spoiltOfAll 15 = .ok (.getfield 30, 3) := by decide +kernel
theorem dX10_spoiltOfAll_18 : decode cX10_spoiltOfAll 18 = .ok (.iload_n 2, 1) := by decide +kernel
theorem dX10_spoiltOfAll_19 : decode cX10_spoiltOfAll 19 = .ok (.invokevirtual 257, 3) := by decide +kernel
theorem dX10_spoiltOfAll_22 : decode cX10_spoiltOfAll 22 = .ok (.iadd, 1) := by decide +kernel
theorem dX10_spoiltOfAll_23 : decode cX10_spoiltOfAll 23 = .ok (.istore_n 1, 1) := by decide +kernel
theorem dX10_spoiltOfAll_24 : decode cX10_spoiltOfAll 24 = .ok (.iinc 2 1, 3) := by decide +kernel
theorem dX10_spoiltOfAll_27 : decode cX10_spoiltOfAll 27 = .ok (.goto (-19), 3) := by decide +kernel
theorem dX10_spoiltOfAll_30 : decode cX10_spoiltOfAll 30 = .ok (.iload_n 1, 1) := by decide +kernel
theorem dX10_spoiltOfAll_31 : decode cX10_spoiltOfAll 31 = .ok (.ireturn, 1) := by decide +kernel
theorem dX10_measureOne_0 : decode cX10_measureOne 0 = .ok (.aload_n 0, 1) := by decide +kernel
theorem dX10_measureOne_1 : decode cX10_measureOne 1 = .ok (.getfield 37, 3) := by decide +kernel
theorem dX10_measureOne_4 : decode cX10_measureOne 4 = .ok (.iload_n 1, 1) := by decide +kernel
theorem dX10_measureOne_5 : decode cX10_measureOne 5 = .ok (.invokevirtual 308, 3) := by decide +kernel
theorem dX10_measureOne_8 : decode cX10_measureOne 8 = .ok (.aload_n 0, 1) := by decide +kernel
theorem dX10_measureOne_9 : decode cX10_measureOne 9 = .ok (.getfield 30, 3) := by decide +kernel
theorem dX10_measureOne_12 : decode cX10_measureOne 12 = .ok (.aload_n 0, 1) := by decide +kernel
theorem dX10_measureOne_13 : decode cX10_measureOne 13 = .ok (.getfield 37, 3) := by decide +kernel
theorem dX10_measureOne_16 : decode cX10_measureOne 16 = .ok (.iload_n 2, 1) := by decide +kernel
theorem dX10_measureOne_17 : decode cX10_measureOne 17 = .ok (.aload_n 0, 1) := by decide +kernel
theorem dX10_measureOne_18 : decode cX10_measureOne 18 = .ok (.getfield 23, 3) := by decide +kernel
theorem dX10_measureOne_21 : decode cX10_measureOne 21 = .ok (.iconst 1, 1) := by decide +kernel
theorem dX10_measureOne_22 : decode cX10_measureOne 22 = .ok (.iaload, 1) := by decide +kernel
theorem dX10_measureOne_23 : decode cX10_measureOne 23 = .ok (.invokevirtual 311, 3) := by decide +kernel
theorem dX10_measureOne_26 : decode cX10_measureOne 26 = .ok (.return_, 1) := by decide +kernel
theorem dX10_tiers_0 : decode cX10_tiers 0 = .ok (.aload_n 0, 1) := by decide +kernel
theorem dX10_tiers_1 : decode cX10_tiers 1 = .ok (.getfield 23, 3) := by decide +kernel
theorem dX10_tiers_4 : decode cX10_tiers 4 = .ok (.iconst 1, 1) := by decide +kernel
theorem dX10_tiers_5 : decode cX10_tiers 5 = .ok (.iaload, 1) := by decide +kernel
theorem dX10_tiers_6 : decode cX10_tiers 6 = .ok (.aload_n 0, 1) := by decide +kernel
theorem dX10_tiers_7 : decode cX10_tiers 7 = .ok (.getfield 23, 3) := by decide +kernel
theorem dX10_tiers_10 : decode cX10_tiers 10 = .ok (.iconst 2, 1) := by decide +kernel
theorem dX10_tiers_11 : decode cX10_tiers 11 = .ok (.iaload, 1) := by decide +kernel
theorem dX10_tiers_12 : decode cX10_tiers 12 = .ok (.idiv, 1) := by decide +kernel
theorem dX10_tiers_13 : decode cX10_tiers 13 = .ok (.ireturn, 1) := by decide +kernel
theorem dX10_ofCask_0 : decode cX10_ofCask 0 = .ok (.iload_n 1, 1) := by decide +kernel
theorem dX10_ofCask_1 : decode cX10_ofCask 1 = .ok (.tableswitch 112 0 5 #[39, 47, 55, 60, 82, 104], 39) := by decide +kernel
theorem dX10_ofCask_40 : decode cX10_ofCask 40 = .ok (.aload_n 0, 1) := by decide +kernel
theorem dX10_ofCask_41 : decode cX10_ofCask 41 = .ok (.getfield 37, 3) := by decide +kernel
theorem dX10_ofCask_44 : decode cX10_ofCask 44 = .ok (.getfield 315, 3) := by decide +kernel
theorem dX10_ofCask_47 : decode cX10_ofCask 47 = .ok (.ireturn, 1) := by decide +kernel
theorem dX10_ofCask_48 : decode cX10_ofCask 48 = .ok (.aload_n 0, 1) := by decide +kernel
theorem dX10_ofCask_49 : decode cX10_ofCask 49 = .ok (.getfield 37, 3) := by decide +kernel
theorem dX10_ofCask_52 : decode cX10_ofCask 52 = .ok (.getfield 318, 3) := by decide +kernel
theorem dX10_ofCask_55 : decode cX10_ofCask 55 = .ok (.ireturn, 1) := by decide +kernel
theorem dX10_ofCask_56 : decode cX10_ofCask 56 = .ok (.aload_n 0, 1) := by decide +kernel
theorem dX10_ofCask_57 : decode cX10_ofCask 57 = .ok (.invokevirtual 321, 3) := by decide +kernel
theorem dX10_ofCask_60 : decode cX10_ofCask 60 = .ok (.ireturn, 1) := by decide +kernel
theorem dX10_ofCask_61 : decode cX10_ofCask 61 = .ok (.aload_n 0, 1) := by decide +kernel
theorem dX10_ofCask_62 : decode cX10_ofCask 62 = .ok (.getfield 44, 3) := by decide +kernel
theorem dX10_ofCask_65 : decode cX10_ofCask 65 = .ok (.aload_n 0, 1) := by decide +kernel
theorem dX10_ofCask_66 : decode cX10_ofCask 66 = .ok (.getfield 37, 3) := by decide +kernel
theorem dX10_ofCask_69 : decode cX10_ofCask 69 = .ok (.getfield 324, 3) := by decide +kernel
theorem dX10_ofCask_72 : decode cX10_ofCask 72 = .ok (.aload_n 0, 1) := by decide +kernel
theorem dX10_ofCask_73 : decode cX10_ofCask 73 = .ok (.getfield 37, 3) := by decide +kernel
theorem dX10_ofCask_76 : decode cX10_ofCask 76 = .ok (.getfield 315, 3) := by decide +kernel
theorem dX10_ofCask_79 : decode cX10_ofCask 79 = .ok (.invokevirtual 327, 3) := by decide +kernel
theorem dX10_ofCask_82 : decode cX10_ofCask 82 = .ok (.ireturn, 1) := by decide +kernel
theorem dX10_ofCask_83 : decode cX10_ofCask 83 = .ok (.aload_n 0, 1) := by decide +kernel
theorem dX10_ofCask_84 : decode cX10_ofCask 84 = .ok (.getfield 44, 3) := by decide +kernel
theorem dX10_ofCask_87 : decode cX10_ofCask 87 = .ok (.aload_n 0, 1) := by decide +kernel
theorem dX10_ofCask_88 : decode cX10_ofCask 88 = .ok (.getfield 37, 3) := by decide +kernel
theorem dX10_ofCask_91 : decode cX10_ofCask 91 = .ok (.getfield 324, 3) := by decide +kernel
theorem dX10_ofCask_94 : decode cX10_ofCask 94 = .ok (.aload_n 0, 1) := by decide +kernel
theorem dX10_ofCask_95 : decode cX10_ofCask 95 = .ok (.getfield 37, 3) := by decide +kernel
theorem dX10_ofCask_98 : decode cX10_ofCask 98 = .ok (.getfield 315, 3) := by decide +kernel
theorem dX10_ofCask_101 : decode cX10_ofCask 101 = .ok (.invokevirtual 330, 3) := by decide +kernel
theorem dX10_ofCask_104 : decode cX10_ofCask 104 = .ok (.ireturn, 1) := by decide +kernel
theorem dX10_ofCask_105 : decode cX10_ofCask 105 = .ok (.aload_n 0, 1) := by decide +kernel
theorem dX10_ofCask_106 : decode cX10_ofCask 106 = .ok (.getfield 37, 3) := by decide +kernel
theorem dX10_ofCask_109 : decode cX10_ofCask 109 = .ok (.getfield 333, 3) := by decide +kernel
theorem dX10_ofCask_112 : decode cX10_ofCask 112 = .ok (.ireturn, 1) := by decide +kernel
theorem dX10_ofCask_113 : decode cX10_ofCask 113 = .ok (.aload_n 0, 1) := by decide +kernel
theorem dX10_ofCask_114 : decode cX10_ofCask 114 = .ok (.getfield 37, 3) := by decide +kernel
theorem dX10_ofCask_117 : decode cX10_ofCask 117 = .ok (.getfield 336, 3) := by decide +kernel
theorem dX10_ofCask_120 : decode cX10_ofCask 120 = .ok (.ireturn, 1) := by decide +kernel
theorem dX10_brandOfCask_0 : decode cX10_brandOfCask 0 = .ok (.aload_n 0, 1) := by decide +kernel
theorem dX10_brandOfCask_1 : decode cX10_brandOfCask 1 = .ok (.getfield 48, 3) := by decide +kernel
theorem dX10_brandOfCask_4 : decode cX10_brandOfCask 4 = .ok (.iconst 0, 1) := by decide +kernel
theorem dX10_brandOfCask_5 : decode cX10_brandOfCask 5 = .ok (.aload_n 0, 1) := by decide +kernel
theorem dX10_brandOfCask_6 : decode cX10_brandOfCask 6 = .ok (.getfield 37, 3) := by decide +kernel
theorem dX10_brandOfCask_9 : decode cX10_brandOfCask 9 = .ok (.getfield 318, 3) := by decide +kernel
theorem dX10_brandOfCask_12 : decode cX10_brandOfCask 12 = .ok (.iastore, 1) := by decide +kernel
theorem dX10_brandOfCask_13 : decode cX10_brandOfCask 13 = .ok (.aload_n 0, 1) := by decide +kernel
theorem dX10_brandOfCask_14 : decode cX10_brandOfCask 14 = .ok (.getfield 48, 3) := by decide +kernel
theorem dX10_brandOfCask_17 : decode cX10_brandOfCask 17 = .ok (.iconst 1, 1) := by decide +kernel
theorem dX10_brandOfCask_18 : decode cX10_brandOfCask 18 = .ok (.aload_n 0, 1) := by decide +kernel
theorem dX10_brandOfCask_19 : decode cX10_brandOfCask 19 = .ok (.invokevirtual 321, 3) := by decide +kernel
theorem dX10_brandOfCask_22 : decode cX10_brandOfCask 22 = .ok (.iastore, 1) := by decide +kernel
theorem dX10_brandOfCask_23 : decode cX10_brandOfCask 23 = .ok (.aload_n 0, 1) := by decide +kernel
theorem dX10_brandOfCask_24 : decode cX10_brandOfCask 24 = .ok (.getfield 48, 3) := by decide +kernel
theorem dX10_brandOfCask_27 : decode cX10_brandOfCask 27 = .ok (.iconst 2, 1) := by decide +kernel
theorem dX10_brandOfCask_28 : decode cX10_brandOfCask 28 = .ok (.aload_n 0, 1) := by decide +kernel
theorem dX10_brandOfCask_29 : decode cX10_brandOfCask 29 = .ok (.getfield 44, 3) := by decide +kernel
theorem dX10_brandOfCask_32 : decode cX10_brandOfCask 32 = .ok (.aload_n 0, 1) := by decide +kernel
theorem dX10_brandOfCask_33 : decode cX10_brandOfCask 33 = .ok (.getfield 37, 3) := by decide +kernel
theorem dX10_brandOfCask_36 : decode cX10_brandOfCask 36 = .ok (.getfield 324, 3) := by decide +kernel
theorem dX10_brandOfCask_39 : decode cX10_brandOfCask 39 = .ok (.aload_n 0, 1) := by decide +kernel
theorem dX10_brandOfCask_40 : decode cX10_brandOfCask 40 = .ok (.getfield 37, 3) := by decide +kernel
theorem dX10_brandOfCask_43 : decode cX10_brandOfCask 43 = .ok (.getfield 315, 3) := by decide +kernel
theorem dX10_brandOfCask_46 : decode cX10_brandOfCask 46 = .ok (.invokevirtual 327, 3) := by decide +kernel
theorem dX10_brandOfCask_49 : decode cX10_brandOfCask 49 = .ok (.iastore, 1) := by decide +kernel
theorem dX10_brandOfCask_50 : decode cX10_brandOfCask 50 = .ok (.aload_n 0, 1) := by decide +kernel
theorem dX10_brandOfCask_51 : decode cX10_brandOfCask 51 = .ok (.getfield 48, 3) := by decide +kernel
theorem dX10_brandOfCask_54 : decode cX10_brandOfCask 54 = .ok (.iconst 3, 1) := by decide +kernel
theorem dX10_brandOfCask_55 : decode cX10_brandOfCask 55 = .ok (.aload_n 0, 1) := by decide +kernel
theorem dX10_brandOfCask_56 : decode cX10_brandOfCask 56 = .ok (.getfield 37, 3) := by decide +kernel
theorem dX10_brandOfCask_59 : decode cX10_brandOfCask 59 = .ok (.getfield 333, 3) := by decide +kernel
theorem dX10_brandOfCask_62 : decode cX10_brandOfCask 62 = .ok (.iastore, 1) := by decide +kernel
theorem dX10_brandOfCask_63 : decode cX10_brandOfCask 63 = .ok (.aload_n 0, 1) := by decide +kernel
theorem dX10_brandOfCask_64 : decode cX10_brandOfCask 64 = .ok (.getfield 48, 3) := by decide +kernel
theorem dX10_brandOfCask_67 : decode cX10_brandOfCask 67 = .ok (.iconst 4, 1) := by decide +kernel
theorem dX10_brandOfCask_68 : decode cX10_brandOfCask 68 = .ok (.aload_n 0, 1) := by decide +kernel
theorem dX10_brandOfCask_69 : decode cX10_brandOfCask 69 = .ok (.getfield 37, 3) := by decide +kernel
theorem dX10_brandOfCask_72 : decode cX10_brandOfCask 72 = .ok (.getfield 324, 3) := by decide +kernel
theorem dX10_brandOfCask_75 : decode cX10_brandOfCask 75 = .ok (.iastore, 1) := by decide +kernel
theorem dX10_brandOfCask_76 : decode cX10_brandOfCask 76 = .ok (.aload_n 0, 1) := by decide +kernel
theorem dX10_brandOfCask_77 : decode cX10_brandOfCask 77 = .ok (.getfield 19, 3) := by decide +kernel
theorem dX10_brandOfCask_80 : decode cX10_brandOfCask 80 = .ok (.iload_n 1, 1) := by decide +kernel
theorem dX10_brandOfCask_81 : decode cX10_brandOfCask 81 = .ok (.aload_n 0, 1) := by decide +kernel
theorem dX10_brandOfCask_82 : decode cX10_brandOfCask 82 = .ok (.getfield 48, 3) := by decide +kernel
theorem dX10_brandOfCask_85 : decode cX10_brandOfCask 85 = .ok (.invokevirtual 339, 3) := by decide +kernel
theorem dX10_brandOfCask_88 : decode cX10_brandOfCask 88 = .ok (.ireturn, 1) := by decide +kernel
theorem dX10_countBranded_0 : decode cX10_countBranded 0 = .ok (.aload_n 0, 1) := by decide +kernel
theorem dX10_countBranded_1 : decode cX10_countBranded 1 = .ok (.iload_n 1, 1) := by decide +kernel
theorem dX10_countBranded_2 : decode cX10_countBranded 2 = .ok (.invokevirtual 122, 3) := by decide +kernel
theorem dX10_countBranded_5 : decode cX10_countBranded 5 = .ok (.istore 4, 2) := by decide +kernel
theorem dX10_countBranded_7 : decode cX10_countBranded 7 = .ok (.iconst 0, 1) := by decide +kernel
theorem dX10_countBranded_8 : decode cX10_countBranded 8 = .ok (.istore 5, 2) := by decide +kernel
theorem dX10_countBranded_10 : decode cX10_countBranded 10 = .ok (.bipush (-6), 2) := by decide +kernel
theorem dX10_countBranded_12 : decode cX10_countBranded 12 = .ok (.istore 6, 2) := by decide +kernel
theorem dX10_countBranded_14 : decode cX10_countBranded 14 = .ok (.aload_n 0, 1) := by decide +kernel
theorem dX10_countBranded_15 : decode cX10_countBranded 15 = .ok (.getfield 37, 3) := by decide +kernel
theorem dX10_countBranded_18 : decode cX10_countBranded 18 = .ok (.iload_n 1, 1) := by decide +kernel
theorem dX10_countBranded_19 : decode cX10_countBranded 19 = .ok (.invokevirtual 308, 3) := by decide +kernel
theorem dX10_countBranded_22 : decode cX10_countBranded 22 = .ok (.iconst 0, 1) := by decide +kernel
theorem dX10_countBranded_23 : decode cX10_countBranded 23 = .ok (.istore 7, 2) := by decide +kernel
theorem dX10_countBranded_25 : decode cX10_countBranded 25 = .ok (.iload 7, 2) := by decide +kernel
theorem dX10_countBranded_27 : decode cX10_countBranded 27 = .ok (.iload 4, 2) := by decide +kernel
theorem dX10_countBranded_29 : decode cX10_countBranded 29 = .ok (.if_icmp .ge 90, 3) := by decide +kernel
theorem dX10_countBranded_32 : decode cX10_countBranded 32 = .ok (.aload_n 0, 1) := by decide +kernel
theorem dX10_countBranded_33 : decode cX10_countBranded 33 = .ok (.getfield 30, 3) := by decide +kernel
theorem dX10_countBranded_36 : decode cX10_countBranded 36 = .ok (.aload_n 0, 1) := by decide +kernel
theorem dX10_countBranded_37 : decode cX10_countBranded 37 = .ok (.getfield 37, 3) := by decide +kernel
theorem dX10_countBranded_40 : decode cX10_countBranded 40 = .ok (.iload 7, 2) := by decide +kernel
theorem dX10_countBranded_42 : decode cX10_countBranded 42 = .ok (.aload_n 0, 1) := by decide +kernel
theorem dX10_countBranded_43 : decode cX10_countBranded 43 = .ok (.getfield 23, 3) := by decide +kernel
theorem dX10_countBranded_46 : decode cX10_countBranded 46 = .ok (.iconst 1, 1) := by decide +kernel
theorem dX10_countBranded_47 : decode cX10_countBranded 47 = .ok (.iaload, 1) := by decide +kernel
theorem dX10_countBranded_48 : decode cX10_countBranded 48 = .ok (.invokevirtual 311, 3) := by decide +kernel
theorem dX10_countBranded_51 : decode cX10_countBranded 51 = .ok (.aload_n 0, 1) := by decide +kernel
theorem dX10_countBranded_52 : decode cX10_countBranded 52 = .ok (.getfield 37, 3) := by decide +kernel
theorem dX10_countBranded_55 : decode cX10_countBranded 55 = .ok (.getfield 315, 3) := by decide +kernel
theorem dX10_countBranded_58 : decode cX10_countBranded 58 = .ok (.iload_n 3, 1) := by decide +kernel
theorem dX10_countBranded_59 : decode cX10_countBranded 59 = .ok (.if_icmp .le 6, 3) := by decide +kernel
theorem dX10_countBranded_62 : decode cX10_countBranded 62 = .ok (.iload 5, 2) := by decide +kernel
theorem dX10_countBranded_64 : decode cX10_countBranded 64 = .ok (.ireturn, 1) := by decide +kernel
theorem dX10_countBranded_65 : decode cX10_countBranded 65 = .ok (.aload_n 0, 1) := by decide +kernel
theorem dX10_countBranded_66 : decode cX10_countBranded 66 = .ok (.getfield 37, 3) := by decide +kernel
theorem dX10_countBranded_69 : decode cX10_countBranded 69 = .ok (.getfield 343, 3) := by decide +kernel
theorem dX10_countBranded_72 : decode cX10_countBranded 72 = .ok (.ifCond .ne 19, 3) := by decide +kernel
theorem dX10_countBranded_75 : decode cX10_countBranded 75 = .ok (.aload_n 0, 1) := by decide +kernel
theorem dX10_countBranded_76 : decode cX10_countBranded 76 = .ok (.aload_n 0, 1) := by decide +kernel
theorem dX10_countBranded_77 : decode cX10_countBranded 77 = .ok (.getfield 37, 3) := by decide +kernel
theorem dX10_countBranded_80 : decode cX10_countBranded 80 = .ok (.getfield 315, 3) := by decide +kernel
theorem dX10_countBranded_83 : decode cX10_countBranded 83 = .ok (.bipush 24, 2) := by decide +kernel
theorem dX10_countBranded_85 : decode cX10_countBranded 85 = .ok (.idiv, 1) := by decide +kernel
theorem dX10_countBranded_86 : decode cX10_countBranded 86 = .ok (.invokevirtual 129, 3) := by decide +kernel
theorem dX10_countBranded_89 : decode cX10_countBranded 89 = .ok (.istore 6, 2) := by decide +kernel
theorem dX10_countBranded_91 : decode cX10_countBranded 91 = .ok (.iload 6, 2) := by decide +kernel
theorem dX10_countBranded_93 : decode cX10_countBranded 93 = .ok (.bipush (-6), 2) := by decide +kernel
theorem dX10_countBranded_95 : decode cX10_countBranded 95 = .ok (.if_icmp .eq 18, 3) := by decide +kernel
theorem dX10_countBranded_98 : decode cX10_countBranded 98 = .ok (.iload_n 2, 1) := by decide +kernel
theorem dX10_countBranded_99 : decode cX10_countBranded 99 = .ok (.bipush (-6), 2) := by decide +kernel
theorem dX10_countBranded_101 : decode cX10_countBranded 101 = .ok (.if_icmp .eq 9, 3) := by decide +kernel
theorem dX10_countBranded_104 : decode cX10_countBranded 104 = .ok (.iload 6, 2) := by decide +kernel
theorem dX10_countBranded_106 : decode cX10_countBranded 106 = .ok (.iload_n 2, 1) := by decide +kernel
theorem dX10_countBranded_107 : decode cX10_countBranded 107 = .ok (.if_icmp .ne 6, 3) := by decide +kernel
theorem dX10_countBranded_110 : decode cX10_countBranded 110 = .ok (.iinc 5 1, 3) := by decide +kernel
theorem dX10_countBranded_113 : decode cX10_countBranded 113 = .ok (.iinc 7 1, 3) := by decide +kernel
theorem dX10_countBranded_116 : decode cX10_countBranded 116 = .ok (.goto (-91), 3) := by decide +kernel
theorem dX10_countBranded_119 : decode cX10_countBranded 119 = .ok (.iload 5, 2) := by decide +kernel
theorem dX10_countBranded_121 : decode cX10_countBranded 121 = .ok (.ireturn, 1) := by decide +kernel
theorem dX10_brandedAt_0 : decode cX10_brandedAt 0 = .ok (.aload_n 0, 1) := by decide +kernel
theorem dX10_brandedAt_1 : decode cX10_brandedAt 1 = .ok (.iload_n 1, 1) := by decide +kernel
theorem dX10_brandedAt_2 : decode cX10_brandedAt 2 = .ok (.bipush (-6), 2) := by decide +kernel
theorem dX10_brandedAt_4 : decode cX10_brandedAt 4 = .ok (.ldc_w 349, 3) := by decide +kernel
theorem dX10_brandedAt_7 : decode cX10_brandedAt 7 = .ok (.invokevirtual 197, 3) := by decide +kernel
theorem dX10_brandedAt_10 : decode cX10_brandedAt 10 = .ok (.ireturn, 1) := by decide +kernel
theorem dX10_wagesAt_0 : decode cX10_wagesAt 0 = .ok (.aload_n 0, 1) := by decide +kernel
theorem dX10_wagesAt_1 : decode cX10_wagesAt 1 = .ok (.getfield 23, 3) := by decide +kernel
theorem dX10_wagesAt_4 : decode cX10_wagesAt 4 = .ok (.iconst 5, 1) := by decide +kernel
theorem dX10_wagesAt_5 : decode cX10_wagesAt 5 = .ok (.iaload, 1) := by decide +kernel
theorem dX10_wagesAt_6 : decode cX10_wagesAt 6 = .ok (.aload_n 0, 1) := by decide +kernel
theorem dX10_wagesAt_7 : decode cX10_wagesAt 7 = .ok (.iload_n 1, 1) := by decide +kernel
theorem dX10_wagesAt_8 : decode cX10_wagesAt 8 = .ok (.invokevirtual 122, 3) := by decide +kernel
theorem dX10_wagesAt_11 : decode cX10_wagesAt 11 = .ok (.imul, 1) := by decide +kernel
theorem dX10_wagesAt_12 : decode cX10_wagesAt 12 = .ok (.ireturn, 1) := by decide +kernel
theorem dX10_bountyAt_0 : decode cX10_bountyAt 0 = .ok (.aload_n 0, 1) := by decide +kernel
theorem dX10_bountyAt_1 : decode cX10_bountyAt 1 = .ok (.getfield 23, 3) := by decide +kernel
theorem dX10_bountyAt_4 : decode cX10_bountyAt 4 = .ok (.bipush 6, 2) := by decide +kernel
theorem dX10_bountyAt_6 : decode cX10_bountyAt 6 = .ok (.iaload, 1) := by decide +kernel
theorem dX10_bountyAt_7 : decode cX10_bountyAt 7 = .ok (.aload_n 0, 1) := by decide +kernel
theorem dX10_bountyAt_8 : decode cX10_bountyAt 8 = .ok (.iload_n 1, 1) := by decide +kernel
theorem dX10_bountyAt_9 : decode cX10_bountyAt 9 = .ok (.invokevirtual 254, 3) := by decide +kernel
theorem dX10_bountyAt_12 : decode cX10_bountyAt 12 = .ok (.imul, 1) := by decide +kernel
theorem dX10_bountyAt_13 : decode cX10_bountyAt 13 = .ok (.ireturn, 1) := by decide +kernel
theorem dX10_freePrice_0 : decode cX10_freePrice 0 = .ok (.aload_n 0, 1) := by decide +kernel
theorem dX10_freePrice_1 : decode cX10_freePrice 1 = .ok (.getfield 68, 3) := by decide +kernel
theorem dX10_freePrice_4 : decode cX10_freePrice 4 = .ok (.iconst 0, 1) := by decide +kernel
theorem dX10_freePrice_5 : decode cX10_freePrice 5 = .ok (.iload_n 1, 1) := by decide +kernel
theorem dX10_freePrice_6 : decode cX10_freePrice 6 = .ok (.iload_n 2, 1) := by decide +kernel
theorem dX10_freePrice_7 : decode cX10_freePrice 7 = .ok (.bipush 10, 2) := by decide +kernel
theorem dX10_freePrice_9 : decode cX10_freePrice 9 = .ok (.invokevirtual 282, 3) := by decide +kernel
theorem dX10_freePrice_12 : decode cX10_freePrice 12 = .ok (.ireturn, 1) := by decide +kernel
theorem dX10_costOf_0 : decode cX10_costOf 0 = .ok (.aload_n 0, 1) := by decide +kernel
theorem dX10_costOf_1 : decode cX10_costOf 1 = .ok (.getfield 23, 3) := by decide +kernel
theorem dX10_costOf_4 : decode cX10_costOf 4 = .ok (.iconst 4, 1) := by decide +kernel
theorem dX10_costOf_5 : decode cX10_costOf 5 = .ok (.iaload, 1) := by decide +kernel
theorem dX10_costOf_6 : decode cX10_costOf 6 = .ok (.istore 5, 2) := by decide +kernel
theorem dX10_costOf_8 : decode cX10_costOf 8 = .ok (.iload 4, 2) := by decide +kernel
theorem dX10_costOf_10 : decode cX10_costOf 10 = .ok (.istore 6, 2) := by decide +kernel
theorem dX10_costOf_12 : decode cX10_costOf 12 = .ok (.iconst 0, 1) := by decide +kernel
theorem dX10_costOf_13 : decode cX10_costOf 13 = .ok (.istore 7, 2) := by decide +kernel
theorem dX10_costOf_15 : decode cX10_costOf 15 = .ok (.iconst 0, 1) := by decide +kernel
theorem dX10_costOf_16 : decode cX10_costOf 16 = .ok (.istore 8, 2) := by decide +kernel
theorem dX10_costOf_18 : decode cX10_costOf 18 = .ok (.iload 8, 2) := by decide +kernel
theorem dX10_costOf_20 : decode cX10_costOf 20 = .ok (.aload_n 0, 1) := by decide +kernel
theorem dX10_costOf_21 : decode cX10_costOf 21 = .ok (.getfield 30, 3) := by decide +kernel
theorem dX10_costOf_24 : decode cX10_costOf 24 = .ok (.getfield 160, 3) := by decide +kernel
theorem dX10_costOf_27 : decode cX10_costOf 27 = .ok (.if_icmp .ge 137, 3) := by decide +kernel
theorem dX10_costOf_30 : decode cX10_costOf 30 = .ok (.aload_n 0, 1) := by decide +kernel
theorem dX10_costOf_31 : decode cX10_costOf 31 = .ok (.getfield 30, 3) := by decide +kernel
theorem dX10_costOf_34 : decode cX10_costOf 34 = .ok (.getfield 350, 3) := by decide +kernel
theorem dX10_costOf_37 : decode cX10_costOf 37 = .ok (.iload 8, 2) := by decide +kernel
theorem dX10_costOf_39 : decode cX10_costOf 39 = .ok (.iaload, 1) := by decide +kernel
theorem dX10_costOf_40 : decode cX10_costOf 40 = .ok (.istore 9, 2) := by decide +kernel
theorem dX10_costOf_42 : decode cX10_costOf 42 = .ok (.aload_n 0, 1) := by decide +kernel
theorem dX10_costOf_43 : decode cX10_costOf 43 = .ok (.getfield 30, 3) := by decide +kernel
theorem dX10_costOf_46 : decode cX10_costOf 46 = .ok (.getfield 173, 3) := by decide +kernel
theorem dX10_costOf_49 : decode cX10_costOf 49 = .ok (.iload 9, 2) := by decide +kernel
theorem dX10_costOf_51 : decode cX10_costOf 51 = .ok (.iaload, 1) := by decide +kernel
theorem dX10_costOf_52 : decode cX10_costOf 52 = .ok (.iload_n 1, 1) := by decide +kernel
theorem dX10_costOf_53 : decode cX10_costOf 53 = .ok (.if_icmp .ne 105, 3) := by decide +kernel
theorem dX10_costOf_56 : decode cX10_costOf 56 = .ok (.aload_n 0, 1) := by decide +kernel
theorem dX10_costOf_57 : decode cX10_costOf 57 = .ok (.getfield 30, 3) := by decide +kernel
theorem dX10_costOf_60 : decode cX10_costOf 60 = .ok (.getfield 170, 3) := by decide +kernel
theorem dX10_costOf_63 : decode cX10_costOf 63 = .ok (.iload 9, 2) := by decide +kernel
theorem dX10_costOf_65 : decode cX10_costOf 65 = .ok (.iaload, 1) := by decide +kernel
theorem dX10_costOf_66 : decode cX10_costOf 66 = .ok (.iload_n 2, 1) := by decide +kernel
theorem dX10_costOf_67 : decode cX10_costOf 67 = .ok (.if_icmp .ne 91, 3) := by decide +kernel
theorem dX10_costOf_70 : decode cX10_costOf 70 = .ok (.iload 6, 2) := by decide +kernel
theorem dX10_costOf_72 : decode cX10_costOf 72 = .ok (.aload_n 0, 1) := by decide +kernel
theorem dX10_costOf_73 : decode cX10_costOf 73 = .ok (.getfield 30, 3) := by decide +kernel
theorem dX10_costOf_76 : decode cX10_costOf 76 = .ok (.getfield 178, 3) := by decide +kernel
theorem dX10_costOf_79 : decode cX10_costOf 79 = .ok (.iload 9, 2) := by decide +kernel
theorem dX10_costOf_81 : decode cX10_costOf 81 = .ok (.iaload, 1) := by decide +kernel
theorem dX10_costOf_82 : decode cX10_costOf 82 = .ok (.invokestatic 353, 3) := by decide +kernel
theorem dX10_costOf_85 : decode cX10_costOf 85 = .ok (.istore 10, 2) := by decide +kernel
theorem dX10_costOf_87 : decode cX10_costOf 87 = .ok (.iload 6, 2) := by decide +kernel
theorem dX10_costOf_89 : decode cX10_costOf 89 = .ok (.iload 10, 2) := by decide +kernel
theorem dX10_costOf_91 : decode cX10_costOf 91 = .ok (.isub, 1) := by decide +kernel
theorem dX10_costOf_92 : decode cX10_costOf 92 = .ok (.istore 6, 2) := by decide +kernel
theorem dX10_costOf_94 : decode cX10_costOf 94 = .ok (.iload 7, 2) := by decide +kernel
theorem dX10_costOf_96 : decode cX10_costOf 96 = .ok (.iload 10, 2) := by decide +kernel
theorem dX10_costOf_98 : decode cX10_costOf 98 = .ok (.aload_n 0, 1) := by decide +kernel
theorem dX10_costOf_99 : decode cX10_costOf 99 = .ok (.getfield 61, 3) := by decide +kernel
theorem dX10_costOf_102 : decode cX10_costOf 102 = .ok (.getfield 358, 3) := by decide +kernel
theorem dX10_costOf_105 : decode cX10_costOf 105 = .ok (.iload_n 1, 1) := by decide +kernel
theorem dX10_costOf_106 : decode cX10_costOf 106 = .ok (.iaload, 1) := by decide +kernel
theorem dX10_costOf_107 : decode cX10_costOf 107 = .ok (.imul, 1) := by decide +kernel
theorem dX10_costOf_108 : decode cX10_costOf 108 = .ok (.iload 5, 2) := by decide +kernel
theorem dX10_costOf_110 : decode cX10_costOf 110 = .ok (.idiv, 1) := by decide +kernel
theorem dX10_costOf_111 : decode cX10_costOf 111 = .ok (.iadd, 1) := by decide +kernel
theorem dX10_costOf_112 : decode cX10_costOf 112 = .ok (.istore 7, 2) := by decide +kernel
theorem dX10_costOf_114 : decode cX10_costOf 114 = .ok (.aload_n 0, 1) := by decide +kernel
theorem dX10_costOf_115 : decode cX10_costOf 115 = .ok (.getfield 30, 3) := by decide +kernel
theorem dX10_costOf_118 : decode cX10_costOf 118 = .ok (.getfield 178, 3) := by decide +kernel
theorem dX10_costOf_121 : decode cX10_costOf 121 = .ok (.iload 9, 2) := by decide +kernel
theorem dX10_costOf_123 : decode cX10_costOf 123 = .ok (.iaload, 1) := by decide +kernel
theorem dX10_costOf_124 : decode cX10_costOf 124 = .ok (.iload 10, 2) := by decide +kernel
theorem dX10_costOf_126 : decode cX10_costOf 126 = .ok (.isub, 1) := by decide +kernel
theorem dX10_costOf_127 : decode cX10_costOf 127 = .ok (.istore 11, 2) := by decide +kernel
theorem dX10_costOf_129 : decode cX10_costOf 129 = .ok (.iload 7, 2) := by decide +kernel
theorem dX10_costOf_131 : decode cX10_costOf 131 = .ok (.iload 11, 2) := by decide +kernel
theorem dX10_costOf_133 : decode cX10_costOf 133 = .ok (.aload_n 0, 1) := by decide +kernel
theorem dX10_costOf_134 : decode cX10_costOf 134 = .ok (.aload_n 0, 1) := by decide +kernel
theorem dX10_costOf_135 : decode cX10_costOf 135 = .ok (.getfield 30, 3) := by decide +kernel
theorem dX10_costOf_138 : decode cX10_costOf 138 = .ok (.getfield 175, 3) := by decide +kernel
theorem dX10_costOf_141 : decode cX10_costOf 141 = .ok (.iload 9, 2) := by decide +kernel
theorem dX10_costOf_143 : decode cX10_costOf 143 = .ok (.iaload, 1) := by decide +kernel
theorem dX10_costOf_144 : decode cX10_costOf 144 = .ok (.bipush 24, 2) := by decide +kernel
theorem dX10_costOf_146 : decode cX10_costOf 146 = .ok (.idiv, 1) := by decide +kernel
theorem dX10_costOf_147 : decode cX10_costOf 147 = .ok (.iload_n 3, 1) := by decide +kernel
theorem dX10_costOf_148 : decode cX10_costOf 148 = .ok (.invokevirtual 230, 3) := by decide +kernel
theorem dX10_costOf_151 : decode cX10_costOf 151 = .ok (.imul, 1) := by decide +kernel
theorem dX10_costOf_152 : decode cX10_costOf 152 = .ok (.iload 5, 2) := by decide +kernel
theorem dX10_costOf_154 : decode cX10_costOf 154 = .ok (.idiv, 1) := by decide +kernel
theorem dX10_costOf_155 : decode cX10_costOf 155 = .ok (.iadd, 1) := by decide +kernel
theorem dX10_costOf_156 : decode cX10_costOf 156 = .ok (.istore 7, 2) := by decide +kernel
theorem dX10_costOf_158 : decode cX10_costOf 158 = .ok (.iinc 8 1, 3) := by decide +kernel
theorem dX10_costOf_161 : decode cX10_costOf 161 = .ok (.goto (-143), 3) := by decide +kernel
theorem dX10_costOf_164 : decode cX10_costOf 164 = .ok (.iload 7, 2) := by decide +kernel
theorem dX10_costOf_166 : decode cX10_costOf 166 = .ok (.ireturn, 1) := by decide +kernel
theorem dX10_savedBy_0 : decode cX10_savedBy 0 = .ok (.aload_n 0, 1) := by decide +kernel
theorem dX10_savedBy_1 : decode cX10_savedBy 1 = .ok (.iload_n 1, 1) := by decide +kernel
theorem dX10_savedBy_2 : decode cX10_savedBy 2 = .ok (.iload_n 2, 1) := by decide +kernel
theorem dX10_savedBy_3 : decode cX10_savedBy 3 = .ok (.iload_n 3, 1) := by decide +kernel
theorem dX10_savedBy_4 : decode cX10_savedBy 4 = .ok (.iconst 0, 1) := by decide +kernel
theorem dX10_savedBy_5 : decode cX10_savedBy 5 = .ok (.invokevirtual 236, 3) := by decide +kernel
theorem dX10_savedBy_8 : decode cX10_savedBy 8 = .ok (.aload_n 0, 1) := by decide +kernel
theorem dX10_savedBy_9 : decode cX10_savedBy 9 = .ok (.iload_n 1, 1) := by decide +kernel
theorem dX10_savedBy_10 : decode cX10_savedBy 10 = .ok (.iload_n 2, 1) := by decide +kernel
theorem dX10_savedBy_11 : decode cX10_savedBy 11 = .ok (.iload_n 3, 1) := by decide +kernel
theorem dX10_savedBy_12 : decode cX10_savedBy 12 = .ok (.aload_n 0, 1) := by decide +kernel
theorem dX10_savedBy_13 : decode cX10_savedBy 13 = .ok (.getfield 61, 3) := by decide +kernel
theorem dX10_savedBy_16 : decode cX10_savedBy 16 = .ok (.iload_n 1, 1) := by decide +kernel
theorem dX10_savedBy_17 : decode cX10_savedBy 17 = .ok (.iload_n 2, 1) := by decide +kernel
theorem dX10_savedBy_18 : decode cX10_savedBy 18 = .ok (.aload_n 0, 1) := by decide +kernel
theorem dX10_savedBy_19 : decode cX10_savedBy 19 = .ok (.getfield 23, 3) := by decide +kernel
theorem dX10_savedBy_22 : decode cX10_savedBy 22 = .ok (.iconst 4, 1) := by decide +kernel
theorem dX10_savedBy_23 : decode cX10_savedBy 23 = .ok (.iaload, 1) := by decide +kernel
theorem dX10_savedBy_24 : decode cX10_savedBy 24 = .ok (.invokevirtual 233, 3) := by decide +kernel
theorem dX10_savedBy_27 : decode cX10_savedBy 27 = .ok (.invokevirtual 236, 3) := by decide +kernel
theorem dX10_savedBy_30 : decode cX10_savedBy 30 = .ok (.isub, 1) := by decide +kernel
theorem dX10_savedBy_31 : decode cX10_savedBy 31 = .ok (.ireturn, 1) := by decide +kernel
theorem dX10_costsAt_0 : decode cX10_costsAt 0 = .ok (.iconst 0, 1) := by decide +kernel
theorem dX10_costsAt_1 : decode cX10_costsAt 1 = .ok (.istore_n 3, 1) := by decide +kernel
theorem dX10_costsAt_2 : decode cX10_costsAt 2 = .ok (.iconst 0, 1) := by decide +kernel
theorem dX10_costsAt_3 : decode cX10_costsAt 3 = .ok (.istore 4, 2) := by decide +kernel
theorem dX10_costsAt_5 : decode cX10_costsAt 5 = .ok (.iload 4, 2) := by decide +kernel
theorem dX10_costsAt_7 : decode cX10_costsAt 7 = .ok (.bipush 10, 2) := by decide +kernel
theorem dX10_costsAt_9 : decode cX10_costsAt 9 = .ok (.if_icmp .ge 36, 3) := by decide +kernel
theorem dX10_costsAt_12 : decode cX10_costsAt 12 = .ok (.iload_n 3, 1) := by decide +kernel
theorem dX10_costsAt_13 : decode cX10_costsAt 13 = .ok (.aload_n 0, 1) := by decide +kernel
theorem dX10_costsAt_14 : decode cX10_costsAt 14 = .ok (.iload 4, 2) := by decide +kernel
theorem dX10_costsAt_16 : decode cX10_costsAt 16 = .ok (.iload_n 1, 1) := by decide +kernel
theorem dX10_costsAt_17 : decode cX10_costsAt 17 = .ok (.iload_n 2, 1) := by decide +kernel
theorem dX10_costsAt_18 : decode cX10_costsAt 18 = .ok (.aload_n 0, 1) := by decide +kernel
theorem dX10_costsAt_19 : decode cX10_costsAt 19 = .ok (.getfield 61, 3) := by decide +kernel
theorem dX10_costsAt_22 : decode cX10_costsAt 22 = .ok (.iload 4, 2) := by decide +kernel
theorem dX10_costsAt_24 : decode cX10_costsAt 24 = .ok (.iload_n 1, 1) := by decide +kernel
theorem dX10_costsAt_25 : decode cX10_costsAt 25 = .ok (.aload_n 0, 1) := by decide +kernel
theorem dX10_costsAt_26 : decode cX10_costsAt 26 = .ok (.getfield 23, 3) := by decide +kernel
theorem dX10_costsAt_29 : decode cX10_costsAt 29 = .ok (.iconst 4, 1) := by decide +kernel
theorem dX10_costsAt_30 : decode cX10_costsAt 30 = .ok (.iaload, 1) := by decide +kernel
theorem dX10_costsAt_31 : decode cX10_costsAt 31 = .ok (.invokevirtual 233, 3) := by decide +kernel
theorem dX10_costsAt_34 : decode cX10_costsAt 34 = .ok (.invokevirtual 236, 3) := by decide +kernel
theorem dX10_costsAt_37 : decode cX10_costsAt 37 = .ok (.iadd, 1) := by decide +kernel
theorem dX10_costsAt_38 : decode cX10_costsAt 38 = .ok (.istore_n 3, 1) := by decide +kernel
theorem dX10_costsAt_39 : decode cX10_costsAt 39 = .ok (.iinc 4 1, 3) := by decide +kernel
theorem dX10_costsAt_42 : decode cX10_costsAt 42 = .ok (.goto (-37), 3) := by decide +kernel
theorem dX10_costsAt_45 : decode cX10_costsAt 45 = .ok (.iload_n 3, 1) := by decide +kernel
theorem dX10_costsAt_46 : decode cX10_costsAt 46 = .ok (.ireturn, 1) := by decide +kernel
theorem dX11_init_0 : decode cX11_init 0 = .ok (.aload_n 0, 1) := by decide +kernel
theorem dX11_init_1 : decode cX11_init 1 = .ok (.invokespecial 1, 3) := by decide +kernel
theorem dX11_init_4 : decode cX11_init 4 = .ok (.aload_n 0, 1) := by decide +kernel
theorem dX11_init_5 : decode cX11_init 5 = .ok (.bipush 60, 2) := by decide +kernel
theorem dX11_init_7 : decode cX11_init 7 = .ok (.newarray .int, 2) := by decide +kernel
theorem dX11_init_9 : decode cX11_init 9 = .ok (.putfield 7, 3) := by decide +kernel
theorem dX11_init_12 : decode cX11_init 12 = .ok (.aload_n 0, 1) := by decide +kernel
theorem dX11_init_13 : decode cX11_init 13 = .ok (.bipush 8, 2) := by decide +kernel
theorem dX11_init_15 : decode cX11_init 15 = .ok (.newarray .int, 2) := by decide +kernel
theorem dX11_init_17 : decode cX11_init 17 = .ok (.putfield 13, 3) := by decide +kernel
theorem dX11_init_20 : decode cX11_init 20 = .ok (.aload_n 0, 1) := by decide +kernel
theorem dX11_init_21 : decode cX11_init 21 = .ok (.bipush 8, 2) := by decide +kernel
theorem dX11_init_23 : decode cX11_init 23 = .ok (.newarray .int, 2) := by decide +kernel
theorem dX11_init_25 : decode cX11_init 25 = .ok (.putfield 16, 3) := by decide +kernel
theorem dX11_init_28 : decode cX11_init 28 = .ok (.aload_n 0, 1) := by decide +kernel
theorem dX11_init_29 : decode cX11_init 29 = .ok (.sipush 480, 3) := by decide +kernel
theorem dX11_init_32 : decode cX11_init 32 = .ok (.newarray .int, 2) := by decide +kernel
theorem dX11_init_34 : decode cX11_init 34 = .ok (.putfield 19, 3) := by decide +kernel
theorem dX11_init_37 : decode cX11_init 37 = .ok (.aload_n 0, 1) := by decide +kernel
theorem dX11_init_38 : decode cX11_init 38 = .ok (.iconst 4, 1) := by decide +kernel
theorem dX11_init_39 : decode cX11_init 39 = .ok (.newarray .int, 2) := by decide +kernel
theorem dX11_init_41 : decode cX11_init 41 = .ok (.putfield 22, 3) := by decide +kernel
theorem dX11_init_44 : decode cX11_init 44 = .ok (.aload_n 0, 1) := by decide +kernel
theorem dX11_init_45 : decode cX11_init 45 = .ok (.iconst 4, 1) := by decide +kernel
theorem dX11_init_46 : decode cX11_init 46 = .ok (.newarray .int, 2) := by decide +kernel
theorem dX11_init_48 : decode cX11_init 48 = .ok (.putfield 25, 3) := by decide +kernel
theorem dX11_init_51 : decode cX11_init 51 = .ok (.aload_n 0, 1) := by decide +kernel
theorem dX11_init_52 : decode cX11_init 52 = .ok (.bipush 7, 2) := by decide +kernel
theorem dX11_init_54 : decode cX11_init 54 = .ok (.newarray .int, 2) := by decide +kernel
theorem dX11_init_56 : decode cX11_init 56 = .ok (.putfield 28, 3) := by decide +kernel
theorem dX11_init_59 : decode cX11_init 59 = .ok (.aload_n 0, 1) := by decide +kernel
theorem dX11_init_60 : decode cX11_init 60 = .ok (.sipush 210, 3) := by decide +kernel
theorem dX11_init_63 : decode cX11_init 63 = .ok (.newarray .int, 2) := by decide +kernel
theorem dX11_init_65 : decode cX11_init 65 = .ok (.putfield 31, 3) := by decide +kernel
theorem dX11_init_68 : decode cX11_init 68 = .ok (.aload_n 0, 1) := by decide +kernel
theorem dX11_init_69 : decode cX11_init 69 = .ok (.bipush 48, 2) := by decide +kernel
theorem dX11_init_71 : decode cX11_init 71 = .ok (.newarray .int, 2) := by decide +kernel
theorem dX11_init_73 : decode cX11_init 73 = .ok (.putfield 34, 3) := by decide +kernel
theorem dX11_init_76 : decode cX11_init 76 = .ok (.aload_n 0, 1) := by decide +kernel
theorem dX11_init_77 : decode cX11_init 77 = .ok (.bipush 96, 2) := by decide +kernel
theorem dX11_init_79 : decode cX11_init 79 = .ok (.newarray .int, 2) := by decide +kernel
theorem dX11_init_81 : decode cX11_init 81 = .ok (.putfield 37, 3) := by decide +kernel
theorem dX11_init_84 : decode cX11_init 84 = .ok (.aload_n 0, 1) := by decide +kernel
theorem dX11_init_85 : decode cX11_init 85 = .ok (.bipush 10, 2) := by decide +kernel
theorem dX11_init_87 : decode cX11_init 87 = .ok (.newarray .int, 2) := by decide +kernel
theorem dX11_init_89 : decode cX11_init 89 = .ok (.putfield 40, 3) := by decide +kernel
theorem dX11_init_92 : decode cX11_init 92 = .ok (.aload_n 0, 1) := by decide +kernel
theorem dX11_init_93 : decode cX11_init 93 = .ok (.bipush 10, 2) := by decide +kernel
theorem dX11_init_95 : decode cX11_init 95 = .ok (.newarray .int, 2) := by decide +kernel
theorem dX11_init_97 : decode cX11_init 97 = .ok (.putfield 43, 3) := by decide +kernel
theorem dX11_init_100 : decode cX11_init 100 = .ok (.aload_n 0, 1) := by decide +kernel
theorem dX11_init_101 : decode cX11_init 101 = .ok (.bipush 10, 2) := by decide +kernel
theorem dX11_init_103 : decode cX11_init 103 = .ok (.newarray .int, 2) := by decide +kernel
theorem dX11_init_105 : decode cX11_init 105 = .ok (.putfield 46, 3) := by decide +kernel
theorem dX11_init_108 : decode cX11_init 108 = .ok (.aload_n 0, 1) := by decide +kernel
theorem dX11_init_109 : decode cX11_init 109 = .ok (.bipush 60, 2) := by decide +kernel
theorem dX11_init_111 : decode cX11_init 111 = .ok (.newarray .int, 2) := by decide +kernel
theorem dX11_init_113 : decode cX11_init 113 = .ok (.putfield 49, 3) := by decide +kernel
theorem dX11_init_116 : decode cX11_init 116 = .ok (.aload_n 0, 1) := by decide +kernel
theorem dX11_init_117 : decode cX11_init 117 = .ok (.bipush 60, 2) := by decide +kernel
theorem dX11_init_119 : decode cX11_init 119 = .ok (.newarray .int, 2) := by decide +kernel
theorem dX11_init_121 : decode cX11_init 121 = .ok (.putfield 52, 3) := by decide +kernel
theorem dX11_init_124 : decode cX11_init 124 = .ok (.aload_n 0, 1) := by decide +kernel
theorem dX11_init_125 : decode cX11_init 125 = .ok (.bipush 60, 2) := by decide +kernel
theorem dX11_init_127 : decode cX11_init 127 = .ok (.newarray .int, 2) := by decide +kernel
theorem dX11_init_129 : decode cX11_init 129 = .ok (.putfield 55, 3) := by decide +kernel
theorem dX11_init_132 : decode cX11_init 132 = .ok (.aload_n 0, 1) := by decide +kernel
theorem dX11_init_133 : decode cX11_init 133 = .ok (.iconst 4, 1) := by decide +kernel
theorem dX11_init_134 : decode cX11_init 134 = .ok (.newarray .int, 2) := by decide +kernel
theorem dX11_init_136 : decode cX11_init 136 = .ok (.putfield 58, 3) := by decide +kernel
theorem dX11_init_139 : decode cX11_init 139 = .ok (.aload_n 0, 1) := by decide +kernel
theorem dX11_init_140 : decode cX11_init 140 = .ok (.iconst 4, 1) := by decide +kernel
theorem dX11_init_141 : decode cX11_init 141 = .ok (.newarray .int, 2) := by decide +kernel
theorem dX11_init_143 : decode cX11_init 143 = .ok (.putfield 61, 3) := by decide +kernel
theorem dX11_init_146 : decode cX11_init 146 = .ok (.aload_n 0, 1) := by decide +kernel
theorem dX11_init_147 : decode cX11_init 147 = .ok (.bipush 60, 2) := by decide +kernel
theorem dX11_init_149 : decode cX11_init 149 = .ok (.newarray .int, 2) := by decide +kernel
theorem dX11_init_151 : decode cX11_init 151 = .ok (.putfield 64, 3) := by decide +kernel
theorem dX11_init_154 : decode cX11_init 154 = .ok (.aload_n 0, 1) := by decide +kernel
theorem dX11_init_155 : decode cX11_init 155 = .ok (.bipush 60, 2) := by decide +kernel
theorem dX11_init_157 : decode cX11_init 157 = .ok (.newarray .int, 2) := by decide +kernel
theorem dX11_init_159 : decode cX11_init 159 = .ok (.putfield 67, 3) := by decide +kernel
theorem dX11_init_162 : decode cX11_init 162 = .ok (.aload_n 0, 1) := by decide +kernel
theorem dX11_init_163 : decode cX11_init 163 = .ok (.bipush 60, 2) := by decide +kernel
theorem dX11_init_165 : decode cX11_init 165 = .ok (.newarray .int, 2) := by decide +kernel
theorem dX11_init_167 : decode cX11_init 167 = .ok (.putfield 70, 3) := by decide +kernel
theorem dX11_init_170 : decode cX11_init 170 = .ok (.aload_n 0, 1) := by decide +kernel
theorem dX11_init_171 : decode cX11_init 171 = .ok (.bipush 60, 2) := by decide +kernel
theorem dX11_init_173 : decode cX11_init 173 = .ok (.newarray .int, 2) := by decide +kernel
theorem dX11_init_175 : decode cX11_init 175 = .ok (.putfield 73, 3) := by decide +kernel
theorem dX11_init_178 : decode cX11_init 178 = .ok (.aload_n 0, 1) := by decide +kernel
theorem dX11_init_179 : decode cX11_init 179 = .ok (.sipush 2400, 3) := by decide +kernel
theorem dX11_init_182 : decode cX11_init 182 = .ok (.newarray .int, 2) := by decide +kernel
theorem dX11_init_184 : decode cX11_init 184 = .ok (.putfield 76, 3) := by decide +kernel
theorem dX11_init_187 : decode cX11_init 187 = .ok (.aload_n 0, 1) := by decide +kernel
theorem dX11_init_188 : decode cX11_init 188 = .ok (.sipush 2400, 3) := by decide +kernel
theorem dX11_init_191 : decode cX11_init 191 = .ok (.newarray .int, 2) := by decide +kernel
theorem dX11_init_193 : decode cX11_init 193 = .ok (.putfield 79, 3) := by decide +kernel
theorem dX11_init_196 : decode cX11_init 196 = .ok (.aload_n 0, 1) := by decide +kernel
theorem dX11_init_197 : decode cX11_init 197 = .ok (.sipush 2400, 3) := by decide +kernel
theorem dX11_init_200 : decode cX11_init 200 = .ok (.newarray .int, 2) := by decide +kernel
theorem dX11_init_202 : decode cX11_init 202 = .ok (.putfield 82, 3) := by decide +kernel
theorem dX11_init_205 : decode cX11_init 205 = .ok (.aload_n 0, 1) := by decide +kernel
theorem dX11_init_206 : decode cX11_init 206 = .ok (.bipush 30, 2) := by decide +kernel
theorem dX11_init_208 : decode cX11_init 208 = .ok (.newarray .int, 2) := by decide +kernel
theorem dX11_init_210 : decode cX11_init 210 = .ok (.putfield 85, 3) := by decide +kernel
theorem dX11_init_213 : decode cX11_init 213 = .ok (.aload_n 0, 1) := by decide +kernel
theorem dX11_init_214 : decode cX11_init 214 = .ok (.iconst 5, 1) := by decide +kernel
theorem dX11_init_215 : decode cX11_init 215 = .ok (.newarray .int, 2) := by decide +kernel
theorem dX11_init_217 : decode cX11_init 217 = .ok (.putfield 88, 3) := by decide +kernel
theorem dX11_init_220 : decode cX11_init 220 = .ok (.aload_n 0, 1) := by decide +kernel
theorem dX11_init_221 : decode cX11_init 221 = .ok (.sipush 2205, 3) := by decide +kernel
theorem dX11_init_224 : decode cX11_init 224 = .ok (.newarray .int, 2) := by decide +kernel
theorem dX11_init_226 : decode cX11_init 226 = .ok (.putfield 91, 3) := by decide +kernel
theorem dX11_init_229 : decode cX11_init 229 = .ok (.iconst 0, 1) := by decide +kernel
theorem dX11_init_230 : decode cX11_init 230 = .ok (.istore_n 1, 1) := by decide +kernel
theorem dX11_init_231 : decode cX11_init 231 = .ok (.iload_n 1, 1) := by decide +kernel
theorem dX11_init_232 : decode cX11_init 232 = .ok (.iconst 4, 1) := by decide +kernel
theorem dX11_init_233 : decode cX11_init 233 = .ok (.if_icmp .ge 25, 3) := by decide +kernel
theorem dX11_init_236 : decode cX11_init 236 = .ok (.aload_n 0, 1) := by decide +kernel
theorem dX11_init_237 : decode cX11_init 237 = .ok (.getfield 22, 3) := by decide +kernel
theorem dX11_init_240 : decode cX11_init 240 = .ok (.iload_n 1, 1) := by decide +kernel
theorem dX11_init_241 : decode cX11_init 241 = .ok (.iconst 1, 1) := by decide +kernel
theorem dX11_init_242 : decode cX11_init 242 = .ok (.iastore, 1) := by decide +kernel
theorem dX11_init_243 : decode cX11_init 243 = .ok (.aload_n 0, 1) := by decide +kernel
theorem dX11_init_244 : decode cX11_init 244 = .ok (.getfield 25, 3) := by decide +kernel
theorem dX11_init_247 : decode cX11_init 247 = .ok (.iload_n 1, 1) := by decide +kernel
theorem dX11_init_248 : decode cX11_init 248 = .ok (.sipush 500, 3) := by decide +kernel
theorem dX11_init_251 : decode cX11_init 251 = .ok (.iastore, 1) := by decide +kernel
theorem dX11_init_252 : decode cX11_init 252 = .ok (.iinc 1 1, 3) := by decide +kernel
theorem dX11_init_255 : decode cX11_init 255 = .ok (.goto (-24), 3) := by decide +kernel
theorem dX11_init_258 : decode cX11_init 258 = .ok (.iconst 0, 1) := by decide +kernel
theorem dX11_init_259 : decode cX11_init 259 = .ok (.istore_n 1, 1) := by decide +kernel
theorem dX11_init_260 : decode cX11_init 260 = .ok (.iload_n 1, 1) := by decide +kernel
theorem dX11_init_261 : decode cX11_init 261 = .ok (.bipush 10, 2) := by decide +kernel
theorem dX11_init_263 : decode cX11_init 263 = .ok (.if_icmp .ge 16, 3) := by decide +kernel
theorem dX11_init_266 : decode cX11_init 266 = .ok (.aload_n 0, 1) := by decide +kernel
theorem dX11_init_267 : decode cX11_init 267 = .ok (.getfield 40, 3) := by decide +kernel
theorem dX11_init_270 : decode cX11_init 270 = .ok (.iload_n 1, 1) := by decide +kernel
theorem dX11_init_271 : decode cX11_init 271 = .ok (.iconst (-1), 1) := by decide +kernel
theorem dX11_init_272 : decode cX11_init 272 = .ok (.iastore, 1) := by decide +kernel
theorem dX11_init_273 : decode cX11_init 273 = .ok (.iinc 1 1, 3) := by decide +kernel
theorem dX11_init_276 : decode cX11_init 276 = .ok (.goto (-16), 3) := by decide +kernel
theorem dX11_init_279 : decode cX11_init 279 = .ok (.iconst 0, 1) := by decide +kernel
theorem dX11_init_280 : decode cX11_init 280 = .ok (.istore_n 1, 1) := by decide +kernel
theorem dX11_init_281 : decode cX11_init 281 = .ok (.iload_n 1, 1) := by decide +kernel
theorem dX11_init_282 : decode cX11_init 282 = .ok (.bipush 7, 2) := by decide +kernel
theorem dX11_init_284 : decode cX11_init 284 = .ok (.if_icmp .ge 76, 3) := by decide +kernel
theorem dX11_init_287 : decode cX11_init 287 = .ok (.aload_n 0, 1) := by decide +kernel
theorem dX11_init_288 : decode cX11_init 288 = .ok (.getfield 28, 3) := by decide +kernel
theorem dX11_init_291 : decode cX11_init 291 = .ok (.iload_n 1, 1) := by decide +kernel
theorem dX11_init_292 : decode cX11_init 292 = .ok (.iload_n 1, 1) := by decide +kernel
theorem dX11_init_293 : decode cX11_init 293 = .ok (.ifCond .ne 8, 3) := by decide +kernel
theorem dX11_init_296 : decode cX11_init 296 = .ok (.bipush 24, 2) := by decide +kernel
theorem dX11_init_298 : decode cX11_init 298 = .ok (.goto 55, 3) := by decide +kernel
theorem dX11_init_301 : decode cX11_init 301 = .ok (.iload_n 1, 1) := by decide +kernel
theorem dX11_init_302 : decode cX11_init 302 = .ok (.iconst 1, 1) := by decide +kernel
theorem dX11_init_303 : decode cX11_init 303 = .ok (.if_icmp .ne 9, 3) := by decide +kernel
theorem dX11_init_306 : decode cX11_init 306 = .ok (.sipush 800, 3) := by decide +kernel
theorem dX11_init_309 : decode cX11_init 309 = .ok (.goto 44, 3) := by decide +kernel
theorem dX11_init_312 : decode cX11_init 312 = .ok (.iload_n 1, 1) := by decide +kernel
theorem dX11_init_313 : decode cX11_init 313 = .ok (.iconst 2, 1) := by decide +kernel
theorem dX11_init_314 : decode cX11_init 314 = .ok (.if_icmp .ne 8, 3) := by decide +kernel
theorem dX11_init_317 : decode cX11_init 317 = .ok (.bipush 40, 2) := by decide +kernel
theorem dX11_init_319 : decode cX11_init 319 = .ok (.goto 34, 3) := by decide +kernel
theorem dX11_init_322 : decode cX11_init 322 = .ok (.iload_n 1, 1) := by decide +kernel
theorem dX11_init_323 : decode cX11_init 323 = .ok (.iconst 3, 1) := by decide +kernel
theorem dX11_init_324 : decode cX11_init 324 = .ok (.if_icmp .ne 8, 3) := by decide +kernel
theorem dX11_init_327 : decode cX11_init 327 = .ok (.bipush 10, 2) := by decide +kernel
theorem dX11_init_329 : decode cX11_init 329 = .ok (.goto 24, 3) := by decide +kernel
theorem dX11_init_332 : decode cX11_init 332 = .ok (.iload_n 1, 1) := by decide +kernel
theorem dX11_init_333 : decode cX11_init 333 = .ok (.iconst 4, 1) := by decide +kernel
theorem dX11_init_334 : decode cX11_init 334 = .ok (.if_icmp .ne 9, 3) := by decide +kernel
theorem dX11_init_337 : decode cX11_init 337 = .ok (.sipush 1000, 3) := by decide +kernel
theorem dX11_init_340 : decode cX11_init 340 = .ok (.goto 13, 3) := by decide +kernel
theorem dX11_init_343 : decode cX11_init 343 = .ok (.iload_n 1, 1) := by decide +kernel
theorem dX11_init_344 : decode cX11_init 344 = .ok (.iconst 5, 1) := by decide +kernel
theorem dX11_init_345 : decode cX11_init 345 = .ok (.if_icmp .ne 7, 3) := by decide +kernel
theorem dX11_init_348 : decode cX11_init 348 = .ok (.iconst 5, 1) := by decide +kernel
theorem dX11_init_349 : decode cX11_init 349 = .ok (.goto 4, 3) := by decide +kernel
theorem dX11_init_352 : decode cX11_init 352 = .ok (.iconst 4, 1) := by decide +kernel
theorem dX11_init_353 : decode cX11_init 353 = .ok (.iastore, 1) := by decide +kernel
theorem dX11_init_354 : decode cX11_init 354 = .ok (.iinc 1 1, 3) := by decide +kernel
theorem dX11_init_357 : decode cX11_init 357 = .ok (.goto (-76), 3) := by decide +kernel
theorem dX11_init_360 : decode cX11_init 360 = .ok (.return_, 1) := by decide +kernel
theorem dX11_in_0 : decode cX11_in 0 = .ok (.iload_n 0, 1) := by decide +kernel
theorem dX11_in_1 : decode cX11_in 1 = .ok (.iload_n 1, 1) := by decide +kernel
theorem dX11_in_2 : decode cX11_in 2 = .ok (.if_icmp .lt 12, 3) := by decide +kernel
theorem dX11_in_5 : decode cX11_in 5 = .ok (.iload_n 0, 1) := by decide +kernel
theorem dX11_in_6 : decode cX11_in 6 = .ok (.iload_n 2, 1) := by decide +kernel
theorem dX11_in_7 : decode cX11_in 7 = .ok (.if_icmp .gt 7, 3) := by decide +kernel
theorem dX11_in_10 : decode cX11_in 10 = .ok (.iconst 1, 1) := by decide +kernel
theorem dX11_in_11 : decode cX11_in 11 = .ok (.goto 4, 3) := by decide +kernel
theorem dX11_in_14 : decode cX11_in 14 = .ok (.iconst 0, 1) := by decide +kernel
theorem dX11_in_15 : decode cX11_in 15 = .ok (.ireturn, 1) := by decide +kernel
theorem dX11_isDay_0 : decode cX11_isDay 0 = .ok (.iload_n 0, 1) := by decide +kernel
theorem dX11_isDay_1 : decode cX11_isDay 1 = .ok (.iconst 0, 1) := by decide +kernel
theorem dX11_isDay_2 : decode cX11_isDay 2 = .ok (.sipush 400, 3) := by decide +kernel
theorem dX11_isDay_5 : decode cX11_isDay 5 = .ok (.invokestatic 94, 3) := by decide +kernel
theorem dX11_isDay_8 : decode cX11_isDay 8 = .ok (.ireturn, 1) := by decide +kernel
theorem dX11_isHour_0 : decode cX11_isHour 0 = .ok (.iload_n 0, 1) := by decide +kernel
theorem dX11_isHour_1 : decode cX11_isHour 1 = .ok (.iconst 0, 1) := by decide +kernel
theorem dX11_isHour_2 : decode cX11_isHour 2 = .ok (.sipush 2000, 3) := by decide +kernel
theorem dX11_isHour_5 : decode cX11_isHour 5 = .ok (.invokestatic 94, 3) := by decide +kernel
theorem dX11_isHour_8 : decode cX11_isHour 8 = .ok (.ireturn, 1) := by decide +kernel
theorem dX11_isQuay_0 : decode cX11_isQuay 0 = .ok (.iload_n 0, 1) := by decide +kernel
theorem dX11_isQuay_1 : decode cX11_isQuay 1 = .ok (.iconst 0, 1) := by decide +kernel
theorem dX11_isQuay_2 : decode cX11_isQuay 2 = .ok (.iconst 3, 1) := by decide +kernel
theorem dX11_isQuay_3 : decode cX11_isQuay 3 = .ok (.invokestatic 94, 3) := by decide +kernel
theorem dX11_isQuay_6 : decode cX11_isQuay 6 = .ok (.ireturn, 1) := by decide +kernel
theorem dX11_say_0 : decode cX11_say 0 = .ok (.iload_n 1, 1) := by decide +kernel
theorem dX11_say_1 : decode cX11_say 1 = .ok (.bipush 33, 2) := by decide +kernel
theorem dX11_say_3 : decode cX11_say 3 = .ok (.bipush 126, 2) := by decide +kernel
theorem dX11_say_5 : decode cX11_say 5 = .ok (.invokestatic 94, 3) := by decide +kernel
theorem dX11_say_8 : decode cX11_say 8 = .ok (.ifCond .ne 6, 3) := by decide +kernel
theorem dX11_say_11 : decode cX11_say 11 = .ok (.bipush (-2), 2) := by decide +kernel
theorem dX11_say_13 : decode cX11_say 13 = .ok (.ireturn, 1) := by decide +kernel
theorem dX11_say_14 : decode cX11_say 14 = .ok (.aload_n 0, 1) := by decide +kernel
theorem dX11_say_15 : decode cX11_say 15 = .ok (.getfield 98, 3) := by decide +kernel
theorem dX11_say_18 : decode cX11_say 18 = .ok (.bipush 60, 2) := by decide +kernel
theorem dX11_say_20 : decode cX11_say 20 = .ok (.if_icmp .ne 6, 3) := by decide +kernel
theorem dX11_say_23 : decode cX11_say 23 = .ok (.bipush (-4), 2) := by decide +kernel
theorem dX11_say_25 : decode cX11_say 25 = .ok (.ireturn, 1) := by decide +kernel
theorem dX11_say_26 : decode cX11_say 26 = .ok (.aload_n 0, 1) := by decide +kernel
theorem dX11_say_27 : decode cX11_say 27 = .ok (.getfield 7, 3) := by decide +kernel
theorem dX11_say_30 : decode cX11_say 30 = .ok (.aload_n 0, 1) := by decide +kernel
theorem dX11_say_31 : decode cX11_say 31 = .ok (.getfield 98, 3) := by decide +kernel
theorem dX11_say_34 : decode cX11_say 34 = .ok (.iload_n 1, 1) := by decide +kernel
theorem dX11_say_35 : decode cX11_say 35 = .ok (.iastore, 1) := by decide +kernel
theorem dX11_say_36 : decode cX11_say 36 = .ok (.aload_n 0, 1) := by decide +kernel
theorem dX11_say_37 : decode cX11_say 37 = .ok (.dup, 1) := by decide +kernel
theorem dX11_say_38 : decode cX11_say 38 = .ok (.getfield 98, 3) := by decide +kernel
theorem dX11_say_41 : decode cX11_say 41 = .ok (.iconst 1, 1) := by decide +kernel
theorem dX11_say_42 : decode cX11_say 42 = .ok (.iadd, 1) := by decide +kernel
theorem dX11_say_43 : decode cX11_say 43 = .ok (.putfield 98, 3) := by decide +kernel
theorem dX11_say_46 : decode cX11_say 46 = .ok (.aload_n 0, 1) := by decide +kernel
theorem dX11_say_47 : decode cX11_say 47 = .ok (.getfield 98, 3) := by decide +kernel
theorem dX11_say_50 : decode cX11_say 50 = .ok (.ireturn, 1) := by decide +kernel
theorem dX11_wipe_0 : decode cX11_wipe 0 = .ok (.aload_n 0, 1) := by decide +kernel
theorem dX11_wipe_1 : decode cX11_wipe 1 = .ok (.getfield 98, 3) := by decide +kernel
theorem dX11_wipe_4 : decode cX11_wipe 4 = .ok (.istore_n 1, 1) := by decide +kernel
theorem dX11_wipe_5 : decode cX11_wipe 5 = .ok (.aload_n 0, 1) := by decide +kernel
theorem dX11_wipe_6 : decode cX11_wipe 6 = .ok (.iconst 0, 1) := by decide +kernel
theorem dX11_wipe_7 : decode cX11_wipe 7 = .ok (.putfield 98, 3) := by decide +kernel
theorem dX11_wipe_10 : decode cX11_wipe 10 = .ok (.iload_n 1, 1) := by decide +kernel
theorem dX11_wipe_11 : decode cX11_wipe 11 = .ok (.ireturn, 1) := by decide +kernel
theorem dX11_isFact_0 : decode cX11_isFact 0 = .ok (.iload_n 0, 1) := by decide +kernel
theorem dX11_isFact_1 : decode cX11_isFact 1 = .ok (.bipush 104, 2) := by decide +kernel
theorem dX11_isFact_3 : decode cX11_isFact 3 = .ok (.if_icmp .eq 27, 3) := by decide +kernel
theorem dX11_isFact_6 : decode cX11_isFact 6 = .ok (.iload_n 0, 1) := by decide +kernel
theorem dX11_isFact_7 : decode cX11_isFact 7 = .ok (.bipush 116, 2) := by decide +kernel
theorem dX11_isFact_9 : decode cX11_isFact 9 = .ok (.if_icmp .eq 21, 3) := by decide +kernel
theorem dX11_isFact_12 : decode cX11_isFact 12 = .ok (.iload_n 0, 1) := by decide +kernel
theorem dX11_isFact_13 : decode cX11_isFact 13 = .ok (.bipush 115, 2) := by decide +kernel
theorem dX11_isFact_15 : decode cX11_isFact 15 = .ok (.if_icmp .eq 15, 3) := by decide +kernel
theorem dX11_isFact_18 : decode cX11_isFact 18 = .ok (.iload_n 0, 1) := by decide +kernel
theorem dX11_isFact_19 : decode cX11_isFact 19 = .ok (.bipush 122, 2) := by decide +kernel
theorem dX11_isFact_21 : decode cX11_isFact 21 = .ok (.if_icmp .eq 9, 3) := by decide +kernel
theorem dX11_isFact_24 : decode cX11_isFact 24 = .ok (.iload_n 0, 1) := by decide +kernel
theorem dX11_isFact_25 : decode cX11_isFact 25 = .ok (.bipush 113, 2) := by decide +kernel
theorem dX11_isFact_27 : decode cX11_isFact 27 = .ok (.if_icmp .ne 7, 3) := by decide +kernel
theorem dX11_isFact_30 : decode cX11_isFact 30 = .ok (.iconst 1, 1) := by decide +kernel
theorem dX11_isFact_31 : decode cX11_isFact 31 = .ok (.goto 4, 3) := by decide +kernel
theorem dX11_isFact_34 : decode cX11_isFact 34 = .ok (.iconst 0, 1) := by decide +kernel
theorem dX11_isFact_35 : decode cX11_isFact 35 = .ok (.ireturn, 1) := by decide +kernel
theorem dX11_faultOf_0 : decode cX11_faultOf 0 = .ok (.iconst 0, 1) := by decide +kernel
theorem dX11_faultOf_1 : decode cX11_faultOf 1 = .ok (.istore_n 1, 1) := by decide +kernel
theorem dX11_faultOf_2 : decode cX11_faultOf 2 = .ok (.iconst 0, 1) := by decide +kernel
theorem dX11_faultOf_3 : decode cX11_faultOf 3 = .ok (.istore_n 2, 1) := by decide +kernel
theorem dX11_faultOf_4 : decode cX11_faultOf 4 = .ok (.iconst 0, 1) := by decide +kernel
theorem dX11_faultOf_5 : decode cX11_faultOf 5 = .ok (.istore_n 3, 1) := by decide +kernel
theorem dX11_faultOf_6 : decode cX11_faultOf 6 = .ok (.iload_n 3, 1) := by decide +kernel
theorem dX11_faultOf_7 : decode cX11_faultOf 7 = .ok (.aload_n 0, 1) := by decide +kernel
theorem dX11_faultOf_8 : decode cX11_faultOf 8 = .ok (.getfield 98, 3) := by decide +kernel
theorem dX11_faultOf_11 : decode cX11_faultOf 11 = .ok (.if_icmp .ge 242, 3) := by decide +kernel
theorem dX11_faultOf_14 : decode cX11_faultOf 14 = .ok (.aload_n 0, 1) := by decide +kernel
theorem dX11_faultOf_15 : decode cX11_faultOf 15 = .ok (.getfield 7, 3) := by decide +kernel
theorem dX11_faultOf_18 : decode cX11_faultOf 18 = .ok (.iload_n 3, 1) := by decide +kernel
theorem dX11_faultOf_19 : decode cX11_faultOf 19 = .ok (.iaload, 1) := by decide +kernel
theorem dX11_faultOf_20 : decode cX11_faultOf 20 = .ok (.istore 4, 2) := by decide +kernel
theorem dX11_faultOf_22 : decode cX11_faultOf 22 = .ok (.bipush (-6), 2) := by decide +kernel
theorem dX11_faultOf_24 : decode cX11_faultOf 24 = .ok (.istore 5, 2) := by decide +kernel
theorem dX11_faultOf_26 : decode cX11_faultOf 26 = .ok (.iload_n 1, 1) := by decide +kernel
theorem dX11_faultOf_27 : decode cX11_faultOf 27 = .ok (.ifCond .ne 58, 3) := by decide +kernel
theorem dX11_faultOf_30 : decode cX11_faultOf 30 = .ok (.iload 4, 2) := by decide +kernel
theorem dX11_faultOf_32 : decode cX11_faultOf 32 = .ok (.bipush 65, 2) := by decide +kernel
theorem dX11_faultOf_34 : decode cX11_faultOf 34 = .ok (.bipush 70, 2) := by decide +kernel
theorem dX11_faultOf_36 : decode cX11_faultOf 36 = .ok (.invokestatic 94, 3) := by decide +kernel
theorem dX11_faultOf_39 : decode cX11_faultOf 39 = .ok (.ifCond .eq 19, 3) := by decide +kernel
theorem dX11_faultOf_42 : decode cX11_faultOf 42 = .ok (.iload_n 2, 1) := by decide +kernel
theorem dX11_faultOf_43 : decode cX11_faultOf 43 = .ok (.iload 4, 2) := by decide +kernel
theorem dX11_faultOf_45 : decode cX11_faultOf 45 = .ok (.bipush 65, 2) := by decide +kernel
theorem dX11_faultOf_47 : decode cX11_faultOf 47 = .ok (.isub, 1) := by decide +kernel
theorem dX11_faultOf_48 : decode cX11_faultOf 48 = .ok (.ishr, 1) := by decide +kernel
theorem dX11_faultOf_49 : decode cX11_faultOf 49 = .ok (.iconst 1, 1) := by decide +kernel
theorem dX11_faultOf_50 : decode cX11_faultOf 50 = .ok (.iand, 1) := by decide +kernel
theorem dX11_faultOf_51 : decode cX11_faultOf 51 = .ok (.ifCond .ne 7, 3) := by decide +kernel
theorem dX11_faultOf_54 : decode cX11_faultOf 54 = .ok (.iconst 1, 1) := by decide +kernel
theorem dX11_faultOf_55 : decode cX11_faultOf 55 = .ok (.goto 5, 3) := by decide +kernel
theorem dX11_faultOf_58 : decode cX11_faultOf 58 = .ok (.bipush (-6), 2) := by decide +kernel
theorem dX11_faultOf_60 : decode cX11_faultOf 60 = .ok (.istore 5, 2) := by decide +kernel
theorem dX11_faultOf_62 : decode cX11_faultOf 62 = .ok (.iload_n 2, 1) := by decide +kernel
theorem dX11_faultOf_63 : decode cX11_faultOf 63 = .ok (.iload 5, 2) := by decide +kernel
theorem dX11_faultOf_65 : decode cX11_faultOf 65 = .ok (.iconst 1, 1) := by decide +kernel
theorem dX11_faultOf_66 : decode cX11_faultOf 66 = .ok (.if_icmp .ne 13, 3) := by decide +kernel
theorem dX11_faultOf_69 : decode cX11_faultOf 69 = .ok (.iconst 1, 1) := by decide +kernel
theorem dX11_faultOf_70 : decode cX11_faultOf 70 = .ok (.iload 4, 2) := by decide +kernel
theorem dX11_faultOf_72 : decode cX11_faultOf 72 = .ok (.bipush 65, 2) := by decide +kernel
theorem dX11_faultOf_74 : decode cX11_faultOf 74 = .ok (.isub, 1) := by decide +kernel
theorem dX11_faultOf_75 : decode cX11_faultOf 75 = .ok (.ishl, 1) := by decide +kernel
theorem dX11_faultOf_76 : decode cX11_faultOf 76 = .ok (.goto 4, 3) := by decide +kernel
theorem dX11_faultOf_79 : decode cX11_faultOf 79 = .ok (.iconst 0, 1) := by decide +kernel
theorem dX11_faultOf_80 : decode cX11_faultOf 80 = .ok (.ior, 1) := by decide +kernel
theorem dX11_faultOf_81 : decode cX11_faultOf 81 = .ok (.istore_n 2, 1) := by decide +kernel
theorem dX11_faultOf_82 : decode cX11_faultOf 82 = .ok (.goto 155, 3) := by decide +kernel
theorem dX11_faultOf_85 : decode cX11_faultOf 85 = .ok (.iload_n 1, 1) := by decide +kernel
theorem dX11_faultOf_86 : decode cX11_faultOf 86 = .ok (.iconst 1, 1) := by decide +kernel
theorem dX11_faultOf_87 : decode cX11_faultOf 87 = .ok (.if_icmp .ne 21, 3) := by decide +kernel
theorem dX11_faultOf_90 : decode cX11_faultOf 90 = .ok (.iload 4, 2) := by decide +kernel
theorem dX11_faultOf_92 : decode cX11_faultOf 92 = .ok (.bipush 58, 2) := by decide +kernel
theorem dX11_faultOf_94 : decode cX11_faultOf 94 = .ok (.if_icmp .ne 7, 3) := by decide +kernel
theorem dX11_faultOf_97 : decode cX11_faultOf 97 = .ok (.iconst 2, 1) := by decide +kernel
theorem dX11_faultOf_98 : decode cX11_faultOf 98 = .ok (.goto 5, 3) := by decide +kernel
theorem dX11_faultOf_101 : decode cX11_faultOf 101 = .ok (.bipush (-6), 2) := by decide +kernel
theorem dX11_faultOf_103 : decode cX11_faultOf 103 = .ok (.istore 5, 2) := by decide +kernel
theorem dX11_faultOf_105 : decode cX11_faultOf 105 = .ok (.goto 132, 3) := by decide +kernel
theorem dX11_faultOf_108 : decode cX11_faultOf 108 = .ok (.iload_n 1, 1) := by decide +kernel
theorem dX11_faultOf_109 : decode cX11_faultOf 109 = .ok (.iconst 2, 1) := by decide +kernel
theorem dX11_faultOf_110 : decode cX11_faultOf 110 = .ok (.if_icmp .ne 22, 3) := by decide +kernel
theorem dX11_faultOf_113 : decode cX11_faultOf 113 = .ok (.iload 4, 2) := by decide +kernel
theorem dX11_faultOf_115 : decode cX11_faultOf 115 = .ok (.invokestatic 102, 3) := by decide +kernel
theorem dX11_faultOf_118 : decode cX11_faultOf 118 = .ok (.ifCond .eq 7, 3) := by decide +kernel
theorem dX11_faultOf_121 : decode cX11_faultOf 121 = .ok (.iconst 3, 1) := by decide +kernel
theorem dX11_faultOf_122 : decode cX11_faultOf 122 = .ok (.goto 5, 3) := by decide +kernel
theorem dX11_faultOf_125 : decode cX11_faultOf 125 = .ok (.bipush (-6), 2) := by decide +kernel
theorem dX11_faultOf_127 : decode cX11_faultOf 127 = .ok (.istore 5, 2) := by decide +kernel
theorem dX11_faultOf_129 : decode cX11_faultOf 129 = .ok (.goto 108, 3) := by decide +kernel
theorem dX11_faultOf_132 : decode cX11_faultOf 132 = .ok (.iload_n 1, 1) := by decide +kernel
theorem dX11_faultOf_133 : decode cX11_faultOf 133 = .ok (.iconst 3, 1) := by decide +kernel
theorem dX11_faultOf_134 : decode cX11_faultOf 134 = .ok (.if_icmp .ne 35, 3) := by decide +kernel
theorem dX11_faultOf_137 : decode cX11_faultOf 137 = .ok (.iload 4, 2) := by decide +kernel
theorem dX11_faultOf_139 : decode cX11_faultOf 139 = .ok (.bipush 60, 2) := by decide +kernel
theorem dX11_faultOf_141 : decode cX11_faultOf 141 = .ok (.if_icmp .eq 17, 3) := by decide +kernel
theorem dX11_faultOf_144 : decode cX11_faultOf 144 = .ok (.iload 4, 2) := by decide +kernel
theorem dX11_faultOf_146 : decode cX11_faultOf 146 = .ok (.bipush 62, 2) := by decide +kernel
theorem dX11_faultOf_148 : decode cX11_faultOf 148 = .ok (.if_icmp .eq 10, 3) := by decide +kernel
theorem dX11_faultOf_151 : decode cX11_faultOf 151 = .ok (.iload 4, 2) := by decide +kernel
theorem dX11_faultOf_153 : decode cX11_faultOf 153 = .ok (.bipush 61, 2) := by decide +kernel
theorem dX11_faultOf_155 : decode cX11_faultOf 155 = .ok (.if_icmp .ne 7, 3) := by decide +kernel
theorem dX11_faultOf_158 : decode cX11_faultOf 158 = .ok (.iconst 4, 1) := by decide +kernel
theorem dX11_faultOf_159 : decode cX11_faultOf 159 = .ok (.goto 5, 3) := by decide +kernel
theorem dX11_faultOf_162 : decode cX11_faultOf 162 = .ok (.bipush (-6), 2) := by decide +kernel
theorem dX11_faultOf_164 : decode cX11_faultOf 164 = .ok (.istore 5, 2) := by decide +kernel
theorem dX11_faultOf_166 : decode cX11_faultOf 166 = .ok (.goto 71, 3) := by decide +kernel
theorem dX11_faultOf_169 : decode cX11_faultOf 169 = .ok (.iload 4, 2) := by decide +kernel
theorem dX11_faultOf_171 : decode cX11_faultOf 171 = .ok (.bipush 48, 2) := by decide +kernel
theorem dX11_faultOf_173 : decode cX11_faultOf 173 = .ok (.bipush 57, 2) := by decide +kernel
theorem dX11_faultOf_175 : decode cX11_faultOf 175 = .ok (.invokestatic 94, 3) := by decide +kernel
theorem dX11_faultOf_178 : decode cX11_faultOf 178 = .ok (.ifCond .eq 22, 3) := by decide +kernel
theorem dX11_faultOf_181 : decode cX11_faultOf 181 = .ok (.iload_n 1, 1) := by decide +kernel
theorem dX11_faultOf_182 : decode cX11_faultOf 182 = .ok (.bipush 8, 2) := by decide +kernel
theorem dX11_faultOf_184 : decode cX11_faultOf 184 = .ok (.if_icmp .ge 9, 3) := by decide +kernel
theorem dX11_faultOf_187 : decode cX11_faultOf 187 = .ok (.iload_n 1, 1) := by decide +kernel
theorem dX11_faultOf_188 : decode cX11_faultOf 188 = .ok (.iconst 1, 1) := by decide +kernel
theorem dX11_faultOf_189 : decode cX11_faultOf 189 = .ok (.iadd, 1) := by decide +kernel
theorem dX11_faultOf_190 : decode cX11_faultOf 190 = .ok (.goto 5, 3) := by decide +kernel
theorem dX11_faultOf_193 : decode cX11_faultOf 193 = .ok (.bipush (-6), 2) := by decide +kernel
theorem dX11_faultOf_195 : decode cX11_faultOf 195 = .ok (.istore 5, 2) := by decide +kernel
theorem dX11_faultOf_197 : decode cX11_faultOf 197 = .ok (.goto 40, 3) := by decide +kernel
theorem dX11_faultOf_200 : decode cX11_faultOf 200 = .ok (.iload_n 1, 1) := by decide +kernel
theorem dX11_faultOf_201 : decode cX11_faultOf 201 = .ok (.iconst 4, 1) := by decide +kernel
theorem dX11_faultOf_202 : decode cX11_faultOf 202 = .ok (.if_icmp .le 35, 3) := by decide +kernel
theorem dX11_faultOf_205 : decode cX11_faultOf 205 = .ok (.iload 4, 2) := by decide +kernel
theorem dX11_faultOf_207 : decode cX11_faultOf 207 = .ok (.bipush 44, 2) := by decide +kernel
theorem dX11_faultOf_209 : decode cX11_faultOf 209 = .ok (.if_icmp .ne 7, 3) := by decide +kernel
theorem dX11_faultOf_212 : decode cX11_faultOf 212 = .ok (.iconst 2, 1) := by decide +kernel
theorem dX11_faultOf_213 : decode cX11_faultOf 213 = .ok (.goto 22, 3) := by decide +kernel
theorem dX11_faultOf_216 : decode cX11_faultOf 216 = .ok (.iload 4, 2) := by decide +kernel
theorem dX11_faultOf_218 : decode cX11_faultOf 218 = .ok (.bipush 59, 2) := by decide +kernel
theorem dX11_faultOf_220 : decode cX11_faultOf 220 = .ok (.if_icmp .ne 13, 3) := by decide +kernel
theorem dX11_faultOf_223 : decode cX11_faultOf 223 = .ok (.iload_n 2, 1) := by decide +kernel
theorem dX11_faultOf_224 : decode cX11_faultOf 224 = .ok (.bipush 63, 2) := by decide +kernel
theorem dX11_faultOf_226 : decode cX11_faultOf 226 = .ok (.if_icmp .eq 7, 3) := by decide +kernel
theorem dX11_faultOf_229 : decode cX11_faultOf 229 = .ok (.iconst 0, 1) := by decide +kernel
theorem dX11_faultOf_230 : decode cX11_faultOf 230 = .ok (.goto 5, 3) := by decide +kernel
theorem dX11_faultOf_233 : decode cX11_faultOf 233 = .ok (.bipush (-6), 2) := by decide +kernel
theorem dX11_faultOf_235 : decode cX11_faultOf 235 = .ok (.istore 5, 2) := by decide +kernel
theorem dX11_faultOf_237 : decode cX11_faultOf 237 = .ok (.iload 5, 2) := by decide +kernel
theorem dX11_faultOf_239 : decode cX11_faultOf 239 = .ok (.ifCond .ge 5, 3) := by decide +kernel
theorem dX11_faultOf_242 : decode cX11_faultOf 242 = .ok (.iload_n 3, 1) := by decide +kernel
theorem dX11_faultOf_243 : decode cX11_faultOf 243 = .ok (.ireturn, 1) := by decide +kernel
theorem dX11_faultOf_244 : decode cX11_faultOf 244 = .ok (.iload 5, 2) := by decide +kernel
theorem dX11_faultOf_246 : decode cX11_faultOf 246 = .ok (.istore_n 1, 1) := by decide +kernel
theorem dX11_faultOf_247 : decode cX11_faultOf 247 = .ok (.iinc 3 1, 3) := by decide +kernel
theorem dX11_faultOf_250 : decode cX11_faultOf 250 = .ok (.goto (-244), 3) := by decide +kernel
theorem dX11_faultOf_253 : decode cX11_faultOf 253 = .ok (.iload_n 1, 1) := by decide +kernel
theorem dX11_faultOf_254 : decode cX11_faultOf 254 = .ok (.iconst 4, 1) := by decide +kernel
theorem dX11_faultOf_255 : decode cX11_faultOf 255 = .ok (.if_icmp .le 8, 3) := by decide +kernel
theorem dX11_faultOf_258 : decode cX11_faultOf 258 = .ok (.bipush (-6), 2) := by decide +kernel
theorem dX11_faultOf_260 : decode cX11_faultOf 260 = .ok (.goto 7, 3) := by decide +kernel
theorem dX11_faultOf_263 : decode cX11_faultOf 263 = .ok (.aload_n 0, 1) := by decide +kernel
theorem dX11_faultOf_264 : decode cX11_faultOf 264 = .ok (.getfield 98, 3) := by decide +kernel
theorem dX11_faultOf_267 : decode cX11_faultOf 267 = .ok (.ireturn, 1) := by decide +kernel
theorem dX11_fault_0 : decode cX11_fault 0 = .ok (.aload_n 0, 1) := by decide +kernel
theorem dX11_fault_1 : decode cX11_fault 1 = .ok (.invokevirtual 106, 3) := by decide +kernel
theorem dX11_fault_4 : decode cX11_fault 4 = .ok (.ireturn, 1) := by decide +kernel
theorem dX11_act_0 : decode cX11_act 0 = .ok (.iload_n 1, 1) := by decide +kernel
theorem dX11_act_1 : decode cX11_act 1 = .ok (.invokestatic 110, 3) := by decide +kernel
theorem dX11_act_4 : decode cX11_act 4 = .ok (.ifCond .ne 6, 3) := by decide +kernel
theorem dX11_act_7 : decode cX11_act 7 = .ok (.bipush (-2), 2) := by decide +kernel
theorem dX11_act_9 : decode cX11_act 9 = .ok (.ireturn, 1) := by decide +kernel
theorem dX11_act_10 : decode cX11_act 10 = .ok (.aload_n 0, 1) := by decide +kernel
theorem dX11_act_11 : decode cX11_act 11 = .ok (.getfield 113, 3) := by decide +kernel
theorem dX11_act_14 : decode cX11_act 14 = .ok (.bipush 8, 2) := by decide +kernel
theorem dX11_act_16 : decode cX11_act 16 = .ok (.if_icmp .ne 6, 3) := by decide +kernel
theorem dX11_act_19 : decode cX11_act 19 = .ok (.bipush (-4), 2) := by decide +kernel
theorem dX11_act_21 : decode cX11_act 21 = .ok (.ireturn, 1) := by decide +kernel
theorem dX11_act_22 : decode cX11_act 22 = .ok (.aload_n 0, 1) := by decide +kernel
theorem dX11_act_23 : decode cX11_act 23 = .ok (.invokevirtual 106, 3) := by decide +kernel
theorem dX11_act_26 : decode cX11_act 26 = .ok (.ifCond .lt 6, 3) := by decide +kernel
theorem dX11_act_29 : decode cX11_act 29 = .ok (.bipush (-5), 2) := by decide +kernel
theorem dX11_act_31 : decode cX11_act 31 = .ok (.ireturn, 1) := by decide +kernel
theorem dX11_act_32 : decode cX11_act 32 = .ok (.aload_n 0, 1) := by decide +kernel
theorem dX11_act_33 : decode cX11_act 33 = .ok (.getfield 13, 3) := by decide +kernel
theorem dX11_act_36 : decode cX11_act 36 = .ok (.aload_n 0, 1) := by decide +kernel
theorem dX11_act_37 : decode cX11_act 37 = .ok (.getfield 113, 3) := by decide +kernel
theorem dX11_act_40 : decode cX11_act 40 = .ok (.iload_n 1, 1) := by decide +kernel
theorem dX11_act_41 : decode cX11_act 41 = .ok (.iastore, 1) := by decide +kernel
theorem dX11_act_42 : decode cX11_act 42 = .ok (.aload_n 0, 1) := by decide +kernel
theorem dX11_act_43 : decode cX11_act 43 = .ok (.getfield 16, 3) := by decide +kernel
theorem dX11_act_46 : decode cX11_act 46 = .ok (.aload_n 0, 1) := by decide +kernel
theorem dX11_act_47 : decode cX11_act 47 = .ok (.getfield 113, 3) := by decide +kernel
theorem dX11_act_50 : decode cX11_act 50 = .ok (.aload_n 0, 1) := by decide +kernel
theorem dX11_act_51 : decode cX11_act 51 = .ok (.getfield 98, 3) := by decide +kernel
theorem dX11_act_54 : decode cX11_act 54 = .ok (.iastore, 1) := by decide +kernel
theorem dX11_act_55 : decode cX11_act 55 = .ok (.iconst 0, 1) := by decide +kernel
theorem dX11_act_56 : decode cX11_act 56 = .ok (.istore_n 2, 1) := by decide +kernel
theorem dX11_act_57 : decode cX11_act 57 = .ok (.iload_n 2, 1) := by decide +kernel
theorem dX11_act_58 : decode cX11_act 58 = .ok (.aload_n 0, 1) := by decide +kernel
theorem dX11_act_59 : decode cX11_act 59 = .ok (.getfield 98, 3) := by decide +kernel
theorem dX11_act_62 : decode cX11_act 62 = .ok (.if_icmp .ge 29, 3) := by decide +kernel
theorem dX11_act_65 : decode cX11_act 65 = .ok (.aload_n 0, 1) := by decide +kernel
theorem dX11_act_66 : decode cX11_act 66 = .ok (.getfield 19, 3) := by decide +kernel
theorem dX11_act_69 : decode cX11_act 69 = .ok (.bipush 60, 2) := by decide +kernel
theorem dX11_act_71 : decode cX11_act 71 = .ok (.aload_n 0, 1) := by decide +kernel
theorem dX11_act_72 : decode cX11_act 72 = .ok (.getfield 113, 3) := by decide +kernel
theorem dX11_act_75 : decode cX11_act 75 = .ok (.imul, 1) := by decide +kernel
theorem dX11_act_76 : decode cX11_act 76 = .ok (.iload_n 2, 1) := by decide +kernel
theorem dX11_act_77 : decode cX11_act 77 = .ok (.iadd, 1) := by decide +kernel
theorem dX11_act_78 : decode cX11_act 78 = .ok (.aload_n 0, 1) := by decide +kernel
theorem dX11_act_79 : decode cX11_act 79 = .ok (.getfield 7, 3) := by decide +kernel
theorem dX11_act_82 : decode cX11_act 82 = .ok (.iload_n 2, 1) := by decide +kernel
theorem dX11_act_83 : decode cX11_act 83 = .ok (.iaload, 1) := by decide +kernel
theorem dX11_act_84 : decode cX11_act 84 = .ok (.iastore, 1) := by decide +kernel
theorem dX11_act_85 : decode cX11_act 85 = .ok (.iinc 2 1, 3) := by decide +kernel
theorem dX11_act_88 : decode cX11_act 88 = .ok (.goto (-31), 3) := by decide +kernel
theorem dX11_act_91 : decode cX11_act 91 = .ok (.aload_n 0, 1) := by decide +kernel
theorem dX11_act_92 : decode cX11_act 92 = .ok (.dup, 1) := by decide +kernel
theorem dX11_act_93 : decode cX11_act 93 = .ok (.getfield 113, 3) := by decide +kernel
theorem dX11_act_96 : decode cX11_act 96 = .ok (.iconst 1, 1) := by decide +kernel
theorem dX11_act_97 : decode cX11_act 97 = .ok (.iadd, 1) := by decide +kernel
theorem dX11_act_98 : decode cX11_act 98 = .ok (.putfield 113, 3) := by decide +kernel
theorem dX11_act_101 : decode cX11_act 101 = .ok (.aload_n 0, 1) := by decide +kernel
theorem dX11_act_102 : decode cX11_act 102 = .ok (.iconst 0, 1) := by decide +kernel
theorem dX11_act_103 : decode cX11_act 103 = .ok (.putfield 98, 3) := by decide +kernel
theorem dX11_act_106 : decode cX11_act 106 = .ok (.aload_n 0, 1) := by decide +kernel
theorem dX11_act_107 : decode cX11_act 107 = .ok (.getfield 113, 3) := by decide +kernel
theorem dX11_act_110 : decode cX11_act 110 = .ok (.ireturn, 1) := by decide +kernel
theorem dX11_actOn_0 : decode cX11_actOn 0 = .ok (.bipush (-6), 2) := by decide +kernel
theorem dX11_actOn_2 : decode cX11_actOn 2 = .ok (.istore_n 2, 1) := by decide +kernel
theorem dX11_actOn_3 : decode cX11_actOn 3 = .ok (.iconst 0, 1) := by decide +kernel
theorem dX11_actOn_4 : decode cX11_actOn 4 = .ok (.istore_n 3, 1) := by decide +kernel
theorem dX11_actOn_5 : decode cX11_actOn 5 = .ok (.iload_n 3, 1) := by decide +kernel
theorem dX11_actOn_6 : decode cX11_actOn 6 = .ok (.aload_n 0, 1) := by decide +kernel
theorem dX11_actOn_7 : decode cX11_actOn 7 = .ok (.getfield 113, 3) := by decide +kernel
theorem dX11_actOn_10 : decode cX11_actOn 10 = .ok (.if_icmp .ge 44, 3) := by decide +kernel
theorem dX11_actOn_13 : decode cX11_actOn 13 = .ok (.aload_n 0, 1) := by decide +kernel
theorem dX11_actOn_14 : decode cX11_actOn 14 = .ok (.getfield 13, 3) := by decide +kernel
theorem dX11_actOn_17 : decode cX11_actOn 17 = .ok (.iload_n 3, 1) := by decide +kernel
theorem dX11_actOn_18 : decode cX11_actOn 18 = .ok (.iaload, 1) := by decide +kernel
theorem dX11_actOn_19 : decode cX11_actOn 19 = .ok (.iload_n 1, 1) := by decide +kernel
theorem dX11_actOn_20 : decode cX11_actOn 20 = .ok (.if_icmp .gt 26, 3) := by decide +kernel
theorem dX11_actOn_23 : decode cX11_actOn 23 = .ok (.iload_n 2, 1) := by decide +kernel
theorem dX11_actOn_24 : decode cX11_actOn 24 = .ok (.ifCond .lt 18, 3) := by decide +kernel
theorem dX11_actOn_27 : decode cX11_actOn 27 = .ok (.aload_n 0, 1) := by decide +kernel
theorem dX11_actOn_28 : decode cX11_actOn 28 = .ok (.getfield 13, 3) := by decide +kernel
theorem dX11_actOn_31 : decode cX11_actOn 31 = .ok (.iload_n 3, 1) := by decide +kernel
theorem dX11_actOn_32 : decode cX11_actOn 32 = .ok (.iaload, 1) := by decide +kernel
theorem dX11_actOn_33 : decode cX11_actOn 33 = .ok (.aload_n 0, 1) := by decide +kernel
theorem dX11_actOn_34 : decode cX11_actOn 34 = .ok (.getfield 13, 3) := by decide +kernel
theorem dX11_actOn_37 : decode cX11_actOn 37 = .ok (.iload_n 2, 1) := by decide +kernel
theorem dX11_actOn_38 : decode cX11_actOn 38 = .ok (.iaload, 1) := by decide +kernel
theorem dX11_actOn_39 : decode cX11_actOn 39 = .ok (.if_icmp .lt 7, 3) := by decide +kernel
theorem dX11_actOn_42 : decode cX11_actOn 42 = .ok (.iload_n 3, 1) := by decide +kernel
theorem dX11_actOn_43 : decode cX11_actOn 43 = .ok (.goto 4, 3) := by decide +kernel
theorem dX11_actOn_46 : decode cX11_actOn 46 = .ok (.iload_n 2, 1) := by decide +kernel
theorem dX11_actOn_47 : decode cX11_actOn 47 = .ok (.istore_n 2, 1) := by decide +kernel
theorem dX11_actOn_48 : decode cX11_actOn 48 = .ok (.iinc 3 1, 3) := by decide +kernel
theorem dX11_actOn_51 : decode cX11_actOn 51 = .ok (.goto (-46), 3) := by decide +kernel
theorem dX11_actOn_54 : decode cX11_actOn 54 = .ok (.iload_n 2, 1) := by decide +kernel
theorem dX11_actOn_55 : decode cX11_actOn 55 = .ok (.ireturn, 1) := by decide +kernel
theorem dX11_grade_0 : decode cX11_grade 0 = .ok (.iload_n 1, 1) := by decide +kernel
theorem dX11_grade_1 : decode cX11_grade 1 = .ok (.invokestatic 110, 3) := by decide +kernel
theorem dX11_grade_4 : decode cX11_grade 4 = .ok (.ifCond .ne 6, 3) := by decide +kernel
theorem dX11_grade_7 : decode cX11_grade 7 = .ok (.bipush (-2), 2) := by decide +kernel
theorem dX11_grade_9 : decode cX11_grade 9 = .ok (.ireturn, 1) := by decide +kernel
theorem dX11_grade_10 : decode cX11_grade 10 = .ok (.aload_n 0, 1) := by decide +kernel
theorem dX11_grade_11 : decode cX11_grade 11 = .ok (.iload_n 1, 1) := by decide +kernel
theorem dX11_grade_12 : decode cX11_grade 12 = .ok (.invokevirtual 116, 3) := by decide +kernel
theorem dX11_grade_15 : decode cX11_grade 15 = .ok (.istore_n 3, 1) := by decide +kernel
theorem dX11_grade_16 : decode cX11_grade 16 = .ok (.iconst 0, 1) := by decide +kernel
theorem dX11_grade_17 : decode cX11_grade 17 = .ok (.istore 4, 2) := by decide +kernel
theorem dX11_grade_19 : decode cX11_grade 19 = .ok (.iconst 0, 1) := by decide +kernel
theorem dX11_grade_20 : decode cX11_grade 20 = .ok (.istore 5, 2) := by decide +kernel
theorem dX11_grade_22 : decode cX11_grade 22 = .ok (.iload_n 3, 1) := by decide +kernel
theorem dX11_grade_23 : decode cX11_grade 23 = .ok (.ifCond .lt 61, 3) := by decide +kernel
theorem dX11_grade_26 : decode cX11_grade 26 = .ok (.iload 5, 2) := by decide +kernel
theorem dX11_grade_28 : decode cX11_grade 28 = .ok (.aload_n 0, 1) := by decide +kernel
theorem dX11_grade_29 : decode cX11_grade 29 = .ok (.getfield 16, 3) := by decide +kernel
theorem dX11_grade_32 : decode cX11_grade 32 = .ok (.iload_n 3, 1) := by decide +kernel
theorem dX11_grade_33 : decode cX11_grade 33 = .ok (.iaload, 1) := by decide +kernel
theorem dX11_grade_34 : decode cX11_grade 34 = .ok (.if_icmp .ge 50, 3) := by decide +kernel
theorem dX11_grade_37 : decode cX11_grade 37 = .ok (.aload_n 0, 1) := by decide +kernel
theorem dX11_grade_38 : decode cX11_grade 38 = .ok (.getfield 19, 3) := by decide +kernel
theorem dX11_grade_41 : decode cX11_grade 41 = .ok (.bipush 60, 2) := by decide +kernel
theorem dX11_grade_43 : decode cX11_grade 43 = .ok (.iload_n 3, 1) := by decide +kernel
theorem dX11_grade_44 : decode cX11_grade 44 = .ok (.imul, 1) := by decide +kernel
theorem dX11_grade_45 : decode cX11_grade 45 = .ok (.iload 5, 2) := by decide +kernel
theorem dX11_grade_47 : decode cX11_grade 47 = .ok (.iadd, 1) := by decide +kernel
theorem dX11_grade_48 : decode cX11_grade 48 = .ok (.iaload, 1) := by decide +kernel
theorem dX11_grade_49 : decode cX11_grade 49 = .ok (.istore 6, 2) := by decide +kernel
theorem dX11_grade_51 : decode cX11_grade 51 = .ok (.iload 6, 2) := by decide +kernel
theorem dX11_grade_53 : decode cX11_grade 53 = .ok (.bipush 65, 2) := by decide +kernel
theorem dX11_grade_55 : decode cX11_grade 55 = .ok (.bipush 70, 2) := by decide +kernel
theorem dX11_grade_57 : decode cX11_grade 57 = .ok (.invokestatic 94, 3) := by decide +kernel
theorem dX11_grade_60 : decode cX11_grade 60 = .ok (.ifCond .eq 18, 3) := by decide +kernel
theorem dX11_grade_63 : decode cX11_grade 63 = .ok (.iload 4, 2) := by decide +kernel
theorem dX11_grade_65 : decode cX11_grade 65 = .ok (.iload_n 2, 1) := by decide +kernel
theorem dX11_grade_66 : decode cX11_grade 66 = .ok (.if_icmp .ne 9, 3) := by decide +kernel
theorem dX11_grade_69 : decode cX11_grade 69 = .ok (.iload 6, 2) := by decide +kernel
theorem dX11_grade_71 : decode cX11_grade 71 = .ok (.bipush 65, 2) := by decide +kernel
theorem dX11_grade_73 : decode cX11_grade 73 = .ok (.isub, 1) := by decide +kernel
theorem dX11_grade_74 : decode cX11_grade 74 = .ok (.ireturn, 1) := by decide +kernel
theorem dX11_grade_75 : decode cX11_grade 75 = .ok (.iinc 4 1, 3) := by decide +kernel
theorem dX11_grade_78 : decode cX11_grade 78 = .ok (.iinc 5 1, 3) := by decide +kernel
theorem dX11_grade_81 : decode cX11_grade 81 = .ok (.goto (-59), 3) := by decide +kernel
theorem dX11_grade_84 : decode cX11_grade 84 = .ok (.iload_n 2, 1) := by decide +kernel
theorem dX11_grade_85 : decode cX11_grade 85 = .ok (.iconst (-1), 1) := by decide +kernel
theorem dX11_grade_86 : decode cX11_grade 86 = .ok (.if_icmp .ne 8, 3) := by decide +kernel
theorem dX11_grade_89 : decode cX11_grade 89 = .ok (.iload 4, 2) := by decide +kernel
theorem dX11_grade_91 : decode cX11_grade 91 = .ok (.goto 5, 3) := by decide +kernel
theorem dX11_grade_94 : decode cX11_grade 94 = .ok (.bipush (-6), 2) := by decide +kernel
theorem dX11_grade_96 : decode cX11_grade 96 = .ok (.ireturn, 1) := by decide +kernel
theorem dX11_factOf_0 : decode cX11_factOf 0 = .ok (.iload_n 2, 1) := by decide +kernel
theorem dX11_factOf_1 : decode cX11_factOf 1 = .ok (.bipush 104, 2) := by decide +kernel
theorem dX11_factOf_3 : decode cX11_factOf 3 = .ok (.if_icmp .ne 10, 3) := by decide +kernel
theorem dX11_factOf_6 : decode cX11_factOf 6 = .ok (.aload_n 0, 1) := by decide +kernel
theorem dX11_factOf_7 : decode cX11_factOf 7 = .ok (.getfield 120, 3) := by decide +kernel
theorem dX11_factOf_10 : decode cX11_factOf 10 = .ok (.goto 54, 3) := by decide +kernel
theorem dX11_factOf_13 : decode cX11_factOf 13 = .ok (.iload_n 2, 1) := by decide +kernel
theorem dX11_factOf_14 : decode cX11_factOf 14 = .ok (.bipush 116, 2) := by decide +kernel
theorem dX11_factOf_16 : decode cX11_factOf 16 = .ok (.if_icmp .ne 19, 3) := by decide +kernel
theorem dX11_factOf_19 : decode cX11_factOf 19 = .ok (.aload_n 0, 1) := by decide +kernel
theorem dX11_factOf_20 : decode cX11_factOf 20 = .ok (.getfield 28, 3) := by decide +kernel
theorem dX11_factOf_23 : decode cX11_factOf 23 = .ok (.iconst 1, 1) := by decide +kernel
theorem dX11_factOf_24 : decode cX11_factOf 24 = .ok (.iaload, 1) := by decide +kernel
theorem dX11_factOf_25 : decode cX11_factOf 25 = .ok (.aload_n 0, 1) := by decide +kernel
theorem dX11_factOf_26 : decode cX11_factOf 26 = .ok (.getfield 28, 3) := by decide +kernel
theorem dX11_factOf_29 : decode cX11_factOf 29 = .ok (.iconst 2, 1) := by decide +kernel
theorem dX11_factOf_30 : decode cX11_factOf 30 = .ok (.iaload, 1) := by decide +kernel
theorem dX11_factOf_31 : decode cX11_factOf 31 = .ok (.idiv, 1) := by decide +kernel
theorem dX11_factOf_32 : decode cX11_factOf 32 = .ok (.goto 32, 3) := by decide +kernel
theorem dX11_factOf_35 : decode cX11_factOf 35 = .ok (.iload_n 2, 1) := by decide +kernel
theorem dX11_factOf_36 : decode cX11_factOf 36 = .ok (.bipush 115, 2) := by decide +kernel
theorem dX11_factOf_38 : decode cX11_factOf 38 = .ok (.if_icmp .ne 12, 3) := by decide +kernel
theorem dX11_factOf_41 : decode cX11_factOf 41 = .ok (.aload_n 0, 1) := by decide +kernel
theorem dX11_factOf_42 : decode cX11_factOf 42 = .ok (.iload_n 1, 1) := by decide +kernel
theorem dX11_factOf_43 : decode cX11_factOf 43 = .ok (.iconst 3, 1) := by decide +kernel
theorem dX11_factOf_44 : decode cX11_factOf 44 = .ok (.invokevirtual 123, 3) := by decide +kernel
theorem dX11_factOf_47 : decode cX11_factOf 47 = .ok (.goto 17, 3) := by decide +kernel
theorem dX11_factOf_50 : decode cX11_factOf 50 = .ok (.iload_n 2, 1) := by decide +kernel
theorem dX11_factOf_51 : decode cX11_factOf 51 = .ok (.bipush 122, 2) := by decide +kernel
theorem dX11_factOf_53 : decode cX11_factOf 53 = .ok (.if_icmp .ne 10, 3) := by decide +kernel
theorem dX11_factOf_56 : decode cX11_factOf 56 = .ok (.aload_n 0, 1) := by decide +kernel
theorem dX11_factOf_57 : decode cX11_factOf 57 = .ok (.getfield 127, 3) := by decide +kernel
theorem dX11_factOf_60 : decode cX11_factOf 60 = .ok (.goto 4, 3) := by decide +kernel
theorem dX11_factOf_63 : decode cX11_factOf 63 = .ok (.iload_n 1, 1) := by decide +kernel
theorem dX11_factOf_64 : decode cX11_factOf 64 = .ok (.ireturn, 1) := by decide +kernel
theorem dX11_brandOf_0 : decode cX11_brandOf 0 = .ok (.aload_n 0, 1) := by decide +kernel
theorem dX11_brandOf_1 : decode cX11_brandOf 1 = .ok (.iload_n 2, 1) := by decide +kernel
theorem dX11_brandOf_2 : decode cX11_brandOf 2 = .ok (.invokevirtual 116, 3) := by decide +kernel
theorem dX11_brandOf_5 : decode cX11_brandOf 5 = .ok (.istore_n 3, 1) := by decide +kernel
theorem dX11_brandOf_6 : decode cX11_brandOf 6 = .ok (.bipush (-6), 2) := by decide +kernel
theorem dX11_brandOf_8 : decode cX11_brandOf 8 = .ok (.istore 4, 2) := by decide +kernel
theorem dX11_brandOf_10 : decode cX11_brandOf 10 = .ok (.iconst 0, 1) := by decide +kernel
theorem dX11_brandOf_11 : decode cX11_brandOf 11 = .ok (.istore 5, 2) := by decide +kernel
end
section
/-! decode rows, by program out of what TURN prints -/
theorem dX11_brandOf_13 : decode cX11_brandOf 13 = .ok (.iconst 0, 1) := by decide +kernel
theorem dX11_brandOf_14 : decode cX11_brandOf 14 = .ok (.istore 6, 2) := by decide +kernel
theorem dX11_brandOf_16 : decode cX11_brandOf 16 = .ok (.iload_n 3, 1) := by decide +kernel
theorem dX11_brandOf_17 : decode cX11_brandOf 17 = .ok (.ifCond .lt 227, 3) := by decide +kernel
theorem dX11_brandOf_20 : decode cX11_brandOf 20 = .ok (.iload 6, 2) := by decide +kernel
theorem dX11_brandOf_22 : decode cX11_brandOf 22 = .ok (.aload_n 0, 1) := by decide +kernel
theorem dX11_brandOf_23 : decode cX11_brandOf 23 = .ok (.getfield 16, 3) := by decide +kernel
theorem dX11_brandOf_26 : decode cX11_brandOf 26 = .ok (.iload_n 3, 1) := by decide +kernel
theorem dX11_brandOf_27 : decode cX11_brandOf 27 = .ok (.iaload, 1) := by decide +kernel
theorem dX11_brandOf_28 : decode cX11_brandOf 28 = .ok (.if_icmp .ge 216, 3) := by decide +kernel
theorem dX11_brandOf_31 : decode cX11_brandOf 31 = .ok (.aload_n 0, 1) := by decide +kernel
theorem dX11_brandOf_32 : decode cX11_brandOf 32 = .ok (.getfield 19, 3) := by decide +kernel
theorem dX11_brandOf_35 : decode cX11_brandOf 35 = .ok (.bipush 60, 2) := by decide +kernel
theorem dX11_brandOf_37 : decode cX11_brandOf 37 = .ok (.iload_n 3, 1) := by decide +kernel
theorem dX11_brandOf_38 : decode cX11_brandOf 38 = .ok (.imul, 1) := by decide +kernel
theorem dX11_brandOf_39 : decode cX11_brandOf 39 = .ok (.iload 6, 2) := by decide +kernel
theorem dX11_brandOf_41 : decode cX11_brandOf 41 = .ok (.iadd, 1) := by decide +kernel
theorem dX11_brandOf_42 : decode cX11_brandOf 42 = .ok (.iaload, 1) := by decide +kernel
theorem dX11_brandOf_43 : decode cX11_brandOf 43 = .ok (.istore 7, 2) := by decide +kernel
theorem dX11_brandOf_45 : decode cX11_brandOf 45 = .ok (.iload 7, 2) := by decide +kernel
theorem dX11_brandOf_47 : decode cX11_brandOf 47 = .ok (.bipush 65, 2) := by decide +kernel
theorem dX11_brandOf_49 : decode cX11_brandOf 49 = .ok (.bipush 70, 2) := by decide +kernel
theorem dX11_brandOf_51 : decode cX11_brandOf 51 = .ok (.invokestatic 94, 3) := by decide +kernel
theorem dX11_brandOf_54 : decode cX11_brandOf 54 = .ok (.ifCond .eq 27, 3) := by decide +kernel
theorem dX11_brandOf_57 : decode cX11_brandOf 57 = .ok (.iload 5, 2) := by decide +kernel
theorem dX11_brandOf_59 : decode cX11_brandOf 59 = .ok (.ifCond .eq 6, 3) := by decide +kernel
theorem dX11_brandOf_62 : decode cX11_brandOf 62 = .ok (.iload 4, 2) := by decide +kernel
theorem dX11_brandOf_64 : decode cX11_brandOf 64 = .ok (.ireturn, 1) := by decide +kernel
theorem dX11_brandOf_65 : decode cX11_brandOf 65 = .ok (.iload 7, 2) := by decide +kernel
theorem dX11_brandOf_67 : decode cX11_brandOf 67 = .ok (.bipush 65, 2) := by decide +kernel
theorem dX11_brandOf_69 : decode cX11_brandOf 69 = .ok (.isub, 1) := by decide +kernel
theorem dX11_brandOf_70 : decode cX11_brandOf 70 = .ok (.istore 4, 2) := by decide +kernel
theorem dX11_brandOf_72 : decode cX11_brandOf 72 = .ok (.iconst 1, 1) := by decide +kernel
theorem dX11_brandOf_73 : decode cX11_brandOf 73 = .ok (.istore 5, 2) := by decide +kernel
theorem dX11_brandOf_75 : decode cX11_brandOf 75 = .ok (.iinc 6 2, 3) := by decide +kernel
theorem dX11_brandOf_78 : decode cX11_brandOf 78 = .ok (.goto 163, 3) := by decide +kernel
theorem dX11_brandOf_81 : decode cX11_brandOf 81 = .ok (.iload 7, 2) := by decide +kernel
theorem dX11_brandOf_83 : decode cX11_brandOf 83 = .ok (.invokestatic 102, 3) := by decide +kernel
theorem dX11_brandOf_86 : decode cX11_brandOf 86 = .ok (.ifCond .eq 152, 3) := by decide +kernel
theorem dX11_brandOf_89 : decode cX11_brandOf 89 = .ok (.aload_n 0, 1) := by decide +kernel
theorem dX11_brandOf_90 : decode cX11_brandOf 90 = .ok (.getfield 19, 3) := by decide +kernel
theorem dX11_brandOf_93 : decode cX11_brandOf 93 = .ok (.bipush 60, 2) := by decide +kernel
theorem dX11_brandOf_95 : decode cX11_brandOf 95 = .ok (.iload_n 3, 1) := by decide +kernel
theorem dX11_brandOf_96 : decode cX11_brandOf 96 = .ok (.imul, 1) := by decide +kernel
theorem dX11_brandOf_97 : decode cX11_brandOf 97 = .ok (.iload 6, 2) := by decide +kernel
theorem dX11_brandOf_99 : decode cX11_brandOf 99 = .ok (.iadd, 1) := by decide +kernel
theorem dX11_brandOf_100 : decode cX11_brandOf 100 = .ok (.iconst 1, 1) := by decide +kernel
theorem dX11_brandOf_101 : decode cX11_brandOf 101 = .ok (.iadd, 1) := by decide +kernel
theorem dX11_brandOf_102 : decode cX11_brandOf 102 = .ok (.iaload, 1) := by decide +kernel
theorem dX11_brandOf_103 : decode cX11_brandOf 103 = .ok (.istore 8, 2) := by decide +kernel
theorem dX11_brandOf_105 : decode cX11_brandOf 105 = .ok (.iconst 0, 1) := by decide +kernel
theorem dX11_brandOf_106 : decode cX11_brandOf 106 = .ok (.istore 9, 2) := by decide +kernel
theorem dX11_brandOf_108 : decode cX11_brandOf 108 = .ok (.iinc 6 2, 3) := by decide +kernel
theorem dX11_brandOf_111 : decode cX11_brandOf 111 = .ok (.iload 6, 2) := by decide +kernel
theorem dX11_brandOf_113 : decode cX11_brandOf 113 = .ok (.aload_n 0, 1) := by decide +kernel
theorem dX11_brandOf_114 : decode cX11_brandOf 114 = .ok (.getfield 16, 3) := by decide +kernel
theorem dX11_brandOf_117 : decode cX11_brandOf 117 = .ok (.iload_n 3, 1) := by decide +kernel
theorem dX11_brandOf_118 : decode cX11_brandOf 118 = .ok (.iaload, 1) := by decide +kernel
theorem dX11_brandOf_119 : decode cX11_brandOf 119 = .ok (.if_icmp .ge 54, 3) := by decide +kernel
theorem dX11_brandOf_122 : decode cX11_brandOf 122 = .ok (.aload_n 0, 1) := by decide +kernel
theorem dX11_brandOf_123 : decode cX11_brandOf 123 = .ok (.getfield 19, 3) := by decide +kernel
theorem dX11_brandOf_126 : decode cX11_brandOf 126 = .ok (.bipush 60, 2) := by decide +kernel
theorem dX11_brandOf_128 : decode cX11_brandOf 128 = .ok (.iload_n 3, 1) := by decide +kernel
theorem dX11_brandOf_129 : decode cX11_brandOf 129 = .ok (.imul, 1) := by decide +kernel
theorem dX11_brandOf_130 : decode cX11_brandOf 130 = .ok (.iload 6, 2) := by decide +kernel
theorem dX11_brandOf_132 : decode cX11_brandOf 132 = .ok (.iadd, 1) := by decide +kernel
theorem dX11_brandOf_133 : decode cX11_brandOf 133 = .ok (.iaload, 1) := by decide +kernel
theorem dX11_brandOf_134 : decode cX11_brandOf 134 = .ok (.bipush 48, 2) := by decide +kernel
theorem dX11_brandOf_136 : decode cX11_brandOf 136 = .ok (.bipush 57, 2) := by decide +kernel
theorem dX11_brandOf_138 : decode cX11_brandOf 138 = .ok (.invokestatic 94, 3) := by decide +kernel
theorem dX11_brandOf_141 : decode cX11_brandOf 141 = .ok (.ifCond .eq 32, 3) := by decide +kernel
theorem dX11_brandOf_144 : decode cX11_brandOf 144 = .ok (.bipush 10, 2) := by decide +kernel
theorem dX11_brandOf_146 : decode cX11_brandOf 146 = .ok (.iload 9, 2) := by decide +kernel
theorem dX11_brandOf_148 : decode cX11_brandOf 148 = .ok (.imul, 1) := by decide +kernel
theorem dX11_brandOf_149 : decode cX11_brandOf 149 = .ok (.aload_n 0, 1) := by decide +kernel
theorem dX11_brandOf_150 : decode cX11_brandOf 150 = .ok (.getfield 19, 3) := by decide +kernel
theorem dX11_brandOf_153 : decode cX11_brandOf 153 = .ok (.bipush 60, 2) := by decide +kernel
theorem dX11_brandOf_155 : decode cX11_brandOf 155 = .ok (.iload_n 3, 1) := by decide +kernel
theorem dX11_brandOf_156 : decode cX11_brandOf 156 = .ok (.imul, 1) := by decide +kernel
theorem dX11_brandOf_157 : decode cX11_brandOf 157 = .ok (.iload 6, 2) := by decide +kernel
theorem dX11_brandOf_159 : decode cX11_brandOf 159 = .ok (.iadd, 1) := by decide +kernel
theorem dX11_brandOf_160 : decode cX11_brandOf 160 = .ok (.iaload, 1) := by decide +kernel
theorem dX11_brandOf_161 : decode cX11_brandOf 161 = .ok (.iadd, 1) := by decide +kernel
theorem dX11_brandOf_162 : decode cX11_brandOf 162 = .ok (.bipush 48, 2) := by decide +kernel
theorem dX11_brandOf_164 : decode cX11_brandOf 164 = .ok (.isub, 1) := by decide +kernel
theorem dX11_brandOf_165 : decode cX11_brandOf 165 = .ok (.istore 9, 2) := by decide +kernel
theorem dX11_brandOf_167 : decode cX11_brandOf 167 = .ok (.iinc 6 1, 3) := by decide +kernel
theorem dX11_brandOf_170 : decode cX11_brandOf 170 = .ok (.goto (-59), 3) := by decide +kernel
theorem dX11_brandOf_173 : decode cX11_brandOf 173 = .ok (.aload_n 0, 1) := by decide +kernel
theorem dX11_brandOf_174 : decode cX11_brandOf 174 = .ok (.iload_n 1, 1) := by decide +kernel
theorem dX11_brandOf_175 : decode cX11_brandOf 175 = .ok (.iload 7, 2) := by decide +kernel
theorem dX11_brandOf_177 : decode cX11_brandOf 177 = .ok (.invokevirtual 130, 3) := by decide +kernel
theorem dX11_brandOf_180 : decode cX11_brandOf 180 = .ok (.istore 10, 2) := by decide +kernel
theorem dX11_brandOf_182 : decode cX11_brandOf 182 = .ok (.iload 5, 2) := by decide +kernel
theorem dX11_brandOf_184 : decode cX11_brandOf 184 = .ok (.ifCond .eq 48, 3) := by decide +kernel
theorem dX11_brandOf_187 : decode cX11_brandOf 187 = .ok (.iload 8, 2) := by decide +kernel
theorem dX11_brandOf_189 : decode cX11_brandOf 189 = .ok (.bipush 60, 2) := by decide +kernel
theorem dX11_brandOf_191 : decode cX11_brandOf 191 = .ok (.if_icmp .ne 13, 3) := by decide +kernel
theorem dX11_brandOf_194 : decode cX11_brandOf 194 = .ok (.iload 10, 2) := by decide +kernel
theorem dX11_brandOf_196 : decode cX11_brandOf 196 = .ok (.iload 9, 2) := by decide +kernel
theorem dX11_brandOf_198 : decode cX11_brandOf 198 = .ok (.if_icmp .ge 34, 3) := by decide +kernel
theorem dX11_brandOf_201 : decode cX11_brandOf 201 = .ok (.goto 27, 3) := by decide +kernel
theorem dX11_brandOf_204 : decode cX11_brandOf 204 = .ok (.iload 8, 2) := by decide +kernel
theorem dX11_brandOf_206 : decode cX11_brandOf 206 = .ok (.bipush 62, 2) := by decide +kernel
theorem dX11_brandOf_208 : decode cX11_brandOf 208 = .ok (.if_icmp .ne 13, 3) := by decide +kernel
theorem dX11_brandOf_211 : decode cX11_brandOf 211 = .ok (.iload 10, 2) := by decide +kernel
theorem dX11_brandOf_213 : decode cX11_brandOf 213 = .ok (.iload 9, 2) := by decide +kernel
theorem dX11_brandOf_215 : decode cX11_brandOf 215 = .ok (.if_icmp .le 17, 3) := by decide +kernel
theorem dX11_brandOf_218 : decode cX11_brandOf 218 = .ok (.goto 10, 3) := by decide +kernel
theorem dX11_brandOf_221 : decode cX11_brandOf 221 = .ok (.iload 10, 2) := by decide +kernel
theorem dX11_brandOf_223 : decode cX11_brandOf 223 = .ok (.iload 9, 2) := by decide +kernel
theorem dX11_brandOf_225 : decode cX11_brandOf 225 = .ok (.if_icmp .ne 7, 3) := by decide +kernel
theorem dX11_brandOf_228 : decode cX11_brandOf 228 = .ok (.iconst 1, 1) := by decide +kernel
theorem dX11_brandOf_229 : decode cX11_brandOf 229 = .ok (.goto 4, 3) := by decide +kernel
theorem dX11_brandOf_232 : decode cX11_brandOf 232 = .ok (.iconst 0, 1) := by decide +kernel
theorem dX11_brandOf_233 : decode cX11_brandOf 233 = .ok (.istore 5, 2) := by decide +kernel
theorem dX11_brandOf_235 : decode cX11_brandOf 235 = .ok (.goto 6, 3) := by decide +kernel
theorem dX11_brandOf_238 : decode cX11_brandOf 238 = .ok (.iinc 6 1, 3) := by decide +kernel
theorem dX11_brandOf_241 : decode cX11_brandOf 241 = .ok (.goto (-225), 3) := by decide +kernel
theorem dX11_brandOf_244 : decode cX11_brandOf 244 = .ok (.iload 5, 2) := by decide +kernel
theorem dX11_brandOf_246 : decode cX11_brandOf 246 = .ok (.ifCond .eq 8, 3) := by decide +kernel
theorem dX11_brandOf_249 : decode cX11_brandOf 249 = .ok (.iload 4, 2) := by decide +kernel
theorem dX11_brandOf_251 : decode cX11_brandOf 251 = .ok (.goto 5, 3) := by decide +kernel
theorem dX11_brandOf_254 : decode cX11_brandOf 254 = .ok (.bipush (-6), 2) := by decide +kernel
theorem dX11_brandOf_256 : decode cX11_brandOf 256 = .ok (.ireturn, 1) := by decide +kernel
theorem dX11_set_0 : decode cX11_set 0 = .ok (.iload_n 1, 1) := by decide +kernel
theorem dX11_set_1 : decode cX11_set 1 = .ok (.invokestatic 133, 3) := by decide +kernel
theorem dX11_set_4 : decode cX11_set 4 = .ok (.ifCond .ne 5, 3) := by decide +kernel
theorem dX11_set_7 : decode cX11_set 7 = .ok (.iconst (-1), 1) := by decide +kernel
theorem dX11_set_8 : decode cX11_set 8 = .ok (.ireturn, 1) := by decide +kernel
theorem dX11_set_9 : decode cX11_set 9 = .ok (.iload_n 2, 1) := by decide +kernel
theorem dX11_set_10 : decode cX11_set 10 = .ok (.iconst 0, 1) := by decide +kernel
theorem dX11_set_11 : decode cX11_set 11 = .ok (.iconst 1, 1) := by decide +kernel
theorem dX11_set_12 : decode cX11_set 12 = .ok (.invokestatic 94, 3) := by decide +kernel
theorem dX11_set_15 : decode cX11_set 15 = .ok (.ifCond .eq 23, 3) := by decide +kernel
theorem dX11_set_18 : decode cX11_set 18 = .ok (.iload_n 3, 1) := by decide +kernel
theorem dX11_set_19 : decode cX11_set 19 = .ok (.iconst 1, 1) := by decide +kernel
theorem dX11_set_20 : decode cX11_set 20 = .ok (.iload_n 2, 1) := by decide +kernel
theorem dX11_set_21 : decode cX11_set 21 = .ok (.ifCond .ne 8, 3) := by decide +kernel
theorem dX11_set_24 : decode cX11_set 24 = .ok (.bipush 9, 2) := by decide +kernel
theorem dX11_set_26 : decode cX11_set 26 = .ok (.goto 6, 3) := by decide +kernel
theorem dX11_set_29 : decode cX11_set 29 = .ok (.sipush 2000, 3) := by decide +kernel
theorem dX11_set_32 : decode cX11_set 32 = .ok (.invokestatic 94, 3) := by decide +kernel
theorem dX11_set_35 : decode cX11_set 35 = .ok (.ifCond .ne 6, 3) := by decide +kernel
theorem dX11_set_38 : decode cX11_set 38 = .ok (.bipush (-2), 2) := by decide +kernel
theorem dX11_set_40 : decode cX11_set 40 = .ok (.ireturn, 1) := by decide +kernel
theorem dX11_set_41 : decode cX11_set 41 = .ok (.iload_n 2, 1) := by decide +kernel
theorem dX11_set_42 : decode cX11_set 42 = .ok (.ifCond .ne 12, 3) := by decide +kernel
theorem dX11_set_45 : decode cX11_set 45 = .ok (.aload_n 0, 1) := by decide +kernel
theorem dX11_set_46 : decode cX11_set 46 = .ok (.getfield 22, 3) := by decide +kernel
theorem dX11_set_49 : decode cX11_set 49 = .ok (.iload_n 1, 1) := by decide +kernel
theorem dX11_set_50 : decode cX11_set 50 = .ok (.iaload, 1) := by decide +kernel
theorem dX11_set_51 : decode cX11_set 51 = .ok (.goto 9, 3) := by decide +kernel
theorem dX11_set_54 : decode cX11_set 54 = .ok (.aload_n 0, 1) := by decide +kernel
theorem dX11_set_55 : decode cX11_set 55 = .ok (.getfield 25, 3) := by decide +kernel
theorem dX11_set_58 : decode cX11_set 58 = .ok (.iload_n 1, 1) := by decide +kernel
theorem dX11_set_59 : decode cX11_set 59 = .ok (.iaload, 1) := by decide +kernel
theorem dX11_set_60 : decode cX11_set 60 = .ok (.istore 4, 2) := by decide +kernel
theorem dX11_set_62 : decode cX11_set 62 = .ok (.iload_n 2, 1) := by decide +kernel
theorem dX11_set_63 : decode cX11_set 63 = .ok (.ifCond .ne 13, 3) := by decide +kernel
theorem dX11_set_66 : decode cX11_set 66 = .ok (.aload_n 0, 1) := by decide +kernel
theorem dX11_set_67 : decode cX11_set 67 = .ok (.getfield 22, 3) := by decide +kernel
theorem dX11_set_70 : decode cX11_set 70 = .ok (.iload_n 1, 1) := by decide +kernel
theorem dX11_set_71 : decode cX11_set 71 = .ok (.iload_n 3, 1) := by decide +kernel
theorem dX11_set_72 : decode cX11_set 72 = .ok (.iastore, 1) := by decide +kernel
theorem dX11_set_73 : decode cX11_set 73 = .ok (.goto 10, 3) := by decide +kernel
theorem dX11_set_76 : decode cX11_set 76 = .ok (.aload_n 0, 1) := by decide +kernel
theorem dX11_set_77 : decode cX11_set 77 = .ok (.getfield 25, 3) := by decide +kernel
theorem dX11_set_80 : decode cX11_set 80 = .ok (.iload_n 1, 1) := by decide +kernel
theorem dX11_set_81 : decode cX11_set 81 = .ok (.iload_n 3, 1) := by decide +kernel
theorem dX11_set_82 : decode cX11_set 82 = .ok (.iastore, 1) := by decide +kernel
theorem dX11_set_83 : decode cX11_set 83 = .ok (.iload 4, 2) := by decide +kernel
theorem dX11_set_85 : decode cX11_set 85 = .ok (.ireturn, 1) := by decide +kernel
theorem dX11_rule_0 : decode cX11_rule 0 = .ok (.iload_n 1, 1) := by decide +kernel
theorem dX11_rule_1 : decode cX11_rule 1 = .ok (.iconst 0, 1) := by decide +kernel
theorem dX11_rule_2 : decode cX11_rule 2 = .ok (.bipush 6, 2) := by decide +kernel
theorem dX11_rule_4 : decode cX11_rule 4 = .ok (.invokestatic 94, 3) := by decide +kernel
theorem dX11_rule_7 : decode cX11_rule 7 = .ok (.ifCond .ne 6, 3) := by decide +kernel
theorem dX11_rule_10 : decode cX11_rule 10 = .ok (.bipush (-2), 2) := by decide +kernel
theorem dX11_rule_12 : decode cX11_rule 12 = .ok (.ireturn, 1) := by decide +kernel
theorem dX11_rule_13 : decode cX11_rule 13 = .ok (.iload_n 1, 1) := by decide +kernel
theorem dX11_rule_14 : decode cX11_rule 14 = .ok (.ifCond .eq 8, 3) := by decide +kernel
theorem dX11_rule_17 : decode cX11_rule 17 = .ok (.iload_n 1, 1) := by decide +kernel
theorem dX11_rule_18 : decode cX11_rule 18 = .ok (.iconst 2, 1) := by decide +kernel
theorem dX11_rule_19 : decode cX11_rule 19 = .ok (.if_icmp .ne 7, 3) := by decide +kernel
theorem dX11_rule_22 : decode cX11_rule 22 = .ok (.iconst 1, 1) := by decide +kernel
theorem dX11_rule_23 : decode cX11_rule 23 = .ok (.goto 25, 3) := by decide +kernel
theorem dX11_rule_26 : decode cX11_rule 26 = .ok (.iload_n 1, 1) := by decide +kernel
theorem dX11_rule_27 : decode cX11_rule 27 = .ok (.iconst 1, 1) := by decide +kernel
theorem dX11_rule_28 : decode cX11_rule 28 = .ok (.if_icmp .ne 8, 3) := by decide +kernel
theorem dX11_rule_31 : decode cX11_rule 31 = .ok (.bipush 100, 2) := by decide +kernel
theorem dX11_rule_33 : decode cX11_rule 33 = .ok (.goto 15, 3) := by decide +kernel
theorem dX11_rule_36 : decode cX11_rule 36 = .ok (.iload_n 1, 1) := by decide +kernel
theorem dX11_rule_37 : decode cX11_rule 37 = .ok (.iconst 4, 1) := by decide +kernel
theorem dX11_rule_38 : decode cX11_rule 38 = .ok (.if_icmp .ne 9, 3) := by decide +kernel
theorem dX11_rule_41 : decode cX11_rule 41 = .ok (.sipush 500, 3) := by decide +kernel
theorem dX11_rule_44 : decode cX11_rule 44 = .ok (.goto 4, 3) := by decide +kernel
theorem dX11_rule_47 : decode cX11_rule 47 = .ok (.iconst 0, 1) := by decide +kernel
theorem dX11_rule_48 : decode cX11_rule 48 = .ok (.istore_n 3, 1) := by decide +kernel
theorem dX11_rule_49 : decode cX11_rule 49 = .ok (.iload_n 1, 1) := by decide +kernel
theorem dX11_rule_50 : decode cX11_rule 50 = .ok (.ifCond .ne 8, 3) := by decide +kernel
theorem dX11_rule_53 : decode cX11_rule 53 = .ok (.bipush 72, 2) := by decide +kernel
theorem dX11_rule_55 : decode cX11_rule 55 = .ok (.goto 31, 3) := by decide +kernel
theorem dX11_rule_58 : decode cX11_rule 58 = .ok (.iload_n 1, 1) := by decide +kernel
theorem dX11_rule_59 : decode cX11_rule 59 = .ok (.iconst 1, 1) := by decide +kernel
theorem dX11_rule_60 : decode cX11_rule 60 = .ok (.if_icmp .eq 8, 3) := by decide +kernel
theorem dX11_rule_63 : decode cX11_rule 63 = .ok (.iload_n 1, 1) := by decide +kernel
theorem dX11_rule_64 : decode cX11_rule 64 = .ok (.iconst 4, 1) := by decide +kernel
theorem dX11_rule_65 : decode cX11_rule 65 = .ok (.if_icmp .ne 9, 3) := by decide +kernel
theorem dX11_rule_68 : decode cX11_rule 68 = .ok (.sipush 1500, 3) := by decide +kernel
theorem dX11_rule_71 : decode cX11_rule 71 = .ok (.goto 15, 3) := by decide +kernel
theorem dX11_rule_74 : decode cX11_rule 74 = .ok (.iload_n 1, 1) := by decide +kernel
theorem dX11_rule_75 : decode cX11_rule 75 = .ok (.iconst 3, 1) := by decide +kernel
theorem dX11_rule_76 : decode cX11_rule 76 = .ok (.if_icmp .ne 8, 3) := by decide +kernel
theorem dX11_rule_79 : decode cX11_rule 79 = .ok (.bipush 50, 2) := by decide +kernel
theorem dX11_rule_81 : decode cX11_rule 81 = .ok (.goto 5, 3) := by decide +kernel
theorem dX11_rule_84 : decode cX11_rule 84 = .ok (.bipush 100, 2) := by decide +kernel
theorem dX11_rule_86 : decode cX11_rule 86 = .ok (.istore 4, 2) := by decide +kernel
theorem dX11_rule_88 : decode cX11_rule 88 = .ok (.iload_n 2, 1) := by decide +kernel
theorem dX11_rule_89 : decode cX11_rule 89 = .ok (.iload_n 3, 1) := by decide +kernel
theorem dX11_rule_90 : decode cX11_rule 90 = .ok (.iload 4, 2) := by decide +kernel
theorem dX11_rule_92 : decode cX11_rule 92 = .ok (.invokestatic 94, 3) := by decide +kernel
theorem dX11_rule_95 : decode cX11_rule 95 = .ok (.ifCond .ne 6, 3) := by decide +kernel
theorem dX11_rule_98 : decode cX11_rule 98 = .ok (.bipush (-2), 2) := by decide +kernel
theorem dX11_rule_100 : decode cX11_rule 100 = .ok (.ireturn, 1) := by decide +kernel
theorem dX11_rule_101 : decode cX11_rule 101 = .ok (.aload_n 0, 1) := by decide +kernel
theorem dX11_rule_102 : decode cX11_rule 102 = .ok (.getfield 28, 3) := by decide +kernel
theorem dX11_rule_105 : decode cX11_rule 105 = .ok (.iload_n 1, 1) := by decide +kernel
theorem dX11_rule_106 : decode cX11_rule 106 = .ok (.iaload, 1) := by decide +kernel
theorem dX11_rule_107 : decode cX11_rule 107 = .ok (.istore 5, 2) := by decide +kernel
theorem dX11_rule_109 : decode cX11_rule 109 = .ok (.aload_n 0, 1) := by decide +kernel
theorem dX11_rule_110 : decode cX11_rule 110 = .ok (.getfield 28, 3) := by decide +kernel
theorem dX11_rule_113 : decode cX11_rule 113 = .ok (.iload_n 1, 1) := by decide +kernel
theorem dX11_rule_114 : decode cX11_rule 114 = .ok (.iload_n 2, 1) := by decide +kernel
theorem dX11_rule_115 : decode cX11_rule 115 = .ok (.iastore, 1) := by decide +kernel
theorem dX11_rule_116 : decode cX11_rule 116 = .ok (.iload 5, 2) := by decide +kernel
theorem dX11_rule_118 : decode cX11_rule 118 = .ok (.ireturn, 1) := by decide +kernel
theorem dX11_waiting_0 : decode cX11_waiting 0 = .ok (.iconst 0, 1) := by decide +kernel
theorem dX11_waiting_1 : decode cX11_waiting 1 = .ok (.istore_n 1, 1) := by decide +kernel
theorem dX11_waiting_2 : decode cX11_waiting 2 = .ok (.iconst 0, 1) := by decide +kernel
theorem dX11_waiting_3 : decode cX11_waiting 3 = .ok (.istore_n 2, 1) := by decide +kernel
theorem dX11_waiting_4 : decode cX11_waiting 4 = .ok (.iload_n 2, 1) := by decide +kernel
theorem dX11_waiting_5 : decode cX11_waiting 5 = .ok (.aload_n 0, 1) := by decide +kernel
theorem dX11_waiting_6 : decode cX11_waiting 6 = .ok (.getfield 136, 3) := by decide +kernel
theorem dX11_waiting_9 : decode cX11_waiting 9 = .ok (.if_icmp .ge 31, 3) := by decide +kernel
theorem dX11_waiting_12 : decode cX11_waiting 12 = .ok (.iload_n 1, 1) := by decide +kernel
theorem dX11_waiting_13 : decode cX11_waiting 13 = .ok (.aload_n 0, 1) := by decide +kernel
theorem dX11_waiting_14 : decode cX11_waiting 14 = .ok (.getfield 31, 3) := by decide +kernel
theorem dX11_waiting_17 : decode cX11_waiting 17 = .ok (.bipush 7, 2) := by decide +kernel
theorem dX11_waiting_19 : decode cX11_waiting 19 = .ok (.iload_n 2, 1) := by decide +kernel
theorem dX11_waiting_20 : decode cX11_waiting 20 = .ok (.imul, 1) := by decide +kernel
theorem dX11_waiting_21 : decode cX11_waiting 21 = .ok (.iconst 1, 1) := by decide +kernel
theorem dX11_waiting_22 : decode cX11_waiting 22 = .ok (.iadd, 1) := by decide +kernel
theorem dX11_waiting_23 : decode cX11_waiting 23 = .ok (.iaload, 1) := by decide +kernel
theorem dX11_waiting_24 : decode cX11_waiting 24 = .ok (.ifCond .ge 7, 3) := by decide +kernel
theorem dX11_waiting_27 : decode cX11_waiting 27 = .ok (.iconst 1, 1) := by decide +kernel
theorem dX11_waiting_28 : decode cX11_waiting 28 = .ok (.goto 4, 3) := by decide +kernel
theorem dX11_waiting_31 : decode cX11_waiting 31 = .ok (.iconst 0, 1) := by decide +kernel
theorem dX11_waiting_32 : decode cX11_waiting 32 = .ok (.iadd, 1) := by decide +kernel
theorem dX11_waiting_33 : decode cX11_waiting 33 = .ok (.istore_n 1, 1) := by decide +kernel
theorem dX11_waiting_34 : decode cX11_waiting 34 = .ok (.iinc 2 1, 3) := by decide +kernel
theorem dX11_waiting_37 : decode cX11_waiting 37 = .ok (.goto (-33), 3) := by decide +kernel
theorem dX11_waiting_40 : decode cX11_waiting 40 = .ok (.iload_n 1, 1) := by decide +kernel
theorem dX11_waiting_41 : decode cX11_waiting 41 = .ok (.ireturn, 1) := by decide +kernel
theorem dX11_land_0 : decode cX11_land 0 = .ok (.iload_n 1, 1) := by decide +kernel
theorem dX11_land_1 : decode cX11_land 1 = .ok (.iconst 0, 1) := by decide +kernel
theorem dX11_land_2 : decode cX11_land 2 = .ok (.bipush 9, 2) := by decide +kernel
theorem dX11_land_4 : decode cX11_land 4 = .ok (.invokestatic 94, 3) := by decide +kernel
theorem dX11_land_7 : decode cX11_land 7 = .ok (.ifCond .eq 15, 3) := by decide +kernel
theorem dX11_land_10 : decode cX11_land 10 = .ok (.iload_n 2, 1) := by decide +kernel
theorem dX11_land_11 : decode cX11_land 11 = .ok (.iconst (-1), 1) := by decide +kernel
theorem dX11_land_12 : decode cX11_land 12 = .ok (.if_icmp .eq 12, 3) := by decide +kernel
theorem dX11_land_15 : decode cX11_land 15 = .ok (.iload_n 2, 1) := by decide +kernel
theorem dX11_land_16 : decode cX11_land 16 = .ok (.invokestatic 133, 3) := by decide +kernel
theorem dX11_land_19 : decode cX11_land 19 = .ok (.ifCond .ne 5, 3) := by decide +kernel
theorem dX11_land_22 : decode cX11_land 22 = .ok (.iconst (-1), 1) := by decide +kernel
theorem dX11_land_23 : decode cX11_land 23 = .ok (.ireturn, 1) := by decide +kernel
theorem dX11_land_24 : decode cX11_land 24 = .ok (.iload_n 3, 1) := by decide +kernel
theorem dX11_land_25 : decode cX11_land 25 = .ok (.invokestatic 139, 3) := by decide +kernel
theorem dX11_land_28 : decode cX11_land 28 = .ok (.ifCond .eq 26, 3) := by decide +kernel
theorem dX11_land_31 : decode cX11_land 31 = .ok (.iload 4, 2) := by decide +kernel
theorem dX11_land_33 : decode cX11_land 33 = .ok (.iconst 1, 1) := by decide +kernel
theorem dX11_land_34 : decode cX11_land 34 = .ok (.sipush 20000, 3) := by decide +kernel
theorem dX11_land_37 : decode cX11_land 37 = .ok (.invokestatic 94, 3) := by decide +kernel
theorem dX11_land_40 : decode cX11_land 40 = .ok (.ifCond .eq 14, 3) := by decide +kernel
theorem dX11_land_43 : decode cX11_land 43 = .ok (.iload 5, 2) := by decide +kernel
theorem dX11_land_45 : decode cX11_land 45 = .ok (.iconst 1, 1) := by decide +kernel
theorem dX11_land_46 : decode cX11_land 46 = .ok (.bipush 9, 2) := by decide +kernel
theorem dX11_land_48 : decode cX11_land 48 = .ok (.invokestatic 94, 3) := by decide +kernel
theorem dX11_land_51 : decode cX11_land 51 = .ok (.ifCond .ne 6, 3) := by decide +kernel
theorem dX11_land_54 : decode cX11_land 54 = .ok (.bipush (-2), 2) := by decide +kernel
theorem dX11_land_56 : decode cX11_land 56 = .ok (.ireturn, 1) := by decide +kernel
theorem dX11_land_57 : decode cX11_land 57 = .ok (.aload_n 0, 1) := by decide +kernel
theorem dX11_land_58 : decode cX11_land 58 = .ok (.getfield 136, 3) := by decide +kernel
theorem dX11_land_61 : decode cX11_land 61 = .ok (.bipush 30, 2) := by decide +kernel
theorem dX11_land_63 : decode cX11_land 63 = .ok (.if_icmp .ne 6, 3) := by decide +kernel
theorem dX11_land_66 : decode cX11_land 66 = .ok (.bipush (-4), 2) := by decide +kernel
theorem dX11_land_68 : decode cX11_land 68 = .ok (.ireturn, 1) := by decide +kernel
theorem dX11_land_69 : decode cX11_land 69 = .ok (.iload_n 2, 1) := by decide +kernel
theorem dX11_land_70 : decode cX11_land 70 = .ok (.ifCond .ge 14, 3) := by decide +kernel
theorem dX11_land_73 : decode cX11_land 73 = .ok (.aload_n 0, 1) := by decide +kernel
theorem dX11_land_74 : decode cX11_land 74 = .ok (.invokevirtual 142, 3) := by decide +kernel
theorem dX11_land_77 : decode cX11_land 77 = .ok (.iconst 5, 1) := by decide +kernel
theorem dX11_land_78 : decode cX11_land 78 = .ok (.if_icmp .ne 6, 3) := by decide +kernel
theorem dX11_land_81 : decode cX11_land 81 = .ok (.bipush (-5), 2) := by decide +kernel
theorem dX11_land_83 : decode cX11_land 83 = .ok (.ireturn, 1) := by decide +kernel
theorem dX11_land_84 : decode cX11_land 84 = .ok (.bipush 7, 2) := by decide +kernel
theorem dX11_land_86 : decode cX11_land 86 = .ok (.aload_n 0, 1) := by decide +kernel
theorem dX11_land_87 : decode cX11_land 87 = .ok (.getfield 136, 3) := by decide +kernel
theorem dX11_land_90 : decode cX11_land 90 = .ok (.imul, 1) := by decide +kernel
theorem dX11_land_91 : decode cX11_land 91 = .ok (.istore 6, 2) := by decide +kernel
theorem dX11_land_93 : decode cX11_land 93 = .ok (.aload_n 0, 1) := by decide +kernel
theorem dX11_land_94 : decode cX11_land 94 = .ok (.getfield 31, 3) := by decide +kernel
theorem dX11_land_97 : decode cX11_land 97 = .ok (.iload 6, 2) := by decide +kernel
theorem dX11_land_99 : decode cX11_land 99 = .ok (.iload_n 1, 1) := by decide +kernel
theorem dX11_land_100 : decode cX11_land 100 = .ok (.iastore, 1) := by decide +kernel
theorem dX11_land_101 : decode cX11_land 101 = .ok (.aload_n 0, 1) := by decide +kernel
theorem dX11_land_102 : decode cX11_land 102 = .ok (.getfield 31, 3) := by decide +kernel
theorem dX11_land_105 : decode cX11_land 105 = .ok (.iload 6, 2) := by decide +kernel
theorem dX11_land_107 : decode cX11_land 107 = .ok (.iconst 1, 1) := by decide +kernel
theorem dX11_land_108 : decode cX11_land 108 = .ok (.iadd, 1) := by decide +kernel
theorem dX11_land_109 : decode cX11_land 109 = .ok (.iload_n 2, 1) := by decide +kernel
theorem dX11_land_110 : decode cX11_land 110 = .ok (.iastore, 1) := by decide +kernel
theorem dX11_land_111 : decode cX11_land 111 = .ok (.aload_n 0, 1) := by decide +kernel
theorem dX11_land_112 : decode cX11_land 112 = .ok (.getfield 31, 3) := by decide +kernel
theorem dX11_land_115 : decode cX11_land 115 = .ok (.iload 6, 2) := by decide +kernel
theorem dX11_land_117 : decode cX11_land 117 = .ok (.iconst 2, 1) := by decide +kernel
theorem dX11_land_118 : decode cX11_land 118 = .ok (.iadd, 1) := by decide +kernel
theorem dX11_land_119 : decode cX11_land 119 = .ok (.iload_n 3, 1) := by decide +kernel
theorem dX11_land_120 : decode cX11_land 120 = .ok (.iastore, 1) := by decide +kernel
theorem dX11_land_121 : decode cX11_land 121 = .ok (.aload_n 0, 1) := by decide +kernel
theorem dX11_land_122 : decode cX11_land 122 = .ok (.getfield 31, 3) := by decide +kernel
theorem dX11_land_125 : decode cX11_land 125 = .ok (.iload 6, 2) := by decide +kernel
theorem dX11_land_127 : decode cX11_land 127 = .ok (.iconst 3, 1) := by decide +kernel
theorem dX11_land_128 : decode cX11_land 128 = .ok (.iadd, 1) := by decide +kernel
theorem dX11_land_129 : decode cX11_land 129 = .ok (.iload 4, 2) := by decide +kernel
theorem dX11_land_131 : decode cX11_land 131 = .ok (.iastore, 1) := by decide +kernel
theorem dX11_land_132 : decode cX11_land 132 = .ok (.aload_n 0, 1) := by decide +kernel
theorem dX11_land_133 : decode cX11_land 133 = .ok (.getfield 31, 3) := by decide +kernel
theorem dX11_land_136 : decode cX11_land 136 = .ok (.iload 6, 2) := by decide +kernel
theorem dX11_land_138 : decode cX11_land 138 = .ok (.iconst 4, 1) := by decide +kernel
theorem dX11_land_139 : decode cX11_land 139 = .ok (.iadd, 1) := by decide +kernel
theorem dX11_land_140 : decode cX11_land 140 = .ok (.iload 5, 2) := by decide +kernel
theorem dX11_land_142 : decode cX11_land 142 = .ok (.iastore, 1) := by decide +kernel
theorem dX11_land_143 : decode cX11_land 143 = .ok (.aload_n 0, 1) := by decide +kernel
theorem dX11_land_144 : decode cX11_land 144 = .ok (.dup, 1) := by decide +kernel
theorem dX11_land_145 : decode cX11_land 145 = .ok (.getfield 136, 3) := by decide +kernel
theorem dX11_land_148 : decode cX11_land 148 = .ok (.iconst 1, 1) := by decide +kernel
theorem dX11_land_149 : decode cX11_land 149 = .ok (.iadd, 1) := by decide +kernel
theorem dX11_land_150 : decode cX11_land 150 = .ok (.putfield 136, 3) := by decide +kernel
theorem dX11_land_153 : decode cX11_land 153 = .ok (.aload_n 0, 1) := by decide +kernel
theorem dX11_land_154 : decode cX11_land 154 = .ok (.getfield 136, 3) := by decide +kernel
theorem dX11_land_157 : decode cX11_land 157 = .ok (.iconst 1, 1) := by decide +kernel
theorem dX11_land_158 : decode cX11_land 158 = .ok (.isub, 1) := by decide +kernel
theorem dX11_land_159 : decode cX11_land 159 = .ok (.ireturn, 1) := by decide +kernel
theorem dX11_lead_0 : decode cX11_lead 0 = .ok (.iload_n 1, 1) := by decide +kernel
theorem dX11_lead_1 : decode cX11_lead 1 = .ok (.iconst 0, 1) := by decide +kernel
theorem dX11_lead_2 : decode cX11_lead 2 = .ok (.aload_n 0, 1) := by decide +kernel
theorem dX11_lead_3 : decode cX11_lead 3 = .ok (.getfield 136, 3) := by decide +kernel
theorem dX11_lead_6 : decode cX11_lead 6 = .ok (.iconst 1, 1) := by decide +kernel
theorem dX11_lead_7 : decode cX11_lead 7 = .ok (.isub, 1) := by decide +kernel
theorem dX11_lead_8 : decode cX11_lead 8 = .ok (.invokestatic 94, 3) := by decide +kernel
theorem dX11_lead_11 : decode cX11_lead 11 = .ok (.ifCond .eq 15, 3) := by decide +kernel
theorem dX11_lead_14 : decode cX11_lead 14 = .ok (.iload_n 2, 1) := by decide +kernel
theorem dX11_lead_15 : decode cX11_lead 15 = .ok (.iconst (-1), 1) := by decide +kernel
theorem dX11_lead_16 : decode cX11_lead 16 = .ok (.if_icmp .eq 12, 3) := by decide +kernel
theorem dX11_lead_19 : decode cX11_lead 19 = .ok (.iload_n 2, 1) := by decide +kernel
theorem dX11_lead_20 : decode cX11_lead 20 = .ok (.invokestatic 133, 3) := by decide +kernel
theorem dX11_lead_23 : decode cX11_lead 23 = .ok (.ifCond .ne 5, 3) := by decide +kernel
theorem dX11_lead_26 : decode cX11_lead 26 = .ok (.iconst (-1), 1) := by decide +kernel
theorem dX11_lead_27 : decode cX11_lead 27 = .ok (.ireturn, 1) := by decide +kernel
theorem dX11_lead_28 : decode cX11_lead 28 = .ok (.aload_n 0, 1) := by decide +kernel
theorem dX11_lead_29 : decode cX11_lead 29 = .ok (.getfield 31, 3) := by decide +kernel
theorem dX11_lead_32 : decode cX11_lead 32 = .ok (.bipush 7, 2) := by decide +kernel
theorem dX11_lead_34 : decode cX11_lead 34 = .ok (.iload_n 1, 1) := by decide +kernel
theorem dX11_lead_35 : decode cX11_lead 35 = .ok (.imul, 1) := by decide +kernel
theorem dX11_lead_36 : decode cX11_lead 36 = .ok (.iconst 1, 1) := by decide +kernel
theorem dX11_lead_37 : decode cX11_lead 37 = .ok (.iadd, 1) := by decide +kernel
theorem dX11_lead_38 : decode cX11_lead 38 = .ok (.iaload, 1) := by decide +kernel
theorem dX11_lead_39 : decode cX11_lead 39 = .ok (.istore_n 3, 1) := by decide +kernel
theorem dX11_lead_40 : decode cX11_lead 40 = .ok (.iload_n 2, 1) := by decide +kernel
theorem dX11_lead_41 : decode cX11_lead 41 = .ok (.ifCond .ge 18, 3) := by decide +kernel
theorem dX11_lead_44 : decode cX11_lead 44 = .ok (.iload_n 3, 1) := by decide +kernel
theorem dX11_lead_45 : decode cX11_lead 45 = .ok (.ifCond .lt 14, 3) := by decide +kernel
theorem dX11_lead_48 : decode cX11_lead 48 = .ok (.aload_n 0, 1) := by decide +kernel
theorem dX11_lead_49 : decode cX11_lead 49 = .ok (.invokevirtual 142, 3) := by decide +kernel
theorem dX11_lead_52 : decode cX11_lead 52 = .ok (.iconst 5, 1) := by decide +kernel
theorem dX11_lead_53 : decode cX11_lead 53 = .ok (.if_icmp .ne 6, 3) := by decide +kernel
theorem dX11_lead_56 : decode cX11_lead 56 = .ok (.bipush (-5), 2) := by decide +kernel
theorem dX11_lead_58 : decode cX11_lead 58 = .ok (.ireturn, 1) := by decide +kernel
theorem dX11_lead_59 : decode cX11_lead 59 = .ok (.aload_n 0, 1) := by decide +kernel
theorem dX11_lead_60 : decode cX11_lead 60 = .ok (.getfield 31, 3) := by decide +kernel
theorem dX11_lead_63 : decode cX11_lead 63 = .ok (.bipush 7, 2) := by decide +kernel
theorem dX11_lead_65 : decode cX11_lead 65 = .ok (.iload_n 1, 1) := by decide +kernel
theorem dX11_lead_66 : decode cX11_lead 66 = .ok (.imul, 1) := by decide +kernel
theorem dX11_lead_67 : decode cX11_lead 67 = .ok (.iconst 1, 1) := by decide +kernel
theorem dX11_lead_68 : decode cX11_lead 68 = .ok (.iadd, 1) := by decide +kernel
theorem dX11_lead_69 : decode cX11_lead 69 = .ok (.iload_n 2, 1) := by decide +kernel
theorem dX11_lead_70 : decode cX11_lead 70 = .ok (.iastore, 1) := by decide +kernel
theorem dX11_lead_71 : decode cX11_lead 71 = .ok (.iload_n 3, 1) := by decide +kernel
theorem dX11_lead_72 : decode cX11_lead 72 = .ok (.ireturn, 1) := by decide +kernel
theorem dX11_firstOf_0 : decode cX11_firstOf 0 = .ok (.bipush (-6), 2) := by decide +kernel
theorem dX11_firstOf_2 : decode cX11_firstOf 2 = .ok (.istore_n 3, 1) := by decide +kernel
theorem dX11_firstOf_3 : decode cX11_firstOf 3 = .ok (.iconst 0, 1) := by decide +kernel
theorem dX11_firstOf_4 : decode cX11_firstOf 4 = .ok (.istore 4, 2) := by decide +kernel
theorem dX11_firstOf_6 : decode cX11_firstOf 6 = .ok (.iload 4, 2) := by decide +kernel
theorem dX11_firstOf_8 : decode cX11_firstOf 8 = .ok (.aload_n 0, 1) := by decide +kernel
theorem dX11_firstOf_9 : decode cX11_firstOf 9 = .ok (.getfield 136, 3) := by decide +kernel
theorem dX11_firstOf_12 : decode cX11_firstOf 12 = .ok (.if_icmp .ge 100, 3) := by decide +kernel
theorem dX11_firstOf_15 : decode cX11_firstOf 15 = .ok (.aload_n 0, 1) := by decide +kernel
theorem dX11_firstOf_16 : decode cX11_firstOf 16 = .ok (.getfield 31, 3) := by decide +kernel
theorem dX11_firstOf_19 : decode cX11_firstOf 19 = .ok (.bipush 7, 2) := by decide +kernel
theorem dX11_firstOf_21 : decode cX11_firstOf 21 = .ok (.iload 4, 2) := by decide +kernel
theorem dX11_firstOf_23 : decode cX11_firstOf 23 = .ok (.imul, 1) := by decide +kernel
theorem dX11_firstOf_24 : decode cX11_firstOf 24 = .ok (.iconst 1, 1) := by decide +kernel
theorem dX11_firstOf_25 : decode cX11_firstOf 25 = .ok (.iadd, 1) := by decide +kernel
theorem dX11_firstOf_26 : decode cX11_firstOf 26 = .ok (.iaload, 1) := by decide +kernel
theorem dX11_firstOf_27 : decode cX11_firstOf 27 = .ok (.iload_n 1, 1) := by decide +kernel
theorem dX11_firstOf_28 : decode cX11_firstOf 28 = .ok (.if_icmp .ne 33, 3) := by decide +kernel
theorem dX11_firstOf_31 : decode cX11_firstOf 31 = .ok (.aload_n 0, 1) := by decide +kernel
theorem dX11_firstOf_32 : decode cX11_firstOf 32 = .ok (.getfield 85, 3) := by decide +kernel
theorem dX11_firstOf_35 : decode cX11_firstOf 35 = .ok (.iload 4, 2) := by decide +kernel
theorem dX11_firstOf_37 : decode cX11_firstOf 37 = .ok (.iaload, 1) := by decide +kernel
theorem dX11_firstOf_38 : decode cX11_firstOf 38 = .ok (.ifCond .le 23, 3) := by decide +kernel
theorem dX11_firstOf_41 : decode cX11_firstOf 41 = .ok (.aload_n 0, 1) := by decide +kernel
theorem dX11_firstOf_42 : decode cX11_firstOf 42 = .ok (.getfield 31, 3) := by decide +kernel
theorem dX11_firstOf_45 : decode cX11_firstOf 45 = .ok (.bipush 7, 2) := by decide +kernel
theorem dX11_firstOf_47 : decode cX11_firstOf 47 = .ok (.iload 4, 2) := by decide +kernel
theorem dX11_firstOf_49 : decode cX11_firstOf 49 = .ok (.imul, 1) := by decide +kernel
theorem dX11_firstOf_50 : decode cX11_firstOf 50 = .ok (.iconst 2, 1) := by decide +kernel
theorem dX11_firstOf_51 : decode cX11_firstOf 51 = .ok (.iadd, 1) := by decide +kernel
theorem dX11_firstOf_52 : decode cX11_firstOf 52 = .ok (.iaload, 1) := by decide +kernel
theorem dX11_firstOf_53 : decode cX11_firstOf 53 = .ok (.iload_n 2, 1) := by decide +kernel
theorem dX11_firstOf_54 : decode cX11_firstOf 54 = .ok (.if_icmp .gt 7, 3) := by decide +kernel
theorem dX11_firstOf_57 : decode cX11_firstOf 57 = .ok (.iconst 1, 1) := by decide +kernel
theorem dX11_firstOf_58 : decode cX11_firstOf 58 = .ok (.goto 4, 3) := by decide +kernel
theorem dX11_firstOf_61 : decode cX11_firstOf 61 = .ok (.iconst 0, 1) := by decide +kernel
theorem dX11_firstOf_62 : decode cX11_firstOf 62 = .ok (.istore 5, 2) := by decide +kernel
theorem dX11_firstOf_64 : decode cX11_firstOf 64 = .ok (.iload 5, 2) := by decide +kernel
theorem dX11_firstOf_66 : decode cX11_firstOf 66 = .ok (.ifCond .eq 38, 3) := by decide +kernel
theorem dX11_firstOf_69 : decode cX11_firstOf 69 = .ok (.iload_n 3, 1) := by decide +kernel
theorem dX11_firstOf_70 : decode cX11_firstOf 70 = .ok (.ifCond .lt 29, 3) := by decide +kernel
theorem dX11_firstOf_73 : decode cX11_firstOf 73 = .ok (.aload_n 0, 1) := by decide +kernel
theorem dX11_firstOf_74 : decode cX11_firstOf 74 = .ok (.getfield 31, 3) := by decide +kernel
theorem dX11_firstOf_77 : decode cX11_firstOf 77 = .ok (.bipush 7, 2) := by decide +kernel
theorem dX11_firstOf_79 : decode cX11_firstOf 79 = .ok (.iload 4, 2) := by decide +kernel
theorem dX11_firstOf_81 : decode cX11_firstOf 81 = .ok (.imul, 1) := by decide +kernel
theorem dX11_firstOf_82 : decode cX11_firstOf 82 = .ok (.iconst 2, 1) := by decide +kernel
theorem dX11_firstOf_83 : decode cX11_firstOf 83 = .ok (.iadd, 1) := by decide +kernel
theorem dX11_firstOf_84 : decode cX11_firstOf 84 = .ok (.iaload, 1) := by decide +kernel
theorem dX11_firstOf_85 : decode cX11_firstOf 85 = .ok (.aload_n 0, 1) := by decide +kernel
theorem dX11_firstOf_86 : decode cX11_firstOf 86 = .ok (.getfield 31, 3) := by decide +kernel
theorem dX11_firstOf_89 : decode cX11_firstOf 89 = .ok (.bipush 7, 2) := by decide +kernel
theorem dX11_firstOf_91 : decode cX11_firstOf 91 = .ok (.iload_n 3, 1) := by decide +kernel
theorem dX11_firstOf_92 : decode cX11_firstOf 92 = .ok (.imul, 1) := by decide +kernel
theorem dX11_firstOf_93 : decode cX11_firstOf 93 = .ok (.iconst 2, 1) := by decide +kernel
theorem dX11_firstOf_94 : decode cX11_firstOf 94 = .ok (.iadd, 1) := by decide +kernel
theorem dX11_firstOf_95 : decode cX11_firstOf 95 = .ok (.iaload, 1) := by decide +kernel
theorem dX11_firstOf_96 : decode cX11_firstOf 96 = .ok (.if_icmp .ge 8, 3) := by decide +kernel
theorem dX11_firstOf_99 : decode cX11_firstOf 99 = .ok (.iload 4, 2) := by decide +kernel
theorem dX11_firstOf_101 : decode cX11_firstOf 101 = .ok (.goto 4, 3) := by decide +kernel
theorem dX11_firstOf_104 : decode cX11_firstOf 104 = .ok (.iload_n 3, 1) := by decide +kernel
theorem dX11_firstOf_105 : decode cX11_firstOf 105 = .ok (.istore_n 3, 1) := by decide +kernel
theorem dX11_firstOf_106 : decode cX11_firstOf 106 = .ok (.iinc 4 1, 3) := by decide +kernel
theorem dX11_firstOf_109 : decode cX11_firstOf 109 = .ok (.goto (-103), 3) := by decide +kernel
theorem dX11_firstOf_112 : decode cX11_firstOf 112 = .ok (.iload_n 3, 1) := by decide +kernel
theorem dX11_firstOf_113 : decode cX11_firstOf 113 = .ok (.ireturn, 1) := by decide +kernel
theorem dX11_nextHour_0 : decode cX11_nextHour 0 = .ok (.bipush (-6), 2) := by decide +kernel
theorem dX11_nextHour_2 : decode cX11_nextHour 2 = .ok (.istore_n 2, 1) := by decide +kernel
theorem dX11_nextHour_3 : decode cX11_nextHour 3 = .ok (.iconst 0, 1) := by decide +kernel
theorem dX11_nextHour_4 : decode cX11_nextHour 4 = .ok (.istore_n 3, 1) := by decide +kernel
theorem dX11_nextHour_5 : decode cX11_nextHour 5 = .ok (.iload_n 3, 1) := by decide +kernel
theorem dX11_nextHour_6 : decode cX11_nextHour 6 = .ok (.aload_n 0, 1) := by decide +kernel
theorem dX11_nextHour_7 : decode cX11_nextHour 7 = .ok (.getfield 136, 3) := by decide +kernel
theorem dX11_nextHour_10 : decode cX11_nextHour 10 = .ok (.if_icmp .ge 80, 3) := by decide +kernel
theorem dX11_nextHour_13 : decode cX11_nextHour 13 = .ok (.aload_n 0, 1) := by decide +kernel
theorem dX11_nextHour_14 : decode cX11_nextHour 14 = .ok (.getfield 31, 3) := by decide +kernel
theorem dX11_nextHour_17 : decode cX11_nextHour 17 = .ok (.bipush 7, 2) := by decide +kernel
theorem dX11_nextHour_19 : decode cX11_nextHour 19 = .ok (.iload_n 3, 1) := by decide +kernel
theorem dX11_nextHour_20 : decode cX11_nextHour 20 = .ok (.imul, 1) := by decide +kernel
theorem dX11_nextHour_21 : decode cX11_nextHour 21 = .ok (.iconst 1, 1) := by decide +kernel
theorem dX11_nextHour_22 : decode cX11_nextHour 22 = .ok (.iadd, 1) := by decide +kernel
theorem dX11_nextHour_23 : decode cX11_nextHour 23 = .ok (.iaload, 1) := by decide +kernel
theorem dX11_nextHour_24 : decode cX11_nextHour 24 = .ok (.iload_n 1, 1) := by decide +kernel
theorem dX11_nextHour_25 : decode cX11_nextHour 25 = .ok (.if_icmp .ne 16, 3) := by decide +kernel
theorem dX11_nextHour_28 : decode cX11_nextHour 28 = .ok (.aload_n 0, 1) := by decide +kernel
theorem dX11_nextHour_29 : decode cX11_nextHour 29 = .ok (.getfield 85, 3) := by decide +kernel
theorem dX11_nextHour_32 : decode cX11_nextHour 32 = .ok (.iload_n 3, 1) := by decide +kernel
theorem dX11_nextHour_33 : decode cX11_nextHour 33 = .ok (.iaload, 1) := by decide +kernel
theorem dX11_nextHour_34 : decode cX11_nextHour 34 = .ok (.ifCond .le 7, 3) := by decide +kernel
theorem dX11_nextHour_37 : decode cX11_nextHour 37 = .ok (.iconst 1, 1) := by decide +kernel
theorem dX11_nextHour_38 : decode cX11_nextHour 38 = .ok (.goto 4, 3) := by decide +kernel
theorem dX11_nextHour_41 : decode cX11_nextHour 41 = .ok (.iconst 0, 1) := by decide +kernel
theorem dX11_nextHour_42 : decode cX11_nextHour 42 = .ok (.istore 4, 2) := by decide +kernel
theorem dX11_nextHour_44 : decode cX11_nextHour 44 = .ok (.iload 4, 2) := by decide +kernel
theorem dX11_nextHour_46 : decode cX11_nextHour 46 = .ok (.ifCond .eq 36, 3) := by decide +kernel
theorem dX11_nextHour_49 : decode cX11_nextHour 49 = .ok (.iload_n 2, 1) := by decide +kernel
theorem dX11_nextHour_50 : decode cX11_nextHour 50 = .ok (.ifCond .lt 18, 3) := by decide +kernel
theorem dX11_nextHour_53 : decode cX11_nextHour 53 = .ok (.aload_n 0, 1) := by decide +kernel
theorem dX11_nextHour_54 : decode cX11_nextHour 54 = .ok (.getfield 31, 3) := by decide +kernel
theorem dX11_nextHour_57 : decode cX11_nextHour 57 = .ok (.bipush 7, 2) := by decide +kernel
theorem dX11_nextHour_59 : decode cX11_nextHour 59 = .ok (.iload_n 3, 1) := by decide +kernel
theorem dX11_nextHour_60 : decode cX11_nextHour 60 = .ok (.imul, 1) := by decide +kernel
theorem dX11_nextHour_61 : decode cX11_nextHour 61 = .ok (.iconst 2, 1) := by decide +kernel
theorem dX11_nextHour_62 : decode cX11_nextHour 62 = .ok (.iadd, 1) := by decide +kernel
theorem dX11_nextHour_63 : decode cX11_nextHour 63 = .ok (.iaload, 1) := by decide +kernel
theorem dX11_nextHour_64 : decode cX11_nextHour 64 = .ok (.iload_n 2, 1) := by decide +kernel
theorem dX11_nextHour_65 : decode cX11_nextHour 65 = .ok (.if_icmp .ge 17, 3) := by decide +kernel
theorem dX11_nextHour_68 : decode cX11_nextHour 68 = .ok (.aload_n 0, 1) := by decide +kernel
theorem dX11_nextHour_69 : decode cX11_nextHour 69 = .ok (.getfield 31, 3) := by decide +kernel
theorem dX11_nextHour_72 : decode cX11_nextHour 72 = .ok (.bipush 7, 2) := by decide +kernel
theorem dX11_nextHour_74 : decode cX11_nextHour 74 = .ok (.iload_n 3, 1) := by decide +kernel
theorem dX11_nextHour_75 : decode cX11_nextHour 75 = .ok (.imul, 1) := by decide +kernel
theorem dX11_nextHour_76 : decode cX11_nextHour 76 = .ok (.iconst 2, 1) := by decide +kernel
theorem dX11_nextHour_77 : decode cX11_nextHour 77 = .ok (.iadd, 1) := by decide +kernel
theorem dX11_nextHour_78 : decode cX11_nextHour 78 = .ok (.iaload, 1) := by decide +kernel
theorem dX11_nextHour_79 : decode cX11_nextHour 79 = .ok (.goto 4, 3) := by decide +kernel
theorem dX11_nextHour_82 : decode cX11_nextHour 82 = .ok (.iload_n 2, 1) := by decide +kernel
theorem dX11_nextHour_83 : decode cX11_nextHour 83 = .ok (.istore_n 2, 1) := by decide +kernel
theorem dX11_nextHour_84 : decode cX11_nextHour 84 = .ok (.iinc 3 1, 3) := by decide +kernel
theorem dX11_nextHour_87 : decode cX11_nextHour 87 = .ok (.goto (-82), 3) := by decide +kernel
theorem dX11_nextHour_90 : decode cX11_nextHour 90 = .ok (.iload_n 2, 1) := by decide +kernel
theorem dX11_nextHour_91 : decode cX11_nextHour 91 = .ok (.ireturn, 1) := by decide +kernel
theorem dX11_workQuay_0 : decode cX11_workQuay 0 = .ok (.aload_n 0, 1) := by decide +kernel
theorem dX11_workQuay_1 : decode cX11_workQuay 1 = .ok (.iconst 0, 1) := by decide +kernel
theorem dX11_workQuay_2 : decode cX11_workQuay 2 = .ok (.putfield 145, 3) := by decide +kernel
theorem dX11_workQuay_5 : decode cX11_workQuay 5 = .ok (.aload_n 0, 1) := by decide +kernel
theorem dX11_workQuay_6 : decode cX11_workQuay 6 = .ok (.iconst 0, 1) := by decide +kernel
theorem dX11_workQuay_7 : decode cX11_workQuay 7 = .ok (.putfield 148, 3) := by decide +kernel
theorem dX11_workQuay_10 : decode cX11_workQuay 10 = .ok (.aload_n 0, 1) := by decide +kernel
theorem dX11_workQuay_11 : decode cX11_workQuay 11 = .ok (.iconst 0, 1) := by decide +kernel
theorem dX11_workQuay_12 : decode cX11_workQuay 12 = .ok (.putfield 151, 3) := by decide +kernel
theorem dX11_workQuay_15 : decode cX11_workQuay 15 = .ok (.iconst 0, 1) := by decide +kernel
theorem dX11_workQuay_16 : decode cX11_workQuay 16 = .ok (.istore_n 2, 1) := by decide +kernel
theorem dX11_workQuay_17 : decode cX11_workQuay 17 = .ok (.iload_n 2, 1) := by decide +kernel
theorem dX11_workQuay_18 : decode cX11_workQuay 18 = .ok (.aload_n 0, 1) := by decide +kernel
theorem dX11_workQuay_19 : decode cX11_workQuay 19 = .ok (.getfield 136, 3) := by decide +kernel
theorem dX11_workQuay_22 : decode cX11_workQuay 22 = .ok (.if_icmp .ge 86, 3) := by decide +kernel
theorem dX11_workQuay_25 : decode cX11_workQuay 25 = .ok (.aload_n 0, 1) := by decide +kernel
theorem dX11_workQuay_26 : decode cX11_workQuay 26 = .ok (.getfield 85, 3) := by decide +kernel
theorem dX11_workQuay_29 : decode cX11_workQuay 29 = .ok (.iload_n 2, 1) := by decide +kernel
theorem dX11_workQuay_30 : decode cX11_workQuay 30 = .ok (.aload_n 0, 1) := by decide +kernel
theorem dX11_workQuay_31 : decode cX11_workQuay 31 = .ok (.getfield 31, 3) := by decide +kernel
theorem dX11_workQuay_34 : decode cX11_workQuay 34 = .ok (.bipush 7, 2) := by decide +kernel
theorem dX11_workQuay_36 : decode cX11_workQuay 36 = .ok (.iload_n 2, 1) := by decide +kernel
theorem dX11_workQuay_37 : decode cX11_workQuay 37 = .ok (.imul, 1) := by decide +kernel
theorem dX11_workQuay_38 : decode cX11_workQuay 38 = .ok (.iconst 1, 1) := by decide +kernel
theorem dX11_workQuay_39 : decode cX11_workQuay 39 = .ok (.iadd, 1) := by decide +kernel
theorem dX11_workQuay_40 : decode cX11_workQuay 40 = .ok (.iaload, 1) := by decide +kernel
theorem dX11_workQuay_41 : decode cX11_workQuay 41 = .ok (.iload_n 1, 1) := by decide +kernel
theorem dX11_workQuay_42 : decode cX11_workQuay 42 = .ok (.if_icmp .ne 17, 3) := by decide +kernel
theorem dX11_workQuay_45 : decode cX11_workQuay 45 = .ok (.aload_n 0, 1) := by decide +kernel
theorem dX11_workQuay_46 : decode cX11_workQuay 46 = .ok (.getfield 31, 3) := by decide +kernel
theorem dX11_workQuay_49 : decode cX11_workQuay 49 = .ok (.bipush 7, 2) := by decide +kernel
theorem dX11_workQuay_51 : decode cX11_workQuay 51 = .ok (.iload_n 2, 1) := by decide +kernel
theorem dX11_workQuay_52 : decode cX11_workQuay 52 = .ok (.imul, 1) := by decide +kernel
theorem dX11_workQuay_53 : decode cX11_workQuay 53 = .ok (.iconst 3, 1) := by decide +kernel
theorem dX11_workQuay_54 : decode cX11_workQuay 54 = .ok (.iadd, 1) := by decide +kernel
theorem dX11_workQuay_55 : decode cX11_workQuay 55 = .ok (.iaload, 1) := by decide +kernel
theorem dX11_workQuay_56 : decode cX11_workQuay 56 = .ok (.goto 4, 3) := by decide +kernel
theorem dX11_workQuay_59 : decode cX11_workQuay 59 = .ok (.iconst 0, 1) := by decide +kernel
theorem dX11_workQuay_60 : decode cX11_workQuay 60 = .ok (.iastore, 1) := by decide +kernel
theorem dX11_workQuay_61 : decode cX11_workQuay 61 = .ok (.aload_n 0, 1) := by decide +kernel
theorem dX11_workQuay_62 : decode cX11_workQuay 62 = .ok (.getfield 31, 3) := by decide +kernel
theorem dX11_workQuay_65 : decode cX11_workQuay 65 = .ok (.bipush 7, 2) := by decide +kernel
theorem dX11_workQuay_67 : decode cX11_workQuay 67 = .ok (.iload_n 2, 1) := by decide +kernel
theorem dX11_workQuay_68 : decode cX11_workQuay 68 = .ok (.imul, 1) := by decide +kernel
theorem dX11_workQuay_69 : decode cX11_workQuay 69 = .ok (.iconst 1, 1) := by decide +kernel
theorem dX11_workQuay_70 : decode cX11_workQuay 70 = .ok (.iadd, 1) := by decide +kernel
theorem dX11_workQuay_71 : decode cX11_workQuay 71 = .ok (.iaload, 1) := by decide +kernel
theorem dX11_workQuay_72 : decode cX11_workQuay 72 = .ok (.iload_n 1, 1) := by decide +kernel
theorem dX11_workQuay_73 : decode cX11_workQuay 73 = .ok (.if_icmp .ne 29, 3) := by decide +kernel
theorem dX11_workQuay_76 : decode cX11_workQuay 76 = .ok (.aload_n 0, 1) := by decide +kernel
theorem dX11_workQuay_77 : decode cX11_workQuay 77 = .ok (.getfield 31, 3) := by decide +kernel
theorem dX11_workQuay_80 : decode cX11_workQuay 80 = .ok (.bipush 7, 2) := by decide +kernel
theorem dX11_workQuay_82 : decode cX11_workQuay 82 = .ok (.iload_n 2, 1) := by decide +kernel
theorem dX11_workQuay_83 : decode cX11_workQuay 83 = .ok (.imul, 1) := by decide +kernel
theorem dX11_workQuay_84 : decode cX11_workQuay 84 = .ok (.iconst 5, 1) := by decide +kernel
theorem dX11_workQuay_85 : decode cX11_workQuay 85 = .ok (.iadd, 1) := by decide +kernel
theorem dX11_workQuay_86 : decode cX11_workQuay 86 = .ok (.iconst 0, 1) := by decide +kernel
theorem dX11_workQuay_87 : decode cX11_workQuay 87 = .ok (.iastore, 1) := by decide +kernel
theorem dX11_workQuay_88 : decode cX11_workQuay 88 = .ok (.aload_n 0, 1) := by decide +kernel
theorem dX11_workQuay_89 : decode cX11_workQuay 89 = .ok (.getfield 31, 3) := by decide +kernel
theorem dX11_workQuay_92 : decode cX11_workQuay 92 = .ok (.bipush 7, 2) := by decide +kernel
theorem dX11_workQuay_94 : decode cX11_workQuay 94 = .ok (.iload_n 2, 1) := by decide +kernel
theorem dX11_workQuay_95 : decode cX11_workQuay 95 = .ok (.imul, 1) := by decide +kernel
theorem dX11_workQuay_96 : decode cX11_workQuay 96 = .ok (.bipush 6, 2) := by decide +kernel
theorem dX11_workQuay_98 : decode cX11_workQuay 98 = .ok (.iadd, 1) := by decide +kernel
theorem dX11_workQuay_99 : decode cX11_workQuay 99 = .ok (.bipush (-6), 2) := by decide +kernel
theorem dX11_workQuay_101 : decode cX11_workQuay 101 = .ok (.iastore, 1) := by decide +kernel
theorem dX11_workQuay_102 : decode cX11_workQuay 102 = .ok (.iinc 2 1, 3) := by decide +kernel
theorem dX11_workQuay_105 : decode cX11_workQuay 105 = .ok (.goto (-88), 3) := by decide +kernel
theorem dX11_workQuay_108 : decode cX11_workQuay 108 = .ok (.aload_n 0, 1) := by decide +kernel
theorem dX11_workQuay_109 : decode cX11_workQuay 109 = .ok (.iload_n 1, 1) := by decide +kernel
theorem dX11_workQuay_110 : decode cX11_workQuay 110 = .ok (.invokevirtual 154, 3) := by decide +kernel
theorem dX11_workQuay_113 : decode cX11_workQuay 113 = .ok (.istore_n 2, 1) := by decide +kernel
theorem dX11_workQuay_114 : decode cX11_workQuay 114 = .ok (.iload_n 2, 1) := by decide +kernel
theorem dX11_workQuay_115 : decode cX11_workQuay 115 = .ok (.ifCond .lt 274, 3) := by decide +kernel
theorem dX11_workQuay_118 : decode cX11_workQuay 118 = .ok (.iconst 0, 1) := by decide +kernel
theorem dX11_workQuay_119 : decode cX11_workQuay 119 = .ok (.istore_n 3, 1) := by decide +kernel
theorem dX11_workQuay_120 : decode cX11_workQuay 120 = .ok (.iload_n 3, 1) := by decide +kernel
theorem dX11_workQuay_121 : decode cX11_workQuay 121 = .ok (.aload_n 0, 1) := by decide +kernel
theorem dX11_workQuay_122 : decode cX11_workQuay 122 = .ok (.getfield 136, 3) := by decide +kernel
theorem dX11_workQuay_125 : decode cX11_workQuay 125 = .ok (.if_icmp .ge 79, 3) := by decide +kernel
theorem dX11_workQuay_128 : decode cX11_workQuay 128 = .ok (.aload_n 0, 1) := by decide +kernel
theorem dX11_workQuay_129 : decode cX11_workQuay 129 = .ok (.getfield 85, 3) := by decide +kernel
theorem dX11_workQuay_132 : decode cX11_workQuay 132 = .ok (.iload_n 3, 1) := by decide +kernel
theorem dX11_workQuay_133 : decode cX11_workQuay 133 = .ok (.iaload, 1) := by decide +kernel
theorem dX11_workQuay_134 : decode cX11_workQuay 134 = .ok (.ifCond .le 64, 3) := by decide +kernel
theorem dX11_workQuay_137 : decode cX11_workQuay 137 = .ok (.aload_n 0, 1) := by decide +kernel
theorem dX11_workQuay_138 : decode cX11_workQuay 138 = .ok (.getfield 31, 3) := by decide +kernel
theorem dX11_workQuay_141 : decode cX11_workQuay 141 = .ok (.bipush 7, 2) := by decide +kernel
theorem dX11_workQuay_143 : decode cX11_workQuay 143 = .ok (.iload_n 3, 1) := by decide +kernel
theorem dX11_workQuay_144 : decode cX11_workQuay 144 = .ok (.imul, 1) := by decide +kernel
theorem dX11_workQuay_145 : decode cX11_workQuay 145 = .ok (.iconst 2, 1) := by decide +kernel
theorem dX11_workQuay_146 : decode cX11_workQuay 146 = .ok (.iadd, 1) := by decide +kernel
theorem dX11_workQuay_147 : decode cX11_workQuay 147 = .ok (.iaload, 1) := by decide +kernel
theorem dX11_workQuay_148 : decode cX11_workQuay 148 = .ok (.aload_n 0, 1) := by decide +kernel
theorem dX11_workQuay_149 : decode cX11_workQuay 149 = .ok (.getfield 28, 3) := by decide +kernel
theorem dX11_workQuay_152 : decode cX11_workQuay 152 = .ok (.iconst 0, 1) := by decide +kernel
theorem dX11_workQuay_153 : decode cX11_workQuay 153 = .ok (.iaload, 1) := by decide +kernel
theorem dX11_workQuay_154 : decode cX11_workQuay 154 = .ok (.iadd, 1) := by decide +kernel
theorem dX11_workQuay_155 : decode cX11_workQuay 155 = .ok (.iload_n 2, 1) := by decide +kernel
theorem dX11_workQuay_156 : decode cX11_workQuay 156 = .ok (.if_icmp .gt 42, 3) := by decide +kernel
theorem dX11_workQuay_159 : decode cX11_workQuay 159 = .ok (.aload_n 0, 1) := by decide +kernel
theorem dX11_workQuay_160 : decode cX11_workQuay 160 = .ok (.getfield 31, 3) := by decide +kernel
theorem dX11_workQuay_163 : decode cX11_workQuay 163 = .ok (.bipush 7, 2) := by decide +kernel
theorem dX11_workQuay_165 : decode cX11_workQuay 165 = .ok (.iload_n 3, 1) := by decide +kernel
theorem dX11_workQuay_166 : decode cX11_workQuay 166 = .ok (.imul, 1) := by decide +kernel
theorem dX11_workQuay_167 : decode cX11_workQuay 167 = .ok (.iconst 5, 1) := by decide +kernel
theorem dX11_workQuay_168 : decode cX11_workQuay 168 = .ok (.iadd, 1) := by decide +kernel
theorem dX11_workQuay_169 : decode cX11_workQuay 169 = .ok (.aload_n 0, 1) := by decide +kernel
theorem dX11_workQuay_170 : decode cX11_workQuay 170 = .ok (.getfield 85, 3) := by decide +kernel
theorem dX11_workQuay_173 : decode cX11_workQuay 173 = .ok (.iload_n 3, 1) := by decide +kernel
theorem dX11_workQuay_174 : decode cX11_workQuay 174 = .ok (.iaload, 1) := by decide +kernel
theorem dX11_workQuay_175 : decode cX11_workQuay 175 = .ok (.iastore, 1) := by decide +kernel
theorem dX11_workQuay_176 : decode cX11_workQuay 176 = .ok (.aload_n 0, 1) := by decide +kernel
theorem dX11_workQuay_177 : decode cX11_workQuay 177 = .ok (.dup, 1) := by decide +kernel
theorem dX11_workQuay_178 : decode cX11_workQuay 178 = .ok (.getfield 151, 3) := by decide +kernel
theorem dX11_workQuay_181 : decode cX11_workQuay 181 = .ok (.aload_n 0, 1) := by decide +kernel
theorem dX11_workQuay_182 : decode cX11_workQuay 182 = .ok (.getfield 85, 3) := by decide +kernel
theorem dX11_workQuay_185 : decode cX11_workQuay 185 = .ok (.iload_n 3, 1) := by decide +kernel
theorem dX11_workQuay_186 : decode cX11_workQuay 186 = .ok (.iaload, 1) := by decide +kernel
theorem dX11_workQuay_187 : decode cX11_workQuay 187 = .ok (.iadd, 1) := by decide +kernel
theorem dX11_workQuay_188 : decode cX11_workQuay 188 = .ok (.putfield 151, 3) := by decide +kernel
theorem dX11_workQuay_191 : decode cX11_workQuay 191 = .ok (.aload_n 0, 1) := by decide +kernel
theorem dX11_workQuay_192 : decode cX11_workQuay 192 = .ok (.getfield 85, 3) := by decide +kernel
theorem dX11_workQuay_195 : decode cX11_workQuay 195 = .ok (.iload_n 3, 1) := by decide +kernel
theorem dX11_workQuay_196 : decode cX11_workQuay 196 = .ok (.iconst 0, 1) := by decide +kernel
theorem dX11_workQuay_197 : decode cX11_workQuay 197 = .ok (.iastore, 1) := by decide +kernel
theorem dX11_workQuay_198 : decode cX11_workQuay 198 = .ok (.iinc 3 1, 3) := by decide +kernel
theorem dX11_workQuay_201 : decode cX11_workQuay 201 = .ok (.goto (-81), 3) := by decide +kernel
theorem dX11_workQuay_204 : decode cX11_workQuay 204 = .ok (.aload_n 0, 1) := by decide +kernel
theorem dX11_workQuay_205 : decode cX11_workQuay 205 = .ok (.getfield 22, 3) := by decide +kernel
theorem dX11_workQuay_208 : decode cX11_workQuay 208 = .ok (.iload_n 1, 1) := by decide +kernel
theorem dX11_workQuay_209 : decode cX11_workQuay 209 = .ok (.iaload, 1) := by decide +kernel
theorem dX11_workQuay_210 : decode cX11_workQuay 210 = .ok (.aload_n 0, 1) := by decide +kernel
theorem dX11_workQuay_211 : decode cX11_workQuay 211 = .ok (.getfield 25, 3) := by decide +kernel
theorem dX11_workQuay_214 : decode cX11_workQuay 214 = .ok (.iload_n 1, 1) := by decide +kernel
theorem dX11_workQuay_215 : decode cX11_workQuay 215 = .ok (.iaload, 1) := by decide +kernel
theorem dX11_workQuay_216 : decode cX11_workQuay 216 = .ok (.imul, 1) := by decide +kernel
theorem dX11_workQuay_217 : decode cX11_workQuay 217 = .ok (.istore_n 3, 1) := by decide +kernel
theorem dX11_workQuay_218 : decode cX11_workQuay 218 = .ok (.aload_n 0, 1) := by decide +kernel
theorem dX11_workQuay_219 : decode cX11_workQuay 219 = .ok (.iload_n 1, 1) := by decide +kernel
theorem dX11_workQuay_220 : decode cX11_workQuay 220 = .ok (.iload_n 2, 1) := by decide +kernel
theorem dX11_workQuay_221 : decode cX11_workQuay 221 = .ok (.invokevirtual 157, 3) := by decide +kernel
theorem dX11_workQuay_224 : decode cX11_workQuay 224 = .ok (.istore 4, 2) := by decide +kernel
theorem dX11_workQuay_226 : decode cX11_workQuay 226 = .ok (.iload 4, 2) := by decide +kernel
theorem dX11_workQuay_228 : decode cX11_workQuay 228 = .ok (.ifCond .lt 126, 3) := by decide +kernel
theorem dX11_workQuay_231 : decode cX11_workQuay 231 = .ok (.iload_n 3, 1) := by decide +kernel
theorem dX11_workQuay_232 : decode cX11_workQuay 232 = .ok (.ifCond .le 122, 3) := by decide +kernel
theorem dX11_workQuay_235 : decode cX11_workQuay 235 = .ok (.aload_n 0, 1) := by decide +kernel
theorem dX11_workQuay_236 : decode cX11_workQuay 236 = .ok (.getfield 85, 3) := by decide +kernel
theorem dX11_workQuay_239 : decode cX11_workQuay 239 = .ok (.iload 4, 2) := by decide +kernel
theorem dX11_workQuay_241 : decode cX11_workQuay 241 = .ok (.iaload, 1) := by decide +kernel
theorem dX11_workQuay_242 : decode cX11_workQuay 242 = .ok (.iload_n 3, 1) := by decide +kernel
theorem dX11_workQuay_243 : decode cX11_workQuay 243 = .ok (.if_icmp .ge 13, 3) := by decide +kernel
theorem dX11_workQuay_246 : decode cX11_workQuay 246 = .ok (.aload_n 0, 1) := by decide +kernel
theorem dX11_workQuay_247 : decode cX11_workQuay 247 = .ok (.getfield 85, 3) := by decide +kernel
theorem dX11_workQuay_250 : decode cX11_workQuay 250 = .ok (.iload 4, 2) := by decide +kernel
theorem dX11_workQuay_252 : decode cX11_workQuay 252 = .ok (.iaload, 1) := by decide +kernel
theorem dX11_workQuay_253 : decode cX11_workQuay 253 = .ok (.goto 4, 3) := by decide +kernel
theorem dX11_workQuay_256 : decode cX11_workQuay 256 = .ok (.iload_n 3, 1) := by decide +kernel
theorem dX11_workQuay_257 : decode cX11_workQuay 257 = .ok (.istore 5, 2) := by decide +kernel
theorem dX11_workQuay_259 : decode cX11_workQuay 259 = .ok (.aload_n 0, 1) := by decide +kernel
theorem dX11_workQuay_260 : decode cX11_workQuay 260 = .ok (.getfield 76, 3) := by decide +kernel
theorem dX11_workQuay_263 : decode cX11_workQuay 263 = .ok (.aload_n 0, 1) := by decide +kernel
theorem dX11_workQuay_264 : decode cX11_workQuay 264 = .ok (.getfield 145, 3) := by decide +kernel
theorem dX11_workQuay_267 : decode cX11_workQuay 267 = .ok (.iload 4, 2) := by decide +kernel
theorem dX11_workQuay_269 : decode cX11_workQuay 269 = .ok (.iastore, 1) := by decide +kernel
theorem dX11_workQuay_270 : decode cX11_workQuay 270 = .ok (.aload_n 0, 1) := by decide +kernel
theorem dX11_workQuay_271 : decode cX11_workQuay 271 = .ok (.getfield 79, 3) := by decide +kernel
theorem dX11_workQuay_274 : decode cX11_workQuay 274 = .ok (.aload_n 0, 1) := by decide +kernel
theorem dX11_workQuay_275 : decode cX11_workQuay 275 = .ok (.getfield 145, 3) := by decide +kernel
theorem dX11_workQuay_278 : decode cX11_workQuay 278 = .ok (.iload_n 2, 1) := by decide +kernel
theorem dX11_workQuay_279 : decode cX11_workQuay 279 = .ok (.iastore, 1) := by decide +kernel
theorem dX11_workQuay_280 : decode cX11_workQuay 280 = .ok (.aload_n 0, 1) := by decide +kernel
theorem dX11_workQuay_281 : decode cX11_workQuay 281 = .ok (.getfield 82, 3) := by decide +kernel
theorem dX11_workQuay_284 : decode cX11_workQuay 284 = .ok (.aload_n 0, 1) := by decide +kernel
theorem dX11_workQuay_285 : decode cX11_workQuay 285 = .ok (.getfield 145, 3) := by decide +kernel
theorem dX11_workQuay_288 : decode cX11_workQuay 288 = .ok (.iload 5, 2) := by decide +kernel
theorem dX11_workQuay_290 : decode cX11_workQuay 290 = .ok (.iastore, 1) := by decide +kernel
theorem dX11_workQuay_291 : decode cX11_workQuay 291 = .ok (.aload_n 0, 1) := by decide +kernel
theorem dX11_workQuay_292 : decode cX11_workQuay 292 = .ok (.dup, 1) := by decide +kernel
theorem dX11_workQuay_293 : decode cX11_workQuay 293 = .ok (.getfield 145, 3) := by decide +kernel
theorem dX11_workQuay_296 : decode cX11_workQuay 296 = .ok (.iconst 1, 1) := by decide +kernel
theorem dX11_workQuay_297 : decode cX11_workQuay 297 = .ok (.iadd, 1) := by decide +kernel
theorem dX11_workQuay_298 : decode cX11_workQuay 298 = .ok (.putfield 145, 3) := by decide +kernel
theorem dX11_workQuay_301 : decode cX11_workQuay 301 = .ok (.aload_n 0, 1) := by decide +kernel
theorem dX11_workQuay_302 : decode cX11_workQuay 302 = .ok (.getfield 85, 3) := by decide +kernel
theorem dX11_workQuay_305 : decode cX11_workQuay 305 = .ok (.iload 4, 2) := by decide +kernel
theorem dX11_workQuay_307 : decode cX11_workQuay 307 = .ok (.dup2, 1) := by decide +kernel
theorem dX11_workQuay_308 : decode cX11_workQuay 308 = .ok (.iaload, 1) := by decide +kernel
theorem dX11_workQuay_309 : decode cX11_workQuay 309 = .ok (.iload 5, 2) := by decide +kernel
theorem dX11_workQuay_311 : decode cX11_workQuay 311 = .ok (.isub, 1) := by decide +kernel
theorem dX11_workQuay_312 : decode cX11_workQuay 312 = .ok (.iastore, 1) := by decide +kernel
theorem dX11_workQuay_313 : decode cX11_workQuay 313 = .ok (.iload_n 3, 1) := by decide +kernel
theorem dX11_workQuay_314 : decode cX11_workQuay 314 = .ok (.iload 5, 2) := by decide +kernel
theorem dX11_workQuay_316 : decode cX11_workQuay 316 = .ok (.isub, 1) := by decide +kernel
theorem dX11_workQuay_317 : decode cX11_workQuay 317 = .ok (.istore_n 3, 1) := by decide +kernel
theorem dX11_workQuay_318 : decode cX11_workQuay 318 = .ok (.aload_n 0, 1) := by decide +kernel
theorem dX11_workQuay_319 : decode cX11_workQuay 319 = .ok (.dup, 1) := by decide +kernel
theorem dX11_workQuay_320 : decode cX11_workQuay 320 = .ok (.getfield 148, 3) := by decide +kernel
theorem dX11_workQuay_323 : decode cX11_workQuay 323 = .ok (.iload 5, 2) := by decide +kernel
theorem dX11_workQuay_325 : decode cX11_workQuay 325 = .ok (.iadd, 1) := by decide +kernel
theorem dX11_workQuay_326 : decode cX11_workQuay 326 = .ok (.putfield 148, 3) := by decide +kernel
theorem dX11_workQuay_329 : decode cX11_workQuay 329 = .ok (.aload_n 0, 1) := by decide +kernel
theorem dX11_workQuay_330 : decode cX11_workQuay 330 = .ok (.getfield 31, 3) := by decide +kernel
theorem dX11_workQuay_333 : decode cX11_workQuay 333 = .ok (.bipush 7, 2) := by decide +kernel
theorem dX11_workQuay_335 : decode cX11_workQuay 335 = .ok (.iload 4, 2) := by decide +kernel
theorem dX11_workQuay_337 : decode cX11_workQuay 337 = .ok (.imul, 1) := by decide +kernel
theorem dX11_workQuay_338 : decode cX11_workQuay 338 = .ok (.bipush 6, 2) := by decide +kernel
theorem dX11_workQuay_340 : decode cX11_workQuay 340 = .ok (.iadd, 1) := by decide +kernel
theorem dX11_workQuay_341 : decode cX11_workQuay 341 = .ok (.iload_n 2, 1) := by decide +kernel
theorem dX11_workQuay_342 : decode cX11_workQuay 342 = .ok (.iastore, 1) := by decide +kernel
theorem dX11_workQuay_343 : decode cX11_workQuay 343 = .ok (.aload_n 0, 1) := by decide +kernel
theorem dX11_workQuay_344 : decode cX11_workQuay 344 = .ok (.iload_n 1, 1) := by decide +kernel
theorem dX11_workQuay_345 : decode cX11_workQuay 345 = .ok (.iload_n 2, 1) := by decide +kernel
theorem dX11_workQuay_346 : decode cX11_workQuay 346 = .ok (.invokevirtual 157, 3) := by decide +kernel
theorem dX11_workQuay_349 : decode cX11_workQuay 349 = .ok (.istore 4, 2) := by decide +kernel
theorem dX11_workQuay_351 : decode cX11_workQuay 351 = .ok (.goto (-125), 3) := by decide +kernel
theorem dX11_workQuay_354 : decode cX11_workQuay 354 = .ok (.aload_n 0, 1) := by decide +kernel
theorem dX11_workQuay_355 : decode cX11_workQuay 355 = .ok (.iload_n 1, 1) := by decide +kernel
theorem dX11_workQuay_356 : decode cX11_workQuay 356 = .ok (.invokevirtual 154, 3) := by decide +kernel
theorem dX11_workQuay_359 : decode cX11_workQuay 359 = .ok (.istore 5, 2) := by decide +kernel
theorem dX11_workQuay_361 : decode cX11_workQuay 361 = .ok (.iload 5, 2) := by decide +kernel
theorem dX11_workQuay_363 : decode cX11_workQuay 363 = .ok (.ifCond .ge 8, 3) := by decide +kernel
theorem dX11_workQuay_366 : decode cX11_workQuay 366 = .ok (.bipush (-6), 2) := by decide +kernel
theorem dX11_workQuay_368 : decode cX11_workQuay 368 = .ok (.goto 17, 3) := by decide +kernel
theorem dX11_workQuay_371 : decode cX11_workQuay 371 = .ok (.iload 5, 2) := by decide +kernel
theorem dX11_workQuay_373 : decode cX11_workQuay 373 = .ok (.iload_n 2, 1) := by decide +kernel
theorem dX11_workQuay_374 : decode cX11_workQuay 374 = .ok (.if_icmp .le 8, 3) := by decide +kernel
theorem dX11_workQuay_377 : decode cX11_workQuay 377 = .ok (.iload 5, 2) := by decide +kernel
theorem dX11_workQuay_379 : decode cX11_workQuay 379 = .ok (.goto 6, 3) := by decide +kernel
theorem dX11_workQuay_382 : decode cX11_workQuay 382 = .ok (.iload_n 2, 1) := by decide +kernel
theorem dX11_workQuay_383 : decode cX11_workQuay 383 = .ok (.iconst 1, 1) := by decide +kernel
theorem dX11_workQuay_384 : decode cX11_workQuay 384 = .ok (.iadd, 1) := by decide +kernel
theorem dX11_workQuay_385 : decode cX11_workQuay 385 = .ok (.istore_n 2, 1) := by decide +kernel
theorem dX11_workQuay_386 : decode cX11_workQuay 386 = .ok (.goto (-272), 3) := by decide +kernel
theorem dX11_workQuay_389 : decode cX11_workQuay 389 = .ok (.return_, 1) := by decide +kernel
theorem dX11_landing_0 : decode cX11_landing 0 = .ok (.iload_n 1, 1) := by decide +kernel
theorem dX11_landing_1 : decode cX11_landing 1 = .ok (.iconst 0, 1) := by decide +kernel
theorem dX11_landing_2 : decode cX11_landing 2 = .ok (.aload_n 0, 1) := by decide +kernel
theorem dX11_landing_3 : decode cX11_landing 3 = .ok (.getfield 136, 3) := by decide +kernel
theorem dX11_landing_6 : decode cX11_landing 6 = .ok (.iconst 1, 1) := by decide +kernel
theorem dX11_landing_7 : decode cX11_landing 7 = .ok (.isub, 1) := by decide +kernel
theorem dX11_landing_8 : decode cX11_landing 8 = .ok (.invokestatic 94, 3) := by decide +kernel
theorem dX11_landing_11 : decode cX11_landing 11 = .ok (.ifCond .ne 5, 3) := by decide +kernel
theorem dX11_landing_14 : decode cX11_landing 14 = .ok (.iconst (-1), 1) := by decide +kernel
theorem dX11_landing_15 : decode cX11_landing 15 = .ok (.ireturn, 1) := by decide +kernel
theorem dX11_landing_16 : decode cX11_landing 16 = .ok (.iload_n 2, 1) := by decide +kernel
theorem dX11_landing_17 : decode cX11_landing 17 = .ok (.iconst 0, 1) := by decide +kernel
theorem dX11_landing_18 : decode cX11_landing 18 = .ok (.bipush 6, 2) := by decide +kernel
theorem dX11_landing_20 : decode cX11_landing 20 = .ok (.invokestatic 94, 3) := by decide +kernel
theorem dX11_landing_23 : decode cX11_landing 23 = .ok (.ifCond .ne 6, 3) := by decide +kernel
theorem dX11_landing_26 : decode cX11_landing 26 = .ok (.bipush (-2), 2) := by decide +kernel
theorem dX11_landing_28 : decode cX11_landing 28 = .ok (.ireturn, 1) := by decide +kernel
theorem dX11_landing_29 : decode cX11_landing 29 = .ok (.aload_n 0, 1) := by decide +kernel
theorem dX11_landing_30 : decode cX11_landing 30 = .ok (.getfield 31, 3) := by decide +kernel
theorem dX11_landing_33 : decode cX11_landing 33 = .ok (.bipush 7, 2) := by decide +kernel
theorem dX11_landing_35 : decode cX11_landing 35 = .ok (.iload_n 1, 1) := by decide +kernel
theorem dX11_landing_36 : decode cX11_landing 36 = .ok (.imul, 1) := by decide +kernel
theorem dX11_landing_37 : decode cX11_landing 37 = .ok (.iconst 1, 1) := by decide +kernel
theorem dX11_landing_38 : decode cX11_landing 38 = .ok (.iadd, 1) := by decide +kernel
theorem dX11_landing_39 : decode cX11_landing 39 = .ok (.iaload, 1) := by decide +kernel
theorem dX11_landing_40 : decode cX11_landing 40 = .ok (.istore_n 3, 1) := by decide +kernel
theorem dX11_landing_41 : decode cX11_landing 41 = .ok (.iload_n 2, 1) := by decide +kernel
theorem dX11_landing_42 : decode cX11_landing 42 = .ok (.iconst 4, 1) := by decide +kernel
theorem dX11_landing_43 : decode cX11_landing 43 = .ok (.if_icmp .le 19, 3) := by decide +kernel
theorem dX11_landing_46 : decode cX11_landing 46 = .ok (.iload_n 3, 1) := by decide +kernel
theorem dX11_landing_47 : decode cX11_landing 47 = .ok (.ifCond .ge 15, 3) := by decide +kernel
theorem dX11_landing_50 : decode cX11_landing 50 = .ok (.iload_n 2, 1) := by decide +kernel
theorem dX11_landing_51 : decode cX11_landing 51 = .ok (.iconst 5, 1) := by decide +kernel
theorem dX11_landing_52 : decode cX11_landing 52 = .ok (.if_icmp .ne 7, 3) := by decide +kernel
theorem dX11_landing_55 : decode cX11_landing 55 = .ok (.iconst 0, 1) := by decide +kernel
theorem dX11_landing_56 : decode cX11_landing 56 = .ok (.goto 5, 3) := by decide +kernel
theorem dX11_landing_59 : decode cX11_landing 59 = .ok (.bipush (-6), 2) := by decide +kernel
theorem dX11_landing_61 : decode cX11_landing 61 = .ok (.ireturn, 1) := by decide +kernel
theorem dX11_landing_62 : decode cX11_landing 62 = .ok (.iload_n 2, 1) := by decide +kernel
theorem dX11_landing_63 : decode cX11_landing 63 = .ok (.iconst 4, 1) := by decide +kernel
theorem dX11_landing_64 : decode cX11_landing 64 = .ok (.if_icmp .le 8, 3) := by decide +kernel
theorem dX11_landing_67 : decode cX11_landing 67 = .ok (.aload_n 0, 1) := by decide +kernel
theorem dX11_landing_68 : decode cX11_landing 68 = .ok (.iload_n 3, 1) := by decide +kernel
theorem dX11_landing_69 : decode cX11_landing 69 = .ok (.invokevirtual 160, 3) := by decide +kernel
theorem dX11_landing_72 : decode cX11_landing 72 = .ok (.aload_n 0, 1) := by decide +kernel
theorem dX11_landing_73 : decode cX11_landing 73 = .ok (.getfield 31, 3) := by decide +kernel
theorem dX11_landing_76 : decode cX11_landing 76 = .ok (.bipush 7, 2) := by decide +kernel
theorem dX11_landing_78 : decode cX11_landing 78 = .ok (.iload_n 1, 1) := by decide +kernel
theorem dX11_landing_79 : decode cX11_landing 79 = .ok (.imul, 1) := by decide +kernel
theorem dX11_landing_80 : decode cX11_landing 80 = .ok (.iload_n 2, 1) := by decide +kernel
theorem dX11_landing_81 : decode cX11_landing 81 = .ok (.iadd, 1) := by decide +kernel
theorem dX11_landing_82 : decode cX11_landing 82 = .ok (.iaload, 1) := by decide +kernel
theorem dX11_landing_83 : decode cX11_landing 83 = .ok (.ireturn, 1) := by decide +kernel
theorem dX11_salt_0 : decode cX11_salt 0 = .ok (.iload_n 1, 1) := by decide +kernel
theorem dX11_salt_1 : decode cX11_salt 1 = .ok (.invokestatic 133, 3) := by decide +kernel
theorem dX11_salt_4 : decode cX11_salt 4 = .ok (.ifCond .ne 5, 3) := by decide +kernel
theorem dX11_salt_7 : decode cX11_salt 7 = .ok (.iconst (-1), 1) := by decide +kernel
theorem dX11_salt_8 : decode cX11_salt 8 = .ok (.ireturn, 1) := by decide +kernel
theorem dX11_salt_9 : decode cX11_salt 9 = .ok (.iload_n 2, 1) := by decide +kernel
theorem dX11_salt_10 : decode cX11_salt 10 = .ok (.invokestatic 139, 3) := by decide +kernel
theorem dX11_salt_13 : decode cX11_salt 13 = .ok (.ifCond .eq 24, 3) := by decide +kernel
theorem dX11_salt_16 : decode cX11_salt 16 = .ok (.iload_n 3, 1) := by decide +kernel
theorem dX11_salt_17 : decode cX11_salt 17 = .ok (.iconst 0, 1) := by decide +kernel
theorem dX11_salt_18 : decode cX11_salt 18 = .ok (.bipush 9, 2) := by decide +kernel
theorem dX11_salt_20 : decode cX11_salt 20 = .ok (.invokestatic 94, 3) := by decide +kernel
theorem dX11_salt_23 : decode cX11_salt 23 = .ok (.ifCond .eq 14, 3) := by decide +kernel
theorem dX11_salt_26 : decode cX11_salt 26 = .ok (.iload 4, 2) := by decide +kernel
theorem dX11_salt_28 : decode cX11_salt 28 = .ok (.iconst 1, 1) := by decide +kernel
theorem dX11_salt_29 : decode cX11_salt 29 = .ok (.bipush 100, 2) := by decide +kernel
theorem dX11_salt_31 : decode cX11_salt 31 = .ok (.invokestatic 94, 3) := by decide +kernel
theorem dX11_salt_34 : decode cX11_salt 34 = .ok (.ifCond .ne 6, 3) := by decide +kernel
theorem dX11_salt_37 : decode cX11_salt 37 = .ok (.bipush (-2), 2) := by decide +kernel
theorem dX11_salt_39 : decode cX11_salt 39 = .ok (.ireturn, 1) := by decide +kernel
theorem dX11_salt_40 : decode cX11_salt 40 = .ok (.aload_n 0, 1) := by decide +kernel
theorem dX11_salt_41 : decode cX11_salt 41 = .ok (.getfield 164, 3) := by decide +kernel
theorem dX11_salt_44 : decode cX11_salt 44 = .ok (.bipush 12, 2) := by decide +kernel
theorem dX11_salt_46 : decode cX11_salt 46 = .ok (.if_icmp .ne 6, 3) := by decide +kernel
theorem dX11_salt_49 : decode cX11_salt 49 = .ok (.bipush (-4), 2) := by decide +kernel
theorem dX11_salt_51 : decode cX11_salt 51 = .ok (.ireturn, 1) := by decide +kernel
theorem dX11_salt_52 : decode cX11_salt 52 = .ok (.aload_n 0, 1) := by decide +kernel
theorem dX11_salt_53 : decode cX11_salt 53 = .ok (.getfield 34, 3) := by decide +kernel
theorem dX11_salt_56 : decode cX11_salt 56 = .ok (.iconst 4, 1) := by decide +kernel
theorem dX11_salt_57 : decode cX11_salt 57 = .ok (.aload_n 0, 1) := by decide +kernel
theorem dX11_salt_58 : decode cX11_salt 58 = .ok (.getfield 164, 3) := by decide +kernel
theorem dX11_salt_61 : decode cX11_salt 61 = .ok (.imul, 1) := by decide +kernel
theorem dX11_salt_62 : decode cX11_salt 62 = .ok (.iload_n 1, 1) := by decide +kernel
theorem dX11_salt_63 : decode cX11_salt 63 = .ok (.iastore, 1) := by decide +kernel
theorem dX11_salt_64 : decode cX11_salt 64 = .ok (.aload_n 0, 1) := by decide +kernel
theorem dX11_salt_65 : decode cX11_salt 65 = .ok (.getfield 34, 3) := by decide +kernel
theorem dX11_salt_68 : decode cX11_salt 68 = .ok (.iconst 4, 1) := by decide +kernel
theorem dX11_salt_69 : decode cX11_salt 69 = .ok (.aload_n 0, 1) := by decide +kernel
theorem dX11_salt_70 : decode cX11_salt 70 = .ok (.getfield 164, 3) := by decide +kernel
theorem dX11_salt_73 : decode cX11_salt 73 = .ok (.imul, 1) := by decide +kernel
theorem dX11_salt_74 : decode cX11_salt 74 = .ok (.iconst 1, 1) := by decide +kernel
theorem dX11_salt_75 : decode cX11_salt 75 = .ok (.iadd, 1) := by decide +kernel
theorem dX11_salt_76 : decode cX11_salt 76 = .ok (.iload_n 2, 1) := by decide +kernel
theorem dX11_salt_77 : decode cX11_salt 77 = .ok (.iastore, 1) := by decide +kernel
theorem dX11_salt_78 : decode cX11_salt 78 = .ok (.aload_n 0, 1) := by decide +kernel
theorem dX11_salt_79 : decode cX11_salt 79 = .ok (.getfield 34, 3) := by decide +kernel
theorem dX11_salt_82 : decode cX11_salt 82 = .ok (.iconst 4, 1) := by decide +kernel
theorem dX11_salt_83 : decode cX11_salt 83 = .ok (.aload_n 0, 1) := by decide +kernel
theorem dX11_salt_84 : decode cX11_salt 84 = .ok (.getfield 164, 3) := by decide +kernel
theorem dX11_salt_87 : decode cX11_salt 87 = .ok (.imul, 1) := by decide +kernel
theorem dX11_salt_88 : decode cX11_salt 88 = .ok (.iconst 2, 1) := by decide +kernel
theorem dX11_salt_89 : decode cX11_salt 89 = .ok (.iadd, 1) := by decide +kernel
theorem dX11_salt_90 : decode cX11_salt 90 = .ok (.iload_n 3, 1) := by decide +kernel
theorem dX11_salt_91 : decode cX11_salt 91 = .ok (.iastore, 1) := by decide +kernel
theorem dX11_salt_92 : decode cX11_salt 92 = .ok (.aload_n 0, 1) := by decide +kernel
theorem dX11_salt_93 : decode cX11_salt 93 = .ok (.getfield 34, 3) := by decide +kernel
theorem dX11_salt_96 : decode cX11_salt 96 = .ok (.iconst 4, 1) := by decide +kernel
theorem dX11_salt_97 : decode cX11_salt 97 = .ok (.aload_n 0, 1) := by decide +kernel
theorem dX11_salt_98 : decode cX11_salt 98 = .ok (.getfield 164, 3) := by decide +kernel
theorem dX11_salt_101 : decode cX11_salt 101 = .ok (.imul, 1) := by decide +kernel
theorem dX11_salt_102 : decode cX11_salt 102 = .ok (.iconst 3, 1) := by decide +kernel
theorem dX11_salt_103 : decode cX11_salt 103 = .ok (.iadd, 1) := by decide +kernel
theorem dX11_salt_104 : decode cX11_salt 104 = .ok (.iload 4, 2) := by decide +kernel
theorem dX11_salt_106 : decode cX11_salt 106 = .ok (.iastore, 1) := by decide +kernel
theorem dX11_salt_107 : decode cX11_salt 107 = .ok (.aload_n 0, 1) := by decide +kernel
theorem dX11_salt_108 : decode cX11_salt 108 = .ok (.dup, 1) := by decide +kernel
theorem dX11_salt_109 : decode cX11_salt 109 = .ok (.getfield 164, 3) := by decide +kernel
theorem dX11_salt_112 : decode cX11_salt 112 = .ok (.iconst 1, 1) := by decide +kernel
theorem dX11_salt_113 : decode cX11_salt 113 = .ok (.iadd, 1) := by decide +kernel
theorem dX11_salt_114 : decode cX11_salt 114 = .ok (.putfield 164, 3) := by decide +kernel
theorem dX11_salt_117 : decode cX11_salt 117 = .ok (.aload_n 0, 1) := by decide +kernel
theorem dX11_salt_118 : decode cX11_salt 118 = .ok (.getfield 164, 3) := by decide +kernel
theorem dX11_salt_121 : decode cX11_salt 121 = .ok (.ireturn, 1) := by decide +kernel
theorem dX11_saltOf_0 : decode cX11_saltOf 0 = .ok (.bipush (-6), 2) := by decide +kernel
theorem dX11_saltOf_2 : decode cX11_saltOf 2 = .ok (.istore_n 3, 1) := by decide +kernel
theorem dX11_saltOf_3 : decode cX11_saltOf 3 = .ok (.iconst 0, 1) := by decide +kernel
theorem dX11_saltOf_4 : decode cX11_saltOf 4 = .ok (.istore 4, 2) := by decide +kernel
theorem dX11_saltOf_6 : decode cX11_saltOf 6 = .ok (.iload 4, 2) := by decide +kernel
theorem dX11_saltOf_8 : decode cX11_saltOf 8 = .ok (.aload_n 0, 1) := by decide +kernel
theorem dX11_saltOf_9 : decode cX11_saltOf 9 = .ok (.getfield 164, 3) := by decide +kernel
theorem dX11_saltOf_12 : decode cX11_saltOf 12 = .ok (.if_icmp .ge 87, 3) := by decide +kernel
theorem dX11_saltOf_15 : decode cX11_saltOf 15 = .ok (.aload_n 0, 1) := by decide +kernel
theorem dX11_saltOf_16 : decode cX11_saltOf 16 = .ok (.getfield 34, 3) := by decide +kernel
theorem dX11_saltOf_19 : decode cX11_saltOf 19 = .ok (.iconst 4, 1) := by decide +kernel
theorem dX11_saltOf_20 : decode cX11_saltOf 20 = .ok (.iload 4, 2) := by decide +kernel
theorem dX11_saltOf_22 : decode cX11_saltOf 22 = .ok (.imul, 1) := by decide +kernel
theorem dX11_saltOf_23 : decode cX11_saltOf 23 = .ok (.iaload, 1) := by decide +kernel
theorem dX11_saltOf_24 : decode cX11_saltOf 24 = .ok (.iload_n 1, 1) := by decide +kernel
theorem dX11_saltOf_25 : decode cX11_saltOf 25 = .ok (.if_icmp .ne 25, 3) := by decide +kernel
theorem dX11_saltOf_28 : decode cX11_saltOf 28 = .ok (.aload_n 0, 1) := by decide +kernel
theorem dX11_saltOf_29 : decode cX11_saltOf 29 = .ok (.getfield 34, 3) := by decide +kernel
theorem dX11_saltOf_32 : decode cX11_saltOf 32 = .ok (.iconst 4, 1) := by decide +kernel
theorem dX11_saltOf_33 : decode cX11_saltOf 33 = .ok (.iload 4, 2) := by decide +kernel
theorem dX11_saltOf_35 : decode cX11_saltOf 35 = .ok (.imul, 1) := by decide +kernel
theorem dX11_saltOf_36 : decode cX11_saltOf 36 = .ok (.iconst 1, 1) := by decide +kernel
theorem dX11_saltOf_37 : decode cX11_saltOf 37 = .ok (.iadd, 1) := by decide +kernel
theorem dX11_saltOf_38 : decode cX11_saltOf 38 = .ok (.iaload, 1) := by decide +kernel
theorem dX11_saltOf_39 : decode cX11_saltOf 39 = .ok (.aload_n 0, 1) := by decide +kernel
theorem dX11_saltOf_40 : decode cX11_saltOf 40 = .ok (.getfield 167, 3) := by decide +kernel
theorem dX11_saltOf_43 : decode cX11_saltOf 43 = .ok (.if_icmp .gt 7, 3) := by decide +kernel
theorem dX11_saltOf_46 : decode cX11_saltOf 46 = .ok (.iconst 1, 1) := by decide +kernel
theorem dX11_saltOf_47 : decode cX11_saltOf 47 = .ok (.goto 4, 3) := by decide +kernel
theorem dX11_saltOf_50 : decode cX11_saltOf 50 = .ok (.iconst 0, 1) := by decide +kernel
theorem dX11_saltOf_51 : decode cX11_saltOf 51 = .ok (.istore 5, 2) := by decide +kernel
theorem dX11_saltOf_53 : decode cX11_saltOf 53 = .ok (.iload 5, 2) := by decide +kernel
theorem dX11_saltOf_55 : decode cX11_saltOf 55 = .ok (.ifCond .eq 36, 3) := by decide +kernel
theorem dX11_saltOf_58 : decode cX11_saltOf 58 = .ok (.iload_n 3, 1) := by decide +kernel
theorem dX11_saltOf_59 : decode cX11_saltOf 59 = .ok (.ifCond .lt 27, 3) := by decide +kernel
theorem dX11_saltOf_62 : decode cX11_saltOf 62 = .ok (.aload_n 0, 1) := by decide +kernel
theorem dX11_saltOf_63 : decode cX11_saltOf 63 = .ok (.getfield 34, 3) := by decide +kernel
theorem dX11_saltOf_66 : decode cX11_saltOf 66 = .ok (.iconst 4, 1) := by decide +kernel
theorem dX11_saltOf_67 : decode cX11_saltOf 67 = .ok (.iload 4, 2) := by decide +kernel
theorem dX11_saltOf_69 : decode cX11_saltOf 69 = .ok (.imul, 1) := by decide +kernel
theorem dX11_saltOf_70 : decode cX11_saltOf 70 = .ok (.iconst 1, 1) := by decide +kernel
theorem dX11_saltOf_71 : decode cX11_saltOf 71 = .ok (.iadd, 1) := by decide +kernel
theorem dX11_saltOf_72 : decode cX11_saltOf 72 = .ok (.iaload, 1) := by decide +kernel
theorem dX11_saltOf_73 : decode cX11_saltOf 73 = .ok (.aload_n 0, 1) := by decide +kernel
theorem dX11_saltOf_74 : decode cX11_saltOf 74 = .ok (.getfield 34, 3) := by decide +kernel
theorem dX11_saltOf_77 : decode cX11_saltOf 77 = .ok (.iconst 4, 1) := by decide +kernel
theorem dX11_saltOf_78 : decode cX11_saltOf 78 = .ok (.iload_n 3, 1) := by decide +kernel
theorem dX11_saltOf_79 : decode cX11_saltOf 79 = .ok (.imul, 1) := by decide +kernel
theorem dX11_saltOf_80 : decode cX11_saltOf 80 = .ok (.iconst 1, 1) := by decide +kernel
theorem dX11_saltOf_81 : decode cX11_saltOf 81 = .ok (.iadd, 1) := by decide +kernel
theorem dX11_saltOf_82 : decode cX11_saltOf 82 = .ok (.iaload, 1) := by decide +kernel
theorem dX11_saltOf_83 : decode cX11_saltOf 83 = .ok (.if_icmp .lt 8, 3) := by decide +kernel
theorem dX11_saltOf_86 : decode cX11_saltOf 86 = .ok (.iload 4, 2) := by decide +kernel
theorem dX11_saltOf_88 : decode cX11_saltOf 88 = .ok (.goto 4, 3) := by decide +kernel
theorem dX11_saltOf_91 : decode cX11_saltOf 91 = .ok (.iload_n 3, 1) := by decide +kernel
theorem dX11_saltOf_92 : decode cX11_saltOf 92 = .ok (.istore_n 3, 1) := by decide +kernel
theorem dX11_saltOf_93 : decode cX11_saltOf 93 = .ok (.iinc 4 1, 3) := by decide +kernel
theorem dX11_saltOf_96 : decode cX11_saltOf 96 = .ok (.goto (-90), 3) := by decide +kernel
theorem dX11_saltOf_99 : decode cX11_saltOf 99 = .ok (.iload_n 3, 1) := by decide +kernel
theorem dX11_saltOf_100 : decode cX11_saltOf 100 = .ok (.ifCond .lt 16, 3) := by decide +kernel
theorem dX11_saltOf_103 : decode cX11_saltOf 103 = .ok (.aload_n 0, 1) := by decide +kernel
theorem dX11_saltOf_104 : decode cX11_saltOf 104 = .ok (.getfield 34, 3) := by decide +kernel
theorem dX11_saltOf_107 : decode cX11_saltOf 107 = .ok (.iconst 4, 1) := by decide +kernel
theorem dX11_saltOf_108 : decode cX11_saltOf 108 = .ok (.iload_n 3, 1) := by decide +kernel
theorem dX11_saltOf_109 : decode cX11_saltOf 109 = .ok (.imul, 1) := by decide +kernel
theorem dX11_saltOf_110 : decode cX11_saltOf 110 = .ok (.iload_n 2, 1) := by decide +kernel
theorem dX11_saltOf_111 : decode cX11_saltOf 111 = .ok (.iadd, 1) := by decide +kernel
theorem dX11_saltOf_112 : decode cX11_saltOf 112 = .ok (.iaload, 1) := by decide +kernel
theorem dX11_saltOf_113 : decode cX11_saltOf 113 = .ok (.goto 14, 3) := by decide +kernel
theorem dX11_saltOf_116 : decode cX11_saltOf 116 = .ok (.iload_n 2, 1) := by decide +kernel
theorem dX11_saltOf_117 : decode cX11_saltOf 117 = .ok (.iconst 2, 1) := by decide +kernel
theorem dX11_saltOf_118 : decode cX11_saltOf 118 = .ok (.if_icmp .ne 7, 3) := by decide +kernel
theorem dX11_saltOf_121 : decode cX11_saltOf 121 = .ok (.iconst 0, 1) := by decide +kernel
theorem dX11_saltOf_122 : decode cX11_saltOf 122 = .ok (.goto 5, 3) := by decide +kernel
theorem dX11_saltOf_125 : decode cX11_saltOf 125 = .ok (.bipush 50, 2) := by decide +kernel
theorem dX11_saltOf_127 : decode cX11_saltOf 127 = .ok (.ireturn, 1) := by decide +kernel
theorem dX11_beginBarrels_0 : decode cX11_beginBarrels 0 = .ok (.aload_n 0, 1) := by decide +kernel
theorem dX11_beginBarrels_1 : decode cX11_beginBarrels 1 = .ok (.iload_n 1, 1) := by decide +kernel
theorem dX11_beginBarrels_2 : decode cX11_beginBarrels 2 = .ok (.invokevirtual 160, 3) := by decide +kernel
theorem dX11_beginBarrels_5 : decode cX11_beginBarrels 5 = .ok (.aload_n 0, 1) := by decide +kernel
theorem dX11_beginBarrels_6 : decode cX11_beginBarrels 6 = .ok (.iconst 0, 1) := by decide +kernel
theorem dX11_beginBarrels_7 : decode cX11_beginBarrels 7 = .ok (.putfield 170, 3) := by decide +kernel
theorem dX11_beginBarrels_10 : decode cX11_beginBarrels 10 = .ok (.aload_n 0, 1) := by decide +kernel
theorem dX11_beginBarrels_11 : decode cX11_beginBarrels 11 = .ok (.iconst 0, 1) := by decide +kernel
theorem dX11_beginBarrels_12 : decode cX11_beginBarrels 12 = .ok (.putfield 173, 3) := by decide +kernel
theorem dX11_beginBarrels_15 : decode cX11_beginBarrels 15 = .ok (.return_, 1) := by decide +kernel
theorem dX11_takeBarrel_0 : decode cX11_takeBarrel 0 = .ok (.aload_n 0, 1) := by decide +kernel
theorem dX11_takeBarrel_1 : decode cX11_takeBarrel 1 = .ok (.getfield 28, 3) := by decide +kernel
theorem dX11_takeBarrel_4 : decode cX11_takeBarrel 4 = .ok (.iconst 1, 1) := by decide +kernel
theorem dX11_takeBarrel_5 : decode cX11_takeBarrel 5 = .ok (.iaload, 1) := by decide +kernel
theorem dX11_takeBarrel_6 : decode cX11_takeBarrel 6 = .ok (.istore_n 1, 1) := by decide +kernel
theorem dX11_takeBarrel_7 : decode cX11_takeBarrel 7 = .ok (.aload_n 0, 1) := by decide +kernel
theorem dX11_takeBarrel_8 : decode cX11_takeBarrel 8 = .ok (.iconst 0, 1) := by decide +kernel
theorem dX11_takeBarrel_9 : decode cX11_takeBarrel 9 = .ok (.putfield 120, 3) := by decide +kernel
theorem dX11_takeBarrel_12 : decode cX11_takeBarrel 12 = .ok (.aload_n 0, 1) := by decide +kernel
theorem dX11_takeBarrel_13 : decode cX11_takeBarrel 13 = .ok (.bipush 10, 2) := by decide +kernel
theorem dX11_takeBarrel_15 : decode cX11_takeBarrel 15 = .ok (.putfield 127, 3) := by decide +kernel
theorem dX11_takeBarrel_18 : decode cX11_takeBarrel 18 = .ok (.aload_n 0, 1) := by decide +kernel
theorem dX11_takeBarrel_19 : decode cX11_takeBarrel 19 = .ok (.iconst 0, 1) := by decide +kernel
theorem dX11_takeBarrel_20 : decode cX11_takeBarrel 20 = .ok (.putfield 176, 3) := by decide +kernel
theorem dX11_takeBarrel_23 : decode cX11_takeBarrel 23 = .ok (.iconst 0, 1) := by decide +kernel
theorem dX11_takeBarrel_24 : decode cX11_takeBarrel 24 = .ok (.istore_n 2, 1) := by decide +kernel
theorem dX11_takeBarrel_25 : decode cX11_takeBarrel 25 = .ok (.iload_n 1, 1) := by decide +kernel
theorem dX11_takeBarrel_26 : decode cX11_takeBarrel 26 = .ok (.ifCond .le 219, 3) := by decide +kernel
theorem dX11_takeBarrel_29 : decode cX11_takeBarrel 29 = .ok (.aload_n 0, 1) := by decide +kernel
theorem dX11_takeBarrel_30 : decode cX11_takeBarrel 30 = .ok (.getfield 76, 3) := by decide +kernel
theorem dX11_takeBarrel_33 : decode cX11_takeBarrel 33 = .ok (.aload_n 0, 1) := by decide +kernel
theorem dX11_takeBarrel_34 : decode cX11_takeBarrel 34 = .ok (.getfield 170, 3) := by decide +kernel
theorem dX11_takeBarrel_37 : decode cX11_takeBarrel 37 = .ok (.iaload, 1) := by decide +kernel
theorem dX11_takeBarrel_38 : decode cX11_takeBarrel 38 = .ok (.istore_n 3, 1) := by decide +kernel
theorem dX11_takeBarrel_39 : decode cX11_takeBarrel 39 = .ok (.aload_n 0, 1) := by decide +kernel
theorem dX11_takeBarrel_40 : decode cX11_takeBarrel 40 = .ok (.getfield 82, 3) := by decide +kernel
theorem dX11_takeBarrel_43 : decode cX11_takeBarrel 43 = .ok (.aload_n 0, 1) := by decide +kernel
theorem dX11_takeBarrel_44 : decode cX11_takeBarrel 44 = .ok (.getfield 170, 3) := by decide +kernel
theorem dX11_takeBarrel_47 : decode cX11_takeBarrel 47 = .ok (.iaload, 1) := by decide +kernel
theorem dX11_takeBarrel_48 : decode cX11_takeBarrel 48 = .ok (.aload_n 0, 1) := by decide +kernel
theorem dX11_takeBarrel_49 : decode cX11_takeBarrel 49 = .ok (.getfield 173, 3) := by decide +kernel
theorem dX11_takeBarrel_52 : decode cX11_takeBarrel 52 = .ok (.isub, 1) := by decide +kernel
theorem dX11_takeBarrel_53 : decode cX11_takeBarrel 53 = .ok (.istore 4, 2) := by decide +kernel
theorem dX11_takeBarrel_55 : decode cX11_takeBarrel 55 = .ok (.iload 4, 2) := by decide +kernel
theorem dX11_takeBarrel_57 : decode cX11_takeBarrel 57 = .ok (.iload_n 1, 1) := by decide +kernel
theorem dX11_takeBarrel_58 : decode cX11_takeBarrel 58 = .ok (.if_icmp .ge 8, 3) := by decide +kernel
theorem dX11_takeBarrel_61 : decode cX11_takeBarrel 61 = .ok (.iload 4, 2) := by decide +kernel
theorem dX11_takeBarrel_63 : decode cX11_takeBarrel 63 = .ok (.goto 4, 3) := by decide +kernel
theorem dX11_takeBarrel_66 : decode cX11_takeBarrel 66 = .ok (.iload_n 1, 1) := by decide +kernel
theorem dX11_takeBarrel_67 : decode cX11_takeBarrel 67 = .ok (.istore 5, 2) := by decide +kernel
theorem dX11_takeBarrel_69 : decode cX11_takeBarrel 69 = .ok (.aload_n 0, 1) := by decide +kernel
theorem dX11_takeBarrel_70 : decode cX11_takeBarrel 70 = .ok (.getfield 79, 3) := by decide +kernel
theorem dX11_takeBarrel_73 : decode cX11_takeBarrel 73 = .ok (.aload_n 0, 1) := by decide +kernel
theorem dX11_takeBarrel_74 : decode cX11_takeBarrel 74 = .ok (.getfield 170, 3) := by decide +kernel
theorem dX11_takeBarrel_77 : decode cX11_takeBarrel 77 = .ok (.iaload, 1) := by decide +kernel
theorem dX11_takeBarrel_78 : decode cX11_takeBarrel 78 = .ok (.aload_n 0, 1) := by decide +kernel
theorem dX11_takeBarrel_79 : decode cX11_takeBarrel 79 = .ok (.getfield 31, 3) := by decide +kernel
theorem dX11_takeBarrel_82 : decode cX11_takeBarrel 82 = .ok (.bipush 7, 2) := by decide +kernel
theorem dX11_takeBarrel_84 : decode cX11_takeBarrel 84 = .ok (.iload_n 3, 1) := by decide +kernel
theorem dX11_takeBarrel_85 : decode cX11_takeBarrel 85 = .ok (.imul, 1) := by decide +kernel
theorem dX11_takeBarrel_86 : decode cX11_takeBarrel 86 = .ok (.iconst 2, 1) := by decide +kernel
theorem dX11_takeBarrel_87 : decode cX11_takeBarrel 87 = .ok (.iadd, 1) := by decide +kernel
theorem dX11_takeBarrel_88 : decode cX11_takeBarrel 88 = .ok (.iaload, 1) := by decide +kernel
theorem dX11_takeBarrel_89 : decode cX11_takeBarrel 89 = .ok (.isub, 1) := by decide +kernel
theorem dX11_takeBarrel_90 : decode cX11_takeBarrel 90 = .ok (.istore 6, 2) := by decide +kernel
theorem dX11_takeBarrel_92 : decode cX11_takeBarrel 92 = .ok (.aload_n 0, 1) := by decide +kernel
theorem dX11_takeBarrel_93 : decode cX11_takeBarrel 93 = .ok (.iload 6, 2) := by decide +kernel
theorem dX11_takeBarrel_95 : decode cX11_takeBarrel 95 = .ok (.aload_n 0, 1) := by decide +kernel
theorem dX11_takeBarrel_96 : decode cX11_takeBarrel 96 = .ok (.getfield 120, 3) := by decide +kernel
theorem dX11_takeBarrel_99 : decode cX11_takeBarrel 99 = .ok (.if_icmp .le 8, 3) := by decide +kernel
theorem dX11_takeBarrel_102 : decode cX11_takeBarrel 102 = .ok (.iload 6, 2) := by decide +kernel
theorem dX11_takeBarrel_104 : decode cX11_takeBarrel 104 = .ok (.goto 7, 3) := by decide +kernel
theorem dX11_takeBarrel_107 : decode cX11_takeBarrel 107 = .ok (.aload_n 0, 1) := by decide +kernel
theorem dX11_takeBarrel_108 : decode cX11_takeBarrel 108 = .ok (.getfield 120, 3) := by decide +kernel
theorem dX11_takeBarrel_111 : decode cX11_takeBarrel 111 = .ok (.putfield 120, 3) := by decide +kernel
theorem dX11_takeBarrel_114 : decode cX11_takeBarrel 114 = .ok (.aload_n 0, 1) := by decide +kernel
theorem dX11_takeBarrel_115 : decode cX11_takeBarrel 115 = .ok (.aload_n 0, 1) := by decide +kernel
theorem dX11_takeBarrel_116 : decode cX11_takeBarrel 116 = .ok (.getfield 31, 3) := by decide +kernel
theorem dX11_takeBarrel_119 : decode cX11_takeBarrel 119 = .ok (.bipush 7, 2) := by decide +kernel
theorem dX11_takeBarrel_121 : decode cX11_takeBarrel 121 = .ok (.iload_n 3, 1) := by decide +kernel
theorem dX11_takeBarrel_122 : decode cX11_takeBarrel 122 = .ok (.imul, 1) := by decide +kernel
theorem dX11_takeBarrel_123 : decode cX11_takeBarrel 123 = .ok (.iconst 4, 1) := by decide +kernel
theorem dX11_takeBarrel_124 : decode cX11_takeBarrel 124 = .ok (.iadd, 1) := by decide +kernel
theorem dX11_takeBarrel_125 : decode cX11_takeBarrel 125 = .ok (.iaload, 1) := by decide +kernel
theorem dX11_takeBarrel_126 : decode cX11_takeBarrel 126 = .ok (.aload_n 0, 1) := by decide +kernel
theorem dX11_takeBarrel_127 : decode cX11_takeBarrel 127 = .ok (.getfield 127, 3) := by decide +kernel
theorem dX11_takeBarrel_130 : decode cX11_takeBarrel 130 = .ok (.if_icmp .ge 17, 3) := by decide +kernel
theorem dX11_takeBarrel_133 : decode cX11_takeBarrel 133 = .ok (.aload_n 0, 1) := by decide +kernel
theorem dX11_takeBarrel_134 : decode cX11_takeBarrel 134 = .ok (.getfield 31, 3) := by decide +kernel
theorem dX11_takeBarrel_137 : decode cX11_takeBarrel 137 = .ok (.bipush 7, 2) := by decide +kernel
theorem dX11_takeBarrel_139 : decode cX11_takeBarrel 139 = .ok (.iload_n 3, 1) := by decide +kernel
theorem dX11_takeBarrel_140 : decode cX11_takeBarrel 140 = .ok (.imul, 1) := by decide +kernel
theorem dX11_takeBarrel_141 : decode cX11_takeBarrel 141 = .ok (.iconst 4, 1) := by decide +kernel
theorem dX11_takeBarrel_142 : decode cX11_takeBarrel 142 = .ok (.iadd, 1) := by decide +kernel
theorem dX11_takeBarrel_143 : decode cX11_takeBarrel 143 = .ok (.iaload, 1) := by decide +kernel
theorem dX11_takeBarrel_144 : decode cX11_takeBarrel 144 = .ok (.goto 7, 3) := by decide +kernel
theorem dX11_takeBarrel_147 : decode cX11_takeBarrel 147 = .ok (.aload_n 0, 1) := by decide +kernel
theorem dX11_takeBarrel_148 : decode cX11_takeBarrel 148 = .ok (.getfield 127, 3) := by decide +kernel
theorem dX11_takeBarrel_151 : decode cX11_takeBarrel 151 = .ok (.putfield 127, 3) := by decide +kernel
theorem dX11_takeBarrel_154 : decode cX11_takeBarrel 154 = .ok (.aload_n 0, 1) := by decide +kernel
theorem dX11_takeBarrel_155 : decode cX11_takeBarrel 155 = .ok (.dup, 1) := by decide +kernel
theorem dX11_takeBarrel_156 : decode cX11_takeBarrel 156 = .ok (.getfield 176, 3) := by decide +kernel
theorem dX11_takeBarrel_159 : decode cX11_takeBarrel 159 = .ok (.iload_n 2, 1) := by decide +kernel
theorem dX11_takeBarrel_160 : decode cX11_takeBarrel 160 = .ok (.iload_n 3, 1) := by decide +kernel
theorem dX11_takeBarrel_161 : decode cX11_takeBarrel 161 = .ok (.ishr, 1) := by decide +kernel
theorem dX11_takeBarrel_162 : decode cX11_takeBarrel 162 = .ok (.iconst 1, 1) := by decide +kernel
theorem dX11_takeBarrel_163 : decode cX11_takeBarrel 163 = .ok (.iand, 1) := by decide +kernel
theorem dX11_takeBarrel_164 : decode cX11_takeBarrel 164 = .ok (.ifCond .ne 7, 3) := by decide +kernel
theorem dX11_takeBarrel_167 : decode cX11_takeBarrel 167 = .ok (.iconst 1, 1) := by decide +kernel
theorem dX11_takeBarrel_168 : decode cX11_takeBarrel 168 = .ok (.goto 4, 3) := by decide +kernel
theorem dX11_takeBarrel_171 : decode cX11_takeBarrel 171 = .ok (.iconst 0, 1) := by decide +kernel
theorem dX11_takeBarrel_172 : decode cX11_takeBarrel 172 = .ok (.iadd, 1) := by decide +kernel
theorem dX11_takeBarrel_173 : decode cX11_takeBarrel 173 = .ok (.putfield 176, 3) := by decide +kernel
theorem dX11_takeBarrel_176 : decode cX11_takeBarrel 176 = .ok (.iload_n 2, 1) := by decide +kernel
theorem dX11_takeBarrel_177 : decode cX11_takeBarrel 177 = .ok (.iconst 1, 1) := by decide +kernel
theorem dX11_takeBarrel_178 : decode cX11_takeBarrel 178 = .ok (.iload_n 3, 1) := by decide +kernel
theorem dX11_takeBarrel_179 : decode cX11_takeBarrel 179 = .ok (.ishl, 1) := by decide +kernel
theorem dX11_takeBarrel_180 : decode cX11_takeBarrel 180 = .ok (.ior, 1) := by decide +kernel
theorem dX11_takeBarrel_181 : decode cX11_takeBarrel 181 = .ok (.istore_n 2, 1) := by decide +kernel
theorem dX11_takeBarrel_182 : decode cX11_takeBarrel 182 = .ok (.aload_n 0, 1) := by decide +kernel
theorem dX11_takeBarrel_183 : decode cX11_takeBarrel 183 = .ok (.aload_n 0, 1) := by decide +kernel
theorem dX11_takeBarrel_184 : decode cX11_takeBarrel 184 = .ok (.getfield 79, 3) := by decide +kernel
theorem dX11_takeBarrel_187 : decode cX11_takeBarrel 187 = .ok (.aload_n 0, 1) := by decide +kernel
theorem dX11_takeBarrel_188 : decode cX11_takeBarrel 188 = .ok (.getfield 170, 3) := by decide +kernel
theorem dX11_takeBarrel_191 : decode cX11_takeBarrel 191 = .ok (.iaload, 1) := by decide +kernel
theorem dX11_takeBarrel_192 : decode cX11_takeBarrel 192 = .ok (.putfield 167, 3) := by decide +kernel
theorem dX11_takeBarrel_195 : decode cX11_takeBarrel 195 = .ok (.iload_n 1, 1) := by decide +kernel
theorem dX11_takeBarrel_196 : decode cX11_takeBarrel 196 = .ok (.iload 5, 2) := by decide +kernel
theorem dX11_takeBarrel_198 : decode cX11_takeBarrel 198 = .ok (.isub, 1) := by decide +kernel
theorem dX11_takeBarrel_199 : decode cX11_takeBarrel 199 = .ok (.istore_n 1, 1) := by decide +kernel
theorem dX11_takeBarrel_200 : decode cX11_takeBarrel 200 = .ok (.aload_n 0, 1) := by decide +kernel
theorem dX11_takeBarrel_201 : decode cX11_takeBarrel 201 = .ok (.dup, 1) := by decide +kernel
theorem dX11_takeBarrel_202 : decode cX11_takeBarrel 202 = .ok (.getfield 173, 3) := by decide +kernel
theorem dX11_takeBarrel_205 : decode cX11_takeBarrel 205 = .ok (.iload 5, 2) := by decide +kernel
theorem dX11_takeBarrel_207 : decode cX11_takeBarrel 207 = .ok (.iadd, 1) := by decide +kernel
theorem dX11_takeBarrel_208 : decode cX11_takeBarrel 208 = .ok (.putfield 173, 3) := by decide +kernel
theorem dX11_takeBarrel_211 : decode cX11_takeBarrel 211 = .ok (.aload_n 0, 1) := by decide +kernel
theorem dX11_takeBarrel_212 : decode cX11_takeBarrel 212 = .ok (.getfield 173, 3) := by decide +kernel
theorem dX11_takeBarrel_215 : decode cX11_takeBarrel 215 = .ok (.aload_n 0, 1) := by decide +kernel
theorem dX11_takeBarrel_216 : decode cX11_takeBarrel 216 = .ok (.getfield 82, 3) := by decide +kernel
theorem dX11_takeBarrel_219 : decode cX11_takeBarrel 219 = .ok (.aload_n 0, 1) := by decide +kernel
theorem dX11_takeBarrel_220 : decode cX11_takeBarrel 220 = .ok (.getfield 170, 3) := by decide +kernel
theorem dX11_takeBarrel_223 : decode cX11_takeBarrel 223 = .ok (.iaload, 1) := by decide +kernel
theorem dX11_takeBarrel_224 : decode cX11_takeBarrel 224 = .ok (.if_icmp .ne 18, 3) := by decide +kernel
theorem dX11_takeBarrel_227 : decode cX11_takeBarrel 227 = .ok (.aload_n 0, 1) := by decide +kernel
theorem dX11_takeBarrel_228 : decode cX11_takeBarrel 228 = .ok (.dup, 1) := by decide +kernel
theorem dX11_takeBarrel_229 : decode cX11_takeBarrel 229 = .ok (.getfield 170, 3) := by decide +kernel
theorem dX11_takeBarrel_232 : decode cX11_takeBarrel 232 = .ok (.iconst 1, 1) := by decide +kernel
theorem dX11_takeBarrel_233 : decode cX11_takeBarrel 233 = .ok (.iadd, 1) := by decide +kernel
theorem dX11_takeBarrel_234 : decode cX11_takeBarrel 234 = .ok (.putfield 170, 3) := by decide +kernel
theorem dX11_takeBarrel_237 : decode cX11_takeBarrel 237 = .ok (.aload_n 0, 1) := by decide +kernel
theorem dX11_takeBarrel_238 : decode cX11_takeBarrel 238 = .ok (.iconst 0, 1) := by decide +kernel
theorem dX11_takeBarrel_239 : decode cX11_takeBarrel 239 = .ok (.putfield 173, 3) := by decide +kernel
theorem dX11_takeBarrel_242 : decode cX11_takeBarrel 242 = .ok (.goto (-217), 3) := by decide +kernel
theorem dX11_takeBarrel_245 : decode cX11_takeBarrel 245 = .ok (.return_, 1) := by decide +kernel
theorem dX11_barrelsNow_0 : decode cX11_barrelsNow 0 = .ok (.aload_n 0, 1) := by decide +kernel
theorem dX11_barrelsNow_1 : decode cX11_barrelsNow 1 = .ok (.getfield 148, 3) := by decide +kernel
theorem dX11_barrelsNow_4 : decode cX11_barrelsNow 4 = .ok (.aload_n 0, 1) := by decide +kernel
theorem dX11_barrelsNow_5 : decode cX11_barrelsNow 5 = .ok (.getfield 28, 3) := by decide +kernel
theorem dX11_barrelsNow_8 : decode cX11_barrelsNow 8 = .ok (.iconst 1, 1) := by decide +kernel
theorem dX11_barrelsNow_9 : decode cX11_barrelsNow 9 = .ok (.iaload, 1) := by decide +kernel
theorem dX11_barrelsNow_10 : decode cX11_barrelsNow 10 = .ok (.idiv, 1) := by decide +kernel
theorem dX11_barrelsNow_11 : decode cX11_barrelsNow 11 = .ok (.ireturn, 1) := by decide +kernel
theorem dX11_takes_0 : decode cX11_takes 0 = .ok (.aload_n 0, 1) := by decide +kernel
theorem dX11_takes_1 : decode cX11_takes 1 = .ok (.iload_n 1, 1) := by decide +kernel
theorem dX11_takes_2 : decode cX11_takes 2 = .ok (.invokevirtual 179, 3) := by decide +kernel
theorem dX11_takes_5 : decode cX11_takes 5 = .ok (.iload_n 2, 1) := by decide +kernel
theorem dX11_takes_6 : decode cX11_takes 6 = .ok (.iconst 0, 1) := by decide +kernel
theorem dX11_takes_7 : decode cX11_takes 7 = .ok (.aload_n 0, 1) := by decide +kernel
theorem dX11_takes_8 : decode cX11_takes 8 = .ok (.invokevirtual 182, 3) := by decide +kernel
theorem dX11_takes_11 : decode cX11_takes 11 = .ok (.iconst 1, 1) := by decide +kernel
theorem dX11_takes_12 : decode cX11_takes 12 = .ok (.isub, 1) := by decide +kernel
theorem dX11_takes_13 : decode cX11_takes 13 = .ok (.invokestatic 94, 3) := by decide +kernel
theorem dX11_takes_16 : decode cX11_takes 16 = .ok (.ifCond .ne 5, 3) := by decide +kernel
theorem dX11_takes_19 : decode cX11_takes 19 = .ok (.iconst 0, 1) := by decide +kernel
theorem dX11_takes_20 : decode cX11_takes 20 = .ok (.ireturn, 1) := by decide +kernel
theorem dX11_takes_21 : decode cX11_takes 21 = .ok (.iconst 0, 1) := by decide +kernel
theorem dX11_takes_22 : decode cX11_takes 22 = .ok (.istore_n 3, 1) := by decide +kernel
theorem dX11_takes_23 : decode cX11_takes 23 = .ok (.iload_n 3, 1) := by decide +kernel
theorem dX11_takes_24 : decode cX11_takes 24 = .ok (.iload_n 2, 1) := by decide +kernel
theorem dX11_takes_25 : decode cX11_takes 25 = .ok (.if_icmp .gt 13, 3) := by decide +kernel
theorem dX11_takes_28 : decode cX11_takes 28 = .ok (.aload_n 0, 1) := by decide +kernel
theorem dX11_takes_29 : decode cX11_takes 29 = .ok (.invokevirtual 185, 3) := by decide +kernel
theorem dX11_takes_32 : decode cX11_takes 32 = .ok (.iinc 3 1, 3) := by decide +kernel
theorem dX11_takes_35 : decode cX11_takes 35 = .ok (.goto (-12), 3) := by decide +kernel
theorem dX11_takes_38 : decode cX11_takes 38 = .ok (.iconst 1, 1) := by decide +kernel
theorem dX11_takes_39 : decode cX11_takes 39 = .ok (.ireturn, 1) := by decide +kernel
theorem dX11_brand_0 : decode cX11_brand 0 = .ok (.iload_n 1, 1) := by decide +kernel
theorem dX11_brand_1 : decode cX11_brand 1 = .ok (.invokestatic 133, 3) := by decide +kernel
theorem dX11_brand_4 : decode cX11_brand 4 = .ok (.ifCond .eq 12, 3) := by decide +kernel
theorem dX11_brand_7 : decode cX11_brand 7 = .ok (.aload_n 0, 1) := by decide +kernel
theorem dX11_brand_8 : decode cX11_brand 8 = .ok (.iload_n 1, 1) := by decide +kernel
theorem dX11_brand_9 : decode cX11_brand 9 = .ok (.iload_n 2, 1) := by decide +kernel
theorem dX11_brand_10 : decode cX11_brand 10 = .ok (.invokevirtual 188, 3) := by decide +kernel
theorem dX11_brand_13 : decode cX11_brand 13 = .ok (.ifCond .ne 5, 3) := by decide +kernel
theorem dX11_brand_16 : decode cX11_brand 16 = .ok (.iconst (-1), 1) := by decide +kernel
theorem dX11_brand_17 : decode cX11_brand 17 = .ok (.ireturn, 1) := by decide +kernel
theorem dX11_brand_18 : decode cX11_brand 18 = .ok (.iload_n 3, 1) := by decide +kernel
theorem dX11_brand_19 : decode cX11_brand 19 = .ok (.invokestatic 110, 3) := by decide +kernel
theorem dX11_brand_22 : decode cX11_brand 22 = .ok (.ifCond .eq 12, 3) := by decide +kernel
theorem dX11_brand_25 : decode cX11_brand 25 = .ok (.aload_n 0, 1) := by decide +kernel
theorem dX11_brand_26 : decode cX11_brand 26 = .ok (.iload_n 1, 1) := by decide +kernel
theorem dX11_brand_27 : decode cX11_brand 27 = .ok (.iload_n 3, 1) := by decide +kernel
theorem dX11_brand_28 : decode cX11_brand 28 = .ok (.invokevirtual 192, 3) := by decide +kernel
theorem dX11_brand_31 : decode cX11_brand 31 = .ok (.goto 5, 3) := by decide +kernel
theorem dX11_brand_34 : decode cX11_brand 34 = .ok (.bipush (-2), 2) := by decide +kernel
theorem dX11_brand_36 : decode cX11_brand 36 = .ok (.ireturn, 1) := by decide +kernel
theorem dX11_barrel_0 : decode cX11_barrel 0 = .ok (.iload_n 1, 1) := by decide +kernel
theorem dX11_barrel_1 : decode cX11_barrel 1 = .ok (.invokestatic 133, 3) := by decide +kernel
theorem dX11_barrel_4 : decode cX11_barrel 4 = .ok (.ifCond .ne 5, 3) := by decide +kernel
theorem dX11_barrel_7 : decode cX11_barrel 7 = .ok (.iconst (-1), 1) := by decide +kernel
theorem dX11_barrel_8 : decode cX11_barrel 8 = .ok (.ireturn, 1) := by decide +kernel
theorem dX11_barrel_9 : decode cX11_barrel 9 = .ok (.iload_n 2, 1) := by decide +kernel
theorem dX11_barrel_10 : decode cX11_barrel 10 = .ok (.iconst (-1), 1) := by decide +kernel
theorem dX11_barrel_11 : decode cX11_barrel 11 = .ok (.if_icmp .ne 28, 3) := by decide +kernel
theorem dX11_barrel_14 : decode cX11_barrel 14 = .ok (.aload_n 0, 1) := by decide +kernel
theorem dX11_barrel_15 : decode cX11_barrel 15 = .ok (.iload_n 1, 1) := by decide +kernel
theorem dX11_barrel_16 : decode cX11_barrel 16 = .ok (.invokevirtual 160, 3) := by decide +kernel
theorem dX11_barrel_19 : decode cX11_barrel 19 = .ok (.iload_n 3, 1) := by decide +kernel
theorem dX11_barrel_20 : decode cX11_barrel 20 = .ok (.iconst 0, 1) := by decide +kernel
theorem dX11_barrel_21 : decode cX11_barrel 21 = .ok (.bipush 6, 2) := by decide +kernel
theorem dX11_barrel_23 : decode cX11_barrel 23 = .ok (.invokestatic 94, 3) := by decide +kernel
theorem dX11_barrel_26 : decode cX11_barrel 26 = .ok (.ifCond .eq 10, 3) := by decide +kernel
theorem dX11_barrel_29 : decode cX11_barrel 29 = .ok (.aload_n 0, 1) := by decide +kernel
theorem dX11_barrel_30 : decode cX11_barrel 30 = .ok (.invokevirtual 182, 3) := by decide +kernel
theorem dX11_barrel_33 : decode cX11_barrel 33 = .ok (.goto 5, 3) := by decide +kernel
theorem dX11_barrel_36 : decode cX11_barrel 36 = .ok (.bipush (-2), 2) := by decide +kernel
theorem dX11_barrel_38 : decode cX11_barrel 38 = .ok (.ireturn, 1) := by decide +kernel
theorem dX11_barrel_39 : decode cX11_barrel 39 = .ok (.aload_n 0, 1) := by decide +kernel
theorem dX11_barrel_40 : decode cX11_barrel 40 = .ok (.iload_n 1, 1) := by decide +kernel
theorem dX11_barrel_41 : decode cX11_barrel 41 = .ok (.iload_n 2, 1) := by decide +kernel
theorem dX11_barrel_42 : decode cX11_barrel 42 = .ok (.invokevirtual 188, 3) := by decide +kernel
theorem dX11_barrel_45 : decode cX11_barrel 45 = .ok (.ifCond .ne 5, 3) := by decide +kernel
theorem dX11_barrel_48 : decode cX11_barrel 48 = .ok (.iconst (-1), 1) := by decide +kernel
theorem dX11_barrel_49 : decode cX11_barrel 49 = .ok (.ireturn, 1) := by decide +kernel
theorem dX11_barrel_50 : decode cX11_barrel 50 = .ok (.iload_n 3, 1) := by decide +kernel
theorem dX11_barrel_51 : decode cX11_barrel 51 = .ok (.tableswitch 89 0 6 #[41, 46, 51, 65, 72, 79, 84], 41) := by decide +kernel
theorem dX11_barrel_92 : decode cX11_barrel 92 = .ok (.aload_n 0, 1) := by decide +kernel
theorem dX11_barrel_93 : decode cX11_barrel 93 = .ok (.getfield 167, 3) := by decide +kernel
theorem dX11_barrel_96 : decode cX11_barrel 96 = .ok (.ireturn, 1) := by decide +kernel
theorem dX11_barrel_97 : decode cX11_barrel 97 = .ok (.aload_n 0, 1) := by decide +kernel
theorem dX11_barrel_98 : decode cX11_barrel 98 = .ok (.getfield 120, 3) := by decide +kernel
theorem dX11_barrel_101 : decode cX11_barrel 101 = .ok (.ireturn, 1) := by decide +kernel
theorem dX11_barrel_102 : decode cX11_barrel 102 = .ok (.aload_n 0, 1) := by decide +kernel
theorem dX11_barrel_103 : decode cX11_barrel 103 = .ok (.getfield 28, 3) := by decide +kernel
theorem dX11_barrel_106 : decode cX11_barrel 106 = .ok (.iconst 1, 1) := by decide +kernel
theorem dX11_barrel_107 : decode cX11_barrel 107 = .ok (.iaload, 1) := by decide +kernel
theorem dX11_barrel_108 : decode cX11_barrel 108 = .ok (.aload_n 0, 1) := by decide +kernel
theorem dX11_barrel_109 : decode cX11_barrel 109 = .ok (.getfield 28, 3) := by decide +kernel
theorem dX11_barrel_112 : decode cX11_barrel 112 = .ok (.iconst 2, 1) := by decide +kernel
theorem dX11_barrel_113 : decode cX11_barrel 113 = .ok (.iaload, 1) := by decide +kernel
theorem dX11_barrel_114 : decode cX11_barrel 114 = .ok (.idiv, 1) := by decide +kernel
theorem dX11_barrel_115 : decode cX11_barrel 115 = .ok (.ireturn, 1) := by decide +kernel
theorem dX11_barrel_116 : decode cX11_barrel 116 = .ok (.aload_n 0, 1) := by decide +kernel
theorem dX11_barrel_117 : decode cX11_barrel 117 = .ok (.iload_n 1, 1) := by decide +kernel
theorem dX11_barrel_118 : decode cX11_barrel 118 = .ok (.iconst 3, 1) := by decide +kernel
theorem dX11_barrel_119 : decode cX11_barrel 119 = .ok (.invokevirtual 123, 3) := by decide +kernel
theorem dX11_barrel_122 : decode cX11_barrel 122 = .ok (.ireturn, 1) := by decide +kernel
theorem dX11_barrel_123 : decode cX11_barrel 123 = .ok (.aload_n 0, 1) := by decide +kernel
theorem dX11_barrel_124 : decode cX11_barrel 124 = .ok (.iload_n 1, 1) := by decide +kernel
theorem dX11_barrel_125 : decode cX11_barrel 125 = .ok (.iconst 2, 1) := by decide +kernel
theorem dX11_barrel_126 : decode cX11_barrel 126 = .ok (.invokevirtual 123, 3) := by decide +kernel
theorem dX11_barrel_129 : decode cX11_barrel 129 = .ok (.ireturn, 1) := by decide +kernel
theorem dX11_barrel_130 : decode cX11_barrel 130 = .ok (.aload_n 0, 1) := by decide +kernel
theorem dX11_barrel_131 : decode cX11_barrel 131 = .ok (.getfield 127, 3) := by decide +kernel
theorem dX11_barrel_134 : decode cX11_barrel 134 = .ok (.ireturn, 1) := by decide +kernel
theorem dX11_barrel_135 : decode cX11_barrel 135 = .ok (.aload_n 0, 1) := by decide +kernel
theorem dX11_barrel_136 : decode cX11_barrel 136 = .ok (.getfield 176, 3) := by decide +kernel
theorem dX11_barrel_139 : decode cX11_barrel 139 = .ok (.ireturn, 1) := by decide +kernel
theorem dX11_barrel_140 : decode cX11_barrel 140 = .ok (.bipush (-2), 2) := by decide +kernel
theorem dX11_barrel_142 : decode cX11_barrel 142 = .ok (.ireturn, 1) := by decide +kernel
theorem dX11_filled_0 : decode cX11_filled 0 = .ok (.iload_n 1, 1) := by decide +kernel
theorem dX11_filled_1 : decode cX11_filled 1 = .ok (.invokestatic 133, 3) := by decide +kernel
theorem dX11_filled_4 : decode cX11_filled 4 = .ok (.ifCond .eq 12, 3) := by decide +kernel
theorem dX11_filled_7 : decode cX11_filled 7 = .ok (.iload_n 2, 1) := by decide +kernel
theorem dX11_filled_8 : decode cX11_filled 8 = .ok (.iconst 0, 1) := by decide +kernel
theorem dX11_filled_9 : decode cX11_filled 9 = .ok (.iconst 5, 1) := by decide +kernel
theorem dX11_filled_10 : decode cX11_filled 10 = .ok (.invokestatic 94, 3) := by decide +kernel
theorem dX11_filled_13 : decode cX11_filled 13 = .ok (.ifCond .ne 5, 3) := by decide +kernel
theorem dX11_filled_16 : decode cX11_filled 16 = .ok (.iconst (-1), 1) := by decide +kernel
theorem dX11_filled_17 : decode cX11_filled 17 = .ok (.ireturn, 1) := by decide +kernel
theorem dX11_filled_18 : decode cX11_filled 18 = .ok (.iload_n 3, 1) := by decide +kernel
theorem dX11_filled_19 : decode cX11_filled 19 = .ok (.invokestatic 139, 3) := by decide +kernel
theorem dX11_filled_22 : decode cX11_filled 22 = .ok (.ifCond .eq 13, 3) := by decide +kernel
theorem dX11_filled_25 : decode cX11_filled 25 = .ok (.iload 4, 2) := by decide +kernel
theorem dX11_filled_27 : decode cX11_filled 27 = .ok (.iconst 0, 1) := by decide +kernel
theorem dX11_filled_28 : decode cX11_filled 28 = .ok (.iconst 1, 1) := by decide +kernel
theorem dX11_filled_29 : decode cX11_filled 29 = .ok (.invokestatic 94, 3) := by decide +kernel
theorem dX11_filled_32 : decode cX11_filled 32 = .ok (.ifCond .ne 6, 3) := by decide +kernel
theorem dX11_filled_35 : decode cX11_filled 35 = .ok (.bipush (-2), 2) := by decide +kernel
theorem dX11_filled_37 : decode cX11_filled 37 = .ok (.ireturn, 1) := by decide +kernel
theorem dX11_filled_38 : decode cX11_filled 38 = .ok (.aload_n 0, 1) := by decide +kernel
theorem dX11_filled_39 : decode cX11_filled 39 = .ok (.iload_n 1, 1) := by decide +kernel
theorem dX11_filled_40 : decode cX11_filled 40 = .ok (.invokevirtual 179, 3) := by decide +kernel
theorem dX11_filled_43 : decode cX11_filled 43 = .ok (.aload_n 0, 1) := by decide +kernel
theorem dX11_filled_44 : decode cX11_filled 44 = .ok (.invokevirtual 182, 3) := by decide +kernel
theorem dX11_filled_47 : decode cX11_filled 47 = .ok (.istore 5, 2) := by decide +kernel
theorem dX11_filled_49 : decode cX11_filled 49 = .ok (.iconst 0, 1) := by decide +kernel
theorem dX11_filled_50 : decode cX11_filled 50 = .ok (.istore 6, 2) := by decide +kernel
theorem dX11_filled_52 : decode cX11_filled 52 = .ok (.iconst 0, 1) := by decide +kernel
theorem dX11_filled_53 : decode cX11_filled 53 = .ok (.istore 7, 2) := by decide +kernel
theorem dX11_filled_55 : decode cX11_filled 55 = .ok (.iload 7, 2) := by decide +kernel
theorem dX11_filled_57 : decode cX11_filled 57 = .ok (.iload 5, 2) := by decide +kernel
theorem dX11_filled_59 : decode cX11_filled 59 = .ok (.if_icmp .ge 51, 3) := by decide +kernel
theorem dX11_filled_62 : decode cX11_filled 62 = .ok (.aload_n 0, 1) := by decide +kernel
theorem dX11_filled_63 : decode cX11_filled 63 = .ok (.invokevirtual 185, 3) := by decide +kernel
theorem dX11_filled_66 : decode cX11_filled 66 = .ok (.iload 6, 2) := by decide +kernel
theorem dX11_filled_68 : decode cX11_filled 68 = .ok (.aload_n 0, 1) := by decide +kernel
theorem dX11_filled_69 : decode cX11_filled 69 = .ok (.getfield 167, 3) := by decide +kernel
theorem dX11_filled_72 : decode cX11_filled 72 = .ok (.iload_n 3, 1) := by decide +kernel
theorem dX11_filled_73 : decode cX11_filled 73 = .ok (.sipush 240, 3) := by decide +kernel
theorem dX11_filled_76 : decode cX11_filled 76 = .ok (.isub, 1) := by decide +kernel
theorem dX11_filled_77 : decode cX11_filled 77 = .ok (.if_icmp .gt 23, 3) := by decide +kernel
theorem dX11_filled_80 : decode cX11_filled 80 = .ok (.aload_n 0, 1) := by decide +kernel
theorem dX11_filled_81 : decode cX11_filled 81 = .ok (.iload_n 1, 1) := by decide +kernel
theorem dX11_filled_82 : decode cX11_filled 82 = .ok (.aload_n 0, 1) := by decide +kernel
theorem dX11_filled_83 : decode cX11_filled 83 = .ok (.getfield 167, 3) := by decide +kernel
theorem dX11_filled_86 : decode cX11_filled 86 = .ok (.bipush 24, 2) := by decide +kernel
theorem dX11_filled_88 : decode cX11_filled 88 = .ok (.idiv, 1) := by decide +kernel
theorem dX11_filled_89 : decode cX11_filled 89 = .ok (.invokevirtual 192, 3) := by decide +kernel
theorem dX11_filled_92 : decode cX11_filled 92 = .ok (.iload_n 2, 1) := by decide +kernel
theorem dX11_filled_93 : decode cX11_filled 93 = .ok (.if_icmp .ne 7, 3) := by decide +kernel
theorem dX11_filled_96 : decode cX11_filled 96 = .ok (.iconst 1, 1) := by decide +kernel
theorem dX11_filled_97 : decode cX11_filled 97 = .ok (.goto 4, 3) := by decide +kernel
theorem dX11_filled_100 : decode cX11_filled 100 = .ok (.iconst 0, 1) := by decide +kernel
theorem dX11_filled_101 : decode cX11_filled 101 = .ok (.iadd, 1) := by decide +kernel
theorem dX11_filled_102 : decode cX11_filled 102 = .ok (.istore 6, 2) := by decide +kernel
theorem dX11_filled_104 : decode cX11_filled 104 = .ok (.iinc 7 1, 3) := by decide +kernel
theorem dX11_filled_107 : decode cX11_filled 107 = .ok (.goto (-52), 3) := by decide +kernel
theorem dX11_filled_110 : decode cX11_filled 110 = .ok (.iload 6, 2) := by decide +kernel
theorem dX11_filled_112 : decode cX11_filled 112 = .ok (.aload_n 0, 1) := by decide +kernel
theorem dX11_filled_113 : decode cX11_filled 113 = .ok (.getfield 28, 3) := by decide +kernel
theorem dX11_filled_116 : decode cX11_filled 116 = .ok (.iconst 1, 1) := by decide +kernel
theorem dX11_filled_117 : decode cX11_filled 117 = .ok (.iaload, 1) := by decide +kernel
theorem dX11_filled_118 : decode cX11_filled 118 = .ok (.aload_n 0, 1) := by decide +kernel
theorem dX11_filled_119 : decode cX11_filled 119 = .ok (.getfield 28, 3) := by decide +kernel
theorem dX11_filled_122 : decode cX11_filled 122 = .ok (.iconst 1, 1) := by decide +kernel
theorem dX11_filled_123 : decode cX11_filled 123 = .ok (.iaload, 1) := by decide +kernel
theorem dX11_filled_124 : decode cX11_filled 124 = .ok (.aload_n 0, 1) := by decide +kernel
theorem dX11_filled_125 : decode cX11_filled 125 = .ok (.getfield 28, 3) := by decide +kernel
theorem dX11_filled_128 : decode cX11_filled 128 = .ok (.iconst 3, 1) := by decide +kernel
theorem dX11_filled_129 : decode cX11_filled 129 = .ok (.iaload, 1) := by decide +kernel
theorem dX11_filled_130 : decode cX11_filled 130 = .ok (.imul, 1) := by decide +kernel
theorem dX11_filled_131 : decode cX11_filled 131 = .ok (.bipush 100, 2) := by decide +kernel
theorem dX11_filled_133 : decode cX11_filled 133 = .ok (.idiv, 1) := by decide +kernel
theorem dX11_filled_134 : decode cX11_filled 134 = .ok (.isub, 1) := by decide +kernel
theorem dX11_filled_135 : decode cX11_filled 135 = .ok (.imul, 1) := by decide +kernel
theorem dX11_filled_136 : decode cX11_filled 136 = .ok (.istore 7, 2) := by decide +kernel
theorem dX11_filled_138 : decode cX11_filled 138 = .ok (.iload 4, 2) := by decide +kernel
theorem dX11_filled_140 : decode cX11_filled 140 = .ok (.ifCond .ne 15, 3) := by decide +kernel
theorem dX11_filled_143 : decode cX11_filled 143 = .ok (.iload 7, 2) := by decide +kernel
theorem dX11_filled_145 : decode cX11_filled 145 = .ok (.aload_n 0, 1) := by decide +kernel
theorem dX11_filled_146 : decode cX11_filled 146 = .ok (.getfield 28, 3) := by decide +kernel
theorem dX11_filled_149 : decode cX11_filled 149 = .ok (.iconst 1, 1) := by decide +kernel
theorem dX11_filled_150 : decode cX11_filled 150 = .ok (.iaload, 1) := by decide +kernel
theorem dX11_filled_151 : decode cX11_filled 151 = .ok (.idiv, 1) := by decide +kernel
theorem dX11_filled_152 : decode cX11_filled 152 = .ok (.goto 12, 3) := by decide +kernel
theorem dX11_filled_155 : decode cX11_filled 155 = .ok (.iload 7, 2) := by decide +kernel
theorem dX11_filled_157 : decode cX11_filled 157 = .ok (.aload_n 0, 1) := by decide +kernel
theorem dX11_filled_158 : decode cX11_filled 158 = .ok (.getfield 28, 3) := by decide +kernel
theorem dX11_filled_161 : decode cX11_filled 161 = .ok (.iconst 1, 1) := by decide +kernel
theorem dX11_filled_162 : decode cX11_filled 162 = .ok (.iaload, 1) := by decide +kernel
theorem dX11_filled_163 : decode cX11_filled 163 = .ok (.irem, 1) := by decide +kernel
theorem dX11_filled_164 : decode cX11_filled 164 = .ok (.ireturn, 1) := by decide +kernel
theorem dX11_choose_0 : decode cX11_choose 0 = .ok (.iload_n 1, 1) := by decide +kernel
theorem dX11_choose_1 : decode cX11_choose 1 = .ok (.iload_n 0, 1) := by decide +kernel
theorem dX11_choose_2 : decode cX11_choose 2 = .ok (.if_icmp .le 7, 3) := by decide +kernel
theorem dX11_choose_5 : decode cX11_choose 5 = .ok (.lconst 0, 1) := by decide +kernel
theorem dX11_choose_6 : decode cX11_choose 6 = .ok (.goto 4, 3) := by decide +kernel
theorem dX11_choose_9 : decode cX11_choose 9 = .ok (.lconst 1, 1) := by decide +kernel
theorem dX11_choose_10 : decode cX11_choose 10 = .ok (.lstore_n 2, 1) := by decide +kernel
theorem dX11_choose_11 : decode cX11_choose 11 = .ok (.iconst 0, 1) := by decide +kernel
theorem dX11_choose_12 : decode cX11_choose 12 = .ok (.istore 4, 2) := by decide +kernel
theorem dX11_choose_14 : decode cX11_choose 14 = .ok (.iload 4, 2) := by decide +kernel
theorem dX11_choose_16 : decode cX11_choose 16 = .ok (.iload_n 1, 1) := by decide +kernel
theorem dX11_choose_17 : decode cX11_choose 17 = .ok (.if_icmp .ge 29, 3) := by decide +kernel
theorem dX11_choose_20 : decode cX11_choose 20 = .ok (.lload_n 2, 1) := by decide +kernel
theorem dX11_choose_21 : decode cX11_choose 21 = .ok (.lconst 0, 1) := by decide +kernel
theorem dX11_choose_22 : decode cX11_choose 22 = .ok (.lcmp, 1) := by decide +kernel
theorem dX11_choose_23 : decode cX11_choose 23 = .ok (.ifCond .le 23, 3) := by decide +kernel
theorem dX11_choose_26 : decode cX11_choose 26 = .ok (.lload_n 2, 1) := by decide +kernel
theorem dX11_choose_27 : decode cX11_choose 27 = .ok (.iload_n 0, 1) := by decide +kernel
theorem dX11_choose_28 : decode cX11_choose 28 = .ok (.iload 4, 2) := by decide +kernel
theorem dX11_choose_30 : decode cX11_choose 30 = .ok (.isub, 1) := by decide +kernel
theorem dX11_choose_31 : decode cX11_choose 31 = .ok (.i2l, 1) := by decide +kernel
theorem dX11_choose_32 : decode cX11_choose 32 = .ok (.lmul, 1) := by decide +kernel
theorem dX11_choose_33 : decode cX11_choose 33 = .ok (.iload 4, 2) := by decide +kernel
theorem dX11_choose_35 : decode cX11_choose 35 = .ok (.iconst 1, 1) := by decide +kernel
theorem dX11_choose_36 : decode cX11_choose 36 = .ok (.iadd, 1) := by decide +kernel
theorem dX11_choose_37 : decode cX11_choose 37 = .ok (.i2l, 1) := by decide +kernel
theorem dX11_choose_38 : decode cX11_choose 38 = .ok (.ldiv, 1) := by decide +kernel
theorem dX11_choose_39 : decode cX11_choose 39 = .ok (.lstore_n 2, 1) := by decide +kernel
theorem dX11_choose_40 : decode cX11_choose 40 = .ok (.iinc 4 1, 3) := by decide +kernel
theorem dX11_choose_43 : decode cX11_choose 43 = .ok (.goto (-29), 3) := by decide +kernel
theorem dX11_choose_46 : decode cX11_choose 46 = .ok (.lload_n 2, 1) := by decide +kernel
theorem dX11_choose_47 : decode cX11_choose 47 = .ok (.lreturn, 1) := by decide +kernel
theorem dX11_open_0 : decode cX11_open 0 = .ok (.iload_n 1, 1) := by decide +kernel
theorem dX11_open_1 : decode cX11_open 1 = .ok (.iconst 1, 1) := by decide +kernel
theorem dX11_open_2 : decode cX11_open 2 = .ok (.bipush 30, 2) := by decide +kernel
theorem dX11_open_4 : decode cX11_open 4 = .ok (.invokestatic 94, 3) := by decide +kernel
theorem dX11_open_7 : decode cX11_open 7 = .ok (.ifCond .eq 22, 3) := by decide +kernel
theorem dX11_open_10 : decode cX11_open 10 = .ok (.iload_n 2, 1) := by decide +kernel
theorem dX11_open_11 : decode cX11_open 11 = .ok (.iconst 1, 1) := by decide +kernel
theorem dX11_open_12 : decode cX11_open 12 = .ok (.iload_n 1, 1) := by decide +kernel
theorem dX11_open_13 : decode cX11_open 13 = .ok (.invokestatic 94, 3) := by decide +kernel
theorem dX11_open_16 : decode cX11_open 16 = .ok (.ifCond .eq 13, 3) := by decide +kernel
theorem dX11_open_19 : decode cX11_open 19 = .ok (.iload_n 3, 1) := by decide +kernel
theorem dX11_open_20 : decode cX11_open 20 = .ok (.iconst 0, 1) := by decide +kernel
theorem dX11_open_21 : decode cX11_open 21 = .ok (.bipush 99, 2) := by decide +kernel
theorem dX11_open_23 : decode cX11_open 23 = .ok (.invokestatic 94, 3) := by decide +kernel
theorem dX11_open_26 : decode cX11_open 26 = .ok (.ifCond .ne 6, 3) := by decide +kernel
theorem dX11_open_29 : decode cX11_open 29 = .ok (.bipush (-2), 2) := by decide +kernel
theorem dX11_open_31 : decode cX11_open 31 = .ok (.ireturn, 1) := by decide +kernel
theorem dX11_open_32 : decode cX11_open 32 = .ok (.iconst 0, 1) := by decide +kernel
theorem dX11_open_33 : decode cX11_open 33 = .ok (.istore 4, 2) := by decide +kernel
theorem dX11_open_35 : decode cX11_open 35 = .ok (.iload_n 1, 1) := by decide +kernel
theorem dX11_open_36 : decode cX11_open 36 = .ok (.iload_n 2, 1) := by decide +kernel
theorem dX11_open_37 : decode cX11_open 37 = .ok (.isub, 1) := by decide +kernel
theorem dX11_open_38 : decode cX11_open 38 = .ok (.iload 4, 2) := by decide +kernel
theorem dX11_open_40 : decode cX11_open 40 = .ok (.invokestatic 195, 3) := by decide +kernel
theorem dX11_open_43 : decode cX11_open 43 = .ok (.ldc2_w 199, 3) := by decide +kernel
theorem dX11_open_46 : decode cX11_open 46 = .ok (.lmul, 1) := by decide +kernel
theorem dX11_open_47 : decode cX11_open 47 = .ok (.iload_n 3, 1) := by decide +kernel
theorem dX11_open_48 : decode cX11_open 48 = .ok (.i2l, 1) := by decide +kernel
theorem dX11_open_49 : decode cX11_open 49 = .ok (.iload_n 1, 1) := by decide +kernel
theorem dX11_open_50 : decode cX11_open 50 = .ok (.iload 4, 2) := by decide +kernel
theorem dX11_open_52 : decode cX11_open 52 = .ok (.invokestatic 195, 3) := by decide +kernel
theorem dX11_open_55 : decode cX11_open 55 = .ok (.lmul, 1) := by decide +kernel
theorem dX11_open_56 : decode cX11_open 56 = .ok (.lcmp, 1) := by decide +kernel
theorem dX11_open_57 : decode cX11_open 57 = .ok (.ifCond .le 9, 3) := by decide +kernel
theorem dX11_open_60 : decode cX11_open 60 = .ok (.iinc 4 1, 3) := by decide +kernel
theorem dX11_open_63 : decode cX11_open 63 = .ok (.goto (-28), 3) := by decide +kernel
theorem dX11_open_66 : decode cX11_open 66 = .ok (.iload 4, 2) := by decide +kernel
theorem dX11_open_68 : decode cX11_open 68 = .ok (.ireturn, 1) := by decide +kernel
theorem dX11_judge_0 : decode cX11_judge 0 = .ok (.iload_n 1, 1) := by decide +kernel
theorem dX11_judge_1 : decode cX11_judge 1 = .ok (.iconst 0, 1) := by decide +kernel
theorem dX11_judge_2 : decode cX11_judge 2 = .ok (.bipush 9, 2) := by decide +kernel
theorem dX11_judge_4 : decode cX11_judge 4 = .ok (.invokestatic 94, 3) := by decide +kernel
theorem dX11_judge_7 : decode cX11_judge 7 = .ok (.ifCond .eq 23, 3) := by decide +kernel
theorem dX11_judge_10 : decode cX11_judge 10 = .ok (.iload_n 2, 1) := by decide +kernel
theorem dX11_judge_11 : decode cX11_judge 11 = .ok (.iconst 0, 1) := by decide +kernel
theorem dX11_judge_12 : decode cX11_judge 12 = .ok (.bipush 9, 2) := by decide +kernel
theorem dX11_judge_14 : decode cX11_judge 14 = .ok (.invokestatic 94, 3) := by decide +kernel
theorem dX11_judge_17 : decode cX11_judge 17 = .ok (.ifCond .eq 13, 3) := by decide +kernel
theorem dX11_judge_20 : decode cX11_judge 20 = .ok (.iload_n 3, 1) := by decide +kernel
theorem dX11_judge_21 : decode cX11_judge 21 = .ok (.iconst 0, 1) := by decide +kernel
theorem dX11_judge_22 : decode cX11_judge 22 = .ok (.bipush 9, 2) := by decide +kernel
theorem dX11_judge_24 : decode cX11_judge 24 = .ok (.invokestatic 94, 3) := by decide +kernel
theorem dX11_judge_27 : decode cX11_judge 27 = .ok (.ifCond .ne 6, 3) := by decide +kernel
theorem dX11_judge_30 : decode cX11_judge 30 = .ok (.bipush (-2), 2) := by decide +kernel
theorem dX11_judge_32 : decode cX11_judge 32 = .ok (.ireturn, 1) := by decide +kernel
theorem dX11_judge_33 : decode cX11_judge 33 = .ok (.aload_n 0, 1) := by decide +kernel
theorem dX11_judge_34 : decode cX11_judge 34 = .ok (.getfield 201, 3) := by decide +kernel
theorem dX11_judge_37 : decode cX11_judge 37 = .ok (.bipush 24, 2) := by decide +kernel
theorem dX11_judge_39 : decode cX11_judge 39 = .ok (.if_icmp .ne 6, 3) := by decide +kernel
theorem dX11_judge_42 : decode cX11_judge 42 = .ok (.bipush (-4), 2) := by decide +kernel
theorem dX11_judge_44 : decode cX11_judge 44 = .ok (.ireturn, 1) := by decide +kernel
theorem dX11_judge_45 : decode cX11_judge 45 = .ok (.aload_n 0, 1) := by decide +kernel
theorem dX11_judge_46 : decode cX11_judge 46 = .ok (.getfield 37, 3) := by decide +kernel
theorem dX11_judge_49 : decode cX11_judge 49 = .ok (.iconst 4, 1) := by decide +kernel
theorem dX11_judge_50 : decode cX11_judge 50 = .ok (.aload_n 0, 1) := by decide +kernel
theorem dX11_judge_51 : decode cX11_judge 51 = .ok (.getfield 201, 3) := by decide +kernel
theorem dX11_judge_54 : decode cX11_judge 54 = .ok (.imul, 1) := by decide +kernel
theorem dX11_judge_55 : decode cX11_judge 55 = .ok (.iload_n 1, 1) := by decide +kernel
theorem dX11_judge_56 : decode cX11_judge 56 = .ok (.iastore, 1) := by decide +kernel
theorem dX11_judge_57 : decode cX11_judge 57 = .ok (.aload_n 0, 1) := by decide +kernel
theorem dX11_judge_58 : decode cX11_judge 58 = .ok (.getfield 37, 3) := by decide +kernel
theorem dX11_judge_61 : decode cX11_judge 61 = .ok (.iconst 4, 1) := by decide +kernel
theorem dX11_judge_62 : decode cX11_judge 62 = .ok (.aload_n 0, 1) := by decide +kernel
theorem dX11_judge_63 : decode cX11_judge 63 = .ok (.getfield 201, 3) := by decide +kernel
theorem dX11_judge_66 : decode cX11_judge 66 = .ok (.imul, 1) := by decide +kernel
theorem dX11_judge_67 : decode cX11_judge 67 = .ok (.iconst 1, 1) := by decide +kernel
theorem dX11_judge_68 : decode cX11_judge 68 = .ok (.iadd, 1) := by decide +kernel
theorem dX11_judge_69 : decode cX11_judge 69 = .ok (.iload_n 2, 1) := by decide +kernel
theorem dX11_judge_70 : decode cX11_judge 70 = .ok (.iastore, 1) := by decide +kernel
theorem dX11_judge_71 : decode cX11_judge 71 = .ok (.aload_n 0, 1) := by decide +kernel
theorem dX11_judge_72 : decode cX11_judge 72 = .ok (.getfield 37, 3) := by decide +kernel
theorem dX11_judge_75 : decode cX11_judge 75 = .ok (.iconst 4, 1) := by decide +kernel
theorem dX11_judge_76 : decode cX11_judge 76 = .ok (.aload_n 0, 1) := by decide +kernel
theorem dX11_judge_77 : decode cX11_judge 77 = .ok (.getfield 201, 3) := by decide +kernel
theorem dX11_judge_80 : decode cX11_judge 80 = .ok (.imul, 1) := by decide +kernel
theorem dX11_judge_81 : decode cX11_judge 81 = .ok (.iconst 2, 1) := by decide +kernel
theorem dX11_judge_82 : decode cX11_judge 82 = .ok (.iadd, 1) := by decide +kernel
theorem dX11_judge_83 : decode cX11_judge 83 = .ok (.iload_n 3, 1) := by decide +kernel
theorem dX11_judge_84 : decode cX11_judge 84 = .ok (.iastore, 1) := by decide +kernel
theorem dX11_judge_85 : decode cX11_judge 85 = .ok (.aload_n 0, 1) := by decide +kernel
theorem dX11_judge_86 : decode cX11_judge 86 = .ok (.getfield 37, 3) := by decide +kernel
theorem dX11_judge_89 : decode cX11_judge 89 = .ok (.iconst 4, 1) := by decide +kernel
theorem dX11_judge_90 : decode cX11_judge 90 = .ok (.aload_n 0, 1) := by decide +kernel
theorem dX11_judge_91 : decode cX11_judge 91 = .ok (.getfield 201, 3) := by decide +kernel
theorem dX11_judge_94 : decode cX11_judge 94 = .ok (.imul, 1) := by decide +kernel
theorem dX11_judge_95 : decode cX11_judge 95 = .ok (.iconst 3, 1) := by decide +kernel
theorem dX11_judge_96 : decode cX11_judge 96 = .ok (.iadd, 1) := by decide +kernel
theorem dX11_judge_97 : decode cX11_judge 97 = .ok (.iload 4, 2) := by decide +kernel
theorem dX11_judge_99 : decode cX11_judge 99 = .ok (.ifCond .eq 7, 3) := by decide +kernel
theorem dX11_judge_102 : decode cX11_judge 102 = .ok (.iconst 1, 1) := by decide +kernel
theorem dX11_judge_103 : decode cX11_judge 103 = .ok (.goto 4, 3) := by decide +kernel
theorem dX11_judge_106 : decode cX11_judge 106 = .ok (.iconst 0, 1) := by decide +kernel
theorem dX11_judge_107 : decode cX11_judge 107 = .ok (.iastore, 1) := by decide +kernel
theorem dX11_judge_108 : decode cX11_judge 108 = .ok (.aload_n 0, 1) := by decide +kernel
theorem dX11_judge_109 : decode cX11_judge 109 = .ok (.dup, 1) := by decide +kernel
theorem dX11_judge_110 : decode cX11_judge 110 = .ok (.getfield 201, 3) := by decide +kernel
theorem dX11_judge_113 : decode cX11_judge 113 = .ok (.iconst 1, 1) := by decide +kernel
theorem dX11_judge_114 : decode cX11_judge 114 = .ok (.iadd, 1) := by decide +kernel
theorem dX11_judge_115 : decode cX11_judge 115 = .ok (.putfield 201, 3) := by decide +kernel
theorem dX11_judge_118 : decode cX11_judge 118 = .ok (.aload_n 0, 1) := by decide +kernel
theorem dX11_judge_119 : decode cX11_judge 119 = .ok (.getfield 201, 3) := by decide +kernel
theorem dX11_judge_122 : decode cX11_judge 122 = .ok (.ireturn, 1) := by decide +kernel
theorem dX11_absolve_0 : decode cX11_absolve 0 = .ok (.aload_n 0, 1) := by decide +kernel
theorem dX11_absolve_1 : decode cX11_absolve 1 = .ok (.getfield 201, 3) := by decide +kernel
theorem dX11_absolve_4 : decode cX11_absolve 4 = .ok (.istore_n 1, 1) := by decide +kernel
theorem dX11_absolve_5 : decode cX11_absolve 5 = .ok (.aload_n 0, 1) := by decide +kernel
theorem dX11_absolve_6 : decode cX11_absolve 6 = .ok (.iconst 0, 1) := by decide +kernel
theorem dX11_absolve_7 : decode cX11_absolve 7 = .ok (.putfield 201, 3) := by decide +kernel
theorem dX11_absolve_10 : decode cX11_absolve 10 = .ok (.iload_n 1, 1) := by decide +kernel
theorem dX11_absolve_11 : decode cX11_absolve 11 = .ok (.ireturn, 1) := by decide +kernel
theorem dX11_hasCause_0 : decode cX11_hasCause 0 = .ok (.aload_n 0, 1) := by decide +kernel
theorem dX11_hasCause_1 : decode cX11_hasCause 1 = .ok (.getfield 37, 3) := by decide +kernel
theorem dX11_hasCause_4 : decode cX11_hasCause 4 = .ok (.iconst 4, 1) := by decide +kernel
theorem dX11_hasCause_5 : decode cX11_hasCause 5 = .ok (.iload_n 1, 1) := by decide +kernel
theorem dX11_hasCause_6 : decode cX11_hasCause 6 = .ok (.imul, 1) := by decide +kernel
theorem dX11_hasCause_7 : decode cX11_hasCause 7 = .ok (.iload_n 2, 1) := by decide +kernel
theorem dX11_hasCause_8 : decode cX11_hasCause 8 = .ok (.bipush 10, 2) := by decide +kernel
theorem dX11_hasCause_10 : decode cX11_hasCause 10 = .ok (.idiv, 1) := by decide +kernel
theorem dX11_hasCause_11 : decode cX11_hasCause 11 = .ok (.iadd, 1) := by decide +kernel
theorem dX11_hasCause_12 : decode cX11_hasCause 12 = .ok (.iaload, 1) := by decide +kernel
theorem dX11_hasCause_13 : decode cX11_hasCause 13 = .ok (.iload_n 2, 1) := by decide +kernel
theorem dX11_hasCause_14 : decode cX11_hasCause 14 = .ok (.bipush 10, 2) := by decide +kernel
theorem dX11_hasCause_16 : decode cX11_hasCause 16 = .ok (.irem, 1) := by decide +kernel
theorem dX11_hasCause_17 : decode cX11_hasCause 17 = .ok (.if_icmp .ne 7, 3) := by decide +kernel
theorem dX11_hasCause_20 : decode cX11_hasCause 20 = .ok (.iconst 1, 1) := by decide +kernel
theorem dX11_hasCause_21 : decode cX11_hasCause 21 = .ok (.goto 4, 3) := by decide +kernel
theorem dX11_hasCause_24 : decode cX11_hasCause 24 = .ok (.iconst 0, 1) := by decide +kernel
theorem dX11_hasCause_25 : decode cX11_hasCause 25 = .ok (.ireturn, 1) := by decide +kernel
theorem dX11_mayBe_0 : decode cX11_mayBe 0 = .ok (.iconst 0, 1) := by decide +kernel
theorem dX11_mayBe_1 : decode cX11_mayBe 1 = .ok (.istore_n 2, 1) := by decide +kernel
theorem dX11_mayBe_2 : decode cX11_mayBe 2 = .ok (.iconst 0, 1) := by decide +kernel
theorem dX11_mayBe_3 : decode cX11_mayBe 3 = .ok (.istore_n 3, 1) := by decide +kernel
end
section
/-! decode rows, by program out of what TURN prints -/
theorem dX11_mayBe_4 : decode cX11_mayBe 4 = .ok (.iconst 0, 1) := by decide +kernel
theorem dX11_mayBe_5 : decode cX11_mayBe 5 = .ok (.istore 4, 2) := by decide +kernel
theorem dX11_mayBe_7 : decode cX11_mayBe 7 = .ok (.iload 4, 2) := by decide +kernel
theorem dX11_mayBe_9 : decode cX11_mayBe 9 = .ok (.aload_n 0, 1) := by decide +kernel
theorem dX11_mayBe_10 : decode cX11_mayBe 10 = .ok (.getfield 201, 3) := by decide +kernel
theorem dX11_mayBe_13 : decode cX11_mayBe 13 = .ok (.if_icmp .ge 75, 3) := by decide +kernel
theorem dX11_mayBe_16 : decode cX11_mayBe 16 = .ok (.aload_n 0, 1) := by decide +kernel
theorem dX11_mayBe_17 : decode cX11_mayBe 17 = .ok (.iload 4, 2) := by decide +kernel
theorem dX11_mayBe_19 : decode cX11_mayBe 19 = .ok (.iload_n 1, 1) := by decide +kernel
theorem dX11_mayBe_20 : decode cX11_mayBe 20 = .ok (.invokevirtual 204, 3) := by decide +kernel
theorem dX11_mayBe_23 : decode cX11_mayBe 23 = .ok (.istore 5, 2) := by decide +kernel
theorem dX11_mayBe_25 : decode cX11_mayBe 25 = .ok (.iload_n 2, 1) := by decide +kernel
theorem dX11_mayBe_26 : decode cX11_mayBe 26 = .ok (.iload 5, 2) := by decide +kernel
theorem dX11_mayBe_28 : decode cX11_mayBe 28 = .ok (.ifCond .eq 22, 3) := by decide +kernel
theorem dX11_mayBe_31 : decode cX11_mayBe 31 = .ok (.aload_n 0, 1) := by decide +kernel
theorem dX11_mayBe_32 : decode cX11_mayBe 32 = .ok (.getfield 37, 3) := by decide +kernel
theorem dX11_mayBe_35 : decode cX11_mayBe 35 = .ok (.iconst 4, 1) := by decide +kernel
theorem dX11_mayBe_36 : decode cX11_mayBe 36 = .ok (.iload 4, 2) := by decide +kernel
theorem dX11_mayBe_38 : decode cX11_mayBe 38 = .ok (.imul, 1) := by decide +kernel
theorem dX11_mayBe_39 : decode cX11_mayBe 39 = .ok (.iconst 3, 1) := by decide +kernel
theorem dX11_mayBe_40 : decode cX11_mayBe 40 = .ok (.iadd, 1) := by decide +kernel
theorem dX11_mayBe_41 : decode cX11_mayBe 41 = .ok (.iaload, 1) := by decide +kernel
theorem dX11_mayBe_42 : decode cX11_mayBe 42 = .ok (.iconst 1, 1) := by decide +kernel
theorem dX11_mayBe_43 : decode cX11_mayBe 43 = .ok (.if_icmp .ne 7, 3) := by decide +kernel
theorem dX11_mayBe_46 : decode cX11_mayBe 46 = .ok (.iconst 1, 1) := by decide +kernel
theorem dX11_mayBe_47 : decode cX11_mayBe 47 = .ok (.goto 4, 3) := by decide +kernel
theorem dX11_mayBe_50 : decode cX11_mayBe 50 = .ok (.iconst 0, 1) := by decide +kernel
theorem dX11_mayBe_51 : decode cX11_mayBe 51 = .ok (.iadd, 1) := by decide +kernel
theorem dX11_mayBe_52 : decode cX11_mayBe 52 = .ok (.istore_n 2, 1) := by decide +kernel
theorem dX11_mayBe_53 : decode cX11_mayBe 53 = .ok (.iload_n 3, 1) := by decide +kernel
theorem dX11_mayBe_54 : decode cX11_mayBe 54 = .ok (.ifCond .ne 22, 3) := by decide +kernel
theorem dX11_mayBe_57 : decode cX11_mayBe 57 = .ok (.iload 5, 2) := by decide +kernel
theorem dX11_mayBe_59 : decode cX11_mayBe 59 = .ok (.ifCond .eq 21, 3) := by decide +kernel
theorem dX11_mayBe_62 : decode cX11_mayBe 62 = .ok (.aload_n 0, 1) := by decide +kernel
theorem dX11_mayBe_63 : decode cX11_mayBe 63 = .ok (.getfield 37, 3) := by decide +kernel
theorem dX11_mayBe_66 : decode cX11_mayBe 66 = .ok (.iconst 4, 1) := by decide +kernel
theorem dX11_mayBe_67 : decode cX11_mayBe 67 = .ok (.iload 4, 2) := by decide +kernel
theorem dX11_mayBe_69 : decode cX11_mayBe 69 = .ok (.imul, 1) := by decide +kernel
theorem dX11_mayBe_70 : decode cX11_mayBe 70 = .ok (.iconst 3, 1) := by decide +kernel
theorem dX11_mayBe_71 : decode cX11_mayBe 71 = .ok (.iadd, 1) := by decide +kernel
theorem dX11_mayBe_72 : decode cX11_mayBe 72 = .ok (.iaload, 1) := by decide +kernel
theorem dX11_mayBe_73 : decode cX11_mayBe 73 = .ok (.ifCond .ne 7, 3) := by decide +kernel
theorem dX11_mayBe_76 : decode cX11_mayBe 76 = .ok (.iconst 1, 1) := by decide +kernel
theorem dX11_mayBe_77 : decode cX11_mayBe 77 = .ok (.goto 4, 3) := by decide +kernel
theorem dX11_mayBe_80 : decode cX11_mayBe 80 = .ok (.iconst 0, 1) := by decide +kernel
theorem dX11_mayBe_81 : decode cX11_mayBe 81 = .ok (.istore_n 3, 1) := by decide +kernel
theorem dX11_mayBe_82 : decode cX11_mayBe 82 = .ok (.iinc 4 1, 3) := by decide +kernel
theorem dX11_mayBe_85 : decode cX11_mayBe 85 = .ok (.goto (-78), 3) := by decide +kernel
theorem dX11_mayBe_88 : decode cX11_mayBe 88 = .ok (.iload_n 2, 1) := by decide +kernel
theorem dX11_mayBe_89 : decode cX11_mayBe 89 = .ok (.iconst 2, 1) := by decide +kernel
theorem dX11_mayBe_90 : decode cX11_mayBe 90 = .ok (.if_icmp .lt 11, 3) := by decide +kernel
theorem dX11_mayBe_93 : decode cX11_mayBe 93 = .ok (.iload_n 3, 1) := by decide +kernel
theorem dX11_mayBe_94 : decode cX11_mayBe 94 = .ok (.ifCond .ne 7, 3) := by decide +kernel
theorem dX11_mayBe_97 : decode cX11_mayBe 97 = .ok (.iconst 1, 1) := by decide +kernel
theorem dX11_mayBe_98 : decode cX11_mayBe 98 = .ok (.goto 4, 3) := by decide +kernel
theorem dX11_mayBe_101 : decode cX11_mayBe 101 = .ok (.iconst 0, 1) := by decide +kernel
theorem dX11_mayBe_102 : decode cX11_mayBe 102 = .ok (.ireturn, 1) := by decide +kernel
theorem dX11_cause_0 : decode cX11_cause 0 = .ok (.iload_n 1, 1) := by decide +kernel
theorem dX11_cause_1 : decode cX11_cause 1 = .ok (.iconst 0, 1) := by decide +kernel
theorem dX11_cause_2 : decode cX11_cause 2 = .ok (.bipush 29, 2) := by decide +kernel
theorem dX11_cause_4 : decode cX11_cause 4 = .ok (.invokestatic 94, 3) := by decide +kernel
theorem dX11_cause_7 : decode cX11_cause 7 = .ok (.ifCond .ne 8, 3) := by decide +kernel
theorem dX11_cause_10 : decode cX11_cause 10 = .ok (.bipush (-2), 2) := by decide +kernel
theorem dX11_cause_12 : decode cX11_cause 12 = .ok (.goto 16, 3) := by decide +kernel
theorem dX11_cause_15 : decode cX11_cause 15 = .ok (.aload_n 0, 1) := by decide +kernel
theorem dX11_cause_16 : decode cX11_cause 16 = .ok (.iload_n 1, 1) := by decide +kernel
theorem dX11_cause_17 : decode cX11_cause 17 = .ok (.invokevirtual 207, 3) := by decide +kernel
theorem dX11_cause_20 : decode cX11_cause 20 = .ok (.ifCond .eq 7, 3) := by decide +kernel
theorem dX11_cause_23 : decode cX11_cause 23 = .ok (.iconst 1, 1) := by decide +kernel
theorem dX11_cause_24 : decode cX11_cause 24 = .ok (.goto 4, 3) := by decide +kernel
theorem dX11_cause_27 : decode cX11_cause 27 = .ok (.iconst 0, 1) := by decide +kernel
theorem dX11_cause_28 : decode cX11_cause 28 = .ok (.ireturn, 1) := by decide +kernel
theorem dX11_explain_0 : decode cX11_explain 0 = .ok (.iconst 1, 1) := by decide +kernel
theorem dX11_explain_1 : decode cX11_explain 1 = .ok (.istore 4, 2) := by decide +kernel
theorem dX11_explain_3 : decode cX11_explain 3 = .ok (.iconst 0, 1) := by decide +kernel
theorem dX11_explain_4 : decode cX11_explain 4 = .ok (.istore 5, 2) := by decide +kernel
theorem dX11_explain_6 : decode cX11_explain 6 = .ok (.iload 5, 2) := by decide +kernel
theorem dX11_explain_8 : decode cX11_explain 8 = .ok (.aload_n 0, 1) := by decide +kernel
theorem dX11_explain_9 : decode cX11_explain 9 = .ok (.getfield 201, 3) := by decide +kernel
theorem dX11_explain_12 : decode cX11_explain 12 = .ok (.if_icmp .ge 89, 3) := by decide +kernel
theorem dX11_explain_15 : decode cX11_explain 15 = .ok (.iload 4, 2) := by decide +kernel
theorem dX11_explain_17 : decode cX11_explain 17 = .ok (.ifCond .eq 84, 3) := by decide +kernel
theorem dX11_explain_20 : decode cX11_explain 20 = .ok (.iload_n 1, 1) := by decide +kernel
theorem dX11_explain_21 : decode cX11_explain 21 = .ok (.ifCond .lt 13, 3) := by decide +kernel
theorem dX11_explain_24 : decode cX11_explain 24 = .ok (.aload_n 0, 1) := by decide +kernel
theorem dX11_explain_25 : decode cX11_explain 25 = .ok (.iload 5, 2) := by decide +kernel
theorem dX11_explain_27 : decode cX11_explain 27 = .ok (.iload_n 1, 1) := by decide +kernel
theorem dX11_explain_28 : decode cX11_explain 28 = .ok (.invokevirtual 204, 3) := by decide +kernel
theorem dX11_explain_31 : decode cX11_explain 31 = .ok (.ifCond .ne 31, 3) := by decide +kernel
theorem dX11_explain_34 : decode cX11_explain 34 = .ok (.iload_n 2, 1) := by decide +kernel
theorem dX11_explain_35 : decode cX11_explain 35 = .ok (.ifCond .lt 13, 3) := by decide +kernel
theorem dX11_explain_38 : decode cX11_explain 38 = .ok (.aload_n 0, 1) := by decide +kernel
theorem dX11_explain_39 : decode cX11_explain 39 = .ok (.iload 5, 2) := by decide +kernel
theorem dX11_explain_41 : decode cX11_explain 41 = .ok (.iload_n 2, 1) := by decide +kernel
theorem dX11_explain_42 : decode cX11_explain 42 = .ok (.invokevirtual 204, 3) := by decide +kernel
theorem dX11_explain_45 : decode cX11_explain 45 = .ok (.ifCond .ne 17, 3) := by decide +kernel
theorem dX11_explain_48 : decode cX11_explain 48 = .ok (.iload_n 3, 1) := by decide +kernel
theorem dX11_explain_49 : decode cX11_explain 49 = .ok (.ifCond .lt 17, 3) := by decide +kernel
theorem dX11_explain_52 : decode cX11_explain 52 = .ok (.aload_n 0, 1) := by decide +kernel
theorem dX11_explain_53 : decode cX11_explain 53 = .ok (.iload 5, 2) := by decide +kernel
theorem dX11_explain_55 : decode cX11_explain 55 = .ok (.iload_n 3, 1) := by decide +kernel
theorem dX11_explain_56 : decode cX11_explain 56 = .ok (.invokevirtual 204, 3) := by decide +kernel
theorem dX11_explain_59 : decode cX11_explain 59 = .ok (.ifCond .eq 7, 3) := by decide +kernel
theorem dX11_explain_62 : decode cX11_explain 62 = .ok (.iconst 1, 1) := by decide +kernel
theorem dX11_explain_63 : decode cX11_explain 63 = .ok (.goto 4, 3) := by decide +kernel
theorem dX11_explain_66 : decode cX11_explain 66 = .ok (.iconst 0, 1) := by decide +kernel
theorem dX11_explain_67 : decode cX11_explain 67 = .ok (.istore 6, 2) := by decide +kernel
theorem dX11_explain_69 : decode cX11_explain 69 = .ok (.aload_n 0, 1) := by decide +kernel
theorem dX11_explain_70 : decode cX11_explain 70 = .ok (.getfield 37, 3) := by decide +kernel
theorem dX11_explain_73 : decode cX11_explain 73 = .ok (.iconst 4, 1) := by decide +kernel
theorem dX11_explain_74 : decode cX11_explain 74 = .ok (.iload 5, 2) := by decide +kernel
theorem dX11_explain_76 : decode cX11_explain 76 = .ok (.imul, 1) := by decide +kernel
theorem dX11_explain_77 : decode cX11_explain 77 = .ok (.iconst 3, 1) := by decide +kernel
theorem dX11_explain_78 : decode cX11_explain 78 = .ok (.iadd, 1) := by decide +kernel
theorem dX11_explain_79 : decode cX11_explain 79 = .ok (.iaload, 1) := by decide +kernel
theorem dX11_explain_80 : decode cX11_explain 80 = .ok (.ifCond .eq 8, 3) := by decide +kernel
theorem dX11_explain_83 : decode cX11_explain 83 = .ok (.iload 6, 2) := by decide +kernel
theorem dX11_explain_85 : decode cX11_explain 85 = .ok (.ifCond .eq 7, 3) := by decide +kernel
theorem dX11_explain_88 : decode cX11_explain 88 = .ok (.iconst 1, 1) := by decide +kernel
theorem dX11_explain_89 : decode cX11_explain 89 = .ok (.goto 4, 3) := by decide +kernel
theorem dX11_explain_92 : decode cX11_explain 92 = .ok (.iconst 0, 1) := by decide +kernel
theorem dX11_explain_93 : decode cX11_explain 93 = .ok (.istore 4, 2) := by decide +kernel
theorem dX11_explain_95 : decode cX11_explain 95 = .ok (.iinc 5 1, 3) := by decide +kernel
theorem dX11_explain_98 : decode cX11_explain 98 = .ok (.goto (-92), 3) := by decide +kernel
theorem dX11_explain_101 : decode cX11_explain 101 = .ok (.iload 4, 2) := by decide +kernel
theorem dX11_explain_103 : decode cX11_explain 103 = .ok (.ireturn, 1) := by decide +kernel
theorem dX11_setOf_0 : decode cX11_setOf 0 = .ok (.iconst 0, 1) := by decide +kernel
theorem dX11_setOf_1 : decode cX11_setOf 1 = .ok (.istore 4, 2) := by decide +kernel
theorem dX11_setOf_3 : decode cX11_setOf 3 = .ok (.iconst 0, 1) := by decide +kernel
theorem dX11_setOf_4 : decode cX11_setOf 4 = .ok (.istore 5, 2) := by decide +kernel
theorem dX11_setOf_6 : decode cX11_setOf 6 = .ok (.iload 5, 2) := by decide +kernel
theorem dX11_setOf_8 : decode cX11_setOf 8 = .ok (.sipush 27000, 3) := by decide +kernel
theorem dX11_setOf_11 : decode cX11_setOf 11 = .ok (.if_icmp .ge 265, 3) := by decide +kernel
theorem dX11_setOf_14 : decode cX11_setOf 14 = .ok (.iload 5, 2) := by decide +kernel
theorem dX11_setOf_16 : decode cX11_setOf 16 = .ok (.sipush 900, 3) := by decide +kernel
theorem dX11_setOf_19 : decode cX11_setOf 19 = .ok (.idiv, 1) := by decide +kernel
theorem dX11_setOf_20 : decode cX11_setOf 20 = .ok (.istore 6, 2) := by decide +kernel
theorem dX11_setOf_22 : decode cX11_setOf 22 = .ok (.iload 5, 2) := by decide +kernel
theorem dX11_setOf_24 : decode cX11_setOf 24 = .ok (.bipush 30, 2) := by decide +kernel
theorem dX11_setOf_26 : decode cX11_setOf 26 = .ok (.idiv, 1) := by decide +kernel
theorem dX11_setOf_27 : decode cX11_setOf 27 = .ok (.bipush 30, 2) := by decide +kernel
theorem dX11_setOf_29 : decode cX11_setOf 29 = .ok (.irem, 1) := by decide +kernel
theorem dX11_setOf_30 : decode cX11_setOf 30 = .ok (.istore 7, 2) := by decide +kernel
theorem dX11_setOf_32 : decode cX11_setOf 32 = .ok (.iload 5, 2) := by decide +kernel
theorem dX11_setOf_34 : decode cX11_setOf 34 = .ok (.bipush 30, 2) := by decide +kernel
theorem dX11_setOf_36 : decode cX11_setOf 36 = .ok (.irem, 1) := by decide +kernel
theorem dX11_setOf_37 : decode cX11_setOf 37 = .ok (.istore 8, 2) := by decide +kernel
theorem dX11_setOf_39 : decode cX11_setOf 39 = .ok (.iload_n 1, 1) := by decide +kernel
theorem dX11_setOf_40 : decode cX11_setOf 40 = .ok (.ifCond .ne 16, 3) := by decide +kernel
theorem dX11_setOf_43 : decode cX11_setOf 43 = .ok (.iload 5, 2) := by decide +kernel
theorem dX11_setOf_45 : decode cX11_setOf 45 = .ok (.ifCond .ne 7, 3) := by decide +kernel
theorem dX11_setOf_48 : decode cX11_setOf 48 = .ok (.iconst 1, 1) := by decide +kernel
theorem dX11_setOf_49 : decode cX11_setOf 49 = .ok (.goto 74, 3) := by decide +kernel
theorem dX11_setOf_52 : decode cX11_setOf 52 = .ok (.iconst 0, 1) := by decide +kernel
theorem dX11_setOf_53 : decode cX11_setOf 53 = .ok (.goto 70, 3) := by decide +kernel
theorem dX11_setOf_56 : decode cX11_setOf 56 = .ok (.iload_n 1, 1) := by decide +kernel
theorem dX11_setOf_57 : decode cX11_setOf 57 = .ok (.iconst 1, 1) := by decide +kernel
theorem dX11_setOf_58 : decode cX11_setOf 58 = .ok (.if_icmp .ne 21, 3) := by decide +kernel
theorem dX11_setOf_61 : decode cX11_setOf 61 = .ok (.iload 7, 2) := by decide +kernel
theorem dX11_setOf_63 : decode cX11_setOf 63 = .ok (.ifCond .ne 12, 3) := by decide +kernel
theorem dX11_setOf_66 : decode cX11_setOf 66 = .ok (.iload 8, 2) := by decide +kernel
theorem dX11_setOf_68 : decode cX11_setOf 68 = .ok (.ifCond .ne 7, 3) := by decide +kernel
theorem dX11_setOf_71 : decode cX11_setOf 71 = .ok (.iconst 1, 1) := by decide +kernel
theorem dX11_setOf_72 : decode cX11_setOf 72 = .ok (.goto 51, 3) := by decide +kernel
theorem dX11_setOf_75 : decode cX11_setOf 75 = .ok (.iconst 0, 1) := by decide +kernel
theorem dX11_setOf_76 : decode cX11_setOf 76 = .ok (.goto 47, 3) := by decide +kernel
theorem dX11_setOf_79 : decode cX11_setOf 79 = .ok (.iload_n 1, 1) := by decide +kernel
theorem dX11_setOf_80 : decode cX11_setOf 80 = .ok (.iconst 2, 1) := by decide +kernel
theorem dX11_setOf_81 : decode cX11_setOf 81 = .ok (.if_icmp .ne 23, 3) := by decide +kernel
theorem dX11_setOf_84 : decode cX11_setOf 84 = .ok (.iload 6, 2) := by decide +kernel
theorem dX11_setOf_86 : decode cX11_setOf 86 = .ok (.iload 7, 2) := by decide +kernel
theorem dX11_setOf_88 : decode cX11_setOf 88 = .ok (.if_icmp .ge 12, 3) := by decide +kernel
theorem dX11_setOf_91 : decode cX11_setOf 91 = .ok (.iload 8, 2) := by decide +kernel
theorem dX11_setOf_93 : decode cX11_setOf 93 = .ok (.ifCond .ne 7, 3) := by decide +kernel
theorem dX11_setOf_96 : decode cX11_setOf 96 = .ok (.iconst 1, 1) := by decide +kernel
theorem dX11_setOf_97 : decode cX11_setOf 97 = .ok (.goto 26, 3) := by decide +kernel
theorem dX11_setOf_100 : decode cX11_setOf 100 = .ok (.iconst 0, 1) := by decide +kernel
theorem dX11_setOf_101 : decode cX11_setOf 101 = .ok (.goto 22, 3) := by decide +kernel
theorem dX11_setOf_104 : decode cX11_setOf 104 = .ok (.iload 6, 2) := by decide +kernel
theorem dX11_setOf_106 : decode cX11_setOf 106 = .ok (.iload 7, 2) := by decide +kernel
theorem dX11_setOf_108 : decode cX11_setOf 108 = .ok (.if_icmp .ge 14, 3) := by decide +kernel
theorem dX11_setOf_111 : decode cX11_setOf 111 = .ok (.iload 7, 2) := by decide +kernel
theorem dX11_setOf_113 : decode cX11_setOf 113 = .ok (.iload 8, 2) := by decide +kernel
theorem dX11_setOf_115 : decode cX11_setOf 115 = .ok (.if_icmp .ge 7, 3) := by decide +kernel
theorem dX11_setOf_118 : decode cX11_setOf 118 = .ok (.iconst 1, 1) := by decide +kernel
theorem dX11_setOf_119 : decode cX11_setOf 119 = .ok (.goto 4, 3) := by decide +kernel
theorem dX11_setOf_122 : decode cX11_setOf 122 = .ok (.iconst 0, 1) := by decide +kernel
theorem dX11_setOf_123 : decode cX11_setOf 123 = .ok (.istore 9, 2) := by decide +kernel
theorem dX11_setOf_125 : decode cX11_setOf 125 = .ok (.iload 9, 2) := by decide +kernel
theorem dX11_setOf_127 : decode cX11_setOf 127 = .ok (.ifCond .eq 49, 3) := by decide +kernel
theorem dX11_setOf_130 : decode cX11_setOf 130 = .ok (.iload_n 1, 1) := by decide +kernel
theorem dX11_setOf_131 : decode cX11_setOf 131 = .ok (.iconst 1, 1) := by decide +kernel
theorem dX11_setOf_132 : decode cX11_setOf 132 = .ok (.if_icmp .lt 12, 3) := by decide +kernel
theorem dX11_setOf_135 : decode cX11_setOf 135 = .ok (.aload_n 0, 1) := by decide +kernel
theorem dX11_setOf_136 : decode cX11_setOf 136 = .ok (.iload 6, 2) := by decide +kernel
theorem dX11_setOf_138 : decode cX11_setOf 138 = .ok (.invokevirtual 207, 3) := by decide +kernel
theorem dX11_setOf_141 : decode cX11_setOf 141 = .ok (.ifCond .eq 35, 3) := by decide +kernel
theorem dX11_setOf_144 : decode cX11_setOf 144 = .ok (.iload_n 1, 1) := by decide +kernel
theorem dX11_setOf_145 : decode cX11_setOf 145 = .ok (.iconst 2, 1) := by decide +kernel
theorem dX11_setOf_146 : decode cX11_setOf 146 = .ok (.if_icmp .lt 12, 3) := by decide +kernel
theorem dX11_setOf_149 : decode cX11_setOf 149 = .ok (.aload_n 0, 1) := by decide +kernel
theorem dX11_setOf_150 : decode cX11_setOf 150 = .ok (.iload 7, 2) := by decide +kernel
theorem dX11_setOf_152 : decode cX11_setOf 152 = .ok (.invokevirtual 207, 3) := by decide +kernel
theorem dX11_setOf_155 : decode cX11_setOf 155 = .ok (.ifCond .eq 21, 3) := by decide +kernel
theorem dX11_setOf_158 : decode cX11_setOf 158 = .ok (.iload_n 1, 1) := by decide +kernel
theorem dX11_setOf_159 : decode cX11_setOf 159 = .ok (.iconst 3, 1) := by decide +kernel
theorem dX11_setOf_160 : decode cX11_setOf 160 = .ok (.if_icmp .lt 12, 3) := by decide +kernel
theorem dX11_setOf_163 : decode cX11_setOf 163 = .ok (.aload_n 0, 1) := by decide +kernel
theorem dX11_setOf_164 : decode cX11_setOf 164 = .ok (.iload 8, 2) := by decide +kernel
theorem dX11_setOf_166 : decode cX11_setOf 166 = .ok (.invokevirtual 207, 3) := by decide +kernel
theorem dX11_setOf_169 : decode cX11_setOf 169 = .ok (.ifCond .eq 7, 3) := by decide +kernel
theorem dX11_setOf_172 : decode cX11_setOf 172 = .ok (.iconst 1, 1) := by decide +kernel
theorem dX11_setOf_173 : decode cX11_setOf 173 = .ok (.goto 4, 3) := by decide +kernel
theorem dX11_setOf_176 : decode cX11_setOf 176 = .ok (.iconst 0, 1) := by decide +kernel
theorem dX11_setOf_177 : decode cX11_setOf 177 = .ok (.istore 9, 2) := by decide +kernel
theorem dX11_setOf_179 : decode cX11_setOf 179 = .ok (.iload 9, 2) := by decide +kernel
theorem dX11_setOf_181 : decode cX11_setOf 181 = .ok (.ifCond .eq 89, 3) := by decide +kernel
theorem dX11_setOf_184 : decode cX11_setOf 184 = .ok (.aload_n 0, 1) := by decide +kernel
theorem dX11_setOf_185 : decode cX11_setOf 185 = .ok (.iload_n 1, 1) := by decide +kernel
theorem dX11_setOf_186 : decode cX11_setOf 186 = .ok (.ifCond .le 8, 3) := by decide +kernel
theorem dX11_setOf_189 : decode cX11_setOf 189 = .ok (.iload 6, 2) := by decide +kernel
theorem dX11_setOf_191 : decode cX11_setOf 191 = .ok (.goto 4, 3) := by decide +kernel
theorem dX11_setOf_194 : decode cX11_setOf 194 = .ok (.iconst (-1), 1) := by decide +kernel
theorem dX11_setOf_195 : decode cX11_setOf 195 = .ok (.iload_n 1, 1) := by decide +kernel
theorem dX11_setOf_196 : decode cX11_setOf 196 = .ok (.iconst 1, 1) := by decide +kernel
theorem dX11_setOf_197 : decode cX11_setOf 197 = .ok (.if_icmp .le 8, 3) := by decide +kernel
theorem dX11_setOf_200 : decode cX11_setOf 200 = .ok (.iload 7, 2) := by decide +kernel
theorem dX11_setOf_202 : decode cX11_setOf 202 = .ok (.goto 4, 3) := by decide +kernel
theorem dX11_setOf_205 : decode cX11_setOf 205 = .ok (.iconst (-1), 1) := by decide +kernel
theorem dX11_setOf_206 : decode cX11_setOf 206 = .ok (.iload_n 1, 1) := by decide +kernel
theorem dX11_setOf_207 : decode cX11_setOf 207 = .ok (.iconst 2, 1) := by decide +kernel
theorem dX11_setOf_208 : decode cX11_setOf 208 = .ok (.if_icmp .le 8, 3) := by decide +kernel
theorem dX11_setOf_211 : decode cX11_setOf 211 = .ok (.iload 8, 2) := by decide +kernel
theorem dX11_setOf_213 : decode cX11_setOf 213 = .ok (.goto 4, 3) := by decide +kernel
theorem dX11_setOf_216 : decode cX11_setOf 216 = .ok (.iconst (-1), 1) := by decide +kernel
theorem dX11_setOf_217 : decode cX11_setOf 217 = .ok (.invokevirtual 210, 3) := by decide +kernel
theorem dX11_setOf_220 : decode cX11_setOf 220 = .ok (.ifCond .eq 50, 3) := by decide +kernel
theorem dX11_setOf_223 : decode cX11_setOf 223 = .ok (.iload 4, 2) := by decide +kernel
theorem dX11_setOf_225 : decode cX11_setOf 225 = .ok (.iload_n 2, 1) := by decide +kernel
theorem dX11_setOf_226 : decode cX11_setOf 226 = .ok (.if_icmp .ne 41, 3) := by decide +kernel
theorem dX11_setOf_229 : decode cX11_setOf 229 = .ok (.iload_n 3, 1) := by decide +kernel
theorem dX11_setOf_230 : decode cX11_setOf 230 = .ok (.iconst 0, 1) := by decide +kernel
theorem dX11_setOf_231 : decode cX11_setOf 231 = .ok (.iload_n 1, 1) := by decide +kernel
theorem dX11_setOf_232 : decode cX11_setOf 232 = .ok (.iconst 1, 1) := by decide +kernel
theorem dX11_setOf_233 : decode cX11_setOf 233 = .ok (.isub, 1) := by decide +kernel
theorem dX11_setOf_234 : decode cX11_setOf 234 = .ok (.invokestatic 94, 3) := by decide +kernel
theorem dX11_setOf_237 : decode cX11_setOf 237 = .ok (.ifCond .ne 8, 3) := by decide +kernel
theorem dX11_setOf_240 : decode cX11_setOf 240 = .ok (.bipush (-6), 2) := by decide +kernel
theorem dX11_setOf_242 : decode cX11_setOf 242 = .ok (.goto 24, 3) := by decide +kernel
theorem dX11_setOf_245 : decode cX11_setOf 245 = .ok (.iload_n 3, 1) := by decide +kernel
theorem dX11_setOf_246 : decode cX11_setOf 246 = .ok (.ifCond .ne 8, 3) := by decide +kernel
theorem dX11_setOf_249 : decode cX11_setOf 249 = .ok (.iload 6, 2) := by decide +kernel
theorem dX11_setOf_251 : decode cX11_setOf 251 = .ok (.goto 15, 3) := by decide +kernel
theorem dX11_setOf_254 : decode cX11_setOf 254 = .ok (.iload_n 3, 1) := by decide +kernel
theorem dX11_setOf_255 : decode cX11_setOf 255 = .ok (.iconst 1, 1) := by decide +kernel
theorem dX11_setOf_256 : decode cX11_setOf 256 = .ok (.if_icmp .ne 8, 3) := by decide +kernel
theorem dX11_setOf_259 : decode cX11_setOf 259 = .ok (.iload 7, 2) := by decide +kernel
theorem dX11_setOf_261 : decode cX11_setOf 261 = .ok (.goto 5, 3) := by decide +kernel
theorem dX11_setOf_264 : decode cX11_setOf 264 = .ok (.iload 8, 2) := by decide +kernel
theorem dX11_setOf_266 : decode cX11_setOf 266 = .ok (.ireturn, 1) := by decide +kernel
theorem dX11_setOf_267 : decode cX11_setOf 267 = .ok (.iinc 4 1, 3) := by decide +kernel
theorem dX11_setOf_270 : decode cX11_setOf 270 = .ok (.iinc 5 1, 3) := by decide +kernel
theorem dX11_setOf_273 : decode cX11_setOf 273 = .ok (.goto (-267), 3) := by decide +kernel
theorem dX11_setOf_276 : decode cX11_setOf 276 = .ok (.iload_n 2, 1) := by decide +kernel
theorem dX11_setOf_277 : decode cX11_setOf 277 = .ok (.iconst (-1), 1) := by decide +kernel
theorem dX11_setOf_278 : decode cX11_setOf 278 = .ok (.if_icmp .ne 8, 3) := by decide +kernel
theorem dX11_setOf_281 : decode cX11_setOf 281 = .ok (.iload 4, 2) := by decide +kernel
theorem dX11_setOf_283 : decode cX11_setOf 283 = .ok (.goto 5, 3) := by decide +kernel
theorem dX11_setOf_286 : decode cX11_setOf 286 = .ok (.bipush (-6), 2) := by decide +kernel
theorem dX11_setOf_288 : decode cX11_setOf 288 = .ok (.ireturn, 1) := by decide +kernel
theorem dX11_fewest_0 : decode cX11_fewest 0 = .ok (.iconst 0, 1) := by decide +kernel
theorem dX11_fewest_1 : decode cX11_fewest 1 = .ok (.istore_n 1, 1) := by decide +kernel
theorem dX11_fewest_2 : decode cX11_fewest 2 = .ok (.iload_n 1, 1) := by decide +kernel
theorem dX11_fewest_3 : decode cX11_fewest 3 = .ok (.iconst 4, 1) := by decide +kernel
theorem dX11_fewest_4 : decode cX11_fewest 4 = .ok (.if_icmp .ge 21, 3) := by decide +kernel
theorem dX11_fewest_7 : decode cX11_fewest 7 = .ok (.aload_n 0, 1) := by decide +kernel
theorem dX11_fewest_8 : decode cX11_fewest 8 = .ok (.iload_n 1, 1) := by decide +kernel
theorem dX11_fewest_9 : decode cX11_fewest 9 = .ok (.iconst (-1), 1) := by decide +kernel
theorem dX11_fewest_10 : decode cX11_fewest 10 = .ok (.iconst 0, 1) := by decide +kernel
theorem dX11_fewest_11 : decode cX11_fewest 11 = .ok (.invokevirtual 213, 3) := by decide +kernel
theorem dX11_fewest_14 : decode cX11_fewest 14 = .ok (.ifCond .le 5, 3) := by decide +kernel
theorem dX11_fewest_17 : decode cX11_fewest 17 = .ok (.iload_n 1, 1) := by decide +kernel
theorem dX11_fewest_18 : decode cX11_fewest 18 = .ok (.ireturn, 1) := by decide +kernel
theorem dX11_fewest_19 : decode cX11_fewest 19 = .ok (.iinc 1 1, 3) := by decide +kernel
theorem dX11_fewest_22 : decode cX11_fewest 22 = .ok (.goto (-20), 3) := by decide +kernel
theorem dX11_fewest_25 : decode cX11_fewest 25 = .ok (.bipush (-6), 2) := by decide +kernel
theorem dX11_fewest_27 : decode cX11_fewest 27 = .ok (.ireturn, 1) := by decide +kernel
theorem dX11_explained_0 : decode cX11_explained 0 = .ok (.aload_n 0, 1) := by decide +kernel
theorem dX11_explained_1 : decode cX11_explained 1 = .ok (.invokevirtual 217, 3) := by decide +kernel
theorem dX11_explained_4 : decode cX11_explained 4 = .ok (.ireturn, 1) := by decide +kernel
theorem dX11_rival_0 : decode cX11_rival 0 = .ok (.aload_n 0, 1) := by decide +kernel
theorem dX11_rival_1 : decode cX11_rival 1 = .ok (.invokevirtual 217, 3) := by decide +kernel
theorem dX11_rival_4 : decode cX11_rival 4 = .ok (.istore_n 3, 1) := by decide +kernel
theorem dX11_rival_5 : decode cX11_rival 5 = .ok (.iload_n 3, 1) := by decide +kernel
theorem dX11_rival_6 : decode cX11_rival 6 = .ok (.ifCond .ge 17, 3) := by decide +kernel
theorem dX11_rival_9 : decode cX11_rival 9 = .ok (.iload_n 1, 1) := by decide +kernel
theorem dX11_rival_10 : decode cX11_rival 10 = .ok (.iconst (-1), 1) := by decide +kernel
theorem dX11_rival_11 : decode cX11_rival 11 = .ok (.if_icmp .ne 7, 3) := by decide +kernel
theorem dX11_rival_14 : decode cX11_rival 14 = .ok (.iconst 0, 1) := by decide +kernel
theorem dX11_rival_15 : decode cX11_rival 15 = .ok (.goto 15, 3) := by decide +kernel
theorem dX11_rival_18 : decode cX11_rival 18 = .ok (.bipush (-6), 2) := by decide +kernel
theorem dX11_rival_20 : decode cX11_rival 20 = .ok (.goto 10, 3) := by decide +kernel
theorem dX11_rival_23 : decode cX11_rival 23 = .ok (.aload_n 0, 1) := by decide +kernel
theorem dX11_rival_24 : decode cX11_rival 24 = .ok (.iload_n 3, 1) := by decide +kernel
theorem dX11_rival_25 : decode cX11_rival 25 = .ok (.iload_n 1, 1) := by decide +kernel
theorem dX11_rival_26 : decode cX11_rival 26 = .ok (.iload_n 2, 1) := by decide +kernel
theorem dX11_rival_27 : decode cX11_rival 27 = .ok (.invokevirtual 213, 3) := by decide +kernel
theorem dX11_rival_30 : decode cX11_rival 30 = .ok (.ireturn, 1) := by decide +kernel
theorem dX11_isPrice_0 : decode cX11_isPrice 0 = .ok (.iload_n 0, 1) := by decide +kernel
theorem dX11_isPrice_1 : decode cX11_isPrice 1 = .ok (.iconst 1, 1) := by decide +kernel
theorem dX11_isPrice_2 : decode cX11_isPrice 2 = .ok (.sipush 1000, 3) := by decide +kernel
theorem dX11_isPrice_5 : decode cX11_isPrice 5 = .ok (.invokestatic 94, 3) := by decide +kernel
theorem dX11_isPrice_8 : decode cX11_isPrice 8 = .ok (.ireturn, 1) := by decide +kernel
theorem dX11_engage_0 : decode cX11_engage 0 = .ok (.iload_n 1, 1) := by decide +kernel
theorem dX11_engage_1 : decode cX11_engage 1 = .ok (.iconst 0, 1) := by decide +kernel
theorem dX11_engage_2 : decode cX11_engage 2 = .ok (.bipush 9, 2) := by decide +kernel
theorem dX11_engage_4 : decode cX11_engage 4 = .ok (.invokestatic 94, 3) := by decide +kernel
theorem dX11_engage_7 : decode cX11_engage 7 = .ok (.ifCond .eq 15, 3) := by decide +kernel
theorem dX11_engage_10 : decode cX11_engage 10 = .ok (.iload_n 2, 1) := by decide +kernel
theorem dX11_engage_11 : decode cX11_engage 11 = .ok (.iconst (-1), 1) := by decide +kernel
theorem dX11_engage_12 : decode cX11_engage 12 = .ok (.if_icmp .eq 12, 3) := by decide +kernel
theorem dX11_engage_15 : decode cX11_engage 15 = .ok (.iload_n 2, 1) := by decide +kernel
theorem dX11_engage_16 : decode cX11_engage 16 = .ok (.invokestatic 133, 3) := by decide +kernel
theorem dX11_engage_19 : decode cX11_engage 19 = .ok (.ifCond .ne 5, 3) := by decide +kernel
theorem dX11_engage_22 : decode cX11_engage 22 = .ok (.iconst (-1), 1) := by decide +kernel
theorem dX11_engage_23 : decode cX11_engage 23 = .ok (.ireturn, 1) := by decide +kernel
theorem dX11_engage_24 : decode cX11_engage 24 = .ok (.iload_n 3, 1) := by decide +kernel
theorem dX11_engage_25 : decode cX11_engage 25 = .ok (.iconst 0, 1) := by decide +kernel
theorem dX11_engage_26 : decode cX11_engage 26 = .ok (.bipush 50, 2) := by decide +kernel
theorem dX11_engage_28 : decode cX11_engage 28 = .ok (.invokestatic 94, 3) := by decide +kernel
theorem dX11_engage_31 : decode cX11_engage 31 = .ok (.ifCond .eq 11, 3) := by decide +kernel
theorem dX11_engage_34 : decode cX11_engage 34 = .ok (.iload 4, 2) := by decide +kernel
theorem dX11_engage_36 : decode cX11_engage 36 = .ok (.invokestatic 220, 3) := by decide +kernel
theorem dX11_engage_39 : decode cX11_engage 39 = .ok (.ifCond .ne 6, 3) := by decide +kernel
theorem dX11_engage_42 : decode cX11_engage 42 = .ok (.bipush (-2), 2) := by decide +kernel
theorem dX11_engage_44 : decode cX11_engage 44 = .ok (.ireturn, 1) := by decide +kernel
theorem dX11_engage_45 : decode cX11_engage 45 = .ok (.aload_n 0, 1) := by decide +kernel
theorem dX11_engage_46 : decode cX11_engage 46 = .ok (.getfield 40, 3) := by decide +kernel
theorem dX11_engage_49 : decode cX11_engage 49 = .ok (.iload_n 1, 1) := by decide +kernel
theorem dX11_engage_50 : decode cX11_engage 50 = .ok (.iload_n 2, 1) := by decide +kernel
theorem dX11_engage_51 : decode cX11_engage 51 = .ok (.iastore, 1) := by decide +kernel
theorem dX11_engage_52 : decode cX11_engage 52 = .ok (.aload_n 0, 1) := by decide +kernel
theorem dX11_engage_53 : decode cX11_engage 53 = .ok (.getfield 43, 3) := by decide +kernel
theorem dX11_engage_56 : decode cX11_engage 56 = .ok (.iload_n 1, 1) := by decide +kernel
theorem dX11_engage_57 : decode cX11_engage 57 = .ok (.iload_n 3, 1) := by decide +kernel
theorem dX11_engage_58 : decode cX11_engage 58 = .ok (.iastore, 1) := by decide +kernel
theorem dX11_engage_59 : decode cX11_engage 59 = .ok (.aload_n 0, 1) := by decide +kernel
theorem dX11_engage_60 : decode cX11_engage 60 = .ok (.getfield 46, 3) := by decide +kernel
theorem dX11_engage_63 : decode cX11_engage 63 = .ok (.iload_n 1, 1) := by decide +kernel
theorem dX11_engage_64 : decode cX11_engage 64 = .ok (.iload 4, 2) := by decide +kernel
theorem dX11_engage_66 : decode cX11_engage 66 = .ok (.iastore, 1) := by decide +kernel
theorem dX11_engage_67 : decode cX11_engage 67 = .ok (.iconst 1, 1) := by decide +kernel
theorem dX11_engage_68 : decode cX11_engage 68 = .ok (.ireturn, 1) := by decide +kernel
theorem dX11_free_0 : decode cX11_free 0 = .ok (.iload_n 1, 1) := by decide +kernel
theorem dX11_free_1 : decode cX11_free 1 = .ok (.invokestatic 110, 3) := by decide +kernel
theorem dX11_free_4 : decode cX11_free 4 = .ok (.ifCond .eq 17, 3) := by decide +kernel
theorem dX11_free_7 : decode cX11_free 7 = .ok (.iload_n 2, 1) := by decide +kernel
theorem dX11_free_8 : decode cX11_free 8 = .ok (.invokestatic 220, 3) := by decide +kernel
theorem dX11_free_11 : decode cX11_free 11 = .ok (.ifCond .eq 10, 3) := by decide +kernel
theorem dX11_free_14 : decode cX11_free 14 = .ok (.iload_n 3, 1) := by decide +kernel
theorem dX11_free_15 : decode cX11_free 15 = .ok (.invokestatic 110, 3) := by decide +kernel
theorem dX11_free_18 : decode cX11_free 18 = .ok (.ifCond .ne 6, 3) := by decide +kernel
theorem dX11_free_21 : decode cX11_free 21 = .ok (.bipush (-2), 2) := by decide +kernel
theorem dX11_free_23 : decode cX11_free 23 = .ok (.ireturn, 1) := by decide +kernel
theorem dX11_free_24 : decode cX11_free 24 = .ok (.aload_n 0, 1) := by decide +kernel
theorem dX11_free_25 : decode cX11_free 25 = .ok (.getfield 223, 3) := by decide +kernel
theorem dX11_free_28 : decode cX11_free 28 = .ok (.bipush 60, 2) := by decide +kernel
theorem dX11_free_30 : decode cX11_free 30 = .ok (.if_icmp .ne 6, 3) := by decide +kernel
theorem dX11_free_33 : decode cX11_free 33 = .ok (.bipush (-4), 2) := by decide +kernel
theorem dX11_free_35 : decode cX11_free 35 = .ok (.ireturn, 1) := by decide +kernel
theorem dX11_free_36 : decode cX11_free 36 = .ok (.aload_n 0, 1) := by decide +kernel
theorem dX11_free_37 : decode cX11_free 37 = .ok (.getfield 49, 3) := by decide +kernel
theorem dX11_free_40 : decode cX11_free 40 = .ok (.aload_n 0, 1) := by decide +kernel
theorem dX11_free_41 : decode cX11_free 41 = .ok (.getfield 223, 3) := by decide +kernel
theorem dX11_free_44 : decode cX11_free 44 = .ok (.iload_n 1, 1) := by decide +kernel
theorem dX11_free_45 : decode cX11_free 45 = .ok (.iastore, 1) := by decide +kernel
theorem dX11_free_46 : decode cX11_free 46 = .ok (.aload_n 0, 1) := by decide +kernel
theorem dX11_free_47 : decode cX11_free 47 = .ok (.getfield 52, 3) := by decide +kernel
theorem dX11_free_50 : decode cX11_free 50 = .ok (.aload_n 0, 1) := by decide +kernel
theorem dX11_free_51 : decode cX11_free 51 = .ok (.getfield 223, 3) := by decide +kernel
theorem dX11_free_54 : decode cX11_free 54 = .ok (.iload_n 2, 1) := by decide +kernel
theorem dX11_free_55 : decode cX11_free 55 = .ok (.iastore, 1) := by decide +kernel
theorem dX11_free_56 : decode cX11_free 56 = .ok (.aload_n 0, 1) := by decide +kernel
theorem dX11_free_57 : decode cX11_free 57 = .ok (.getfield 55, 3) := by decide +kernel
theorem dX11_free_60 : decode cX11_free 60 = .ok (.aload_n 0, 1) := by decide +kernel
theorem dX11_free_61 : decode cX11_free 61 = .ok (.getfield 223, 3) := by decide +kernel
theorem dX11_free_64 : decode cX11_free 64 = .ok (.iload_n 3, 1) := by decide +kernel
theorem dX11_free_65 : decode cX11_free 65 = .ok (.iastore, 1) := by decide +kernel
theorem dX11_free_66 : decode cX11_free 66 = .ok (.aload_n 0, 1) := by decide +kernel
theorem dX11_free_67 : decode cX11_free 67 = .ok (.dup, 1) := by decide +kernel
theorem dX11_free_68 : decode cX11_free 68 = .ok (.getfield 223, 3) := by decide +kernel
theorem dX11_free_71 : decode cX11_free 71 = .ok (.iconst 1, 1) := by decide +kernel
theorem dX11_free_72 : decode cX11_free 72 = .ok (.iadd, 1) := by decide +kernel
theorem dX11_free_73 : decode cX11_free 73 = .ok (.putfield 223, 3) := by decide +kernel
theorem dX11_free_76 : decode cX11_free 76 = .ok (.aload_n 0, 1) := by decide +kernel
theorem dX11_free_77 : decode cX11_free 77 = .ok (.getfield 223, 3) := by decide +kernel
theorem dX11_free_80 : decode cX11_free 80 = .ok (.ireturn, 1) := by decide +kernel
theorem dX11_freeAt_0 : decode cX11_freeAt 0 = .ok (.bipush (-6), 2) := by decide +kernel
theorem dX11_freeAt_2 : decode cX11_freeAt 2 = .ok (.istore_n 3, 1) := by decide +kernel
theorem dX11_freeAt_3 : decode cX11_freeAt 3 = .ok (.iconst 0, 1) := by decide +kernel
theorem dX11_freeAt_4 : decode cX11_freeAt 4 = .ok (.istore 4, 2) := by decide +kernel
theorem dX11_freeAt_6 : decode cX11_freeAt 6 = .ok (.iload 4, 2) := by decide +kernel
theorem dX11_freeAt_8 : decode cX11_freeAt 8 = .ok (.aload_n 0, 1) := by decide +kernel
theorem dX11_freeAt_9 : decode cX11_freeAt 9 = .ok (.getfield 223, 3) := by decide +kernel
theorem dX11_freeAt_12 : decode cX11_freeAt 12 = .ok (.if_icmp .ge 70, 3) := by decide +kernel
theorem dX11_freeAt_15 : decode cX11_freeAt 15 = .ok (.aload_n 0, 1) := by decide +kernel
theorem dX11_freeAt_16 : decode cX11_freeAt 16 = .ok (.getfield 55, 3) := by decide +kernel
theorem dX11_freeAt_19 : decode cX11_freeAt 19 = .ok (.iload 4, 2) := by decide +kernel
theorem dX11_freeAt_21 : decode cX11_freeAt 21 = .ok (.iaload, 1) := by decide +kernel
theorem dX11_freeAt_22 : decode cX11_freeAt 22 = .ok (.iload_n 2, 1) := by decide +kernel
theorem dX11_freeAt_23 : decode cX11_freeAt 23 = .ok (.if_icmp .gt 18, 3) := by decide +kernel
theorem dX11_freeAt_26 : decode cX11_freeAt 26 = .ok (.aload_n 0, 1) := by decide +kernel
theorem dX11_freeAt_27 : decode cX11_freeAt 27 = .ok (.getfield 49, 3) := by decide +kernel
theorem dX11_freeAt_30 : decode cX11_freeAt 30 = .ok (.iload 4, 2) := by decide +kernel
theorem dX11_freeAt_32 : decode cX11_freeAt 32 = .ok (.iaload, 1) := by decide +kernel
theorem dX11_freeAt_33 : decode cX11_freeAt 33 = .ok (.iload_n 1, 1) := by decide +kernel
theorem dX11_freeAt_34 : decode cX11_freeAt 34 = .ok (.if_icmp .gt 7, 3) := by decide +kernel
theorem dX11_freeAt_37 : decode cX11_freeAt 37 = .ok (.iconst 1, 1) := by decide +kernel
theorem dX11_freeAt_38 : decode cX11_freeAt 38 = .ok (.goto 4, 3) := by decide +kernel
theorem dX11_freeAt_41 : decode cX11_freeAt 41 = .ok (.iconst 0, 1) := by decide +kernel
theorem dX11_freeAt_42 : decode cX11_freeAt 42 = .ok (.istore 5, 2) := by decide +kernel
theorem dX11_freeAt_44 : decode cX11_freeAt 44 = .ok (.iload 5, 2) := by decide +kernel
theorem dX11_freeAt_46 : decode cX11_freeAt 46 = .ok (.ifCond .eq 28, 3) := by decide +kernel
theorem dX11_freeAt_49 : decode cX11_freeAt 49 = .ok (.iload_n 3, 1) := by decide +kernel
theorem dX11_freeAt_50 : decode cX11_freeAt 50 = .ok (.ifCond .lt 19, 3) := by decide +kernel
theorem dX11_freeAt_53 : decode cX11_freeAt 53 = .ok (.aload_n 0, 1) := by decide +kernel
theorem dX11_freeAt_54 : decode cX11_freeAt 54 = .ok (.getfield 49, 3) := by decide +kernel
theorem dX11_freeAt_57 : decode cX11_freeAt 57 = .ok (.iload 4, 2) := by decide +kernel
theorem dX11_freeAt_59 : decode cX11_freeAt 59 = .ok (.iaload, 1) := by decide +kernel
theorem dX11_freeAt_60 : decode cX11_freeAt 60 = .ok (.aload_n 0, 1) := by decide +kernel
theorem dX11_freeAt_61 : decode cX11_freeAt 61 = .ok (.getfield 49, 3) := by decide +kernel
theorem dX11_freeAt_64 : decode cX11_freeAt 64 = .ok (.iload_n 3, 1) := by decide +kernel
theorem dX11_freeAt_65 : decode cX11_freeAt 65 = .ok (.iaload, 1) := by decide +kernel
theorem dX11_freeAt_66 : decode cX11_freeAt 66 = .ok (.if_icmp .lt 8, 3) := by decide +kernel
theorem dX11_freeAt_69 : decode cX11_freeAt 69 = .ok (.iload 4, 2) := by decide +kernel
theorem dX11_freeAt_71 : decode cX11_freeAt 71 = .ok (.goto 4, 3) := by decide +kernel
theorem dX11_freeAt_74 : decode cX11_freeAt 74 = .ok (.iload_n 3, 1) := by decide +kernel
theorem dX11_freeAt_75 : decode cX11_freeAt 75 = .ok (.istore_n 3, 1) := by decide +kernel
theorem dX11_freeAt_76 : decode cX11_freeAt 76 = .ok (.iinc 4 1, 3) := by decide +kernel
theorem dX11_freeAt_79 : decode cX11_freeAt 79 = .ok (.goto (-73), 3) := by decide +kernel
theorem dX11_freeAt_82 : decode cX11_freeAt 82 = .ok (.iload_n 3, 1) := by decide +kernel
theorem dX11_freeAt_83 : decode cX11_freeAt 83 = .ok (.ifCond .ge 8, 3) := by decide +kernel
theorem dX11_freeAt_86 : decode cX11_freeAt 86 = .ok (.bipush 10, 2) := by decide +kernel
theorem dX11_freeAt_88 : decode cX11_freeAt 88 = .ok (.goto 9, 3) := by decide +kernel
theorem dX11_freeAt_91 : decode cX11_freeAt 91 = .ok (.aload_n 0, 1) := by decide +kernel
theorem dX11_freeAt_92 : decode cX11_freeAt 92 = .ok (.getfield 52, 3) := by decide +kernel
theorem dX11_freeAt_95 : decode cX11_freeAt 95 = .ok (.iload_n 3, 1) := by decide +kernel
theorem dX11_freeAt_96 : decode cX11_freeAt 96 = .ok (.iaload, 1) := by decide +kernel
theorem dX11_freeAt_97 : decode cX11_freeAt 97 = .ok (.ireturn, 1) := by decide +kernel
theorem dX11_freeOn_0 : decode cX11_freeOn 0 = .ok (.iload_n 1, 1) := by decide +kernel
theorem dX11_freeOn_1 : decode cX11_freeOn 1 = .ok (.invokestatic 110, 3) := by decide +kernel
theorem dX11_freeOn_4 : decode cX11_freeOn 4 = .ok (.ifCond .eq 19, 3) := by decide +kernel
theorem dX11_freeOn_7 : decode cX11_freeOn 7 = .ok (.iload_n 2, 1) := by decide +kernel
theorem dX11_freeOn_8 : decode cX11_freeOn 8 = .ok (.invokestatic 110, 3) := by decide +kernel
theorem dX11_freeOn_11 : decode cX11_freeOn 11 = .ok (.ifCond .eq 12, 3) := by decide +kernel
theorem dX11_freeOn_14 : decode cX11_freeOn 14 = .ok (.aload_n 0, 1) := by decide +kernel
theorem dX11_freeOn_15 : decode cX11_freeOn 15 = .ok (.iload_n 1, 1) := by decide +kernel
theorem dX11_freeOn_16 : decode cX11_freeOn 16 = .ok (.iload_n 2, 1) := by decide +kernel
theorem dX11_freeOn_17 : decode cX11_freeOn 17 = .ok (.invokevirtual 226, 3) := by decide +kernel
theorem dX11_freeOn_20 : decode cX11_freeOn 20 = .ok (.goto 5, 3) := by decide +kernel
theorem dX11_freeOn_23 : decode cX11_freeOn 23 = .ok (.bipush (-2), 2) := by decide +kernel
theorem dX11_freeOn_25 : decode cX11_freeOn 25 = .ok (.ireturn, 1) := by decide +kernel
theorem dX11_layCost_0 : decode cX11_layCost 0 = .ok (.aload_n 0, 1) := by decide +kernel
theorem dX11_layCost_1 : decode cX11_layCost 1 = .ok (.iconst 0, 1) := by decide +kernel
theorem dX11_layCost_2 : decode cX11_layCost 2 = .ok (.putfield 229, 3) := by decide +kernel
theorem dX11_layCost_5 : decode cX11_layCost 5 = .ok (.aload_n 0, 1) := by decide +kernel
theorem dX11_layCost_6 : decode cX11_layCost 6 = .ok (.iconst 0, 1) := by decide +kernel
theorem dX11_layCost_7 : decode cX11_layCost 7 = .ok (.putfield 232, 3) := by decide +kernel
theorem dX11_layCost_10 : decode cX11_layCost 10 = .ok (.aload_n 0, 1) := by decide +kernel
theorem dX11_layCost_11 : decode cX11_layCost 11 = .ok (.iconst 0, 1) := by decide +kernel
theorem dX11_layCost_12 : decode cX11_layCost 12 = .ok (.putfield 235, 3) := by decide +kernel
theorem dX11_layCost_15 : decode cX11_layCost 15 = .ok (.aload_n 0, 1) := by decide +kernel
theorem dX11_layCost_16 : decode cX11_layCost 16 = .ok (.getfield 40, 3) := by decide +kernel
theorem dX11_layCost_19 : decode cX11_layCost 19 = .ok (.iload_n 1, 1) := by decide +kernel
theorem dX11_layCost_20 : decode cX11_layCost 20 = .ok (.iaload, 1) := by decide +kernel
theorem dX11_layCost_21 : decode cX11_layCost 21 = .ok (.iload_n 2, 1) := by decide +kernel
theorem dX11_layCost_22 : decode cX11_layCost 22 = .ok (.if_icmp .ne 19, 3) := by decide +kernel
theorem dX11_layCost_25 : decode cX11_layCost 25 = .ok (.aload_n 0, 1) := by decide +kernel
theorem dX11_layCost_26 : decode cX11_layCost 26 = .ok (.getfield 43, 3) := by decide +kernel
theorem dX11_layCost_29 : decode cX11_layCost 29 = .ok (.iload_n 1, 1) := by decide +kernel
theorem dX11_layCost_30 : decode cX11_layCost 30 = .ok (.iaload, 1) := by decide +kernel
theorem dX11_layCost_31 : decode cX11_layCost 31 = .ok (.aload_n 0, 1) := by decide +kernel
theorem dX11_layCost_32 : decode cX11_layCost 32 = .ok (.getfield 28, 3) := by decide +kernel
theorem dX11_layCost_35 : decode cX11_layCost 35 = .ok (.iconst 4, 1) := by decide +kernel
theorem dX11_layCost_36 : decode cX11_layCost 36 = .ok (.iaload, 1) := by decide +kernel
theorem dX11_layCost_37 : decode cX11_layCost 37 = .ok (.imul, 1) := by decide +kernel
theorem dX11_layCost_38 : decode cX11_layCost 38 = .ok (.goto 4, 3) := by decide +kernel
theorem dX11_layCost_41 : decode cX11_layCost 41 = .ok (.iconst 0, 1) := by decide +kernel
theorem dX11_layCost_42 : decode cX11_layCost 42 = .ok (.istore 4, 2) := by decide +kernel
theorem dX11_layCost_44 : decode cX11_layCost 44 = .ok (.iconst 0, 1) := by decide +kernel
theorem dX11_layCost_45 : decode cX11_layCost 45 = .ok (.istore 5, 2) := by decide +kernel
theorem dX11_layCost_47 : decode cX11_layCost 47 = .ok (.iload 5, 2) := by decide +kernel
theorem dX11_layCost_49 : decode cX11_layCost 49 = .ok (.sipush 2000, 3) := by decide +kernel
theorem dX11_layCost_52 : decode cX11_layCost 52 = .ok (.if_icmp .gt 196, 3) := by decide +kernel
theorem dX11_layCost_55 : decode cX11_layCost 55 = .ok (.iconst 0, 1) := by decide +kernel
theorem dX11_layCost_56 : decode cX11_layCost 56 = .ok (.istore 6, 2) := by decide +kernel
theorem dX11_layCost_58 : decode cX11_layCost 58 = .ok (.iload 6, 2) := by decide +kernel
theorem dX11_layCost_60 : decode cX11_layCost 60 = .ok (.aload_n 0, 1) := by decide +kernel
theorem dX11_layCost_61 : decode cX11_layCost 61 = .ok (.getfield 136, 3) := by decide +kernel
theorem dX11_layCost_64 : decode cX11_layCost 64 = .ok (.if_icmp .ge 178, 3) := by decide +kernel
theorem dX11_layCost_67 : decode cX11_layCost 67 = .ok (.aload_n 0, 1) := by decide +kernel
theorem dX11_layCost_68 : decode cX11_layCost 68 = .ok (.getfield 31, 3) := by decide +kernel
theorem dX11_layCost_71 : decode cX11_layCost 71 = .ok (.bipush 7, 2) := by decide +kernel
theorem dX11_layCost_73 : decode cX11_layCost 73 = .ok (.iload 6, 2) := by decide +kernel
theorem dX11_layCost_75 : decode cX11_layCost 75 = .ok (.imul, 1) := by decide +kernel
theorem dX11_layCost_76 : decode cX11_layCost 76 = .ok (.iaload, 1) := by decide +kernel
theorem dX11_layCost_77 : decode cX11_layCost 77 = .ok (.iload_n 1, 1) := by decide +kernel
theorem dX11_layCost_78 : decode cX11_layCost 78 = .ok (.if_icmp .ne 158, 3) := by decide +kernel
theorem dX11_layCost_81 : decode cX11_layCost 81 = .ok (.aload_n 0, 1) := by decide +kernel
theorem dX11_layCost_82 : decode cX11_layCost 82 = .ok (.getfield 31, 3) := by decide +kernel
theorem dX11_layCost_85 : decode cX11_layCost 85 = .ok (.bipush 7, 2) := by decide +kernel
theorem dX11_layCost_87 : decode cX11_layCost 87 = .ok (.iload 6, 2) := by decide +kernel
theorem dX11_layCost_89 : decode cX11_layCost 89 = .ok (.imul, 1) := by decide +kernel
theorem dX11_layCost_90 : decode cX11_layCost 90 = .ok (.iconst 1, 1) := by decide +kernel
theorem dX11_layCost_91 : decode cX11_layCost 91 = .ok (.iadd, 1) := by decide +kernel
theorem dX11_layCost_92 : decode cX11_layCost 92 = .ok (.iaload, 1) := by decide +kernel
theorem dX11_layCost_93 : decode cX11_layCost 93 = .ok (.iload_n 2, 1) := by decide +kernel
theorem dX11_layCost_94 : decode cX11_layCost 94 = .ok (.if_icmp .ne 142, 3) := by decide +kernel
theorem dX11_layCost_97 : decode cX11_layCost 97 = .ok (.aload_n 0, 1) := by decide +kernel
theorem dX11_layCost_98 : decode cX11_layCost 98 = .ok (.getfield 31, 3) := by decide +kernel
theorem dX11_layCost_101 : decode cX11_layCost 101 = .ok (.bipush 7, 2) := by decide +kernel
theorem dX11_layCost_103 : decode cX11_layCost 103 = .ok (.iload 6, 2) := by decide +kernel
theorem dX11_layCost_105 : decode cX11_layCost 105 = .ok (.imul, 1) := by decide +kernel
theorem dX11_layCost_106 : decode cX11_layCost 106 = .ok (.iconst 2, 1) := by decide +kernel
theorem dX11_layCost_107 : decode cX11_layCost 107 = .ok (.iadd, 1) := by decide +kernel
theorem dX11_layCost_108 : decode cX11_layCost 108 = .ok (.iaload, 1) := by decide +kernel
theorem dX11_layCost_109 : decode cX11_layCost 109 = .ok (.iload 5, 2) := by decide +kernel
theorem dX11_layCost_111 : decode cX11_layCost 111 = .ok (.if_icmp .ne 125, 3) := by decide +kernel
theorem dX11_layCost_114 : decode cX11_layCost 114 = .ok (.aload_n 0, 1) := by decide +kernel
theorem dX11_layCost_115 : decode cX11_layCost 115 = .ok (.getfield 31, 3) := by decide +kernel
theorem dX11_layCost_118 : decode cX11_layCost 118 = .ok (.bipush 7, 2) := by decide +kernel
theorem dX11_layCost_120 : decode cX11_layCost 120 = .ok (.iload 6, 2) := by decide +kernel
theorem dX11_layCost_122 : decode cX11_layCost 122 = .ok (.imul, 1) := by decide +kernel
theorem dX11_layCost_123 : decode cX11_layCost 123 = .ok (.iconst 3, 1) := by decide +kernel
theorem dX11_layCost_124 : decode cX11_layCost 124 = .ok (.iadd, 1) := by decide +kernel
theorem dX11_layCost_125 : decode cX11_layCost 125 = .ok (.iaload, 1) := by decide +kernel
theorem dX11_layCost_126 : decode cX11_layCost 126 = .ok (.istore 7, 2) := by decide +kernel
theorem dX11_layCost_128 : decode cX11_layCost 128 = .ok (.aload_n 0, 1) := by decide +kernel
theorem dX11_layCost_129 : decode cX11_layCost 129 = .ok (.iload 5, 2) := by decide +kernel
theorem dX11_layCost_131 : decode cX11_layCost 131 = .ok (.bipush 24, 2) := by decide +kernel
theorem dX11_layCost_133 : decode cX11_layCost 133 = .ok (.idiv, 1) := by decide +kernel
theorem dX11_layCost_134 : decode cX11_layCost 134 = .ok (.iload_n 3, 1) := by decide +kernel
theorem dX11_layCost_135 : decode cX11_layCost 135 = .ok (.invokevirtual 226, 3) := by decide +kernel
theorem dX11_layCost_138 : decode cX11_layCost 138 = .ok (.istore 8, 2) := by decide +kernel
theorem dX11_layCost_140 : decode cX11_layCost 140 = .ok (.iload 7, 2) := by decide +kernel
theorem dX11_layCost_142 : decode cX11_layCost 142 = .ok (.iload 4, 2) := by decide +kernel
theorem dX11_layCost_144 : decode cX11_layCost 144 = .ok (.if_icmp .ge 8, 3) := by decide +kernel
theorem dX11_layCost_147 : decode cX11_layCost 147 = .ok (.iload 7, 2) := by decide +kernel
theorem dX11_layCost_149 : decode cX11_layCost 149 = .ok (.goto 5, 3) := by decide +kernel
theorem dX11_layCost_152 : decode cX11_layCost 152 = .ok (.iload 4, 2) := by decide +kernel
theorem dX11_layCost_154 : decode cX11_layCost 154 = .ok (.istore 9, 2) := by decide +kernel
theorem dX11_layCost_156 : decode cX11_layCost 156 = .ok (.iload 4, 2) := by decide +kernel
theorem dX11_layCost_158 : decode cX11_layCost 158 = .ok (.iload 9, 2) := by decide +kernel
theorem dX11_layCost_160 : decode cX11_layCost 160 = .ok (.isub, 1) := by decide +kernel
theorem dX11_layCost_161 : decode cX11_layCost 161 = .ok (.istore 4, 2) := by decide +kernel
theorem dX11_layCost_163 : decode cX11_layCost 163 = .ok (.aload_n 0, 1) := by decide +kernel
theorem dX11_layCost_164 : decode cX11_layCost 164 = .ok (.dup, 1) := by decide +kernel
theorem dX11_layCost_165 : decode cX11_layCost 165 = .ok (.getfield 229, 3) := by decide +kernel
theorem dX11_layCost_168 : decode cX11_layCost 168 = .ok (.iload 9, 2) := by decide +kernel
theorem dX11_layCost_170 : decode cX11_layCost 170 = .ok (.aload_n 0, 1) := by decide +kernel
theorem dX11_layCost_171 : decode cX11_layCost 171 = .ok (.getfield 46, 3) := by decide +kernel
theorem dX11_layCost_174 : decode cX11_layCost 174 = .ok (.iload_n 1, 1) := by decide +kernel
theorem dX11_layCost_175 : decode cX11_layCost 175 = .ok (.iaload, 1) := by decide +kernel
theorem dX11_layCost_176 : decode cX11_layCost 176 = .ok (.imul, 1) := by decide +kernel
theorem dX11_layCost_177 : decode cX11_layCost 177 = .ok (.aload_n 0, 1) := by decide +kernel
theorem dX11_layCost_178 : decode cX11_layCost 178 = .ok (.getfield 28, 3) := by decide +kernel
theorem dX11_layCost_181 : decode cX11_layCost 181 = .ok (.iconst 4, 1) := by decide +kernel
theorem dX11_layCost_182 : decode cX11_layCost 182 = .ok (.iaload, 1) := by decide +kernel
theorem dX11_layCost_183 : decode cX11_layCost 183 = .ok (.idiv, 1) := by decide +kernel
theorem dX11_layCost_184 : decode cX11_layCost 184 = .ok (.iload 7, 2) := by decide +kernel
theorem dX11_layCost_186 : decode cX11_layCost 186 = .ok (.iload 9, 2) := by decide +kernel
theorem dX11_layCost_188 : decode cX11_layCost 188 = .ok (.isub, 1) := by decide +kernel
theorem dX11_layCost_189 : decode cX11_layCost 189 = .ok (.iload 8, 2) := by decide +kernel
theorem dX11_layCost_191 : decode cX11_layCost 191 = .ok (.imul, 1) := by decide +kernel
theorem dX11_layCost_192 : decode cX11_layCost 192 = .ok (.aload_n 0, 1) := by decide +kernel
theorem dX11_layCost_193 : decode cX11_layCost 193 = .ok (.getfield 28, 3) := by decide +kernel
theorem dX11_layCost_196 : decode cX11_layCost 196 = .ok (.iconst 4, 1) := by decide +kernel
theorem dX11_layCost_197 : decode cX11_layCost 197 = .ok (.iaload, 1) := by decide +kernel
theorem dX11_layCost_198 : decode cX11_layCost 198 = .ok (.idiv, 1) := by decide +kernel
theorem dX11_layCost_199 : decode cX11_layCost 199 = .ok (.iadd, 1) := by decide +kernel
theorem dX11_layCost_200 : decode cX11_layCost 200 = .ok (.iadd, 1) := by decide +kernel
theorem dX11_layCost_201 : decode cX11_layCost 201 = .ok (.putfield 229, 3) := by decide +kernel
theorem dX11_layCost_204 : decode cX11_layCost 204 = .ok (.aload_n 0, 1) := by decide +kernel
theorem dX11_layCost_205 : decode cX11_layCost 205 = .ok (.dup, 1) := by decide +kernel
theorem dX11_layCost_206 : decode cX11_layCost 206 = .ok (.getfield 232, 3) := by decide +kernel
theorem dX11_layCost_209 : decode cX11_layCost 209 = .ok (.iload 7, 2) := by decide +kernel
theorem dX11_layCost_211 : decode cX11_layCost 211 = .ok (.iload 8, 2) := by decide +kernel
theorem dX11_layCost_213 : decode cX11_layCost 213 = .ok (.imul, 1) := by decide +kernel
theorem dX11_layCost_214 : decode cX11_layCost 214 = .ok (.aload_n 0, 1) := by decide +kernel
theorem dX11_layCost_215 : decode cX11_layCost 215 = .ok (.getfield 28, 3) := by decide +kernel
theorem dX11_layCost_218 : decode cX11_layCost 218 = .ok (.iconst 4, 1) := by decide +kernel
theorem dX11_layCost_219 : decode cX11_layCost 219 = .ok (.iaload, 1) := by decide +kernel
theorem dX11_layCost_220 : decode cX11_layCost 220 = .ok (.idiv, 1) := by decide +kernel
theorem dX11_layCost_221 : decode cX11_layCost 221 = .ok (.iadd, 1) := by decide +kernel
theorem dX11_layCost_222 : decode cX11_layCost 222 = .ok (.putfield 232, 3) := by decide +kernel
theorem dX11_layCost_225 : decode cX11_layCost 225 = .ok (.aload_n 0, 1) := by decide +kernel
theorem dX11_layCost_226 : decode cX11_layCost 226 = .ok (.dup, 1) := by decide +kernel
theorem dX11_layCost_227 : decode cX11_layCost 227 = .ok (.getfield 235, 3) := by decide +kernel
theorem dX11_layCost_230 : decode cX11_layCost 230 = .ok (.iload 7, 2) := by decide +kernel
theorem dX11_layCost_232 : decode cX11_layCost 232 = .ok (.iadd, 1) := by decide +kernel
theorem dX11_layCost_233 : decode cX11_layCost 233 = .ok (.putfield 235, 3) := by decide +kernel
theorem dX11_layCost_236 : decode cX11_layCost 236 = .ok (.iinc 6 1, 3) := by decide +kernel
theorem dX11_layCost_239 : decode cX11_layCost 239 = .ok (.goto (-181), 3) := by decide +kernel
theorem dX11_layCost_242 : decode cX11_layCost 242 = .ok (.iinc 5 1, 3) := by decide +kernel
theorem dX11_layCost_245 : decode cX11_layCost 245 = .ok (.goto (-198), 3) := by decide +kernel
theorem dX11_layCost_248 : decode cX11_layCost 248 = .ok (.return_, 1) := by decide +kernel
theorem dX11_cost_0 : decode cX11_cost 0 = .ok (.iload_n 1, 1) := by decide +kernel
theorem dX11_cost_1 : decode cX11_cost 1 = .ok (.iconst 0, 1) := by decide +kernel
theorem dX11_cost_2 : decode cX11_cost 2 = .ok (.bipush 9, 2) := by decide +kernel
theorem dX11_cost_4 : decode cX11_cost 4 = .ok (.invokestatic 94, 3) := by decide +kernel
theorem dX11_cost_7 : decode cX11_cost 7 = .ok (.ifCond .eq 10, 3) := by decide +kernel
theorem dX11_cost_10 : decode cX11_cost 10 = .ok (.iload_n 2, 1) := by decide +kernel
theorem dX11_cost_11 : decode cX11_cost 11 = .ok (.invokestatic 133, 3) := by decide +kernel
theorem dX11_cost_14 : decode cX11_cost 14 = .ok (.ifCond .ne 5, 3) := by decide +kernel
theorem dX11_cost_17 : decode cX11_cost 17 = .ok (.iconst (-1), 1) := by decide +kernel
theorem dX11_cost_18 : decode cX11_cost 18 = .ok (.ireturn, 1) := by decide +kernel
theorem dX11_cost_19 : decode cX11_cost 19 = .ok (.iload_n 3, 1) := by decide +kernel
theorem dX11_cost_20 : decode cX11_cost 20 = .ok (.invokestatic 110, 3) := by decide +kernel
theorem dX11_cost_23 : decode cX11_cost 23 = .ok (.ifCond .eq 13, 3) := by decide +kernel
theorem dX11_cost_26 : decode cX11_cost 26 = .ok (.iload 4, 2) := by decide +kernel
theorem dX11_cost_28 : decode cX11_cost 28 = .ok (.iconst 0, 1) := by decide +kernel
theorem dX11_cost_29 : decode cX11_cost 29 = .ok (.iconst 2, 1) := by decide +kernel
theorem dX11_cost_30 : decode cX11_cost 30 = .ok (.invokestatic 94, 3) := by decide +kernel
theorem dX11_cost_33 : decode cX11_cost 33 = .ok (.ifCond .ne 6, 3) := by decide +kernel
theorem dX11_cost_36 : decode cX11_cost 36 = .ok (.bipush (-2), 2) := by decide +kernel
theorem dX11_cost_38 : decode cX11_cost 38 = .ok (.ireturn, 1) := by decide +kernel
theorem dX11_cost_39 : decode cX11_cost 39 = .ok (.aload_n 0, 1) := by decide +kernel
theorem dX11_cost_40 : decode cX11_cost 40 = .ok (.iload_n 1, 1) := by decide +kernel
theorem dX11_cost_41 : decode cX11_cost 41 = .ok (.iload_n 2, 1) := by decide +kernel
theorem dX11_cost_42 : decode cX11_cost 42 = .ok (.iload_n 3, 1) := by decide +kernel
theorem dX11_cost_43 : decode cX11_cost 43 = .ok (.invokevirtual 238, 3) := by decide +kernel
theorem dX11_cost_46 : decode cX11_cost 46 = .ok (.iload 4, 2) := by decide +kernel
theorem dX11_cost_48 : decode cX11_cost 48 = .ok (.ifCond .ne 10, 3) := by decide +kernel
theorem dX11_cost_51 : decode cX11_cost 51 = .ok (.aload_n 0, 1) := by decide +kernel
theorem dX11_cost_52 : decode cX11_cost 52 = .ok (.getfield 229, 3) := by decide +kernel
theorem dX11_cost_55 : decode cX11_cost 55 = .ok (.goto 25, 3) := by decide +kernel
theorem dX11_cost_58 : decode cX11_cost 58 = .ok (.iload 4, 2) := by decide +kernel
theorem dX11_cost_60 : decode cX11_cost 60 = .ok (.iconst 1, 1) := by decide +kernel
theorem dX11_cost_61 : decode cX11_cost 61 = .ok (.if_icmp .ne 15, 3) := by decide +kernel
theorem dX11_cost_64 : decode cX11_cost 64 = .ok (.aload_n 0, 1) := by decide +kernel
theorem dX11_cost_65 : decode cX11_cost 65 = .ok (.getfield 232, 3) := by decide +kernel
theorem dX11_cost_68 : decode cX11_cost 68 = .ok (.aload_n 0, 1) := by decide +kernel
theorem dX11_cost_69 : decode cX11_cost 69 = .ok (.getfield 229, 3) := by decide +kernel
theorem dX11_cost_72 : decode cX11_cost 72 = .ok (.isub, 1) := by decide +kernel
theorem dX11_cost_73 : decode cX11_cost 73 = .ok (.goto 7, 3) := by decide +kernel
theorem dX11_cost_76 : decode cX11_cost 76 = .ok (.aload_n 0, 1) := by decide +kernel
theorem dX11_cost_77 : decode cX11_cost 77 = .ok (.getfield 235, 3) := by decide +kernel
theorem dX11_cost_80 : decode cX11_cost 80 = .ok (.ireturn, 1) := by decide +kernel
theorem dX11_costsOf_0 : decode cX11_costsOf 0 = .ok (.iconst 0, 1) := by decide +kernel
theorem dX11_costsOf_1 : decode cX11_costsOf 1 = .ok (.istore_n 3, 1) := by decide +kernel
theorem dX11_costsOf_2 : decode cX11_costsOf 2 = .ok (.iconst 0, 1) := by decide +kernel
theorem dX11_costsOf_3 : decode cX11_costsOf 3 = .ok (.istore 4, 2) := by decide +kernel
theorem dX11_costsOf_5 : decode cX11_costsOf 5 = .ok (.iload 4, 2) := by decide +kernel
theorem dX11_costsOf_7 : decode cX11_costsOf 7 = .ok (.bipush 10, 2) := by decide +kernel
theorem dX11_costsOf_9 : decode cX11_costsOf 9 = .ok (.if_icmp .ge 24, 3) := by decide +kernel
theorem dX11_costsOf_12 : decode cX11_costsOf 12 = .ok (.aload_n 0, 1) := by decide +kernel
theorem dX11_costsOf_13 : decode cX11_costsOf 13 = .ok (.iload 4, 2) := by decide +kernel
theorem dX11_costsOf_15 : decode cX11_costsOf 15 = .ok (.iload_n 1, 1) := by decide +kernel
theorem dX11_costsOf_16 : decode cX11_costsOf 16 = .ok (.iload_n 2, 1) := by decide +kernel
theorem dX11_costsOf_17 : decode cX11_costsOf 17 = .ok (.invokevirtual 238, 3) := by decide +kernel
theorem dX11_costsOf_20 : decode cX11_costsOf 20 = .ok (.iload_n 3, 1) := by decide +kernel
theorem dX11_costsOf_21 : decode cX11_costsOf 21 = .ok (.aload_n 0, 1) := by decide +kernel
theorem dX11_costsOf_22 : decode cX11_costsOf 22 = .ok (.getfield 229, 3) := by decide +kernel
theorem dX11_costsOf_25 : decode cX11_costsOf 25 = .ok (.iadd, 1) := by decide +kernel
theorem dX11_costsOf_26 : decode cX11_costsOf 26 = .ok (.istore_n 3, 1) := by decide +kernel
theorem dX11_costsOf_27 : decode cX11_costsOf 27 = .ok (.iinc 4 1, 3) := by decide +kernel
theorem dX11_costsOf_30 : decode cX11_costsOf 30 = .ok (.goto (-25), 3) := by decide +kernel
theorem dX11_costsOf_33 : decode cX11_costsOf 33 = .ok (.iload_n 3, 1) := by decide +kernel
theorem dX11_costsOf_34 : decode cX11_costsOf 34 = .ok (.ireturn, 1) := by decide +kernel
theorem dX11_brandedOf_0 : decode cX11_brandedOf 0 = .ok (.aload_n 0, 1) := by decide +kernel
theorem dX11_brandedOf_1 : decode cX11_brandedOf 1 = .ok (.iload_n 1, 1) := by decide +kernel
theorem dX11_brandedOf_2 : decode cX11_brandedOf 2 = .ok (.invokevirtual 179, 3) := by decide +kernel
theorem dX11_brandedOf_5 : decode cX11_brandedOf 5 = .ok (.aload_n 0, 1) := by decide +kernel
theorem dX11_brandedOf_6 : decode cX11_brandedOf 6 = .ok (.invokevirtual 182, 3) := by decide +kernel
theorem dX11_brandedOf_9 : decode cX11_brandedOf 9 = .ok (.istore_n 2, 1) := by decide +kernel
theorem dX11_brandedOf_10 : decode cX11_brandedOf 10 = .ok (.iconst 0, 1) := by decide +kernel
theorem dX11_brandedOf_11 : decode cX11_brandedOf 11 = .ok (.istore_n 3, 1) := by decide +kernel
theorem dX11_brandedOf_12 : decode cX11_brandedOf 12 = .ok (.iconst 0, 1) := by decide +kernel
theorem dX11_brandedOf_13 : decode cX11_brandedOf 13 = .ok (.istore 4, 2) := by decide +kernel
theorem dX11_brandedOf_15 : decode cX11_brandedOf 15 = .ok (.iload 4, 2) := by decide +kernel
theorem dX11_brandedOf_17 : decode cX11_brandedOf 17 = .ok (.iload_n 2, 1) := by decide +kernel
theorem dX11_brandedOf_18 : decode cX11_brandedOf 18 = .ok (.if_icmp .ge 36, 3) := by decide +kernel
theorem dX11_brandedOf_21 : decode cX11_brandedOf 21 = .ok (.aload_n 0, 1) := by decide +kernel
theorem dX11_brandedOf_22 : decode cX11_brandedOf 22 = .ok (.invokevirtual 185, 3) := by decide +kernel
theorem dX11_brandedOf_25 : decode cX11_brandedOf 25 = .ok (.iload_n 3, 1) := by decide +kernel
theorem dX11_brandedOf_26 : decode cX11_brandedOf 26 = .ok (.aload_n 0, 1) := by decide +kernel
theorem dX11_brandedOf_27 : decode cX11_brandedOf 27 = .ok (.iload_n 1, 1) := by decide +kernel
theorem dX11_brandedOf_28 : decode cX11_brandedOf 28 = .ok (.aload_n 0, 1) := by decide +kernel
theorem dX11_brandedOf_29 : decode cX11_brandedOf 29 = .ok (.getfield 167, 3) := by decide +kernel
theorem dX11_brandedOf_32 : decode cX11_brandedOf 32 = .ok (.bipush 24, 2) := by decide +kernel
theorem dX11_brandedOf_34 : decode cX11_brandedOf 34 = .ok (.idiv, 1) := by decide +kernel
theorem dX11_brandedOf_35 : decode cX11_brandedOf 35 = .ok (.invokevirtual 192, 3) := by decide +kernel
theorem dX11_brandedOf_38 : decode cX11_brandedOf 38 = .ok (.ifCond .lt 7, 3) := by decide +kernel
theorem dX11_brandedOf_41 : decode cX11_brandedOf 41 = .ok (.iconst 1, 1) := by decide +kernel
theorem dX11_brandedOf_42 : decode cX11_brandedOf 42 = .ok (.goto 4, 3) := by decide +kernel
theorem dX11_brandedOf_45 : decode cX11_brandedOf 45 = .ok (.iconst 0, 1) := by decide +kernel
theorem dX11_brandedOf_46 : decode cX11_brandedOf 46 = .ok (.iadd, 1) := by decide +kernel
theorem dX11_brandedOf_47 : decode cX11_brandedOf 47 = .ok (.istore_n 3, 1) := by decide +kernel
theorem dX11_brandedOf_48 : decode cX11_brandedOf 48 = .ok (.iinc 4 1, 3) := by decide +kernel
theorem dX11_brandedOf_51 : decode cX11_brandedOf 51 = .ok (.goto (-36), 3) := by decide +kernel
theorem dX11_brandedOf_54 : decode cX11_brandedOf 54 = .ok (.iload_n 3, 1) := by decide +kernel
theorem dX11_brandedOf_55 : decode cX11_brandedOf 55 = .ok (.ireturn, 1) := by decide +kernel
theorem dX11_account_0 : decode cX11_account 0 = .ok (.iload_n 1, 1) := by decide +kernel
theorem dX11_account_1 : decode cX11_account 1 = .ok (.invokestatic 133, 3) := by decide +kernel
theorem dX11_account_4 : decode cX11_account 4 = .ok (.ifCond .ne 5, 3) := by decide +kernel
theorem dX11_account_7 : decode cX11_account 7 = .ok (.iconst (-1), 1) := by decide +kernel
theorem dX11_account_8 : decode cX11_account 8 = .ok (.ireturn, 1) := by decide +kernel
theorem dX11_account_9 : decode cX11_account 9 = .ok (.iload_n 2, 1) := by decide +kernel
theorem dX11_account_10 : decode cX11_account 10 = .ok (.invokestatic 110, 3) := by decide +kernel
theorem dX11_account_13 : decode cX11_account 13 = .ok (.ifCond .eq 13, 3) := by decide +kernel
theorem dX11_account_16 : decode cX11_account 16 = .ok (.iload_n 3, 1) := by decide +kernel
theorem dX11_account_17 : decode cX11_account 17 = .ok (.iconst 0, 1) := by decide +kernel
theorem dX11_account_18 : decode cX11_account 18 = .ok (.bipush 7, 2) := by decide +kernel
theorem dX11_account_20 : decode cX11_account 20 = .ok (.invokestatic 94, 3) := by decide +kernel
theorem dX11_account_23 : decode cX11_account 23 = .ok (.ifCond .ne 6, 3) := by decide +kernel
theorem dX11_account_26 : decode cX11_account 26 = .ok (.bipush (-2), 2) := by decide +kernel
theorem dX11_account_28 : decode cX11_account 28 = .ok (.ireturn, 1) := by decide +kernel
theorem dX11_account_29 : decode cX11_account 29 = .ok (.aload_n 0, 1) := by decide +kernel
theorem dX11_account_30 : decode cX11_account 30 = .ok (.iload_n 1, 1) := by decide +kernel
theorem dX11_account_31 : decode cX11_account 31 = .ok (.invokevirtual 242, 3) := by decide +kernel
theorem dX11_account_34 : decode cX11_account 34 = .ok (.istore 4, 2) := by decide +kernel
theorem dX11_account_36 : decode cX11_account 36 = .ok (.aload_n 0, 1) := by decide +kernel
theorem dX11_account_37 : decode cX11_account 37 = .ok (.invokevirtual 182, 3) := by decide +kernel
theorem dX11_account_40 : decode cX11_account 40 = .ok (.istore 5, 2) := by decide +kernel
theorem dX11_account_42 : decode cX11_account 42 = .ok (.iload_n 3, 1) := by decide +kernel
theorem dX11_account_43 : decode cX11_account 43 = .ok (.tableswitch 92 0 6 #[41, 48, 58, 69, 72, 75, 80], 41) := by decide +kernel
theorem dX11_account_84 : decode cX11_account 84 = .ok (.aload_n 0, 1) := by decide +kernel
theorem dX11_account_85 : decode cX11_account 85 = .ok (.iload_n 1, 1) := by decide +kernel
theorem dX11_account_86 : decode cX11_account 86 = .ok (.iload_n 2, 1) := by decide +kernel
theorem dX11_account_87 : decode cX11_account 87 = .ok (.invokevirtual 245, 3) := by decide +kernel
theorem dX11_account_90 : decode cX11_account 90 = .ok (.ireturn, 1) := by decide +kernel
theorem dX11_account_91 : decode cX11_account 91 = .ok (.aload_n 0, 1) := by decide +kernel
theorem dX11_account_92 : decode cX11_account 92 = .ok (.getfield 28, 3) := by decide +kernel
theorem dX11_account_95 : decode cX11_account 95 = .ok (.iconst 5, 1) := by decide +kernel
theorem dX11_account_96 : decode cX11_account 96 = .ok (.iaload, 1) := by decide +kernel
theorem dX11_account_97 : decode cX11_account 97 = .ok (.iload 5, 2) := by decide +kernel
theorem dX11_account_99 : decode cX11_account 99 = .ok (.imul, 1) := by decide +kernel
theorem dX11_account_100 : decode cX11_account 100 = .ok (.ireturn, 1) := by decide +kernel
theorem dX11_account_101 : decode cX11_account 101 = .ok (.aload_n 0, 1) := by decide +kernel
theorem dX11_account_102 : decode cX11_account 102 = .ok (.getfield 28, 3) := by decide +kernel
theorem dX11_account_105 : decode cX11_account 105 = .ok (.bipush 6, 2) := by decide +kernel
theorem dX11_account_107 : decode cX11_account 107 = .ok (.iaload, 1) := by decide +kernel
theorem dX11_account_108 : decode cX11_account 108 = .ok (.iload 4, 2) := by decide +kernel
theorem dX11_account_110 : decode cX11_account 110 = .ok (.imul, 1) := by decide +kernel
theorem dX11_account_111 : decode cX11_account 111 = .ok (.ireturn, 1) := by decide +kernel
theorem dX11_account_112 : decode cX11_account 112 = .ok (.iload 5, 2) := by decide +kernel
theorem dX11_account_114 : decode cX11_account 114 = .ok (.ireturn, 1) := by decide +kernel
theorem dX11_account_115 : decode cX11_account 115 = .ok (.iload 4, 2) := by decide +kernel
theorem dX11_account_117 : decode cX11_account 117 = .ok (.ireturn, 1) := by decide +kernel
theorem dX11_account_118 : decode cX11_account 118 = .ok (.aload_n 0, 1) := by decide +kernel
theorem dX11_account_119 : decode cX11_account 119 = .ok (.getfield 151, 3) := by decide +kernel
theorem dX11_account_122 : decode cX11_account 122 = .ok (.ireturn, 1) := by decide +kernel
theorem dX11_account_123 : decode cX11_account 123 = .ok (.aload_n 0, 1) := by decide +kernel
theorem dX11_account_124 : decode cX11_account 124 = .ok (.getfield 148, 3) := by decide +kernel
theorem dX11_account_127 : decode cX11_account 127 = .ok (.aload_n 0, 1) := by decide +kernel
theorem dX11_account_128 : decode cX11_account 128 = .ok (.getfield 28, 3) := by decide +kernel
theorem dX11_account_131 : decode cX11_account 131 = .ok (.iconst 1, 1) := by decide +kernel
theorem dX11_account_132 : decode cX11_account 132 = .ok (.iaload, 1) := by decide +kernel
theorem dX11_account_133 : decode cX11_account 133 = .ok (.irem, 1) := by decide +kernel
theorem dX11_account_134 : decode cX11_account 134 = .ok (.ireturn, 1) := by decide +kernel
theorem dX11_account_135 : decode cX11_account 135 = .ok (.aload_n 0, 1) := by decide +kernel
theorem dX11_account_136 : decode cX11_account 136 = .ok (.iload_n 1, 1) := by decide +kernel
theorem dX11_account_137 : decode cX11_account 137 = .ok (.iload_n 2, 1) := by decide +kernel
theorem dX11_account_138 : decode cX11_account 138 = .ok (.invokevirtual 245, 3) := by decide +kernel
theorem dX11_account_141 : decode cX11_account 141 = .ok (.aload_n 0, 1) := by decide +kernel
theorem dX11_account_142 : decode cX11_account 142 = .ok (.getfield 28, 3) := by decide +kernel
theorem dX11_account_145 : decode cX11_account 145 = .ok (.iconst 5, 1) := by decide +kernel
theorem dX11_account_146 : decode cX11_account 146 = .ok (.iaload, 1) := by decide +kernel
theorem dX11_account_147 : decode cX11_account 147 = .ok (.iload 5, 2) := by decide +kernel
theorem dX11_account_149 : decode cX11_account 149 = .ok (.imul, 1) := by decide +kernel
theorem dX11_account_150 : decode cX11_account 150 = .ok (.iadd, 1) := by decide +kernel
theorem dX11_account_151 : decode cX11_account 151 = .ok (.aload_n 0, 1) := by decide +kernel
theorem dX11_account_152 : decode cX11_account 152 = .ok (.getfield 28, 3) := by decide +kernel
theorem dX11_account_155 : decode cX11_account 155 = .ok (.bipush 6, 2) := by decide +kernel
theorem dX11_account_157 : decode cX11_account 157 = .ok (.iaload, 1) := by decide +kernel
theorem dX11_account_158 : decode cX11_account 158 = .ok (.iload 4, 2) := by decide +kernel
theorem dX11_account_160 : decode cX11_account 160 = .ok (.imul, 1) := by decide +kernel
theorem dX11_account_161 : decode cX11_account 161 = .ok (.isub, 1) := by decide +kernel
theorem dX11_account_162 : decode cX11_account 162 = .ok (.ireturn, 1) := by decide +kernel
theorem dX11_allSpoilt_0 : decode cX11_allSpoilt 0 = .ok (.iconst 0, 1) := by decide +kernel
theorem dX11_allSpoilt_1 : decode cX11_allSpoilt 1 = .ok (.istore_n 1, 1) := by decide +kernel
theorem dX11_allSpoilt_2 : decode cX11_allSpoilt 2 = .ok (.iconst 0, 1) := by decide +kernel
theorem dX11_allSpoilt_3 : decode cX11_allSpoilt 3 = .ok (.istore_n 2, 1) := by decide +kernel
theorem dX11_allSpoilt_4 : decode cX11_allSpoilt 4 = .ok (.iload_n 2, 1) := by decide +kernel
theorem dX11_allSpoilt_5 : decode cX11_allSpoilt 5 = .ok (.iconst 4, 1) := by decide +kernel
theorem dX11_allSpoilt_6 : decode cX11_allSpoilt 6 = .ok (.if_icmp .ge 21, 3) := by decide +kernel
theorem dX11_allSpoilt_9 : decode cX11_allSpoilt 9 = .ok (.aload_n 0, 1) := by decide +kernel
theorem dX11_allSpoilt_10 : decode cX11_allSpoilt 10 = .ok (.iload_n 2, 1) := by decide +kernel
theorem dX11_allSpoilt_11 : decode cX11_allSpoilt 11 = .ok (.invokevirtual 160, 3) := by decide +kernel
theorem dX11_allSpoilt_14 : decode cX11_allSpoilt 14 = .ok (.iload_n 1, 1) := by decide +kernel
theorem dX11_allSpoilt_15 : decode cX11_allSpoilt 15 = .ok (.aload_n 0, 1) := by decide +kernel
theorem dX11_allSpoilt_16 : decode cX11_allSpoilt 16 = .ok (.getfield 151, 3) := by decide +kernel
theorem dX11_allSpoilt_19 : decode cX11_allSpoilt 19 = .ok (.iadd, 1) := by decide +kernel
theorem dX11_allSpoilt_20 : decode cX11_allSpoilt 20 = .ok (.istore_n 1, 1) := by decide +kernel
theorem dX11_allSpoilt_21 : decode cX11_allSpoilt 21 = .ok (.iinc 2 1, 3) := by decide +kernel
theorem dX11_allSpoilt_24 : decode cX11_allSpoilt 24 = .ok (.goto (-20), 3) := by decide +kernel
theorem dX11_allSpoilt_27 : decode cX11_allSpoilt 27 = .ok (.iload_n 1, 1) := by decide +kernel
theorem dX11_allSpoilt_28 : decode cX11_allSpoilt 28 = .ok (.ireturn, 1) := by decide +kernel
theorem dX11_leadAll_0 : decode cX11_leadAll 0 = .ok (.iload_n 1, 1) := by decide +kernel
theorem dX11_leadAll_1 : decode cX11_leadAll 1 = .ok (.istore_n 2, 1) := by decide +kernel
theorem dX11_leadAll_2 : decode cX11_leadAll 2 = .ok (.aload_n 0, 1) := by decide +kernel
theorem dX11_leadAll_3 : decode cX11_leadAll 3 = .ok (.getfield 248, 3) := by decide +kernel
theorem dX11_leadAll_6 : decode cX11_leadAll 6 = .ok (.iconst 1, 1) := by decide +kernel
theorem dX11_leadAll_7 : decode cX11_leadAll 7 = .ok (.isub, 1) := by decide +kernel
theorem dX11_leadAll_8 : decode cX11_leadAll 8 = .ok (.istore_n 3, 1) := by decide +kernel
theorem dX11_leadAll_9 : decode cX11_leadAll 9 = .ok (.iload_n 3, 1) := by decide +kernel
theorem dX11_leadAll_10 : decode cX11_leadAll 10 = .ok (.ifCond .lt 32, 3) := by decide +kernel
theorem dX11_leadAll_13 : decode cX11_leadAll 13 = .ok (.aload_n 0, 1) := by decide +kernel
theorem dX11_leadAll_14 : decode cX11_leadAll 14 = .ok (.getfield 31, 3) := by decide +kernel
theorem dX11_leadAll_17 : decode cX11_leadAll 17 = .ok (.bipush 7, 2) := by decide +kernel
theorem dX11_leadAll_19 : decode cX11_leadAll 19 = .ok (.aload_n 0, 1) := by decide +kernel
theorem dX11_leadAll_20 : decode cX11_leadAll 20 = .ok (.getfield 88, 3) := by decide +kernel
theorem dX11_leadAll_23 : decode cX11_leadAll 23 = .ok (.iload_n 3, 1) := by decide +kernel
theorem dX11_leadAll_24 : decode cX11_leadAll 24 = .ok (.iaload, 1) := by decide +kernel
theorem dX11_leadAll_25 : decode cX11_leadAll 25 = .ok (.imul, 1) := by decide +kernel
theorem dX11_leadAll_26 : decode cX11_leadAll 26 = .ok (.iconst 1, 1) := by decide +kernel
theorem dX11_leadAll_27 : decode cX11_leadAll 27 = .ok (.iadd, 1) := by decide +kernel
theorem dX11_leadAll_28 : decode cX11_leadAll 28 = .ok (.iload_n 2, 1) := by decide +kernel
theorem dX11_leadAll_29 : decode cX11_leadAll 29 = .ok (.iconst 4, 1) := by decide +kernel
theorem dX11_leadAll_30 : decode cX11_leadAll 30 = .ok (.irem, 1) := by decide +kernel
theorem dX11_leadAll_31 : decode cX11_leadAll 31 = .ok (.iastore, 1) := by decide +kernel
theorem dX11_leadAll_32 : decode cX11_leadAll 32 = .ok (.iload_n 2, 1) := by decide +kernel
theorem dX11_leadAll_33 : decode cX11_leadAll 33 = .ok (.iconst 4, 1) := by decide +kernel
theorem dX11_leadAll_34 : decode cX11_leadAll 34 = .ok (.idiv, 1) := by decide +kernel
theorem dX11_leadAll_35 : decode cX11_leadAll 35 = .ok (.istore_n 2, 1) := by decide +kernel
theorem dX11_leadAll_36 : decode cX11_leadAll 36 = .ok (.iinc 3 (-1), 3) := by decide +kernel
theorem dX11_leadAll_39 : decode cX11_leadAll 39 = .ok (.goto (-30), 3) := by decide +kernel
theorem dX11_leadAll_42 : decode cX11_leadAll 42 = .ok (.return_, 1) := by decide +kernel
theorem dX11_laySpread_0 : decode cX11_laySpread 0 = .ok (.aload_n 0, 1) := by decide +kernel
theorem dX11_laySpread_1 : decode cX11_laySpread 1 = .ok (.iconst 0, 1) := by decide +kernel
theorem dX11_laySpread_2 : decode cX11_laySpread 2 = .ok (.putfield 248, 3) := by decide +kernel
theorem dX11_laySpread_5 : decode cX11_laySpread 5 = .ok (.iconst 0, 1) := by decide +kernel
theorem dX11_laySpread_6 : decode cX11_laySpread 6 = .ok (.istore_n 1, 1) := by decide +kernel
theorem dX11_laySpread_7 : decode cX11_laySpread 7 = .ok (.iload_n 1, 1) := by decide +kernel
theorem dX11_laySpread_8 : decode cX11_laySpread 8 = .ok (.aload_n 0, 1) := by decide +kernel
theorem dX11_laySpread_9 : decode cX11_laySpread 9 = .ok (.getfield 136, 3) := by decide +kernel
theorem dX11_laySpread_12 : decode cX11_laySpread 12 = .ok (.if_icmp .ge 43, 3) := by decide +kernel
theorem dX11_laySpread_15 : decode cX11_laySpread 15 = .ok (.aload_n 0, 1) := by decide +kernel
theorem dX11_laySpread_16 : decode cX11_laySpread 16 = .ok (.getfield 31, 3) := by decide +kernel
theorem dX11_laySpread_19 : decode cX11_laySpread 19 = .ok (.bipush 7, 2) := by decide +kernel
theorem dX11_laySpread_21 : decode cX11_laySpread 21 = .ok (.iload_n 1, 1) := by decide +kernel
theorem dX11_laySpread_22 : decode cX11_laySpread 22 = .ok (.imul, 1) := by decide +kernel
theorem dX11_laySpread_23 : decode cX11_laySpread 23 = .ok (.iconst 1, 1) := by decide +kernel
theorem dX11_laySpread_24 : decode cX11_laySpread 24 = .ok (.iadd, 1) := by decide +kernel
theorem dX11_laySpread_25 : decode cX11_laySpread 25 = .ok (.iaload, 1) := by decide +kernel
theorem dX11_laySpread_26 : decode cX11_laySpread 26 = .ok (.ifCond .ge 23, 3) := by decide +kernel
theorem dX11_laySpread_29 : decode cX11_laySpread 29 = .ok (.aload_n 0, 1) := by decide +kernel
theorem dX11_laySpread_30 : decode cX11_laySpread 30 = .ok (.getfield 88, 3) := by decide +kernel
theorem dX11_laySpread_33 : decode cX11_laySpread 33 = .ok (.aload_n 0, 1) := by decide +kernel
theorem dX11_laySpread_34 : decode cX11_laySpread 34 = .ok (.getfield 248, 3) := by decide +kernel
theorem dX11_laySpread_37 : decode cX11_laySpread 37 = .ok (.iload_n 1, 1) := by decide +kernel
theorem dX11_laySpread_38 : decode cX11_laySpread 38 = .ok (.iastore, 1) := by decide +kernel
theorem dX11_laySpread_39 : decode cX11_laySpread 39 = .ok (.aload_n 0, 1) := by decide +kernel
theorem dX11_laySpread_40 : decode cX11_laySpread 40 = .ok (.dup, 1) := by decide +kernel
theorem dX11_laySpread_41 : decode cX11_laySpread 41 = .ok (.getfield 248, 3) := by decide +kernel
theorem dX11_laySpread_44 : decode cX11_laySpread 44 = .ok (.iconst 1, 1) := by decide +kernel
theorem dX11_laySpread_45 : decode cX11_laySpread 45 = .ok (.iadd, 1) := by decide +kernel
theorem dX11_laySpread_46 : decode cX11_laySpread 46 = .ok (.putfield 248, 3) := by decide +kernel
theorem dX11_laySpread_49 : decode cX11_laySpread 49 = .ok (.iinc 1 1, 3) := by decide +kernel
theorem dX11_laySpread_52 : decode cX11_laySpread 52 = .ok (.goto (-45), 3) := by decide +kernel
theorem dX11_laySpread_55 : decode cX11_laySpread 55 = .ok (.aload_n 0, 1) := by decide +kernel
theorem dX11_laySpread_56 : decode cX11_laySpread 56 = .ok (.iconst (-1), 1) := by decide +kernel
theorem dX11_laySpread_57 : decode cX11_laySpread 57 = .ok (.putfield 251, 3) := by decide +kernel
theorem dX11_laySpread_60 : decode cX11_laySpread 60 = .ok (.iconst 0, 1) := by decide +kernel
theorem dX11_laySpread_61 : decode cX11_laySpread 61 = .ok (.istore_n 1, 1) := by decide +kernel
theorem dX11_laySpread_62 : decode cX11_laySpread 62 = .ok (.iload_n 1, 1) := by decide +kernel
theorem dX11_laySpread_63 : decode cX11_laySpread 63 = .ok (.iconst 1, 1) := by decide +kernel
theorem dX11_laySpread_64 : decode cX11_laySpread 64 = .ok (.iconst 2, 1) := by decide +kernel
theorem dX11_laySpread_65 : decode cX11_laySpread 65 = .ok (.aload_n 0, 1) := by decide +kernel
theorem dX11_laySpread_66 : decode cX11_laySpread 66 = .ok (.getfield 248, 3) := by decide +kernel
theorem dX11_laySpread_69 : decode cX11_laySpread 69 = .ok (.imul, 1) := by decide +kernel
theorem dX11_laySpread_70 : decode cX11_laySpread 70 = .ok (.ishl, 1) := by decide +kernel
theorem dX11_laySpread_71 : decode cX11_laySpread 71 = .ok (.if_icmp .ge 44, 3) := by decide +kernel
theorem dX11_laySpread_74 : decode cX11_laySpread 74 = .ok (.aload_n 0, 1) := by decide +kernel
theorem dX11_laySpread_75 : decode cX11_laySpread 75 = .ok (.iload_n 1, 1) := by decide +kernel
theorem dX11_laySpread_76 : decode cX11_laySpread 76 = .ok (.invokevirtual 254, 3) := by decide +kernel
theorem dX11_laySpread_79 : decode cX11_laySpread 79 = .ok (.aload_n 0, 1) := by decide +kernel
theorem dX11_laySpread_80 : decode cX11_laySpread 80 = .ok (.invokevirtual 257, 3) := by decide +kernel
theorem dX11_laySpread_83 : decode cX11_laySpread 83 = .ok (.istore_n 2, 1) := by decide +kernel
theorem dX11_laySpread_84 : decode cX11_laySpread 84 = .ok (.aload_n 0, 1) := by decide +kernel
theorem dX11_laySpread_85 : decode cX11_laySpread 85 = .ok (.getfield 251, 3) := by decide +kernel
theorem dX11_laySpread_88 : decode cX11_laySpread 88 = .ok (.ifCond .lt 11, 3) := by decide +kernel
theorem dX11_laySpread_91 : decode cX11_laySpread 91 = .ok (.iload_n 2, 1) := by decide +kernel
theorem dX11_laySpread_92 : decode cX11_laySpread 92 = .ok (.aload_n 0, 1) := by decide +kernel
theorem dX11_laySpread_93 : decode cX11_laySpread 93 = .ok (.getfield 251, 3) := by decide +kernel
theorem dX11_laySpread_96 : decode cX11_laySpread 96 = .ok (.if_icmp .ge 13, 3) := by decide +kernel
theorem dX11_laySpread_99 : decode cX11_laySpread 99 = .ok (.aload_n 0, 1) := by decide +kernel
theorem dX11_laySpread_100 : decode cX11_laySpread 100 = .ok (.iload_n 2, 1) := by decide +kernel
theorem dX11_laySpread_101 : decode cX11_laySpread 101 = .ok (.putfield 251, 3) := by decide +kernel
theorem dX11_laySpread_104 : decode cX11_laySpread 104 = .ok (.aload_n 0, 1) := by decide +kernel
theorem dX11_laySpread_105 : decode cX11_laySpread 105 = .ok (.iload_n 1, 1) := by decide +kernel
theorem dX11_laySpread_106 : decode cX11_laySpread 106 = .ok (.putfield 260, 3) := by decide +kernel
theorem dX11_laySpread_109 : decode cX11_laySpread 109 = .ok (.iinc 1 1, 3) := by decide +kernel
theorem dX11_laySpread_112 : decode cX11_laySpread 112 = .ok (.goto (-50), 3) := by decide +kernel
theorem dX11_laySpread_115 : decode cX11_laySpread 115 = .ok (.iconst 0, 1) := by decide +kernel
theorem dX11_laySpread_116 : decode cX11_laySpread 116 = .ok (.istore_n 1, 1) := by decide +kernel
theorem dX11_laySpread_117 : decode cX11_laySpread 117 = .ok (.iload_n 1, 1) := by decide +kernel
theorem dX11_laySpread_118 : decode cX11_laySpread 118 = .ok (.aload_n 0, 1) := by decide +kernel
theorem dX11_laySpread_119 : decode cX11_laySpread 119 = .ok (.getfield 248, 3) := by decide +kernel
theorem dX11_laySpread_122 : decode cX11_laySpread 122 = .ok (.if_icmp .ge 26, 3) := by decide +kernel
theorem dX11_laySpread_125 : decode cX11_laySpread 125 = .ok (.aload_n 0, 1) := by decide +kernel
theorem dX11_laySpread_126 : decode cX11_laySpread 126 = .ok (.getfield 31, 3) := by decide +kernel
theorem dX11_laySpread_129 : decode cX11_laySpread 129 = .ok (.bipush 7, 2) := by decide +kernel
theorem dX11_laySpread_131 : decode cX11_laySpread 131 = .ok (.aload_n 0, 1) := by decide +kernel
theorem dX11_laySpread_132 : decode cX11_laySpread 132 = .ok (.getfield 88, 3) := by decide +kernel
theorem dX11_laySpread_135 : decode cX11_laySpread 135 = .ok (.iload_n 1, 1) := by decide +kernel
theorem dX11_laySpread_136 : decode cX11_laySpread 136 = .ok (.iaload, 1) := by decide +kernel
theorem dX11_laySpread_137 : decode cX11_laySpread 137 = .ok (.imul, 1) := by decide +kernel
theorem dX11_laySpread_138 : decode cX11_laySpread 138 = .ok (.iconst 1, 1) := by decide +kernel
theorem dX11_laySpread_139 : decode cX11_laySpread 139 = .ok (.iadd, 1) := by decide +kernel
theorem dX11_laySpread_140 : decode cX11_laySpread 140 = .ok (.iconst (-1), 1) := by decide +kernel
theorem dX11_laySpread_141 : decode cX11_laySpread 141 = .ok (.iastore, 1) := by decide +kernel
theorem dX11_laySpread_142 : decode cX11_laySpread 142 = .ok (.iinc 1 1, 3) := by decide +kernel
theorem dX11_laySpread_145 : decode cX11_laySpread 145 = .ok (.goto (-28), 3) := by decide +kernel
theorem dX11_laySpread_148 : decode cX11_laySpread 148 = .ok (.return_, 1) := by decide +kernel
theorem dX11_spread_0 : decode cX11_spread 0 = .ok (.aload_n 0, 1) := by decide +kernel
theorem dX11_spread_1 : decode cX11_spread 1 = .ok (.invokevirtual 263, 3) := by decide +kernel
theorem dX11_spread_4 : decode cX11_spread 4 = .ok (.iload_n 1, 1) := by decide +kernel
theorem dX11_spread_5 : decode cX11_spread 5 = .ok (.iconst (-1), 1) := by decide +kernel
theorem dX11_spread_6 : decode cX11_spread 6 = .ok (.if_icmp .ne 10, 3) := by decide +kernel
theorem dX11_spread_9 : decode cX11_spread 9 = .ok (.aload_n 0, 1) := by decide +kernel
theorem dX11_spread_10 : decode cX11_spread 10 = .ok (.getfield 251, 3) := by decide +kernel
theorem dX11_spread_13 : decode cX11_spread 13 = .ok (.goto 39, 3) := by decide +kernel
theorem dX11_spread_16 : decode cX11_spread 16 = .ok (.iload_n 1, 1) := by decide +kernel
theorem dX11_spread_17 : decode cX11_spread 17 = .ok (.iconst 0, 1) := by decide +kernel
theorem dX11_spread_18 : decode cX11_spread 18 = .ok (.aload_n 0, 1) := by decide +kernel
theorem dX11_spread_19 : decode cX11_spread 19 = .ok (.getfield 248, 3) := by decide +kernel
theorem dX11_spread_22 : decode cX11_spread 22 = .ok (.iconst 1, 1) := by decide +kernel
theorem dX11_spread_23 : decode cX11_spread 23 = .ok (.isub, 1) := by decide +kernel
theorem dX11_spread_24 : decode cX11_spread 24 = .ok (.invokestatic 94, 3) := by decide +kernel
theorem dX11_spread_27 : decode cX11_spread 27 = .ok (.ifCond .eq 23, 3) := by decide +kernel
theorem dX11_spread_30 : decode cX11_spread 30 = .ok (.aload_n 0, 1) := by decide +kernel
theorem dX11_spread_31 : decode cX11_spread 31 = .ok (.getfield 260, 3) := by decide +kernel
theorem dX11_spread_34 : decode cX11_spread 34 = .ok (.iconst 2, 1) := by decide +kernel
theorem dX11_spread_35 : decode cX11_spread 35 = .ok (.aload_n 0, 1) := by decide +kernel
theorem dX11_spread_36 : decode cX11_spread 36 = .ok (.getfield 248, 3) := by decide +kernel
theorem dX11_spread_39 : decode cX11_spread 39 = .ok (.iconst 1, 1) := by decide +kernel
theorem dX11_spread_40 : decode cX11_spread 40 = .ok (.isub, 1) := by decide +kernel
theorem dX11_spread_41 : decode cX11_spread 41 = .ok (.iload_n 1, 1) := by decide +kernel
theorem dX11_spread_42 : decode cX11_spread 42 = .ok (.isub, 1) := by decide +kernel
theorem dX11_spread_43 : decode cX11_spread 43 = .ok (.imul, 1) := by decide +kernel
theorem dX11_spread_44 : decode cX11_spread 44 = .ok (.ishr, 1) := by decide +kernel
theorem dX11_spread_45 : decode cX11_spread 45 = .ok (.iconst 3, 1) := by decide +kernel
theorem dX11_spread_46 : decode cX11_spread 46 = .ok (.iand, 1) := by decide +kernel
theorem dX11_spread_47 : decode cX11_spread 47 = .ok (.goto 5, 3) := by decide +kernel
theorem dX11_spread_50 : decode cX11_spread 50 = .ok (.bipush (-6), 2) := by decide +kernel
theorem dX11_spread_52 : decode cX11_spread 52 = .ok (.ireturn, 1) := by decide +kernel
theorem dX11_settle_0 : decode cX11_settle 0 = .ok (.aload_n 0, 1) := by decide +kernel
theorem dX11_settle_1 : decode cX11_settle 1 = .ok (.invokevirtual 263, 3) := by decide +kernel
theorem dX11_settle_4 : decode cX11_settle 4 = .ok (.aload_n 0, 1) := by decide +kernel
theorem dX11_settle_5 : decode cX11_settle 5 = .ok (.aload_n 0, 1) := by decide +kernel
theorem dX11_settle_6 : decode cX11_settle 6 = .ok (.getfield 260, 3) := by decide +kernel
theorem dX11_settle_9 : decode cX11_settle 9 = .ok (.invokevirtual 254, 3) := by decide +kernel
theorem dX11_settle_12 : decode cX11_settle 12 = .ok (.aload_n 0, 1) := by decide +kernel
theorem dX11_settle_13 : decode cX11_settle 13 = .ok (.getfield 248, 3) := by decide +kernel
theorem dX11_settle_16 : decode cX11_settle 16 = .ok (.ireturn, 1) := by decide +kernel
theorem dX11_ship_0 : decode cX11_ship 0 = .ok (.iload_n 1, 1) := by decide +kernel
theorem dX11_ship_1 : decode cX11_ship 1 = .ok (.iconst 0, 1) := by decide +kernel
theorem dX11_ship_2 : decode cX11_ship 2 = .ok (.iconst 3, 1) := by decide +kernel
theorem dX11_ship_3 : decode cX11_ship 3 = .ok (.invokestatic 94, 3) := by decide +kernel
theorem dX11_ship_6 : decode cX11_ship 6 = .ok (.ifCond .ne 5, 3) := by decide +kernel
theorem dX11_ship_9 : decode cX11_ship 9 = .ok (.iconst (-1), 1) := by decide +kernel
theorem dX11_ship_10 : decode cX11_ship 10 = .ok (.ireturn, 1) := by decide +kernel
theorem dX11_ship_11 : decode cX11_ship 11 = .ok (.iload_n 2, 1) := by decide +kernel
theorem dX11_ship_12 : decode cX11_ship 12 = .ok (.invokestatic 110, 3) := by decide +kernel
theorem dX11_ship_15 : decode cX11_ship 15 = .ok (.ifCond .eq 13, 3) := by decide +kernel
theorem dX11_ship_18 : decode cX11_ship 18 = .ok (.iload_n 3, 1) := by decide +kernel
theorem dX11_ship_19 : decode cX11_ship 19 = .ok (.iconst 0, 1) := by decide +kernel
theorem dX11_ship_20 : decode cX11_ship 20 = .ok (.bipush 20, 2) := by decide +kernel
theorem dX11_ship_22 : decode cX11_ship 22 = .ok (.invokestatic 94, 3) := by decide +kernel
theorem dX11_ship_25 : decode cX11_ship 25 = .ok (.ifCond .ne 6, 3) := by decide +kernel
theorem dX11_ship_28 : decode cX11_ship 28 = .ok (.bipush (-2), 2) := by decide +kernel
theorem dX11_ship_30 : decode cX11_ship 30 = .ok (.ireturn, 1) := by decide +kernel
theorem dX11_ship_31 : decode cX11_ship 31 = .ok (.aload_n 0, 1) := by decide +kernel
theorem dX11_ship_32 : decode cX11_ship 32 = .ok (.getfield 58, 3) := by decide +kernel
theorem dX11_ship_35 : decode cX11_ship 35 = .ok (.iload_n 1, 1) := by decide +kernel
theorem dX11_ship_36 : decode cX11_ship 36 = .ok (.iload_n 2, 1) := by decide +kernel
theorem dX11_ship_37 : decode cX11_ship 37 = .ok (.iastore, 1) := by decide +kernel
theorem dX11_ship_38 : decode cX11_ship 38 = .ok (.aload_n 0, 1) := by decide +kernel
theorem dX11_ship_39 : decode cX11_ship 39 = .ok (.getfield 61, 3) := by decide +kernel
theorem dX11_ship_42 : decode cX11_ship 42 = .ok (.iload_n 1, 1) := by decide +kernel
theorem dX11_ship_43 : decode cX11_ship 43 = .ok (.iload_n 3, 1) := by decide +kernel
theorem dX11_ship_44 : decode cX11_ship 44 = .ok (.iastore, 1) := by decide +kernel
theorem dX11_ship_45 : decode cX11_ship 45 = .ok (.iconst 1, 1) := by decide +kernel
theorem dX11_ship_46 : decode cX11_ship 46 = .ok (.ireturn, 1) := by decide +kernel
theorem dX11_price_0 : decode cX11_price 0 = .ok (.iload_n 1, 1) := by decide +kernel
theorem dX11_price_1 : decode cX11_price 1 = .ok (.iconst 0, 1) := by decide +kernel
theorem dX11_price_2 : decode cX11_price 2 = .ok (.iconst 1, 1) := by decide +kernel
theorem dX11_price_3 : decode cX11_price 3 = .ok (.invokestatic 94, 3) := by decide +kernel
theorem dX11_price_6 : decode cX11_price 6 = .ok (.ifCond .ne 5, 3) := by decide +kernel
theorem dX11_price_9 : decode cX11_price 9 = .ok (.iconst (-1), 1) := by decide +kernel
theorem dX11_price_10 : decode cX11_price 10 = .ok (.ireturn, 1) := by decide +kernel
theorem dX11_price_11 : decode cX11_price 11 = .ok (.iload_n 2, 1) := by decide +kernel
theorem dX11_price_12 : decode cX11_price 12 = .ok (.invokestatic 110, 3) := by decide +kernel
theorem dX11_price_15 : decode cX11_price 15 = .ok (.ifCond .eq 22, 3) := by decide +kernel
theorem dX11_price_18 : decode cX11_price 18 = .ok (.iload_n 3, 1) := by decide +kernel
theorem dX11_price_19 : decode cX11_price 19 = .ok (.iconst 0, 1) := by decide +kernel
theorem dX11_price_20 : decode cX11_price 20 = .ok (.sipush 1000, 3) := by decide +kernel
theorem dX11_price_23 : decode cX11_price 23 = .ok (.invokestatic 94, 3) := by decide +kernel
theorem dX11_price_26 : decode cX11_price 26 = .ok (.ifCond .eq 11, 3) := by decide +kernel
theorem dX11_price_29 : decode cX11_price 29 = .ok (.iload 4, 2) := by decide +kernel
theorem dX11_price_31 : decode cX11_price 31 = .ok (.invokestatic 110, 3) := by decide +kernel
theorem dX11_price_34 : decode cX11_price 34 = .ok (.ifCond .ne 6, 3) := by decide +kernel
theorem dX11_price_37 : decode cX11_price 37 = .ok (.bipush (-2), 2) := by decide +kernel
theorem dX11_price_39 : decode cX11_price 39 = .ok (.ireturn, 1) := by decide +kernel
theorem dX11_price_40 : decode cX11_price 40 = .ok (.aload_n 0, 1) := by decide +kernel
theorem dX11_price_41 : decode cX11_price 41 = .ok (.getfield 266, 3) := by decide +kernel
theorem dX11_price_44 : decode cX11_price 44 = .ok (.bipush 60, 2) := by decide +kernel
theorem dX11_price_46 : decode cX11_price 46 = .ok (.if_icmp .ne 6, 3) := by decide +kernel
theorem dX11_price_49 : decode cX11_price 49 = .ok (.bipush (-4), 2) := by decide +kernel
theorem dX11_price_51 : decode cX11_price 51 = .ok (.ireturn, 1) := by decide +kernel
theorem dX11_price_52 : decode cX11_price 52 = .ok (.aload_n 0, 1) := by decide +kernel
theorem dX11_price_53 : decode cX11_price 53 = .ok (.getfield 64, 3) := by decide +kernel
theorem dX11_price_56 : decode cX11_price 56 = .ok (.aload_n 0, 1) := by decide +kernel
theorem dX11_price_57 : decode cX11_price 57 = .ok (.getfield 266, 3) := by decide +kernel
theorem dX11_price_60 : decode cX11_price 60 = .ok (.iload_n 1, 1) := by decide +kernel
theorem dX11_price_61 : decode cX11_price 61 = .ok (.iastore, 1) := by decide +kernel
theorem dX11_price_62 : decode cX11_price 62 = .ok (.aload_n 0, 1) := by decide +kernel
theorem dX11_price_63 : decode cX11_price 63 = .ok (.getfield 67, 3) := by decide +kernel
theorem dX11_price_66 : decode cX11_price 66 = .ok (.aload_n 0, 1) := by decide +kernel
theorem dX11_price_67 : decode cX11_price 67 = .ok (.getfield 266, 3) := by decide +kernel
theorem dX11_price_70 : decode cX11_price 70 = .ok (.iload_n 2, 1) := by decide +kernel
theorem dX11_price_71 : decode cX11_price 71 = .ok (.iastore, 1) := by decide +kernel
theorem dX11_price_72 : decode cX11_price 72 = .ok (.aload_n 0, 1) := by decide +kernel
theorem dX11_price_73 : decode cX11_price 73 = .ok (.getfield 70, 3) := by decide +kernel
theorem dX11_price_76 : decode cX11_price 76 = .ok (.aload_n 0, 1) := by decide +kernel
theorem dX11_price_77 : decode cX11_price 77 = .ok (.getfield 266, 3) := by decide +kernel
theorem dX11_price_80 : decode cX11_price 80 = .ok (.iload_n 3, 1) := by decide +kernel
theorem dX11_price_81 : decode cX11_price 81 = .ok (.iastore, 1) := by decide +kernel
theorem dX11_price_82 : decode cX11_price 82 = .ok (.aload_n 0, 1) := by decide +kernel
theorem dX11_price_83 : decode cX11_price 83 = .ok (.getfield 73, 3) := by decide +kernel
theorem dX11_price_86 : decode cX11_price 86 = .ok (.aload_n 0, 1) := by decide +kernel
theorem dX11_price_87 : decode cX11_price 87 = .ok (.getfield 266, 3) := by decide +kernel
theorem dX11_price_90 : decode cX11_price 90 = .ok (.iload 4, 2) := by decide +kernel
theorem dX11_price_92 : decode cX11_price 92 = .ok (.iastore, 1) := by decide +kernel
theorem dX11_price_93 : decode cX11_price 93 = .ok (.aload_n 0, 1) := by decide +kernel
theorem dX11_price_94 : decode cX11_price 94 = .ok (.dup, 1) := by decide +kernel
theorem dX11_price_95 : decode cX11_price 95 = .ok (.getfield 266, 3) := by decide +kernel
theorem dX11_price_98 : decode cX11_price 98 = .ok (.iconst 1, 1) := by decide +kernel
theorem dX11_price_99 : decode cX11_price 99 = .ok (.iadd, 1) := by decide +kernel
theorem dX11_price_100 : decode cX11_price 100 = .ok (.putfield 266, 3) := by decide +kernel
theorem dX11_price_103 : decode cX11_price 103 = .ok (.aload_n 0, 1) := by decide +kernel
theorem dX11_price_104 : decode cX11_price 104 = .ok (.getfield 266, 3) := by decide +kernel
theorem dX11_price_107 : decode cX11_price 107 = .ok (.ireturn, 1) := by decide +kernel
theorem dX11_priceAt_0 : decode cX11_priceAt 0 = .ok (.bipush (-6), 2) := by decide +kernel
theorem dX11_priceAt_2 : decode cX11_priceAt 2 = .ok (.istore 4, 2) := by decide +kernel
theorem dX11_priceAt_4 : decode cX11_priceAt 4 = .ok (.iconst 0, 1) := by decide +kernel
theorem dX11_priceAt_5 : decode cX11_priceAt 5 = .ok (.istore 5, 2) := by decide +kernel
theorem dX11_priceAt_7 : decode cX11_priceAt 7 = .ok (.iload 5, 2) := by decide +kernel
theorem dX11_priceAt_9 : decode cX11_priceAt 9 = .ok (.aload_n 0, 1) := by decide +kernel
theorem dX11_priceAt_10 : decode cX11_priceAt 10 = .ok (.getfield 266, 3) := by decide +kernel
theorem dX11_priceAt_13 : decode cX11_priceAt 13 = .ok (.if_icmp .ge 85, 3) := by decide +kernel
theorem dX11_priceAt_16 : decode cX11_priceAt 16 = .ok (.aload_n 0, 1) := by decide +kernel
theorem dX11_priceAt_17 : decode cX11_priceAt 17 = .ok (.getfield 64, 3) := by decide +kernel
theorem dX11_priceAt_20 : decode cX11_priceAt 20 = .ok (.iload 5, 2) := by decide +kernel
theorem dX11_priceAt_22 : decode cX11_priceAt 22 = .ok (.iaload, 1) := by decide +kernel
theorem dX11_priceAt_23 : decode cX11_priceAt 23 = .ok (.iload_n 1, 1) := by decide +kernel
theorem dX11_priceAt_24 : decode cX11_priceAt 24 = .ok (.if_icmp .ne 29, 3) := by decide +kernel
theorem dX11_priceAt_27 : decode cX11_priceAt 27 = .ok (.aload_n 0, 1) := by decide +kernel
theorem dX11_priceAt_28 : decode cX11_priceAt 28 = .ok (.getfield 73, 3) := by decide +kernel
theorem dX11_priceAt_31 : decode cX11_priceAt 31 = .ok (.iload 5, 2) := by decide +kernel
theorem dX11_priceAt_33 : decode cX11_priceAt 33 = .ok (.iaload, 1) := by decide +kernel
theorem dX11_priceAt_34 : decode cX11_priceAt 34 = .ok (.iload_n 3, 1) := by decide +kernel
theorem dX11_priceAt_35 : decode cX11_priceAt 35 = .ok (.if_icmp .gt 18, 3) := by decide +kernel
theorem dX11_priceAt_38 : decode cX11_priceAt 38 = .ok (.aload_n 0, 1) := by decide +kernel
theorem dX11_priceAt_39 : decode cX11_priceAt 39 = .ok (.getfield 67, 3) := by decide +kernel
theorem dX11_priceAt_42 : decode cX11_priceAt 42 = .ok (.iload 5, 2) := by decide +kernel
theorem dX11_priceAt_44 : decode cX11_priceAt 44 = .ok (.iaload, 1) := by decide +kernel
theorem dX11_priceAt_45 : decode cX11_priceAt 45 = .ok (.iload_n 2, 1) := by decide +kernel
theorem dX11_priceAt_46 : decode cX11_priceAt 46 = .ok (.if_icmp .gt 7, 3) := by decide +kernel
theorem dX11_priceAt_49 : decode cX11_priceAt 49 = .ok (.iconst 1, 1) := by decide +kernel
theorem dX11_priceAt_50 : decode cX11_priceAt 50 = .ok (.goto 4, 3) := by decide +kernel
theorem dX11_priceAt_53 : decode cX11_priceAt 53 = .ok (.iconst 0, 1) := by decide +kernel
theorem dX11_priceAt_54 : decode cX11_priceAt 54 = .ok (.istore 6, 2) := by decide +kernel
theorem dX11_priceAt_56 : decode cX11_priceAt 56 = .ok (.iload 6, 2) := by decide +kernel
theorem dX11_priceAt_58 : decode cX11_priceAt 58 = .ok (.ifCond .eq 30, 3) := by decide +kernel
theorem dX11_priceAt_61 : decode cX11_priceAt 61 = .ok (.iload 4, 2) := by decide +kernel
theorem dX11_priceAt_63 : decode cX11_priceAt 63 = .ok (.ifCond .lt 20, 3) := by decide +kernel
theorem dX11_priceAt_66 : decode cX11_priceAt 66 = .ok (.aload_n 0, 1) := by decide +kernel
theorem dX11_priceAt_67 : decode cX11_priceAt 67 = .ok (.getfield 67, 3) := by decide +kernel
theorem dX11_priceAt_70 : decode cX11_priceAt 70 = .ok (.iload 5, 2) := by decide +kernel
theorem dX11_priceAt_72 : decode cX11_priceAt 72 = .ok (.iaload, 1) := by decide +kernel
theorem dX11_priceAt_73 : decode cX11_priceAt 73 = .ok (.aload_n 0, 1) := by decide +kernel
theorem dX11_priceAt_74 : decode cX11_priceAt 74 = .ok (.getfield 67, 3) := by decide +kernel
theorem dX11_priceAt_77 : decode cX11_priceAt 77 = .ok (.iload 4, 2) := by decide +kernel
theorem dX11_priceAt_79 : decode cX11_priceAt 79 = .ok (.iaload, 1) := by decide +kernel
theorem dX11_priceAt_80 : decode cX11_priceAt 80 = .ok (.if_icmp .lt 8, 3) := by decide +kernel
theorem dX11_priceAt_83 : decode cX11_priceAt 83 = .ok (.iload 5, 2) := by decide +kernel
theorem dX11_priceAt_85 : decode cX11_priceAt 85 = .ok (.goto 5, 3) := by decide +kernel
theorem dX11_priceAt_88 : decode cX11_priceAt 88 = .ok (.iload 4, 2) := by decide +kernel
theorem dX11_priceAt_90 : decode cX11_priceAt 90 = .ok (.istore 4, 2) := by decide +kernel
theorem dX11_priceAt_92 : decode cX11_priceAt 92 = .ok (.iinc 5 1, 3) := by decide +kernel
theorem dX11_priceAt_95 : decode cX11_priceAt 95 = .ok (.goto (-88), 3) := by decide +kernel
theorem dX11_priceAt_98 : decode cX11_priceAt 98 = .ok (.iload 4, 2) := by decide +kernel
theorem dX11_priceAt_100 : decode cX11_priceAt 100 = .ok (.ifCond .ge 7, 3) := by decide +kernel
theorem dX11_priceAt_103 : decode cX11_priceAt 103 = .ok (.iconst 0, 1) := by decide +kernel
theorem dX11_priceAt_104 : decode cX11_priceAt 104 = .ok (.goto 10, 3) := by decide +kernel
theorem dX11_priceAt_107 : decode cX11_priceAt 107 = .ok (.aload_n 0, 1) := by decide +kernel
theorem dX11_priceAt_108 : decode cX11_priceAt 108 = .ok (.getfield 70, 3) := by decide +kernel
theorem dX11_priceAt_111 : decode cX11_priceAt 111 = .ok (.iload 4, 2) := by decide +kernel
theorem dX11_priceAt_113 : decode cX11_priceAt 113 = .ok (.iaload, 1) := by decide +kernel
theorem dX11_priceAt_114 : decode cX11_priceAt 114 = .ok (.ireturn, 1) := by decide +kernel
theorem dX11_priceOn_0 : decode cX11_priceOn 0 = .ok (.iload_n 1, 1) := by decide +kernel
theorem dX11_priceOn_1 : decode cX11_priceOn 1 = .ok (.iconst 0, 1) := by decide +kernel
theorem dX11_priceOn_2 : decode cX11_priceOn 2 = .ok (.iconst 1, 1) := by decide +kernel
theorem dX11_priceOn_3 : decode cX11_priceOn 3 = .ok (.invokestatic 94, 3) := by decide +kernel
theorem dX11_priceOn_6 : decode cX11_priceOn 6 = .ok (.ifCond .ne 5, 3) := by decide +kernel
theorem dX11_priceOn_9 : decode cX11_priceOn 9 = .ok (.iconst (-1), 1) := by decide +kernel
theorem dX11_priceOn_10 : decode cX11_priceOn 10 = .ok (.ireturn, 1) := by decide +kernel
theorem dX11_priceOn_11 : decode cX11_priceOn 11 = .ok (.iload_n 2, 1) := by decide +kernel
theorem dX11_priceOn_12 : decode cX11_priceOn 12 = .ok (.invokestatic 110, 3) := by decide +kernel
theorem dX11_priceOn_15 : decode cX11_priceOn 15 = .ok (.ifCond .eq 20, 3) := by decide +kernel
theorem dX11_priceOn_18 : decode cX11_priceOn 18 = .ok (.iload_n 3, 1) := by decide +kernel
theorem dX11_priceOn_19 : decode cX11_priceOn 19 = .ok (.invokestatic 110, 3) := by decide +kernel
theorem dX11_priceOn_22 : decode cX11_priceOn 22 = .ok (.ifCond .eq 13, 3) := by decide +kernel
theorem dX11_priceOn_25 : decode cX11_priceOn 25 = .ok (.aload_n 0, 1) := by decide +kernel
theorem dX11_priceOn_26 : decode cX11_priceOn 26 = .ok (.iload_n 1, 1) := by decide +kernel
theorem dX11_priceOn_27 : decode cX11_priceOn 27 = .ok (.iload_n 2, 1) := by decide +kernel
theorem dX11_priceOn_28 : decode cX11_priceOn 28 = .ok (.iload_n 3, 1) := by decide +kernel
theorem dX11_priceOn_29 : decode cX11_priceOn 29 = .ok (.invokevirtual 269, 3) := by decide +kernel
theorem dX11_priceOn_32 : decode cX11_priceOn 32 = .ok (.goto 5, 3) := by decide +kernel
theorem dX11_priceOn_35 : decode cX11_priceOn 35 = .ok (.bipush (-2), 2) := by decide +kernel
theorem dX11_priceOn_37 : decode cX11_priceOn 37 = .ok (.ireturn, 1) := by decide +kernel
theorem dX11_gain_0 : decode cX11_gain 0 = .ok (.iload_n 2, 1) := by decide +kernel
theorem dX11_gain_1 : decode cX11_gain 1 = .ok (.aload_n 0, 1) := by decide +kernel
theorem dX11_gain_2 : decode cX11_gain 2 = .ok (.iconst 0, 1) := by decide +kernel
theorem dX11_gain_3 : decode cX11_gain 3 = .ok (.aload_n 0, 1) := by decide +kernel
theorem dX11_gain_4 : decode cX11_gain 4 = .ok (.getfield 58, 3) := by decide +kernel
theorem dX11_gain_7 : decode cX11_gain 7 = .ok (.iload_n 1, 1) := by decide +kernel
theorem dX11_gain_8 : decode cX11_gain 8 = .ok (.iaload, 1) := by decide +kernel
theorem dX11_gain_9 : decode cX11_gain 9 = .ok (.iload 4, 2) := by decide +kernel
theorem dX11_gain_11 : decode cX11_gain 11 = .ok (.invokevirtual 269, 3) := by decide +kernel
theorem dX11_gain_14 : decode cX11_gain 14 = .ok (.imul, 1) := by decide +kernel
theorem dX11_gain_15 : decode cX11_gain 15 = .ok (.iload_n 3, 1) := by decide +kernel
theorem dX11_gain_16 : decode cX11_gain 16 = .ok (.aload_n 0, 1) := by decide +kernel
theorem dX11_gain_17 : decode cX11_gain 17 = .ok (.iconst 1, 1) := by decide +kernel
theorem dX11_gain_18 : decode cX11_gain 18 = .ok (.aload_n 0, 1) := by decide +kernel
theorem dX11_gain_19 : decode cX11_gain 19 = .ok (.getfield 58, 3) := by decide +kernel
theorem dX11_gain_22 : decode cX11_gain 22 = .ok (.iload_n 1, 1) := by decide +kernel
theorem dX11_gain_23 : decode cX11_gain 23 = .ok (.iaload, 1) := by decide +kernel
theorem dX11_gain_24 : decode cX11_gain 24 = .ok (.iload 4, 2) := by decide +kernel
theorem dX11_gain_26 : decode cX11_gain 26 = .ok (.invokevirtual 269, 3) := by decide +kernel
theorem dX11_gain_29 : decode cX11_gain 29 = .ok (.imul, 1) := by decide +kernel
theorem dX11_gain_30 : decode cX11_gain 30 = .ok (.iadd, 1) := by decide +kernel
theorem dX11_gain_31 : decode cX11_gain 31 = .ok (.ireturn, 1) := by decide +kernel
theorem dX11_layMost_0 : decode cX11_layMost 0 = .ok (.iconst 0, 1) := by decide +kernel
theorem dX11_layMost_1 : decode cX11_layMost 1 = .ok (.istore_n 2, 1) := by decide +kernel
theorem dX11_layMost_2 : decode cX11_layMost 2 = .ok (.iload_n 2, 1) := by decide +kernel
theorem dX11_layMost_3 : decode cX11_layMost 3 = .ok (.sipush 441, 3) := by decide +kernel
theorem dX11_layMost_6 : decode cX11_layMost 6 = .ok (.if_icmp .ge 20, 3) := by decide +kernel
theorem dX11_layMost_9 : decode cX11_layMost 9 = .ok (.aload_n 0, 1) := by decide +kernel
theorem dX11_layMost_10 : decode cX11_layMost 10 = .ok (.getfield 91, 3) := by decide +kernel
theorem dX11_layMost_13 : decode cX11_layMost 13 = .ok (.sipush 1764, 3) := by decide +kernel
theorem dX11_layMost_16 : decode cX11_layMost 16 = .ok (.iload_n 2, 1) := by decide +kernel
theorem dX11_layMost_17 : decode cX11_layMost 17 = .ok (.iadd, 1) := by decide +kernel
theorem dX11_layMost_18 : decode cX11_layMost 18 = .ok (.iconst 0, 1) := by decide +kernel
theorem dX11_layMost_19 : decode cX11_layMost 19 = .ok (.iastore, 1) := by decide +kernel
theorem dX11_layMost_20 : decode cX11_layMost 20 = .ok (.iinc 2 1, 3) := by decide +kernel
theorem dX11_layMost_23 : decode cX11_layMost 23 = .ok (.goto (-21), 3) := by decide +kernel
theorem dX11_layMost_26 : decode cX11_layMost 26 = .ok (.iconst 3, 1) := by decide +kernel
theorem dX11_layMost_27 : decode cX11_layMost 27 = .ok (.istore_n 2, 1) := by decide +kernel
theorem dX11_layMost_28 : decode cX11_layMost 28 = .ok (.iload_n 2, 1) := by decide +kernel
theorem dX11_layMost_29 : decode cX11_layMost 29 = .ok (.ifCond .lt 187, 3) := by decide +kernel
theorem dX11_layMost_32 : decode cX11_layMost 32 = .ok (.aload_n 0, 1) := by decide +kernel
theorem dX11_layMost_33 : decode cX11_layMost 33 = .ok (.iconst 0, 1) := by decide +kernel
theorem dX11_layMost_34 : decode cX11_layMost 34 = .ok (.aload_n 0, 1) := by decide +kernel
theorem dX11_layMost_35 : decode cX11_layMost 35 = .ok (.getfield 58, 3) := by decide +kernel
theorem dX11_layMost_38 : decode cX11_layMost 38 = .ok (.iload_n 2, 1) := by decide +kernel
theorem dX11_layMost_39 : decode cX11_layMost 39 = .ok (.iaload, 1) := by decide +kernel
theorem dX11_layMost_40 : decode cX11_layMost 40 = .ok (.iload_n 1, 1) := by decide +kernel
theorem dX11_layMost_41 : decode cX11_layMost 41 = .ok (.invokevirtual 269, 3) := by decide +kernel
theorem dX11_layMost_44 : decode cX11_layMost 44 = .ok (.istore_n 3, 1) := by decide +kernel
theorem dX11_layMost_45 : decode cX11_layMost 45 = .ok (.aload_n 0, 1) := by decide +kernel
theorem dX11_layMost_46 : decode cX11_layMost 46 = .ok (.iconst 1, 1) := by decide +kernel
theorem dX11_layMost_47 : decode cX11_layMost 47 = .ok (.aload_n 0, 1) := by decide +kernel
theorem dX11_layMost_48 : decode cX11_layMost 48 = .ok (.getfield 58, 3) := by decide +kernel
theorem dX11_layMost_51 : decode cX11_layMost 51 = .ok (.iload_n 2, 1) := by decide +kernel
theorem dX11_layMost_52 : decode cX11_layMost 52 = .ok (.iaload, 1) := by decide +kernel
theorem dX11_layMost_53 : decode cX11_layMost 53 = .ok (.iload_n 1, 1) := by decide +kernel
theorem dX11_layMost_54 : decode cX11_layMost 54 = .ok (.invokevirtual 269, 3) := by decide +kernel
theorem dX11_layMost_57 : decode cX11_layMost 57 = .ok (.istore 4, 2) := by decide +kernel
theorem dX11_layMost_59 : decode cX11_layMost 59 = .ok (.iconst 0, 1) := by decide +kernel
theorem dX11_layMost_60 : decode cX11_layMost 60 = .ok (.istore 5, 2) := by decide +kernel
theorem dX11_layMost_62 : decode cX11_layMost 62 = .ok (.iload 5, 2) := by decide +kernel
theorem dX11_layMost_64 : decode cX11_layMost 64 = .ok (.sipush 441, 3) := by decide +kernel
theorem dX11_layMost_67 : decode cX11_layMost 67 = .ok (.if_icmp .ge 143, 3) := by decide +kernel
theorem dX11_layMost_70 : decode cX11_layMost 70 = .ok (.iconst 0, 1) := by decide +kernel
theorem dX11_layMost_71 : decode cX11_layMost 71 = .ok (.istore 6, 2) := by decide +kernel
theorem dX11_layMost_73 : decode cX11_layMost 73 = .ok (.iconst 0, 1) := by decide +kernel
theorem dX11_layMost_74 : decode cX11_layMost 74 = .ok (.istore 7, 2) := by decide +kernel
theorem dX11_layMost_76 : decode cX11_layMost 76 = .ok (.iload 7, 2) := by decide +kernel
theorem dX11_layMost_78 : decode cX11_layMost 78 = .ok (.iload 5, 2) := by decide +kernel
theorem dX11_layMost_80 : decode cX11_layMost 80 = .ok (.bipush 21, 2) := by decide +kernel
theorem dX11_layMost_82 : decode cX11_layMost 82 = .ok (.idiv, 1) := by decide +kernel
theorem dX11_layMost_83 : decode cX11_layMost 83 = .ok (.if_icmp .gt 106, 3) := by decide +kernel
theorem dX11_layMost_86 : decode cX11_layMost 86 = .ok (.iload 7, 2) := by decide +kernel
theorem dX11_layMost_88 : decode cX11_layMost 88 = .ok (.aload_n 0, 1) := by decide +kernel
theorem dX11_layMost_89 : decode cX11_layMost 89 = .ok (.getfield 61, 3) := by decide +kernel
theorem dX11_layMost_92 : decode cX11_layMost 92 = .ok (.iload_n 2, 1) := by decide +kernel
theorem dX11_layMost_93 : decode cX11_layMost 93 = .ok (.iaload, 1) := by decide +kernel
theorem dX11_layMost_94 : decode cX11_layMost 94 = .ok (.if_icmp .gt 95, 3) := by decide +kernel
theorem dX11_layMost_97 : decode cX11_layMost 97 = .ok (.iconst 0, 1) := by decide +kernel
theorem dX11_layMost_98 : decode cX11_layMost 98 = .ok (.istore 8, 2) := by decide +kernel
theorem dX11_layMost_100 : decode cX11_layMost 100 = .ok (.iload 8, 2) := by decide +kernel
theorem dX11_layMost_102 : decode cX11_layMost 102 = .ok (.iload 5, 2) := by decide +kernel
theorem dX11_layMost_104 : decode cX11_layMost 104 = .ok (.bipush 21, 2) := by decide +kernel
theorem dX11_layMost_106 : decode cX11_layMost 106 = .ok (.irem, 1) := by decide +kernel
theorem dX11_layMost_107 : decode cX11_layMost 107 = .ok (.if_icmp .gt 76, 3) := by decide +kernel
theorem dX11_layMost_110 : decode cX11_layMost 110 = .ok (.iload 7, 2) := by decide +kernel
theorem dX11_layMost_112 : decode cX11_layMost 112 = .ok (.iload 8, 2) := by decide +kernel
theorem dX11_layMost_114 : decode cX11_layMost 114 = .ok (.iadd, 1) := by decide +kernel
theorem dX11_layMost_115 : decode cX11_layMost 115 = .ok (.aload_n 0, 1) := by decide +kernel
theorem dX11_layMost_116 : decode cX11_layMost 116 = .ok (.getfield 61, 3) := by decide +kernel
theorem dX11_layMost_119 : decode cX11_layMost 119 = .ok (.iload_n 2, 1) := by decide +kernel
theorem dX11_layMost_120 : decode cX11_layMost 120 = .ok (.iaload, 1) := by decide +kernel
theorem dX11_layMost_121 : decode cX11_layMost 121 = .ok (.if_icmp .gt 62, 3) := by decide +kernel
theorem dX11_layMost_124 : decode cX11_layMost 124 = .ok (.iload 7, 2) := by decide +kernel
theorem dX11_layMost_126 : decode cX11_layMost 126 = .ok (.iload_n 3, 1) := by decide +kernel
theorem dX11_layMost_127 : decode cX11_layMost 127 = .ok (.imul, 1) := by decide +kernel
theorem dX11_layMost_128 : decode cX11_layMost 128 = .ok (.iload 8, 2) := by decide +kernel
theorem dX11_layMost_130 : decode cX11_layMost 130 = .ok (.iload 4, 2) := by decide +kernel
theorem dX11_layMost_132 : decode cX11_layMost 132 = .ok (.imul, 1) := by decide +kernel
theorem dX11_layMost_133 : decode cX11_layMost 133 = .ok (.iadd, 1) := by decide +kernel
theorem dX11_layMost_134 : decode cX11_layMost 134 = .ok (.aload_n 0, 1) := by decide +kernel
theorem dX11_layMost_135 : decode cX11_layMost 135 = .ok (.getfield 91, 3) := by decide +kernel
theorem dX11_layMost_138 : decode cX11_layMost 138 = .ok (.sipush 441, 3) := by decide +kernel
theorem dX11_layMost_141 : decode cX11_layMost 141 = .ok (.iload_n 2, 1) := by decide +kernel
theorem dX11_layMost_142 : decode cX11_layMost 142 = .ok (.iconst 1, 1) := by decide +kernel
theorem dX11_layMost_143 : decode cX11_layMost 143 = .ok (.iadd, 1) := by decide +kernel
theorem dX11_layMost_144 : decode cX11_layMost 144 = .ok (.imul, 1) := by decide +kernel
theorem dX11_layMost_145 : decode cX11_layMost 145 = .ok (.iload 5, 2) := by decide +kernel
theorem dX11_layMost_147 : decode cX11_layMost 147 = .ok (.iadd, 1) := by decide +kernel
theorem dX11_layMost_148 : decode cX11_layMost 148 = .ok (.bipush 21, 2) := by decide +kernel
theorem dX11_layMost_150 : decode cX11_layMost 150 = .ok (.iload 7, 2) := by decide +kernel
theorem dX11_layMost_152 : decode cX11_layMost 152 = .ok (.imul, 1) := by decide +kernel
theorem dX11_layMost_153 : decode cX11_layMost 153 = .ok (.isub, 1) := by decide +kernel
theorem dX11_layMost_154 : decode cX11_layMost 154 = .ok (.iload 8, 2) := by decide +kernel
theorem dX11_layMost_156 : decode cX11_layMost 156 = .ok (.isub, 1) := by decide +kernel
theorem dX11_layMost_157 : decode cX11_layMost 157 = .ok (.iaload, 1) := by decide +kernel
theorem dX11_layMost_158 : decode cX11_layMost 158 = .ok (.iadd, 1) := by decide +kernel
theorem dX11_layMost_159 : decode cX11_layMost 159 = .ok (.istore 9, 2) := by decide +kernel
theorem dX11_layMost_161 : decode cX11_layMost 161 = .ok (.iload 9, 2) := by decide +kernel
theorem dX11_layMost_163 : decode cX11_layMost 163 = .ok (.iload 6, 2) := by decide +kernel
theorem dX11_layMost_165 : decode cX11_layMost 165 = .ok (.if_icmp .le 8, 3) := by decide +kernel
theorem dX11_layMost_168 : decode cX11_layMost 168 = .ok (.iload 9, 2) := by decide +kernel
theorem dX11_layMost_170 : decode cX11_layMost 170 = .ok (.goto 5, 3) := by decide +kernel
theorem dX11_layMost_173 : decode cX11_layMost 173 = .ok (.iload 6, 2) := by decide +kernel
theorem dX11_layMost_175 : decode cX11_layMost 175 = .ok (.istore 6, 2) := by decide +kernel
theorem dX11_layMost_177 : decode cX11_layMost 177 = .ok (.iinc 8 1, 3) := by decide +kernel
theorem dX11_layMost_180 : decode cX11_layMost 180 = .ok (.goto (-80), 3) := by decide +kernel
theorem dX11_layMost_183 : decode cX11_layMost 183 = .ok (.iinc 7 1, 3) := by decide +kernel
theorem dX11_layMost_186 : decode cX11_layMost 186 = .ok (.goto (-110), 3) := by decide +kernel
theorem dX11_layMost_189 : decode cX11_layMost 189 = .ok (.aload_n 0, 1) := by decide +kernel
theorem dX11_layMost_190 : decode cX11_layMost 190 = .ok (.getfield 91, 3) := by decide +kernel
theorem dX11_layMost_193 : decode cX11_layMost 193 = .ok (.sipush 441, 3) := by decide +kernel
theorem dX11_layMost_196 : decode cX11_layMost 196 = .ok (.iload_n 2, 1) := by decide +kernel
theorem dX11_layMost_197 : decode cX11_layMost 197 = .ok (.imul, 1) := by decide +kernel
theorem dX11_layMost_198 : decode cX11_layMost 198 = .ok (.iload 5, 2) := by decide +kernel
theorem dX11_layMost_200 : decode cX11_layMost 200 = .ok (.iadd, 1) := by decide +kernel
theorem dX11_layMost_201 : decode cX11_layMost 201 = .ok (.iload 6, 2) := by decide +kernel
theorem dX11_layMost_203 : decode cX11_layMost 203 = .ok (.iastore, 1) := by decide +kernel
theorem dX11_layMost_204 : decode cX11_layMost 204 = .ok (.iinc 5 1, 3) := by decide +kernel
theorem dX11_layMost_207 : decode cX11_layMost 207 = .ok (.goto (-145), 3) := by decide +kernel
theorem dX11_layMost_210 : decode cX11_layMost 210 = .ok (.iinc 2 (-1), 3) := by decide +kernel
theorem dX11_layMost_213 : decode cX11_layMost 213 = .ok (.goto (-185), 3) := by decide +kernel
theorem dX11_layMost_216 : decode cX11_layMost 216 = .ok (.return_, 1) := by decide +kernel
theorem dX11_load_0 : decode cX11_load 0 = .ok (.iload_n 1, 1) := by decide +kernel
theorem dX11_load_1 : decode cX11_load 1 = .ok (.iconst 0, 1) := by decide +kernel
theorem dX11_load_2 : decode cX11_load 2 = .ok (.bipush 20, 2) := by decide +kernel
theorem dX11_load_4 : decode cX11_load 4 = .ok (.invokestatic 94, 3) := by decide +kernel
theorem dX11_load_7 : decode cX11_load 7 = .ok (.ifCond .eq 20, 3) := by decide +kernel
theorem dX11_load_10 : decode cX11_load 10 = .ok (.iload_n 2, 1) := by decide +kernel
theorem dX11_load_11 : decode cX11_load 11 = .ok (.iconst 0, 1) := by decide +kernel
theorem dX11_load_12 : decode cX11_load 12 = .ok (.bipush 20, 2) := by decide +kernel
theorem dX11_load_14 : decode cX11_load 14 = .ok (.invokestatic 94, 3) := by decide +kernel
theorem dX11_load_17 : decode cX11_load 17 = .ok (.ifCond .eq 10, 3) := by decide +kernel
theorem dX11_load_20 : decode cX11_load 20 = .ok (.iload_n 3, 1) := by decide +kernel
theorem dX11_load_21 : decode cX11_load 21 = .ok (.invokestatic 110, 3) := by decide +kernel
theorem dX11_load_24 : decode cX11_load 24 = .ok (.ifCond .ne 6, 3) := by decide +kernel
theorem dX11_load_27 : decode cX11_load 27 = .ok (.bipush (-2), 2) := by decide +kernel
theorem dX11_load_29 : decode cX11_load 29 = .ok (.ireturn, 1) := by decide +kernel
theorem dX11_load_30 : decode cX11_load 30 = .ok (.aload_n 0, 1) := by decide +kernel
theorem dX11_load_31 : decode cX11_load 31 = .ok (.iload_n 3, 1) := by decide +kernel
theorem dX11_load_32 : decode cX11_load 32 = .ok (.invokevirtual 272, 3) := by decide +kernel
theorem dX11_load_35 : decode cX11_load 35 = .ok (.bipush 21, 2) := by decide +kernel
theorem dX11_load_37 : decode cX11_load 37 = .ok (.iload_n 1, 1) := by decide +kernel
theorem dX11_load_38 : decode cX11_load 38 = .ok (.imul, 1) := by decide +kernel
theorem dX11_load_39 : decode cX11_load 39 = .ok (.iload_n 2, 1) := by decide +kernel
theorem dX11_load_40 : decode cX11_load 40 = .ok (.iadd, 1) := by decide +kernel
theorem dX11_load_41 : decode cX11_load 41 = .ok (.istore 5, 2) := by decide +kernel
theorem dX11_load_43 : decode cX11_load 43 = .ok (.iload 4, 2) := by decide +kernel
theorem dX11_load_45 : decode cX11_load 45 = .ok (.iconst (-1), 1) := by decide +kernel
theorem dX11_load_46 : decode cX11_load 46 = .ok (.if_icmp .ne 11, 3) := by decide +kernel
theorem dX11_load_49 : decode cX11_load 49 = .ok (.aload_n 0, 1) := by decide +kernel
theorem dX11_load_50 : decode cX11_load 50 = .ok (.getfield 91, 3) := by decide +kernel
theorem dX11_load_53 : decode cX11_load 53 = .ok (.iload 5, 2) := by decide +kernel
theorem dX11_load_55 : decode cX11_load 55 = .ok (.iaload, 1) := by decide +kernel
theorem dX11_load_56 : decode cX11_load 56 = .ok (.ireturn, 1) := by decide +kernel
theorem dX11_load_57 : decode cX11_load 57 = .ok (.bipush (-6), 2) := by decide +kernel
theorem dX11_load_59 : decode cX11_load 59 = .ok (.istore 6, 2) := by decide +kernel
theorem dX11_load_61 : decode cX11_load 61 = .ok (.iconst 0, 1) := by decide +kernel
theorem dX11_load_62 : decode cX11_load 62 = .ok (.istore 7, 2) := by decide +kernel
theorem dX11_load_64 : decode cX11_load 64 = .ok (.iload 7, 2) := by decide +kernel
theorem dX11_load_66 : decode cX11_load 66 = .ok (.iload 4, 2) := by decide +kernel
theorem dX11_load_68 : decode cX11_load 68 = .ok (.if_icmp .gt 170, 3) := by decide +kernel
theorem dX11_load_71 : decode cX11_load 71 = .ok (.iload 7, 2) := by decide +kernel
theorem dX11_load_73 : decode cX11_load 73 = .ok (.iconst 4, 1) := by decide +kernel
theorem dX11_load_74 : decode cX11_load 74 = .ok (.if_icmp .ge 164, 3) := by decide +kernel
theorem dX11_load_77 : decode cX11_load 77 = .ok (.bipush (-6), 2) := by decide +kernel
theorem dX11_load_79 : decode cX11_load 79 = .ok (.istore 6, 2) := by decide +kernel
theorem dX11_load_81 : decode cX11_load 81 = .ok (.iconst 0, 1) := by decide +kernel
theorem dX11_load_82 : decode cX11_load 82 = .ok (.istore 8, 2) := by decide +kernel
theorem dX11_load_84 : decode cX11_load 84 = .ok (.iload 8, 2) := by decide +kernel
theorem dX11_load_86 : decode cX11_load 86 = .ok (.iload 5, 2) := by decide +kernel
theorem dX11_load_88 : decode cX11_load 88 = .ok (.bipush 21, 2) := by decide +kernel
theorem dX11_load_90 : decode cX11_load 90 = .ok (.idiv, 1) := by decide +kernel
theorem dX11_load_91 : decode cX11_load 91 = .ok (.if_icmp .gt 122, 3) := by decide +kernel
theorem dX11_load_94 : decode cX11_load 94 = .ok (.iload 6, 2) := by decide +kernel
theorem dX11_load_96 : decode cX11_load 96 = .ok (.ifCond .ge 117, 3) := by decide +kernel
theorem dX11_load_99 : decode cX11_load 99 = .ok (.iconst 0, 1) := by decide +kernel
theorem dX11_load_100 : decode cX11_load 100 = .ok (.istore 9, 2) := by decide +kernel
theorem dX11_load_102 : decode cX11_load 102 = .ok (.iload 9, 2) := by decide +kernel
theorem dX11_load_104 : decode cX11_load 104 = .ok (.iload 5, 2) := by decide +kernel
theorem dX11_load_106 : decode cX11_load 106 = .ok (.bipush 21, 2) := by decide +kernel
theorem dX11_load_108 : decode cX11_load 108 = .ok (.irem, 1) := by decide +kernel
theorem dX11_load_109 : decode cX11_load 109 = .ok (.if_icmp .gt 98, 3) := by decide +kernel
theorem dX11_load_112 : decode cX11_load 112 = .ok (.iload 8, 2) := by decide +kernel
theorem dX11_load_114 : decode cX11_load 114 = .ok (.iload 9, 2) := by decide +kernel
theorem dX11_load_116 : decode cX11_load 116 = .ok (.iadd, 1) := by decide +kernel
theorem dX11_load_117 : decode cX11_load 117 = .ok (.aload_n 0, 1) := by decide +kernel
theorem dX11_load_118 : decode cX11_load 118 = .ok (.getfield 61, 3) := by decide +kernel
theorem dX11_load_121 : decode cX11_load 121 = .ok (.iload 7, 2) := by decide +kernel
theorem dX11_load_123 : decode cX11_load 123 = .ok (.iaload, 1) := by decide +kernel
theorem dX11_load_124 : decode cX11_load 124 = .ok (.if_icmp .gt 83, 3) := by decide +kernel
theorem dX11_load_127 : decode cX11_load 127 = .ok (.iload 6, 2) := by decide +kernel
theorem dX11_load_129 : decode cX11_load 129 = .ok (.ifCond .ge 78, 3) := by decide +kernel
theorem dX11_load_132 : decode cX11_load 132 = .ok (.aload_n 0, 1) := by decide +kernel
theorem dX11_load_133 : decode cX11_load 133 = .ok (.iload 7, 2) := by decide +kernel
theorem dX11_load_135 : decode cX11_load 135 = .ok (.iload 8, 2) := by decide +kernel
theorem dX11_load_137 : decode cX11_load 137 = .ok (.iload 9, 2) := by decide +kernel
theorem dX11_load_139 : decode cX11_load 139 = .ok (.iload_n 3, 1) := by decide +kernel
theorem dX11_load_140 : decode cX11_load 140 = .ok (.invokevirtual 275, 3) := by decide +kernel
theorem dX11_load_143 : decode cX11_load 143 = .ok (.aload_n 0, 1) := by decide +kernel
theorem dX11_load_144 : decode cX11_load 144 = .ok (.getfield 91, 3) := by decide +kernel
theorem dX11_load_147 : decode cX11_load 147 = .ok (.sipush 441, 3) := by decide +kernel
theorem dX11_load_150 : decode cX11_load 150 = .ok (.iload 7, 2) := by decide +kernel
theorem dX11_load_152 : decode cX11_load 152 = .ok (.iconst 1, 1) := by decide +kernel
theorem dX11_load_153 : decode cX11_load 153 = .ok (.iadd, 1) := by decide +kernel
theorem dX11_load_154 : decode cX11_load 154 = .ok (.imul, 1) := by decide +kernel
theorem dX11_load_155 : decode cX11_load 155 = .ok (.iload 5, 2) := by decide +kernel
theorem dX11_load_157 : decode cX11_load 157 = .ok (.iadd, 1) := by decide +kernel
theorem dX11_load_158 : decode cX11_load 158 = .ok (.bipush 21, 2) := by decide +kernel
theorem dX11_load_160 : decode cX11_load 160 = .ok (.iload 8, 2) := by decide +kernel
theorem dX11_load_162 : decode cX11_load 162 = .ok (.imul, 1) := by decide +kernel
theorem dX11_load_163 : decode cX11_load 163 = .ok (.isub, 1) := by decide +kernel
theorem dX11_load_164 : decode cX11_load 164 = .ok (.iload 9, 2) := by decide +kernel
theorem dX11_load_166 : decode cX11_load 166 = .ok (.isub, 1) := by decide +kernel
theorem dX11_load_167 : decode cX11_load 167 = .ok (.iaload, 1) := by decide +kernel
theorem dX11_load_168 : decode cX11_load 168 = .ok (.iadd, 1) := by decide +kernel
theorem dX11_load_169 : decode cX11_load 169 = .ok (.aload_n 0, 1) := by decide +kernel
theorem dX11_load_170 : decode cX11_load 170 = .ok (.getfield 91, 3) := by decide +kernel
theorem dX11_load_173 : decode cX11_load 173 = .ok (.sipush 441, 3) := by decide +kernel
theorem dX11_load_176 : decode cX11_load 176 = .ok (.iload 7, 2) := by decide +kernel
theorem dX11_load_178 : decode cX11_load 178 = .ok (.imul, 1) := by decide +kernel
theorem dX11_load_179 : decode cX11_load 179 = .ok (.iload 5, 2) := by decide +kernel
theorem dX11_load_181 : decode cX11_load 181 = .ok (.iadd, 1) := by decide +kernel
theorem dX11_load_182 : decode cX11_load 182 = .ok (.iaload, 1) := by decide +kernel
theorem dX11_load_183 : decode cX11_load 183 = .ok (.if_icmp .ne 14, 3) := by decide +kernel
theorem dX11_load_186 : decode cX11_load 186 = .ok (.bipush 100, 2) := by decide +kernel
theorem dX11_load_188 : decode cX11_load 188 = .ok (.iload 8, 2) := by decide +kernel
theorem dX11_load_190 : decode cX11_load 190 = .ok (.imul, 1) := by decide +kernel
theorem dX11_load_191 : decode cX11_load 191 = .ok (.iload 9, 2) := by decide +kernel
theorem dX11_load_193 : decode cX11_load 193 = .ok (.iadd, 1) := by decide +kernel
theorem dX11_load_194 : decode cX11_load 194 = .ok (.goto 5, 3) := by decide +kernel
theorem dX11_load_197 : decode cX11_load 197 = .ok (.bipush (-6), 2) := by decide +kernel
theorem dX11_load_199 : decode cX11_load 199 = .ok (.istore 6, 2) := by decide +kernel
theorem dX11_load_201 : decode cX11_load 201 = .ok (.iinc 9 1, 3) := by decide +kernel
theorem dX11_load_204 : decode cX11_load 204 = .ok (.goto (-102), 3) := by decide +kernel
theorem dX11_load_207 : decode cX11_load 207 = .ok (.iinc 8 1, 3) := by decide +kernel
theorem dX11_load_210 : decode cX11_load 210 = .ok (.goto (-126), 3) := by decide +kernel
theorem dX11_load_213 : decode cX11_load 213 = .ok (.iload 5, 2) := by decide +kernel
theorem dX11_load_215 : decode cX11_load 215 = .ok (.bipush 21, 2) := by decide +kernel
theorem dX11_load_217 : decode cX11_load 217 = .ok (.iload 6, 2) := by decide +kernel
theorem dX11_load_219 : decode cX11_load 219 = .ok (.bipush 100, 2) := by decide +kernel
theorem dX11_load_221 : decode cX11_load 221 = .ok (.idiv, 1) := by decide +kernel
theorem dX11_load_222 : decode cX11_load 222 = .ok (.imul, 1) := by decide +kernel
theorem dX11_load_223 : decode cX11_load 223 = .ok (.iload 6, 2) := by decide +kernel
theorem dX11_load_225 : decode cX11_load 225 = .ok (.bipush 100, 2) := by decide +kernel
theorem dX11_load_227 : decode cX11_load 227 = .ok (.irem, 1) := by decide +kernel
theorem dX11_load_228 : decode cX11_load 228 = .ok (.iadd, 1) := by decide +kernel
theorem dX11_load_229 : decode cX11_load 229 = .ok (.isub, 1) := by decide +kernel
theorem dX11_load_230 : decode cX11_load 230 = .ok (.istore 5, 2) := by decide +kernel
theorem dX11_load_232 : decode cX11_load 232 = .ok (.iinc 7 1, 3) := by decide +kernel
theorem dX11_load_235 : decode cX11_load 235 = .ok (.goto (-171), 3) := by decide +kernel
theorem dX11_load_238 : decode cX11_load 238 = .ok (.iload 4, 2) := by decide +kernel
theorem dX11_load_240 : decode cX11_load 240 = .ok (.iconst 0, 1) := by decide +kernel
theorem dX11_load_241 : decode cX11_load 241 = .ok (.iconst 3, 1) := by decide +kernel
theorem dX11_load_242 : decode cX11_load 242 = .ok (.invokestatic 94, 3) := by decide +kernel
theorem dX11_load_245 : decode cX11_load 245 = .ok (.ifCond .eq 8, 3) := by decide +kernel
theorem dX11_load_248 : decode cX11_load 248 = .ok (.iload 6, 2) := by decide +kernel
theorem dX11_load_250 : decode cX11_load 250 = .ok (.goto 5, 3) := by decide +kernel
theorem dX11_load_253 : decode cX11_load 253 = .ok (.bipush (-6), 2) := by decide +kernel
theorem dX11_load_255 : decode cX11_load 255 = .ok (.ireturn, 1) := by decide +kernel
theorem dX11_told_0 : decode cX11_told 0 = .ok (.iconst 0, 1) := by decide +kernel
theorem dX11_told_1 : decode cX11_told 1 = .ok (.istore_n 2, 1) := by decide +kernel
theorem dX11_told_2 : decode cX11_told 2 = .ok (.iload_n 1, 1) := by decide +kernel
theorem dX11_told_3 : decode cX11_told 3 = .ok (.tableswitch 125 0 9 #[53, 58, 63, 68, 73, 78, 83, 88, 93, 98], 53) := by decide +kernel
theorem dX11_told_56 : decode cX11_told 56 = .ok (.aload_n 0, 1) := by decide +kernel
theorem dX11_told_57 : decode cX11_told 57 = .ok (.getfield 98, 3) := by decide +kernel
theorem dX11_told_60 : decode cX11_told 60 = .ok (.ireturn, 1) := by decide +kernel
theorem dX11_told_61 : decode cX11_told 61 = .ok (.aload_n 0, 1) := by decide +kernel
theorem dX11_told_62 : decode cX11_told 62 = .ok (.getfield 113, 3) := by decide +kernel
theorem dX11_told_65 : decode cX11_told 65 = .ok (.ireturn, 1) := by decide +kernel
theorem dX11_told_66 : decode cX11_told 66 = .ok (.aload_n 0, 1) := by decide +kernel
theorem dX11_told_67 : decode cX11_told 67 = .ok (.getfield 136, 3) := by decide +kernel
theorem dX11_told_70 : decode cX11_told 70 = .ok (.ireturn, 1) := by decide +kernel
theorem dX11_told_71 : decode cX11_told 71 = .ok (.aload_n 0, 1) := by decide +kernel
theorem dX11_told_72 : decode cX11_told 72 = .ok (.invokevirtual 142, 3) := by decide +kernel
theorem dX11_told_75 : decode cX11_told 75 = .ok (.ireturn, 1) := by decide +kernel
theorem dX11_told_76 : decode cX11_told 76 = .ok (.aload_n 0, 1) := by decide +kernel
theorem dX11_told_77 : decode cX11_told 77 = .ok (.getfield 164, 3) := by decide +kernel
theorem dX11_told_80 : decode cX11_told 80 = .ok (.ireturn, 1) := by decide +kernel
theorem dX11_told_81 : decode cX11_told 81 = .ok (.aload_n 0, 1) := by decide +kernel
theorem dX11_told_82 : decode cX11_told 82 = .ok (.getfield 201, 3) := by decide +kernel
theorem dX11_told_85 : decode cX11_told 85 = .ok (.ireturn, 1) := by decide +kernel
theorem dX11_told_86 : decode cX11_told 86 = .ok (.aload_n 0, 1) := by decide +kernel
theorem dX11_told_87 : decode cX11_told 87 = .ok (.getfield 223, 3) := by decide +kernel
theorem dX11_told_90 : decode cX11_told 90 = .ok (.ireturn, 1) := by decide +kernel
theorem dX11_told_91 : decode cX11_told 91 = .ok (.aload_n 0, 1) := by decide +kernel
theorem dX11_told_92 : decode cX11_told 92 = .ok (.getfield 266, 3) := by decide +kernel
theorem dX11_told_95 : decode cX11_told 95 = .ok (.ireturn, 1) := by decide +kernel
theorem dX11_told_96 : decode cX11_told 96 = .ok (.aload_n 0, 1) := by decide +kernel
theorem dX11_told_97 : decode cX11_told 97 = .ok (.invokevirtual 257, 3) := by decide +kernel
theorem dX11_told_100 : decode cX11_told 100 = .ok (.ireturn, 1) := by decide +kernel
theorem dX11_told_101 : decode cX11_told 101 = .ok (.iconst 0, 1) := by decide +kernel
theorem dX11_told_102 : decode cX11_told 102 = .ok (.istore_n 3, 1) := by decide +kernel
theorem dX11_told_103 : decode cX11_told 103 = .ok (.iload_n 3, 1) := by decide +kernel
theorem dX11_told_104 : decode cX11_told 104 = .ok (.iconst 4, 1) := by decide +kernel
theorem dX11_told_105 : decode cX11_told 105 = .ok (.if_icmp .ge 21, 3) := by decide +kernel
theorem dX11_told_108 : decode cX11_told 108 = .ok (.aload_n 0, 1) := by decide +kernel
theorem dX11_told_109 : decode cX11_told 109 = .ok (.iload_n 3, 1) := by decide +kernel
theorem dX11_told_110 : decode cX11_told 110 = .ok (.invokevirtual 160, 3) := by decide +kernel
theorem dX11_told_113 : decode cX11_told 113 = .ok (.iload_n 2, 1) := by decide +kernel
theorem dX11_told_114 : decode cX11_told 114 = .ok (.aload_n 0, 1) := by decide +kernel
theorem dX11_told_115 : decode cX11_told 115 = .ok (.invokevirtual 182, 3) := by decide +kernel
theorem dX11_told_118 : decode cX11_told 118 = .ok (.iadd, 1) := by decide +kernel
theorem dX11_told_119 : decode cX11_told 119 = .ok (.istore_n 2, 1) := by decide +kernel
theorem dX11_told_120 : decode cX11_told 120 = .ok (.iinc 3 1, 3) := by decide +kernel
theorem dX11_told_123 : decode cX11_told 123 = .ok (.goto (-20), 3) := by decide +kernel
theorem dX11_told_126 : decode cX11_told 126 = .ok (.iload_n 2, 1) := by decide +kernel
theorem dX11_told_127 : decode cX11_told 127 = .ok (.ireturn, 1) := by decide +kernel
theorem dX11_told_128 : decode cX11_told 128 = .ok (.bipush (-2), 2) := by decide +kernel
theorem dX11_told_130 : decode cX11_told 130 = .ok (.ireturn, 1) := by decide +kernel
theorem dJ6_bitCount_0f7a4_0 : decode cJ6_bitCount_0f7a4 0 = .ok (.iload_n 0, 1) := by decide +kernel
theorem dJ6_bitCount_0f7a4_1 : decode cJ6_bitCount_0f7a4 1 = .ok (.iload_n 0, 1) := by decide +kernel
theorem dJ6_bitCount_0f7a4_2 : decode cJ6_bitCount_0f7a4 2 = .ok (.iconst 1, 1) := by decide +kernel
theorem dJ6_bitCount_0f7a4_3 : decode cJ6_bitCount_0f7a4 3 = .ok (.iushr, 1) := by decide +kernel
theorem dJ6_bitCount_0f7a4_4 : decode cJ6_bitCount_0f7a4 4 = .ok (.ldc_w 265, 3) := by decide +kernel
theorem dJ6_bitCount_0f7a4_7 : decode cJ6_bitCount_0f7a4 7 = .ok (.iand, 1) := by decide +kernel
theorem dJ6_bitCount_0f7a4_8 : decode cJ6_bitCount_0f7a4 8 = .ok (.isub, 1) := by decide +kernel
theorem dJ6_bitCount_0f7a4_9 : decode cJ6_bitCount_0f7a4 9 = .ok (.istore_n 0, 1) := by decide +kernel
theorem dJ6_bitCount_0f7a4_10 : decode cJ6_bitCount_0f7a4 10 = .ok (.iload_n 0, 1) := by decide +kernel
theorem dJ6_bitCount_0f7a4_11 : decode cJ6_bitCount_0f7a4 11 = .ok (.ldc_w 266, 3) := by decide +kernel
theorem dJ6_bitCount_0f7a4_14 : decode cJ6_bitCount_0f7a4 14 = .ok (.iand, 1) := by decide +kernel
theorem dJ6_bitCount_0f7a4_15 : decode cJ6_bitCount_0f7a4 15 = .ok (.iload_n 0, 1) := by decide +kernel
theorem dJ6_bitCount_0f7a4_16 : decode cJ6_bitCount_0f7a4 16 = .ok (.iconst 2, 1) := by decide +kernel
theorem dJ6_bitCount_0f7a4_17 : decode cJ6_bitCount_0f7a4 17 = .ok (.iushr, 1) := by decide +kernel
theorem dJ6_bitCount_0f7a4_18 : decode cJ6_bitCount_0f7a4 18 = .ok (.ldc_w 266, 3) := by decide +kernel
theorem dJ6_bitCount_0f7a4_21 : decode cJ6_bitCount_0f7a4 21 = .ok (.iand, 1) := by decide +kernel
theorem dJ6_bitCount_0f7a4_22 : decode cJ6_bitCount_0f7a4 22 = .ok (.iadd, 1) := by decide +kernel
theorem dJ6_bitCount_0f7a4_23 : decode cJ6_bitCount_0f7a4 23 = .ok (.istore_n 0, 1) := by decide +kernel
theorem dJ6_bitCount_0f7a4_24 : decode cJ6_bitCount_0f7a4 24 = .ok (.iload_n 0, 1) := by decide +kernel
theorem dJ6_bitCount_0f7a4_25 : decode cJ6_bitCount_0f7a4 25 = .ok (.iload_n 0, 1) := by decide +kernel
theorem dJ6_bitCount_0f7a4_26 : decode cJ6_bitCount_0f7a4 26 = .ok (.iconst 4, 1) := by decide +kernel
theorem dJ6_bitCount_0f7a4_27 : decode cJ6_bitCount_0f7a4 27 = .ok (.iushr, 1) := by decide +kernel
theorem dJ6_bitCount_0f7a4_28 : decode cJ6_bitCount_0f7a4 28 = .ok (.iadd, 1) := by decide +kernel
theorem dJ6_bitCount_0f7a4_29 : decode cJ6_bitCount_0f7a4 29 = .ok (.ldc_w 267, 3) := by decide +kernel
theorem dJ6_bitCount_0f7a4_32 : decode cJ6_bitCount_0f7a4 32 = .ok (.iand, 1) := by decide +kernel
theorem dJ6_bitCount_0f7a4_33 : decode cJ6_bitCount_0f7a4 33 = .ok (.istore_n 0, 1) := by decide +kernel
theorem dJ6_bitCount_0f7a4_34 : decode cJ6_bitCount_0f7a4 34 = .ok (.iload_n 0, 1) := by decide +kernel
theorem dJ6_bitCount_0f7a4_35 : decode cJ6_bitCount_0f7a4 35 = .ok (.iload_n 0, 1) := by decide +kernel
theorem dJ6_bitCount_0f7a4_36 : decode cJ6_bitCount_0f7a4 36 = .ok (.bipush 8, 2) := by decide +kernel
theorem dJ6_bitCount_0f7a4_38 : decode cJ6_bitCount_0f7a4 38 = .ok (.iushr, 1) := by decide +kernel
theorem dJ6_bitCount_0f7a4_39 : decode cJ6_bitCount_0f7a4 39 = .ok (.iadd, 1) := by decide +kernel
theorem dJ6_bitCount_0f7a4_40 : decode cJ6_bitCount_0f7a4 40 = .ok (.istore_n 0, 1) := by decide +kernel
theorem dJ6_bitCount_0f7a4_41 : decode cJ6_bitCount_0f7a4 41 = .ok (.iload_n 0, 1) := by decide +kernel
theorem dJ6_bitCount_0f7a4_42 : decode cJ6_bitCount_0f7a4 42 = .ok (.iload_n 0, 1) := by decide +kernel
theorem dJ6_bitCount_0f7a4_43 : decode cJ6_bitCount_0f7a4 43 = .ok (.bipush 16, 2) := by decide +kernel
theorem dJ6_bitCount_0f7a4_45 : decode cJ6_bitCount_0f7a4 45 = .ok (.iushr, 1) := by decide +kernel
theorem dJ6_bitCount_0f7a4_46 : decode cJ6_bitCount_0f7a4 46 = .ok (.iadd, 1) := by decide +kernel
theorem dJ6_bitCount_0f7a4_47 : decode cJ6_bitCount_0f7a4 47 = .ok (.istore_n 0, 1) := by decide +kernel
theorem dJ6_bitCount_0f7a4_48 : decode cJ6_bitCount_0f7a4 48 = .ok (.iload_n 0, 1) := by decide +kernel
theorem dJ6_bitCount_0f7a4_49 : decode cJ6_bitCount_0f7a4 49 = .ok (.bipush 63, 2) := by decide +kernel
theorem dJ6_bitCount_0f7a4_51 : decode cJ6_bitCount_0f7a4 51 = .ok (.iand, 1) := by decide +kernel
theorem dJ6_bitCount_0f7a4_52 : decode cJ6_bitCount_0f7a4 52 = .ok (.ireturn, 1) := by decide +kernel
theorem dJ9_max_7cf53_0 : decode cJ9_max_7cf53 0 = .ok (.iload_n 0, 1) := by decide +kernel
theorem dJ9_max_7cf53_1 : decode cJ9_max_7cf53 1 = .ok (.iload_n 1, 1) := by decide +kernel
theorem dJ9_max_7cf53_2 : decode cJ9_max_7cf53 2 = .ok (.if_icmp .lt 7, 3) := by decide +kernel
theorem dJ9_max_7cf53_5 : decode cJ9_max_7cf53 5 = .ok (.iload_n 0, 1) := by decide +kernel
theorem dJ9_max_7cf53_6 : decode cJ9_max_7cf53 6 = .ok (.goto 4, 3) := by decide +kernel
end
section
/-! decode rows, by program out of what TURN prints -/
theorem dJ9_max_7cf53_9 : decode cJ9_max_7cf53 9 = .ok (.iload_n 1, 1) := by decide +kernel
theorem dJ9_max_7cf53_10 : decode cJ9_max_7cf53 10 = .ok (.ireturn, 1) := by decide +kernel
theorem dJ9_min_7cf53_0 : decode cJ9_min_7cf53 0 = .ok (.iload_n 0, 1) := by decide +kernel
theorem dJ9_min_7cf53_1 : decode cJ9_min_7cf53 1 = .ok (.iload_n 1, 1) := by decide +kernel
theorem dJ9_min_7cf53_2 : decode cJ9_min_7cf53 2 = .ok (.if_icmp .gt 7, 3) := by decide +kernel
theorem dJ9_min_7cf53_5 : decode cJ9_min_7cf53 5 = .ok (.iload_n 0, 1) := by decide +kernel
theorem dJ9_min_7cf53_6 : decode cJ9_min_7cf53 6 = .ok (.goto 4, 3) := by decide +kernel
theorem dJ9_min_7cf53_9 : decode cJ9_min_7cf53 9 = .ok (.iload_n 1, 1) := by decide +kernel
theorem dJ9_min_7cf53_10 : decode cJ9_min_7cf53 10 = .ok (.ireturn, 1) := by decide +kernel
theorem dL_law_0 : decode cL_law 0 = .ok (.new 7, 3) := by decide +kernel
theorem dL_law_3 : decode cL_law 3 = .ok (.dup, 1) := by decide +kernel
theorem dL_law_4 : decode cL_law 4 = .ok (.invokespecial 9, 3) := by decide +kernel
theorem dL_law_7 : decode cL_law 7 = .ok (.astore_n 1, 1) := by decide +kernel
theorem dL_law_8 : decode cL_law 8 = .ok (.new 10, 3) := by decide +kernel
theorem dL_law_11 : decode cL_law 11 = .ok (.dup, 1) := by decide +kernel
theorem dL_law_12 : decode cL_law 12 = .ok (.invokespecial 12, 3) := by decide +kernel
theorem dL_law_15 : decode cL_law 15 = .ok (.astore_n 2, 1) := by decide +kernel
theorem dL_law_16 : decode cL_law 16 = .ok (.iconst 0, 1) := by decide +kernel
theorem dL_law_17 : decode cL_law 17 = .ok (.istore_n 3, 1) := by decide +kernel
theorem dL_law_18 : decode cL_law 18 = .ok (.iload_n 3, 1) := by decide +kernel
theorem dL_law_19 : decode cL_law 19 = .ok (.aload_n 0, 1) := by decide +kernel
theorem dL_law_20 : decode cL_law 20 = .ok (.arraylength, 1) := by decide +kernel
theorem dL_law_21 : decode cL_law 21 = .ok (.bipush 6, 2) := by decide +kernel
theorem dL_law_23 : decode cL_law 23 = .ok (.isub, 1) := by decide +kernel
theorem dL_law_24 : decode cL_law 24 = .ok (.if_icmp .gt 1330, 3) := by decide +kernel
theorem dL_law_27 : decode cL_law 27 = .ok (.aload_n 0, 1) := by decide +kernel
theorem dL_law_28 : decode cL_law 28 = .ok (.iload_n 3, 1) := by decide +kernel
theorem dL_law_29 : decode cL_law 29 = .ok (.iaload, 1) := by decide +kernel
theorem dL_law_30 : decode cL_law 30 = .ok (.bipush 31, 2) := by decide +kernel
theorem dL_law_32 : decode cL_law 32 = .ok (.iand, 1) := by decide +kernel
theorem dL_law_33 : decode cL_law 33 = .ok (.tableswitch 1315 0 31 #[143, 166, 179, 192, 215, 258, 291, 334, 367, 430, 463, 496, 549, 592, 645, 688, 757, 770, 793, 806, 839, 892, 935, 968, 1021, 1064, 1087, 1100, 1143, 1196, 1239, 1292], 143) := by decide +kernel
theorem dL_law_176 : decode cL_law 176 = .ok (.aload_n 1, 1) := by decide +kernel
theorem dL_law_177 : decode cL_law 177 = .ok (.aload_n 0, 1) := by decide +kernel
theorem dL_law_178 : decode cL_law 178 = .ok (.iload_n 3, 1) := by decide +kernel
theorem dL_law_179 : decode cL_law 179 = .ok (.iconst 1, 1) := by decide +kernel
theorem dL_law_180 : decode cL_law 180 = .ok (.iadd, 1) := by decide +kernel
theorem dL_law_181 : decode cL_law 181 = .ok (.iaload, 1) := by decide +kernel
theorem dL_law_182 : decode cL_law 182 = .ok (.invokevirtual 13, 3) := by decide +kernel
theorem dL_law_185 : decode cL_law 185 = .ok (.aload_n 2, 1) := by decide +kernel
theorem dL_law_186 : decode cL_law 186 = .ok (.aload_n 0, 1) := by decide +kernel
theorem dL_law_187 : decode cL_law 187 = .ok (.iload_n 3, 1) := by decide +kernel
theorem dL_law_188 : decode cL_law 188 = .ok (.iconst 1, 1) := by decide +kernel
theorem dL_law_189 : decode cL_law 189 = .ok (.iadd, 1) := by decide +kernel
theorem dL_law_190 : decode cL_law 190 = .ok (.iaload, 1) := by decide +kernel
theorem dL_law_191 : decode cL_law 191 = .ok (.invokevirtual 17, 3) := by decide +kernel
theorem dL_law_194 : decode cL_law 194 = .ok (.if_icmp .eq 1154, 3) := by decide +kernel
theorem dL_law_197 : decode cL_law 197 = .ok (.iconst 0, 1) := by decide +kernel
theorem dL_law_198 : decode cL_law 198 = .ok (.ireturn, 1) := by decide +kernel
theorem dL_law_199 : decode cL_law 199 = .ok (.aload_n 1, 1) := by decide +kernel
theorem dL_law_200 : decode cL_law 200 = .ok (.invokevirtual 18, 3) := by decide +kernel
theorem dL_law_203 : decode cL_law 203 = .ok (.aload_n 2, 1) := by decide +kernel
theorem dL_law_204 : decode cL_law 204 = .ok (.invokevirtual 22, 3) := by decide +kernel
theorem dL_law_207 : decode cL_law 207 = .ok (.if_icmp .eq 1141, 3) := by decide +kernel
theorem dL_law_210 : decode cL_law 210 = .ok (.iconst 0, 1) := by decide +kernel
theorem dL_law_211 : decode cL_law 211 = .ok (.ireturn, 1) := by decide +kernel
theorem dL_law_212 : decode cL_law 212 = .ok (.aload_n 1, 1) := by decide +kernel
theorem dL_law_213 : decode cL_law 213 = .ok (.invokevirtual 23, 3) := by decide +kernel
theorem dL_law_216 : decode cL_law 216 = .ok (.aload_n 2, 1) := by decide +kernel
theorem dL_law_217 : decode cL_law 217 = .ok (.invokevirtual 26, 3) := by decide +kernel
theorem dL_law_220 : decode cL_law 220 = .ok (.if_icmp .eq 1128, 3) := by decide +kernel
theorem dL_law_223 : decode cL_law 223 = .ok (.iconst 0, 1) := by decide +kernel
theorem dL_law_224 : decode cL_law 224 = .ok (.ireturn, 1) := by decide +kernel
theorem dL_law_225 : decode cL_law 225 = .ok (.aload_n 1, 1) := by decide +kernel
theorem dL_law_226 : decode cL_law 226 = .ok (.aload_n 0, 1) := by decide +kernel
theorem dL_law_227 : decode cL_law 227 = .ok (.iload_n 3, 1) := by decide +kernel
theorem dL_law_228 : decode cL_law 228 = .ok (.iconst 1, 1) := by decide +kernel
theorem dL_law_229 : decode cL_law 229 = .ok (.iadd, 1) := by decide +kernel
theorem dL_law_230 : decode cL_law 230 = .ok (.iaload, 1) := by decide +kernel
theorem dL_law_231 : decode cL_law 231 = .ok (.invokevirtual 27, 3) := by decide +kernel
theorem dL_law_234 : decode cL_law 234 = .ok (.aload_n 2, 1) := by decide +kernel
theorem dL_law_235 : decode cL_law 235 = .ok (.aload_n 0, 1) := by decide +kernel
theorem dL_law_236 : decode cL_law 236 = .ok (.iload_n 3, 1) := by decide +kernel
theorem dL_law_237 : decode cL_law 237 = .ok (.iconst 1, 1) := by decide +kernel
theorem dL_law_238 : decode cL_law 238 = .ok (.iadd, 1) := by decide +kernel
theorem dL_law_239 : decode cL_law 239 = .ok (.iaload, 1) := by decide +kernel
theorem dL_law_240 : decode cL_law 240 = .ok (.invokevirtual 30, 3) := by decide +kernel
theorem dL_law_243 : decode cL_law 243 = .ok (.if_icmp .eq 1105, 3) := by decide +kernel
theorem dL_law_246 : decode cL_law 246 = .ok (.iconst 0, 1) := by decide +kernel
theorem dL_law_247 : decode cL_law 247 = .ok (.ireturn, 1) := by decide +kernel
theorem dL_law_248 : decode cL_law 248 = .ok (.aload_n 1, 1) := by decide +kernel
theorem dL_law_249 : decode cL_law 249 = .ok (.aload_n 0, 1) := by decide +kernel
theorem dL_law_250 : decode cL_law 250 = .ok (.iload_n 3, 1) := by decide +kernel
theorem dL_law_251 : decode cL_law 251 = .ok (.iconst 1, 1) := by decide +kernel
theorem dL_law_252 : decode cL_law 252 = .ok (.iadd, 1) := by decide +kernel
theorem dL_law_253 : decode cL_law 253 = .ok (.iaload, 1) := by decide +kernel
theorem dL_law_254 : decode cL_law 254 = .ok (.aload_n 0, 1) := by decide +kernel
theorem dL_law_255 : decode cL_law 255 = .ok (.iload_n 3, 1) := by decide +kernel
theorem dL_law_256 : decode cL_law 256 = .ok (.iconst 2, 1) := by decide +kernel
theorem dL_law_257 : decode cL_law 257 = .ok (.iadd, 1) := by decide +kernel
theorem dL_law_258 : decode cL_law 258 = .ok (.iaload, 1) := by decide +kernel
theorem dL_law_259 : decode cL_law 259 = .ok (.aload_n 0, 1) := by decide +kernel
theorem dL_law_260 : decode cL_law 260 = .ok (.iload_n 3, 1) := by decide +kernel
theorem dL_law_261 : decode cL_law 261 = .ok (.iconst 3, 1) := by decide +kernel
theorem dL_law_262 : decode cL_law 262 = .ok (.iadd, 1) := by decide +kernel
theorem dL_law_263 : decode cL_law 263 = .ok (.iaload, 1) := by decide +kernel
theorem dL_law_264 : decode cL_law 264 = .ok (.invokevirtual 31, 3) := by decide +kernel
theorem dL_law_267 : decode cL_law 267 = .ok (.aload_n 2, 1) := by decide +kernel
theorem dL_law_268 : decode cL_law 268 = .ok (.aload_n 0, 1) := by decide +kernel
theorem dL_law_269 : decode cL_law 269 = .ok (.iload_n 3, 1) := by decide +kernel
theorem dL_law_270 : decode cL_law 270 = .ok (.iconst 1, 1) := by decide +kernel
theorem dL_law_271 : decode cL_law 271 = .ok (.iadd, 1) := by decide +kernel
theorem dL_law_272 : decode cL_law 272 = .ok (.iaload, 1) := by decide +kernel
theorem dL_law_273 : decode cL_law 273 = .ok (.aload_n 0, 1) := by decide +kernel
theorem dL_law_274 : decode cL_law 274 = .ok (.iload_n 3, 1) := by decide +kernel
theorem dL_law_275 : decode cL_law 275 = .ok (.iconst 2, 1) := by decide +kernel
theorem dL_law_276 : decode cL_law 276 = .ok (.iadd, 1) := by decide +kernel
theorem dL_law_277 : decode cL_law 277 = .ok (.iaload, 1) := by decide +kernel
theorem dL_law_278 : decode cL_law 278 = .ok (.aload_n 0, 1) := by decide +kernel
theorem dL_law_279 : decode cL_law 279 = .ok (.iload_n 3, 1) := by decide +kernel
theorem dL_law_280 : decode cL_law 280 = .ok (.iconst 3, 1) := by decide +kernel
theorem dL_law_281 : decode cL_law 281 = .ok (.iadd, 1) := by decide +kernel
theorem dL_law_282 : decode cL_law 282 = .ok (.iaload, 1) := by decide +kernel
theorem dL_law_283 : decode cL_law 283 = .ok (.invokevirtual 35, 3) := by decide +kernel
theorem dL_law_286 : decode cL_law 286 = .ok (.if_icmp .eq 1062, 3) := by decide +kernel
theorem dL_law_289 : decode cL_law 289 = .ok (.iconst 0, 1) := by decide +kernel
theorem dL_law_290 : decode cL_law 290 = .ok (.ireturn, 1) := by decide +kernel
theorem dL_law_291 : decode cL_law 291 = .ok (.aload_n 1, 1) := by decide +kernel
theorem dL_law_292 : decode cL_law 292 = .ok (.aload_n 0, 1) := by decide +kernel
theorem dL_law_293 : decode cL_law 293 = .ok (.iload_n 3, 1) := by decide +kernel
theorem dL_law_294 : decode cL_law 294 = .ok (.iconst 1, 1) := by decide +kernel
theorem dL_law_295 : decode cL_law 295 = .ok (.iadd, 1) := by decide +kernel
theorem dL_law_296 : decode cL_law 296 = .ok (.iaload, 1) := by decide +kernel
theorem dL_law_297 : decode cL_law 297 = .ok (.aload_n 0, 1) := by decide +kernel
theorem dL_law_298 : decode cL_law 298 = .ok (.iload_n 3, 1) := by decide +kernel
theorem dL_law_299 : decode cL_law 299 = .ok (.iconst 2, 1) := by decide +kernel
theorem dL_law_300 : decode cL_law 300 = .ok (.iadd, 1) := by decide +kernel
theorem dL_law_301 : decode cL_law 301 = .ok (.iaload, 1) := by decide +kernel
theorem dL_law_302 : decode cL_law 302 = .ok (.invokevirtual 36, 3) := by decide +kernel
theorem dL_law_305 : decode cL_law 305 = .ok (.aload_n 2, 1) := by decide +kernel
theorem dL_law_306 : decode cL_law 306 = .ok (.aload_n 0, 1) := by decide +kernel
theorem dL_law_307 : decode cL_law 307 = .ok (.iload_n 3, 1) := by decide +kernel
theorem dL_law_308 : decode cL_law 308 = .ok (.iconst 1, 1) := by decide +kernel
theorem dL_law_309 : decode cL_law 309 = .ok (.iadd, 1) := by decide +kernel
theorem dL_law_310 : decode cL_law 310 = .ok (.iaload, 1) := by decide +kernel
theorem dL_law_311 : decode cL_law 311 = .ok (.aload_n 0, 1) := by decide +kernel
theorem dL_law_312 : decode cL_law 312 = .ok (.iload_n 3, 1) := by decide +kernel
theorem dL_law_313 : decode cL_law 313 = .ok (.iconst 2, 1) := by decide +kernel
theorem dL_law_314 : decode cL_law 314 = .ok (.iadd, 1) := by decide +kernel
theorem dL_law_315 : decode cL_law 315 = .ok (.iaload, 1) := by decide +kernel
theorem dL_law_316 : decode cL_law 316 = .ok (.invokevirtual 40, 3) := by decide +kernel
theorem dL_law_319 : decode cL_law 319 = .ok (.if_icmp .eq 1029, 3) := by decide +kernel
theorem dL_law_322 : decode cL_law 322 = .ok (.iconst 0, 1) := by decide +kernel
theorem dL_law_323 : decode cL_law 323 = .ok (.ireturn, 1) := by decide +kernel
theorem dL_law_324 : decode cL_law 324 = .ok (.aload_n 1, 1) := by decide +kernel
theorem dL_law_325 : decode cL_law 325 = .ok (.aload_n 0, 1) := by decide +kernel
theorem dL_law_326 : decode cL_law 326 = .ok (.iload_n 3, 1) := by decide +kernel
theorem dL_law_327 : decode cL_law 327 = .ok (.iconst 1, 1) := by decide +kernel
theorem dL_law_328 : decode cL_law 328 = .ok (.iadd, 1) := by decide +kernel
theorem dL_law_329 : decode cL_law 329 = .ok (.iaload, 1) := by decide +kernel
theorem dL_law_330 : decode cL_law 330 = .ok (.aload_n 0, 1) := by decide +kernel
theorem dL_law_331 : decode cL_law 331 = .ok (.iload_n 3, 1) := by decide +kernel
theorem dL_law_332 : decode cL_law 332 = .ok (.iconst 2, 1) := by decide +kernel
theorem dL_law_333 : decode cL_law 333 = .ok (.iadd, 1) := by decide +kernel
theorem dL_law_334 : decode cL_law 334 = .ok (.iaload, 1) := by decide +kernel
theorem dL_law_335 : decode cL_law 335 = .ok (.aload_n 0, 1) := by decide +kernel
theorem dL_law_336 : decode cL_law 336 = .ok (.iload_n 3, 1) := by decide +kernel
theorem dL_law_337 : decode cL_law 337 = .ok (.iconst 3, 1) := by decide +kernel
theorem dL_law_338 : decode cL_law 338 = .ok (.iadd, 1) := by decide +kernel
theorem dL_law_339 : decode cL_law 339 = .ok (.iaload, 1) := by decide +kernel
theorem dL_law_340 : decode cL_law 340 = .ok (.invokevirtual 41, 3) := by decide +kernel
theorem dL_law_343 : decode cL_law 343 = .ok (.aload_n 2, 1) := by decide +kernel
theorem dL_law_344 : decode cL_law 344 = .ok (.aload_n 0, 1) := by decide +kernel
theorem dL_law_345 : decode cL_law 345 = .ok (.iload_n 3, 1) := by decide +kernel
theorem dL_law_346 : decode cL_law 346 = .ok (.iconst 1, 1) := by decide +kernel
theorem dL_law_347 : decode cL_law 347 = .ok (.iadd, 1) := by decide +kernel
theorem dL_law_348 : decode cL_law 348 = .ok (.iaload, 1) := by decide +kernel
theorem dL_law_349 : decode cL_law 349 = .ok (.aload_n 0, 1) := by decide +kernel
theorem dL_law_350 : decode cL_law 350 = .ok (.iload_n 3, 1) := by decide +kernel
theorem dL_law_351 : decode cL_law 351 = .ok (.iconst 2, 1) := by decide +kernel
theorem dL_law_352 : decode cL_law 352 = .ok (.iadd, 1) := by decide +kernel
theorem dL_law_353 : decode cL_law 353 = .ok (.iaload, 1) := by decide +kernel
theorem dL_law_354 : decode cL_law 354 = .ok (.aload_n 0, 1) := by decide +kernel
theorem dL_law_355 : decode cL_law 355 = .ok (.iload_n 3, 1) := by decide +kernel
theorem dL_law_356 : decode cL_law 356 = .ok (.iconst 3, 1) := by decide +kernel
theorem dL_law_357 : decode cL_law 357 = .ok (.iadd, 1) := by decide +kernel
theorem dL_law_358 : decode cL_law 358 = .ok (.iaload, 1) := by decide +kernel
theorem dL_law_359 : decode cL_law 359 = .ok (.invokevirtual 44, 3) := by decide +kernel
theorem dL_law_362 : decode cL_law 362 = .ok (.if_icmp .eq 986, 3) := by decide +kernel
theorem dL_law_365 : decode cL_law 365 = .ok (.iconst 0, 1) := by decide +kernel
theorem dL_law_366 : decode cL_law 366 = .ok (.ireturn, 1) := by decide +kernel
theorem dL_law_367 : decode cL_law 367 = .ok (.aload_n 1, 1) := by decide +kernel
theorem dL_law_368 : decode cL_law 368 = .ok (.aload_n 0, 1) := by decide +kernel
theorem dL_law_369 : decode cL_law 369 = .ok (.iload_n 3, 1) := by decide +kernel
theorem dL_law_370 : decode cL_law 370 = .ok (.iconst 1, 1) := by decide +kernel
theorem dL_law_371 : decode cL_law 371 = .ok (.iadd, 1) := by decide +kernel
theorem dL_law_372 : decode cL_law 372 = .ok (.iaload, 1) := by decide +kernel
theorem dL_law_373 : decode cL_law 373 = .ok (.aload_n 0, 1) := by decide +kernel
theorem dL_law_374 : decode cL_law 374 = .ok (.iload_n 3, 1) := by decide +kernel
theorem dL_law_375 : decode cL_law 375 = .ok (.iconst 2, 1) := by decide +kernel
theorem dL_law_376 : decode cL_law 376 = .ok (.iadd, 1) := by decide +kernel
theorem dL_law_377 : decode cL_law 377 = .ok (.iaload, 1) := by decide +kernel
theorem dL_law_378 : decode cL_law 378 = .ok (.invokevirtual 45, 3) := by decide +kernel
theorem dL_law_381 : decode cL_law 381 = .ok (.aload_n 2, 1) := by decide +kernel
theorem dL_law_382 : decode cL_law 382 = .ok (.aload_n 0, 1) := by decide +kernel
theorem dL_law_383 : decode cL_law 383 = .ok (.iload_n 3, 1) := by decide +kernel
theorem dL_law_384 : decode cL_law 384 = .ok (.iconst 1, 1) := by decide +kernel
theorem dL_law_385 : decode cL_law 385 = .ok (.iadd, 1) := by decide +kernel
theorem dL_law_386 : decode cL_law 386 = .ok (.iaload, 1) := by decide +kernel
theorem dL_law_387 : decode cL_law 387 = .ok (.aload_n 0, 1) := by decide +kernel
theorem dL_law_388 : decode cL_law 388 = .ok (.iload_n 3, 1) := by decide +kernel
theorem dL_law_389 : decode cL_law 389 = .ok (.iconst 2, 1) := by decide +kernel
theorem dL_law_390 : decode cL_law 390 = .ok (.iadd, 1) := by decide +kernel
theorem dL_law_391 : decode cL_law 391 = .ok (.iaload, 1) := by decide +kernel
theorem dL_law_392 : decode cL_law 392 = .ok (.invokevirtual 48, 3) := by decide +kernel
theorem dL_law_395 : decode cL_law 395 = .ok (.if_icmp .eq 953, 3) := by decide +kernel
theorem dL_law_398 : decode cL_law 398 = .ok (.iconst 0, 1) := by decide +kernel
theorem dL_law_399 : decode cL_law 399 = .ok (.ireturn, 1) := by decide +kernel
theorem dL_law_400 : decode cL_law 400 = .ok (.aload_n 1, 1) := by decide +kernel
theorem dL_law_401 : decode cL_law 401 = .ok (.aload_n 0, 1) := by decide +kernel
theorem dL_law_402 : decode cL_law 402 = .ok (.iload_n 3, 1) := by decide +kernel
theorem dL_law_403 : decode cL_law 403 = .ok (.iconst 1, 1) := by decide +kernel
theorem dL_law_404 : decode cL_law 404 = .ok (.iadd, 1) := by decide +kernel
theorem dL_law_405 : decode cL_law 405 = .ok (.iaload, 1) := by decide +kernel
theorem dL_law_406 : decode cL_law 406 = .ok (.aload_n 0, 1) := by decide +kernel
theorem dL_law_407 : decode cL_law 407 = .ok (.iload_n 3, 1) := by decide +kernel
theorem dL_law_408 : decode cL_law 408 = .ok (.iconst 2, 1) := by decide +kernel
theorem dL_law_409 : decode cL_law 409 = .ok (.iadd, 1) := by decide +kernel
theorem dL_law_410 : decode cL_law 410 = .ok (.iaload, 1) := by decide +kernel
theorem dL_law_411 : decode cL_law 411 = .ok (.aload_n 0, 1) := by decide +kernel
theorem dL_law_412 : decode cL_law 412 = .ok (.iload_n 3, 1) := by decide +kernel
theorem dL_law_413 : decode cL_law 413 = .ok (.iconst 3, 1) := by decide +kernel
theorem dL_law_414 : decode cL_law 414 = .ok (.iadd, 1) := by decide +kernel
theorem dL_law_415 : decode cL_law 415 = .ok (.iaload, 1) := by decide +kernel
theorem dL_law_416 : decode cL_law 416 = .ok (.aload_n 0, 1) := by decide +kernel
theorem dL_law_417 : decode cL_law 417 = .ok (.iload_n 3, 1) := by decide +kernel
theorem dL_law_418 : decode cL_law 418 = .ok (.iconst 4, 1) := by decide +kernel
theorem dL_law_419 : decode cL_law 419 = .ok (.iadd, 1) := by decide +kernel
theorem dL_law_420 : decode cL_law 420 = .ok (.iaload, 1) := by decide +kernel
theorem dL_law_421 : decode cL_law 421 = .ok (.aload_n 0, 1) := by decide +kernel
theorem dL_law_422 : decode cL_law 422 = .ok (.iload_n 3, 1) := by decide +kernel
theorem dL_law_423 : decode cL_law 423 = .ok (.iconst 5, 1) := by decide +kernel
theorem dL_law_424 : decode cL_law 424 = .ok (.iadd, 1) := by decide +kernel
theorem dL_law_425 : decode cL_law 425 = .ok (.iaload, 1) := by decide +kernel
theorem dL_law_426 : decode cL_law 426 = .ok (.invokevirtual 49, 3) := by decide +kernel
theorem dL_law_429 : decode cL_law 429 = .ok (.aload_n 2, 1) := by decide +kernel
theorem dL_law_430 : decode cL_law 430 = .ok (.aload_n 0, 1) := by decide +kernel
theorem dL_law_431 : decode cL_law 431 = .ok (.iload_n 3, 1) := by decide +kernel
theorem dL_law_432 : decode cL_law 432 = .ok (.iconst 1, 1) := by decide +kernel
theorem dL_law_433 : decode cL_law 433 = .ok (.iadd, 1) := by decide +kernel
theorem dL_law_434 : decode cL_law 434 = .ok (.iaload, 1) := by decide +kernel
theorem dL_law_435 : decode cL_law 435 = .ok (.aload_n 0, 1) := by decide +kernel
theorem dL_law_436 : decode cL_law 436 = .ok (.iload_n 3, 1) := by decide +kernel
theorem dL_law_437 : decode cL_law 437 = .ok (.iconst 2, 1) := by decide +kernel
theorem dL_law_438 : decode cL_law 438 = .ok (.iadd, 1) := by decide +kernel
theorem dL_law_439 : decode cL_law 439 = .ok (.iaload, 1) := by decide +kernel
theorem dL_law_440 : decode cL_law 440 = .ok (.aload_n 0, 1) := by decide +kernel
theorem dL_law_441 : decode cL_law 441 = .ok (.iload_n 3, 1) := by decide +kernel
theorem dL_law_442 : decode cL_law 442 = .ok (.iconst 3, 1) := by decide +kernel
theorem dL_law_443 : decode cL_law 443 = .ok (.iadd, 1) := by decide +kernel
theorem dL_law_444 : decode cL_law 444 = .ok (.iaload, 1) := by decide +kernel
theorem dL_law_445 : decode cL_law 445 = .ok (.aload_n 0, 1) := by decide +kernel
theorem dL_law_446 : decode cL_law 446 = .ok (.iload_n 3, 1) := by decide +kernel
theorem dL_law_447 : decode cL_law 447 = .ok (.iconst 4, 1) := by decide +kernel
theorem dL_law_448 : decode cL_law 448 = .ok (.iadd, 1) := by decide +kernel
theorem dL_law_449 : decode cL_law 449 = .ok (.iaload, 1) := by decide +kernel
theorem dL_law_450 : decode cL_law 450 = .ok (.aload_n 0, 1) := by decide +kernel
theorem dL_law_451 : decode cL_law 451 = .ok (.iload_n 3, 1) := by decide +kernel
theorem dL_law_452 : decode cL_law 452 = .ok (.iconst 5, 1) := by decide +kernel
theorem dL_law_453 : decode cL_law 453 = .ok (.iadd, 1) := by decide +kernel
theorem dL_law_454 : decode cL_law 454 = .ok (.iaload, 1) := by decide +kernel
theorem dL_law_455 : decode cL_law 455 = .ok (.invokevirtual 53, 3) := by decide +kernel
theorem dL_law_458 : decode cL_law 458 = .ok (.if_icmp .eq 890, 3) := by decide +kernel
theorem dL_law_461 : decode cL_law 461 = .ok (.iconst 0, 1) := by decide +kernel
theorem dL_law_462 : decode cL_law 462 = .ok (.ireturn, 1) := by decide +kernel
theorem dL_law_463 : decode cL_law 463 = .ok (.aload_n 1, 1) := by decide +kernel
theorem dL_law_464 : decode cL_law 464 = .ok (.aload_n 0, 1) := by decide +kernel
theorem dL_law_465 : decode cL_law 465 = .ok (.iload_n 3, 1) := by decide +kernel
theorem dL_law_466 : decode cL_law 466 = .ok (.iconst 1, 1) := by decide +kernel
theorem dL_law_467 : decode cL_law 467 = .ok (.iadd, 1) := by decide +kernel
theorem dL_law_468 : decode cL_law 468 = .ok (.iaload, 1) := by decide +kernel
theorem dL_law_469 : decode cL_law 469 = .ok (.aload_n 0, 1) := by decide +kernel
theorem dL_law_470 : decode cL_law 470 = .ok (.iload_n 3, 1) := by decide +kernel
theorem dL_law_471 : decode cL_law 471 = .ok (.iconst 2, 1) := by decide +kernel
theorem dL_law_472 : decode cL_law 472 = .ok (.iadd, 1) := by decide +kernel
theorem dL_law_473 : decode cL_law 473 = .ok (.iaload, 1) := by decide +kernel
theorem dL_law_474 : decode cL_law 474 = .ok (.invokevirtual 54, 3) := by decide +kernel
theorem dL_law_477 : decode cL_law 477 = .ok (.aload_n 2, 1) := by decide +kernel
theorem dL_law_478 : decode cL_law 478 = .ok (.aload_n 0, 1) := by decide +kernel
theorem dL_law_479 : decode cL_law 479 = .ok (.iload_n 3, 1) := by decide +kernel
theorem dL_law_480 : decode cL_law 480 = .ok (.iconst 1, 1) := by decide +kernel
theorem dL_law_481 : decode cL_law 481 = .ok (.iadd, 1) := by decide +kernel
theorem dL_law_482 : decode cL_law 482 = .ok (.iaload, 1) := by decide +kernel
theorem dL_law_483 : decode cL_law 483 = .ok (.aload_n 0, 1) := by decide +kernel
theorem dL_law_484 : decode cL_law 484 = .ok (.iload_n 3, 1) := by decide +kernel
theorem dL_law_485 : decode cL_law 485 = .ok (.iconst 2, 1) := by decide +kernel
theorem dL_law_486 : decode cL_law 486 = .ok (.iadd, 1) := by decide +kernel
theorem dL_law_487 : decode cL_law 487 = .ok (.iaload, 1) := by decide +kernel
theorem dL_law_488 : decode cL_law 488 = .ok (.invokevirtual 57, 3) := by decide +kernel
theorem dL_law_491 : decode cL_law 491 = .ok (.if_icmp .eq 857, 3) := by decide +kernel
theorem dL_law_494 : decode cL_law 494 = .ok (.iconst 0, 1) := by decide +kernel
theorem dL_law_495 : decode cL_law 495 = .ok (.ireturn, 1) := by decide +kernel
theorem dL_law_496 : decode cL_law 496 = .ok (.aload_n 1, 1) := by decide +kernel
theorem dL_law_497 : decode cL_law 497 = .ok (.aload_n 0, 1) := by decide +kernel
theorem dL_law_498 : decode cL_law 498 = .ok (.iload_n 3, 1) := by decide +kernel
theorem dL_law_499 : decode cL_law 499 = .ok (.iconst 1, 1) := by decide +kernel
theorem dL_law_500 : decode cL_law 500 = .ok (.iadd, 1) := by decide +kernel
theorem dL_law_501 : decode cL_law 501 = .ok (.iaload, 1) := by decide +kernel
theorem dL_law_502 : decode cL_law 502 = .ok (.aload_n 0, 1) := by decide +kernel
theorem dL_law_503 : decode cL_law 503 = .ok (.iload_n 3, 1) := by decide +kernel
theorem dL_law_504 : decode cL_law 504 = .ok (.iconst 2, 1) := by decide +kernel
theorem dL_law_505 : decode cL_law 505 = .ok (.iadd, 1) := by decide +kernel
theorem dL_law_506 : decode cL_law 506 = .ok (.iaload, 1) := by decide +kernel
theorem dL_law_507 : decode cL_law 507 = .ok (.invokevirtual 58, 3) := by decide +kernel
theorem dL_law_510 : decode cL_law 510 = .ok (.aload_n 2, 1) := by decide +kernel
theorem dL_law_511 : decode cL_law 511 = .ok (.aload_n 0, 1) := by decide +kernel
theorem dL_law_512 : decode cL_law 512 = .ok (.iload_n 3, 1) := by decide +kernel
theorem dL_law_513 : decode cL_law 513 = .ok (.iconst 1, 1) := by decide +kernel
theorem dL_law_514 : decode cL_law 514 = .ok (.iadd, 1) := by decide +kernel
theorem dL_law_515 : decode cL_law 515 = .ok (.iaload, 1) := by decide +kernel
theorem dL_law_516 : decode cL_law 516 = .ok (.aload_n 0, 1) := by decide +kernel
theorem dL_law_517 : decode cL_law 517 = .ok (.iload_n 3, 1) := by decide +kernel
theorem dL_law_518 : decode cL_law 518 = .ok (.iconst 2, 1) := by decide +kernel
theorem dL_law_519 : decode cL_law 519 = .ok (.iadd, 1) := by decide +kernel
theorem dL_law_520 : decode cL_law 520 = .ok (.iaload, 1) := by decide +kernel
theorem dL_law_521 : decode cL_law 521 = .ok (.invokevirtual 61, 3) := by decide +kernel
theorem dL_law_524 : decode cL_law 524 = .ok (.if_icmp .eq 824, 3) := by decide +kernel
theorem dL_law_527 : decode cL_law 527 = .ok (.iconst 0, 1) := by decide +kernel
theorem dL_law_528 : decode cL_law 528 = .ok (.ireturn, 1) := by decide +kernel
theorem dL_law_529 : decode cL_law 529 = .ok (.aload_n 1, 1) := by decide +kernel
theorem dL_law_530 : decode cL_law 530 = .ok (.aload_n 0, 1) := by decide +kernel
theorem dL_law_531 : decode cL_law 531 = .ok (.iload_n 3, 1) := by decide +kernel
theorem dL_law_532 : decode cL_law 532 = .ok (.iconst 1, 1) := by decide +kernel
theorem dL_law_533 : decode cL_law 533 = .ok (.iadd, 1) := by decide +kernel
theorem dL_law_534 : decode cL_law 534 = .ok (.iaload, 1) := by decide +kernel
theorem dL_law_535 : decode cL_law 535 = .ok (.aload_n 0, 1) := by decide +kernel
theorem dL_law_536 : decode cL_law 536 = .ok (.iload_n 3, 1) := by decide +kernel
theorem dL_law_537 : decode cL_law 537 = .ok (.iconst 2, 1) := by decide +kernel
theorem dL_law_538 : decode cL_law 538 = .ok (.iadd, 1) := by decide +kernel
theorem dL_law_539 : decode cL_law 539 = .ok (.iaload, 1) := by decide +kernel
theorem dL_law_540 : decode cL_law 540 = .ok (.aload_n 0, 1) := by decide +kernel
theorem dL_law_541 : decode cL_law 541 = .ok (.iload_n 3, 1) := by decide +kernel
theorem dL_law_542 : decode cL_law 542 = .ok (.iconst 3, 1) := by decide +kernel
theorem dL_law_543 : decode cL_law 543 = .ok (.iadd, 1) := by decide +kernel
theorem dL_law_544 : decode cL_law 544 = .ok (.iaload, 1) := by decide +kernel
theorem dL_law_545 : decode cL_law 545 = .ok (.aload_n 0, 1) := by decide +kernel
theorem dL_law_546 : decode cL_law 546 = .ok (.iload_n 3, 1) := by decide +kernel
theorem dL_law_547 : decode cL_law 547 = .ok (.iconst 4, 1) := by decide +kernel
theorem dL_law_548 : decode cL_law 548 = .ok (.iadd, 1) := by decide +kernel
theorem dL_law_549 : decode cL_law 549 = .ok (.iaload, 1) := by decide +kernel
theorem dL_law_550 : decode cL_law 550 = .ok (.invokevirtual 62, 3) := by decide +kernel
theorem dL_law_553 : decode cL_law 553 = .ok (.aload_n 2, 1) := by decide +kernel
theorem dL_law_554 : decode cL_law 554 = .ok (.aload_n 0, 1) := by decide +kernel
theorem dL_law_555 : decode cL_law 555 = .ok (.iload_n 3, 1) := by decide +kernel
theorem dL_law_556 : decode cL_law 556 = .ok (.iconst 1, 1) := by decide +kernel
theorem dL_law_557 : decode cL_law 557 = .ok (.iadd, 1) := by decide +kernel
theorem dL_law_558 : decode cL_law 558 = .ok (.iaload, 1) := by decide +kernel
theorem dL_law_559 : decode cL_law 559 = .ok (.aload_n 0, 1) := by decide +kernel
theorem dL_law_560 : decode cL_law 560 = .ok (.iload_n 3, 1) := by decide +kernel
theorem dL_law_561 : decode cL_law 561 = .ok (.iconst 2, 1) := by decide +kernel
theorem dL_law_562 : decode cL_law 562 = .ok (.iadd, 1) := by decide +kernel
theorem dL_law_563 : decode cL_law 563 = .ok (.iaload, 1) := by decide +kernel
theorem dL_law_564 : decode cL_law 564 = .ok (.aload_n 0, 1) := by decide +kernel
theorem dL_law_565 : decode cL_law 565 = .ok (.iload_n 3, 1) := by decide +kernel
theorem dL_law_566 : decode cL_law 566 = .ok (.iconst 3, 1) := by decide +kernel
theorem dL_law_567 : decode cL_law 567 = .ok (.iadd, 1) := by decide +kernel
theorem dL_law_568 : decode cL_law 568 = .ok (.iaload, 1) := by decide +kernel
theorem dL_law_569 : decode cL_law 569 = .ok (.aload_n 0, 1) := by decide +kernel
theorem dL_law_570 : decode cL_law 570 = .ok (.iload_n 3, 1) := by decide +kernel
theorem dL_law_571 : decode cL_law 571 = .ok (.iconst 4, 1) := by decide +kernel
theorem dL_law_572 : decode cL_law 572 = .ok (.iadd, 1) := by decide +kernel
theorem dL_law_573 : decode cL_law 573 = .ok (.iaload, 1) := by decide +kernel
theorem dL_law_574 : decode cL_law 574 = .ok (.invokevirtual 66, 3) := by decide +kernel
theorem dL_law_577 : decode cL_law 577 = .ok (.if_icmp .eq 771, 3) := by decide +kernel
theorem dL_law_580 : decode cL_law 580 = .ok (.iconst 0, 1) := by decide +kernel
theorem dL_law_581 : decode cL_law 581 = .ok (.ireturn, 1) := by decide +kernel
theorem dL_law_582 : decode cL_law 582 = .ok (.aload_n 1, 1) := by decide +kernel
theorem dL_law_583 : decode cL_law 583 = .ok (.aload_n 0, 1) := by decide +kernel
theorem dL_law_584 : decode cL_law 584 = .ok (.iload_n 3, 1) := by decide +kernel
theorem dL_law_585 : decode cL_law 585 = .ok (.iconst 1, 1) := by decide +kernel
theorem dL_law_586 : decode cL_law 586 = .ok (.iadd, 1) := by decide +kernel
theorem dL_law_587 : decode cL_law 587 = .ok (.iaload, 1) := by decide +kernel
theorem dL_law_588 : decode cL_law 588 = .ok (.aload_n 0, 1) := by decide +kernel
theorem dL_law_589 : decode cL_law 589 = .ok (.iload_n 3, 1) := by decide +kernel
theorem dL_law_590 : decode cL_law 590 = .ok (.iconst 2, 1) := by decide +kernel
theorem dL_law_591 : decode cL_law 591 = .ok (.iadd, 1) := by decide +kernel
theorem dL_law_592 : decode cL_law 592 = .ok (.iaload, 1) := by decide +kernel
theorem dL_law_593 : decode cL_law 593 = .ok (.aload_n 0, 1) := by decide +kernel
theorem dL_law_594 : decode cL_law 594 = .ok (.iload_n 3, 1) := by decide +kernel
theorem dL_law_595 : decode cL_law 595 = .ok (.iconst 3, 1) := by decide +kernel
theorem dL_law_596 : decode cL_law 596 = .ok (.iadd, 1) := by decide +kernel
theorem dL_law_597 : decode cL_law 597 = .ok (.iaload, 1) := by decide +kernel
theorem dL_law_598 : decode cL_law 598 = .ok (.invokevirtual 67, 3) := by decide +kernel
theorem dL_law_601 : decode cL_law 601 = .ok (.aload_n 2, 1) := by decide +kernel
theorem dL_law_602 : decode cL_law 602 = .ok (.aload_n 0, 1) := by decide +kernel
theorem dL_law_603 : decode cL_law 603 = .ok (.iload_n 3, 1) := by decide +kernel
theorem dL_law_604 : decode cL_law 604 = .ok (.iconst 1, 1) := by decide +kernel
theorem dL_law_605 : decode cL_law 605 = .ok (.iadd, 1) := by decide +kernel
theorem dL_law_606 : decode cL_law 606 = .ok (.iaload, 1) := by decide +kernel
theorem dL_law_607 : decode cL_law 607 = .ok (.aload_n 0, 1) := by decide +kernel
theorem dL_law_608 : decode cL_law 608 = .ok (.iload_n 3, 1) := by decide +kernel
theorem dL_law_609 : decode cL_law 609 = .ok (.iconst 2, 1) := by decide +kernel
theorem dL_law_610 : decode cL_law 610 = .ok (.iadd, 1) := by decide +kernel
theorem dL_law_611 : decode cL_law 611 = .ok (.iaload, 1) := by decide +kernel
theorem dL_law_612 : decode cL_law 612 = .ok (.aload_n 0, 1) := by decide +kernel
theorem dL_law_613 : decode cL_law 613 = .ok (.iload_n 3, 1) := by decide +kernel
theorem dL_law_614 : decode cL_law 614 = .ok (.iconst 3, 1) := by decide +kernel
theorem dL_law_615 : decode cL_law 615 = .ok (.iadd, 1) := by decide +kernel
theorem dL_law_616 : decode cL_law 616 = .ok (.iaload, 1) := by decide +kernel
theorem dL_law_617 : decode cL_law 617 = .ok (.invokevirtual 70, 3) := by decide +kernel
theorem dL_law_620 : decode cL_law 620 = .ok (.if_icmp .eq 728, 3) := by decide +kernel
theorem dL_law_623 : decode cL_law 623 = .ok (.iconst 0, 1) := by decide +kernel
theorem dL_law_624 : decode cL_law 624 = .ok (.ireturn, 1) := by decide +kernel
theorem dL_law_625 : decode cL_law 625 = .ok (.aload_n 1, 1) := by decide +kernel
theorem dL_law_626 : decode cL_law 626 = .ok (.aload_n 0, 1) := by decide +kernel
theorem dL_law_627 : decode cL_law 627 = .ok (.iload_n 3, 1) := by decide +kernel
theorem dL_law_628 : decode cL_law 628 = .ok (.iconst 1, 1) := by decide +kernel
theorem dL_law_629 : decode cL_law 629 = .ok (.iadd, 1) := by decide +kernel
theorem dL_law_630 : decode cL_law 630 = .ok (.iaload, 1) := by decide +kernel
theorem dL_law_631 : decode cL_law 631 = .ok (.aload_n 0, 1) := by decide +kernel
theorem dL_law_632 : decode cL_law 632 = .ok (.iload_n 3, 1) := by decide +kernel
theorem dL_law_633 : decode cL_law 633 = .ok (.iconst 2, 1) := by decide +kernel
theorem dL_law_634 : decode cL_law 634 = .ok (.iadd, 1) := by decide +kernel
theorem dL_law_635 : decode cL_law 635 = .ok (.iaload, 1) := by decide +kernel
theorem dL_law_636 : decode cL_law 636 = .ok (.aload_n 0, 1) := by decide +kernel
theorem dL_law_637 : decode cL_law 637 = .ok (.iload_n 3, 1) := by decide +kernel
theorem dL_law_638 : decode cL_law 638 = .ok (.iconst 3, 1) := by decide +kernel
theorem dL_law_639 : decode cL_law 639 = .ok (.iadd, 1) := by decide +kernel
theorem dL_law_640 : decode cL_law 640 = .ok (.iaload, 1) := by decide +kernel
theorem dL_law_641 : decode cL_law 641 = .ok (.aload_n 0, 1) := by decide +kernel
theorem dL_law_642 : decode cL_law 642 = .ok (.iload_n 3, 1) := by decide +kernel
theorem dL_law_643 : decode cL_law 643 = .ok (.iconst 4, 1) := by decide +kernel
theorem dL_law_644 : decode cL_law 644 = .ok (.iadd, 1) := by decide +kernel
theorem dL_law_645 : decode cL_law 645 = .ok (.iaload, 1) := by decide +kernel
theorem dL_law_646 : decode cL_law 646 = .ok (.invokevirtual 71, 3) := by decide +kernel
theorem dL_law_649 : decode cL_law 649 = .ok (.aload_n 2, 1) := by decide +kernel
theorem dL_law_650 : decode cL_law 650 = .ok (.aload_n 0, 1) := by decide +kernel
theorem dL_law_651 : decode cL_law 651 = .ok (.iload_n 3, 1) := by decide +kernel
theorem dL_law_652 : decode cL_law 652 = .ok (.iconst 1, 1) := by decide +kernel
theorem dL_law_653 : decode cL_law 653 = .ok (.iadd, 1) := by decide +kernel
theorem dL_law_654 : decode cL_law 654 = .ok (.iaload, 1) := by decide +kernel
theorem dL_law_655 : decode cL_law 655 = .ok (.aload_n 0, 1) := by decide +kernel
theorem dL_law_656 : decode cL_law 656 = .ok (.iload_n 3, 1) := by decide +kernel
theorem dL_law_657 : decode cL_law 657 = .ok (.iconst 2, 1) := by decide +kernel
theorem dL_law_658 : decode cL_law 658 = .ok (.iadd, 1) := by decide +kernel
theorem dL_law_659 : decode cL_law 659 = .ok (.iaload, 1) := by decide +kernel
theorem dL_law_660 : decode cL_law 660 = .ok (.aload_n 0, 1) := by decide +kernel
theorem dL_law_661 : decode cL_law 661 = .ok (.iload_n 3, 1) := by decide +kernel
theorem dL_law_662 : decode cL_law 662 = .ok (.iconst 3, 1) := by decide +kernel
theorem dL_law_663 : decode cL_law 663 = .ok (.iadd, 1) := by decide +kernel
theorem dL_law_664 : decode cL_law 664 = .ok (.iaload, 1) := by decide +kernel
theorem dL_law_665 : decode cL_law 665 = .ok (.aload_n 0, 1) := by decide +kernel
theorem dL_law_666 : decode cL_law 666 = .ok (.iload_n 3, 1) := by decide +kernel
theorem dL_law_667 : decode cL_law 667 = .ok (.iconst 4, 1) := by decide +kernel
theorem dL_law_668 : decode cL_law 668 = .ok (.iadd, 1) := by decide +kernel
theorem dL_law_669 : decode cL_law 669 = .ok (.iaload, 1) := by decide +kernel
theorem dL_law_670 : decode cL_law 670 = .ok (.invokevirtual 74, 3) := by decide +kernel
theorem dL_law_673 : decode cL_law 673 = .ok (.if_icmp .eq 675, 3) := by decide +kernel
theorem dL_law_676 : decode cL_law 676 = .ok (.iconst 0, 1) := by decide +kernel
theorem dL_law_677 : decode cL_law 677 = .ok (.ireturn, 1) := by decide +kernel
theorem dL_law_678 : decode cL_law 678 = .ok (.aload_n 1, 1) := by decide +kernel
theorem dL_law_679 : decode cL_law 679 = .ok (.aload_n 0, 1) := by decide +kernel
theorem dL_law_680 : decode cL_law 680 = .ok (.iload_n 3, 1) := by decide +kernel
theorem dL_law_681 : decode cL_law 681 = .ok (.iconst 1, 1) := by decide +kernel
theorem dL_law_682 : decode cL_law 682 = .ok (.iadd, 1) := by decide +kernel
theorem dL_law_683 : decode cL_law 683 = .ok (.iaload, 1) := by decide +kernel
theorem dL_law_684 : decode cL_law 684 = .ok (.aload_n 0, 1) := by decide +kernel
theorem dL_law_685 : decode cL_law 685 = .ok (.iload_n 3, 1) := by decide +kernel
theorem dL_law_686 : decode cL_law 686 = .ok (.iconst 2, 1) := by decide +kernel
theorem dL_law_687 : decode cL_law 687 = .ok (.iadd, 1) := by decide +kernel
theorem dL_law_688 : decode cL_law 688 = .ok (.iaload, 1) := by decide +kernel
theorem dL_law_689 : decode cL_law 689 = .ok (.aload_n 0, 1) := by decide +kernel
theorem dL_law_690 : decode cL_law 690 = .ok (.iload_n 3, 1) := by decide +kernel
theorem dL_law_691 : decode cL_law 691 = .ok (.iconst 3, 1) := by decide +kernel
theorem dL_law_692 : decode cL_law 692 = .ok (.iadd, 1) := by decide +kernel
theorem dL_law_693 : decode cL_law 693 = .ok (.iaload, 1) := by decide +kernel
theorem dL_law_694 : decode cL_law 694 = .ok (.invokevirtual 75, 3) := by decide +kernel
theorem dL_law_697 : decode cL_law 697 = .ok (.aload_n 2, 1) := by decide +kernel
theorem dL_law_698 : decode cL_law 698 = .ok (.aload_n 0, 1) := by decide +kernel
theorem dL_law_699 : decode cL_law 699 = .ok (.iload_n 3, 1) := by decide +kernel
theorem dL_law_700 : decode cL_law 700 = .ok (.iconst 1, 1) := by decide +kernel
theorem dL_law_701 : decode cL_law 701 = .ok (.iadd, 1) := by decide +kernel
theorem dL_law_702 : decode cL_law 702 = .ok (.iaload, 1) := by decide +kernel
theorem dL_law_703 : decode cL_law 703 = .ok (.aload_n 0, 1) := by decide +kernel
theorem dL_law_704 : decode cL_law 704 = .ok (.iload_n 3, 1) := by decide +kernel
theorem dL_law_705 : decode cL_law 705 = .ok (.iconst 2, 1) := by decide +kernel
theorem dL_law_706 : decode cL_law 706 = .ok (.iadd, 1) := by decide +kernel
theorem dL_law_707 : decode cL_law 707 = .ok (.iaload, 1) := by decide +kernel
theorem dL_law_708 : decode cL_law 708 = .ok (.aload_n 0, 1) := by decide +kernel
theorem dL_law_709 : decode cL_law 709 = .ok (.iload_n 3, 1) := by decide +kernel
theorem dL_law_710 : decode cL_law 710 = .ok (.iconst 3, 1) := by decide +kernel
theorem dL_law_711 : decode cL_law 711 = .ok (.iadd, 1) := by decide +kernel
theorem dL_law_712 : decode cL_law 712 = .ok (.iaload, 1) := by decide +kernel
theorem dL_law_713 : decode cL_law 713 = .ok (.invokevirtual 78, 3) := by decide +kernel
theorem dL_law_716 : decode cL_law 716 = .ok (.if_icmp .eq 632, 3) := by decide +kernel
theorem dL_law_719 : decode cL_law 719 = .ok (.iconst 0, 1) := by decide +kernel
theorem dL_law_720 : decode cL_law 720 = .ok (.ireturn, 1) := by decide +kernel
theorem dL_law_721 : decode cL_law 721 = .ok (.aload_n 1, 1) := by decide +kernel
theorem dL_law_722 : decode cL_law 722 = .ok (.aload_n 0, 1) := by decide +kernel
theorem dL_law_723 : decode cL_law 723 = .ok (.iload_n 3, 1) := by decide +kernel
theorem dL_law_724 : decode cL_law 724 = .ok (.iconst 1, 1) := by decide +kernel
theorem dL_law_725 : decode cL_law 725 = .ok (.iadd, 1) := by decide +kernel
theorem dL_law_726 : decode cL_law 726 = .ok (.iaload, 1) := by decide +kernel
theorem dL_law_727 : decode cL_law 727 = .ok (.aload_n 0, 1) := by decide +kernel
theorem dL_law_728 : decode cL_law 728 = .ok (.iload_n 3, 1) := by decide +kernel
theorem dL_law_729 : decode cL_law 729 = .ok (.iconst 2, 1) := by decide +kernel
theorem dL_law_730 : decode cL_law 730 = .ok (.iadd, 1) := by decide +kernel
theorem dL_law_731 : decode cL_law 731 = .ok (.iaload, 1) := by decide +kernel
theorem dL_law_732 : decode cL_law 732 = .ok (.aload_n 0, 1) := by decide +kernel
theorem dL_law_733 : decode cL_law 733 = .ok (.iload_n 3, 1) := by decide +kernel
theorem dL_law_734 : decode cL_law 734 = .ok (.iconst 3, 1) := by decide +kernel
theorem dL_law_735 : decode cL_law 735 = .ok (.iadd, 1) := by decide +kernel
theorem dL_law_736 : decode cL_law 736 = .ok (.iaload, 1) := by decide +kernel
theorem dL_law_737 : decode cL_law 737 = .ok (.aload_n 0, 1) := by decide +kernel
theorem dL_law_738 : decode cL_law 738 = .ok (.iload_n 3, 1) := by decide +kernel
theorem dL_law_739 : decode cL_law 739 = .ok (.iconst 4, 1) := by decide +kernel
theorem dL_law_740 : decode cL_law 740 = .ok (.iadd, 1) := by decide +kernel
theorem dL_law_741 : decode cL_law 741 = .ok (.iaload, 1) := by decide +kernel
theorem dL_law_742 : decode cL_law 742 = .ok (.ifCond .eq 7, 3) := by decide +kernel
theorem dL_law_745 : decode cL_law 745 = .ok (.iconst 1, 1) := by decide +kernel
theorem dL_law_746 : decode cL_law 746 = .ok (.goto 4, 3) := by decide +kernel
theorem dL_law_749 : decode cL_law 749 = .ok (.iconst 0, 1) := by decide +kernel
theorem dL_law_750 : decode cL_law 750 = .ok (.invokevirtual 79, 3) := by decide +kernel
theorem dL_law_753 : decode cL_law 753 = .ok (.aload_n 2, 1) := by decide +kernel
theorem dL_law_754 : decode cL_law 754 = .ok (.aload_n 0, 1) := by decide +kernel
theorem dL_law_755 : decode cL_law 755 = .ok (.iload_n 3, 1) := by decide +kernel
theorem dL_law_756 : decode cL_law 756 = .ok (.iconst 1, 1) := by decide +kernel
theorem dL_law_757 : decode cL_law 757 = .ok (.iadd, 1) := by decide +kernel
theorem dL_law_758 : decode cL_law 758 = .ok (.iaload, 1) := by decide +kernel
theorem dL_law_759 : decode cL_law 759 = .ok (.aload_n 0, 1) := by decide +kernel
theorem dL_law_760 : decode cL_law 760 = .ok (.iload_n 3, 1) := by decide +kernel
theorem dL_law_761 : decode cL_law 761 = .ok (.iconst 2, 1) := by decide +kernel
theorem dL_law_762 : decode cL_law 762 = .ok (.iadd, 1) := by decide +kernel
theorem dL_law_763 : decode cL_law 763 = .ok (.iaload, 1) := by decide +kernel
theorem dL_law_764 : decode cL_law 764 = .ok (.aload_n 0, 1) := by decide +kernel
theorem dL_law_765 : decode cL_law 765 = .ok (.iload_n 3, 1) := by decide +kernel
theorem dL_law_766 : decode cL_law 766 = .ok (.iconst 3, 1) := by decide +kernel
theorem dL_law_767 : decode cL_law 767 = .ok (.iadd, 1) := by decide +kernel
theorem dL_law_768 : decode cL_law 768 = .ok (.iaload, 1) := by decide +kernel
theorem dL_law_769 : decode cL_law 769 = .ok (.aload_n 0, 1) := by decide +kernel
theorem dL_law_770 : decode cL_law 770 = .ok (.iload_n 3, 1) := by decide +kernel
theorem dL_law_771 : decode cL_law 771 = .ok (.iconst 4, 1) := by decide +kernel
theorem dL_law_772 : decode cL_law 772 = .ok (.iadd, 1) := by decide +kernel
theorem dL_law_773 : decode cL_law 773 = .ok (.iaload, 1) := by decide +kernel
theorem dL_law_774 : decode cL_law 774 = .ok (.ifCond .eq 7, 3) := by decide +kernel
theorem dL_law_777 : decode cL_law 777 = .ok (.iconst 1, 1) := by decide +kernel
theorem dL_law_778 : decode cL_law 778 = .ok (.goto 4, 3) := by decide +kernel
theorem dL_law_781 : decode cL_law 781 = .ok (.iconst 0, 1) := by decide +kernel
theorem dL_law_782 : decode cL_law 782 = .ok (.invokevirtual 83, 3) := by decide +kernel
theorem dL_law_785 : decode cL_law 785 = .ok (.if_icmp .eq 563, 3) := by decide +kernel
theorem dL_law_788 : decode cL_law 788 = .ok (.iconst 0, 1) := by decide +kernel
theorem dL_law_789 : decode cL_law 789 = .ok (.ireturn, 1) := by decide +kernel
theorem dL_law_790 : decode cL_law 790 = .ok (.aload_n 1, 1) := by decide +kernel
theorem dL_law_791 : decode cL_law 791 = .ok (.invokevirtual 84, 3) := by decide +kernel
theorem dL_law_794 : decode cL_law 794 = .ok (.aload_n 2, 1) := by decide +kernel
theorem dL_law_795 : decode cL_law 795 = .ok (.invokevirtual 87, 3) := by decide +kernel
theorem dL_law_798 : decode cL_law 798 = .ok (.if_icmp .eq 550, 3) := by decide +kernel
theorem dL_law_801 : decode cL_law 801 = .ok (.iconst 0, 1) := by decide +kernel
theorem dL_law_802 : decode cL_law 802 = .ok (.ireturn, 1) := by decide +kernel
theorem dL_law_803 : decode cL_law 803 = .ok (.aload_n 1, 1) := by decide +kernel
theorem dL_law_804 : decode cL_law 804 = .ok (.aload_n 0, 1) := by decide +kernel
theorem dL_law_805 : decode cL_law 805 = .ok (.iload_n 3, 1) := by decide +kernel
theorem dL_law_806 : decode cL_law 806 = .ok (.iconst 1, 1) := by decide +kernel
theorem dL_law_807 : decode cL_law 807 = .ok (.iadd, 1) := by decide +kernel
theorem dL_law_808 : decode cL_law 808 = .ok (.iaload, 1) := by decide +kernel
theorem dL_law_809 : decode cL_law 809 = .ok (.invokevirtual 88, 3) := by decide +kernel
theorem dL_law_812 : decode cL_law 812 = .ok (.aload_n 2, 1) := by decide +kernel
theorem dL_law_813 : decode cL_law 813 = .ok (.aload_n 0, 1) := by decide +kernel
theorem dL_law_814 : decode cL_law 814 = .ok (.iload_n 3, 1) := by decide +kernel
theorem dL_law_815 : decode cL_law 815 = .ok (.iconst 1, 1) := by decide +kernel
theorem dL_law_816 : decode cL_law 816 = .ok (.iadd, 1) := by decide +kernel
theorem dL_law_817 : decode cL_law 817 = .ok (.iaload, 1) := by decide +kernel
theorem dL_law_818 : decode cL_law 818 = .ok (.invokevirtual 91, 3) := by decide +kernel
theorem dL_law_821 : decode cL_law 821 = .ok (.if_icmp .eq 527, 3) := by decide +kernel
theorem dL_law_824 : decode cL_law 824 = .ok (.iconst 0, 1) := by decide +kernel
theorem dL_law_825 : decode cL_law 825 = .ok (.ireturn, 1) := by decide +kernel
theorem dL_law_826 : decode cL_law 826 = .ok (.aload_n 1, 1) := by decide +kernel
theorem dL_law_827 : decode cL_law 827 = .ok (.invokevirtual 92, 3) := by decide +kernel
theorem dL_law_830 : decode cL_law 830 = .ok (.aload_n 2, 1) := by decide +kernel
theorem dL_law_831 : decode cL_law 831 = .ok (.invokevirtual 95, 3) := by decide +kernel
theorem dL_law_834 : decode cL_law 834 = .ok (.if_icmp .eq 514, 3) := by decide +kernel
theorem dL_law_837 : decode cL_law 837 = .ok (.iconst 0, 1) := by decide +kernel
theorem dL_law_838 : decode cL_law 838 = .ok (.ireturn, 1) := by decide +kernel
theorem dL_law_839 : decode cL_law 839 = .ok (.aload_n 1, 1) := by decide +kernel
theorem dL_law_840 : decode cL_law 840 = .ok (.aload_n 0, 1) := by decide +kernel
theorem dL_law_841 : decode cL_law 841 = .ok (.iload_n 3, 1) := by decide +kernel
theorem dL_law_842 : decode cL_law 842 = .ok (.iconst 1, 1) := by decide +kernel
theorem dL_law_843 : decode cL_law 843 = .ok (.iadd, 1) := by decide +kernel
theorem dL_law_844 : decode cL_law 844 = .ok (.iaload, 1) := by decide +kernel
theorem dL_law_845 : decode cL_law 845 = .ok (.aload_n 0, 1) := by decide +kernel
theorem dL_law_846 : decode cL_law 846 = .ok (.iload_n 3, 1) := by decide +kernel
theorem dL_law_847 : decode cL_law 847 = .ok (.iconst 2, 1) := by decide +kernel
theorem dL_law_848 : decode cL_law 848 = .ok (.iadd, 1) := by decide +kernel
theorem dL_law_849 : decode cL_law 849 = .ok (.iaload, 1) := by decide +kernel
theorem dL_law_850 : decode cL_law 850 = .ok (.invokevirtual 96, 3) := by decide +kernel
theorem dL_law_853 : decode cL_law 853 = .ok (.aload_n 2, 1) := by decide +kernel
theorem dL_law_854 : decode cL_law 854 = .ok (.aload_n 0, 1) := by decide +kernel
theorem dL_law_855 : decode cL_law 855 = .ok (.iload_n 3, 1) := by decide +kernel
theorem dL_law_856 : decode cL_law 856 = .ok (.iconst 1, 1) := by decide +kernel
theorem dL_law_857 : decode cL_law 857 = .ok (.iadd, 1) := by decide +kernel
theorem dL_law_858 : decode cL_law 858 = .ok (.iaload, 1) := by decide +kernel
theorem dL_law_859 : decode cL_law 859 = .ok (.aload_n 0, 1) := by decide +kernel
theorem dL_law_860 : decode cL_law 860 = .ok (.iload_n 3, 1) := by decide +kernel
theorem dL_law_861 : decode cL_law 861 = .ok (.iconst 2, 1) := by decide +kernel
theorem dL_law_862 : decode cL_law 862 = .ok (.iadd, 1) := by decide +kernel
theorem dL_law_863 : decode cL_law 863 = .ok (.iaload, 1) := by decide +kernel
theorem dL_law_864 : decode cL_law 864 = .ok (.invokevirtual 99, 3) := by decide +kernel
theorem dL_law_867 : decode cL_law 867 = .ok (.if_icmp .eq 481, 3) := by decide +kernel
theorem dL_law_870 : decode cL_law 870 = .ok (.iconst 0, 1) := by decide +kernel
theorem dL_law_871 : decode cL_law 871 = .ok (.ireturn, 1) := by decide +kernel
theorem dL_law_872 : decode cL_law 872 = .ok (.aload_n 1, 1) := by decide +kernel
theorem dL_law_873 : decode cL_law 873 = .ok (.aload_n 0, 1) := by decide +kernel
theorem dL_law_874 : decode cL_law 874 = .ok (.iload_n 3, 1) := by decide +kernel
theorem dL_law_875 : decode cL_law 875 = .ok (.iconst 1, 1) := by decide +kernel
theorem dL_law_876 : decode cL_law 876 = .ok (.iadd, 1) := by decide +kernel
theorem dL_law_877 : decode cL_law 877 = .ok (.iaload, 1) := by decide +kernel
theorem dL_law_878 : decode cL_law 878 = .ok (.aload_n 0, 1) := by decide +kernel
theorem dL_law_879 : decode cL_law 879 = .ok (.iload_n 3, 1) := by decide +kernel
theorem dL_law_880 : decode cL_law 880 = .ok (.iconst 2, 1) := by decide +kernel
theorem dL_law_881 : decode cL_law 881 = .ok (.iadd, 1) := by decide +kernel
theorem dL_law_882 : decode cL_law 882 = .ok (.iaload, 1) := by decide +kernel
theorem dL_law_883 : decode cL_law 883 = .ok (.aload_n 0, 1) := by decide +kernel
theorem dL_law_884 : decode cL_law 884 = .ok (.iload_n 3, 1) := by decide +kernel
theorem dL_law_885 : decode cL_law 885 = .ok (.iconst 3, 1) := by decide +kernel
theorem dL_law_886 : decode cL_law 886 = .ok (.iadd, 1) := by decide +kernel
theorem dL_law_887 : decode cL_law 887 = .ok (.iaload, 1) := by decide +kernel
theorem dL_law_888 : decode cL_law 888 = .ok (.aload_n 0, 1) := by decide +kernel
theorem dL_law_889 : decode cL_law 889 = .ok (.iload_n 3, 1) := by decide +kernel
theorem dL_law_890 : decode cL_law 890 = .ok (.iconst 4, 1) := by decide +kernel
theorem dL_law_891 : decode cL_law 891 = .ok (.iadd, 1) := by decide +kernel
theorem dL_law_892 : decode cL_law 892 = .ok (.iaload, 1) := by decide +kernel
theorem dL_law_893 : decode cL_law 893 = .ok (.invokevirtual 100, 3) := by decide +kernel
theorem dL_law_896 : decode cL_law 896 = .ok (.aload_n 2, 1) := by decide +kernel
theorem dL_law_897 : decode cL_law 897 = .ok (.aload_n 0, 1) := by decide +kernel
theorem dL_law_898 : decode cL_law 898 = .ok (.iload_n 3, 1) := by decide +kernel
theorem dL_law_899 : decode cL_law 899 = .ok (.iconst 1, 1) := by decide +kernel
theorem dL_law_900 : decode cL_law 900 = .ok (.iadd, 1) := by decide +kernel
theorem dL_law_901 : decode cL_law 901 = .ok (.iaload, 1) := by decide +kernel
theorem dL_law_902 : decode cL_law 902 = .ok (.aload_n 0, 1) := by decide +kernel
theorem dL_law_903 : decode cL_law 903 = .ok (.iload_n 3, 1) := by decide +kernel
theorem dL_law_904 : decode cL_law 904 = .ok (.iconst 2, 1) := by decide +kernel
theorem dL_law_905 : decode cL_law 905 = .ok (.iadd, 1) := by decide +kernel
theorem dL_law_906 : decode cL_law 906 = .ok (.iaload, 1) := by decide +kernel
theorem dL_law_907 : decode cL_law 907 = .ok (.aload_n 0, 1) := by decide +kernel
theorem dL_law_908 : decode cL_law 908 = .ok (.iload_n 3, 1) := by decide +kernel
theorem dL_law_909 : decode cL_law 909 = .ok (.iconst 3, 1) := by decide +kernel
theorem dL_law_910 : decode cL_law 910 = .ok (.iadd, 1) := by decide +kernel
theorem dL_law_911 : decode cL_law 911 = .ok (.iaload, 1) := by decide +kernel
theorem dL_law_912 : decode cL_law 912 = .ok (.aload_n 0, 1) := by decide +kernel
theorem dL_law_913 : decode cL_law 913 = .ok (.iload_n 3, 1) := by decide +kernel
theorem dL_law_914 : decode cL_law 914 = .ok (.iconst 4, 1) := by decide +kernel
theorem dL_law_915 : decode cL_law 915 = .ok (.iadd, 1) := by decide +kernel
theorem dL_law_916 : decode cL_law 916 = .ok (.iaload, 1) := by decide +kernel
theorem dL_law_917 : decode cL_law 917 = .ok (.invokevirtual 103, 3) := by decide +kernel
theorem dL_law_920 : decode cL_law 920 = .ok (.if_icmp .eq 428, 3) := by decide +kernel
theorem dL_law_923 : decode cL_law 923 = .ok (.iconst 0, 1) := by decide +kernel
theorem dL_law_924 : decode cL_law 924 = .ok (.ireturn, 1) := by decide +kernel
theorem dL_law_925 : decode cL_law 925 = .ok (.aload_n 1, 1) := by decide +kernel
theorem dL_law_926 : decode cL_law 926 = .ok (.aload_n 0, 1) := by decide +kernel
theorem dL_law_927 : decode cL_law 927 = .ok (.iload_n 3, 1) := by decide +kernel
theorem dL_law_928 : decode cL_law 928 = .ok (.iconst 1, 1) := by decide +kernel
theorem dL_law_929 : decode cL_law 929 = .ok (.iadd, 1) := by decide +kernel
theorem dL_law_930 : decode cL_law 930 = .ok (.iaload, 1) := by decide +kernel
theorem dL_law_931 : decode cL_law 931 = .ok (.aload_n 0, 1) := by decide +kernel
theorem dL_law_932 : decode cL_law 932 = .ok (.iload_n 3, 1) := by decide +kernel
theorem dL_law_933 : decode cL_law 933 = .ok (.iconst 2, 1) := by decide +kernel
theorem dL_law_934 : decode cL_law 934 = .ok (.iadd, 1) := by decide +kernel
theorem dL_law_935 : decode cL_law 935 = .ok (.iaload, 1) := by decide +kernel
theorem dL_law_936 : decode cL_law 936 = .ok (.aload_n 0, 1) := by decide +kernel
theorem dL_law_937 : decode cL_law 937 = .ok (.iload_n 3, 1) := by decide +kernel
theorem dL_law_938 : decode cL_law 938 = .ok (.iconst 3, 1) := by decide +kernel
theorem dL_law_939 : decode cL_law 939 = .ok (.iadd, 1) := by decide +kernel
theorem dL_law_940 : decode cL_law 940 = .ok (.iaload, 1) := by decide +kernel
theorem dL_law_941 : decode cL_law 941 = .ok (.invokevirtual 104, 3) := by decide +kernel
theorem dL_law_944 : decode cL_law 944 = .ok (.aload_n 2, 1) := by decide +kernel
theorem dL_law_945 : decode cL_law 945 = .ok (.aload_n 0, 1) := by decide +kernel
theorem dL_law_946 : decode cL_law 946 = .ok (.iload_n 3, 1) := by decide +kernel
theorem dL_law_947 : decode cL_law 947 = .ok (.iconst 1, 1) := by decide +kernel
theorem dL_law_948 : decode cL_law 948 = .ok (.iadd, 1) := by decide +kernel
theorem dL_law_949 : decode cL_law 949 = .ok (.iaload, 1) := by decide +kernel
theorem dL_law_950 : decode cL_law 950 = .ok (.aload_n 0, 1) := by decide +kernel
theorem dL_law_951 : decode cL_law 951 = .ok (.iload_n 3, 1) := by decide +kernel
theorem dL_law_952 : decode cL_law 952 = .ok (.iconst 2, 1) := by decide +kernel
theorem dL_law_953 : decode cL_law 953 = .ok (.iadd, 1) := by decide +kernel
theorem dL_law_954 : decode cL_law 954 = .ok (.iaload, 1) := by decide +kernel
theorem dL_law_955 : decode cL_law 955 = .ok (.aload_n 0, 1) := by decide +kernel
theorem dL_law_956 : decode cL_law 956 = .ok (.iload_n 3, 1) := by decide +kernel
theorem dL_law_957 : decode cL_law 957 = .ok (.iconst 3, 1) := by decide +kernel
theorem dL_law_958 : decode cL_law 958 = .ok (.iadd, 1) := by decide +kernel
theorem dL_law_959 : decode cL_law 959 = .ok (.iaload, 1) := by decide +kernel
theorem dL_law_960 : decode cL_law 960 = .ok (.invokevirtual 107, 3) := by decide +kernel
theorem dL_law_963 : decode cL_law 963 = .ok (.if_icmp .eq 385, 3) := by decide +kernel
theorem dL_law_966 : decode cL_law 966 = .ok (.iconst 0, 1) := by decide +kernel
theorem dL_law_967 : decode cL_law 967 = .ok (.ireturn, 1) := by decide +kernel
theorem dL_law_968 : decode cL_law 968 = .ok (.aload_n 1, 1) := by decide +kernel
theorem dL_law_969 : decode cL_law 969 = .ok (.aload_n 0, 1) := by decide +kernel
theorem dL_law_970 : decode cL_law 970 = .ok (.iload_n 3, 1) := by decide +kernel
theorem dL_law_971 : decode cL_law 971 = .ok (.iconst 1, 1) := by decide +kernel
theorem dL_law_972 : decode cL_law 972 = .ok (.iadd, 1) := by decide +kernel
theorem dL_law_973 : decode cL_law 973 = .ok (.iaload, 1) := by decide +kernel
theorem dL_law_974 : decode cL_law 974 = .ok (.aload_n 0, 1) := by decide +kernel
theorem dL_law_975 : decode cL_law 975 = .ok (.iload_n 3, 1) := by decide +kernel
theorem dL_law_976 : decode cL_law 976 = .ok (.iconst 2, 1) := by decide +kernel
theorem dL_law_977 : decode cL_law 977 = .ok (.iadd, 1) := by decide +kernel
theorem dL_law_978 : decode cL_law 978 = .ok (.iaload, 1) := by decide +kernel
theorem dL_law_979 : decode cL_law 979 = .ok (.invokevirtual 108, 3) := by decide +kernel
theorem dL_law_982 : decode cL_law 982 = .ok (.aload_n 2, 1) := by decide +kernel
theorem dL_law_983 : decode cL_law 983 = .ok (.aload_n 0, 1) := by decide +kernel
theorem dL_law_984 : decode cL_law 984 = .ok (.iload_n 3, 1) := by decide +kernel
theorem dL_law_985 : decode cL_law 985 = .ok (.iconst 1, 1) := by decide +kernel
theorem dL_law_986 : decode cL_law 986 = .ok (.iadd, 1) := by decide +kernel
theorem dL_law_987 : decode cL_law 987 = .ok (.iaload, 1) := by decide +kernel
theorem dL_law_988 : decode cL_law 988 = .ok (.aload_n 0, 1) := by decide +kernel
theorem dL_law_989 : decode cL_law 989 = .ok (.iload_n 3, 1) := by decide +kernel
theorem dL_law_990 : decode cL_law 990 = .ok (.iconst 2, 1) := by decide +kernel
theorem dL_law_991 : decode cL_law 991 = .ok (.iadd, 1) := by decide +kernel
theorem dL_law_992 : decode cL_law 992 = .ok (.iaload, 1) := by decide +kernel
theorem dL_law_993 : decode cL_law 993 = .ok (.invokevirtual 111, 3) := by decide +kernel
theorem dL_law_996 : decode cL_law 996 = .ok (.if_icmp .eq 352, 3) := by decide +kernel
theorem dL_law_999 : decode cL_law 999 = .ok (.iconst 0, 1) := by decide +kernel
theorem dL_law_1000 : decode cL_law 1000 = .ok (.ireturn, 1) := by decide +kernel
theorem dL_law_1001 : decode cL_law 1001 = .ok (.aload_n 1, 1) := by decide +kernel
theorem dL_law_1002 : decode cL_law 1002 = .ok (.aload_n 0, 1) := by decide +kernel
theorem dL_law_1003 : decode cL_law 1003 = .ok (.iload_n 3, 1) := by decide +kernel
theorem dL_law_1004 : decode cL_law 1004 = .ok (.iconst 1, 1) := by decide +kernel
theorem dL_law_1005 : decode cL_law 1005 = .ok (.iadd, 1) := by decide +kernel
theorem dL_law_1006 : decode cL_law 1006 = .ok (.iaload, 1) := by decide +kernel
theorem dL_law_1007 : decode cL_law 1007 = .ok (.aload_n 0, 1) := by decide +kernel
theorem dL_law_1008 : decode cL_law 1008 = .ok (.iload_n 3, 1) := by decide +kernel
theorem dL_law_1009 : decode cL_law 1009 = .ok (.iconst 2, 1) := by decide +kernel
theorem dL_law_1010 : decode cL_law 1010 = .ok (.iadd, 1) := by decide +kernel
theorem dL_law_1011 : decode cL_law 1011 = .ok (.iaload, 1) := by decide +kernel
theorem dL_law_1012 : decode cL_law 1012 = .ok (.aload_n 0, 1) := by decide +kernel
theorem dL_law_1013 : decode cL_law 1013 = .ok (.iload_n 3, 1) := by decide +kernel
theorem dL_law_1014 : decode cL_law 1014 = .ok (.iconst 3, 1) := by decide +kernel
theorem dL_law_1015 : decode cL_law 1015 = .ok (.iadd, 1) := by decide +kernel
theorem dL_law_1016 : decode cL_law 1016 = .ok (.iaload, 1) := by decide +kernel
theorem dL_law_1017 : decode cL_law 1017 = .ok (.aload_n 0, 1) := by decide +kernel
theorem dL_law_1018 : decode cL_law 1018 = .ok (.iload_n 3, 1) := by decide +kernel
theorem dL_law_1019 : decode cL_law 1019 = .ok (.iconst 4, 1) := by decide +kernel
theorem dL_law_1020 : decode cL_law 1020 = .ok (.iadd, 1) := by decide +kernel
theorem dL_law_1021 : decode cL_law 1021 = .ok (.iaload, 1) := by decide +kernel
theorem dL_law_1022 : decode cL_law 1022 = .ok (.invokevirtual 112, 3) := by decide +kernel
theorem dL_law_1025 : decode cL_law 1025 = .ok (.aload_n 2, 1) := by decide +kernel
theorem dL_law_1026 : decode cL_law 1026 = .ok (.aload_n 0, 1) := by decide +kernel
theorem dL_law_1027 : decode cL_law 1027 = .ok (.iload_n 3, 1) := by decide +kernel
theorem dL_law_1028 : decode cL_law 1028 = .ok (.iconst 1, 1) := by decide +kernel
theorem dL_law_1029 : decode cL_law 1029 = .ok (.iadd, 1) := by decide +kernel
theorem dL_law_1030 : decode cL_law 1030 = .ok (.iaload, 1) := by decide +kernel
theorem dL_law_1031 : decode cL_law 1031 = .ok (.aload_n 0, 1) := by decide +kernel
theorem dL_law_1032 : decode cL_law 1032 = .ok (.iload_n 3, 1) := by decide +kernel
theorem dL_law_1033 : decode cL_law 1033 = .ok (.iconst 2, 1) := by decide +kernel
theorem dL_law_1034 : decode cL_law 1034 = .ok (.iadd, 1) := by decide +kernel
theorem dL_law_1035 : decode cL_law 1035 = .ok (.iaload, 1) := by decide +kernel
theorem dL_law_1036 : decode cL_law 1036 = .ok (.aload_n 0, 1) := by decide +kernel
theorem dL_law_1037 : decode cL_law 1037 = .ok (.iload_n 3, 1) := by decide +kernel
theorem dL_law_1038 : decode cL_law 1038 = .ok (.iconst 3, 1) := by decide +kernel
theorem dL_law_1039 : decode cL_law 1039 = .ok (.iadd, 1) := by decide +kernel
theorem dL_law_1040 : decode cL_law 1040 = .ok (.iaload, 1) := by decide +kernel
theorem dL_law_1041 : decode cL_law 1041 = .ok (.aload_n 0, 1) := by decide +kernel
theorem dL_law_1042 : decode cL_law 1042 = .ok (.iload_n 3, 1) := by decide +kernel
theorem dL_law_1043 : decode cL_law 1043 = .ok (.iconst 4, 1) := by decide +kernel
theorem dL_law_1044 : decode cL_law 1044 = .ok (.iadd, 1) := by decide +kernel
theorem dL_law_1045 : decode cL_law 1045 = .ok (.iaload, 1) := by decide +kernel
theorem dL_law_1046 : decode cL_law 1046 = .ok (.invokevirtual 115, 3) := by decide +kernel
theorem dL_law_1049 : decode cL_law 1049 = .ok (.if_icmp .eq 299, 3) := by decide +kernel
theorem dL_law_1052 : decode cL_law 1052 = .ok (.iconst 0, 1) := by decide +kernel
theorem dL_law_1053 : decode cL_law 1053 = .ok (.ireturn, 1) := by decide +kernel
theorem dL_law_1054 : decode cL_law 1054 = .ok (.aload_n 1, 1) := by decide +kernel
theorem dL_law_1055 : decode cL_law 1055 = .ok (.aload_n 0, 1) := by decide +kernel
theorem dL_law_1056 : decode cL_law 1056 = .ok (.iload_n 3, 1) := by decide +kernel
theorem dL_law_1057 : decode cL_law 1057 = .ok (.iconst 1, 1) := by decide +kernel
theorem dL_law_1058 : decode cL_law 1058 = .ok (.iadd, 1) := by decide +kernel
theorem dL_law_1059 : decode cL_law 1059 = .ok (.iaload, 1) := by decide +kernel
theorem dL_law_1060 : decode cL_law 1060 = .ok (.aload_n 0, 1) := by decide +kernel
theorem dL_law_1061 : decode cL_law 1061 = .ok (.iload_n 3, 1) := by decide +kernel
theorem dL_law_1062 : decode cL_law 1062 = .ok (.iconst 2, 1) := by decide +kernel
theorem dL_law_1063 : decode cL_law 1063 = .ok (.iadd, 1) := by decide +kernel
theorem dL_law_1064 : decode cL_law 1064 = .ok (.iaload, 1) := by decide +kernel
theorem dL_law_1065 : decode cL_law 1065 = .ok (.aload_n 0, 1) := by decide +kernel
theorem dL_law_1066 : decode cL_law 1066 = .ok (.iload_n 3, 1) := by decide +kernel
theorem dL_law_1067 : decode cL_law 1067 = .ok (.iconst 3, 1) := by decide +kernel
theorem dL_law_1068 : decode cL_law 1068 = .ok (.iadd, 1) := by decide +kernel
theorem dL_law_1069 : decode cL_law 1069 = .ok (.iaload, 1) := by decide +kernel
theorem dL_law_1070 : decode cL_law 1070 = .ok (.invokevirtual 116, 3) := by decide +kernel
theorem dL_law_1073 : decode cL_law 1073 = .ok (.aload_n 2, 1) := by decide +kernel
theorem dL_law_1074 : decode cL_law 1074 = .ok (.aload_n 0, 1) := by decide +kernel
theorem dL_law_1075 : decode cL_law 1075 = .ok (.iload_n 3, 1) := by decide +kernel
theorem dL_law_1076 : decode cL_law 1076 = .ok (.iconst 1, 1) := by decide +kernel
theorem dL_law_1077 : decode cL_law 1077 = .ok (.iadd, 1) := by decide +kernel
theorem dL_law_1078 : decode cL_law 1078 = .ok (.iaload, 1) := by decide +kernel
theorem dL_law_1079 : decode cL_law 1079 = .ok (.aload_n 0, 1) := by decide +kernel
theorem dL_law_1080 : decode cL_law 1080 = .ok (.iload_n 3, 1) := by decide +kernel
theorem dL_law_1081 : decode cL_law 1081 = .ok (.iconst 2, 1) := by decide +kernel
theorem dL_law_1082 : decode cL_law 1082 = .ok (.iadd, 1) := by decide +kernel
theorem dL_law_1083 : decode cL_law 1083 = .ok (.iaload, 1) := by decide +kernel
theorem dL_law_1084 : decode cL_law 1084 = .ok (.aload_n 0, 1) := by decide +kernel
theorem dL_law_1085 : decode cL_law 1085 = .ok (.iload_n 3, 1) := by decide +kernel
theorem dL_law_1086 : decode cL_law 1086 = .ok (.iconst 3, 1) := by decide +kernel
theorem dL_law_1087 : decode cL_law 1087 = .ok (.iadd, 1) := by decide +kernel
theorem dL_law_1088 : decode cL_law 1088 = .ok (.iaload, 1) := by decide +kernel
theorem dL_law_1089 : decode cL_law 1089 = .ok (.invokevirtual 119, 3) := by decide +kernel
theorem dL_law_1092 : decode cL_law 1092 = .ok (.if_icmp .eq 256, 3) := by decide +kernel
theorem dL_law_1095 : decode cL_law 1095 = .ok (.iconst 0, 1) := by decide +kernel
theorem dL_law_1096 : decode cL_law 1096 = .ok (.ireturn, 1) := by decide +kernel
theorem dL_law_1097 : decode cL_law 1097 = .ok (.aload_n 1, 1) := by decide +kernel
theorem dL_law_1098 : decode cL_law 1098 = .ok (.aload_n 0, 1) := by decide +kernel
theorem dL_law_1099 : decode cL_law 1099 = .ok (.iload_n 3, 1) := by decide +kernel
theorem dL_law_1100 : decode cL_law 1100 = .ok (.iconst 1, 1) := by decide +kernel
theorem dL_law_1101 : decode cL_law 1101 = .ok (.iadd, 1) := by decide +kernel
theorem dL_law_1102 : decode cL_law 1102 = .ok (.iaload, 1) := by decide +kernel
theorem dL_law_1103 : decode cL_law 1103 = .ok (.invokevirtual 120, 3) := by decide +kernel
theorem dL_law_1106 : decode cL_law 1106 = .ok (.aload_n 2, 1) := by decide +kernel
theorem dL_law_1107 : decode cL_law 1107 = .ok (.aload_n 0, 1) := by decide +kernel
theorem dL_law_1108 : decode cL_law 1108 = .ok (.iload_n 3, 1) := by decide +kernel
theorem dL_law_1109 : decode cL_law 1109 = .ok (.iconst 1, 1) := by decide +kernel
theorem dL_law_1110 : decode cL_law 1110 = .ok (.iadd, 1) := by decide +kernel
theorem dL_law_1111 : decode cL_law 1111 = .ok (.iaload, 1) := by decide +kernel
theorem dL_law_1112 : decode cL_law 1112 = .ok (.invokevirtual 123, 3) := by decide +kernel
theorem dL_law_1115 : decode cL_law 1115 = .ok (.if_icmp .eq 233, 3) := by decide +kernel
theorem dL_law_1118 : decode cL_law 1118 = .ok (.iconst 0, 1) := by decide +kernel
theorem dL_law_1119 : decode cL_law 1119 = .ok (.ireturn, 1) := by decide +kernel
theorem dL_law_1120 : decode cL_law 1120 = .ok (.aload_n 1, 1) := by decide +kernel
theorem dL_law_1121 : decode cL_law 1121 = .ok (.invokevirtual 124, 3) := by decide +kernel
theorem dL_law_1124 : decode cL_law 1124 = .ok (.aload_n 2, 1) := by decide +kernel
theorem dL_law_1125 : decode cL_law 1125 = .ok (.invokevirtual 127, 3) := by decide +kernel
theorem dL_law_1128 : decode cL_law 1128 = .ok (.if_icmp .eq 220, 3) := by decide +kernel
theorem dL_law_1131 : decode cL_law 1131 = .ok (.iconst 0, 1) := by decide +kernel
theorem dL_law_1132 : decode cL_law 1132 = .ok (.ireturn, 1) := by decide +kernel
theorem dL_law_1133 : decode cL_law 1133 = .ok (.aload_n 1, 1) := by decide +kernel
theorem dL_law_1134 : decode cL_law 1134 = .ok (.aload_n 0, 1) := by decide +kernel
theorem dL_law_1135 : decode cL_law 1135 = .ok (.iload_n 3, 1) := by decide +kernel
theorem dL_law_1136 : decode cL_law 1136 = .ok (.iconst 1, 1) := by decide +kernel
theorem dL_law_1137 : decode cL_law 1137 = .ok (.iadd, 1) := by decide +kernel
theorem dL_law_1138 : decode cL_law 1138 = .ok (.iaload, 1) := by decide +kernel
theorem dL_law_1139 : decode cL_law 1139 = .ok (.aload_n 0, 1) := by decide +kernel
theorem dL_law_1140 : decode cL_law 1140 = .ok (.iload_n 3, 1) := by decide +kernel
theorem dL_law_1141 : decode cL_law 1141 = .ok (.iconst 2, 1) := by decide +kernel
theorem dL_law_1142 : decode cL_law 1142 = .ok (.iadd, 1) := by decide +kernel
theorem dL_law_1143 : decode cL_law 1143 = .ok (.iaload, 1) := by decide +kernel
theorem dL_law_1144 : decode cL_law 1144 = .ok (.aload_n 0, 1) := by decide +kernel
theorem dL_law_1145 : decode cL_law 1145 = .ok (.iload_n 3, 1) := by decide +kernel
theorem dL_law_1146 : decode cL_law 1146 = .ok (.iconst 3, 1) := by decide +kernel
theorem dL_law_1147 : decode cL_law 1147 = .ok (.iadd, 1) := by decide +kernel
theorem dL_law_1148 : decode cL_law 1148 = .ok (.iaload, 1) := by decide +kernel
theorem dL_law_1149 : decode cL_law 1149 = .ok (.invokevirtual 128, 3) := by decide +kernel
theorem dL_law_1152 : decode cL_law 1152 = .ok (.aload_n 2, 1) := by decide +kernel
theorem dL_law_1153 : decode cL_law 1153 = .ok (.aload_n 0, 1) := by decide +kernel
theorem dL_law_1154 : decode cL_law 1154 = .ok (.iload_n 3, 1) := by decide +kernel
theorem dL_law_1155 : decode cL_law 1155 = .ok (.iconst 1, 1) := by decide +kernel
theorem dL_law_1156 : decode cL_law 1156 = .ok (.iadd, 1) := by decide +kernel
theorem dL_law_1157 : decode cL_law 1157 = .ok (.iaload, 1) := by decide +kernel
theorem dL_law_1158 : decode cL_law 1158 = .ok (.aload_n 0, 1) := by decide +kernel
theorem dL_law_1159 : decode cL_law 1159 = .ok (.iload_n 3, 1) := by decide +kernel
theorem dL_law_1160 : decode cL_law 1160 = .ok (.iconst 2, 1) := by decide +kernel
theorem dL_law_1161 : decode cL_law 1161 = .ok (.iadd, 1) := by decide +kernel
theorem dL_law_1162 : decode cL_law 1162 = .ok (.iaload, 1) := by decide +kernel
theorem dL_law_1163 : decode cL_law 1163 = .ok (.aload_n 0, 1) := by decide +kernel
theorem dL_law_1164 : decode cL_law 1164 = .ok (.iload_n 3, 1) := by decide +kernel
theorem dL_law_1165 : decode cL_law 1165 = .ok (.iconst 3, 1) := by decide +kernel
theorem dL_law_1166 : decode cL_law 1166 = .ok (.iadd, 1) := by decide +kernel
theorem dL_law_1167 : decode cL_law 1167 = .ok (.iaload, 1) := by decide +kernel
theorem dL_law_1168 : decode cL_law 1168 = .ok (.invokevirtual 131, 3) := by decide +kernel
theorem dL_law_1171 : decode cL_law 1171 = .ok (.if_icmp .eq 177, 3) := by decide +kernel
theorem dL_law_1174 : decode cL_law 1174 = .ok (.iconst 0, 1) := by decide +kernel
theorem dL_law_1175 : decode cL_law 1175 = .ok (.ireturn, 1) := by decide +kernel
theorem dL_law_1176 : decode cL_law 1176 = .ok (.aload_n 1, 1) := by decide +kernel
theorem dL_law_1177 : decode cL_law 1177 = .ok (.aload_n 0, 1) := by decide +kernel
theorem dL_law_1178 : decode cL_law 1178 = .ok (.iload_n 3, 1) := by decide +kernel
theorem dL_law_1179 : decode cL_law 1179 = .ok (.iconst 1, 1) := by decide +kernel
theorem dL_law_1180 : decode cL_law 1180 = .ok (.iadd, 1) := by decide +kernel
theorem dL_law_1181 : decode cL_law 1181 = .ok (.iaload, 1) := by decide +kernel
theorem dL_law_1182 : decode cL_law 1182 = .ok (.aload_n 0, 1) := by decide +kernel
theorem dL_law_1183 : decode cL_law 1183 = .ok (.iload_n 3, 1) := by decide +kernel
theorem dL_law_1184 : decode cL_law 1184 = .ok (.iconst 2, 1) := by decide +kernel
theorem dL_law_1185 : decode cL_law 1185 = .ok (.iadd, 1) := by decide +kernel
theorem dL_law_1186 : decode cL_law 1186 = .ok (.iaload, 1) := by decide +kernel
theorem dL_law_1187 : decode cL_law 1187 = .ok (.aload_n 0, 1) := by decide +kernel
theorem dL_law_1188 : decode cL_law 1188 = .ok (.iload_n 3, 1) := by decide +kernel
theorem dL_law_1189 : decode cL_law 1189 = .ok (.iconst 3, 1) := by decide +kernel
theorem dL_law_1190 : decode cL_law 1190 = .ok (.iadd, 1) := by decide +kernel
theorem dL_law_1191 : decode cL_law 1191 = .ok (.iaload, 1) := by decide +kernel
theorem dL_law_1192 : decode cL_law 1192 = .ok (.aload_n 0, 1) := by decide +kernel
theorem dL_law_1193 : decode cL_law 1193 = .ok (.iload_n 3, 1) := by decide +kernel
theorem dL_law_1194 : decode cL_law 1194 = .ok (.iconst 4, 1) := by decide +kernel
theorem dL_law_1195 : decode cL_law 1195 = .ok (.iadd, 1) := by decide +kernel
theorem dL_law_1196 : decode cL_law 1196 = .ok (.iaload, 1) := by decide +kernel
theorem dL_law_1197 : decode cL_law 1197 = .ok (.invokevirtual 132, 3) := by decide +kernel
theorem dL_law_1200 : decode cL_law 1200 = .ok (.aload_n 2, 1) := by decide +kernel
theorem dL_law_1201 : decode cL_law 1201 = .ok (.aload_n 0, 1) := by decide +kernel
theorem dL_law_1202 : decode cL_law 1202 = .ok (.iload_n 3, 1) := by decide +kernel
theorem dL_law_1203 : decode cL_law 1203 = .ok (.iconst 1, 1) := by decide +kernel
theorem dL_law_1204 : decode cL_law 1204 = .ok (.iadd, 1) := by decide +kernel
theorem dL_law_1205 : decode cL_law 1205 = .ok (.iaload, 1) := by decide +kernel
theorem dL_law_1206 : decode cL_law 1206 = .ok (.aload_n 0, 1) := by decide +kernel
theorem dL_law_1207 : decode cL_law 1207 = .ok (.iload_n 3, 1) := by decide +kernel
theorem dL_law_1208 : decode cL_law 1208 = .ok (.iconst 2, 1) := by decide +kernel
theorem dL_law_1209 : decode cL_law 1209 = .ok (.iadd, 1) := by decide +kernel
theorem dL_law_1210 : decode cL_law 1210 = .ok (.iaload, 1) := by decide +kernel
theorem dL_law_1211 : decode cL_law 1211 = .ok (.aload_n 0, 1) := by decide +kernel
theorem dL_law_1212 : decode cL_law 1212 = .ok (.iload_n 3, 1) := by decide +kernel
theorem dL_law_1213 : decode cL_law 1213 = .ok (.iconst 3, 1) := by decide +kernel
theorem dL_law_1214 : decode cL_law 1214 = .ok (.iadd, 1) := by decide +kernel
theorem dL_law_1215 : decode cL_law 1215 = .ok (.iaload, 1) := by decide +kernel
theorem dL_law_1216 : decode cL_law 1216 = .ok (.aload_n 0, 1) := by decide +kernel
theorem dL_law_1217 : decode cL_law 1217 = .ok (.iload_n 3, 1) := by decide +kernel
theorem dL_law_1218 : decode cL_law 1218 = .ok (.iconst 4, 1) := by decide +kernel
theorem dL_law_1219 : decode cL_law 1219 = .ok (.iadd, 1) := by decide +kernel
theorem dL_law_1220 : decode cL_law 1220 = .ok (.iaload, 1) := by decide +kernel
theorem dL_law_1221 : decode cL_law 1221 = .ok (.invokevirtual 135, 3) := by decide +kernel
theorem dL_law_1224 : decode cL_law 1224 = .ok (.if_icmp .eq 124, 3) := by decide +kernel
theorem dL_law_1227 : decode cL_law 1227 = .ok (.iconst 0, 1) := by decide +kernel
theorem dL_law_1228 : decode cL_law 1228 = .ok (.ireturn, 1) := by decide +kernel
theorem dL_law_1229 : decode cL_law 1229 = .ok (.aload_n 1, 1) := by decide +kernel
theorem dL_law_1230 : decode cL_law 1230 = .ok (.aload_n 0, 1) := by decide +kernel
theorem dL_law_1231 : decode cL_law 1231 = .ok (.iload_n 3, 1) := by decide +kernel
theorem dL_law_1232 : decode cL_law 1232 = .ok (.iconst 1, 1) := by decide +kernel
theorem dL_law_1233 : decode cL_law 1233 = .ok (.iadd, 1) := by decide +kernel
theorem dL_law_1234 : decode cL_law 1234 = .ok (.iaload, 1) := by decide +kernel
theorem dL_law_1235 : decode cL_law 1235 = .ok (.aload_n 0, 1) := by decide +kernel
theorem dL_law_1236 : decode cL_law 1236 = .ok (.iload_n 3, 1) := by decide +kernel
theorem dL_law_1237 : decode cL_law 1237 = .ok (.iconst 2, 1) := by decide +kernel
theorem dL_law_1238 : decode cL_law 1238 = .ok (.iadd, 1) := by decide +kernel
theorem dL_law_1239 : decode cL_law 1239 = .ok (.iaload, 1) := by decide +kernel
theorem dL_law_1240 : decode cL_law 1240 = .ok (.aload_n 0, 1) := by decide +kernel
theorem dL_law_1241 : decode cL_law 1241 = .ok (.iload_n 3, 1) := by decide +kernel
theorem dL_law_1242 : decode cL_law 1242 = .ok (.iconst 3, 1) := by decide +kernel
theorem dL_law_1243 : decode cL_law 1243 = .ok (.iadd, 1) := by decide +kernel
theorem dL_law_1244 : decode cL_law 1244 = .ok (.iaload, 1) := by decide +kernel
theorem dL_law_1245 : decode cL_law 1245 = .ok (.invokevirtual 136, 3) := by decide +kernel
theorem dL_law_1248 : decode cL_law 1248 = .ok (.aload_n 2, 1) := by decide +kernel
theorem dL_law_1249 : decode cL_law 1249 = .ok (.aload_n 0, 1) := by decide +kernel
theorem dL_law_1250 : decode cL_law 1250 = .ok (.iload_n 3, 1) := by decide +kernel
theorem dL_law_1251 : decode cL_law 1251 = .ok (.iconst 1, 1) := by decide +kernel
theorem dL_law_1252 : decode cL_law 1252 = .ok (.iadd, 1) := by decide +kernel
theorem dL_law_1253 : decode cL_law 1253 = .ok (.iaload, 1) := by decide +kernel
theorem dL_law_1254 : decode cL_law 1254 = .ok (.aload_n 0, 1) := by decide +kernel
theorem dL_law_1255 : decode cL_law 1255 = .ok (.iload_n 3, 1) := by decide +kernel
theorem dL_law_1256 : decode cL_law 1256 = .ok (.iconst 2, 1) := by decide +kernel
theorem dL_law_1257 : decode cL_law 1257 = .ok (.iadd, 1) := by decide +kernel
theorem dL_law_1258 : decode cL_law 1258 = .ok (.iaload, 1) := by decide +kernel
theorem dL_law_1259 : decode cL_law 1259 = .ok (.aload_n 0, 1) := by decide +kernel
theorem dL_law_1260 : decode cL_law 1260 = .ok (.iload_n 3, 1) := by decide +kernel
theorem dL_law_1261 : decode cL_law 1261 = .ok (.iconst 3, 1) := by decide +kernel
theorem dL_law_1262 : decode cL_law 1262 = .ok (.iadd, 1) := by decide +kernel
theorem dL_law_1263 : decode cL_law 1263 = .ok (.iaload, 1) := by decide +kernel
theorem dL_law_1264 : decode cL_law 1264 = .ok (.invokevirtual 139, 3) := by decide +kernel
theorem dL_law_1267 : decode cL_law 1267 = .ok (.if_icmp .eq 81, 3) := by decide +kernel
theorem dL_law_1270 : decode cL_law 1270 = .ok (.iconst 0, 1) := by decide +kernel
theorem dL_law_1271 : decode cL_law 1271 = .ok (.ireturn, 1) := by decide +kernel
theorem dL_law_1272 : decode cL_law 1272 = .ok (.aload_n 1, 1) := by decide +kernel
theorem dL_law_1273 : decode cL_law 1273 = .ok (.aload_n 0, 1) := by decide +kernel
theorem dL_law_1274 : decode cL_law 1274 = .ok (.iload_n 3, 1) := by decide +kernel
theorem dL_law_1275 : decode cL_law 1275 = .ok (.iconst 1, 1) := by decide +kernel
theorem dL_law_1276 : decode cL_law 1276 = .ok (.iadd, 1) := by decide +kernel
theorem dL_law_1277 : decode cL_law 1277 = .ok (.iaload, 1) := by decide +kernel
theorem dL_law_1278 : decode cL_law 1278 = .ok (.aload_n 0, 1) := by decide +kernel
theorem dL_law_1279 : decode cL_law 1279 = .ok (.iload_n 3, 1) := by decide +kernel
theorem dL_law_1280 : decode cL_law 1280 = .ok (.iconst 2, 1) := by decide +kernel
theorem dL_law_1281 : decode cL_law 1281 = .ok (.iadd, 1) := by decide +kernel
theorem dL_law_1282 : decode cL_law 1282 = .ok (.iaload, 1) := by decide +kernel
theorem dL_law_1283 : decode cL_law 1283 = .ok (.aload_n 0, 1) := by decide +kernel
theorem dL_law_1284 : decode cL_law 1284 = .ok (.iload_n 3, 1) := by decide +kernel
theorem dL_law_1285 : decode cL_law 1285 = .ok (.iconst 3, 1) := by decide +kernel
theorem dL_law_1286 : decode cL_law 1286 = .ok (.iadd, 1) := by decide +kernel
theorem dL_law_1287 : decode cL_law 1287 = .ok (.iaload, 1) := by decide +kernel
theorem dL_law_1288 : decode cL_law 1288 = .ok (.aload_n 0, 1) := by decide +kernel
theorem dL_law_1289 : decode cL_law 1289 = .ok (.iload_n 3, 1) := by decide +kernel
theorem dL_law_1290 : decode cL_law 1290 = .ok (.iconst 4, 1) := by decide +kernel
theorem dL_law_1291 : decode cL_law 1291 = .ok (.iadd, 1) := by decide +kernel
theorem dL_law_1292 : decode cL_law 1292 = .ok (.iaload, 1) := by decide +kernel
theorem dL_law_1293 : decode cL_law 1293 = .ok (.invokevirtual 140, 3) := by decide +kernel
theorem dL_law_1296 : decode cL_law 1296 = .ok (.aload_n 2, 1) := by decide +kernel
theorem dL_law_1297 : decode cL_law 1297 = .ok (.aload_n 0, 1) := by decide +kernel
theorem dL_law_1298 : decode cL_law 1298 = .ok (.iload_n 3, 1) := by decide +kernel
theorem dL_law_1299 : decode cL_law 1299 = .ok (.iconst 1, 1) := by decide +kernel
theorem dL_law_1300 : decode cL_law 1300 = .ok (.iadd, 1) := by decide +kernel
theorem dL_law_1301 : decode cL_law 1301 = .ok (.iaload, 1) := by decide +kernel
theorem dL_law_1302 : decode cL_law 1302 = .ok (.aload_n 0, 1) := by decide +kernel
theorem dL_law_1303 : decode cL_law 1303 = .ok (.iload_n 3, 1) := by decide +kernel
theorem dL_law_1304 : decode cL_law 1304 = .ok (.iconst 2, 1) := by decide +kernel
theorem dL_law_1305 : decode cL_law 1305 = .ok (.iadd, 1) := by decide +kernel
theorem dL_law_1306 : decode cL_law 1306 = .ok (.iaload, 1) := by decide +kernel
theorem dL_law_1307 : decode cL_law 1307 = .ok (.aload_n 0, 1) := by decide +kernel
theorem dL_law_1308 : decode cL_law 1308 = .ok (.iload_n 3, 1) := by decide +kernel
theorem dL_law_1309 : decode cL_law 1309 = .ok (.iconst 3, 1) := by decide +kernel
theorem dL_law_1310 : decode cL_law 1310 = .ok (.iadd, 1) := by decide +kernel
theorem dL_law_1311 : decode cL_law 1311 = .ok (.iaload, 1) := by decide +kernel
theorem dL_law_1312 : decode cL_law 1312 = .ok (.aload_n 0, 1) := by decide +kernel
theorem dL_law_1313 : decode cL_law 1313 = .ok (.iload_n 3, 1) := by decide +kernel
theorem dL_law_1314 : decode cL_law 1314 = .ok (.iconst 4, 1) := by decide +kernel
theorem dL_law_1315 : decode cL_law 1315 = .ok (.iadd, 1) := by decide +kernel
theorem dL_law_1316 : decode cL_law 1316 = .ok (.iaload, 1) := by decide +kernel
theorem dL_law_1317 : decode cL_law 1317 = .ok (.invokevirtual 143, 3) := by decide +kernel
theorem dL_law_1320 : decode cL_law 1320 = .ok (.if_icmp .eq 28, 3) := by decide +kernel
theorem dL_law_1323 : decode cL_law 1323 = .ok (.iconst 0, 1) := by decide +kernel
theorem dL_law_1324 : decode cL_law 1324 = .ok (.ireturn, 1) := by decide +kernel
theorem dL_law_1325 : decode cL_law 1325 = .ok (.aload_n 1, 1) := by decide +kernel
theorem dL_law_1326 : decode cL_law 1326 = .ok (.aload_n 0, 1) := by decide +kernel
theorem dL_law_1327 : decode cL_law 1327 = .ok (.iload_n 3, 1) := by decide +kernel
theorem dL_law_1328 : decode cL_law 1328 = .ok (.iconst 1, 1) := by decide +kernel
theorem dL_law_1329 : decode cL_law 1329 = .ok (.iadd, 1) := by decide +kernel
theorem dL_law_1330 : decode cL_law 1330 = .ok (.iaload, 1) := by decide +kernel
theorem dL_law_1331 : decode cL_law 1331 = .ok (.invokevirtual 144, 3) := by decide +kernel
theorem dL_law_1334 : decode cL_law 1334 = .ok (.aload_n 2, 1) := by decide +kernel
theorem dL_law_1335 : decode cL_law 1335 = .ok (.aload_n 0, 1) := by decide +kernel
theorem dL_law_1336 : decode cL_law 1336 = .ok (.iload_n 3, 1) := by decide +kernel
theorem dL_law_1337 : decode cL_law 1337 = .ok (.iconst 1, 1) := by decide +kernel
theorem dL_law_1338 : decode cL_law 1338 = .ok (.iadd, 1) := by decide +kernel
theorem dL_law_1339 : decode cL_law 1339 = .ok (.iaload, 1) := by decide +kernel
theorem dL_law_1340 : decode cL_law 1340 = .ok (.invokevirtual 147, 3) := by decide +kernel
theorem dL_law_1343 : decode cL_law 1343 = .ok (.if_icmp .eq 5, 3) := by decide +kernel
theorem dL_law_1346 : decode cL_law 1346 = .ok (.iconst 0, 1) := by decide +kernel
theorem dL_law_1347 : decode cL_law 1347 = .ok (.ireturn, 1) := by decide +kernel
theorem dL_law_1348 : decode cL_law 1348 = .ok (.iinc 3 6, 3) := by decide +kernel
theorem dL_law_1351 : decode cL_law 1351 = .ok (.goto (-1333), 3) := by decide +kernel
theorem dL_law_1354 : decode cL_law 1354 = .ok (.iconst 1, 1) := by decide +kernel
theorem dL_law_1355 : decode cL_law 1355 = .ok (.ireturn, 1) := by decide +kernel
end
section
/-! THE PLAIN MACHINE: whole numbers (Int), cells by number, one judgement qb_R for the whole world. Each row of the kit that this class needs is turned into a row over qb_R. -/
-- values: an int, a cell (numbers from 1000 on: cells that nobody writes), a long
abbrev qb_V : Type := Int ⊕ (Nat ⊕ Int)
-- what the cells hold: cell, place
abbrev qb_H : Type := Nat → Int → Int
-- the cells' kinds: an object (class, its fields: a number, null or a cell), an int array of a length
abbrev qb_Sh : Type := List ((Nat × List (Option (Option Nat))) ⊕ Nat)
-- a method: name, bytes, locals, answer; frames, words; cells and slots that it makes
abbrev qb_M : Type := MethodName × ByteArray × Nat × Option FieldType × (Nat × Nat) × (Nat × Nat)
abbrev qb_nm (M : qb_M) : MethodName := M.1
abbrev qb_by (M : qb_M) : ByteArray := M.2.1
abbrev qb_ml (M : qb_M) : Nat := M.2.2.1
abbrev qb_rt (M : qb_M) : Option FieldType := M.2.2.2.1
abbrev qb_fr (M : qb_M) : Nat := M.2.2.2.2.1.1
abbrev qb_lo (M : qb_M) : Nat := M.2.2.2.2.1.2
abbrev qb_mc (M : qb_M) : Nat := M.2.2.2.2.2.1
abbrev qb_ms (M : qb_M) : Nat := M.2.2.2.2.2.2
abbrev qb_rm (M : qb_M) : Room := { frames := qb_fr M, cells := qb_mc M, slots := qb_ms M, locals := qb_lo M }
def qb_in (x : Int) : Prop := -2147483648 ≤ x ∧ x ≤ 2147483647
def qb_inL (x : Int) : Prop := -9223372036854775808 ≤ x ∧ x ≤ 9223372036854775807
def qb_tv (ad : Nat → Nat) : qb_V → Value
  | .inl i => .int (Int32.ofInt i)
  | .inr (.inl c) => .ref (ad c)
  | .inr (.inr j) => .long (Int64.ofInt j)
def qb_ok (n : Nat) : qb_V → Prop
  | .inl i => qb_in i
  | .inr (.inl c) => c < n ∨ 1000 ≤ c
  | .inr (.inr j) => qb_inL j
theorem qb_toI {x : Int} (h : qb_in x) : (Int32.ofInt x).toInt = x := Int32.toInt_ofInt_of_le (by have := h.1; simpa using this) (by have := h.2; omega)
theorem qb_toL {x : Int} (h : qb_inL x) : (Int64.ofInt x).toInt = x := Int64.toInt_ofInt_of_le (by have := h.1; simpa using this) (by have := h.2; omega)
theorem qb_eqI {x y : Int} (hx : qb_in x) (hy : qb_in y) : Int32.ofInt x = Int32.ofInt y ↔ x = y := by
  rw [← Int32.toInt_inj, qb_toI hx, qb_toI hy]
theorem qb_ltI {x y : Int} (hx : qb_in x) (hy : qb_in y) : Int32.ofInt x < Int32.ofInt y ↔ x < y := by
  rw [Int32.lt_iff_toInt_lt, qb_toI hx, qb_toI hy]
theorem qb_leI {x y : Int} (hx : qb_in x) (hy : qb_in y) : Int32.ofInt x ≤ Int32.ofInt y ↔ x ≤ y := by
  rw [Int32.le_iff_toInt_le, qb_toI hx, qb_toI hy]
theorem qb_0I : (0 : Int32) = Int32.ofInt 0 := rfl
theorem qb_in0 : qb_in 0 := ⟨by decide, by decide⟩
/-- the fields of an object -/
def qb_fv (ad : Nat → Nat) (f : Int → Int) (k : Nat) : Option (Option Nat) → Value
  | none => .int (Int32.ofInt (f k))
  | some none => .null
  | some (some c) => .ref (ad c)
def qb_fs (ad : Nat → Nat) (f : Int → Int) (sl : List (Option (Option Nat))) : List Value := sl.mapIdx (qb_fv ad f)
def qb_ce (ad : Nat → Nat) (cI : ClassId) (hp : qb_H) (k : Nat) (d : (Nat × List (Option (Option Nat))) ⊕ Nat) : Nat × va_E := (ad k, match d with
  | .inl o => .inr (o.1, qb_fs ad (hp k) o.2)
  | .inr n => .inl (cI, n, .inl (fun j => Int32.ofInt (hp k j))))
def qb_ws (ad : Nat → Nat) (cI : ClassId) (hp : qb_H) (sh : qb_Sh) : va_W := sh.mapIdx (qb_ce ad cI hp)
theorem qb_ws_at {ad : Nat → Nat} {cI : ClassId} {hp : qb_H} {sh : qb_Sh} {k : Nat} {d : (Nat × List (Option (Option Nat))) ⊕ Nat} (h : sh[k]? = some d) : (qb_ws ad cI hp sh)[k]? = some (qb_ce ad cI hp k d) := by
  simp [qb_ws, List.getElem?_mapIdx, h]
theorem qb_fs_at {ad : Nat → Nat} {f : Int → Int} {sl : List (Option (Option Nat))} {k : Nat} {d : Option (Option Nat)} (h : sl[k]? = some d) : (qb_fs ad f sl)[k]? = some (qb_fv ad f k d) := by
  simp [qb_fs, List.getElem?_mapIdx, h]
-- one place of one cell written
def qb_st (hp : qb_H) (c : Nat) (i v : Int) : qb_H := fun c' => if c' = c then (fun j => if j = i then v else hp c j) else hp c'
theorem qb_st_in {hp : qb_H} {c : Nat} {i v : Int} (h : ∀ c i, qb_in (hp c i)) (hv : qb_in v) : ∀ c' i', qb_in (qb_st hp c i v c' i') := by
  intro c' i'
  unfold qb_st
  by_cases e : c' = c
  · subst e
    simp only [if_true]
    split
    · exact hv
    · exact h _ _
  · rw [if_neg e]; exact h _ _
theorem qb_st_ne {hp : qb_H} {c c' : Nat} {i v : Int} (h : c' ≠ c) : qb_st hp c i v c' = hp c' := if_neg h
/-- the classes -/
def qb_wf (sh : qb_Sh) : Prop := sh.length ≤ 999 ∧ ∀ (k ci : Nat) (sl : List (Option (Option Nat))), sh[k]? = some (.inl (ci, sl)) → ∀ (j c : Nat), sl[j]? = some (some (some c)) → c < sh.length ∨ 1000 ≤ c
theorem qb_fs_ad {ad ad' : Nat → Nat} {n : Nat} {f : Int → Int} {sl : List (Option (Option Nat))} (hs : ∀ (j c : Nat), sl[j]? = some (some (some c)) → c < n ∨ 1000 ≤ c) (hE : ∀ k, (k < n ∨ 1000 ≤ k) → ad' k = ad k) : qb_fs ad' f sl = qb_fs ad f sl := by
  apply List.ext_getElem?
  intro j
  simp only [qb_fs, List.getElem?_mapIdx]
  rcases h : sl[j]? with _ | (_ | (_ | c))
  · rfl
  · rfl
  · rfl
  · show some (Value.ref (ad' c)) = some (Value.ref (ad c))
    rw [hE c (hs j c h)]
theorem qb_ws_push {ad ad' : Nat → Nat} {cI : ClassId} {hp hp' : qb_H} {sh : qb_Sh} {d : (Nat × List (Option (Option Nat))) ⊕ Nat} (hw : qb_wf sh) (hE : ∀ k, (k < sh.length ∨ 1000 ≤ k) → ad' k = ad k) (hh : ∀ k, k ≠ sh.length → hp' k = hp k) : qb_ws ad' cI hp' (sh ++ [d]) = qb_ws ad cI hp sh ++ [qb_ce ad' cI hp' sh.length d] := by
  apply List.ext_getElem?
  intro j
  have e0 : (qb_ws ad cI hp sh).length = sh.length := by simp [qb_ws]
  rcases Nat.lt_trichotomy j sh.length with h | h | h
  · rw [List.getElem?_append_left (by rw [e0]; exact h)]
    simp only [qb_ws, List.getElem?_mapIdx]
    rw [List.getElem?_append_left h]
    rcases hj : sh[j]? with _ | (⟨ci, sl⟩ | n)
    · rfl
    · show some (qb_ce ad' cI hp' j _) = some (qb_ce ad cI hp j _)
      simp only [qb_ce]
      rw [hE j (Or.inl h), hh j (Nat.ne_of_lt h), qb_fs_ad (hw.2 j ci sl hj) hE]
    · show some (qb_ce ad' cI hp' j _) = some (qb_ce ad cI hp j _)
      simp only [qb_ce]
      rw [hE j (Or.inl h), hh j (Nat.ne_of_lt h)]
  · subst h
    rw [List.getElem?_append_right (by rw [e0]; exact Nat.le_refl _), e0, Nat.sub_self]
    simp [qb_ws]
  · rw [List.getElem?_append_right (by rw [e0]; exact Nat.le_of_lt h), e0]
    simp only [qb_ws, List.getElem?_mapIdx]
    rw [List.getElem?_append_right (Nat.le_of_lt h)]
    obtain ⟨z, hz⟩ : ∃ z, j - sh.length = z + 1 := ⟨j - sh.length - 1, by omega⟩
    rw [hz]
    rfl
theorem qb_fs_put {ad : Nat → Nat} {f : Int → Int} {sl : List (Option (Option Nat))} {k : Nat} {x : Int} (hk : sl[k]? = some none) : (qb_fs ad f sl).set k (.int (Int32.ofInt x)) = qb_fs ad (fun j => if j = (k : Int) then x else f j) sl := by
  have hl : k < sl.length := (List.getElem?_eq_some_iff.mp hk).1
  apply List.ext_getElem?
  intro j
  simp only [qb_fs, List.getElem?_set, List.getElem?_mapIdx, List.length_mapIdx]
  by_cases e : k = j
  · subst e
    rw [if_pos rfl, if_pos hl, hk]
    simp [qb_fv]
  · rw [if_neg e]
    rcases hj : sl[j]? with _ | (_ | (_ | c))
    · rfl
    · show some (Value.int (Int32.ofInt (f j))) = some (Value.int (Int32.ofInt (if (j : Int) = (k : Int) then x else f j)))
      rw [if_neg (by omega)]
    · rfl
    · rfl
theorem qb_fs_putR {ad : Nat → Nat} {f : Int → Int} {sl : List (Option (Option Nat))} {k : Nat} {c : Nat} (hk : k < sl.length) : (qb_fs ad f sl).set k (.ref (ad c)) = qb_fs ad f (sl.set k (some (some c))) := by
  apply List.ext_getElem?
  intro j
  simp only [qb_fs, List.getElem?_set, List.getElem?_mapIdx, List.length_mapIdx]
  by_cases e : k = j
  · subst e
    rw [if_pos rfl, if_pos hk]
    simp [hk, qb_fv]
  · rw [if_neg e, if_neg e]
theorem qb_ws_put {ad : Nat → Nat} {cI : ClassId} {hp : qb_H} {sh : qb_Sh} {c k ci : Nat} {sl : List (Option (Option Nat))} {x : Int} (hs : sh[c]? = some (.inl (ci, sl))) (hk : sl[k]? = some none) : (qb_ws ad cI hp sh).set c (ad c, .inr (ci, (qb_fs ad (hp c) sl).set k (.int (Int32.ofInt x)))) = qb_ws ad cI (qb_st hp c k x) sh := by
  have hl : c < sh.length := (List.getElem?_eq_some_iff.mp hs).1
  apply List.ext_getElem?
  intro j
  simp only [qb_ws, List.getElem?_set, List.getElem?_mapIdx, List.length_mapIdx]
  by_cases e : c = j
  · subst e
    rw [if_pos rfl, if_pos hl, hs, qb_fs_put hk]
    simp [qb_ce, qb_st]
  · rw [if_neg e]
    rcases hj : sh[j]? with _ | (⟨ci', sl'⟩ | n)
    · rfl
    · show some (qb_ce _ _ _ _ _) = some (qb_ce _ _ _ _ _)
      simp only [qb_ce, qb_st_ne (Ne.symm e)]
    · show some (qb_ce _ _ _ _ _) = some (qb_ce _ _ _ _ _)
      simp only [qb_ce, qb_st_ne (Ne.symm e)]
theorem qb_ws_putR {ad : Nat → Nat} {cI : ClassId} {hp : qb_H} {sh : qb_Sh} {c k ci b : Nat} {sl : List (Option (Option Nat))} (hs : sh[c]? = some (.inl (ci, sl))) (hk : k < sl.length) : (qb_ws ad cI hp sh).set c (ad c, .inr (ci, (qb_fs ad (hp c) sl).set k (.ref (ad b)))) = qb_ws ad cI hp (sh.set c (.inl (ci, sl.set k (some (some b))))) := by
  have hl : c < sh.length := (List.getElem?_eq_some_iff.mp hs).1
  apply List.ext_getElem?
  intro j
  simp only [qb_ws, List.getElem?_set, List.getElem?_mapIdx, List.length_mapIdx]
  by_cases e : c = j
  · subst e
    rw [if_pos rfl, if_pos hl, qb_fs_putR hk, if_pos rfl, if_pos hl]
    simp [qb_ce]
  · rw [if_neg e, if_neg e]
theorem qb_ws_sto {ad : Nat → Nat} {cI : ClassId} {hp : qb_H} {sh : qb_Sh} {c n : Nat} {i x : Int} (hs : sh[c]? = some (.inr n)) (h0 : 0 ≤ i) (hi : qb_in i) : (qb_ws ad cI hp sh).set c (ad c, .inl (cI, n, .inl (upd (fun j => Int32.ofInt (hp c j)) (Int32.ofInt i).toNatClampNeg (Int32.ofInt x)))) = qb_ws ad cI (qb_st hp c i x) sh := by
  have hl : c < sh.length := (List.getElem?_eq_some_iff.mp hs).1
  have hi2 : (((Int32.ofInt i).toNatClampNeg : Nat) : Int) = i := by
    show (((Int32.ofInt i).toInt.toNat : Nat) : Int) = i
    rw [qb_toI hi]; omega
  apply List.ext_getElem?
  intro j
  simp only [qb_ws, List.getElem?_set, List.getElem?_mapIdx, List.length_mapIdx]
  by_cases e : c = j
  · subst e
    rw [if_pos rfl, if_pos hl, hs]
    simp only [Option.map_some, qb_ce, Option.some.injEq, Prod.mk.injEq, true_and, Sum.inl.injEq]
    funext q
    simp only [upd, qb_st, if_true]
    by_cases hq : q = (Int32.ofInt i).toNatClampNeg
    · rw [if_pos hq, if_pos (by rw [hq]; exact hi2)]
    · rw [if_neg hq, if_neg (by omega)]
  · rw [if_neg e]
    rcases hj : sh[j]? with _ | (⟨ci', sl'⟩ | n')
    · rfl
    · show some (qb_ce _ _ _ _ _) = some (qb_ce _ _ _ _ _)
      simp only [qb_ce, qb_st_ne (Ne.symm e)]
    · show some (qb_ce _ _ _ _ _) = some (qb_ce _ _ _ _ _)
      simp only [qb_ce, qb_st_ne (Ne.symm e)]
/-! the words that every method keeps; the context; the judgement -/
def qb_wg : List Cond := lw_tbl.filter goodWord
theorem qb_wg_in {w : Cond} (i : Nat) (h : lw_tbl[i]? = some w) (hg : goodWord w = true) : w ∈ qb_wg := List.mem_filter.mpr ⟨List.mem_of_getElem? h, hg⟩
theorem qb_wg_pos {ws : List Cond} (ps : List Nat) (h : ws = ps.filterMap (fun i => lw_tbl[i]?)) (hg : ws.all goodWord = true) : ∀ w ∈ ws, w ∈ qb_wg := by
  intro w hw
  have h1 := List.all_eq_true.mp hg w hw
  rw [h] at hw
  obtain ⟨i, -, hi⟩ := List.mem_filterMap.mp hw
  exact qb_wg_in i hi h1
theorem qb_wg_good : GoodIn qb_wg qb_wg := fun w hw => ⟨hw, good_of_word (List.mem_filter.mp hw).2⟩
theorem qb_wg_code {w : Cond} (hw : w ∈ qb_wg) : GoodIn qb_wg (w :: qb_wg) := fun v hv => (List.mem_cons.mp hv).elim (fun e => e ▸ qb_wg_good w hw) (qb_wg_good v)
def qb_low (j : Nat) : Int := [1, 100, 1, 0, 500, 0, 0].getD j 0
def qb_high (j : Nat) : Int := [72, 1500, 100, 50, 1500, 100, 100].getD j 0
-- the cells from 1000 on: the two tables of rules, the script; what the script holds (cell 1002), how long it is (cell 1003, place 0)
abbrev qb_S : Type := (Nat × Nat × Nat) × (Int → Int) × (Int → Int)
def qb_Sc (t : Nat) (x2 x3 : Int → Int) (A : Nat → Prop) (U : State) (H : Heap) : Prop := ∃ cell : Cell, H[t]? = some cell ∧ U.isArrayOf cell .int ∧ cell.vm ≠ .unknown ∧ (cell.slots.size : Int) = x3 0 ∧ (∀ j : Nat, j < cell.slots.size → cell.slots[j]? = some (.int (Int32.ofInt (x2 j)))) ∧ ¬ A t
def qb_Tb (t : Nat) (nm : String) (f : Nat → Int) (A : Nat → Prop) (U : State) (H : Heap) : Prop := va_Z RX10 nm "[I" (.ref t) A U H ∧ va_T .int t 7 (fun j => .int (Int32.ofInt (f j))) A U H
def qb_St (S : qb_S) (A : Nat → Prop) (U : State) (H : Heap) : Prop := qb_Tb S.1.1 "RULE_LOWEST" qb_low A U H ∧ qb_Tb S.1.2.1 "RULE_HIGHEST" qb_high A U H ∧ qb_Sc S.1.2.2 S.2.1 S.2.2 A U H
theorem qb_St.go {S : qb_S} {A B : Nat → Prop} {u U : State} {H H1 : Heap} (h : qb_St S A u H) (hvm : u.vm.Alike U.vm) (hq : ∀ a : Nat, a < H.size → ¬ A a → H1[a]? = H[a]?) (hB : ∀ a : Nat, a < H.size → ¬ A a → ¬ B a) : qb_St S B U H1 := by
  have tb : ∀ (t : Nat) (nm : String) (f : Nat → Int), qb_Tb t nm f A u H → qb_Tb t nm f B U H1 := by
    rintro t nm f ⟨⟨cf, kf, fi, fd, a, ce, h1, h2, h3, h4, h5, h6, h7, h8⟩, ⟨ce2, g1, g2, g3, g4, g5, g6, g7⟩⟩
    refine ⟨?_, ?_⟩
    · refine va_Z.moved hvm ⟨cf, kf, fi, fd, a, ce, h1, h2, h3, h4, ?_, h6, h7, ?_⟩
      · rw [hq a (Array.getElem?_eq_some_iff.mp h5).1 h8]; exact h5
      · exact hB a (Array.getElem?_eq_some_iff.mp h5).1 h8
    · refine va_T.moved hvm ⟨ce2, ?_, g2, g3, g4, g5, g6, ?_⟩
      · rw [hq t (Array.getElem?_eq_some_iff.mp g1).1 g7]; exact g1
      · exact hB t (Array.getElem?_eq_some_iff.mp g1).1 g7
  obtain ⟨h1, h2, ⟨ce, g1, g2, g3, g4, g5, g6⟩⟩ := h
  refine ⟨tb _ _ _ h1, tb _ _ _ h2, ce, ?_, State.isArrayOf_alike hvm g2, g3, g4, g5, ?_⟩
  · rw [hq _ (Array.getElem?_eq_some_iff.mp g1).1 g6]; exact g1
  · exact hB _ (Array.getElem?_eq_some_iff.mp g1).1 g6
abbrev qb_n1 : Cond := .methodLinkNest "QuayBrands" 36 ⟨"QuayBrands$Cask", "<init>", "()V"⟩ "QuayBrands"
abbrev qb_n2 : Cond := .methodLinkNest "QuayBrands$Acts" 30 ⟨"QuayBrands", "within", "(III)Z"⟩ "QuayBrands"
def qb_nest (U : State) : Prop := va_Nw qb_n1 U ∧ va_Nw qb_n2 U
def qb_Cx (M : qb_M) (p : Program) (s : State) (m : MethodId) (args : Array Value) (meth : Method) (c : Code) (D : va_G) (cI : ClassId) (S : qb_S) (A : Nat → Prop) : Prop :=
  p.tables.exec = Jvm.exec ∧ c.code = qb_by M ∧ c.maxLocals = qb_ml M ∧ meth.sig.returnType = qb_rt M ∧ meth.locks = false ∧ meth.name = (qb_nm M).name ∧ s.vm.findClass (qb_nm M).cls = some m.cls ∧ (∀ w ∈ qb_wg, w.before args s = true) ∧ va_K D vwCl [(cI, .int)] s ∧ qb_nest s ∧ (∀ q, s.heap.size ≤ q → A q) ∧ qb_St S A s s.heap
def qb_Wd (D : va_G) (cI : ClassId) (ad : Nat → Nat) (hp : qb_H) (sh : qb_Sh) (A : Nat → Prop) (H : Heap) : Prop :=
  va_P D vwCl (qb_ws ad cI hp sh) H ∧ va_D A (qb_ws ad cI hp sh) ∧ (∀ c i, qb_in (hp c i)) ∧ qb_wf sh
def qb_L (ad : Nat → Nat) (n nL : Nat) (ls : Array Slot) (L : List (Option qb_V)) : Prop := ls.size = nL ∧ lv_wf ls ∧ ∀ (i : Nat) (v : qb_V), L[i]? = some (some v) → qb_ok n v ∧ ls[i]? = some (.val (qb_tv ad v))
def qb_N (S : qb_S) (n0 : Nat) (ad0 ad : Nat → Nat) (hp : qb_H) (sh : qb_Sh) : Prop := ad 1000 = S.1.1 ∧ ad 1001 = S.1.2.1 ∧ ad 1002 = S.1.2.2 ∧ hp 1002 = S.2.1 ∧ hp 1003 = S.2.2 ∧ n0 ≤ sh.length ∧ ∀ k, (k < n0 ∨ 1000 ≤ k) → ad k = ad0 k
def qb_Q (D : va_G) (cI : ClassId) (S : qb_S) (n0 : Nat) (ad0 : Nat → Nat) (A : Nat → Prop) (Q : Option qb_V → qb_H → qb_Sh → Prop) : Array Value → State → Outcome → State → Prop := fun _ st oc t =>
  (∃ (r : Option qb_V) (hp : qb_H) (sh : qb_Sh) (ad : Nat → Nat), oc = .returned (r.map (qb_tv ad)) ∧ Q r hp sh ∧ (∀ v, r = some v → qb_ok sh.length v) ∧ qb_Wd D cI ad hp sh A t.heap ∧ qb_N S n0 ad0 ad hp sh) ∧ va_F A st t
/-- from here on the method M comes to its end, and the end has Q -/
def qb_R (M : qb_M) (cs ss : Nat) (sh : qb_Sh) (pc : Nat) (L : List (Option qb_V)) (st : List qb_V) (hp : qb_H) (Q : Option qb_V → qb_H → qb_Sh → Prop) : Prop :=
  ∀ (p : Program) (l : Launch) (e : Env) (s : State) (m : MethodId) (args : Array Value) (below : List Frame) (meth : Method) (c : Code) (D : va_G) (cI : ClassId) (S : qb_S) (n0 : Nat) (ad0 ad : Nat → Nat) (A : Nat → Prop) (H : Heap) (locs : List Loc) (ls : Array Slot),
    qb_Cx M p s m args meth c D cI S A → qb_Wd D cI ad hp sh A H → va_S A s.heap H locs → qb_L ad sh.length (qb_ml M) ls L → (∀ v ∈ st, qb_ok sh.length v) → qb_N S n0 ad0 ad hp sh →
    W p l e (qb_rm M) s m args below meth c H locs cs ss (MQ below (qb_Q D cI S n0 ad0 A Q) args s (qb_mc M) (qb_ms M) A) (F0 m pc ls (st.map (qb_tv ad)))
theorem qb_st2 {n : Nat} {a b : qb_V} {st : List qb_V} (h : ∀ v ∈ a :: b :: st, qb_ok n v) : qb_ok n a ∧ qb_ok n b ∧ ∀ v ∈ st, qb_ok n v := ⟨h _ List.mem_cons_self, h _ (List.mem_cons_of_mem _ List.mem_cons_self), fun v hv => h v (List.mem_cons_of_mem _ (List.mem_cons_of_mem _ hv))⟩
theorem qb_st1 {n : Nat} {a : qb_V} {st : List qb_V} (h : ∀ v ∈ a :: st, qb_ok n v) : qb_ok n a ∧ ∀ v ∈ st, qb_ok n v := ⟨h _ List.mem_cons_self, fun v hv => h v (List.mem_cons_of_mem _ hv)⟩
theorem qb_stc {n : Nat} {a : qb_V} {st : List qb_V} (ha : qb_ok n a) (h : ∀ v ∈ st, qb_ok n v) : ∀ v ∈ a :: st, qb_ok n v := List.forall_mem_cons.mpr ⟨ha, h⟩
/-- the locals as the kit lists them -/
def qb_lv (ad : Nat → Nat) (L : List (Option qb_V)) : List (Nat × Value) := (L.mapIdx (fun i v => v.map (fun w => (i, qb_tv ad w)))).filterMap id
theorem qb_lv_mem {ad : Nat → Nat} {L : List (Option qb_V)} {q : Nat × Value} : q ∈ qb_lv ad L ↔ ∃ v, L[q.1]? = some (some v) ∧ q.2 = qb_tv ad v := by
  unfold qb_lv
  rw [List.mem_filterMap]
  constructor
  · rintro ⟨o, ho, h⟩
    obtain ⟨i, hi⟩ := List.getElem?_of_mem ho
    rw [List.getElem?_mapIdx] at hi
    rcases hL : L[i]? with _ | w
    · rw [hL] at hi; cases hi
    · rw [hL] at hi
      simp only [Option.map_some, Option.some.injEq] at hi
      subst hi
      rcases w with _ | w
      · cases h
      · simp only [Option.map_some, id, Option.some.injEq] at h
        subst h
        exact ⟨w, hL, rfl⟩
  · rintro ⟨v, hv, he⟩
    refine ⟨some q, ?_, rfl⟩
    apply List.mem_of_getElem? (i := q.1)
    rw [List.getElem?_mapIdx, hv]
    simp only [Option.map_some, ← he]
theorem qb_L.has {ad : Nat → Nat} {n nL : Nat} {ls : Array Slot} {L : List (Option qb_V)} (h : qb_L ad n nL ls L) : lv_has ls nL (qb_lv ad L) := by
  refine ⟨h.1, h.2.1, fun q hq => ?_⟩
  obtain ⟨v, h1, h2⟩ := qb_lv_mem.mp hq
  rw [h2]
  exact (h.2.2 q.1 v h1).2
/-- a word of one slot is stored: what lies ahead of it is no long -/
def qb_sto (L : List (Option qb_V)) (i : Nat) (v : qb_V) : List (Option qb_V) := L.set i (some v)
def qb_noL (L : List (Option qb_V)) (i : Nat) : Prop := ∀ j x, L[j]? = some (some (.inr (.inr x))) → j + 1 ≠ i
def qb_nl (L : List (Option qb_V)) (i : Nat) : Bool := match i with
  | 0 => true
  | k + 1 => match L[k]? with
    | some (some (.inr (.inr _))) => false
    | _ => true
theorem qb_nl_ok {L : List (Option qb_V)} {i : Nat} (h : qb_nl L i = true) : qb_noL L i := by
  intro j x hj e
  subst e
  simp [qb_nl, hj] at h
theorem qb_L.st1 {ad : Nat → Nat} {n nL : Nat} {ls ls' : Array Slot} {L : List (Option qb_V)} {i : Nat} {v : qb_V} {w : Value} (h : qb_L ad n nL ls L) (hv : qb_ok n v) (hw : qb_tv ad v = w) (hl : qb_noL L i)
    (h' : lv_has ls' nL ((i, w) :: (qb_lv ad L).filter (fun q => !(q.1 == i) && !(q.1 + 1 == i && q.2.category == 2)))) : qb_L ad n nL ls' (qb_sto L i v) := by
  refine ⟨h'.1, h'.2.1, fun j u hj => ?_⟩
  unfold qb_sto at hj
  rw [List.getElem?_set] at hj
  by_cases e : i = j
  · subst e
    rw [if_pos rfl] at hj
    split at hj
    · simp only [Option.some.injEq] at hj
      subst hj
      exact ⟨hv, by rw [hw]; exact h'.2.2 (i, w) List.mem_cons_self⟩
    · cases hj
  · rw [if_neg e] at hj
    refine ⟨(h.2.2 j u hj).1, h'.2.2 (j, qb_tv ad u) (List.mem_cons_of_mem _ (List.mem_filter.mpr ⟨qb_lv_mem.mpr ⟨u, hj, rfl⟩, ?_⟩))⟩
    have e1 : (j == i) = false := by simpa using fun h => e h.symm
    simp only [e1, Bool.not_false, Bool.true_and, Bool.not_eq_true', Bool.and_eq_false_iff, beq_eq_false_iff_ne]
    by_cases e2 : j + 1 = i
    · right
      rcases u with x | x | x
      · exact fun h => by simp [qb_tv, Value.category] at h
      · exact fun h => by simp [qb_tv, Value.category] at h
      · exact absurd e2 (hl j x hj)
    · exact Or.inl e2
theorem qb_L.st2 {ad : Nat → Nat} {n nL : Nat} {ls ls' : Array Slot} {L : List (Option qb_V)} {i : Nat} {v : qb_V} {w : Value} (h : qb_L ad n nL ls L) (hv : qb_ok n v) (hw : qb_tv ad v = w) (hl : qb_noL L i)
    (h' : lv_has ls' nL ((i, w) :: (qb_lv ad L).filter (fun q => !(q.1 == i) && (!(q.1 == i + 1) && !(q.1 + 1 == i && q.2.category == 2))))) : qb_L ad n nL ls' ((L.set i (some v)).set (i + 1) none) := by
  refine ⟨h'.1, h'.2.1, fun j u hj => ?_⟩
  rw [List.getElem?_set] at hj
  by_cases e3 : i + 1 = j
  · rw [if_pos e3] at hj
    split at hj <;> cases hj
  rw [if_neg e3, List.getElem?_set] at hj
  by_cases e : i = j
  · subst e
    rw [if_pos rfl] at hj
    split at hj
    · simp only [Option.some.injEq] at hj
      subst hj
      exact ⟨hv, by rw [hw]; exact h'.2.2 (i, w) List.mem_cons_self⟩
    · cases hj
  · rw [if_neg e] at hj
    refine ⟨(h.2.2 j u hj).1, h'.2.2 (j, qb_tv ad u) (List.mem_cons_of_mem _ (List.mem_filter.mpr ⟨qb_lv_mem.mpr ⟨u, hj, rfl⟩, ?_⟩))⟩
    have e1 : (j == i) = false := by simpa using fun h => e h.symm
    have e4 : (j == i + 1) = false := by simpa using fun h => e3 h.symm
    simp only [e1, e4, Bool.not_false, Bool.true_and, Bool.not_eq_true', Bool.and_eq_false_iff, beq_eq_false_iff_ne]
    by_cases e2 : j + 1 = i
    · right
      rcases u with x | x | x
      · exact fun h => by simp [qb_tv, Value.category] at h
      · exact fun h => by simp [qb_tv, Value.category] at h
      · exact absurd e2 (hl j x hj)
    · exact Or.inl e2
/-- fewer locals known -/
theorem qb_less {M : qb_M} {cs ss : Nat} {sh : qb_Sh} {pc : Nat} {L L' : List (Option qb_V)} {st : List qb_V} {hp : qb_H} {Q : Option qb_V → qb_H → qb_Sh → Prop} (h : ∀ (i : Nat) (v : qb_V), L'[i]? = some (some v) → L[i]? = some (some v)) (k : qb_R M cs ss sh pc L' st hp Q) : qb_R M cs ss sh pc L st hp Q := by
  intro p l e s m args below meth c D cI S n0 ad0 ad A H locs ls hC hW hS hL hst hN
  exact k p l e s m args below meth c D cI S n0 ad0 ad A H locs ls hC hW hS ⟨hL.1, hL.2.1, fun i v hi => hL.2.2 i v (h i v hi)⟩ hst hN
theorem qb_mono {M : qb_M} {cs ss : Nat} {sh : qb_Sh} {pc : Nat} {L : List (Option qb_V)} {st : List qb_V} {hp : qb_H} {Q Q' : Option qb_V → qb_H → qb_Sh → Prop} (h : qb_R M cs ss sh pc L st hp Q) (hq : ∀ r hp' sh', Q r hp' sh' → Q' r hp' sh') : qb_R M cs ss sh pc L st hp Q' := by
  intro p l e s m args below meth c D cI S n0 ad0 ad A H locs ls hC hW hS hL hst hN T hT X
  obtain ⟨t, h1, o, h2, h3, ⟨⟨r, hp', sh', ad', q1, q2, q3⟩, q4⟩, h5⟩ := h p l e s m args below meth c D cI S n0 ad0 ad A H locs ls hC hW hS hL hst hN T hT X
  exact ⟨t, h1, o, h2, h3, ⟨⟨r, hp', sh', ad', q1, hq _ _ _ q2, q3⟩, q4⟩, h5⟩
/-- what a place ahead needs not know of the locals -/
def qb_mask : List Bool → List (Option qb_V) → List (Option qb_V)
  | b :: bs, v :: vs => (if b then v else none) :: qb_mask bs vs
  | _, _ => []
theorem qb_mask_le : ∀ (bs : List Bool) (L : List (Option qb_V)) (i : Nat) (v : qb_V), (qb_mask bs L)[i]? = some (some v) → L[i]? = some (some v) := by
  intro bs
  induction bs with
  | nil => intro L i v h; simp [qb_mask] at h
  | cons b bs ih =>
    intro L i v h
    rcases L with _ | ⟨w, L⟩
    · simp [qb_mask] at h
    · rcases i with _ | i
      · simp only [qb_mask, List.getElem?_cons_zero, Option.some.injEq] at h ⊢
        split at h
        · exact h
        · cases h
      · simp only [qb_mask, List.getElem?_cons_succ] at h ⊢
        exact ih L i v h
theorem qb_cut {M : qb_M} {cs ss : Nat} {sh : qb_Sh} {pc : Nat} {L L' : List (Option qb_V)} {st : List qb_V} {hp : qb_H} {Q : Option qb_V → qb_H → qb_Sh → Prop} (bs : List Bool) (h : qb_mask bs L = L') (k : qb_R M cs ss sh pc L' st hp Q) : qb_R M cs ss sh pc L st hp Q := by
  subst h
  exact qb_less (qb_mask_le bs L) k
abbrev qb_i (x : Int) : Option qb_V := some (.inl x)
abbrev qb_a (c : Nat) : Option qb_V := some (.inr (.inl c))
abbrev qb_l (x : Int) : Option qb_V := some (.inr (.inr x))
theorem qb_rds {hp : qb_H} {c : Nat} {i x : Int} : qb_st hp c i x c i = x := by simp [qb_st]
end
section
/-! rows over qb_R, by program (wip/whole/gen/rows.py) -/
section
variable {M : qb_M} {cs ss : Nat} {sh : qb_Sh} {pc : Nat} {L : List (Option qb_V)} {st : List qb_V} {hp : qb_H} {Q : Option qb_V → qb_H → qb_Sh → Prop} {L' : List (Option qb_V)}
theorem qb_in_lit {n : Int} (h : (decide (-2147483648 ≤ n) && decide (n ≤ 2147483647)) = true) : qb_in n := by
  simp only [Bool.and_eq_true, decide_eq_true_eq] at h
  exact h
theorem qb_iconst {pc' : Nat} {n : Int} (d : decode (qb_by M) pc = .ok (.iconst n, 1)) (hpc : pc + 1 = pc') (h : (decide (-2147483648 ≤ n) && decide (n ≤ 2147483647)) = true) (k : qb_R M cs ss sh pc' L (.inl n :: st) hp Q) : qb_R M cs ss sh pc L (st) hp Q := by
  subst hpc
  intro p l e s m args below meth c D cI S n0 ad0 ad A H locs ls hC hW hS hL hst hN
  refine lv_iconst hC.1 hC.2.1 d rfl ?_
  exact k p l e s m args below meth c D cI S n0 ad0 ad A H locs ls hC hW hS hL (qb_stc (a := .inl n) (qb_in_lit h) hst) hN
theorem qb_bipush {pc' : Nat} {n : Int} (d : decode (qb_by M) pc = .ok (.bipush n, 2)) (hpc : pc + 2 = pc') (h : (decide (-2147483648 ≤ n) && decide (n ≤ 2147483647)) = true) (hv : (Int8.ofInt n).toInt32 = Int32.ofInt n) (k : qb_R M cs ss sh pc' L (.inl n :: st) hp Q) : qb_R M cs ss sh pc L (st) hp Q := by
  subst hpc
  intro p l e s m args below meth c D cI S n0 ad0 ad A H locs ls hC hW hS hL hst hN
  refine lv_bipush hC.1 hC.2.1 d hv ?_
  exact k p l e s m args below meth c D cI S n0 ad0 ad A H locs ls hC hW hS hL (qb_stc (a := .inl n) (qb_in_lit h) hst) hN
theorem qb_sipush {pc' : Nat} {n : Int} (d : decode (qb_by M) pc = .ok (.sipush n, 3)) (hpc : pc + 3 = pc') (h : (decide (-2147483648 ≤ n) && decide (n ≤ 2147483647)) = true) (hv : (Int16.ofInt n).toInt32 = Int32.ofInt n) (k : qb_R M cs ss sh pc' L (.inl n :: st) hp Q) : qb_R M cs ss sh pc L (st) hp Q := by
  subst hpc
  intro p l e s m args below meth c D cI S n0 ad0 ad A H locs ls hC hW hS hL hst hN
  refine lv_sipush hC.1 hC.2.1 d hv ?_
  exact k p l e s m args below meth c D cI S n0 ad0 ad A H locs ls hC hW hS hL (qb_stc (a := .inl n) (qb_in_lit h) hst) hN
theorem qb_ldcw {pc' : Nat} {idx : Nat} {n : Int} (d : decode (qb_by M) pc = .ok (.ldc_w idx, 3)) (hpc : pc + 3 = pc') (h : (decide (-2147483648 ≤ n) && decide (n ≤ 2147483647)) = true) (hw : Cond.constant (qb_nm M).cls idx (Int32.ofInt n) ∈ qb_wg) (k : qb_R M cs ss sh pc' L (.inl n :: st) hp Q) : qb_R M cs ss sh pc L (st) hp Q := by
  subst hpc
  intro p l e s m args below meth c D cI S n0 ad0 ad A H locs ls hC hW hS hL hst hN
  refine lv_ldcw hC.1 hC.2.1 hC.2.2.2.2.2.2.1 (hC.2.2.2.2.2.2.2.1 _ hw) d ?_
  exact k p l e s m args below meth c D cI S n0 ad0 ad A H locs ls hC hW hS hL (qb_stc (a := .inl n) (qb_in_lit h) hst) hN
theorem qb_ldc2 {pc' : Nat} {idx : Nat} {n : Int} (d : decode (qb_by M) pc = .ok (.ldc2_w idx, 3)) (hpc : pc + 3 = pc') (h : qb_inL n) (hw : Cond.constantLong (qb_nm M).cls idx (Int64.ofInt n) ∈ qb_wg) (k : qb_R M cs ss sh pc' L (.inr (.inr n) :: st) hp Q) : qb_R M cs ss sh pc L (st) hp Q := by
  subst hpc
  intro p l e s m args below meth c D cI S n0 ad0 ad A H locs ls hC hW hS hL hst hN
  refine lv_ldc2 hC.1 hC.2.1 hC.2.2.2.2.2.2.1 (hC.2.2.2.2.2.2.2.1 _ hw) d ?_
  exact k p l e s m args below meth c D cI S n0 ad0 ad A H locs ls hC hW hS hL (qb_stc (a := .inr (.inr n)) h hst) hN
theorem qb_lconst {pc' : Nat} {n : Fin 2} (d : decode (qb_by M) pc = .ok (.lconst n, 1)) (hpc : pc + 1 = pc') (k : qb_R M cs ss sh pc' L (.inr (.inr ((n : Nat) : Int)) :: st) hp Q) : qb_R M cs ss sh pc L (st) hp Q := by
  subst hpc
  intro p l e s m args below meth c D cI S n0 ad0 ad A H locs ls hC hW hS hL hst hN
  refine lv_lconst (v := Int64.ofInt ((n : Nat) : Int)) hC.1 hC.2.1 d rfl ?_
  exact k p l e s m args below meth c D cI S n0 ad0 ad A H locs ls hC hW hS hL (qb_stc (a := .inr (.inr ((n : Nat) : Int))) (by have := n.isLt; constructor <;> omega) hst) hN
theorem qb_iloadn {pc' : Nat} {k : Fin 4} {i : Nat} {x : Int} (d : decode (qb_by M) pc = .ok (.iload_n k, 1)) (hpc : pc + 1 = pc') (hi : (k : Nat) = i) (hl : L[i]? = some (some (.inl x))) (kk : qb_R M cs ss sh pc' L (.inl x :: st) hp Q) : qb_R M cs ss sh pc L (st) hp Q := by
  subst hpc
  intro p l e s m args below meth c D cI S n0 ad0 ad A H locs ls hC hW hS hL hst hN
  have hv := hL.2.2 i _ hl
  refine lv_iload_n hC.1 hC.2.1 d hi hv.2 ?_
  exact kk p l e s m args below meth c D cI S n0 ad0 ad A H locs ls hC hW hS hL (qb_stc hv.1 hst) hN
theorem qb_iload {pc' : Nat} {i : Nat} {x : Int} (d : decode (qb_by M) pc = .ok (.iload i, 2)) (hpc : pc + 2 = pc') (hl : L[i]? = some (some (.inl x))) (kk : qb_R M cs ss sh pc' L (.inl x :: st) hp Q) : qb_R M cs ss sh pc L (st) hp Q := by
  subst hpc
  intro p l e s m args below meth c D cI S n0 ad0 ad A H locs ls hC hW hS hL hst hN
  have hv := hL.2.2 i _ hl
  refine lv_iload hC.1 hC.2.1 d hv.2 ?_
  exact kk p l e s m args below meth c D cI S n0 ad0 ad A H locs ls hC hW hS hL (qb_stc hv.1 hst) hN
theorem qb_aloadn {pc' : Nat} {k : Fin 4} {i : Nat} {x : Nat} (d : decode (qb_by M) pc = .ok (.aload_n k, 1)) (hpc : pc + 1 = pc') (hi : (k : Nat) = i) (hl : L[i]? = some (some (.inr (.inl x)))) (kk : qb_R M cs ss sh pc' L (.inr (.inl x) :: st) hp Q) : qb_R M cs ss sh pc L (st) hp Q := by
  subst hpc
  intro p l e s m args below meth c D cI S n0 ad0 ad A H locs ls hC hW hS hL hst hN
  have hv := hL.2.2 i _ hl
  refine lv_aload_n hC.1 hC.2.1 d hi hv.2 ?_
  exact kk p l e s m args below meth c D cI S n0 ad0 ad A H locs ls hC hW hS hL (qb_stc hv.1 hst) hN
theorem qb_aload {pc' : Nat} {i : Nat} {x : Nat} (d : decode (qb_by M) pc = .ok (.aload i, 2)) (hpc : pc + 2 = pc') (hl : L[i]? = some (some (.inr (.inl x)))) (kk : qb_R M cs ss sh pc' L (.inr (.inl x) :: st) hp Q) : qb_R M cs ss sh pc L (st) hp Q := by
  subst hpc
  intro p l e s m args below meth c D cI S n0 ad0 ad A H locs ls hC hW hS hL hst hN
  have hv := hL.2.2 i _ hl
  refine lv_aload hC.1 hC.2.1 d hv.2 ?_
  exact kk p l e s m args below meth c D cI S n0 ad0 ad A H locs ls hC hW hS hL (qb_stc hv.1 hst) hN
theorem qb_lloadn {pc' : Nat} {k : Fin 4} {i : Nat} {x : Int} (d : decode (qb_by M) pc = .ok (.lload_n k, 1)) (hpc : pc + 1 = pc') (hi : (k : Nat) = i) (hl : L[i]? = some (some (.inr (.inr x)))) (kk : qb_R M cs ss sh pc' L (.inr (.inr x) :: st) hp Q) : qb_R M cs ss sh pc L (st) hp Q := by
  subst hpc
  intro p l e s m args below meth c D cI S n0 ad0 ad A H locs ls hC hW hS hL hst hN
  have hv := hL.2.2 i _ hl
  refine lv_lload_n hC.1 hC.2.1 d hi hv.2 ?_
  exact kk p l e s m args below meth c D cI S n0 ad0 ad A H locs ls hC hW hS hL (qb_stc hv.1 hst) hN
theorem qb_lload {pc' : Nat} {i : Nat} {x : Int} (d : decode (qb_by M) pc = .ok (.lload i, 2)) (hpc : pc + 2 = pc') (hl : L[i]? = some (some (.inr (.inr x)))) (kk : qb_R M cs ss sh pc' L (.inr (.inr x) :: st) hp Q) : qb_R M cs ss sh pc L (st) hp Q := by
  subst hpc
  intro p l e s m args below meth c D cI S n0 ad0 ad A H locs ls hC hW hS hL hst hN
  have hv := hL.2.2 i _ hl
  refine lv_lload hC.1 hC.2.1 d hv.2 ?_
  exact kk p l e s m args below meth c D cI S n0 ad0 ad A H locs ls hC hW hS hL (qb_stc hv.1 hst) hN
theorem qb_istoren {pc' : Nat} {k : Fin 4} {i : Nat} {x : Int} (d : decode (qb_by M) pc = .ok (.istore_n k, 1)) (hpc : pc + 1 = pc') (hi : (k : Nat) = i) (hn : i < qb_ml M) (hnl : qb_nl L i = true) (hL' : qb_sto L i (.inl x) = L') (kk : qb_R M cs ss sh pc' L' (st) hp Q) : qb_R M cs ss sh pc L (.inl x :: st) hp Q := by
  subst hpc
  subst hL'
  intro p l e s m args below meth c D cI S n0 ad0 ad A H locs ls hC hW hS hL hst hN
  have h2 := qb_st1 hst
  refine lv_istore_n hC.1 hC.2.1 d hi hL.has hn rfl (fun ls' hl' => ?_)
  exact kk p l e s m args below meth c D cI S n0 ad0 ad A H locs ls' hC hW hS (hL.st1 h2.1 rfl (qb_nl_ok hnl) hl') h2.2 hN
theorem qb_istore {pc' : Nat} {i : Nat} {x : Int} (d : decode (qb_by M) pc = .ok (.istore i, 2)) (hpc : pc + 2 = pc') (hn : i < qb_ml M) (hnl : qb_nl L i = true) (hL' : qb_sto L i (.inl x) = L') (kk : qb_R M cs ss sh pc' L' (st) hp Q) : qb_R M cs ss sh pc L (.inl x :: st) hp Q := by
  subst hpc
  subst hL'
  intro p l e s m args below meth c D cI S n0 ad0 ad A H locs ls hC hW hS hL hst hN
  have h2 := qb_st1 hst
  refine lv_istore hC.1 hC.2.1 d hL.has hn rfl (fun ls' hl' => ?_)
  exact kk p l e s m args below meth c D cI S n0 ad0 ad A H locs ls' hC hW hS (hL.st1 h2.1 rfl (qb_nl_ok hnl) hl') h2.2 hN
theorem qb_astoren {pc' : Nat} {k : Fin 4} {i : Nat} {x : Nat} (d : decode (qb_by M) pc = .ok (.astore_n k, 1)) (hpc : pc + 1 = pc') (hi : (k : Nat) = i) (hn : i < qb_ml M) (hnl : qb_nl L i = true) (hL' : qb_sto L i (.inr (.inl x)) = L') (kk : qb_R M cs ss sh pc' L' (st) hp Q) : qb_R M cs ss sh pc L (.inr (.inl x) :: st) hp Q := by
  subst hpc
  subst hL'
  intro p l e s m args below meth c D cI S n0 ad0 ad A H locs ls hC hW hS hL hst hN
  have h2 := qb_st1 hst
  refine lv_astore_n hC.1 hC.2.1 d hi hL.has hn rfl (fun ls' hl' => ?_)
  exact kk p l e s m args below meth c D cI S n0 ad0 ad A H locs ls' hC hW hS (hL.st1 h2.1 rfl (qb_nl_ok hnl) hl') h2.2 hN
theorem qb_astore {pc' : Nat} {i : Nat} {x : Nat} (d : decode (qb_by M) pc = .ok (.astore i, 2)) (hpc : pc + 2 = pc') (hn : i < qb_ml M) (hnl : qb_nl L i = true) (hL' : qb_sto L i (.inr (.inl x)) = L') (kk : qb_R M cs ss sh pc' L' (st) hp Q) : qb_R M cs ss sh pc L (.inr (.inl x) :: st) hp Q := by
  subst hpc
  subst hL'
  intro p l e s m args below meth c D cI S n0 ad0 ad A H locs ls hC hW hS hL hst hN
  have h2 := qb_st1 hst
  refine lv_astore hC.1 hC.2.1 d hL.has hn rfl (fun ls' hl' => ?_)
  exact kk p l e s m args below meth c D cI S n0 ad0 ad A H locs ls' hC hW hS (hL.st1 h2.1 rfl (qb_nl_ok hnl) hl') h2.2 hN
theorem qb_lstoren {pc' : Nat} {k : Fin 4} {i : Nat} {x : Int} (d : decode (qb_by M) pc = .ok (.lstore_n k, 1)) (hpc : pc + 1 = pc') (hi : (k : Nat) = i) (hn : i + 1 < qb_ml M) (hnl : qb_nl L i = true) (hL' : (L.set i (some (.inr (.inr x)))).set (i + 1) none = L') (kk : qb_R M cs ss sh pc' L' (st) hp Q) : qb_R M cs ss sh pc L (.inr (.inr x) :: st) hp Q := by
  subst hpc
  subst hL'
  intro p l e s m args below meth c D cI S n0 ad0 ad A H locs ls hC hW hS hL hst hN
  have h2 := qb_st1 hst
  refine lv_lstore_n hC.1 hC.2.1 d hi hL.has hn rfl (fun ls' hl' => ?_)
  exact kk p l e s m args below meth c D cI S n0 ad0 ad A H locs ls' hC hW hS (hL.st2 h2.1 rfl (qb_nl_ok hnl) hl') h2.2 hN
theorem qb_lstore {pc' : Nat} {i : Nat} {x : Int} (d : decode (qb_by M) pc = .ok (.lstore i, 2)) (hpc : pc + 2 = pc') (hn : i + 1 < qb_ml M) (hnl : qb_nl L i = true) (hL' : (L.set i (some (.inr (.inr x)))).set (i + 1) none = L') (kk : qb_R M cs ss sh pc' L' (st) hp Q) : qb_R M cs ss sh pc L (.inr (.inr x) :: st) hp Q := by
  subst hpc
  subst hL'
  intro p l e s m args below meth c D cI S n0 ad0 ad A H locs ls hC hW hS hL hst hN
  have h2 := qb_st1 hst
  refine lv_lstore hC.1 hC.2.1 d hL.has hn rfl (fun ls' hl' => ?_)
  exact kk p l e s m args below meth c D cI S n0 ad0 ad A H locs ls' hC hW hS (hL.st2 h2.1 rfl (qb_nl_ok hnl) hl') h2.2 hN
theorem qb_iinc {pc' : Nat} {i : Nat} {x n : Int} (d : decode (qb_by M) pc = .ok (.iinc i n, 3)) (hpc : pc + 3 = pc') (hx : L[i]? = some (some (.inl x))) (hr : qb_in (x + n)) (hn : i < qb_ml M) (hnl : qb_nl L i = true) (hL' : qb_sto L i (.inl (x + n)) = L') (kk : qb_R M cs ss sh pc' L' (st) hp Q) : qb_R M cs ss sh pc L (st) hp Q := by
  subst hpc
  subst hL'
  intro p l e s m args below meth c D cI S n0 ad0 ad A H locs ls hC hW hS hL hst hN
  obtain ⟨j, hj⟩ := List.getElem?_of_mem (qb_lv_mem.mpr ⟨.inl x, hx, rfl⟩ : (i, qb_tv ad (.inl x)) ∈ qb_lv ad L)
  refine lv_iinc (v := Int32.ofInt (x + n)) (x := Int32.ofInt x) hC.1 hC.2.1 d hL.has hj (Int32.ofInt_add x n).symm hn rfl (fun ls' hl' => ?_)
  exact kk p l e s m args below meth c D cI S n0 ad0 ad A H locs ls' hC hW hS (hL.st1 (v := .inl (x + n)) hr rfl (qb_nl_ok hnl) hl') hst hN
theorem qb_iadd {pc' : Nat} {x y : Int} (d : decode (qb_by M) pc = .ok (.iadd, 1)) (hpc : pc + 1 = pc') (hr : qb_in (x + y)) (kk : qb_R M cs ss sh pc' L (.inl (x + y) :: st) hp Q) : qb_R M cs ss sh pc L (.inl y :: .inl x :: st) hp Q := by
  subst hpc
  intro p l e s m args below meth c D cI S n0 ad0 ad A H locs ls hC hW hS hL hst hN
  have h2 := qb_st2 hst
  refine lv_iadd (x := Int32.ofInt x) (y := Int32.ofInt y) hC.1 hC.2.1 d ?_
  rw [← Int32.ofInt_add]
  exact kk p l e s m args below meth c D cI S n0 ad0 ad A H locs ls hC hW hS hL (qb_stc (a := .inl (x + y)) hr h2.2.2) hN
theorem qb_isub {pc' : Nat} {x y : Int} (d : decode (qb_by M) pc = .ok (.isub, 1)) (hpc : pc + 1 = pc') (hr : qb_in (x - y)) (kk : qb_R M cs ss sh pc' L (.inl (x - y) :: st) hp Q) : qb_R M cs ss sh pc L (.inl y :: .inl x :: st) hp Q := by
  subst hpc
  intro p l e s m args below meth c D cI S n0 ad0 ad A H locs ls hC hW hS hL hst hN
  have h2 := qb_st2 hst
  refine lv_isub (x := Int32.ofInt x) (y := Int32.ofInt y) hC.1 hC.2.1 d ?_
  rw [← Int32.ofInt_sub]
  exact kk p l e s m args below meth c D cI S n0 ad0 ad A H locs ls hC hW hS hL (qb_stc (a := .inl (x - y)) hr h2.2.2) hN
theorem qb_imul {pc' : Nat} {x y : Int} (d : decode (qb_by M) pc = .ok (.imul, 1)) (hpc : pc + 1 = pc') (hr : qb_in (x * y)) (kk : qb_R M cs ss sh pc' L (.inl (x * y) :: st) hp Q) : qb_R M cs ss sh pc L (.inl y :: .inl x :: st) hp Q := by
  subst hpc
  intro p l e s m args below meth c D cI S n0 ad0 ad A H locs ls hC hW hS hL hst hN
  have h2 := qb_st2 hst
  refine lv_imul (x := Int32.ofInt x) (y := Int32.ofInt y) hC.1 hC.2.1 d ?_
  rw [← Int32.ofInt_mul]
  exact kk p l e s m args below meth c D cI S n0 ad0 ad A H locs ls hC hW hS hL (qb_stc (a := .inl (x * y)) hr h2.2.2) hN
theorem qb_lmul {pc' : Nat} {x y : Int} (d : decode (qb_by M) pc = .ok (.lmul, 1)) (hpc : pc + 1 = pc') (hr : qb_inL (x * y)) (kk : qb_R M cs ss sh pc' L (.inr (.inr (x * y)) :: st) hp Q) : qb_R M cs ss sh pc L (.inr (.inr y) :: .inr (.inr x) :: st) hp Q := by
  subst hpc
  intro p l e s m args below meth c D cI S n0 ad0 ad A H locs ls hC hW hS hL hst hN
  have h2 := qb_st2 hst
  refine lv_lmul (x := Int64.ofInt x) (y := Int64.ofInt y) hC.1 hC.2.1 d ?_
  rw [← Int64.ofInt_mul]
  exact kk p l e s m args below meth c D cI S n0 ad0 ad A H locs ls hC hW hS hL (qb_stc (a := .inr (.inr (x * y))) hr h2.2.2) hN
theorem qb_mx32 : Int32.maxValue.toInt = 2147483647 := by decide
theorem qb_mx64 : Int64.maxValue.toInt = 9223372036854775807 := by decide
theorem qb_div_ {x y : Int} (hx : qb_in x) (hy : qb_in y) (h0 : 0 ≤ x) (h1 : 0 < y) : Int32.ofInt x / Int32.ofInt y = Int32.ofInt (x / y) ∧ ¬ Int32.ofInt y = 0 := by
  refine ⟨?_, fun h => ?_⟩
  · rw [← Int.tdiv_eq_ediv_of_nonneg h0, Int32.ofInt_tdiv (by have := hx.1; simpa using this) (by rw [qb_mx32]; exact hx.2) (by have := hy.1; simpa using this) (by rw [qb_mx32]; exact hy.2)]
  · rw [qb_0I, qb_eqI hy qb_in0] at h
    omega
theorem qb_in_div {x y : Int} (hx : qb_in x) (h0 : 0 ≤ x) (h1 : 0 < y) : qb_in (x / y) := by
  have h2 : 0 ≤ x / y := Int.ediv_nonneg h0 (Int.le_of_lt h1)
  have h3 : x / y ≤ x := Int.ediv_le_self y h0
  have := hx.2
  constructor <;> omega
theorem qb_in_mod {x y : Int} (hy : qb_in y) (h1 : 0 < y) : qb_in (x % y) := by
  have h2 := Int.emod_nonneg x (Int.ne_of_gt h1)
  have h3 := Int.emod_lt_of_pos x h1
  have := hy.2
  constructor <;> omega
theorem qb_idiv {pc' : Nat} {x y : Int} (d : decode (qb_by M) pc = .ok (.idiv, 1)) (hpc : pc + 1 = pc') (h0 : 0 ≤ x) (h1 : 0 < y) (kk : qb_R M cs ss sh pc' L (.inl (x / y) :: st) hp Q) : qb_R M cs ss sh pc L (.inl y :: .inl x :: st) hp Q := by
  subst hpc
  intro p l e s m args below meth c D cI S n0 ad0 ad A H locs ls hC hW hS hL hst hN
  have h2 := qb_st2 hst
  have h3 := qb_div_ h2.2.1 h2.1 h0 h1
  refine lv_idiv (x := Int32.ofInt x) (y := Int32.ofInt y) hC.1 hC.2.1 d h3.2 ?_
  rw [h3.1]
  exact kk p l e s m args below meth c D cI S n0 ad0 ad A H locs ls hC hW hS hL (qb_stc (a := .inl (x / y)) (qb_in_div h2.2.1 h0 h1) h2.2.2) hN
theorem qb_irem {pc' : Nat} {x y : Int} (d : decode (qb_by M) pc = .ok (.irem, 1)) (hpc : pc + 1 = pc') (h0 : 0 ≤ x) (h1 : 0 < y) (kk : qb_R M cs ss sh pc' L (.inl (x % y) :: st) hp Q) : qb_R M cs ss sh pc L (.inl y :: .inl x :: st) hp Q := by
  subst hpc
  intro p l e s m args below meth c D cI S n0 ad0 ad A H locs ls hC hW hS hL hst hN
  have h2 := qb_st2 hst
  have h3 := qb_div_ h2.2.1 h2.1 h0 h1
  refine lv_irem (x := Int32.ofInt x) (y := Int32.ofInt y) hC.1 hC.2.1 d h3.2 ?_
  rw [h3.1, ← Int32.ofInt_mul, ← Int32.ofInt_sub, Int.mul_comm, ← Int.emod_def]
  exact kk p l e s m args below meth c D cI S n0 ad0 ad A H locs ls hC hW hS hL (qb_stc (a := .inl (x % y)) (qb_in_mod h2.1 h1) h2.2.2) hN
theorem qb_divL_ {x y : Int} (hx : qb_inL x) (hy : qb_inL y) (h0 : 0 ≤ x) (h1 : 0 < y) : Int64.ofInt x / Int64.ofInt y = Int64.ofInt (x / y) ∧ ¬ Int64.ofInt y = 0 := by
  refine ⟨?_, fun h => ?_⟩
  · rw [← Int.tdiv_eq_ediv_of_nonneg h0, Int64.ofInt_tdiv (by have := hx.1; simpa using this) (by rw [qb_mx64]; exact hx.2) (by have := hy.1; simpa using this) (by rw [qb_mx64]; exact hy.2)]
  · have h := congrArg Int64.toInt h
    rw [qb_toL hy] at h
    have e : (0 : Int64).toInt = 0 := rfl
    omega
theorem qb_ldiv {pc' : Nat} {x y : Int} (d : decode (qb_by M) pc = .ok (.ldiv, 1)) (hpc : pc + 1 = pc') (h0 : 0 ≤ x) (h1 : 0 < y) (kk : qb_R M cs ss sh pc' L (.inr (.inr (x / y)) :: st) hp Q) : qb_R M cs ss sh pc L (.inr (.inr y) :: .inr (.inr x) :: st) hp Q := by
  subst hpc
  intro p l e s m args below meth c D cI S n0 ad0 ad A H locs ls hC hW hS hL hst hN
  have h2 := qb_st2 hst
  have h3 := qb_divL_ h2.2.1 h2.1 h0 h1
  refine lv_ldiv (x := Int64.ofInt x) (y := Int64.ofInt y) hC.1 hC.2.1 d h3.2 ?_
  rw [h3.1]
  exact kk p l e s m args below meth c D cI S n0 ad0 ad A H locs ls hC hW hS hL (qb_stc (a := .inr (.inr (x / y))) (by
    have e2 : 0 ≤ x / y := Int.ediv_nonneg h0 (Int.le_of_lt h1)
    have e3 : x / y ≤ x := Int.ediv_le_self y h0
    have e4 := h2.2.1.2
    constructor <;> omega) h2.2.2) hN
def qb_cmp (x y : Int) : Int := if y < x then 1 else if x = y then 0 else -1
theorem qb_lcmp {pc' : Nat} {x y : Int} (d : decode (qb_by M) pc = .ok (.lcmp, 1)) (hpc : pc + 1 = pc') (kk : qb_R M cs ss sh pc' L (.inl (qb_cmp x y) :: st) hp Q) : qb_R M cs ss sh pc L (.inr (.inr y) :: .inr (.inr x) :: st) hp Q := by
  subst hpc
  intro p l e s m args below meth c D cI S n0 ad0 ad A H locs ls hC hW hS hL hst hN
  have h2 := qb_st2 hst
  refine W.lcmp (x := Int64.ofInt x) (y := Int64.ofInt y) hC.1 hC.2.1 d ?_
  have hx := qb_toL h2.2.1
  have hy := qb_toL h2.1
  have he : lg_cmp (Int64.ofInt x) (Int64.ofInt y) = Int32.ofInt (qb_cmp x y) := by
    unfold lg_cmp qb_cmp
    simp only [gt_iff_lt, Int64.lt_iff_toInt_lt, ← Int64.toInt_inj, hx, hy]
    split <;> (try split) <;> rfl
  rw [he]
  exact kk p l e s m args below meth c D cI S n0 ad0 ad A H locs ls hC hW hS hL (qb_stc (a := .inl (qb_cmp x y)) (by unfold qb_cmp; split <;> (try split) <;> constructor <;> decide) h2.2.2) hN
theorem qb_i2l {pc' : Nat} {x : Int} (d : decode (qb_by M) pc = .ok (.i2l, 1)) (hpc : pc + 1 = pc') (kk : qb_R M cs ss sh pc' L (.inr (.inr x) :: st) hp Q) : qb_R M cs ss sh pc L (.inl x :: st) hp Q := by
  subst hpc
  intro p l e s m args below meth c D cI S n0 ad0 ad A H locs ls hC hW hS hL hst hN
  have h2 := qb_st1 hst
  refine lv_i2l (x := Int32.ofInt x) (v := Int64.ofInt x) hC.1 hC.2.1 d (Int32.toInt64_ofInt (by have := h2.1.1; simpa using this) (by rw [qb_mx32]; exact h2.1.2)) ?_
  exact kk p l e s m args below meth c D cI S n0 ad0 ad A H locs ls hC hW hS hL (qb_stc (a := .inr (.inr x)) (by have e1 := h2.1.1; have e2 := h2.1.2; constructor <;> omega) h2.2) hN
theorem qb_in32 (x : Int32) : qb_in x.toInt := ⟨by have := x.le_toInt; simpa using this, by have := x.toInt_lt; omega⟩
def qb_and (x y : Int) : Int := (Int32.ofInt x &&& Int32.ofInt y).toInt
theorem qb_iand {pc' : Nat} {x y : Int} (d : decode (qb_by M) pc = .ok (.iand, 1)) (hpc : pc + 1 = pc') (kk : qb_R M cs ss sh pc' L (.inl (qb_and x y) :: st) hp Q) : qb_R M cs ss sh pc L (.inl y :: .inl x :: st) hp Q := by
  subst hpc
  intro p l e s m args below meth c D cI S n0 ad0 ad A H locs ls hC hW hS hL hst hN
  have h2 := qb_st2 hst
  refine lv_iand (x := Int32.ofInt x) (y := Int32.ofInt y) hC.1 hC.2.1 d ?_
  have he : Int32.ofInt x &&& Int32.ofInt y = Int32.ofInt (qb_and x y) := (Int32.ofInt_toInt _).symm
  rw [he]
  exact kk p l e s m args below meth c D cI S n0 ad0 ad A H locs ls hC hW hS hL (qb_stc (a := .inl (qb_and x y)) (qb_in32 _) h2.2.2) hN
def qb_or (x y : Int) : Int := (Int32.ofInt x ||| Int32.ofInt y).toInt
theorem qb_ior {pc' : Nat} {x y : Int} (d : decode (qb_by M) pc = .ok (.ior, 1)) (hpc : pc + 1 = pc') (kk : qb_R M cs ss sh pc' L (.inl (qb_or x y) :: st) hp Q) : qb_R M cs ss sh pc L (.inl y :: .inl x :: st) hp Q := by
  subst hpc
  intro p l e s m args below meth c D cI S n0 ad0 ad A H locs ls hC hW hS hL hst hN
  have h2 := qb_st2 hst
  refine lv_ior (x := Int32.ofInt x) (y := Int32.ofInt y) hC.1 hC.2.1 d ?_
  have he : Int32.ofInt x ||| Int32.ofInt y = Int32.ofInt (qb_or x y) := (Int32.ofInt_toInt _).symm
  rw [he]
  exact kk p l e s m args below meth c D cI S n0 ad0 ad A H locs ls hC hW hS hL (qb_stc (a := .inl (qb_or x y)) (qb_in32 _) h2.2.2) hN
def qb_xor (x y : Int) : Int := (Int32.ofInt x ^^^ Int32.ofInt y).toInt
theorem qb_ixor {pc' : Nat} {x y : Int} (d : decode (qb_by M) pc = .ok (.ixor, 1)) (hpc : pc + 1 = pc') (kk : qb_R M cs ss sh pc' L (.inl (qb_xor x y) :: st) hp Q) : qb_R M cs ss sh pc L (.inl y :: .inl x :: st) hp Q := by
  subst hpc
  intro p l e s m args below meth c D cI S n0 ad0 ad A H locs ls hC hW hS hL hst hN
  have h2 := qb_st2 hst
  refine lv_ixor (x := Int32.ofInt x) (y := Int32.ofInt y) hC.1 hC.2.1 d ?_
  have he : Int32.ofInt x ^^^ Int32.ofInt y = Int32.ofInt (qb_xor x y) := (Int32.ofInt_toInt _).symm
  rw [he]
  exact kk p l e s m args below meth c D cI S n0 ad0 ad A H locs ls hC hW hS hL (qb_stc (a := .inl (qb_xor x y)) (qb_in32 _) h2.2.2) hN
def qb_shl (x y : Int) : Int := (Int32.ofInt x <<< (Int32.ofInt y &&& 31)).toInt
theorem qb_ishl {pc' : Nat} {x y : Int} (d : decode (qb_by M) pc = .ok (.ishl, 1)) (hpc : pc + 1 = pc') (kk : qb_R M cs ss sh pc' L (.inl (qb_shl x y) :: st) hp Q) : qb_R M cs ss sh pc L (.inl y :: .inl x :: st) hp Q := by
  subst hpc
  intro p l e s m args below meth c D cI S n0 ad0 ad A H locs ls hC hW hS hL hst hN
  have h2 := qb_st2 hst
  refine lv_ishl (x := Int32.ofInt x) (y := Int32.ofInt y) hC.1 hC.2.1 d ?_
  have he : Int32.ofInt x <<< (Int32.ofInt y &&& 31) = Int32.ofInt (qb_shl x y) := (Int32.ofInt_toInt _).symm
  rw [he]
  exact kk p l e s m args below meth c D cI S n0 ad0 ad A H locs ls hC hW hS hL (qb_stc (a := .inl (qb_shl x y)) (qb_in32 _) h2.2.2) hN
def qb_shr (x y : Int) : Int := (Int32.ofInt x >>> (Int32.ofInt y &&& 31)).toInt
theorem qb_ishr {pc' : Nat} {x y : Int} (d : decode (qb_by M) pc = .ok (.ishr, 1)) (hpc : pc + 1 = pc') (kk : qb_R M cs ss sh pc' L (.inl (qb_shr x y) :: st) hp Q) : qb_R M cs ss sh pc L (.inl y :: .inl x :: st) hp Q := by
  subst hpc
  intro p l e s m args below meth c D cI S n0 ad0 ad A H locs ls hC hW hS hL hst hN
  have h2 := qb_st2 hst
  refine lv_ishr (x := Int32.ofInt x) (y := Int32.ofInt y) hC.1 hC.2.1 d ?_
  have he : Int32.ofInt x >>> (Int32.ofInt y &&& 31) = Int32.ofInt (qb_shr x y) := (Int32.ofInt_toInt _).symm
  rw [he]
  exact kk p l e s m args below meth c D cI S n0 ad0 ad A H locs ls hC hW hS hL (qb_stc (a := .inl (qb_shr x y)) (qb_in32 _) h2.2.2) hN
def qb_ushr (x y : Int) : Int := (((Int32.ofInt x).toUInt32 >>> ((Int32.ofInt y).toUInt32 &&& Int32.toUInt32 31)).toInt32).toInt
theorem qb_iushr {pc' : Nat} {x y : Int} (d : decode (qb_by M) pc = .ok (.iushr, 1)) (hpc : pc + 1 = pc') (kk : qb_R M cs ss sh pc' L (.inl (qb_ushr x y) :: st) hp Q) : qb_R M cs ss sh pc L (.inl y :: .inl x :: st) hp Q := by
  subst hpc
  intro p l e s m args below meth c D cI S n0 ad0 ad A H locs ls hC hW hS hL hst hN
  have h2 := qb_st2 hst
  refine lv_iushr (x := Int32.ofInt x) (y := Int32.ofInt y) hC.1 hC.2.1 d rfl ?_
  have he : ((Int32.ofInt x).toUInt32 >>> ((Int32.ofInt y).toUInt32 &&& Int32.toUInt32 31)).toInt32 = Int32.ofInt (qb_ushr x y) := (Int32.ofInt_toInt _).symm
  rw [he]
  exact kk p l e s m args below meth c D cI S n0 ad0 ad A H locs ls hC hW hS hL (qb_stc (a := .inl (qb_ushr x y)) (qb_in32 _) h2.2.2) hN
def qb_cat : qb_V → Nat
  | .inl _ => 1
  | .inr (.inl _) => 1
  | .inr (.inr _) => 2
theorem qb_cat_ (ad : Nat → Nat) (v : qb_V) : (qb_tv ad v).category = qb_cat v := by rcases v with x | x | x <;> rfl
theorem qb_cats (ad : Nat → Nat) (st : List qb_V) : ((st.map (qb_tv ad)).map fun v => v.category).sum = (st.map qb_cat).sum := by
  rw [List.map_map]
  congr 1
  exact List.map_congr_left (fun v _ => qb_cat_ ad v)
theorem qb_dup {pc' : Nat} {v : qb_V} (d : decode (qb_by M) pc = .ok (.dup, 1)) (hpc : pc + 1 = pc') (hv : qb_cat v = 1) (kk : qb_R M cs ss sh pc' L (v :: v :: st) hp Q) : qb_R M cs ss sh pc L (v :: st) hp Q := by
  subst hpc
  intro p l e s m args below meth c D cI S n0 ad0 ad A H locs ls hC hW hS hL hst hN
  have h2 := qb_st1 hst
  refine lv_dup hC.1 hC.2.1 d (by rw [qb_cat_]; exact hv) ?_
  exact kk p l e s m args below meth c D cI S n0 ad0 ad A H locs ls hC hW hS hL (qb_stc h2.1 hst) hN
theorem qb_pop {pc' : Nat} {v : qb_V} (d : decode (qb_by M) pc = .ok (.pop, 1)) (hpc : pc + 1 = pc') (hv : qb_cat v = 1) (kk : qb_R M cs ss sh pc' L (st) hp Q) : qb_R M cs ss sh pc L (v :: st) hp Q := by
  subst hpc
  intro p l e s m args below meth c D cI S n0 ad0 ad A H locs ls hC hW hS hL hst hN
  have h2 := qb_st1 hst
  refine lv_pop hC.1 hC.2.1 d (by rw [qb_cat_]; exact hv) ?_
  exact kk p l e s m args below meth c D cI S n0 ad0 ad A H locs ls hC hW hS hL h2.2 hN
theorem qb_dup2 {pc' : Nat} {v w : qb_V} (d : decode (qb_by M) pc = .ok (.dup2, 1)) (hpc : pc + 1 = pc') (hv : qb_cat v = 1) (hw : qb_cat w = 1) (kk : qb_R M cs ss sh pc' L (v :: w :: v :: w :: st) hp Q) : qb_R M cs ss sh pc L (v :: w :: st) hp Q := by
  subst hpc
  intro p l e s m args below meth c D cI S n0 ad0 ad A H locs ls hC hW hS hL hst hN
  have h2 := qb_st2 hst
  refine lv_dup2_11 hC.1 hC.2.1 d (by rw [qb_cat_]; exact hv) (by rw [qb_cat_]; exact hw) ?_
  exact kk p l e s m args below meth c D cI S n0 ad0 ad A H locs ls hC hW hS hL (qb_stc h2.1 (qb_stc h2.2.1 hst)) hN
theorem qb_feq {pc' : Nat} {x : Int} {off : Int} {tgt : Nat} (d : decode (qb_by M) pc = .ok (.ifCond .eq off, 3)) (hpc : pc + 3 = pc') (ht : (pc : Int) + off = (tgt : Int)) (kt : x = 0 → qb_R M cs ss sh tgt L (st) hp Q) (kf : ¬ x = 0 → qb_R M cs ss sh pc' L (st) hp Q) : qb_R M cs ss sh pc L (.inl x :: st) hp Q := by
  subst hpc
  intro p l e s m args below meth c D cI S n0 ad0 ad A H locs ls hC hW hS hL hst hN
  have h2 := qb_st1 hst
  refine lv_if_eq (x := Int32.ofInt x) hC.1 hC.2.1 d ht (fun h => ?_) (fun h => ?_)
  · exact kt ((qb_eqI h2.1 qb_in0).mp h) p l e s m args below meth c D cI S n0 ad0 ad A H locs ls hC hW hS hL h2.2 hN
  · exact kf (fun z => h ((qb_eqI h2.1 qb_in0).mpr z)) p l e s m args below meth c D cI S n0 ad0 ad A H locs ls hC hW hS hL h2.2 hN
theorem qb_fne {pc' : Nat} {x : Int} {off : Int} {tgt : Nat} (d : decode (qb_by M) pc = .ok (.ifCond .ne off, 3)) (hpc : pc + 3 = pc') (ht : (pc : Int) + off = (tgt : Int)) (kt : ¬ x = 0 → qb_R M cs ss sh tgt L (st) hp Q) (kf : x = 0 → qb_R M cs ss sh pc' L (st) hp Q) : qb_R M cs ss sh pc L (.inl x :: st) hp Q := by
  subst hpc
  intro p l e s m args below meth c D cI S n0 ad0 ad A H locs ls hC hW hS hL hst hN
  have h2 := qb_st1 hst
  refine lv_if_ne (x := Int32.ofInt x) hC.1 hC.2.1 d ht (fun h => ?_) (fun h => ?_)
  · exact kt (fun z => h ((qb_eqI h2.1 qb_in0).mpr z)) p l e s m args below meth c D cI S n0 ad0 ad A H locs ls hC hW hS hL h2.2 hN
  · exact kf ((qb_eqI h2.1 qb_in0).mp h) p l e s m args below meth c D cI S n0 ad0 ad A H locs ls hC hW hS hL h2.2 hN
theorem qb_flt {pc' : Nat} {x : Int} {off : Int} {tgt : Nat} (d : decode (qb_by M) pc = .ok (.ifCond .lt off, 3)) (hpc : pc + 3 = pc') (ht : (pc : Int) + off = (tgt : Int)) (kt : x < 0 → qb_R M cs ss sh tgt L (st) hp Q) (kf : ¬ x < 0 → qb_R M cs ss sh pc' L (st) hp Q) : qb_R M cs ss sh pc L (.inl x :: st) hp Q := by
  subst hpc
  intro p l e s m args below meth c D cI S n0 ad0 ad A H locs ls hC hW hS hL hst hN
  have h2 := qb_st1 hst
  refine lv_if_lt (x := Int32.ofInt x) hC.1 hC.2.1 d ht (fun h => ?_) (fun h => ?_)
  · exact kt ((qb_ltI h2.1 qb_in0).mp h) p l e s m args below meth c D cI S n0 ad0 ad A H locs ls hC hW hS hL h2.2 hN
  · exact kf (fun z => h ((qb_ltI h2.1 qb_in0).mpr z)) p l e s m args below meth c D cI S n0 ad0 ad A H locs ls hC hW hS hL h2.2 hN
theorem qb_fge {pc' : Nat} {x : Int} {off : Int} {tgt : Nat} (d : decode (qb_by M) pc = .ok (.ifCond .ge off, 3)) (hpc : pc + 3 = pc') (ht : (pc : Int) + off = (tgt : Int)) (kt : 0 ≤ x → qb_R M cs ss sh tgt L (st) hp Q) (kf : ¬ 0 ≤ x → qb_R M cs ss sh pc' L (st) hp Q) : qb_R M cs ss sh pc L (.inl x :: st) hp Q := by
  subst hpc
  intro p l e s m args below meth c D cI S n0 ad0 ad A H locs ls hC hW hS hL hst hN
  have h2 := qb_st1 hst
  refine lv_if_ge (x := Int32.ofInt x) hC.1 hC.2.1 d ht (fun h => ?_) (fun h => ?_)
  · exact kt ((qb_leI qb_in0 h2.1).mp h) p l e s m args below meth c D cI S n0 ad0 ad A H locs ls hC hW hS hL h2.2 hN
  · exact kf (fun z => h ((qb_leI qb_in0 h2.1).mpr z)) p l e s m args below meth c D cI S n0 ad0 ad A H locs ls hC hW hS hL h2.2 hN
theorem qb_fgt {pc' : Nat} {x : Int} {off : Int} {tgt : Nat} (d : decode (qb_by M) pc = .ok (.ifCond .gt off, 3)) (hpc : pc + 3 = pc') (ht : (pc : Int) + off = (tgt : Int)) (kt : 0 < x → qb_R M cs ss sh tgt L (st) hp Q) (kf : ¬ 0 < x → qb_R M cs ss sh pc' L (st) hp Q) : qb_R M cs ss sh pc L (.inl x :: st) hp Q := by
  subst hpc
  intro p l e s m args below meth c D cI S n0 ad0 ad A H locs ls hC hW hS hL hst hN
  have h2 := qb_st1 hst
  refine lv_if_gt (x := Int32.ofInt x) hC.1 hC.2.1 d ht (fun h => ?_) (fun h => ?_)
  · exact kt ((qb_ltI qb_in0 h2.1).mp h) p l e s m args below meth c D cI S n0 ad0 ad A H locs ls hC hW hS hL h2.2 hN
  · exact kf (fun z => h ((qb_ltI qb_in0 h2.1).mpr z)) p l e s m args below meth c D cI S n0 ad0 ad A H locs ls hC hW hS hL h2.2 hN
theorem qb_fle {pc' : Nat} {x : Int} {off : Int} {tgt : Nat} (d : decode (qb_by M) pc = .ok (.ifCond .le off, 3)) (hpc : pc + 3 = pc') (ht : (pc : Int) + off = (tgt : Int)) (kt : x ≤ 0 → qb_R M cs ss sh tgt L (st) hp Q) (kf : ¬ x ≤ 0 → qb_R M cs ss sh pc' L (st) hp Q) : qb_R M cs ss sh pc L (.inl x :: st) hp Q := by
  subst hpc
  intro p l e s m args below meth c D cI S n0 ad0 ad A H locs ls hC hW hS hL hst hN
  have h2 := qb_st1 hst
  refine lv_if_le (x := Int32.ofInt x) hC.1 hC.2.1 d ht (fun h => ?_) (fun h => ?_)
  · exact kt ((qb_leI h2.1 qb_in0).mp h) p l e s m args below meth c D cI S n0 ad0 ad A H locs ls hC hW hS hL h2.2 hN
  · exact kf (fun z => h ((qb_leI h2.1 qb_in0).mpr z)) p l e s m args below meth c D cI S n0 ad0 ad A H locs ls hC hW hS hL h2.2 hN
theorem qb_ceq {pc' : Nat} {x y : Int} {off : Int} {tgt : Nat} (d : decode (qb_by M) pc = .ok (.if_icmp .eq off, 3)) (hpc : pc + 3 = pc') (ht : (pc : Int) + off = (tgt : Int)) (kt : x = y → qb_R M cs ss sh tgt L (st) hp Q) (kf : ¬ x = y → qb_R M cs ss sh pc' L (st) hp Q) : qb_R M cs ss sh pc L (.inl y :: .inl x :: st) hp Q := by
  subst hpc
  intro p l e s m args below meth c D cI S n0 ad0 ad A H locs ls hC hW hS hL hst hN
  have h2 := qb_st2 hst
  refine lv_icmp_eq (x := Int32.ofInt x) (y := Int32.ofInt y) hC.1 hC.2.1 d ht (fun h => ?_) (fun h => ?_)
  · exact kt ((qb_eqI h2.2.1 h2.1).mp h) p l e s m args below meth c D cI S n0 ad0 ad A H locs ls hC hW hS hL h2.2.2 hN
  · exact kf (fun z => h ((qb_eqI h2.2.1 h2.1).mpr z)) p l e s m args below meth c D cI S n0 ad0 ad A H locs ls hC hW hS hL h2.2.2 hN
theorem qb_cne {pc' : Nat} {x y : Int} {off : Int} {tgt : Nat} (d : decode (qb_by M) pc = .ok (.if_icmp .ne off, 3)) (hpc : pc + 3 = pc') (ht : (pc : Int) + off = (tgt : Int)) (kt : ¬ x = y → qb_R M cs ss sh tgt L (st) hp Q) (kf : x = y → qb_R M cs ss sh pc' L (st) hp Q) : qb_R M cs ss sh pc L (.inl y :: .inl x :: st) hp Q := by
  subst hpc
  intro p l e s m args below meth c D cI S n0 ad0 ad A H locs ls hC hW hS hL hst hN
  have h2 := qb_st2 hst
  refine lv_icmp_ne (x := Int32.ofInt x) (y := Int32.ofInt y) hC.1 hC.2.1 d ht (fun h => ?_) (fun h => ?_)
  · exact kt (fun z => h ((qb_eqI h2.2.1 h2.1).mpr z)) p l e s m args below meth c D cI S n0 ad0 ad A H locs ls hC hW hS hL h2.2.2 hN
  · exact kf ((qb_eqI h2.2.1 h2.1).mp h) p l e s m args below meth c D cI S n0 ad0 ad A H locs ls hC hW hS hL h2.2.2 hN
theorem qb_clt {pc' : Nat} {x y : Int} {off : Int} {tgt : Nat} (d : decode (qb_by M) pc = .ok (.if_icmp .lt off, 3)) (hpc : pc + 3 = pc') (ht : (pc : Int) + off = (tgt : Int)) (kt : x < y → qb_R M cs ss sh tgt L (st) hp Q) (kf : ¬ x < y → qb_R M cs ss sh pc' L (st) hp Q) : qb_R M cs ss sh pc L (.inl y :: .inl x :: st) hp Q := by
  subst hpc
  intro p l e s m args below meth c D cI S n0 ad0 ad A H locs ls hC hW hS hL hst hN
  have h2 := qb_st2 hst
  refine lv_icmp_lt (x := Int32.ofInt x) (y := Int32.ofInt y) hC.1 hC.2.1 d ht (fun h => ?_) (fun h => ?_)
  · exact kt ((qb_ltI h2.2.1 h2.1).mp h) p l e s m args below meth c D cI S n0 ad0 ad A H locs ls hC hW hS hL h2.2.2 hN
  · exact kf (fun z => h ((qb_ltI h2.2.1 h2.1).mpr z)) p l e s m args below meth c D cI S n0 ad0 ad A H locs ls hC hW hS hL h2.2.2 hN
theorem qb_cge {pc' : Nat} {x y : Int} {off : Int} {tgt : Nat} (d : decode (qb_by M) pc = .ok (.if_icmp .ge off, 3)) (hpc : pc + 3 = pc') (ht : (pc : Int) + off = (tgt : Int)) (kt : y ≤ x → qb_R M cs ss sh tgt L (st) hp Q) (kf : ¬ y ≤ x → qb_R M cs ss sh pc' L (st) hp Q) : qb_R M cs ss sh pc L (.inl y :: .inl x :: st) hp Q := by
  subst hpc
  intro p l e s m args below meth c D cI S n0 ad0 ad A H locs ls hC hW hS hL hst hN
  have h2 := qb_st2 hst
  refine lv_icmp_ge (x := Int32.ofInt x) (y := Int32.ofInt y) hC.1 hC.2.1 d ht (fun h => ?_) (fun h => ?_)
  · exact kt ((qb_leI h2.1 h2.2.1).mp h) p l e s m args below meth c D cI S n0 ad0 ad A H locs ls hC hW hS hL h2.2.2 hN
  · exact kf (fun z => h ((qb_leI h2.1 h2.2.1).mpr z)) p l e s m args below meth c D cI S n0 ad0 ad A H locs ls hC hW hS hL h2.2.2 hN
theorem qb_cgt {pc' : Nat} {x y : Int} {off : Int} {tgt : Nat} (d : decode (qb_by M) pc = .ok (.if_icmp .gt off, 3)) (hpc : pc + 3 = pc') (ht : (pc : Int) + off = (tgt : Int)) (kt : y < x → qb_R M cs ss sh tgt L (st) hp Q) (kf : ¬ y < x → qb_R M cs ss sh pc' L (st) hp Q) : qb_R M cs ss sh pc L (.inl y :: .inl x :: st) hp Q := by
  subst hpc
  intro p l e s m args below meth c D cI S n0 ad0 ad A H locs ls hC hW hS hL hst hN
  have h2 := qb_st2 hst
  refine lv_icmp_gt (x := Int32.ofInt x) (y := Int32.ofInt y) hC.1 hC.2.1 d ht (fun h => ?_) (fun h => ?_)
  · exact kt ((qb_ltI h2.1 h2.2.1).mp h) p l e s m args below meth c D cI S n0 ad0 ad A H locs ls hC hW hS hL h2.2.2 hN
  · exact kf (fun z => h ((qb_ltI h2.1 h2.2.1).mpr z)) p l e s m args below meth c D cI S n0 ad0 ad A H locs ls hC hW hS hL h2.2.2 hN
theorem qb_cle {pc' : Nat} {x y : Int} {off : Int} {tgt : Nat} (d : decode (qb_by M) pc = .ok (.if_icmp .le off, 3)) (hpc : pc + 3 = pc') (ht : (pc : Int) + off = (tgt : Int)) (kt : x ≤ y → qb_R M cs ss sh tgt L (st) hp Q) (kf : ¬ x ≤ y → qb_R M cs ss sh pc' L (st) hp Q) : qb_R M cs ss sh pc L (.inl y :: .inl x :: st) hp Q := by
  subst hpc
  intro p l e s m args below meth c D cI S n0 ad0 ad A H locs ls hC hW hS hL hst hN
  have h2 := qb_st2 hst
  refine lv_icmp_le (x := Int32.ofInt x) (y := Int32.ofInt y) hC.1 hC.2.1 d ht (fun h => ?_) (fun h => ?_)
  · exact kt ((qb_leI h2.2.1 h2.1).mp h) p l e s m args below meth c D cI S n0 ad0 ad A H locs ls hC hW hS hL h2.2.2 hN
  · exact kf (fun z => h ((qb_leI h2.2.1 h2.1).mpr z)) p l e s m args below meth c D cI S n0 ad0 ad A H locs ls hC hW hS hL h2.2.2 hN
theorem qb_goto {off : Int} {tgt : Nat} (d : decode (qb_by M) pc = .ok (.goto off, 3)) (ht : (pc : Int) + off = (tgt : Int)) (kk : qb_R M cs ss sh tgt L (st) hp Q) : qb_R M cs ss sh pc L (st) hp Q := by
  intro p l e s m args below meth c D cI S n0 ad0 ad A H locs ls hC hW hS hL hst hN
  refine lv_goto hC.1 hC.2.1 d ht ?_
  exact kk p l e s m args below meth c D cI S n0 ad0 ad A H locs ls hC hW hS hL hst hN
theorem qb_tabOut {dflt lo hi : Int} {offs : Array Int} {len : Nat} {x : Int} {tgt : Nat} (d : decode (qb_by M) pc = .ok (.tableswitch dflt lo hi offs, len)) (h : x < lo ∨ hi < x) (ht : (pc : Int) + dflt = (tgt : Int)) (kk : qb_R M cs ss sh tgt L (st) hp Q) : qb_R M cs ss sh pc L (.inl x :: st) hp Q := by
  intro p l e s m args below meth c D cI S n0 ad0 ad A H locs ls hC hW hS hL hst hN
  have h2 := qb_st1 hst
  refine lv_tableOut (x := Int32.ofInt x) hC.1 hC.2.1 d (by rw [qb_toI h2.1]; exact h) ht ?_
  exact kk p l e s m args below meth c D cI S n0 ad0 ad A H locs ls hC hW hS hL h2.2 hN
theorem qb_tabIn {dflt lo hi : Int} {offs : Array Int} {len : Nat} {x off : Int} {tgt : Nat} (d : decode (qb_by M) pc = .ok (.tableswitch dflt lo hi offs, len)) (h1 : ¬ x < lo) (h2 : ¬ hi < x) (ho : offs[(x - lo).toNat]? = some off) (ht : (pc : Int) + off = (tgt : Int)) (kk : qb_R M cs ss sh tgt L (st) hp Q) : qb_R M cs ss sh pc L (.inl x :: st) hp Q := by
  intro p l e s m args below meth c D cI S n0 ad0 ad A H locs ls hC hW hS hL hst hN
  have h3 := qb_st1 hst
  refine lv_tableIn (x := Int32.ofInt x) hC.1 hC.2.1 d (by rw [qb_toI h3.1]; exact h1) (by rw [qb_toI h3.1]; exact h2) (by rw [qb_toI h3.1]; exact ho) ht ?_
  exact kk p l e s m args below meth c D cI S n0 ad0 ad A H locs ls hC hW hS hL h3.2 hN
theorem qb_lookup {hp' : qb_H} {dflt : Int} {ps : Array (Int × Int)} {len : Nat} {x off : Int} {tgt : Nat} (d : decode (qb_by M) pc = .ok (.lookupswitch dflt ps, len)) (hp : (ps.toList.zip (ps.toList.drop 1)).all (fun (a, next) => a.1 < next.1) = true) (ho : Op.lookupswitch.offset ps.toList dflt x = off) (ht : (pc : Int) + off = (tgt : Int)) (kk : qb_R M cs ss sh tgt L st hp' Q) : qb_R M cs ss sh pc L (.inl x :: st) hp' Q := by
  intro p l e s m args below meth c D cI S n0 ad0 ad A H locs ls hC hW hS hL hst hN
  have h3 := qb_st1 hst
  refine lv_lookup (x := Int32.ofInt x) hC.1 hC.2.1 d hp (by rw [qb_toI h3.1]; exact ho) ht ?_
  exact kk p l e s m args below meth c D cI S n0 ad0 ad A H locs ls hC hW hS hL h3.2 hN
end
end
section
/-! the classes' words; rows of the heap, of calls (wip/whole/gen/rows2.py) -/
theorem qb_uX0 : ∀ w ∈ u_ws RX0 TX0 7, w ∈ qb_wg := qb_wg_pos [114, 116, 118, 120, 122, 124, 126] (by decide +kernel) (by decide +kernel)
theorem qb_uX1 : ∀ w ∈ u_ws RX1 TX1 3, w ∈ qb_wg := qb_wg_pos [294, 296, 298] (by decide +kernel) (by decide +kernel)
theorem qb_uX2 : ∀ w ∈ u_ws RX2 TX2 10, w ∈ qb_wg := qb_wg_pos [214, 216, 218, 220, 222, 224, 226, 228, 230, 232] (by decide +kernel) (by decide +kernel)
theorem qb_uX3 : ∀ w ∈ u_ws RX3 TX3 2, w ∈ qb_wg := qb_wg_pos [94, 96] (by decide +kernel) (by decide +kernel)
theorem qb_uX4 : ∀ w ∈ u_ws RX4 TX4 5, w ∈ qb_wg := qb_wg_pos [367, 369, 371, 373, 375] (by decide +kernel) (by decide +kernel)
theorem qb_uX5 : ∀ w ∈ u_ws RX5 TX5 5, w ∈ qb_wg := qb_wg_pos [313, 315, 317, 319, 321] (by decide +kernel) (by decide +kernel)
theorem qb_uX6 : ∀ w ∈ u_ws RX6 TX6 6, w ∈ qb_wg := qb_wg_pos [271, 273, 275, 277, 279, 281] (by decide +kernel) (by decide +kernel)
theorem qb_uX7 : ∀ w ∈ u_ws RX7 TX7 14, w ∈ qb_wg := qb_wg_pos [161, 163, 165, 167, 169, 171, 173, 175, 177, 179, 181, 183, 185, 187] (by decide +kernel) (by decide +kernel)
theorem qb_uX8 : ∀ w ∈ u_ws RX8 TX8 5, w ∈ qb_wg := qb_wg_pos [247, 249, 251, 253, 255] (by decide +kernel) (by decide +kernel)
theorem qb_uX9 : ∀ w ∈ u_ws RX9 TX9 6, w ∈ qb_wg := qb_wg_pos [339, 341, 343, 345, 347, 349] (by decide +kernel) (by decide +kernel)
theorem qb_uX10 : ∀ w ∈ u_ws RX10 TX10 13, w ∈ qb_wg := qb_wg_pos [391, 393, 395, 397, 399, 401, 403, 405, 407, 409, 411, 413, 415] (by decide +kernel) (by decide +kernel)
theorem qb_uX11 : ∀ w ∈ u_ws RX11 TX11 50, w ∈ qb_wg := qb_wg_pos [962, 964, 966, 968, 970, 972, 974, 976, 978, 980, 982, 984, 986, 988, 990, 992, 994, 996, 998, 1000, 1002, 1004, 1006, 1008, 1010, 1012, 1014, 1016, 1018, 1020, 1022, 1024, 1026, 1028, 1030, 1032, 1034, 1036, 1038, 1040, 1042, 1044, 1046, 1048, 1050, 1052, 1054, 1056, 1058, 1060] (by decide +kernel) (by decide +kernel)
/-- what stands of a class: its words, its fields' types, their names -/
def qb_cok (C : String) (Tb : u_T) (N : Nat) : Prop := (∀ w ∈ u_ws C Tb N, w ∈ qb_wg) ∧ (∃ ty : Nat → FieldType, ∀ k, k < N → parseFieldDescriptor (Tb k).2.2.1 = some (ty k)) ∧ (∀ a, a < N → ∀ b, b < N → a ≠ b → (Tb a).2.1 ≠ (Tb b).2.1)
theorem qb_cls : ∀ (ci : Nat) (q : vw_C), vwCl[ci]? = some q → qb_cok q.1 q.2.1 q.2.2 := by
  intro ci q h
  match ci, h with
  | 0, h => cases h; exact ⟨qb_uX0, ⟨tyX0, tyX0_ok⟩, nmX0⟩
  | 1, h => cases h; exact ⟨qb_uX1, ⟨tyX1, tyX1_ok⟩, nmX1⟩
  | 2, h => cases h; exact ⟨qb_uX2, ⟨tyX2, tyX2_ok⟩, nmX2⟩
  | 3, h => cases h; exact ⟨qb_uX3, ⟨tyX3, tyX3_ok⟩, nmX3⟩
  | 4, h => cases h; exact ⟨qb_uX4, ⟨tyX4, tyX4_ok⟩, nmX4⟩
  | 5, h => cases h; exact ⟨qb_uX5, ⟨tyX5, tyX5_ok⟩, nmX5⟩
  | 6, h => cases h; exact ⟨qb_uX6, ⟨tyX6, tyX6_ok⟩, nmX6⟩
  | 7, h => cases h; exact ⟨qb_uX7, ⟨tyX7, tyX7_ok⟩, nmX7⟩
  | 8, h => cases h; exact ⟨qb_uX8, ⟨tyX8, tyX8_ok⟩, nmX8⟩
  | 9, h => cases h; exact ⟨qb_uX9, ⟨tyX9, tyX9_ok⟩, nmX9⟩
  | 10, h => cases h; exact ⟨qb_uX10, ⟨tyX10, tyX10_ok⟩, nmX10⟩
  | 11, h => cases h; exact ⟨qb_uX11, ⟨tyX11, tyX11_ok⟩, nmX11⟩
  | n + 12, h => simp [vwCl] at h
/-- a field by its pool number, in a method of 'own': class, place, final, type -/
def qb_FL (own : String) (idx ci k : Nat) (fin : Bool) (ty : FieldType) : Prop := ∃ (C : String) (Tb : u_T) (N : Nat), vwCl[ci]? = some (C, Tb, N) ∧ k < N ∧ Cond.fieldLink own idx (Tb k).1 (Tb k).2.1 (Tb k).2.2.1 ∈ qb_wg ∧ (Tb k).2.2.2 = fin ∧ parseFieldDescriptor (Tb k).2.2.1 = some ty ∧ (fin = true → (Tb k).1 = own)
section
variable {M : qb_M} {cs ss : Nat} {sh : qb_Sh} {pc : Nat} {L : List (Option qb_V)} {st : List qb_V} {hp : qb_H} {Q : Option qb_V → qb_H → qb_Sh → Prop}
theorem qb_geti {pc' : Nat} {idx ci k c : Nat} {fin : Bool} {ty : FieldType} {sl : List (Option (Option Nat))} (d : decode (qb_by M) pc = .ok (.getfield idx, 3)) (hpc : pc + 3 = pc') (f : qb_FL (qb_nm M).cls idx ci k fin ty) (hs : sh[c]? = some (.inl (ci, sl))) (hk : sl[k]? = some none) {v : Int} (hv : hp c (k : Int) = v) (kk : qb_R M cs ss sh pc' L (.inl v :: st) hp Q) : qb_R M cs ss sh pc L (.inr (.inl c) :: st) hp Q := by
  subst hpc
  subst hv
  intro p l e s m args below meth cd D cI S n0 ad0 ad A H locs ls hC hW hS hL hst hN
  obtain ⟨C, Tb, N, hc, hkN, hl, -⟩ := f
  have h2 := qb_st1 hst
  refine va_get (a := ad c) (v := .int (Int32.ofInt (hp c k))) hC.1 hC.2.1 hC.2.2.2.2.2.2.2.1 (qb_cls ci _ hc).1 hC.2.2.2.2.2.2.1 hC.2.2.2.2.2.2.2.2.1 hW.1 c (qb_ws_at hs) hc k hkN (hC.2.2.2.2.2.2.2.1 _ hl) (fun _ h => h) (qb_fs_at hk) d ?_
  exact kk p l e s m args below meth cd D cI S n0 ad0 ad A H locs ls hC hW hS hL (qb_stc (a := .inl (hp c (k : Int))) (hW.2.2.1 c k) h2.2) hN
theorem qb_geta {pc' : Nat} {idx ci k c b : Nat} {fin : Bool} {ty : FieldType} {sl : List (Option (Option Nat))} (d : decode (qb_by M) pc = .ok (.getfield idx, 3)) (hpc : pc + 3 = pc') (f : qb_FL (qb_nm M).cls idx ci k fin ty) (hs : sh[c]? = some (.inl (ci, sl))) (hk : sl[k]? = some (some (some b))) (kk : qb_R M cs ss sh pc' L (.inr (.inl b) :: st) hp Q) : qb_R M cs ss sh pc L (.inr (.inl c) :: st) hp Q := by
  subst hpc
  intro p l e s m args below meth cd D cI S n0 ad0 ad A H locs ls hC hW hS hL hst hN
  obtain ⟨C, Tb, N, hc, hkN, hl, -⟩ := f
  have h2 := qb_st1 hst
  refine va_get (a := ad c) (v := .ref (ad b)) hC.1 hC.2.1 hC.2.2.2.2.2.2.2.1 (qb_cls ci _ hc).1 hC.2.2.2.2.2.2.1 hC.2.2.2.2.2.2.2.2.1 hW.1 c (qb_ws_at hs) hc k hkN (hC.2.2.2.2.2.2.2.1 _ hl) (fun _ h => h) (qb_fs_at hk) d ?_
  exact kk p l e s m args below meth cd D cI S n0 ad0 ad A H locs ls hC hW hS hL (qb_stc (a := .inr (.inl b)) (hW.2.2.2.2 c ci sl hs k b hk) h2.2) hN
theorem qb_Nst {S : qb_S} {n0 : Nat} {ad0 ad : Nat → Nat} {hp : qb_H} {sh : qb_Sh} (h : qb_N S n0 ad0 ad hp sh) {c : Nat} {i x : Int} (hc : c < sh.length) (hw : qb_wf sh) : qb_N S n0 ad0 ad (qb_st hp c i x) sh := by
  have h1 := hw.1
  exact ⟨h.1, h.2.1, h.2.2.1, (qb_st_ne (by omega)).trans h.2.2.2.1, (qb_st_ne (by omega)).trans h.2.2.2.2.1, h.2.2.2.2.2⟩
theorem qb_puti {pc' : Nat} {idx ci k c : Nat} {ty : FieldType} {sl : List (Option (Option Nat))} {x : Int} (d : decode (qb_by M) pc = .ok (.putfield idx, 3)) (hpc : pc + 3 = pc') (f : qb_FL (qb_nm M).cls idx ci k false ty) (hty : ty = .int ∨ (ty = .boolean ∧ (x = 0 ∨ x = 1))) (hs : sh[c]? = some (.inl (ci, sl))) (hk : sl[k]? = some none) {hp' : qb_H} (hh : qb_st hp c (k : Int) x = hp') (kk : qb_R M cs ss sh pc' L (st) hp' Q) : qb_R M cs ss sh pc L (.inl x :: .inr (.inl c) :: st) hp Q := by
  subst hpc
  subst hh
  intro p l e s m args below meth cd D cI S n0 ad0 ad A H locs ls hC hW hS hL hst hN
  obtain ⟨C, Tb, N, hc, hkN, hl, hfin, htp, -⟩ := f
  have h2 := qb_st2 hst
  obtain ⟨ty0, hty0⟩ := (qb_cls ci _ hc).2.1
  have hlen : k < sl.length := (List.getElem?_eq_some_iff.mp hk).1
  have hn : narrow ty (.int (Int32.ofInt x)) = .int (Int32.ofInt x) ∧ fits ty (.int (Int32.ofInt x)) = true := by
    rcases hty with rfl | ⟨rfl, rfl | rfl⟩
    · exact ⟨rfl, rfl⟩
    · exact ⟨rfl, rfl⟩
    · exact ⟨rfl, rfl⟩
  refine va_put (a := ad c) (v := .int (Int32.ofInt x)) (ty := ty) hC.1 hC.2.1 hC.2.2.2.2.2.2.2.1 (qb_cls ci _ hc).1 ty0 hty0 (qb_cls ci _ hc).2.2 hC.2.2.2.2.2.2.1 hC.2.2.2.2.2.2.2.2.1 hW.1 hW.2.1 hS c (qb_ws_at hs) hc k hkN (hC.2.2.2.2.2.2.2.1 _ hl) (fun _ h => h) hfin htp hn.1 hn.2 (by simpa [qb_fs] using hlen) d (fun H1 locs1 hP1 hD1 hS1 => ?_)
  rw [qb_ws_put hs hk] at hP1 hD1
  exact kk p l e s m args below meth cd D cI S n0 ad0 ad A H1 locs1 ls hC ⟨hP1, hD1, qb_st_in hW.2.2.1 h2.1, hW.2.2.2⟩ hS1 hL h2.2.2 (qb_Nst hN (List.getElem?_eq_some_iff.mp hs).1 hW.2.2.2)
theorem qb_idx {i : Int} {n : Nat} (hi : qb_in i) (h0 : 0 ≤ i) (h1 : i < n) : vp_in (Int32.ofInt i) n ∧ (((Int32.ofInt i).toNatClampNeg : Nat) : Int) = i := by
  refine ⟨vp_in_iff.mpr ⟨by rw [qb_toI hi]; exact h0, by rw [qb_toI hi]; exact h1⟩, ?_⟩
  show (((Int32.ofInt i).toInt.toNat : Nat) : Int) = i
  rw [qb_toI hi]; omega
theorem qb_iald {pc' : Nat} {c n : Nat} {i : Int} (d : decode (qb_by M) pc = .ok (.iaload, 1)) (hpc : pc + 1 = pc') (hs : sh[c]? = some (.inr n)) (h0 : 0 ≤ i) (h1 : i < (n : Int)) {v : Int} (hv : hp c i = v) (kk : qb_R M cs ss sh pc' L (.inl v :: st) hp Q) : qb_R M cs ss sh pc L (.inl i :: .inr (.inl c) :: st) hp Q := by
  subst hpc
  subst hv
  intro p l e s m args below meth cd D cI S n0 ad0 ad A H locs ls hC hW hS hL hst hN
  have h2 := qb_st2 hst
  have h3 := qb_idx h2.1 h0 h1
  refine va_iald (a := ad c) (i := Int32.ofInt i) (f := fun j => Int32.ofInt (hp c j)) hC.1 hC.2.1 hC.2.2.2.2.2.2.2.2.1 hW.1 c 0 (qb_ws_at hs) rfl h3.1 d ?_
  simp only [h3.2]
  exact kk p l e s m args below meth cd D cI S n0 ad0 ad A H locs ls hC hW hS hL (qb_stc (a := .inl (hp c i)) (hW.2.2.1 c i) h2.2.2) hN
theorem qb_iast {pc' : Nat} {c n : Nat} {i x : Int} (d : decode (qb_by M) pc = .ok (.iastore, 1)) (hpc : pc + 1 = pc') (hs : sh[c]? = some (.inr n)) (h0 : 0 ≤ i) (h1 : i < (n : Int)) (kk : qb_R M cs ss sh pc' L (st) (qb_st hp c i x) Q) : qb_R M cs ss sh pc L (.inl x :: .inl i :: .inr (.inl c) :: st) hp Q := by
  subst hpc
  intro p l e s m args below meth cd D cI S n0 ad0 ad A H locs ls hC hW hS hL hst hN
  have h2 := qb_st2 hst
  have h4 := qb_st1 h2.2.2
  have h3 := qb_idx h2.2.1 h0 h1
  refine va_iast (a := ad c) (i := Int32.ofInt i) (x := Int32.ofInt x) (f := fun j => Int32.ofInt (hp c j)) hC.1 hC.2.1 hC.2.2.2.2.2.2.2.2.1 hW.1 hW.2.1 hS c 0 (qb_ws_at hs) rfl h3.1 d (fun H1 locs1 hP1 hD1 hS1 => ?_)
  rw [qb_ws_sto hs h0 h2.2.1] at hP1 hD1
  exact kk p l e s m args below meth cd D cI S n0 ad0 ad A H1 locs1 ls hC ⟨hP1, hD1, qb_st_in hW.2.2.1 h2.1, hW.2.2.2⟩ hS1 hL h4.2 (qb_Nst hN (List.getElem?_eq_some_iff.mp hs).1 hW.2.2.2)
-- the two tables of rules
theorem qb_getlo {pc' : Nat} {idx : Nat} (d : decode (qb_by M) pc = .ok (.getstatic idx, 3)) (hpc : pc + 3 = pc') (hl : Cond.fieldLink (qb_nm M).cls idx "QuayBrands" "RULE_LOWEST" "[I" ∈ qb_wg) (kk : qb_R M cs ss sh pc' L (.inr (.inl 1000) :: st) hp Q) : qb_R M cs ss sh pc L (st) hp Q := by
  subst hpc
  intro p l e s m args below meth cd D cI S n0 ad0 ad A H locs ls hC hW hS hL hst hN
  refine va_gets (C := RX10) (ref := "QuayBrands") (n := "RULE_LOWEST") (d := "[I") (v := .ref (ad 1000)) hC.1 hC.2.1 (by rw [hN.1]; exact hC.2.2.2.2.2.2.2.2.2.2.2.1.1) hS hC.2.2.2.2.2.2.1 (hC.2.2.2.2.2.2.2.1 _ hl) (fun _ h => h) d ?_
  exact kk p l e s m args below meth cd D cI S n0 ad0 ad A H locs ls hC hW hS hL (qb_stc (a := .inr (.inl 1000)) (Or.inr (Nat.le_refl _)) hst) hN
theorem qb_gethi {pc' : Nat} {idx : Nat} (d : decode (qb_by M) pc = .ok (.getstatic idx, 3)) (hpc : pc + 3 = pc') (hl : Cond.fieldLink (qb_nm M).cls idx "QuayBrands" "RULE_HIGHEST" "[I" ∈ qb_wg) (kk : qb_R M cs ss sh pc' L (.inr (.inl 1001) :: st) hp Q) : qb_R M cs ss sh pc L (st) hp Q := by
  subst hpc
  intro p l e s m args below meth cd D cI S n0 ad0 ad A H locs ls hC hW hS hL hst hN
  refine va_gets (C := RX10) (ref := "QuayBrands") (n := "RULE_HIGHEST") (d := "[I") (v := .ref (ad 1001)) hC.1 hC.2.1 (by rw [hN.2.1]; exact hC.2.2.2.2.2.2.2.2.2.2.2.2.1.1) hS hC.2.2.2.2.2.2.1 (hC.2.2.2.2.2.2.2.1 _ hl) (fun _ h => h) d ?_
  exact kk p l e s m args below meth cd D cI S n0 ad0 ad A H locs ls hC hW hS hL (qb_stc (a := .inr (.inl 1001)) (Or.inr (Nat.le_succ _)) hst) hN
theorem qb_in_tab (f : List Int) (hf : f.all (fun x => decide (-2147483648 ≤ x) && decide (x ≤ 2147483647)) = true) (j : Nat) : qb_in (f.getD j 0) := by
  by_cases h : j < f.length
  · have := List.all_eq_true.mp hf _ (List.getElem_mem h)
    simp only [Bool.and_eq_true, decide_eq_true_eq] at this
    rw [List.getD_eq_getElem?_getD, List.getElem?_eq_getElem h]
    exact this
  · rw [List.getD_eq_getElem?_getD, List.getElem?_eq_none (by omega)]
    exact qb_in0
theorem qb_tlo {pc' : Nat} {i : Int} (d : decode (qb_by M) pc = .ok (.iaload, 1)) (hpc : pc + 1 = pc') (h0 : 0 ≤ i) (h1 : i < 7) (kk : qb_R M cs ss sh pc' L (.inl (qb_low i.toNat) :: st) hp Q) : qb_R M cs ss sh pc L (.inl i :: .inr (.inl 1000) :: st) hp Q := by
  subst hpc
  intro p l e s m args below meth cd D cI S n0 ad0 ad A H locs ls hC hW hS hL hst hN
  have h2 := qb_st2 hst
  have h3 := qb_idx (n := 7) h2.1 h0 h1
  refine va_ti (t := ad 1000) (i := Int32.ofInt i) hC.1 hC.2.1 (by rw [hN.1]; exact hC.2.2.2.2.2.2.2.2.2.2.2.1.2) hS h3.1 (v := .int (Int32.ofInt (qb_low i.toNat))) (by show Value.int (Int32.ofInt (qb_low (Int32.ofInt i).toNatClampNeg)) = _; rw [show (Int32.ofInt i).toNatClampNeg = i.toNat by omega]) d ?_
  exact kk p l e s m args below meth cd D cI S n0 ad0 ad A H locs ls hC hW hS hL (qb_stc (a := .inl (qb_low i.toNat)) (qb_in_tab _ (by decide) _) h2.2.2) hN
theorem qb_thi {pc' : Nat} {i : Int} (d : decode (qb_by M) pc = .ok (.iaload, 1)) (hpc : pc + 1 = pc') (h0 : 0 ≤ i) (h1 : i < 7) (kk : qb_R M cs ss sh pc' L (.inl (qb_high i.toNat) :: st) hp Q) : qb_R M cs ss sh pc L (.inl i :: .inr (.inl 1001) :: st) hp Q := by
  subst hpc
  intro p l e s m args below meth cd D cI S n0 ad0 ad A H locs ls hC hW hS hL hst hN
  have h2 := qb_st2 hst
  have h3 := qb_idx (n := 7) h2.1 h0 h1
  refine va_ti (t := ad 1001) (i := Int32.ofInt i) hC.1 hC.2.1 (by rw [hN.2.1]; exact hC.2.2.2.2.2.2.2.2.2.2.2.2.1.2) hS h3.1 (v := .int (Int32.ofInt (qb_high i.toNat))) (by show Value.int (Int32.ofInt (qb_high (Int32.ofInt i).toNatClampNeg)) = _; rw [show (Int32.ofInt i).toNatClampNeg = i.toNat by omega]) d ?_
  exact kk p l e s m args below meth cd D cI S n0 ad0 ad A H locs ls hC hW hS hL (qb_stc (a := .inl (qb_high i.toNat)) (qb_in_tab _ (by decide) _) h2.2.2) hN
-- the script
theorem qb_sld {pc' : Nat} {i : Int} (d : decode (qb_by M) pc = .ok (.iaload, 1)) (hpc : pc + 1 = pc') (h0 : 0 ≤ i) (h1 : i < hp 1003 0) (kk : qb_R M cs ss sh pc' L (.inl (hp 1002 i) :: st) hp Q) : qb_R M cs ss sh pc L (.inl i :: .inr (.inl 1002) :: st) hp Q := by
  subst hpc
  intro p l e s m args below meth cd D cI S n0 ad0 ad A H locs ls hC hW hS hL hst hN
  have h2 := qb_st2 hst
  obtain ⟨ce, g1, g2, g3, g4, g5, g6⟩ := hC.2.2.2.2.2.2.2.2.2.2.2.2.2
  rw [← hN.2.2.2.2.1] at g4
  have h3 := qb_idx (n := ce.slots.size) h2.1 h0 (by rw [g4]; exact h1)
  refine W.iald (a := ad 1002) (v := .int (Int32.ofInt (hp 1002 i))) hC.1 hC.2.1 (cell := ce) (j := Int32.ofInt i) (by rw [hN.2.2.1, hS.2.1 _ (Array.getElem?_eq_some_iff.mp g1).1 g6]; exact g1) g2 g3 h3.1 (by rw [g5 _ (by omega), h3.2, ← hN.2.2.2.1]) rfl rfl d ?_
  exact kk p l e s m args below meth cd D cI S n0 ad0 ad A H locs ls hC hW hS hL (qb_stc (a := .inl (hp 1002 i)) (hW.2.2.1 _ _) h2.2.2) hN
theorem qb_slen {pc' : Nat} (d : decode (qb_by M) pc = .ok (.arraylength, 1)) (hpc : pc + 1 = pc') (kk : qb_R M cs ss sh pc' L (.inl (hp 1003 0) :: st) hp Q) : qb_R M cs ss sh pc L (.inr (.inl 1002) :: st) hp Q := by
  subst hpc
  intro p l e s m args below meth cd D cI S n0 ad0 ad A H locs ls hC hW hS hL hst hN
  have h2 := qb_st1 hst
  obtain ⟨ce, g1, g2, g3, g4, g5, g6⟩ := hC.2.2.2.2.2.2.2.2.2.2.2.2.2
  rw [← hN.2.2.2.2.1] at g4
  refine W.alen (a := ad 1002) (n := Int32.ofInt (hp 1003 0)) hC.1 hC.2.1 (cell := ce) (ty := .int) (by rw [hN.2.2.1, hS.2.1 _ (Array.getElem?_eq_some_iff.mp g1).1 g6]; exact g1) g2 (by rw [← g4]; rfl) rfl rfl d ?_
  exact kk p l e s m args below meth cd D cI S n0 ad0 ad A H locs ls hC hW hS hL (qb_stc (a := .inl (hp 1003 0)) (hW.2.2.1 _ _) h2.2) hN
end
end
section
/-! Math, copies, ends, makings, calls (wip/whole/gen/rows3.py) -/
theorem qb_maxc : Cond.code Lib.Math.max.name Lib.Math.max.code 2 (some .int) ∈ qb_wg := qb_wg_in 511 (by decide +kernel) (by decide +kernel)
theorem qb_maxs : Cond.static Lib.Math.max.name ∈ qb_wg := qb_wg_in 510 (by decide +kernel) (by decide +kernel)
theorem qb_minc : Cond.code Lib.Math.min.name Lib.Math.min.code 2 (some .int) ∈ qb_wg := qb_wg_in 518 (by decide +kernel) (by decide +kernel)
theorem qb_mins : Cond.static Lib.Math.min.name ∈ qb_wg := qb_wg_in 517 (by decide +kernel) (by decide +kernel)
theorem qb_mathi : Cond.initialized "java/lang/Math" ∈ qb_wg := qb_wg_in 72 (by decide +kernel) (by decide +kernel)
theorem qb_sysi : Cond.initialized "java/lang/System" ∈ qb_wg := qb_wg_in 74 (by decide +kernel) (by decide +kernel)
theorem qb_acn : Cond.native arraycopyName ∈ qb_wg := qb_wg_in 874 (by decide +kernel) (by decide +kernel)
theorem qb_acs : Cond.static arraycopyName ∈ qb_wg := qb_wg_in 873 (by decide +kernel) (by decide +kernel)
theorem qb_aci : Cond.arrayClass .int ∈ qb_wg := qb_wg_in 99 (by decide +kernel) (by decide +kernel)
theorem qb_obi : Cond.instanceMethod Lib.objectInit ∈ qb_wg := qb_wg_in 81 (by decide +kernel) (by decide +kernel)
theorem qb_obc : Cond.code Lib.objectInit ⟨#[0xb1]⟩ 1 none ∈ qb_wg := qb_wg_in 82 (by decide +kernel) (by decide +kernel)
section
variable {M : qb_M} {cs ss : Nat} {sh : qb_Sh} {pc : Nat} {L : List (Option qb_V)} {st : List qb_V} {hp : qb_H} {Q : Option qb_V → qb_H → qb_Sh → Prop}
theorem qb_mmax {pc' : Nat} {idx : Nat} {x y : Int} (d : decode (qb_by M) pc = .ok (.invokestatic idx, 3)) (hpc : pc + 3 = pc') (hl : Cond.methodLink (qb_nm M).cls idx Lib.Math.max.name ∈ qb_wg) (hr : 1 ≤ qb_fr M ∧ (st.map qb_cat).sum + 13 ≤ qb_lo M ∧ cs ≤ qb_mc M ∧ ss ≤ qb_ms M) (kk : qb_R M cs ss sh pc' L (.inl (max x y) :: st) hp Q) : qb_R M cs ss sh pc L (.inl y :: .inl x :: st) hp Q := by
  subst hpc
  intro p l e s m args below meth cd D cI S n0 ad0 ad A H locs ls hC hW hS hL hst hN
  have h2 := qb_st2 hst
  refine va_mmax (x := Int32.ofInt x) (y := Int32.ofInt y) hC.1 hC.2.1 (hC.2.2.1.trans hL.1.symm) hC.2.2.2.2.2.2.1 (hC.2.2.2.2.2.2.2.1 _ hl) (hC.2.2.2.2.2.2.2.1 _ qb_maxs) (hC.2.2.2.2.2.2.2.1 _ qb_mathi) (hC.2.2.2.2.2.2.2.1 _ qb_maxc) hr.1 (by rw [qb_cats]; exact hr.2.1) hr.2.2.1 hr.2.2.2 d ?_
  have he : (if Int32.ofInt x < Int32.ofInt y then Int32.ofInt y else Int32.ofInt x) = Int32.ofInt (max x y) := by
    simp only [qb_ltI h2.1 h2.2.1, qb_ltI h2.2.1 h2.1]
    split
    · rw [show max x y = y by omega]
    · rw [show max x y = x by omega]
  rw [he]
  exact kk p l e s m args below meth cd D cI S n0 ad0 ad A H locs ls hC hW hS hL (qb_stc (a := .inl (max x y)) (by have e1 : qb_in x := h2.2.1; have e2 : qb_in y := h2.1; show qb_in (max x y); unfold qb_in at e1 e2 ⊢; omega) h2.2.2) hN
theorem qb_mmin {pc' : Nat} {idx : Nat} {x y : Int} (d : decode (qb_by M) pc = .ok (.invokestatic idx, 3)) (hpc : pc + 3 = pc') (hl : Cond.methodLink (qb_nm M).cls idx Lib.Math.min.name ∈ qb_wg) (hr : 1 ≤ qb_fr M ∧ (st.map qb_cat).sum + 13 ≤ qb_lo M ∧ cs ≤ qb_mc M ∧ ss ≤ qb_ms M) (kk : qb_R M cs ss sh pc' L (.inl (min x y) :: st) hp Q) : qb_R M cs ss sh pc L (.inl y :: .inl x :: st) hp Q := by
  subst hpc
  intro p l e s m args below meth cd D cI S n0 ad0 ad A H locs ls hC hW hS hL hst hN
  have h2 := qb_st2 hst
  refine va_mmin (x := Int32.ofInt x) (y := Int32.ofInt y) hC.1 hC.2.1 (hC.2.2.1.trans hL.1.symm) hC.2.2.2.2.2.2.1 (hC.2.2.2.2.2.2.2.1 _ hl) (hC.2.2.2.2.2.2.2.1 _ qb_mins) (hC.2.2.2.2.2.2.2.1 _ qb_mathi) (hC.2.2.2.2.2.2.2.1 _ qb_minc) hr.1 (by rw [qb_cats]; exact hr.2.1) hr.2.2.1 hr.2.2.2 d ?_
  have he : (if Int32.ofInt y < Int32.ofInt x then Int32.ofInt y else Int32.ofInt x) = Int32.ofInt (min x y) := by
    simp only [qb_ltI h2.1 h2.2.1, qb_ltI h2.2.1 h2.1]
    split
    · rw [show min x y = y by omega]
    · rw [show min x y = x by omega]
  rw [he]
  exact kk p l e s m args below meth cd D cI S n0 ad0 ad A H locs ls hC hW hS hL (qb_stc (a := .inl (min x y)) (by have e1 : qb_in x := h2.2.1; have e2 : qb_in y := h2.1; show qb_in (min x y); unfold qb_in at e1 e2 ⊢; omega) h2.2.2) hN
def qb_cpy (hp : qb_H) (a b : Nat) (sp dp n : Int) : qb_H := fun c => if c = b then (fun j => if dp ≤ j ∧ j < dp + n then hp a (sp + (j - dp)) else hp b j) else hp c
theorem qb_copy {pc' : Nat} {idx a b na nb : Nat} {sp dp n : Int} (d : decode (qb_by M) pc = .ok (.invokestatic idx, 3)) (hpc : pc + 3 = pc') (hl : Cond.methodLink (qb_nm M).cls idx arraycopyName ∈ qb_wg) (ha : sh[a]? = some (.inr na)) (hb : sh[b]? = some (.inr nb)) (h1 : 0 ≤ sp) (h2 : 0 ≤ dp) (h3 : 0 ≤ n) (h4 : sp + n ≤ na) (h5 : dp + n ≤ nb) (hr : 1 ≤ qb_fr M ∧ (st.map qb_cat).sum + (nativeFrameWords "java/lang/System" "arraycopy" 5 + 11) ≤ qb_lo M) (kk : qb_R M cs ss sh pc' L (st) (qb_cpy hp a b sp dp n) Q) : qb_R M cs ss sh pc L (.inl n :: .inl dp :: .inr (.inl b) :: .inl sp :: .inr (.inl a) :: st) hp Q := by
  subst hpc
  intro p l e s m args below meth cd D cI S n0 ad0 ad A H locs ls hC hW hS hL hst hN
  have g1 := qb_st2 hst
  have g2 := qb_st2 g1.2.2
  have g3 := qb_st1 g2.2.2
  have ng : ∀ z : Int, qb_in z → 0 ≤ z → ¬ Int32.ofInt z < 0 ∧ (((Int32.ofInt z).toNatClampNeg : Nat) : Int) = z := by
    intro z hz h0
    refine ⟨fun h => ?_, ?_⟩
    · rw [qb_0I, qb_ltI hz qb_in0] at h; omega
    · show (((Int32.ofInt z).toInt.toNat : Nat) : Int) = z
      rw [qb_toI hz]; omega
  have ksp := ng sp g2.2.1 h1
  have kdp := ng dp g1.2.1 h2
  have kn := ng n g1.1 h3
  refine va_copyi (a0 := ad a) (a := ad b) (sp := Int32.ofInt sp) (dp := Int32.ofInt dp) (n := Int32.ofInt n) (f := fun j => Int32.ofInt (hp a j)) (g := fun j => Int32.ofInt (hp b j)) (ty := .int) hC.1 hC.2.1 (hC.2.2.1.trans hL.1.symm) hC.2.2.2.2.2.2.1 (hC.2.2.2.2.2.2.2.1 _ hl) (hC.2.2.2.2.2.2.2.1 _ qb_acn) (hC.2.2.2.2.2.2.2.1 _ qb_acs) (hC.2.2.2.2.2.2.2.1 _ qb_sysi) hC.2.2.2.2.2.2.2.2.1 hW.1 hW.2.1 hS a b 0 0 (qb_ws_at ha) (qb_ws_at hb) rfl rfl rfl ksp.1 kdp.1 kn.1 (by omega) (by omega) (fun _ _ => rfl) hr.1 (by rw [qb_cats]; exact hr.2) d (fun H1 locs1 hP1 hD1 hS1 => ?_)
  have hlb : b < sh.length := (List.getElem?_eq_some_iff.mp hb).1
  have he : (qb_ws ad cI hp sh).set b (ad b, .inl (cI, nb, .inl (va_cpy (fun j => Int32.ofInt (hp a j)) (fun j => Int32.ofInt (hp b j)) (Int32.ofInt sp).toNatClampNeg (Int32.ofInt dp).toNatClampNeg (Int32.ofInt n).toNatClampNeg))) = qb_ws ad cI (qb_cpy hp a b sp dp n) sh := by
    apply List.ext_getElem?
    intro j
    simp only [qb_ws, List.getElem?_set, List.getElem?_mapIdx, List.length_mapIdx]
    by_cases ej : b = j
    · subst ej
      rw [if_pos rfl, if_pos hlb, hb]
      simp only [Option.map_some, qb_ce, Option.some.injEq, Prod.mk.injEq, true_and, Sum.inl.injEq]
      funext q
      simp only [va_cpy, qb_cpy, if_true]
      by_cases hq : (Int32.ofInt dp).toNatClampNeg ≤ q ∧ q < (Int32.ofInt dp).toNatClampNeg + (Int32.ofInt n).toNatClampNeg
      · rw [if_pos hq, if_pos (by omega)]
        congr 2
        omega
      · rw [if_neg hq, if_neg (by omega)]
    · rw [if_neg ej]
      have eh : qb_cpy hp a b sp dp n j = hp j := if_neg (Ne.symm ej)
      rcases hj : sh[j]? with _ | (⟨ci', sl'⟩ | n')
      · rfl
      · show some (qb_ce _ _ _ _ _) = some (qb_ce _ _ _ _ _)
        simp only [qb_ce, eh]
      · show some (qb_ce _ _ _ _ _) = some (qb_ce _ _ _ _ _)
        simp only [qb_ce, eh]
  rw [he] at hP1 hD1
  have hw1 := hW.2.2.2.1
  exact kk p l e s m args below meth cd D cI S n0 ad0 ad A H1 locs1 ls hC ⟨hP1, hD1, (fun c i => by
    unfold qb_cpy
    by_cases ec : c = b
    · rw [if_pos ec]
      show qb_in (if _ then _ else _)
      split
      · exact hW.2.2.1 _ _
      · exact hW.2.2.1 _ _
    · rw [if_neg ec]; exact hW.2.2.1 _ _), hW.2.2.2⟩ hS1 hL g3.2 ⟨hN.1, hN.2.1, hN.2.2.1, (if_neg (by omega)).trans hN.2.2.2.1, (if_neg (by omega)).trans hN.2.2.2.2.1, hN.2.2.2.2.2⟩
theorem qb_obj {pc' : Nat} {idx a : Nat} (d : decode (qb_by M) pc = .ok (.invokespecial idx, 3)) (hpc : pc + 3 = pc') (hl : Cond.methodLink (qb_nm M).cls idx Lib.objectInit ∈ qb_wg) (hr : 1 ≤ qb_fr M ∧ (st.map qb_cat).sum + 12 ≤ qb_lo M) (kk : qb_R M cs ss sh pc' L (st) hp Q) : qb_R M cs ss sh pc L (.inr (.inl a) :: st) hp Q := by
  subst hpc
  intro p l e s m args below meth cd D cI S n0 ad0 ad A H locs ls hC hW hS hL hst hN
  have h2 := qb_st1 hst
  refine W.objInit (a := ad a) (rest := st.map (qb_tv ad)) hC.1 hC.2.1 hC.2.2.2.2.2.2.1 (hC.2.2.2.2.2.2.2.1 _ hl) (hC.2.2.2.2.2.2.2.1 _ qb_obi) (hC.2.2.2.2.2.2.2.1 _ qb_obc) rfl (hL.1.trans hC.2.2.1.symm) rfl d hr.1 (by rw [qb_cats]; show 2 * 0 + (st.map qb_cat).sum + 12 ≤ qb_lo M; have := hr.2; omega) ?_
  exact kk p l e s m args below meth cd D cI S n0 ad0 ad A H locs ls hC hW hS hL h2.2 hN
theorem qb_iret {x : Int} (d : decode (qb_by M) pc = .ok (.ireturn, 1)) (hr : qb_rt M = some .int) (hc : cs ≤ qb_mc M ∧ ss ≤ qb_ms M) (hQ : Q (some (.inl x)) hp sh) : qb_R M cs ss sh pc L ([.inl x]) hp Q := by
  intro p l e s m args below meth cd D cI S n0 ad0 ad A H locs ls hC hW hS hL hst hN
  have h2 := qb_st1 hst
  refine W.widen hc.1 hc.2 ?_
  exact W.iret hC.1 hC.2.1 (hC.2.2.2.1.trans hr) (fun t ht _ => ⟨⟨some (.inl x), hp, sh, ad, rfl, hQ, fun v hv => by cases hv; exact h2.1, by rw [ht]; exact hW, hN⟩, hS.F ht⟩) hS.2.2 d hC.2.2.2.2.1
theorem qb_lret {x : Int} (d : decode (qb_by M) pc = .ok (.lreturn, 1)) (hr : qb_rt M = some .long) (hc : cs ≤ qb_mc M ∧ ss ≤ qb_ms M) (hQ : Q (some (.inr (.inr x))) hp sh) : qb_R M cs ss sh pc L ([.inr (.inr x)]) hp Q := by
  intro p l e s m args below meth cd D cI S n0 ad0 ad A H locs ls hC hW hS hL hst hN
  have h2 := qb_st1 hst
  refine W.widen hc.1 hc.2 ?_
  exact W.lret hC.1 hC.2.1 (hC.2.2.2.1.trans hr) (fun t ht _ => ⟨⟨some (.inr (.inr x)), hp, sh, ad, rfl, hQ, fun v hv => by cases hv; exact h2.1, by rw [ht]; exact hW, hN⟩, hS.F ht⟩) hS.2.2 d hC.2.2.2.2.1
theorem qb_zret {x : Int} (d : decode (qb_by M) pc = .ok (.ireturn, 1)) (hr : qb_rt M = some .boolean) (hx : x = 0 ∨ x = 1) (hc : cs ≤ qb_mc M ∧ ss ≤ qb_ms M) (hQ : Q (some (.inl x)) hp sh) : qb_R M cs ss sh pc L ([.inl x]) hp Q := by
  intro p l e s m args below meth cd D cI S n0 ad0 ad A H locs ls hC hW hS hL hst hN
  have h2 := qb_st1 hst
  refine W.widen hc.1 hc.2 ?_
  exact W.zret hC.1 hC.2.1 (hC.2.2.2.1.trans hr) (by rcases hx with rfl | rfl <;> rfl) (fun t ht _ => ⟨⟨some (.inl x), hp, sh, ad, rfl, hQ, fun v hv => by cases hv; exact h2.1, by rw [ht]; exact hW, hN⟩, hS.F ht⟩) hS.2.2 d hC.2.2.2.2.1
theorem qb_vret (d : decode (qb_by M) pc = .ok (.return_, 1)) (hr : qb_rt M = none) (hc : cs ≤ qb_mc M ∧ ss ≤ qb_ms M) (hQ : Q none hp sh) : qb_R M cs ss sh pc L ([]) hp Q := by
  intro p l e s m args below meth cd D cI S n0 ad0 ad A H locs ls hC hW hS hL hst hN
  refine W.widen hc.1 hc.2 ?_
  exact W.vret hC.1 hC.2.1 (hC.2.2.2.1.trans hr) (fun t ht _ => ⟨⟨none, hp, sh, ad, rfl, hQ, (fun v hv => by cases hv), (by rw [ht]; exact hW), hN⟩, hS.F ht⟩) hS.2.2 d hC.2.2.2.2.1
def qb_zero (hp : qb_H) (c : Nat) : qb_H := fun c' => if c' = c then (fun _ => 0) else hp c'
theorem qb_tv_ad {ad ad' : Nat → Nat} {n : Nat} {v : qb_V} (hv : qb_ok n v) (hE : ∀ k, (k < n ∨ 1000 ≤ k) → ad' k = ad k) : qb_tv ad' v = qb_tv ad v := by
  rcases v with x | x | x
  · rfl
  · exact congrArg Value.ref (hE x hv)
  · rfl
theorem qb_ok_up {n n' : Nat} {v : qb_V} (hv : qb_ok n v) (h : n ≤ n') : qb_ok n' v := by
  rcases v with x | x | x
  · exact hv
  · exact hv.imp (fun z => Nat.lt_of_lt_of_le z h) id
  · exact hv
theorem qb_map_ad {ad ad' : Nat → Nat} {n : Nat} {st : List qb_V} (hv : ∀ v ∈ st, qb_ok n v) (hE : ∀ k, (k < n ∨ 1000 ≤ k) → ad' k = ad k) : st.map (qb_tv ad') = st.map (qb_tv ad) := List.map_congr_left (fun v h => qb_tv_ad (hv v h) hE)
theorem qb_L_ad {ad ad' : Nat → Nat} {n n' nL : Nat} {ls : Array Slot} {L : List (Option qb_V)} (h : qb_L ad n nL ls L) (hE : ∀ k, (k < n ∨ 1000 ≤ k) → ad' k = ad k) (hn : n ≤ n') : qb_L ad' n' nL ls L := ⟨h.1, h.2.1, fun i v hi => ⟨qb_ok_up (h.2.2 i v hi).1 hn, by rw [qb_tv_ad (h.2.2 i v hi).1 hE]; exact (h.2.2 i v hi).2⟩⟩
theorem qb_wf_push {sh : qb_Sh} {d : (Nat × List (Option (Option Nat))) ⊕ Nat} (h : qb_wf sh) (hl : sh.length < 999) (hd : ∀ (ci : Nat) (sl : List (Option (Option Nat))), d = .inl (ci, sl) → ∀ (j c : Nat), sl[j]? ≠ some (some (some c))) : qb_wf (sh ++ [d]) := by
  refine ⟨by simp; omega, fun k ci sl hk j c hj => ?_⟩
  rcases Nat.lt_or_ge k sh.length with g | g
  · rw [List.getElem?_append_left g] at hk
    have := h.2 k ci sl hk j c hj
    simp; omega
  · rw [List.getElem?_append_right g] at hk
    obtain ⟨z, hz⟩ : ∃ z, k - sh.length = z := ⟨_, rfl⟩
    rw [hz] at hk
    rcases z with _ | z
    · simp only [List.getElem?_cons_zero, Option.some.injEq] at hk
      exact absurd hj (hd ci sl hk j c)
    · simp at hk
theorem qb_grow {D : va_G} {cI : ClassId} {ad ad' : Nat → Nat} {hp : qb_H} {sh : qb_Sh} {d : (Nat × List (Option (Option Nat))) ⊕ Nat} {S : qb_S} {n0 : Nat} {ad0 : Nat → Nat} {A : Nat → Prop} {H1 : Heap} (hin : ∀ c i, qb_in (hp c i)) (hw : qb_wf sh) (hl : sh.length < 999) (hd : ∀ (ci : Nat) (sl : List (Option (Option Nat))), d = .inl (ci, sl) → ∀ (j c : Nat), sl[j]? ≠ some (some (some c))) (hE : ∀ k, (k < sh.length ∨ 1000 ≤ k) → ad' k = ad k)
    (hP : va_P D vwCl (qb_ws ad cI hp sh ++ [qb_ce ad' cI (qb_zero hp sh.length) sh.length d]) H1) (hD : va_D A (qb_ws ad cI hp sh ++ [qb_ce ad' cI (qb_zero hp sh.length) sh.length d])) (hN : qb_N S n0 ad0 ad hp sh) :
    qb_Wd D cI ad' (qb_zero hp sh.length) (sh ++ [d]) A H1 ∧ qb_N S n0 ad0 ad' (qb_zero hp sh.length) (sh ++ [d]) := by
  have hz : ∀ k, k ≠ sh.length → qb_zero hp sh.length k = hp k := fun k hk => if_neg hk
  rw [← qb_ws_push hw hE hz] at hP hD
  refine ⟨⟨hP, hD, fun c i => ?_, qb_wf_push hw hl hd⟩, ?_⟩
  · unfold qb_zero
    split
    · exact qb_in0
    · exact hin c i
  · obtain ⟨h1, h2, h3, h4, h5, h6, h7⟩ := hN
    exact ⟨(hE _ (Or.inr (by omega))).trans h1, (hE _ (Or.inr (by omega))).trans h2, (hE _ (Or.inr (by omega))).trans h3, (hz _ (by omega)).trans h4, (hz _ (by omega)).trans h5, by simp; omega, fun k hk => (hE k (by omega)).trans (h7 k hk)⟩
theorem qb_new {pc' : Nat} {idx ci N : Nat} {C : String} {Tb : u_T} {sl : List (Option (Option Nat))} (d : decode (qb_by M) pc = .ok (.new idx, 3)) (hpc : pc + 3 = pc') (hc : vwCl[ci]? = some (C, Tb, N)) (hw : Cond.classLink (qb_nm M).cls idx C ∈ qb_wg ∧ Cond.instantiable C N ∈ qb_wg ∧ Cond.initialized C ∈ qb_wg) (hf : ∃ ty : Nat → FieldType, (∀ k, k < N → parseFieldDescriptor (Tb k).2.2.1 = some (ty k)) ∧ ∀ (ad : Nat → Nat) (j : Nat), j < N → defaultValue (ty j) = vp_V (qb_fs ad (fun _ => 0) sl) j) (hsl : ∀ (j c : Nat), sl[j]? ≠ some (some (some c))) (hcs : cs + 1 ≤ qb_mc M ∧ ss + N ≤ qb_ms M) (hlen : sh.length < 999)
    (kk : qb_R M (cs + 1) (ss + N) (sh ++ [.inl (ci, sl)]) pc' L (.inr (.inl sh.length) :: st) (qb_zero hp sh.length) Q) : qb_R M cs ss sh pc L (st) hp Q := by
  subst hpc
  intro p l e s m args below meth cd D cI S n0 ad0 ad A H locs ls hC hW hS hL hst hN
  obtain ⟨ty, hty, hdf⟩ := hf
  refine va_new (fs := qb_fs ad (fun _ => 0) sl) hC.1 hC.2.1 hC.2.2.2.2.2.2.2.1 (qb_cls ci _ hc).1 ty hty hC.2.2.2.2.2.2.1 (hC.2.2.2.2.2.2.2.1 _ hw.1) (hC.2.2.2.2.2.2.2.1 _ hw.2.1) (hC.2.2.2.2.2.2.2.1 _ hw.2.2) hC.2.2.2.2.2.2.2.2.1 hW.1 hW.2.1 hS hC.2.2.2.2.2.2.2.2.2.2.1 hc (hdf ad) hcs.1 hcs.2 d (fun q H1 hP1 hD1 hS1 => ?_)
  have hE : ∀ k, (k < sh.length ∨ 1000 ≤ k) → (fun k => if k = sh.length then q else ad k) k = ad k := fun k hk => if_neg (by omega)
  have he : (q, Sum.inr (ci, qb_fs ad (fun _ => 0) sl)) = qb_ce (fun k => if k = sh.length then q else ad k) cI (qb_zero hp sh.length) sh.length (.inl (ci, sl)) := by
    simp only [qb_ce, if_true, qb_zero]
    rw [qb_fs_ad (fun j c h => absurd h (hsl j c)) hE]
  rw [he] at hP1 hD1
  obtain ⟨g1, g2⟩ := qb_grow hW.2.2.1 hW.2.2.2 hlen (fun ci' sl' h => by cases h; exact hsl) hE hP1 hD1 hN
  have K := kk p l e s m args below meth cd D cI S n0 ad0 (fun k => if k = sh.length then q else ad k) A H1 locs ls hC g1 hS1 (qb_L_ad hL hE (by simp)) (qb_stc (a := .inr (.inl sh.length)) (Or.inl (by simp)) (fun v h => qb_ok_up (hst v h) (by simp))) g2
  rw [List.map_cons, qb_map_ad hst hE] at K
  simpa [qb_tv] using K
theorem qb_newa {pc' : Nat} {n : Nat} {x : Int} (d : decode (qb_by M) pc = .ok (.newarray .int, 2)) (hpc : pc + 2 = pc') (hx : x = (n : Int)) (hn : n ≤ 100000) (hcs : cs + 1 ≤ qb_mc M ∧ ss + n ≤ qb_ms M) (hlen : sh.length < 999)
    (kk : qb_R M (cs + 1) (ss + n) (sh ++ [.inr n]) pc' L (.inr (.inl sh.length) :: st) (qb_zero hp sh.length) Q) : qb_R M cs ss sh pc L (.inl x :: st) hp Q := by
  subst hpc
  intro p l e s m args below meth cd D cI S n0 ad0 ad A H locs ls hC hW hS hL hst hN
  have h2 := qb_st1 hst
  subst hx
  have hcl : (Int32.ofInt (n : Int)).toNatClampNeg = n := by
    show (Int32.ofInt (n : Int)).toInt.toNat = n
    rw [qb_toI h2.1]; omega
  refine va_newa (a0 := (n, .inl (fun _ => 0))) (ty := .int) (N' := n) (n := Int32.ofInt (n : Int)) hC.1 hC.2.1 (atype := .int) (hC.2.2.2.2.2.2.2.1 _ qb_aci) rfl hC.2.2.2.2.2.2.2.2.1 hW.1 hW.2.1 hS hC.2.2.2.2.2.2.2.2.2.2.1 (fun _ => rfl) (fun h => by rw [qb_0I, qb_ltI h2.1 qb_in0] at h; omega) hcl (by show n * 4 ≤ _; omega) hcs.1 hcs.2 d (fun q cA H1 hK1 hP1 hD1 hS1 => ?_)
  have ecA : cA = cI := by
    have k1 := (hK1.2 1 (cA, .int) rfl).2
    have k0 := (hK1.2 0 (cI, .int) rfl).2
    exact Option.some.inj (k1.symm.trans k0)
  subst ecA
  have hE : ∀ k, (k < sh.length ∨ 1000 ≤ k) → (fun k => if k = sh.length then q else ad k) k = ad k := fun k hk => if_neg (by have := hW.2.2.2.1; omega)
  have he : (q, Sum.inl (cA, n, Sum.inl (fun _ => 0))) = qb_ce (fun k => if k = sh.length then q else ad k) cA (qb_zero hp sh.length) sh.length (.inr n) := by
    simp only [qb_ce, if_true, qb_zero]
    rfl
  rw [he] at hP1 hD1
  obtain ⟨g1, g2⟩ := qb_grow hW.2.2.1 hW.2.2.2 hlen (fun ci' sl' h => by cases h) hE hP1 hD1 hN
  have K := kk p l e s m args below meth cd D cA S n0 ad0 (fun k => if k = sh.length then q else ad k) A H1 locs ls hC g1 hS1 (qb_L_ad hL hE (by simp)) (qb_stc (a := .inr (.inl sh.length)) (Or.inl (by simp)) (fun v h => qb_ok_up (h2.2 v h) (by simp))) g2
  rw [List.map_cons, qb_map_ad h2.2 hE] at K
  simpa [qb_tv] using K
theorem qb_putr {pc' : Nat} {idx ci k c b : Nat} {ty : FieldType} {sl : List (Option (Option Nat))} (d : decode (qb_by M) pc = .ok (.putfield idx, 3)) (hpc : pc + 3 = pc') (f : qb_FL (qb_nm M).cls idx ci k true ty) (hin : (qb_nm M).name = "<init>") (hty : ∀ a : Nat, narrow ty (.ref a) = .ref a ∧ fits ty (.ref a) = true) (hs : sh[c]? = some (.inl (ci, sl))) (hk : k < sl.length) (kk : qb_R M cs ss (sh.set c (.inl (ci, sl.set k (some (some b))))) pc' L (st) hp Q) : qb_R M cs ss sh pc L (.inr (.inl b) :: .inr (.inl c) :: st) hp Q := by
  subst hpc
  intro p l e s m args below meth cd D cI S n0 ad0 ad A H locs ls hC hW hS hL hst hN
  obtain ⟨C, Tb, N, hc, hkN, hl, hfin, htp, hdec⟩ := f
  have h2 := qb_st2 hst
  obtain ⟨ty0, hty0⟩ := (qb_cls ci _ hc).2.1
  have hcl : c < sh.length := (List.getElem?_eq_some_iff.mp hs).1
  refine va_putF (a := ad c) (v := .ref (ad b)) (ty := ty) hC.1 hC.2.1 hC.2.2.2.2.2.2.2.1 (qb_cls ci _ hc).1 ty0 hty0 (qb_cls ci _ hc).2.2 hC.2.2.2.2.2.2.1 hC.2.2.2.2.2.2.2.2.1 hW.1 hW.2.1 hS c (qb_ws_at hs) hc k hkN (hC.2.2.2.2.2.2.2.1 _ hl) (fun _ h => h) hfin (hC.2.2.2.2.2.1.trans hin) (hdec rfl) htp (hty _).1 (hty _).2 (by simpa [qb_fs] using hk) d (fun H1 locs1 hP1 hD1 hS1 => ?_)
  rw [qb_ws_putR hs hk] at hP1 hD1
  refine kk p l e s m args below meth cd D cI S n0 ad0 ad A H1 locs1 ls hC ⟨hP1, hD1, hW.2.2.1, by simpa using hW.2.2.2.1, fun k' ci' sl' hk' j c' hj => ?_⟩ hS1 (by simpa using hL) (by simpa using h2.2.2) (by simpa [qb_N] using hN)
  rw [List.length_set]
  rw [List.getElem?_set] at hk'
  by_cases e1 : c = k'
  · subst e1
    rw [if_pos rfl, if_pos hcl] at hk'
    simp only [Option.some.injEq, Sum.inl.injEq, Prod.mk.injEq] at hk'
    obtain ⟨rfl, rfl⟩ := hk'
    rw [List.getElem?_set] at hj
    by_cases e2 : k = j
    · subst e2
      rw [if_pos rfl, if_pos hk] at hj
      simp only [Option.some.injEq] at hj
      subst hj
      exact h2.1
    · rw [if_neg e2] at hj
      exact hW.2.2.2.2 c ci sl hs j c' hj
  · rw [if_neg e1] at hk'
    exact hW.2.2.2.2 k' ci' sl' hk' j c' hj
end
end
section
/-! calls: a method's whole run out of its rows (qb_met), and a row a call -/
def qb_Pc (D : va_G) (cI : ClassId) (S : qb_S) (ad : Nat → Nat) (hp : qb_H) (sh : qb_Sh) (sz : Nat) (as : List qb_V) : Array Value → State → Prop := va_Pc (as.map (qb_tv ad)) (fun U => U.heap.size = sz ∧ va_P D vwCl (qb_ws ad cI hp sh) U.heap ∧ va_K D vwCl [(cI, .int)] U ∧ qb_nest U ∧ qb_St S (va_A (qb_ws ad cI hp sh) sz) U U.heap)
theorem qb_sl1 (ad : Nat → Nat) : ∀ (as : List qb_V), (∀ v ∈ as, qb_cat v = 1) → (lg_sl (as.map (qb_tv ad))).length = as.length ∧ ∀ (n i : Nat) (v : qb_V), as[i]? = some v → (n + i, qb_tv ad v) ∈ lv_args n (as.map (qb_tv ad)) := by
  intro as
  induction as with
  | nil => exact fun _ => ⟨rfl, fun n i v h => by simp at h⟩
  | cons a as ih =>
    intro h
    have ha : (qb_tv ad a).category = 1 := by rw [qb_cat_]; exact h a List.mem_cons_self
    obtain ⟨h1, h2⟩ := ih (fun v hv => h v (List.mem_cons_of_mem _ hv))
    have hne : ¬ (qb_tv ad a).category = 2 := by rw [ha]; decide
    refine ⟨?_, fun n i v hi => ?_⟩
    · have e : lg_sl ((a :: as).map (qb_tv ad)) = .val (qb_tv ad a) :: lg_sl (as.map (qb_tv ad)) := by simp [lg_sl, hne]
      rw [e, List.length_cons, h1, List.length_cons]
    · rw [List.map_cons]
      simp only [lv_args, hne, if_false]
      rcases i with _ | i
      · simp only [List.getElem?_cons_zero, Option.some.injEq] at hi
        subst hi
        exact List.mem_cons_self
      · rw [List.getElem?_cons_succ] at hi
        have := h2 (n + 1) i v hi
        rw [show n + (i + 1) = n + 1 + i by omega]
        exact List.mem_cons_of_mem _ this
theorem qb_met {M : qb_M} (hpl : plainName (qb_nm M).cls = true) {sh : qb_Sh} {hp : qb_H} {Q : Option qb_V → qb_H → qb_Sh → Prop} {as : List qb_V} (hok : ∀ v ∈ as, qb_ok sh.length v) (hnl : ∀ v ∈ as, qb_cat v = 1) (hlen : as.length ≤ qb_ml M)
    (k : qb_R M 0 0 sh 0 (as.map some ++ List.replicate (qb_ml M - as.length) none) [] hp Q) (l : Launch) (D : va_G) (cI : ClassId) (S : qb_S) (ad : Nat → Nat) (sz : Nat) (hD : va_D (fun _ => True) (qb_ws ad cI hp sh)) (hin : ∀ c i, qb_in (hp c i)) (hwf : qb_wf sh) (hS : ad 1000 = S.1.1 ∧ ad 1001 = S.1.2.1 ∧ ad 1002 = S.1.2.2 ∧ hp 1002 = S.2.1 ∧ hp 1003 = S.2.2) :
    Met l (qb_nm M) (Cond.code (qb_nm M) (qb_by M) (qb_ml M) (qb_rt M) :: qb_wg) (qb_rm M) (qb_Pc D cI S ad hp sh sz as) (qb_Q D cI S sh.length ad (va_A (qb_ws ad cI hp sh) sz) Q) (qb_mc M) (qb_ms M) (va_A (qb_ws ad cI hp sh) sz) := by
  refine Met.ofW (cc := qb_by M) (maxL := qb_ml M) (ret := qb_rt M) hpl rfl ?_
  intro p e s m args below meth cd s₁ B hml hv
  obtain ⟨rfl, hsz, hP, hK, hnest, hSt⟩ := hv
  subst hsz
  have hts := atoms_spec (ws := Cond.code (qb_nm M) (qb_by M) (qb_ml M) (qb_rt M) :: qb_wg) B.pre
  have hC : qb_Cx M p s m (as.map (qb_tv ad)).toArray meth cd D cI S (va_A (qb_ws ad cI hp sh) s.heap.size) := ⟨B.exec, B.bytes, hml, B.returns, B.notSynchronized, (name_of_methodNamed B.named B.method).1, findClass_of_methodNamed B.named, fun w hw => hts w (List.mem_cons_of_mem _ hw), hK, hnest, fun q h => Or.inr h, hSt⟩
  obtain ⟨e1, e2⟩ := qb_sl1 ad as hnl
  have hl := lv_entry (as.map (qb_tv ad)) (n := qb_ml M) (by rw [e1]; exact hlen)
  rw [lg_entry_eq]
  refine k p l e s m _ below meth cd D cI S sh.length ad ad _ s.heap [] _ hC ⟨hP, hD.self, hin, hwf⟩ va_S.rf ⟨hl.1, hl.2.1, fun i v hi => ?_⟩ (fun v h => absurd h List.not_mem_nil) ⟨hS.1, hS.2.1, hS.2.2.1, hS.2.2.2.1, hS.2.2.2.2, Nat.le_refl _, fun _ _ => rfl⟩
  have hi2 : as[i]? = some v := by
    rcases Nat.lt_or_ge i as.length with g | g
    · rw [List.getElem?_append_left (by simpa using g), List.getElem?_map] at hi
      rcases h : as[i]? with _ | w
      · rw [h] at hi; cases hi
      · rw [h] at hi
        simp only [Option.map_some, Option.some.injEq] at hi
        rw [hi]
    · rw [List.getElem?_append_right (by simpa using g)] at hi
      have := List.mem_of_getElem? hi
      rw [List.mem_replicate] at this
      cases this.2
  refine ⟨hok v (List.mem_of_getElem? hi2), ?_⟩
  have := hl.2.2 _ (e2 0 i v hi2)
  rw [Nat.zero_add] at this
  exact this
theorem qb_blind {D : va_G} {cI : ClassId} {S : qb_S} {ad : Nat → Nat} {hp : qb_H} {sh : qb_Sh} {sz : Nat} {as : List qb_V} : FrameBlind (qb_Pc D cI S ad hp sh sz as) := by
  intro a U g mk q
  obtain ⟨h0, h1, h2, h3, h4, h5⟩ := q
  exact ⟨h0, h1, h2, va_K.moved (u := U) (U := U.calling g mk a) (Vm.Alike.refl U.vm) h3, ⟨va_Nw.same (u := U) rfl rfl h4.1, va_Nw.same (u := U) rfl rfl h4.2⟩, h5.go (U := U.calling g mk a) (Vm.Alike.refl U.vm) (fun _ _ _ => rfl) (fun _ _ h => h)⟩
/-- what is asked of the tables and of the room at a call -/
def qb_CB (M N : qb_M) (n : Nat) : Prop := Cond.code (qb_nm N) (qb_by N) (qb_ml N) (qb_rt N) ∈ qb_wg ∧ Cond.initialized (qb_nm N).cls ∈ qb_wg ∧ plainName (qb_nm N).cls = true ∧ ((qb_nm N).cls ≠ "java/lang/invoke/MethodHandle" ∧ (qb_nm N).cls ≠ "java/lang/invoke/VarHandle" ∧ (parseMethodDescriptor (qb_nm N).desc).map (fun d => d.parameters.length) = some n) ∧ (qb_fr N + 1 ≤ qb_fr M ∧ 8 + (qb_ml N + 11) + qb_lo N ≤ qb_lo M)
def qb_CV (M N : qb_M) (idx n : Nat) : Prop := qb_CB M N n ∧ Cond.methodLink (qb_nm M).cls idx (qb_nm N) ∈ qb_wg ∧ Cond.instanceMethod (qb_nm N) ∈ qb_wg ∧ Cond.selects (qb_nm N).cls (qb_nm N) (qb_nm N) ∈ qb_wg
def qb_CS (M N : qb_M) (idx n : Nat) : Prop := qb_CB M N n ∧ Cond.methodLink (qb_nm M).cls idx (qb_nm N) ∈ qb_wg ∧ Cond.static (qb_nm N) ∈ qb_wg
def qb_CI (M N : qb_M) (idx n : Nat) : Prop := qb_CB M N n ∧ Cond.methodLink (qb_nm M).cls idx (qb_nm N) ∈ qb_wg ∧ Cond.instanceMethod (qb_nm N) ∈ qb_wg ∧ (qb_nm N).name = "<init>" ∧ qb_rt N = none
section
variable {M N : qb_M} {cs ss : Nat} {sh : qb_Sh} {pc : Nat} {L : List (Option qb_V)} {st rest : List qb_V} {hp : qb_H} {Q : Option qb_V → qb_H → qb_Sh → Prop}
theorem qb_after {p : Program} {l : Launch} {e : Env} {s : State} {m : MethodId} {args : Array Value} {below : List Frame} {meth : Method} {cd : Code} {D : va_G} {cI : ClassId} {S : qb_S} {n0 : Nat} {ad0 ad : Nat → Nat} {A : Nat → Prop} {H : Heap} {locs : List Loc} {ls : Array Slot} {stk : List Value} {a : Array Value} {mc ms : Nat}
    (hr : va_Run p l e (qb_rm M) s m args below meth cd H locs cs ss mc ms (F0 m pc ls stk) (rest.map (qb_tv ad)) (qb_Q D cI S sh.length ad (va_A (qb_ws ad cI hp sh) H.size) (fun r hp' sh' => qb_R M (cs + mc) (ss + ms) sh' (pc + 3) L (r.toList ++ rest) hp' Q) a) (va_A (qb_ws ad cI hp sh) H.size))
    (hC : qb_Cx M p s m args meth cd D cI S A) (hW : qb_Wd D cI ad hp sh A H) (hS : va_S A s.heap H locs) (hL : qb_L ad sh.length (qb_ml M) ls L) (hst : ∀ v ∈ rest, qb_ok sh.length v) (hN : qb_N S n0 ad0 ad hp sh) :
    W p l e (qb_rm M) s m args below meth cd H locs cs ss (MQ below (qb_Q D cI S n0 ad0 A Q) args s (qb_mc M) (qb_ms M) A) (F0 m pc ls stk) := by
  intro T hT X
  obtain ⟨v, st₀, t, T', Lo, h0, X', hLo, e1, e2, ⟨⟨r, hp', sh', ad', hv, hq, hok, hW', hN'⟩, hz, hk⟩, hst2⟩ := hr T hT X
  have hv2 : v = r.map (qb_tv ad') := by cases hv; rfl
  subst hv2
  rw [h0] at hz hk
  have hfree : ∀ q, va_A (qb_ws ad cI hp sh) H.size q → A q := by
    intro q h
    rcases h with ⟨k, ev, h⟩ | h
    · exact hW.2.1.2 k (q, ev) h
    · exact hC.2.2.2.2.2.2.2.2.2.2.1 q (Nat.le_trans hS.1 h)
  obtain ⟨g1, g2, g3, g4, g5, g6, g7⟩ := hN'
  obtain ⟨b1, b2, b3, b4, b5, b6, b7⟩ := hN
  have hT' : T'.heap = t.heap := e1
  have hS' : va_S A s.heap T'.heap (locs ++ Lo) := ⟨Nat.le_trans hS.1 (by rw [hT']; exact hz), fun q h1 h2 => by rw [hT', hk q (Nat.lt_of_lt_of_le h1 hS.1) (fun z => h2 (hfree q z))]; exact hS.2.1 q h1 h2, fun q hq2 => by
    rcases List.mem_append.mp hq2 with h | h
    · exact hS.2.2 q h
    · exact hfree _ (hLo q h)⟩
  have hlen : sh.length ≤ sh'.length := g6
  have K := hq p l e s m args below meth cd D cI S n0 ad0 ad' A T'.heap (locs ++ Lo) ls hC ⟨by rw [hT']; exact hW'.1, hW'.2.1.weaken (fun _ _ _ h => hfree _ h), hW'.2.2.1, hW'.2.2.2⟩ hS' (qb_L_ad hL g7 hlen)
    (fun v hv => by
      rcases List.mem_append.mp hv with h | h
      · exact hok v (by cases r <;> simp_all)
      · exact qb_ok_up (hst v h) hlen)
    ⟨g1, g2, g3, g4, g5, Nat.le_trans b6 g6, fun k hk => (g7 k (by omega)).trans (b7 k hk)⟩
  rw [List.map_append, qb_map_ad hst g7, show r.toList.map (qb_tv ad') = (r.map (qb_tv ad')).toList by cases r <;> rfl] at K
  obtain ⟨t2, a1, a2⟩ := K T' rfl X'
  exact ⟨t2, hst2 t2 a1, a2⟩
theorem qb_code_w {M N : qb_M} {n : Nat} (h : qb_CB M N n) : GoodIn qb_wg (Cond.code (qb_nm N) (qb_by N) (qb_ml N) (qb_rt N) :: qb_wg) := qb_wg_code h.1
theorem qb_pre {l : Launch} {s : State} {D : va_G} {cI : ClassId} {S : qb_S} {ad : Nat → Nat} {A : Nat → Prop} {H : Heap} {as : List qb_V} {p : Program} {m : MethodId} {args : Array Value} {meth : Method} {cd : Code} {n0 : Nat} {ad0 : Nat → Nat} {locs : List Loc} (hC : qb_Cx M p s m args meth cd D cI S A) (hW : qb_Wd D cI ad hp sh A H) (hS : va_S A s.heap H locs) (hN : qb_N S n0 ad0 ad hp sh) :
    ∀ U : State, U.heap = H → s.WarmedH U.vm → qb_Pc D cI S ad hp sh H.size as (as.map (qb_tv ad)).toArray U := by
  intro U hU hWm
  refine ⟨rfl, by rw [hU], by rw [hU]; exact hW.1, va_K.moved hWm.alike hC.2.2.2.2.2.2.2.2.1, ⟨va_Nw.warmM hWm hC.2.2.2.2.2.2.2.2.2.1.1, va_Nw.warmM hWm hC.2.2.2.2.2.2.2.2.2.1.2⟩, ?_⟩
  refine hC.2.2.2.2.2.2.2.2.2.2.2.go hWm.alike (fun a h1 h2 => by rw [hU]; exact hS.2.1 a h1 h2) (fun a h1 h2 h3 => ?_)
  rcases h3 with ⟨k, ev, h⟩ | h
  · exact h2 (hW.2.1.2 k (a, ev) h)
  · exact absurd hS.1 (by omega)
theorem qb_callV {idx n b ci : Nat} {as : List qb_V} {sl : List (Option (Option Nat))} {Tb : u_T} {Nf : Nat} (d : decode (qb_by M) pc = .ok (.invokevirtual idx, 3)) (cw : qb_CV M N idx n) (hn : as.length = n) (hst' : st = as.reverse ++ (.inr (.inl b) :: rest)) (hs : sh[b]? = some (.inl (ci, sl))) (hci : vwCl[ci]? = some ((qb_nm N).cls, Tb, Nf)) (hnl : (as.all fun v => qb_cat v == 1) = true) (hml : as.length + 1 ≤ qb_ml N) (hr : (rest.map qb_cat).sum ≤ 8 ∧ cs + qb_mc N ≤ qb_mc M ∧ ss + qb_ms N ≤ qb_ms M)
    (k : qb_R N 0 0 sh 0 ((.inr (.inl b) :: as).map some ++ List.replicate (qb_ml N - (as.length + 1)) none) [] hp (fun r hp' sh' => qb_R M (cs + qb_mc N) (ss + qb_ms N) sh' (pc + 3) L (r.toList ++ rest) hp' Q)) : qb_R M cs ss sh pc L st hp Q := by
  subst hst'
  intro p l e s m args below meth cd D cI S n0 ad0 ad A H locs ls hC hW hS hL hst hN
  have hok : ∀ v ∈ Sum.inr (.inl b) :: as, qb_ok sh.length v := fun v hv => by
    rcases List.mem_cons.mp hv with rfl | h
    · exact hst _ (by simp)
    · exact hst _ (by simp [h])
  have hokr : ∀ v ∈ rest, qb_ok sh.length v := fun v hv => hst _ (by simp [hv])
  have hM := qb_met (M := N) (as := .inr (.inl b) :: as) cw.1.2.2.1 hok (fun v hv => by
    rcases List.mem_cons.mp hv with rfl | h
    · rfl
    · simpa using List.all_eq_true.mp hnl v h) (by simpa using hml) (by simpa using k) l D cI S ad H.size (hW.2.1.weaken (fun _ _ _ _ => trivial)) hW.2.2.1 hW.2.2.2 ⟨hN.1, hN.2.1, hN.2.2.1, hN.2.2.2.1, hN.2.2.2.2.1⟩
  have hts := hC.2.2.2.2.2.2.2.1
  refine qb_after (rest := rest) (mc := qb_mc N) (ms := qb_ms N) (va_runV (b := ad b) (As := as.map (qb_tv ad)) ⟨hC.1, hC.2.1, hC.2.2.1, hC.2.2.2.2.2.2.1, hts⟩ hM ⟨callB_of n hts (qb_code_w cw.1) rfl rfl rfl (hts _ cw.1.2.1) (hts _ cw.2.1) cw.1.2.2.2.1 cw.1.2.2.2.2, hts _ cw.2.2.1, hts _ cw.2.2.2⟩
    ⟨qb_blind, va_recv hC.2.2.2.2.2.2.2.2.1 hW.1 hci (qb_ws_at hs), qb_pre (l := l) hC hW hS hN⟩ rfl (by simpa using hn) hL.1 (by simp [qb_tv]) (lv_room (by rw [qb_cats]; exact hr.1)) d ⟨hr.2.1, hr.2.2⟩) hC hW hS hL hokr hN
theorem qb_callS {idx n : Nat} {as : List qb_V} (d : decode (qb_by M) pc = .ok (.invokestatic idx, 3)) (cw : qb_CS M N idx n) (hn : as.length = n) (hst' : st = as.reverse ++ rest) (hnl : (as.all fun v => qb_cat v == 1) = true) (hml : as.length ≤ qb_ml N) (hr : (rest.map qb_cat).sum ≤ 8 ∧ cs + qb_mc N ≤ qb_mc M ∧ ss + qb_ms N ≤ qb_ms M)
    (k : qb_R N 0 0 sh 0 (as.map some ++ List.replicate (qb_ml N - as.length) none) [] hp (fun r hp' sh' => qb_R M (cs + qb_mc N) (ss + qb_ms N) sh' (pc + 3) L (r.toList ++ rest) hp' Q)) : qb_R M cs ss sh pc L st hp Q := by
  subst hst'
  intro p l e s m args below meth cd D cI S n0 ad0 ad A H locs ls hC hW hS hL hst hN
  have hok : ∀ v ∈ as, qb_ok sh.length v := fun v hv => hst _ (by simp [hv])
  have hokr : ∀ v ∈ rest, qb_ok sh.length v := fun v hv => hst _ (by simp [hv])
  have hM := qb_met (M := N) (as := as) cw.1.2.2.1 hok (fun v hv => by simpa using List.all_eq_true.mp hnl v hv) hml k l D cI S ad H.size (hW.2.1.weaken (fun _ _ _ _ => trivial)) hW.2.2.1 hW.2.2.2 ⟨hN.1, hN.2.1, hN.2.2.1, hN.2.2.2.1, hN.2.2.2.2.1⟩
  have hts := hC.2.2.2.2.2.2.2.1
  refine qb_after (rest := rest) (mc := qb_mc N) (ms := qb_ms N) (va_runS (As := as.map (qb_tv ad)) ⟨hC.1, hC.2.1, hC.2.2.1, hC.2.2.2.2.2.2.1, hts⟩ hM ⟨callB_of n hts (qb_code_w cw.1) rfl rfl rfl (hts _ cw.1.2.1) (hts _ cw.2.1) cw.1.2.2.2.1 cw.1.2.2.2.2, hts _ cw.2.2⟩
    ⟨qb_blind, qb_pre (l := l) hC hW hS hN⟩ rfl (by simpa using hn) hL.1 (by simp [qb_tv]) (lv_room (by rw [qb_cats]; exact hr.1)) d ⟨hr.2.1, hr.2.2⟩) hC hW hS hL hokr hN
theorem qb_callI {idx n b : Nat} {as : List qb_V} (d : decode (qb_by M) pc = .ok (.invokespecial idx, 3)) (cw : qb_CI M N idx n) (hn : as.length = n) (hst' : st = as.reverse ++ (.inr (.inl b) :: rest)) (hnl : (as.all fun v => qb_cat v == 1) = true) (hml : as.length + 1 ≤ qb_ml N) (hr : (rest.map qb_cat).sum ≤ 8 ∧ cs + qb_mc N ≤ qb_mc M ∧ ss + qb_ms N ≤ qb_ms M)
    (k : qb_R N 0 0 sh 0 ((.inr (.inl b) :: as).map some ++ List.replicate (qb_ml N - (as.length + 1)) none) [] hp (fun r hp' sh' => qb_R M (cs + qb_mc N) (ss + qb_ms N) sh' (pc + 3) L (r.toList ++ rest) hp' Q)) : qb_R M cs ss sh pc L st hp Q := by
  subst hst'
  intro p l e s m args below meth cd D cI S n0 ad0 ad A H locs ls hC hW hS hL hst hN
  have hok : ∀ v ∈ Sum.inr (.inl b) :: as, qb_ok sh.length v := fun v hv => by
    rcases List.mem_cons.mp hv with rfl | h
    · exact hst _ (by simp)
    · exact hst _ (by simp [h])
  have hokr : ∀ v ∈ rest, qb_ok sh.length v := fun v hv => hst _ (by simp [hv])
  have hM := qb_met (M := N) (as := .inr (.inl b) :: as) cw.1.2.2.1 hok (fun v hv => by
    rcases List.mem_cons.mp hv with rfl | h
    · rfl
    · simpa using List.all_eq_true.mp hnl v h) (by simpa using hml) (by simpa using k) l D cI S ad H.size (hW.2.1.weaken (fun _ _ _ _ => trivial)) hW.2.2.1 hW.2.2.2 ⟨hN.1, hN.2.1, hN.2.2.1, hN.2.2.2.1, hN.2.2.2.2.1⟩
  have hts := hC.2.2.2.2.2.2.2.1
  have hG := qb_code_w cw.1
  rw [cw.2.2.2.2] at hM hG
  refine qb_after (rest := rest) (mc := qb_mc N) (ms := qb_ms N) (va_runI (b := ad b) (As := as.map (qb_tv ad)) ⟨hC.1, hC.2.1, hC.2.2.1, hC.2.2.2.2.2.2.1, hts⟩ hM ⟨callB_of n hts hG rfl rfl rfl (hts _ cw.1.2.1) (hts _ cw.2.1) cw.1.2.2.2.1 cw.1.2.2.2.2, cw.2.2.2.1, hts _ cw.2.2.1⟩
    ⟨qb_blind, qb_pre (l := l) hC hW hS hN⟩ rfl (by simpa using hn) hL.1 (by simp [qb_tv]) (lv_room (by rw [qb_cats]; exact hr.1)) d ⟨hr.2.1, hr.2.2⟩) hC hW hS hL hokr hN
/-- nest mates: QuayBrands.within out of Acts; Cask's constructor out of QuayBrands' -/
theorem qb_callSN {n : Nat} {as : List qb_V} (d : decode (qb_by M) pc = .ok (.invokestatic 30, 3)) (cw : qb_CB M N n) (how : (qb_nm M).cls = "QuayBrands$Acts") (hnm : qb_nm N = ⟨"QuayBrands", "within", "(III)Z"⟩) (hstat : Cond.static (qb_nm N) ∈ qb_wg) (hn : as.length = n) (hst' : st = as.reverse ++ rest) (hnl : (as.all fun v => qb_cat v == 1) = true) (hml : as.length ≤ qb_ml N) (hr : (rest.map qb_cat).sum ≤ 8 ∧ cs + qb_mc N ≤ qb_mc M ∧ ss + qb_ms N ≤ qb_ms M)
    (k : qb_R N 0 0 sh 0 (as.map some ++ List.replicate (qb_ml N - as.length) none) [] hp (fun r hp' sh' => qb_R M (cs + qb_mc N) (ss + qb_ms N) sh' (pc + 3) L (r.toList ++ rest) hp' Q)) : qb_R M cs ss sh pc L st hp Q := by
  subst hst'
  intro p l e s m args below meth cd D cI S n0 ad0 ad A H locs ls hC hW hS hL hst hN
  have hok : ∀ v ∈ as, qb_ok sh.length v := fun v hv => hst _ (by simp [hv])
  have hokr : ∀ v ∈ rest, qb_ok sh.length v := fun v hv => hst _ (by simp [hv])
  have hM := qb_met (M := N) (as := as) cw.2.2.1 hok (fun v hv => by simpa using List.all_eq_true.mp hnl v hv) hml k l D cI S ad H.size (hW.2.1.weaken (fun _ _ _ _ => trivial)) hW.2.2.1 hW.2.2.2 ⟨hN.1, hN.2.1, hN.2.2.1, hN.2.2.2.1, hN.2.2.2.2.1⟩
  have hts := hC.2.2.2.2.2.2.2.1
  have hown := hC.2.2.2.2.2.2.1
  rw [how] at hown
  refine qb_after (rest := rest) (mc := qb_mc N) (ms := qb_ms N) (va_runSN (host := "QuayBrands") (own := "QuayBrands$Acts") (As := as.map (qb_tv ad)) ⟨hC.1, hC.2.1, hC.2.2.1, hown, hts⟩ hM ⟨va_cnB n hts (qb_code_w cw) rfl rfl rfl (by rw [hnm]; exact hC.2.2.2.2.2.2.2.2.2.1.2) (hts _ cw.2.1) cw.2.2.2.1 cw.2.2.2.2, hts _ hstat, trivial⟩
    ⟨qb_blind, qb_pre (l := l) hC hW hS hN⟩ rfl (by simpa using hn) hL.1 (by simp [qb_tv]) (lv_room (by rw [qb_cats]; exact hr.1)) d ⟨hr.2.1, hr.2.2⟩) hC hW hS hL hokr hN
theorem qb_callIN {n b : Nat} {as : List qb_V} (d : decode (qb_by M) pc = .ok (.invokespecial 36, 3)) (cw : qb_CB M N n) (how : (qb_nm M).cls = "QuayBrands") (hnm : qb_nm N = ⟨"QuayBrands$Cask", "<init>", "()V"⟩) (hinst : Cond.instanceMethod (qb_nm N) ∈ qb_wg) (hrt : qb_rt N = none) (hn : as.length = n) (hst' : st = as.reverse ++ (.inr (.inl b) :: rest)) (hnl : (as.all fun v => qb_cat v == 1) = true) (hml : as.length + 1 ≤ qb_ml N) (hr : (rest.map qb_cat).sum ≤ 8 ∧ cs + qb_mc N ≤ qb_mc M ∧ ss + qb_ms N ≤ qb_ms M)
    (k : qb_R N 0 0 sh 0 ((.inr (.inl b) :: as).map some ++ List.replicate (qb_ml N - (as.length + 1)) none) [] hp (fun r hp' sh' => qb_R M (cs + qb_mc N) (ss + qb_ms N) sh' (pc + 3) L (r.toList ++ rest) hp' Q)) : qb_R M cs ss sh pc L st hp Q := by
  subst hst'
  intro p l e s m args below meth cd D cI S n0 ad0 ad A H locs ls hC hW hS hL hst hN
  have hok : ∀ v ∈ Sum.inr (.inl b) :: as, qb_ok sh.length v := fun v hv => by
    rcases List.mem_cons.mp hv with rfl | h
    · exact hst _ (by simp)
    · exact hst _ (by simp [h])
  have hokr : ∀ v ∈ rest, qb_ok sh.length v := fun v hv => hst _ (by simp [hv])
  have hM := qb_met (M := N) (as := .inr (.inl b) :: as) cw.2.2.1 hok (fun v hv => by
    rcases List.mem_cons.mp hv with rfl | h
    · rfl
    · simpa using List.all_eq_true.mp hnl v h) (by simpa using hml) (by simpa using k) l D cI S ad H.size (hW.2.1.weaken (fun _ _ _ _ => trivial)) hW.2.2.1 hW.2.2.2 ⟨hN.1, hN.2.1, hN.2.2.1, hN.2.2.2.1, hN.2.2.2.2.1⟩
  have hts := hC.2.2.2.2.2.2.2.1
  have hown := hC.2.2.2.2.2.2.1
  rw [how] at hown
  have hG := qb_code_w cw
  rw [hrt] at hM hG
  refine qb_after (rest := rest) (mc := qb_mc N) (ms := qb_ms N) (va_runIN (host := "QuayBrands") (own := "QuayBrands") (b := ad b) (As := as.map (qb_tv ad)) ⟨hC.1, hC.2.1, hC.2.2.1, hown, hts⟩ hM ⟨va_cnB n hts hG rfl rfl rfl (by rw [hnm]; exact hC.2.2.2.2.2.2.2.2.2.1.1) (hts _ cw.2.1) cw.2.2.2.1 cw.2.2.2.2, by rw [hnm], hts _ hinst⟩
    ⟨qb_blind, qb_pre (l := l) hC hW hS hN⟩ rfl (by simpa using hn) hL.1 (by simp [qb_tv]) (lv_room (by rw [qb_cats]; exact hr.1)) d ⟨hr.2.1, hr.2.2⟩) hC hW hS hL hokr hN
end
end
