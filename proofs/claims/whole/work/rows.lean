section
-- ===== PART A: goes FIRST, ahead of the names: the tables' words, and 'selects' of the private methods out of them =====
/-- a private method of a class that the tables say can be made, by its rows of tables_1 -/
def lw_okq (q : MethodName × Nat) : Prop := (q.1.cls ≠ "java/lang/invoke/MethodHandle" ∧ q.1.cls ≠ "java/lang/invoke/VarHandle") ∧ Cond.instantiable q.1.cls q.2 ∈ tables_1 ∧ Cond.privateMethod q.1 ∈ tables_1 ∧ Cond.instanceMethod q.1 ∈ tables_1
theorem lw_p0 : lw_okq (⟨"LeftAlone", "isRow", "(I)Z"⟩, 10) := ⟨⟨by decide +kernel, by decide +kernel⟩, List.mem_of_getElem? (i := 11) (by decide +kernel), List.mem_of_getElem? (i := 206) (by decide +kernel), List.mem_of_getElem? (i := 207) (by decide +kernel)⟩
theorem lw_p1 : lw_okq (⟨"LeftAlone", "found", "(I)I"⟩, 10) := ⟨⟨by decide +kernel, by decide +kernel⟩, List.mem_of_getElem? (i := 11) (by decide +kernel), List.mem_of_getElem? (i := 214) (by decide +kernel), List.mem_of_getElem? (i := 215) (by decide +kernel)⟩
theorem lw_p2 : lw_okq (⟨"LeftAlone", "unfound", "(I)I"⟩, 10) := ⟨⟨by decide +kernel, by decide +kernel⟩, List.mem_of_getElem? (i := 11) (by decide +kernel), List.mem_of_getElem? (i := 223) (by decide +kernel), List.mem_of_getElem? (i := 224) (by decide +kernel)⟩
theorem lw_p3 : lw_okq (⟨"LeftAlone$Reader", "advance", "()V"⟩, 8) := ⟨⟨by decide +kernel, by decide +kernel⟩, List.mem_of_getElem? (i := 118) (by decide +kernel), List.mem_of_getElem? (i := 271) (by decide +kernel), List.mem_of_getElem? (i := 272) (by decide +kernel)⟩
theorem lw_p4 : lw_okq (⟨"LeftAlone$Reader", "readLaw", "(LLeftAlone$Town;)Z"⟩, 8) := ⟨⟨by decide +kernel, by decide +kernel⟩, List.mem_of_getElem? (i := 118) (by decide +kernel), List.mem_of_getElem? (i := 278) (by decide +kernel), List.mem_of_getElem? (i := 279) (by decide +kernel)⟩
theorem lw_p5 : lw_okq (⟨"LeftAlone$Reader", "take", "(I)Z"⟩, 8) := ⟨⟨by decide +kernel, by decide +kernel⟩, List.mem_of_getElem? (i := 118) (by decide +kernel), List.mem_of_getElem? (i := 282) (by decide +kernel), List.mem_of_getElem? (i := 283) (by decide +kernel)⟩
theorem lw_p6 : lw_okq (⟨"LeftAlone$Reader", "failBy", "(I)Z"⟩, 8) := ⟨⟨by decide +kernel, by decide +kernel⟩, List.mem_of_getElem? (i := 118) (by decide +kernel), List.mem_of_getElem? (i := 286) (by decide +kernel), List.mem_of_getElem? (i := 287) (by decide +kernel)⟩
theorem lw_p7 : lw_okq (⟨"LeftAlone$Reader", "takeNumber", "(II)I"⟩, 8) := ⟨⟨by decide +kernel, by decide +kernel⟩, List.mem_of_getElem? (i := 118) (by decide +kernel), List.mem_of_getElem? (i := 290) (by decide +kernel), List.mem_of_getElem? (i := 291) (by decide +kernel)⟩
theorem lw_p8 : lw_okq (⟨"LeftAlone$Reader", "readMen", "(LLeftAlone$Town;)Z"⟩, 8) := ⟨⟨by decide +kernel, by decide +kernel⟩, List.mem_of_getElem? (i := 118) (by decide +kernel), List.mem_of_getElem? (i := 295) (by decide +kernel), List.mem_of_getElem? (i := 296) (by decide +kernel)⟩
theorem lw_p9 : lw_okq (⟨"LeftAlone$Reader", "readMan", "(LLeftAlone$Town;I)Z"⟩, 8) := ⟨⟨by decide +kernel, by decide +kernel⟩, List.mem_of_getElem? (i := 118) (by decide +kernel), List.mem_of_getElem? (i := 299) (by decide +kernel), List.mem_of_getElem? (i := 300) (by decide +kernel)⟩
theorem lw_p10 : lw_okq (⟨"LeftAlone$Reader", "readLeavers", "(LLeftAlone$Town;)Z"⟩, 8) := ⟨⟨by decide +kernel, by decide +kernel⟩, List.mem_of_getElem? (i := 118) (by decide +kernel), List.mem_of_getElem? (i := 303) (by decide +kernel), List.mem_of_getElem? (i := 304) (by decide +kernel)⟩
theorem lw_p11 : lw_okq (⟨"LeftAlone$Reader", "readLeaver", "(LLeftAlone$Town;I)Z"⟩, 8) := ⟨⟨by decide +kernel, by decide +kernel⟩, List.mem_of_getElem? (i := 118) (by decide +kernel), List.mem_of_getElem? (i := 310) (by decide +kernel), List.mem_of_getElem? (i := 311) (by decide +kernel)⟩
theorem lw_p12 : lw_okq (⟨"LeftAlone", "hasTown", "()Z"⟩, 10) := ⟨⟨by decide +kernel, by decide +kernel⟩, List.mem_of_getElem? (i := 11) (by decide +kernel), List.mem_of_getElem? (i := 342) (by decide +kernel), List.mem_of_getElem? (i := 343) (by decide +kernel)⟩
theorem lw_p13 : lw_okq (⟨"LeftAlone$Town", "stayAway", "()I"⟩, 15) := ⟨⟨by decide +kernel, by decide +kernel⟩, List.mem_of_getElem? (i := 45) (by decide +kernel), List.mem_of_getElem? (i := 354) (by decide +kernel), List.mem_of_getElem? (i := 355) (by decide +kernel)⟩
theorem lw_p14 : lw_okq (⟨"LeftAlone$Town", "isRainy", "()Z"⟩, 15) := ⟨⟨by decide +kernel, by decide +kernel⟩, List.mem_of_getElem? (i := 45) (by decide +kernel), List.mem_of_getElem? (i := 376) (by decide +kernel), List.mem_of_getElem? (i := 377) (by decide +kernel)⟩
theorem lw_p15 : lw_okq (⟨"LeftAlone$Town", "idly", "(I)I"⟩, 15) := ⟨⟨by decide +kernel, by decide +kernel⟩, List.mem_of_getElem? (i := 45) (by decide +kernel), List.mem_of_getElem? (i := 380) (by decide +kernel), List.mem_of_getElem? (i := 381) (by decide +kernel)⟩
def lw_privs_1 : List (MethodName × Nat) := [(⟨"LeftAlone", "isRow", "(I)Z"⟩, 10), (⟨"LeftAlone", "found", "(I)I"⟩, 10), (⟨"LeftAlone", "unfound", "(I)I"⟩, 10), (⟨"LeftAlone$Reader", "advance", "()V"⟩, 8), (⟨"LeftAlone$Reader", "readLaw", "(LLeftAlone$Town;)Z"⟩, 8), (⟨"LeftAlone$Reader", "take", "(I)Z"⟩, 8), (⟨"LeftAlone$Reader", "failBy", "(I)Z"⟩, 8), (⟨"LeftAlone$Reader", "takeNumber", "(II)I"⟩, 8), (⟨"LeftAlone$Reader", "readMen", "(LLeftAlone$Town;)Z"⟩, 8), (⟨"LeftAlone$Reader", "readMan", "(LLeftAlone$Town;I)Z"⟩, 8), (⟨"LeftAlone$Reader", "readLeavers", "(LLeftAlone$Town;)Z"⟩, 8), (⟨"LeftAlone$Reader", "readLeaver", "(LLeftAlone$Town;I)Z"⟩, 8), (⟨"LeftAlone", "hasTown", "()Z"⟩, 10), (⟨"LeftAlone$Town", "stayAway", "()I"⟩, 15), (⟨"LeftAlone$Town", "isRainy", "()Z"⟩, 15), (⟨"LeftAlone$Town", "idly", "(I)I"⟩, 15)]
theorem lw_r1 : ∀ q ∈ lw_privs_1, lw_okq q := List.forall_mem_cons.mpr ⟨lw_p0, List.forall_mem_cons.mpr ⟨lw_p1, List.forall_mem_cons.mpr ⟨lw_p2, List.forall_mem_cons.mpr ⟨lw_p3, List.forall_mem_cons.mpr ⟨lw_p4, List.forall_mem_cons.mpr ⟨lw_p5, List.forall_mem_cons.mpr ⟨lw_p6, List.forall_mem_cons.mpr ⟨lw_p7, List.forall_mem_cons.mpr ⟨lw_p8, List.forall_mem_cons.mpr ⟨lw_p9, List.forall_mem_cons.mpr ⟨lw_p10, List.forall_mem_cons.mpr ⟨lw_p11, List.forall_mem_cons.mpr ⟨lw_p12, List.forall_mem_cons.mpr ⟨lw_p13, List.forall_mem_cons.mpr ⟨lw_p14, List.forall_mem_cons.mpr ⟨lw_p15, fun _ h => absurd h List.not_mem_nil⟩⟩⟩⟩⟩⟩⟩⟩⟩⟩⟩⟩⟩⟩⟩⟩
theorem lw_p16 : lw_okq (⟨"LeftAlone", "isLeaver", "(I)Z"⟩, 10) := ⟨⟨by decide +kernel, by decide +kernel⟩, List.mem_of_getElem? (i := 11) (by decide +kernel), List.mem_of_getElem? (i := 395) (by decide +kernel), List.mem_of_getElem? (i := 396) (by decide +kernel)⟩
theorem lw_p17 : lw_okq (⟨"LeftAlone", "isMan", "(I)Z"⟩, 10) := ⟨⟨by decide +kernel, by decide +kernel⟩, List.mem_of_getElem? (i := 11) (by decide +kernel), List.mem_of_getElem? (i := 399) (by decide +kernel), List.mem_of_getElem? (i := 400) (by decide +kernel)⟩
theorem lw_p18 : lw_okq (⟨"LeftAlone", "allFeel", "(IIII)Z"⟩, 10) := ⟨⟨by decide +kernel, by decide +kernel⟩, List.mem_of_getElem? (i := 11) (by decide +kernel), List.mem_of_getElem? (i := 482) (by decide +kernel), List.mem_of_getElem? (i := 483) (by decide +kernel)⟩
theorem lw_p19 : lw_okq (⟨"LeftAlone", "feltWithout", "(II)I"⟩, 10) := ⟨⟨by decide +kernel, by decide +kernel⟩, List.mem_of_getElem? (i := 11) (by decide +kernel), List.mem_of_getElem? (i := 494) (by decide +kernel), List.mem_of_getElem? (i := 495) (by decide +kernel)⟩
theorem lw_p20 : lw_okq (⟨"LeftAlone", "fitting", "(IIIIII)I"⟩, 10) := ⟨⟨by decide +kernel, by decide +kernel⟩, List.mem_of_getElem? (i := 11) (by decide +kernel), List.mem_of_getElem? (i := 502) (by decide +kernel), List.mem_of_getElem? (i := 503) (by decide +kernel)⟩
theorem lw_p21 : lw_okq (⟨"LeftAlone", "refusalOfTold", "(IIII)I"⟩, 10) := ⟨⟨by decide +kernel, by decide +kernel⟩, List.mem_of_getElem? (i := 11) (by decide +kernel), List.mem_of_getElem? (i := 506) (by decide +kernel), List.mem_of_getElem? (i := 507) (by decide +kernel)⟩
theorem lw_p22 : lw_okq (⟨"LeftAlone", "changeTrial", "(III)V"⟩, 10) := ⟨⟨by decide +kernel, by decide +kernel⟩, List.mem_of_getElem? (i := 11) (by decide +kernel), List.mem_of_getElem? (i := 510) (by decide +kernel), List.mem_of_getElem? (i := 511) (by decide +kernel)⟩
theorem lw_p23 : lw_okq (⟨"LeftAlone", "trialFits", "(ILLeftAlone$Row;II)Z"⟩, 10) := ⟨⟨by decide +kernel, by decide +kernel⟩, List.mem_of_getElem? (i := 11) (by decide +kernel), List.mem_of_getElem? (i := 514) (by decide +kernel), List.mem_of_getElem? (i := 515) (by decide +kernel)⟩
theorem lw_p24 : lw_okq (⟨"LeftAlone", "isFree", "(I)Z"⟩, 10) := ⟨⟨by decide +kernel, by decide +kernel⟩, List.mem_of_getElem? (i := 11) (by decide +kernel), List.mem_of_getElem? (i := 534) (by decide +kernel), List.mem_of_getElem? (i := 535) (by decide +kernel)⟩
theorem lw_p25 : lw_okq (⟨"LeftAlone", "feelsWithout", "(III)Z"⟩, 10) := ⟨⟨by decide +kernel, by decide +kernel⟩, List.mem_of_getElem? (i := 11) (by decide +kernel), List.mem_of_getElem? (i := 557) (by decide +kernel), List.mem_of_getElem? (i := 558) (by decide +kernel)⟩
theorem lw_p26 : lw_okq (⟨"LeftAlone", "sizeBody", "(I)I"⟩, 10) := ⟨⟨by decide +kernel, by decide +kernel⟩, List.mem_of_getElem? (i := 11) (by decide +kernel), List.mem_of_getElem? (i := 609) (by decide +kernel), List.mem_of_getElem? (i := 610) (by decide +kernel)⟩
theorem lw_p27 : lw_okq (⟨"LeftAlone", "markBody", "(I)I"⟩, 10) := ⟨⟨by decide +kernel, by decide +kernel⟩, List.mem_of_getElem? (i := 11) (by decide +kernel), List.mem_of_getElem? (i := 618) (by decide +kernel), List.mem_of_getElem? (i := 619) (by decide +kernel)⟩
theorem lw_p28 : lw_okq (⟨"LeftAlone", "body", "(III)I"⟩, 10) := ⟨⟨by decide +kernel, by decide +kernel⟩, List.mem_of_getElem? (i := 11) (by decide +kernel), List.mem_of_getElem? (i := 624) (by decide +kernel), List.mem_of_getElem? (i := 625) (by decide +kernel)⟩
theorem lw_p29 : lw_okq (⟨"LeftAlone", "leaveInTrace", "(I)V"⟩, 10) := ⟨⟨by decide +kernel, by decide +kernel⟩, List.mem_of_getElem? (i := 11) (by decide +kernel), List.mem_of_getElem? (i := 628) (by decide +kernel), List.mem_of_getElem? (i := 629) (by decide +kernel)⟩
theorem lw_p30 : lw_okq (⟨"LeftAlone", "rowsThere", "()I"⟩, 10) := ⟨⟨by decide +kernel, by decide +kernel⟩, List.mem_of_getElem? (i := 11) (by decide +kernel), List.mem_of_getElem? (i := 640) (by decide +kernel), List.mem_of_getElem? (i := 641) (by decide +kernel)⟩
theorem lw_p31 : lw_okq (⟨"LeftAloneModel", "find", "(I)I"⟩, 25) := ⟨⟨by decide +kernel, by decide +kernel⟩, List.mem_of_getElem? (i := 648) (by decide +kernel), List.mem_of_getElem? (i := 744) (by decide +kernel), List.mem_of_getElem? (i := 745) (by decide +kernel)⟩
def lw_privs_2 : List (MethodName × Nat) := [(⟨"LeftAlone", "isLeaver", "(I)Z"⟩, 10), (⟨"LeftAlone", "isMan", "(I)Z"⟩, 10), (⟨"LeftAlone", "allFeel", "(IIII)Z"⟩, 10), (⟨"LeftAlone", "feltWithout", "(II)I"⟩, 10), (⟨"LeftAlone", "fitting", "(IIIIII)I"⟩, 10), (⟨"LeftAlone", "refusalOfTold", "(IIII)I"⟩, 10), (⟨"LeftAlone", "changeTrial", "(III)V"⟩, 10), (⟨"LeftAlone", "trialFits", "(ILLeftAlone$Row;II)Z"⟩, 10), (⟨"LeftAlone", "isFree", "(I)Z"⟩, 10), (⟨"LeftAlone", "feelsWithout", "(III)Z"⟩, 10), (⟨"LeftAlone", "sizeBody", "(I)I"⟩, 10), (⟨"LeftAlone", "markBody", "(I)I"⟩, 10), (⟨"LeftAlone", "body", "(III)I"⟩, 10), (⟨"LeftAlone", "leaveInTrace", "(I)V"⟩, 10), (⟨"LeftAlone", "rowsThere", "()I"⟩, 10), (⟨"LeftAloneModel", "find", "(I)I"⟩, 25)]
theorem lw_r2 : ∀ q ∈ lw_privs_2, lw_okq q := List.forall_mem_cons.mpr ⟨lw_p16, List.forall_mem_cons.mpr ⟨lw_p17, List.forall_mem_cons.mpr ⟨lw_p18, List.forall_mem_cons.mpr ⟨lw_p19, List.forall_mem_cons.mpr ⟨lw_p20, List.forall_mem_cons.mpr ⟨lw_p21, List.forall_mem_cons.mpr ⟨lw_p22, List.forall_mem_cons.mpr ⟨lw_p23, List.forall_mem_cons.mpr ⟨lw_p24, List.forall_mem_cons.mpr ⟨lw_p25, List.forall_mem_cons.mpr ⟨lw_p26, List.forall_mem_cons.mpr ⟨lw_p27, List.forall_mem_cons.mpr ⟨lw_p28, List.forall_mem_cons.mpr ⟨lw_p29, List.forall_mem_cons.mpr ⟨lw_p30, List.forall_mem_cons.mpr ⟨lw_p31, fun _ h => absurd h List.not_mem_nil⟩⟩⟩⟩⟩⟩⟩⟩⟩⟩⟩⟩⟩⟩⟩⟩
theorem lw_p32 : lw_okq (⟨"LeftAloneModel", "well", "(I)I"⟩, 25) := ⟨⟨by decide +kernel, by decide +kernel⟩, List.mem_of_getElem? (i := 648) (by decide +kernel), List.mem_of_getElem? (i := 749) (by decide +kernel), List.mem_of_getElem? (i := 750) (by decide +kernel)⟩
theorem lw_p33 : lw_okq (⟨"LeftAloneModel", "readTown", "()Z"⟩, 25) := ⟨⟨by decide +kernel, by decide +kernel⟩, List.mem_of_getElem? (i := 648) (by decide +kernel), List.mem_of_getElem? (i := 778) (by decide +kernel), List.mem_of_getElem? (i := 779) (by decide +kernel)⟩
theorem lw_p34 : lw_okq (⟨"LeftAloneModel", "nextToken", "()V"⟩, 25) := ⟨⟨by decide +kernel, by decide +kernel⟩, List.mem_of_getElem? (i := 648) (by decide +kernel), List.mem_of_getElem? (i := 782) (by decide +kernel), List.mem_of_getElem? (i := 783) (by decide +kernel)⟩
theorem lw_p35 : lw_okq (⟨"LeftAloneModel", "takes", "(I)Z"⟩, 25) := ⟨⟨by decide +kernel, by decide +kernel⟩, List.mem_of_getElem? (i := 648) (by decide +kernel), List.mem_of_getElem? (i := 790) (by decide +kernel), List.mem_of_getElem? (i := 791) (by decide +kernel)⟩
theorem lw_p36 : lw_okq (⟨"LeftAloneModel", "isLetter", "(I)Z"⟩, 25) := ⟨⟨by decide +kernel, by decide +kernel⟩, List.mem_of_getElem? (i := 648) (by decide +kernel), List.mem_of_getElem? (i := 794) (by decide +kernel), List.mem_of_getElem? (i := 795) (by decide +kernel)⟩
theorem lw_p37 : lw_okq (⟨"LeftAloneModel", "faults", "(I)Z"⟩, 25) := ⟨⟨by decide +kernel, by decide +kernel⟩, List.mem_of_getElem? (i := 648) (by decide +kernel), List.mem_of_getElem? (i := 798) (by decide +kernel), List.mem_of_getElem? (i := 799) (by decide +kernel)⟩
theorem lw_p38 : lw_okq (⟨"LeftAloneModel", "takesNumber", "(IIII)Z"⟩, 25) := ⟨⟨by decide +kernel, by decide +kernel⟩, List.mem_of_getElem? (i := 648) (by decide +kernel), List.mem_of_getElem? (i := 802) (by decide +kernel), List.mem_of_getElem? (i := 803) (by decide +kernel)⟩
theorem lw_p39 : lw_okq (⟨"LeftAloneModel", "readLeaver", "(I)Z"⟩, 25) := ⟨⟨by decide +kernel, by decide +kernel⟩, List.mem_of_getElem? (i := 648) (by decide +kernel), List.mem_of_getElem? (i := 806) (by decide +kernel), List.mem_of_getElem? (i := 807) (by decide +kernel)⟩
theorem lw_p40 : lw_okq (⟨"LeftAloneModel", "readMan", "()Z"⟩, 25) := ⟨⟨by decide +kernel, by decide +kernel⟩, List.mem_of_getElem? (i := 648) (by decide +kernel), List.mem_of_getElem? (i := 810) (by decide +kernel), List.mem_of_getElem? (i := 811) (by decide +kernel)⟩
theorem lw_p41 : lw_okq (⟨"LeftAloneModel", "note", "()V"⟩, 25) := ⟨⟨by decide +kernel, by decide +kernel⟩, List.mem_of_getElem? (i := 648) (by decide +kernel), List.mem_of_getElem? (i := 829) (by decide +kernel), List.mem_of_getElem? (i := 830) (by decide +kernel)⟩
theorem lw_p42 : lw_okq (⟨"LeftAloneModel", "oneDay", "()V"⟩, 25) := ⟨⟨by decide +kernel, by decide +kernel⟩, List.mem_of_getElem? (i := 648) (by decide +kernel), List.mem_of_getElem? (i := 833) (by decide +kernel), List.mem_of_getElem? (i := 834) (by decide +kernel)⟩
theorem lw_p43 : lw_okq (⟨"LeftAloneModel", "madeAt", "(I)I"⟩, 25) := ⟨⟨by decide +kernel, by decide +kernel⟩, List.mem_of_getElem? (i := 648) (by decide +kernel), List.mem_of_getElem? (i := 837) (by decide +kernel), List.mem_of_getElem? (i := 838) (by decide +kernel)⟩
theorem lw_p44 : lw_okq (⟨"LeftAloneModel", "awayFrom", "(I)I"⟩, 25) := ⟨⟨by decide +kernel, by decide +kernel⟩, List.mem_of_getElem? (i := 648) (by decide +kernel), List.mem_of_getElem? (i := 841) (by decide +kernel), List.mem_of_getElem? (i := 842) (by decide +kernel)⟩
theorem lw_p45 : lw_okq (⟨"LeftAloneModel", "houseOf", "(I)I"⟩, 25) := ⟨⟨by decide +kernel, by decide +kernel⟩, List.mem_of_getElem? (i := 648) (by decide +kernel), List.mem_of_getElem? (i := 848) (by decide +kernel), List.mem_of_getElem? (i := 849) (by decide +kernel)⟩
theorem lw_p46 : lw_okq (⟨"LeftAloneModel", "makes", "(I)I"⟩, 25) := ⟨⟨by decide +kernel, by decide +kernel⟩, List.mem_of_getElem? (i := 648) (by decide +kernel), List.mem_of_getElem? (i := 852) (by decide +kernel), List.mem_of_getElem? (i := 853) (by decide +kernel)⟩
theorem lw_p47 : lw_okq (⟨"LeftAloneModel", "timesOf", "(I)I"⟩, 25) := ⟨⟨by decide +kernel, by decide +kernel⟩, List.mem_of_getElem? (i := 648) (by decide +kernel), List.mem_of_getElem? (i := 856) (by decide +kernel), List.mem_of_getElem? (i := 857) (by decide +kernel)⟩
def lw_privs_3 : List (MethodName × Nat) := [(⟨"LeftAloneModel", "well", "(I)I"⟩, 25), (⟨"LeftAloneModel", "readTown", "()Z"⟩, 25), (⟨"LeftAloneModel", "nextToken", "()V"⟩, 25), (⟨"LeftAloneModel", "takes", "(I)Z"⟩, 25), (⟨"LeftAloneModel", "isLetter", "(I)Z"⟩, 25), (⟨"LeftAloneModel", "faults", "(I)Z"⟩, 25), (⟨"LeftAloneModel", "takesNumber", "(IIII)Z"⟩, 25), (⟨"LeftAloneModel", "readLeaver", "(I)Z"⟩, 25), (⟨"LeftAloneModel", "readMan", "()Z"⟩, 25), (⟨"LeftAloneModel", "note", "()V"⟩, 25), (⟨"LeftAloneModel", "oneDay", "()V"⟩, 25), (⟨"LeftAloneModel", "madeAt", "(I)I"⟩, 25), (⟨"LeftAloneModel", "awayFrom", "(I)I"⟩, 25), (⟨"LeftAloneModel", "houseOf", "(I)I"⟩, 25), (⟨"LeftAloneModel", "makes", "(I)I"⟩, 25), (⟨"LeftAloneModel", "timesOf", "(I)I"⟩, 25)]
theorem lw_r3 : ∀ q ∈ lw_privs_3, lw_okq q := List.forall_mem_cons.mpr ⟨lw_p32, List.forall_mem_cons.mpr ⟨lw_p33, List.forall_mem_cons.mpr ⟨lw_p34, List.forall_mem_cons.mpr ⟨lw_p35, List.forall_mem_cons.mpr ⟨lw_p36, List.forall_mem_cons.mpr ⟨lw_p37, List.forall_mem_cons.mpr ⟨lw_p38, List.forall_mem_cons.mpr ⟨lw_p39, List.forall_mem_cons.mpr ⟨lw_p40, List.forall_mem_cons.mpr ⟨lw_p41, List.forall_mem_cons.mpr ⟨lw_p42, List.forall_mem_cons.mpr ⟨lw_p43, List.forall_mem_cons.mpr ⟨lw_p44, List.forall_mem_cons.mpr ⟨lw_p45, List.forall_mem_cons.mpr ⟨lw_p46, List.forall_mem_cons.mpr ⟨lw_p47, fun _ h => absurd h List.not_mem_nil⟩⟩⟩⟩⟩⟩⟩⟩⟩⟩⟩⟩⟩⟩⟩⟩
theorem lw_p48 : lw_okq (⟨"LeftAloneModel", "allFeel", "()I"⟩, 25) := ⟨⟨by decide +kernel, by decide +kernel⟩, List.mem_of_getElem? (i := 648) (by decide +kernel), List.mem_of_getElem? (i := 860) (by decide +kernel), List.mem_of_getElem? (i := 861) (by decide +kernel)⟩
theorem lw_p49 : lw_okq (⟨"LeftAloneModel", "isLeaver", "(I)Z"⟩, 25) := ⟨⟨by decide +kernel, by decide +kernel⟩, List.mem_of_getElem? (i := 648) (by decide +kernel), List.mem_of_getElem? (i := 868) (by decide +kernel), List.mem_of_getElem? (i := 869) (by decide +kernel)⟩
theorem lw_p50 : lw_okq (⟨"LeftAloneModel", "isMan", "(I)Z"⟩, 25) := ⟨⟨by decide +kernel, by decide +kernel⟩, List.mem_of_getElem? (i := 648) (by decide +kernel), List.mem_of_getElem? (i := 872) (by decide +kernel), List.mem_of_getElem? (i := 873) (by decide +kernel)⟩
theorem lw_p51 : lw_okq (⟨"LeftAloneModel", "sendTo", "(II)V"⟩, 25) := ⟨⟨by decide +kernel, by decide +kernel⟩, List.mem_of_getElem? (i := 648) (by decide +kernel), List.mem_of_getElem? (i := 876) (by decide +kernel), List.mem_of_getElem? (i := 877) (by decide +kernel)⟩
theorem lw_p52 : lw_okq (⟨"LeftAloneModel", "putAside", "()V"⟩, 25) := ⟨⟨by decide +kernel, by decide +kernel⟩, List.mem_of_getElem? (i := 648) (by decide +kernel), List.mem_of_getElem? (i := 906) (by decide +kernel), List.mem_of_getElem? (i := 907) (by decide +kernel)⟩
theorem lw_p53 : lw_okq (⟨"LeftAloneModel", "goOn", "(I)V"⟩, 25) := ⟨⟨by decide +kernel, by decide +kernel⟩, List.mem_of_getElem? (i := 648) (by decide +kernel), List.mem_of_getElem? (i := 910) (by decide +kernel), List.mem_of_getElem? (i := 911) (by decide +kernel)⟩
theorem lw_p54 : lw_okq (⟨"LeftAloneModel", "takeBack", "()V"⟩, 25) := ⟨⟨by decide +kernel, by decide +kernel⟩, List.mem_of_getElem? (i := 648) (by decide +kernel), List.mem_of_getElem? (i := 914) (by decide +kernel), List.mem_of_getElem? (i := 915) (by decide +kernel)⟩
theorem lw_p55 : lw_okq (⟨"LeftAloneModel", "doFeel", "(II)Z"⟩, 25) := ⟨⟨by decide +kernel, by decide +kernel⟩, List.mem_of_getElem? (i := 648) (by decide +kernel), List.mem_of_getElem? (i := 947) (by decide +kernel), List.mem_of_getElem? (i := 948) (by decide +kernel)⟩
theorem lw_p56 : lw_okq (⟨"LeftAloneModel", "lacksAsk", "(IIII)I"⟩, 25) := ⟨⟨by decide +kernel, by decide +kernel⟩, List.mem_of_getElem? (i := 648) (by decide +kernel), List.mem_of_getElem? (i := 963) (by decide +kernel), List.mem_of_getElem? (i := 964) (by decide +kernel)⟩
theorem lw_p57 : lw_okq (⟨"LeftAloneModel", "lacks", "(III)I"⟩, 25) := ⟨⟨by decide +kernel, by decide +kernel⟩, List.mem_of_getElem? (i := 648) (by decide +kernel), List.mem_of_getElem? (i := 968) (by decide +kernel), List.mem_of_getElem? (i := 969) (by decide +kernel)⟩
theorem lw_p58 : lw_okq (⟨"LeftAloneModel", "isSo", "(III)Z"⟩, 25) := ⟨⟨by decide +kernel, by decide +kernel⟩, List.mem_of_getElem? (i := 648) (by decide +kernel), List.mem_of_getElem? (i := 972) (by decide +kernel), List.mem_of_getElem? (i := 973) (by decide +kernel)⟩
theorem lw_p59 : lw_okq (⟨"LeftAloneModel", "isFree", "(I)Z"⟩, 25) := ⟨⟨by decide +kernel, by decide +kernel⟩, List.mem_of_getElem? (i := 648) (by decide +kernel), List.mem_of_getElem? (i := 992) (by decide +kernel), List.mem_of_getElem? (i := 993) (by decide +kernel)⟩
theorem lw_p60 : lw_okq (⟨"LeftAloneModel", "sizeOf", "(I)I"⟩, 25) := ⟨⟨by decide +kernel, by decide +kernel⟩, List.mem_of_getElem? (i := 648) (by decide +kernel), List.mem_of_getElem? (i := 1042) (by decide +kernel), List.mem_of_getElem? (i := 1043) (by decide +kernel)⟩
theorem lw_p61 : lw_okq (⟨"LeftAloneModel", "begin", "(I)V"⟩, 25) := ⟨⟨by decide +kernel, by decide +kernel⟩, List.mem_of_getElem? (i := 648) (by decide +kernel), List.mem_of_getElem? (i := 1046) (by decide +kernel), List.mem_of_getElem? (i := 1047) (by decide +kernel)⟩
theorem lw_p62 : lw_okq (⟨"LeftAloneModel", "pointedSize", "(I)I"⟩, 25) := ⟨⟨by decide +kernel, by decide +kernel⟩, List.mem_of_getElem? (i := 648) (by decide +kernel), List.mem_of_getElem? (i := 1050) (by decide +kernel), List.mem_of_getElem? (i := 1051) (by decide +kernel)⟩
theorem lw_p63 : lw_okq (⟨"LeftAloneModel", "lent", "(II)I"⟩, 25) := ⟨⟨by decide +kernel, by decide +kernel⟩, List.mem_of_getElem? (i := 648) (by decide +kernel), List.mem_of_getElem? (i := 1054) (by decide +kernel), List.mem_of_getElem? (i := 1055) (by decide +kernel)⟩
def lw_privs_4 : List (MethodName × Nat) := [(⟨"LeftAloneModel", "allFeel", "()I"⟩, 25), (⟨"LeftAloneModel", "isLeaver", "(I)Z"⟩, 25), (⟨"LeftAloneModel", "isMan", "(I)Z"⟩, 25), (⟨"LeftAloneModel", "sendTo", "(II)V"⟩, 25), (⟨"LeftAloneModel", "putAside", "()V"⟩, 25), (⟨"LeftAloneModel", "goOn", "(I)V"⟩, 25), (⟨"LeftAloneModel", "takeBack", "()V"⟩, 25), (⟨"LeftAloneModel", "doFeel", "(II)Z"⟩, 25), (⟨"LeftAloneModel", "lacksAsk", "(IIII)I"⟩, 25), (⟨"LeftAloneModel", "lacks", "(III)I"⟩, 25), (⟨"LeftAloneModel", "isSo", "(III)Z"⟩, 25), (⟨"LeftAloneModel", "isFree", "(I)Z"⟩, 25), (⟨"LeftAloneModel", "sizeOf", "(I)I"⟩, 25), (⟨"LeftAloneModel", "begin", "(I)V"⟩, 25), (⟨"LeftAloneModel", "pointedSize", "(I)I"⟩, 25), (⟨"LeftAloneModel", "lent", "(II)I"⟩, 25)]
theorem lw_r4 : ∀ q ∈ lw_privs_4, lw_okq q := List.forall_mem_cons.mpr ⟨lw_p48, List.forall_mem_cons.mpr ⟨lw_p49, List.forall_mem_cons.mpr ⟨lw_p50, List.forall_mem_cons.mpr ⟨lw_p51, List.forall_mem_cons.mpr ⟨lw_p52, List.forall_mem_cons.mpr ⟨lw_p53, List.forall_mem_cons.mpr ⟨lw_p54, List.forall_mem_cons.mpr ⟨lw_p55, List.forall_mem_cons.mpr ⟨lw_p56, List.forall_mem_cons.mpr ⟨lw_p57, List.forall_mem_cons.mpr ⟨lw_p58, List.forall_mem_cons.mpr ⟨lw_p59, List.forall_mem_cons.mpr ⟨lw_p60, List.forall_mem_cons.mpr ⟨lw_p61, List.forall_mem_cons.mpr ⟨lw_p62, List.forall_mem_cons.mpr ⟨lw_p63, fun _ h => absurd h List.not_mem_nil⟩⟩⟩⟩⟩⟩⟩⟩⟩⟩⟩⟩⟩⟩⟩⟩
theorem lw_p64 : lw_okq (⟨"LeftAloneModel", "markOf", "(I)I"⟩, 25) := ⟨⟨by decide +kernel, by decide +kernel⟩, List.mem_of_getElem? (i := 648) (by decide +kernel), List.mem_of_getElem? (i := 1058) (by decide +kernel), List.mem_of_getElem? (i := 1059) (by decide +kernel)⟩
theorem lw_p65 : lw_okq (⟨"LeftAloneModel", "pointedMark", "(I)I"⟩, 25) := ⟨⟨by decide +kernel, by decide +kernel⟩, List.mem_of_getElem? (i := 648) (by decide +kernel), List.mem_of_getElem? (i := 1062) (by decide +kernel), List.mem_of_getElem? (i := 1063) (by decide +kernel)⟩
theorem lw_p66 : lw_okq (⟨"LeftAloneModel", "sizeOfIdle", "(I)I"⟩, 25) := ⟨⟨by decide +kernel, by decide +kernel⟩, List.mem_of_getElem? (i := 648) (by decide +kernel), List.mem_of_getElem? (i := 1066) (by decide +kernel), List.mem_of_getElem? (i := 1067) (by decide +kernel)⟩
theorem lw_p67 : lw_okq (⟨"LeftAloneModel", "idleSize", "(I)I"⟩, 25) := ⟨⟨by decide +kernel, by decide +kernel⟩, List.mem_of_getElem? (i := 648) (by decide +kernel), List.mem_of_getElem? (i := 1070) (by decide +kernel), List.mem_of_getElem? (i := 1071) (by decide +kernel)⟩
def lw_privs_5 : List (MethodName × Nat) := [(⟨"LeftAloneModel", "markOf", "(I)I"⟩, 25), (⟨"LeftAloneModel", "pointedMark", "(I)I"⟩, 25), (⟨"LeftAloneModel", "sizeOfIdle", "(I)I"⟩, 25), (⟨"LeftAloneModel", "idleSize", "(I)I"⟩, 25)]
theorem lw_r5 : ∀ q ∈ lw_privs_5, lw_okq q := List.forall_mem_cons.mpr ⟨lw_p64, List.forall_mem_cons.mpr ⟨lw_p65, List.forall_mem_cons.mpr ⟨lw_p66, List.forall_mem_cons.mpr ⟨lw_p67, fun _ h => absurd h List.not_mem_nil⟩⟩⟩⟩
def lw_privs : List (MethodName × Nat) := lw_privs_1 ++ (lw_privs_2 ++ (lw_privs_3 ++ (lw_privs_4 ++ (lw_privs_5))))
def lw_tbl : List Cond := k2_sels lw_privs ++ tables_1
theorem lw_privs_ok : ∀ q ∈ lw_privs, lw_okq q := by
  show ∀ q ∈ lw_privs_1 ++ (lw_privs_2 ++ (lw_privs_3 ++ (lw_privs_4 ++ (lw_privs_5)))), lw_okq q
  exact List.forall_mem_append.mpr ⟨lw_r1, List.forall_mem_append.mpr ⟨lw_r2, List.forall_mem_append.mpr ⟨lw_r3, List.forall_mem_append.mpr ⟨lw_r4, lw_r5⟩⟩⟩⟩
end
section
def RX0 : String := "LeftAlone$Acts"
def TX0 : u_T := fun k => match k with
  | 0 => ("LeftAlone$Acts", "before", "[LLeftAlone$Town;", true)
  | 1 => ("LeftAlone$Acts", "oldest", "I", false)
  | _ => ("LeftAlone$Acts", "size", "I", false)
def tyX0 : Nat → FieldType := fun k => match k with
  | 0 => .array (.object "LeftAlone$Town")
  | 1 => .int
  | _ => .int
theorem nmX0 : ∀ a, a < 3 → ∀ b, b < 3 → a ≠ b → (TX0 a).2.1 ≠ (TX0 b).2.1 := by decide +kernel
theorem tyX0_ok : ∀ k, k < 3 → parseFieldDescriptor (TX0 k).2.2.1 = some (tyX0 k) := by decide +kernel
abbrev cX0_init : ByteArray := prog_2_method_1_code
def yX0_init : MethodName := ⟨RX0, "<init>", "()V"⟩
abbrev cX0_forget : ByteArray := prog_2_method_2_code
def yX0_forget : MethodName := ⟨RX0, "forget", "()V"⟩
abbrev cX0_keep : ByteArray := prog_2_method_3_code
def yX0_keep : MethodName := ⟨RX0, "keep", "(LLeftAlone$Town;)V"⟩
abbrev cX0_takeBack : ByteArray := prog_2_method_4_code
def yX0_takeBack : MethodName := ⟨RX0, "takeBack", "(LLeftAlone$Town;)Z"⟩
def RX1 : String := "LeftAlone$Reader"
def TX1 : u_T := fun k => match k with
  | 0 => ("LeftAlone$Reader", "tape", "[I", true)
  | 1 => ("LeftAlone$Reader", "size", "I", false)
  | 2 => ("LeftAlone$Reader", "fault", "I", false)
  | 3 => ("LeftAlone$Reader", "place", "I", false)
  | 4 => ("LeftAlone$Reader", "token", "I", false)
  | 5 => ("LeftAlone$Reader", "value", "I", false)
  | 6 => ("LeftAlone$Reader", "start", "I", false)
  | _ => ("LeftAlone$Reader", "next", "I", false)
def tyX1 : Nat → FieldType := fun k => match k with
  | 0 => .array .int
  | 1 => .int
  | 2 => .int
  | 3 => .int
  | 4 => .int
  | 5 => .int
  | 6 => .int
  | _ => .int
theorem nmX1 : ∀ a, a < 8 → ∀ b, b < 8 → a ≠ b → (TX1 a).2.1 ≠ (TX1 b).2.1 := by decide +kernel
theorem tyX1_ok : ∀ k, k < 8 → parseFieldDescriptor (TX1 k).2.2.1 = some (tyX1 k) := by decide +kernel
abbrev cX1_init : ByteArray := prog_3_method_1_code
def yX1_init : MethodName := ⟨RX1, "<init>", "()V"⟩
abbrev cX1_add : ByteArray := prog_3_method_2_code
def yX1_add : MethodName := ⟨RX1, "add", "(I)Z"⟩
abbrev cX1_read : ByteArray := prog_3_method_3_code
def yX1_read : MethodName := ⟨RX1, "read", "(LLeftAlone$Town;)Z"⟩
abbrev cX1_readLaw : ByteArray := prog_3_method_4_code
def yX1_readLaw : MethodName := ⟨RX1, "readLaw", "(LLeftAlone$Town;)Z"⟩
abbrev cX1_readMen : ByteArray := prog_3_method_5_code
def yX1_readMen : MethodName := ⟨RX1, "readMen", "(LLeftAlone$Town;)Z"⟩
abbrev cX1_readMan : ByteArray := prog_3_method_6_code
def yX1_readMan : MethodName := ⟨RX1, "readMan", "(LLeftAlone$Town;I)Z"⟩
abbrev cX1_readLeavers : ByteArray := prog_3_method_7_code
def yX1_readLeavers : MethodName := ⟨RX1, "readLeavers", "(LLeftAlone$Town;)Z"⟩
abbrev cX1_readLeaver : ByteArray := prog_3_method_8_code
def yX1_readLeaver : MethodName := ⟨RX1, "readLeaver", "(LLeftAlone$Town;I)Z"⟩
abbrev cX1_kindOfSort : ByteArray := prog_3_method_9_code
def yX1_kindOfSort : MethodName := ⟨RX1, "kindOfSort", "(I)I"⟩
abbrev cX1_failBy : ByteArray := prog_3_method_10_code
def yX1_failBy : MethodName := ⟨RX1, "failBy", "(I)Z"⟩
abbrev cX1_take : ByteArray := prog_3_method_11_code
def yX1_take : MethodName := ⟨RX1, "take", "(I)Z"⟩
abbrev cX1_takeNumber : ByteArray := prog_3_method_12_code
def yX1_takeNumber : MethodName := ⟨RX1, "takeNumber", "(II)I"⟩
abbrev cX1_advance : ByteArray := prog_3_method_13_code
def yX1_advance : MethodName := ⟨RX1, "advance", "()V"⟩
abbrev cX1_isFigure : ByteArray := prog_3_method_14_code
def yX1_isFigure : MethodName := ⟨RX1, "isFigure", "(I)Z"⟩
def RX2 : String := "LeftAlone$Row"
def TX2 : u_T := fun k => match k with
  | 0 => ("LeftAlone$Row", "items", "[I", true)
  | 1 => ("LeftAlone$Row", "there", "Z", false)
  | 2 => ("LeftAlone$Row", "lane", "I", false)
  | _ => ("LeftAlone$Row", "size", "I", false)
def tyX2 : Nat → FieldType := fun k => match k with
  | 0 => .array .int
  | 1 => .boolean
  | 2 => .int
  | _ => .int
theorem nmX2 : ∀ a, a < 4 → ∀ b, b < 4 → a ≠ b → (TX2 a).2.1 ≠ (TX2 b).2.1 := by decide +kernel
theorem tyX2_ok : ∀ k, k < 4 → parseFieldDescriptor (TX2 k).2.2.1 = some (tyX2 k) := by decide +kernel
abbrev cX2_init : ByteArray := prog_4_method_1_code
def yX2_init : MethodName := ⟨RX2, "<init>", "()V"⟩
abbrev cX2_make : ByteArray := prog_4_method_2_code
def yX2_make : MethodName := ⟨RX2, "make", "(II)V"⟩
abbrev cX2_holds : ByteArray := prog_4_method_3_code
def yX2_holds : MethodName := ⟨RX2, "holds", "(II)Z"⟩
abbrev cX2_put : ByteArray := prog_4_method_4_code
def yX2_put : MethodName := ⟨RX2, "put", "(II)I"⟩
def RX3 : String := "LeftAlone$Town"
def TX3 : u_T := fun k => match k with
  | 0 => ("LeftAlone$Town", "feels", "[I", true)
  | 1 => ("LeftAlone$Town", "patience", "[I", true)
  | 2 => ("LeftAlone$Town", "kind", "[I", true)
  | 3 => ("LeftAlone$Town", "house", "[I", true)
  | 4 => ("LeftAlone$Town", "weight", "[I", true)
  | 5 => ("LeftAlone$Town", "pace", "[I", true)
  | 6 => ("LeftAlone$Town", "away", "[I", true)
  | 7 => ("LeftAlone$Town", "made", "[I", true)
  | 8 => ("LeftAlone$Town", "men", "I", false)
  | 9 => ("LeftAlone$Town", "leavers", "I", false)
  | 10 => ("LeftAlone$Town", "used", "I", false)
  | 11 => ("LeftAlone$Town", "rainy", "I", false)
  | 12 => ("LeftAlone$Town", "day", "I", false)
  | 13 => ("LeftAlone$Town", "barred", "I", false)
  | _ => ("LeftAlone$Town", "home", "I", false)
def tyX3 : Nat → FieldType := fun k => match k with
  | 0 => .array .int
  | 1 => .array .int
  | 2 => .array .int
  | 3 => .array .int
  | 4 => .array .int
  | 5 => .array .int
  | 6 => .array .int
  | 7 => .array .int
  | 8 => .int
  | 9 => .int
  | 10 => .int
  | 11 => .int
  | 12 => .int
  | 13 => .int
  | _ => .int
theorem nmX3 : ∀ a, a < 15 → ∀ b, b < 15 → a ≠ b → (TX3 a).2.1 ≠ (TX3 b).2.1 := by decide +kernel
theorem tyX3_ok : ∀ k, k < 15 → parseFieldDescriptor (TX3 k).2.2.1 = some (tyX3 k) := by decide +kernel
abbrev cX3_init : ByteArray := prog_5_method_1_code
def yX3_init : MethodName := ⟨RX3, "<init>", "()V"⟩
abbrev cX3_clear : ByteArray := prog_5_method_2_code
def yX3_clear : MethodName := ⟨RX3, "clear", "()V"⟩
abbrev cX3_copyFrom : ByteArray := prog_5_method_3_code
def yX3_copyFrom : MethodName := ⟨RX3, "copyFrom", "(LLeftAlone$Town;)V"⟩
abbrev cX3_houseToday : ByteArray := prog_5_method_4_code
def yX3_houseToday : MethodName := ⟨RX3, "houseToday", "(I)I"⟩
abbrev cX3_timesAway : ByteArray := prog_5_method_5_code
def yX3_timesAway : MethodName := ⟨RX3, "timesAway", "(II)I"⟩
abbrev cX3_makesToday : ByteArray := prog_5_method_6_code
def yX3_makesToday : MethodName := ⟨RX3, "makesToday", "(I)I"⟩
abbrev cX3_idly : ByteArray := prog_5_method_7_code
def yX3_idly : MethodName := ⟨RX3, "idly", "(I)I"⟩
abbrev cX3_isRainy : ByteArray := prog_5_method_8_code
def yX3_isRainy : MethodName := ⟨RX3, "isRainy", "()Z"⟩
abbrev cX3_isAway : ByteArray := prog_5_method_9_code
def yX3_isAway : MethodName := ⟨RX3, "isAway", "(II)Z"⟩
abbrev cX3_awayFrom : ByteArray := prog_5_method_10_code
def yX3_awayFrom : MethodName := ⟨RX3, "awayFrom", "(I)I"⟩
abbrev cX3_madeAt : ByteArray := prog_5_method_11_code
def yX3_madeAt : MethodName := ⟨RX3, "madeAt", "(I)I"⟩
abbrev cX3_feltByAll : ByteArray := prog_5_method_12_code
def yX3_feltByAll : MethodName := ⟨RX3, "feltByAll", "()I"⟩
abbrev cX3_ofKind : ByteArray := prog_5_method_13_code
def yX3_ofKind : MethodName := ⟨RX3, "ofKind", "(I)I"⟩
abbrev cX3_sendTo : ByteArray := prog_5_method_14_code
def yX3_sendTo : MethodName := ⟨RX3, "sendTo", "(II)V"⟩
abbrev cX3_sendByDraw : ByteArray := prog_5_method_15_code
def yX3_sendByDraw : MethodName := ⟨RX3, "sendByDraw", "(J)V"⟩
abbrev cX3_passDays : ByteArray := prog_5_method_16_code
def yX3_passDays : MethodName := ⟨RX3, "passDays", "(I)V"⟩
abbrev cX3_passDay : ByteArray := prog_5_method_17_code
def yX3_passDay : MethodName := ⟨RX3, "passDay", "()I"⟩
abbrev cX3_stayAway : ByteArray := prog_5_method_18_code
def yX3_stayAway : MethodName := ⟨RX3, "stayAway", "()I"⟩
def RX4 : String := "LeftAlone"
def TX4 : u_T := fun k => match k with
  | 0 => ("LeftAlone", "rows", "[LLeftAlone$Row;", true)
  | 1 => ("LeftAlone", "reader", "LLeftAlone$Reader;", true)
  | 2 => ("LeftAlone", "acts", "LLeftAlone$Acts;", true)
  | 3 => ("LeftAlone", "town", "LLeftAlone$Town;", true)
  | 4 => ("LeftAlone", "trial", "LLeftAlone$Town;", true)
  | 5 => ("LeftAlone", "images", "[LLeftAlone$Town;", true)
  | 6 => ("LeftAlone", "bodies", "[I", true)
  | 7 => ("LeftAlone", "begun", "I", false)
  | 8 => ("LeftAlone", "latestFault", "I", false)
  | _ => ("LeftAlone", "latestFinding", "I", false)
def tyX4 : Nat → FieldType := fun k => match k with
  | 0 => .array (.object "LeftAlone$Row")
  | 1 => .object "LeftAlone$Reader"
  | 2 => .object "LeftAlone$Acts"
  | 3 => .object "LeftAlone$Town"
  | 4 => .object "LeftAlone$Town"
  | 5 => .array (.object "LeftAlone$Town")
  | 6 => .array .int
  | 7 => .int
  | 8 => .int
  | _ => .int
theorem nmX4 : ∀ a, a < 10 → ∀ b, b < 10 → a ≠ b → (TX4 a).2.1 ≠ (TX4 b).2.1 := by decide +kernel
theorem tyX4_ok : ∀ k, k < 10 → parseFieldDescriptor (TX4 k).2.2.1 = some (tyX4 k) := by decide +kernel
abbrev cX4_init : ByteArray := prog_1_method_1_code
def yX4_init : MethodName := ⟨RX4, "<init>", "()V"⟩
abbrev cX4_row : ByteArray := prog_1_method_2_code
def yX4_row : MethodName := ⟨RX4, "row", "(III)I"⟩
abbrev cX4_set : ByteArray := prog_1_method_3_code
def yX4_set : MethodName := ⟨RX4, "set", "(III)I"⟩
abbrev cX4_copy : ByteArray := prog_1_method_4_code
def yX4_copy : MethodName := ⟨RX4, "copy", "(IIIII)I"⟩
abbrev cX4_drop : ByteArray := prog_1_method_5_code
def yX4_drop : MethodName := ⟨RX4, "drop", "(I)I"⟩
abbrev cX4_feed : ByteArray := prog_1_method_6_code
def yX4_feed : MethodName := ⟨RX4, "feed", "(I)I"⟩
abbrev cX4_town : ByteArray := prog_1_method_7_code
def yX4_town : MethodName := ⟨RX4, "town", "()I"⟩
abbrev cX4_fault : ByteArray := prog_1_method_8_code
def yX4_fault : MethodName := ⟨RX4, "fault", "()I"⟩
abbrev cX4_undo : ByteArray := prog_1_method_9_code
def yX4_undo : MethodName := ⟨RX4, "undo", "()I"⟩
abbrev cX4_days : ByteArray := prog_1_method_10_code
def yX4_days : MethodName := ⟨RX4, "days", "(I)I"⟩
abbrev cX4_send : ByteArray := prog_1_method_11_code
def yX4_send : MethodName := ⟨RX4, "send", "(II)I"⟩
abbrev cX4_weight : ByteArray := prog_1_method_12_code
def yX4_weight : MethodName := ⟨RX4, "weight", "(II)I"⟩
abbrev cX4_bar : ByteArray := prog_1_method_13_code
def yX4_bar : MethodName := ⟨RX4, "bar", "(II)I"⟩
abbrev cX4_patience : ByteArray := prog_1_method_14_code
def yX4_patience : MethodName := ⟨RX4, "patience", "(II)I"⟩
abbrev cX4_leaver : ByteArray := prog_1_method_15_code
def yX4_leaver : MethodName := ⟨RX4, "leaver", "(II)I"⟩
abbrev cX4_man : ByteArray := prog_1_method_16_code
def yX4_man : MethodName := ⟨RX4, "man", "(II)I"⟩
abbrev cX4_ahead : ByteArray := prog_1_method_17_code
def yX4_ahead : MethodName := ⟨RX4, "ahead", "(II)I"⟩
abbrev cX4_awayAhead : ByteArray := prog_1_method_18_code
def yX4_awayAhead : MethodName := ⟨RX4, "awayAhead", "(II)I"⟩
abbrev cX4_first : ByteArray := prog_1_method_19_code
def yX4_first : MethodName := ⟨RX4, "first", "(I)I"⟩
abbrev cX4_reach : ByteArray := prog_1_method_20_code
def yX4_reach : MethodName := ⟨RX4, "reach", "(II)I"⟩
abbrev cX4_usual : ByteArray := prog_1_method_21_code
def yX4_usual : MethodName := ⟨RX4, "usual", "(II)I"⟩
abbrev cX4_fewest : ByteArray := prog_1_method_22_code
def yX4_fewest : MethodName := ⟨RX4, "fewest", "(IIII)I"⟩
abbrev cX4_bestHouse : ByteArray := prog_1_method_23_code
def yX4_bestHouse : MethodName := ⟨RX4, "bestHouse", "(III)I"⟩
abbrev cX4_tells : ByteArray := prog_1_method_24_code
def yX4_tells : MethodName := ⟨RX4, "tells", "(II)I"⟩
abbrev cX4_who : ByteArray := prog_1_method_25_code
def yX4_who : MethodName := ⟨RX4, "who", "(IIIII)I"⟩
abbrev cX4_houses : ByteArray := prog_1_method_26_code
def yX4_houses : MethodName := ⟨RX4, "houses", "(IIIII)I"⟩
abbrev cX4_weights : ByteArray := prog_1_method_27_code
def yX4_weights : MethodName := ⟨RX4, "weights", "(IIIII)I"⟩
abbrev cX4_absent : ByteArray := prog_1_method_28_code
def yX4_absent : MethodName := ⟨RX4, "absent", "(IIII)I"⟩
abbrev cX4_greets : ByteArray := prog_1_method_29_code
def yX4_greets : MethodName := ⟨RX4, "greets", "(I)I"⟩
abbrev cX4_talk : ByteArray := prog_1_method_30_code
def yX4_talk : MethodName := ⟨RX4, "talk", "(II)I"⟩
abbrev cX4_alone : ByteArray := prog_1_method_31_code
def yX4_alone : MethodName := ⟨RX4, "alone", "()I"⟩
abbrev cX4_rain : ByteArray := prog_1_method_32_code
def yX4_rain : MethodName := ⟨RX4, "rain", "(IIII)J"⟩
abbrev cX4_drawn : ByteArray := prog_1_method_33_code
def yX4_drawn : MethodName := ⟨RX4, "drawn", "(III)I"⟩
abbrev cX4_image : ByteArray := prog_1_method_34_code
def yX4_image : MethodName := ⟨RX4, "image", "(I)I"⟩
abbrev cX4_restore : ByteArray := prog_1_method_35_code
def yX4_restore : MethodName := ⟨RX4, "restore", "(I)I"⟩
abbrev cX4_kind : ByteArray := prog_1_method_36_code
def yX4_kind : MethodName := ⟨RX4, "kind", "(I)I"⟩
abbrev cX4_as : ByteArray := prog_1_method_37_code
def yX4_as : MethodName := ⟨RX4, "as", "(II)I"⟩
abbrev cX4_ask : ByteArray := prog_1_method_38_code
def yX4_ask : MethodName := ⟨RX4, "ask", "(II)I"⟩
abbrev cX4_trace : ByteArray := prog_1_method_39_code
def yX4_trace : MethodName := ⟨RX4, "trace", "(I)I"⟩
abbrev cX4_count : ByteArray := prog_1_method_40_code
def yX4_count : MethodName := ⟨RX4, "count", "(I)I"⟩
abbrev cX4_status : ByteArray := prog_1_method_41_code
def yX4_status : MethodName := ⟨RX4, "status", "()I"⟩
abbrev cX4_within : ByteArray := prog_1_method_42_code
def yX4_within : MethodName := ⟨RX4, "within", "(III)Z"⟩
abbrev cX4_isBit : ByteArray := prog_1_method_43_code
def yX4_isBit : MethodName := ⟨RX4, "isBit", "(I)Z"⟩
abbrev cX4_bit : ByteArray := prog_1_method_44_code
def yX4_bit : MethodName := ⟨RX4, "bit", "(II)I"⟩
abbrev cX4_isRow : ByteArray := prog_1_method_45_code
def yX4_isRow : MethodName := ⟨RX4, "isRow", "(I)Z"⟩
abbrev cX4_isMan : ByteArray := prog_1_method_46_code
def yX4_isMan : MethodName := ⟨RX4, "isMan", "(I)Z"⟩
abbrev cX4_isLeaver : ByteArray := prog_1_method_47_code
def yX4_isLeaver : MethodName := ⟨RX4, "isLeaver", "(I)Z"⟩
abbrev cX4_hasTown : ByteArray := prog_1_method_48_code
def yX4_hasTown : MethodName := ⟨RX4, "hasTown", "()Z"⟩
abbrev cX4_found : ByteArray := prog_1_method_49_code
def yX4_found : MethodName := ⟨RX4, "found", "(I)I"⟩
abbrev cX4_unfound : ByteArray := prog_1_method_50_code
def yX4_unfound : MethodName := ⟨RX4, "unfound", "(I)I"⟩
abbrev cX4_rowsThere : ByteArray := prog_1_method_51_code
def yX4_rowsThere : MethodName := ⟨RX4, "rowsThere", "()I"⟩
abbrev cX4_refusalOfTold : ByteArray := prog_1_method_52_code
def yX4_refusalOfTold : MethodName := ⟨RX4, "refusalOfTold", "(IIII)I"⟩
abbrev cX4_fitting : ByteArray := prog_1_method_53_code
def yX4_fitting : MethodName := ⟨RX4, "fitting", "(IIIIII)I"⟩
abbrev cX4_changeTrial : ByteArray := prog_1_method_54_code
def yX4_changeTrial : MethodName := ⟨RX4, "changeTrial", "(III)V"⟩
abbrev cX4_trialFits : ByteArray := prog_1_method_55_code
def yX4_trialFits : MethodName := ⟨RX4, "trialFits", "(ILLeftAlone$Row;II)Z"⟩
abbrev cX4_allFeel : ByteArray := prog_1_method_56_code
def yX4_allFeel : MethodName := ⟨RX4, "allFeel", "(IIII)Z"⟩
abbrev cX4_feltWithout : ByteArray := prog_1_method_57_code
def yX4_feltWithout : MethodName := ⟨RX4, "feltWithout", "(II)I"⟩
abbrev cX4_feelsWithout : ByteArray := prog_1_method_58_code
def yX4_feelsWithout : MethodName := ⟨RX4, "feelsWithout", "(III)Z"⟩
abbrev cX4_isFree : ByteArray := prog_1_method_59_code
def yX4_isFree : MethodName := ⟨RX4, "isFree", "(I)Z"⟩
abbrev cX4_cases : ByteArray := prog_1_method_60_code
def yX4_cases : MethodName := ⟨RX4, "cases", "(III)J"⟩
abbrev cX4_power : ByteArray := prog_1_method_61_code
def yX4_power : MethodName := ⟨RX4, "power", "(JI)J"⟩
abbrev cX4_commonDivisor : ByteArray := prog_1_method_62_code
def yX4_commonDivisor : MethodName := ⟨RX4, "commonDivisor", "(JJ)J"⟩
abbrev cX4_nearestBody : ByteArray := prog_1_method_63_code
def yX4_nearestBody : MethodName := ⟨RX4, "nearestBody", "([II)I"⟩
abbrev cX4_sizeBody : ByteArray := prog_1_method_64_code
def yX4_sizeBody : MethodName := ⟨RX4, "sizeBody", "(I)I"⟩
abbrev cX4_markBody : ByteArray := prog_1_method_65_code
def yX4_markBody : MethodName := ⟨RX4, "markBody", "(I)I"⟩
abbrev cX4_leaveInTrace : ByteArray := prog_1_method_66_code
def yX4_leaveInTrace : MethodName := ⟨RX4, "leaveInTrace", "(I)V"⟩
abbrev cX4_body : ByteArray := prog_1_method_67_code
def yX4_body : MethodName := ⟨RX4, "body", "(III)I"⟩
def RX5 : String := "LeftAloneModel"
def TX5 : u_T := fun k => match k with
  | 0 => ("LeftAloneModel", "lanes", "[I", true)
  | 1 => ("LeftAloneModel", "sizes", "[I", true)
  | 2 => ("LeftAloneModel", "items", "[I", true)
  | 3 => ("LeftAloneModel", "status", "I", false)
  | 4 => ("LeftAloneModel", "isThere", "Z", false)
  | 5 => ("LeftAloneModel", "st", "[I", true)
  | 6 => ("LeftAloneModel", "home", "I", false)
  | 7 => ("LeftAloneModel", "moved", "[I", true)
  | 8 => ("LeftAloneModel", "tape", "[I", true)
  | 9 => ("LeftAloneModel", "bytes", "I", false)
  | 10 => ("LeftAloneModel", "latest", "I", false)
  | 11 => ("LeftAloneModel", "place", "I", false)
  | 12 => ("LeftAloneModel", "token", "I", false)
  | 13 => ("LeftAloneModel", "value", "I", false)
  | 14 => ("LeftAloneModel", "begins", "I", false)
  | 15 => ("LeftAloneModel", "wrong", "I", false)
  | 16 => ("LeftAloneModel", "read", "[I", true)
  | 17 => ("LeftAloneModel", "used", "I", false)
  | 18 => ("LeftAloneModel", "acts", "[I", true)
  | 19 => ("LeftAloneModel", "actMany", "I", false)
  | 20 => ("LeftAloneModel", "aside", "[I", true)
  | 21 => ("LeftAloneModel", "isKept", "[Z", true)
  | 22 => ("LeftAloneModel", "kept", "[I", true)
  | 23 => ("LeftAloneModel", "trace", "[I", true)
  | _ => ("LeftAloneModel", "traced", "I", false)
def tyX5 : Nat → FieldType := fun k => match k with
  | 0 => .array .int
  | 1 => .array .int
  | 2 => .array .int
  | 3 => .int
  | 4 => .boolean
  | 5 => .array .int
  | 6 => .int
  | 7 => .array .int
  | 8 => .array .int
  | 9 => .int
  | 10 => .int
  | 11 => .int
  | 12 => .int
  | 13 => .int
  | 14 => .int
  | 15 => .int
  | 16 => .array .int
  | 17 => .int
  | 18 => .array .int
  | 19 => .int
  | 20 => .array .int
  | 21 => .array .boolean
  | 22 => .array .int
  | 23 => .array .int
  | _ => .int
theorem nmX5 : ∀ a, a < 25 → ∀ b, b < 25 → a ≠ b → (TX5 a).2.1 ≠ (TX5 b).2.1 := by decide +kernel
theorem tyX5_ok : ∀ k, k < 25 → parseFieldDescriptor (TX5 k).2.2.1 = some (tyX5 k) := by decide +kernel
abbrev cX5_init : ByteArray := prog_7_method_1_code
def yX5_init : MethodName := ⟨RX5, "<init>", "()V"⟩
abbrev cX5_in : ByteArray := prog_7_method_2_code
def yX5_in : MethodName := ⟨RX5, "in", "(JJJ)Z"⟩
abbrev cX5_has : ByteArray := prog_7_method_3_code
def yX5_has : MethodName := ⟨RX5, "has", "(II)Z"⟩
abbrev cX5_ones : ByteArray := prog_7_method_4_code
def yX5_ones : MethodName := ⟨RX5, "ones", "(I)I"⟩
abbrev cX5_find : ByteArray := prog_7_method_5_code
def yX5_find : MethodName := ⟨RX5, "find", "(I)I"⟩
abbrev cX5_well : ByteArray := prog_7_method_6_code
def yX5_well : MethodName := ⟨RX5, "well", "(I)I"⟩
abbrev cX5_isRow : ByteArray := prog_7_method_7_code
def yX5_isRow : MethodName := ⟨RX5, "isRow", "(I)Z"⟩
abbrev cX5_row : ByteArray := prog_7_method_8_code
def yX5_row : MethodName := ⟨RX5, "row", "(III)I"⟩
abbrev cX5_asLane : ByteArray := prog_7_method_9_code
def yX5_asLane : MethodName := ⟨RX5, "asLane", "(II)I"⟩
abbrev cX5_set : ByteArray := prog_7_method_10_code
def yX5_set : MethodName := ⟨RX5, "set", "(III)I"⟩
abbrev cX5_copy : ByteArray := prog_7_method_11_code
def yX5_copy : MethodName := ⟨RX5, "copy", "(IIIII)I"⟩
abbrev cX5_drop : ByteArray := prog_7_method_12_code
def yX5_drop : MethodName := ⟨RX5, "drop", "(I)I"⟩
abbrev cX5_feed : ByteArray := prog_7_method_13_code
def yX5_feed : MethodName := ⟨RX5, "feed", "(I)I"⟩
abbrev cX5_nextToken : ByteArray := prog_7_method_14_code
def yX5_nextToken : MethodName := ⟨RX5, "nextToken", "()V"⟩
abbrev cX5_faults : ByteArray := prog_7_method_15_code
def yX5_faults : MethodName := ⟨RX5, "faults", "(I)Z"⟩
abbrev cX5_isLetter : ByteArray := prog_7_method_16_code
def yX5_isLetter : MethodName := ⟨RX5, "isLetter", "(I)Z"⟩
abbrev cX5_takes : ByteArray := prog_7_method_17_code
def yX5_takes : MethodName := ⟨RX5, "takes", "(I)Z"⟩
abbrev cX5_takesNumber : ByteArray := prog_7_method_18_code
def yX5_takesNumber : MethodName := ⟨RX5, "takesNumber", "(IIII)Z"⟩
abbrev cX5_readMan : ByteArray := prog_7_method_19_code
def yX5_readMan : MethodName := ⟨RX5, "readMan", "()Z"⟩
abbrev cX5_readLeaver : ByteArray := prog_7_method_20_code
def yX5_readLeaver : MethodName := ⟨RX5, "readLeaver", "(I)Z"⟩
abbrev cX5_readTown : ByteArray := prog_7_method_21_code
def yX5_readTown : MethodName := ⟨RX5, "readTown", "()Z"⟩
abbrev cX5_town : ByteArray := prog_7_method_22_code
def yX5_town : MethodName := ⟨RX5, "town", "()I"⟩
abbrev cX5_fault : ByteArray := prog_7_method_23_code
def yX5_fault : MethodName := ⟨RX5, "fault", "()I"⟩
abbrev cX5_isMan : ByteArray := prog_7_method_24_code
def yX5_isMan : MethodName := ⟨RX5, "isMan", "(I)Z"⟩
abbrev cX5_isLeaver : ByteArray := prog_7_method_25_code
def yX5_isLeaver : MethodName := ⟨RX5, "isLeaver", "(I)Z"⟩
abbrev cX5_houseOf : ByteArray := prog_7_method_26_code
def yX5_houseOf : MethodName := ⟨RX5, "houseOf", "(I)I"⟩
abbrev cX5_timesOf : ByteArray := prog_7_method_27_code
def yX5_timesOf : MethodName := ⟨RX5, "timesOf", "(I)I"⟩
abbrev cX5_makes : ByteArray := prog_7_method_28_code
def yX5_makes : MethodName := ⟨RX5, "makes", "(I)I"⟩
abbrev cX5_awayFrom : ByteArray := prog_7_method_29_code
def yX5_awayFrom : MethodName := ⟨RX5, "awayFrom", "(I)I"⟩
abbrev cX5_madeAt : ByteArray := prog_7_method_30_code
def yX5_madeAt : MethodName := ⟨RX5, "madeAt", "(I)I"⟩
abbrev cX5_allFeel : ByteArray := prog_7_method_31_code
def yX5_allFeel : MethodName := ⟨RX5, "allFeel", "()I"⟩
abbrev cX5_oneDay : ByteArray := prog_7_method_32_code
def yX5_oneDay : MethodName := ⟨RX5, "oneDay", "()V"⟩
abbrev cX5_sendTo : ByteArray := prog_7_method_33_code
def yX5_sendTo : MethodName := ⟨RX5, "sendTo", "(II)V"⟩
abbrev cX5_note : ByteArray := prog_7_method_34_code
def yX5_note : MethodName := ⟨RX5, "note", "()V"⟩
abbrev cX5_undo : ByteArray := prog_7_method_35_code
def yX5_undo : MethodName := ⟨RX5, "undo", "()I"⟩
abbrev cX5_days : ByteArray := prog_7_method_36_code
def yX5_days : MethodName := ⟨RX5, "days", "(I)I"⟩
abbrev cX5_send : ByteArray := prog_7_method_37_code
def yX5_send : MethodName := ⟨RX5, "send", "(II)I"⟩
abbrev cX5_weight : ByteArray := prog_7_method_38_code
def yX5_weight : MethodName := ⟨RX5, "weight", "(II)I"⟩
abbrev cX5_bar : ByteArray := prog_7_method_39_code
def yX5_bar : MethodName := ⟨RX5, "bar", "(II)I"⟩
abbrev cX5_patience : ByteArray := prog_7_method_40_code
def yX5_patience : MethodName := ⟨RX5, "patience", "(II)I"⟩
abbrev cX5_leaver : ByteArray := prog_7_method_41_code
def yX5_leaver : MethodName := ⟨RX5, "leaver", "(II)I"⟩
abbrev cX5_man : ByteArray := prog_7_method_42_code
def yX5_man : MethodName := ⟨RX5, "man", "(II)I"⟩
abbrev cX5_putAside : ByteArray := prog_7_method_43_code
def yX5_putAside : MethodName := ⟨RX5, "putAside", "()V"⟩
abbrev cX5_takeBack : ByteArray := prog_7_method_44_code
def yX5_takeBack : MethodName := ⟨RX5, "takeBack", "()V"⟩
abbrev cX5_goOn : ByteArray := prog_7_method_45_code
def yX5_goOn : MethodName := ⟨RX5, "goOn", "(I)V"⟩
abbrev cX5_isWhat : ByteArray := prog_7_method_46_code
def yX5_isWhat : MethodName := ⟨RX5, "isWhat", "(I)Z"⟩
abbrev cX5_ahead : ByteArray := prog_7_method_47_code
def yX5_ahead : MethodName := ⟨RX5, "ahead", "(II)I"⟩
abbrev cX5_awayAhead : ByteArray := prog_7_method_48_code
def yX5_awayAhead : MethodName := ⟨RX5, "awayAhead", "(II)I"⟩
abbrev cX5_first : ByteArray := prog_7_method_49_code
def yX5_first : MethodName := ⟨RX5, "first", "(I)I"⟩
abbrev cX5_reach : ByteArray := prog_7_method_50_code
def yX5_reach : MethodName := ⟨RX5, "reach", "(II)I"⟩
abbrev cX5_usual : ByteArray := prog_7_method_51_code
def yX5_usual : MethodName := ⟨RX5, "usual", "(II)I"⟩
abbrev cX5_doFeel : ByteArray := prog_7_method_52_code
def yX5_doFeel : MethodName := ⟨RX5, "doFeel", "(II)Z"⟩
abbrev cX5_fewest : ByteArray := prog_7_method_53_code
def yX5_fewest : MethodName := ⟨RX5, "fewest", "(IIII)I"⟩
abbrev cX5_bestHouse : ByteArray := prog_7_method_54_code
def yX5_bestHouse : MethodName := ⟨RX5, "bestHouse", "(III)I"⟩
abbrev cX5_tells : ByteArray := prog_7_method_55_code
def yX5_tells : MethodName := ⟨RX5, "tells", "(II)I"⟩
abbrev cX5_lacks : ByteArray := prog_7_method_56_code
def yX5_lacks : MethodName := ⟨RX5, "lacks", "(III)I"⟩
abbrev cX5_isSo : ByteArray := prog_7_method_57_code
def yX5_isSo : MethodName := ⟨RX5, "isSo", "(III)Z"⟩
abbrev cX5_lacksAsk : ByteArray := prog_7_method_58_code
def yX5_lacksAsk : MethodName := ⟨RX5, "lacksAsk", "(IIII)I"⟩
abbrev cX5_who : ByteArray := prog_7_method_59_code
def yX5_who : MethodName := ⟨RX5, "who", "(IIIII)I"⟩
abbrev cX5_houses : ByteArray := prog_7_method_60_code
def yX5_houses : MethodName := ⟨RX5, "houses", "(IIIII)I"⟩
abbrev cX5_weights : ByteArray := prog_7_method_61_code
def yX5_weights : MethodName := ⟨RX5, "weights", "(IIIII)I"⟩
abbrev cX5_absent : ByteArray := prog_7_method_62_code
def yX5_absent : MethodName := ⟨RX5, "absent", "(IIII)I"⟩
abbrev cX5_isFree : ByteArray := prog_7_method_63_code
def yX5_isFree : MethodName := ⟨RX5, "isFree", "(I)Z"⟩
abbrev cX5_greets : ByteArray := prog_7_method_64_code
def yX5_greets : MethodName := ⟨RX5, "greets", "(I)I"⟩
abbrev cX5_talk : ByteArray := prog_7_method_65_code
def yX5_talk : MethodName := ⟨RX5, "talk", "(II)I"⟩
abbrev cX5_alone : ByteArray := prog_7_method_66_code
def yX5_alone : MethodName := ⟨RX5, "alone", "()I"⟩
abbrev cX5_rain : ByteArray := prog_7_method_67_code
def yX5_rain : MethodName := ⟨RX5, "rain", "(IIII)J"⟩
abbrev cX5_drawn : ByteArray := prog_7_method_68_code
def yX5_drawn : MethodName := ⟨RX5, "drawn", "(III)I"⟩
abbrev cX5_image : ByteArray := prog_7_method_69_code
def yX5_image : MethodName := ⟨RX5, "image", "(I)I"⟩
abbrev cX5_restore : ByteArray := prog_7_method_70_code
def yX5_restore : MethodName := ⟨RX5, "restore", "(I)I"⟩
abbrev cX5_kind : ByteArray := prog_7_method_71_code
def yX5_kind : MethodName := ⟨RX5, "kind", "(I)I"⟩
abbrev cX5_isKind : ByteArray := prog_7_method_72_code
def yX5_isKind : MethodName := ⟨RX5, "isKind", "(II)Z"⟩
abbrev cX5_as : ByteArray := prog_7_method_73_code
def yX5_as : MethodName := ⟨RX5, "as", "(II)I"⟩
abbrev cX5_begin : ByteArray := prog_7_method_74_code
def yX5_begin : MethodName := ⟨RX5, "begin", "(I)V"⟩
abbrev cX5_lent : ByteArray := prog_7_method_75_code
def yX5_lent : MethodName := ⟨RX5, "lent", "(II)I"⟩
abbrev cX5_pointedMark : ByteArray := prog_7_method_76_code
def yX5_pointedMark : MethodName := ⟨RX5, "pointedMark", "(I)I"⟩
abbrev cX5_idleSize : ByteArray := prog_7_method_77_code
def yX5_idleSize : MethodName := ⟨RX5, "idleSize", "(I)I"⟩
abbrev cX5_sizeOfIdle : ByteArray := prog_7_method_78_code
def yX5_sizeOfIdle : MethodName := ⟨RX5, "sizeOfIdle", "(I)I"⟩
abbrev cX5_markOf : ByteArray := prog_7_method_79_code
def yX5_markOf : MethodName := ⟨RX5, "markOf", "(I)I"⟩
abbrev cX5_pointedSize : ByteArray := prog_7_method_80_code
def yX5_pointedSize : MethodName := ⟨RX5, "pointedSize", "(I)I"⟩
abbrev cX5_sizeOf : ByteArray := prog_7_method_81_code
def yX5_sizeOf : MethodName := ⟨RX5, "sizeOf", "(I)I"⟩
abbrev cX5_ask : ByteArray := prog_7_method_82_code
def yX5_ask : MethodName := ⟨RX5, "ask", "(II)I"⟩
abbrev cX5_trace : ByteArray := prog_7_method_83_code
def yX5_trace : MethodName := ⟨RX5, "trace", "(I)I"⟩
abbrev cX5_count : ByteArray := prog_7_method_84_code
def yX5_count : MethodName := ⟨RX5, "count", "(I)I"⟩
abbrev cX5_status : ByteArray := prog_7_method_85_code
def yX5_status : MethodName := ⟨RX5, "status", "()I"⟩
def RJ6 : String := "java/lang/Integer"
abbrev cJ6_bitCount_0f7a4 : ByteArray := prog_8_method_49_code
def yJ6_bitCount_0f7a4 : MethodName := ⟨RJ6, "bitCount", "(I)I"⟩
def RJ9 : String := "java/lang/Math"
abbrev cJ9_max_7cf53 : ByteArray := prog_9_method_65_code
def yJ9_max_7cf53 : MethodName := ⟨RJ9, "max", "(II)I"⟩
abbrev cJ9_max_f86c9 : ByteArray := prog_9_method_66_code
def yJ9_max_f86c9 : MethodName := ⟨RJ9, "max", "(JJ)J"⟩
abbrev cJ9_min_7cf53 : ByteArray := prog_9_method_69_code
def yJ9_min_7cf53 : MethodName := ⟨RJ9, "min", "(II)I"⟩
def RJ10 : String := "java/lang/System"
def RL : String := "LeftAloneLaw"
abbrev cL_law : ByteArray := code
def yL_law : MethodName := ⟨RL, "law", "([I)Z"⟩
abbrev vwCl : List vw_C := [(RX0, TX0, 3), (RX1, TX1, 8), (RX2, TX2, 4), (RX3, TX3, 15), (RX4, TX4, 10), (RX5, TX5, 25)]
end
section
theorem dX0_init_0 : decode cX0_init 0 = .ok (.aload_n 0, 1) := by decide +kernel
theorem dX0_init_1 : decode cX0_init 1 = .ok (.invokespecial 3, 3) := by decide +kernel
theorem dX0_init_4 : decode cX0_init 4 = .ok (.aload_n 0, 1) := by decide +kernel
theorem dX0_init_5 : decode cX0_init 5 = .ok (.bipush 24, 2) := by decide +kernel
theorem dX0_init_7 : decode cX0_init 7 = .ok (.anewarray 9, 3) := by decide +kernel
theorem dX0_init_10 : decode cX0_init 10 = .ok (.putfield 11, 3) := by decide +kernel
theorem dX0_init_13 : decode cX0_init 13 = .ok (.iconst 0, 1) := by decide +kernel
theorem dX0_init_14 : decode cX0_init 14 = .ok (.istore_n 1, 1) := by decide +kernel
theorem dX0_init_15 : decode cX0_init 15 = .ok (.iload_n 1, 1) := by decide +kernel
theorem dX0_init_16 : decode cX0_init 16 = .ok (.bipush 24, 2) := by decide +kernel
theorem dX0_init_18 : decode cX0_init 18 = .ok (.if_icmp .ge 22, 3) := by decide +kernel
theorem dX0_init_21 : decode cX0_init 21 = .ok (.aload_n 0, 1) := by decide +kernel
theorem dX0_init_22 : decode cX0_init 22 = .ok (.getfield 11, 3) := by decide +kernel
theorem dX0_init_25 : decode cX0_init 25 = .ok (.iload_n 1, 1) := by decide +kernel
theorem dX0_init_26 : decode cX0_init 26 = .ok (.new 9, 3) := by decide +kernel
theorem dX0_init_29 : decode cX0_init 29 = .ok (.dup, 1) := by decide +kernel
theorem dX0_init_30 : decode cX0_init 30 = .ok (.invokespecial 17, 3) := by decide +kernel
theorem dX0_init_33 : decode cX0_init 33 = .ok (.aastore, 1) := by decide +kernel
theorem dX0_init_34 : decode cX0_init 34 = .ok (.iinc 1 1, 3) := by decide +kernel
theorem dX0_init_37 : decode cX0_init 37 = .ok (.goto (-22), 3) := by decide +kernel
theorem dX0_init_40 : decode cX0_init 40 = .ok (.return_, 1) := by decide +kernel
theorem dX0_forget_0 : decode cX0_forget 0 = .ok (.aload_n 0, 1) := by decide +kernel
theorem dX0_forget_1 : decode cX0_forget 1 = .ok (.iconst 0, 1) := by decide +kernel
theorem dX0_forget_2 : decode cX0_forget 2 = .ok (.putfield 18, 3) := by decide +kernel
theorem dX0_forget_5 : decode cX0_forget 5 = .ok (.return_, 1) := by decide +kernel
theorem dX0_keep_0 : decode cX0_keep 0 = .ok (.aload_n 0, 1) := by decide +kernel
theorem dX0_keep_1 : decode cX0_keep 1 = .ok (.getfield 11, 3) := by decide +kernel
theorem dX0_keep_4 : decode cX0_keep 4 = .ok (.aload_n 0, 1) := by decide +kernel
theorem dX0_keep_5 : decode cX0_keep 5 = .ok (.getfield 22, 3) := by decide +kernel
theorem dX0_keep_8 : decode cX0_keep 8 = .ok (.aload_n 0, 1) := by decide +kernel
theorem dX0_keep_9 : decode cX0_keep 9 = .ok (.getfield 18, 3) := by decide +kernel
theorem dX0_keep_12 : decode cX0_keep 12 = .ok (.iadd, 1) := by decide +kernel
theorem dX0_keep_13 : decode cX0_keep 13 = .ok (.bipush 24, 2) := by decide +kernel
theorem dX0_keep_15 : decode cX0_keep 15 = .ok (.irem, 1) := by decide +kernel
theorem dX0_keep_16 : decode cX0_keep 16 = .ok (.aaload, 1) := by decide +kernel
theorem dX0_keep_17 : decode cX0_keep 17 = .ok (.aload_n 1, 1) := by decide +kernel
theorem dX0_keep_18 : decode cX0_keep 18 = .ok (.invokevirtual 25, 3) := by decide +kernel
theorem dX0_keep_21 : decode cX0_keep 21 = .ok (.aload_n 0, 1) := by decide +kernel
theorem dX0_keep_22 : decode cX0_keep 22 = .ok (.getfield 18, 3) := by decide +kernel
theorem dX0_keep_25 : decode cX0_keep 25 = .ok (.bipush 24, 2) := by decide +kernel
theorem dX0_keep_27 : decode cX0_keep 27 = .ok (.if_icmp .ge 16, 3) := by decide +kernel
theorem dX0_keep_30 : decode cX0_keep 30 = .ok (.aload_n 0, 1) := by decide +kernel
theorem dX0_keep_31 : decode cX0_keep 31 = .ok (.dup, 1) := by decide +kernel
theorem dX0_keep_32 : decode cX0_keep 32 = .ok (.getfield 18, 3) := by decide +kernel
theorem dX0_keep_35 : decode cX0_keep 35 = .ok (.iconst 1, 1) := by decide +kernel
theorem dX0_keep_36 : decode cX0_keep 36 = .ok (.iadd, 1) := by decide +kernel
theorem dX0_keep_37 : decode cX0_keep 37 = .ok (.putfield 18, 3) := by decide +kernel
theorem dX0_keep_40 : decode cX0_keep 40 = .ok (.goto 16, 3) := by decide +kernel
theorem dX0_keep_43 : decode cX0_keep 43 = .ok (.aload_n 0, 1) := by decide +kernel
theorem dX0_keep_44 : decode cX0_keep 44 = .ok (.aload_n 0, 1) := by decide +kernel
theorem dX0_keep_45 : decode cX0_keep 45 = .ok (.getfield 22, 3) := by decide +kernel
theorem dX0_keep_48 : decode cX0_keep 48 = .ok (.iconst 1, 1) := by decide +kernel
theorem dX0_keep_49 : decode cX0_keep 49 = .ok (.iadd, 1) := by decide +kernel
theorem dX0_keep_50 : decode cX0_keep 50 = .ok (.bipush 24, 2) := by decide +kernel
theorem dX0_keep_52 : decode cX0_keep 52 = .ok (.irem, 1) := by decide +kernel
theorem dX0_keep_53 : decode cX0_keep 53 = .ok (.putfield 22, 3) := by decide +kernel
theorem dX0_keep_56 : decode cX0_keep 56 = .ok (.return_, 1) := by decide +kernel
theorem dX0_takeBack_0 : decode cX0_takeBack 0 = .ok (.aload_n 0, 1) := by decide +kernel
theorem dX0_takeBack_1 : decode cX0_takeBack 1 = .ok (.getfield 18, 3) := by decide +kernel
theorem dX0_takeBack_4 : decode cX0_takeBack 4 = .ok (.ifCond .ne 5, 3) := by decide +kernel
theorem dX0_takeBack_7 : decode cX0_takeBack 7 = .ok (.iconst 0, 1) := by decide +kernel
theorem dX0_takeBack_8 : decode cX0_takeBack 8 = .ok (.ireturn, 1) := by decide +kernel
theorem dX0_takeBack_9 : decode cX0_takeBack 9 = .ok (.aload_n 0, 1) := by decide +kernel
theorem dX0_takeBack_10 : decode cX0_takeBack 10 = .ok (.dup, 1) := by decide +kernel
theorem dX0_takeBack_11 : decode cX0_takeBack 11 = .ok (.getfield 18, 3) := by decide +kernel
theorem dX0_takeBack_14 : decode cX0_takeBack 14 = .ok (.iconst 1, 1) := by decide +kernel
theorem dX0_takeBack_15 : decode cX0_takeBack 15 = .ok (.isub, 1) := by decide +kernel
theorem dX0_takeBack_16 : decode cX0_takeBack 16 = .ok (.putfield 18, 3) := by decide +kernel
theorem dX0_takeBack_19 : decode cX0_takeBack 19 = .ok (.aload_n 1, 1) := by decide +kernel
theorem dX0_takeBack_20 : decode cX0_takeBack 20 = .ok (.aload_n 0, 1) := by decide +kernel
theorem dX0_takeBack_21 : decode cX0_takeBack 21 = .ok (.getfield 11, 3) := by decide +kernel
theorem dX0_takeBack_24 : decode cX0_takeBack 24 = .ok (.aload_n 0, 1) := by decide +kernel
theorem dX0_takeBack_25 : decode cX0_takeBack 25 = .ok (.getfield 22, 3) := by decide +kernel
theorem dX0_takeBack_28 : decode cX0_takeBack 28 = .ok (.aload_n 0, 1) := by decide +kernel
theorem dX0_takeBack_29 : decode cX0_takeBack 29 = .ok (.getfield 18, 3) := by decide +kernel
theorem dX0_takeBack_32 : decode cX0_takeBack 32 = .ok (.iadd, 1) := by decide +kernel
theorem dX0_takeBack_33 : decode cX0_takeBack 33 = .ok (.bipush 24, 2) := by decide +kernel
theorem dX0_takeBack_35 : decode cX0_takeBack 35 = .ok (.irem, 1) := by decide +kernel
theorem dX0_takeBack_36 : decode cX0_takeBack 36 = .ok (.aaload, 1) := by decide +kernel
theorem dX0_takeBack_37 : decode cX0_takeBack 37 = .ok (.invokevirtual 25, 3) := by decide +kernel
theorem dX0_takeBack_40 : decode cX0_takeBack 40 = .ok (.iconst 1, 1) := by decide +kernel
theorem dX0_takeBack_41 : decode cX0_takeBack 41 = .ok (.ireturn, 1) := by decide +kernel
theorem dX1_init_0 : decode cX1_init 0 = .ok (.aload_n 0, 1) := by decide +kernel
theorem dX1_init_1 : decode cX1_init 1 = .ok (.invokespecial 3, 3) := by decide +kernel
theorem dX1_init_4 : decode cX1_init 4 = .ok (.aload_n 0, 1) := by decide +kernel
theorem dX1_init_5 : decode cX1_init 5 = .ok (.bipush 120, 2) := by decide +kernel
theorem dX1_init_7 : decode cX1_init 7 = .ok (.newarray .int, 2) := by decide +kernel
theorem dX1_init_9 : decode cX1_init 9 = .ok (.putfield 9, 3) := by decide +kernel
theorem dX1_init_12 : decode cX1_init 12 = .ok (.return_, 1) := by decide +kernel
theorem dX1_add_0 : decode cX1_add 0 = .ok (.aload_n 0, 1) := by decide +kernel
theorem dX1_add_1 : decode cX1_add 1 = .ok (.getfield 15, 3) := by decide +kernel
theorem dX1_add_4 : decode cX1_add 4 = .ok (.bipush 120, 2) := by decide +kernel
theorem dX1_add_6 : decode cX1_add 6 = .ok (.if_icmp .lt 5, 3) := by decide +kernel
theorem dX1_add_9 : decode cX1_add 9 = .ok (.iconst 0, 1) := by decide +kernel
theorem dX1_add_10 : decode cX1_add 10 = .ok (.ireturn, 1) := by decide +kernel
theorem dX1_add_11 : decode cX1_add 11 = .ok (.aload_n 0, 1) := by decide +kernel
theorem dX1_add_12 : decode cX1_add 12 = .ok (.getfield 9, 3) := by decide +kernel
theorem dX1_add_15 : decode cX1_add 15 = .ok (.aload_n 0, 1) := by decide +kernel
theorem dX1_add_16 : decode cX1_add 16 = .ok (.getfield 15, 3) := by decide +kernel
theorem dX1_add_19 : decode cX1_add 19 = .ok (.iload_n 1, 1) := by decide +kernel
theorem dX1_add_20 : decode cX1_add 20 = .ok (.iastore, 1) := by decide +kernel
theorem dX1_add_21 : decode cX1_add 21 = .ok (.aload_n 0, 1) := by decide +kernel
theorem dX1_add_22 : decode cX1_add 22 = .ok (.dup, 1) := by decide +kernel
theorem dX1_add_23 : decode cX1_add 23 = .ok (.getfield 15, 3) := by decide +kernel
theorem dX1_add_26 : decode cX1_add 26 = .ok (.iconst 1, 1) := by decide +kernel
theorem dX1_add_27 : decode cX1_add 27 = .ok (.iadd, 1) := by decide +kernel
theorem dX1_add_28 : decode cX1_add 28 = .ok (.putfield 15, 3) := by decide +kernel
theorem dX1_add_31 : decode cX1_add 31 = .ok (.iconst 1, 1) := by decide +kernel
theorem dX1_add_32 : decode cX1_add 32 = .ok (.ireturn, 1) := by decide +kernel
theorem dX1_read_0 : decode cX1_read 0 = .ok (.aload_n 1, 1) := by decide +kernel
theorem dX1_read_1 : decode cX1_read 1 = .ok (.invokevirtual 19, 3) := by decide +kernel
theorem dX1_read_4 : decode cX1_read 4 = .ok (.aload_n 0, 1) := by decide +kernel
theorem dX1_read_5 : decode cX1_read 5 = .ok (.iconst 0, 1) := by decide +kernel
theorem dX1_read_6 : decode cX1_read 6 = .ok (.putfield 24, 3) := by decide +kernel
theorem dX1_read_9 : decode cX1_read 9 = .ok (.aload_n 0, 1) := by decide +kernel
theorem dX1_read_10 : decode cX1_read 10 = .ok (.invokevirtual 27, 3) := by decide +kernel
theorem dX1_read_13 : decode cX1_read 13 = .ok (.aload_n 0, 1) := by decide +kernel
theorem dX1_read_14 : decode cX1_read 14 = .ok (.aload_n 1, 1) := by decide +kernel
theorem dX1_read_15 : decode cX1_read 15 = .ok (.invokevirtual 30, 3) := by decide +kernel
theorem dX1_read_18 : decode cX1_read 18 = .ok (.ifCond .eq 23, 3) := by decide +kernel
theorem dX1_read_21 : decode cX1_read 21 = .ok (.aload_n 0, 1) := by decide +kernel
theorem dX1_read_22 : decode cX1_read 22 = .ok (.aload_n 1, 1) := by decide +kernel
theorem dX1_read_23 : decode cX1_read 23 = .ok (.invokevirtual 34, 3) := by decide +kernel
theorem dX1_read_26 : decode cX1_read 26 = .ok (.ifCond .eq 15, 3) := by decide +kernel
theorem dX1_read_29 : decode cX1_read 29 = .ok (.aload_n 0, 1) := by decide +kernel
theorem dX1_read_30 : decode cX1_read 30 = .ok (.aload_n 1, 1) := by decide +kernel
theorem dX1_read_31 : decode cX1_read 31 = .ok (.invokevirtual 37, 3) := by decide +kernel
theorem dX1_read_34 : decode cX1_read 34 = .ok (.ifCond .eq 7, 3) := by decide +kernel
theorem dX1_read_37 : decode cX1_read 37 = .ok (.iconst 1, 1) := by decide +kernel
theorem dX1_read_38 : decode cX1_read 38 = .ok (.goto 4, 3) := by decide +kernel
theorem dX1_read_41 : decode cX1_read 41 = .ok (.iconst 0, 1) := by decide +kernel
theorem dX1_read_42 : decode cX1_read 42 = .ok (.istore_n 2, 1) := by decide +kernel
theorem dX1_read_43 : decode cX1_read 43 = .ok (.aload_n 0, 1) := by decide +kernel
theorem dX1_read_44 : decode cX1_read 44 = .ok (.iconst 0, 1) := by decide +kernel
theorem dX1_read_45 : decode cX1_read 45 = .ok (.putfield 15, 3) := by decide +kernel
theorem dX1_read_48 : decode cX1_read 48 = .ok (.iload_n 2, 1) := by decide +kernel
theorem dX1_read_49 : decode cX1_read 49 = .ok (.ireturn, 1) := by decide +kernel
theorem dX1_readLaw_0 : decode cX1_readLaw 0 = .ok (.aload_n 0, 1) := by decide +kernel
theorem dX1_readLaw_1 : decode cX1_readLaw 1 = .ok (.bipush 100, 2) := by decide +kernel
theorem dX1_readLaw_3 : decode cX1_readLaw 3 = .ok (.invokevirtual 40, 3) := by decide +kernel
theorem dX1_readLaw_6 : decode cX1_readLaw 6 = .ok (.ifCond .ne 5, 3) := by decide +kernel
theorem dX1_readLaw_9 : decode cX1_readLaw 9 = .ok (.iconst 0, 1) := by decide +kernel
theorem dX1_readLaw_10 : decode cX1_readLaw 10 = .ok (.ireturn, 1) := by decide +kernel
theorem dX1_readLaw_11 : decode cX1_readLaw 11 = .ok (.aload_n 1, 1) := by decide +kernel
theorem dX1_readLaw_12 : decode cX1_readLaw 12 = .ok (.aload_n 0, 1) := by decide +kernel
theorem dX1_readLaw_13 : decode cX1_readLaw 13 = .ok (.iconst 1, 1) := by decide +kernel
theorem dX1_readLaw_14 : decode cX1_readLaw 14 = .ok (.bipush 9, 2) := by decide +kernel
theorem dX1_readLaw_16 : decode cX1_readLaw 16 = .ok (.invokevirtual 44, 3) := by decide +kernel
theorem dX1_readLaw_19 : decode cX1_readLaw 19 = .ok (.putfield 48, 3) := by decide +kernel
theorem dX1_readLaw_22 : decode cX1_readLaw 22 = .ok (.aload_n 1, 1) := by decide +kernel
theorem dX1_readLaw_23 : decode cX1_readLaw 23 = .ok (.getfield 48, 3) := by decide +kernel
theorem dX1_readLaw_26 : decode cX1_readLaw 26 = .ok (.ifCond .lt 12, 3) := by decide +kernel
theorem dX1_readLaw_29 : decode cX1_readLaw 29 = .ok (.aload_n 0, 1) := by decide +kernel
theorem dX1_readLaw_30 : decode cX1_readLaw 30 = .ok (.bipush 44, 2) := by decide +kernel
theorem dX1_readLaw_32 : decode cX1_readLaw 32 = .ok (.invokevirtual 40, 3) := by decide +kernel
theorem dX1_readLaw_35 : decode cX1_readLaw 35 = .ok (.ifCond .ne 5, 3) := by decide +kernel
theorem dX1_readLaw_38 : decode cX1_readLaw 38 = .ok (.iconst 0, 1) := by decide +kernel
theorem dX1_readLaw_39 : decode cX1_readLaw 39 = .ok (.ireturn, 1) := by decide +kernel
theorem dX1_readLaw_40 : decode cX1_readLaw 40 = .ok (.aload_n 1, 1) := by decide +kernel
theorem dX1_readLaw_41 : decode cX1_readLaw 41 = .ok (.aload_n 0, 1) := by decide +kernel
theorem dX1_readLaw_42 : decode cX1_readLaw 42 = .ok (.iconst 0, 1) := by decide +kernel
theorem dX1_readLaw_43 : decode cX1_readLaw 43 = .ok (.bipush 9, 2) := by decide +kernel
theorem dX1_readLaw_45 : decode cX1_readLaw 45 = .ok (.invokevirtual 44, 3) := by decide +kernel
theorem dX1_readLaw_48 : decode cX1_readLaw 48 = .ok (.putfield 51, 3) := by decide +kernel
theorem dX1_readLaw_51 : decode cX1_readLaw 51 = .ok (.aload_n 1, 1) := by decide +kernel
theorem dX1_readLaw_52 : decode cX1_readLaw 52 = .ok (.getfield 51, 3) := by decide +kernel
theorem dX1_readLaw_55 : decode cX1_readLaw 55 = .ok (.ifCond .lt 16, 3) := by decide +kernel
theorem dX1_readLaw_58 : decode cX1_readLaw 58 = .ok (.aload_n 0, 1) := by decide +kernel
theorem dX1_readLaw_59 : decode cX1_readLaw 59 = .ok (.bipush 59, 2) := by decide +kernel
theorem dX1_readLaw_61 : decode cX1_readLaw 61 = .ok (.invokevirtual 40, 3) := by decide +kernel
theorem dX1_readLaw_64 : decode cX1_readLaw 64 = .ok (.ifCond .eq 7, 3) := by decide +kernel
theorem dX1_readLaw_67 : decode cX1_readLaw 67 = .ok (.iconst 1, 1) := by decide +kernel
theorem dX1_readLaw_68 : decode cX1_readLaw 68 = .ok (.goto 4, 3) := by decide +kernel
theorem dX1_readLaw_71 : decode cX1_readLaw 71 = .ok (.iconst 0, 1) := by decide +kernel
theorem dX1_readLaw_72 : decode cX1_readLaw 72 = .ok (.ireturn, 1) := by decide +kernel
theorem dX1_readMen_0 : decode cX1_readMen 0 = .ok (.iconst 0, 1) := by decide +kernel
theorem dX1_readMen_1 : decode cX1_readMen 1 = .ok (.istore_n 2, 1) := by decide +kernel
theorem dX1_readMen_2 : decode cX1_readMen 2 = .ok (.iload_n 2, 1) := by decide +kernel
theorem dX1_readMen_3 : decode cX1_readMen 3 = .ok (.iconst 5, 1) := by decide +kernel
theorem dX1_readMen_4 : decode cX1_readMen 4 = .ok (.if_icmp .gt 56, 3) := by decide +kernel
theorem dX1_readMen_7 : decode cX1_readMen 7 = .ok (.iload_n 2, 1) := by decide +kernel
theorem dX1_readMen_8 : decode cX1_readMen 8 = .ok (.ifCond .le 14, 3) := by decide +kernel
theorem dX1_readMen_11 : decode cX1_readMen 11 = .ok (.aload_n 0, 1) := by decide +kernel
theorem dX1_readMen_12 : decode cX1_readMen 12 = .ok (.getfield 54, 3) := by decide +kernel
theorem dX1_readMen_15 : decode cX1_readMen 15 = .ok (.bipush 109, 2) := by decide +kernel
theorem dX1_readMen_17 : decode cX1_readMen 17 = .ok (.if_icmp .eq 5, 3) := by decide +kernel
theorem dX1_readMen_20 : decode cX1_readMen 20 = .ok (.iconst 1, 1) := by decide +kernel
theorem dX1_readMen_21 : decode cX1_readMen 21 = .ok (.ireturn, 1) := by decide +kernel
theorem dX1_readMen_22 : decode cX1_readMen 22 = .ok (.iload_n 2, 1) := by decide +kernel
theorem dX1_readMen_23 : decode cX1_readMen 23 = .ok (.iconst 5, 1) := by decide +kernel
theorem dX1_readMen_24 : decode cX1_readMen 24 = .ok (.if_icmp .ne 9, 3) := by decide +kernel
theorem dX1_readMen_27 : decode cX1_readMen 27 = .ok (.aload_n 0, 1) := by decide +kernel
theorem dX1_readMen_28 : decode cX1_readMen 28 = .ok (.iconst 3, 1) := by decide +kernel
theorem dX1_readMen_29 : decode cX1_readMen 29 = .ok (.invokevirtual 57, 3) := by decide +kernel
theorem dX1_readMen_32 : decode cX1_readMen 32 = .ok (.ireturn, 1) := by decide +kernel
theorem dX1_readMen_33 : decode cX1_readMen 33 = .ok (.aload_n 0, 1) := by decide +kernel
theorem dX1_readMen_34 : decode cX1_readMen 34 = .ok (.aload_n 1, 1) := by decide +kernel
theorem dX1_readMen_35 : decode cX1_readMen 35 = .ok (.iload_n 2, 1) := by decide +kernel
theorem dX1_readMen_36 : decode cX1_readMen 36 = .ok (.invokevirtual 60, 3) := by decide +kernel
theorem dX1_readMen_39 : decode cX1_readMen 39 = .ok (.ifCond .ne 5, 3) := by decide +kernel
theorem dX1_readMen_42 : decode cX1_readMen 42 = .ok (.iconst 0, 1) := by decide +kernel
theorem dX1_readMen_43 : decode cX1_readMen 43 = .ok (.ireturn, 1) := by decide +kernel
theorem dX1_readMen_44 : decode cX1_readMen 44 = .ok (.aload_n 1, 1) := by decide +kernel
theorem dX1_readMen_45 : decode cX1_readMen 45 = .ok (.dup, 1) := by decide +kernel
theorem dX1_readMen_46 : decode cX1_readMen 46 = .ok (.getfield 64, 3) := by decide +kernel
theorem dX1_readMen_49 : decode cX1_readMen 49 = .ok (.iconst 1, 1) := by decide +kernel
theorem dX1_readMen_50 : decode cX1_readMen 50 = .ok (.iadd, 1) := by decide +kernel
theorem dX1_readMen_51 : decode cX1_readMen 51 = .ok (.putfield 64, 3) := by decide +kernel
theorem dX1_readMen_54 : decode cX1_readMen 54 = .ok (.iinc 2 1, 3) := by decide +kernel
theorem dX1_readMen_57 : decode cX1_readMen 57 = .ok (.goto (-55), 3) := by decide +kernel
theorem dX1_readMen_60 : decode cX1_readMen 60 = .ok (.iconst 0, 1) := by decide +kernel
theorem dX1_readMen_61 : decode cX1_readMen 61 = .ok (.ireturn, 1) := by decide +kernel
theorem dX1_readMan_0 : decode cX1_readMan 0 = .ok (.aload_n 0, 1) := by decide +kernel
theorem dX1_readMan_1 : decode cX1_readMan 1 = .ok (.bipush 109, 2) := by decide +kernel
theorem dX1_readMan_3 : decode cX1_readMan 3 = .ok (.invokevirtual 40, 3) := by decide +kernel
theorem dX1_readMan_6 : decode cX1_readMan 6 = .ok (.ifCond .ne 5, 3) := by decide +kernel
theorem dX1_readMan_9 : decode cX1_readMan 9 = .ok (.iconst 0, 1) := by decide +kernel
theorem dX1_readMan_10 : decode cX1_readMan 10 = .ok (.ireturn, 1) := by decide +kernel
theorem dX1_readMan_11 : decode cX1_readMan 11 = .ok (.aload_n 1, 1) := by decide +kernel
theorem dX1_readMan_12 : decode cX1_readMan 12 = .ok (.getfield 67, 3) := by decide +kernel
theorem dX1_readMan_15 : decode cX1_readMan 15 = .ok (.iload_n 2, 1) := by decide +kernel
theorem dX1_readMan_16 : decode cX1_readMan 16 = .ok (.aload_n 0, 1) := by decide +kernel
theorem dX1_readMan_17 : decode cX1_readMan 17 = .ok (.iconst 0, 1) := by decide +kernel
theorem dX1_readMan_18 : decode cX1_readMan 18 = .ok (.bipush 60, 2) := by decide +kernel
theorem dX1_readMan_20 : decode cX1_readMan 20 = .ok (.invokevirtual 44, 3) := by decide +kernel
theorem dX1_readMan_23 : decode cX1_readMan 23 = .ok (.iastore, 1) := by decide +kernel
theorem dX1_readMan_24 : decode cX1_readMan 24 = .ok (.aload_n 1, 1) := by decide +kernel
theorem dX1_readMan_25 : decode cX1_readMan 25 = .ok (.getfield 67, 3) := by decide +kernel
theorem dX1_readMan_28 : decode cX1_readMan 28 = .ok (.iload_n 2, 1) := by decide +kernel
theorem dX1_readMan_29 : decode cX1_readMan 29 = .ok (.iaload, 1) := by decide +kernel
theorem dX1_readMan_30 : decode cX1_readMan 30 = .ok (.ifCond .lt 12, 3) := by decide +kernel
theorem dX1_readMan_33 : decode cX1_readMan 33 = .ok (.aload_n 0, 1) := by decide +kernel
theorem dX1_readMan_34 : decode cX1_readMan 34 = .ok (.bipush 44, 2) := by decide +kernel
theorem dX1_readMan_36 : decode cX1_readMan 36 = .ok (.invokevirtual 40, 3) := by decide +kernel
theorem dX1_readMan_39 : decode cX1_readMan 39 = .ok (.ifCond .ne 5, 3) := by decide +kernel
theorem dX1_readMan_42 : decode cX1_readMan 42 = .ok (.iconst 0, 1) := by decide +kernel
theorem dX1_readMan_43 : decode cX1_readMan 43 = .ok (.ireturn, 1) := by decide +kernel
theorem dX1_readMan_44 : decode cX1_readMan 44 = .ok (.aload_n 1, 1) := by decide +kernel
theorem dX1_readMan_45 : decode cX1_readMan 45 = .ok (.getfield 70, 3) := by decide +kernel
theorem dX1_readMan_48 : decode cX1_readMan 48 = .ok (.iload_n 2, 1) := by decide +kernel
theorem dX1_readMan_49 : decode cX1_readMan 49 = .ok (.aload_n 0, 1) := by decide +kernel
theorem dX1_readMan_50 : decode cX1_readMan 50 = .ok (.iconst 0, 1) := by decide +kernel
theorem dX1_readMan_51 : decode cX1_readMan 51 = .ok (.bipush 9, 2) := by decide +kernel
theorem dX1_readMan_53 : decode cX1_readMan 53 = .ok (.invokevirtual 44, 3) := by decide +kernel
theorem dX1_readMan_56 : decode cX1_readMan 56 = .ok (.iastore, 1) := by decide +kernel
theorem dX1_readMan_57 : decode cX1_readMan 57 = .ok (.aload_n 1, 1) := by decide +kernel
theorem dX1_readMan_58 : decode cX1_readMan 58 = .ok (.getfield 70, 3) := by decide +kernel
theorem dX1_readMan_61 : decode cX1_readMan 61 = .ok (.iload_n 2, 1) := by decide +kernel
theorem dX1_readMan_62 : decode cX1_readMan 62 = .ok (.iaload, 1) := by decide +kernel
theorem dX1_readMan_63 : decode cX1_readMan 63 = .ok (.ifCond .lt 16, 3) := by decide +kernel
theorem dX1_readMan_66 : decode cX1_readMan 66 = .ok (.aload_n 0, 1) := by decide +kernel
theorem dX1_readMan_67 : decode cX1_readMan 67 = .ok (.bipush 59, 2) := by decide +kernel
theorem dX1_readMan_69 : decode cX1_readMan 69 = .ok (.invokevirtual 40, 3) := by decide +kernel
theorem dX1_readMan_72 : decode cX1_readMan 72 = .ok (.ifCond .eq 7, 3) := by decide +kernel
theorem dX1_readMan_75 : decode cX1_readMan 75 = .ok (.iconst 1, 1) := by decide +kernel
theorem dX1_readMan_76 : decode cX1_readMan 76 = .ok (.goto 4, 3) := by decide +kernel
theorem dX1_readMan_79 : decode cX1_readMan 79 = .ok (.iconst 0, 1) := by decide +kernel
theorem dX1_readMan_80 : decode cX1_readMan 80 = .ok (.ireturn, 1) := by decide +kernel
theorem dX1_readLeavers_0 : decode cX1_readLeavers 0 = .ok (.iconst 0, 1) := by decide +kernel
theorem dX1_readLeavers_1 : decode cX1_readLeavers 1 = .ok (.istore_n 2, 1) := by decide +kernel
theorem dX1_readLeavers_2 : decode cX1_readLeavers 2 = .ok (.iload_n 2, 1) := by decide +kernel
theorem dX1_readLeavers_3 : decode cX1_readLeavers 3 = .ok (.bipush 6, 2) := by decide +kernel
theorem dX1_readLeavers_5 : decode cX1_readLeavers 5 = .ok (.if_icmp .gt 72, 3) := by decide +kernel
theorem dX1_readLeavers_8 : decode cX1_readLeavers 8 = .ok (.iload_n 2, 1) := by decide +kernel
theorem dX1_readLeavers_9 : decode cX1_readLeavers 9 = .ok (.ifCond .le 13, 3) := by decide +kernel
theorem dX1_readLeavers_12 : decode cX1_readLeavers 12 = .ok (.aload_n 0, 1) := by decide +kernel
theorem dX1_readLeavers_13 : decode cX1_readLeavers 13 = .ok (.getfield 54, 3) := by decide +kernel
theorem dX1_readLeavers_16 : decode cX1_readLeavers 16 = .ok (.iconst (-1), 1) := by decide +kernel
theorem dX1_readLeavers_17 : decode cX1_readLeavers 17 = .ok (.if_icmp .ne 5, 3) := by decide +kernel
theorem dX1_readLeavers_20 : decode cX1_readLeavers 20 = .ok (.iconst 1, 1) := by decide +kernel
theorem dX1_readLeavers_21 : decode cX1_readLeavers 21 = .ok (.ireturn, 1) := by decide +kernel
theorem dX1_readLeavers_22 : decode cX1_readLeavers 22 = .ok (.aload_n 0, 1) := by decide +kernel
theorem dX1_readLeavers_23 : decode cX1_readLeavers 23 = .ok (.getfield 54, 3) := by decide +kernel
theorem dX1_readLeavers_26 : decode cX1_readLeavers 26 = .ok (.invokestatic 73, 3) := by decide +kernel
theorem dX1_readLeavers_29 : decode cX1_readLeavers 29 = .ok (.ifCond .ne 9, 3) := by decide +kernel
theorem dX1_readLeavers_32 : decode cX1_readLeavers 32 = .ok (.aload_n 0, 1) := by decide +kernel
theorem dX1_readLeavers_33 : decode cX1_readLeavers 33 = .ok (.iconst 1, 1) := by decide +kernel
theorem dX1_readLeavers_34 : decode cX1_readLeavers 34 = .ok (.invokevirtual 57, 3) := by decide +kernel
theorem dX1_readLeavers_37 : decode cX1_readLeavers 37 = .ok (.ireturn, 1) := by decide +kernel
theorem dX1_readLeavers_38 : decode cX1_readLeavers 38 = .ok (.iload_n 2, 1) := by decide +kernel
theorem dX1_readLeavers_39 : decode cX1_readLeavers 39 = .ok (.bipush 6, 2) := by decide +kernel
theorem dX1_readLeavers_41 : decode cX1_readLeavers 41 = .ok (.if_icmp .ne 9, 3) := by decide +kernel
theorem dX1_readLeavers_44 : decode cX1_readLeavers 44 = .ok (.aload_n 0, 1) := by decide +kernel
theorem dX1_readLeavers_45 : decode cX1_readLeavers 45 = .ok (.iconst 3, 1) := by decide +kernel
theorem dX1_readLeavers_46 : decode cX1_readLeavers 46 = .ok (.invokevirtual 57, 3) := by decide +kernel
theorem dX1_readLeavers_49 : decode cX1_readLeavers 49 = .ok (.ireturn, 1) := by decide +kernel
theorem dX1_readLeavers_50 : decode cX1_readLeavers 50 = .ok (.aload_n 0, 1) := by decide +kernel
theorem dX1_readLeavers_51 : decode cX1_readLeavers 51 = .ok (.aload_n 1, 1) := by decide +kernel
theorem dX1_readLeavers_52 : decode cX1_readLeavers 52 = .ok (.iload_n 2, 1) := by decide +kernel
theorem dX1_readLeavers_53 : decode cX1_readLeavers 53 = .ok (.invokevirtual 77, 3) := by decide +kernel
theorem dX1_readLeavers_56 : decode cX1_readLeavers 56 = .ok (.ifCond .ne 5, 3) := by decide +kernel
theorem dX1_readLeavers_59 : decode cX1_readLeavers 59 = .ok (.iconst 0, 1) := by decide +kernel
theorem dX1_readLeavers_60 : decode cX1_readLeavers 60 = .ok (.ireturn, 1) := by decide +kernel
theorem dX1_readLeavers_61 : decode cX1_readLeavers 61 = .ok (.aload_n 1, 1) := by decide +kernel
theorem dX1_readLeavers_62 : decode cX1_readLeavers 62 = .ok (.dup, 1) := by decide +kernel
theorem dX1_readLeavers_63 : decode cX1_readLeavers 63 = .ok (.getfield 80, 3) := by decide +kernel
theorem dX1_readLeavers_66 : decode cX1_readLeavers 66 = .ok (.iconst 1, 1) := by decide +kernel
theorem dX1_readLeavers_67 : decode cX1_readLeavers 67 = .ok (.iadd, 1) := by decide +kernel
theorem dX1_readLeavers_68 : decode cX1_readLeavers 68 = .ok (.putfield 80, 3) := by decide +kernel
theorem dX1_readLeavers_71 : decode cX1_readLeavers 71 = .ok (.iinc 2 1, 3) := by decide +kernel
theorem dX1_readLeavers_74 : decode cX1_readLeavers 74 = .ok (.goto (-72), 3) := by decide +kernel
theorem dX1_readLeavers_77 : decode cX1_readLeavers 77 = .ok (.iconst 0, 1) := by decide +kernel
theorem dX1_readLeavers_78 : decode cX1_readLeavers 78 = .ok (.ireturn, 1) := by decide +kernel
theorem dX1_readLeaver_0 : decode cX1_readLeaver 0 = .ok (.aload_n 1, 1) := by decide +kernel
theorem dX1_readLeaver_1 : decode cX1_readLeaver 1 = .ok (.getfield 83, 3) := by decide +kernel
theorem dX1_readLeaver_4 : decode cX1_readLeaver 4 = .ok (.iload_n 2, 1) := by decide +kernel
theorem dX1_readLeaver_5 : decode cX1_readLeaver 5 = .ok (.aload_n 0, 1) := by decide +kernel
theorem dX1_readLeaver_6 : decode cX1_readLeaver 6 = .ok (.getfield 54, 3) := by decide +kernel
theorem dX1_readLeaver_9 : decode cX1_readLeaver 9 = .ok (.invokestatic 73, 3) := by decide +kernel
theorem dX1_readLeaver_12 : decode cX1_readLeaver 12 = .ok (.iastore, 1) := by decide +kernel
theorem dX1_readLeaver_13 : decode cX1_readLeaver 13 = .ok (.aload_n 0, 1) := by decide +kernel
theorem dX1_readLeaver_14 : decode cX1_readLeaver 14 = .ok (.invokevirtual 27, 3) := by decide +kernel
theorem dX1_readLeaver_17 : decode cX1_readLeaver 17 = .ok (.aload_n 1, 1) := by decide +kernel
theorem dX1_readLeaver_18 : decode cX1_readLeaver 18 = .ok (.getfield 86, 3) := by decide +kernel
theorem dX1_readLeaver_21 : decode cX1_readLeaver 21 = .ok (.iload_n 2, 1) := by decide +kernel
theorem dX1_readLeaver_22 : decode cX1_readLeaver 22 = .ok (.aload_n 0, 1) := by decide +kernel
theorem dX1_readLeaver_23 : decode cX1_readLeaver 23 = .ok (.iconst 0, 1) := by decide +kernel
theorem dX1_readLeaver_24 : decode cX1_readLeaver 24 = .ok (.aload_n 1, 1) := by decide +kernel
theorem dX1_readLeaver_25 : decode cX1_readLeaver 25 = .ok (.getfield 64, 3) := by decide +kernel
theorem dX1_readLeaver_28 : decode cX1_readLeaver 28 = .ok (.iconst 1, 1) := by decide +kernel
theorem dX1_readLeaver_29 : decode cX1_readLeaver 29 = .ok (.isub, 1) := by decide +kernel
theorem dX1_readLeaver_30 : decode cX1_readLeaver 30 = .ok (.invokevirtual 44, 3) := by decide +kernel
theorem dX1_readLeaver_33 : decode cX1_readLeaver 33 = .ok (.iastore, 1) := by decide +kernel
theorem dX1_readLeaver_34 : decode cX1_readLeaver 34 = .ok (.aload_n 1, 1) := by decide +kernel
theorem dX1_readLeaver_35 : decode cX1_readLeaver 35 = .ok (.getfield 86, 3) := by decide +kernel
theorem dX1_readLeaver_38 : decode cX1_readLeaver 38 = .ok (.iload_n 2, 1) := by decide +kernel
theorem dX1_readLeaver_39 : decode cX1_readLeaver 39 = .ok (.iaload, 1) := by decide +kernel
theorem dX1_readLeaver_40 : decode cX1_readLeaver 40 = .ok (.ifCond .lt 12, 3) := by decide +kernel
theorem dX1_readLeaver_43 : decode cX1_readLeaver 43 = .ok (.aload_n 0, 1) := by decide +kernel
theorem dX1_readLeaver_44 : decode cX1_readLeaver 44 = .ok (.bipush 44, 2) := by decide +kernel
theorem dX1_readLeaver_46 : decode cX1_readLeaver 46 = .ok (.invokevirtual 40, 3) := by decide +kernel
theorem dX1_readLeaver_49 : decode cX1_readLeaver 49 = .ok (.ifCond .ne 5, 3) := by decide +kernel
theorem dX1_readLeaver_52 : decode cX1_readLeaver 52 = .ok (.iconst 0, 1) := by decide +kernel
theorem dX1_readLeaver_53 : decode cX1_readLeaver 53 = .ok (.ireturn, 1) := by decide +kernel
theorem dX1_readLeaver_54 : decode cX1_readLeaver 54 = .ok (.aload_n 1, 1) := by decide +kernel
theorem dX1_readLeaver_55 : decode cX1_readLeaver 55 = .ok (.getfield 89, 3) := by decide +kernel
theorem dX1_readLeaver_58 : decode cX1_readLeaver 58 = .ok (.iload_n 2, 1) := by decide +kernel
theorem dX1_readLeaver_59 : decode cX1_readLeaver 59 = .ok (.aload_n 0, 1) := by decide +kernel
theorem dX1_readLeaver_60 : decode cX1_readLeaver 60 = .ok (.iconst 1, 1) := by decide +kernel
theorem dX1_readLeaver_61 : decode cX1_readLeaver 61 = .ok (.bipush 9, 2) := by decide +kernel
theorem dX1_readLeaver_63 : decode cX1_readLeaver 63 = .ok (.invokevirtual 44, 3) := by decide +kernel
theorem dX1_readLeaver_66 : decode cX1_readLeaver 66 = .ok (.iastore, 1) := by decide +kernel
theorem dX1_readLeaver_67 : decode cX1_readLeaver 67 = .ok (.aload_n 1, 1) := by decide +kernel
theorem dX1_readLeaver_68 : decode cX1_readLeaver 68 = .ok (.getfield 89, 3) := by decide +kernel
theorem dX1_readLeaver_71 : decode cX1_readLeaver 71 = .ok (.iload_n 2, 1) := by decide +kernel
theorem dX1_readLeaver_72 : decode cX1_readLeaver 72 = .ok (.iaload, 1) := by decide +kernel
theorem dX1_readLeaver_73 : decode cX1_readLeaver 73 = .ok (.ifCond .lt 12, 3) := by decide +kernel
theorem dX1_readLeaver_76 : decode cX1_readLeaver 76 = .ok (.aload_n 0, 1) := by decide +kernel
theorem dX1_readLeaver_77 : decode cX1_readLeaver 77 = .ok (.bipush 44, 2) := by decide +kernel
theorem dX1_readLeaver_79 : decode cX1_readLeaver 79 = .ok (.invokevirtual 40, 3) := by decide +kernel
theorem dX1_readLeaver_82 : decode cX1_readLeaver 82 = .ok (.ifCond .ne 5, 3) := by decide +kernel
theorem dX1_readLeaver_85 : decode cX1_readLeaver 85 = .ok (.iconst 0, 1) := by decide +kernel
theorem dX1_readLeaver_86 : decode cX1_readLeaver 86 = .ok (.ireturn, 1) := by decide +kernel
theorem dX1_readLeaver_87 : decode cX1_readLeaver 87 = .ok (.aload_n 1, 1) := by decide +kernel
theorem dX1_readLeaver_88 : decode cX1_readLeaver 88 = .ok (.getfield 92, 3) := by decide +kernel
theorem dX1_readLeaver_91 : decode cX1_readLeaver 91 = .ok (.iload_n 2, 1) := by decide +kernel
theorem dX1_readLeaver_92 : decode cX1_readLeaver 92 = .ok (.aload_n 0, 1) := by decide +kernel
theorem dX1_readLeaver_93 : decode cX1_readLeaver 93 = .ok (.iconst 0, 1) := by decide +kernel
theorem dX1_readLeaver_94 : decode cX1_readLeaver 94 = .ok (.iconst 4, 1) := by decide +kernel
theorem dX1_readLeaver_95 : decode cX1_readLeaver 95 = .ok (.invokevirtual 44, 3) := by decide +kernel
theorem dX1_readLeaver_98 : decode cX1_readLeaver 98 = .ok (.iastore, 1) := by decide +kernel
theorem dX1_readLeaver_99 : decode cX1_readLeaver 99 = .ok (.aload_n 1, 1) := by decide +kernel
theorem dX1_readLeaver_100 : decode cX1_readLeaver 100 = .ok (.getfield 92, 3) := by decide +kernel
theorem dX1_readLeaver_103 : decode cX1_readLeaver 103 = .ok (.iload_n 2, 1) := by decide +kernel
theorem dX1_readLeaver_104 : decode cX1_readLeaver 104 = .ok (.iaload, 1) := by decide +kernel
theorem dX1_readLeaver_105 : decode cX1_readLeaver 105 = .ok (.ifCond .lt 16, 3) := by decide +kernel
theorem dX1_readLeaver_108 : decode cX1_readLeaver 108 = .ok (.aload_n 0, 1) := by decide +kernel
theorem dX1_readLeaver_109 : decode cX1_readLeaver 109 = .ok (.bipush 59, 2) := by decide +kernel
theorem dX1_readLeaver_111 : decode cX1_readLeaver 111 = .ok (.invokevirtual 40, 3) := by decide +kernel
theorem dX1_readLeaver_114 : decode cX1_readLeaver 114 = .ok (.ifCond .eq 7, 3) := by decide +kernel
theorem dX1_readLeaver_117 : decode cX1_readLeaver 117 = .ok (.iconst 1, 1) := by decide +kernel
theorem dX1_readLeaver_118 : decode cX1_readLeaver 118 = .ok (.goto 4, 3) := by decide +kernel
theorem dX1_readLeaver_121 : decode cX1_readLeaver 121 = .ok (.iconst 0, 1) := by decide +kernel
theorem dX1_readLeaver_122 : decode cX1_readLeaver 122 = .ok (.ireturn, 1) := by decide +kernel
theorem dX1_kindOfSort_0 : decode cX1_kindOfSort 0 = .ok (.iload_n 0, 1) := by decide +kernel
theorem dX1_kindOfSort_1 : decode cX1_kindOfSort 1 = .ok (.lookupswitch 61 #[(102, 53), (105, 57), (112, 51), (115, 55), (119, 59)], 51) := by decide +kernel
theorem dX1_kindOfSort_52 : decode cX1_kindOfSort 52 = .ok (.iconst 1, 1) := by decide +kernel
theorem dX1_kindOfSort_53 : decode cX1_kindOfSort 53 = .ok (.ireturn, 1) := by decide +kernel
theorem dX1_kindOfSort_54 : decode cX1_kindOfSort 54 = .ok (.iconst 2, 1) := by decide +kernel
theorem dX1_kindOfSort_55 : decode cX1_kindOfSort 55 = .ok (.ireturn, 1) := by decide +kernel
theorem dX1_kindOfSort_56 : decode cX1_kindOfSort 56 = .ok (.iconst 3, 1) := by decide +kernel
theorem dX1_kindOfSort_57 : decode cX1_kindOfSort 57 = .ok (.ireturn, 1) := by decide +kernel
theorem dX1_kindOfSort_58 : decode cX1_kindOfSort 58 = .ok (.iconst 4, 1) := by decide +kernel
theorem dX1_kindOfSort_59 : decode cX1_kindOfSort 59 = .ok (.ireturn, 1) := by decide +kernel
theorem dX1_kindOfSort_60 : decode cX1_kindOfSort 60 = .ok (.iconst 5, 1) := by decide +kernel
theorem dX1_kindOfSort_61 : decode cX1_kindOfSort 61 = .ok (.ireturn, 1) := by decide +kernel
theorem dX1_kindOfSort_62 : decode cX1_kindOfSort 62 = .ok (.iconst 0, 1) := by decide +kernel
theorem dX1_kindOfSort_63 : decode cX1_kindOfSort 63 = .ok (.ireturn, 1) := by decide +kernel
theorem dX1_failBy_0 : decode cX1_failBy 0 = .ok (.aload_n 0, 1) := by decide +kernel
theorem dX1_failBy_1 : decode cX1_failBy 1 = .ok (.iload_n 1, 1) := by decide +kernel
theorem dX1_failBy_2 : decode cX1_failBy 2 = .ok (.putfield 95, 3) := by decide +kernel
theorem dX1_failBy_5 : decode cX1_failBy 5 = .ok (.aload_n 0, 1) := by decide +kernel
theorem dX1_failBy_6 : decode cX1_failBy 6 = .ok (.aload_n 0, 1) := by decide +kernel
theorem dX1_failBy_7 : decode cX1_failBy 7 = .ok (.getfield 98, 3) := by decide +kernel
theorem dX1_failBy_10 : decode cX1_failBy 10 = .ok (.putfield 101, 3) := by decide +kernel
theorem dX1_failBy_13 : decode cX1_failBy 13 = .ok (.iconst 0, 1) := by decide +kernel
theorem dX1_failBy_14 : decode cX1_failBy 14 = .ok (.ireturn, 1) := by decide +kernel
theorem dX1_take_0 : decode cX1_take 0 = .ok (.aload_n 0, 1) := by decide +kernel
theorem dX1_take_1 : decode cX1_take 1 = .ok (.getfield 54, 3) := by decide +kernel
theorem dX1_take_4 : decode cX1_take 4 = .ok (.iload_n 1, 1) := by decide +kernel
theorem dX1_take_5 : decode cX1_take 5 = .ok (.if_icmp .eq 9, 3) := by decide +kernel
theorem dX1_take_8 : decode cX1_take 8 = .ok (.aload_n 0, 1) := by decide +kernel
theorem dX1_take_9 : decode cX1_take 9 = .ok (.iconst 1, 1) := by decide +kernel
theorem dX1_take_10 : decode cX1_take 10 = .ok (.invokevirtual 57, 3) := by decide +kernel
theorem dX1_take_13 : decode cX1_take 13 = .ok (.ireturn, 1) := by decide +kernel
theorem dX1_take_14 : decode cX1_take 14 = .ok (.aload_n 0, 1) := by decide +kernel
theorem dX1_take_15 : decode cX1_take 15 = .ok (.invokevirtual 27, 3) := by decide +kernel
theorem dX1_take_18 : decode cX1_take 18 = .ok (.iconst 1, 1) := by decide +kernel
theorem dX1_take_19 : decode cX1_take 19 = .ok (.ireturn, 1) := by decide +kernel
theorem dX1_takeNumber_0 : decode cX1_takeNumber 0 = .ok (.aload_n 0, 1) := by decide +kernel
theorem dX1_takeNumber_1 : decode cX1_takeNumber 1 = .ok (.getfield 54, 3) := by decide +kernel
theorem dX1_takeNumber_4 : decode cX1_takeNumber 4 = .ok (.bipush (-2), 2) := by decide +kernel
theorem dX1_takeNumber_6 : decode cX1_takeNumber 6 = .ok (.if_icmp .eq 11, 3) := by decide +kernel
theorem dX1_takeNumber_9 : decode cX1_takeNumber 9 = .ok (.aload_n 0, 1) := by decide +kernel
theorem dX1_takeNumber_10 : decode cX1_takeNumber 10 = .ok (.iconst 1, 1) := by decide +kernel
theorem dX1_takeNumber_11 : decode cX1_takeNumber 11 = .ok (.invokevirtual 57, 3) := by decide +kernel
theorem dX1_takeNumber_14 : decode cX1_takeNumber 14 = .ok (.pop, 1) := by decide +kernel
theorem dX1_takeNumber_15 : decode cX1_takeNumber 15 = .ok (.iconst (-1), 1) := by decide +kernel
theorem dX1_takeNumber_16 : decode cX1_takeNumber 16 = .ok (.ireturn, 1) := by decide +kernel
theorem dX1_takeNumber_17 : decode cX1_takeNumber 17 = .ok (.aload_n 0, 1) := by decide +kernel
theorem dX1_takeNumber_18 : decode cX1_takeNumber 18 = .ok (.getfield 104, 3) := by decide +kernel
theorem dX1_takeNumber_21 : decode cX1_takeNumber 21 = .ok (.iload_n 1, 1) := by decide +kernel
theorem dX1_takeNumber_22 : decode cX1_takeNumber 22 = .ok (.iload_n 2, 1) := by decide +kernel
theorem dX1_takeNumber_23 : decode cX1_takeNumber 23 = .ok (.invokestatic 107, 3) := by decide +kernel
theorem dX1_takeNumber_26 : decode cX1_takeNumber 26 = .ok (.ifCond .ne 11, 3) := by decide +kernel
theorem dX1_takeNumber_29 : decode cX1_takeNumber 29 = .ok (.aload_n 0, 1) := by decide +kernel
theorem dX1_takeNumber_30 : decode cX1_takeNumber 30 = .ok (.iconst 2, 1) := by decide +kernel
theorem dX1_takeNumber_31 : decode cX1_takeNumber 31 = .ok (.invokevirtual 57, 3) := by decide +kernel
theorem dX1_takeNumber_34 : decode cX1_takeNumber 34 = .ok (.pop, 1) := by decide +kernel
theorem dX1_takeNumber_35 : decode cX1_takeNumber 35 = .ok (.iconst (-1), 1) := by decide +kernel
theorem dX1_takeNumber_36 : decode cX1_takeNumber 36 = .ok (.ireturn, 1) := by decide +kernel
theorem dX1_takeNumber_37 : decode cX1_takeNumber 37 = .ok (.aload_n 0, 1) := by decide +kernel
theorem dX1_takeNumber_38 : decode cX1_takeNumber 38 = .ok (.getfield 104, 3) := by decide +kernel
theorem dX1_takeNumber_41 : decode cX1_takeNumber 41 = .ok (.istore_n 3, 1) := by decide +kernel
theorem dX1_takeNumber_42 : decode cX1_takeNumber 42 = .ok (.aload_n 0, 1) := by decide +kernel
theorem dX1_takeNumber_43 : decode cX1_takeNumber 43 = .ok (.invokevirtual 27, 3) := by decide +kernel
theorem dX1_takeNumber_46 : decode cX1_takeNumber 46 = .ok (.iload_n 3, 1) := by decide +kernel
theorem dX1_takeNumber_47 : decode cX1_takeNumber 47 = .ok (.ireturn, 1) := by decide +kernel
theorem dX1_advance_0 : decode cX1_advance 0 = .ok (.aload_n 0, 1) := by decide +kernel
theorem dX1_advance_1 : decode cX1_advance 1 = .ok (.aload_n 0, 1) := by decide +kernel
theorem dX1_advance_2 : decode cX1_advance 2 = .ok (.getfield 24, 3) := by decide +kernel
theorem dX1_advance_5 : decode cX1_advance 5 = .ok (.putfield 98, 3) := by decide +kernel
theorem dX1_advance_8 : decode cX1_advance 8 = .ok (.aload_n 0, 1) := by decide +kernel
theorem dX1_advance_9 : decode cX1_advance 9 = .ok (.getfield 98, 3) := by decide +kernel
theorem dX1_advance_12 : decode cX1_advance 12 = .ok (.aload_n 0, 1) := by decide +kernel
theorem dX1_advance_13 : decode cX1_advance 13 = .ok (.getfield 15, 3) := by decide +kernel
theorem dX1_advance_16 : decode cX1_advance 16 = .ok (.if_icmp .lt 9, 3) := by decide +kernel
theorem dX1_advance_19 : decode cX1_advance 19 = .ok (.aload_n 0, 1) := by decide +kernel
theorem dX1_advance_20 : decode cX1_advance 20 = .ok (.iconst (-1), 1) := by decide +kernel
theorem dX1_advance_21 : decode cX1_advance 21 = .ok (.putfield 54, 3) := by decide +kernel
theorem dX1_advance_24 : decode cX1_advance 24 = .ok (.return_, 1) := by decide +kernel
theorem dX1_advance_25 : decode cX1_advance 25 = .ok (.aload_n 0, 1) := by decide +kernel
theorem dX1_advance_26 : decode cX1_advance 26 = .ok (.aload_n 0, 1) := by decide +kernel
theorem dX1_advance_27 : decode cX1_advance 27 = .ok (.getfield 9, 3) := by decide +kernel
theorem dX1_advance_30 : decode cX1_advance 30 = .ok (.aload_n 0, 1) := by decide +kernel
theorem dX1_advance_31 : decode cX1_advance 31 = .ok (.getfield 98, 3) := by decide +kernel
theorem dX1_advance_34 : decode cX1_advance 34 = .ok (.iaload, 1) := by decide +kernel
theorem dX1_advance_35 : decode cX1_advance 35 = .ok (.putfield 54, 3) := by decide +kernel
theorem dX1_advance_38 : decode cX1_advance 38 = .ok (.aload_n 0, 1) := by decide +kernel
theorem dX1_advance_39 : decode cX1_advance 39 = .ok (.aload_n 0, 1) := by decide +kernel
theorem dX1_advance_40 : decode cX1_advance 40 = .ok (.getfield 98, 3) := by decide +kernel
theorem dX1_advance_43 : decode cX1_advance 43 = .ok (.iconst 1, 1) := by decide +kernel
theorem dX1_advance_44 : decode cX1_advance 44 = .ok (.iadd, 1) := by decide +kernel
theorem dX1_advance_45 : decode cX1_advance 45 = .ok (.putfield 24, 3) := by decide +kernel
theorem dX1_advance_48 : decode cX1_advance 48 = .ok (.aload_n 0, 1) := by decide +kernel
theorem dX1_advance_49 : decode cX1_advance 49 = .ok (.getfield 54, 3) := by decide +kernel
theorem dX1_advance_52 : decode cX1_advance 52 = .ok (.invokestatic 111, 3) := by decide +kernel
theorem dX1_advance_55 : decode cX1_advance 55 = .ok (.ifCond .ne 4, 3) := by decide +kernel
theorem dX1_advance_58 : decode cX1_advance 58 = .ok (.return_, 1) := by decide +kernel
theorem dX1_advance_59 : decode cX1_advance 59 = .ok (.aload_n 0, 1) := by decide +kernel
theorem dX1_advance_60 : decode cX1_advance 60 = .ok (.aload_n 0, 1) := by decide +kernel
theorem dX1_advance_61 : decode cX1_advance 61 = .ok (.getfield 54, 3) := by decide +kernel
theorem dX1_advance_64 : decode cX1_advance 64 = .ok (.bipush 48, 2) := by decide +kernel
theorem dX1_advance_66 : decode cX1_advance 66 = .ok (.isub, 1) := by decide +kernel
theorem dX1_advance_67 : decode cX1_advance 67 = .ok (.putfield 104, 3) := by decide +kernel
theorem dX1_advance_70 : decode cX1_advance 70 = .ok (.aload_n 0, 1) := by decide +kernel
theorem dX1_advance_71 : decode cX1_advance 71 = .ok (.getfield 24, 3) := by decide +kernel
theorem dX1_advance_74 : decode cX1_advance 74 = .ok (.aload_n 0, 1) := by decide +kernel
theorem dX1_advance_75 : decode cX1_advance 75 = .ok (.getfield 15, 3) := by decide +kernel
theorem dX1_advance_78 : decode cX1_advance 78 = .ok (.if_icmp .ge 59, 3) := by decide +kernel
theorem dX1_advance_81 : decode cX1_advance 81 = .ok (.aload_n 0, 1) := by decide +kernel
theorem dX1_advance_82 : decode cX1_advance 82 = .ok (.getfield 9, 3) := by decide +kernel
theorem dX1_advance_85 : decode cX1_advance 85 = .ok (.aload_n 0, 1) := by decide +kernel
theorem dX1_advance_86 : decode cX1_advance 86 = .ok (.getfield 24, 3) := by decide +kernel
theorem dX1_advance_89 : decode cX1_advance 89 = .ok (.iaload, 1) := by decide +kernel
theorem dX1_advance_90 : decode cX1_advance 90 = .ok (.invokestatic 111, 3) := by decide +kernel
theorem dX1_advance_93 : decode cX1_advance 93 = .ok (.ifCond .eq 44, 3) := by decide +kernel
theorem dX1_advance_96 : decode cX1_advance 96 = .ok (.aload_n 0, 1) := by decide +kernel
theorem dX1_advance_97 : decode cX1_advance 97 = .ok (.bipush 10, 2) := by decide +kernel
theorem dX1_advance_99 : decode cX1_advance 99 = .ok (.aload_n 0, 1) := by decide +kernel
theorem dX1_advance_100 : decode cX1_advance 100 = .ok (.getfield 104, 3) := by decide +kernel
theorem dX1_advance_103 : decode cX1_advance 103 = .ok (.imul, 1) := by decide +kernel
theorem dX1_advance_104 : decode cX1_advance 104 = .ok (.aload_n 0, 1) := by decide +kernel
theorem dX1_advance_105 : decode cX1_advance 105 = .ok (.getfield 9, 3) := by decide +kernel
theorem dX1_advance_108 : decode cX1_advance 108 = .ok (.aload_n 0, 1) := by decide +kernel
theorem dX1_advance_109 : decode cX1_advance 109 = .ok (.getfield 24, 3) := by decide +kernel
theorem dX1_advance_112 : decode cX1_advance 112 = .ok (.iaload, 1) := by decide +kernel
theorem dX1_advance_113 : decode cX1_advance 113 = .ok (.iadd, 1) := by decide +kernel
theorem dX1_advance_114 : decode cX1_advance 114 = .ok (.bipush 48, 2) := by decide +kernel
theorem dX1_advance_116 : decode cX1_advance 116 = .ok (.isub, 1) := by decide +kernel
theorem dX1_advance_117 : decode cX1_advance 117 = .ok (.sipush 1000, 3) := by decide +kernel
theorem dX1_advance_120 : decode cX1_advance 120 = .ok (.irem, 1) := by decide +kernel
theorem dX1_advance_121 : decode cX1_advance 121 = .ok (.putfield 104, 3) := by decide +kernel
theorem dX1_advance_124 : decode cX1_advance 124 = .ok (.aload_n 0, 1) := by decide +kernel
theorem dX1_advance_125 : decode cX1_advance 125 = .ok (.dup, 1) := by decide +kernel
theorem dX1_advance_126 : decode cX1_advance 126 = .ok (.getfield 24, 3) := by decide +kernel
theorem dX1_advance_129 : decode cX1_advance 129 = .ok (.iconst 1, 1) := by decide +kernel
theorem dX1_advance_130 : decode cX1_advance 130 = .ok (.iadd, 1) := by decide +kernel
theorem dX1_advance_131 : decode cX1_advance 131 = .ok (.putfield 24, 3) := by decide +kernel
theorem dX1_advance_134 : decode cX1_advance 134 = .ok (.goto (-64), 3) := by decide +kernel
theorem dX1_advance_137 : decode cX1_advance 137 = .ok (.aload_n 0, 1) := by decide +kernel
theorem dX1_advance_138 : decode cX1_advance 138 = .ok (.aload_n 0, 1) := by decide +kernel
theorem dX1_advance_139 : decode cX1_advance 139 = .ok (.getfield 24, 3) := by decide +kernel
theorem dX1_advance_142 : decode cX1_advance 142 = .ok (.aload_n 0, 1) := by decide +kernel
theorem dX1_advance_143 : decode cX1_advance 143 = .ok (.getfield 98, 3) := by decide +kernel
theorem dX1_advance_146 : decode cX1_advance 146 = .ok (.isub, 1) := by decide +kernel
theorem dX1_advance_147 : decode cX1_advance 147 = .ok (.iconst 2, 1) := by decide +kernel
theorem dX1_advance_148 : decode cX1_advance 148 = .ok (.if_icmp .le 8, 3) := by decide +kernel
theorem dX1_advance_151 : decode cX1_advance 151 = .ok (.bipush (-3), 2) := by decide +kernel
theorem dX1_advance_153 : decode cX1_advance 153 = .ok (.goto 5, 3) := by decide +kernel
theorem dX1_advance_156 : decode cX1_advance 156 = .ok (.bipush (-2), 2) := by decide +kernel
theorem dX1_advance_158 : decode cX1_advance 158 = .ok (.putfield 54, 3) := by decide +kernel
theorem dX1_advance_161 : decode cX1_advance 161 = .ok (.return_, 1) := by decide +kernel
theorem dX1_isFigure_0 : decode cX1_isFigure 0 = .ok (.iload_n 0, 1) := by decide +kernel
theorem dX1_isFigure_1 : decode cX1_isFigure 1 = .ok (.bipush 48, 2) := by decide +kernel
theorem dX1_isFigure_3 : decode cX1_isFigure 3 = .ok (.if_icmp .lt 13, 3) := by decide +kernel
theorem dX1_isFigure_6 : decode cX1_isFigure 6 = .ok (.iload_n 0, 1) := by decide +kernel
theorem dX1_isFigure_7 : decode cX1_isFigure 7 = .ok (.bipush 57, 2) := by decide +kernel
theorem dX1_isFigure_9 : decode cX1_isFigure 9 = .ok (.if_icmp .gt 7, 3) := by decide +kernel
theorem dX1_isFigure_12 : decode cX1_isFigure 12 = .ok (.iconst 1, 1) := by decide +kernel
theorem dX1_isFigure_13 : decode cX1_isFigure 13 = .ok (.goto 4, 3) := by decide +kernel
theorem dX1_isFigure_16 : decode cX1_isFigure 16 = .ok (.iconst 0, 1) := by decide +kernel
theorem dX1_isFigure_17 : decode cX1_isFigure 17 = .ok (.ireturn, 1) := by decide +kernel
theorem dX2_init_0 : decode cX2_init 0 = .ok (.aload_n 0, 1) := by decide +kernel
theorem dX2_init_1 : decode cX2_init 1 = .ok (.invokespecial 3, 3) := by decide +kernel
theorem dX2_init_4 : decode cX2_init 4 = .ok (.aload_n 0, 1) := by decide +kernel
theorem dX2_init_5 : decode cX2_init 5 = .ok (.bipush 40, 2) := by decide +kernel
theorem dX2_init_7 : decode cX2_init 7 = .ok (.newarray .int, 2) := by decide +kernel
theorem dX2_init_9 : decode cX2_init 9 = .ok (.putfield 9, 3) := by decide +kernel
theorem dX2_init_12 : decode cX2_init 12 = .ok (.return_, 1) := by decide +kernel
theorem dX2_make_0 : decode cX2_make 0 = .ok (.iconst 0, 1) := by decide +kernel
theorem dX2_make_1 : decode cX2_make 1 = .ok (.istore_n 3, 1) := by decide +kernel
theorem dX2_make_2 : decode cX2_make 2 = .ok (.iload_n 3, 1) := by decide +kernel
theorem dX2_make_3 : decode cX2_make 3 = .ok (.bipush 40, 2) := by decide +kernel
theorem dX2_make_5 : decode cX2_make 5 = .ok (.if_icmp .ge 16, 3) := by decide +kernel
theorem dX2_make_8 : decode cX2_make 8 = .ok (.aload_n 0, 1) := by decide +kernel
theorem dX2_make_9 : decode cX2_make 9 = .ok (.getfield 9, 3) := by decide +kernel
theorem dX2_make_12 : decode cX2_make 12 = .ok (.iload_n 3, 1) := by decide +kernel
theorem dX2_make_13 : decode cX2_make 13 = .ok (.iconst 0, 1) := by decide +kernel
theorem dX2_make_14 : decode cX2_make 14 = .ok (.iastore, 1) := by decide +kernel
theorem dX2_make_15 : decode cX2_make 15 = .ok (.iinc 3 1, 3) := by decide +kernel
theorem dX2_make_18 : decode cX2_make 18 = .ok (.goto (-16), 3) := by decide +kernel
theorem dX2_make_21 : decode cX2_make 21 = .ok (.aload_n 0, 1) := by decide +kernel
theorem dX2_make_22 : decode cX2_make 22 = .ok (.iconst 1, 1) := by decide +kernel
theorem dX2_make_23 : decode cX2_make 23 = .ok (.putfield 15, 3) := by decide +kernel
theorem dX2_make_26 : decode cX2_make 26 = .ok (.aload_n 0, 1) := by decide +kernel
theorem dX2_make_27 : decode cX2_make 27 = .ok (.iload_n 1, 1) := by decide +kernel
theorem dX2_make_28 : decode cX2_make 28 = .ok (.putfield 19, 3) := by decide +kernel
theorem dX2_make_31 : decode cX2_make 31 = .ok (.aload_n 0, 1) := by decide +kernel
theorem dX2_make_32 : decode cX2_make 32 = .ok (.iload_n 2, 1) := by decide +kernel
theorem dX2_make_33 : decode cX2_make 33 = .ok (.putfield 23, 3) := by decide +kernel
theorem dX2_make_36 : decode cX2_make 36 = .ok (.return_, 1) := by decide +kernel
theorem dX2_holds_0 : decode cX2_holds 0 = .ok (.iload_n 1, 1) := by decide +kernel
theorem dX2_holds_1 : decode cX2_holds 1 = .ok (.ifCond .lt 21, 3) := by decide +kernel
theorem dX2_holds_4 : decode cX2_holds 4 = .ok (.iload_n 2, 1) := by decide +kernel
theorem dX2_holds_5 : decode cX2_holds 5 = .ok (.ifCond .lt 17, 3) := by decide +kernel
theorem dX2_holds_8 : decode cX2_holds 8 = .ok (.iload_n 1, 1) := by decide +kernel
theorem dX2_holds_9 : decode cX2_holds 9 = .ok (.aload_n 0, 1) := by decide +kernel
theorem dX2_holds_10 : decode cX2_holds 10 = .ok (.getfield 23, 3) := by decide +kernel
theorem dX2_holds_13 : decode cX2_holds 13 = .ok (.iload_n 2, 1) := by decide +kernel
theorem dX2_holds_14 : decode cX2_holds 14 = .ok (.isub, 1) := by decide +kernel
theorem dX2_holds_15 : decode cX2_holds 15 = .ok (.if_icmp .gt 7, 3) := by decide +kernel
theorem dX2_holds_18 : decode cX2_holds 18 = .ok (.iconst 1, 1) := by decide +kernel
theorem dX2_holds_19 : decode cX2_holds 19 = .ok (.goto 4, 3) := by decide +kernel
theorem dX2_holds_22 : decode cX2_holds 22 = .ok (.iconst 0, 1) := by decide +kernel
theorem dX2_holds_23 : decode cX2_holds 23 = .ok (.ireturn, 1) := by decide +kernel
theorem dX2_put_0 : decode cX2_put 0 = .ok (.aload_n 0, 1) := by decide +kernel
theorem dX2_put_1 : decode cX2_put 1 = .ok (.getfield 9, 3) := by decide +kernel
theorem dX2_put_4 : decode cX2_put 4 = .ok (.iload_n 1, 1) := by decide +kernel
theorem dX2_put_5 : decode cX2_put 5 = .ok (.aload_n 0, 1) := by decide +kernel
theorem dX2_put_6 : decode cX2_put 6 = .ok (.getfield 19, 3) := by decide +kernel
theorem dX2_put_9 : decode cX2_put 9 = .ok (.ifCond .ne 8, 3) := by decide +kernel
theorem dX2_put_12 : decode cX2_put 12 = .ok (.iload_n 2, 1) := by decide +kernel
theorem dX2_put_13 : decode cX2_put 13 = .ok (.i2b, 1) := by decide +kernel
theorem dX2_put_14 : decode cX2_put 14 = .ok (.goto 17, 3) := by decide +kernel
theorem dX2_put_17 : decode cX2_put 17 = .ok (.aload_n 0, 1) := by decide +kernel
theorem dX2_put_18 : decode cX2_put 18 = .ok (.getfield 19, 3) := by decide +kernel
theorem dX2_put_21 : decode cX2_put 21 = .ok (.iconst 1, 1) := by decide +kernel
theorem dX2_put_22 : decode cX2_put 22 = .ok (.if_icmp .ne 8, 3) := by decide +kernel
theorem dX2_put_25 : decode cX2_put 25 = .ok (.iload_n 2, 1) := by decide +kernel
theorem dX2_put_26 : decode cX2_put 26 = .ok (.i2s, 1) := by decide +kernel
theorem dX2_put_27 : decode cX2_put 27 = .ok (.goto 4, 3) := by decide +kernel
theorem dX2_put_30 : decode cX2_put 30 = .ok (.iload_n 2, 1) := by decide +kernel
theorem dX2_put_31 : decode cX2_put 31 = .ok (.iastore, 1) := by decide +kernel
theorem dX2_put_32 : decode cX2_put 32 = .ok (.aload_n 0, 1) := by decide +kernel
theorem dX2_put_33 : decode cX2_put 33 = .ok (.getfield 9, 3) := by decide +kernel
theorem dX2_put_36 : decode cX2_put 36 = .ok (.iload_n 1, 1) := by decide +kernel
theorem dX2_put_37 : decode cX2_put 37 = .ok (.iaload, 1) := by decide +kernel
theorem dX2_put_38 : decode cX2_put 38 = .ok (.ireturn, 1) := by decide +kernel
theorem dX3_init_0 : decode cX3_init 0 = .ok (.aload_n 0, 1) := by decide +kernel
theorem dX3_init_1 : decode cX3_init 1 = .ok (.invokespecial 3, 3) := by decide +kernel
theorem dX3_init_4 : decode cX3_init 4 = .ok (.aload_n 0, 1) := by decide +kernel
theorem dX3_init_5 : decode cX3_init 5 = .ok (.iconst 5, 1) := by decide +kernel
theorem dX3_init_6 : decode cX3_init 6 = .ok (.newarray .int, 2) := by decide +kernel
theorem dX3_init_8 : decode cX3_init 8 = .ok (.putfield 9, 3) := by decide +kernel
theorem dX3_init_11 : decode cX3_init 11 = .ok (.aload_n 0, 1) := by decide +kernel
theorem dX3_init_12 : decode cX3_init 12 = .ok (.iconst 5, 1) := by decide +kernel
theorem dX3_init_13 : decode cX3_init 13 = .ok (.newarray .int, 2) := by decide +kernel
theorem dX3_init_15 : decode cX3_init 15 = .ok (.putfield 15, 3) := by decide +kernel
theorem dX3_init_18 : decode cX3_init 18 = .ok (.aload_n 0, 1) := by decide +kernel
theorem dX3_init_19 : decode cX3_init 19 = .ok (.bipush 6, 2) := by decide +kernel
theorem dX3_init_21 : decode cX3_init 21 = .ok (.newarray .int, 2) := by decide +kernel
theorem dX3_init_23 : decode cX3_init 23 = .ok (.putfield 18, 3) := by decide +kernel
theorem dX3_init_26 : decode cX3_init 26 = .ok (.aload_n 0, 1) := by decide +kernel
theorem dX3_init_27 : decode cX3_init 27 = .ok (.bipush 6, 2) := by decide +kernel
theorem dX3_init_29 : decode cX3_init 29 = .ok (.newarray .int, 2) := by decide +kernel
theorem dX3_init_31 : decode cX3_init 31 = .ok (.putfield 21, 3) := by decide +kernel
theorem dX3_init_34 : decode cX3_init 34 = .ok (.aload_n 0, 1) := by decide +kernel
theorem dX3_init_35 : decode cX3_init 35 = .ok (.bipush 6, 2) := by decide +kernel
theorem dX3_init_37 : decode cX3_init 37 = .ok (.newarray .int, 2) := by decide +kernel
theorem dX3_init_39 : decode cX3_init 39 = .ok (.putfield 24, 3) := by decide +kernel
theorem dX3_init_42 : decode cX3_init 42 = .ok (.aload_n 0, 1) := by decide +kernel
theorem dX3_init_43 : decode cX3_init 43 = .ok (.bipush 6, 2) := by decide +kernel
theorem dX3_init_45 : decode cX3_init 45 = .ok (.newarray .int, 2) := by decide +kernel
theorem dX3_init_47 : decode cX3_init 47 = .ok (.putfield 27, 3) := by decide +kernel
theorem dX3_init_50 : decode cX3_init 50 = .ok (.aload_n 0, 1) := by decide +kernel
theorem dX3_init_51 : decode cX3_init 51 = .ok (.bipush 30, 2) := by decide +kernel
theorem dX3_init_53 : decode cX3_init 53 = .ok (.newarray .int, 2) := by decide +kernel
theorem dX3_init_55 : decode cX3_init 55 = .ok (.putfield 30, 3) := by decide +kernel
theorem dX3_init_58 : decode cX3_init 58 = .ok (.aload_n 0, 1) := by decide +kernel
theorem dX3_init_59 : decode cX3_init 59 = .ok (.iconst 5, 1) := by decide +kernel
theorem dX3_init_60 : decode cX3_init 60 = .ok (.newarray .int, 2) := by decide +kernel
theorem dX3_init_62 : decode cX3_init 62 = .ok (.putfield 33, 3) := by decide +kernel
theorem dX3_init_65 : decode cX3_init 65 = .ok (.return_, 1) := by decide +kernel
theorem dX3_clear_0 : decode cX3_clear 0 = .ok (.aload_n 0, 1) := by decide +kernel
theorem dX3_clear_1 : decode cX3_clear 1 = .ok (.iconst 0, 1) := by decide +kernel
theorem dX3_clear_2 : decode cX3_clear 2 = .ok (.putfield 36, 3) := by decide +kernel
theorem dX3_clear_5 : decode cX3_clear 5 = .ok (.aload_n 0, 1) := by decide +kernel
theorem dX3_clear_6 : decode cX3_clear 6 = .ok (.iconst 0, 1) := by decide +kernel
theorem dX3_clear_7 : decode cX3_clear 7 = .ok (.putfield 40, 3) := by decide +kernel
theorem dX3_clear_10 : decode cX3_clear 10 = .ok (.aload_n 0, 1) := by decide +kernel
theorem dX3_clear_11 : decode cX3_clear 11 = .ok (.iconst 0, 1) := by decide +kernel
theorem dX3_clear_12 : decode cX3_clear 12 = .ok (.putfield 43, 3) := by decide +kernel
theorem dX3_clear_15 : decode cX3_clear 15 = .ok (.aload_n 0, 1) := by decide +kernel
theorem dX3_clear_16 : decode cX3_clear 16 = .ok (.iconst 0, 1) := by decide +kernel
theorem dX3_clear_17 : decode cX3_clear 17 = .ok (.putfield 46, 3) := by decide +kernel
theorem dX3_clear_20 : decode cX3_clear 20 = .ok (.aload_n 0, 1) := by decide +kernel
theorem dX3_clear_21 : decode cX3_clear 21 = .ok (.iconst 0, 1) := by decide +kernel
theorem dX3_clear_22 : decode cX3_clear 22 = .ok (.putfield 49, 3) := by decide +kernel
theorem dX3_clear_25 : decode cX3_clear 25 = .ok (.iconst 0, 1) := by decide +kernel
theorem dX3_clear_26 : decode cX3_clear 26 = .ok (.istore_n 1, 1) := by decide +kernel
theorem dX3_clear_27 : decode cX3_clear 27 = .ok (.iload_n 1, 1) := by decide +kernel
theorem dX3_clear_28 : decode cX3_clear 28 = .ok (.aload_n 0, 1) := by decide +kernel
theorem dX3_clear_29 : decode cX3_clear 29 = .ok (.getfield 30, 3) := by decide +kernel
theorem dX3_clear_32 : decode cX3_clear 32 = .ok (.arraylength, 1) := by decide +kernel
theorem dX3_clear_33 : decode cX3_clear 33 = .ok (.if_icmp .ge 16, 3) := by decide +kernel
theorem dX3_clear_36 : decode cX3_clear 36 = .ok (.aload_n 0, 1) := by decide +kernel
theorem dX3_clear_37 : decode cX3_clear 37 = .ok (.getfield 30, 3) := by decide +kernel
theorem dX3_clear_40 : decode cX3_clear 40 = .ok (.iload_n 1, 1) := by decide +kernel
theorem dX3_clear_41 : decode cX3_clear 41 = .ok (.iconst 0, 1) := by decide +kernel
theorem dX3_clear_42 : decode cX3_clear 42 = .ok (.iastore, 1) := by decide +kernel
theorem dX3_clear_43 : decode cX3_clear 43 = .ok (.iinc 1 1, 3) := by decide +kernel
theorem dX3_clear_46 : decode cX3_clear 46 = .ok (.goto (-19), 3) := by decide +kernel
theorem dX3_clear_49 : decode cX3_clear 49 = .ok (.return_, 1) := by decide +kernel
theorem dX3_copyFrom_0 : decode cX3_copyFrom 0 = .ok (.aload_n 0, 1) := by decide +kernel
theorem dX3_copyFrom_1 : decode cX3_copyFrom 1 = .ok (.aload_n 1, 1) := by decide +kernel
theorem dX3_copyFrom_2 : decode cX3_copyFrom 2 = .ok (.getfield 36, 3) := by decide +kernel
theorem dX3_copyFrom_5 : decode cX3_copyFrom 5 = .ok (.putfield 36, 3) := by decide +kernel
theorem dX3_copyFrom_8 : decode cX3_copyFrom 8 = .ok (.aload_n 0, 1) := by decide +kernel
theorem dX3_copyFrom_9 : decode cX3_copyFrom 9 = .ok (.aload_n 1, 1) := by decide +kernel
theorem dX3_copyFrom_10 : decode cX3_copyFrom 10 = .ok (.getfield 40, 3) := by decide +kernel
theorem dX3_copyFrom_13 : decode cX3_copyFrom 13 = .ok (.putfield 40, 3) := by decide +kernel
theorem dX3_copyFrom_16 : decode cX3_copyFrom 16 = .ok (.aload_n 0, 1) := by decide +kernel
theorem dX3_copyFrom_17 : decode cX3_copyFrom 17 = .ok (.aload_n 1, 1) := by decide +kernel
theorem dX3_copyFrom_18 : decode cX3_copyFrom 18 = .ok (.getfield 52, 3) := by decide +kernel
theorem dX3_copyFrom_21 : decode cX3_copyFrom 21 = .ok (.putfield 52, 3) := by decide +kernel
theorem dX3_copyFrom_24 : decode cX3_copyFrom 24 = .ok (.aload_n 0, 1) := by decide +kernel
theorem dX3_copyFrom_25 : decode cX3_copyFrom 25 = .ok (.aload_n 1, 1) := by decide +kernel
theorem dX3_copyFrom_26 : decode cX3_copyFrom 26 = .ok (.getfield 55, 3) := by decide +kernel
theorem dX3_copyFrom_29 : decode cX3_copyFrom 29 = .ok (.putfield 55, 3) := by decide +kernel
theorem dX3_copyFrom_32 : decode cX3_copyFrom 32 = .ok (.aload_n 0, 1) := by decide +kernel
theorem dX3_copyFrom_33 : decode cX3_copyFrom 33 = .ok (.aload_n 1, 1) := by decide +kernel
theorem dX3_copyFrom_34 : decode cX3_copyFrom 34 = .ok (.getfield 43, 3) := by decide +kernel
theorem dX3_copyFrom_37 : decode cX3_copyFrom 37 = .ok (.putfield 43, 3) := by decide +kernel
theorem dX3_copyFrom_40 : decode cX3_copyFrom 40 = .ok (.aload_n 0, 1) := by decide +kernel
theorem dX3_copyFrom_41 : decode cX3_copyFrom 41 = .ok (.aload_n 1, 1) := by decide +kernel
theorem dX3_copyFrom_42 : decode cX3_copyFrom 42 = .ok (.getfield 46, 3) := by decide +kernel
theorem dX3_copyFrom_45 : decode cX3_copyFrom 45 = .ok (.putfield 46, 3) := by decide +kernel
theorem dX3_copyFrom_48 : decode cX3_copyFrom 48 = .ok (.aload_n 0, 1) := by decide +kernel
theorem dX3_copyFrom_49 : decode cX3_copyFrom 49 = .ok (.aload_n 1, 1) := by decide +kernel
theorem dX3_copyFrom_50 : decode cX3_copyFrom 50 = .ok (.getfield 49, 3) := by decide +kernel
theorem dX3_copyFrom_53 : decode cX3_copyFrom 53 = .ok (.putfield 49, 3) := by decide +kernel
theorem dX3_copyFrom_56 : decode cX3_copyFrom 56 = .ok (.aload_n 1, 1) := by decide +kernel
theorem dX3_copyFrom_57 : decode cX3_copyFrom 57 = .ok (.getfield 9, 3) := by decide +kernel
theorem dX3_copyFrom_60 : decode cX3_copyFrom 60 = .ok (.iconst 0, 1) := by decide +kernel
theorem dX3_copyFrom_61 : decode cX3_copyFrom 61 = .ok (.aload_n 0, 1) := by decide +kernel
theorem dX3_copyFrom_62 : decode cX3_copyFrom 62 = .ok (.getfield 9, 3) := by decide +kernel
theorem dX3_copyFrom_65 : decode cX3_copyFrom 65 = .ok (.iconst 0, 1) := by decide +kernel
theorem dX3_copyFrom_66 : decode cX3_copyFrom 66 = .ok (.iconst 5, 1) := by decide +kernel
theorem dX3_copyFrom_67 : decode cX3_copyFrom 67 = .ok (.invokestatic 58, 3) := by decide +kernel
theorem dX3_copyFrom_70 : decode cX3_copyFrom 70 = .ok (.aload_n 1, 1) := by decide +kernel
theorem dX3_copyFrom_71 : decode cX3_copyFrom 71 = .ok (.getfield 15, 3) := by decide +kernel
theorem dX3_copyFrom_74 : decode cX3_copyFrom 74 = .ok (.iconst 0, 1) := by decide +kernel
theorem dX3_copyFrom_75 : decode cX3_copyFrom 75 = .ok (.aload_n 0, 1) := by decide +kernel
theorem dX3_copyFrom_76 : decode cX3_copyFrom 76 = .ok (.getfield 15, 3) := by decide +kernel
theorem dX3_copyFrom_79 : decode cX3_copyFrom 79 = .ok (.iconst 0, 1) := by decide +kernel
theorem dX3_copyFrom_80 : decode cX3_copyFrom 80 = .ok (.iconst 5, 1) := by decide +kernel
theorem dX3_copyFrom_81 : decode cX3_copyFrom 81 = .ok (.invokestatic 58, 3) := by decide +kernel
theorem dX3_copyFrom_84 : decode cX3_copyFrom 84 = .ok (.aload_n 1, 1) := by decide +kernel
theorem dX3_copyFrom_85 : decode cX3_copyFrom 85 = .ok (.getfield 18, 3) := by decide +kernel
theorem dX3_copyFrom_88 : decode cX3_copyFrom 88 = .ok (.iconst 0, 1) := by decide +kernel
theorem dX3_copyFrom_89 : decode cX3_copyFrom 89 = .ok (.aload_n 0, 1) := by decide +kernel
theorem dX3_copyFrom_90 : decode cX3_copyFrom 90 = .ok (.getfield 18, 3) := by decide +kernel
theorem dX3_copyFrom_93 : decode cX3_copyFrom 93 = .ok (.iconst 0, 1) := by decide +kernel
theorem dX3_copyFrom_94 : decode cX3_copyFrom 94 = .ok (.bipush 6, 2) := by decide +kernel
theorem dX3_copyFrom_96 : decode cX3_copyFrom 96 = .ok (.invokestatic 58, 3) := by decide +kernel
theorem dX3_copyFrom_99 : decode cX3_copyFrom 99 = .ok (.aload_n 1, 1) := by decide +kernel
theorem dX3_copyFrom_100 : decode cX3_copyFrom 100 = .ok (.getfield 21, 3) := by decide +kernel
theorem dX3_copyFrom_103 : decode cX3_copyFrom 103 = .ok (.iconst 0, 1) := by decide +kernel
theorem dX3_copyFrom_104 : decode cX3_copyFrom 104 = .ok (.aload_n 0, 1) := by decide +kernel
theorem dX3_copyFrom_105 : decode cX3_copyFrom 105 = .ok (.getfield 21, 3) := by decide +kernel
theorem dX3_copyFrom_108 : decode cX3_copyFrom 108 = .ok (.iconst 0, 1) := by decide +kernel
theorem dX3_copyFrom_109 : decode cX3_copyFrom 109 = .ok (.bipush 6, 2) := by decide +kernel
theorem dX3_copyFrom_111 : decode cX3_copyFrom 111 = .ok (.invokestatic 58, 3) := by decide +kernel
theorem dX3_copyFrom_114 : decode cX3_copyFrom 114 = .ok (.aload_n 1, 1) := by decide +kernel
theorem dX3_copyFrom_115 : decode cX3_copyFrom 115 = .ok (.getfield 24, 3) := by decide +kernel
theorem dX3_copyFrom_118 : decode cX3_copyFrom 118 = .ok (.iconst 0, 1) := by decide +kernel
theorem dX3_copyFrom_119 : decode cX3_copyFrom 119 = .ok (.aload_n 0, 1) := by decide +kernel
theorem dX3_copyFrom_120 : decode cX3_copyFrom 120 = .ok (.getfield 24, 3) := by decide +kernel
theorem dX3_copyFrom_123 : decode cX3_copyFrom 123 = .ok (.iconst 0, 1) := by decide +kernel
theorem dX3_copyFrom_124 : decode cX3_copyFrom 124 = .ok (.bipush 6, 2) := by decide +kernel
theorem dX3_copyFrom_126 : decode cX3_copyFrom 126 = .ok (.invokestatic 58, 3) := by decide +kernel
theorem dX3_copyFrom_129 : decode cX3_copyFrom 129 = .ok (.aload_n 1, 1) := by decide +kernel
theorem dX3_copyFrom_130 : decode cX3_copyFrom 130 = .ok (.getfield 27, 3) := by decide +kernel
theorem dX3_copyFrom_133 : decode cX3_copyFrom 133 = .ok (.iconst 0, 1) := by decide +kernel
theorem dX3_copyFrom_134 : decode cX3_copyFrom 134 = .ok (.aload_n 0, 1) := by decide +kernel
theorem dX3_copyFrom_135 : decode cX3_copyFrom 135 = .ok (.getfield 27, 3) := by decide +kernel
theorem dX3_copyFrom_138 : decode cX3_copyFrom 138 = .ok (.iconst 0, 1) := by decide +kernel
theorem dX3_copyFrom_139 : decode cX3_copyFrom 139 = .ok (.bipush 6, 2) := by decide +kernel
theorem dX3_copyFrom_141 : decode cX3_copyFrom 141 = .ok (.invokestatic 58, 3) := by decide +kernel
theorem dX3_copyFrom_144 : decode cX3_copyFrom 144 = .ok (.aload_n 1, 1) := by decide +kernel
theorem dX3_copyFrom_145 : decode cX3_copyFrom 145 = .ok (.getfield 30, 3) := by decide +kernel
theorem dX3_copyFrom_148 : decode cX3_copyFrom 148 = .ok (.iconst 0, 1) := by decide +kernel
theorem dX3_copyFrom_149 : decode cX3_copyFrom 149 = .ok (.aload_n 0, 1) := by decide +kernel
theorem dX3_copyFrom_150 : decode cX3_copyFrom 150 = .ok (.getfield 30, 3) := by decide +kernel
theorem dX3_copyFrom_153 : decode cX3_copyFrom 153 = .ok (.iconst 0, 1) := by decide +kernel
theorem dX3_copyFrom_154 : decode cX3_copyFrom 154 = .ok (.bipush 30, 2) := by decide +kernel
theorem dX3_copyFrom_156 : decode cX3_copyFrom 156 = .ok (.invokestatic 58, 3) := by decide +kernel
theorem dX3_copyFrom_159 : decode cX3_copyFrom 159 = .ok (.return_, 1) := by decide +kernel
theorem dX3_houseToday_0 : decode cX3_houseToday 0 = .ok (.aload_n 0, 1) := by decide +kernel
theorem dX3_houseToday_1 : decode cX3_houseToday 1 = .ok (.getfield 36, 3) := by decide +kernel
theorem dX3_houseToday_4 : decode cX3_houseToday 4 = .ok (.ifCond .le 29, 3) := by decide +kernel
theorem dX3_houseToday_7 : decode cX3_houseToday 7 = .ok (.aload_n 0, 1) := by decide +kernel
theorem dX3_houseToday_8 : decode cX3_houseToday 8 = .ok (.getfield 21, 3) := by decide +kernel
theorem dX3_houseToday_11 : decode cX3_houseToday 11 = .ok (.iload_n 1, 1) := by decide +kernel
theorem dX3_houseToday_12 : decode cX3_houseToday 12 = .ok (.iaload, 1) := by decide +kernel
theorem dX3_houseToday_13 : decode cX3_houseToday 13 = .ok (.aload_n 0, 1) := by decide +kernel
theorem dX3_houseToday_14 : decode cX3_houseToday 14 = .ok (.getfield 27, 3) := by decide +kernel
theorem dX3_houseToday_17 : decode cX3_houseToday 17 = .ok (.iload_n 1, 1) := by decide +kernel
theorem dX3_houseToday_18 : decode cX3_houseToday 18 = .ok (.iaload, 1) := by decide +kernel
theorem dX3_houseToday_19 : decode cX3_houseToday 19 = .ok (.aload_n 0, 1) := by decide +kernel
theorem dX3_houseToday_20 : decode cX3_houseToday 20 = .ok (.getfield 43, 3) := by decide +kernel
theorem dX3_houseToday_23 : decode cX3_houseToday 23 = .ok (.imul, 1) := by decide +kernel
theorem dX3_houseToday_24 : decode cX3_houseToday 24 = .ok (.iadd, 1) := by decide +kernel
theorem dX3_houseToday_25 : decode cX3_houseToday 25 = .ok (.aload_n 0, 1) := by decide +kernel
theorem dX3_houseToday_26 : decode cX3_houseToday 26 = .ok (.getfield 36, 3) := by decide +kernel
theorem dX3_houseToday_29 : decode cX3_houseToday 29 = .ok (.irem, 1) := by decide +kernel
theorem dX3_houseToday_30 : decode cX3_houseToday 30 = .ok (.goto 4, 3) := by decide +kernel
theorem dX3_houseToday_33 : decode cX3_houseToday 33 = .ok (.iconst 0, 1) := by decide +kernel
theorem dX3_houseToday_34 : decode cX3_houseToday 34 = .ok (.ireturn, 1) := by decide +kernel
theorem dX3_timesAway_0 : decode cX3_timesAway 0 = .ok (.aload_n 0, 1) := by decide +kernel
theorem dX3_timesAway_1 : decode cX3_timesAway 1 = .ok (.getfield 30, 3) := by decide +kernel
theorem dX3_timesAway_4 : decode cX3_timesAway 4 = .ok (.iload_n 1, 1) := by decide +kernel
theorem dX3_timesAway_5 : decode cX3_timesAway 5 = .ok (.iconst 5, 1) := by decide +kernel
theorem dX3_timesAway_6 : decode cX3_timesAway 6 = .ok (.imul, 1) := by decide +kernel
theorem dX3_timesAway_7 : decode cX3_timesAway 7 = .ok (.iload_n 2, 1) := by decide +kernel
theorem dX3_timesAway_8 : decode cX3_timesAway 8 = .ok (.iadd, 1) := by decide +kernel
theorem dX3_timesAway_9 : decode cX3_timesAway 9 = .ok (.iaload, 1) := by decide +kernel
theorem dX3_timesAway_10 : decode cX3_timesAway 10 = .ok (.ireturn, 1) := by decide +kernel
theorem dX3_makesToday_0 : decode cX3_makesToday 0 = .ok (.aload_n 0, 1) := by decide +kernel
theorem dX3_makesToday_1 : decode cX3_makesToday 1 = .ok (.getfield 18, 3) := by decide +kernel
theorem dX3_makesToday_4 : decode cX3_makesToday 4 = .ok (.iload_n 1, 1) := by decide +kernel
theorem dX3_makesToday_5 : decode cX3_makesToday 5 = .ok (.iaload, 1) := by decide +kernel
theorem dX3_makesToday_6 : decode cX3_makesToday 6 = .ok (.tableswitch 97 1 5 #[34, 41, 64, 97, 73], 34) := by decide +kernel
theorem dX3_makesToday_40 : decode cX3_makesToday 40 = .ok (.aload_n 0, 1) := by decide +kernel
theorem dX3_makesToday_41 : decode cX3_makesToday 41 = .ok (.getfield 24, 3) := by decide +kernel
theorem dX3_makesToday_44 : decode cX3_makesToday 44 = .ok (.iload_n 1, 1) := by decide +kernel
theorem dX3_makesToday_45 : decode cX3_makesToday 45 = .ok (.iaload, 1) := by decide +kernel
theorem dX3_makesToday_46 : decode cX3_makesToday 46 = .ok (.ireturn, 1) := by decide +kernel
theorem dX3_makesToday_47 : decode cX3_makesToday 47 = .ok (.aload_n 0, 1) := by decide +kernel
theorem dX3_makesToday_48 : decode cX3_makesToday 48 = .ok (.getfield 24, 3) := by decide +kernel
theorem dX3_makesToday_51 : decode cX3_makesToday 51 = .ok (.iload_n 1, 1) := by decide +kernel
theorem dX3_makesToday_52 : decode cX3_makesToday 52 = .ok (.iaload, 1) := by decide +kernel
theorem dX3_makesToday_53 : decode cX3_makesToday 53 = .ok (.bipush 9, 2) := by decide +kernel
theorem dX3_makesToday_55 : decode cX3_makesToday 55 = .ok (.aload_n 0, 1) := by decide +kernel
theorem dX3_makesToday_56 : decode cX3_makesToday 56 = .ok (.iload_n 1, 1) := by decide +kernel
theorem dX3_makesToday_57 : decode cX3_makesToday 57 = .ok (.aload_n 0, 1) := by decide +kernel
theorem dX3_makesToday_58 : decode cX3_makesToday 58 = .ok (.iload_n 1, 1) := by decide +kernel
theorem dX3_makesToday_59 : decode cX3_makesToday 59 = .ok (.invokevirtual 64, 3) := by decide +kernel
theorem dX3_makesToday_62 : decode cX3_makesToday 62 = .ok (.invokevirtual 68, 3) := by decide +kernel
theorem dX3_makesToday_65 : decode cX3_makesToday 65 = .ok (.invokestatic 72, 3) := by decide +kernel
theorem dX3_makesToday_68 : decode cX3_makesToday 68 = .ok (.iadd, 1) := by decide +kernel
theorem dX3_makesToday_69 : decode cX3_makesToday 69 = .ok (.ireturn, 1) := by decide +kernel
theorem dX3_makesToday_70 : decode cX3_makesToday 70 = .ok (.aload_n 0, 1) := by decide +kernel
theorem dX3_makesToday_71 : decode cX3_makesToday 71 = .ok (.getfield 24, 3) := by decide +kernel
theorem dX3_makesToday_74 : decode cX3_makesToday 74 = .ok (.iload_n 1, 1) := by decide +kernel
theorem dX3_makesToday_75 : decode cX3_makesToday 75 = .ok (.iaload, 1) := by decide +kernel
theorem dX3_makesToday_76 : decode cX3_makesToday 76 = .ok (.iconst 2, 1) := by decide +kernel
theorem dX3_makesToday_77 : decode cX3_makesToday 77 = .ok (.idiv, 1) := by decide +kernel
theorem dX3_makesToday_78 : decode cX3_makesToday 78 = .ok (.ireturn, 1) := by decide +kernel
theorem dX3_makesToday_79 : decode cX3_makesToday 79 = .ok (.aload_n 0, 1) := by decide +kernel
theorem dX3_makesToday_80 : decode cX3_makesToday 80 = .ok (.invokevirtual 77, 3) := by decide +kernel
theorem dX3_makesToday_83 : decode cX3_makesToday 83 = .ok (.ifCond .eq 14, 3) := by decide +kernel
theorem dX3_makesToday_86 : decode cX3_makesToday 86 = .ok (.iconst 2, 1) := by decide +kernel
theorem dX3_makesToday_87 : decode cX3_makesToday 87 = .ok (.aload_n 0, 1) := by decide +kernel
theorem dX3_makesToday_88 : decode cX3_makesToday 88 = .ok (.getfield 24, 3) := by decide +kernel
theorem dX3_makesToday_91 : decode cX3_makesToday 91 = .ok (.iload_n 1, 1) := by decide +kernel
theorem dX3_makesToday_92 : decode cX3_makesToday 92 = .ok (.iaload, 1) := by decide +kernel
theorem dX3_makesToday_93 : decode cX3_makesToday 93 = .ok (.imul, 1) := by decide +kernel
theorem dX3_makesToday_94 : decode cX3_makesToday 94 = .ok (.goto 8, 3) := by decide +kernel
theorem dX3_makesToday_97 : decode cX3_makesToday 97 = .ok (.aload_n 0, 1) := by decide +kernel
theorem dX3_makesToday_98 : decode cX3_makesToday 98 = .ok (.iload_n 1, 1) := by decide +kernel
theorem dX3_makesToday_99 : decode cX3_makesToday 99 = .ok (.invokevirtual 81, 3) := by decide +kernel
theorem dX3_makesToday_102 : decode cX3_makesToday 102 = .ok (.ireturn, 1) := by decide +kernel
theorem dX3_makesToday_103 : decode cX3_makesToday 103 = .ok (.aload_n 0, 1) := by decide +kernel
theorem dX3_makesToday_104 : decode cX3_makesToday 104 = .ok (.iload_n 1, 1) := by decide +kernel
theorem dX3_makesToday_105 : decode cX3_makesToday 105 = .ok (.invokevirtual 81, 3) := by decide +kernel
theorem dX3_makesToday_108 : decode cX3_makesToday 108 = .ok (.ireturn, 1) := by decide +kernel
theorem dX3_idly_0 : decode cX3_idly 0 = .ok (.aload_n 0, 1) := by decide +kernel
theorem dX3_idly_1 : decode cX3_idly 1 = .ok (.getfield 43, 3) := by decide +kernel
theorem dX3_idly_4 : decode cX3_idly 4 = .ok (.iconst 3, 1) := by decide +kernel
theorem dX3_idly_5 : decode cX3_idly 5 = .ok (.irem, 1) := by decide +kernel
theorem dX3_idly_6 : decode cX3_idly 6 = .ok (.ifCond .ne 12, 3) := by decide +kernel
theorem dX3_idly_9 : decode cX3_idly 9 = .ok (.aload_n 0, 1) := by decide +kernel
theorem dX3_idly_10 : decode cX3_idly 10 = .ok (.getfield 24, 3) := by decide +kernel
theorem dX3_idly_13 : decode cX3_idly 13 = .ok (.iload_n 1, 1) := by decide +kernel
theorem dX3_idly_14 : decode cX3_idly 14 = .ok (.iaload, 1) := by decide +kernel
theorem dX3_idly_15 : decode cX3_idly 15 = .ok (.goto 4, 3) := by decide +kernel
theorem dX3_idly_18 : decode cX3_idly 18 = .ok (.iconst 0, 1) := by decide +kernel
theorem dX3_idly_19 : decode cX3_idly 19 = .ok (.ireturn, 1) := by decide +kernel
theorem dX3_isRainy_0 : decode cX3_isRainy 0 = .ok (.bipush 7, 2) := by decide +kernel
theorem dX3_isRainy_2 : decode cX3_isRainy 2 = .ok (.aload_n 0, 1) := by decide +kernel
theorem dX3_isRainy_3 : decode cX3_isRainy 3 = .ok (.getfield 43, 3) := by decide +kernel
theorem dX3_isRainy_6 : decode cX3_isRainy 6 = .ok (.imul, 1) := by decide +kernel
theorem dX3_isRainy_7 : decode cX3_isRainy 7 = .ok (.bipush 10, 2) := by decide +kernel
theorem dX3_isRainy_9 : decode cX3_isRainy 9 = .ok (.irem, 1) := by decide +kernel
theorem dX3_isRainy_10 : decode cX3_isRainy 10 = .ok (.aload_n 0, 1) := by decide +kernel
theorem dX3_isRainy_11 : decode cX3_isRainy 11 = .ok (.getfield 55, 3) := by decide +kernel
theorem dX3_isRainy_14 : decode cX3_isRainy 14 = .ok (.if_icmp .ge 7, 3) := by decide +kernel
theorem dX3_isRainy_17 : decode cX3_isRainy 17 = .ok (.iconst 1, 1) := by decide +kernel
theorem dX3_isRainy_18 : decode cX3_isRainy 18 = .ok (.goto 4, 3) := by decide +kernel
theorem dX3_isRainy_21 : decode cX3_isRainy 21 = .ok (.iconst 0, 1) := by decide +kernel
theorem dX3_isRainy_22 : decode cX3_isRainy 22 = .ok (.ireturn, 1) := by decide +kernel
theorem dX3_isAway_0 : decode cX3_isAway 0 = .ok (.aload_n 0, 1) := by decide +kernel
theorem dX3_isAway_1 : decode cX3_isAway 1 = .ok (.getfield 49, 3) := by decide +kernel
theorem dX3_isAway_4 : decode cX3_isAway 4 = .ok (.iload_n 1, 1) := by decide +kernel
theorem dX3_isAway_5 : decode cX3_isAway 5 = .ok (.invokestatic 84, 3) := by decide +kernel
theorem dX3_isAway_8 : decode cX3_isAway 8 = .ok (.ifCond .ne 16, 3) := by decide +kernel
theorem dX3_isAway_11 : decode cX3_isAway 11 = .ok (.aload_n 0, 1) := by decide +kernel
theorem dX3_isAway_12 : decode cX3_isAway 12 = .ok (.iload_n 1, 1) := by decide +kernel
theorem dX3_isAway_13 : decode cX3_isAway 13 = .ok (.invokevirtual 64, 3) := by decide +kernel
theorem dX3_isAway_16 : decode cX3_isAway 16 = .ok (.iload_n 2, 1) := by decide +kernel
theorem dX3_isAway_17 : decode cX3_isAway 17 = .ok (.if_icmp .ne 7, 3) := by decide +kernel
theorem dX3_isAway_20 : decode cX3_isAway 20 = .ok (.iconst 1, 1) := by decide +kernel
theorem dX3_isAway_21 : decode cX3_isAway 21 = .ok (.goto 4, 3) := by decide +kernel
theorem dX3_isAway_24 : decode cX3_isAway 24 = .ok (.iconst 0, 1) := by decide +kernel
theorem dX3_isAway_25 : decode cX3_isAway 25 = .ok (.ireturn, 1) := by decide +kernel
theorem dX3_awayFrom_0 : decode cX3_awayFrom 0 = .ok (.iconst 0, 1) := by decide +kernel
theorem dX3_awayFrom_1 : decode cX3_awayFrom 1 = .ok (.istore_n 2, 1) := by decide +kernel
theorem dX3_awayFrom_2 : decode cX3_awayFrom 2 = .ok (.iconst 0, 1) := by decide +kernel
theorem dX3_awayFrom_3 : decode cX3_awayFrom 3 = .ok (.istore_n 3, 1) := by decide +kernel
theorem dX3_awayFrom_4 : decode cX3_awayFrom 4 = .ok (.iload_n 3, 1) := by decide +kernel
theorem dX3_awayFrom_5 : decode cX3_awayFrom 5 = .ok (.aload_n 0, 1) := by decide +kernel
theorem dX3_awayFrom_6 : decode cX3_awayFrom 6 = .ok (.getfield 40, 3) := by decide +kernel
theorem dX3_awayFrom_9 : decode cX3_awayFrom 9 = .ok (.if_icmp .ge 24, 3) := by decide +kernel
theorem dX3_awayFrom_12 : decode cX3_awayFrom 12 = .ok (.aload_n 0, 1) := by decide +kernel
theorem dX3_awayFrom_13 : decode cX3_awayFrom 13 = .ok (.iload_n 3, 1) := by decide +kernel
theorem dX3_awayFrom_14 : decode cX3_awayFrom 14 = .ok (.iload_n 1, 1) := by decide +kernel
theorem dX3_awayFrom_15 : decode cX3_awayFrom 15 = .ok (.invokevirtual 87, 3) := by decide +kernel
theorem dX3_awayFrom_18 : decode cX3_awayFrom 18 = .ok (.ifCond .eq 9, 3) := by decide +kernel
theorem dX3_awayFrom_21 : decode cX3_awayFrom 21 = .ok (.iload_n 2, 1) := by decide +kernel
theorem dX3_awayFrom_22 : decode cX3_awayFrom 22 = .ok (.iconst 1, 1) := by decide +kernel
theorem dX3_awayFrom_23 : decode cX3_awayFrom 23 = .ok (.iload_n 3, 1) := by decide +kernel
theorem dX3_awayFrom_24 : decode cX3_awayFrom 24 = .ok (.ishl, 1) := by decide +kernel
theorem dX3_awayFrom_25 : decode cX3_awayFrom 25 = .ok (.ior, 1) := by decide +kernel
theorem dX3_awayFrom_26 : decode cX3_awayFrom 26 = .ok (.istore_n 2, 1) := by decide +kernel
theorem dX3_awayFrom_27 : decode cX3_awayFrom 27 = .ok (.iinc 3 1, 3) := by decide +kernel
theorem dX3_awayFrom_30 : decode cX3_awayFrom 30 = .ok (.goto (-26), 3) := by decide +kernel
theorem dX3_awayFrom_33 : decode cX3_awayFrom 33 = .ok (.iload_n 2, 1) := by decide +kernel
theorem dX3_awayFrom_34 : decode cX3_awayFrom 34 = .ok (.ireturn, 1) := by decide +kernel
theorem dX3_madeAt_0 : decode cX3_madeAt 0 = .ok (.iconst 0, 1) := by decide +kernel
theorem dX3_madeAt_1 : decode cX3_madeAt 1 = .ok (.istore_n 2, 1) := by decide +kernel
theorem dX3_madeAt_2 : decode cX3_madeAt 2 = .ok (.iconst 0, 1) := by decide +kernel
theorem dX3_madeAt_3 : decode cX3_madeAt 3 = .ok (.istore_n 3, 1) := by decide +kernel
theorem dX3_madeAt_4 : decode cX3_madeAt 4 = .ok (.iload_n 3, 1) := by decide +kernel
theorem dX3_madeAt_5 : decode cX3_madeAt 5 = .ok (.aload_n 0, 1) := by decide +kernel
theorem dX3_madeAt_6 : decode cX3_madeAt 6 = .ok (.getfield 40, 3) := by decide +kernel
theorem dX3_madeAt_9 : decode cX3_madeAt 9 = .ok (.if_icmp .ge 26, 3) := by decide +kernel
theorem dX3_madeAt_12 : decode cX3_madeAt 12 = .ok (.aload_n 0, 1) := by decide +kernel
theorem dX3_madeAt_13 : decode cX3_madeAt 13 = .ok (.iload_n 3, 1) := by decide +kernel
theorem dX3_madeAt_14 : decode cX3_madeAt 14 = .ok (.iload_n 1, 1) := by decide +kernel
theorem dX3_madeAt_15 : decode cX3_madeAt 15 = .ok (.invokevirtual 87, 3) := by decide +kernel
theorem dX3_madeAt_18 : decode cX3_madeAt 18 = .ok (.ifCond .eq 11, 3) := by decide +kernel
theorem dX3_madeAt_21 : decode cX3_madeAt 21 = .ok (.iload_n 2, 1) := by decide +kernel
theorem dX3_madeAt_22 : decode cX3_madeAt 22 = .ok (.aload_n 0, 1) := by decide +kernel
theorem dX3_madeAt_23 : decode cX3_madeAt 23 = .ok (.iload_n 3, 1) := by decide +kernel
theorem dX3_madeAt_24 : decode cX3_madeAt 24 = .ok (.invokevirtual 91, 3) := by decide +kernel
theorem dX3_madeAt_27 : decode cX3_madeAt 27 = .ok (.iadd, 1) := by decide +kernel
theorem dX3_madeAt_28 : decode cX3_madeAt 28 = .ok (.istore_n 2, 1) := by decide +kernel
theorem dX3_madeAt_29 : decode cX3_madeAt 29 = .ok (.iinc 3 1, 3) := by decide +kernel
theorem dX3_madeAt_32 : decode cX3_madeAt 32 = .ok (.goto (-28), 3) := by decide +kernel
theorem dX3_madeAt_35 : decode cX3_madeAt 35 = .ok (.iload_n 2, 1) := by decide +kernel
theorem dX3_madeAt_36 : decode cX3_madeAt 36 = .ok (.ireturn, 1) := by decide +kernel
theorem dX3_feltByAll_0 : decode cX3_feltByAll 0 = .ok (.iconst 0, 1) := by decide +kernel
theorem dX3_feltByAll_1 : decode cX3_feltByAll 1 = .ok (.istore_n 1, 1) := by decide +kernel
theorem dX3_feltByAll_2 : decode cX3_feltByAll 2 = .ok (.iconst 0, 1) := by decide +kernel
theorem dX3_feltByAll_3 : decode cX3_feltByAll 3 = .ok (.istore_n 2, 1) := by decide +kernel
theorem dX3_feltByAll_4 : decode cX3_feltByAll 4 = .ok (.iload_n 2, 1) := by decide +kernel
theorem dX3_feltByAll_5 : decode cX3_feltByAll 5 = .ok (.aload_n 0, 1) := by decide +kernel
theorem dX3_feltByAll_6 : decode cX3_feltByAll 6 = .ok (.getfield 36, 3) := by decide +kernel
theorem dX3_feltByAll_9 : decode cX3_feltByAll 9 = .ok (.if_icmp .ge 18, 3) := by decide +kernel
theorem dX3_feltByAll_12 : decode cX3_feltByAll 12 = .ok (.iload_n 1, 1) := by decide +kernel
theorem dX3_feltByAll_13 : decode cX3_feltByAll 13 = .ok (.aload_n 0, 1) := by decide +kernel
theorem dX3_feltByAll_14 : decode cX3_feltByAll 14 = .ok (.getfield 9, 3) := by decide +kernel
theorem dX3_feltByAll_17 : decode cX3_feltByAll 17 = .ok (.iload_n 2, 1) := by decide +kernel
theorem dX3_feltByAll_18 : decode cX3_feltByAll 18 = .ok (.iaload, 1) := by decide +kernel
theorem dX3_feltByAll_19 : decode cX3_feltByAll 19 = .ok (.iadd, 1) := by decide +kernel
theorem dX3_feltByAll_20 : decode cX3_feltByAll 20 = .ok (.istore_n 1, 1) := by decide +kernel
theorem dX3_feltByAll_21 : decode cX3_feltByAll 21 = .ok (.iinc 2 1, 3) := by decide +kernel
theorem dX3_feltByAll_24 : decode cX3_feltByAll 24 = .ok (.goto (-20), 3) := by decide +kernel
theorem dX3_feltByAll_27 : decode cX3_feltByAll 27 = .ok (.iload_n 1, 1) := by decide +kernel
theorem dX3_feltByAll_28 : decode cX3_feltByAll 28 = .ok (.ireturn, 1) := by decide +kernel
theorem dX3_ofKind_0 : decode cX3_ofKind 0 = .ok (.iconst 0, 1) := by decide +kernel
theorem dX3_ofKind_1 : decode cX3_ofKind 1 = .ok (.istore_n 2, 1) := by decide +kernel
theorem dX3_ofKind_2 : decode cX3_ofKind 2 = .ok (.iconst 0, 1) := by decide +kernel
theorem dX3_ofKind_3 : decode cX3_ofKind 3 = .ok (.istore_n 3, 1) := by decide +kernel
theorem dX3_ofKind_4 : decode cX3_ofKind 4 = .ok (.iload_n 3, 1) := by decide +kernel
theorem dX3_ofKind_5 : decode cX3_ofKind 5 = .ok (.aload_n 0, 1) := by decide +kernel
theorem dX3_ofKind_6 : decode cX3_ofKind 6 = .ok (.getfield 40, 3) := by decide +kernel
theorem dX3_ofKind_9 : decode cX3_ofKind 9 = .ok (.if_icmp .ge 25, 3) := by decide +kernel
theorem dX3_ofKind_12 : decode cX3_ofKind 12 = .ok (.aload_n 0, 1) := by decide +kernel
theorem dX3_ofKind_13 : decode cX3_ofKind 13 = .ok (.getfield 18, 3) := by decide +kernel
theorem dX3_ofKind_16 : decode cX3_ofKind 16 = .ok (.iload_n 3, 1) := by decide +kernel
theorem dX3_ofKind_17 : decode cX3_ofKind 17 = .ok (.iaload, 1) := by decide +kernel
theorem dX3_ofKind_18 : decode cX3_ofKind 18 = .ok (.iload_n 1, 1) := by decide +kernel
theorem dX3_ofKind_19 : decode cX3_ofKind 19 = .ok (.if_icmp .ne 9, 3) := by decide +kernel
theorem dX3_ofKind_22 : decode cX3_ofKind 22 = .ok (.iload_n 2, 1) := by decide +kernel
theorem dX3_ofKind_23 : decode cX3_ofKind 23 = .ok (.iconst 1, 1) := by decide +kernel
theorem dX3_ofKind_24 : decode cX3_ofKind 24 = .ok (.iload_n 3, 1) := by decide +kernel
theorem dX3_ofKind_25 : decode cX3_ofKind 25 = .ok (.ishl, 1) := by decide +kernel
theorem dX3_ofKind_26 : decode cX3_ofKind 26 = .ok (.ior, 1) := by decide +kernel
theorem dX3_ofKind_27 : decode cX3_ofKind 27 = .ok (.istore_n 2, 1) := by decide +kernel
theorem dX3_ofKind_28 : decode cX3_ofKind 28 = .ok (.iinc 3 1, 3) := by decide +kernel
theorem dX3_ofKind_31 : decode cX3_ofKind 31 = .ok (.goto (-27), 3) := by decide +kernel
theorem dX3_ofKind_34 : decode cX3_ofKind 34 = .ok (.iload_n 2, 1) := by decide +kernel
theorem dX3_ofKind_35 : decode cX3_ofKind 35 = .ok (.ireturn, 1) := by decide +kernel
theorem dX3_sendTo_0 : decode cX3_sendTo 0 = .ok (.aload_n 0, 1) := by decide +kernel
theorem dX3_sendTo_1 : decode cX3_sendTo 1 = .ok (.getfield 21, 3) := by decide +kernel
theorem dX3_sendTo_4 : decode cX3_sendTo 4 = .ok (.iload_n 1, 1) := by decide +kernel
theorem dX3_sendTo_5 : decode cX3_sendTo 5 = .ok (.iload_n 2, 1) := by decide +kernel
theorem dX3_sendTo_6 : decode cX3_sendTo 6 = .ok (.iastore, 1) := by decide +kernel
theorem dX3_sendTo_7 : decode cX3_sendTo 7 = .ok (.iconst 0, 1) := by decide +kernel
theorem dX3_sendTo_8 : decode cX3_sendTo 8 = .ok (.istore_n 3, 1) := by decide +kernel
theorem dX3_sendTo_9 : decode cX3_sendTo 9 = .ok (.iload_n 3, 1) := by decide +kernel
theorem dX3_sendTo_10 : decode cX3_sendTo 10 = .ok (.iconst 5, 1) := by decide +kernel
theorem dX3_sendTo_11 : decode cX3_sendTo 11 = .ok (.if_icmp .ge 20, 3) := by decide +kernel
theorem dX3_sendTo_14 : decode cX3_sendTo 14 = .ok (.aload_n 0, 1) := by decide +kernel
theorem dX3_sendTo_15 : decode cX3_sendTo 15 = .ok (.getfield 30, 3) := by decide +kernel
theorem dX3_sendTo_18 : decode cX3_sendTo 18 = .ok (.iload_n 1, 1) := by decide +kernel
theorem dX3_sendTo_19 : decode cX3_sendTo 19 = .ok (.iconst 5, 1) := by decide +kernel
theorem dX3_sendTo_20 : decode cX3_sendTo 20 = .ok (.imul, 1) := by decide +kernel
theorem dX3_sendTo_21 : decode cX3_sendTo 21 = .ok (.iload_n 3, 1) := by decide +kernel
theorem dX3_sendTo_22 : decode cX3_sendTo 22 = .ok (.iadd, 1) := by decide +kernel
theorem dX3_sendTo_23 : decode cX3_sendTo 23 = .ok (.iconst 0, 1) := by decide +kernel
theorem dX3_sendTo_24 : decode cX3_sendTo 24 = .ok (.iastore, 1) := by decide +kernel
theorem dX3_sendTo_25 : decode cX3_sendTo 25 = .ok (.iinc 3 1, 3) := by decide +kernel
theorem dX3_sendTo_28 : decode cX3_sendTo 28 = .ok (.goto (-19), 3) := by decide +kernel
theorem dX3_sendTo_31 : decode cX3_sendTo 31 = .ok (.return_, 1) := by decide +kernel
theorem dX3_sendByDraw_0 : decode cX3_sendByDraw 0 = .ok (.lload_n 1, 1) := by decide +kernel
theorem dX3_sendByDraw_1 : decode cX3_sendByDraw 1 = .ok (.ldc2_w 94, 3) := by decide +kernel
theorem dX3_sendByDraw_4 : decode cX3_sendByDraw 4 = .ok (.lrem, 1) := by decide +kernel
theorem dX3_sendByDraw_5 : decode cX3_sendByDraw 5 = .ok (.lconst 0, 1) := by decide +kernel
theorem dX3_sendByDraw_6 : decode cX3_sendByDraw 6 = .ok (.lcmp, 1) := by decide +kernel
theorem dX3_sendByDraw_7 : decode cX3_sendByDraw 7 = .ok (.ifCond .ne 37, 3) := by decide +kernel
theorem dX3_sendByDraw_10 : decode cX3_sendByDraw 10 = .ok (.aload_n 0, 1) := by decide +kernel
theorem dX3_sendByDraw_11 : decode cX3_sendByDraw 11 = .ok (.getfield 40, 3) := by decide +kernel
theorem dX3_sendByDraw_14 : decode cX3_sendByDraw 14 = .ok (.ifCond .le 30, 3) := by decide +kernel
theorem dX3_sendByDraw_17 : decode cX3_sendByDraw 17 = .ok (.aload_n 0, 1) := by decide +kernel
theorem dX3_sendByDraw_18 : decode cX3_sendByDraw 18 = .ok (.getfield 36, 3) := by decide +kernel
theorem dX3_sendByDraw_21 : decode cX3_sendByDraw 21 = .ok (.ifCond .le 23, 3) := by decide +kernel
theorem dX3_sendByDraw_24 : decode cX3_sendByDraw 24 = .ok (.aload_n 0, 1) := by decide +kernel
theorem dX3_sendByDraw_25 : decode cX3_sendByDraw 25 = .ok (.lload_n 1, 1) := by decide +kernel
theorem dX3_sendByDraw_26 : decode cX3_sendByDraw 26 = .ok (.aload_n 0, 1) := by decide +kernel
theorem dX3_sendByDraw_27 : decode cX3_sendByDraw 27 = .ok (.getfield 40, 3) := by decide +kernel
theorem dX3_sendByDraw_30 : decode cX3_sendByDraw 30 = .ok (.i2l, 1) := by decide +kernel
theorem dX3_sendByDraw_31 : decode cX3_sendByDraw 31 = .ok (.lrem, 1) := by decide +kernel
theorem dX3_sendByDraw_32 : decode cX3_sendByDraw 32 = .ok (.l2i, 1) := by decide +kernel
theorem dX3_sendByDraw_33 : decode cX3_sendByDraw 33 = .ok (.lload_n 1, 1) := by decide +kernel
theorem dX3_sendByDraw_34 : decode cX3_sendByDraw 34 = .ok (.aload_n 0, 1) := by decide +kernel
theorem dX3_sendByDraw_35 : decode cX3_sendByDraw 35 = .ok (.getfield 36, 3) := by decide +kernel
theorem dX3_sendByDraw_38 : decode cX3_sendByDraw 38 = .ok (.i2l, 1) := by decide +kernel
theorem dX3_sendByDraw_39 : decode cX3_sendByDraw 39 = .ok (.lrem, 1) := by decide +kernel
theorem dX3_sendByDraw_40 : decode cX3_sendByDraw 40 = .ok (.l2i, 1) := by decide +kernel
theorem dX3_sendByDraw_41 : decode cX3_sendByDraw 41 = .ok (.invokevirtual 96, 3) := by decide +kernel
theorem dX3_sendByDraw_44 : decode cX3_sendByDraw 44 = .ok (.return_, 1) := by decide +kernel
theorem dX3_passDays_0 : decode cX3_passDays 0 = .ok (.iconst 0, 1) := by decide +kernel
theorem dX3_passDays_1 : decode cX3_passDays 1 = .ok (.istore_n 2, 1) := by decide +kernel
theorem dX3_passDays_2 : decode cX3_passDays 2 = .ok (.iload_n 2, 1) := by decide +kernel
theorem dX3_passDays_3 : decode cX3_passDays 3 = .ok (.iload_n 1, 1) := by decide +kernel
theorem dX3_passDays_4 : decode cX3_passDays 4 = .ok (.if_icmp .ge 14, 3) := by decide +kernel
theorem dX3_passDays_7 : decode cX3_passDays 7 = .ok (.aload_n 0, 1) := by decide +kernel
theorem dX3_passDays_8 : decode cX3_passDays 8 = .ok (.invokevirtual 100, 3) := by decide +kernel
theorem dX3_passDays_11 : decode cX3_passDays 11 = .ok (.pop, 1) := by decide +kernel
theorem dX3_passDays_12 : decode cX3_passDays 12 = .ok (.iinc 2 1, 3) := by decide +kernel
theorem dX3_passDays_15 : decode cX3_passDays 15 = .ok (.goto (-13), 3) := by decide +kernel
theorem dX3_passDays_18 : decode cX3_passDays 18 = .ok (.return_, 1) := by decide +kernel
theorem dX3_passDay_0 : decode cX3_passDay 0 = .ok (.aload_n 0, 1) := by decide +kernel
theorem dX3_passDay_1 : decode cX3_passDay 1 = .ok (.invokevirtual 104, 3) := by decide +kernel
theorem dX3_passDay_4 : decode cX3_passDay 4 = .ok (.istore_n 1, 1) := by decide +kernel
theorem dX3_passDay_5 : decode cX3_passDay 5 = .ok (.iconst 0, 1) := by decide +kernel
theorem dX3_passDay_6 : decode cX3_passDay 6 = .ok (.istore_n 2, 1) := by decide +kernel
theorem dX3_passDay_7 : decode cX3_passDay 7 = .ok (.iconst 0, 1) := by decide +kernel
theorem dX3_passDay_8 : decode cX3_passDay 8 = .ok (.istore_n 3, 1) := by decide +kernel
theorem dX3_passDay_9 : decode cX3_passDay 9 = .ok (.iload_n 3, 1) := by decide +kernel
theorem dX3_passDay_10 : decode cX3_passDay 10 = .ok (.aload_n 0, 1) := by decide +kernel
theorem dX3_passDay_11 : decode cX3_passDay 11 = .ok (.getfield 36, 3) := by decide +kernel
theorem dX3_passDay_14 : decode cX3_passDay 14 = .ok (.if_icmp .ge 107, 3) := by decide +kernel
theorem dX3_passDay_17 : decode cX3_passDay 17 = .ok (.iload_n 1, 1) := by decide +kernel
theorem dX3_passDay_18 : decode cX3_passDay 18 = .ok (.iload_n 3, 1) := by decide +kernel
theorem dX3_passDay_19 : decode cX3_passDay 19 = .ok (.invokestatic 84, 3) := by decide +kernel
theorem dX3_passDay_22 : decode cX3_passDay 22 = .ok (.ifCond .ne 24, 3) := by decide +kernel
theorem dX3_passDay_25 : decode cX3_passDay 25 = .ok (.aload_n 0, 1) := by decide +kernel
theorem dX3_passDay_26 : decode cX3_passDay 26 = .ok (.getfield 9, 3) := by decide +kernel
theorem dX3_passDay_29 : decode cX3_passDay 29 = .ok (.iload_n 3, 1) := by decide +kernel
theorem dX3_passDay_30 : decode cX3_passDay 30 = .ok (.iconst 0, 1) := by decide +kernel
theorem dX3_passDay_31 : decode cX3_passDay 31 = .ok (.aload_n 0, 1) := by decide +kernel
theorem dX3_passDay_32 : decode cX3_passDay 32 = .ok (.getfield 9, 3) := by decide +kernel
theorem dX3_passDay_35 : decode cX3_passDay 35 = .ok (.iload_n 3, 1) := by decide +kernel
theorem dX3_passDay_36 : decode cX3_passDay 36 = .ok (.iaload, 1) := by decide +kernel
theorem dX3_passDay_37 : decode cX3_passDay 37 = .ok (.iconst 1, 1) := by decide +kernel
theorem dX3_passDay_38 : decode cX3_passDay 38 = .ok (.isub, 1) := by decide +kernel
theorem dX3_passDay_39 : decode cX3_passDay 39 = .ok (.invokestatic 107, 3) := by decide +kernel
theorem dX3_passDay_42 : decode cX3_passDay 42 = .ok (.iastore, 1) := by decide +kernel
theorem dX3_passDay_43 : decode cX3_passDay 43 = .ok (.goto 72, 3) := by decide +kernel
theorem dX3_passDay_46 : decode cX3_passDay 46 = .ok (.aload_n 0, 1) := by decide +kernel
theorem dX3_passDay_47 : decode cX3_passDay 47 = .ok (.getfield 33, 3) := by decide +kernel
theorem dX3_passDay_50 : decode cX3_passDay 50 = .ok (.iload_n 3, 1) := by decide +kernel
theorem dX3_passDay_51 : decode cX3_passDay 51 = .ok (.iaload, 1) := by decide +kernel
theorem dX3_passDay_52 : decode cX3_passDay 52 = .ok (.aload_n 0, 1) := by decide +kernel
theorem dX3_passDay_53 : decode cX3_passDay 53 = .ok (.getfield 15, 3) := by decide +kernel
theorem dX3_passDay_56 : decode cX3_passDay 56 = .ok (.iload_n 3, 1) := by decide +kernel
theorem dX3_passDay_57 : decode cX3_passDay 57 = .ok (.iaload, 1) := by decide +kernel
theorem dX3_passDay_58 : decode cX3_passDay 58 = .ok (.if_icmp .le 30, 3) := by decide +kernel
theorem dX3_passDay_61 : decode cX3_passDay 61 = .ok (.aload_n 0, 1) := by decide +kernel
theorem dX3_passDay_62 : decode cX3_passDay 62 = .ok (.getfield 9, 3) := by decide +kernel
theorem dX3_passDay_65 : decode cX3_passDay 65 = .ok (.iload_n 3, 1) := by decide +kernel
theorem dX3_passDay_66 : decode cX3_passDay 66 = .ok (.bipush 99, 2) := by decide +kernel
theorem dX3_passDay_68 : decode cX3_passDay 68 = .ok (.aload_n 0, 1) := by decide +kernel
theorem dX3_passDay_69 : decode cX3_passDay 69 = .ok (.getfield 9, 3) := by decide +kernel
theorem dX3_passDay_72 : decode cX3_passDay 72 = .ok (.iload_n 3, 1) := by decide +kernel
theorem dX3_passDay_73 : decode cX3_passDay 73 = .ok (.iaload, 1) := by decide +kernel
theorem dX3_passDay_74 : decode cX3_passDay 74 = .ok (.aload_n 0, 1) := by decide +kernel
theorem dX3_passDay_75 : decode cX3_passDay 75 = .ok (.getfield 33, 3) := by decide +kernel
theorem dX3_passDay_78 : decode cX3_passDay 78 = .ok (.iload_n 3, 1) := by decide +kernel
theorem dX3_passDay_79 : decode cX3_passDay 79 = .ok (.iaload, 1) := by decide +kernel
theorem dX3_passDay_80 : decode cX3_passDay 80 = .ok (.iadd, 1) := by decide +kernel
theorem dX3_passDay_81 : decode cX3_passDay 81 = .ok (.invokestatic 72, 3) := by decide +kernel
theorem dX3_passDay_84 : decode cX3_passDay 84 = .ok (.iastore, 1) := by decide +kernel
theorem dX3_passDay_85 : decode cX3_passDay 85 = .ok (.goto 30, 3) := by decide +kernel
theorem dX3_passDay_88 : decode cX3_passDay 88 = .ok (.aload_n 0, 1) := by decide +kernel
theorem dX3_passDay_89 : decode cX3_passDay 89 = .ok (.getfield 9, 3) := by decide +kernel
theorem dX3_passDay_92 : decode cX3_passDay 92 = .ok (.iload_n 3, 1) := by decide +kernel
theorem dX3_passDay_93 : decode cX3_passDay 93 = .ok (.iconst 0, 1) := by decide +kernel
theorem dX3_passDay_94 : decode cX3_passDay 94 = .ok (.aload_n 0, 1) := by decide +kernel
theorem dX3_passDay_95 : decode cX3_passDay 95 = .ok (.getfield 9, 3) := by decide +kernel
theorem dX3_passDay_98 : decode cX3_passDay 98 = .ok (.iload_n 3, 1) := by decide +kernel
theorem dX3_passDay_99 : decode cX3_passDay 99 = .ok (.iaload, 1) := by decide +kernel
theorem dX3_passDay_100 : decode cX3_passDay 100 = .ok (.aload_n 0, 1) := by decide +kernel
theorem dX3_passDay_101 : decode cX3_passDay 101 = .ok (.getfield 52, 3) := by decide +kernel
theorem dX3_passDay_104 : decode cX3_passDay 104 = .ok (.isub, 1) := by decide +kernel
theorem dX3_passDay_105 : decode cX3_passDay 105 = .ok (.invokestatic 107, 3) := by decide +kernel
theorem dX3_passDay_108 : decode cX3_passDay 108 = .ok (.iastore, 1) := by decide +kernel
theorem dX3_passDay_109 : decode cX3_passDay 109 = .ok (.iload_n 2, 1) := by decide +kernel
theorem dX3_passDay_110 : decode cX3_passDay 110 = .ok (.iconst 1, 1) := by decide +kernel
theorem dX3_passDay_111 : decode cX3_passDay 111 = .ok (.iload_n 3, 1) := by decide +kernel
theorem dX3_passDay_112 : decode cX3_passDay 112 = .ok (.ishl, 1) := by decide +kernel
theorem dX3_passDay_113 : decode cX3_passDay 113 = .ok (.ior, 1) := by decide +kernel
theorem dX3_passDay_114 : decode cX3_passDay 114 = .ok (.istore_n 2, 1) := by decide +kernel
theorem dX3_passDay_115 : decode cX3_passDay 115 = .ok (.iinc 3 1, 3) := by decide +kernel
theorem dX3_passDay_118 : decode cX3_passDay 118 = .ok (.goto (-109), 3) := by decide +kernel
theorem dX3_passDay_121 : decode cX3_passDay 121 = .ok (.aload_n 0, 1) := by decide +kernel
theorem dX3_passDay_122 : decode cX3_passDay 122 = .ok (.dup, 1) := by decide +kernel
theorem dX3_passDay_123 : decode cX3_passDay 123 = .ok (.getfield 43, 3) := by decide +kernel
theorem dX3_passDay_126 : decode cX3_passDay 126 = .ok (.iconst 1, 1) := by decide +kernel
theorem dX3_passDay_127 : decode cX3_passDay 127 = .ok (.iadd, 1) := by decide +kernel
theorem dX3_passDay_128 : decode cX3_passDay 128 = .ok (.putfield 43, 3) := by decide +kernel
theorem dX3_passDay_131 : decode cX3_passDay 131 = .ok (.iload_n 2, 1) := by decide +kernel
theorem dX3_passDay_132 : decode cX3_passDay 132 = .ok (.ireturn, 1) := by decide +kernel
theorem dX3_stayAway_0 : decode cX3_stayAway 0 = .ok (.iconst 0, 1) := by decide +kernel
theorem dX3_stayAway_1 : decode cX3_stayAway 1 = .ok (.istore_n 1, 1) := by decide +kernel
theorem dX3_stayAway_2 : decode cX3_stayAway 2 = .ok (.iload_n 1, 1) := by decide +kernel
theorem dX3_stayAway_3 : decode cX3_stayAway 3 = .ok (.iconst 5, 1) := by decide +kernel
theorem dX3_stayAway_4 : decode cX3_stayAway 4 = .ok (.if_icmp .ge 16, 3) := by decide +kernel
theorem dX3_stayAway_7 : decode cX3_stayAway 7 = .ok (.aload_n 0, 1) := by decide +kernel
theorem dX3_stayAway_8 : decode cX3_stayAway 8 = .ok (.getfield 33, 3) := by decide +kernel
theorem dX3_stayAway_11 : decode cX3_stayAway 11 = .ok (.iload_n 1, 1) := by decide +kernel
theorem dX3_stayAway_12 : decode cX3_stayAway 12 = .ok (.iconst 0, 1) := by decide +kernel
theorem dX3_stayAway_13 : decode cX3_stayAway 13 = .ok (.iastore, 1) := by decide +kernel
theorem dX3_stayAway_14 : decode cX3_stayAway 14 = .ok (.iinc 1 1, 3) := by decide +kernel
theorem dX3_stayAway_17 : decode cX3_stayAway 17 = .ok (.goto (-15), 3) := by decide +kernel
theorem dX3_stayAway_20 : decode cX3_stayAway 20 = .ok (.iconst 0, 1) := by decide +kernel
theorem dX3_stayAway_21 : decode cX3_stayAway 21 = .ok (.istore_n 1, 1) := by decide +kernel
theorem dX3_stayAway_22 : decode cX3_stayAway 22 = .ok (.iconst 0, 1) := by decide +kernel
theorem dX3_stayAway_23 : decode cX3_stayAway 23 = .ok (.istore_n 2, 1) := by decide +kernel
theorem dX3_stayAway_24 : decode cX3_stayAway 24 = .ok (.iload_n 2, 1) := by decide +kernel
theorem dX3_stayAway_25 : decode cX3_stayAway 25 = .ok (.aload_n 0, 1) := by decide +kernel
theorem dX3_stayAway_26 : decode cX3_stayAway 26 = .ok (.getfield 40, 3) := by decide +kernel
theorem dX3_stayAway_29 : decode cX3_stayAway 29 = .ok (.if_icmp .ge 60, 3) := by decide +kernel
theorem dX3_stayAway_32 : decode cX3_stayAway 32 = .ok (.aload_n 0, 1) := by decide +kernel
theorem dX3_stayAway_33 : decode cX3_stayAway 33 = .ok (.getfield 49, 3) := by decide +kernel
theorem dX3_stayAway_36 : decode cX3_stayAway 36 = .ok (.iload_n 2, 1) := by decide +kernel
theorem dX3_stayAway_37 : decode cX3_stayAway 37 = .ok (.invokestatic 84, 3) := by decide +kernel
theorem dX3_stayAway_40 : decode cX3_stayAway 40 = .ok (.ifCond .ne 43, 3) := by decide +kernel
theorem dX3_stayAway_43 : decode cX3_stayAway 43 = .ok (.aload_n 0, 1) := by decide +kernel
theorem dX3_stayAway_44 : decode cX3_stayAway 44 = .ok (.iload_n 2, 1) := by decide +kernel
theorem dX3_stayAway_45 : decode cX3_stayAway 45 = .ok (.invokevirtual 64, 3) := by decide +kernel
theorem dX3_stayAway_48 : decode cX3_stayAway 48 = .ok (.istore_n 3, 1) := by decide +kernel
theorem dX3_stayAway_49 : decode cX3_stayAway 49 = .ok (.aload_n 0, 1) := by decide +kernel
theorem dX3_stayAway_50 : decode cX3_stayAway 50 = .ok (.getfield 33, 3) := by decide +kernel
theorem dX3_stayAway_53 : decode cX3_stayAway 53 = .ok (.iload_n 3, 1) := by decide +kernel
theorem dX3_stayAway_54 : decode cX3_stayAway 54 = .ok (.dup2, 1) := by decide +kernel
theorem dX3_stayAway_55 : decode cX3_stayAway 55 = .ok (.iaload, 1) := by decide +kernel
theorem dX3_stayAway_56 : decode cX3_stayAway 56 = .ok (.aload_n 0, 1) := by decide +kernel
theorem dX3_stayAway_57 : decode cX3_stayAway 57 = .ok (.iload_n 2, 1) := by decide +kernel
theorem dX3_stayAway_58 : decode cX3_stayAway 58 = .ok (.invokevirtual 91, 3) := by decide +kernel
theorem dX3_stayAway_61 : decode cX3_stayAway 61 = .ok (.iadd, 1) := by decide +kernel
theorem dX3_stayAway_62 : decode cX3_stayAway 62 = .ok (.iastore, 1) := by decide +kernel
theorem dX3_stayAway_63 : decode cX3_stayAway 63 = .ok (.aload_n 0, 1) := by decide +kernel
theorem dX3_stayAway_64 : decode cX3_stayAway 64 = .ok (.getfield 30, 3) := by decide +kernel
theorem dX3_stayAway_67 : decode cX3_stayAway 67 = .ok (.iload_n 2, 1) := by decide +kernel
theorem dX3_stayAway_68 : decode cX3_stayAway 68 = .ok (.iconst 5, 1) := by decide +kernel
theorem dX3_stayAway_69 : decode cX3_stayAway 69 = .ok (.imul, 1) := by decide +kernel
theorem dX3_stayAway_70 : decode cX3_stayAway 70 = .ok (.iload_n 3, 1) := by decide +kernel
theorem dX3_stayAway_71 : decode cX3_stayAway 71 = .ok (.iadd, 1) := by decide +kernel
theorem dX3_stayAway_72 : decode cX3_stayAway 72 = .ok (.dup2, 1) := by decide +kernel
theorem dX3_stayAway_73 : decode cX3_stayAway 73 = .ok (.iaload, 1) := by decide +kernel
theorem dX3_stayAway_74 : decode cX3_stayAway 74 = .ok (.iconst 1, 1) := by decide +kernel
theorem dX3_stayAway_75 : decode cX3_stayAway 75 = .ok (.iadd, 1) := by decide +kernel
theorem dX3_stayAway_76 : decode cX3_stayAway 76 = .ok (.iastore, 1) := by decide +kernel
theorem dX3_stayAway_77 : decode cX3_stayAway 77 = .ok (.iload_n 1, 1) := by decide +kernel
theorem dX3_stayAway_78 : decode cX3_stayAway 78 = .ok (.iconst 1, 1) := by decide +kernel
theorem dX3_stayAway_79 : decode cX3_stayAway 79 = .ok (.iload_n 3, 1) := by decide +kernel
theorem dX3_stayAway_80 : decode cX3_stayAway 80 = .ok (.ishl, 1) := by decide +kernel
theorem dX3_stayAway_81 : decode cX3_stayAway 81 = .ok (.ior, 1) := by decide +kernel
theorem dX3_stayAway_82 : decode cX3_stayAway 82 = .ok (.istore_n 1, 1) := by decide +kernel
theorem dX3_stayAway_83 : decode cX3_stayAway 83 = .ok (.iinc 2 1, 3) := by decide +kernel
theorem dX3_stayAway_86 : decode cX3_stayAway 86 = .ok (.goto (-62), 3) := by decide +kernel
theorem dX3_stayAway_89 : decode cX3_stayAway 89 = .ok (.iload_n 1, 1) := by decide +kernel
theorem dX3_stayAway_90 : decode cX3_stayAway 90 = .ok (.ireturn, 1) := by decide +kernel
theorem dJ6_bitCount_0f7a4_0 : decode cJ6_bitCount_0f7a4 0 = .ok (.iload_n 0, 1) := by decide +kernel
theorem dJ6_bitCount_0f7a4_1 : decode cJ6_bitCount_0f7a4 1 = .ok (.iload_n 0, 1) := by decide +kernel
theorem dJ6_bitCount_0f7a4_2 : decode cJ6_bitCount_0f7a4 2 = .ok (.iconst 1, 1) := by decide +kernel
theorem dJ6_bitCount_0f7a4_3 : decode cJ6_bitCount_0f7a4 3 = .ok (.iushr, 1) := by decide +kernel
theorem dJ6_bitCount_0f7a4_4 : decode cJ6_bitCount_0f7a4 4 = .ok (.ldc_w 265, 3) := by decide +kernel
theorem dJ6_bitCount_0f7a4_7 : decode cJ6_bitCount_0f7a4 7 = .ok (.iand, 1) := by decide +kernel
theorem dJ6_bitCount_0f7a4_8 : decode cJ6_bitCount_0f7a4 8 = .ok (.isub, 1) := by decide +kernel
theorem dJ6_bitCount_0f7a4_9 : decode cJ6_bitCount_0f7a4 9 = .ok (.istore_n 0, 1) := by decide +kernel
theorem dJ6_bitCount_0f7a4_10 : decode cJ6_bitCount_0f7a4 10 = .ok (.iload_n 0, 1) := by decide +kernel
theorem dJ6_bitCount_0f7a4_11 : decode cJ6_bitCount_0f7a4 11 = .ok (.ldc_w 266, 3) := by decide +kernel
theorem dJ6_bitCount_0f7a4_14 : decode cJ6_bitCount_0f7a4 14 = .ok (.iand, 1) := by decide +kernel
theorem dJ6_bitCount_0f7a4_15 : decode cJ6_bitCount_0f7a4 15 = .ok (.iload_n 0, 1) := by decide +kernel
theorem dJ6_bitCount_0f7a4_16 : decode cJ6_bitCount_0f7a4 16 = .ok (.iconst 2, 1) := by decide +kernel
theorem dJ6_bitCount_0f7a4_17 : decode cJ6_bitCount_0f7a4 17 = .ok (.iushr, 1) := by decide +kernel
theorem dJ6_bitCount_0f7a4_18 : decode cJ6_bitCount_0f7a4 18 = .ok (.ldc_w 266, 3) := by decide +kernel
theorem dJ6_bitCount_0f7a4_21 : decode cJ6_bitCount_0f7a4 21 = .ok (.iand, 1) := by decide +kernel
theorem dJ6_bitCount_0f7a4_22 : decode cJ6_bitCount_0f7a4 22 = .ok (.iadd, 1) := by decide +kernel
theorem dJ6_bitCount_0f7a4_23 : decode cJ6_bitCount_0f7a4 23 = .ok (.istore_n 0, 1) := by decide +kernel
theorem dJ6_bitCount_0f7a4_24 : decode cJ6_bitCount_0f7a4 24 = .ok (.iload_n 0, 1) := by decide +kernel
theorem dJ6_bitCount_0f7a4_25 : decode cJ6_bitCount_0f7a4 25 = .ok (.iload_n 0, 1) := by decide +kernel
theorem dJ6_bitCount_0f7a4_26 : decode cJ6_bitCount_0f7a4 26 = .ok (.iconst 4, 1) := by decide +kernel
theorem dJ6_bitCount_0f7a4_27 : decode cJ6_bitCount_0f7a4 27 = .ok (.iushr, 1) := by decide +kernel
theorem dJ6_bitCount_0f7a4_28 : decode cJ6_bitCount_0f7a4 28 = .ok (.iadd, 1) := by decide +kernel
theorem dJ6_bitCount_0f7a4_29 : decode cJ6_bitCount_0f7a4 29 = .ok (.ldc_w 267, 3) := by decide +kernel
theorem dJ6_bitCount_0f7a4_32 : decode cJ6_bitCount_0f7a4 32 = .ok (.iand, 1) := by decide +kernel
theorem dJ6_bitCount_0f7a4_33 : decode cJ6_bitCount_0f7a4 33 = .ok (.istore_n 0, 1) := by decide +kernel
theorem dJ6_bitCount_0f7a4_34 : decode cJ6_bitCount_0f7a4 34 = .ok (.iload_n 0, 1) := by decide +kernel
theorem dJ6_bitCount_0f7a4_35 : decode cJ6_bitCount_0f7a4 35 = .ok (.iload_n 0, 1) := by decide +kernel
theorem dJ6_bitCount_0f7a4_36 : decode cJ6_bitCount_0f7a4 36 = .ok (.bipush 8, 2) := by decide +kernel
theorem dJ6_bitCount_0f7a4_38 : decode cJ6_bitCount_0f7a4 38 = .ok (.iushr, 1) := by decide +kernel
theorem dJ6_bitCount_0f7a4_39 : decode cJ6_bitCount_0f7a4 39 = .ok (.iadd, 1) := by decide +kernel
theorem dJ6_bitCount_0f7a4_40 : decode cJ6_bitCount_0f7a4 40 = .ok (.istore_n 0, 1) := by decide +kernel
theorem dJ6_bitCount_0f7a4_41 : decode cJ6_bitCount_0f7a4 41 = .ok (.iload_n 0, 1) := by decide +kernel
theorem dJ6_bitCount_0f7a4_42 : decode cJ6_bitCount_0f7a4 42 = .ok (.iload_n 0, 1) := by decide +kernel
theorem dJ6_bitCount_0f7a4_43 : decode cJ6_bitCount_0f7a4 43 = .ok (.bipush 16, 2) := by decide +kernel
theorem dJ6_bitCount_0f7a4_45 : decode cJ6_bitCount_0f7a4 45 = .ok (.iushr, 1) := by decide +kernel
theorem dJ6_bitCount_0f7a4_46 : decode cJ6_bitCount_0f7a4 46 = .ok (.iadd, 1) := by decide +kernel
theorem dJ6_bitCount_0f7a4_47 : decode cJ6_bitCount_0f7a4 47 = .ok (.istore_n 0, 1) := by decide +kernel
theorem dJ6_bitCount_0f7a4_48 : decode cJ6_bitCount_0f7a4 48 = .ok (.iload_n 0, 1) := by decide +kernel
theorem dJ6_bitCount_0f7a4_49 : decode cJ6_bitCount_0f7a4 49 = .ok (.bipush 63, 2) := by decide +kernel
theorem dJ6_bitCount_0f7a4_51 : decode cJ6_bitCount_0f7a4 51 = .ok (.iand, 1) := by decide +kernel
theorem dJ6_bitCount_0f7a4_52 : decode cJ6_bitCount_0f7a4 52 = .ok (.ireturn, 1) := by decide +kernel
theorem dJ9_max_7cf53_0 : decode cJ9_max_7cf53 0 = .ok (.iload_n 0, 1) := by decide +kernel
theorem dJ9_max_7cf53_1 : decode cJ9_max_7cf53 1 = .ok (.iload_n 1, 1) := by decide +kernel
theorem dJ9_max_7cf53_2 : decode cJ9_max_7cf53 2 = .ok (.if_icmp .lt 7, 3) := by decide +kernel
theorem dJ9_max_7cf53_5 : decode cJ9_max_7cf53 5 = .ok (.iload_n 0, 1) := by decide +kernel
theorem dJ9_max_7cf53_6 : decode cJ9_max_7cf53 6 = .ok (.goto 4, 3) := by decide +kernel
theorem dJ9_max_7cf53_9 : decode cJ9_max_7cf53 9 = .ok (.iload_n 1, 1) := by decide +kernel
theorem dJ9_max_7cf53_10 : decode cJ9_max_7cf53 10 = .ok (.ireturn, 1) := by decide +kernel
theorem dJ9_max_f86c9_0 : decode cJ9_max_f86c9 0 = .ok (.lload_n 0, 1) := by decide +kernel
theorem dJ9_max_f86c9_1 : decode cJ9_max_f86c9 1 = .ok (.lload_n 2, 1) := by decide +kernel
theorem dJ9_max_f86c9_2 : decode cJ9_max_f86c9 2 = .ok (.lcmp, 1) := by decide +kernel
theorem dJ9_max_f86c9_3 : decode cJ9_max_f86c9 3 = .ok (.ifCond .lt 7, 3) := by decide +kernel
theorem dJ9_max_f86c9_6 : decode cJ9_max_f86c9 6 = .ok (.lload_n 0, 1) := by decide +kernel
theorem dJ9_max_f86c9_7 : decode cJ9_max_f86c9 7 = .ok (.goto 4, 3) := by decide +kernel
theorem dJ9_max_f86c9_10 : decode cJ9_max_f86c9 10 = .ok (.lload_n 2, 1) := by decide +kernel
theorem dJ9_max_f86c9_11 : decode cJ9_max_f86c9 11 = .ok (.lreturn, 1) := by decide +kernel
theorem dJ9_min_7cf53_0 : decode cJ9_min_7cf53 0 = .ok (.iload_n 0, 1) := by decide +kernel
theorem dJ9_min_7cf53_1 : decode cJ9_min_7cf53 1 = .ok (.iload_n 1, 1) := by decide +kernel
theorem dJ9_min_7cf53_2 : decode cJ9_min_7cf53 2 = .ok (.if_icmp .gt 7, 3) := by decide +kernel
theorem dJ9_min_7cf53_5 : decode cJ9_min_7cf53 5 = .ok (.iload_n 0, 1) := by decide +kernel
theorem dJ9_min_7cf53_6 : decode cJ9_min_7cf53 6 = .ok (.goto 4, 3) := by decide +kernel
theorem dJ9_min_7cf53_9 : decode cJ9_min_7cf53 9 = .ok (.iload_n 1, 1) := by decide +kernel
theorem dJ9_min_7cf53_10 : decode cJ9_min_7cf53 10 = .ok (.ireturn, 1) := by decide +kernel
end
section
theorem dX4_init_0 : decode cX4_init 0 = .ok (.aload_n 0, 1) := by decide +kernel
theorem dX4_init_1 : decode cX4_init 1 = .ok (.invokespecial 1, 3) := by decide +kernel
theorem dX4_init_4 : decode cX4_init 4 = .ok (.aload_n 0, 1) := by decide +kernel
theorem dX4_init_5 : decode cX4_init 5 = .ok (.bipush 8, 2) := by decide +kernel
theorem dX4_init_7 : decode cX4_init 7 = .ok (.anewarray 9, 3) := by decide +kernel
theorem dX4_init_10 : decode cX4_init 10 = .ok (.putfield 11, 3) := by decide +kernel
theorem dX4_init_13 : decode cX4_init 13 = .ok (.iconst 0, 1) := by decide +kernel
theorem dX4_init_14 : decode cX4_init 14 = .ok (.istore_n 1, 1) := by decide +kernel
theorem dX4_init_15 : decode cX4_init 15 = .ok (.iload_n 1, 1) := by decide +kernel
theorem dX4_init_16 : decode cX4_init 16 = .ok (.bipush 8, 2) := by decide +kernel
theorem dX4_init_18 : decode cX4_init 18 = .ok (.if_icmp .ge 22, 3) := by decide +kernel
theorem dX4_init_21 : decode cX4_init 21 = .ok (.aload_n 0, 1) := by decide +kernel
theorem dX4_init_22 : decode cX4_init 22 = .ok (.getfield 11, 3) := by decide +kernel
theorem dX4_init_25 : decode cX4_init 25 = .ok (.iload_n 1, 1) := by decide +kernel
theorem dX4_init_26 : decode cX4_init 26 = .ok (.new 9, 3) := by decide +kernel
theorem dX4_init_29 : decode cX4_init 29 = .ok (.dup, 1) := by decide +kernel
theorem dX4_init_30 : decode cX4_init 30 = .ok (.invokespecial 15, 3) := by decide +kernel
theorem dX4_init_33 : decode cX4_init 33 = .ok (.aastore, 1) := by decide +kernel
theorem dX4_init_34 : decode cX4_init 34 = .ok (.iinc 1 1, 3) := by decide +kernel
theorem dX4_init_37 : decode cX4_init 37 = .ok (.goto (-22), 3) := by decide +kernel
theorem dX4_init_40 : decode cX4_init 40 = .ok (.aload_n 0, 1) := by decide +kernel
theorem dX4_init_41 : decode cX4_init 41 = .ok (.iconst 2, 1) := by decide +kernel
theorem dX4_init_42 : decode cX4_init 42 = .ok (.anewarray 16, 3) := by decide +kernel
theorem dX4_init_45 : decode cX4_init 45 = .ok (.putfield 18, 3) := by decide +kernel
theorem dX4_init_48 : decode cX4_init 48 = .ok (.iconst 0, 1) := by decide +kernel
theorem dX4_init_49 : decode cX4_init 49 = .ok (.istore_n 1, 1) := by decide +kernel
theorem dX4_init_50 : decode cX4_init 50 = .ok (.iload_n 1, 1) := by decide +kernel
theorem dX4_init_51 : decode cX4_init 51 = .ok (.iconst 2, 1) := by decide +kernel
theorem dX4_init_52 : decode cX4_init 52 = .ok (.if_icmp .ge 22, 3) := by decide +kernel
theorem dX4_init_55 : decode cX4_init 55 = .ok (.aload_n 0, 1) := by decide +kernel
theorem dX4_init_56 : decode cX4_init 56 = .ok (.getfield 18, 3) := by decide +kernel
theorem dX4_init_59 : decode cX4_init 59 = .ok (.iload_n 1, 1) := by decide +kernel
theorem dX4_init_60 : decode cX4_init 60 = .ok (.new 16, 3) := by decide +kernel
theorem dX4_init_63 : decode cX4_init 63 = .ok (.dup, 1) := by decide +kernel
theorem dX4_init_64 : decode cX4_init 64 = .ok (.invokespecial 22, 3) := by decide +kernel
theorem dX4_init_67 : decode cX4_init 67 = .ok (.aastore, 1) := by decide +kernel
theorem dX4_init_68 : decode cX4_init 68 = .ok (.iinc 1 1, 3) := by decide +kernel
theorem dX4_init_71 : decode cX4_init 71 = .ok (.goto (-21), 3) := by decide +kernel
theorem dX4_init_74 : decode cX4_init 74 = .ok (.aload_n 0, 1) := by decide +kernel
theorem dX4_init_75 : decode cX4_init 75 = .ok (.new 23, 3) := by decide +kernel
theorem dX4_init_78 : decode cX4_init 78 = .ok (.dup, 1) := by decide +kernel
theorem dX4_init_79 : decode cX4_init 79 = .ok (.invokespecial 25, 3) := by decide +kernel
theorem dX4_init_82 : decode cX4_init 82 = .ok (.putfield 26, 3) := by decide +kernel
theorem dX4_init_85 : decode cX4_init 85 = .ok (.aload_n 0, 1) := by decide +kernel
theorem dX4_init_86 : decode cX4_init 86 = .ok (.new 30, 3) := by decide +kernel
theorem dX4_init_89 : decode cX4_init 89 = .ok (.dup, 1) := by decide +kernel
theorem dX4_init_90 : decode cX4_init 90 = .ok (.invokespecial 32, 3) := by decide +kernel
theorem dX4_init_93 : decode cX4_init 93 = .ok (.putfield 33, 3) := by decide +kernel
theorem dX4_init_96 : decode cX4_init 96 = .ok (.aload_n 0, 1) := by decide +kernel
theorem dX4_init_97 : decode cX4_init 97 = .ok (.new 16, 3) := by decide +kernel
theorem dX4_init_100 : decode cX4_init 100 = .ok (.dup, 1) := by decide +kernel
theorem dX4_init_101 : decode cX4_init 101 = .ok (.invokespecial 22, 3) := by decide +kernel
theorem dX4_init_104 : decode cX4_init 104 = .ok (.putfield 37, 3) := by decide +kernel
theorem dX4_init_107 : decode cX4_init 107 = .ok (.aload_n 0, 1) := by decide +kernel
theorem dX4_init_108 : decode cX4_init 108 = .ok (.new 16, 3) := by decide +kernel
theorem dX4_init_111 : decode cX4_init 111 = .ok (.dup, 1) := by decide +kernel
theorem dX4_init_112 : decode cX4_init 112 = .ok (.invokespecial 22, 3) := by decide +kernel
theorem dX4_init_115 : decode cX4_init 115 = .ok (.putfield 41, 3) := by decide +kernel
theorem dX4_init_118 : decode cX4_init 118 = .ok (.aload_n 0, 1) := by decide +kernel
theorem dX4_init_119 : decode cX4_init 119 = .ok (.bipush 16, 2) := by decide +kernel
theorem dX4_init_121 : decode cX4_init 121 = .ok (.newarray .int, 2) := by decide +kernel
theorem dX4_init_123 : decode cX4_init 123 = .ok (.putfield 44, 3) := by decide +kernel
theorem dX4_init_126 : decode cX4_init 126 = .ok (.return_, 1) := by decide +kernel
theorem dX4_row_0 : decode cX4_row 0 = .ok (.aload_n 0, 1) := by decide +kernel
theorem dX4_row_1 : decode cX4_row 1 = .ok (.iload_n 1, 1) := by decide +kernel
theorem dX4_row_2 : decode cX4_row 2 = .ok (.invokevirtual 48, 3) := by decide +kernel
theorem dX4_row_5 : decode cX4_row 5 = .ok (.ifCond .eq 18, 3) := by decide +kernel
theorem dX4_row_8 : decode cX4_row 8 = .ok (.iload_n 2, 1) := by decide +kernel
theorem dX4_row_9 : decode cX4_row 9 = .ok (.iconst 0, 1) := by decide +kernel
theorem dX4_row_10 : decode cX4_row 10 = .ok (.iconst 2, 1) := by decide +kernel
theorem dX4_row_11 : decode cX4_row 11 = .ok (.invokestatic 52, 3) := by decide +kernel
theorem dX4_row_14 : decode cX4_row 14 = .ok (.ifCond .eq 9, 3) := by decide +kernel
theorem dX4_row_17 : decode cX4_row 17 = .ok (.iload_n 3, 1) := by decide +kernel
theorem dX4_row_18 : decode cX4_row 18 = .ok (.bipush 40, 2) := by decide +kernel
theorem dX4_row_20 : decode cX4_row 20 = .ok (.if_icmp .le 6, 3) := by decide +kernel
theorem dX4_row_23 : decode cX4_row 23 = .ok (.ldc 56, 2) := by decide +kernel
theorem dX4_row_25 : decode cX4_row 25 = .ok (.ireturn, 1) := by decide +kernel
theorem dX4_row_26 : decode cX4_row 26 = .ok (.iload_n 3, 1) := by decide +kernel
theorem dX4_row_27 : decode cX4_row 27 = .ok (.ifCond .ge 9, 3) := by decide +kernel
theorem dX4_row_30 : decode cX4_row 30 = .ok (.aload_n 0, 1) := by decide +kernel
theorem dX4_row_31 : decode cX4_row 31 = .ok (.iconst 4, 1) := by decide +kernel
theorem dX4_row_32 : decode cX4_row 32 = .ok (.invokevirtual 57, 3) := by decide +kernel
theorem dX4_row_35 : decode cX4_row 35 = .ok (.ireturn, 1) := by decide +kernel
theorem dX4_row_36 : decode cX4_row 36 = .ok (.aload_n 0, 1) := by decide +kernel
theorem dX4_row_37 : decode cX4_row 37 = .ok (.getfield 11, 3) := by decide +kernel
theorem dX4_row_40 : decode cX4_row 40 = .ok (.iload_n 1, 1) := by decide +kernel
theorem dX4_row_41 : decode cX4_row 41 = .ok (.aaload, 1) := by decide +kernel
theorem dX4_row_42 : decode cX4_row 42 = .ok (.iload_n 2, 1) := by decide +kernel
theorem dX4_row_43 : decode cX4_row 43 = .ok (.iload_n 3, 1) := by decide +kernel
theorem dX4_row_44 : decode cX4_row 44 = .ok (.invokevirtual 61, 3) := by decide +kernel
theorem dX4_row_47 : decode cX4_row 47 = .ok (.aload_n 0, 1) := by decide +kernel
theorem dX4_row_48 : decode cX4_row 48 = .ok (.iload_n 3, 1) := by decide +kernel
theorem dX4_row_49 : decode cX4_row 49 = .ok (.invokevirtual 65, 3) := by decide +kernel
theorem dX4_row_52 : decode cX4_row 52 = .ok (.ireturn, 1) := by decide +kernel
theorem dX4_set_0 : decode cX4_set 0 = .ok (.aload_n 0, 1) := by decide +kernel
theorem dX4_set_1 : decode cX4_set 1 = .ok (.iload_n 1, 1) := by decide +kernel
theorem dX4_set_2 : decode cX4_set 2 = .ok (.invokevirtual 48, 3) := by decide +kernel
theorem dX4_set_5 : decode cX4_set 5 = .ok (.ifCond .ne 6, 3) := by decide +kernel
theorem dX4_set_8 : decode cX4_set 8 = .ok (.ldc 56, 2) := by decide +kernel
theorem dX4_set_10 : decode cX4_set 10 = .ok (.ireturn, 1) := by decide +kernel
theorem dX4_set_11 : decode cX4_set 11 = .ok (.aload_n 0, 1) := by decide +kernel
theorem dX4_set_12 : decode cX4_set 12 = .ok (.getfield 11, 3) := by decide +kernel
theorem dX4_set_15 : decode cX4_set 15 = .ok (.iload_n 1, 1) := by decide +kernel
theorem dX4_set_16 : decode cX4_set 16 = .ok (.aaload, 1) := by decide +kernel
theorem dX4_set_17 : decode cX4_set 17 = .ok (.getfield 68, 3) := by decide +kernel
theorem dX4_set_20 : decode cX4_set 20 = .ok (.ifCond .ne 9, 3) := by decide +kernel
theorem dX4_set_23 : decode cX4_set 23 = .ok (.aload_n 0, 1) := by decide +kernel
theorem dX4_set_24 : decode cX4_set 24 = .ok (.iconst 1, 1) := by decide +kernel
theorem dX4_set_25 : decode cX4_set 25 = .ok (.invokevirtual 57, 3) := by decide +kernel
theorem dX4_set_28 : decode cX4_set 28 = .ok (.ireturn, 1) := by decide +kernel
theorem dX4_set_29 : decode cX4_set 29 = .ok (.aload_n 0, 1) := by decide +kernel
theorem dX4_set_30 : decode cX4_set 30 = .ok (.getfield 11, 3) := by decide +kernel
theorem dX4_set_33 : decode cX4_set 33 = .ok (.iload_n 1, 1) := by decide +kernel
theorem dX4_set_34 : decode cX4_set 34 = .ok (.aaload, 1) := by decide +kernel
theorem dX4_set_35 : decode cX4_set 35 = .ok (.iload_n 2, 1) := by decide +kernel
theorem dX4_set_36 : decode cX4_set 36 = .ok (.iconst 1, 1) := by decide +kernel
theorem dX4_set_37 : decode cX4_set 37 = .ok (.invokevirtual 72, 3) := by decide +kernel
theorem dX4_set_40 : decode cX4_set 40 = .ok (.ifCond .ne 9, 3) := by decide +kernel
theorem dX4_set_43 : decode cX4_set 43 = .ok (.aload_n 0, 1) := by decide +kernel
theorem dX4_set_44 : decode cX4_set 44 = .ok (.iconst 2, 1) := by decide +kernel
theorem dX4_set_45 : decode cX4_set 45 = .ok (.invokevirtual 57, 3) := by decide +kernel
theorem dX4_set_48 : decode cX4_set 48 = .ok (.ireturn, 1) := by decide +kernel
theorem dX4_set_49 : decode cX4_set 49 = .ok (.aload_n 0, 1) := by decide +kernel
theorem dX4_set_50 : decode cX4_set 50 = .ok (.aload_n 0, 1) := by decide +kernel
theorem dX4_set_51 : decode cX4_set 51 = .ok (.getfield 11, 3) := by decide +kernel
theorem dX4_set_54 : decode cX4_set 54 = .ok (.iload_n 1, 1) := by decide +kernel
theorem dX4_set_55 : decode cX4_set 55 = .ok (.aaload, 1) := by decide +kernel
theorem dX4_set_56 : decode cX4_set 56 = .ok (.iload_n 2, 1) := by decide +kernel
theorem dX4_set_57 : decode cX4_set 57 = .ok (.iload_n 3, 1) := by decide +kernel
theorem dX4_set_58 : decode cX4_set 58 = .ok (.invokevirtual 76, 3) := by decide +kernel
theorem dX4_set_61 : decode cX4_set 61 = .ok (.invokevirtual 65, 3) := by decide +kernel
theorem dX4_set_64 : decode cX4_set 64 = .ok (.ireturn, 1) := by decide +kernel
theorem dX4_copy_0 : decode cX4_copy 0 = .ok (.aload_n 0, 1) := by decide +kernel
theorem dX4_copy_1 : decode cX4_copy 1 = .ok (.iload_n 1, 1) := by decide +kernel
theorem dX4_copy_2 : decode cX4_copy 2 = .ok (.invokevirtual 48, 3) := by decide +kernel
theorem dX4_copy_5 : decode cX4_copy 5 = .ok (.ifCond .eq 11, 3) := by decide +kernel
theorem dX4_copy_8 : decode cX4_copy 8 = .ok (.aload_n 0, 1) := by decide +kernel
theorem dX4_copy_9 : decode cX4_copy 9 = .ok (.iload_n 3, 1) := by decide +kernel
theorem dX4_copy_10 : decode cX4_copy 10 = .ok (.invokevirtual 48, 3) := by decide +kernel
theorem dX4_copy_13 : decode cX4_copy 13 = .ok (.ifCond .ne 6, 3) := by decide +kernel
theorem dX4_copy_16 : decode cX4_copy 16 = .ok (.ldc 56, 2) := by decide +kernel
theorem dX4_copy_18 : decode cX4_copy 18 = .ok (.ireturn, 1) := by decide +kernel
theorem dX4_copy_19 : decode cX4_copy 19 = .ok (.aload_n 0, 1) := by decide +kernel
theorem dX4_copy_20 : decode cX4_copy 20 = .ok (.getfield 11, 3) := by decide +kernel
theorem dX4_copy_23 : decode cX4_copy 23 = .ok (.iload_n 1, 1) := by decide +kernel
theorem dX4_copy_24 : decode cX4_copy 24 = .ok (.aaload, 1) := by decide +kernel
theorem dX4_copy_25 : decode cX4_copy 25 = .ok (.astore 6, 2) := by decide +kernel
theorem dX4_copy_27 : decode cX4_copy 27 = .ok (.aload_n 0, 1) := by decide +kernel
theorem dX4_copy_28 : decode cX4_copy 28 = .ok (.getfield 11, 3) := by decide +kernel
theorem dX4_copy_31 : decode cX4_copy 31 = .ok (.iload_n 3, 1) := by decide +kernel
theorem dX4_copy_32 : decode cX4_copy 32 = .ok (.aaload, 1) := by decide +kernel
theorem dX4_copy_33 : decode cX4_copy 33 = .ok (.astore 7, 2) := by decide +kernel
theorem dX4_copy_35 : decode cX4_copy 35 = .ok (.aload 6, 2) := by decide +kernel
theorem dX4_copy_37 : decode cX4_copy 37 = .ok (.getfield 68, 3) := by decide +kernel
theorem dX4_copy_40 : decode cX4_copy 40 = .ok (.ifCond .eq 11, 3) := by decide +kernel
theorem dX4_copy_43 : decode cX4_copy 43 = .ok (.aload 7, 2) := by decide +kernel
theorem dX4_copy_45 : decode cX4_copy 45 = .ok (.getfield 68, 3) := by decide +kernel
theorem dX4_copy_48 : decode cX4_copy 48 = .ok (.ifCond .ne 9, 3) := by decide +kernel
theorem dX4_copy_51 : decode cX4_copy 51 = .ok (.aload_n 0, 1) := by decide +kernel
theorem dX4_copy_52 : decode cX4_copy 52 = .ok (.iconst 1, 1) := by decide +kernel
theorem dX4_copy_53 : decode cX4_copy 53 = .ok (.invokevirtual 57, 3) := by decide +kernel
theorem dX4_copy_56 : decode cX4_copy 56 = .ok (.ireturn, 1) := by decide +kernel
theorem dX4_copy_57 : decode cX4_copy 57 = .ok (.aload 6, 2) := by decide +kernel
theorem dX4_copy_59 : decode cX4_copy 59 = .ok (.getfield 80, 3) := by decide +kernel
theorem dX4_copy_62 : decode cX4_copy 62 = .ok (.aload 7, 2) := by decide +kernel
theorem dX4_copy_64 : decode cX4_copy 64 = .ok (.getfield 80, 3) := by decide +kernel
theorem dX4_copy_67 : decode cX4_copy 67 = .ok (.if_icmp .eq 9, 3) := by decide +kernel
theorem dX4_copy_70 : decode cX4_copy 70 = .ok (.aload_n 0, 1) := by decide +kernel
theorem dX4_copy_71 : decode cX4_copy 71 = .ok (.iconst 5, 1) := by decide +kernel
theorem dX4_copy_72 : decode cX4_copy 72 = .ok (.invokevirtual 57, 3) := by decide +kernel
theorem dX4_copy_75 : decode cX4_copy 75 = .ok (.ireturn, 1) := by decide +kernel
theorem dX4_copy_76 : decode cX4_copy 76 = .ok (.aload 6, 2) := by decide +kernel
theorem dX4_copy_78 : decode cX4_copy 78 = .ok (.iload_n 2, 1) := by decide +kernel
theorem dX4_copy_79 : decode cX4_copy 79 = .ok (.iload 5, 2) := by decide +kernel
theorem dX4_copy_81 : decode cX4_copy 81 = .ok (.invokevirtual 72, 3) := by decide +kernel
theorem dX4_copy_84 : decode cX4_copy 84 = .ok (.ifCond .eq 15, 3) := by decide +kernel
theorem dX4_copy_87 : decode cX4_copy 87 = .ok (.aload 7, 2) := by decide +kernel
theorem dX4_copy_89 : decode cX4_copy 89 = .ok (.iload 4, 2) := by decide +kernel
theorem dX4_copy_91 : decode cX4_copy 91 = .ok (.iload 5, 2) := by decide +kernel
theorem dX4_copy_93 : decode cX4_copy 93 = .ok (.invokevirtual 72, 3) := by decide +kernel
theorem dX4_copy_96 : decode cX4_copy 96 = .ok (.ifCond .ne 9, 3) := by decide +kernel
theorem dX4_copy_99 : decode cX4_copy 99 = .ok (.aload_n 0, 1) := by decide +kernel
theorem dX4_copy_100 : decode cX4_copy 100 = .ok (.iconst 2, 1) := by decide +kernel
theorem dX4_copy_101 : decode cX4_copy 101 = .ok (.invokevirtual 57, 3) := by decide +kernel
theorem dX4_copy_104 : decode cX4_copy 104 = .ok (.ireturn, 1) := by decide +kernel
theorem dX4_copy_105 : decode cX4_copy 105 = .ok (.aload 6, 2) := by decide +kernel
theorem dX4_copy_107 : decode cX4_copy 107 = .ok (.getfield 84, 3) := by decide +kernel
theorem dX4_copy_110 : decode cX4_copy 110 = .ok (.iload_n 2, 1) := by decide +kernel
theorem dX4_copy_111 : decode cX4_copy 111 = .ok (.aload 7, 2) := by decide +kernel
theorem dX4_copy_113 : decode cX4_copy 113 = .ok (.getfield 84, 3) := by decide +kernel
theorem dX4_copy_116 : decode cX4_copy 116 = .ok (.iload 4, 2) := by decide +kernel
theorem dX4_copy_118 : decode cX4_copy 118 = .ok (.iload 5, 2) := by decide +kernel
theorem dX4_copy_120 : decode cX4_copy 120 = .ok (.invokestatic 87, 3) := by decide +kernel
theorem dX4_copy_123 : decode cX4_copy 123 = .ok (.aload_n 0, 1) := by decide +kernel
theorem dX4_copy_124 : decode cX4_copy 124 = .ok (.iload 5, 2) := by decide +kernel
theorem dX4_copy_126 : decode cX4_copy 126 = .ok (.invokevirtual 65, 3) := by decide +kernel
theorem dX4_copy_129 : decode cX4_copy 129 = .ok (.ireturn, 1) := by decide +kernel
theorem dX4_drop_0 : decode cX4_drop 0 = .ok (.aload_n 0, 1) := by decide +kernel
theorem dX4_drop_1 : decode cX4_drop 1 = .ok (.iload_n 1, 1) := by decide +kernel
theorem dX4_drop_2 : decode cX4_drop 2 = .ok (.invokevirtual 48, 3) := by decide +kernel
theorem dX4_drop_5 : decode cX4_drop 5 = .ok (.ifCond .ne 6, 3) := by decide +kernel
theorem dX4_drop_8 : decode cX4_drop 8 = .ok (.ldc 56, 2) := by decide +kernel
theorem dX4_drop_10 : decode cX4_drop 10 = .ok (.ireturn, 1) := by decide +kernel
theorem dX4_drop_11 : decode cX4_drop 11 = .ok (.aload_n 0, 1) := by decide +kernel
theorem dX4_drop_12 : decode cX4_drop 12 = .ok (.getfield 11, 3) := by decide +kernel
theorem dX4_drop_15 : decode cX4_drop 15 = .ok (.iload_n 1, 1) := by decide +kernel
theorem dX4_drop_16 : decode cX4_drop 16 = .ok (.aaload, 1) := by decide +kernel
theorem dX4_drop_17 : decode cX4_drop 17 = .ok (.getfield 68, 3) := by decide +kernel
theorem dX4_drop_20 : decode cX4_drop 20 = .ok (.ifCond .ne 9, 3) := by decide +kernel
theorem dX4_drop_23 : decode cX4_drop 23 = .ok (.aload_n 0, 1) := by decide +kernel
theorem dX4_drop_24 : decode cX4_drop 24 = .ok (.iconst 1, 1) := by decide +kernel
theorem dX4_drop_25 : decode cX4_drop 25 = .ok (.invokevirtual 57, 3) := by decide +kernel
theorem dX4_drop_28 : decode cX4_drop 28 = .ok (.ireturn, 1) := by decide +kernel
theorem dX4_drop_29 : decode cX4_drop 29 = .ok (.aload_n 0, 1) := by decide +kernel
theorem dX4_drop_30 : decode cX4_drop 30 = .ok (.getfield 11, 3) := by decide +kernel
theorem dX4_drop_33 : decode cX4_drop 33 = .ok (.iload_n 1, 1) := by decide +kernel
theorem dX4_drop_34 : decode cX4_drop 34 = .ok (.aaload, 1) := by decide +kernel
theorem dX4_drop_35 : decode cX4_drop 35 = .ok (.iconst 0, 1) := by decide +kernel
theorem dX4_drop_36 : decode cX4_drop 36 = .ok (.putfield 68, 3) := by decide +kernel
theorem dX4_drop_39 : decode cX4_drop 39 = .ok (.aload_n 0, 1) := by decide +kernel
theorem dX4_drop_40 : decode cX4_drop 40 = .ok (.aload_n 0, 1) := by decide +kernel
theorem dX4_drop_41 : decode cX4_drop 41 = .ok (.getfield 11, 3) := by decide +kernel
theorem dX4_drop_44 : decode cX4_drop 44 = .ok (.iload_n 1, 1) := by decide +kernel
theorem dX4_drop_45 : decode cX4_drop 45 = .ok (.aaload, 1) := by decide +kernel
theorem dX4_drop_46 : decode cX4_drop 46 = .ok (.getfield 93, 3) := by decide +kernel
theorem dX4_drop_49 : decode cX4_drop 49 = .ok (.invokevirtual 65, 3) := by decide +kernel
theorem dX4_drop_52 : decode cX4_drop 52 = .ok (.ireturn, 1) := by decide +kernel
theorem dX4_feed_0 : decode cX4_feed 0 = .ok (.iload_n 1, 1) := by decide +kernel
theorem dX4_feed_1 : decode cX4_feed 1 = .ok (.iconst 0, 1) := by decide +kernel
theorem dX4_feed_2 : decode cX4_feed 2 = .ok (.sipush 255, 3) := by decide +kernel
theorem dX4_feed_5 : decode cX4_feed 5 = .ok (.invokestatic 52, 3) := by decide +kernel
theorem dX4_feed_8 : decode cX4_feed 8 = .ok (.ifCond .ne 6, 3) := by decide +kernel
theorem dX4_feed_11 : decode cX4_feed 11 = .ok (.ldc 56, 2) := by decide +kernel
theorem dX4_feed_13 : decode cX4_feed 13 = .ok (.ireturn, 1) := by decide +kernel
theorem dX4_feed_14 : decode cX4_feed 14 = .ok (.aload_n 0, 1) := by decide +kernel
theorem dX4_feed_15 : decode cX4_feed 15 = .ok (.getfield 26, 3) := by decide +kernel
theorem dX4_feed_18 : decode cX4_feed 18 = .ok (.iload_n 1, 1) := by decide +kernel
theorem dX4_feed_19 : decode cX4_feed 19 = .ok (.invokevirtual 96, 3) := by decide +kernel
theorem dX4_feed_22 : decode cX4_feed 22 = .ok (.ifCond .eq 13, 3) := by decide +kernel
theorem dX4_feed_25 : decode cX4_feed 25 = .ok (.aload_n 0, 1) := by decide +kernel
theorem dX4_feed_26 : decode cX4_feed 26 = .ok (.getfield 26, 3) := by decide +kernel
theorem dX4_feed_29 : decode cX4_feed 29 = .ok (.getfield 99, 3) := by decide +kernel
theorem dX4_feed_32 : decode cX4_feed 32 = .ok (.goto 5, 3) := by decide +kernel
theorem dX4_feed_35 : decode cX4_feed 35 = .ok (.ldc 100, 2) := by decide +kernel
theorem dX4_feed_37 : decode cX4_feed 37 = .ok (.ireturn, 1) := by decide +kernel
theorem dX4_town_0 : decode cX4_town 0 = .ok (.aload_n 0, 1) := by decide +kernel
theorem dX4_town_1 : decode cX4_town 1 = .ok (.getfield 26, 3) := by decide +kernel
theorem dX4_town_4 : decode cX4_town 4 = .ok (.aload_n 0, 1) := by decide +kernel
theorem dX4_town_5 : decode cX4_town 5 = .ok (.getfield 41, 3) := by decide +kernel
theorem dX4_town_8 : decode cX4_town 8 = .ok (.invokevirtual 101, 3) := by decide +kernel
theorem dX4_town_11 : decode cX4_town 11 = .ok (.ifCond .ne 25, 3) := by decide +kernel
theorem dX4_town_14 : decode cX4_town 14 = .ok (.aload_n 0, 1) := by decide +kernel
theorem dX4_town_15 : decode cX4_town 15 = .ok (.aload_n 0, 1) := by decide +kernel
theorem dX4_town_16 : decode cX4_town 16 = .ok (.getfield 26, 3) := by decide +kernel
theorem dX4_town_19 : decode cX4_town 19 = .ok (.getfield 105, 3) := by decide +kernel
theorem dX4_town_22 : decode cX4_town 22 = .ok (.putfield 108, 3) := by decide +kernel
theorem dX4_town_25 : decode cX4_town 25 = .ok (.ldc 111, 2) := by decide +kernel
theorem dX4_town_27 : decode cX4_town 27 = .ok (.aload_n 0, 1) := by decide +kernel
theorem dX4_town_28 : decode cX4_town 28 = .ok (.getfield 26, 3) := by decide +kernel
theorem dX4_town_31 : decode cX4_town 31 = .ok (.getfield 112, 3) := by decide +kernel
theorem dX4_town_34 : decode cX4_town 34 = .ok (.isub, 1) := by decide +kernel
theorem dX4_town_35 : decode cX4_town 35 = .ok (.ireturn, 1) := by decide +kernel
theorem dX4_town_36 : decode cX4_town 36 = .ok (.aload_n 0, 1) := by decide +kernel
theorem dX4_town_37 : decode cX4_town 37 = .ok (.getfield 37, 3) := by decide +kernel
theorem dX4_town_40 : decode cX4_town 40 = .ok (.aload_n 0, 1) := by decide +kernel
theorem dX4_town_41 : decode cX4_town 41 = .ok (.getfield 41, 3) := by decide +kernel
theorem dX4_town_44 : decode cX4_town 44 = .ok (.invokevirtual 115, 3) := by decide +kernel
theorem dX4_town_47 : decode cX4_town 47 = .ok (.aload_n 0, 1) := by decide +kernel
theorem dX4_town_48 : decode cX4_town 48 = .ok (.getfield 33, 3) := by decide +kernel
theorem dX4_town_51 : decode cX4_town 51 = .ok (.invokevirtual 119, 3) := by decide +kernel
theorem dX4_town_54 : decode cX4_town 54 = .ok (.aload_n 0, 1) := by decide +kernel
theorem dX4_town_55 : decode cX4_town 55 = .ok (.getfield 37, 3) := by decide +kernel
theorem dX4_town_58 : decode cX4_town 58 = .ok (.getfield 122, 3) := by decide +kernel
theorem dX4_town_61 : decode cX4_town 61 = .ok (.ireturn, 1) := by decide +kernel
theorem dX4_fault_0 : decode cX4_fault 0 = .ok (.aload_n 0, 1) := by decide +kernel
theorem dX4_fault_1 : decode cX4_fault 1 = .ok (.getfield 108, 3) := by decide +kernel
theorem dX4_fault_4 : decode cX4_fault 4 = .ok (.ireturn, 1) := by decide +kernel
theorem dX4_undo_0 : decode cX4_undo 0 = .ok (.aload_n 0, 1) := by decide +kernel
theorem dX4_undo_1 : decode cX4_undo 1 = .ok (.getfield 33, 3) := by decide +kernel
theorem dX4_undo_4 : decode cX4_undo 4 = .ok (.aload_n 0, 1) := by decide +kernel
theorem dX4_undo_5 : decode cX4_undo 5 = .ok (.getfield 37, 3) := by decide +kernel
theorem dX4_undo_8 : decode cX4_undo 8 = .ok (.invokevirtual 125, 3) := by decide +kernel
theorem dX4_undo_11 : decode cX4_undo 11 = .ok (.ifCond .eq 13, 3) := by decide +kernel
theorem dX4_undo_14 : decode cX4_undo 14 = .ok (.aload_n 0, 1) := by decide +kernel
theorem dX4_undo_15 : decode cX4_undo 15 = .ok (.getfield 33, 3) := by decide +kernel
theorem dX4_undo_18 : decode cX4_undo 18 = .ok (.getfield 128, 3) := by decide +kernel
theorem dX4_undo_21 : decode cX4_undo 21 = .ok (.goto 5, 3) := by decide +kernel
theorem dX4_undo_24 : decode cX4_undo 24 = .ok (.ldc 129, 2) := by decide +kernel
theorem dX4_undo_26 : decode cX4_undo 26 = .ok (.ireturn, 1) := by decide +kernel
theorem dX4_days_0 : decode cX4_days 0 = .ok (.aload_n 0, 1) := by decide +kernel
theorem dX4_days_1 : decode cX4_days 1 = .ok (.invokevirtual 130, 3) := by decide +kernel
theorem dX4_days_4 : decode cX4_days 4 = .ok (.ifCond .ne 6, 3) := by decide +kernel
theorem dX4_days_7 : decode cX4_days 7 = .ok (.ldc 129, 2) := by decide +kernel
theorem dX4_days_9 : decode cX4_days 9 = .ok (.ireturn, 1) := by decide +kernel
theorem dX4_days_10 : decode cX4_days 10 = .ok (.iload_n 1, 1) := by decide +kernel
theorem dX4_days_11 : decode cX4_days 11 = .ok (.iconst 1, 1) := by decide +kernel
theorem dX4_days_12 : decode cX4_days 12 = .ok (.bipush 24, 2) := by decide +kernel
theorem dX4_days_14 : decode cX4_days 14 = .ok (.invokestatic 52, 3) := by decide +kernel
theorem dX4_days_17 : decode cX4_days 17 = .ok (.ifCond .ne 6, 3) := by decide +kernel
theorem dX4_days_20 : decode cX4_days 20 = .ok (.ldc 56, 2) := by decide +kernel
theorem dX4_days_22 : decode cX4_days 22 = .ok (.ireturn, 1) := by decide +kernel
theorem dX4_days_23 : decode cX4_days 23 = .ok (.aload_n 0, 1) := by decide +kernel
theorem dX4_days_24 : decode cX4_days 24 = .ok (.getfield 37, 3) := by decide +kernel
theorem dX4_days_27 : decode cX4_days 27 = .ok (.getfield 134, 3) := by decide +kernel
theorem dX4_days_30 : decode cX4_days 30 = .ok (.iload_n 1, 1) := by decide +kernel
theorem dX4_days_31 : decode cX4_days 31 = .ok (.iadd, 1) := by decide +kernel
theorem dX4_days_32 : decode cX4_days 32 = .ok (.sipush 999, 3) := by decide +kernel
theorem dX4_days_35 : decode cX4_days 35 = .ok (.if_icmp .le 6, 3) := by decide +kernel
theorem dX4_days_38 : decode cX4_days 38 = .ok (.ldc 100, 2) := by decide +kernel
theorem dX4_days_40 : decode cX4_days 40 = .ok (.ireturn, 1) := by decide +kernel
theorem dX4_days_41 : decode cX4_days 41 = .ok (.iconst 0, 1) := by decide +kernel
theorem dX4_days_42 : decode cX4_days 42 = .ok (.istore_n 2, 1) := by decide +kernel
theorem dX4_days_43 : decode cX4_days 43 = .ok (.iload_n 2, 1) := by decide +kernel
theorem dX4_days_44 : decode cX4_days 44 = .ok (.iload_n 1, 1) := by decide +kernel
theorem dX4_days_45 : decode cX4_days 45 = .ok (.if_icmp .ge 28, 3) := by decide +kernel
theorem dX4_days_48 : decode cX4_days 48 = .ok (.aload_n 0, 1) := by decide +kernel
theorem dX4_days_49 : decode cX4_days 49 = .ok (.getfield 33, 3) := by decide +kernel
theorem dX4_days_52 : decode cX4_days 52 = .ok (.aload_n 0, 1) := by decide +kernel
theorem dX4_days_53 : decode cX4_days 53 = .ok (.getfield 37, 3) := by decide +kernel
theorem dX4_days_56 : decode cX4_days 56 = .ok (.invokevirtual 137, 3) := by decide +kernel
theorem dX4_days_59 : decode cX4_days 59 = .ok (.aload_n 0, 1) := by decide +kernel
theorem dX4_days_60 : decode cX4_days 60 = .ok (.getfield 37, 3) := by decide +kernel
theorem dX4_days_63 : decode cX4_days 63 = .ok (.invokevirtual 140, 3) := by decide +kernel
theorem dX4_days_66 : decode cX4_days 66 = .ok (.pop, 1) := by decide +kernel
theorem dX4_days_67 : decode cX4_days 67 = .ok (.iinc 2 1, 3) := by decide +kernel
theorem dX4_days_70 : decode cX4_days 70 = .ok (.goto (-27), 3) := by decide +kernel
theorem dX4_days_73 : decode cX4_days 73 = .ok (.aload_n 0, 1) := by decide +kernel
theorem dX4_days_74 : decode cX4_days 74 = .ok (.getfield 37, 3) := by decide +kernel
theorem dX4_days_77 : decode cX4_days 77 = .ok (.invokevirtual 144, 3) := by decide +kernel
theorem dX4_days_80 : decode cX4_days 80 = .ok (.ireturn, 1) := by decide +kernel
theorem dX4_send_0 : decode cX4_send 0 = .ok (.aload_n 0, 1) := by decide +kernel
theorem dX4_send_1 : decode cX4_send 1 = .ok (.iload_n 1, 1) := by decide +kernel
theorem dX4_send_2 : decode cX4_send 2 = .ok (.invokevirtual 147, 3) := by decide +kernel
theorem dX4_send_5 : decode cX4_send 5 = .ok (.ifCond .eq 11, 3) := by decide +kernel
theorem dX4_send_8 : decode cX4_send 8 = .ok (.aload_n 0, 1) := by decide +kernel
theorem dX4_send_9 : decode cX4_send 9 = .ok (.iload_n 2, 1) := by decide +kernel
theorem dX4_send_10 : decode cX4_send 10 = .ok (.invokevirtual 150, 3) := by decide +kernel
theorem dX4_send_13 : decode cX4_send 13 = .ok (.ifCond .ne 6, 3) := by decide +kernel
theorem dX4_send_16 : decode cX4_send 16 = .ok (.ldc 56, 2) := by decide +kernel
theorem dX4_send_18 : decode cX4_send 18 = .ok (.ireturn, 1) := by decide +kernel
theorem dX4_send_19 : decode cX4_send 19 = .ok (.aload_n 0, 1) := by decide +kernel
theorem dX4_send_20 : decode cX4_send 20 = .ok (.getfield 37, 3) := by decide +kernel
theorem dX4_send_23 : decode cX4_send 23 = .ok (.getfield 153, 3) := by decide +kernel
theorem dX4_send_26 : decode cX4_send 26 = .ok (.iload_n 1, 1) := by decide +kernel
theorem dX4_send_27 : decode cX4_send 27 = .ok (.iaload, 1) := by decide +kernel
theorem dX4_send_28 : decode cX4_send 28 = .ok (.istore_n 3, 1) := by decide +kernel
theorem dX4_send_29 : decode cX4_send 29 = .ok (.aload_n 0, 1) := by decide +kernel
theorem dX4_send_30 : decode cX4_send 30 = .ok (.getfield 33, 3) := by decide +kernel
theorem dX4_send_33 : decode cX4_send 33 = .ok (.aload_n 0, 1) := by decide +kernel
theorem dX4_send_34 : decode cX4_send 34 = .ok (.getfield 37, 3) := by decide +kernel
theorem dX4_send_37 : decode cX4_send 37 = .ok (.invokevirtual 137, 3) := by decide +kernel
theorem dX4_send_40 : decode cX4_send 40 = .ok (.aload_n 0, 1) := by decide +kernel
theorem dX4_send_41 : decode cX4_send 41 = .ok (.getfield 37, 3) := by decide +kernel
theorem dX4_send_44 : decode cX4_send 44 = .ok (.iload_n 1, 1) := by decide +kernel
theorem dX4_send_45 : decode cX4_send 45 = .ok (.iload_n 2, 1) := by decide +kernel
theorem dX4_send_46 : decode cX4_send 46 = .ok (.invokevirtual 156, 3) := by decide +kernel
theorem dX4_send_49 : decode cX4_send 49 = .ok (.iload_n 3, 1) := by decide +kernel
theorem dX4_send_50 : decode cX4_send 50 = .ok (.ireturn, 1) := by decide +kernel
theorem dX4_weight_0 : decode cX4_weight 0 = .ok (.aload_n 0, 1) := by decide +kernel
theorem dX4_weight_1 : decode cX4_weight 1 = .ok (.iload_n 1, 1) := by decide +kernel
theorem dX4_weight_2 : decode cX4_weight 2 = .ok (.invokevirtual 147, 3) := by decide +kernel
theorem dX4_weight_5 : decode cX4_weight 5 = .ok (.ifCond .eq 13, 3) := by decide +kernel
theorem dX4_weight_8 : decode cX4_weight 8 = .ok (.iload_n 2, 1) := by decide +kernel
theorem dX4_weight_9 : decode cX4_weight 9 = .ok (.iconst 1, 1) := by decide +kernel
theorem dX4_weight_10 : decode cX4_weight 10 = .ok (.bipush 9, 2) := by decide +kernel
theorem dX4_weight_12 : decode cX4_weight 12 = .ok (.invokestatic 52, 3) := by decide +kernel
theorem dX4_weight_15 : decode cX4_weight 15 = .ok (.ifCond .ne 6, 3) := by decide +kernel
theorem dX4_weight_18 : decode cX4_weight 18 = .ok (.ldc 56, 2) := by decide +kernel
theorem dX4_weight_20 : decode cX4_weight 20 = .ok (.ireturn, 1) := by decide +kernel
theorem dX4_weight_21 : decode cX4_weight 21 = .ok (.aload_n 0, 1) := by decide +kernel
theorem dX4_weight_22 : decode cX4_weight 22 = .ok (.getfield 37, 3) := by decide +kernel
theorem dX4_weight_25 : decode cX4_weight 25 = .ok (.getfield 159, 3) := by decide +kernel
theorem dX4_weight_28 : decode cX4_weight 28 = .ok (.iload_n 1, 1) := by decide +kernel
theorem dX4_weight_29 : decode cX4_weight 29 = .ok (.iaload, 1) := by decide +kernel
theorem dX4_weight_30 : decode cX4_weight 30 = .ok (.istore_n 3, 1) := by decide +kernel
theorem dX4_weight_31 : decode cX4_weight 31 = .ok (.aload_n 0, 1) := by decide +kernel
theorem dX4_weight_32 : decode cX4_weight 32 = .ok (.getfield 33, 3) := by decide +kernel
theorem dX4_weight_35 : decode cX4_weight 35 = .ok (.aload_n 0, 1) := by decide +kernel
theorem dX4_weight_36 : decode cX4_weight 36 = .ok (.getfield 37, 3) := by decide +kernel
theorem dX4_weight_39 : decode cX4_weight 39 = .ok (.invokevirtual 137, 3) := by decide +kernel
theorem dX4_weight_42 : decode cX4_weight 42 = .ok (.aload_n 0, 1) := by decide +kernel
theorem dX4_weight_43 : decode cX4_weight 43 = .ok (.getfield 37, 3) := by decide +kernel
theorem dX4_weight_46 : decode cX4_weight 46 = .ok (.getfield 159, 3) := by decide +kernel
theorem dX4_weight_49 : decode cX4_weight 49 = .ok (.iload_n 1, 1) := by decide +kernel
theorem dX4_weight_50 : decode cX4_weight 50 = .ok (.iload_n 2, 1) := by decide +kernel
theorem dX4_weight_51 : decode cX4_weight 51 = .ok (.iastore, 1) := by decide +kernel
theorem dX4_weight_52 : decode cX4_weight 52 = .ok (.iload_n 3, 1) := by decide +kernel
theorem dX4_weight_53 : decode cX4_weight 53 = .ok (.ireturn, 1) := by decide +kernel
theorem dX4_bar_0 : decode cX4_bar 0 = .ok (.aload_n 0, 1) := by decide +kernel
theorem dX4_bar_1 : decode cX4_bar 1 = .ok (.iload_n 1, 1) := by decide +kernel
theorem dX4_bar_2 : decode cX4_bar 2 = .ok (.invokevirtual 150, 3) := by decide +kernel
theorem dX4_bar_5 : decode cX4_bar 5 = .ok (.ifCond .eq 10, 3) := by decide +kernel
theorem dX4_bar_8 : decode cX4_bar 8 = .ok (.iload_n 2, 1) := by decide +kernel
theorem dX4_bar_9 : decode cX4_bar 9 = .ok (.invokestatic 162, 3) := by decide +kernel
theorem dX4_bar_12 : decode cX4_bar 12 = .ok (.ifCond .ne 6, 3) := by decide +kernel
theorem dX4_bar_15 : decode cX4_bar 15 = .ok (.ldc 56, 2) := by decide +kernel
theorem dX4_bar_17 : decode cX4_bar 17 = .ok (.ireturn, 1) := by decide +kernel
theorem dX4_bar_18 : decode cX4_bar 18 = .ok (.aload_n 0, 1) := by decide +kernel
theorem dX4_bar_19 : decode cX4_bar 19 = .ok (.getfield 37, 3) := by decide +kernel
theorem dX4_bar_22 : decode cX4_bar 22 = .ok (.getfield 165, 3) := by decide +kernel
theorem dX4_bar_25 : decode cX4_bar 25 = .ok (.iload_n 1, 1) := by decide +kernel
theorem dX4_bar_26 : decode cX4_bar 26 = .ok (.invokestatic 168, 3) := by decide +kernel
theorem dX4_bar_29 : decode cX4_bar 29 = .ok (.iload_n 2, 1) := by decide +kernel
theorem dX4_bar_30 : decode cX4_bar 30 = .ok (.if_icmp .ne 6, 3) := by decide +kernel
theorem dX4_bar_33 : decode cX4_bar 33 = .ok (.ldc 129, 2) := by decide +kernel
theorem dX4_bar_35 : decode cX4_bar 35 = .ok (.ireturn, 1) := by decide +kernel
theorem dX4_bar_36 : decode cX4_bar 36 = .ok (.aload_n 0, 1) := by decide +kernel
theorem dX4_bar_37 : decode cX4_bar 37 = .ok (.getfield 33, 3) := by decide +kernel
theorem dX4_bar_40 : decode cX4_bar 40 = .ok (.aload_n 0, 1) := by decide +kernel
theorem dX4_bar_41 : decode cX4_bar 41 = .ok (.getfield 37, 3) := by decide +kernel
theorem dX4_bar_44 : decode cX4_bar 44 = .ok (.invokevirtual 137, 3) := by decide +kernel
theorem dX4_bar_47 : decode cX4_bar 47 = .ok (.aload_n 0, 1) := by decide +kernel
theorem dX4_bar_48 : decode cX4_bar 48 = .ok (.getfield 37, 3) := by decide +kernel
theorem dX4_bar_51 : decode cX4_bar 51 = .ok (.dup, 1) := by decide +kernel
theorem dX4_bar_52 : decode cX4_bar 52 = .ok (.getfield 165, 3) := by decide +kernel
theorem dX4_bar_55 : decode cX4_bar 55 = .ok (.iconst 1, 1) := by decide +kernel
theorem dX4_bar_56 : decode cX4_bar 56 = .ok (.iload_n 1, 1) := by decide +kernel
theorem dX4_bar_57 : decode cX4_bar 57 = .ok (.ishl, 1) := by decide +kernel
theorem dX4_bar_58 : decode cX4_bar 58 = .ok (.ixor, 1) := by decide +kernel
theorem dX4_bar_59 : decode cX4_bar 59 = .ok (.putfield 165, 3) := by decide +kernel
theorem dX4_bar_62 : decode cX4_bar 62 = .ok (.aload_n 0, 1) := by decide +kernel
theorem dX4_bar_63 : decode cX4_bar 63 = .ok (.getfield 37, 3) := by decide +kernel
theorem dX4_bar_66 : decode cX4_bar 66 = .ok (.getfield 165, 3) := by decide +kernel
theorem dX4_bar_69 : decode cX4_bar 69 = .ok (.ireturn, 1) := by decide +kernel
theorem dX4_patience_0 : decode cX4_patience 0 = .ok (.aload_n 0, 1) := by decide +kernel
theorem dX4_patience_1 : decode cX4_patience 1 = .ok (.iload_n 1, 1) := by decide +kernel
theorem dX4_patience_2 : decode cX4_patience 2 = .ok (.invokevirtual 150, 3) := by decide +kernel
theorem dX4_patience_5 : decode cX4_patience 5 = .ok (.ifCond .eq 13, 3) := by decide +kernel
theorem dX4_patience_8 : decode cX4_patience 8 = .ok (.iload_n 2, 1) := by decide +kernel
theorem dX4_patience_9 : decode cX4_patience 9 = .ok (.iconst 0, 1) := by decide +kernel
theorem dX4_patience_10 : decode cX4_patience 10 = .ok (.bipush 9, 2) := by decide +kernel
theorem dX4_patience_12 : decode cX4_patience 12 = .ok (.invokestatic 52, 3) := by decide +kernel
theorem dX4_patience_15 : decode cX4_patience 15 = .ok (.ifCond .ne 6, 3) := by decide +kernel
theorem dX4_patience_18 : decode cX4_patience 18 = .ok (.ldc 56, 2) := by decide +kernel
theorem dX4_patience_20 : decode cX4_patience 20 = .ok (.ireturn, 1) := by decide +kernel
theorem dX4_patience_21 : decode cX4_patience 21 = .ok (.aload_n 0, 1) := by decide +kernel
theorem dX4_patience_22 : decode cX4_patience 22 = .ok (.getfield 37, 3) := by decide +kernel
theorem dX4_patience_25 : decode cX4_patience 25 = .ok (.getfield 171, 3) := by decide +kernel
theorem dX4_patience_28 : decode cX4_patience 28 = .ok (.iload_n 1, 1) := by decide +kernel
theorem dX4_patience_29 : decode cX4_patience 29 = .ok (.iaload, 1) := by decide +kernel
theorem dX4_patience_30 : decode cX4_patience 30 = .ok (.istore_n 3, 1) := by decide +kernel
theorem dX4_patience_31 : decode cX4_patience 31 = .ok (.aload_n 0, 1) := by decide +kernel
theorem dX4_patience_32 : decode cX4_patience 32 = .ok (.getfield 33, 3) := by decide +kernel
theorem dX4_patience_35 : decode cX4_patience 35 = .ok (.aload_n 0, 1) := by decide +kernel
theorem dX4_patience_36 : decode cX4_patience 36 = .ok (.getfield 37, 3) := by decide +kernel
theorem dX4_patience_39 : decode cX4_patience 39 = .ok (.invokevirtual 137, 3) := by decide +kernel
theorem dX4_patience_42 : decode cX4_patience 42 = .ok (.aload_n 0, 1) := by decide +kernel
theorem dX4_patience_43 : decode cX4_patience 43 = .ok (.getfield 37, 3) := by decide +kernel
theorem dX4_patience_46 : decode cX4_patience 46 = .ok (.getfield 171, 3) := by decide +kernel
theorem dX4_patience_49 : decode cX4_patience 49 = .ok (.iload_n 1, 1) := by decide +kernel
theorem dX4_patience_50 : decode cX4_patience 50 = .ok (.iload_n 2, 1) := by decide +kernel
theorem dX4_patience_51 : decode cX4_patience 51 = .ok (.iastore, 1) := by decide +kernel
theorem dX4_patience_52 : decode cX4_patience 52 = .ok (.iload_n 3, 1) := by decide +kernel
theorem dX4_patience_53 : decode cX4_patience 53 = .ok (.ireturn, 1) := by decide +kernel
theorem dX4_leaver_0 : decode cX4_leaver 0 = .ok (.aload_n 0, 1) := by decide +kernel
theorem dX4_leaver_1 : decode cX4_leaver 1 = .ok (.iload_n 1, 1) := by decide +kernel
theorem dX4_leaver_2 : decode cX4_leaver 2 = .ok (.invokevirtual 147, 3) := by decide +kernel
theorem dX4_leaver_5 : decode cX4_leaver 5 = .ok (.ifCond .ne 6, 3) := by decide +kernel
theorem dX4_leaver_8 : decode cX4_leaver 8 = .ok (.ldc 56, 2) := by decide +kernel
theorem dX4_leaver_10 : decode cX4_leaver 10 = .ok (.ireturn, 1) := by decide +kernel
theorem dX4_leaver_11 : decode cX4_leaver 11 = .ok (.iload_n 2, 1) := by decide +kernel
theorem dX4_leaver_12 : decode cX4_leaver 12 = .ok (.tableswitch 105 0 5 #[40, 50, 60, 70, 79, 88], 40) := by decide +kernel
theorem dX4_leaver_52 : decode cX4_leaver 52 = .ok (.aload_n 0, 1) := by decide +kernel
theorem dX4_leaver_53 : decode cX4_leaver 53 = .ok (.getfield 37, 3) := by decide +kernel
theorem dX4_leaver_56 : decode cX4_leaver 56 = .ok (.getfield 153, 3) := by decide +kernel
theorem dX4_leaver_59 : decode cX4_leaver 59 = .ok (.iload_n 1, 1) := by decide +kernel
theorem dX4_leaver_60 : decode cX4_leaver 60 = .ok (.iaload, 1) := by decide +kernel
theorem dX4_leaver_61 : decode cX4_leaver 61 = .ok (.ireturn, 1) := by decide +kernel
theorem dX4_leaver_62 : decode cX4_leaver 62 = .ok (.aload_n 0, 1) := by decide +kernel
theorem dX4_leaver_63 : decode cX4_leaver 63 = .ok (.getfield 37, 3) := by decide +kernel
theorem dX4_leaver_66 : decode cX4_leaver 66 = .ok (.getfield 159, 3) := by decide +kernel
theorem dX4_leaver_69 : decode cX4_leaver 69 = .ok (.iload_n 1, 1) := by decide +kernel
theorem dX4_leaver_70 : decode cX4_leaver 70 = .ok (.iaload, 1) := by decide +kernel
theorem dX4_leaver_71 : decode cX4_leaver 71 = .ok (.ireturn, 1) := by decide +kernel
theorem dX4_leaver_72 : decode cX4_leaver 72 = .ok (.aload_n 0, 1) := by decide +kernel
theorem dX4_leaver_73 : decode cX4_leaver 73 = .ok (.getfield 37, 3) := by decide +kernel
theorem dX4_leaver_76 : decode cX4_leaver 76 = .ok (.getfield 174, 3) := by decide +kernel
theorem dX4_leaver_79 : decode cX4_leaver 79 = .ok (.iload_n 1, 1) := by decide +kernel
theorem dX4_leaver_80 : decode cX4_leaver 80 = .ok (.iaload, 1) := by decide +kernel
theorem dX4_leaver_81 : decode cX4_leaver 81 = .ok (.ireturn, 1) := by decide +kernel
theorem dX4_leaver_82 : decode cX4_leaver 82 = .ok (.aload_n 0, 1) := by decide +kernel
theorem dX4_leaver_83 : decode cX4_leaver 83 = .ok (.getfield 37, 3) := by decide +kernel
theorem dX4_leaver_86 : decode cX4_leaver 86 = .ok (.iload_n 1, 1) := by decide +kernel
theorem dX4_leaver_87 : decode cX4_leaver 87 = .ok (.invokevirtual 177, 3) := by decide +kernel
theorem dX4_leaver_90 : decode cX4_leaver 90 = .ok (.ireturn, 1) := by decide +kernel
theorem dX4_leaver_91 : decode cX4_leaver 91 = .ok (.aload_n 0, 1) := by decide +kernel
theorem dX4_leaver_92 : decode cX4_leaver 92 = .ok (.getfield 37, 3) := by decide +kernel
theorem dX4_leaver_95 : decode cX4_leaver 95 = .ok (.iload_n 1, 1) := by decide +kernel
theorem dX4_leaver_96 : decode cX4_leaver 96 = .ok (.invokevirtual 180, 3) := by decide +kernel
theorem dX4_leaver_99 : decode cX4_leaver 99 = .ok (.ireturn, 1) := by decide +kernel
theorem dX4_leaver_100 : decode cX4_leaver 100 = .ok (.aload_n 0, 1) := by decide +kernel
theorem dX4_leaver_101 : decode cX4_leaver 101 = .ok (.getfield 37, 3) := by decide +kernel
theorem dX4_leaver_104 : decode cX4_leaver 104 = .ok (.iload_n 1, 1) := by decide +kernel
theorem dX4_leaver_105 : decode cX4_leaver 105 = .ok (.aload_n 0, 1) := by decide +kernel
theorem dX4_leaver_106 : decode cX4_leaver 106 = .ok (.getfield 37, 3) := by decide +kernel
theorem dX4_leaver_109 : decode cX4_leaver 109 = .ok (.iload_n 1, 1) := by decide +kernel
theorem dX4_leaver_110 : decode cX4_leaver 110 = .ok (.invokevirtual 177, 3) := by decide +kernel
theorem dX4_leaver_113 : decode cX4_leaver 113 = .ok (.invokevirtual 183, 3) := by decide +kernel
theorem dX4_leaver_116 : decode cX4_leaver 116 = .ok (.ireturn, 1) := by decide +kernel
theorem dX4_leaver_117 : decode cX4_leaver 117 = .ok (.ldc 56, 2) := by decide +kernel
theorem dX4_leaver_119 : decode cX4_leaver 119 = .ok (.ireturn, 1) := by decide +kernel
theorem dX4_man_0 : decode cX4_man 0 = .ok (.aload_n 0, 1) := by decide +kernel
theorem dX4_man_1 : decode cX4_man 1 = .ok (.iload_n 1, 1) := by decide +kernel
theorem dX4_man_2 : decode cX4_man 2 = .ok (.invokevirtual 150, 3) := by decide +kernel
theorem dX4_man_5 : decode cX4_man 5 = .ok (.ifCond .ne 6, 3) := by decide +kernel
theorem dX4_man_8 : decode cX4_man 8 = .ok (.ldc 56, 2) := by decide +kernel
theorem dX4_man_10 : decode cX4_man 10 = .ok (.ireturn, 1) := by decide +kernel
theorem dX4_man_11 : decode cX4_man 11 = .ok (.iload_n 2, 1) := by decide +kernel
theorem dX4_man_12 : decode cX4_man 12 = .ok (.tableswitch 86 0 4 #[36, 46, 56, 68, 77], 36) := by decide +kernel
theorem dX4_man_48 : decode cX4_man 48 = .ok (.aload_n 0, 1) := by decide +kernel
theorem dX4_man_49 : decode cX4_man 49 = .ok (.getfield 37, 3) := by decide +kernel
theorem dX4_man_52 : decode cX4_man 52 = .ok (.getfield 186, 3) := by decide +kernel
theorem dX4_man_55 : decode cX4_man 55 = .ok (.iload_n 1, 1) := by decide +kernel
theorem dX4_man_56 : decode cX4_man 56 = .ok (.iaload, 1) := by decide +kernel
theorem dX4_man_57 : decode cX4_man 57 = .ok (.ireturn, 1) := by decide +kernel
theorem dX4_man_58 : decode cX4_man 58 = .ok (.aload_n 0, 1) := by decide +kernel
theorem dX4_man_59 : decode cX4_man 59 = .ok (.getfield 37, 3) := by decide +kernel
theorem dX4_man_62 : decode cX4_man 62 = .ok (.getfield 171, 3) := by decide +kernel
theorem dX4_man_65 : decode cX4_man 65 = .ok (.iload_n 1, 1) := by decide +kernel
theorem dX4_man_66 : decode cX4_man 66 = .ok (.iaload, 1) := by decide +kernel
theorem dX4_man_67 : decode cX4_man 67 = .ok (.ireturn, 1) := by decide +kernel
theorem dX4_man_68 : decode cX4_man 68 = .ok (.aload_n 0, 1) := by decide +kernel
theorem dX4_man_69 : decode cX4_man 69 = .ok (.getfield 37, 3) := by decide +kernel
theorem dX4_man_72 : decode cX4_man 72 = .ok (.getfield 165, 3) := by decide +kernel
theorem dX4_man_75 : decode cX4_man 75 = .ok (.iload_n 1, 1) := by decide +kernel
theorem dX4_man_76 : decode cX4_man 76 = .ok (.invokestatic 168, 3) := by decide +kernel
theorem dX4_man_79 : decode cX4_man 79 = .ok (.ireturn, 1) := by decide +kernel
theorem dX4_man_80 : decode cX4_man 80 = .ok (.aload_n 0, 1) := by decide +kernel
theorem dX4_man_81 : decode cX4_man 81 = .ok (.getfield 37, 3) := by decide +kernel
theorem dX4_man_84 : decode cX4_man 84 = .ok (.iload_n 1, 1) := by decide +kernel
theorem dX4_man_85 : decode cX4_man 85 = .ok (.invokevirtual 189, 3) := by decide +kernel
theorem dX4_man_88 : decode cX4_man 88 = .ok (.ireturn, 1) := by decide +kernel
theorem dX4_man_89 : decode cX4_man 89 = .ok (.aload_n 0, 1) := by decide +kernel
theorem dX4_man_90 : decode cX4_man 90 = .ok (.getfield 37, 3) := by decide +kernel
theorem dX4_man_93 : decode cX4_man 93 = .ok (.iload_n 1, 1) := by decide +kernel
theorem dX4_man_94 : decode cX4_man 94 = .ok (.invokevirtual 192, 3) := by decide +kernel
theorem dX4_man_97 : decode cX4_man 97 = .ok (.ireturn, 1) := by decide +kernel
theorem dX4_man_98 : decode cX4_man 98 = .ok (.ldc 56, 2) := by decide +kernel
theorem dX4_man_100 : decode cX4_man 100 = .ok (.ireturn, 1) := by decide +kernel
theorem dX4_ahead_0 : decode cX4_ahead 0 = .ok (.aload_n 0, 1) := by decide +kernel
theorem dX4_ahead_1 : decode cX4_ahead 1 = .ok (.iload_n 1, 1) := by decide +kernel
theorem dX4_ahead_2 : decode cX4_ahead 2 = .ok (.invokevirtual 150, 3) := by decide +kernel
theorem dX4_ahead_5 : decode cX4_ahead 5 = .ok (.ifCond .eq 13, 3) := by decide +kernel
theorem dX4_ahead_8 : decode cX4_ahead 8 = .ok (.iload_n 2, 1) := by decide +kernel
theorem dX4_ahead_9 : decode cX4_ahead 9 = .ok (.iconst 0, 1) := by decide +kernel
theorem dX4_ahead_10 : decode cX4_ahead 10 = .ok (.bipush 60, 2) := by decide +kernel
theorem dX4_ahead_12 : decode cX4_ahead 12 = .ok (.invokestatic 52, 3) := by decide +kernel
theorem dX4_ahead_15 : decode cX4_ahead 15 = .ok (.ifCond .ne 6, 3) := by decide +kernel
theorem dX4_ahead_18 : decode cX4_ahead 18 = .ok (.ldc 56, 2) := by decide +kernel
theorem dX4_ahead_20 : decode cX4_ahead 20 = .ok (.ireturn, 1) := by decide +kernel
theorem dX4_ahead_21 : decode cX4_ahead 21 = .ok (.aload_n 0, 1) := by decide +kernel
theorem dX4_ahead_22 : decode cX4_ahead 22 = .ok (.getfield 41, 3) := by decide +kernel
theorem dX4_ahead_25 : decode cX4_ahead 25 = .ok (.aload_n 0, 1) := by decide +kernel
theorem dX4_ahead_26 : decode cX4_ahead 26 = .ok (.getfield 37, 3) := by decide +kernel
theorem dX4_ahead_29 : decode cX4_ahead 29 = .ok (.invokevirtual 115, 3) := by decide +kernel
theorem dX4_ahead_32 : decode cX4_ahead 32 = .ok (.aload_n 0, 1) := by decide +kernel
theorem dX4_ahead_33 : decode cX4_ahead 33 = .ok (.getfield 41, 3) := by decide +kernel
theorem dX4_ahead_36 : decode cX4_ahead 36 = .ok (.iload_n 2, 1) := by decide +kernel
theorem dX4_ahead_37 : decode cX4_ahead 37 = .ok (.invokevirtual 195, 3) := by decide +kernel
theorem dX4_ahead_40 : decode cX4_ahead 40 = .ok (.aload_n 0, 1) := by decide +kernel
theorem dX4_ahead_41 : decode cX4_ahead 41 = .ok (.getfield 41, 3) := by decide +kernel
theorem dX4_ahead_44 : decode cX4_ahead 44 = .ok (.getfield 186, 3) := by decide +kernel
theorem dX4_ahead_47 : decode cX4_ahead 47 = .ok (.iload_n 1, 1) := by decide +kernel
theorem dX4_ahead_48 : decode cX4_ahead 48 = .ok (.iaload, 1) := by decide +kernel
theorem dX4_ahead_49 : decode cX4_ahead 49 = .ok (.ireturn, 1) := by decide +kernel
theorem dX4_awayAhead_0 : decode cX4_awayAhead 0 = .ok (.aload_n 0, 1) := by decide +kernel
theorem dX4_awayAhead_1 : decode cX4_awayAhead 1 = .ok (.iload_n 1, 1) := by decide +kernel
theorem dX4_awayAhead_2 : decode cX4_awayAhead 2 = .ok (.invokevirtual 150, 3) := by decide +kernel
theorem dX4_awayAhead_5 : decode cX4_awayAhead 5 = .ok (.ifCond .eq 13, 3) := by decide +kernel
theorem dX4_awayAhead_8 : decode cX4_awayAhead 8 = .ok (.iload_n 2, 1) := by decide +kernel
theorem dX4_awayAhead_9 : decode cX4_awayAhead 9 = .ok (.iconst 0, 1) := by decide +kernel
theorem dX4_awayAhead_10 : decode cX4_awayAhead 10 = .ok (.bipush 60, 2) := by decide +kernel
theorem dX4_awayAhead_12 : decode cX4_awayAhead 12 = .ok (.invokestatic 52, 3) := by decide +kernel
theorem dX4_awayAhead_15 : decode cX4_awayAhead 15 = .ok (.ifCond .ne 6, 3) := by decide +kernel
theorem dX4_awayAhead_18 : decode cX4_awayAhead 18 = .ok (.ldc 56, 2) := by decide +kernel
theorem dX4_awayAhead_20 : decode cX4_awayAhead 20 = .ok (.ireturn, 1) := by decide +kernel
theorem dX4_awayAhead_21 : decode cX4_awayAhead 21 = .ok (.aload_n 0, 1) := by decide +kernel
theorem dX4_awayAhead_22 : decode cX4_awayAhead 22 = .ok (.getfield 41, 3) := by decide +kernel
theorem dX4_awayAhead_25 : decode cX4_awayAhead 25 = .ok (.aload_n 0, 1) := by decide +kernel
theorem dX4_awayAhead_26 : decode cX4_awayAhead 26 = .ok (.getfield 37, 3) := by decide +kernel
theorem dX4_awayAhead_29 : decode cX4_awayAhead 29 = .ok (.invokevirtual 115, 3) := by decide +kernel
theorem dX4_awayAhead_32 : decode cX4_awayAhead 32 = .ok (.aload_n 0, 1) := by decide +kernel
theorem dX4_awayAhead_33 : decode cX4_awayAhead 33 = .ok (.getfield 41, 3) := by decide +kernel
theorem dX4_awayAhead_36 : decode cX4_awayAhead 36 = .ok (.dup, 1) := by decide +kernel
theorem dX4_awayAhead_37 : decode cX4_awayAhead 37 = .ok (.getfield 134, 3) := by decide +kernel
theorem dX4_awayAhead_40 : decode cX4_awayAhead 40 = .ok (.iload_n 2, 1) := by decide +kernel
theorem dX4_awayAhead_41 : decode cX4_awayAhead 41 = .ok (.iadd, 1) := by decide +kernel
theorem dX4_awayAhead_42 : decode cX4_awayAhead 42 = .ok (.putfield 134, 3) := by decide +kernel
theorem dX4_awayAhead_45 : decode cX4_awayAhead 45 = .ok (.aload_n 0, 1) := by decide +kernel
theorem dX4_awayAhead_46 : decode cX4_awayAhead 46 = .ok (.getfield 41, 3) := by decide +kernel
theorem dX4_awayAhead_49 : decode cX4_awayAhead 49 = .ok (.iload_n 1, 1) := by decide +kernel
theorem dX4_awayAhead_50 : decode cX4_awayAhead 50 = .ok (.invokevirtual 189, 3) := by decide +kernel
theorem dX4_awayAhead_53 : decode cX4_awayAhead 53 = .ok (.ireturn, 1) := by decide +kernel
theorem dX4_first_0 : decode cX4_first 0 = .ok (.aload_n 0, 1) := by decide +kernel
theorem dX4_first_1 : decode cX4_first 1 = .ok (.iload_n 1, 1) := by decide +kernel
theorem dX4_first_2 : decode cX4_first 2 = .ok (.invokevirtual 150, 3) := by decide +kernel
theorem dX4_first_5 : decode cX4_first 5 = .ok (.ifCond .ne 6, 3) := by decide +kernel
theorem dX4_first_8 : decode cX4_first 8 = .ok (.ldc 56, 2) := by decide +kernel
theorem dX4_first_10 : decode cX4_first 10 = .ok (.ireturn, 1) := by decide +kernel
theorem dX4_first_11 : decode cX4_first 11 = .ok (.aload_n 0, 1) := by decide +kernel
theorem dX4_first_12 : decode cX4_first 12 = .ok (.getfield 41, 3) := by decide +kernel
theorem dX4_first_15 : decode cX4_first 15 = .ok (.aload_n 0, 1) := by decide +kernel
theorem dX4_first_16 : decode cX4_first 16 = .ok (.getfield 37, 3) := by decide +kernel
theorem dX4_first_19 : decode cX4_first 19 = .ok (.invokevirtual 115, 3) := by decide +kernel
theorem dX4_first_22 : decode cX4_first 22 = .ok (.iconst 1, 1) := by decide +kernel
theorem dX4_first_23 : decode cX4_first 23 = .ok (.istore_n 2, 1) := by decide +kernel
theorem dX4_first_24 : decode cX4_first 24 = .ok (.iload_n 2, 1) := by decide +kernel
theorem dX4_first_25 : decode cX4_first 25 = .ok (.bipush 60, 2) := by decide +kernel
theorem dX4_first_27 : decode cX4_first 27 = .ok (.if_icmp .gt 35, 3) := by decide +kernel
theorem dX4_first_30 : decode cX4_first 30 = .ok (.aload_n 0, 1) := by decide +kernel
theorem dX4_first_31 : decode cX4_first 31 = .ok (.getfield 41, 3) := by decide +kernel
theorem dX4_first_34 : decode cX4_first 34 = .ok (.iload_n 1, 1) := by decide +kernel
theorem dX4_first_35 : decode cX4_first 35 = .ok (.invokevirtual 189, 3) := by decide +kernel
theorem dX4_first_38 : decode cX4_first 38 = .ok (.ifCond .ne 5, 3) := by decide +kernel
theorem dX4_first_41 : decode cX4_first 41 = .ok (.iload_n 2, 1) := by decide +kernel
theorem dX4_first_42 : decode cX4_first 42 = .ok (.ireturn, 1) := by decide +kernel
theorem dX4_first_43 : decode cX4_first 43 = .ok (.aload_n 0, 1) := by decide +kernel
theorem dX4_first_44 : decode cX4_first 44 = .ok (.getfield 41, 3) := by decide +kernel
theorem dX4_first_47 : decode cX4_first 47 = .ok (.dup, 1) := by decide +kernel
theorem dX4_first_48 : decode cX4_first 48 = .ok (.getfield 134, 3) := by decide +kernel
theorem dX4_first_51 : decode cX4_first 51 = .ok (.iconst 1, 1) := by decide +kernel
theorem dX4_first_52 : decode cX4_first 52 = .ok (.iadd, 1) := by decide +kernel
theorem dX4_first_53 : decode cX4_first 53 = .ok (.putfield 134, 3) := by decide +kernel
theorem dX4_first_56 : decode cX4_first 56 = .ok (.iinc 2 1, 3) := by decide +kernel
theorem dX4_first_59 : decode cX4_first 59 = .ok (.goto (-35), 3) := by decide +kernel
theorem dX4_first_62 : decode cX4_first 62 = .ok (.ldc 199, 2) := by decide +kernel
theorem dX4_first_64 : decode cX4_first 64 = .ok (.ireturn, 1) := by decide +kernel
theorem dX4_reach_0 : decode cX4_reach 0 = .ok (.aload_n 0, 1) := by decide +kernel
theorem dX4_reach_1 : decode cX4_reach 1 = .ok (.iload_n 1, 1) := by decide +kernel
theorem dX4_reach_2 : decode cX4_reach 2 = .ok (.invokevirtual 150, 3) := by decide +kernel
theorem dX4_reach_5 : decode cX4_reach 5 = .ok (.ifCond .eq 13, 3) := by decide +kernel
theorem dX4_reach_8 : decode cX4_reach 8 = .ok (.iload_n 2, 1) := by decide +kernel
theorem dX4_reach_9 : decode cX4_reach 9 = .ok (.iconst 1, 1) := by decide +kernel
theorem dX4_reach_10 : decode cX4_reach 10 = .ok (.bipush 99, 2) := by decide +kernel
theorem dX4_reach_12 : decode cX4_reach 12 = .ok (.invokestatic 52, 3) := by decide +kernel
theorem dX4_reach_15 : decode cX4_reach 15 = .ok (.ifCond .ne 6, 3) := by decide +kernel
theorem dX4_reach_18 : decode cX4_reach 18 = .ok (.ldc 56, 2) := by decide +kernel
theorem dX4_reach_20 : decode cX4_reach 20 = .ok (.ireturn, 1) := by decide +kernel
theorem dX4_reach_21 : decode cX4_reach 21 = .ok (.aload_n 0, 1) := by decide +kernel
theorem dX4_reach_22 : decode cX4_reach 22 = .ok (.getfield 41, 3) := by decide +kernel
theorem dX4_reach_25 : decode cX4_reach 25 = .ok (.aload_n 0, 1) := by decide +kernel
theorem dX4_reach_26 : decode cX4_reach 26 = .ok (.getfield 37, 3) := by decide +kernel
theorem dX4_reach_29 : decode cX4_reach 29 = .ok (.invokevirtual 115, 3) := by decide +kernel
theorem dX4_reach_32 : decode cX4_reach 32 = .ok (.iconst 0, 1) := by decide +kernel
theorem dX4_reach_33 : decode cX4_reach 33 = .ok (.istore_n 3, 1) := by decide +kernel
theorem dX4_reach_34 : decode cX4_reach 34 = .ok (.iload_n 3, 1) := by decide +kernel
theorem dX4_reach_35 : decode cX4_reach 35 = .ok (.bipush 60, 2) := by decide +kernel
theorem dX4_reach_37 : decode cX4_reach 37 = .ok (.if_icmp .gt 32, 3) := by decide +kernel
theorem dX4_reach_40 : decode cX4_reach 40 = .ok (.aload_n 0, 1) := by decide +kernel
theorem dX4_reach_41 : decode cX4_reach 41 = .ok (.getfield 41, 3) := by decide +kernel
theorem dX4_reach_44 : decode cX4_reach 44 = .ok (.getfield 186, 3) := by decide +kernel
theorem dX4_reach_47 : decode cX4_reach 47 = .ok (.iload_n 1, 1) := by decide +kernel
theorem dX4_reach_48 : decode cX4_reach 48 = .ok (.iaload, 1) := by decide +kernel
theorem dX4_reach_49 : decode cX4_reach 49 = .ok (.iload_n 2, 1) := by decide +kernel
theorem dX4_reach_50 : decode cX4_reach 50 = .ok (.if_icmp .lt 5, 3) := by decide +kernel
theorem dX4_reach_53 : decode cX4_reach 53 = .ok (.iload_n 3, 1) := by decide +kernel
theorem dX4_reach_54 : decode cX4_reach 54 = .ok (.ireturn, 1) := by decide +kernel
theorem dX4_reach_55 : decode cX4_reach 55 = .ok (.aload_n 0, 1) := by decide +kernel
theorem dX4_reach_56 : decode cX4_reach 56 = .ok (.getfield 41, 3) := by decide +kernel
theorem dX4_reach_59 : decode cX4_reach 59 = .ok (.invokevirtual 140, 3) := by decide +kernel
theorem dX4_reach_62 : decode cX4_reach 62 = .ok (.pop, 1) := by decide +kernel
theorem dX4_reach_63 : decode cX4_reach 63 = .ok (.iinc 3 1, 3) := by decide +kernel
theorem dX4_reach_66 : decode cX4_reach 66 = .ok (.goto (-32), 3) := by decide +kernel
theorem dX4_reach_69 : decode cX4_reach 69 = .ok (.ldc 199, 2) := by decide +kernel
theorem dX4_reach_71 : decode cX4_reach 71 = .ok (.ireturn, 1) := by decide +kernel
theorem dX4_usual_0 : decode cX4_usual 0 = .ok (.aload_n 0, 1) := by decide +kernel
theorem dX4_usual_1 : decode cX4_usual 1 = .ok (.iload_n 1, 1) := by decide +kernel
theorem dX4_usual_2 : decode cX4_usual 2 = .ok (.invokevirtual 150, 3) := by decide +kernel
theorem dX4_usual_5 : decode cX4_usual 5 = .ok (.ifCond .eq 13, 3) := by decide +kernel
theorem dX4_usual_8 : decode cX4_usual 8 = .ok (.iload_n 2, 1) := by decide +kernel
theorem dX4_usual_9 : decode cX4_usual 9 = .ok (.iconst 1, 1) := by decide +kernel
theorem dX4_usual_10 : decode cX4_usual 10 = .ok (.bipush 60, 2) := by decide +kernel
theorem dX4_usual_12 : decode cX4_usual 12 = .ok (.invokestatic 52, 3) := by decide +kernel
theorem dX4_usual_15 : decode cX4_usual 15 = .ok (.ifCond .ne 6, 3) := by decide +kernel
theorem dX4_usual_18 : decode cX4_usual 18 = .ok (.ldc 56, 2) := by decide +kernel
theorem dX4_usual_20 : decode cX4_usual 20 = .ok (.ireturn, 1) := by decide +kernel
theorem dX4_usual_21 : decode cX4_usual 21 = .ok (.aload_n 0, 1) := by decide +kernel
theorem dX4_usual_22 : decode cX4_usual 22 = .ok (.getfield 41, 3) := by decide +kernel
theorem dX4_usual_25 : decode cX4_usual 25 = .ok (.aload_n 0, 1) := by decide +kernel
theorem dX4_usual_26 : decode cX4_usual 26 = .ok (.getfield 37, 3) := by decide +kernel
theorem dX4_usual_29 : decode cX4_usual 29 = .ok (.invokevirtual 115, 3) := by decide +kernel
theorem dX4_usual_32 : decode cX4_usual 32 = .ok (.iconst 0, 1) := by decide +kernel
theorem dX4_usual_33 : decode cX4_usual 33 = .ok (.istore_n 3, 1) := by decide +kernel
theorem dX4_usual_34 : decode cX4_usual 34 = .ok (.iconst 0, 1) := by decide +kernel
theorem dX4_usual_35 : decode cX4_usual 35 = .ok (.istore 4, 2) := by decide +kernel
theorem dX4_usual_37 : decode cX4_usual 37 = .ok (.iload 4, 2) := by decide +kernel
theorem dX4_usual_39 : decode cX4_usual 39 = .ok (.iload_n 2, 1) := by decide +kernel
theorem dX4_usual_40 : decode cX4_usual 40 = .ok (.if_icmp .ge 23, 3) := by decide +kernel
theorem dX4_usual_43 : decode cX4_usual 43 = .ok (.iload_n 3, 1) := by decide +kernel
theorem dX4_usual_44 : decode cX4_usual 44 = .ok (.aload_n 0, 1) := by decide +kernel
theorem dX4_usual_45 : decode cX4_usual 45 = .ok (.getfield 41, 3) := by decide +kernel
theorem dX4_usual_48 : decode cX4_usual 48 = .ok (.invokevirtual 140, 3) := by decide +kernel
theorem dX4_usual_51 : decode cX4_usual 51 = .ok (.iload_n 1, 1) := by decide +kernel
theorem dX4_usual_52 : decode cX4_usual 52 = .ok (.invokestatic 168, 3) := by decide +kernel
theorem dX4_usual_55 : decode cX4_usual 55 = .ok (.iadd, 1) := by decide +kernel
theorem dX4_usual_56 : decode cX4_usual 56 = .ok (.istore_n 3, 1) := by decide +kernel
theorem dX4_usual_57 : decode cX4_usual 57 = .ok (.iinc 4 1, 3) := by decide +kernel
theorem dX4_usual_60 : decode cX4_usual 60 = .ok (.goto (-23), 3) := by decide +kernel
theorem dX4_usual_63 : decode cX4_usual 63 = .ok (.iload_n 3, 1) := by decide +kernel
theorem dX4_usual_64 : decode cX4_usual 64 = .ok (.ireturn, 1) := by decide +kernel
theorem dX4_fewest_0 : decode cX4_fewest 0 = .ok (.aload_n 0, 1) := by decide +kernel
theorem dX4_fewest_1 : decode cX4_fewest 1 = .ok (.invokevirtual 130, 3) := by decide +kernel
theorem dX4_fewest_4 : decode cX4_fewest 4 = .ok (.ifCond .ne 6, 3) := by decide +kernel
theorem dX4_fewest_7 : decode cX4_fewest 7 = .ok (.ldc 129, 2) := by decide +kernel
theorem dX4_fewest_9 : decode cX4_fewest 9 = .ok (.ireturn, 1) := by decide +kernel
theorem dX4_fewest_10 : decode cX4_fewest 10 = .ok (.iload_n 1, 1) := by decide +kernel
theorem dX4_fewest_11 : decode cX4_fewest 11 = .ok (.iconst 0, 1) := by decide +kernel
theorem dX4_fewest_12 : decode cX4_fewest 12 = .ok (.iconst 1, 1) := by decide +kernel
theorem dX4_fewest_13 : decode cX4_fewest 13 = .ok (.aload_n 0, 1) := by decide +kernel
theorem dX4_fewest_14 : decode cX4_fewest 14 = .ok (.getfield 37, 3) := by decide +kernel
theorem dX4_fewest_17 : decode cX4_fewest 17 = .ok (.getfield 200, 3) := by decide +kernel
theorem dX4_fewest_20 : decode cX4_fewest 20 = .ok (.ishl, 1) := by decide +kernel
theorem dX4_fewest_21 : decode cX4_fewest 21 = .ok (.iconst 1, 1) := by decide +kernel
theorem dX4_fewest_22 : decode cX4_fewest 22 = .ok (.isub, 1) := by decide +kernel
theorem dX4_fewest_23 : decode cX4_fewest 23 = .ok (.invokestatic 52, 3) := by decide +kernel
theorem dX4_fewest_26 : decode cX4_fewest 26 = .ok (.ifCond .eq 31, 3) := by decide +kernel
theorem dX4_fewest_29 : decode cX4_fewest 29 = .ok (.iload_n 2, 1) := by decide +kernel
theorem dX4_fewest_30 : decode cX4_fewest 30 = .ok (.iconst 1, 1) := by decide +kernel
theorem dX4_fewest_31 : decode cX4_fewest 31 = .ok (.bipush 30, 2) := by decide +kernel
theorem dX4_fewest_33 : decode cX4_fewest 33 = .ok (.invokestatic 52, 3) := by decide +kernel
theorem dX4_fewest_36 : decode cX4_fewest 36 = .ok (.ifCond .eq 21, 3) := by decide +kernel
theorem dX4_fewest_39 : decode cX4_fewest 39 = .ok (.iload_n 3, 1) := by decide +kernel
theorem dX4_fewest_40 : decode cX4_fewest 40 = .ok (.iconst 1, 1) := by decide +kernel
theorem dX4_fewest_41 : decode cX4_fewest 41 = .ok (.bipush 99, 2) := by decide +kernel
theorem dX4_fewest_43 : decode cX4_fewest 43 = .ok (.invokestatic 52, 3) := by decide +kernel
theorem dX4_fewest_46 : decode cX4_fewest 46 = .ok (.ifCond .eq 11, 3) := by decide +kernel
theorem dX4_fewest_49 : decode cX4_fewest 49 = .ok (.iload 4, 2) := by decide +kernel
theorem dX4_fewest_51 : decode cX4_fewest 51 = .ok (.invokestatic 162, 3) := by decide +kernel
theorem dX4_fewest_54 : decode cX4_fewest 54 = .ok (.ifCond .ne 6, 3) := by decide +kernel
theorem dX4_fewest_57 : decode cX4_fewest 57 = .ok (.ldc 56, 2) := by decide +kernel
theorem dX4_fewest_59 : decode cX4_fewest 59 = .ok (.ireturn, 1) := by decide +kernel
theorem dX4_fewest_60 : decode cX4_fewest 60 = .ok (.iconst 0, 1) := by decide +kernel
theorem dX4_fewest_61 : decode cX4_fewest 61 = .ok (.istore 5, 2) := by decide +kernel
theorem dX4_fewest_63 : decode cX4_fewest 63 = .ok (.iload 5, 2) := by decide +kernel
theorem dX4_fewest_65 : decode cX4_fewest 65 = .ok (.aload_n 0, 1) := by decide +kernel
theorem dX4_fewest_66 : decode cX4_fewest 66 = .ok (.getfield 37, 3) := by decide +kernel
theorem dX4_fewest_69 : decode cX4_fewest 69 = .ok (.getfield 122, 3) := by decide +kernel
theorem dX4_fewest_72 : decode cX4_fewest 72 = .ok (.if_icmp .gt 67, 3) := by decide +kernel
theorem dX4_fewest_75 : decode cX4_fewest 75 = .ok (.iconst 0, 1) := by decide +kernel
theorem dX4_fewest_76 : decode cX4_fewest 76 = .ok (.istore 6, 2) := by decide +kernel
theorem dX4_fewest_78 : decode cX4_fewest 78 = .ok (.iload 6, 2) := by decide +kernel
theorem dX4_fewest_80 : decode cX4_fewest 80 = .ok (.iconst 1, 1) := by decide +kernel
theorem dX4_fewest_81 : decode cX4_fewest 81 = .ok (.aload_n 0, 1) := by decide +kernel
theorem dX4_fewest_82 : decode cX4_fewest 82 = .ok (.getfield 37, 3) := by decide +kernel
theorem dX4_fewest_85 : decode cX4_fewest 85 = .ok (.getfield 122, 3) := by decide +kernel
theorem dX4_fewest_88 : decode cX4_fewest 88 = .ok (.ishl, 1) := by decide +kernel
theorem dX4_fewest_89 : decode cX4_fewest 89 = .ok (.if_icmp .ge 44, 3) := by decide +kernel
theorem dX4_fewest_92 : decode cX4_fewest 92 = .ok (.iload 6, 2) := by decide +kernel
theorem dX4_fewest_94 : decode cX4_fewest 94 = .ok (.invokestatic 203, 3) := by decide +kernel
theorem dX4_fewest_97 : decode cX4_fewest 97 = .ok (.iload 5, 2) := by decide +kernel
theorem dX4_fewest_99 : decode cX4_fewest 99 = .ok (.if_icmp .ne 28, 3) := by decide +kernel
theorem dX4_fewest_102 : decode cX4_fewest 102 = .ok (.aload_n 0, 1) := by decide +kernel
theorem dX4_fewest_103 : decode cX4_fewest 103 = .ok (.iload_n 1, 1) := by decide +kernel
theorem dX4_fewest_104 : decode cX4_fewest 104 = .ok (.iload_n 2, 1) := by decide +kernel
theorem dX4_fewest_105 : decode cX4_fewest 105 = .ok (.iload_n 3, 1) := by decide +kernel
theorem dX4_fewest_106 : decode cX4_fewest 106 = .ok (.iload 6, 2) := by decide +kernel
theorem dX4_fewest_108 : decode cX4_fewest 108 = .ok (.invokevirtual 208, 3) := by decide +kernel
theorem dX4_fewest_111 : decode cX4_fewest 111 = .ok (.ifCond .eq 16, 3) := by decide +kernel
theorem dX4_fewest_114 : decode cX4_fewest 114 = .ok (.iload 4, 2) := by decide +kernel
theorem dX4_fewest_116 : decode cX4_fewest 116 = .ok (.ifCond .ne 8, 3) := by decide +kernel
theorem dX4_fewest_119 : decode cX4_fewest 119 = .ok (.iload 5, 2) := by decide +kernel
theorem dX4_fewest_121 : decode cX4_fewest 121 = .ok (.goto 5, 3) := by decide +kernel
theorem dX4_fewest_124 : decode cX4_fewest 124 = .ok (.iload 6, 2) := by decide +kernel
theorem dX4_fewest_126 : decode cX4_fewest 126 = .ok (.ireturn, 1) := by decide +kernel
theorem dX4_fewest_127 : decode cX4_fewest 127 = .ok (.iinc 6 1, 3) := by decide +kernel
theorem dX4_fewest_130 : decode cX4_fewest 130 = .ok (.goto (-52), 3) := by decide +kernel
theorem dX4_fewest_133 : decode cX4_fewest 133 = .ok (.iinc 5 1, 3) := by decide +kernel
theorem dX4_fewest_136 : decode cX4_fewest 136 = .ok (.goto (-73), 3) := by decide +kernel
theorem dX4_fewest_139 : decode cX4_fewest 139 = .ok (.ldc 199, 2) := by decide +kernel
theorem dX4_fewest_141 : decode cX4_fewest 141 = .ok (.ireturn, 1) := by decide +kernel
theorem dX4_bestHouse_0 : decode cX4_bestHouse 0 = .ok (.aload_n 0, 1) := by decide +kernel
theorem dX4_bestHouse_1 : decode cX4_bestHouse 1 = .ok (.iload_n 1, 1) := by decide +kernel
theorem dX4_bestHouse_2 : decode cX4_bestHouse 2 = .ok (.invokevirtual 147, 3) := by decide +kernel
theorem dX4_bestHouse_5 : decode cX4_bestHouse 5 = .ok (.ifCond .eq 20, 3) := by decide +kernel
theorem dX4_bestHouse_8 : decode cX4_bestHouse 8 = .ok (.iload_n 2, 1) := by decide +kernel
theorem dX4_bestHouse_9 : decode cX4_bestHouse 9 = .ok (.iconst 1, 1) := by decide +kernel
theorem dX4_bestHouse_10 : decode cX4_bestHouse 10 = .ok (.bipush 60, 2) := by decide +kernel
theorem dX4_bestHouse_12 : decode cX4_bestHouse 12 = .ok (.invokestatic 52, 3) := by decide +kernel
theorem dX4_bestHouse_15 : decode cX4_bestHouse 15 = .ok (.ifCond .eq 10, 3) := by decide +kernel
theorem dX4_bestHouse_18 : decode cX4_bestHouse 18 = .ok (.iload_n 3, 1) := by decide +kernel
theorem dX4_bestHouse_19 : decode cX4_bestHouse 19 = .ok (.invokestatic 162, 3) := by decide +kernel
theorem dX4_bestHouse_22 : decode cX4_bestHouse 22 = .ok (.ifCond .ne 6, 3) := by decide +kernel
theorem dX4_bestHouse_25 : decode cX4_bestHouse 25 = .ok (.ldc 56, 2) := by decide +kernel
theorem dX4_bestHouse_27 : decode cX4_bestHouse 27 = .ok (.ireturn, 1) := by decide +kernel
theorem dX4_bestHouse_28 : decode cX4_bestHouse 28 = .ok (.iconst 0, 1) := by decide +kernel
theorem dX4_bestHouse_29 : decode cX4_bestHouse 29 = .ok (.istore 4, 2) := by decide +kernel
theorem dX4_bestHouse_31 : decode cX4_bestHouse 31 = .ok (.iconst (-1), 1) := by decide +kernel
theorem dX4_bestHouse_32 : decode cX4_bestHouse 32 = .ok (.istore 5, 2) := by decide +kernel
theorem dX4_bestHouse_34 : decode cX4_bestHouse 34 = .ok (.iconst 0, 1) := by decide +kernel
theorem dX4_bestHouse_35 : decode cX4_bestHouse 35 = .ok (.istore 6, 2) := by decide +kernel
theorem dX4_bestHouse_37 : decode cX4_bestHouse 37 = .ok (.iload 6, 2) := by decide +kernel
theorem dX4_bestHouse_39 : decode cX4_bestHouse 39 = .ok (.aload_n 0, 1) := by decide +kernel
theorem dX4_bestHouse_40 : decode cX4_bestHouse 40 = .ok (.getfield 37, 3) := by decide +kernel
theorem dX4_bestHouse_43 : decode cX4_bestHouse 43 = .ok (.getfield 200, 3) := by decide +kernel
theorem dX4_bestHouse_46 : decode cX4_bestHouse 46 = .ok (.if_icmp .ge 62, 3) := by decide +kernel
theorem dX4_bestHouse_49 : decode cX4_bestHouse 49 = .ok (.aload_n 0, 1) := by decide +kernel
theorem dX4_bestHouse_50 : decode cX4_bestHouse 50 = .ok (.getfield 41, 3) := by decide +kernel
theorem dX4_bestHouse_53 : decode cX4_bestHouse 53 = .ok (.aload_n 0, 1) := by decide +kernel
theorem dX4_bestHouse_54 : decode cX4_bestHouse 54 = .ok (.getfield 37, 3) := by decide +kernel
theorem dX4_bestHouse_57 : decode cX4_bestHouse 57 = .ok (.invokevirtual 115, 3) := by decide +kernel
theorem dX4_bestHouse_60 : decode cX4_bestHouse 60 = .ok (.aload_n 0, 1) := by decide +kernel
theorem dX4_bestHouse_61 : decode cX4_bestHouse 61 = .ok (.getfield 41, 3) := by decide +kernel
theorem dX4_bestHouse_64 : decode cX4_bestHouse 64 = .ok (.iload_n 1, 1) := by decide +kernel
theorem dX4_bestHouse_65 : decode cX4_bestHouse 65 = .ok (.iload 6, 2) := by decide +kernel
theorem dX4_bestHouse_67 : decode cX4_bestHouse 67 = .ok (.invokevirtual 156, 3) := by decide +kernel
theorem dX4_bestHouse_70 : decode cX4_bestHouse 70 = .ok (.aload_n 0, 1) := by decide +kernel
theorem dX4_bestHouse_71 : decode cX4_bestHouse 71 = .ok (.getfield 41, 3) := by decide +kernel
theorem dX4_bestHouse_74 : decode cX4_bestHouse 74 = .ok (.iload_n 2, 1) := by decide +kernel
theorem dX4_bestHouse_75 : decode cX4_bestHouse 75 = .ok (.invokevirtual 195, 3) := by decide +kernel
theorem dX4_bestHouse_78 : decode cX4_bestHouse 78 = .ok (.aload_n 0, 1) := by decide +kernel
theorem dX4_bestHouse_79 : decode cX4_bestHouse 79 = .ok (.getfield 41, 3) := by decide +kernel
theorem dX4_bestHouse_82 : decode cX4_bestHouse 82 = .ok (.invokevirtual 144, 3) := by decide +kernel
theorem dX4_bestHouse_85 : decode cX4_bestHouse 85 = .ok (.istore 7, 2) := by decide +kernel
theorem dX4_bestHouse_87 : decode cX4_bestHouse 87 = .ok (.iload 7, 2) := by decide +kernel
theorem dX4_bestHouse_89 : decode cX4_bestHouse 89 = .ok (.iload 5, 2) := by decide +kernel
theorem dX4_bestHouse_91 : decode cX4_bestHouse 91 = .ok (.if_icmp .le 11, 3) := by decide +kernel
theorem dX4_bestHouse_94 : decode cX4_bestHouse 94 = .ok (.iload 7, 2) := by decide +kernel
theorem dX4_bestHouse_96 : decode cX4_bestHouse 96 = .ok (.istore 5, 2) := by decide +kernel
theorem dX4_bestHouse_98 : decode cX4_bestHouse 98 = .ok (.iload 6, 2) := by decide +kernel
theorem dX4_bestHouse_100 : decode cX4_bestHouse 100 = .ok (.istore 4, 2) := by decide +kernel
theorem dX4_bestHouse_102 : decode cX4_bestHouse 102 = .ok (.iinc 6 1, 3) := by decide +kernel
theorem dX4_bestHouse_105 : decode cX4_bestHouse 105 = .ok (.goto (-68), 3) := by decide +kernel
theorem dX4_bestHouse_108 : decode cX4_bestHouse 108 = .ok (.iload_n 3, 1) := by decide +kernel
theorem dX4_bestHouse_109 : decode cX4_bestHouse 109 = .ok (.ifCond .ne 8, 3) := by decide +kernel
theorem dX4_bestHouse_112 : decode cX4_bestHouse 112 = .ok (.iload 4, 2) := by decide +kernel
theorem dX4_bestHouse_114 : decode cX4_bestHouse 114 = .ok (.goto 5, 3) := by decide +kernel
theorem dX4_bestHouse_117 : decode cX4_bestHouse 117 = .ok (.iload 5, 2) := by decide +kernel
theorem dX4_bestHouse_119 : decode cX4_bestHouse 119 = .ok (.ireturn, 1) := by decide +kernel
theorem dX4_tells_0 : decode cX4_tells 0 = .ok (.aload_n 0, 1) := by decide +kernel
theorem dX4_tells_1 : decode cX4_tells 1 = .ok (.invokevirtual 130, 3) := by decide +kernel
theorem dX4_tells_4 : decode cX4_tells 4 = .ok (.ifCond .ne 6, 3) := by decide +kernel
theorem dX4_tells_7 : decode cX4_tells 7 = .ok (.ldc 129, 2) := by decide +kernel
theorem dX4_tells_9 : decode cX4_tells 9 = .ok (.ireturn, 1) := by decide +kernel
theorem dX4_tells_10 : decode cX4_tells 10 = .ok (.iload_n 1, 1) := by decide +kernel
theorem dX4_tells_11 : decode cX4_tells 11 = .ok (.iconst 1, 1) := by decide +kernel
theorem dX4_tells_12 : decode cX4_tells 12 = .ok (.bipush 60, 2) := by decide +kernel
theorem dX4_tells_14 : decode cX4_tells 14 = .ok (.invokestatic 52, 3) := by decide +kernel
theorem dX4_tells_17 : decode cX4_tells 17 = .ok (.ifCond .eq 10, 3) := by decide +kernel
theorem dX4_tells_20 : decode cX4_tells 20 = .ok (.iload_n 2, 1) := by decide +kernel
theorem dX4_tells_21 : decode cX4_tells 21 = .ok (.invokestatic 162, 3) := by decide +kernel
theorem dX4_tells_24 : decode cX4_tells 24 = .ok (.ifCond .ne 6, 3) := by decide +kernel
theorem dX4_tells_27 : decode cX4_tells 27 = .ok (.ldc 56, 2) := by decide +kernel
theorem dX4_tells_29 : decode cX4_tells 29 = .ok (.ireturn, 1) := by decide +kernel
theorem dX4_tells_30 : decode cX4_tells 30 = .ok (.iconst 0, 1) := by decide +kernel
theorem dX4_tells_31 : decode cX4_tells 31 = .ok (.istore_n 3, 1) := by decide +kernel
theorem dX4_tells_32 : decode cX4_tells 32 = .ok (.aload_n 0, 1) := by decide +kernel
theorem dX4_tells_33 : decode cX4_tells 33 = .ok (.iconst 0, 1) := by decide +kernel
theorem dX4_tells_34 : decode cX4_tells 34 = .ok (.iload_n 1, 1) := by decide +kernel
theorem dX4_tells_35 : decode cX4_tells 35 = .ok (.invokevirtual 212, 3) := by decide +kernel
theorem dX4_tells_38 : decode cX4_tells 38 = .ok (.istore 4, 2) := by decide +kernel
theorem dX4_tells_40 : decode cX4_tells 40 = .ok (.iconst 1, 1) := by decide +kernel
theorem dX4_tells_41 : decode cX4_tells 41 = .ok (.istore 5, 2) := by decide +kernel
theorem dX4_tells_43 : decode cX4_tells 43 = .ok (.iload 5, 2) := by decide +kernel
theorem dX4_tells_45 : decode cX4_tells 45 = .ok (.aload_n 0, 1) := by decide +kernel
theorem dX4_tells_46 : decode cX4_tells 46 = .ok (.getfield 37, 3) := by decide +kernel
theorem dX4_tells_49 : decode cX4_tells 49 = .ok (.getfield 122, 3) := by decide +kernel
theorem dX4_tells_52 : decode cX4_tells 52 = .ok (.if_icmp .ge 32, 3) := by decide +kernel
theorem dX4_tells_55 : decode cX4_tells 55 = .ok (.aload_n 0, 1) := by decide +kernel
theorem dX4_tells_56 : decode cX4_tells 56 = .ok (.iload 5, 2) := by decide +kernel
theorem dX4_tells_58 : decode cX4_tells 58 = .ok (.iload_n 1, 1) := by decide +kernel
theorem dX4_tells_59 : decode cX4_tells 59 = .ok (.invokevirtual 212, 3) := by decide +kernel
theorem dX4_tells_62 : decode cX4_tells 62 = .ok (.istore 6, 2) := by decide +kernel
theorem dX4_tells_64 : decode cX4_tells 64 = .ok (.iload 6, 2) := by decide +kernel
theorem dX4_tells_66 : decode cX4_tells 66 = .ok (.iload 4, 2) := by decide +kernel
theorem dX4_tells_68 : decode cX4_tells 68 = .ok (.if_icmp .ge 10, 3) := by decide +kernel
theorem dX4_tells_71 : decode cX4_tells 71 = .ok (.iload 6, 2) := by decide +kernel
theorem dX4_tells_73 : decode cX4_tells 73 = .ok (.istore 4, 2) := by decide +kernel
theorem dX4_tells_75 : decode cX4_tells 75 = .ok (.iload 5, 2) := by decide +kernel
theorem dX4_tells_77 : decode cX4_tells 77 = .ok (.istore_n 3, 1) := by decide +kernel
theorem dX4_tells_78 : decode cX4_tells 78 = .ok (.iinc 5 1, 3) := by decide +kernel
theorem dX4_tells_81 : decode cX4_tells 81 = .ok (.goto (-38), 3) := by decide +kernel
theorem dX4_tells_84 : decode cX4_tells 84 = .ok (.iload_n 2, 1) := by decide +kernel
theorem dX4_tells_85 : decode cX4_tells 85 = .ok (.ifCond .ne 5, 3) := by decide +kernel
theorem dX4_tells_88 : decode cX4_tells 88 = .ok (.iload_n 3, 1) := by decide +kernel
theorem dX4_tells_89 : decode cX4_tells 89 = .ok (.ireturn, 1) := by decide +kernel
theorem dX4_tells_90 : decode cX4_tells 90 = .ok (.aload_n 0, 1) := by decide +kernel
theorem dX4_tells_91 : decode cX4_tells 91 = .ok (.getfield 41, 3) := by decide +kernel
theorem dX4_tells_94 : decode cX4_tells 94 = .ok (.aload_n 0, 1) := by decide +kernel
theorem dX4_tells_95 : decode cX4_tells 95 = .ok (.getfield 37, 3) := by decide +kernel
theorem dX4_tells_98 : decode cX4_tells 98 = .ok (.invokevirtual 115, 3) := by decide +kernel
theorem dX4_tells_101 : decode cX4_tells 101 = .ok (.aload_n 0, 1) := by decide +kernel
theorem dX4_tells_102 : decode cX4_tells 102 = .ok (.getfield 41, 3) := by decide +kernel
theorem dX4_tells_105 : decode cX4_tells 105 = .ok (.iload_n 1, 1) := by decide +kernel
theorem dX4_tells_106 : decode cX4_tells 106 = .ok (.invokevirtual 195, 3) := by decide +kernel
theorem dX4_tells_109 : decode cX4_tells 109 = .ok (.sipush 1000, 3) := by decide +kernel
theorem dX4_tells_112 : decode cX4_tells 112 = .ok (.aload_n 0, 1) := by decide +kernel
theorem dX4_tells_113 : decode cX4_tells 113 = .ok (.getfield 41, 3) := by decide +kernel
theorem dX4_tells_116 : decode cX4_tells 116 = .ok (.invokevirtual 144, 3) := by decide +kernel
theorem dX4_tells_119 : decode cX4_tells 119 = .ok (.iadd, 1) := by decide +kernel
theorem dX4_tells_120 : decode cX4_tells 120 = .ok (.iload 4, 2) := by decide +kernel
theorem dX4_tells_122 : decode cX4_tells 122 = .ok (.isub, 1) := by decide +kernel
theorem dX4_tells_123 : decode cX4_tells 123 = .ok (.ireturn, 1) := by decide +kernel
theorem dX4_who_0 : decode cX4_who 0 = .ok (.aload_n 0, 1) := by decide +kernel
theorem dX4_who_1 : decode cX4_who 1 = .ok (.iconst 0, 1) := by decide +kernel
theorem dX4_who_2 : decode cX4_who 2 = .ok (.iload_n 1, 1) := by decide +kernel
theorem dX4_who_3 : decode cX4_who 3 = .ok (.iload_n 2, 1) := by decide +kernel
theorem dX4_who_4 : decode cX4_who 4 = .ok (.iload_n 3, 1) := by decide +kernel
theorem dX4_who_5 : decode cX4_who 5 = .ok (.iload 4, 2) := by decide +kernel
theorem dX4_who_7 : decode cX4_who 7 = .ok (.iload 5, 2) := by decide +kernel
theorem dX4_who_9 : decode cX4_who 9 = .ok (.invokevirtual 215, 3) := by decide +kernel
theorem dX4_who_12 : decode cX4_who 12 = .ok (.ireturn, 1) := by decide +kernel
theorem dX4_houses_0 : decode cX4_houses 0 = .ok (.aload_n 0, 1) := by decide +kernel
theorem dX4_houses_1 : decode cX4_houses 1 = .ok (.iconst 1, 1) := by decide +kernel
theorem dX4_houses_2 : decode cX4_houses 2 = .ok (.iload_n 1, 1) := by decide +kernel
theorem dX4_houses_3 : decode cX4_houses 3 = .ok (.iload_n 2, 1) := by decide +kernel
theorem dX4_houses_4 : decode cX4_houses 4 = .ok (.iload_n 3, 1) := by decide +kernel
theorem dX4_houses_5 : decode cX4_houses 5 = .ok (.iload 4, 2) := by decide +kernel
theorem dX4_houses_7 : decode cX4_houses 7 = .ok (.iload 5, 2) := by decide +kernel
theorem dX4_houses_9 : decode cX4_houses 9 = .ok (.invokevirtual 215, 3) := by decide +kernel
theorem dX4_houses_12 : decode cX4_houses 12 = .ok (.ireturn, 1) := by decide +kernel
theorem dX4_weights_0 : decode cX4_weights 0 = .ok (.aload_n 0, 1) := by decide +kernel
theorem dX4_weights_1 : decode cX4_weights 1 = .ok (.iconst 2, 1) := by decide +kernel
theorem dX4_weights_2 : decode cX4_weights 2 = .ok (.iload_n 1, 1) := by decide +kernel
theorem dX4_weights_3 : decode cX4_weights 3 = .ok (.iload_n 2, 1) := by decide +kernel
theorem dX4_weights_4 : decode cX4_weights 4 = .ok (.iload_n 3, 1) := by decide +kernel
theorem dX4_weights_5 : decode cX4_weights 5 = .ok (.iload 4, 2) := by decide +kernel
theorem dX4_weights_7 : decode cX4_weights 7 = .ok (.iload 5, 2) := by decide +kernel
theorem dX4_weights_9 : decode cX4_weights 9 = .ok (.invokevirtual 215, 3) := by decide +kernel
theorem dX4_weights_12 : decode cX4_weights 12 = .ok (.ireturn, 1) := by decide +kernel
theorem dX4_absent_0 : decode cX4_absent 0 = .ok (.aload_n 0, 1) := by decide +kernel
theorem dX4_absent_1 : decode cX4_absent 1 = .ok (.iload_n 1, 1) := by decide +kernel
theorem dX4_absent_2 : decode cX4_absent 2 = .ok (.iload_n 2, 1) := by decide +kernel
theorem dX4_absent_3 : decode cX4_absent 3 = .ok (.iload_n 3, 1) := by decide +kernel
theorem dX4_absent_4 : decode cX4_absent 4 = .ok (.iload 4, 2) := by decide +kernel
theorem dX4_absent_6 : decode cX4_absent 6 = .ok (.invokevirtual 219, 3) := by decide +kernel
theorem dX4_absent_9 : decode cX4_absent 9 = .ok (.istore 5, 2) := by decide +kernel
theorem dX4_absent_11 : decode cX4_absent 11 = .ok (.iload 5, 2) := by decide +kernel
theorem dX4_absent_13 : decode cX4_absent 13 = .ok (.ifCond .eq 6, 3) := by decide +kernel
theorem dX4_absent_16 : decode cX4_absent 16 = .ok (.iload 5, 2) := by decide +kernel
theorem dX4_absent_18 : decode cX4_absent 18 = .ok (.ireturn, 1) := by decide +kernel
theorem dX4_absent_19 : decode cX4_absent 19 = .ok (.aload_n 0, 1) := by decide +kernel
theorem dX4_absent_20 : decode cX4_absent 20 = .ok (.getfield 41, 3) := by decide +kernel
theorem dX4_absent_23 : decode cX4_absent 23 = .ok (.aload_n 0, 1) := by decide +kernel
theorem dX4_absent_24 : decode cX4_absent 24 = .ok (.getfield 37, 3) := by decide +kernel
theorem dX4_absent_27 : decode cX4_absent 27 = .ok (.invokevirtual 115, 3) := by decide +kernel
theorem dX4_absent_30 : decode cX4_absent 30 = .ok (.aload_n 0, 1) := by decide +kernel
theorem dX4_absent_31 : decode cX4_absent 31 = .ok (.iload_n 1, 1) := by decide +kernel
theorem dX4_absent_32 : decode cX4_absent 32 = .ok (.aload_n 0, 1) := by decide +kernel
theorem dX4_absent_33 : decode cX4_absent 33 = .ok (.getfield 11, 3) := by decide +kernel
theorem dX4_absent_36 : decode cX4_absent 36 = .ok (.iload_n 2, 1) := by decide +kernel
theorem dX4_absent_37 : decode cX4_absent 37 = .ok (.aaload, 1) := by decide +kernel
theorem dX4_absent_38 : decode cX4_absent 38 = .ok (.iload_n 3, 1) := by decide +kernel
theorem dX4_absent_39 : decode cX4_absent 39 = .ok (.iload 4, 2) := by decide +kernel
theorem dX4_absent_41 : decode cX4_absent 41 = .ok (.invokevirtual 223, 3) := by decide +kernel
theorem dX4_absent_44 : decode cX4_absent 44 = .ok (.ifCond .eq 8, 3) := by decide +kernel
theorem dX4_absent_47 : decode cX4_absent 47 = .ok (.bipush 64, 2) := by decide +kernel
theorem dX4_absent_49 : decode cX4_absent 49 = .ok (.goto 4, 3) := by decide +kernel
theorem dX4_absent_52 : decode cX4_absent 52 = .ok (.iconst 0, 1) := by decide +kernel
theorem dX4_absent_53 : decode cX4_absent 53 = .ok (.istore 6, 2) := by decide +kernel
theorem dX4_absent_55 : decode cX4_absent 55 = .ok (.iconst 0, 1) := by decide +kernel
theorem dX4_absent_56 : decode cX4_absent 56 = .ok (.istore 7, 2) := by decide +kernel
theorem dX4_absent_58 : decode cX4_absent 58 = .ok (.iload 7, 2) := by decide +kernel
theorem dX4_absent_60 : decode cX4_absent 60 = .ok (.aload_n 0, 1) := by decide +kernel
theorem dX4_absent_61 : decode cX4_absent 61 = .ok (.getfield 37, 3) := by decide +kernel
theorem dX4_absent_64 : decode cX4_absent 64 = .ok (.getfield 122, 3) := by decide +kernel
theorem dX4_absent_67 : decode cX4_absent 67 = .ok (.if_icmp .ge 57, 3) := by decide +kernel
theorem dX4_absent_70 : decode cX4_absent 70 = .ok (.aload_n 0, 1) := by decide +kernel
theorem dX4_absent_71 : decode cX4_absent 71 = .ok (.getfield 41, 3) := by decide +kernel
theorem dX4_absent_74 : decode cX4_absent 74 = .ok (.aload_n 0, 1) := by decide +kernel
theorem dX4_absent_75 : decode cX4_absent 75 = .ok (.getfield 37, 3) := by decide +kernel
theorem dX4_absent_78 : decode cX4_absent 78 = .ok (.invokevirtual 115, 3) := by decide +kernel
theorem dX4_absent_81 : decode cX4_absent 81 = .ok (.aload_n 0, 1) := by decide +kernel
theorem dX4_absent_82 : decode cX4_absent 82 = .ok (.getfield 41, 3) := by decide +kernel
theorem dX4_absent_85 : decode cX4_absent 85 = .ok (.iconst 1, 1) := by decide +kernel
theorem dX4_absent_86 : decode cX4_absent 86 = .ok (.iload 7, 2) := by decide +kernel
theorem dX4_absent_88 : decode cX4_absent 88 = .ok (.ishl, 1) := by decide +kernel
theorem dX4_absent_89 : decode cX4_absent 89 = .ok (.putfield 227, 3) := by decide +kernel
theorem dX4_absent_92 : decode cX4_absent 92 = .ok (.aload_n 0, 1) := by decide +kernel
theorem dX4_absent_93 : decode cX4_absent 93 = .ok (.iload_n 1, 1) := by decide +kernel
theorem dX4_absent_94 : decode cX4_absent 94 = .ok (.aload_n 0, 1) := by decide +kernel
theorem dX4_absent_95 : decode cX4_absent 95 = .ok (.getfield 11, 3) := by decide +kernel
theorem dX4_absent_98 : decode cX4_absent 98 = .ok (.iload_n 2, 1) := by decide +kernel
theorem dX4_absent_99 : decode cX4_absent 99 = .ok (.aaload, 1) := by decide +kernel
theorem dX4_absent_100 : decode cX4_absent 100 = .ok (.iload_n 3, 1) := by decide +kernel
theorem dX4_absent_101 : decode cX4_absent 101 = .ok (.iload 4, 2) := by decide +kernel
theorem dX4_absent_103 : decode cX4_absent 103 = .ok (.invokevirtual 223, 3) := by decide +kernel
theorem dX4_absent_106 : decode cX4_absent 106 = .ok (.ifCond .eq 12, 3) := by decide +kernel
theorem dX4_absent_109 : decode cX4_absent 109 = .ok (.iload 6, 2) := by decide +kernel
theorem dX4_absent_111 : decode cX4_absent 111 = .ok (.iconst 1, 1) := by decide +kernel
theorem dX4_absent_112 : decode cX4_absent 112 = .ok (.iload 7, 2) := by decide +kernel
theorem dX4_absent_114 : decode cX4_absent 114 = .ok (.ishl, 1) := by decide +kernel
theorem dX4_absent_115 : decode cX4_absent 115 = .ok (.ior, 1) := by decide +kernel
theorem dX4_absent_116 : decode cX4_absent 116 = .ok (.istore 6, 2) := by decide +kernel
theorem dX4_absent_118 : decode cX4_absent 118 = .ok (.iinc 7 1, 3) := by decide +kernel
theorem dX4_absent_121 : decode cX4_absent 121 = .ok (.goto (-63), 3) := by decide +kernel
theorem dX4_absent_124 : decode cX4_absent 124 = .ok (.iload 6, 2) := by decide +kernel
theorem dX4_absent_126 : decode cX4_absent 126 = .ok (.ireturn, 1) := by decide +kernel
theorem dX4_greets_0 : decode cX4_greets 0 = .ok (.aload_n 0, 1) := by decide +kernel
theorem dX4_greets_1 : decode cX4_greets 1 = .ok (.invokevirtual 130, 3) := by decide +kernel
theorem dX4_greets_4 : decode cX4_greets 4 = .ok (.ifCond .ne 6, 3) := by decide +kernel
theorem dX4_greets_7 : decode cX4_greets 7 = .ok (.ldc 129, 2) := by decide +kernel
theorem dX4_greets_9 : decode cX4_greets 9 = .ok (.ireturn, 1) := by decide +kernel
theorem dX4_greets_10 : decode cX4_greets 10 = .ok (.iload_n 1, 1) := by decide +kernel
theorem dX4_greets_11 : decode cX4_greets 11 = .ok (.invokestatic 162, 3) := by decide +kernel
theorem dX4_greets_14 : decode cX4_greets 14 = .ok (.ifCond .ne 6, 3) := by decide +kernel
theorem dX4_greets_17 : decode cX4_greets 17 = .ok (.ldc 56, 2) := by decide +kernel
theorem dX4_greets_19 : decode cX4_greets 19 = .ok (.ireturn, 1) := by decide +kernel
theorem dX4_greets_20 : decode cX4_greets 20 = .ok (.iconst 0, 1) := by decide +kernel
theorem dX4_greets_21 : decode cX4_greets 21 = .ok (.istore_n 2, 1) := by decide +kernel
theorem dX4_greets_22 : decode cX4_greets 22 = .ok (.ldc 199, 2) := by decide +kernel
theorem dX4_greets_24 : decode cX4_greets 24 = .ok (.istore_n 3, 1) := by decide +kernel
theorem dX4_greets_25 : decode cX4_greets 25 = .ok (.iconst 0, 1) := by decide +kernel
theorem dX4_greets_26 : decode cX4_greets 26 = .ok (.istore 4, 2) := by decide +kernel
theorem dX4_greets_28 : decode cX4_greets 28 = .ok (.iload 4, 2) := by decide +kernel
theorem dX4_greets_30 : decode cX4_greets 30 = .ok (.iconst 1, 1) := by decide +kernel
theorem dX4_greets_31 : decode cX4_greets 31 = .ok (.iadd, 1) := by decide +kernel
theorem dX4_greets_32 : decode cX4_greets 32 = .ok (.aload_n 0, 1) := by decide +kernel
theorem dX4_greets_33 : decode cX4_greets 33 = .ok (.getfield 37, 3) := by decide +kernel
theorem dX4_greets_36 : decode cX4_greets 36 = .ok (.getfield 200, 3) := by decide +kernel
theorem dX4_greets_39 : decode cX4_greets 39 = .ok (.if_icmp .ge 49, 3) := by decide +kernel
theorem dX4_greets_42 : decode cX4_greets 42 = .ok (.aload_n 0, 1) := by decide +kernel
theorem dX4_greets_43 : decode cX4_greets 43 = .ok (.iload 4, 2) := by decide +kernel
theorem dX4_greets_45 : decode cX4_greets 45 = .ok (.invokevirtual 230, 3) := by decide +kernel
theorem dX4_greets_48 : decode cX4_greets 48 = .ok (.ifCond .eq 34, 3) := by decide +kernel
theorem dX4_greets_51 : decode cX4_greets 51 = .ok (.aload_n 0, 1) := by decide +kernel
theorem dX4_greets_52 : decode cX4_greets 52 = .ok (.iload 4, 2) := by decide +kernel
theorem dX4_greets_54 : decode cX4_greets 54 = .ok (.iconst 1, 1) := by decide +kernel
theorem dX4_greets_55 : decode cX4_greets 55 = .ok (.iadd, 1) := by decide +kernel
theorem dX4_greets_56 : decode cX4_greets 56 = .ok (.invokevirtual 230, 3) := by decide +kernel
theorem dX4_greets_59 : decode cX4_greets 59 = .ok (.ifCond .eq 23, 3) := by decide +kernel
theorem dX4_greets_62 : decode cX4_greets 62 = .ok (.iinc 2 1, 3) := by decide +kernel
theorem dX4_greets_65 : decode cX4_greets 65 = .ok (.iload_n 3, 1) := by decide +kernel
theorem dX4_greets_66 : decode cX4_greets 66 = .ok (.ldc 199, 2) := by decide +kernel
theorem dX4_greets_68 : decode cX4_greets 68 = .ok (.if_icmp .ne 14, 3) := by decide +kernel
theorem dX4_greets_71 : decode cX4_greets 71 = .ok (.bipush 10, 2) := by decide +kernel
theorem dX4_greets_73 : decode cX4_greets 73 = .ok (.iload 4, 2) := by decide +kernel
theorem dX4_greets_75 : decode cX4_greets 75 = .ok (.imul, 1) := by decide +kernel
theorem dX4_greets_76 : decode cX4_greets 76 = .ok (.iload 4, 2) := by decide +kernel
theorem dX4_greets_78 : decode cX4_greets 78 = .ok (.iadd, 1) := by decide +kernel
theorem dX4_greets_79 : decode cX4_greets 79 = .ok (.iconst 1, 1) := by decide +kernel
theorem dX4_greets_80 : decode cX4_greets 80 = .ok (.iadd, 1) := by decide +kernel
theorem dX4_greets_81 : decode cX4_greets 81 = .ok (.istore_n 3, 1) := by decide +kernel
theorem dX4_greets_82 : decode cX4_greets 82 = .ok (.iinc 4 1, 3) := by decide +kernel
theorem dX4_greets_85 : decode cX4_greets 85 = .ok (.goto (-57), 3) := by decide +kernel
theorem dX4_greets_88 : decode cX4_greets 88 = .ok (.iload_n 1, 1) := by decide +kernel
theorem dX4_greets_89 : decode cX4_greets 89 = .ok (.ifCond .ne 7, 3) := by decide +kernel
theorem dX4_greets_92 : decode cX4_greets 92 = .ok (.iload_n 2, 1) := by decide +kernel
theorem dX4_greets_93 : decode cX4_greets 93 = .ok (.goto 4, 3) := by decide +kernel
theorem dX4_greets_96 : decode cX4_greets 96 = .ok (.iload_n 3, 1) := by decide +kernel
theorem dX4_greets_97 : decode cX4_greets 97 = .ok (.ireturn, 1) := by decide +kernel
theorem dX4_talk_0 : decode cX4_talk 0 = .ok (.aload_n 0, 1) := by decide +kernel
theorem dX4_talk_1 : decode cX4_talk 1 = .ok (.iload_n 1, 1) := by decide +kernel
theorem dX4_talk_2 : decode cX4_talk 2 = .ok (.invokevirtual 150, 3) := by decide +kernel
theorem dX4_talk_5 : decode cX4_talk 5 = .ok (.ifCond .eq 16, 3) := by decide +kernel
theorem dX4_talk_8 : decode cX4_talk 8 = .ok (.aload_n 0, 1) := by decide +kernel
theorem dX4_talk_9 : decode cX4_talk 9 = .ok (.iload_n 2, 1) := by decide +kernel
theorem dX4_talk_10 : decode cX4_talk 10 = .ok (.invokevirtual 150, 3) := by decide +kernel
theorem dX4_talk_13 : decode cX4_talk 13 = .ok (.ifCond .eq 8, 3) := by decide +kernel
theorem dX4_talk_16 : decode cX4_talk 16 = .ok (.iload_n 1, 1) := by decide +kernel
theorem dX4_talk_17 : decode cX4_talk 17 = .ok (.iload_n 2, 1) := by decide +kernel
theorem dX4_talk_18 : decode cX4_talk 18 = .ok (.if_icmp .ne 6, 3) := by decide +kernel
theorem dX4_talk_21 : decode cX4_talk 21 = .ok (.ldc 56, 2) := by decide +kernel
theorem dX4_talk_23 : decode cX4_talk 23 = .ok (.ireturn, 1) := by decide +kernel
theorem dX4_talk_24 : decode cX4_talk 24 = .ok (.iload_n 1, 1) := by decide +kernel
theorem dX4_talk_25 : decode cX4_talk 25 = .ok (.iload_n 2, 1) := by decide +kernel
theorem dX4_talk_26 : decode cX4_talk 26 = .ok (.invokestatic 233, 3) := by decide +kernel
theorem dX4_talk_29 : decode cX4_talk 29 = .ok (.istore_n 3, 1) := by decide +kernel
theorem dX4_talk_30 : decode cX4_talk 30 = .ok (.iload_n 3, 1) := by decide +kernel
theorem dX4_talk_31 : decode cX4_talk 31 = .ok (.iload_n 1, 1) := by decide +kernel
theorem dX4_talk_32 : decode cX4_talk 32 = .ok (.iload_n 2, 1) := by decide +kernel
theorem dX4_talk_33 : decode cX4_talk 33 = .ok (.invokestatic 238, 3) := by decide +kernel
theorem dX4_talk_36 : decode cX4_talk 36 = .ok (.if_icmp .gt 26, 3) := by decide +kernel
theorem dX4_talk_39 : decode cX4_talk 39 = .ok (.aload_n 0, 1) := by decide +kernel
theorem dX4_talk_40 : decode cX4_talk 40 = .ok (.getfield 37, 3) := by decide +kernel
theorem dX4_talk_43 : decode cX4_talk 43 = .ok (.getfield 165, 3) := by decide +kernel
theorem dX4_talk_46 : decode cX4_talk 46 = .ok (.iload_n 3, 1) := by decide +kernel
theorem dX4_talk_47 : decode cX4_talk 47 = .ok (.invokestatic 168, 3) := by decide +kernel
theorem dX4_talk_50 : decode cX4_talk 50 = .ok (.iconst 1, 1) := by decide +kernel
theorem dX4_talk_51 : decode cX4_talk 51 = .ok (.if_icmp .ne 5, 3) := by decide +kernel
theorem dX4_talk_54 : decode cX4_talk 54 = .ok (.iconst 0, 1) := by decide +kernel
theorem dX4_talk_55 : decode cX4_talk 55 = .ok (.ireturn, 1) := by decide +kernel
theorem dX4_talk_56 : decode cX4_talk 56 = .ok (.iinc 3 1, 3) := by decide +kernel
theorem dX4_talk_59 : decode cX4_talk 59 = .ok (.goto (-29), 3) := by decide +kernel
theorem dX4_talk_62 : decode cX4_talk 62 = .ok (.iconst 1, 1) := by decide +kernel
theorem dX4_talk_63 : decode cX4_talk 63 = .ok (.ireturn, 1) := by decide +kernel
theorem dX4_alone_0 : decode cX4_alone 0 = .ok (.aload_n 0, 1) := by decide +kernel
theorem dX4_alone_1 : decode cX4_alone 1 = .ok (.invokevirtual 130, 3) := by decide +kernel
theorem dX4_alone_4 : decode cX4_alone 4 = .ok (.ifCond .ne 6, 3) := by decide +kernel
theorem dX4_alone_7 : decode cX4_alone 7 = .ok (.ldc 129, 2) := by decide +kernel
theorem dX4_alone_9 : decode cX4_alone 9 = .ok (.ireturn, 1) := by decide +kernel
theorem dX4_alone_10 : decode cX4_alone 10 = .ok (.iconst 0, 1) := by decide +kernel
theorem dX4_alone_11 : decode cX4_alone 11 = .ok (.istore_n 1, 1) := by decide +kernel
theorem dX4_alone_12 : decode cX4_alone 12 = .ok (.iconst 0, 1) := by decide +kernel
theorem dX4_alone_13 : decode cX4_alone 13 = .ok (.istore_n 2, 1) := by decide +kernel
theorem dX4_alone_14 : decode cX4_alone 14 = .ok (.iconst 0, 1) := by decide +kernel
theorem dX4_alone_15 : decode cX4_alone 15 = .ok (.istore_n 3, 1) := by decide +kernel
theorem dX4_alone_16 : decode cX4_alone 16 = .ok (.iload_n 3, 1) := by decide +kernel
theorem dX4_alone_17 : decode cX4_alone 17 = .ok (.aload_n 0, 1) := by decide +kernel
theorem dX4_alone_18 : decode cX4_alone 18 = .ok (.getfield 37, 3) := by decide +kernel
theorem dX4_alone_21 : decode cX4_alone 21 = .ok (.getfield 200, 3) := by decide +kernel
theorem dX4_alone_24 : decode cX4_alone 24 = .ok (.if_icmp .ge 53, 3) := by decide +kernel
theorem dX4_alone_27 : decode cX4_alone 27 = .ok (.aload_n 0, 1) := by decide +kernel
theorem dX4_alone_28 : decode cX4_alone 28 = .ok (.getfield 37, 3) := by decide +kernel
theorem dX4_alone_31 : decode cX4_alone 31 = .ok (.getfield 186, 3) := by decide +kernel
theorem dX4_alone_34 : decode cX4_alone 34 = .ok (.iload_n 3, 1) := by decide +kernel
theorem dX4_alone_35 : decode cX4_alone 35 = .ok (.iaload, 1) := by decide +kernel
theorem dX4_alone_36 : decode cX4_alone 36 = .ok (.iload_n 1, 1) := by decide +kernel
theorem dX4_alone_37 : decode cX4_alone 37 = .ok (.if_icmp .le 15, 3) := by decide +kernel
theorem dX4_alone_40 : decode cX4_alone 40 = .ok (.aload_n 0, 1) := by decide +kernel
theorem dX4_alone_41 : decode cX4_alone 41 = .ok (.getfield 37, 3) := by decide +kernel
theorem dX4_alone_44 : decode cX4_alone 44 = .ok (.getfield 186, 3) := by decide +kernel
theorem dX4_alone_47 : decode cX4_alone 47 = .ok (.iload_n 3, 1) := by decide +kernel
theorem dX4_alone_48 : decode cX4_alone 48 = .ok (.iaload, 1) := by decide +kernel
theorem dX4_alone_49 : decode cX4_alone 49 = .ok (.istore_n 1, 1) := by decide +kernel
theorem dX4_alone_50 : decode cX4_alone 50 = .ok (.iconst 0, 1) := by decide +kernel
theorem dX4_alone_51 : decode cX4_alone 51 = .ok (.istore_n 2, 1) := by decide +kernel
theorem dX4_alone_52 : decode cX4_alone 52 = .ok (.aload_n 0, 1) := by decide +kernel
theorem dX4_alone_53 : decode cX4_alone 53 = .ok (.getfield 37, 3) := by decide +kernel
theorem dX4_alone_56 : decode cX4_alone 56 = .ok (.getfield 186, 3) := by decide +kernel
theorem dX4_alone_59 : decode cX4_alone 59 = .ok (.iload_n 3, 1) := by decide +kernel
theorem dX4_alone_60 : decode cX4_alone 60 = .ok (.iaload, 1) := by decide +kernel
theorem dX4_alone_61 : decode cX4_alone 61 = .ok (.iload_n 1, 1) := by decide +kernel
theorem dX4_alone_62 : decode cX4_alone 62 = .ok (.if_icmp .ne 9, 3) := by decide +kernel
theorem dX4_alone_65 : decode cX4_alone 65 = .ok (.iload_n 2, 1) := by decide +kernel
theorem dX4_alone_66 : decode cX4_alone 66 = .ok (.iconst 1, 1) := by decide +kernel
theorem dX4_alone_67 : decode cX4_alone 67 = .ok (.iload_n 3, 1) := by decide +kernel
theorem dX4_alone_68 : decode cX4_alone 68 = .ok (.ishl, 1) := by decide +kernel
theorem dX4_alone_69 : decode cX4_alone 69 = .ok (.ior, 1) := by decide +kernel
theorem dX4_alone_70 : decode cX4_alone 70 = .ok (.istore_n 2, 1) := by decide +kernel
theorem dX4_alone_71 : decode cX4_alone 71 = .ok (.iinc 3 1, 3) := by decide +kernel
theorem dX4_alone_74 : decode cX4_alone 74 = .ok (.goto (-58), 3) := by decide +kernel
theorem dX4_alone_77 : decode cX4_alone 77 = .ok (.iload_n 2, 1) := by decide +kernel
theorem dX4_alone_78 : decode cX4_alone 78 = .ok (.ireturn, 1) := by decide +kernel
theorem dX4_rain_0 : decode cX4_rain 0 = .ok (.aload_n 0, 1) := by decide +kernel
theorem dX4_rain_1 : decode cX4_rain 1 = .ok (.iload_n 1, 1) := by decide +kernel
theorem dX4_rain_2 : decode cX4_rain 2 = .ok (.invokevirtual 150, 3) := by decide +kernel
theorem dX4_rain_5 : decode cX4_rain 5 = .ok (.ifCond .eq 31, 3) := by decide +kernel
theorem dX4_rain_8 : decode cX4_rain 8 = .ok (.iload_n 2, 1) := by decide +kernel
theorem dX4_rain_9 : decode cX4_rain 9 = .ok (.iconst 0, 1) := by decide +kernel
theorem dX4_rain_10 : decode cX4_rain 10 = .ok (.bipush 99, 2) := by decide +kernel
theorem dX4_rain_12 : decode cX4_rain 12 = .ok (.invokestatic 52, 3) := by decide +kernel
theorem dX4_rain_15 : decode cX4_rain 15 = .ok (.ifCond .eq 21, 3) := by decide +kernel
theorem dX4_rain_18 : decode cX4_rain 18 = .ok (.iload_n 3, 1) := by decide +kernel
theorem dX4_rain_19 : decode cX4_rain 19 = .ok (.iconst 0, 1) := by decide +kernel
theorem dX4_rain_20 : decode cX4_rain 20 = .ok (.bipush 10, 2) := by decide +kernel
theorem dX4_rain_22 : decode cX4_rain 22 = .ok (.invokestatic 52, 3) := by decide +kernel
theorem dX4_rain_25 : decode cX4_rain 25 = .ok (.ifCond .eq 11, 3) := by decide +kernel
theorem dX4_rain_28 : decode cX4_rain 28 = .ok (.iload 4, 2) := by decide +kernel
theorem dX4_rain_30 : decode cX4_rain 30 = .ok (.invokestatic 162, 3) := by decide +kernel
theorem dX4_rain_33 : decode cX4_rain 33 = .ok (.ifCond .ne 7, 3) := by decide +kernel
theorem dX4_rain_36 : decode cX4_rain 36 = .ok (.ldc2_w 241, 3) := by decide +kernel
theorem dX4_rain_39 : decode cX4_rain 39 = .ok (.lreturn, 1) := by decide +kernel
theorem dX4_rain_40 : decode cX4_rain 40 = .ok (.aload_n 0, 1) := by decide +kernel
theorem dX4_rain_41 : decode cX4_rain 41 = .ok (.getfield 37, 3) := by decide +kernel
theorem dX4_rain_44 : decode cX4_rain 44 = .ok (.iconst 5, 1) := by decide +kernel
theorem dX4_rain_45 : decode cX4_rain 45 = .ok (.invokevirtual 243, 3) := by decide +kernel
theorem dX4_rain_48 : decode cX4_rain 48 = .ok (.istore 5, 2) := by decide +kernel
theorem dX4_rain_50 : decode cX4_rain 50 = .ok (.lconst 0, 1) := by decide +kernel
theorem dX4_rain_51 : decode cX4_rain 51 = .ok (.lstore 6, 2) := by decide +kernel
theorem dX4_rain_53 : decode cX4_rain 53 = .ok (.iconst 0, 1) := by decide +kernel
theorem dX4_rain_54 : decode cX4_rain 54 = .ok (.istore 8, 2) := by decide +kernel
theorem dX4_rain_56 : decode cX4_rain 56 = .ok (.iload 8, 2) := by decide +kernel
theorem dX4_rain_58 : decode cX4_rain 58 = .ok (.iconst 1, 1) := by decide +kernel
theorem dX4_rain_59 : decode cX4_rain 59 = .ok (.aload_n 0, 1) := by decide +kernel
theorem dX4_rain_60 : decode cX4_rain 60 = .ok (.getfield 37, 3) := by decide +kernel
theorem dX4_rain_63 : decode cX4_rain 63 = .ok (.getfield 122, 3) := by decide +kernel
theorem dX4_rain_66 : decode cX4_rain 66 = .ok (.ishl, 1) := by decide +kernel
theorem dX4_rain_67 : decode cX4_rain 67 = .ok (.if_icmp .ge 43, 3) := by decide +kernel
theorem dX4_rain_70 : decode cX4_rain 70 = .ok (.iload 8, 2) := by decide +kernel
theorem dX4_rain_72 : decode cX4_rain 72 = .ok (.iload 5, 2) := by decide +kernel
theorem dX4_rain_74 : decode cX4_rain 74 = .ok (.iconst (-1), 1) := by decide +kernel
theorem dX4_rain_75 : decode cX4_rain 75 = .ok (.ixor, 1) := by decide +kernel
theorem dX4_rain_76 : decode cX4_rain 76 = .ok (.iand, 1) := by decide +kernel
theorem dX4_rain_77 : decode cX4_rain 77 = .ok (.ifCond .ne 27, 3) := by decide +kernel
theorem dX4_rain_80 : decode cX4_rain 80 = .ok (.aload_n 0, 1) := by decide +kernel
theorem dX4_rain_81 : decode cX4_rain 81 = .ok (.iload_n 1, 1) := by decide +kernel
theorem dX4_rain_82 : decode cX4_rain 82 = .ok (.iload_n 2, 1) := by decide +kernel
theorem dX4_rain_83 : decode cX4_rain 83 = .ok (.iload 8, 2) := by decide +kernel
theorem dX4_rain_85 : decode cX4_rain 85 = .ok (.invokevirtual 246, 3) := by decide +kernel
theorem dX4_rain_88 : decode cX4_rain 88 = .ok (.ifCond .eq 16, 3) := by decide +kernel
theorem dX4_rain_91 : decode cX4_rain 91 = .ok (.lload 6, 2) := by decide +kernel
theorem dX4_rain_93 : decode cX4_rain 93 = .ok (.iload 8, 2) := by decide +kernel
theorem dX4_rain_95 : decode cX4_rain 95 = .ok (.iload 5, 2) := by decide +kernel
theorem dX4_rain_97 : decode cX4_rain 97 = .ok (.iload_n 3, 1) := by decide +kernel
theorem dX4_rain_98 : decode cX4_rain 98 = .ok (.invokestatic 249, 3) := by decide +kernel
theorem dX4_rain_101 : decode cX4_rain 101 = .ok (.ladd, 1) := by decide +kernel
theorem dX4_rain_102 : decode cX4_rain 102 = .ok (.lstore 6, 2) := by decide +kernel
theorem dX4_rain_104 : decode cX4_rain 104 = .ok (.iinc 8 1, 3) := by decide +kernel
theorem dX4_rain_107 : decode cX4_rain 107 = .ok (.goto (-51), 3) := by decide +kernel
theorem dX4_rain_110 : decode cX4_rain 110 = .ok (.ldc2_w 253, 3) := by decide +kernel
theorem dX4_rain_113 : decode cX4_rain 113 = .ok (.iload 5, 2) := by decide +kernel
theorem dX4_rain_115 : decode cX4_rain 115 = .ok (.invokestatic 203, 3) := by decide +kernel
theorem dX4_rain_118 : decode cX4_rain 118 = .ok (.invokestatic 255, 3) := by decide +kernel
theorem dX4_rain_121 : decode cX4_rain 121 = .ok (.lstore 8, 2) := by decide +kernel
theorem dX4_rain_123 : decode cX4_rain 123 = .ok (.lload 6, 2) := by decide +kernel
theorem dX4_rain_125 : decode cX4_rain 125 = .ok (.lload 8, 2) := by decide +kernel
theorem dX4_rain_127 : decode cX4_rain 127 = .ok (.invokestatic 259, 3) := by decide +kernel
theorem dX4_rain_130 : decode cX4_rain 130 = .ok (.lstore 10, 2) := by decide +kernel
theorem dX4_rain_132 : decode cX4_rain 132 = .ok (.iload 4, 2) := by decide +kernel
theorem dX4_rain_134 : decode cX4_rain 134 = .ok (.ifCond .ne 8, 3) := by decide +kernel
theorem dX4_rain_137 : decode cX4_rain 137 = .ok (.lload 6, 2) := by decide +kernel
theorem dX4_rain_139 : decode cX4_rain 139 = .ok (.goto 5, 3) := by decide +kernel
theorem dX4_rain_142 : decode cX4_rain 142 = .ok (.lload 8, 2) := by decide +kernel
theorem dX4_rain_144 : decode cX4_rain 144 = .ok (.lconst 1, 1) := by decide +kernel
theorem dX4_rain_145 : decode cX4_rain 145 = .ok (.lload 10, 2) := by decide +kernel
theorem dX4_rain_147 : decode cX4_rain 147 = .ok (.invokestatic 263, 3) := by decide +kernel
theorem dX4_rain_150 : decode cX4_rain 150 = .ok (.ldiv, 1) := by decide +kernel
theorem dX4_rain_151 : decode cX4_rain 151 = .ok (.lreturn, 1) := by decide +kernel
theorem dX4_drawn_0 : decode cX4_drawn 0 = .ok (.aload_n 0, 1) := by decide +kernel
theorem dX4_drawn_1 : decode cX4_drawn 1 = .ok (.invokevirtual 130, 3) := by decide +kernel
theorem dX4_drawn_4 : decode cX4_drawn 4 = .ok (.ifCond .ne 6, 3) := by decide +kernel
theorem dX4_drawn_7 : decode cX4_drawn 7 = .ok (.ldc 129, 2) := by decide +kernel
theorem dX4_drawn_9 : decode cX4_drawn 9 = .ok (.ireturn, 1) := by decide +kernel
theorem dX4_drawn_10 : decode cX4_drawn 10 = .ok (.iload_n 1, 1) := by decide +kernel
theorem dX4_drawn_11 : decode cX4_drawn 11 = .ok (.iconst 0, 1) := by decide +kernel
theorem dX4_drawn_12 : decode cX4_drawn 12 = .ok (.bipush 60, 2) := by decide +kernel
theorem dX4_drawn_14 : decode cX4_drawn 14 = .ok (.invokestatic 52, 3) := by decide +kernel
theorem dX4_drawn_17 : decode cX4_drawn 17 = .ok (.ifCond .eq 21, 3) := by decide +kernel
theorem dX4_drawn_20 : decode cX4_drawn 20 = .ok (.iload_n 2, 1) := by decide +kernel
theorem dX4_drawn_21 : decode cX4_drawn 21 = .ok (.iconst 1, 1) := by decide +kernel
theorem dX4_drawn_22 : decode cX4_drawn 22 = .ok (.ldc_w 265, 3) := by decide +kernel
theorem dX4_drawn_25 : decode cX4_drawn 25 = .ok (.invokestatic 52, 3) := by decide +kernel
theorem dX4_drawn_28 : decode cX4_drawn 28 = .ok (.ifCond .eq 10, 3) := by decide +kernel
theorem dX4_drawn_31 : decode cX4_drawn 31 = .ok (.iload_n 3, 1) := by decide +kernel
theorem dX4_drawn_32 : decode cX4_drawn 32 = .ok (.invokestatic 162, 3) := by decide +kernel
theorem dX4_drawn_35 : decode cX4_drawn 35 = .ok (.ifCond .ne 6, 3) := by decide +kernel
theorem dX4_drawn_38 : decode cX4_drawn 38 = .ok (.ldc 56, 2) := by decide +kernel
theorem dX4_drawn_40 : decode cX4_drawn 40 = .ok (.ireturn, 1) := by decide +kernel
theorem dX4_drawn_41 : decode cX4_drawn 41 = .ok (.aload_n 0, 1) := by decide +kernel
theorem dX4_drawn_42 : decode cX4_drawn 42 = .ok (.getfield 41, 3) := by decide +kernel
theorem dX4_drawn_45 : decode cX4_drawn 45 = .ok (.aload_n 0, 1) := by decide +kernel
theorem dX4_drawn_46 : decode cX4_drawn 46 = .ok (.getfield 37, 3) := by decide +kernel
theorem dX4_drawn_49 : decode cX4_drawn 49 = .ok (.invokevirtual 115, 3) := by decide +kernel
theorem dX4_drawn_52 : decode cX4_drawn 52 = .ok (.iload_n 2, 1) := by decide +kernel
theorem dX4_drawn_53 : decode cX4_drawn 53 = .ok (.i2l, 1) := by decide +kernel
theorem dX4_drawn_54 : decode cX4_drawn 54 = .ok (.lstore 4, 2) := by decide +kernel
theorem dX4_drawn_56 : decode cX4_drawn 56 = .ok (.iconst 0, 1) := by decide +kernel
theorem dX4_drawn_57 : decode cX4_drawn 57 = .ok (.istore 6, 2) := by decide +kernel
theorem dX4_drawn_59 : decode cX4_drawn 59 = .ok (.iconst 0, 1) := by decide +kernel
theorem dX4_drawn_60 : decode cX4_drawn 60 = .ok (.istore 7, 2) := by decide +kernel
theorem dX4_drawn_62 : decode cX4_drawn 62 = .ok (.iload 7, 2) := by decide +kernel
theorem dX4_drawn_64 : decode cX4_drawn 64 = .ok (.iload_n 1, 1) := by decide +kernel
theorem dX4_drawn_65 : decode cX4_drawn 65 = .ok (.if_icmp .ge 43, 3) := by decide +kernel
theorem dX4_drawn_68 : decode cX4_drawn 68 = .ok (.lload 4, 2) := by decide +kernel
theorem dX4_drawn_70 : decode cX4_drawn 70 = .ok (.ldc2_w 266, 3) := by decide +kernel
theorem dX4_drawn_73 : decode cX4_drawn 73 = .ok (.lmul, 1) := by decide +kernel
theorem dX4_drawn_74 : decode cX4_drawn 74 = .ok (.ldc2_w 268, 3) := by decide +kernel
theorem dX4_drawn_77 : decode cX4_drawn 77 = .ok (.lrem, 1) := by decide +kernel
theorem dX4_drawn_78 : decode cX4_drawn 78 = .ok (.lstore 4, 2) := by decide +kernel
theorem dX4_drawn_80 : decode cX4_drawn 80 = .ok (.aload_n 0, 1) := by decide +kernel
theorem dX4_drawn_81 : decode cX4_drawn 81 = .ok (.getfield 41, 3) := by decide +kernel
theorem dX4_drawn_84 : decode cX4_drawn 84 = .ok (.lload 4, 2) := by decide +kernel
theorem dX4_drawn_86 : decode cX4_drawn 86 = .ok (.invokevirtual 270, 3) := by decide +kernel
theorem dX4_drawn_89 : decode cX4_drawn 89 = .ok (.aload_n 0, 1) := by decide +kernel
theorem dX4_drawn_90 : decode cX4_drawn 90 = .ok (.getfield 41, 3) := by decide +kernel
theorem dX4_drawn_93 : decode cX4_drawn 93 = .ok (.invokevirtual 140, 3) := by decide +kernel
theorem dX4_drawn_96 : decode cX4_drawn 96 = .ok (.ifCond .eq 6, 3) := by decide +kernel
theorem dX4_drawn_99 : decode cX4_drawn 99 = .ok (.iinc 6 1, 3) := by decide +kernel
theorem dX4_drawn_102 : decode cX4_drawn 102 = .ok (.iinc 7 1, 3) := by decide +kernel
theorem dX4_drawn_105 : decode cX4_drawn 105 = .ok (.goto (-43), 3) := by decide +kernel
theorem dX4_drawn_108 : decode cX4_drawn 108 = .ok (.iload_n 3, 1) := by decide +kernel
theorem dX4_drawn_109 : decode cX4_drawn 109 = .ok (.ifCond .ne 13, 3) := by decide +kernel
theorem dX4_drawn_112 : decode cX4_drawn 112 = .ok (.aload_n 0, 1) := by decide +kernel
theorem dX4_drawn_113 : decode cX4_drawn 113 = .ok (.getfield 41, 3) := by decide +kernel
theorem dX4_drawn_116 : decode cX4_drawn 116 = .ok (.invokevirtual 144, 3) := by decide +kernel
theorem dX4_drawn_119 : decode cX4_drawn 119 = .ok (.goto 5, 3) := by decide +kernel
theorem dX4_drawn_122 : decode cX4_drawn 122 = .ok (.iload 6, 2) := by decide +kernel
theorem dX4_drawn_124 : decode cX4_drawn 124 = .ok (.ireturn, 1) := by decide +kernel
theorem dX4_image_0 : decode cX4_image 0 = .ok (.iload_n 1, 1) := by decide +kernel
theorem dX4_image_1 : decode cX4_image 1 = .ok (.iconst 0, 1) := by decide +kernel
theorem dX4_image_2 : decode cX4_image 2 = .ok (.iconst 1, 1) := by decide +kernel
theorem dX4_image_3 : decode cX4_image 3 = .ok (.invokestatic 52, 3) := by decide +kernel
theorem dX4_image_6 : decode cX4_image 6 = .ok (.ifCond .ne 6, 3) := by decide +kernel
theorem dX4_image_9 : decode cX4_image 9 = .ok (.ldc 56, 2) := by decide +kernel
theorem dX4_image_11 : decode cX4_image 11 = .ok (.ireturn, 1) := by decide +kernel
theorem dX4_image_12 : decode cX4_image 12 = .ok (.aload_n 0, 1) := by decide +kernel
theorem dX4_image_13 : decode cX4_image 13 = .ok (.invokevirtual 130, 3) := by decide +kernel
theorem dX4_image_16 : decode cX4_image 16 = .ok (.ifCond .ne 6, 3) := by decide +kernel
theorem dX4_image_19 : decode cX4_image 19 = .ok (.ldc 129, 2) := by decide +kernel
theorem dX4_image_21 : decode cX4_image 21 = .ok (.ireturn, 1) := by decide +kernel
theorem dX4_image_22 : decode cX4_image 22 = .ok (.aload_n 0, 1) := by decide +kernel
theorem dX4_image_23 : decode cX4_image 23 = .ok (.getfield 18, 3) := by decide +kernel
theorem dX4_image_26 : decode cX4_image 26 = .ok (.iload_n 1, 1) := by decide +kernel
theorem dX4_image_27 : decode cX4_image 27 = .ok (.aaload, 1) := by decide +kernel
theorem dX4_image_28 : decode cX4_image 28 = .ok (.aload_n 0, 1) := by decide +kernel
theorem dX4_image_29 : decode cX4_image 29 = .ok (.getfield 37, 3) := by decide +kernel
theorem dX4_image_32 : decode cX4_image 32 = .ok (.invokevirtual 115, 3) := by decide +kernel
theorem dX4_image_35 : decode cX4_image 35 = .ok (.iconst 1, 1) := by decide +kernel
theorem dX4_image_36 : decode cX4_image 36 = .ok (.ireturn, 1) := by decide +kernel
theorem dX4_restore_0 : decode cX4_restore 0 = .ok (.iload_n 1, 1) := by decide +kernel
theorem dX4_restore_1 : decode cX4_restore 1 = .ok (.iconst 0, 1) := by decide +kernel
theorem dX4_restore_2 : decode cX4_restore 2 = .ok (.iconst 1, 1) := by decide +kernel
theorem dX4_restore_3 : decode cX4_restore 3 = .ok (.invokestatic 52, 3) := by decide +kernel
theorem dX4_restore_6 : decode cX4_restore 6 = .ok (.ifCond .ne 6, 3) := by decide +kernel
theorem dX4_restore_9 : decode cX4_restore 9 = .ok (.ldc 56, 2) := by decide +kernel
theorem dX4_restore_11 : decode cX4_restore 11 = .ok (.ireturn, 1) := by decide +kernel
theorem dX4_restore_12 : decode cX4_restore 12 = .ok (.aload_n 0, 1) := by decide +kernel
theorem dX4_restore_13 : decode cX4_restore 13 = .ok (.getfield 18, 3) := by decide +kernel
theorem dX4_restore_16 : decode cX4_restore 16 = .ok (.iload_n 1, 1) := by decide +kernel
theorem dX4_restore_17 : decode cX4_restore 17 = .ok (.aaload, 1) := by decide +kernel
theorem dX4_restore_18 : decode cX4_restore 18 = .ok (.getfield 200, 3) := by decide +kernel
theorem dX4_restore_21 : decode cX4_restore 21 = .ok (.ifCond .ne 6, 3) := by decide +kernel
theorem dX4_restore_24 : decode cX4_restore 24 = .ok (.ldc 129, 2) := by decide +kernel
theorem dX4_restore_26 : decode cX4_restore 26 = .ok (.ireturn, 1) := by decide +kernel
theorem dX4_restore_27 : decode cX4_restore 27 = .ok (.aload_n 0, 1) := by decide +kernel
theorem dX4_restore_28 : decode cX4_restore 28 = .ok (.getfield 37, 3) := by decide +kernel
theorem dX4_restore_31 : decode cX4_restore 31 = .ok (.aload_n 0, 1) := by decide +kernel
theorem dX4_restore_32 : decode cX4_restore 32 = .ok (.getfield 18, 3) := by decide +kernel
theorem dX4_restore_35 : decode cX4_restore 35 = .ok (.iload_n 1, 1) := by decide +kernel
theorem dX4_restore_36 : decode cX4_restore 36 = .ok (.aaload, 1) := by decide +kernel
theorem dX4_restore_37 : decode cX4_restore 37 = .ok (.invokevirtual 115, 3) := by decide +kernel
theorem dX4_restore_40 : decode cX4_restore 40 = .ok (.aload_n 0, 1) := by decide +kernel
theorem dX4_restore_41 : decode cX4_restore 41 = .ok (.getfield 33, 3) := by decide +kernel
theorem dX4_restore_44 : decode cX4_restore 44 = .ok (.invokevirtual 119, 3) := by decide +kernel
theorem dX4_restore_47 : decode cX4_restore 47 = .ok (.iconst 1, 1) := by decide +kernel
theorem dX4_restore_48 : decode cX4_restore 48 = .ok (.ireturn, 1) := by decide +kernel
theorem dX4_kind_0 : decode cX4_kind 0 = .ok (.aload_n 0, 1) := by decide +kernel
theorem dX4_kind_1 : decode cX4_kind 1 = .ok (.iload_n 1, 1) := by decide +kernel
theorem dX4_kind_2 : decode cX4_kind 2 = .ok (.invokevirtual 147, 3) := by decide +kernel
theorem dX4_kind_5 : decode cX4_kind 5 = .ok (.ifCond .eq 15, 3) := by decide +kernel
theorem dX4_kind_8 : decode cX4_kind 8 = .ok (.aload_n 0, 1) := by decide +kernel
theorem dX4_kind_9 : decode cX4_kind 9 = .ok (.getfield 37, 3) := by decide +kernel
theorem dX4_kind_12 : decode cX4_kind 12 = .ok (.getfield 274, 3) := by decide +kernel
theorem dX4_kind_15 : decode cX4_kind 15 = .ok (.iload_n 1, 1) := by decide +kernel
theorem dX4_kind_16 : decode cX4_kind 16 = .ok (.iaload, 1) := by decide +kernel
theorem dX4_kind_17 : decode cX4_kind 17 = .ok (.goto 5, 3) := by decide +kernel
theorem dX4_kind_20 : decode cX4_kind 20 = .ok (.ldc 56, 2) := by decide +kernel
theorem dX4_kind_22 : decode cX4_kind 22 = .ok (.ireturn, 1) := by decide +kernel
theorem dX4_as_0 : decode cX4_as 0 = .ok (.aload_n 0, 1) := by decide +kernel
theorem dX4_as_1 : decode cX4_as 1 = .ok (.iload_n 1, 1) := by decide +kernel
theorem dX4_as_2 : decode cX4_as 2 = .ok (.invokevirtual 147, 3) := by decide +kernel
theorem dX4_as_5 : decode cX4_as 5 = .ok (.ifCond .eq 12, 3) := by decide +kernel
theorem dX4_as_8 : decode cX4_as 8 = .ok (.iload_n 2, 1) := by decide +kernel
theorem dX4_as_9 : decode cX4_as 9 = .ok (.iconst 0, 1) := by decide +kernel
theorem dX4_as_10 : decode cX4_as 10 = .ok (.iconst 5, 1) := by decide +kernel
theorem dX4_as_11 : decode cX4_as 11 = .ok (.invokestatic 52, 3) := by decide +kernel
theorem dX4_as_14 : decode cX4_as 14 = .ok (.ifCond .ne 6, 3) := by decide +kernel
theorem dX4_as_17 : decode cX4_as 17 = .ok (.ldc 56, 2) := by decide +kernel
theorem dX4_as_19 : decode cX4_as 19 = .ok (.ireturn, 1) := by decide +kernel
theorem dX4_as_20 : decode cX4_as 20 = .ok (.aload_n 0, 1) := by decide +kernel
theorem dX4_as_21 : decode cX4_as 21 = .ok (.getfield 37, 3) := by decide +kernel
theorem dX4_as_24 : decode cX4_as 24 = .ok (.getfield 274, 3) := by decide +kernel
theorem dX4_as_27 : decode cX4_as 27 = .ok (.iload_n 1, 1) := by decide +kernel
theorem dX4_as_28 : decode cX4_as 28 = .ok (.iaload, 1) := by decide +kernel
theorem dX4_as_29 : decode cX4_as 29 = .ok (.istore_n 3, 1) := by decide +kernel
theorem dX4_as_30 : decode cX4_as 30 = .ok (.iconst 0, 1) := by decide +kernel
theorem dX4_as_31 : decode cX4_as 31 = .ok (.istore 4, 2) := by decide +kernel
theorem dX4_as_33 : decode cX4_as 33 = .ok (.iload 4, 2) := by decide +kernel
theorem dX4_as_35 : decode cX4_as 35 = .ok (.iconst 5, 1) := by decide +kernel
theorem dX4_as_36 : decode cX4_as 36 = .ok (.if_icmp .gt 20, 3) := by decide +kernel
theorem dX4_as_39 : decode cX4_as 39 = .ok (.iload_n 3, 1) := by decide +kernel
theorem dX4_as_40 : decode cX4_as 40 = .ok (.iload_n 2, 1) := by decide +kernel
theorem dX4_as_41 : decode cX4_as 41 = .ok (.if_icmp .le 15, 3) := by decide +kernel
theorem dX4_as_44 : decode cX4_as 44 = .ok (.getstatic 277, 3) := by decide +kernel
theorem dX4_as_47 : decode cX4_as 47 = .ok (.iload_n 3, 1) := by decide +kernel
theorem dX4_as_48 : decode cX4_as 48 = .ok (.iaload, 1) := by decide +kernel
theorem dX4_as_49 : decode cX4_as 49 = .ok (.istore_n 3, 1) := by decide +kernel
theorem dX4_as_50 : decode cX4_as 50 = .ok (.iinc 4 1, 3) := by decide +kernel
theorem dX4_as_53 : decode cX4_as 53 = .ok (.goto (-20), 3) := by decide +kernel
theorem dX4_as_56 : decode cX4_as 56 = .ok (.iload_n 3, 1) := by decide +kernel
theorem dX4_as_57 : decode cX4_as 57 = .ok (.iload_n 2, 1) := by decide +kernel
theorem dX4_as_58 : decode cX4_as 58 = .ok (.if_icmp .ne 11, 3) := by decide +kernel
theorem dX4_as_61 : decode cX4_as 61 = .ok (.aload_n 0, 1) := by decide +kernel
theorem dX4_as_62 : decode cX4_as 62 = .ok (.iload_n 1, 1) := by decide +kernel
theorem dX4_as_63 : decode cX4_as 63 = .ok (.invokevirtual 65, 3) := by decide +kernel
theorem dX4_as_66 : decode cX4_as 66 = .ok (.goto 8, 3) := by decide +kernel
theorem dX4_as_69 : decode cX4_as 69 = .ok (.aload_n 0, 1) := by decide +kernel
theorem dX4_as_70 : decode cX4_as 70 = .ok (.iconst 3, 1) := by decide +kernel
theorem dX4_as_71 : decode cX4_as 71 = .ok (.invokevirtual 57, 3) := by decide +kernel
theorem dX4_as_74 : decode cX4_as 74 = .ok (.ireturn, 1) := by decide +kernel
theorem dX4_ask_0 : decode cX4_ask 0 = .ok (.aload_n 0, 1) := by decide +kernel
theorem dX4_ask_1 : decode cX4_ask 1 = .ok (.iload_n 1, 1) := by decide +kernel
theorem dX4_ask_2 : decode cX4_ask 2 = .ok (.invokevirtual 147, 3) := by decide +kernel
theorem dX4_ask_5 : decode cX4_ask 5 = .ok (.ifCond .eq 10, 3) := by decide +kernel
theorem dX4_ask_8 : decode cX4_ask 8 = .ok (.iload_n 2, 1) := by decide +kernel
theorem dX4_ask_9 : decode cX4_ask 9 = .ok (.invokestatic 162, 3) := by decide +kernel
theorem dX4_ask_12 : decode cX4_ask 12 = .ok (.ifCond .ne 6, 3) := by decide +kernel
theorem dX4_ask_15 : decode cX4_ask 15 = .ok (.ldc 56, 2) := by decide +kernel
theorem dX4_ask_17 : decode cX4_ask 17 = .ok (.ireturn, 1) := by decide +kernel
theorem dX4_ask_18 : decode cX4_ask 18 = .ok (.aload_n 0, 1) := by decide +kernel
theorem dX4_ask_19 : decode cX4_ask 19 = .ok (.iconst 0, 1) := by decide +kernel
theorem dX4_ask_20 : decode cX4_ask 20 = .ok (.putfield 280, 3) := by decide +kernel
theorem dX4_ask_23 : decode cX4_ask 23 = .ok (.aload_n 0, 1) := by decide +kernel
theorem dX4_ask_24 : decode cX4_ask 24 = .ok (.iload_n 2, 1) := by decide +kernel
theorem dX4_ask_25 : decode cX4_ask 25 = .ok (.ifCond .ne 11, 3) := by decide +kernel
theorem dX4_ask_28 : decode cX4_ask 28 = .ok (.aload_n 0, 1) := by decide +kernel
theorem dX4_ask_29 : decode cX4_ask 29 = .ok (.iload_n 1, 1) := by decide +kernel
theorem dX4_ask_30 : decode cX4_ask 30 = .ok (.invokevirtual 283, 3) := by decide +kernel
theorem dX4_ask_33 : decode cX4_ask 33 = .ok (.goto 8, 3) := by decide +kernel
theorem dX4_ask_36 : decode cX4_ask 36 = .ok (.aload_n 0, 1) := by decide +kernel
theorem dX4_ask_37 : decode cX4_ask 37 = .ok (.iload_n 1, 1) := by decide +kernel
theorem dX4_ask_38 : decode cX4_ask 38 = .ok (.invokevirtual 286, 3) := by decide +kernel
theorem dX4_ask_41 : decode cX4_ask 41 = .ok (.iload_n 1, 1) := by decide +kernel
theorem dX4_ask_42 : decode cX4_ask 42 = .ok (.iconst 0, 1) := by decide +kernel
theorem dX4_ask_43 : decode cX4_ask 43 = .ok (.invokevirtual 289, 3) := by decide +kernel
theorem dX4_ask_46 : decode cX4_ask 46 = .ok (.ireturn, 1) := by decide +kernel
theorem dX4_trace_0 : decode cX4_trace 0 = .ok (.iload_n 1, 1) := by decide +kernel
theorem dX4_trace_1 : decode cX4_trace 1 = .ok (.iconst 0, 1) := by decide +kernel
theorem dX4_trace_2 : decode cX4_trace 2 = .ok (.aload_n 0, 1) := by decide +kernel
theorem dX4_trace_3 : decode cX4_trace 3 = .ok (.getfield 280, 3) := by decide +kernel
theorem dX4_trace_6 : decode cX4_trace 6 = .ok (.iconst 1, 1) := by decide +kernel
theorem dX4_trace_7 : decode cX4_trace 7 = .ok (.isub, 1) := by decide +kernel
theorem dX4_trace_8 : decode cX4_trace 8 = .ok (.invokestatic 52, 3) := by decide +kernel
theorem dX4_trace_11 : decode cX4_trace 11 = .ok (.ifCond .eq 12, 3) := by decide +kernel
theorem dX4_trace_14 : decode cX4_trace 14 = .ok (.aload_n 0, 1) := by decide +kernel
theorem dX4_trace_15 : decode cX4_trace 15 = .ok (.getfield 44, 3) := by decide +kernel
theorem dX4_trace_18 : decode cX4_trace 18 = .ok (.iload_n 1, 1) := by decide +kernel
theorem dX4_trace_19 : decode cX4_trace 19 = .ok (.iaload, 1) := by decide +kernel
theorem dX4_trace_20 : decode cX4_trace 20 = .ok (.goto 5, 3) := by decide +kernel
theorem dX4_trace_23 : decode cX4_trace 23 = .ok (.ldc 199, 2) := by decide +kernel
theorem dX4_trace_25 : decode cX4_trace 25 = .ok (.ireturn, 1) := by decide +kernel
theorem dX4_count_0 : decode cX4_count 0 = .ok (.iload_n 1, 1) := by decide +kernel
theorem dX4_count_1 : decode cX4_count 1 = .ok (.tableswitch 108 0 7 #[47, 52, 60, 68, 76, 84, 92, 100], 47) := by decide +kernel
theorem dX4_count_48 : decode cX4_count 48 = .ok (.aload_n 0, 1) := by decide +kernel
theorem dX4_count_49 : decode cX4_count 49 = .ok (.invokevirtual 293, 3) := by decide +kernel
theorem dX4_count_52 : decode cX4_count 52 = .ok (.ireturn, 1) := by decide +kernel
theorem dX4_count_53 : decode cX4_count 53 = .ok (.aload_n 0, 1) := by decide +kernel
theorem dX4_count_54 : decode cX4_count 54 = .ok (.getfield 37, 3) := by decide +kernel
theorem dX4_count_57 : decode cX4_count 57 = .ok (.getfield 200, 3) := by decide +kernel
theorem dX4_count_60 : decode cX4_count 60 = .ok (.ireturn, 1) := by decide +kernel
theorem dX4_count_61 : decode cX4_count 61 = .ok (.aload_n 0, 1) := by decide +kernel
theorem dX4_count_62 : decode cX4_count 62 = .ok (.getfield 37, 3) := by decide +kernel
theorem dX4_count_65 : decode cX4_count 65 = .ok (.getfield 122, 3) := by decide +kernel
theorem dX4_count_68 : decode cX4_count 68 = .ok (.ireturn, 1) := by decide +kernel
theorem dX4_count_69 : decode cX4_count 69 = .ok (.aload_n 0, 1) := by decide +kernel
theorem dX4_count_70 : decode cX4_count 70 = .ok (.getfield 37, 3) := by decide +kernel
theorem dX4_count_73 : decode cX4_count 73 = .ok (.getfield 134, 3) := by decide +kernel
theorem dX4_count_76 : decode cX4_count 76 = .ok (.ireturn, 1) := by decide +kernel
theorem dX4_count_77 : decode cX4_count 77 = .ok (.aload_n 0, 1) := by decide +kernel
theorem dX4_count_78 : decode cX4_count 78 = .ok (.getfield 37, 3) := by decide +kernel
theorem dX4_count_81 : decode cX4_count 81 = .ok (.invokevirtual 144, 3) := by decide +kernel
theorem dX4_count_84 : decode cX4_count 84 = .ok (.ireturn, 1) := by decide +kernel
theorem dX4_count_85 : decode cX4_count 85 = .ok (.aload_n 0, 1) := by decide +kernel
theorem dX4_count_86 : decode cX4_count 86 = .ok (.getfield 37, 3) := by decide +kernel
theorem dX4_count_89 : decode cX4_count 89 = .ok (.getfield 165, 3) := by decide +kernel
theorem dX4_count_92 : decode cX4_count 92 = .ok (.ireturn, 1) := by decide +kernel
theorem dX4_count_93 : decode cX4_count 93 = .ok (.aload_n 0, 1) := by decide +kernel
theorem dX4_count_94 : decode cX4_count 94 = .ok (.getfield 33, 3) := by decide +kernel
theorem dX4_count_97 : decode cX4_count 97 = .ok (.getfield 128, 3) := by decide +kernel
theorem dX4_count_100 : decode cX4_count 100 = .ok (.ireturn, 1) := by decide +kernel
theorem dX4_count_101 : decode cX4_count 101 = .ok (.aload_n 0, 1) := by decide +kernel
theorem dX4_count_102 : decode cX4_count 102 = .ok (.getfield 26, 3) := by decide +kernel
theorem dX4_count_105 : decode cX4_count 105 = .ok (.getfield 99, 3) := by decide +kernel
theorem dX4_count_108 : decode cX4_count 108 = .ok (.ireturn, 1) := by decide +kernel
theorem dX4_count_109 : decode cX4_count 109 = .ok (.ldc 56, 2) := by decide +kernel
theorem dX4_count_111 : decode cX4_count 111 = .ok (.ireturn, 1) := by decide +kernel
theorem dX4_status_0 : decode cX4_status 0 = .ok (.aload_n 0, 1) := by decide +kernel
theorem dX4_status_1 : decode cX4_status 1 = .ok (.getfield 296, 3) := by decide +kernel
theorem dX4_status_4 : decode cX4_status 4 = .ok (.ireturn, 1) := by decide +kernel
theorem dX4_within_0 : decode cX4_within 0 = .ok (.iload_n 0, 1) := by decide +kernel
theorem dX4_within_1 : decode cX4_within 1 = .ok (.iload_n 1, 1) := by decide +kernel
theorem dX4_within_2 : decode cX4_within 2 = .ok (.if_icmp .lt 12, 3) := by decide +kernel
theorem dX4_within_5 : decode cX4_within 5 = .ok (.iload_n 0, 1) := by decide +kernel
theorem dX4_within_6 : decode cX4_within 6 = .ok (.iload_n 2, 1) := by decide +kernel
theorem dX4_within_7 : decode cX4_within 7 = .ok (.if_icmp .gt 7, 3) := by decide +kernel
theorem dX4_within_10 : decode cX4_within 10 = .ok (.iconst 1, 1) := by decide +kernel
theorem dX4_within_11 : decode cX4_within 11 = .ok (.goto 4, 3) := by decide +kernel
theorem dX4_within_14 : decode cX4_within 14 = .ok (.iconst 0, 1) := by decide +kernel
theorem dX4_within_15 : decode cX4_within 15 = .ok (.ireturn, 1) := by decide +kernel
theorem dX4_isBit_0 : decode cX4_isBit 0 = .ok (.iload_n 0, 1) := by decide +kernel
theorem dX4_isBit_1 : decode cX4_isBit 1 = .ok (.ifCond .eq 8, 3) := by decide +kernel
theorem dX4_isBit_4 : decode cX4_isBit 4 = .ok (.iload_n 0, 1) := by decide +kernel
theorem dX4_isBit_5 : decode cX4_isBit 5 = .ok (.iconst 1, 1) := by decide +kernel
theorem dX4_isBit_6 : decode cX4_isBit 6 = .ok (.if_icmp .ne 7, 3) := by decide +kernel
theorem dX4_isBit_9 : decode cX4_isBit 9 = .ok (.iconst 1, 1) := by decide +kernel
theorem dX4_isBit_10 : decode cX4_isBit 10 = .ok (.goto 4, 3) := by decide +kernel
theorem dX4_isBit_13 : decode cX4_isBit 13 = .ok (.iconst 0, 1) := by decide +kernel
theorem dX4_isBit_14 : decode cX4_isBit 14 = .ok (.ireturn, 1) := by decide +kernel
theorem dX4_bit_0 : decode cX4_bit 0 = .ok (.iload_n 0, 1) := by decide +kernel
theorem dX4_bit_1 : decode cX4_bit 1 = .ok (.iload_n 1, 1) := by decide +kernel
theorem dX4_bit_2 : decode cX4_bit 2 = .ok (.ishr, 1) := by decide +kernel
theorem dX4_bit_3 : decode cX4_bit 3 = .ok (.iconst 1, 1) := by decide +kernel
theorem dX4_bit_4 : decode cX4_bit 4 = .ok (.iand, 1) := by decide +kernel
theorem dX4_bit_5 : decode cX4_bit 5 = .ok (.ireturn, 1) := by decide +kernel
theorem dX4_isRow_0 : decode cX4_isRow 0 = .ok (.iload_n 1, 1) := by decide +kernel
theorem dX4_isRow_1 : decode cX4_isRow 1 = .ok (.iconst 0, 1) := by decide +kernel
theorem dX4_isRow_2 : decode cX4_isRow 2 = .ok (.bipush 7, 2) := by decide +kernel
theorem dX4_isRow_4 : decode cX4_isRow 4 = .ok (.invokestatic 52, 3) := by decide +kernel
theorem dX4_isRow_7 : decode cX4_isRow 7 = .ok (.ireturn, 1) := by decide +kernel
theorem dX4_isMan_0 : decode cX4_isMan 0 = .ok (.iload_n 1, 1) := by decide +kernel
theorem dX4_isMan_1 : decode cX4_isMan 1 = .ok (.iconst 0, 1) := by decide +kernel
theorem dX4_isMan_2 : decode cX4_isMan 2 = .ok (.aload_n 0, 1) := by decide +kernel
theorem dX4_isMan_3 : decode cX4_isMan 3 = .ok (.getfield 37, 3) := by decide +kernel
theorem dX4_isMan_6 : decode cX4_isMan 6 = .ok (.getfield 200, 3) := by decide +kernel
theorem dX4_isMan_9 : decode cX4_isMan 9 = .ok (.iconst 1, 1) := by decide +kernel
theorem dX4_isMan_10 : decode cX4_isMan 10 = .ok (.isub, 1) := by decide +kernel
theorem dX4_isMan_11 : decode cX4_isMan 11 = .ok (.invokestatic 52, 3) := by decide +kernel
theorem dX4_isMan_14 : decode cX4_isMan 14 = .ok (.ireturn, 1) := by decide +kernel
theorem dX4_isLeaver_0 : decode cX4_isLeaver 0 = .ok (.iload_n 1, 1) := by decide +kernel
theorem dX4_isLeaver_1 : decode cX4_isLeaver 1 = .ok (.iconst 0, 1) := by decide +kernel
theorem dX4_isLeaver_2 : decode cX4_isLeaver 2 = .ok (.aload_n 0, 1) := by decide +kernel
theorem dX4_isLeaver_3 : decode cX4_isLeaver 3 = .ok (.getfield 37, 3) := by decide +kernel
theorem dX4_isLeaver_6 : decode cX4_isLeaver 6 = .ok (.getfield 122, 3) := by decide +kernel
theorem dX4_isLeaver_9 : decode cX4_isLeaver 9 = .ok (.iconst 1, 1) := by decide +kernel
theorem dX4_isLeaver_10 : decode cX4_isLeaver 10 = .ok (.isub, 1) := by decide +kernel
theorem dX4_isLeaver_11 : decode cX4_isLeaver 11 = .ok (.invokestatic 52, 3) := by decide +kernel
theorem dX4_isLeaver_14 : decode cX4_isLeaver 14 = .ok (.ireturn, 1) := by decide +kernel
theorem dX4_hasTown_0 : decode cX4_hasTown 0 = .ok (.aload_n 0, 1) := by decide +kernel
theorem dX4_hasTown_1 : decode cX4_hasTown 1 = .ok (.getfield 37, 3) := by decide +kernel
theorem dX4_hasTown_4 : decode cX4_hasTown 4 = .ok (.getfield 200, 3) := by decide +kernel
theorem dX4_hasTown_7 : decode cX4_hasTown 7 = .ok (.ifCond .le 7, 3) := by decide +kernel
theorem dX4_hasTown_10 : decode cX4_hasTown 10 = .ok (.iconst 1, 1) := by decide +kernel
theorem dX4_hasTown_11 : decode cX4_hasTown 11 = .ok (.goto 4, 3) := by decide +kernel
theorem dX4_hasTown_14 : decode cX4_hasTown 14 = .ok (.iconst 0, 1) := by decide +kernel
theorem dX4_hasTown_15 : decode cX4_hasTown 15 = .ok (.ireturn, 1) := by decide +kernel
theorem dX4_found_0 : decode cX4_found 0 = .ok (.aload_n 0, 1) := by decide +kernel
theorem dX4_found_1 : decode cX4_found 1 = .ok (.iload_n 1, 1) := by decide +kernel
theorem dX4_found_2 : decode cX4_found 2 = .ok (.putfield 296, 3) := by decide +kernel
theorem dX4_found_5 : decode cX4_found 5 = .ok (.ldc_w 299, 3) := by decide +kernel
theorem dX4_found_8 : decode cX4_found 8 = .ok (.iload_n 1, 1) := by decide +kernel
theorem dX4_found_9 : decode cX4_found 9 = .ok (.isub, 1) := by decide +kernel
theorem dX4_found_10 : decode cX4_found 10 = .ok (.ireturn, 1) := by decide +kernel
theorem dX4_unfound_0 : decode cX4_unfound 0 = .ok (.aload_n 0, 1) := by decide +kernel
theorem dX4_unfound_1 : decode cX4_unfound 1 = .ok (.iconst 0, 1) := by decide +kernel
theorem dX4_unfound_2 : decode cX4_unfound 2 = .ok (.putfield 296, 3) := by decide +kernel
theorem dX4_unfound_5 : decode cX4_unfound 5 = .ok (.iload_n 1, 1) := by decide +kernel
theorem dX4_unfound_6 : decode cX4_unfound 6 = .ok (.ireturn, 1) := by decide +kernel
theorem dX4_rowsThere_0 : decode cX4_rowsThere 0 = .ok (.iconst 0, 1) := by decide +kernel
theorem dX4_rowsThere_1 : decode cX4_rowsThere 1 = .ok (.istore_n 1, 1) := by decide +kernel
theorem dX4_rowsThere_2 : decode cX4_rowsThere 2 = .ok (.iconst 0, 1) := by decide +kernel
theorem dX4_rowsThere_3 : decode cX4_rowsThere 3 = .ok (.istore_n 2, 1) := by decide +kernel
theorem dX4_rowsThere_4 : decode cX4_rowsThere 4 = .ok (.iload_n 2, 1) := by decide +kernel
theorem dX4_rowsThere_5 : decode cX4_rowsThere 5 = .ok (.bipush 8, 2) := by decide +kernel
theorem dX4_rowsThere_7 : decode cX4_rowsThere 7 = .ok (.if_icmp .ge 24, 3) := by decide +kernel
theorem dX4_rowsThere_10 : decode cX4_rowsThere 10 = .ok (.aload_n 0, 1) := by decide +kernel
theorem dX4_rowsThere_11 : decode cX4_rowsThere 11 = .ok (.getfield 11, 3) := by decide +kernel
theorem dX4_rowsThere_14 : decode cX4_rowsThere 14 = .ok (.iload_n 2, 1) := by decide +kernel
theorem dX4_rowsThere_15 : decode cX4_rowsThere 15 = .ok (.aaload, 1) := by decide +kernel
theorem dX4_rowsThere_16 : decode cX4_rowsThere 16 = .ok (.getfield 68, 3) := by decide +kernel
theorem dX4_rowsThere_19 : decode cX4_rowsThere 19 = .ok (.ifCond .eq 6, 3) := by decide +kernel
theorem dX4_rowsThere_22 : decode cX4_rowsThere 22 = .ok (.iinc 1 1, 3) := by decide +kernel
theorem dX4_rowsThere_25 : decode cX4_rowsThere 25 = .ok (.iinc 2 1, 3) := by decide +kernel
theorem dX4_rowsThere_28 : decode cX4_rowsThere 28 = .ok (.goto (-24), 3) := by decide +kernel
theorem dX4_rowsThere_31 : decode cX4_rowsThere 31 = .ok (.iload_n 1, 1) := by decide +kernel
theorem dX4_rowsThere_32 : decode cX4_rowsThere 32 = .ok (.ireturn, 1) := by decide +kernel
theorem dX4_refusalOfTold_0 : decode cX4_refusalOfTold 0 = .ok (.aload_n 0, 1) := by decide +kernel
theorem dX4_refusalOfTold_1 : decode cX4_refusalOfTold 1 = .ok (.iload_n 1, 1) := by decide +kernel
theorem dX4_refusalOfTold_2 : decode cX4_refusalOfTold 2 = .ok (.invokevirtual 150, 3) := by decide +kernel
theorem dX4_refusalOfTold_5 : decode cX4_refusalOfTold 5 = .ok (.ifCond .eq 22, 3) := by decide +kernel
theorem dX4_refusalOfTold_8 : decode cX4_refusalOfTold 8 = .ok (.aload_n 0, 1) := by decide +kernel
theorem dX4_refusalOfTold_9 : decode cX4_refusalOfTold 9 = .ok (.iload_n 2, 1) := by decide +kernel
theorem dX4_refusalOfTold_10 : decode cX4_refusalOfTold 10 = .ok (.invokevirtual 48, 3) := by decide +kernel
theorem dX4_refusalOfTold_13 : decode cX4_refusalOfTold 13 = .ok (.ifCond .eq 14, 3) := by decide +kernel
theorem dX4_refusalOfTold_16 : decode cX4_refusalOfTold 16 = .ok (.iload 4, 2) := by decide +kernel
theorem dX4_refusalOfTold_18 : decode cX4_refusalOfTold 18 = .ok (.iconst 1, 1) := by decide +kernel
theorem dX4_refusalOfTold_19 : decode cX4_refusalOfTold 19 = .ok (.bipush 12, 2) := by decide +kernel
theorem dX4_refusalOfTold_21 : decode cX4_refusalOfTold 21 = .ok (.invokestatic 52, 3) := by decide +kernel
theorem dX4_refusalOfTold_24 : decode cX4_refusalOfTold 24 = .ok (.ifCond .ne 6, 3) := by decide +kernel
theorem dX4_refusalOfTold_27 : decode cX4_refusalOfTold 27 = .ok (.ldc 56, 2) := by decide +kernel
theorem dX4_refusalOfTold_29 : decode cX4_refusalOfTold 29 = .ok (.ireturn, 1) := by decide +kernel
theorem dX4_refusalOfTold_30 : decode cX4_refusalOfTold 30 = .ok (.aload_n 0, 1) := by decide +kernel
theorem dX4_refusalOfTold_31 : decode cX4_refusalOfTold 31 = .ok (.getfield 11, 3) := by decide +kernel
theorem dX4_refusalOfTold_34 : decode cX4_refusalOfTold 34 = .ok (.iload_n 2, 1) := by decide +kernel
theorem dX4_refusalOfTold_35 : decode cX4_refusalOfTold 35 = .ok (.aaload, 1) := by decide +kernel
theorem dX4_refusalOfTold_36 : decode cX4_refusalOfTold 36 = .ok (.getfield 68, 3) := by decide +kernel
theorem dX4_refusalOfTold_39 : decode cX4_refusalOfTold 39 = .ok (.ifCond .ne 9, 3) := by decide +kernel
theorem dX4_refusalOfTold_42 : decode cX4_refusalOfTold 42 = .ok (.aload_n 0, 1) := by decide +kernel
theorem dX4_refusalOfTold_43 : decode cX4_refusalOfTold 43 = .ok (.iconst 1, 1) := by decide +kernel
theorem dX4_refusalOfTold_44 : decode cX4_refusalOfTold 44 = .ok (.invokevirtual 57, 3) := by decide +kernel
theorem dX4_refusalOfTold_47 : decode cX4_refusalOfTold 47 = .ok (.ireturn, 1) := by decide +kernel
theorem dX4_refusalOfTold_48 : decode cX4_refusalOfTold 48 = .ok (.aload_n 0, 1) := by decide +kernel
theorem dX4_refusalOfTold_49 : decode cX4_refusalOfTold 49 = .ok (.getfield 11, 3) := by decide +kernel
theorem dX4_refusalOfTold_52 : decode cX4_refusalOfTold 52 = .ok (.iload_n 2, 1) := by decide +kernel
theorem dX4_refusalOfTold_53 : decode cX4_refusalOfTold 53 = .ok (.aaload, 1) := by decide +kernel
theorem dX4_refusalOfTold_54 : decode cX4_refusalOfTold 54 = .ok (.iload_n 3, 1) := by decide +kernel
theorem dX4_refusalOfTold_55 : decode cX4_refusalOfTold 55 = .ok (.iload 4, 2) := by decide +kernel
theorem dX4_refusalOfTold_57 : decode cX4_refusalOfTold 57 = .ok (.invokevirtual 72, 3) := by decide +kernel
theorem dX4_refusalOfTold_60 : decode cX4_refusalOfTold 60 = .ok (.ifCond .ne 9, 3) := by decide +kernel
theorem dX4_refusalOfTold_63 : decode cX4_refusalOfTold 63 = .ok (.aload_n 0, 1) := by decide +kernel
theorem dX4_refusalOfTold_64 : decode cX4_refusalOfTold 64 = .ok (.iconst 2, 1) := by decide +kernel
theorem dX4_refusalOfTold_65 : decode cX4_refusalOfTold 65 = .ok (.invokevirtual 57, 3) := by decide +kernel
theorem dX4_refusalOfTold_68 : decode cX4_refusalOfTold 68 = .ok (.ireturn, 1) := by decide +kernel
theorem dX4_refusalOfTold_69 : decode cX4_refusalOfTold 69 = .ok (.aload_n 0, 1) := by decide +kernel
theorem dX4_refusalOfTold_70 : decode cX4_refusalOfTold 70 = .ok (.iconst 0, 1) := by decide +kernel
theorem dX4_refusalOfTold_71 : decode cX4_refusalOfTold 71 = .ok (.invokevirtual 65, 3) := by decide +kernel
theorem dX4_refusalOfTold_74 : decode cX4_refusalOfTold 74 = .ok (.ireturn, 1) := by decide +kernel
theorem dX4_fitting_0 : decode cX4_fitting 0 = .ok (.aload_n 0, 1) := by decide +kernel
theorem dX4_fitting_1 : decode cX4_fitting 1 = .ok (.iload_n 2, 1) := by decide +kernel
theorem dX4_fitting_2 : decode cX4_fitting 2 = .ok (.invokevirtual 147, 3) := by decide +kernel
theorem dX4_fitting_5 : decode cX4_fitting 5 = .ok (.ifCond .ne 6, 3) := by decide +kernel
theorem dX4_fitting_8 : decode cX4_fitting 8 = .ok (.ldc 56, 2) := by decide +kernel
theorem dX4_fitting_10 : decode cX4_fitting 10 = .ok (.ireturn, 1) := by decide +kernel
theorem dX4_fitting_11 : decode cX4_fitting 11 = .ok (.aload_n 0, 1) := by decide +kernel
theorem dX4_fitting_12 : decode cX4_fitting 12 = .ok (.iload_n 3, 1) := by decide +kernel
theorem dX4_fitting_13 : decode cX4_fitting 13 = .ok (.iload 4, 2) := by decide +kernel
theorem dX4_fitting_15 : decode cX4_fitting 15 = .ok (.iload 5, 2) := by decide +kernel
theorem dX4_fitting_17 : decode cX4_fitting 17 = .ok (.iload 6, 2) := by decide +kernel
theorem dX4_fitting_19 : decode cX4_fitting 19 = .ok (.invokevirtual 219, 3) := by decide +kernel
theorem dX4_fitting_22 : decode cX4_fitting 22 = .ok (.istore 7, 2) := by decide +kernel
theorem dX4_fitting_24 : decode cX4_fitting 24 = .ok (.iload 7, 2) := by decide +kernel
theorem dX4_fitting_26 : decode cX4_fitting 26 = .ok (.ifCond .eq 6, 3) := by decide +kernel
theorem dX4_fitting_29 : decode cX4_fitting 29 = .ok (.iload 7, 2) := by decide +kernel
theorem dX4_fitting_31 : decode cX4_fitting 31 = .ok (.ireturn, 1) := by decide +kernel
theorem dX4_fitting_32 : decode cX4_fitting 32 = .ok (.iload_n 1, 1) := by decide +kernel
theorem dX4_fitting_33 : decode cX4_fitting 33 = .ok (.iconst 1, 1) := by decide +kernel
theorem dX4_fitting_34 : decode cX4_fitting 34 = .ok (.if_icmp .ne 7, 3) := by decide +kernel
theorem dX4_fitting_37 : decode cX4_fitting 37 = .ok (.iconst 0, 1) := by decide +kernel
theorem dX4_fitting_38 : decode cX4_fitting 38 = .ok (.goto 4, 3) := by decide +kernel
theorem dX4_fitting_41 : decode cX4_fitting 41 = .ok (.iconst 1, 1) := by decide +kernel
theorem dX4_fitting_42 : decode cX4_fitting 42 = .ok (.istore 8, 2) := by decide +kernel
theorem dX4_fitting_44 : decode cX4_fitting 44 = .ok (.iload_n 1, 1) := by decide +kernel
theorem dX4_fitting_45 : decode cX4_fitting 45 = .ok (.ifCond .ne 7, 3) := by decide +kernel
theorem dX4_fitting_48 : decode cX4_fitting 48 = .ok (.iconst 5, 1) := by decide +kernel
theorem dX4_fitting_49 : decode cX4_fitting 49 = .ok (.goto 22, 3) := by decide +kernel
theorem dX4_fitting_52 : decode cX4_fitting 52 = .ok (.iload_n 1, 1) := by decide +kernel
theorem dX4_fitting_53 : decode cX4_fitting 53 = .ok (.iconst 1, 1) := by decide +kernel
theorem dX4_fitting_54 : decode cX4_fitting 54 = .ok (.if_icmp .ne 15, 3) := by decide +kernel
theorem dX4_fitting_57 : decode cX4_fitting 57 = .ok (.aload_n 0, 1) := by decide +kernel
theorem dX4_fitting_58 : decode cX4_fitting 58 = .ok (.getfield 37, 3) := by decide +kernel
theorem dX4_fitting_61 : decode cX4_fitting 61 = .ok (.getfield 200, 3) := by decide +kernel
theorem dX4_fitting_64 : decode cX4_fitting 64 = .ok (.iconst 1, 1) := by decide +kernel
theorem dX4_fitting_65 : decode cX4_fitting 65 = .ok (.isub, 1) := by decide +kernel
theorem dX4_fitting_66 : decode cX4_fitting 66 = .ok (.goto 5, 3) := by decide +kernel
theorem dX4_fitting_69 : decode cX4_fitting 69 = .ok (.bipush 9, 2) := by decide +kernel
theorem dX4_fitting_71 : decode cX4_fitting 71 = .ok (.istore 9, 2) := by decide +kernel
theorem dX4_fitting_73 : decode cX4_fitting 73 = .ok (.iconst 0, 1) := by decide +kernel
theorem dX4_fitting_74 : decode cX4_fitting 74 = .ok (.istore 10, 2) := by decide +kernel
theorem dX4_fitting_76 : decode cX4_fitting 76 = .ok (.iload 8, 2) := by decide +kernel
theorem dX4_fitting_78 : decode cX4_fitting 78 = .ok (.istore 11, 2) := by decide +kernel
theorem dX4_fitting_80 : decode cX4_fitting 80 = .ok (.iload 11, 2) := by decide +kernel
theorem dX4_fitting_82 : decode cX4_fitting 82 = .ok (.iload 9, 2) := by decide +kernel
theorem dX4_fitting_84 : decode cX4_fitting 84 = .ok (.if_icmp .gt 56, 3) := by decide +kernel
theorem dX4_fitting_87 : decode cX4_fitting 87 = .ok (.aload_n 0, 1) := by decide +kernel
theorem dX4_fitting_88 : decode cX4_fitting 88 = .ok (.getfield 41, 3) := by decide +kernel
theorem dX4_fitting_91 : decode cX4_fitting 91 = .ok (.aload_n 0, 1) := by decide +kernel
theorem dX4_fitting_92 : decode cX4_fitting 92 = .ok (.getfield 37, 3) := by decide +kernel
theorem dX4_fitting_95 : decode cX4_fitting 95 = .ok (.invokevirtual 115, 3) := by decide +kernel
theorem dX4_fitting_98 : decode cX4_fitting 98 = .ok (.aload_n 0, 1) := by decide +kernel
theorem dX4_fitting_99 : decode cX4_fitting 99 = .ok (.iload_n 1, 1) := by decide +kernel
theorem dX4_fitting_100 : decode cX4_fitting 100 = .ok (.iload_n 2, 1) := by decide +kernel
theorem dX4_fitting_101 : decode cX4_fitting 101 = .ok (.iload 11, 2) := by decide +kernel
theorem dX4_fitting_103 : decode cX4_fitting 103 = .ok (.invokevirtual 300, 3) := by decide +kernel
theorem dX4_fitting_106 : decode cX4_fitting 106 = .ok (.aload_n 0, 1) := by decide +kernel
theorem dX4_fitting_107 : decode cX4_fitting 107 = .ok (.iload_n 3, 1) := by decide +kernel
theorem dX4_fitting_108 : decode cX4_fitting 108 = .ok (.aload_n 0, 1) := by decide +kernel
theorem dX4_fitting_109 : decode cX4_fitting 109 = .ok (.getfield 11, 3) := by decide +kernel
theorem dX4_fitting_112 : decode cX4_fitting 112 = .ok (.iload 4, 2) := by decide +kernel
theorem dX4_fitting_114 : decode cX4_fitting 114 = .ok (.aaload, 1) := by decide +kernel
theorem dX4_fitting_115 : decode cX4_fitting 115 = .ok (.iload 5, 2) := by decide +kernel
theorem dX4_fitting_117 : decode cX4_fitting 117 = .ok (.iload 6, 2) := by decide +kernel
theorem dX4_fitting_119 : decode cX4_fitting 119 = .ok (.invokevirtual 223, 3) := by decide +kernel
theorem dX4_fitting_122 : decode cX4_fitting 122 = .ok (.ifCond .eq 12, 3) := by decide +kernel
theorem dX4_fitting_125 : decode cX4_fitting 125 = .ok (.iload 10, 2) := by decide +kernel
theorem dX4_fitting_127 : decode cX4_fitting 127 = .ok (.iconst 1, 1) := by decide +kernel
theorem dX4_fitting_128 : decode cX4_fitting 128 = .ok (.iload 11, 2) := by decide +kernel
theorem dX4_fitting_130 : decode cX4_fitting 130 = .ok (.ishl, 1) := by decide +kernel
theorem dX4_fitting_131 : decode cX4_fitting 131 = .ok (.ior, 1) := by decide +kernel
theorem dX4_fitting_132 : decode cX4_fitting 132 = .ok (.istore 10, 2) := by decide +kernel
theorem dX4_fitting_134 : decode cX4_fitting 134 = .ok (.iinc 11 1, 3) := by decide +kernel
theorem dX4_fitting_137 : decode cX4_fitting 137 = .ok (.goto (-57), 3) := by decide +kernel
theorem dX4_fitting_140 : decode cX4_fitting 140 = .ok (.iload 10, 2) := by decide +kernel
theorem dX4_fitting_142 : decode cX4_fitting 142 = .ok (.ireturn, 1) := by decide +kernel
theorem dX4_changeTrial_0 : decode cX4_changeTrial 0 = .ok (.iload_n 1, 1) := by decide +kernel
theorem dX4_changeTrial_1 : decode cX4_changeTrial 1 = .ok (.ifCond .ne 16, 3) := by decide +kernel
theorem dX4_changeTrial_4 : decode cX4_changeTrial 4 = .ok (.aload_n 0, 1) := by decide +kernel
theorem dX4_changeTrial_5 : decode cX4_changeTrial 5 = .ok (.getfield 41, 3) := by decide +kernel
theorem dX4_changeTrial_8 : decode cX4_changeTrial 8 = .ok (.getfield 274, 3) := by decide +kernel
theorem dX4_changeTrial_11 : decode cX4_changeTrial 11 = .ok (.iload_n 2, 1) := by decide +kernel
theorem dX4_changeTrial_12 : decode cX4_changeTrial 12 = .ok (.iload_n 3, 1) := by decide +kernel
theorem dX4_changeTrial_13 : decode cX4_changeTrial 13 = .ok (.iastore, 1) := by decide +kernel
theorem dX4_changeTrial_14 : decode cX4_changeTrial 14 = .ok (.goto 30, 3) := by decide +kernel
theorem dX4_changeTrial_17 : decode cX4_changeTrial 17 = .ok (.iload_n 1, 1) := by decide +kernel
theorem dX4_changeTrial_18 : decode cX4_changeTrial 18 = .ok (.iconst 1, 1) := by decide +kernel
theorem dX4_changeTrial_19 : decode cX4_changeTrial 19 = .ok (.if_icmp .ne 15, 3) := by decide +kernel
theorem dX4_changeTrial_22 : decode cX4_changeTrial 22 = .ok (.aload_n 0, 1) := by decide +kernel
theorem dX4_changeTrial_23 : decode cX4_changeTrial 23 = .ok (.getfield 41, 3) := by decide +kernel
theorem dX4_changeTrial_26 : decode cX4_changeTrial 26 = .ok (.iload_n 2, 1) := by decide +kernel
theorem dX4_changeTrial_27 : decode cX4_changeTrial 27 = .ok (.iload_n 3, 1) := by decide +kernel
theorem dX4_changeTrial_28 : decode cX4_changeTrial 28 = .ok (.invokevirtual 156, 3) := by decide +kernel
theorem dX4_changeTrial_31 : decode cX4_changeTrial 31 = .ok (.goto 13, 3) := by decide +kernel
theorem dX4_changeTrial_34 : decode cX4_changeTrial 34 = .ok (.aload_n 0, 1) := by decide +kernel
theorem dX4_changeTrial_35 : decode cX4_changeTrial 35 = .ok (.getfield 41, 3) := by decide +kernel
theorem dX4_changeTrial_38 : decode cX4_changeTrial 38 = .ok (.getfield 159, 3) := by decide +kernel
theorem dX4_changeTrial_41 : decode cX4_changeTrial 41 = .ok (.iload_n 2, 1) := by decide +kernel
theorem dX4_changeTrial_42 : decode cX4_changeTrial 42 = .ok (.iload_n 3, 1) := by decide +kernel
theorem dX4_changeTrial_43 : decode cX4_changeTrial 43 = .ok (.iastore, 1) := by decide +kernel
theorem dX4_changeTrial_44 : decode cX4_changeTrial 44 = .ok (.return_, 1) := by decide +kernel
theorem dX4_trialFits_0 : decode cX4_trialFits 0 = .ok (.iconst 0, 1) := by decide +kernel
theorem dX4_trialFits_1 : decode cX4_trialFits 1 = .ok (.istore 5, 2) := by decide +kernel
theorem dX4_trialFits_3 : decode cX4_trialFits 3 = .ok (.iload 5, 2) := by decide +kernel
theorem dX4_trialFits_5 : decode cX4_trialFits 5 = .ok (.iload 4, 2) := by decide +kernel
theorem dX4_trialFits_7 : decode cX4_trialFits 7 = .ok (.if_icmp .ge 40, 3) := by decide +kernel
theorem dX4_trialFits_10 : decode cX4_trialFits 10 = .ok (.aload_n 0, 1) := by decide +kernel
theorem dX4_trialFits_11 : decode cX4_trialFits 11 = .ok (.getfield 41, 3) := by decide +kernel
theorem dX4_trialFits_14 : decode cX4_trialFits 14 = .ok (.invokevirtual 140, 3) := by decide +kernel
theorem dX4_trialFits_17 : decode cX4_trialFits 17 = .ok (.pop, 1) := by decide +kernel
theorem dX4_trialFits_18 : decode cX4_trialFits 18 = .ok (.aload_n 0, 1) := by decide +kernel
theorem dX4_trialFits_19 : decode cX4_trialFits 19 = .ok (.getfield 41, 3) := by decide +kernel
theorem dX4_trialFits_22 : decode cX4_trialFits 22 = .ok (.getfield 186, 3) := by decide +kernel
theorem dX4_trialFits_25 : decode cX4_trialFits 25 = .ok (.iload_n 1, 1) := by decide +kernel
theorem dX4_trialFits_26 : decode cX4_trialFits 26 = .ok (.iaload, 1) := by decide +kernel
theorem dX4_trialFits_27 : decode cX4_trialFits 27 = .ok (.aload_n 2, 1) := by decide +kernel
theorem dX4_trialFits_28 : decode cX4_trialFits 28 = .ok (.getfield 84, 3) := by decide +kernel
theorem dX4_trialFits_31 : decode cX4_trialFits 31 = .ok (.iload_n 3, 1) := by decide +kernel
theorem dX4_trialFits_32 : decode cX4_trialFits 32 = .ok (.iload 5, 2) := by decide +kernel
theorem dX4_trialFits_34 : decode cX4_trialFits 34 = .ok (.iadd, 1) := by decide +kernel
theorem dX4_trialFits_35 : decode cX4_trialFits 35 = .ok (.iaload, 1) := by decide +kernel
theorem dX4_trialFits_36 : decode cX4_trialFits 36 = .ok (.if_icmp .eq 5, 3) := by decide +kernel
theorem dX4_trialFits_39 : decode cX4_trialFits 39 = .ok (.iconst 0, 1) := by decide +kernel
theorem dX4_trialFits_40 : decode cX4_trialFits 40 = .ok (.ireturn, 1) := by decide +kernel
theorem dX4_trialFits_41 : decode cX4_trialFits 41 = .ok (.iinc 5 1, 3) := by decide +kernel
theorem dX4_trialFits_44 : decode cX4_trialFits 44 = .ok (.goto (-41), 3) := by decide +kernel
theorem dX4_trialFits_47 : decode cX4_trialFits 47 = .ok (.iconst 1, 1) := by decide +kernel
theorem dX4_trialFits_48 : decode cX4_trialFits 48 = .ok (.ireturn, 1) := by decide +kernel
theorem dX4_allFeel_0 : decode cX4_allFeel 0 = .ok (.aload_n 0, 1) := by decide +kernel
theorem dX4_allFeel_1 : decode cX4_allFeel 1 = .ok (.getfield 41, 3) := by decide +kernel
theorem dX4_allFeel_4 : decode cX4_allFeel 4 = .ok (.aload_n 0, 1) := by decide +kernel
theorem dX4_allFeel_5 : decode cX4_allFeel 5 = .ok (.getfield 37, 3) := by decide +kernel
theorem dX4_allFeel_8 : decode cX4_allFeel 8 = .ok (.invokevirtual 115, 3) := by decide +kernel
theorem dX4_allFeel_11 : decode cX4_allFeel 11 = .ok (.aload_n 0, 1) := by decide +kernel
theorem dX4_allFeel_12 : decode cX4_allFeel 12 = .ok (.getfield 41, 3) := by decide +kernel
theorem dX4_allFeel_15 : decode cX4_allFeel 15 = .ok (.iload 4, 2) := by decide +kernel
theorem dX4_allFeel_17 : decode cX4_allFeel 17 = .ok (.iconst (-1), 1) := by decide +kernel
theorem dX4_allFeel_18 : decode cX4_allFeel 18 = .ok (.ixor, 1) := by decide +kernel
theorem dX4_allFeel_19 : decode cX4_allFeel 19 = .ok (.putfield 227, 3) := by decide +kernel
theorem dX4_allFeel_22 : decode cX4_allFeel 22 = .ok (.aload_n 0, 1) := by decide +kernel
theorem dX4_allFeel_23 : decode cX4_allFeel 23 = .ok (.getfield 41, 3) := by decide +kernel
theorem dX4_allFeel_26 : decode cX4_allFeel 26 = .ok (.iload_n 2, 1) := by decide +kernel
theorem dX4_allFeel_27 : decode cX4_allFeel 27 = .ok (.invokevirtual 195, 3) := by decide +kernel
theorem dX4_allFeel_30 : decode cX4_allFeel 30 = .ok (.iconst 0, 1) := by decide +kernel
theorem dX4_allFeel_31 : decode cX4_allFeel 31 = .ok (.istore 5, 2) := by decide +kernel
theorem dX4_allFeel_33 : decode cX4_allFeel 33 = .ok (.iload 5, 2) := by decide +kernel
theorem dX4_allFeel_35 : decode cX4_allFeel 35 = .ok (.aload_n 0, 1) := by decide +kernel
theorem dX4_allFeel_36 : decode cX4_allFeel 36 = .ok (.getfield 37, 3) := by decide +kernel
theorem dX4_allFeel_39 : decode cX4_allFeel 39 = .ok (.getfield 200, 3) := by decide +kernel
theorem dX4_allFeel_42 : decode cX4_allFeel 42 = .ok (.if_icmp .ge 35, 3) := by decide +kernel
theorem dX4_allFeel_45 : decode cX4_allFeel 45 = .ok (.iload_n 1, 1) := by decide +kernel
theorem dX4_allFeel_46 : decode cX4_allFeel 46 = .ok (.iload 5, 2) := by decide +kernel
theorem dX4_allFeel_48 : decode cX4_allFeel 48 = .ok (.invokestatic 168, 3) := by decide +kernel
theorem dX4_allFeel_51 : decode cX4_allFeel 51 = .ok (.iconst 1, 1) := by decide +kernel
theorem dX4_allFeel_52 : decode cX4_allFeel 52 = .ok (.if_icmp .ne 19, 3) := by decide +kernel
theorem dX4_allFeel_55 : decode cX4_allFeel 55 = .ok (.aload_n 0, 1) := by decide +kernel
theorem dX4_allFeel_56 : decode cX4_allFeel 56 = .ok (.getfield 41, 3) := by decide +kernel
theorem dX4_allFeel_59 : decode cX4_allFeel 59 = .ok (.getfield 186, 3) := by decide +kernel
theorem dX4_allFeel_62 : decode cX4_allFeel 62 = .ok (.iload 5, 2) := by decide +kernel
theorem dX4_allFeel_64 : decode cX4_allFeel 64 = .ok (.iaload, 1) := by decide +kernel
theorem dX4_allFeel_65 : decode cX4_allFeel 65 = .ok (.iload_n 3, 1) := by decide +kernel
theorem dX4_allFeel_66 : decode cX4_allFeel 66 = .ok (.if_icmp .ge 5, 3) := by decide +kernel
theorem dX4_allFeel_69 : decode cX4_allFeel 69 = .ok (.iconst 0, 1) := by decide +kernel
theorem dX4_allFeel_70 : decode cX4_allFeel 70 = .ok (.ireturn, 1) := by decide +kernel
theorem dX4_allFeel_71 : decode cX4_allFeel 71 = .ok (.iinc 5 1, 3) := by decide +kernel
theorem dX4_allFeel_74 : decode cX4_allFeel 74 = .ok (.goto (-41), 3) := by decide +kernel
theorem dX4_allFeel_77 : decode cX4_allFeel 77 = .ok (.iconst 1, 1) := by decide +kernel
theorem dX4_allFeel_78 : decode cX4_allFeel 78 = .ok (.ireturn, 1) := by decide +kernel
theorem dX4_feltWithout_0 : decode cX4_feltWithout 0 = .ok (.aload_n 0, 1) := by decide +kernel
theorem dX4_feltWithout_1 : decode cX4_feltWithout 1 = .ok (.getfield 41, 3) := by decide +kernel
theorem dX4_feltWithout_4 : decode cX4_feltWithout 4 = .ok (.aload_n 0, 1) := by decide +kernel
theorem dX4_feltWithout_5 : decode cX4_feltWithout 5 = .ok (.getfield 37, 3) := by decide +kernel
theorem dX4_feltWithout_8 : decode cX4_feltWithout 8 = .ok (.invokevirtual 115, 3) := by decide +kernel
theorem dX4_feltWithout_11 : decode cX4_feltWithout 11 = .ok (.aload_n 0, 1) := by decide +kernel
theorem dX4_feltWithout_12 : decode cX4_feltWithout 12 = .ok (.getfield 41, 3) := by decide +kernel
theorem dX4_feltWithout_15 : decode cX4_feltWithout 15 = .ok (.iconst 1, 1) := by decide +kernel
theorem dX4_feltWithout_16 : decode cX4_feltWithout 16 = .ok (.iload_n 1, 1) := by decide +kernel
theorem dX4_feltWithout_17 : decode cX4_feltWithout 17 = .ok (.ishl, 1) := by decide +kernel
theorem dX4_feltWithout_18 : decode cX4_feltWithout 18 = .ok (.putfield 227, 3) := by decide +kernel
theorem dX4_feltWithout_21 : decode cX4_feltWithout 21 = .ok (.aload_n 0, 1) := by decide +kernel
theorem dX4_feltWithout_22 : decode cX4_feltWithout 22 = .ok (.getfield 41, 3) := by decide +kernel
theorem dX4_feltWithout_25 : decode cX4_feltWithout 25 = .ok (.iload_n 2, 1) := by decide +kernel
theorem dX4_feltWithout_26 : decode cX4_feltWithout 26 = .ok (.invokevirtual 195, 3) := by decide +kernel
theorem dX4_feltWithout_29 : decode cX4_feltWithout 29 = .ok (.aload_n 0, 1) := by decide +kernel
theorem dX4_feltWithout_30 : decode cX4_feltWithout 30 = .ok (.getfield 41, 3) := by decide +kernel
theorem dX4_feltWithout_33 : decode cX4_feltWithout 33 = .ok (.invokevirtual 144, 3) := by decide +kernel
theorem dX4_feltWithout_36 : decode cX4_feltWithout 36 = .ok (.ireturn, 1) := by decide +kernel
theorem dX4_feelsWithout_0 : decode cX4_feelsWithout 0 = .ok (.aload_n 0, 1) := by decide +kernel
theorem dX4_feelsWithout_1 : decode cX4_feelsWithout 1 = .ok (.getfield 41, 3) := by decide +kernel
theorem dX4_feelsWithout_4 : decode cX4_feelsWithout 4 = .ok (.aload_n 0, 1) := by decide +kernel
theorem dX4_feelsWithout_5 : decode cX4_feelsWithout 5 = .ok (.getfield 37, 3) := by decide +kernel
theorem dX4_feelsWithout_8 : decode cX4_feelsWithout 8 = .ok (.invokevirtual 115, 3) := by decide +kernel
theorem dX4_feelsWithout_11 : decode cX4_feelsWithout 11 = .ok (.aload_n 0, 1) := by decide +kernel
theorem dX4_feelsWithout_12 : decode cX4_feelsWithout 12 = .ok (.getfield 41, 3) := by decide +kernel
theorem dX4_feelsWithout_15 : decode cX4_feelsWithout 15 = .ok (.iload_n 3, 1) := by decide +kernel
theorem dX4_feelsWithout_16 : decode cX4_feelsWithout 16 = .ok (.putfield 227, 3) := by decide +kernel
theorem dX4_feelsWithout_19 : decode cX4_feelsWithout 19 = .ok (.aload_n 0, 1) := by decide +kernel
theorem dX4_feelsWithout_20 : decode cX4_feelsWithout 20 = .ok (.getfield 41, 3) := by decide +kernel
theorem dX4_feelsWithout_23 : decode cX4_feelsWithout 23 = .ok (.invokevirtual 140, 3) := by decide +kernel
theorem dX4_feelsWithout_26 : decode cX4_feelsWithout 26 = .ok (.pop, 1) := by decide +kernel
theorem dX4_feelsWithout_27 : decode cX4_feelsWithout 27 = .ok (.aload_n 0, 1) := by decide +kernel
theorem dX4_feelsWithout_28 : decode cX4_feelsWithout 28 = .ok (.getfield 41, 3) := by decide +kernel
theorem dX4_feelsWithout_31 : decode cX4_feelsWithout 31 = .ok (.getfield 186, 3) := by decide +kernel
theorem dX4_feelsWithout_34 : decode cX4_feelsWithout 34 = .ok (.iload_n 1, 1) := by decide +kernel
theorem dX4_feelsWithout_35 : decode cX4_feelsWithout 35 = .ok (.iaload, 1) := by decide +kernel
theorem dX4_feelsWithout_36 : decode cX4_feelsWithout 36 = .ok (.iload_n 2, 1) := by decide +kernel
theorem dX4_feelsWithout_37 : decode cX4_feelsWithout 37 = .ok (.if_icmp .lt 7, 3) := by decide +kernel
theorem dX4_feelsWithout_40 : decode cX4_feelsWithout 40 = .ok (.iconst 1, 1) := by decide +kernel
theorem dX4_feelsWithout_41 : decode cX4_feelsWithout 41 = .ok (.goto 4, 3) := by decide +kernel
theorem dX4_feelsWithout_44 : decode cX4_feelsWithout 44 = .ok (.iconst 0, 1) := by decide +kernel
theorem dX4_feelsWithout_45 : decode cX4_feelsWithout 45 = .ok (.ireturn, 1) := by decide +kernel
theorem dX4_isFree_0 : decode cX4_isFree 0 = .ok (.aload_n 0, 1) := by decide +kernel
theorem dX4_isFree_1 : decode cX4_isFree 1 = .ok (.getfield 37, 3) := by decide +kernel
theorem dX4_isFree_4 : decode cX4_isFree 4 = .ok (.getfield 165, 3) := by decide +kernel
theorem dX4_isFree_7 : decode cX4_isFree 7 = .ok (.iload_n 1, 1) := by decide +kernel
theorem dX4_isFree_8 : decode cX4_isFree 8 = .ok (.invokestatic 168, 3) := by decide +kernel
theorem dX4_isFree_11 : decode cX4_isFree 11 = .ok (.ifCond .ne 18, 3) := by decide +kernel
theorem dX4_isFree_14 : decode cX4_isFree 14 = .ok (.aload_n 0, 1) := by decide +kernel
theorem dX4_isFree_15 : decode cX4_isFree 15 = .ok (.getfield 37, 3) := by decide +kernel
theorem dX4_isFree_18 : decode cX4_isFree 18 = .ok (.iload_n 1, 1) := by decide +kernel
theorem dX4_isFree_19 : decode cX4_isFree 19 = .ok (.invokevirtual 189, 3) := by decide +kernel
theorem dX4_isFree_22 : decode cX4_isFree 22 = .ok (.ifCond .ne 7, 3) := by decide +kernel
theorem dX4_isFree_25 : decode cX4_isFree 25 = .ok (.iconst 1, 1) := by decide +kernel
theorem dX4_isFree_26 : decode cX4_isFree 26 = .ok (.goto 4, 3) := by decide +kernel
theorem dX4_isFree_29 : decode cX4_isFree 29 = .ok (.iconst 0, 1) := by decide +kernel
theorem dX4_isFree_30 : decode cX4_isFree 30 = .ok (.ireturn, 1) := by decide +kernel
theorem dX4_cases_0 : decode cX4_cases 0 = .ok (.iload_n 0, 1) := by decide +kernel
theorem dX4_cases_1 : decode cX4_cases 1 = .ok (.invokestatic 203, 3) := by decide +kernel
theorem dX4_cases_4 : decode cX4_cases 4 = .ok (.istore_n 3, 1) := by decide +kernel
theorem dX4_cases_5 : decode cX4_cases 5 = .ok (.iload_n 2, 1) := by decide +kernel
theorem dX4_cases_6 : decode cX4_cases 6 = .ok (.i2l, 1) := by decide +kernel
theorem dX4_cases_7 : decode cX4_cases 7 = .ok (.iload_n 3, 1) := by decide +kernel
theorem dX4_cases_8 : decode cX4_cases 8 = .ok (.invokestatic 255, 3) := by decide +kernel
theorem dX4_cases_11 : decode cX4_cases 11 = .ok (.bipush 10, 2) := by decide +kernel
theorem dX4_cases_13 : decode cX4_cases 13 = .ok (.iload_n 2, 1) := by decide +kernel
theorem dX4_cases_14 : decode cX4_cases 14 = .ok (.isub, 1) := by decide +kernel
theorem dX4_cases_15 : decode cX4_cases 15 = .ok (.i2l, 1) := by decide +kernel
theorem dX4_cases_16 : decode cX4_cases 16 = .ok (.iload_n 1, 1) := by decide +kernel
theorem dX4_cases_17 : decode cX4_cases 17 = .ok (.invokestatic 203, 3) := by decide +kernel
theorem dX4_cases_20 : decode cX4_cases 20 = .ok (.iload_n 3, 1) := by decide +kernel
theorem dX4_cases_21 : decode cX4_cases 21 = .ok (.isub, 1) := by decide +kernel
theorem dX4_cases_22 : decode cX4_cases 22 = .ok (.invokestatic 255, 3) := by decide +kernel
theorem dX4_cases_25 : decode cX4_cases 25 = .ok (.lmul, 1) := by decide +kernel
theorem dX4_cases_26 : decode cX4_cases 26 = .ok (.lreturn, 1) := by decide +kernel
theorem dX4_power_0 : decode cX4_power 0 = .ok (.lconst 1, 1) := by decide +kernel
theorem dX4_power_1 : decode cX4_power 1 = .ok (.lstore_n 3, 1) := by decide +kernel
theorem dX4_power_2 : decode cX4_power 2 = .ok (.iconst 0, 1) := by decide +kernel
theorem dX4_power_3 : decode cX4_power 3 = .ok (.istore 5, 2) := by decide +kernel
theorem dX4_power_5 : decode cX4_power 5 = .ok (.iload 5, 2) := by decide +kernel
theorem dX4_power_7 : decode cX4_power 7 = .ok (.iload_n 2, 1) := by decide +kernel
theorem dX4_power_8 : decode cX4_power 8 = .ok (.if_icmp .ge 13, 3) := by decide +kernel
theorem dX4_power_11 : decode cX4_power 11 = .ok (.lload_n 3, 1) := by decide +kernel
theorem dX4_power_12 : decode cX4_power 12 = .ok (.lload_n 0, 1) := by decide +kernel
theorem dX4_power_13 : decode cX4_power 13 = .ok (.lmul, 1) := by decide +kernel
theorem dX4_power_14 : decode cX4_power 14 = .ok (.lstore_n 3, 1) := by decide +kernel
theorem dX4_power_15 : decode cX4_power 15 = .ok (.iinc 5 1, 3) := by decide +kernel
theorem dX4_power_18 : decode cX4_power 18 = .ok (.goto (-13), 3) := by decide +kernel
theorem dX4_power_21 : decode cX4_power 21 = .ok (.lload_n 3, 1) := by decide +kernel
theorem dX4_power_22 : decode cX4_power 22 = .ok (.lreturn, 1) := by decide +kernel
theorem dX4_commonDivisor_0 : decode cX4_commonDivisor 0 = .ok (.iconst 0, 1) := by decide +kernel
theorem dX4_commonDivisor_1 : decode cX4_commonDivisor 1 = .ok (.istore 4, 2) := by decide +kernel
theorem dX4_commonDivisor_3 : decode cX4_commonDivisor 3 = .ok (.iload 4, 2) := by decide +kernel
theorem dX4_commonDivisor_5 : decode cX4_commonDivisor 5 = .ok (.bipush 100, 2) := by decide +kernel
theorem dX4_commonDivisor_7 : decode cX4_commonDivisor 7 = .ok (.if_icmp .ge 25, 3) := by decide +kernel
theorem dX4_commonDivisor_10 : decode cX4_commonDivisor 10 = .ok (.lload_n 2, 1) := by decide +kernel
theorem dX4_commonDivisor_11 : decode cX4_commonDivisor 11 = .ok (.lconst 0, 1) := by decide +kernel
theorem dX4_commonDivisor_12 : decode cX4_commonDivisor 12 = .ok (.lcmp, 1) := by decide +kernel
theorem dX4_commonDivisor_13 : decode cX4_commonDivisor 13 = .ok (.ifCond .eq 19, 3) := by decide +kernel
theorem dX4_commonDivisor_16 : decode cX4_commonDivisor 16 = .ok (.lload_n 0, 1) := by decide +kernel
theorem dX4_commonDivisor_17 : decode cX4_commonDivisor 17 = .ok (.lload_n 2, 1) := by decide +kernel
theorem dX4_commonDivisor_18 : decode cX4_commonDivisor 18 = .ok (.lrem, 1) := by decide +kernel
theorem dX4_commonDivisor_19 : decode cX4_commonDivisor 19 = .ok (.lstore 5, 2) := by decide +kernel
theorem dX4_commonDivisor_21 : decode cX4_commonDivisor 21 = .ok (.lload_n 2, 1) := by decide +kernel
theorem dX4_commonDivisor_22 : decode cX4_commonDivisor 22 = .ok (.lstore_n 0, 1) := by decide +kernel
theorem dX4_commonDivisor_23 : decode cX4_commonDivisor 23 = .ok (.lload 5, 2) := by decide +kernel
theorem dX4_commonDivisor_25 : decode cX4_commonDivisor 25 = .ok (.lstore_n 2, 1) := by decide +kernel
theorem dX4_commonDivisor_26 : decode cX4_commonDivisor 26 = .ok (.iinc 4 1, 3) := by decide +kernel
theorem dX4_commonDivisor_29 : decode cX4_commonDivisor 29 = .ok (.goto (-26), 3) := by decide +kernel
theorem dX4_commonDivisor_32 : decode cX4_commonDivisor 32 = .ok (.lload_n 0, 1) := by decide +kernel
theorem dX4_commonDivisor_33 : decode cX4_commonDivisor 33 = .ok (.lreturn, 1) := by decide +kernel
theorem dX4_nearestBody_0 : decode cX4_nearestBody 0 = .ok (.iload_n 1, 1) := by decide +kernel
theorem dX4_nearestBody_1 : decode cX4_nearestBody 1 = .ok (.istore_n 2, 1) := by decide +kernel
theorem dX4_nearestBody_2 : decode cX4_nearestBody 2 = .ok (.iconst 0, 1) := by decide +kernel
theorem dX4_nearestBody_3 : decode cX4_nearestBody 3 = .ok (.istore_n 3, 1) := by decide +kernel
theorem dX4_nearestBody_4 : decode cX4_nearestBody 4 = .ok (.iload_n 3, 1) := by decide +kernel
theorem dX4_nearestBody_5 : decode cX4_nearestBody 5 = .ok (.iconst 5, 1) := by decide +kernel
theorem dX4_nearestBody_6 : decode cX4_nearestBody 6 = .ok (.if_icmp .gt 25, 3) := by decide +kernel
theorem dX4_nearestBody_9 : decode cX4_nearestBody 9 = .ok (.iload_n 2, 1) := by decide +kernel
theorem dX4_nearestBody_10 : decode cX4_nearestBody 10 = .ok (.ifCond .le 21, 3) := by decide +kernel
theorem dX4_nearestBody_13 : decode cX4_nearestBody 13 = .ok (.aload_n 0, 1) := by decide +kernel
theorem dX4_nearestBody_14 : decode cX4_nearestBody 14 = .ok (.iload_n 2, 1) := by decide +kernel
theorem dX4_nearestBody_15 : decode cX4_nearestBody 15 = .ok (.iaload, 1) := by decide +kernel
theorem dX4_nearestBody_16 : decode cX4_nearestBody 16 = .ok (.ifCond .ne 15, 3) := by decide +kernel
theorem dX4_nearestBody_19 : decode cX4_nearestBody 19 = .ok (.getstatic 277, 3) := by decide +kernel
theorem dX4_nearestBody_22 : decode cX4_nearestBody 22 = .ok (.iload_n 2, 1) := by decide +kernel
theorem dX4_nearestBody_23 : decode cX4_nearestBody 23 = .ok (.iaload, 1) := by decide +kernel
theorem dX4_nearestBody_24 : decode cX4_nearestBody 24 = .ok (.istore_n 2, 1) := by decide +kernel
theorem dX4_nearestBody_25 : decode cX4_nearestBody 25 = .ok (.iinc 3 1, 3) := by decide +kernel
theorem dX4_nearestBody_28 : decode cX4_nearestBody 28 = .ok (.goto (-24), 3) := by decide +kernel
theorem dX4_nearestBody_31 : decode cX4_nearestBody 31 = .ok (.aload_n 0, 1) := by decide +kernel
theorem dX4_nearestBody_32 : decode cX4_nearestBody 32 = .ok (.iload_n 2, 1) := by decide +kernel
theorem dX4_nearestBody_33 : decode cX4_nearestBody 33 = .ok (.iaload, 1) := by decide +kernel
theorem dX4_nearestBody_34 : decode cX4_nearestBody 34 = .ok (.ireturn, 1) := by decide +kernel
theorem dX4_sizeBody_0 : decode cX4_sizeBody 0 = .ok (.getstatic 304, 3) := by decide +kernel
theorem dX4_sizeBody_3 : decode cX4_sizeBody 3 = .ok (.aload_n 0, 1) := by decide +kernel
theorem dX4_sizeBody_4 : decode cX4_sizeBody 4 = .ok (.getfield 37, 3) := by decide +kernel
theorem dX4_sizeBody_7 : decode cX4_sizeBody 7 = .ok (.getfield 274, 3) := by decide +kernel
theorem dX4_sizeBody_10 : decode cX4_sizeBody 10 = .ok (.iload_n 1, 1) := by decide +kernel
theorem dX4_sizeBody_11 : decode cX4_sizeBody 11 = .ok (.iaload, 1) := by decide +kernel
theorem dX4_sizeBody_12 : decode cX4_sizeBody 12 = .ok (.invokestatic 307, 3) := by decide +kernel
theorem dX4_sizeBody_15 : decode cX4_sizeBody 15 = .ok (.ireturn, 1) := by decide +kernel
theorem dX4_markBody_0 : decode cX4_markBody 0 = .ok (.getstatic 311, 3) := by decide +kernel
theorem dX4_markBody_3 : decode cX4_markBody 3 = .ok (.aload_n 0, 1) := by decide +kernel
theorem dX4_markBody_4 : decode cX4_markBody 4 = .ok (.getfield 37, 3) := by decide +kernel
theorem dX4_markBody_7 : decode cX4_markBody 7 = .ok (.getfield 274, 3) := by decide +kernel
theorem dX4_markBody_10 : decode cX4_markBody 10 = .ok (.iload_n 1, 1) := by decide +kernel
theorem dX4_markBody_11 : decode cX4_markBody 11 = .ok (.iaload, 1) := by decide +kernel
theorem dX4_markBody_12 : decode cX4_markBody 12 = .ok (.invokestatic 307, 3) := by decide +kernel
theorem dX4_markBody_15 : decode cX4_markBody 15 = .ok (.ireturn, 1) := by decide +kernel
theorem dX4_leaveInTrace_0 : decode cX4_leaveInTrace 0 = .ok (.aload_n 0, 1) := by decide +kernel
theorem dX4_leaveInTrace_1 : decode cX4_leaveInTrace 1 = .ok (.getfield 280, 3) := by decide +kernel
theorem dX4_leaveInTrace_4 : decode cX4_leaveInTrace 4 = .ok (.bipush 16, 2) := by decide +kernel
theorem dX4_leaveInTrace_6 : decode cX4_leaveInTrace 6 = .ok (.if_icmp .ge 23, 3) := by decide +kernel
theorem dX4_leaveInTrace_9 : decode cX4_leaveInTrace 9 = .ok (.aload_n 0, 1) := by decide +kernel
theorem dX4_leaveInTrace_10 : decode cX4_leaveInTrace 10 = .ok (.getfield 44, 3) := by decide +kernel
theorem dX4_leaveInTrace_13 : decode cX4_leaveInTrace 13 = .ok (.aload_n 0, 1) := by decide +kernel
theorem dX4_leaveInTrace_14 : decode cX4_leaveInTrace 14 = .ok (.getfield 280, 3) := by decide +kernel
theorem dX4_leaveInTrace_17 : decode cX4_leaveInTrace 17 = .ok (.iload_n 1, 1) := by decide +kernel
theorem dX4_leaveInTrace_18 : decode cX4_leaveInTrace 18 = .ok (.iastore, 1) := by decide +kernel
theorem dX4_leaveInTrace_19 : decode cX4_leaveInTrace 19 = .ok (.aload_n 0, 1) := by decide +kernel
theorem dX4_leaveInTrace_20 : decode cX4_leaveInTrace 20 = .ok (.dup, 1) := by decide +kernel
theorem dX4_leaveInTrace_21 : decode cX4_leaveInTrace 21 = .ok (.getfield 280, 3) := by decide +kernel
theorem dX4_leaveInTrace_24 : decode cX4_leaveInTrace 24 = .ok (.iconst 1, 1) := by decide +kernel
theorem dX4_leaveInTrace_25 : decode cX4_leaveInTrace 25 = .ok (.iadd, 1) := by decide +kernel
theorem dX4_leaveInTrace_26 : decode cX4_leaveInTrace 26 = .ok (.putfield 280, 3) := by decide +kernel
theorem dX4_leaveInTrace_29 : decode cX4_leaveInTrace 29 = .ok (.return_, 1) := by decide +kernel
theorem dX4_body_0 : decode cX4_body 0 = .ok (.iload_n 3, 1) := by decide +kernel
theorem dX4_body_1 : decode cX4_body 1 = .ok (.bipush 12, 2) := by decide +kernel
theorem dX4_body_3 : decode cX4_body 3 = .ok (.if_icmp .le 5, 3) := by decide +kernel
theorem dX4_body_6 : decode cX4_body 6 = .ok (.iconst 0, 1) := by decide +kernel
theorem dX4_body_7 : decode cX4_body 7 = .ok (.ireturn, 1) := by decide +kernel
theorem dX4_body_8 : decode cX4_body 8 = .ok (.aload_n 0, 1) := by decide +kernel
theorem dX4_body_9 : decode cX4_body 9 = .ok (.iload_n 1, 1) := by decide +kernel
theorem dX4_body_10 : decode cX4_body 10 = .ok (.invokevirtual 314, 3) := by decide +kernel
theorem dX4_body_13 : decode cX4_body 13 = .ok (.iload_n 3, 1) := by decide +kernel
theorem dX4_body_14 : decode cX4_body 14 = .ok (.iconst 1, 1) := by decide +kernel
theorem dX4_body_15 : decode cX4_body 15 = .ok (.iadd, 1) := by decide +kernel
theorem dX4_body_16 : decode cX4_body 16 = .ok (.istore 4, 2) := by decide +kernel
theorem dX4_body_18 : decode cX4_body 18 = .ok (.iload_n 1, 1) := by decide +kernel
theorem dX4_body_19 : decode cX4_body 19 = .ok (.tableswitch 212 10 24 #[73, 83, 106, 117, 130, 212, 212, 212, 212, 212, 142, 144, 163, 177, 200], 73) := by decide +kernel
theorem dX4_body_92 : decode cX4_body 92 = .ok (.aload_n 0, 1) := by decide +kernel
theorem dX4_body_93 : decode cX4_body 93 = .ok (.getfield 37, 3) := by decide +kernel
theorem dX4_body_96 : decode cX4_body 96 = .ok (.getfield 159, 3) := by decide +kernel
theorem dX4_body_99 : decode cX4_body 99 = .ok (.iload_n 2, 1) := by decide +kernel
theorem dX4_body_100 : decode cX4_body 100 = .ok (.iaload, 1) := by decide +kernel
theorem dX4_body_101 : decode cX4_body 101 = .ok (.ireturn, 1) := by decide +kernel
theorem dX4_body_102 : decode cX4_body 102 = .ok (.aload_n 0, 1) := by decide +kernel
theorem dX4_body_103 : decode cX4_body 103 = .ok (.bipush 10, 2) := by decide +kernel
theorem dX4_body_105 : decode cX4_body 105 = .ok (.iload_n 2, 1) := by decide +kernel
theorem dX4_body_106 : decode cX4_body 106 = .ok (.iload 4, 2) := by decide +kernel
theorem dX4_body_108 : decode cX4_body 108 = .ok (.invokevirtual 289, 3) := by decide +kernel
theorem dX4_body_111 : decode cX4_body 111 = .ok (.aload_n 0, 1) := by decide +kernel
theorem dX4_body_112 : decode cX4_body 112 = .ok (.aload_n 0, 1) := by decide +kernel
theorem dX4_body_113 : decode cX4_body 113 = .ok (.iload_n 2, 1) := by decide +kernel
theorem dX4_body_114 : decode cX4_body 114 = .ok (.invokevirtual 286, 3) := by decide +kernel
theorem dX4_body_117 : decode cX4_body 117 = .ok (.iload_n 2, 1) := by decide +kernel
theorem dX4_body_118 : decode cX4_body 118 = .ok (.iload 4, 2) := by decide +kernel
theorem dX4_body_120 : decode cX4_body 120 = .ok (.invokevirtual 289, 3) := by decide +kernel
theorem dX4_body_123 : decode cX4_body 123 = .ok (.iadd, 1) := by decide +kernel
theorem dX4_body_124 : decode cX4_body 124 = .ok (.ireturn, 1) := by decide +kernel
theorem dX4_body_125 : decode cX4_body 125 = .ok (.aload_n 0, 1) := by decide +kernel
theorem dX4_body_126 : decode cX4_body 126 = .ok (.bipush 11, 2) := by decide +kernel
theorem dX4_body_128 : decode cX4_body 128 = .ok (.iload_n 2, 1) := by decide +kernel
theorem dX4_body_129 : decode cX4_body 129 = .ok (.iload 4, 2) := by decide +kernel
theorem dX4_body_131 : decode cX4_body 131 = .ok (.invokevirtual 289, 3) := by decide +kernel
theorem dX4_body_134 : decode cX4_body 134 = .ok (.ineg, 1) := by decide +kernel
theorem dX4_body_135 : decode cX4_body 135 = .ok (.ireturn, 1) := by decide +kernel
theorem dX4_body_136 : decode cX4_body 136 = .ok (.aload_n 0, 1) := by decide +kernel
theorem dX4_body_137 : decode cX4_body 137 = .ok (.bipush 10, 2) := by decide +kernel
theorem dX4_body_139 : decode cX4_body 139 = .ok (.iload_n 2, 1) := by decide +kernel
theorem dX4_body_140 : decode cX4_body 140 = .ok (.iload 4, 2) := by decide +kernel
theorem dX4_body_142 : decode cX4_body 142 = .ok (.invokevirtual 289, 3) := by decide +kernel
theorem dX4_body_145 : decode cX4_body 145 = .ok (.bipush 100, 2) := by decide +kernel
theorem dX4_body_147 : decode cX4_body 147 = .ok (.isub, 1) := by decide +kernel
theorem dX4_body_148 : decode cX4_body 148 = .ok (.ireturn, 1) := by decide +kernel
theorem dX4_body_149 : decode cX4_body 149 = .ok (.iconst 2, 1) := by decide +kernel
theorem dX4_body_150 : decode cX4_body 150 = .ok (.aload_n 0, 1) := by decide +kernel
theorem dX4_body_151 : decode cX4_body 151 = .ok (.bipush 13, 2) := by decide +kernel
theorem dX4_body_153 : decode cX4_body 153 = .ok (.iload_n 2, 1) := by decide +kernel
theorem dX4_body_154 : decode cX4_body 154 = .ok (.iload 4, 2) := by decide +kernel
theorem dX4_body_156 : decode cX4_body 156 = .ok (.invokevirtual 289, 3) := by decide +kernel
theorem dX4_body_159 : decode cX4_body 159 = .ok (.imul, 1) := by decide +kernel
theorem dX4_body_160 : decode cX4_body 160 = .ok (.ireturn, 1) := by decide +kernel
theorem dX4_body_161 : decode cX4_body 161 = .ok (.iload_n 2, 1) := by decide +kernel
theorem dX4_body_162 : decode cX4_body 162 = .ok (.ireturn, 1) := by decide +kernel
theorem dX4_body_163 : decode cX4_body 163 = .ok (.aload_n 0, 1) := by decide +kernel
theorem dX4_body_164 : decode cX4_body 164 = .ok (.bipush 20, 2) := by decide +kernel
theorem dX4_body_166 : decode cX4_body 166 = .ok (.iload_n 2, 1) := by decide +kernel
theorem dX4_body_167 : decode cX4_body 167 = .ok (.iload 4, 2) := by decide +kernel
theorem dX4_body_169 : decode cX4_body 169 = .ok (.invokevirtual 289, 3) := by decide +kernel
theorem dX4_body_172 : decode cX4_body 172 = .ok (.aload_n 0, 1) := by decide +kernel
theorem dX4_body_173 : decode cX4_body 173 = .ok (.getfield 37, 3) := by decide +kernel
theorem dX4_body_176 : decode cX4_body 176 = .ok (.iload_n 2, 1) := by decide +kernel
theorem dX4_body_177 : decode cX4_body 177 = .ok (.invokevirtual 180, 3) := by decide +kernel
theorem dX4_body_180 : decode cX4_body 180 = .ok (.iadd, 1) := by decide +kernel
theorem dX4_body_181 : decode cX4_body 181 = .ok (.ireturn, 1) := by decide +kernel
theorem dX4_body_182 : decode cX4_body 182 = .ok (.aload_n 0, 1) := by decide +kernel
theorem dX4_body_183 : decode cX4_body 183 = .ok (.bipush 21, 2) := by decide +kernel
theorem dX4_body_185 : decode cX4_body 185 = .ok (.iload_n 2, 1) := by decide +kernel
theorem dX4_body_186 : decode cX4_body 186 = .ok (.iload 4, 2) := by decide +kernel
theorem dX4_body_188 : decode cX4_body 188 = .ok (.invokevirtual 289, 3) := by decide +kernel
theorem dX4_body_191 : decode cX4_body 191 = .ok (.sipush 1000, 3) := by decide +kernel
theorem dX4_body_194 : decode cX4_body 194 = .ok (.isub, 1) := by decide +kernel
theorem dX4_body_195 : decode cX4_body 195 = .ok (.ireturn, 1) := by decide +kernel
theorem dX4_body_196 : decode cX4_body 196 = .ok (.aload_n 0, 1) := by decide +kernel
theorem dX4_body_197 : decode cX4_body 197 = .ok (.bipush 20, 2) := by decide +kernel
theorem dX4_body_199 : decode cX4_body 199 = .ok (.iload_n 2, 1) := by decide +kernel
theorem dX4_body_200 : decode cX4_body 200 = .ok (.iload 4, 2) := by decide +kernel
theorem dX4_body_202 : decode cX4_body 202 = .ok (.invokevirtual 289, 3) := by decide +kernel
theorem dX4_body_205 : decode cX4_body 205 = .ok (.aload_n 0, 1) := by decide +kernel
theorem dX4_body_206 : decode cX4_body 206 = .ok (.aload_n 0, 1) := by decide +kernel
theorem dX4_body_207 : decode cX4_body 207 = .ok (.iload_n 2, 1) := by decide +kernel
theorem dX4_body_208 : decode cX4_body 208 = .ok (.invokevirtual 283, 3) := by decide +kernel
theorem dX4_body_211 : decode cX4_body 211 = .ok (.iload_n 2, 1) := by decide +kernel
theorem dX4_body_212 : decode cX4_body 212 = .ok (.iload 4, 2) := by decide +kernel
theorem dX4_body_214 : decode cX4_body 214 = .ok (.invokevirtual 289, 3) := by decide +kernel
theorem dX4_body_217 : decode cX4_body 217 = .ok (.isub, 1) := by decide +kernel
theorem dX4_body_218 : decode cX4_body 218 = .ok (.ireturn, 1) := by decide +kernel
theorem dX4_body_219 : decode cX4_body 219 = .ok (.iconst 2, 1) := by decide +kernel
theorem dX4_body_220 : decode cX4_body 220 = .ok (.aload_n 0, 1) := by decide +kernel
theorem dX4_body_221 : decode cX4_body 221 = .ok (.bipush 21, 2) := by decide +kernel
theorem dX4_body_223 : decode cX4_body 223 = .ok (.iload_n 2, 1) := by decide +kernel
theorem dX4_body_224 : decode cX4_body 224 = .ok (.iload 4, 2) := by decide +kernel
theorem dX4_body_226 : decode cX4_body 226 = .ok (.invokevirtual 289, 3) := by decide +kernel
theorem dX4_body_229 : decode cX4_body 229 = .ok (.imul, 1) := by decide +kernel
theorem dX4_body_230 : decode cX4_body 230 = .ok (.ireturn, 1) := by decide +kernel
theorem dX4_body_231 : decode cX4_body 231 = .ok (.iconst 0, 1) := by decide +kernel
theorem dX4_body_232 : decode cX4_body 232 = .ok (.ireturn, 1) := by decide +kernel
end
section
theorem dX5_init_0 : decode cX5_init 0 = .ok (.aload_n 0, 1) := by decide +kernel
theorem dX5_init_1 : decode cX5_init 1 = .ok (.invokespecial 1, 3) := by decide +kernel
theorem dX5_init_4 : decode cX5_init 4 = .ok (.aload_n 0, 1) := by decide +kernel
theorem dX5_init_5 : decode cX5_init 5 = .ok (.bipush 8, 2) := by decide +kernel
theorem dX5_init_7 : decode cX5_init 7 = .ok (.newarray .int, 2) := by decide +kernel
theorem dX5_init_9 : decode cX5_init 9 = .ok (.putfield 7, 3) := by decide +kernel
theorem dX5_init_12 : decode cX5_init 12 = .ok (.aload_n 0, 1) := by decide +kernel
theorem dX5_init_13 : decode cX5_init 13 = .ok (.bipush 8, 2) := by decide +kernel
theorem dX5_init_15 : decode cX5_init 15 = .ok (.newarray .int, 2) := by decide +kernel
theorem dX5_init_17 : decode cX5_init 17 = .ok (.putfield 13, 3) := by decide +kernel
theorem dX5_init_20 : decode cX5_init 20 = .ok (.aload_n 0, 1) := by decide +kernel
theorem dX5_init_21 : decode cX5_init 21 = .ok (.sipush 320, 3) := by decide +kernel
theorem dX5_init_24 : decode cX5_init 24 = .ok (.newarray .int, 2) := by decide +kernel
theorem dX5_init_26 : decode cX5_init 26 = .ok (.putfield 16, 3) := by decide +kernel
theorem dX5_init_29 : decode cX5_init 29 = .ok (.aload_n 0, 1) := by decide +kernel
theorem dX5_init_30 : decode cX5_init 30 = .ok (.bipush 70, 2) := by decide +kernel
theorem dX5_init_32 : decode cX5_init 32 = .ok (.newarray .int, 2) := by decide +kernel
theorem dX5_init_34 : decode cX5_init 34 = .ok (.putfield 19, 3) := by decide +kernel
theorem dX5_init_37 : decode cX5_init 37 = .ok (.aload_n 0, 1) := by decide +kernel
theorem dX5_init_38 : decode cX5_init 38 = .ok (.bipush 40, 2) := by decide +kernel
theorem dX5_init_40 : decode cX5_init 40 = .ok (.newarray .int, 2) := by decide +kernel
theorem dX5_init_42 : decode cX5_init 42 = .ok (.putfield 22, 3) := by decide +kernel
theorem dX5_init_45 : decode cX5_init 45 = .ok (.aload_n 0, 1) := by decide +kernel
theorem dX5_init_46 : decode cX5_init 46 = .ok (.bipush 120, 2) := by decide +kernel
theorem dX5_init_48 : decode cX5_init 48 = .ok (.newarray .int, 2) := by decide +kernel
theorem dX5_init_50 : decode cX5_init 50 = .ok (.putfield 25, 3) := by decide +kernel
theorem dX5_init_53 : decode cX5_init 53 = .ok (.aload_n 0, 1) := by decide +kernel
theorem dX5_init_54 : decode cX5_init 54 = .ok (.bipush 70, 2) := by decide +kernel
theorem dX5_init_56 : decode cX5_init 56 = .ok (.newarray .int, 2) := by decide +kernel
theorem dX5_init_58 : decode cX5_init 58 = .ok (.putfield 28, 3) := by decide +kernel
theorem dX5_init_61 : decode cX5_init 61 = .ok (.aload_n 0, 1) := by decide +kernel
theorem dX5_init_62 : decode cX5_init 62 = .ok (.sipush 1680, 3) := by decide +kernel
theorem dX5_init_65 : decode cX5_init 65 = .ok (.newarray .int, 2) := by decide +kernel
theorem dX5_init_67 : decode cX5_init 67 = .ok (.putfield 31, 3) := by decide +kernel
theorem dX5_init_70 : decode cX5_init 70 = .ok (.aload_n 0, 1) := by decide +kernel
theorem dX5_init_71 : decode cX5_init 71 = .ok (.bipush 70, 2) := by decide +kernel
theorem dX5_init_73 : decode cX5_init 73 = .ok (.newarray .int, 2) := by decide +kernel
theorem dX5_init_75 : decode cX5_init 75 = .ok (.putfield 34, 3) := by decide +kernel
theorem dX5_init_78 : decode cX5_init 78 = .ok (.aload_n 0, 1) := by decide +kernel
theorem dX5_init_79 : decode cX5_init 79 = .ok (.iconst 2, 1) := by decide +kernel
theorem dX5_init_80 : decode cX5_init 80 = .ok (.newarray .boolean, 2) := by decide +kernel
theorem dX5_init_82 : decode cX5_init 82 = .ok (.putfield 37, 3) := by decide +kernel
theorem dX5_init_85 : decode cX5_init 85 = .ok (.aload_n 0, 1) := by decide +kernel
theorem dX5_init_86 : decode cX5_init 86 = .ok (.sipush 140, 3) := by decide +kernel
theorem dX5_init_89 : decode cX5_init 89 = .ok (.newarray .int, 2) := by decide +kernel
theorem dX5_init_91 : decode cX5_init 91 = .ok (.putfield 41, 3) := by decide +kernel
theorem dX5_init_94 : decode cX5_init 94 = .ok (.aload_n 0, 1) := by decide +kernel
theorem dX5_init_95 : decode cX5_init 95 = .ok (.bipush 16, 2) := by decide +kernel
theorem dX5_init_97 : decode cX5_init 97 = .ok (.newarray .int, 2) := by decide +kernel
theorem dX5_init_99 : decode cX5_init 99 = .ok (.putfield 44, 3) := by decide +kernel
theorem dX5_init_102 : decode cX5_init 102 = .ok (.iconst 0, 1) := by decide +kernel
theorem dX5_init_103 : decode cX5_init 103 = .ok (.istore_n 1, 1) := by decide +kernel
theorem dX5_init_104 : decode cX5_init 104 = .ok (.iload_n 1, 1) := by decide +kernel
theorem dX5_init_105 : decode cX5_init 105 = .ok (.bipush 8, 2) := by decide +kernel
theorem dX5_init_107 : decode cX5_init 107 = .ok (.if_icmp .ge 16, 3) := by decide +kernel
theorem dX5_init_110 : decode cX5_init 110 = .ok (.aload_n 0, 1) := by decide +kernel
theorem dX5_init_111 : decode cX5_init 111 = .ok (.getfield 13, 3) := by decide +kernel
theorem dX5_init_114 : decode cX5_init 114 = .ok (.iload_n 1, 1) := by decide +kernel
theorem dX5_init_115 : decode cX5_init 115 = .ok (.iconst (-1), 1) := by decide +kernel
theorem dX5_init_116 : decode cX5_init 116 = .ok (.iastore, 1) := by decide +kernel
theorem dX5_init_117 : decode cX5_init 117 = .ok (.iinc 1 1, 3) := by decide +kernel
theorem dX5_init_120 : decode cX5_init 120 = .ok (.goto (-16), 3) := by decide +kernel
theorem dX5_init_123 : decode cX5_init 123 = .ok (.return_, 1) := by decide +kernel
theorem dX5_in_0 : decode cX5_in 0 = .ok (.lload_n 0, 1) := by decide +kernel
theorem dX5_in_1 : decode cX5_in 1 = .ok (.lload_n 2, 1) := by decide +kernel
theorem dX5_in_2 : decode cX5_in 2 = .ok (.lcmp, 1) := by decide +kernel
theorem dX5_in_3 : decode cX5_in 3 = .ok (.ifCond .lt 14, 3) := by decide +kernel
theorem dX5_in_6 : decode cX5_in 6 = .ok (.lload_n 0, 1) := by decide +kernel
theorem dX5_in_7 : decode cX5_in 7 = .ok (.lload 4, 2) := by decide +kernel
theorem dX5_in_9 : decode cX5_in 9 = .ok (.lcmp, 1) := by decide +kernel
theorem dX5_in_10 : decode cX5_in 10 = .ok (.ifCond .gt 7, 3) := by decide +kernel
theorem dX5_in_13 : decode cX5_in 13 = .ok (.iconst 1, 1) := by decide +kernel
theorem dX5_in_14 : decode cX5_in 14 = .ok (.goto 4, 3) := by decide +kernel
theorem dX5_in_17 : decode cX5_in 17 = .ok (.iconst 0, 1) := by decide +kernel
theorem dX5_in_18 : decode cX5_in 18 = .ok (.ireturn, 1) := by decide +kernel
theorem dX5_has_0 : decode cX5_has 0 = .ok (.iload_n 0, 1) := by decide +kernel
theorem dX5_has_1 : decode cX5_has 1 = .ok (.iload_n 1, 1) := by decide +kernel
theorem dX5_has_2 : decode cX5_has 2 = .ok (.ishr, 1) := by decide +kernel
theorem dX5_has_3 : decode cX5_has 3 = .ok (.iconst 1, 1) := by decide +kernel
theorem dX5_has_4 : decode cX5_has 4 = .ok (.iand, 1) := by decide +kernel
theorem dX5_has_5 : decode cX5_has 5 = .ok (.iconst 1, 1) := by decide +kernel
theorem dX5_has_6 : decode cX5_has 6 = .ok (.if_icmp .ne 7, 3) := by decide +kernel
theorem dX5_has_9 : decode cX5_has 9 = .ok (.iconst 1, 1) := by decide +kernel
theorem dX5_has_10 : decode cX5_has 10 = .ok (.goto 4, 3) := by decide +kernel
theorem dX5_has_13 : decode cX5_has 13 = .ok (.iconst 0, 1) := by decide +kernel
theorem dX5_has_14 : decode cX5_has 14 = .ok (.ireturn, 1) := by decide +kernel
theorem dX5_ones_0 : decode cX5_ones 0 = .ok (.iconst 0, 1) := by decide +kernel
theorem dX5_ones_1 : decode cX5_ones 1 = .ok (.istore_n 1, 1) := by decide +kernel
theorem dX5_ones_2 : decode cX5_ones 2 = .ok (.iload_n 0, 1) := by decide +kernel
theorem dX5_ones_3 : decode cX5_ones 3 = .ok (.istore_n 2, 1) := by decide +kernel
theorem dX5_ones_4 : decode cX5_ones 4 = .ok (.iload_n 2, 1) := by decide +kernel
theorem dX5_ones_5 : decode cX5_ones 5 = .ok (.ifCond .eq 15, 3) := by decide +kernel
theorem dX5_ones_8 : decode cX5_ones 8 = .ok (.iinc 1 1, 3) := by decide +kernel
theorem dX5_ones_11 : decode cX5_ones 11 = .ok (.iload_n 2, 1) := by decide +kernel
theorem dX5_ones_12 : decode cX5_ones 12 = .ok (.iload_n 2, 1) := by decide +kernel
theorem dX5_ones_13 : decode cX5_ones 13 = .ok (.iconst 1, 1) := by decide +kernel
theorem dX5_ones_14 : decode cX5_ones 14 = .ok (.isub, 1) := by decide +kernel
theorem dX5_ones_15 : decode cX5_ones 15 = .ok (.iand, 1) := by decide +kernel
theorem dX5_ones_16 : decode cX5_ones 16 = .ok (.istore_n 2, 1) := by decide +kernel
theorem dX5_ones_17 : decode cX5_ones 17 = .ok (.goto (-13), 3) := by decide +kernel
theorem dX5_ones_20 : decode cX5_ones 20 = .ok (.iload_n 1, 1) := by decide +kernel
theorem dX5_ones_21 : decode cX5_ones 21 = .ok (.ireturn, 1) := by decide +kernel
theorem dX5_find_0 : decode cX5_find 0 = .ok (.aload_n 0, 1) := by decide +kernel
theorem dX5_find_1 : decode cX5_find 1 = .ok (.iload_n 1, 1) := by decide +kernel
theorem dX5_find_2 : decode cX5_find 2 = .ok (.putfield 47, 3) := by decide +kernel
theorem dX5_find_5 : decode cX5_find 5 = .ok (.ldc 51, 2) := by decide +kernel
theorem dX5_find_7 : decode cX5_find 7 = .ok (.iload_n 1, 1) := by decide +kernel
theorem dX5_find_8 : decode cX5_find 8 = .ok (.isub, 1) := by decide +kernel
theorem dX5_find_9 : decode cX5_find 9 = .ok (.ireturn, 1) := by decide +kernel
theorem dX5_well_0 : decode cX5_well 0 = .ok (.aload_n 0, 1) := by decide +kernel
theorem dX5_well_1 : decode cX5_well 1 = .ok (.iconst 0, 1) := by decide +kernel
theorem dX5_well_2 : decode cX5_well 2 = .ok (.putfield 47, 3) := by decide +kernel
theorem dX5_well_5 : decode cX5_well 5 = .ok (.iload_n 1, 1) := by decide +kernel
theorem dX5_well_6 : decode cX5_well 6 = .ok (.ireturn, 1) := by decide +kernel
theorem dX5_isRow_0 : decode cX5_isRow 0 = .ok (.iload_n 0, 1) := by decide +kernel
theorem dX5_isRow_1 : decode cX5_isRow 1 = .ok (.i2l, 1) := by decide +kernel
theorem dX5_isRow_2 : decode cX5_isRow 2 = .ok (.lconst 0, 1) := by decide +kernel
theorem dX5_isRow_3 : decode cX5_isRow 3 = .ok (.ldc2_w 52, 3) := by decide +kernel
theorem dX5_isRow_6 : decode cX5_isRow 6 = .ok (.invokestatic 54, 3) := by decide +kernel
theorem dX5_isRow_9 : decode cX5_isRow 9 = .ok (.ireturn, 1) := by decide +kernel
theorem dX5_row_0 : decode cX5_row 0 = .ok (.iload_n 1, 1) := by decide +kernel
theorem dX5_row_1 : decode cX5_row 1 = .ok (.invokestatic 58, 3) := by decide +kernel
theorem dX5_row_4 : decode cX5_row 4 = .ok (.ifCond .eq 21, 3) := by decide +kernel
theorem dX5_row_7 : decode cX5_row 7 = .ok (.iload_n 2, 1) := by decide +kernel
theorem dX5_row_8 : decode cX5_row 8 = .ok (.i2l, 1) := by decide +kernel
theorem dX5_row_9 : decode cX5_row 9 = .ok (.lconst 0, 1) := by decide +kernel
theorem dX5_row_10 : decode cX5_row 10 = .ok (.ldc2_w 62, 3) := by decide +kernel
theorem dX5_row_13 : decode cX5_row 13 = .ok (.invokestatic 54, 3) := by decide +kernel
theorem dX5_row_16 : decode cX5_row 16 = .ok (.ifCond .eq 9, 3) := by decide +kernel
theorem dX5_row_19 : decode cX5_row 19 = .ok (.iload_n 3, 1) := by decide +kernel
theorem dX5_row_20 : decode cX5_row 20 = .ok (.bipush 40, 2) := by decide +kernel
theorem dX5_row_22 : decode cX5_row 22 = .ok (.if_icmp .le 6, 3) := by decide +kernel
theorem dX5_row_25 : decode cX5_row 25 = .ok (.ldc 64, 2) := by decide +kernel
theorem dX5_row_27 : decode cX5_row 27 = .ok (.ireturn, 1) := by decide +kernel
theorem dX5_row_28 : decode cX5_row 28 = .ok (.iload_n 3, 1) := by decide +kernel
theorem dX5_row_29 : decode cX5_row 29 = .ok (.ifCond .ge 9, 3) := by decide +kernel
theorem dX5_row_32 : decode cX5_row 32 = .ok (.aload_n 0, 1) := by decide +kernel
theorem dX5_row_33 : decode cX5_row 33 = .ok (.iconst 4, 1) := by decide +kernel
theorem dX5_row_34 : decode cX5_row 34 = .ok (.invokevirtual 65, 3) := by decide +kernel
theorem dX5_row_37 : decode cX5_row 37 = .ok (.ireturn, 1) := by decide +kernel
theorem dX5_row_38 : decode cX5_row 38 = .ok (.aload_n 0, 1) := by decide +kernel
theorem dX5_row_39 : decode cX5_row 39 = .ok (.getfield 7, 3) := by decide +kernel
theorem dX5_row_42 : decode cX5_row 42 = .ok (.iload_n 1, 1) := by decide +kernel
theorem dX5_row_43 : decode cX5_row 43 = .ok (.iload_n 2, 1) := by decide +kernel
theorem dX5_row_44 : decode cX5_row 44 = .ok (.iastore, 1) := by decide +kernel
theorem dX5_row_45 : decode cX5_row 45 = .ok (.aload_n 0, 1) := by decide +kernel
theorem dX5_row_46 : decode cX5_row 46 = .ok (.getfield 13, 3) := by decide +kernel
theorem dX5_row_49 : decode cX5_row 49 = .ok (.iload_n 1, 1) := by decide +kernel
theorem dX5_row_50 : decode cX5_row 50 = .ok (.iload_n 3, 1) := by decide +kernel
theorem dX5_row_51 : decode cX5_row 51 = .ok (.iastore, 1) := by decide +kernel
theorem dX5_row_52 : decode cX5_row 52 = .ok (.iconst 0, 1) := by decide +kernel
theorem dX5_row_53 : decode cX5_row 53 = .ok (.istore 4, 2) := by decide +kernel
theorem dX5_row_55 : decode cX5_row 55 = .ok (.iload 4, 2) := by decide +kernel
theorem dX5_row_57 : decode cX5_row 57 = .ok (.bipush 40, 2) := by decide +kernel
theorem dX5_row_59 : decode cX5_row 59 = .ok (.if_icmp .ge 22, 3) := by decide +kernel
theorem dX5_row_62 : decode cX5_row 62 = .ok (.aload_n 0, 1) := by decide +kernel
theorem dX5_row_63 : decode cX5_row 63 = .ok (.getfield 16, 3) := by decide +kernel
theorem dX5_row_66 : decode cX5_row 66 = .ok (.bipush 40, 2) := by decide +kernel
theorem dX5_row_68 : decode cX5_row 68 = .ok (.iload_n 1, 1) := by decide +kernel
theorem dX5_row_69 : decode cX5_row 69 = .ok (.imul, 1) := by decide +kernel
theorem dX5_row_70 : decode cX5_row 70 = .ok (.iload 4, 2) := by decide +kernel
theorem dX5_row_72 : decode cX5_row 72 = .ok (.iadd, 1) := by decide +kernel
theorem dX5_row_73 : decode cX5_row 73 = .ok (.iconst 0, 1) := by decide +kernel
theorem dX5_row_74 : decode cX5_row 74 = .ok (.iastore, 1) := by decide +kernel
theorem dX5_row_75 : decode cX5_row 75 = .ok (.iinc 4 1, 3) := by decide +kernel
theorem dX5_row_78 : decode cX5_row 78 = .ok (.goto (-23), 3) := by decide +kernel
theorem dX5_row_81 : decode cX5_row 81 = .ok (.aload_n 0, 1) := by decide +kernel
theorem dX5_row_82 : decode cX5_row 82 = .ok (.iload_n 3, 1) := by decide +kernel
theorem dX5_row_83 : decode cX5_row 83 = .ok (.invokevirtual 69, 3) := by decide +kernel
theorem dX5_row_86 : decode cX5_row 86 = .ok (.ireturn, 1) := by decide +kernel
theorem dX5_asLane_0 : decode cX5_asLane 0 = .ok (.iload_n 0, 1) := by decide +kernel
theorem dX5_asLane_1 : decode cX5_asLane 1 = .ok (.ifCond .ne 13, 3) := by decide +kernel
theorem dX5_asLane_4 : decode cX5_asLane 4 = .ok (.iload_n 1, 1) := by decide +kernel
theorem dX5_asLane_5 : decode cX5_asLane 5 = .ok (.bipush 24, 2) := by decide +kernel
theorem dX5_asLane_7 : decode cX5_asLane 7 = .ok (.ishl, 1) := by decide +kernel
theorem dX5_asLane_8 : decode cX5_asLane 8 = .ok (.bipush 24, 2) := by decide +kernel
theorem dX5_asLane_10 : decode cX5_asLane 10 = .ok (.ishr, 1) := by decide +kernel
theorem dX5_asLane_11 : decode cX5_asLane 11 = .ok (.goto 19, 3) := by decide +kernel
theorem dX5_asLane_14 : decode cX5_asLane 14 = .ok (.iload_n 0, 1) := by decide +kernel
theorem dX5_asLane_15 : decode cX5_asLane 15 = .ok (.iconst 1, 1) := by decide +kernel
theorem dX5_asLane_16 : decode cX5_asLane 16 = .ok (.if_icmp .ne 13, 3) := by decide +kernel
theorem dX5_asLane_19 : decode cX5_asLane 19 = .ok (.iload_n 1, 1) := by decide +kernel
theorem dX5_asLane_20 : decode cX5_asLane 20 = .ok (.bipush 16, 2) := by decide +kernel
theorem dX5_asLane_22 : decode cX5_asLane 22 = .ok (.ishl, 1) := by decide +kernel
theorem dX5_asLane_23 : decode cX5_asLane 23 = .ok (.bipush 16, 2) := by decide +kernel
theorem dX5_asLane_25 : decode cX5_asLane 25 = .ok (.ishr, 1) := by decide +kernel
theorem dX5_asLane_26 : decode cX5_asLane 26 = .ok (.goto 4, 3) := by decide +kernel
theorem dX5_asLane_29 : decode cX5_asLane 29 = .ok (.iload_n 1, 1) := by decide +kernel
theorem dX5_asLane_30 : decode cX5_asLane 30 = .ok (.ireturn, 1) := by decide +kernel
theorem dX5_set_0 : decode cX5_set 0 = .ok (.iload_n 1, 1) := by decide +kernel
theorem dX5_set_1 : decode cX5_set 1 = .ok (.invokestatic 58, 3) := by decide +kernel
theorem dX5_set_4 : decode cX5_set 4 = .ok (.ifCond .ne 6, 3) := by decide +kernel
theorem dX5_set_7 : decode cX5_set 7 = .ok (.ldc 64, 2) := by decide +kernel
theorem dX5_set_9 : decode cX5_set 9 = .ok (.ireturn, 1) := by decide +kernel
theorem dX5_set_10 : decode cX5_set 10 = .ok (.aload_n 0, 1) := by decide +kernel
theorem dX5_set_11 : decode cX5_set 11 = .ok (.getfield 13, 3) := by decide +kernel
theorem dX5_set_14 : decode cX5_set 14 = .ok (.iload_n 1, 1) := by decide +kernel
theorem dX5_set_15 : decode cX5_set 15 = .ok (.iaload, 1) := by decide +kernel
theorem dX5_set_16 : decode cX5_set 16 = .ok (.ifCond .ge 9, 3) := by decide +kernel
theorem dX5_set_19 : decode cX5_set 19 = .ok (.aload_n 0, 1) := by decide +kernel
theorem dX5_set_20 : decode cX5_set 20 = .ok (.iconst 1, 1) := by decide +kernel
theorem dX5_set_21 : decode cX5_set 21 = .ok (.invokevirtual 65, 3) := by decide +kernel
theorem dX5_set_24 : decode cX5_set 24 = .ok (.ireturn, 1) := by decide +kernel
theorem dX5_set_25 : decode cX5_set 25 = .ok (.iload_n 2, 1) := by decide +kernel
theorem dX5_set_26 : decode cX5_set 26 = .ok (.i2l, 1) := by decide +kernel
theorem dX5_set_27 : decode cX5_set 27 = .ok (.lconst 0, 1) := by decide +kernel
theorem dX5_set_28 : decode cX5_set 28 = .ok (.aload_n 0, 1) := by decide +kernel
theorem dX5_set_29 : decode cX5_set 29 = .ok (.getfield 13, 3) := by decide +kernel
theorem dX5_set_32 : decode cX5_set 32 = .ok (.iload_n 1, 1) := by decide +kernel
theorem dX5_set_33 : decode cX5_set 33 = .ok (.iaload, 1) := by decide +kernel
theorem dX5_set_34 : decode cX5_set 34 = .ok (.iconst 1, 1) := by decide +kernel
theorem dX5_set_35 : decode cX5_set 35 = .ok (.isub, 1) := by decide +kernel
theorem dX5_set_36 : decode cX5_set 36 = .ok (.i2l, 1) := by decide +kernel
theorem dX5_set_37 : decode cX5_set 37 = .ok (.invokestatic 54, 3) := by decide +kernel
theorem dX5_set_40 : decode cX5_set 40 = .ok (.ifCond .ne 9, 3) := by decide +kernel
theorem dX5_set_43 : decode cX5_set 43 = .ok (.aload_n 0, 1) := by decide +kernel
theorem dX5_set_44 : decode cX5_set 44 = .ok (.iconst 2, 1) := by decide +kernel
theorem dX5_set_45 : decode cX5_set 45 = .ok (.invokevirtual 65, 3) := by decide +kernel
theorem dX5_set_48 : decode cX5_set 48 = .ok (.ireturn, 1) := by decide +kernel
theorem dX5_set_49 : decode cX5_set 49 = .ok (.aload_n 0, 1) := by decide +kernel
theorem dX5_set_50 : decode cX5_set 50 = .ok (.getfield 16, 3) := by decide +kernel
theorem dX5_set_53 : decode cX5_set 53 = .ok (.bipush 40, 2) := by decide +kernel
theorem dX5_set_55 : decode cX5_set 55 = .ok (.iload_n 1, 1) := by decide +kernel
theorem dX5_set_56 : decode cX5_set 56 = .ok (.imul, 1) := by decide +kernel
theorem dX5_set_57 : decode cX5_set 57 = .ok (.iload_n 2, 1) := by decide +kernel
theorem dX5_set_58 : decode cX5_set 58 = .ok (.iadd, 1) := by decide +kernel
theorem dX5_set_59 : decode cX5_set 59 = .ok (.aload_n 0, 1) := by decide +kernel
theorem dX5_set_60 : decode cX5_set 60 = .ok (.getfield 7, 3) := by decide +kernel
theorem dX5_set_63 : decode cX5_set 63 = .ok (.iload_n 1, 1) := by decide +kernel
theorem dX5_set_64 : decode cX5_set 64 = .ok (.iaload, 1) := by decide +kernel
theorem dX5_set_65 : decode cX5_set 65 = .ok (.iload_n 3, 1) := by decide +kernel
theorem dX5_set_66 : decode cX5_set 66 = .ok (.invokestatic 72, 3) := by decide +kernel
theorem dX5_set_69 : decode cX5_set 69 = .ok (.iastore, 1) := by decide +kernel
theorem dX5_set_70 : decode cX5_set 70 = .ok (.aload_n 0, 1) := by decide +kernel
theorem dX5_set_71 : decode cX5_set 71 = .ok (.aload_n 0, 1) := by decide +kernel
theorem dX5_set_72 : decode cX5_set 72 = .ok (.getfield 16, 3) := by decide +kernel
theorem dX5_set_75 : decode cX5_set 75 = .ok (.bipush 40, 2) := by decide +kernel
theorem dX5_set_77 : decode cX5_set 77 = .ok (.iload_n 1, 1) := by decide +kernel
theorem dX5_set_78 : decode cX5_set 78 = .ok (.imul, 1) := by decide +kernel
theorem dX5_set_79 : decode cX5_set 79 = .ok (.iload_n 2, 1) := by decide +kernel
theorem dX5_set_80 : decode cX5_set 80 = .ok (.iadd, 1) := by decide +kernel
theorem dX5_set_81 : decode cX5_set 81 = .ok (.iaload, 1) := by decide +kernel
theorem dX5_set_82 : decode cX5_set 82 = .ok (.invokevirtual 69, 3) := by decide +kernel
theorem dX5_set_85 : decode cX5_set 85 = .ok (.ireturn, 1) := by decide +kernel
theorem dX5_copy_0 : decode cX5_copy 0 = .ok (.iload_n 1, 1) := by decide +kernel
theorem dX5_copy_1 : decode cX5_copy 1 = .ok (.invokestatic 58, 3) := by decide +kernel
theorem dX5_copy_4 : decode cX5_copy 4 = .ok (.ifCond .eq 10, 3) := by decide +kernel
theorem dX5_copy_7 : decode cX5_copy 7 = .ok (.iload_n 3, 1) := by decide +kernel
theorem dX5_copy_8 : decode cX5_copy 8 = .ok (.invokestatic 58, 3) := by decide +kernel
theorem dX5_copy_11 : decode cX5_copy 11 = .ok (.ifCond .ne 6, 3) := by decide +kernel
theorem dX5_copy_14 : decode cX5_copy 14 = .ok (.ldc 64, 2) := by decide +kernel
theorem dX5_copy_16 : decode cX5_copy 16 = .ok (.ireturn, 1) := by decide +kernel
theorem dX5_copy_17 : decode cX5_copy 17 = .ok (.aload_n 0, 1) := by decide +kernel
theorem dX5_copy_18 : decode cX5_copy 18 = .ok (.getfield 13, 3) := by decide +kernel
theorem dX5_copy_21 : decode cX5_copy 21 = .ok (.iload_n 1, 1) := by decide +kernel
theorem dX5_copy_22 : decode cX5_copy 22 = .ok (.iaload, 1) := by decide +kernel
theorem dX5_copy_23 : decode cX5_copy 23 = .ok (.ifCond .lt 12, 3) := by decide +kernel
theorem dX5_copy_26 : decode cX5_copy 26 = .ok (.aload_n 0, 1) := by decide +kernel
theorem dX5_copy_27 : decode cX5_copy 27 = .ok (.getfield 13, 3) := by decide +kernel
theorem dX5_copy_30 : decode cX5_copy 30 = .ok (.iload_n 3, 1) := by decide +kernel
theorem dX5_copy_31 : decode cX5_copy 31 = .ok (.iaload, 1) := by decide +kernel
theorem dX5_copy_32 : decode cX5_copy 32 = .ok (.ifCond .ge 9, 3) := by decide +kernel
theorem dX5_copy_35 : decode cX5_copy 35 = .ok (.aload_n 0, 1) := by decide +kernel
theorem dX5_copy_36 : decode cX5_copy 36 = .ok (.iconst 1, 1) := by decide +kernel
theorem dX5_copy_37 : decode cX5_copy 37 = .ok (.invokevirtual 65, 3) := by decide +kernel
theorem dX5_copy_40 : decode cX5_copy 40 = .ok (.ireturn, 1) := by decide +kernel
theorem dX5_copy_41 : decode cX5_copy 41 = .ok (.aload_n 0, 1) := by decide +kernel
theorem dX5_copy_42 : decode cX5_copy 42 = .ok (.getfield 7, 3) := by decide +kernel
theorem dX5_copy_45 : decode cX5_copy 45 = .ok (.iload_n 1, 1) := by decide +kernel
theorem dX5_copy_46 : decode cX5_copy 46 = .ok (.iaload, 1) := by decide +kernel
theorem dX5_copy_47 : decode cX5_copy 47 = .ok (.aload_n 0, 1) := by decide +kernel
theorem dX5_copy_48 : decode cX5_copy 48 = .ok (.getfield 7, 3) := by decide +kernel
theorem dX5_copy_51 : decode cX5_copy 51 = .ok (.iload_n 3, 1) := by decide +kernel
theorem dX5_copy_52 : decode cX5_copy 52 = .ok (.iaload, 1) := by decide +kernel
theorem dX5_copy_53 : decode cX5_copy 53 = .ok (.if_icmp .eq 9, 3) := by decide +kernel
theorem dX5_copy_56 : decode cX5_copy 56 = .ok (.aload_n 0, 1) := by decide +kernel
theorem dX5_copy_57 : decode cX5_copy 57 = .ok (.iconst 5, 1) := by decide +kernel
theorem dX5_copy_58 : decode cX5_copy 58 = .ok (.invokevirtual 65, 3) := by decide +kernel
theorem dX5_copy_61 : decode cX5_copy 61 = .ok (.ireturn, 1) := by decide +kernel
theorem dX5_copy_62 : decode cX5_copy 62 = .ok (.iload 5, 2) := by decide +kernel
theorem dX5_copy_64 : decode cX5_copy 64 = .ok (.ifCond .lt 44, 3) := by decide +kernel
theorem dX5_copy_67 : decode cX5_copy 67 = .ok (.iload_n 2, 1) := by decide +kernel
theorem dX5_copy_68 : decode cX5_copy 68 = .ok (.i2l, 1) := by decide +kernel
theorem dX5_copy_69 : decode cX5_copy 69 = .ok (.lconst 0, 1) := by decide +kernel
theorem dX5_copy_70 : decode cX5_copy 70 = .ok (.aload_n 0, 1) := by decide +kernel
theorem dX5_copy_71 : decode cX5_copy 71 = .ok (.getfield 13, 3) := by decide +kernel
theorem dX5_copy_74 : decode cX5_copy 74 = .ok (.iload_n 1, 1) := by decide +kernel
theorem dX5_copy_75 : decode cX5_copy 75 = .ok (.iaload, 1) := by decide +kernel
theorem dX5_copy_76 : decode cX5_copy 76 = .ok (.i2l, 1) := by decide +kernel
theorem dX5_copy_77 : decode cX5_copy 77 = .ok (.iload 5, 2) := by decide +kernel
theorem dX5_copy_79 : decode cX5_copy 79 = .ok (.i2l, 1) := by decide +kernel
theorem dX5_copy_80 : decode cX5_copy 80 = .ok (.lsub, 1) := by decide +kernel
theorem dX5_copy_81 : decode cX5_copy 81 = .ok (.invokestatic 54, 3) := by decide +kernel
theorem dX5_copy_84 : decode cX5_copy 84 = .ok (.ifCond .eq 24, 3) := by decide +kernel
theorem dX5_copy_87 : decode cX5_copy 87 = .ok (.iload 4, 2) := by decide +kernel
theorem dX5_copy_89 : decode cX5_copy 89 = .ok (.i2l, 1) := by decide +kernel
theorem dX5_copy_90 : decode cX5_copy 90 = .ok (.lconst 0, 1) := by decide +kernel
theorem dX5_copy_91 : decode cX5_copy 91 = .ok (.aload_n 0, 1) := by decide +kernel
theorem dX5_copy_92 : decode cX5_copy 92 = .ok (.getfield 13, 3) := by decide +kernel
theorem dX5_copy_95 : decode cX5_copy 95 = .ok (.iload_n 3, 1) := by decide +kernel
theorem dX5_copy_96 : decode cX5_copy 96 = .ok (.iaload, 1) := by decide +kernel
theorem dX5_copy_97 : decode cX5_copy 97 = .ok (.i2l, 1) := by decide +kernel
theorem dX5_copy_98 : decode cX5_copy 98 = .ok (.iload 5, 2) := by decide +kernel
theorem dX5_copy_100 : decode cX5_copy 100 = .ok (.i2l, 1) := by decide +kernel
theorem dX5_copy_101 : decode cX5_copy 101 = .ok (.lsub, 1) := by decide +kernel
theorem dX5_copy_102 : decode cX5_copy 102 = .ok (.invokestatic 54, 3) := by decide +kernel
theorem dX5_copy_105 : decode cX5_copy 105 = .ok (.ifCond .ne 9, 3) := by decide +kernel
theorem dX5_copy_108 : decode cX5_copy 108 = .ok (.aload_n 0, 1) := by decide +kernel
theorem dX5_copy_109 : decode cX5_copy 109 = .ok (.iconst 2, 1) := by decide +kernel
theorem dX5_copy_110 : decode cX5_copy 110 = .ok (.invokevirtual 65, 3) := by decide +kernel
theorem dX5_copy_113 : decode cX5_copy 113 = .ok (.ireturn, 1) := by decide +kernel
theorem dX5_copy_114 : decode cX5_copy 114 = .ok (.iconst 0, 1) := by decide +kernel
theorem dX5_copy_115 : decode cX5_copy 115 = .ok (.istore 6, 2) := by decide +kernel
theorem dX5_copy_117 : decode cX5_copy 117 = .ok (.iload 6, 2) := by decide +kernel
theorem dX5_copy_119 : decode cX5_copy 119 = .ok (.iload 5, 2) := by decide +kernel
theorem dX5_copy_121 : decode cX5_copy 121 = .ok (.if_icmp .ge 30, 3) := by decide +kernel
theorem dX5_copy_124 : decode cX5_copy 124 = .ok (.aload_n 0, 1) := by decide +kernel
theorem dX5_copy_125 : decode cX5_copy 125 = .ok (.getfield 22, 3) := by decide +kernel
theorem dX5_copy_128 : decode cX5_copy 128 = .ok (.iload 6, 2) := by decide +kernel
theorem dX5_copy_130 : decode cX5_copy 130 = .ok (.aload_n 0, 1) := by decide +kernel
theorem dX5_copy_131 : decode cX5_copy 131 = .ok (.getfield 16, 3) := by decide +kernel
theorem dX5_copy_134 : decode cX5_copy 134 = .ok (.bipush 40, 2) := by decide +kernel
theorem dX5_copy_136 : decode cX5_copy 136 = .ok (.iload_n 1, 1) := by decide +kernel
theorem dX5_copy_137 : decode cX5_copy 137 = .ok (.imul, 1) := by decide +kernel
theorem dX5_copy_138 : decode cX5_copy 138 = .ok (.iload_n 2, 1) := by decide +kernel
theorem dX5_copy_139 : decode cX5_copy 139 = .ok (.iadd, 1) := by decide +kernel
theorem dX5_copy_140 : decode cX5_copy 140 = .ok (.iload 6, 2) := by decide +kernel
theorem dX5_copy_142 : decode cX5_copy 142 = .ok (.iadd, 1) := by decide +kernel
theorem dX5_copy_143 : decode cX5_copy 143 = .ok (.iaload, 1) := by decide +kernel
theorem dX5_copy_144 : decode cX5_copy 144 = .ok (.iastore, 1) := by decide +kernel
theorem dX5_copy_145 : decode cX5_copy 145 = .ok (.iinc 6 1, 3) := by decide +kernel
theorem dX5_copy_148 : decode cX5_copy 148 = .ok (.goto (-31), 3) := by decide +kernel
theorem dX5_copy_151 : decode cX5_copy 151 = .ok (.iconst 0, 1) := by decide +kernel
theorem dX5_copy_152 : decode cX5_copy 152 = .ok (.istore 6, 2) := by decide +kernel
theorem dX5_copy_154 : decode cX5_copy 154 = .ok (.iload 6, 2) := by decide +kernel
theorem dX5_copy_156 : decode cX5_copy 156 = .ok (.iload 5, 2) := by decide +kernel
theorem dX5_copy_158 : decode cX5_copy 158 = .ok (.if_icmp .ge 31, 3) := by decide +kernel
theorem dX5_copy_161 : decode cX5_copy 161 = .ok (.aload_n 0, 1) := by decide +kernel
theorem dX5_copy_162 : decode cX5_copy 162 = .ok (.getfield 16, 3) := by decide +kernel
theorem dX5_copy_165 : decode cX5_copy 165 = .ok (.bipush 40, 2) := by decide +kernel
theorem dX5_copy_167 : decode cX5_copy 167 = .ok (.iload_n 3, 1) := by decide +kernel
theorem dX5_copy_168 : decode cX5_copy 168 = .ok (.imul, 1) := by decide +kernel
theorem dX5_copy_169 : decode cX5_copy 169 = .ok (.iload 4, 2) := by decide +kernel
theorem dX5_copy_171 : decode cX5_copy 171 = .ok (.iadd, 1) := by decide +kernel
theorem dX5_copy_172 : decode cX5_copy 172 = .ok (.iload 6, 2) := by decide +kernel
theorem dX5_copy_174 : decode cX5_copy 174 = .ok (.iadd, 1) := by decide +kernel
theorem dX5_copy_175 : decode cX5_copy 175 = .ok (.aload_n 0, 1) := by decide +kernel
theorem dX5_copy_176 : decode cX5_copy 176 = .ok (.getfield 22, 3) := by decide +kernel
theorem dX5_copy_179 : decode cX5_copy 179 = .ok (.iload 6, 2) := by decide +kernel
theorem dX5_copy_181 : decode cX5_copy 181 = .ok (.iaload, 1) := by decide +kernel
theorem dX5_copy_182 : decode cX5_copy 182 = .ok (.iastore, 1) := by decide +kernel
theorem dX5_copy_183 : decode cX5_copy 183 = .ok (.iinc 6 1, 3) := by decide +kernel
theorem dX5_copy_186 : decode cX5_copy 186 = .ok (.goto (-32), 3) := by decide +kernel
theorem dX5_copy_189 : decode cX5_copy 189 = .ok (.aload_n 0, 1) := by decide +kernel
theorem dX5_copy_190 : decode cX5_copy 190 = .ok (.iload 5, 2) := by decide +kernel
theorem dX5_copy_192 : decode cX5_copy 192 = .ok (.invokevirtual 69, 3) := by decide +kernel
theorem dX5_copy_195 : decode cX5_copy 195 = .ok (.ireturn, 1) := by decide +kernel
theorem dX5_drop_0 : decode cX5_drop 0 = .ok (.iload_n 1, 1) := by decide +kernel
theorem dX5_drop_1 : decode cX5_drop 1 = .ok (.invokestatic 58, 3) := by decide +kernel
theorem dX5_drop_4 : decode cX5_drop 4 = .ok (.ifCond .ne 6, 3) := by decide +kernel
theorem dX5_drop_7 : decode cX5_drop 7 = .ok (.ldc 64, 2) := by decide +kernel
theorem dX5_drop_9 : decode cX5_drop 9 = .ok (.ireturn, 1) := by decide +kernel
theorem dX5_drop_10 : decode cX5_drop 10 = .ok (.aload_n 0, 1) := by decide +kernel
theorem dX5_drop_11 : decode cX5_drop 11 = .ok (.getfield 13, 3) := by decide +kernel
theorem dX5_drop_14 : decode cX5_drop 14 = .ok (.iload_n 1, 1) := by decide +kernel
theorem dX5_drop_15 : decode cX5_drop 15 = .ok (.iaload, 1) := by decide +kernel
theorem dX5_drop_16 : decode cX5_drop 16 = .ok (.ifCond .ge 9, 3) := by decide +kernel
theorem dX5_drop_19 : decode cX5_drop 19 = .ok (.aload_n 0, 1) := by decide +kernel
theorem dX5_drop_20 : decode cX5_drop 20 = .ok (.iconst 1, 1) := by decide +kernel
theorem dX5_drop_21 : decode cX5_drop 21 = .ok (.invokevirtual 65, 3) := by decide +kernel
theorem dX5_drop_24 : decode cX5_drop 24 = .ok (.ireturn, 1) := by decide +kernel
theorem dX5_drop_25 : decode cX5_drop 25 = .ok (.aload_n 0, 1) := by decide +kernel
theorem dX5_drop_26 : decode cX5_drop 26 = .ok (.getfield 13, 3) := by decide +kernel
theorem dX5_drop_29 : decode cX5_drop 29 = .ok (.iload_n 1, 1) := by decide +kernel
theorem dX5_drop_30 : decode cX5_drop 30 = .ok (.iaload, 1) := by decide +kernel
theorem dX5_drop_31 : decode cX5_drop 31 = .ok (.istore_n 2, 1) := by decide +kernel
theorem dX5_drop_32 : decode cX5_drop 32 = .ok (.aload_n 0, 1) := by decide +kernel
theorem dX5_drop_33 : decode cX5_drop 33 = .ok (.getfield 13, 3) := by decide +kernel
theorem dX5_drop_36 : decode cX5_drop 36 = .ok (.iload_n 1, 1) := by decide +kernel
theorem dX5_drop_37 : decode cX5_drop 37 = .ok (.iconst (-1), 1) := by decide +kernel
theorem dX5_drop_38 : decode cX5_drop 38 = .ok (.iastore, 1) := by decide +kernel
theorem dX5_drop_39 : decode cX5_drop 39 = .ok (.aload_n 0, 1) := by decide +kernel
theorem dX5_drop_40 : decode cX5_drop 40 = .ok (.iload_n 2, 1) := by decide +kernel
theorem dX5_drop_41 : decode cX5_drop 41 = .ok (.invokevirtual 69, 3) := by decide +kernel
theorem dX5_drop_44 : decode cX5_drop 44 = .ok (.ireturn, 1) := by decide +kernel
theorem dX5_feed_0 : decode cX5_feed 0 = .ok (.iload_n 1, 1) := by decide +kernel
theorem dX5_feed_1 : decode cX5_feed 1 = .ok (.i2l, 1) := by decide +kernel
theorem dX5_feed_2 : decode cX5_feed 2 = .ok (.lconst 0, 1) := by decide +kernel
theorem dX5_feed_3 : decode cX5_feed 3 = .ok (.ldc2_w 76, 3) := by decide +kernel
theorem dX5_feed_6 : decode cX5_feed 6 = .ok (.invokestatic 54, 3) := by decide +kernel
theorem dX5_feed_9 : decode cX5_feed 9 = .ok (.ifCond .ne 6, 3) := by decide +kernel
theorem dX5_feed_12 : decode cX5_feed 12 = .ok (.ldc 64, 2) := by decide +kernel
theorem dX5_feed_14 : decode cX5_feed 14 = .ok (.ireturn, 1) := by decide +kernel
theorem dX5_feed_15 : decode cX5_feed 15 = .ok (.aload_n 0, 1) := by decide +kernel
theorem dX5_feed_16 : decode cX5_feed 16 = .ok (.getfield 78, 3) := by decide +kernel
theorem dX5_feed_19 : decode cX5_feed 19 = .ok (.bipush 120, 2) := by decide +kernel
theorem dX5_feed_21 : decode cX5_feed 21 = .ok (.if_icmp .ne 6, 3) := by decide +kernel
theorem dX5_feed_24 : decode cX5_feed 24 = .ok (.ldc 81, 2) := by decide +kernel
theorem dX5_feed_26 : decode cX5_feed 26 = .ok (.ireturn, 1) := by decide +kernel
theorem dX5_feed_27 : decode cX5_feed 27 = .ok (.aload_n 0, 1) := by decide +kernel
theorem dX5_feed_28 : decode cX5_feed 28 = .ok (.getfield 25, 3) := by decide +kernel
theorem dX5_feed_31 : decode cX5_feed 31 = .ok (.aload_n 0, 1) := by decide +kernel
theorem dX5_feed_32 : decode cX5_feed 32 = .ok (.getfield 78, 3) := by decide +kernel
theorem dX5_feed_35 : decode cX5_feed 35 = .ok (.iload_n 1, 1) := by decide +kernel
theorem dX5_feed_36 : decode cX5_feed 36 = .ok (.iastore, 1) := by decide +kernel
theorem dX5_feed_37 : decode cX5_feed 37 = .ok (.aload_n 0, 1) := by decide +kernel
theorem dX5_feed_38 : decode cX5_feed 38 = .ok (.dup, 1) := by decide +kernel
theorem dX5_feed_39 : decode cX5_feed 39 = .ok (.getfield 78, 3) := by decide +kernel
theorem dX5_feed_42 : decode cX5_feed 42 = .ok (.iconst 1, 1) := by decide +kernel
theorem dX5_feed_43 : decode cX5_feed 43 = .ok (.iadd, 1) := by decide +kernel
theorem dX5_feed_44 : decode cX5_feed 44 = .ok (.putfield 78, 3) := by decide +kernel
theorem dX5_feed_47 : decode cX5_feed 47 = .ok (.aload_n 0, 1) := by decide +kernel
theorem dX5_feed_48 : decode cX5_feed 48 = .ok (.getfield 78, 3) := by decide +kernel
theorem dX5_feed_51 : decode cX5_feed 51 = .ok (.ireturn, 1) := by decide +kernel
theorem dX5_nextToken_0 : decode cX5_nextToken 0 = .ok (.aload_n 0, 1) := by decide +kernel
theorem dX5_nextToken_1 : decode cX5_nextToken 1 = .ok (.aload_n 0, 1) := by decide +kernel
theorem dX5_nextToken_2 : decode cX5_nextToken 2 = .ok (.getfield 82, 3) := by decide +kernel
theorem dX5_nextToken_5 : decode cX5_nextToken 5 = .ok (.putfield 85, 3) := by decide +kernel
theorem dX5_nextToken_8 : decode cX5_nextToken 8 = .ok (.aload_n 0, 1) := by decide +kernel
theorem dX5_nextToken_9 : decode cX5_nextToken 9 = .ok (.aload_n 0, 1) := by decide +kernel
theorem dX5_nextToken_10 : decode cX5_nextToken 10 = .ok (.getfield 82, 3) := by decide +kernel
theorem dX5_nextToken_13 : decode cX5_nextToken 13 = .ok (.aload_n 0, 1) := by decide +kernel
theorem dX5_nextToken_14 : decode cX5_nextToken 14 = .ok (.getfield 78, 3) := by decide +kernel
theorem dX5_nextToken_17 : decode cX5_nextToken 17 = .ok (.if_icmp .ne 7, 3) := by decide +kernel
theorem dX5_nextToken_20 : decode cX5_nextToken 20 = .ok (.iconst 3, 1) := by decide +kernel
theorem dX5_nextToken_21 : decode cX5_nextToken 21 = .ok (.goto 4, 3) := by decide +kernel
theorem dX5_nextToken_24 : decode cX5_nextToken 24 = .ok (.iconst 0, 1) := by decide +kernel
theorem dX5_nextToken_25 : decode cX5_nextToken 25 = .ok (.putfield 88, 3) := by decide +kernel
theorem dX5_nextToken_28 : decode cX5_nextToken 28 = .ok (.aload_n 0, 1) := by decide +kernel
theorem dX5_nextToken_29 : decode cX5_nextToken 29 = .ok (.iconst 0, 1) := by decide +kernel
theorem dX5_nextToken_30 : decode cX5_nextToken 30 = .ok (.putfield 91, 3) := by decide +kernel
theorem dX5_nextToken_33 : decode cX5_nextToken 33 = .ok (.aload_n 0, 1) := by decide +kernel
theorem dX5_nextToken_34 : decode cX5_nextToken 34 = .ok (.getfield 82, 3) := by decide +kernel
theorem dX5_nextToken_37 : decode cX5_nextToken 37 = .ok (.aload_n 0, 1) := by decide +kernel
theorem dX5_nextToken_38 : decode cX5_nextToken 38 = .ok (.getfield 78, 3) := by decide +kernel
theorem dX5_nextToken_41 : decode cX5_nextToken 41 = .ok (.if_icmp .ge 78, 3) := by decide +kernel
theorem dX5_nextToken_44 : decode cX5_nextToken 44 = .ok (.aload_n 0, 1) := by decide +kernel
theorem dX5_nextToken_45 : decode cX5_nextToken 45 = .ok (.getfield 25, 3) := by decide +kernel
theorem dX5_nextToken_48 : decode cX5_nextToken 48 = .ok (.aload_n 0, 1) := by decide +kernel
theorem dX5_nextToken_49 : decode cX5_nextToken 49 = .ok (.getfield 82, 3) := by decide +kernel
theorem dX5_nextToken_52 : decode cX5_nextToken 52 = .ok (.iaload, 1) := by decide +kernel
theorem dX5_nextToken_53 : decode cX5_nextToken 53 = .ok (.i2l, 1) := by decide +kernel
theorem dX5_nextToken_54 : decode cX5_nextToken 54 = .ok (.ldc2_w 94, 3) := by decide +kernel
theorem dX5_nextToken_57 : decode cX5_nextToken 57 = .ok (.ldc2_w 96, 3) := by decide +kernel
theorem dX5_nextToken_60 : decode cX5_nextToken 60 = .ok (.invokestatic 54, 3) := by decide +kernel
theorem dX5_nextToken_63 : decode cX5_nextToken 63 = .ok (.ifCond .eq 56, 3) := by decide +kernel
theorem dX5_nextToken_66 : decode cX5_nextToken 66 = .ok (.aload_n 0, 1) := by decide +kernel
theorem dX5_nextToken_67 : decode cX5_nextToken 67 = .ok (.aload_n 0, 1) := by decide +kernel
theorem dX5_nextToken_68 : decode cX5_nextToken 68 = .ok (.getfield 91, 3) := by decide +kernel
theorem dX5_nextToken_71 : decode cX5_nextToken 71 = .ok (.bipush 99, 2) := by decide +kernel
theorem dX5_nextToken_73 : decode cX5_nextToken 73 = .ok (.if_icmp .le 10, 3) := by decide +kernel
theorem dX5_nextToken_76 : decode cX5_nextToken 76 = .ok (.aload_n 0, 1) := by decide +kernel
theorem dX5_nextToken_77 : decode cX5_nextToken 77 = .ok (.getfield 91, 3) := by decide +kernel
theorem dX5_nextToken_80 : decode cX5_nextToken 80 = .ok (.goto 23, 3) := by decide +kernel
theorem dX5_nextToken_83 : decode cX5_nextToken 83 = .ok (.bipush 10, 2) := by decide +kernel
theorem dX5_nextToken_85 : decode cX5_nextToken 85 = .ok (.aload_n 0, 1) := by decide +kernel
theorem dX5_nextToken_86 : decode cX5_nextToken 86 = .ok (.getfield 91, 3) := by decide +kernel
theorem dX5_nextToken_89 : decode cX5_nextToken 89 = .ok (.imul, 1) := by decide +kernel
theorem dX5_nextToken_90 : decode cX5_nextToken 90 = .ok (.aload_n 0, 1) := by decide +kernel
theorem dX5_nextToken_91 : decode cX5_nextToken 91 = .ok (.getfield 25, 3) := by decide +kernel
theorem dX5_nextToken_94 : decode cX5_nextToken 94 = .ok (.aload_n 0, 1) := by decide +kernel
theorem dX5_nextToken_95 : decode cX5_nextToken 95 = .ok (.getfield 82, 3) := by decide +kernel
theorem dX5_nextToken_98 : decode cX5_nextToken 98 = .ok (.iaload, 1) := by decide +kernel
theorem dX5_nextToken_99 : decode cX5_nextToken 99 = .ok (.iadd, 1) := by decide +kernel
theorem dX5_nextToken_100 : decode cX5_nextToken 100 = .ok (.bipush 48, 2) := by decide +kernel
theorem dX5_nextToken_102 : decode cX5_nextToken 102 = .ok (.isub, 1) := by decide +kernel
theorem dX5_nextToken_103 : decode cX5_nextToken 103 = .ok (.putfield 91, 3) := by decide +kernel
theorem dX5_nextToken_106 : decode cX5_nextToken 106 = .ok (.aload_n 0, 1) := by decide +kernel
theorem dX5_nextToken_107 : decode cX5_nextToken 107 = .ok (.dup, 1) := by decide +kernel
theorem dX5_nextToken_108 : decode cX5_nextToken 108 = .ok (.getfield 82, 3) := by decide +kernel
theorem dX5_nextToken_111 : decode cX5_nextToken 111 = .ok (.iconst 1, 1) := by decide +kernel
theorem dX5_nextToken_112 : decode cX5_nextToken 112 = .ok (.iadd, 1) := by decide +kernel
theorem dX5_nextToken_113 : decode cX5_nextToken 113 = .ok (.putfield 82, 3) := by decide +kernel
theorem dX5_nextToken_116 : decode cX5_nextToken 116 = .ok (.goto (-83), 3) := by decide +kernel
theorem dX5_nextToken_119 : decode cX5_nextToken 119 = .ok (.aload_n 0, 1) := by decide +kernel
theorem dX5_nextToken_120 : decode cX5_nextToken 120 = .ok (.getfield 82, 3) := by decide +kernel
theorem dX5_nextToken_123 : decode cX5_nextToken 123 = .ok (.aload_n 0, 1) := by decide +kernel
theorem dX5_nextToken_124 : decode cX5_nextToken 124 = .ok (.getfield 85, 3) := by decide +kernel
theorem dX5_nextToken_127 : decode cX5_nextToken 127 = .ok (.if_icmp .le 28, 3) := by decide +kernel
theorem dX5_nextToken_130 : decode cX5_nextToken 130 = .ok (.aload_n 0, 1) := by decide +kernel
theorem dX5_nextToken_131 : decode cX5_nextToken 131 = .ok (.aload_n 0, 1) := by decide +kernel
theorem dX5_nextToken_132 : decode cX5_nextToken 132 = .ok (.getfield 82, 3) := by decide +kernel
theorem dX5_nextToken_135 : decode cX5_nextToken 135 = .ok (.aload_n 0, 1) := by decide +kernel
theorem dX5_nextToken_136 : decode cX5_nextToken 136 = .ok (.getfield 85, 3) := by decide +kernel
theorem dX5_nextToken_139 : decode cX5_nextToken 139 = .ok (.isub, 1) := by decide +kernel
theorem dX5_nextToken_140 : decode cX5_nextToken 140 = .ok (.iconst 2, 1) := by decide +kernel
theorem dX5_nextToken_141 : decode cX5_nextToken 141 = .ok (.if_icmp .le 7, 3) := by decide +kernel
theorem dX5_nextToken_144 : decode cX5_nextToken 144 = .ok (.iconst 0, 1) := by decide +kernel
theorem dX5_nextToken_145 : decode cX5_nextToken 145 = .ok (.goto 4, 3) := by decide +kernel
theorem dX5_nextToken_148 : decode cX5_nextToken 148 = .ok (.iconst 2, 1) := by decide +kernel
theorem dX5_nextToken_149 : decode cX5_nextToken 149 = .ok (.putfield 88, 3) := by decide +kernel
theorem dX5_nextToken_152 : decode cX5_nextToken 152 = .ok (.goto 77, 3) := by decide +kernel
theorem dX5_nextToken_155 : decode cX5_nextToken 155 = .ok (.aload_n 0, 1) := by decide +kernel
theorem dX5_nextToken_156 : decode cX5_nextToken 156 = .ok (.getfield 88, 3) := by decide +kernel
theorem dX5_nextToken_159 : decode cX5_nextToken 159 = .ok (.ifCond .ne 70, 3) := by decide +kernel
theorem dX5_nextToken_162 : decode cX5_nextToken 162 = .ok (.aload_n 0, 1) := by decide +kernel
theorem dX5_nextToken_163 : decode cX5_nextToken 163 = .ok (.aload_n 0, 1) := by decide +kernel
theorem dX5_nextToken_164 : decode cX5_nextToken 164 = .ok (.getfield 25, 3) := by decide +kernel
theorem dX5_nextToken_167 : decode cX5_nextToken 167 = .ok (.aload_n 0, 1) := by decide +kernel
theorem dX5_nextToken_168 : decode cX5_nextToken 168 = .ok (.getfield 82, 3) := by decide +kernel
theorem dX5_nextToken_171 : decode cX5_nextToken 171 = .ok (.iaload, 1) := by decide +kernel
theorem dX5_nextToken_172 : decode cX5_nextToken 172 = .ok (.putfield 91, 3) := by decide +kernel
theorem dX5_nextToken_175 : decode cX5_nextToken 175 = .ok (.aload_n 0, 1) := by decide +kernel
theorem dX5_nextToken_176 : decode cX5_nextToken 176 = .ok (.aload_n 0, 1) := by decide +kernel
theorem dX5_nextToken_177 : decode cX5_nextToken 177 = .ok (.getfield 91, 3) := by decide +kernel
theorem dX5_nextToken_180 : decode cX5_nextToken 180 = .ok (.i2l, 1) := by decide +kernel
theorem dX5_nextToken_181 : decode cX5_nextToken 181 = .ok (.ldc2_w 98, 3) := by decide +kernel
theorem dX5_nextToken_184 : decode cX5_nextToken 184 = .ok (.ldc2_w 100, 3) := by decide +kernel
theorem dX5_nextToken_187 : decode cX5_nextToken 187 = .ok (.invokestatic 54, 3) := by decide +kernel
theorem dX5_nextToken_190 : decode cX5_nextToken 190 = .ok (.ifCond .ne 21, 3) := by decide +kernel
theorem dX5_nextToken_193 : decode cX5_nextToken 193 = .ok (.aload_n 0, 1) := by decide +kernel
theorem dX5_nextToken_194 : decode cX5_nextToken 194 = .ok (.getfield 91, 3) := by decide +kernel
theorem dX5_nextToken_197 : decode cX5_nextToken 197 = .ok (.bipush 44, 2) := by decide +kernel
theorem dX5_nextToken_199 : decode cX5_nextToken 199 = .ok (.if_icmp .eq 12, 3) := by decide +kernel
theorem dX5_nextToken_202 : decode cX5_nextToken 202 = .ok (.aload_n 0, 1) := by decide +kernel
theorem dX5_nextToken_203 : decode cX5_nextToken 203 = .ok (.getfield 91, 3) := by decide +kernel
theorem dX5_nextToken_206 : decode cX5_nextToken 206 = .ok (.bipush 59, 2) := by decide +kernel
theorem dX5_nextToken_208 : decode cX5_nextToken 208 = .ok (.if_icmp .ne 7, 3) := by decide +kernel
theorem dX5_nextToken_211 : decode cX5_nextToken 211 = .ok (.iconst 1, 1) := by decide +kernel
theorem dX5_nextToken_212 : decode cX5_nextToken 212 = .ok (.goto 4, 3) := by decide +kernel
theorem dX5_nextToken_215 : decode cX5_nextToken 215 = .ok (.iconst 0, 1) := by decide +kernel
theorem dX5_nextToken_216 : decode cX5_nextToken 216 = .ok (.putfield 88, 3) := by decide +kernel
theorem dX5_nextToken_219 : decode cX5_nextToken 219 = .ok (.aload_n 0, 1) := by decide +kernel
theorem dX5_nextToken_220 : decode cX5_nextToken 220 = .ok (.dup, 1) := by decide +kernel
theorem dX5_nextToken_221 : decode cX5_nextToken 221 = .ok (.getfield 82, 3) := by decide +kernel
theorem dX5_nextToken_224 : decode cX5_nextToken 224 = .ok (.iconst 1, 1) := by decide +kernel
theorem dX5_nextToken_225 : decode cX5_nextToken 225 = .ok (.iadd, 1) := by decide +kernel
theorem dX5_nextToken_226 : decode cX5_nextToken 226 = .ok (.putfield 82, 3) := by decide +kernel
theorem dX5_nextToken_229 : decode cX5_nextToken 229 = .ok (.return_, 1) := by decide +kernel
theorem dX5_faults_0 : decode cX5_faults 0 = .ok (.aload_n 0, 1) := by decide +kernel
theorem dX5_faults_1 : decode cX5_faults 1 = .ok (.iload_n 1, 1) := by decide +kernel
theorem dX5_faults_2 : decode cX5_faults 2 = .ok (.putfield 102, 3) := by decide +kernel
theorem dX5_faults_5 : decode cX5_faults 5 = .ok (.iconst 0, 1) := by decide +kernel
theorem dX5_faults_6 : decode cX5_faults 6 = .ok (.ireturn, 1) := by decide +kernel
theorem dX5_isLetter_0 : decode cX5_isLetter 0 = .ok (.aload_n 0, 1) := by decide +kernel
theorem dX5_isLetter_1 : decode cX5_isLetter 1 = .ok (.getfield 88, 3) := by decide +kernel
theorem dX5_isLetter_4 : decode cX5_isLetter 4 = .ok (.iconst 1, 1) := by decide +kernel
theorem dX5_isLetter_5 : decode cX5_isLetter 5 = .ok (.if_icmp .ne 15, 3) := by decide +kernel
theorem dX5_isLetter_8 : decode cX5_isLetter 8 = .ok (.aload_n 0, 1) := by decide +kernel
theorem dX5_isLetter_9 : decode cX5_isLetter 9 = .ok (.getfield 91, 3) := by decide +kernel
theorem dX5_isLetter_12 : decode cX5_isLetter 12 = .ok (.iload_n 1, 1) := by decide +kernel
theorem dX5_isLetter_13 : decode cX5_isLetter 13 = .ok (.if_icmp .ne 7, 3) := by decide +kernel
theorem dX5_isLetter_16 : decode cX5_isLetter 16 = .ok (.iconst 1, 1) := by decide +kernel
theorem dX5_isLetter_17 : decode cX5_isLetter 17 = .ok (.goto 4, 3) := by decide +kernel
theorem dX5_isLetter_20 : decode cX5_isLetter 20 = .ok (.iconst 0, 1) := by decide +kernel
theorem dX5_isLetter_21 : decode cX5_isLetter 21 = .ok (.ireturn, 1) := by decide +kernel
theorem dX5_takes_0 : decode cX5_takes 0 = .ok (.aload_n 0, 1) := by decide +kernel
theorem dX5_takes_1 : decode cX5_takes 1 = .ok (.iload_n 1, 1) := by decide +kernel
theorem dX5_takes_2 : decode cX5_takes 2 = .ok (.invokevirtual 105, 3) := by decide +kernel
theorem dX5_takes_5 : decode cX5_takes 5 = .ok (.ifCond .ne 9, 3) := by decide +kernel
theorem dX5_takes_8 : decode cX5_takes 8 = .ok (.aload_n 0, 1) := by decide +kernel
theorem dX5_takes_9 : decode cX5_takes 9 = .ok (.iconst 1, 1) := by decide +kernel
theorem dX5_takes_10 : decode cX5_takes 10 = .ok (.invokevirtual 108, 3) := by decide +kernel
theorem dX5_takes_13 : decode cX5_takes 13 = .ok (.ireturn, 1) := by decide +kernel
theorem dX5_takes_14 : decode cX5_takes 14 = .ok (.aload_n 0, 1) := by decide +kernel
theorem dX5_takes_15 : decode cX5_takes 15 = .ok (.invokevirtual 111, 3) := by decide +kernel
theorem dX5_takes_18 : decode cX5_takes 18 = .ok (.iconst 1, 1) := by decide +kernel
theorem dX5_takes_19 : decode cX5_takes 19 = .ok (.ireturn, 1) := by decide +kernel
theorem dX5_takesNumber_0 : decode cX5_takesNumber 0 = .ok (.aload_n 0, 1) := by decide +kernel
theorem dX5_takesNumber_1 : decode cX5_takesNumber 1 = .ok (.getfield 88, 3) := by decide +kernel
theorem dX5_takesNumber_4 : decode cX5_takesNumber 4 = .ok (.iconst 2, 1) := by decide +kernel
theorem dX5_takesNumber_5 : decode cX5_takesNumber 5 = .ok (.if_icmp .ne 18, 3) := by decide +kernel
theorem dX5_takesNumber_8 : decode cX5_takesNumber 8 = .ok (.aload_n 0, 1) := by decide +kernel
theorem dX5_takesNumber_9 : decode cX5_takesNumber 9 = .ok (.getfield 91, 3) := by decide +kernel
theorem dX5_takesNumber_12 : decode cX5_takesNumber 12 = .ok (.i2l, 1) := by decide +kernel
theorem dX5_takesNumber_13 : decode cX5_takesNumber 13 = .ok (.iload_n 1, 1) := by decide +kernel
theorem dX5_takesNumber_14 : decode cX5_takesNumber 14 = .ok (.i2l, 1) := by decide +kernel
theorem dX5_takesNumber_15 : decode cX5_takesNumber 15 = .ok (.iload_n 2, 1) := by decide +kernel
theorem dX5_takesNumber_16 : decode cX5_takesNumber 16 = .ok (.i2l, 1) := by decide +kernel
theorem dX5_takesNumber_17 : decode cX5_takesNumber 17 = .ok (.invokestatic 54, 3) := by decide +kernel
theorem dX5_takesNumber_20 : decode cX5_takesNumber 20 = .ok (.ifCond .ne 21, 3) := by decide +kernel
theorem dX5_takesNumber_23 : decode cX5_takesNumber 23 = .ok (.aload_n 0, 1) := by decide +kernel
theorem dX5_takesNumber_24 : decode cX5_takesNumber 24 = .ok (.aload_n 0, 1) := by decide +kernel
theorem dX5_takesNumber_25 : decode cX5_takesNumber 25 = .ok (.getfield 88, 3) := by decide +kernel
theorem dX5_takesNumber_28 : decode cX5_takesNumber 28 = .ok (.iconst 2, 1) := by decide +kernel
theorem dX5_takesNumber_29 : decode cX5_takesNumber 29 = .ok (.if_icmp .ne 7, 3) := by decide +kernel
theorem dX5_takesNumber_32 : decode cX5_takesNumber 32 = .ok (.iconst 2, 1) := by decide +kernel
theorem dX5_takesNumber_33 : decode cX5_takesNumber 33 = .ok (.goto 4, 3) := by decide +kernel
theorem dX5_takesNumber_36 : decode cX5_takesNumber 36 = .ok (.iconst 1, 1) := by decide +kernel
theorem dX5_takesNumber_37 : decode cX5_takesNumber 37 = .ok (.invokevirtual 108, 3) := by decide +kernel
theorem dX5_takesNumber_40 : decode cX5_takesNumber 40 = .ok (.ireturn, 1) := by decide +kernel
theorem dX5_takesNumber_41 : decode cX5_takesNumber 41 = .ok (.aload_n 0, 1) := by decide +kernel
theorem dX5_takesNumber_42 : decode cX5_takesNumber 42 = .ok (.getfield 28, 3) := by decide +kernel
theorem dX5_takesNumber_45 : decode cX5_takesNumber 45 = .ok (.iload_n 3, 1) := by decide +kernel
theorem dX5_takesNumber_46 : decode cX5_takesNumber 46 = .ok (.aload_n 0, 1) := by decide +kernel
theorem dX5_takesNumber_47 : decode cX5_takesNumber 47 = .ok (.getfield 91, 3) := by decide +kernel
theorem dX5_takesNumber_50 : decode cX5_takesNumber 50 = .ok (.iastore, 1) := by decide +kernel
theorem dX5_takesNumber_51 : decode cX5_takesNumber 51 = .ok (.aload_n 0, 1) := by decide +kernel
theorem dX5_takesNumber_52 : decode cX5_takesNumber 52 = .ok (.invokevirtual 111, 3) := by decide +kernel
theorem dX5_takesNumber_55 : decode cX5_takesNumber 55 = .ok (.aload_n 0, 1) := by decide +kernel
theorem dX5_takesNumber_56 : decode cX5_takesNumber 56 = .ok (.iload 4, 2) := by decide +kernel
theorem dX5_takesNumber_58 : decode cX5_takesNumber 58 = .ok (.invokevirtual 114, 3) := by decide +kernel
theorem dX5_takesNumber_61 : decode cX5_takesNumber 61 = .ok (.ireturn, 1) := by decide +kernel
theorem dX5_readMan_0 : decode cX5_readMan 0 = .ok (.aload_n 0, 1) := by decide +kernel
theorem dX5_readMan_1 : decode cX5_readMan 1 = .ok (.getfield 28, 3) := by decide +kernel
theorem dX5_readMan_4 : decode cX5_readMan 4 = .ok (.iconst 2, 1) := by decide +kernel
theorem dX5_readMan_5 : decode cX5_readMan 5 = .ok (.iaload, 1) := by decide +kernel
theorem dX5_readMan_6 : decode cX5_readMan 6 = .ok (.istore_n 1, 1) := by decide +kernel
theorem dX5_readMan_7 : decode cX5_readMan 7 = .ok (.iload_n 1, 1) := by decide +kernel
theorem dX5_readMan_8 : decode cX5_readMan 8 = .ok (.iconst 5, 1) := by decide +kernel
theorem dX5_readMan_9 : decode cX5_readMan 9 = .ok (.if_icmp .eq 12, 3) := by decide +kernel
theorem dX5_readMan_12 : decode cX5_readMan 12 = .ok (.aload_n 0, 1) := by decide +kernel
theorem dX5_readMan_13 : decode cX5_readMan 13 = .ok (.getfield 28, 3) := by decide +kernel
theorem dX5_readMan_16 : decode cX5_readMan 16 = .ok (.iconst 3, 1) := by decide +kernel
theorem dX5_readMan_17 : decode cX5_readMan 17 = .ok (.iaload, 1) := by decide +kernel
theorem dX5_readMan_18 : decode cX5_readMan 18 = .ok (.ifCond .le 22, 3) := by decide +kernel
theorem dX5_readMan_21 : decode cX5_readMan 21 = .ok (.aload_n 0, 1) := by decide +kernel
theorem dX5_readMan_22 : decode cX5_readMan 22 = .ok (.aload_n 0, 1) := by decide +kernel
theorem dX5_readMan_23 : decode cX5_readMan 23 = .ok (.getfield 28, 3) := by decide +kernel
theorem dX5_readMan_26 : decode cX5_readMan 26 = .ok (.iconst 3, 1) := by decide +kernel
theorem dX5_readMan_27 : decode cX5_readMan 27 = .ok (.iaload, 1) := by decide +kernel
theorem dX5_readMan_28 : decode cX5_readMan 28 = .ok (.ifCond .le 7, 3) := by decide +kernel
theorem dX5_readMan_31 : decode cX5_readMan 31 = .ok (.iconst 1, 1) := by decide +kernel
theorem dX5_readMan_32 : decode cX5_readMan 32 = .ok (.goto 4, 3) := by decide +kernel
theorem dX5_readMan_35 : decode cX5_readMan 35 = .ok (.iconst 3, 1) := by decide +kernel
theorem dX5_readMan_36 : decode cX5_readMan 36 = .ok (.invokevirtual 108, 3) := by decide +kernel
theorem dX5_readMan_39 : decode cX5_readMan 39 = .ok (.ireturn, 1) := by decide +kernel
theorem dX5_readMan_40 : decode cX5_readMan 40 = .ok (.aload_n 0, 1) := by decide +kernel
theorem dX5_readMan_41 : decode cX5_readMan 41 = .ok (.invokevirtual 111, 3) := by decide +kernel
theorem dX5_readMan_44 : decode cX5_readMan 44 = .ok (.aload_n 0, 1) := by decide +kernel
theorem dX5_readMan_45 : decode cX5_readMan 45 = .ok (.getfield 28, 3) := by decide +kernel
theorem dX5_readMan_48 : decode cX5_readMan 48 = .ok (.iconst 2, 1) := by decide +kernel
theorem dX5_readMan_49 : decode cX5_readMan 49 = .ok (.dup2, 1) := by decide +kernel
theorem dX5_readMan_50 : decode cX5_readMan 50 = .ok (.iaload, 1) := by decide +kernel
theorem dX5_readMan_51 : decode cX5_readMan 51 = .ok (.iconst 1, 1) := by decide +kernel
theorem dX5_readMan_52 : decode cX5_readMan 52 = .ok (.iadd, 1) := by decide +kernel
theorem dX5_readMan_53 : decode cX5_readMan 53 = .ok (.iastore, 1) := by decide +kernel
theorem dX5_readMan_54 : decode cX5_readMan 54 = .ok (.aload_n 0, 1) := by decide +kernel
theorem dX5_readMan_55 : decode cX5_readMan 55 = .ok (.iconst 0, 1) := by decide +kernel
theorem dX5_readMan_56 : decode cX5_readMan 56 = .ok (.bipush 60, 2) := by decide +kernel
theorem dX5_readMan_58 : decode cX5_readMan 58 = .ok (.bipush 6, 2) := by decide +kernel
theorem dX5_readMan_60 : decode cX5_readMan 60 = .ok (.iload_n 1, 1) := by decide +kernel
theorem dX5_readMan_61 : decode cX5_readMan 61 = .ok (.iadd, 1) := by decide +kernel
theorem dX5_readMan_62 : decode cX5_readMan 62 = .ok (.bipush 44, 2) := by decide +kernel
theorem dX5_readMan_64 : decode cX5_readMan 64 = .ok (.invokevirtual 117, 3) := by decide +kernel
theorem dX5_readMan_67 : decode cX5_readMan 67 = .ok (.ifCond .eq 23, 3) := by decide +kernel
theorem dX5_readMan_70 : decode cX5_readMan 70 = .ok (.aload_n 0, 1) := by decide +kernel
theorem dX5_readMan_71 : decode cX5_readMan 71 = .ok (.iconst 0, 1) := by decide +kernel
theorem dX5_readMan_72 : decode cX5_readMan 72 = .ok (.bipush 9, 2) := by decide +kernel
theorem dX5_readMan_74 : decode cX5_readMan 74 = .ok (.bipush 11, 2) := by decide +kernel
theorem dX5_readMan_76 : decode cX5_readMan 76 = .ok (.iload_n 1, 1) := by decide +kernel
theorem dX5_readMan_77 : decode cX5_readMan 77 = .ok (.iadd, 1) := by decide +kernel
theorem dX5_readMan_78 : decode cX5_readMan 78 = .ok (.bipush 59, 2) := by decide +kernel
theorem dX5_readMan_80 : decode cX5_readMan 80 = .ok (.invokevirtual 117, 3) := by decide +kernel
theorem dX5_readMan_83 : decode cX5_readMan 83 = .ok (.ifCond .eq 7, 3) := by decide +kernel
theorem dX5_readMan_86 : decode cX5_readMan 86 = .ok (.iconst 1, 1) := by decide +kernel
theorem dX5_readMan_87 : decode cX5_readMan 87 = .ok (.goto 4, 3) := by decide +kernel
theorem dX5_readMan_90 : decode cX5_readMan 90 = .ok (.iconst 0, 1) := by decide +kernel
theorem dX5_readMan_91 : decode cX5_readMan 91 = .ok (.ireturn, 1) := by decide +kernel
theorem dX5_readLeaver_0 : decode cX5_readLeaver 0 = .ok (.aload_n 0, 1) := by decide +kernel
theorem dX5_readLeaver_1 : decode cX5_readLeaver 1 = .ok (.getfield 28, 3) := by decide +kernel
theorem dX5_readLeaver_4 : decode cX5_readLeaver 4 = .ok (.iconst 3, 1) := by decide +kernel
theorem dX5_readLeaver_5 : decode cX5_readLeaver 5 = .ok (.iaload, 1) := by decide +kernel
theorem dX5_readLeaver_6 : decode cX5_readLeaver 6 = .ok (.istore_n 2, 1) := by decide +kernel
theorem dX5_readLeaver_7 : decode cX5_readLeaver 7 = .ok (.iload_n 2, 1) := by decide +kernel
theorem dX5_readLeaver_8 : decode cX5_readLeaver 8 = .ok (.bipush 6, 2) := by decide +kernel
theorem dX5_readLeaver_10 : decode cX5_readLeaver 10 = .ok (.if_icmp .eq 12, 3) := by decide +kernel
theorem dX5_readLeaver_13 : decode cX5_readLeaver 13 = .ok (.aload_n 0, 1) := by decide +kernel
theorem dX5_readLeaver_14 : decode cX5_readLeaver 14 = .ok (.getfield 28, 3) := by decide +kernel
theorem dX5_readLeaver_17 : decode cX5_readLeaver 17 = .ok (.iconst 2, 1) := by decide +kernel
theorem dX5_readLeaver_18 : decode cX5_readLeaver 18 = .ok (.iaload, 1) := by decide +kernel
theorem dX5_readLeaver_19 : decode cX5_readLeaver 19 = .ok (.ifCond .ne 22, 3) := by decide +kernel
theorem dX5_readLeaver_22 : decode cX5_readLeaver 22 = .ok (.aload_n 0, 1) := by decide +kernel
theorem dX5_readLeaver_23 : decode cX5_readLeaver 23 = .ok (.aload_n 0, 1) := by decide +kernel
theorem dX5_readLeaver_24 : decode cX5_readLeaver 24 = .ok (.getfield 28, 3) := by decide +kernel
theorem dX5_readLeaver_27 : decode cX5_readLeaver 27 = .ok (.iconst 2, 1) := by decide +kernel
theorem dX5_readLeaver_28 : decode cX5_readLeaver 28 = .ok (.iaload, 1) := by decide +kernel
theorem dX5_readLeaver_29 : decode cX5_readLeaver 29 = .ok (.ifCond .ne 7, 3) := by decide +kernel
theorem dX5_readLeaver_32 : decode cX5_readLeaver 32 = .ok (.iconst 1, 1) := by decide +kernel
theorem dX5_readLeaver_33 : decode cX5_readLeaver 33 = .ok (.goto 4, 3) := by decide +kernel
theorem dX5_readLeaver_36 : decode cX5_readLeaver 36 = .ok (.iconst 3, 1) := by decide +kernel
theorem dX5_readLeaver_37 : decode cX5_readLeaver 37 = .ok (.invokevirtual 108, 3) := by decide +kernel
theorem dX5_readLeaver_40 : decode cX5_readLeaver 40 = .ok (.ireturn, 1) := by decide +kernel
theorem dX5_readLeaver_41 : decode cX5_readLeaver 41 = .ok (.aload_n 0, 1) := by decide +kernel
theorem dX5_readLeaver_42 : decode cX5_readLeaver 42 = .ok (.invokevirtual 111, 3) := by decide +kernel
theorem dX5_readLeaver_45 : decode cX5_readLeaver 45 = .ok (.aload_n 0, 1) := by decide +kernel
theorem dX5_readLeaver_46 : decode cX5_readLeaver 46 = .ok (.getfield 28, 3) := by decide +kernel
theorem dX5_readLeaver_49 : decode cX5_readLeaver 49 = .ok (.bipush 16, 2) := by decide +kernel
theorem dX5_readLeaver_51 : decode cX5_readLeaver 51 = .ok (.iload_n 2, 1) := by decide +kernel
theorem dX5_readLeaver_52 : decode cX5_readLeaver 52 = .ok (.iadd, 1) := by decide +kernel
theorem dX5_readLeaver_53 : decode cX5_readLeaver 53 = .ok (.iload_n 1, 1) := by decide +kernel
theorem dX5_readLeaver_54 : decode cX5_readLeaver 54 = .ok (.iastore, 1) := by decide +kernel
theorem dX5_readLeaver_55 : decode cX5_readLeaver 55 = .ok (.aload_n 0, 1) := by decide +kernel
theorem dX5_readLeaver_56 : decode cX5_readLeaver 56 = .ok (.getfield 28, 3) := by decide +kernel
theorem dX5_readLeaver_59 : decode cX5_readLeaver 59 = .ok (.iconst 3, 1) := by decide +kernel
theorem dX5_readLeaver_60 : decode cX5_readLeaver 60 = .ok (.dup2, 1) := by decide +kernel
theorem dX5_readLeaver_61 : decode cX5_readLeaver 61 = .ok (.iaload, 1) := by decide +kernel
theorem dX5_readLeaver_62 : decode cX5_readLeaver 62 = .ok (.iconst 1, 1) := by decide +kernel
theorem dX5_readLeaver_63 : decode cX5_readLeaver 63 = .ok (.iadd, 1) := by decide +kernel
theorem dX5_readLeaver_64 : decode cX5_readLeaver 64 = .ok (.iastore, 1) := by decide +kernel
theorem dX5_readLeaver_65 : decode cX5_readLeaver 65 = .ok (.aload_n 0, 1) := by decide +kernel
theorem dX5_readLeaver_66 : decode cX5_readLeaver 66 = .ok (.iconst 0, 1) := by decide +kernel
theorem dX5_readLeaver_67 : decode cX5_readLeaver 67 = .ok (.aload_n 0, 1) := by decide +kernel
theorem dX5_readLeaver_68 : decode cX5_readLeaver 68 = .ok (.getfield 28, 3) := by decide +kernel
theorem dX5_readLeaver_71 : decode cX5_readLeaver 71 = .ok (.iconst 2, 1) := by decide +kernel
theorem dX5_readLeaver_72 : decode cX5_readLeaver 72 = .ok (.iaload, 1) := by decide +kernel
theorem dX5_readLeaver_73 : decode cX5_readLeaver 73 = .ok (.iconst 1, 1) := by decide +kernel
theorem dX5_readLeaver_74 : decode cX5_readLeaver 74 = .ok (.isub, 1) := by decide +kernel
theorem dX5_readLeaver_75 : decode cX5_readLeaver 75 = .ok (.bipush 22, 2) := by decide +kernel
theorem dX5_readLeaver_77 : decode cX5_readLeaver 77 = .ok (.iload_n 2, 1) := by decide +kernel
theorem dX5_readLeaver_78 : decode cX5_readLeaver 78 = .ok (.iadd, 1) := by decide +kernel
theorem dX5_readLeaver_79 : decode cX5_readLeaver 79 = .ok (.bipush 44, 2) := by decide +kernel
theorem dX5_readLeaver_81 : decode cX5_readLeaver 81 = .ok (.invokevirtual 117, 3) := by decide +kernel
theorem dX5_readLeaver_84 : decode cX5_readLeaver 84 = .ok (.ifCond .eq 38, 3) := by decide +kernel
theorem dX5_readLeaver_87 : decode cX5_readLeaver 87 = .ok (.aload_n 0, 1) := by decide +kernel
theorem dX5_readLeaver_88 : decode cX5_readLeaver 88 = .ok (.iconst 1, 1) := by decide +kernel
theorem dX5_readLeaver_89 : decode cX5_readLeaver 89 = .ok (.bipush 9, 2) := by decide +kernel
theorem dX5_readLeaver_91 : decode cX5_readLeaver 91 = .ok (.bipush 28, 2) := by decide +kernel
theorem dX5_readLeaver_93 : decode cX5_readLeaver 93 = .ok (.iload_n 2, 1) := by decide +kernel
theorem dX5_readLeaver_94 : decode cX5_readLeaver 94 = .ok (.iadd, 1) := by decide +kernel
theorem dX5_readLeaver_95 : decode cX5_readLeaver 95 = .ok (.bipush 44, 2) := by decide +kernel
theorem dX5_readLeaver_97 : decode cX5_readLeaver 97 = .ok (.invokevirtual 117, 3) := by decide +kernel
theorem dX5_readLeaver_100 : decode cX5_readLeaver 100 = .ok (.ifCond .eq 22, 3) := by decide +kernel
theorem dX5_readLeaver_103 : decode cX5_readLeaver 103 = .ok (.aload_n 0, 1) := by decide +kernel
theorem dX5_readLeaver_104 : decode cX5_readLeaver 104 = .ok (.iconst 0, 1) := by decide +kernel
theorem dX5_readLeaver_105 : decode cX5_readLeaver 105 = .ok (.iconst 4, 1) := by decide +kernel
theorem dX5_readLeaver_106 : decode cX5_readLeaver 106 = .ok (.bipush 34, 2) := by decide +kernel
theorem dX5_readLeaver_108 : decode cX5_readLeaver 108 = .ok (.iload_n 2, 1) := by decide +kernel
theorem dX5_readLeaver_109 : decode cX5_readLeaver 109 = .ok (.iadd, 1) := by decide +kernel
theorem dX5_readLeaver_110 : decode cX5_readLeaver 110 = .ok (.bipush 59, 2) := by decide +kernel
theorem dX5_readLeaver_112 : decode cX5_readLeaver 112 = .ok (.invokevirtual 117, 3) := by decide +kernel
theorem dX5_readLeaver_115 : decode cX5_readLeaver 115 = .ok (.ifCond .eq 7, 3) := by decide +kernel
theorem dX5_readLeaver_118 : decode cX5_readLeaver 118 = .ok (.iconst 1, 1) := by decide +kernel
theorem dX5_readLeaver_119 : decode cX5_readLeaver 119 = .ok (.goto 4, 3) := by decide +kernel
theorem dX5_readLeaver_122 : decode cX5_readLeaver 122 = .ok (.iconst 0, 1) := by decide +kernel
theorem dX5_readLeaver_123 : decode cX5_readLeaver 123 = .ok (.ireturn, 1) := by decide +kernel
theorem dX5_readTown_0 : decode cX5_readTown 0 = .ok (.aload_n 0, 1) := by decide +kernel
theorem dX5_readTown_1 : decode cX5_readTown 1 = .ok (.iconst 0, 1) := by decide +kernel
theorem dX5_readTown_2 : decode cX5_readTown 2 = .ok (.putfield 82, 3) := by decide +kernel
theorem dX5_readTown_5 : decode cX5_readTown 5 = .ok (.iconst 0, 1) := by decide +kernel
theorem dX5_readTown_6 : decode cX5_readTown 6 = .ok (.istore_n 1, 1) := by decide +kernel
theorem dX5_readTown_7 : decode cX5_readTown 7 = .ok (.iload_n 1, 1) := by decide +kernel
theorem dX5_readTown_8 : decode cX5_readTown 8 = .ok (.bipush 70, 2) := by decide +kernel
theorem dX5_readTown_10 : decode cX5_readTown 10 = .ok (.if_icmp .ge 16, 3) := by decide +kernel
theorem dX5_readTown_13 : decode cX5_readTown 13 = .ok (.aload_n 0, 1) := by decide +kernel
theorem dX5_readTown_14 : decode cX5_readTown 14 = .ok (.getfield 28, 3) := by decide +kernel
theorem dX5_readTown_17 : decode cX5_readTown 17 = .ok (.iload_n 1, 1) := by decide +kernel
theorem dX5_readTown_18 : decode cX5_readTown 18 = .ok (.iconst 0, 1) := by decide +kernel
theorem dX5_readTown_19 : decode cX5_readTown 19 = .ok (.iastore, 1) := by decide +kernel
theorem dX5_readTown_20 : decode cX5_readTown 20 = .ok (.iinc 1 1, 3) := by decide +kernel
theorem dX5_readTown_23 : decode cX5_readTown 23 = .ok (.goto (-16), 3) := by decide +kernel
theorem dX5_readTown_26 : decode cX5_readTown 26 = .ok (.aload_n 0, 1) := by decide +kernel
theorem dX5_readTown_27 : decode cX5_readTown 27 = .ok (.invokevirtual 111, 3) := by decide +kernel
theorem dX5_readTown_30 : decode cX5_readTown 30 = .ok (.aload_n 0, 1) := by decide +kernel
theorem dX5_readTown_31 : decode cX5_readTown 31 = .ok (.bipush 100, 2) := by decide +kernel
theorem dX5_readTown_33 : decode cX5_readTown 33 = .ok (.invokevirtual 114, 3) := by decide +kernel
theorem dX5_readTown_36 : decode cX5_readTown 36 = .ok (.ifCond .eq 29, 3) := by decide +kernel
theorem dX5_readTown_39 : decode cX5_readTown 39 = .ok (.aload_n 0, 1) := by decide +kernel
theorem dX5_readTown_40 : decode cX5_readTown 40 = .ok (.iconst 1, 1) := by decide +kernel
theorem dX5_readTown_41 : decode cX5_readTown 41 = .ok (.bipush 9, 2) := by decide +kernel
theorem dX5_readTown_43 : decode cX5_readTown 43 = .ok (.iconst 0, 1) := by decide +kernel
theorem dX5_readTown_44 : decode cX5_readTown 44 = .ok (.bipush 44, 2) := by decide +kernel
theorem dX5_readTown_46 : decode cX5_readTown 46 = .ok (.invokevirtual 117, 3) := by decide +kernel
theorem dX5_readTown_49 : decode cX5_readTown 49 = .ok (.ifCond .eq 16, 3) := by decide +kernel
theorem dX5_readTown_52 : decode cX5_readTown 52 = .ok (.aload_n 0, 1) := by decide +kernel
theorem dX5_readTown_53 : decode cX5_readTown 53 = .ok (.iconst 0, 1) := by decide +kernel
theorem dX5_readTown_54 : decode cX5_readTown 54 = .ok (.bipush 9, 2) := by decide +kernel
theorem dX5_readTown_56 : decode cX5_readTown 56 = .ok (.iconst 1, 1) := by decide +kernel
theorem dX5_readTown_57 : decode cX5_readTown 57 = .ok (.bipush 59, 2) := by decide +kernel
theorem dX5_readTown_59 : decode cX5_readTown 59 = .ok (.invokevirtual 117, 3) := by decide +kernel
theorem dX5_readTown_62 : decode cX5_readTown 62 = .ok (.ifCond .ne 5, 3) := by decide +kernel
theorem dX5_readTown_65 : decode cX5_readTown 65 = .ok (.iconst 0, 1) := by decide +kernel
theorem dX5_readTown_66 : decode cX5_readTown 66 = .ok (.ireturn, 1) := by decide +kernel
theorem dX5_readTown_67 : decode cX5_readTown 67 = .ok (.iconst 1, 1) := by decide +kernel
theorem dX5_readTown_68 : decode cX5_readTown 68 = .ok (.istore_n 1, 1) := by decide +kernel
theorem dX5_readTown_69 : decode cX5_readTown 69 = .ok (.iload_n 1, 1) := by decide +kernel
theorem dX5_readTown_70 : decode cX5_readTown 70 = .ok (.ifCond .eq 124, 3) := by decide +kernel
theorem dX5_readTown_73 : decode cX5_readTown 73 = .ok (.aload_n 0, 1) := by decide +kernel
theorem dX5_readTown_74 : decode cX5_readTown 74 = .ok (.getfield 88, 3) := by decide +kernel
theorem dX5_readTown_77 : decode cX5_readTown 77 = .ok (.iconst 3, 1) := by decide +kernel
theorem dX5_readTown_78 : decode cX5_readTown 78 = .ok (.if_icmp .ne 12, 3) := by decide +kernel
theorem dX5_readTown_81 : decode cX5_readTown 81 = .ok (.aload_n 0, 1) := by decide +kernel
theorem dX5_readTown_82 : decode cX5_readTown 82 = .ok (.getfield 28, 3) := by decide +kernel
theorem dX5_readTown_85 : decode cX5_readTown 85 = .ok (.iconst 3, 1) := by decide +kernel
theorem dX5_readTown_86 : decode cX5_readTown 86 = .ok (.iaload, 1) := by decide +kernel
theorem dX5_readTown_87 : decode cX5_readTown 87 = .ok (.ifCond .ne 107, 3) := by decide +kernel
theorem dX5_readTown_90 : decode cX5_readTown 90 = .ok (.aload_n 0, 1) := by decide +kernel
theorem dX5_readTown_91 : decode cX5_readTown 91 = .ok (.bipush 112, 2) := by decide +kernel
theorem dX5_readTown_93 : decode cX5_readTown 93 = .ok (.invokevirtual 105, 3) := by decide +kernel
theorem dX5_readTown_96 : decode cX5_readTown 96 = .ok (.ifCond .eq 7, 3) := by decide +kernel
theorem dX5_readTown_99 : decode cX5_readTown 99 = .ok (.iconst 1, 1) := by decide +kernel
theorem dX5_readTown_100 : decode cX5_readTown 100 = .ok (.goto 56, 3) := by decide +kernel
theorem dX5_readTown_103 : decode cX5_readTown 103 = .ok (.aload_n 0, 1) := by decide +kernel
theorem dX5_readTown_104 : decode cX5_readTown 104 = .ok (.bipush 102, 2) := by decide +kernel
theorem dX5_readTown_106 : decode cX5_readTown 106 = .ok (.invokevirtual 105, 3) := by decide +kernel
theorem dX5_readTown_109 : decode cX5_readTown 109 = .ok (.ifCond .eq 7, 3) := by decide +kernel
theorem dX5_readTown_112 : decode cX5_readTown 112 = .ok (.iconst 2, 1) := by decide +kernel
theorem dX5_readTown_113 : decode cX5_readTown 113 = .ok (.goto 43, 3) := by decide +kernel
theorem dX5_readTown_116 : decode cX5_readTown 116 = .ok (.aload_n 0, 1) := by decide +kernel
theorem dX5_readTown_117 : decode cX5_readTown 117 = .ok (.bipush 115, 2) := by decide +kernel
theorem dX5_readTown_119 : decode cX5_readTown 119 = .ok (.invokevirtual 105, 3) := by decide +kernel
theorem dX5_readTown_122 : decode cX5_readTown 122 = .ok (.ifCond .eq 7, 3) := by decide +kernel
theorem dX5_readTown_125 : decode cX5_readTown 125 = .ok (.iconst 3, 1) := by decide +kernel
theorem dX5_readTown_126 : decode cX5_readTown 126 = .ok (.goto 30, 3) := by decide +kernel
theorem dX5_readTown_129 : decode cX5_readTown 129 = .ok (.aload_n 0, 1) := by decide +kernel
theorem dX5_readTown_130 : decode cX5_readTown 130 = .ok (.bipush 105, 2) := by decide +kernel
theorem dX5_readTown_132 : decode cX5_readTown 132 = .ok (.invokevirtual 105, 3) := by decide +kernel
theorem dX5_readTown_135 : decode cX5_readTown 135 = .ok (.ifCond .eq 7, 3) := by decide +kernel
theorem dX5_readTown_138 : decode cX5_readTown 138 = .ok (.iconst 4, 1) := by decide +kernel
theorem dX5_readTown_139 : decode cX5_readTown 139 = .ok (.goto 17, 3) := by decide +kernel
theorem dX5_readTown_142 : decode cX5_readTown 142 = .ok (.aload_n 0, 1) := by decide +kernel
theorem dX5_readTown_143 : decode cX5_readTown 143 = .ok (.bipush 119, 2) := by decide +kernel
theorem dX5_readTown_145 : decode cX5_readTown 145 = .ok (.invokevirtual 105, 3) := by decide +kernel
theorem dX5_readTown_148 : decode cX5_readTown 148 = .ok (.ifCond .eq 7, 3) := by decide +kernel
theorem dX5_readTown_151 : decode cX5_readTown 151 = .ok (.iconst 5, 1) := by decide +kernel
theorem dX5_readTown_152 : decode cX5_readTown 152 = .ok (.goto 4, 3) := by decide +kernel
theorem dX5_readTown_155 : decode cX5_readTown 155 = .ok (.iconst 0, 1) := by decide +kernel
theorem dX5_readTown_156 : decode cX5_readTown 156 = .ok (.istore_n 2, 1) := by decide +kernel
theorem dX5_readTown_157 : decode cX5_readTown 157 = .ok (.iload_n 2, 1) := by decide +kernel
theorem dX5_readTown_158 : decode cX5_readTown 158 = .ok (.ifCond .le 11, 3) := by decide +kernel
theorem dX5_readTown_161 : decode cX5_readTown 161 = .ok (.aload_n 0, 1) := by decide +kernel
theorem dX5_readTown_162 : decode cX5_readTown 162 = .ok (.iload_n 2, 1) := by decide +kernel
theorem dX5_readTown_163 : decode cX5_readTown 163 = .ok (.invokevirtual 121, 3) := by decide +kernel
theorem dX5_readTown_166 : decode cX5_readTown 166 = .ok (.goto 24, 3) := by decide +kernel
theorem dX5_readTown_169 : decode cX5_readTown 169 = .ok (.aload_n 0, 1) := by decide +kernel
theorem dX5_readTown_170 : decode cX5_readTown 170 = .ok (.bipush 109, 2) := by decide +kernel
theorem dX5_readTown_172 : decode cX5_readTown 172 = .ok (.invokevirtual 105, 3) := by decide +kernel
theorem dX5_readTown_175 : decode cX5_readTown 175 = .ok (.ifCond .eq 10, 3) := by decide +kernel
theorem dX5_readTown_178 : decode cX5_readTown 178 = .ok (.aload_n 0, 1) := by decide +kernel
theorem dX5_readTown_179 : decode cX5_readTown 179 = .ok (.invokevirtual 124, 3) := by decide +kernel
theorem dX5_readTown_182 : decode cX5_readTown 182 = .ok (.goto 8, 3) := by decide +kernel
theorem dX5_readTown_185 : decode cX5_readTown 185 = .ok (.aload_n 0, 1) := by decide +kernel
theorem dX5_readTown_186 : decode cX5_readTown 186 = .ok (.iconst 1, 1) := by decide +kernel
theorem dX5_readTown_187 : decode cX5_readTown 187 = .ok (.invokevirtual 108, 3) := by decide +kernel
theorem dX5_readTown_190 : decode cX5_readTown 190 = .ok (.istore_n 1, 1) := by decide +kernel
theorem dX5_readTown_191 : decode cX5_readTown 191 = .ok (.goto (-122), 3) := by decide +kernel
theorem dX5_readTown_194 : decode cX5_readTown 194 = .ok (.iload_n 1, 1) := by decide +kernel
theorem dX5_readTown_195 : decode cX5_readTown 195 = .ok (.ireturn, 1) := by decide +kernel
theorem dX5_town_0 : decode cX5_town 0 = .ok (.aload_n 0, 1) := by decide +kernel
theorem dX5_town_1 : decode cX5_town 1 = .ok (.invokevirtual 128, 3) := by decide +kernel
theorem dX5_town_4 : decode cX5_town 4 = .ok (.istore_n 1, 1) := by decide +kernel
theorem dX5_town_5 : decode cX5_town 5 = .ok (.aload_n 0, 1) := by decide +kernel
theorem dX5_town_6 : decode cX5_town 6 = .ok (.iconst 0, 1) := by decide +kernel
theorem dX5_town_7 : decode cX5_town 7 = .ok (.putfield 78, 3) := by decide +kernel
theorem dX5_town_10 : decode cX5_town 10 = .ok (.iload_n 1, 1) := by decide +kernel
theorem dX5_town_11 : decode cX5_town 11 = .ok (.ifCond .ne 19, 3) := by decide +kernel
theorem dX5_town_14 : decode cX5_town 14 = .ok (.aload_n 0, 1) := by decide +kernel
theorem dX5_town_15 : decode cX5_town 15 = .ok (.aload_n 0, 1) := by decide +kernel
theorem dX5_town_16 : decode cX5_town 16 = .ok (.getfield 102, 3) := by decide +kernel
theorem dX5_town_19 : decode cX5_town 19 = .ok (.putfield 131, 3) := by decide +kernel
theorem dX5_town_22 : decode cX5_town 22 = .ok (.ldc 134, 2) := by decide +kernel
theorem dX5_town_24 : decode cX5_town 24 = .ok (.aload_n 0, 1) := by decide +kernel
theorem dX5_town_25 : decode cX5_town 25 = .ok (.getfield 85, 3) := by decide +kernel
theorem dX5_town_28 : decode cX5_town 28 = .ok (.isub, 1) := by decide +kernel
theorem dX5_town_29 : decode cX5_town 29 = .ok (.ireturn, 1) := by decide +kernel
theorem dX5_town_30 : decode cX5_town 30 = .ok (.iconst 0, 1) := by decide +kernel
theorem dX5_town_31 : decode cX5_town 31 = .ok (.istore_n 2, 1) := by decide +kernel
theorem dX5_town_32 : decode cX5_town 32 = .ok (.iload_n 2, 1) := by decide +kernel
theorem dX5_town_33 : decode cX5_town 33 = .ok (.bipush 70, 2) := by decide +kernel
theorem dX5_town_35 : decode cX5_town 35 = .ok (.if_icmp .ge 21, 3) := by decide +kernel
theorem dX5_town_38 : decode cX5_town 38 = .ok (.aload_n 0, 1) := by decide +kernel
theorem dX5_town_39 : decode cX5_town 39 = .ok (.getfield 19, 3) := by decide +kernel
theorem dX5_town_42 : decode cX5_town 42 = .ok (.iload_n 2, 1) := by decide +kernel
theorem dX5_town_43 : decode cX5_town 43 = .ok (.aload_n 0, 1) := by decide +kernel
theorem dX5_town_44 : decode cX5_town 44 = .ok (.getfield 28, 3) := by decide +kernel
theorem dX5_town_47 : decode cX5_town 47 = .ok (.iload_n 2, 1) := by decide +kernel
theorem dX5_town_48 : decode cX5_town 48 = .ok (.iaload, 1) := by decide +kernel
theorem dX5_town_49 : decode cX5_town 49 = .ok (.iastore, 1) := by decide +kernel
theorem dX5_town_50 : decode cX5_town 50 = .ok (.iinc 2 1, 3) := by decide +kernel
theorem dX5_town_53 : decode cX5_town 53 = .ok (.goto (-21), 3) := by decide +kernel
theorem dX5_town_56 : decode cX5_town 56 = .ok (.aload_n 0, 1) := by decide +kernel
theorem dX5_town_57 : decode cX5_town 57 = .ok (.iconst 1, 1) := by decide +kernel
theorem dX5_town_58 : decode cX5_town 58 = .ok (.putfield 135, 3) := by decide +kernel
theorem dX5_town_61 : decode cX5_town 61 = .ok (.aload_n 0, 1) := by decide +kernel
theorem dX5_town_62 : decode cX5_town 62 = .ok (.iconst 0, 1) := by decide +kernel
theorem dX5_town_63 : decode cX5_town 63 = .ok (.putfield 139, 3) := by decide +kernel
theorem dX5_town_66 : decode cX5_town 66 = .ok (.aload_n 0, 1) := by decide +kernel
theorem dX5_town_67 : decode cX5_town 67 = .ok (.getfield 19, 3) := by decide +kernel
theorem dX5_town_70 : decode cX5_town 70 = .ok (.iconst 3, 1) := by decide +kernel
theorem dX5_town_71 : decode cX5_town 71 = .ok (.iaload, 1) := by decide +kernel
theorem dX5_town_72 : decode cX5_town 72 = .ok (.ireturn, 1) := by decide +kernel
theorem dX5_fault_0 : decode cX5_fault 0 = .ok (.aload_n 0, 1) := by decide +kernel
theorem dX5_fault_1 : decode cX5_fault 1 = .ok (.getfield 131, 3) := by decide +kernel
theorem dX5_fault_4 : decode cX5_fault 4 = .ok (.ireturn, 1) := by decide +kernel
theorem dX5_isMan_0 : decode cX5_isMan 0 = .ok (.iload_n 1, 1) := by decide +kernel
theorem dX5_isMan_1 : decode cX5_isMan 1 = .ok (.i2l, 1) := by decide +kernel
theorem dX5_isMan_2 : decode cX5_isMan 2 = .ok (.lconst 0, 1) := by decide +kernel
theorem dX5_isMan_3 : decode cX5_isMan 3 = .ok (.aload_n 0, 1) := by decide +kernel
theorem dX5_isMan_4 : decode cX5_isMan 4 = .ok (.getfield 19, 3) := by decide +kernel
theorem dX5_isMan_7 : decode cX5_isMan 7 = .ok (.iconst 2, 1) := by decide +kernel
theorem dX5_isMan_8 : decode cX5_isMan 8 = .ok (.iaload, 1) := by decide +kernel
theorem dX5_isMan_9 : decode cX5_isMan 9 = .ok (.iconst 1, 1) := by decide +kernel
theorem dX5_isMan_10 : decode cX5_isMan 10 = .ok (.isub, 1) := by decide +kernel
theorem dX5_isMan_11 : decode cX5_isMan 11 = .ok (.i2l, 1) := by decide +kernel
theorem dX5_isMan_12 : decode cX5_isMan 12 = .ok (.invokestatic 54, 3) := by decide +kernel
theorem dX5_isMan_15 : decode cX5_isMan 15 = .ok (.ireturn, 1) := by decide +kernel
theorem dX5_isLeaver_0 : decode cX5_isLeaver 0 = .ok (.iload_n 1, 1) := by decide +kernel
theorem dX5_isLeaver_1 : decode cX5_isLeaver 1 = .ok (.i2l, 1) := by decide +kernel
theorem dX5_isLeaver_2 : decode cX5_isLeaver 2 = .ok (.lconst 0, 1) := by decide +kernel
theorem dX5_isLeaver_3 : decode cX5_isLeaver 3 = .ok (.aload_n 0, 1) := by decide +kernel
theorem dX5_isLeaver_4 : decode cX5_isLeaver 4 = .ok (.getfield 19, 3) := by decide +kernel
theorem dX5_isLeaver_7 : decode cX5_isLeaver 7 = .ok (.iconst 3, 1) := by decide +kernel
theorem dX5_isLeaver_8 : decode cX5_isLeaver 8 = .ok (.iaload, 1) := by decide +kernel
theorem dX5_isLeaver_9 : decode cX5_isLeaver 9 = .ok (.iconst 1, 1) := by decide +kernel
theorem dX5_isLeaver_10 : decode cX5_isLeaver 10 = .ok (.isub, 1) := by decide +kernel
theorem dX5_isLeaver_11 : decode cX5_isLeaver 11 = .ok (.i2l, 1) := by decide +kernel
theorem dX5_isLeaver_12 : decode cX5_isLeaver 12 = .ok (.invokestatic 54, 3) := by decide +kernel
theorem dX5_isLeaver_15 : decode cX5_isLeaver 15 = .ok (.ireturn, 1) := by decide +kernel
theorem dX5_houseOf_0 : decode cX5_houseOf 0 = .ok (.aload_n 0, 1) := by decide +kernel
theorem dX5_houseOf_1 : decode cX5_houseOf 1 = .ok (.getfield 19, 3) := by decide +kernel
theorem dX5_houseOf_4 : decode cX5_houseOf 4 = .ok (.bipush 22, 2) := by decide +kernel
theorem dX5_houseOf_6 : decode cX5_houseOf 6 = .ok (.iload_n 1, 1) := by decide +kernel
theorem dX5_houseOf_7 : decode cX5_houseOf 7 = .ok (.iadd, 1) := by decide +kernel
theorem dX5_houseOf_8 : decode cX5_houseOf 8 = .ok (.iaload, 1) := by decide +kernel
theorem dX5_houseOf_9 : decode cX5_houseOf 9 = .ok (.aload_n 0, 1) := by decide +kernel
theorem dX5_houseOf_10 : decode cX5_houseOf 10 = .ok (.getfield 19, 3) := by decide +kernel
theorem dX5_houseOf_13 : decode cX5_houseOf 13 = .ok (.bipush 34, 2) := by decide +kernel
theorem dX5_houseOf_15 : decode cX5_houseOf 15 = .ok (.iload_n 1, 1) := by decide +kernel
theorem dX5_houseOf_16 : decode cX5_houseOf 16 = .ok (.iadd, 1) := by decide +kernel
theorem dX5_houseOf_17 : decode cX5_houseOf 17 = .ok (.iaload, 1) := by decide +kernel
theorem dX5_houseOf_18 : decode cX5_houseOf 18 = .ok (.aload_n 0, 1) := by decide +kernel
theorem dX5_houseOf_19 : decode cX5_houseOf 19 = .ok (.getfield 19, 3) := by decide +kernel
theorem dX5_houseOf_22 : decode cX5_houseOf 22 = .ok (.iconst 4, 1) := by decide +kernel
theorem dX5_houseOf_23 : decode cX5_houseOf 23 = .ok (.iaload, 1) := by decide +kernel
theorem dX5_houseOf_24 : decode cX5_houseOf 24 = .ok (.imul, 1) := by decide +kernel
theorem dX5_houseOf_25 : decode cX5_houseOf 25 = .ok (.iadd, 1) := by decide +kernel
theorem dX5_houseOf_26 : decode cX5_houseOf 26 = .ok (.aload_n 0, 1) := by decide +kernel
theorem dX5_houseOf_27 : decode cX5_houseOf 27 = .ok (.getfield 19, 3) := by decide +kernel
theorem dX5_houseOf_30 : decode cX5_houseOf 30 = .ok (.iconst 2, 1) := by decide +kernel
theorem dX5_houseOf_31 : decode cX5_houseOf 31 = .ok (.iaload, 1) := by decide +kernel
theorem dX5_houseOf_32 : decode cX5_houseOf 32 = .ok (.irem, 1) := by decide +kernel
theorem dX5_houseOf_33 : decode cX5_houseOf 33 = .ok (.ireturn, 1) := by decide +kernel
theorem dX5_timesOf_0 : decode cX5_timesOf 0 = .ok (.aload_n 0, 1) := by decide +kernel
theorem dX5_timesOf_1 : decode cX5_timesOf 1 = .ok (.getfield 19, 3) := by decide +kernel
theorem dX5_timesOf_4 : decode cX5_timesOf 4 = .ok (.bipush 40, 2) := by decide +kernel
theorem dX5_timesOf_6 : decode cX5_timesOf 6 = .ok (.iconst 5, 1) := by decide +kernel
theorem dX5_timesOf_7 : decode cX5_timesOf 7 = .ok (.iload_n 1, 1) := by decide +kernel
theorem dX5_timesOf_8 : decode cX5_timesOf 8 = .ok (.imul, 1) := by decide +kernel
theorem dX5_timesOf_9 : decode cX5_timesOf 9 = .ok (.iadd, 1) := by decide +kernel
theorem dX5_timesOf_10 : decode cX5_timesOf 10 = .ok (.aload_n 0, 1) := by decide +kernel
theorem dX5_timesOf_11 : decode cX5_timesOf 11 = .ok (.iload_n 1, 1) := by decide +kernel
theorem dX5_timesOf_12 : decode cX5_timesOf 12 = .ok (.invokevirtual 142, 3) := by decide +kernel
theorem dX5_timesOf_15 : decode cX5_timesOf 15 = .ok (.iadd, 1) := by decide +kernel
theorem dX5_timesOf_16 : decode cX5_timesOf 16 = .ok (.iaload, 1) := by decide +kernel
theorem dX5_timesOf_17 : decode cX5_timesOf 17 = .ok (.ireturn, 1) := by decide +kernel
theorem dX5_makes_0 : decode cX5_makes 0 = .ok (.aload_n 0, 1) := by decide +kernel
theorem dX5_makes_1 : decode cX5_makes 1 = .ok (.getfield 19, 3) := by decide +kernel
theorem dX5_makes_4 : decode cX5_makes 4 = .ok (.bipush 28, 2) := by decide +kernel
theorem dX5_makes_6 : decode cX5_makes 6 = .ok (.iload_n 1, 1) := by decide +kernel
theorem dX5_makes_7 : decode cX5_makes 7 = .ok (.iadd, 1) := by decide +kernel
theorem dX5_makes_8 : decode cX5_makes 8 = .ok (.iaload, 1) := by decide +kernel
theorem dX5_makes_9 : decode cX5_makes 9 = .ok (.istore_n 2, 1) := by decide +kernel
theorem dX5_makes_10 : decode cX5_makes 10 = .ok (.aload_n 0, 1) := by decide +kernel
theorem dX5_makes_11 : decode cX5_makes 11 = .ok (.getfield 19, 3) := by decide +kernel
theorem dX5_makes_14 : decode cX5_makes 14 = .ok (.iconst 4, 1) := by decide +kernel
theorem dX5_makes_15 : decode cX5_makes 15 = .ok (.iaload, 1) := by decide +kernel
theorem dX5_makes_16 : decode cX5_makes 16 = .ok (.iconst 3, 1) := by decide +kernel
theorem dX5_makes_17 : decode cX5_makes 17 = .ok (.irem, 1) := by decide +kernel
theorem dX5_makes_18 : decode cX5_makes 18 = .ok (.ifCond .ne 7, 3) := by decide +kernel
theorem dX5_makes_21 : decode cX5_makes 21 = .ok (.iload_n 2, 1) := by decide +kernel
theorem dX5_makes_22 : decode cX5_makes 22 = .ok (.goto 4, 3) := by decide +kernel
theorem dX5_makes_25 : decode cX5_makes 25 = .ok (.iconst 0, 1) := by decide +kernel
theorem dX5_makes_26 : decode cX5_makes 26 = .ok (.istore_n 3, 1) := by decide +kernel
theorem dX5_makes_27 : decode cX5_makes 27 = .ok (.aload_n 0, 1) := by decide +kernel
theorem dX5_makes_28 : decode cX5_makes 28 = .ok (.getfield 19, 3) := by decide +kernel
theorem dX5_makes_31 : decode cX5_makes 31 = .ok (.bipush 16, 2) := by decide +kernel
theorem dX5_makes_33 : decode cX5_makes 33 = .ok (.iload_n 1, 1) := by decide +kernel
theorem dX5_makes_34 : decode cX5_makes 34 = .ok (.iadd, 1) := by decide +kernel
theorem dX5_makes_35 : decode cX5_makes 35 = .ok (.iaload, 1) := by decide +kernel
theorem dX5_makes_36 : decode cX5_makes 36 = .ok (.tableswitch 90 2 5 #[32, 55, 59, 61], 32) := by decide +kernel
theorem dX5_makes_68 : decode cX5_makes 68 = .ok (.iload_n 2, 1) := by decide +kernel
theorem dX5_makes_69 : decode cX5_makes 69 = .ok (.aload_n 0, 1) := by decide +kernel
theorem dX5_makes_70 : decode cX5_makes 70 = .ok (.iload_n 1, 1) := by decide +kernel
theorem dX5_makes_71 : decode cX5_makes 71 = .ok (.invokevirtual 145, 3) := by decide +kernel
theorem dX5_makes_74 : decode cX5_makes 74 = .ok (.bipush 9, 2) := by decide +kernel
theorem dX5_makes_76 : decode cX5_makes 76 = .ok (.if_icmp .ge 11, 3) := by decide +kernel
theorem dX5_makes_79 : decode cX5_makes 79 = .ok (.aload_n 0, 1) := by decide +kernel
theorem dX5_makes_80 : decode cX5_makes 80 = .ok (.iload_n 1, 1) := by decide +kernel
theorem dX5_makes_81 : decode cX5_makes 81 = .ok (.invokevirtual 145, 3) := by decide +kernel
theorem dX5_makes_84 : decode cX5_makes 84 = .ok (.goto 5, 3) := by decide +kernel
theorem dX5_makes_87 : decode cX5_makes 87 = .ok (.bipush 9, 2) := by decide +kernel
theorem dX5_makes_89 : decode cX5_makes 89 = .ok (.iadd, 1) := by decide +kernel
theorem dX5_makes_90 : decode cX5_makes 90 = .ok (.ireturn, 1) := by decide +kernel
theorem dX5_makes_91 : decode cX5_makes 91 = .ok (.iload_n 2, 1) := by decide +kernel
theorem dX5_makes_92 : decode cX5_makes 92 = .ok (.iconst 2, 1) := by decide +kernel
theorem dX5_makes_93 : decode cX5_makes 93 = .ok (.idiv, 1) := by decide +kernel
theorem dX5_makes_94 : decode cX5_makes 94 = .ok (.ireturn, 1) := by decide +kernel
theorem dX5_makes_95 : decode cX5_makes 95 = .ok (.iload_n 3, 1) := by decide +kernel
theorem dX5_makes_96 : decode cX5_makes 96 = .ok (.ireturn, 1) := by decide +kernel
theorem dX5_makes_97 : decode cX5_makes 97 = .ok (.bipush 7, 2) := by decide +kernel
theorem dX5_makes_99 : decode cX5_makes 99 = .ok (.aload_n 0, 1) := by decide +kernel
theorem dX5_makes_100 : decode cX5_makes 100 = .ok (.getfield 19, 3) := by decide +kernel
theorem dX5_makes_103 : decode cX5_makes 103 = .ok (.iconst 4, 1) := by decide +kernel
theorem dX5_makes_104 : decode cX5_makes 104 = .ok (.iaload, 1) := by decide +kernel
theorem dX5_makes_105 : decode cX5_makes 105 = .ok (.imul, 1) := by decide +kernel
theorem dX5_makes_106 : decode cX5_makes 106 = .ok (.bipush 10, 2) := by decide +kernel
theorem dX5_makes_108 : decode cX5_makes 108 = .ok (.irem, 1) := by decide +kernel
theorem dX5_makes_109 : decode cX5_makes 109 = .ok (.aload_n 0, 1) := by decide +kernel
theorem dX5_makes_110 : decode cX5_makes 110 = .ok (.getfield 19, 3) := by decide +kernel
theorem dX5_makes_113 : decode cX5_makes 113 = .ok (.iconst 1, 1) := by decide +kernel
theorem dX5_makes_114 : decode cX5_makes 114 = .ok (.iaload, 1) := by decide +kernel
theorem dX5_makes_115 : decode cX5_makes 115 = .ok (.if_icmp .ge 9, 3) := by decide +kernel
theorem dX5_makes_118 : decode cX5_makes 118 = .ok (.iconst 2, 1) := by decide +kernel
theorem dX5_makes_119 : decode cX5_makes 119 = .ok (.iload_n 2, 1) := by decide +kernel
theorem dX5_makes_120 : decode cX5_makes 120 = .ok (.imul, 1) := by decide +kernel
theorem dX5_makes_121 : decode cX5_makes 121 = .ok (.goto 4, 3) := by decide +kernel
theorem dX5_makes_124 : decode cX5_makes 124 = .ok (.iload_n 3, 1) := by decide +kernel
theorem dX5_makes_125 : decode cX5_makes 125 = .ok (.ireturn, 1) := by decide +kernel
theorem dX5_makes_126 : decode cX5_makes 126 = .ok (.iload_n 2, 1) := by decide +kernel
theorem dX5_makes_127 : decode cX5_makes 127 = .ok (.ireturn, 1) := by decide +kernel
theorem dX5_awayFrom_0 : decode cX5_awayFrom 0 = .ok (.iconst 0, 1) := by decide +kernel
theorem dX5_awayFrom_1 : decode cX5_awayFrom 1 = .ok (.istore_n 2, 1) := by decide +kernel
theorem dX5_awayFrom_2 : decode cX5_awayFrom 2 = .ok (.iconst 0, 1) := by decide +kernel
theorem dX5_awayFrom_3 : decode cX5_awayFrom 3 = .ok (.istore_n 3, 1) := by decide +kernel
theorem dX5_awayFrom_4 : decode cX5_awayFrom 4 = .ok (.iload_n 3, 1) := by decide +kernel
theorem dX5_awayFrom_5 : decode cX5_awayFrom 5 = .ok (.aload_n 0, 1) := by decide +kernel
theorem dX5_awayFrom_6 : decode cX5_awayFrom 6 = .ok (.getfield 19, 3) := by decide +kernel
theorem dX5_awayFrom_9 : decode cX5_awayFrom 9 = .ok (.iconst 3, 1) := by decide +kernel
theorem dX5_awayFrom_10 : decode cX5_awayFrom 10 = .ok (.iaload, 1) := by decide +kernel
theorem dX5_awayFrom_11 : decode cX5_awayFrom 11 = .ok (.if_icmp .ge 39, 3) := by decide +kernel
theorem dX5_awayFrom_14 : decode cX5_awayFrom 14 = .ok (.iload_n 2, 1) := by decide +kernel
theorem dX5_awayFrom_15 : decode cX5_awayFrom 15 = .ok (.aload_n 0, 1) := by decide +kernel
theorem dX5_awayFrom_16 : decode cX5_awayFrom 16 = .ok (.getfield 148, 3) := by decide +kernel
theorem dX5_awayFrom_19 : decode cX5_awayFrom 19 = .ok (.iload_n 3, 1) := by decide +kernel
theorem dX5_awayFrom_20 : decode cX5_awayFrom 20 = .ok (.invokestatic 151, 3) := by decide +kernel
theorem dX5_awayFrom_23 : decode cX5_awayFrom 23 = .ok (.ifCond .ne 18, 3) := by decide +kernel
theorem dX5_awayFrom_26 : decode cX5_awayFrom 26 = .ok (.aload_n 0, 1) := by decide +kernel
theorem dX5_awayFrom_27 : decode cX5_awayFrom 27 = .ok (.iload_n 3, 1) := by decide +kernel
theorem dX5_awayFrom_28 : decode cX5_awayFrom 28 = .ok (.invokevirtual 142, 3) := by decide +kernel
theorem dX5_awayFrom_31 : decode cX5_awayFrom 31 = .ok (.iload_n 1, 1) := by decide +kernel
theorem dX5_awayFrom_32 : decode cX5_awayFrom 32 = .ok (.if_icmp .ne 9, 3) := by decide +kernel
theorem dX5_awayFrom_35 : decode cX5_awayFrom 35 = .ok (.iconst 1, 1) := by decide +kernel
theorem dX5_awayFrom_36 : decode cX5_awayFrom 36 = .ok (.iload_n 3, 1) := by decide +kernel
theorem dX5_awayFrom_37 : decode cX5_awayFrom 37 = .ok (.ishl, 1) := by decide +kernel
theorem dX5_awayFrom_38 : decode cX5_awayFrom 38 = .ok (.goto 4, 3) := by decide +kernel
theorem dX5_awayFrom_41 : decode cX5_awayFrom 41 = .ok (.iconst 0, 1) := by decide +kernel
theorem dX5_awayFrom_42 : decode cX5_awayFrom 42 = .ok (.ior, 1) := by decide +kernel
theorem dX5_awayFrom_43 : decode cX5_awayFrom 43 = .ok (.istore_n 2, 1) := by decide +kernel
theorem dX5_awayFrom_44 : decode cX5_awayFrom 44 = .ok (.iinc 3 1, 3) := by decide +kernel
theorem dX5_awayFrom_47 : decode cX5_awayFrom 47 = .ok (.goto (-43), 3) := by decide +kernel
theorem dX5_awayFrom_50 : decode cX5_awayFrom 50 = .ok (.iload_n 2, 1) := by decide +kernel
theorem dX5_awayFrom_51 : decode cX5_awayFrom 51 = .ok (.ireturn, 1) := by decide +kernel
theorem dX5_madeAt_0 : decode cX5_madeAt 0 = .ok (.aload_n 0, 1) := by decide +kernel
theorem dX5_madeAt_1 : decode cX5_madeAt 1 = .ok (.iload_n 1, 1) := by decide +kernel
theorem dX5_madeAt_2 : decode cX5_madeAt 2 = .ok (.invokevirtual 155, 3) := by decide +kernel
theorem dX5_madeAt_5 : decode cX5_madeAt 5 = .ok (.istore_n 2, 1) := by decide +kernel
theorem dX5_madeAt_6 : decode cX5_madeAt 6 = .ok (.iconst 0, 1) := by decide +kernel
theorem dX5_madeAt_7 : decode cX5_madeAt 7 = .ok (.istore_n 3, 1) := by decide +kernel
theorem dX5_madeAt_8 : decode cX5_madeAt 8 = .ok (.iconst 0, 1) := by decide +kernel
theorem dX5_madeAt_9 : decode cX5_madeAt 9 = .ok (.istore 4, 2) := by decide +kernel
theorem dX5_madeAt_11 : decode cX5_madeAt 11 = .ok (.iload 4, 2) := by decide +kernel
theorem dX5_madeAt_13 : decode cX5_madeAt 13 = .ok (.aload_n 0, 1) := by decide +kernel
theorem dX5_madeAt_14 : decode cX5_madeAt 14 = .ok (.getfield 19, 3) := by decide +kernel
theorem dX5_madeAt_17 : decode cX5_madeAt 17 = .ok (.iconst 3, 1) := by decide +kernel
theorem dX5_madeAt_18 : decode cX5_madeAt 18 = .ok (.iaload, 1) := by decide +kernel
theorem dX5_madeAt_19 : decode cX5_madeAt 19 = .ok (.if_icmp .ge 31, 3) := by decide +kernel
theorem dX5_madeAt_22 : decode cX5_madeAt 22 = .ok (.iload_n 3, 1) := by decide +kernel
theorem dX5_madeAt_23 : decode cX5_madeAt 23 = .ok (.iload_n 2, 1) := by decide +kernel
theorem dX5_madeAt_24 : decode cX5_madeAt 24 = .ok (.iload 4, 2) := by decide +kernel
theorem dX5_madeAt_26 : decode cX5_madeAt 26 = .ok (.invokestatic 151, 3) := by decide +kernel
theorem dX5_madeAt_29 : decode cX5_madeAt 29 = .ok (.ifCond .eq 12, 3) := by decide +kernel
theorem dX5_madeAt_32 : decode cX5_madeAt 32 = .ok (.aload_n 0, 1) := by decide +kernel
theorem dX5_madeAt_33 : decode cX5_madeAt 33 = .ok (.iload 4, 2) := by decide +kernel
theorem dX5_madeAt_35 : decode cX5_madeAt 35 = .ok (.invokevirtual 158, 3) := by decide +kernel
theorem dX5_madeAt_38 : decode cX5_madeAt 38 = .ok (.goto 4, 3) := by decide +kernel
theorem dX5_madeAt_41 : decode cX5_madeAt 41 = .ok (.iconst 0, 1) := by decide +kernel
theorem dX5_madeAt_42 : decode cX5_madeAt 42 = .ok (.iadd, 1) := by decide +kernel
theorem dX5_madeAt_43 : decode cX5_madeAt 43 = .ok (.istore_n 3, 1) := by decide +kernel
theorem dX5_madeAt_44 : decode cX5_madeAt 44 = .ok (.iinc 4 1, 3) := by decide +kernel
theorem dX5_madeAt_47 : decode cX5_madeAt 47 = .ok (.goto (-36), 3) := by decide +kernel
theorem dX5_madeAt_50 : decode cX5_madeAt 50 = .ok (.iload_n 3, 1) := by decide +kernel
theorem dX5_madeAt_51 : decode cX5_madeAt 51 = .ok (.ireturn, 1) := by decide +kernel
theorem dX5_allFeel_0 : decode cX5_allFeel 0 = .ok (.iconst 0, 1) := by decide +kernel
theorem dX5_allFeel_1 : decode cX5_allFeel 1 = .ok (.istore_n 1, 1) := by decide +kernel
theorem dX5_allFeel_2 : decode cX5_allFeel 2 = .ok (.iconst 0, 1) := by decide +kernel
theorem dX5_allFeel_3 : decode cX5_allFeel 3 = .ok (.istore_n 2, 1) := by decide +kernel
theorem dX5_allFeel_4 : decode cX5_allFeel 4 = .ok (.iload_n 2, 1) := by decide +kernel
theorem dX5_allFeel_5 : decode cX5_allFeel 5 = .ok (.aload_n 0, 1) := by decide +kernel
theorem dX5_allFeel_6 : decode cX5_allFeel 6 = .ok (.getfield 19, 3) := by decide +kernel
theorem dX5_allFeel_9 : decode cX5_allFeel 9 = .ok (.iconst 2, 1) := by decide +kernel
theorem dX5_allFeel_10 : decode cX5_allFeel 10 = .ok (.iaload, 1) := by decide +kernel
theorem dX5_allFeel_11 : decode cX5_allFeel 11 = .ok (.if_icmp .ge 21, 3) := by decide +kernel
theorem dX5_allFeel_14 : decode cX5_allFeel 14 = .ok (.iload_n 1, 1) := by decide +kernel
theorem dX5_allFeel_15 : decode cX5_allFeel 15 = .ok (.aload_n 0, 1) := by decide +kernel
theorem dX5_allFeel_16 : decode cX5_allFeel 16 = .ok (.getfield 19, 3) := by decide +kernel
theorem dX5_allFeel_19 : decode cX5_allFeel 19 = .ok (.bipush 6, 2) := by decide +kernel
theorem dX5_allFeel_21 : decode cX5_allFeel 21 = .ok (.iload_n 2, 1) := by decide +kernel
theorem dX5_allFeel_22 : decode cX5_allFeel 22 = .ok (.iadd, 1) := by decide +kernel
theorem dX5_allFeel_23 : decode cX5_allFeel 23 = .ok (.iaload, 1) := by decide +kernel
theorem dX5_allFeel_24 : decode cX5_allFeel 24 = .ok (.iadd, 1) := by decide +kernel
theorem dX5_allFeel_25 : decode cX5_allFeel 25 = .ok (.istore_n 1, 1) := by decide +kernel
theorem dX5_allFeel_26 : decode cX5_allFeel 26 = .ok (.iinc 2 1, 3) := by decide +kernel
theorem dX5_allFeel_29 : decode cX5_allFeel 29 = .ok (.goto (-25), 3) := by decide +kernel
theorem dX5_allFeel_32 : decode cX5_allFeel 32 = .ok (.iload_n 1, 1) := by decide +kernel
theorem dX5_allFeel_33 : decode cX5_allFeel 33 = .ok (.ireturn, 1) := by decide +kernel
theorem dX5_oneDay_0 : decode cX5_oneDay 0 = .ok (.aload_n 0, 1) := by decide +kernel
theorem dX5_oneDay_1 : decode cX5_oneDay 1 = .ok (.iconst 0, 1) := by decide +kernel
theorem dX5_oneDay_2 : decode cX5_oneDay 2 = .ok (.putfield 161, 3) := by decide +kernel
theorem dX5_oneDay_5 : decode cX5_oneDay 5 = .ok (.iconst 0, 1) := by decide +kernel
theorem dX5_oneDay_6 : decode cX5_oneDay 6 = .ok (.istore_n 1, 1) := by decide +kernel
theorem dX5_oneDay_7 : decode cX5_oneDay 7 = .ok (.iload_n 1, 1) := by decide +kernel
theorem dX5_oneDay_8 : decode cX5_oneDay 8 = .ok (.aload_n 0, 1) := by decide +kernel
theorem dX5_oneDay_9 : decode cX5_oneDay 9 = .ok (.getfield 19, 3) := by decide +kernel
theorem dX5_oneDay_12 : decode cX5_oneDay 12 = .ok (.iconst 2, 1) := by decide +kernel
theorem dX5_oneDay_13 : decode cX5_oneDay 13 = .ok (.iaload, 1) := by decide +kernel
theorem dX5_oneDay_14 : decode cX5_oneDay 14 = .ok (.if_icmp .ge 142, 3) := by decide +kernel
theorem dX5_oneDay_17 : decode cX5_oneDay 17 = .ok (.aload_n 0, 1) := by decide +kernel
theorem dX5_oneDay_18 : decode cX5_oneDay 18 = .ok (.iload_n 1, 1) := by decide +kernel
theorem dX5_oneDay_19 : decode cX5_oneDay 19 = .ok (.invokevirtual 164, 3) := by decide +kernel
theorem dX5_oneDay_22 : decode cX5_oneDay 22 = .ok (.istore_n 2, 1) := by decide +kernel
theorem dX5_oneDay_23 : decode cX5_oneDay 23 = .ok (.aload_n 0, 1) := by decide +kernel
theorem dX5_oneDay_24 : decode cX5_oneDay 24 = .ok (.iload_n 1, 1) := by decide +kernel
theorem dX5_oneDay_25 : decode cX5_oneDay 25 = .ok (.invokevirtual 155, 3) := by decide +kernel
theorem dX5_oneDay_28 : decode cX5_oneDay 28 = .ok (.ifCond .ne 7, 3) := by decide +kernel
theorem dX5_oneDay_31 : decode cX5_oneDay 31 = .ok (.iconst 1, 1) := by decide +kernel
theorem dX5_oneDay_32 : decode cX5_oneDay 32 = .ok (.goto 4, 3) := by decide +kernel
theorem dX5_oneDay_35 : decode cX5_oneDay 35 = .ok (.iconst 0, 1) := by decide +kernel
theorem dX5_oneDay_36 : decode cX5_oneDay 36 = .ok (.istore_n 3, 1) := by decide +kernel
theorem dX5_oneDay_37 : decode cX5_oneDay 37 = .ok (.iload_n 3, 1) := by decide +kernel
theorem dX5_oneDay_38 : decode cX5_oneDay 38 = .ok (.ifCond .ne 20, 3) := by decide +kernel
theorem dX5_oneDay_41 : decode cX5_oneDay 41 = .ok (.iload_n 2, 1) := by decide +kernel
theorem dX5_oneDay_42 : decode cX5_oneDay 42 = .ok (.aload_n 0, 1) := by decide +kernel
theorem dX5_oneDay_43 : decode cX5_oneDay 43 = .ok (.getfield 19, 3) := by decide +kernel
theorem dX5_oneDay_46 : decode cX5_oneDay 46 = .ok (.bipush 11, 2) := by decide +kernel
theorem dX5_oneDay_48 : decode cX5_oneDay 48 = .ok (.iload_n 1, 1) := by decide +kernel
theorem dX5_oneDay_49 : decode cX5_oneDay 49 = .ok (.iadd, 1) := by decide +kernel
theorem dX5_oneDay_50 : decode cX5_oneDay 50 = .ok (.iaload, 1) := by decide +kernel
theorem dX5_oneDay_51 : decode cX5_oneDay 51 = .ok (.if_icmp .gt 7, 3) := by decide +kernel
theorem dX5_oneDay_54 : decode cX5_oneDay 54 = .ok (.iconst 1, 1) := by decide +kernel
theorem dX5_oneDay_55 : decode cX5_oneDay 55 = .ok (.goto 4, 3) := by decide +kernel
theorem dX5_oneDay_58 : decode cX5_oneDay 58 = .ok (.iconst 0, 1) := by decide +kernel
theorem dX5_oneDay_59 : decode cX5_oneDay 59 = .ok (.istore 4, 2) := by decide +kernel
theorem dX5_oneDay_61 : decode cX5_oneDay 61 = .ok (.aload_n 0, 1) := by decide +kernel
theorem dX5_oneDay_62 : decode cX5_oneDay 62 = .ok (.getfield 19, 3) := by decide +kernel
theorem dX5_oneDay_65 : decode cX5_oneDay 65 = .ok (.bipush 6, 2) := by decide +kernel
theorem dX5_oneDay_67 : decode cX5_oneDay 67 = .ok (.iload_n 1, 1) := by decide +kernel
theorem dX5_oneDay_68 : decode cX5_oneDay 68 = .ok (.iadd, 1) := by decide +kernel
theorem dX5_oneDay_69 : decode cX5_oneDay 69 = .ok (.iaload, 1) := by decide +kernel
theorem dX5_oneDay_70 : decode cX5_oneDay 70 = .ok (.iload_n 3, 1) := by decide +kernel
theorem dX5_oneDay_71 : decode cX5_oneDay 71 = .ok (.ifCond .eq 7, 3) := by decide +kernel
theorem dX5_oneDay_74 : decode cX5_oneDay 74 = .ok (.iconst (-1), 1) := by decide +kernel
theorem dX5_oneDay_75 : decode cX5_oneDay 75 = .ok (.goto 19, 3) := by decide +kernel
theorem dX5_oneDay_78 : decode cX5_oneDay 78 = .ok (.iload 4, 2) := by decide +kernel
theorem dX5_oneDay_80 : decode cX5_oneDay 80 = .ok (.ifCond .eq 13, 3) := by decide +kernel
theorem dX5_oneDay_83 : decode cX5_oneDay 83 = .ok (.aload_n 0, 1) := by decide +kernel
theorem dX5_oneDay_84 : decode cX5_oneDay 84 = .ok (.getfield 19, 3) := by decide +kernel
theorem dX5_oneDay_87 : decode cX5_oneDay 87 = .ok (.iconst 0, 1) := by decide +kernel
theorem dX5_oneDay_88 : decode cX5_oneDay 88 = .ok (.iaload, 1) := by decide +kernel
theorem dX5_oneDay_89 : decode cX5_oneDay 89 = .ok (.ineg, 1) := by decide +kernel
theorem dX5_oneDay_90 : decode cX5_oneDay 90 = .ok (.goto 4, 3) := by decide +kernel
theorem dX5_oneDay_93 : decode cX5_oneDay 93 = .ok (.iload_n 2, 1) := by decide +kernel
theorem dX5_oneDay_94 : decode cX5_oneDay 94 = .ok (.iadd, 1) := by decide +kernel
theorem dX5_oneDay_95 : decode cX5_oneDay 95 = .ok (.istore 5, 2) := by decide +kernel
theorem dX5_oneDay_97 : decode cX5_oneDay 97 = .ok (.aload_n 0, 1) := by decide +kernel
theorem dX5_oneDay_98 : decode cX5_oneDay 98 = .ok (.dup, 1) := by decide +kernel
theorem dX5_oneDay_99 : decode cX5_oneDay 99 = .ok (.getfield 161, 3) := by decide +kernel
theorem dX5_oneDay_102 : decode cX5_oneDay 102 = .ok (.iload 4, 2) := by decide +kernel
theorem dX5_oneDay_104 : decode cX5_oneDay 104 = .ok (.ifCond .eq 9, 3) := by decide +kernel
theorem dX5_oneDay_107 : decode cX5_oneDay 107 = .ok (.iconst 1, 1) := by decide +kernel
theorem dX5_oneDay_108 : decode cX5_oneDay 108 = .ok (.iload_n 1, 1) := by decide +kernel
theorem dX5_oneDay_109 : decode cX5_oneDay 109 = .ok (.ishl, 1) := by decide +kernel
theorem dX5_oneDay_110 : decode cX5_oneDay 110 = .ok (.goto 4, 3) := by decide +kernel
theorem dX5_oneDay_113 : decode cX5_oneDay 113 = .ok (.iconst 0, 1) := by decide +kernel
theorem dX5_oneDay_114 : decode cX5_oneDay 114 = .ok (.ior, 1) := by decide +kernel
theorem dX5_oneDay_115 : decode cX5_oneDay 115 = .ok (.putfield 161, 3) := by decide +kernel
theorem dX5_oneDay_118 : decode cX5_oneDay 118 = .ok (.aload_n 0, 1) := by decide +kernel
theorem dX5_oneDay_119 : decode cX5_oneDay 119 = .ok (.getfield 19, 3) := by decide +kernel
theorem dX5_oneDay_122 : decode cX5_oneDay 122 = .ok (.bipush 6, 2) := by decide +kernel
theorem dX5_oneDay_124 : decode cX5_oneDay 124 = .ok (.iload_n 1, 1) := by decide +kernel
theorem dX5_oneDay_125 : decode cX5_oneDay 125 = .ok (.iadd, 1) := by decide +kernel
theorem dX5_oneDay_126 : decode cX5_oneDay 126 = .ok (.iload 5, 2) := by decide +kernel
theorem dX5_oneDay_128 : decode cX5_oneDay 128 = .ok (.ifCond .ge 7, 3) := by decide +kernel
theorem dX5_oneDay_131 : decode cX5_oneDay 131 = .ok (.iconst 0, 1) := by decide +kernel
theorem dX5_oneDay_132 : decode cX5_oneDay 132 = .ok (.goto 17, 3) := by decide +kernel
theorem dX5_oneDay_135 : decode cX5_oneDay 135 = .ok (.iload 5, 2) := by decide +kernel
theorem dX5_oneDay_137 : decode cX5_oneDay 137 = .ok (.bipush 99, 2) := by decide +kernel
theorem dX5_oneDay_139 : decode cX5_oneDay 139 = .ok (.if_icmp .le 8, 3) := by decide +kernel
theorem dX5_oneDay_142 : decode cX5_oneDay 142 = .ok (.bipush 99, 2) := by decide +kernel
theorem dX5_oneDay_144 : decode cX5_oneDay 144 = .ok (.goto 5, 3) := by decide +kernel
theorem dX5_oneDay_147 : decode cX5_oneDay 147 = .ok (.iload 5, 2) := by decide +kernel
theorem dX5_oneDay_149 : decode cX5_oneDay 149 = .ok (.iastore, 1) := by decide +kernel
theorem dX5_oneDay_150 : decode cX5_oneDay 150 = .ok (.iinc 1 1, 3) := by decide +kernel
theorem dX5_oneDay_153 : decode cX5_oneDay 153 = .ok (.goto (-146), 3) := by decide +kernel
theorem dX5_oneDay_156 : decode cX5_oneDay 156 = .ok (.iconst 0, 1) := by decide +kernel
theorem dX5_oneDay_157 : decode cX5_oneDay 157 = .ok (.istore_n 1, 1) := by decide +kernel
theorem dX5_oneDay_158 : decode cX5_oneDay 158 = .ok (.iload_n 1, 1) := by decide +kernel
theorem dX5_oneDay_159 : decode cX5_oneDay 159 = .ok (.aload_n 0, 1) := by decide +kernel
theorem dX5_oneDay_160 : decode cX5_oneDay 160 = .ok (.getfield 19, 3) := by decide +kernel
theorem dX5_oneDay_163 : decode cX5_oneDay 163 = .ok (.iconst 3, 1) := by decide +kernel
theorem dX5_oneDay_164 : decode cX5_oneDay 164 = .ok (.iaload, 1) := by decide +kernel
theorem dX5_oneDay_165 : decode cX5_oneDay 165 = .ok (.if_icmp .ge 45, 3) := by decide +kernel
theorem dX5_oneDay_168 : decode cX5_oneDay 168 = .ok (.aload_n 0, 1) := by decide +kernel
theorem dX5_oneDay_169 : decode cX5_oneDay 169 = .ok (.getfield 19, 3) := by decide +kernel
theorem dX5_oneDay_172 : decode cX5_oneDay 172 = .ok (.bipush 40, 2) := by decide +kernel
theorem dX5_oneDay_174 : decode cX5_oneDay 174 = .ok (.iconst 5, 1) := by decide +kernel
theorem dX5_oneDay_175 : decode cX5_oneDay 175 = .ok (.iload_n 1, 1) := by decide +kernel
theorem dX5_oneDay_176 : decode cX5_oneDay 176 = .ok (.imul, 1) := by decide +kernel
theorem dX5_oneDay_177 : decode cX5_oneDay 177 = .ok (.iadd, 1) := by decide +kernel
theorem dX5_oneDay_178 : decode cX5_oneDay 178 = .ok (.aload_n 0, 1) := by decide +kernel
theorem dX5_oneDay_179 : decode cX5_oneDay 179 = .ok (.iload_n 1, 1) := by decide +kernel
theorem dX5_oneDay_180 : decode cX5_oneDay 180 = .ok (.invokevirtual 142, 3) := by decide +kernel
theorem dX5_oneDay_183 : decode cX5_oneDay 183 = .ok (.iadd, 1) := by decide +kernel
theorem dX5_oneDay_184 : decode cX5_oneDay 184 = .ok (.dup2, 1) := by decide +kernel
theorem dX5_oneDay_185 : decode cX5_oneDay 185 = .ok (.iaload, 1) := by decide +kernel
theorem dX5_oneDay_186 : decode cX5_oneDay 186 = .ok (.aload_n 0, 1) := by decide +kernel
theorem dX5_oneDay_187 : decode cX5_oneDay 187 = .ok (.getfield 148, 3) := by decide +kernel
theorem dX5_oneDay_190 : decode cX5_oneDay 190 = .ok (.iload_n 1, 1) := by decide +kernel
theorem dX5_oneDay_191 : decode cX5_oneDay 191 = .ok (.invokestatic 151, 3) := by decide +kernel
theorem dX5_oneDay_194 : decode cX5_oneDay 194 = .ok (.ifCond .eq 7, 3) := by decide +kernel
theorem dX5_oneDay_197 : decode cX5_oneDay 197 = .ok (.iconst 0, 1) := by decide +kernel
theorem dX5_oneDay_198 : decode cX5_oneDay 198 = .ok (.goto 4, 3) := by decide +kernel
theorem dX5_oneDay_201 : decode cX5_oneDay 201 = .ok (.iconst 1, 1) := by decide +kernel
theorem dX5_oneDay_202 : decode cX5_oneDay 202 = .ok (.iadd, 1) := by decide +kernel
theorem dX5_oneDay_203 : decode cX5_oneDay 203 = .ok (.iastore, 1) := by decide +kernel
theorem dX5_oneDay_204 : decode cX5_oneDay 204 = .ok (.iinc 1 1, 3) := by decide +kernel
theorem dX5_oneDay_207 : decode cX5_oneDay 207 = .ok (.goto (-49), 3) := by decide +kernel
theorem dX5_oneDay_210 : decode cX5_oneDay 210 = .ok (.aload_n 0, 1) := by decide +kernel
theorem dX5_oneDay_211 : decode cX5_oneDay 211 = .ok (.getfield 19, 3) := by decide +kernel
theorem dX5_oneDay_214 : decode cX5_oneDay 214 = .ok (.iconst 4, 1) := by decide +kernel
theorem dX5_oneDay_215 : decode cX5_oneDay 215 = .ok (.dup2, 1) := by decide +kernel
theorem dX5_oneDay_216 : decode cX5_oneDay 216 = .ok (.iaload, 1) := by decide +kernel
theorem dX5_oneDay_217 : decode cX5_oneDay 217 = .ok (.iconst 1, 1) := by decide +kernel
theorem dX5_oneDay_218 : decode cX5_oneDay 218 = .ok (.iadd, 1) := by decide +kernel
theorem dX5_oneDay_219 : decode cX5_oneDay 219 = .ok (.iastore, 1) := by decide +kernel
theorem dX5_oneDay_220 : decode cX5_oneDay 220 = .ok (.return_, 1) := by decide +kernel
theorem dX5_sendTo_0 : decode cX5_sendTo 0 = .ok (.aload_n 0, 1) := by decide +kernel
theorem dX5_sendTo_1 : decode cX5_sendTo 1 = .ok (.getfield 19, 3) := by decide +kernel
theorem dX5_sendTo_4 : decode cX5_sendTo 4 = .ok (.bipush 22, 2) := by decide +kernel
theorem dX5_sendTo_6 : decode cX5_sendTo 6 = .ok (.iload_n 1, 1) := by decide +kernel
theorem dX5_sendTo_7 : decode cX5_sendTo 7 = .ok (.iadd, 1) := by decide +kernel
theorem dX5_sendTo_8 : decode cX5_sendTo 8 = .ok (.iload_n 2, 1) := by decide +kernel
theorem dX5_sendTo_9 : decode cX5_sendTo 9 = .ok (.iastore, 1) := by decide +kernel
theorem dX5_sendTo_10 : decode cX5_sendTo 10 = .ok (.iconst 0, 1) := by decide +kernel
theorem dX5_sendTo_11 : decode cX5_sendTo 11 = .ok (.istore_n 3, 1) := by decide +kernel
theorem dX5_sendTo_12 : decode cX5_sendTo 12 = .ok (.iload_n 3, 1) := by decide +kernel
theorem dX5_sendTo_13 : decode cX5_sendTo 13 = .ok (.iconst 5, 1) := by decide +kernel
theorem dX5_sendTo_14 : decode cX5_sendTo 14 = .ok (.if_icmp .ge 23, 3) := by decide +kernel
theorem dX5_sendTo_17 : decode cX5_sendTo 17 = .ok (.aload_n 0, 1) := by decide +kernel
theorem dX5_sendTo_18 : decode cX5_sendTo 18 = .ok (.getfield 19, 3) := by decide +kernel
theorem dX5_sendTo_21 : decode cX5_sendTo 21 = .ok (.bipush 40, 2) := by decide +kernel
theorem dX5_sendTo_23 : decode cX5_sendTo 23 = .ok (.iconst 5, 1) := by decide +kernel
theorem dX5_sendTo_24 : decode cX5_sendTo 24 = .ok (.iload_n 1, 1) := by decide +kernel
theorem dX5_sendTo_25 : decode cX5_sendTo 25 = .ok (.imul, 1) := by decide +kernel
theorem dX5_sendTo_26 : decode cX5_sendTo 26 = .ok (.iadd, 1) := by decide +kernel
theorem dX5_sendTo_27 : decode cX5_sendTo 27 = .ok (.iload_n 3, 1) := by decide +kernel
theorem dX5_sendTo_28 : decode cX5_sendTo 28 = .ok (.iadd, 1) := by decide +kernel
theorem dX5_sendTo_29 : decode cX5_sendTo 29 = .ok (.iconst 0, 1) := by decide +kernel
theorem dX5_sendTo_30 : decode cX5_sendTo 30 = .ok (.iastore, 1) := by decide +kernel
theorem dX5_sendTo_31 : decode cX5_sendTo 31 = .ok (.iinc 3 1, 3) := by decide +kernel
theorem dX5_sendTo_34 : decode cX5_sendTo 34 = .ok (.goto (-22), 3) := by decide +kernel
theorem dX5_sendTo_37 : decode cX5_sendTo 37 = .ok (.return_, 1) := by decide +kernel
theorem dX5_note_0 : decode cX5_note 0 = .ok (.aload_n 0, 1) := by decide +kernel
theorem dX5_note_1 : decode cX5_note 1 = .ok (.getfield 139, 3) := by decide +kernel
theorem dX5_note_4 : decode cX5_note 4 = .ok (.bipush 24, 2) := by decide +kernel
theorem dX5_note_6 : decode cX5_note 6 = .ok (.if_icmp .ne 43, 3) := by decide +kernel
theorem dX5_note_9 : decode cX5_note 9 = .ok (.iconst 0, 1) := by decide +kernel
theorem dX5_note_10 : decode cX5_note 10 = .ok (.istore_n 1, 1) := by decide +kernel
theorem dX5_note_11 : decode cX5_note 11 = .ok (.iload_n 1, 1) := by decide +kernel
theorem dX5_note_12 : decode cX5_note 12 = .ok (.sipush 1610, 3) := by decide +kernel
theorem dX5_note_15 : decode cX5_note 15 = .ok (.if_icmp .ge 24, 3) := by decide +kernel
theorem dX5_note_18 : decode cX5_note 18 = .ok (.aload_n 0, 1) := by decide +kernel
theorem dX5_note_19 : decode cX5_note 19 = .ok (.getfield 31, 3) := by decide +kernel
theorem dX5_note_22 : decode cX5_note 22 = .ok (.iload_n 1, 1) := by decide +kernel
theorem dX5_note_23 : decode cX5_note 23 = .ok (.aload_n 0, 1) := by decide +kernel
theorem dX5_note_24 : decode cX5_note 24 = .ok (.getfield 31, 3) := by decide +kernel
theorem dX5_note_27 : decode cX5_note 27 = .ok (.iload_n 1, 1) := by decide +kernel
theorem dX5_note_28 : decode cX5_note 28 = .ok (.bipush 70, 2) := by decide +kernel
theorem dX5_note_30 : decode cX5_note 30 = .ok (.iadd, 1) := by decide +kernel
theorem dX5_note_31 : decode cX5_note 31 = .ok (.iaload, 1) := by decide +kernel
theorem dX5_note_32 : decode cX5_note 32 = .ok (.iastore, 1) := by decide +kernel
theorem dX5_note_33 : decode cX5_note 33 = .ok (.iinc 1 1, 3) := by decide +kernel
theorem dX5_note_36 : decode cX5_note 36 = .ok (.goto (-25), 3) := by decide +kernel
theorem dX5_note_39 : decode cX5_note 39 = .ok (.aload_n 0, 1) := by decide +kernel
theorem dX5_note_40 : decode cX5_note 40 = .ok (.dup, 1) := by decide +kernel
theorem dX5_note_41 : decode cX5_note 41 = .ok (.getfield 139, 3) := by decide +kernel
theorem dX5_note_44 : decode cX5_note 44 = .ok (.iconst 1, 1) := by decide +kernel
theorem dX5_note_45 : decode cX5_note 45 = .ok (.isub, 1) := by decide +kernel
theorem dX5_note_46 : decode cX5_note 46 = .ok (.putfield 139, 3) := by decide +kernel
theorem dX5_note_49 : decode cX5_note 49 = .ok (.iconst 0, 1) := by decide +kernel
theorem dX5_note_50 : decode cX5_note 50 = .ok (.istore_n 1, 1) := by decide +kernel
theorem dX5_note_51 : decode cX5_note 51 = .ok (.iload_n 1, 1) := by decide +kernel
theorem dX5_note_52 : decode cX5_note 52 = .ok (.bipush 70, 2) := by decide +kernel
theorem dX5_note_54 : decode cX5_note 54 = .ok (.if_icmp .ge 29, 3) := by decide +kernel
theorem dX5_note_57 : decode cX5_note 57 = .ok (.aload_n 0, 1) := by decide +kernel
theorem dX5_note_58 : decode cX5_note 58 = .ok (.getfield 31, 3) := by decide +kernel
theorem dX5_note_61 : decode cX5_note 61 = .ok (.bipush 70, 2) := by decide +kernel
theorem dX5_note_63 : decode cX5_note 63 = .ok (.aload_n 0, 1) := by decide +kernel
theorem dX5_note_64 : decode cX5_note 64 = .ok (.getfield 139, 3) := by decide +kernel
theorem dX5_note_67 : decode cX5_note 67 = .ok (.imul, 1) := by decide +kernel
theorem dX5_note_68 : decode cX5_note 68 = .ok (.iload_n 1, 1) := by decide +kernel
theorem dX5_note_69 : decode cX5_note 69 = .ok (.iadd, 1) := by decide +kernel
theorem dX5_note_70 : decode cX5_note 70 = .ok (.aload_n 0, 1) := by decide +kernel
theorem dX5_note_71 : decode cX5_note 71 = .ok (.getfield 19, 3) := by decide +kernel
theorem dX5_note_74 : decode cX5_note 74 = .ok (.iload_n 1, 1) := by decide +kernel
theorem dX5_note_75 : decode cX5_note 75 = .ok (.iaload, 1) := by decide +kernel
theorem dX5_note_76 : decode cX5_note 76 = .ok (.iastore, 1) := by decide +kernel
theorem dX5_note_77 : decode cX5_note 77 = .ok (.iinc 1 1, 3) := by decide +kernel
theorem dX5_note_80 : decode cX5_note 80 = .ok (.goto (-29), 3) := by decide +kernel
theorem dX5_note_83 : decode cX5_note 83 = .ok (.aload_n 0, 1) := by decide +kernel
theorem dX5_note_84 : decode cX5_note 84 = .ok (.dup, 1) := by decide +kernel
theorem dX5_note_85 : decode cX5_note 85 = .ok (.getfield 139, 3) := by decide +kernel
theorem dX5_note_88 : decode cX5_note 88 = .ok (.iconst 1, 1) := by decide +kernel
theorem dX5_note_89 : decode cX5_note 89 = .ok (.iadd, 1) := by decide +kernel
theorem dX5_note_90 : decode cX5_note 90 = .ok (.putfield 139, 3) := by decide +kernel
theorem dX5_note_93 : decode cX5_note 93 = .ok (.return_, 1) := by decide +kernel
theorem dX5_undo_0 : decode cX5_undo 0 = .ok (.aload_n 0, 1) := by decide +kernel
theorem dX5_undo_1 : decode cX5_undo 1 = .ok (.getfield 139, 3) := by decide +kernel
theorem dX5_undo_4 : decode cX5_undo 4 = .ok (.ifCond .ne 6, 3) := by decide +kernel
theorem dX5_undo_7 : decode cX5_undo 7 = .ok (.ldc 167, 2) := by decide +kernel
theorem dX5_undo_9 : decode cX5_undo 9 = .ok (.ireturn, 1) := by decide +kernel
theorem dX5_undo_10 : decode cX5_undo 10 = .ok (.aload_n 0, 1) := by decide +kernel
theorem dX5_undo_11 : decode cX5_undo 11 = .ok (.dup, 1) := by decide +kernel
theorem dX5_undo_12 : decode cX5_undo 12 = .ok (.getfield 139, 3) := by decide +kernel
theorem dX5_undo_15 : decode cX5_undo 15 = .ok (.iconst 1, 1) := by decide +kernel
theorem dX5_undo_16 : decode cX5_undo 16 = .ok (.isub, 1) := by decide +kernel
theorem dX5_undo_17 : decode cX5_undo 17 = .ok (.putfield 139, 3) := by decide +kernel
theorem dX5_undo_20 : decode cX5_undo 20 = .ok (.iconst 0, 1) := by decide +kernel
theorem dX5_undo_21 : decode cX5_undo 21 = .ok (.istore_n 1, 1) := by decide +kernel
theorem dX5_undo_22 : decode cX5_undo 22 = .ok (.iload_n 1, 1) := by decide +kernel
theorem dX5_undo_23 : decode cX5_undo 23 = .ok (.bipush 70, 2) := by decide +kernel
theorem dX5_undo_25 : decode cX5_undo 25 = .ok (.if_icmp .ge 29, 3) := by decide +kernel
theorem dX5_undo_28 : decode cX5_undo 28 = .ok (.aload_n 0, 1) := by decide +kernel
theorem dX5_undo_29 : decode cX5_undo 29 = .ok (.getfield 19, 3) := by decide +kernel
theorem dX5_undo_32 : decode cX5_undo 32 = .ok (.iload_n 1, 1) := by decide +kernel
theorem dX5_undo_33 : decode cX5_undo 33 = .ok (.aload_n 0, 1) := by decide +kernel
theorem dX5_undo_34 : decode cX5_undo 34 = .ok (.getfield 31, 3) := by decide +kernel
theorem dX5_undo_37 : decode cX5_undo 37 = .ok (.bipush 70, 2) := by decide +kernel
theorem dX5_undo_39 : decode cX5_undo 39 = .ok (.aload_n 0, 1) := by decide +kernel
theorem dX5_undo_40 : decode cX5_undo 40 = .ok (.getfield 139, 3) := by decide +kernel
theorem dX5_undo_43 : decode cX5_undo 43 = .ok (.imul, 1) := by decide +kernel
theorem dX5_undo_44 : decode cX5_undo 44 = .ok (.iload_n 1, 1) := by decide +kernel
theorem dX5_undo_45 : decode cX5_undo 45 = .ok (.iadd, 1) := by decide +kernel
theorem dX5_undo_46 : decode cX5_undo 46 = .ok (.iaload, 1) := by decide +kernel
theorem dX5_undo_47 : decode cX5_undo 47 = .ok (.iastore, 1) := by decide +kernel
theorem dX5_undo_48 : decode cX5_undo 48 = .ok (.iinc 1 1, 3) := by decide +kernel
theorem dX5_undo_51 : decode cX5_undo 51 = .ok (.goto (-29), 3) := by decide +kernel
theorem dX5_undo_54 : decode cX5_undo 54 = .ok (.aload_n 0, 1) := by decide +kernel
theorem dX5_undo_55 : decode cX5_undo 55 = .ok (.getfield 139, 3) := by decide +kernel
theorem dX5_undo_58 : decode cX5_undo 58 = .ok (.ireturn, 1) := by decide +kernel
theorem dX5_days_0 : decode cX5_days 0 = .ok (.aload_n 0, 1) := by decide +kernel
theorem dX5_days_1 : decode cX5_days 1 = .ok (.getfield 135, 3) := by decide +kernel
theorem dX5_days_4 : decode cX5_days 4 = .ok (.ifCond .ne 6, 3) := by decide +kernel
theorem dX5_days_7 : decode cX5_days 7 = .ok (.ldc 167, 2) := by decide +kernel
theorem dX5_days_9 : decode cX5_days 9 = .ok (.ireturn, 1) := by decide +kernel
theorem dX5_days_10 : decode cX5_days 10 = .ok (.iload_n 1, 1) := by decide +kernel
theorem dX5_days_11 : decode cX5_days 11 = .ok (.i2l, 1) := by decide +kernel
theorem dX5_days_12 : decode cX5_days 12 = .ok (.lconst 1, 1) := by decide +kernel
theorem dX5_days_13 : decode cX5_days 13 = .ok (.ldc2_w 168, 3) := by decide +kernel
theorem dX5_days_16 : decode cX5_days 16 = .ok (.invokestatic 54, 3) := by decide +kernel
theorem dX5_days_19 : decode cX5_days 19 = .ok (.ifCond .ne 6, 3) := by decide +kernel
theorem dX5_days_22 : decode cX5_days 22 = .ok (.ldc 64, 2) := by decide +kernel
theorem dX5_days_24 : decode cX5_days 24 = .ok (.ireturn, 1) := by decide +kernel
theorem dX5_days_25 : decode cX5_days 25 = .ok (.aload_n 0, 1) := by decide +kernel
theorem dX5_days_26 : decode cX5_days 26 = .ok (.getfield 19, 3) := by decide +kernel
theorem dX5_days_29 : decode cX5_days 29 = .ok (.iconst 4, 1) := by decide +kernel
theorem dX5_days_30 : decode cX5_days 30 = .ok (.iaload, 1) := by decide +kernel
theorem dX5_days_31 : decode cX5_days 31 = .ok (.iload_n 1, 1) := by decide +kernel
theorem dX5_days_32 : decode cX5_days 32 = .ok (.iadd, 1) := by decide +kernel
theorem dX5_days_33 : decode cX5_days 33 = .ok (.sipush 999, 3) := by decide +kernel
theorem dX5_days_36 : decode cX5_days 36 = .ok (.if_icmp .le 6, 3) := by decide +kernel
theorem dX5_days_39 : decode cX5_days 39 = .ok (.ldc 81, 2) := by decide +kernel
theorem dX5_days_41 : decode cX5_days 41 = .ok (.ireturn, 1) := by decide +kernel
theorem dX5_days_42 : decode cX5_days 42 = .ok (.iconst 0, 1) := by decide +kernel
theorem dX5_days_43 : decode cX5_days 43 = .ok (.istore_n 2, 1) := by decide +kernel
theorem dX5_days_44 : decode cX5_days 44 = .ok (.iload_n 2, 1) := by decide +kernel
theorem dX5_days_45 : decode cX5_days 45 = .ok (.iload_n 1, 1) := by decide +kernel
theorem dX5_days_46 : decode cX5_days 46 = .ok (.if_icmp .ge 17, 3) := by decide +kernel
theorem dX5_days_49 : decode cX5_days 49 = .ok (.aload_n 0, 1) := by decide +kernel
theorem dX5_days_50 : decode cX5_days 50 = .ok (.invokevirtual 170, 3) := by decide +kernel
theorem dX5_days_53 : decode cX5_days 53 = .ok (.aload_n 0, 1) := by decide +kernel
theorem dX5_days_54 : decode cX5_days 54 = .ok (.invokevirtual 173, 3) := by decide +kernel
theorem dX5_days_57 : decode cX5_days 57 = .ok (.iinc 2 1, 3) := by decide +kernel
theorem dX5_days_60 : decode cX5_days 60 = .ok (.goto (-16), 3) := by decide +kernel
theorem dX5_days_63 : decode cX5_days 63 = .ok (.aload_n 0, 1) := by decide +kernel
theorem dX5_days_64 : decode cX5_days 64 = .ok (.invokevirtual 176, 3) := by decide +kernel
theorem dX5_days_67 : decode cX5_days 67 = .ok (.ireturn, 1) := by decide +kernel
theorem dX5_send_0 : decode cX5_send 0 = .ok (.aload_n 0, 1) := by decide +kernel
theorem dX5_send_1 : decode cX5_send 1 = .ok (.iload_n 1, 1) := by decide +kernel
theorem dX5_send_2 : decode cX5_send 2 = .ok (.invokevirtual 180, 3) := by decide +kernel
theorem dX5_send_5 : decode cX5_send 5 = .ok (.ifCond .eq 11, 3) := by decide +kernel
theorem dX5_send_8 : decode cX5_send 8 = .ok (.aload_n 0, 1) := by decide +kernel
theorem dX5_send_9 : decode cX5_send 9 = .ok (.iload_n 2, 1) := by decide +kernel
theorem dX5_send_10 : decode cX5_send 10 = .ok (.invokevirtual 183, 3) := by decide +kernel
theorem dX5_send_13 : decode cX5_send 13 = .ok (.ifCond .ne 6, 3) := by decide +kernel
theorem dX5_send_16 : decode cX5_send 16 = .ok (.ldc 64, 2) := by decide +kernel
theorem dX5_send_18 : decode cX5_send 18 = .ok (.ireturn, 1) := by decide +kernel
theorem dX5_send_19 : decode cX5_send 19 = .ok (.aload_n 0, 1) := by decide +kernel
theorem dX5_send_20 : decode cX5_send 20 = .ok (.invokevirtual 170, 3) := by decide +kernel
theorem dX5_send_23 : decode cX5_send 23 = .ok (.aload_n 0, 1) := by decide +kernel
theorem dX5_send_24 : decode cX5_send 24 = .ok (.getfield 19, 3) := by decide +kernel
theorem dX5_send_27 : decode cX5_send 27 = .ok (.bipush 22, 2) := by decide +kernel
theorem dX5_send_29 : decode cX5_send 29 = .ok (.iload_n 1, 1) := by decide +kernel
theorem dX5_send_30 : decode cX5_send 30 = .ok (.iadd, 1) := by decide +kernel
theorem dX5_send_31 : decode cX5_send 31 = .ok (.iaload, 1) := by decide +kernel
theorem dX5_send_32 : decode cX5_send 32 = .ok (.istore_n 3, 1) := by decide +kernel
theorem dX5_send_33 : decode cX5_send 33 = .ok (.aload_n 0, 1) := by decide +kernel
theorem dX5_send_34 : decode cX5_send 34 = .ok (.iload_n 1, 1) := by decide +kernel
theorem dX5_send_35 : decode cX5_send 35 = .ok (.iload_n 2, 1) := by decide +kernel
theorem dX5_send_36 : decode cX5_send 36 = .ok (.invokevirtual 186, 3) := by decide +kernel
theorem dX5_send_39 : decode cX5_send 39 = .ok (.iload_n 3, 1) := by decide +kernel
theorem dX5_send_40 : decode cX5_send 40 = .ok (.ireturn, 1) := by decide +kernel
theorem dX5_weight_0 : decode cX5_weight 0 = .ok (.aload_n 0, 1) := by decide +kernel
theorem dX5_weight_1 : decode cX5_weight 1 = .ok (.iload_n 1, 1) := by decide +kernel
theorem dX5_weight_2 : decode cX5_weight 2 = .ok (.invokevirtual 180, 3) := by decide +kernel
theorem dX5_weight_5 : decode cX5_weight 5 = .ok (.ifCond .eq 15, 3) := by decide +kernel
theorem dX5_weight_8 : decode cX5_weight 8 = .ok (.iload_n 2, 1) := by decide +kernel
theorem dX5_weight_9 : decode cX5_weight 9 = .ok (.i2l, 1) := by decide +kernel
theorem dX5_weight_10 : decode cX5_weight 10 = .ok (.lconst 1, 1) := by decide +kernel
theorem dX5_weight_11 : decode cX5_weight 11 = .ok (.ldc2_w 190, 3) := by decide +kernel
theorem dX5_weight_14 : decode cX5_weight 14 = .ok (.invokestatic 54, 3) := by decide +kernel
theorem dX5_weight_17 : decode cX5_weight 17 = .ok (.ifCond .ne 6, 3) := by decide +kernel
theorem dX5_weight_20 : decode cX5_weight 20 = .ok (.ldc 64, 2) := by decide +kernel
theorem dX5_weight_22 : decode cX5_weight 22 = .ok (.ireturn, 1) := by decide +kernel
theorem dX5_weight_23 : decode cX5_weight 23 = .ok (.aload_n 0, 1) := by decide +kernel
theorem dX5_weight_24 : decode cX5_weight 24 = .ok (.invokevirtual 170, 3) := by decide +kernel
theorem dX5_weight_27 : decode cX5_weight 27 = .ok (.aload_n 0, 1) := by decide +kernel
theorem dX5_weight_28 : decode cX5_weight 28 = .ok (.getfield 19, 3) := by decide +kernel
theorem dX5_weight_31 : decode cX5_weight 31 = .ok (.bipush 28, 2) := by decide +kernel
theorem dX5_weight_33 : decode cX5_weight 33 = .ok (.iload_n 1, 1) := by decide +kernel
theorem dX5_weight_34 : decode cX5_weight 34 = .ok (.iadd, 1) := by decide +kernel
theorem dX5_weight_35 : decode cX5_weight 35 = .ok (.iaload, 1) := by decide +kernel
theorem dX5_weight_36 : decode cX5_weight 36 = .ok (.istore_n 3, 1) := by decide +kernel
theorem dX5_weight_37 : decode cX5_weight 37 = .ok (.aload_n 0, 1) := by decide +kernel
theorem dX5_weight_38 : decode cX5_weight 38 = .ok (.getfield 19, 3) := by decide +kernel
theorem dX5_weight_41 : decode cX5_weight 41 = .ok (.bipush 28, 2) := by decide +kernel
theorem dX5_weight_43 : decode cX5_weight 43 = .ok (.iload_n 1, 1) := by decide +kernel
theorem dX5_weight_44 : decode cX5_weight 44 = .ok (.iadd, 1) := by decide +kernel
theorem dX5_weight_45 : decode cX5_weight 45 = .ok (.iload_n 2, 1) := by decide +kernel
theorem dX5_weight_46 : decode cX5_weight 46 = .ok (.iastore, 1) := by decide +kernel
theorem dX5_weight_47 : decode cX5_weight 47 = .ok (.iload_n 3, 1) := by decide +kernel
theorem dX5_weight_48 : decode cX5_weight 48 = .ok (.ireturn, 1) := by decide +kernel
theorem dX5_bar_0 : decode cX5_bar 0 = .ok (.aload_n 0, 1) := by decide +kernel
theorem dX5_bar_1 : decode cX5_bar 1 = .ok (.iload_n 1, 1) := by decide +kernel
theorem dX5_bar_2 : decode cX5_bar 2 = .ok (.invokevirtual 183, 3) := by decide +kernel
theorem dX5_bar_5 : decode cX5_bar 5 = .ok (.ifCond .eq 13, 3) := by decide +kernel
theorem dX5_bar_8 : decode cX5_bar 8 = .ok (.iload_n 2, 1) := by decide +kernel
theorem dX5_bar_9 : decode cX5_bar 9 = .ok (.i2l, 1) := by decide +kernel
theorem dX5_bar_10 : decode cX5_bar 10 = .ok (.lconst 0, 1) := by decide +kernel
theorem dX5_bar_11 : decode cX5_bar 11 = .ok (.lconst 1, 1) := by decide +kernel
theorem dX5_bar_12 : decode cX5_bar 12 = .ok (.invokestatic 54, 3) := by decide +kernel
theorem dX5_bar_15 : decode cX5_bar 15 = .ok (.ifCond .ne 6, 3) := by decide +kernel
theorem dX5_bar_18 : decode cX5_bar 18 = .ok (.ldc 64, 2) := by decide +kernel
theorem dX5_bar_20 : decode cX5_bar 20 = .ok (.ireturn, 1) := by decide +kernel
theorem dX5_bar_21 : decode cX5_bar 21 = .ok (.aload_n 0, 1) := by decide +kernel
theorem dX5_bar_22 : decode cX5_bar 22 = .ok (.getfield 19, 3) := by decide +kernel
theorem dX5_bar_25 : decode cX5_bar 25 = .ok (.iconst 5, 1) := by decide +kernel
theorem dX5_bar_26 : decode cX5_bar 26 = .ok (.iaload, 1) := by decide +kernel
theorem dX5_bar_27 : decode cX5_bar 27 = .ok (.iload_n 1, 1) := by decide +kernel
theorem dX5_bar_28 : decode cX5_bar 28 = .ok (.invokestatic 151, 3) := by decide +kernel
theorem dX5_bar_31 : decode cX5_bar 31 = .ok (.iload_n 2, 1) := by decide +kernel
theorem dX5_bar_32 : decode cX5_bar 32 = .ok (.iconst 1, 1) := by decide +kernel
theorem dX5_bar_33 : decode cX5_bar 33 = .ok (.if_icmp .ne 7, 3) := by decide +kernel
theorem dX5_bar_36 : decode cX5_bar 36 = .ok (.iconst 1, 1) := by decide +kernel
theorem dX5_bar_37 : decode cX5_bar 37 = .ok (.goto 4, 3) := by decide +kernel
theorem dX5_bar_40 : decode cX5_bar 40 = .ok (.iconst 0, 1) := by decide +kernel
theorem dX5_bar_41 : decode cX5_bar 41 = .ok (.if_icmp .ne 6, 3) := by decide +kernel
theorem dX5_bar_44 : decode cX5_bar 44 = .ok (.ldc 167, 2) := by decide +kernel
theorem dX5_bar_46 : decode cX5_bar 46 = .ok (.ireturn, 1) := by decide +kernel
theorem dX5_bar_47 : decode cX5_bar 47 = .ok (.aload_n 0, 1) := by decide +kernel
theorem dX5_bar_48 : decode cX5_bar 48 = .ok (.invokevirtual 170, 3) := by decide +kernel
theorem dX5_bar_51 : decode cX5_bar 51 = .ok (.aload_n 0, 1) := by decide +kernel
theorem dX5_bar_52 : decode cX5_bar 52 = .ok (.getfield 19, 3) := by decide +kernel
theorem dX5_bar_55 : decode cX5_bar 55 = .ok (.iconst 5, 1) := by decide +kernel
theorem dX5_bar_56 : decode cX5_bar 56 = .ok (.dup2, 1) := by decide +kernel
theorem dX5_bar_57 : decode cX5_bar 57 = .ok (.iaload, 1) := by decide +kernel
theorem dX5_bar_58 : decode cX5_bar 58 = .ok (.iconst 1, 1) := by decide +kernel
theorem dX5_bar_59 : decode cX5_bar 59 = .ok (.iload_n 1, 1) := by decide +kernel
theorem dX5_bar_60 : decode cX5_bar 60 = .ok (.ishl, 1) := by decide +kernel
theorem dX5_bar_61 : decode cX5_bar 61 = .ok (.ixor, 1) := by decide +kernel
theorem dX5_bar_62 : decode cX5_bar 62 = .ok (.iastore, 1) := by decide +kernel
theorem dX5_bar_63 : decode cX5_bar 63 = .ok (.aload_n 0, 1) := by decide +kernel
theorem dX5_bar_64 : decode cX5_bar 64 = .ok (.getfield 19, 3) := by decide +kernel
theorem dX5_bar_67 : decode cX5_bar 67 = .ok (.iconst 5, 1) := by decide +kernel
theorem dX5_bar_68 : decode cX5_bar 68 = .ok (.iaload, 1) := by decide +kernel
theorem dX5_bar_69 : decode cX5_bar 69 = .ok (.ireturn, 1) := by decide +kernel
theorem dX5_patience_0 : decode cX5_patience 0 = .ok (.aload_n 0, 1) := by decide +kernel
theorem dX5_patience_1 : decode cX5_patience 1 = .ok (.iload_n 1, 1) := by decide +kernel
theorem dX5_patience_2 : decode cX5_patience 2 = .ok (.invokevirtual 183, 3) := by decide +kernel
theorem dX5_patience_5 : decode cX5_patience 5 = .ok (.ifCond .eq 15, 3) := by decide +kernel
theorem dX5_patience_8 : decode cX5_patience 8 = .ok (.iload_n 2, 1) := by decide +kernel
theorem dX5_patience_9 : decode cX5_patience 9 = .ok (.i2l, 1) := by decide +kernel
theorem dX5_patience_10 : decode cX5_patience 10 = .ok (.lconst 0, 1) := by decide +kernel
theorem dX5_patience_11 : decode cX5_patience 11 = .ok (.ldc2_w 190, 3) := by decide +kernel
theorem dX5_patience_14 : decode cX5_patience 14 = .ok (.invokestatic 54, 3) := by decide +kernel
theorem dX5_patience_17 : decode cX5_patience 17 = .ok (.ifCond .ne 6, 3) := by decide +kernel
theorem dX5_patience_20 : decode cX5_patience 20 = .ok (.ldc 64, 2) := by decide +kernel
theorem dX5_patience_22 : decode cX5_patience 22 = .ok (.ireturn, 1) := by decide +kernel
theorem dX5_patience_23 : decode cX5_patience 23 = .ok (.aload_n 0, 1) := by decide +kernel
theorem dX5_patience_24 : decode cX5_patience 24 = .ok (.invokevirtual 170, 3) := by decide +kernel
theorem dX5_patience_27 : decode cX5_patience 27 = .ok (.aload_n 0, 1) := by decide +kernel
theorem dX5_patience_28 : decode cX5_patience 28 = .ok (.getfield 19, 3) := by decide +kernel
theorem dX5_patience_31 : decode cX5_patience 31 = .ok (.bipush 11, 2) := by decide +kernel
theorem dX5_patience_33 : decode cX5_patience 33 = .ok (.iload_n 1, 1) := by decide +kernel
theorem dX5_patience_34 : decode cX5_patience 34 = .ok (.iadd, 1) := by decide +kernel
theorem dX5_patience_35 : decode cX5_patience 35 = .ok (.iaload, 1) := by decide +kernel
theorem dX5_patience_36 : decode cX5_patience 36 = .ok (.istore_n 3, 1) := by decide +kernel
theorem dX5_patience_37 : decode cX5_patience 37 = .ok (.aload_n 0, 1) := by decide +kernel
theorem dX5_patience_38 : decode cX5_patience 38 = .ok (.getfield 19, 3) := by decide +kernel
theorem dX5_patience_41 : decode cX5_patience 41 = .ok (.bipush 11, 2) := by decide +kernel
theorem dX5_patience_43 : decode cX5_patience 43 = .ok (.iload_n 1, 1) := by decide +kernel
theorem dX5_patience_44 : decode cX5_patience 44 = .ok (.iadd, 1) := by decide +kernel
theorem dX5_patience_45 : decode cX5_patience 45 = .ok (.iload_n 2, 1) := by decide +kernel
theorem dX5_patience_46 : decode cX5_patience 46 = .ok (.iastore, 1) := by decide +kernel
theorem dX5_patience_47 : decode cX5_patience 47 = .ok (.iload_n 3, 1) := by decide +kernel
theorem dX5_patience_48 : decode cX5_patience 48 = .ok (.ireturn, 1) := by decide +kernel
theorem dX5_leaver_0 : decode cX5_leaver 0 = .ok (.aload_n 0, 1) := by decide +kernel
theorem dX5_leaver_1 : decode cX5_leaver 1 = .ok (.iload_n 1, 1) := by decide +kernel
theorem dX5_leaver_2 : decode cX5_leaver 2 = .ok (.invokevirtual 180, 3) := by decide +kernel
theorem dX5_leaver_5 : decode cX5_leaver 5 = .ok (.ifCond .ne 6, 3) := by decide +kernel
theorem dX5_leaver_8 : decode cX5_leaver 8 = .ok (.ldc 64, 2) := by decide +kernel
theorem dX5_leaver_10 : decode cX5_leaver 10 = .ok (.ireturn, 1) := by decide +kernel
theorem dX5_leaver_11 : decode cX5_leaver 11 = .ok (.iload_n 2, 1) := by decide +kernel
theorem dX5_leaver_12 : decode cX5_leaver 12 = .ok (.tableswitch 88 0 5 #[40, 50, 60, 70, 76, 82], 40) := by decide +kernel
theorem dX5_leaver_52 : decode cX5_leaver 52 = .ok (.aload_n 0, 1) := by decide +kernel
theorem dX5_leaver_53 : decode cX5_leaver 53 = .ok (.getfield 19, 3) := by decide +kernel
theorem dX5_leaver_56 : decode cX5_leaver 56 = .ok (.bipush 22, 2) := by decide +kernel
theorem dX5_leaver_58 : decode cX5_leaver 58 = .ok (.iload_n 1, 1) := by decide +kernel
theorem dX5_leaver_59 : decode cX5_leaver 59 = .ok (.iadd, 1) := by decide +kernel
theorem dX5_leaver_60 : decode cX5_leaver 60 = .ok (.iaload, 1) := by decide +kernel
theorem dX5_leaver_61 : decode cX5_leaver 61 = .ok (.ireturn, 1) := by decide +kernel
theorem dX5_leaver_62 : decode cX5_leaver 62 = .ok (.aload_n 0, 1) := by decide +kernel
theorem dX5_leaver_63 : decode cX5_leaver 63 = .ok (.getfield 19, 3) := by decide +kernel
theorem dX5_leaver_66 : decode cX5_leaver 66 = .ok (.bipush 28, 2) := by decide +kernel
theorem dX5_leaver_68 : decode cX5_leaver 68 = .ok (.iload_n 1, 1) := by decide +kernel
theorem dX5_leaver_69 : decode cX5_leaver 69 = .ok (.iadd, 1) := by decide +kernel
theorem dX5_leaver_70 : decode cX5_leaver 70 = .ok (.iaload, 1) := by decide +kernel
theorem dX5_leaver_71 : decode cX5_leaver 71 = .ok (.ireturn, 1) := by decide +kernel
theorem dX5_leaver_72 : decode cX5_leaver 72 = .ok (.aload_n 0, 1) := by decide +kernel
theorem dX5_leaver_73 : decode cX5_leaver 73 = .ok (.getfield 19, 3) := by decide +kernel
theorem dX5_leaver_76 : decode cX5_leaver 76 = .ok (.bipush 34, 2) := by decide +kernel
theorem dX5_leaver_78 : decode cX5_leaver 78 = .ok (.iload_n 1, 1) := by decide +kernel
theorem dX5_leaver_79 : decode cX5_leaver 79 = .ok (.iadd, 1) := by decide +kernel
theorem dX5_leaver_80 : decode cX5_leaver 80 = .ok (.iaload, 1) := by decide +kernel
theorem dX5_leaver_81 : decode cX5_leaver 81 = .ok (.ireturn, 1) := by decide +kernel
theorem dX5_leaver_82 : decode cX5_leaver 82 = .ok (.aload_n 0, 1) := by decide +kernel
theorem dX5_leaver_83 : decode cX5_leaver 83 = .ok (.iload_n 1, 1) := by decide +kernel
theorem dX5_leaver_84 : decode cX5_leaver 84 = .ok (.invokevirtual 142, 3) := by decide +kernel
theorem dX5_leaver_87 : decode cX5_leaver 87 = .ok (.ireturn, 1) := by decide +kernel
theorem dX5_leaver_88 : decode cX5_leaver 88 = .ok (.aload_n 0, 1) := by decide +kernel
theorem dX5_leaver_89 : decode cX5_leaver 89 = .ok (.iload_n 1, 1) := by decide +kernel
theorem dX5_leaver_90 : decode cX5_leaver 90 = .ok (.invokevirtual 158, 3) := by decide +kernel
theorem dX5_leaver_93 : decode cX5_leaver 93 = .ok (.ireturn, 1) := by decide +kernel
theorem dX5_leaver_94 : decode cX5_leaver 94 = .ok (.aload_n 0, 1) := by decide +kernel
theorem dX5_leaver_95 : decode cX5_leaver 95 = .ok (.iload_n 1, 1) := by decide +kernel
theorem dX5_leaver_96 : decode cX5_leaver 96 = .ok (.invokevirtual 145, 3) := by decide +kernel
theorem dX5_leaver_99 : decode cX5_leaver 99 = .ok (.ireturn, 1) := by decide +kernel
theorem dX5_leaver_100 : decode cX5_leaver 100 = .ok (.ldc 64, 2) := by decide +kernel
theorem dX5_leaver_102 : decode cX5_leaver 102 = .ok (.ireturn, 1) := by decide +kernel
theorem dX5_man_0 : decode cX5_man 0 = .ok (.aload_n 0, 1) := by decide +kernel
theorem dX5_man_1 : decode cX5_man 1 = .ok (.iload_n 1, 1) := by decide +kernel
theorem dX5_man_2 : decode cX5_man 2 = .ok (.invokevirtual 183, 3) := by decide +kernel
theorem dX5_man_5 : decode cX5_man 5 = .ok (.ifCond .ne 6, 3) := by decide +kernel
theorem dX5_man_8 : decode cX5_man 8 = .ok (.ldc 64, 2) := by decide +kernel
theorem dX5_man_10 : decode cX5_man 10 = .ok (.ireturn, 1) := by decide +kernel
theorem dX5_man_11 : decode cX5_man 11 = .ok (.iload_n 2, 1) := by decide +kernel
theorem dX5_man_12 : decode cX5_man 12 = .ok (.tableswitch 87 0 4 #[36, 46, 56, 75, 81], 36) := by decide +kernel
theorem dX5_man_48 : decode cX5_man 48 = .ok (.aload_n 0, 1) := by decide +kernel
theorem dX5_man_49 : decode cX5_man 49 = .ok (.getfield 19, 3) := by decide +kernel
theorem dX5_man_52 : decode cX5_man 52 = .ok (.bipush 6, 2) := by decide +kernel
theorem dX5_man_54 : decode cX5_man 54 = .ok (.iload_n 1, 1) := by decide +kernel
theorem dX5_man_55 : decode cX5_man 55 = .ok (.iadd, 1) := by decide +kernel
theorem dX5_man_56 : decode cX5_man 56 = .ok (.iaload, 1) := by decide +kernel
theorem dX5_man_57 : decode cX5_man 57 = .ok (.ireturn, 1) := by decide +kernel
theorem dX5_man_58 : decode cX5_man 58 = .ok (.aload_n 0, 1) := by decide +kernel
theorem dX5_man_59 : decode cX5_man 59 = .ok (.getfield 19, 3) := by decide +kernel
theorem dX5_man_62 : decode cX5_man 62 = .ok (.bipush 11, 2) := by decide +kernel
theorem dX5_man_64 : decode cX5_man 64 = .ok (.iload_n 1, 1) := by decide +kernel
theorem dX5_man_65 : decode cX5_man 65 = .ok (.iadd, 1) := by decide +kernel
theorem dX5_man_66 : decode cX5_man 66 = .ok (.iaload, 1) := by decide +kernel
theorem dX5_man_67 : decode cX5_man 67 = .ok (.ireturn, 1) := by decide +kernel
theorem dX5_man_68 : decode cX5_man 68 = .ok (.aload_n 0, 1) := by decide +kernel
theorem dX5_man_69 : decode cX5_man 69 = .ok (.getfield 19, 3) := by decide +kernel
theorem dX5_man_72 : decode cX5_man 72 = .ok (.iconst 5, 1) := by decide +kernel
theorem dX5_man_73 : decode cX5_man 73 = .ok (.iaload, 1) := by decide +kernel
theorem dX5_man_74 : decode cX5_man 74 = .ok (.iload_n 1, 1) := by decide +kernel
theorem dX5_man_75 : decode cX5_man 75 = .ok (.invokestatic 151, 3) := by decide +kernel
theorem dX5_man_78 : decode cX5_man 78 = .ok (.ifCond .eq 7, 3) := by decide +kernel
theorem dX5_man_81 : decode cX5_man 81 = .ok (.iconst 1, 1) := by decide +kernel
theorem dX5_man_82 : decode cX5_man 82 = .ok (.goto 4, 3) := by decide +kernel
theorem dX5_man_85 : decode cX5_man 85 = .ok (.iconst 0, 1) := by decide +kernel
theorem dX5_man_86 : decode cX5_man 86 = .ok (.ireturn, 1) := by decide +kernel
theorem dX5_man_87 : decode cX5_man 87 = .ok (.aload_n 0, 1) := by decide +kernel
theorem dX5_man_88 : decode cX5_man 88 = .ok (.iload_n 1, 1) := by decide +kernel
theorem dX5_man_89 : decode cX5_man 89 = .ok (.invokevirtual 155, 3) := by decide +kernel
theorem dX5_man_92 : decode cX5_man 92 = .ok (.ireturn, 1) := by decide +kernel
theorem dX5_man_93 : decode cX5_man 93 = .ok (.aload_n 0, 1) := by decide +kernel
theorem dX5_man_94 : decode cX5_man 94 = .ok (.iload_n 1, 1) := by decide +kernel
theorem dX5_man_95 : decode cX5_man 95 = .ok (.invokevirtual 164, 3) := by decide +kernel
theorem dX5_man_98 : decode cX5_man 98 = .ok (.ireturn, 1) := by decide +kernel
theorem dX5_man_99 : decode cX5_man 99 = .ok (.ldc 64, 2) := by decide +kernel
theorem dX5_man_101 : decode cX5_man 101 = .ok (.ireturn, 1) := by decide +kernel
theorem dX5_putAside_0 : decode cX5_putAside 0 = .ok (.iconst 0, 1) := by decide +kernel
theorem dX5_putAside_1 : decode cX5_putAside 1 = .ok (.istore_n 1, 1) := by decide +kernel
theorem dX5_putAside_2 : decode cX5_putAside 2 = .ok (.iload_n 1, 1) := by decide +kernel
theorem dX5_putAside_3 : decode cX5_putAside 3 = .ok (.bipush 70, 2) := by decide +kernel
theorem dX5_putAside_5 : decode cX5_putAside 5 = .ok (.if_icmp .ge 21, 3) := by decide +kernel
theorem dX5_putAside_8 : decode cX5_putAside 8 = .ok (.aload_n 0, 1) := by decide +kernel
theorem dX5_putAside_9 : decode cX5_putAside 9 = .ok (.getfield 34, 3) := by decide +kernel
theorem dX5_putAside_12 : decode cX5_putAside 12 = .ok (.iload_n 1, 1) := by decide +kernel
theorem dX5_putAside_13 : decode cX5_putAside 13 = .ok (.aload_n 0, 1) := by decide +kernel
theorem dX5_putAside_14 : decode cX5_putAside 14 = .ok (.getfield 19, 3) := by decide +kernel
theorem dX5_putAside_17 : decode cX5_putAside 17 = .ok (.iload_n 1, 1) := by decide +kernel
theorem dX5_putAside_18 : decode cX5_putAside 18 = .ok (.iaload, 1) := by decide +kernel
theorem dX5_putAside_19 : decode cX5_putAside 19 = .ok (.iastore, 1) := by decide +kernel
theorem dX5_putAside_20 : decode cX5_putAside 20 = .ok (.iinc 1 1, 3) := by decide +kernel
theorem dX5_putAside_23 : decode cX5_putAside 23 = .ok (.goto (-21), 3) := by decide +kernel
theorem dX5_putAside_26 : decode cX5_putAside 26 = .ok (.return_, 1) := by decide +kernel
theorem dX5_takeBack_0 : decode cX5_takeBack 0 = .ok (.iconst 0, 1) := by decide +kernel
theorem dX5_takeBack_1 : decode cX5_takeBack 1 = .ok (.istore_n 1, 1) := by decide +kernel
theorem dX5_takeBack_2 : decode cX5_takeBack 2 = .ok (.iload_n 1, 1) := by decide +kernel
theorem dX5_takeBack_3 : decode cX5_takeBack 3 = .ok (.bipush 70, 2) := by decide +kernel
theorem dX5_takeBack_5 : decode cX5_takeBack 5 = .ok (.if_icmp .ge 21, 3) := by decide +kernel
theorem dX5_takeBack_8 : decode cX5_takeBack 8 = .ok (.aload_n 0, 1) := by decide +kernel
theorem dX5_takeBack_9 : decode cX5_takeBack 9 = .ok (.getfield 19, 3) := by decide +kernel
theorem dX5_takeBack_12 : decode cX5_takeBack 12 = .ok (.iload_n 1, 1) := by decide +kernel
theorem dX5_takeBack_13 : decode cX5_takeBack 13 = .ok (.aload_n 0, 1) := by decide +kernel
theorem dX5_takeBack_14 : decode cX5_takeBack 14 = .ok (.getfield 34, 3) := by decide +kernel
theorem dX5_takeBack_17 : decode cX5_takeBack 17 = .ok (.iload_n 1, 1) := by decide +kernel
theorem dX5_takeBack_18 : decode cX5_takeBack 18 = .ok (.iaload, 1) := by decide +kernel
theorem dX5_takeBack_19 : decode cX5_takeBack 19 = .ok (.iastore, 1) := by decide +kernel
theorem dX5_takeBack_20 : decode cX5_takeBack 20 = .ok (.iinc 1 1, 3) := by decide +kernel
theorem dX5_takeBack_23 : decode cX5_takeBack 23 = .ok (.goto (-21), 3) := by decide +kernel
theorem dX5_takeBack_26 : decode cX5_takeBack 26 = .ok (.return_, 1) := by decide +kernel
theorem dX5_goOn_0 : decode cX5_goOn 0 = .ok (.iconst 0, 1) := by decide +kernel
theorem dX5_goOn_1 : decode cX5_goOn 1 = .ok (.istore_n 2, 1) := by decide +kernel
theorem dX5_goOn_2 : decode cX5_goOn 2 = .ok (.iload_n 2, 1) := by decide +kernel
theorem dX5_goOn_3 : decode cX5_goOn 3 = .ok (.iload_n 1, 1) := by decide +kernel
theorem dX5_goOn_4 : decode cX5_goOn 4 = .ok (.if_icmp .ge 13, 3) := by decide +kernel
theorem dX5_goOn_7 : decode cX5_goOn 7 = .ok (.aload_n 0, 1) := by decide +kernel
theorem dX5_goOn_8 : decode cX5_goOn 8 = .ok (.invokevirtual 173, 3) := by decide +kernel
theorem dX5_goOn_11 : decode cX5_goOn 11 = .ok (.iinc 2 1, 3) := by decide +kernel
theorem dX5_goOn_14 : decode cX5_goOn 14 = .ok (.goto (-12), 3) := by decide +kernel
theorem dX5_goOn_17 : decode cX5_goOn 17 = .ok (.return_, 1) := by decide +kernel
theorem dX5_isWhat_0 : decode cX5_isWhat 0 = .ok (.iload_n 0, 1) := by decide +kernel
theorem dX5_isWhat_1 : decode cX5_isWhat 1 = .ok (.i2l, 1) := by decide +kernel
theorem dX5_isWhat_2 : decode cX5_isWhat 2 = .ok (.lconst 0, 1) := by decide +kernel
theorem dX5_isWhat_3 : decode cX5_isWhat 3 = .ok (.lconst 1, 1) := by decide +kernel
theorem dX5_isWhat_4 : decode cX5_isWhat 4 = .ok (.invokestatic 54, 3) := by decide +kernel
theorem dX5_isWhat_7 : decode cX5_isWhat 7 = .ok (.ireturn, 1) := by decide +kernel
theorem dX5_ahead_0 : decode cX5_ahead 0 = .ok (.aload_n 0, 1) := by decide +kernel
theorem dX5_ahead_1 : decode cX5_ahead 1 = .ok (.iload_n 1, 1) := by decide +kernel
theorem dX5_ahead_2 : decode cX5_ahead 2 = .ok (.invokevirtual 183, 3) := by decide +kernel
theorem dX5_ahead_5 : decode cX5_ahead 5 = .ok (.ifCond .eq 15, 3) := by decide +kernel
theorem dX5_ahead_8 : decode cX5_ahead 8 = .ok (.iload_n 2, 1) := by decide +kernel
theorem dX5_ahead_9 : decode cX5_ahead 9 = .ok (.i2l, 1) := by decide +kernel
theorem dX5_ahead_10 : decode cX5_ahead 10 = .ok (.lconst 0, 1) := by decide +kernel
theorem dX5_ahead_11 : decode cX5_ahead 11 = .ok (.ldc2_w 192, 3) := by decide +kernel
theorem dX5_ahead_14 : decode cX5_ahead 14 = .ok (.invokestatic 54, 3) := by decide +kernel
theorem dX5_ahead_17 : decode cX5_ahead 17 = .ok (.ifCond .ne 6, 3) := by decide +kernel
theorem dX5_ahead_20 : decode cX5_ahead 20 = .ok (.ldc 64, 2) := by decide +kernel
theorem dX5_ahead_22 : decode cX5_ahead 22 = .ok (.ireturn, 1) := by decide +kernel
theorem dX5_ahead_23 : decode cX5_ahead 23 = .ok (.aload_n 0, 1) := by decide +kernel
theorem dX5_ahead_24 : decode cX5_ahead 24 = .ok (.invokevirtual 194, 3) := by decide +kernel
theorem dX5_ahead_27 : decode cX5_ahead 27 = .ok (.aload_n 0, 1) := by decide +kernel
theorem dX5_ahead_28 : decode cX5_ahead 28 = .ok (.iload_n 2, 1) := by decide +kernel
theorem dX5_ahead_29 : decode cX5_ahead 29 = .ok (.invokevirtual 197, 3) := by decide +kernel
theorem dX5_ahead_32 : decode cX5_ahead 32 = .ok (.aload_n 0, 1) := by decide +kernel
theorem dX5_ahead_33 : decode cX5_ahead 33 = .ok (.getfield 19, 3) := by decide +kernel
theorem dX5_ahead_36 : decode cX5_ahead 36 = .ok (.bipush 6, 2) := by decide +kernel
theorem dX5_ahead_38 : decode cX5_ahead 38 = .ok (.iload_n 1, 1) := by decide +kernel
theorem dX5_ahead_39 : decode cX5_ahead 39 = .ok (.iadd, 1) := by decide +kernel
theorem dX5_ahead_40 : decode cX5_ahead 40 = .ok (.iaload, 1) := by decide +kernel
theorem dX5_ahead_41 : decode cX5_ahead 41 = .ok (.istore_n 3, 1) := by decide +kernel
theorem dX5_ahead_42 : decode cX5_ahead 42 = .ok (.aload_n 0, 1) := by decide +kernel
theorem dX5_ahead_43 : decode cX5_ahead 43 = .ok (.invokevirtual 201, 3) := by decide +kernel
theorem dX5_ahead_46 : decode cX5_ahead 46 = .ok (.iload_n 3, 1) := by decide +kernel
theorem dX5_ahead_47 : decode cX5_ahead 47 = .ok (.ireturn, 1) := by decide +kernel
theorem dX5_awayAhead_0 : decode cX5_awayAhead 0 = .ok (.aload_n 0, 1) := by decide +kernel
theorem dX5_awayAhead_1 : decode cX5_awayAhead 1 = .ok (.iload_n 1, 1) := by decide +kernel
theorem dX5_awayAhead_2 : decode cX5_awayAhead 2 = .ok (.invokevirtual 183, 3) := by decide +kernel
theorem dX5_awayAhead_5 : decode cX5_awayAhead 5 = .ok (.ifCond .eq 15, 3) := by decide +kernel
theorem dX5_awayAhead_8 : decode cX5_awayAhead 8 = .ok (.iload_n 2, 1) := by decide +kernel
theorem dX5_awayAhead_9 : decode cX5_awayAhead 9 = .ok (.i2l, 1) := by decide +kernel
theorem dX5_awayAhead_10 : decode cX5_awayAhead 10 = .ok (.lconst 0, 1) := by decide +kernel
theorem dX5_awayAhead_11 : decode cX5_awayAhead 11 = .ok (.ldc2_w 192, 3) := by decide +kernel
theorem dX5_awayAhead_14 : decode cX5_awayAhead 14 = .ok (.invokestatic 54, 3) := by decide +kernel
theorem dX5_awayAhead_17 : decode cX5_awayAhead 17 = .ok (.ifCond .ne 6, 3) := by decide +kernel
theorem dX5_awayAhead_20 : decode cX5_awayAhead 20 = .ok (.ldc 64, 2) := by decide +kernel
theorem dX5_awayAhead_22 : decode cX5_awayAhead 22 = .ok (.ireturn, 1) := by decide +kernel
theorem dX5_awayAhead_23 : decode cX5_awayAhead 23 = .ok (.aload_n 0, 1) := by decide +kernel
theorem dX5_awayAhead_24 : decode cX5_awayAhead 24 = .ok (.getfield 19, 3) := by decide +kernel
theorem dX5_awayAhead_27 : decode cX5_awayAhead 27 = .ok (.iconst 4, 1) := by decide +kernel
theorem dX5_awayAhead_28 : decode cX5_awayAhead 28 = .ok (.iaload, 1) := by decide +kernel
theorem dX5_awayAhead_29 : decode cX5_awayAhead 29 = .ok (.istore_n 3, 1) := by decide +kernel
theorem dX5_awayAhead_30 : decode cX5_awayAhead 30 = .ok (.aload_n 0, 1) := by decide +kernel
theorem dX5_awayAhead_31 : decode cX5_awayAhead 31 = .ok (.getfield 19, 3) := by decide +kernel
theorem dX5_awayAhead_34 : decode cX5_awayAhead 34 = .ok (.iconst 4, 1) := by decide +kernel
theorem dX5_awayAhead_35 : decode cX5_awayAhead 35 = .ok (.iload_n 3, 1) := by decide +kernel
theorem dX5_awayAhead_36 : decode cX5_awayAhead 36 = .ok (.iload_n 2, 1) := by decide +kernel
theorem dX5_awayAhead_37 : decode cX5_awayAhead 37 = .ok (.iadd, 1) := by decide +kernel
theorem dX5_awayAhead_38 : decode cX5_awayAhead 38 = .ok (.iastore, 1) := by decide +kernel
theorem dX5_awayAhead_39 : decode cX5_awayAhead 39 = .ok (.aload_n 0, 1) := by decide +kernel
theorem dX5_awayAhead_40 : decode cX5_awayAhead 40 = .ok (.iload_n 1, 1) := by decide +kernel
theorem dX5_awayAhead_41 : decode cX5_awayAhead 41 = .ok (.invokevirtual 155, 3) := by decide +kernel
theorem dX5_awayAhead_44 : decode cX5_awayAhead 44 = .ok (.istore 4, 2) := by decide +kernel
theorem dX5_awayAhead_46 : decode cX5_awayAhead 46 = .ok (.aload_n 0, 1) := by decide +kernel
theorem dX5_awayAhead_47 : decode cX5_awayAhead 47 = .ok (.getfield 19, 3) := by decide +kernel
theorem dX5_awayAhead_50 : decode cX5_awayAhead 50 = .ok (.iconst 4, 1) := by decide +kernel
theorem dX5_awayAhead_51 : decode cX5_awayAhead 51 = .ok (.iload_n 3, 1) := by decide +kernel
theorem dX5_awayAhead_52 : decode cX5_awayAhead 52 = .ok (.iastore, 1) := by decide +kernel
theorem dX5_awayAhead_53 : decode cX5_awayAhead 53 = .ok (.iload 4, 2) := by decide +kernel
theorem dX5_awayAhead_55 : decode cX5_awayAhead 55 = .ok (.ireturn, 1) := by decide +kernel
theorem dX5_first_0 : decode cX5_first 0 = .ok (.aload_n 0, 1) := by decide +kernel
theorem dX5_first_1 : decode cX5_first 1 = .ok (.iload_n 1, 1) := by decide +kernel
theorem dX5_first_2 : decode cX5_first 2 = .ok (.invokevirtual 183, 3) := by decide +kernel
theorem dX5_first_5 : decode cX5_first 5 = .ok (.ifCond .ne 6, 3) := by decide +kernel
theorem dX5_first_8 : decode cX5_first 8 = .ok (.ldc 64, 2) := by decide +kernel
theorem dX5_first_10 : decode cX5_first 10 = .ok (.ireturn, 1) := by decide +kernel
theorem dX5_first_11 : decode cX5_first 11 = .ok (.aload_n 0, 1) := by decide +kernel
theorem dX5_first_12 : decode cX5_first 12 = .ok (.getfield 19, 3) := by decide +kernel
theorem dX5_first_15 : decode cX5_first 15 = .ok (.iconst 4, 1) := by decide +kernel
theorem dX5_first_16 : decode cX5_first 16 = .ok (.iaload, 1) := by decide +kernel
theorem dX5_first_17 : decode cX5_first 17 = .ok (.istore_n 2, 1) := by decide +kernel
theorem dX5_first_18 : decode cX5_first 18 = .ok (.ldc 204, 2) := by decide +kernel
theorem dX5_first_20 : decode cX5_first 20 = .ok (.istore_n 3, 1) := by decide +kernel
theorem dX5_first_21 : decode cX5_first 21 = .ok (.iconst 1, 1) := by decide +kernel
theorem dX5_first_22 : decode cX5_first 22 = .ok (.istore 4, 2) := by decide +kernel
theorem dX5_first_24 : decode cX5_first 24 = .ok (.iload 4, 2) := by decide +kernel
theorem dX5_first_26 : decode cX5_first 26 = .ok (.bipush 60, 2) := by decide +kernel
theorem dX5_first_28 : decode cX5_first 28 = .ok (.if_icmp .gt 38, 3) := by decide +kernel
theorem dX5_first_31 : decode cX5_first 31 = .ok (.iload_n 3, 1) := by decide +kernel
theorem dX5_first_32 : decode cX5_first 32 = .ok (.ifCond .ge 34, 3) := by decide +kernel
theorem dX5_first_35 : decode cX5_first 35 = .ok (.aload_n 0, 1) := by decide +kernel
theorem dX5_first_36 : decode cX5_first 36 = .ok (.iload_n 1, 1) := by decide +kernel
theorem dX5_first_37 : decode cX5_first 37 = .ok (.invokevirtual 155, 3) := by decide +kernel
theorem dX5_first_40 : decode cX5_first 40 = .ok (.ifCond .ne 8, 3) := by decide +kernel
theorem dX5_first_43 : decode cX5_first 43 = .ok (.iload 4, 2) := by decide +kernel
theorem dX5_first_45 : decode cX5_first 45 = .ok (.goto 4, 3) := by decide +kernel
theorem dX5_first_48 : decode cX5_first 48 = .ok (.iload_n 3, 1) := by decide +kernel
theorem dX5_first_49 : decode cX5_first 49 = .ok (.istore_n 3, 1) := by decide +kernel
theorem dX5_first_50 : decode cX5_first 50 = .ok (.aload_n 0, 1) := by decide +kernel
theorem dX5_first_51 : decode cX5_first 51 = .ok (.getfield 19, 3) := by decide +kernel
theorem dX5_first_54 : decode cX5_first 54 = .ok (.iconst 4, 1) := by decide +kernel
theorem dX5_first_55 : decode cX5_first 55 = .ok (.dup2, 1) := by decide +kernel
theorem dX5_first_56 : decode cX5_first 56 = .ok (.iaload, 1) := by decide +kernel
theorem dX5_first_57 : decode cX5_first 57 = .ok (.iconst 1, 1) := by decide +kernel
theorem dX5_first_58 : decode cX5_first 58 = .ok (.iadd, 1) := by decide +kernel
theorem dX5_first_59 : decode cX5_first 59 = .ok (.iastore, 1) := by decide +kernel
theorem dX5_first_60 : decode cX5_first 60 = .ok (.iinc 4 1, 3) := by decide +kernel
theorem dX5_first_63 : decode cX5_first 63 = .ok (.goto (-39), 3) := by decide +kernel
theorem dX5_first_66 : decode cX5_first 66 = .ok (.aload_n 0, 1) := by decide +kernel
theorem dX5_first_67 : decode cX5_first 67 = .ok (.getfield 19, 3) := by decide +kernel
theorem dX5_first_70 : decode cX5_first 70 = .ok (.iconst 4, 1) := by decide +kernel
theorem dX5_first_71 : decode cX5_first 71 = .ok (.iload_n 2, 1) := by decide +kernel
theorem dX5_first_72 : decode cX5_first 72 = .ok (.iastore, 1) := by decide +kernel
theorem dX5_first_73 : decode cX5_first 73 = .ok (.iload_n 3, 1) := by decide +kernel
theorem dX5_first_74 : decode cX5_first 74 = .ok (.ireturn, 1) := by decide +kernel
theorem dX5_reach_0 : decode cX5_reach 0 = .ok (.aload_n 0, 1) := by decide +kernel
theorem dX5_reach_1 : decode cX5_reach 1 = .ok (.iload_n 1, 1) := by decide +kernel
theorem dX5_reach_2 : decode cX5_reach 2 = .ok (.invokevirtual 183, 3) := by decide +kernel
theorem dX5_reach_5 : decode cX5_reach 5 = .ok (.ifCond .eq 15, 3) := by decide +kernel
theorem dX5_reach_8 : decode cX5_reach 8 = .ok (.iload_n 2, 1) := by decide +kernel
theorem dX5_reach_9 : decode cX5_reach 9 = .ok (.i2l, 1) := by decide +kernel
theorem dX5_reach_10 : decode cX5_reach 10 = .ok (.lconst 1, 1) := by decide +kernel
theorem dX5_reach_11 : decode cX5_reach 11 = .ok (.ldc2_w 205, 3) := by decide +kernel
theorem dX5_reach_14 : decode cX5_reach 14 = .ok (.invokestatic 54, 3) := by decide +kernel
theorem dX5_reach_17 : decode cX5_reach 17 = .ok (.ifCond .ne 6, 3) := by decide +kernel
theorem dX5_reach_20 : decode cX5_reach 20 = .ok (.ldc 64, 2) := by decide +kernel
theorem dX5_reach_22 : decode cX5_reach 22 = .ok (.ireturn, 1) := by decide +kernel
theorem dX5_reach_23 : decode cX5_reach 23 = .ok (.aload_n 0, 1) := by decide +kernel
theorem dX5_reach_24 : decode cX5_reach 24 = .ok (.invokevirtual 194, 3) := by decide +kernel
theorem dX5_reach_27 : decode cX5_reach 27 = .ok (.iconst 0, 1) := by decide +kernel
theorem dX5_reach_28 : decode cX5_reach 28 = .ok (.istore_n 3, 1) := by decide +kernel
theorem dX5_reach_29 : decode cX5_reach 29 = .ok (.aload_n 0, 1) := by decide +kernel
theorem dX5_reach_30 : decode cX5_reach 30 = .ok (.getfield 19, 3) := by decide +kernel
theorem dX5_reach_33 : decode cX5_reach 33 = .ok (.bipush 6, 2) := by decide +kernel
theorem dX5_reach_35 : decode cX5_reach 35 = .ok (.iload_n 1, 1) := by decide +kernel
theorem dX5_reach_36 : decode cX5_reach 36 = .ok (.iadd, 1) := by decide +kernel
theorem dX5_reach_37 : decode cX5_reach 37 = .ok (.iaload, 1) := by decide +kernel
theorem dX5_reach_38 : decode cX5_reach 38 = .ok (.iload_n 2, 1) := by decide +kernel
theorem dX5_reach_39 : decode cX5_reach 39 = .ok (.if_icmp .ge 19, 3) := by decide +kernel
theorem dX5_reach_42 : decode cX5_reach 42 = .ok (.iload_n 3, 1) := by decide +kernel
theorem dX5_reach_43 : decode cX5_reach 43 = .ok (.bipush 60, 2) := by decide +kernel
theorem dX5_reach_45 : decode cX5_reach 45 = .ok (.if_icmp .ge 13, 3) := by decide +kernel
theorem dX5_reach_48 : decode cX5_reach 48 = .ok (.aload_n 0, 1) := by decide +kernel
theorem dX5_reach_49 : decode cX5_reach 49 = .ok (.invokevirtual 173, 3) := by decide +kernel
theorem dX5_reach_52 : decode cX5_reach 52 = .ok (.iinc 3 1, 3) := by decide +kernel
theorem dX5_reach_55 : decode cX5_reach 55 = .ok (.goto (-26), 3) := by decide +kernel
theorem dX5_reach_58 : decode cX5_reach 58 = .ok (.aload_n 0, 1) := by decide +kernel
theorem dX5_reach_59 : decode cX5_reach 59 = .ok (.getfield 19, 3) := by decide +kernel
theorem dX5_reach_62 : decode cX5_reach 62 = .ok (.bipush 6, 2) := by decide +kernel
theorem dX5_reach_64 : decode cX5_reach 64 = .ok (.iload_n 1, 1) := by decide +kernel
theorem dX5_reach_65 : decode cX5_reach 65 = .ok (.iadd, 1) := by decide +kernel
theorem dX5_reach_66 : decode cX5_reach 66 = .ok (.iaload, 1) := by decide +kernel
theorem dX5_reach_67 : decode cX5_reach 67 = .ok (.iload_n 2, 1) := by decide +kernel
theorem dX5_reach_68 : decode cX5_reach 68 = .ok (.if_icmp .lt 7, 3) := by decide +kernel
theorem dX5_reach_71 : decode cX5_reach 71 = .ok (.iconst 1, 1) := by decide +kernel
theorem dX5_reach_72 : decode cX5_reach 72 = .ok (.goto 4, 3) := by decide +kernel
theorem dX5_reach_75 : decode cX5_reach 75 = .ok (.iconst 0, 1) := by decide +kernel
theorem dX5_reach_76 : decode cX5_reach 76 = .ok (.istore 4, 2) := by decide +kernel
theorem dX5_reach_78 : decode cX5_reach 78 = .ok (.aload_n 0, 1) := by decide +kernel
theorem dX5_reach_79 : decode cX5_reach 79 = .ok (.invokevirtual 201, 3) := by decide +kernel
theorem dX5_reach_82 : decode cX5_reach 82 = .ok (.iload 4, 2) := by decide +kernel
theorem dX5_reach_84 : decode cX5_reach 84 = .ok (.ifCond .eq 7, 3) := by decide +kernel
theorem dX5_reach_87 : decode cX5_reach 87 = .ok (.iload_n 3, 1) := by decide +kernel
theorem dX5_reach_88 : decode cX5_reach 88 = .ok (.goto 5, 3) := by decide +kernel
theorem dX5_reach_91 : decode cX5_reach 91 = .ok (.ldc 204, 2) := by decide +kernel
theorem dX5_reach_93 : decode cX5_reach 93 = .ok (.ireturn, 1) := by decide +kernel
theorem dX5_usual_0 : decode cX5_usual 0 = .ok (.aload_n 0, 1) := by decide +kernel
theorem dX5_usual_1 : decode cX5_usual 1 = .ok (.iload_n 1, 1) := by decide +kernel
theorem dX5_usual_2 : decode cX5_usual 2 = .ok (.invokevirtual 183, 3) := by decide +kernel
theorem dX5_usual_5 : decode cX5_usual 5 = .ok (.ifCond .eq 15, 3) := by decide +kernel
theorem dX5_usual_8 : decode cX5_usual 8 = .ok (.iload_n 2, 1) := by decide +kernel
theorem dX5_usual_9 : decode cX5_usual 9 = .ok (.i2l, 1) := by decide +kernel
theorem dX5_usual_10 : decode cX5_usual 10 = .ok (.lconst 1, 1) := by decide +kernel
theorem dX5_usual_11 : decode cX5_usual 11 = .ok (.ldc2_w 192, 3) := by decide +kernel
theorem dX5_usual_14 : decode cX5_usual 14 = .ok (.invokestatic 54, 3) := by decide +kernel
theorem dX5_usual_17 : decode cX5_usual 17 = .ok (.ifCond .ne 6, 3) := by decide +kernel
theorem dX5_usual_20 : decode cX5_usual 20 = .ok (.ldc 64, 2) := by decide +kernel
theorem dX5_usual_22 : decode cX5_usual 22 = .ok (.ireturn, 1) := by decide +kernel
theorem dX5_usual_23 : decode cX5_usual 23 = .ok (.aload_n 0, 1) := by decide +kernel
theorem dX5_usual_24 : decode cX5_usual 24 = .ok (.invokevirtual 194, 3) := by decide +kernel
theorem dX5_usual_27 : decode cX5_usual 27 = .ok (.iconst 0, 1) := by decide +kernel
theorem dX5_usual_28 : decode cX5_usual 28 = .ok (.istore_n 3, 1) := by decide +kernel
theorem dX5_usual_29 : decode cX5_usual 29 = .ok (.iconst 0, 1) := by decide +kernel
theorem dX5_usual_30 : decode cX5_usual 30 = .ok (.istore 4, 2) := by decide +kernel
theorem dX5_usual_32 : decode cX5_usual 32 = .ok (.iload 4, 2) := by decide +kernel
theorem dX5_usual_34 : decode cX5_usual 34 = .ok (.iload_n 2, 1) := by decide +kernel
theorem dX5_usual_35 : decode cX5_usual 35 = .ok (.if_icmp .ge 32, 3) := by decide +kernel
theorem dX5_usual_38 : decode cX5_usual 38 = .ok (.aload_n 0, 1) := by decide +kernel
theorem dX5_usual_39 : decode cX5_usual 39 = .ok (.invokevirtual 173, 3) := by decide +kernel
theorem dX5_usual_42 : decode cX5_usual 42 = .ok (.iload_n 3, 1) := by decide +kernel
theorem dX5_usual_43 : decode cX5_usual 43 = .ok (.aload_n 0, 1) := by decide +kernel
theorem dX5_usual_44 : decode cX5_usual 44 = .ok (.getfield 161, 3) := by decide +kernel
theorem dX5_usual_47 : decode cX5_usual 47 = .ok (.iload_n 1, 1) := by decide +kernel
theorem dX5_usual_48 : decode cX5_usual 48 = .ok (.invokestatic 151, 3) := by decide +kernel
theorem dX5_usual_51 : decode cX5_usual 51 = .ok (.ifCond .eq 7, 3) := by decide +kernel
theorem dX5_usual_54 : decode cX5_usual 54 = .ok (.iconst 1, 1) := by decide +kernel
theorem dX5_usual_55 : decode cX5_usual 55 = .ok (.goto 4, 3) := by decide +kernel
theorem dX5_usual_58 : decode cX5_usual 58 = .ok (.iconst 0, 1) := by decide +kernel
theorem dX5_usual_59 : decode cX5_usual 59 = .ok (.iadd, 1) := by decide +kernel
theorem dX5_usual_60 : decode cX5_usual 60 = .ok (.istore_n 3, 1) := by decide +kernel
theorem dX5_usual_61 : decode cX5_usual 61 = .ok (.iinc 4 1, 3) := by decide +kernel
theorem dX5_usual_64 : decode cX5_usual 64 = .ok (.goto (-32), 3) := by decide +kernel
theorem dX5_usual_67 : decode cX5_usual 67 = .ok (.aload_n 0, 1) := by decide +kernel
theorem dX5_usual_68 : decode cX5_usual 68 = .ok (.invokevirtual 201, 3) := by decide +kernel
theorem dX5_usual_71 : decode cX5_usual 71 = .ok (.iload_n 3, 1) := by decide +kernel
theorem dX5_usual_72 : decode cX5_usual 72 = .ok (.ireturn, 1) := by decide +kernel
theorem dX5_doFeel_0 : decode cX5_doFeel 0 = .ok (.iconst 1, 1) := by decide +kernel
theorem dX5_doFeel_1 : decode cX5_doFeel 1 = .ok (.istore_n 3, 1) := by decide +kernel
theorem dX5_doFeel_2 : decode cX5_doFeel 2 = .ok (.iconst 0, 1) := by decide +kernel
theorem dX5_doFeel_3 : decode cX5_doFeel 3 = .ok (.istore 4, 2) := by decide +kernel
theorem dX5_doFeel_5 : decode cX5_doFeel 5 = .ok (.iload 4, 2) := by decide +kernel
theorem dX5_doFeel_7 : decode cX5_doFeel 7 = .ok (.aload_n 0, 1) := by decide +kernel
theorem dX5_doFeel_8 : decode cX5_doFeel 8 = .ok (.getfield 19, 3) := by decide +kernel
theorem dX5_doFeel_11 : decode cX5_doFeel 11 = .ok (.iconst 2, 1) := by decide +kernel
theorem dX5_doFeel_12 : decode cX5_doFeel 12 = .ok (.iaload, 1) := by decide +kernel
theorem dX5_doFeel_13 : decode cX5_doFeel 13 = .ok (.if_icmp .ge 42, 3) := by decide +kernel
theorem dX5_doFeel_16 : decode cX5_doFeel 16 = .ok (.iload_n 3, 1) := by decide +kernel
theorem dX5_doFeel_17 : decode cX5_doFeel 17 = .ok (.ifCond .eq 30, 3) := by decide +kernel
theorem dX5_doFeel_20 : decode cX5_doFeel 20 = .ok (.iload_n 1, 1) := by decide +kernel
theorem dX5_doFeel_21 : decode cX5_doFeel 21 = .ok (.iload 4, 2) := by decide +kernel
theorem dX5_doFeel_23 : decode cX5_doFeel 23 = .ok (.invokestatic 151, 3) := by decide +kernel
theorem dX5_doFeel_26 : decode cX5_doFeel 26 = .ok (.ifCond .eq 17, 3) := by decide +kernel
theorem dX5_doFeel_29 : decode cX5_doFeel 29 = .ok (.aload_n 0, 1) := by decide +kernel
theorem dX5_doFeel_30 : decode cX5_doFeel 30 = .ok (.getfield 19, 3) := by decide +kernel
theorem dX5_doFeel_33 : decode cX5_doFeel 33 = .ok (.bipush 6, 2) := by decide +kernel
theorem dX5_doFeel_35 : decode cX5_doFeel 35 = .ok (.iload 4, 2) := by decide +kernel
theorem dX5_doFeel_37 : decode cX5_doFeel 37 = .ok (.iadd, 1) := by decide +kernel
theorem dX5_doFeel_38 : decode cX5_doFeel 38 = .ok (.iaload, 1) := by decide +kernel
theorem dX5_doFeel_39 : decode cX5_doFeel 39 = .ok (.iload_n 2, 1) := by decide +kernel
theorem dX5_doFeel_40 : decode cX5_doFeel 40 = .ok (.if_icmp .lt 7, 3) := by decide +kernel
theorem dX5_doFeel_43 : decode cX5_doFeel 43 = .ok (.iconst 1, 1) := by decide +kernel
theorem dX5_doFeel_44 : decode cX5_doFeel 44 = .ok (.goto 4, 3) := by decide +kernel
theorem dX5_doFeel_47 : decode cX5_doFeel 47 = .ok (.iconst 0, 1) := by decide +kernel
theorem dX5_doFeel_48 : decode cX5_doFeel 48 = .ok (.istore_n 3, 1) := by decide +kernel
theorem dX5_doFeel_49 : decode cX5_doFeel 49 = .ok (.iinc 4 1, 3) := by decide +kernel
theorem dX5_doFeel_52 : decode cX5_doFeel 52 = .ok (.goto (-47), 3) := by decide +kernel
theorem dX5_doFeel_55 : decode cX5_doFeel 55 = .ok (.iload_n 3, 1) := by decide +kernel
theorem dX5_doFeel_56 : decode cX5_doFeel 56 = .ok (.ireturn, 1) := by decide +kernel
theorem dX5_fewest_0 : decode cX5_fewest 0 = .ok (.aload_n 0, 1) := by decide +kernel
theorem dX5_fewest_1 : decode cX5_fewest 1 = .ok (.getfield 135, 3) := by decide +kernel
theorem dX5_fewest_4 : decode cX5_fewest 4 = .ok (.ifCond .ne 6, 3) := by decide +kernel
theorem dX5_fewest_7 : decode cX5_fewest 7 = .ok (.ldc 167, 2) := by decide +kernel
theorem dX5_fewest_9 : decode cX5_fewest 9 = .ok (.ireturn, 1) := by decide +kernel
theorem dX5_fewest_10 : decode cX5_fewest 10 = .ok (.iload_n 1, 1) := by decide +kernel
theorem dX5_fewest_11 : decode cX5_fewest 11 = .ok (.i2l, 1) := by decide +kernel
theorem dX5_fewest_12 : decode cX5_fewest 12 = .ok (.lconst 0, 1) := by decide +kernel
theorem dX5_fewest_13 : decode cX5_fewest 13 = .ok (.iconst 1, 1) := by decide +kernel
theorem dX5_fewest_14 : decode cX5_fewest 14 = .ok (.aload_n 0, 1) := by decide +kernel
theorem dX5_fewest_15 : decode cX5_fewest 15 = .ok (.getfield 19, 3) := by decide +kernel
theorem dX5_fewest_18 : decode cX5_fewest 18 = .ok (.iconst 2, 1) := by decide +kernel
theorem dX5_fewest_19 : decode cX5_fewest 19 = .ok (.iaload, 1) := by decide +kernel
theorem dX5_fewest_20 : decode cX5_fewest 20 = .ok (.ishl, 1) := by decide +kernel
theorem dX5_fewest_21 : decode cX5_fewest 21 = .ok (.iconst 1, 1) := by decide +kernel
theorem dX5_fewest_22 : decode cX5_fewest 22 = .ok (.isub, 1) := by decide +kernel
theorem dX5_fewest_23 : decode cX5_fewest 23 = .ok (.i2l, 1) := by decide +kernel
theorem dX5_fewest_24 : decode cX5_fewest 24 = .ok (.invokestatic 54, 3) := by decide +kernel
theorem dX5_fewest_27 : decode cX5_fewest 27 = .ok (.ifCond .eq 35, 3) := by decide +kernel
theorem dX5_fewest_30 : decode cX5_fewest 30 = .ok (.iload_n 2, 1) := by decide +kernel
theorem dX5_fewest_31 : decode cX5_fewest 31 = .ok (.i2l, 1) := by decide +kernel
theorem dX5_fewest_32 : decode cX5_fewest 32 = .ok (.lconst 1, 1) := by decide +kernel
theorem dX5_fewest_33 : decode cX5_fewest 33 = .ok (.ldc2_w 207, 3) := by decide +kernel
theorem dX5_fewest_36 : decode cX5_fewest 36 = .ok (.invokestatic 54, 3) := by decide +kernel
theorem dX5_fewest_39 : decode cX5_fewest 39 = .ok (.ifCond .eq 23, 3) := by decide +kernel
theorem dX5_fewest_42 : decode cX5_fewest 42 = .ok (.iload_n 3, 1) := by decide +kernel
theorem dX5_fewest_43 : decode cX5_fewest 43 = .ok (.i2l, 1) := by decide +kernel
theorem dX5_fewest_44 : decode cX5_fewest 44 = .ok (.lconst 1, 1) := by decide +kernel
theorem dX5_fewest_45 : decode cX5_fewest 45 = .ok (.ldc2_w 205, 3) := by decide +kernel
theorem dX5_fewest_48 : decode cX5_fewest 48 = .ok (.invokestatic 54, 3) := by decide +kernel
theorem dX5_fewest_51 : decode cX5_fewest 51 = .ok (.ifCond .eq 11, 3) := by decide +kernel
theorem dX5_fewest_54 : decode cX5_fewest 54 = .ok (.iload 4, 2) := by decide +kernel
theorem dX5_fewest_56 : decode cX5_fewest 56 = .ok (.invokestatic 209, 3) := by decide +kernel
theorem dX5_fewest_59 : decode cX5_fewest 59 = .ok (.ifCond .ne 6, 3) := by decide +kernel
theorem dX5_fewest_62 : decode cX5_fewest 62 = .ok (.ldc 64, 2) := by decide +kernel
theorem dX5_fewest_64 : decode cX5_fewest 64 = .ok (.ireturn, 1) := by decide +kernel
theorem dX5_fewest_65 : decode cX5_fewest 65 = .ok (.aload_n 0, 1) := by decide +kernel
theorem dX5_fewest_66 : decode cX5_fewest 66 = .ok (.invokevirtual 194, 3) := by decide +kernel
theorem dX5_fewest_69 : decode cX5_fewest 69 = .ok (.iconst 1, 1) := by decide +kernel
theorem dX5_fewest_70 : decode cX5_fewest 70 = .ok (.aload_n 0, 1) := by decide +kernel
theorem dX5_fewest_71 : decode cX5_fewest 71 = .ok (.getfield 19, 3) := by decide +kernel
theorem dX5_fewest_74 : decode cX5_fewest 74 = .ok (.iconst 3, 1) := by decide +kernel
theorem dX5_fewest_75 : decode cX5_fewest 75 = .ok (.iaload, 1) := by decide +kernel
theorem dX5_fewest_76 : decode cX5_fewest 76 = .ok (.ishl, 1) := by decide +kernel
theorem dX5_fewest_77 : decode cX5_fewest 77 = .ok (.iconst 1, 1) := by decide +kernel
theorem dX5_fewest_78 : decode cX5_fewest 78 = .ok (.isub, 1) := by decide +kernel
theorem dX5_fewest_79 : decode cX5_fewest 79 = .ok (.istore 5, 2) := by decide +kernel
theorem dX5_fewest_81 : decode cX5_fewest 81 = .ok (.ldc 204, 2) := by decide +kernel
theorem dX5_fewest_83 : decode cX5_fewest 83 = .ok (.istore 6, 2) := by decide +kernel
theorem dX5_fewest_85 : decode cX5_fewest 85 = .ok (.iconst 0, 1) := by decide +kernel
theorem dX5_fewest_86 : decode cX5_fewest 86 = .ok (.istore 7, 2) := by decide +kernel
theorem dX5_fewest_88 : decode cX5_fewest 88 = .ok (.iload 7, 2) := by decide +kernel
theorem dX5_fewest_90 : decode cX5_fewest 90 = .ok (.iload 5, 2) := by decide +kernel
theorem dX5_fewest_92 : decode cX5_fewest 92 = .ok (.if_icmp .gt 65, 3) := by decide +kernel
theorem dX5_fewest_95 : decode cX5_fewest 95 = .ok (.iload 6, 2) := by decide +kernel
theorem dX5_fewest_97 : decode cX5_fewest 97 = .ok (.ifCond .lt 16, 3) := by decide +kernel
theorem dX5_fewest_100 : decode cX5_fewest 100 = .ok (.iload 7, 2) := by decide +kernel
theorem dX5_fewest_102 : decode cX5_fewest 102 = .ok (.invokestatic 212, 3) := by decide +kernel
theorem dX5_fewest_105 : decode cX5_fewest 105 = .ok (.iload 6, 2) := by decide +kernel
theorem dX5_fewest_107 : decode cX5_fewest 107 = .ok (.invokestatic 212, 3) := by decide +kernel
theorem dX5_fewest_110 : decode cX5_fewest 110 = .ok (.if_icmp .ge 41, 3) := by decide +kernel
theorem dX5_fewest_113 : decode cX5_fewest 113 = .ok (.aload_n 0, 1) := by decide +kernel
theorem dX5_fewest_114 : decode cX5_fewest 114 = .ok (.iload 5, 2) := by decide +kernel
theorem dX5_fewest_116 : decode cX5_fewest 116 = .ok (.iload 7, 2) := by decide +kernel
theorem dX5_fewest_118 : decode cX5_fewest 118 = .ok (.iconst (-1), 1) := by decide +kernel
theorem dX5_fewest_119 : decode cX5_fewest 119 = .ok (.ixor, 1) := by decide +kernel
theorem dX5_fewest_120 : decode cX5_fewest 120 = .ok (.iand, 1) := by decide +kernel
theorem dX5_fewest_121 : decode cX5_fewest 121 = .ok (.putfield 148, 3) := by decide +kernel
theorem dX5_fewest_124 : decode cX5_fewest 124 = .ok (.aload_n 0, 1) := by decide +kernel
theorem dX5_fewest_125 : decode cX5_fewest 125 = .ok (.iload_n 2, 1) := by decide +kernel
theorem dX5_fewest_126 : decode cX5_fewest 126 = .ok (.invokevirtual 197, 3) := by decide +kernel
theorem dX5_fewest_129 : decode cX5_fewest 129 = .ok (.aload_n 0, 1) := by decide +kernel
theorem dX5_fewest_130 : decode cX5_fewest 130 = .ok (.iload_n 1, 1) := by decide +kernel
theorem dX5_fewest_131 : decode cX5_fewest 131 = .ok (.iload_n 3, 1) := by decide +kernel
theorem dX5_fewest_132 : decode cX5_fewest 132 = .ok (.invokevirtual 215, 3) := by decide +kernel
theorem dX5_fewest_135 : decode cX5_fewest 135 = .ok (.ifCond .eq 8, 3) := by decide +kernel
theorem dX5_fewest_138 : decode cX5_fewest 138 = .ok (.iload 7, 2) := by decide +kernel
theorem dX5_fewest_140 : decode cX5_fewest 140 = .ok (.goto 5, 3) := by decide +kernel
theorem dX5_fewest_143 : decode cX5_fewest 143 = .ok (.iload 6, 2) := by decide +kernel
theorem dX5_fewest_145 : decode cX5_fewest 145 = .ok (.istore 6, 2) := by decide +kernel
theorem dX5_fewest_147 : decode cX5_fewest 147 = .ok (.aload_n 0, 1) := by decide +kernel
theorem dX5_fewest_148 : decode cX5_fewest 148 = .ok (.invokevirtual 201, 3) := by decide +kernel
theorem dX5_fewest_151 : decode cX5_fewest 151 = .ok (.iinc 7 1, 3) := by decide +kernel
theorem dX5_fewest_154 : decode cX5_fewest 154 = .ok (.goto (-66), 3) := by decide +kernel
theorem dX5_fewest_157 : decode cX5_fewest 157 = .ok (.aload_n 0, 1) := by decide +kernel
theorem dX5_fewest_158 : decode cX5_fewest 158 = .ok (.iconst 0, 1) := by decide +kernel
theorem dX5_fewest_159 : decode cX5_fewest 159 = .ok (.putfield 148, 3) := by decide +kernel
theorem dX5_fewest_162 : decode cX5_fewest 162 = .ok (.iload 6, 2) := by decide +kernel
theorem dX5_fewest_164 : decode cX5_fewest 164 = .ok (.ifCond .lt 9, 3) := by decide +kernel
theorem dX5_fewest_167 : decode cX5_fewest 167 = .ok (.iload 4, 2) := by decide +kernel
theorem dX5_fewest_169 : decode cX5_fewest 169 = .ok (.iconst 1, 1) := by decide +kernel
theorem dX5_fewest_170 : decode cX5_fewest 170 = .ok (.if_icmp .ne 8, 3) := by decide +kernel
theorem dX5_fewest_173 : decode cX5_fewest 173 = .ok (.iload 6, 2) := by decide +kernel
theorem dX5_fewest_175 : decode cX5_fewest 175 = .ok (.goto 8, 3) := by decide +kernel
theorem dX5_fewest_178 : decode cX5_fewest 178 = .ok (.iload 6, 2) := by decide +kernel
theorem dX5_fewest_180 : decode cX5_fewest 180 = .ok (.invokestatic 212, 3) := by decide +kernel
theorem dX5_fewest_183 : decode cX5_fewest 183 = .ok (.ireturn, 1) := by decide +kernel
theorem dX5_bestHouse_0 : decode cX5_bestHouse 0 = .ok (.aload_n 0, 1) := by decide +kernel
theorem dX5_bestHouse_1 : decode cX5_bestHouse 1 = .ok (.iload_n 1, 1) := by decide +kernel
theorem dX5_bestHouse_2 : decode cX5_bestHouse 2 = .ok (.invokevirtual 180, 3) := by decide +kernel
theorem dX5_bestHouse_5 : decode cX5_bestHouse 5 = .ok (.ifCond .eq 22, 3) := by decide +kernel
theorem dX5_bestHouse_8 : decode cX5_bestHouse 8 = .ok (.iload_n 2, 1) := by decide +kernel
theorem dX5_bestHouse_9 : decode cX5_bestHouse 9 = .ok (.i2l, 1) := by decide +kernel
theorem dX5_bestHouse_10 : decode cX5_bestHouse 10 = .ok (.lconst 1, 1) := by decide +kernel
theorem dX5_bestHouse_11 : decode cX5_bestHouse 11 = .ok (.ldc2_w 192, 3) := by decide +kernel
theorem dX5_bestHouse_14 : decode cX5_bestHouse 14 = .ok (.invokestatic 54, 3) := by decide +kernel
theorem dX5_bestHouse_17 : decode cX5_bestHouse 17 = .ok (.ifCond .eq 10, 3) := by decide +kernel
theorem dX5_bestHouse_20 : decode cX5_bestHouse 20 = .ok (.iload_n 3, 1) := by decide +kernel
theorem dX5_bestHouse_21 : decode cX5_bestHouse 21 = .ok (.invokestatic 209, 3) := by decide +kernel
theorem dX5_bestHouse_24 : decode cX5_bestHouse 24 = .ok (.ifCond .ne 6, 3) := by decide +kernel
theorem dX5_bestHouse_27 : decode cX5_bestHouse 27 = .ok (.ldc 64, 2) := by decide +kernel
theorem dX5_bestHouse_29 : decode cX5_bestHouse 29 = .ok (.ireturn, 1) := by decide +kernel
theorem dX5_bestHouse_30 : decode cX5_bestHouse 30 = .ok (.aload_n 0, 1) := by decide +kernel
theorem dX5_bestHouse_31 : decode cX5_bestHouse 31 = .ok (.invokevirtual 194, 3) := by decide +kernel
theorem dX5_bestHouse_34 : decode cX5_bestHouse 34 = .ok (.iconst 0, 1) := by decide +kernel
theorem dX5_bestHouse_35 : decode cX5_bestHouse 35 = .ok (.istore 4, 2) := by decide +kernel
theorem dX5_bestHouse_37 : decode cX5_bestHouse 37 = .ok (.iconst (-1), 1) := by decide +kernel
theorem dX5_bestHouse_38 : decode cX5_bestHouse 38 = .ok (.istore 5, 2) := by decide +kernel
theorem dX5_bestHouse_40 : decode cX5_bestHouse 40 = .ok (.iconst 0, 1) := by decide +kernel
theorem dX5_bestHouse_41 : decode cX5_bestHouse 41 = .ok (.istore 6, 2) := by decide +kernel
theorem dX5_bestHouse_43 : decode cX5_bestHouse 43 = .ok (.iload 6, 2) := by decide +kernel
theorem dX5_bestHouse_45 : decode cX5_bestHouse 45 = .ok (.aload_n 0, 1) := by decide +kernel
theorem dX5_bestHouse_46 : decode cX5_bestHouse 46 = .ok (.getfield 19, 3) := by decide +kernel
theorem dX5_bestHouse_49 : decode cX5_bestHouse 49 = .ok (.iconst 2, 1) := by decide +kernel
theorem dX5_bestHouse_50 : decode cX5_bestHouse 50 = .ok (.iaload, 1) := by decide +kernel
theorem dX5_bestHouse_51 : decode cX5_bestHouse 51 = .ok (.if_icmp .ge 63, 3) := by decide +kernel
theorem dX5_bestHouse_54 : decode cX5_bestHouse 54 = .ok (.aload_n 0, 1) := by decide +kernel
theorem dX5_bestHouse_55 : decode cX5_bestHouse 55 = .ok (.iload_n 1, 1) := by decide +kernel
theorem dX5_bestHouse_56 : decode cX5_bestHouse 56 = .ok (.iload 6, 2) := by decide +kernel
theorem dX5_bestHouse_58 : decode cX5_bestHouse 58 = .ok (.invokevirtual 186, 3) := by decide +kernel
theorem dX5_bestHouse_61 : decode cX5_bestHouse 61 = .ok (.aload_n 0, 1) := by decide +kernel
theorem dX5_bestHouse_62 : decode cX5_bestHouse 62 = .ok (.iload_n 2, 1) := by decide +kernel
theorem dX5_bestHouse_63 : decode cX5_bestHouse 63 = .ok (.invokevirtual 197, 3) := by decide +kernel
theorem dX5_bestHouse_66 : decode cX5_bestHouse 66 = .ok (.aload_n 0, 1) := by decide +kernel
theorem dX5_bestHouse_67 : decode cX5_bestHouse 67 = .ok (.invokevirtual 176, 3) := by decide +kernel
theorem dX5_bestHouse_70 : decode cX5_bestHouse 70 = .ok (.iload 5, 2) := by decide +kernel
theorem dX5_bestHouse_72 : decode cX5_bestHouse 72 = .ok (.if_icmp .le 8, 3) := by decide +kernel
theorem dX5_bestHouse_75 : decode cX5_bestHouse 75 = .ok (.iload 6, 2) := by decide +kernel
theorem dX5_bestHouse_77 : decode cX5_bestHouse 77 = .ok (.goto 5, 3) := by decide +kernel
theorem dX5_bestHouse_80 : decode cX5_bestHouse 80 = .ok (.iload 4, 2) := by decide +kernel
theorem dX5_bestHouse_82 : decode cX5_bestHouse 82 = .ok (.istore 4, 2) := by decide +kernel
theorem dX5_bestHouse_84 : decode cX5_bestHouse 84 = .ok (.aload_n 0, 1) := by decide +kernel
theorem dX5_bestHouse_85 : decode cX5_bestHouse 85 = .ok (.invokevirtual 176, 3) := by decide +kernel
theorem dX5_bestHouse_88 : decode cX5_bestHouse 88 = .ok (.iload 5, 2) := by decide +kernel
theorem dX5_bestHouse_90 : decode cX5_bestHouse 90 = .ok (.if_icmp .le 10, 3) := by decide +kernel
theorem dX5_bestHouse_93 : decode cX5_bestHouse 93 = .ok (.aload_n 0, 1) := by decide +kernel
theorem dX5_bestHouse_94 : decode cX5_bestHouse 94 = .ok (.invokevirtual 176, 3) := by decide +kernel
theorem dX5_bestHouse_97 : decode cX5_bestHouse 97 = .ok (.goto 5, 3) := by decide +kernel
theorem dX5_bestHouse_100 : decode cX5_bestHouse 100 = .ok (.iload 5, 2) := by decide +kernel
theorem dX5_bestHouse_102 : decode cX5_bestHouse 102 = .ok (.istore 5, 2) := by decide +kernel
theorem dX5_bestHouse_104 : decode cX5_bestHouse 104 = .ok (.aload_n 0, 1) := by decide +kernel
theorem dX5_bestHouse_105 : decode cX5_bestHouse 105 = .ok (.invokevirtual 201, 3) := by decide +kernel
theorem dX5_bestHouse_108 : decode cX5_bestHouse 108 = .ok (.iinc 6 1, 3) := by decide +kernel
theorem dX5_bestHouse_111 : decode cX5_bestHouse 111 = .ok (.goto (-68), 3) := by decide +kernel
theorem dX5_bestHouse_114 : decode cX5_bestHouse 114 = .ok (.iload_n 3, 1) := by decide +kernel
theorem dX5_bestHouse_115 : decode cX5_bestHouse 115 = .ok (.ifCond .ne 8, 3) := by decide +kernel
theorem dX5_bestHouse_118 : decode cX5_bestHouse 118 = .ok (.iload 4, 2) := by decide +kernel
theorem dX5_bestHouse_120 : decode cX5_bestHouse 120 = .ok (.goto 5, 3) := by decide +kernel
theorem dX5_bestHouse_123 : decode cX5_bestHouse 123 = .ok (.iload 5, 2) := by decide +kernel
theorem dX5_bestHouse_125 : decode cX5_bestHouse 125 = .ok (.ireturn, 1) := by decide +kernel
theorem dX5_tells_0 : decode cX5_tells 0 = .ok (.aload_n 0, 1) := by decide +kernel
theorem dX5_tells_1 : decode cX5_tells 1 = .ok (.getfield 135, 3) := by decide +kernel
theorem dX5_tells_4 : decode cX5_tells 4 = .ok (.ifCond .ne 6, 3) := by decide +kernel
theorem dX5_tells_7 : decode cX5_tells 7 = .ok (.ldc 167, 2) := by decide +kernel
theorem dX5_tells_9 : decode cX5_tells 9 = .ok (.ireturn, 1) := by decide +kernel
theorem dX5_tells_10 : decode cX5_tells 10 = .ok (.iload_n 1, 1) := by decide +kernel
theorem dX5_tells_11 : decode cX5_tells 11 = .ok (.i2l, 1) := by decide +kernel
theorem dX5_tells_12 : decode cX5_tells 12 = .ok (.lconst 1, 1) := by decide +kernel
theorem dX5_tells_13 : decode cX5_tells 13 = .ok (.ldc2_w 192, 3) := by decide +kernel
theorem dX5_tells_16 : decode cX5_tells 16 = .ok (.invokestatic 54, 3) := by decide +kernel
theorem dX5_tells_19 : decode cX5_tells 19 = .ok (.ifCond .eq 10, 3) := by decide +kernel
theorem dX5_tells_22 : decode cX5_tells 22 = .ok (.iload_n 2, 1) := by decide +kernel
theorem dX5_tells_23 : decode cX5_tells 23 = .ok (.invokestatic 209, 3) := by decide +kernel
theorem dX5_tells_26 : decode cX5_tells 26 = .ok (.ifCond .ne 6, 3) := by decide +kernel
theorem dX5_tells_29 : decode cX5_tells 29 = .ok (.ldc 64, 2) := by decide +kernel
theorem dX5_tells_31 : decode cX5_tells 31 = .ok (.ireturn, 1) := by decide +kernel
theorem dX5_tells_32 : decode cX5_tells 32 = .ok (.aload_n 0, 1) := by decide +kernel
theorem dX5_tells_33 : decode cX5_tells 33 = .ok (.invokevirtual 194, 3) := by decide +kernel
theorem dX5_tells_36 : decode cX5_tells 36 = .ok (.aload_n 0, 1) := by decide +kernel
theorem dX5_tells_37 : decode cX5_tells 37 = .ok (.iload_n 1, 1) := by decide +kernel
theorem dX5_tells_38 : decode cX5_tells 38 = .ok (.invokevirtual 197, 3) := by decide +kernel
theorem dX5_tells_41 : decode cX5_tells 41 = .ok (.aload_n 0, 1) := by decide +kernel
theorem dX5_tells_42 : decode cX5_tells 42 = .ok (.invokevirtual 176, 3) := by decide +kernel
theorem dX5_tells_45 : decode cX5_tells 45 = .ok (.istore_n 3, 1) := by decide +kernel
theorem dX5_tells_46 : decode cX5_tells 46 = .ok (.aload_n 0, 1) := by decide +kernel
theorem dX5_tells_47 : decode cX5_tells 47 = .ok (.invokevirtual 201, 3) := by decide +kernel
theorem dX5_tells_50 : decode cX5_tells 50 = .ok (.iconst 0, 1) := by decide +kernel
theorem dX5_tells_51 : decode cX5_tells 51 = .ok (.istore 4, 2) := by decide +kernel
theorem dX5_tells_53 : decode cX5_tells 53 = .ok (.sipush 496, 3) := by decide +kernel
theorem dX5_tells_56 : decode cX5_tells 56 = .ok (.istore 5, 2) := by decide +kernel
theorem dX5_tells_58 : decode cX5_tells 58 = .ok (.iconst 0, 1) := by decide +kernel
theorem dX5_tells_59 : decode cX5_tells 59 = .ok (.istore 6, 2) := by decide +kernel
theorem dX5_tells_61 : decode cX5_tells 61 = .ok (.iload 6, 2) := by decide +kernel
theorem dX5_tells_63 : decode cX5_tells 63 = .ok (.aload_n 0, 1) := by decide +kernel
theorem dX5_tells_64 : decode cX5_tells 64 = .ok (.getfield 19, 3) := by decide +kernel
theorem dX5_tells_67 : decode cX5_tells 67 = .ok (.iconst 3, 1) := by decide +kernel
theorem dX5_tells_68 : decode cX5_tells 68 = .ok (.iaload, 1) := by decide +kernel
theorem dX5_tells_69 : decode cX5_tells 69 = .ok (.if_icmp .ge 64, 3) := by decide +kernel
theorem dX5_tells_72 : decode cX5_tells 72 = .ok (.aload_n 0, 1) := by decide +kernel
theorem dX5_tells_73 : decode cX5_tells 73 = .ok (.iconst 1, 1) := by decide +kernel
theorem dX5_tells_74 : decode cX5_tells 74 = .ok (.iload 6, 2) := by decide +kernel
theorem dX5_tells_76 : decode cX5_tells 76 = .ok (.ishl, 1) := by decide +kernel
theorem dX5_tells_77 : decode cX5_tells 77 = .ok (.putfield 148, 3) := by decide +kernel
theorem dX5_tells_80 : decode cX5_tells 80 = .ok (.aload_n 0, 1) := by decide +kernel
theorem dX5_tells_81 : decode cX5_tells 81 = .ok (.iload_n 1, 1) := by decide +kernel
theorem dX5_tells_82 : decode cX5_tells 82 = .ok (.invokevirtual 197, 3) := by decide +kernel
theorem dX5_tells_85 : decode cX5_tells 85 = .ok (.aload_n 0, 1) := by decide +kernel
theorem dX5_tells_86 : decode cX5_tells 86 = .ok (.invokevirtual 176, 3) := by decide +kernel
theorem dX5_tells_89 : decode cX5_tells 89 = .ok (.iload 5, 2) := by decide +kernel
theorem dX5_tells_91 : decode cX5_tells 91 = .ok (.if_icmp .ge 8, 3) := by decide +kernel
theorem dX5_tells_94 : decode cX5_tells 94 = .ok (.iload 6, 2) := by decide +kernel
theorem dX5_tells_96 : decode cX5_tells 96 = .ok (.goto 5, 3) := by decide +kernel
theorem dX5_tells_99 : decode cX5_tells 99 = .ok (.iload 4, 2) := by decide +kernel
theorem dX5_tells_101 : decode cX5_tells 101 = .ok (.istore 4, 2) := by decide +kernel
theorem dX5_tells_103 : decode cX5_tells 103 = .ok (.aload_n 0, 1) := by decide +kernel
theorem dX5_tells_104 : decode cX5_tells 104 = .ok (.invokevirtual 176, 3) := by decide +kernel
theorem dX5_tells_107 : decode cX5_tells 107 = .ok (.iload 5, 2) := by decide +kernel
theorem dX5_tells_109 : decode cX5_tells 109 = .ok (.if_icmp .ge 10, 3) := by decide +kernel
theorem dX5_tells_112 : decode cX5_tells 112 = .ok (.aload_n 0, 1) := by decide +kernel
theorem dX5_tells_113 : decode cX5_tells 113 = .ok (.invokevirtual 176, 3) := by decide +kernel
theorem dX5_tells_116 : decode cX5_tells 116 = .ok (.goto 5, 3) := by decide +kernel
theorem dX5_tells_119 : decode cX5_tells 119 = .ok (.iload 5, 2) := by decide +kernel
theorem dX5_tells_121 : decode cX5_tells 121 = .ok (.istore 5, 2) := by decide +kernel
theorem dX5_tells_123 : decode cX5_tells 123 = .ok (.aload_n 0, 1) := by decide +kernel
theorem dX5_tells_124 : decode cX5_tells 124 = .ok (.invokevirtual 201, 3) := by decide +kernel
theorem dX5_tells_127 : decode cX5_tells 127 = .ok (.iinc 6 1, 3) := by decide +kernel
theorem dX5_tells_130 : decode cX5_tells 130 = .ok (.goto (-69), 3) := by decide +kernel
theorem dX5_tells_133 : decode cX5_tells 133 = .ok (.aload_n 0, 1) := by decide +kernel
theorem dX5_tells_134 : decode cX5_tells 134 = .ok (.iconst 0, 1) := by decide +kernel
theorem dX5_tells_135 : decode cX5_tells 135 = .ok (.putfield 148, 3) := by decide +kernel
theorem dX5_tells_138 : decode cX5_tells 138 = .ok (.iload_n 2, 1) := by decide +kernel
theorem dX5_tells_139 : decode cX5_tells 139 = .ok (.ifCond .ne 8, 3) := by decide +kernel
theorem dX5_tells_142 : decode cX5_tells 142 = .ok (.iload 4, 2) := by decide +kernel
theorem dX5_tells_144 : decode cX5_tells 144 = .ok (.goto 11, 3) := by decide +kernel
theorem dX5_tells_147 : decode cX5_tells 147 = .ok (.iload_n 3, 1) := by decide +kernel
theorem dX5_tells_148 : decode cX5_tells 148 = .ok (.iload 5, 2) := by decide +kernel
theorem dX5_tells_150 : decode cX5_tells 150 = .ok (.isub, 1) := by decide +kernel
theorem dX5_tells_151 : decode cX5_tells 151 = .ok (.sipush 1000, 3) := by decide +kernel
theorem dX5_tells_154 : decode cX5_tells 154 = .ok (.iadd, 1) := by decide +kernel
theorem dX5_tells_155 : decode cX5_tells 155 = .ok (.ireturn, 1) := by decide +kernel
theorem dX5_lacks_0 : decode cX5_lacks 0 = .ok (.aload_n 0, 1) := by decide +kernel
theorem dX5_lacks_1 : decode cX5_lacks 1 = .ok (.getfield 13, 3) := by decide +kernel
theorem dX5_lacks_4 : decode cX5_lacks 4 = .ok (.iload_n 1, 1) := by decide +kernel
theorem dX5_lacks_5 : decode cX5_lacks 5 = .ok (.iaload, 1) := by decide +kernel
theorem dX5_lacks_6 : decode cX5_lacks 6 = .ok (.ifCond .ge 9, 3) := by decide +kernel
theorem dX5_lacks_9 : decode cX5_lacks 9 = .ok (.aload_n 0, 1) := by decide +kernel
theorem dX5_lacks_10 : decode cX5_lacks 10 = .ok (.iconst 1, 1) := by decide +kernel
theorem dX5_lacks_11 : decode cX5_lacks 11 = .ok (.invokevirtual 65, 3) := by decide +kernel
theorem dX5_lacks_14 : decode cX5_lacks 14 = .ok (.ireturn, 1) := by decide +kernel
theorem dX5_lacks_15 : decode cX5_lacks 15 = .ok (.iload_n 2, 1) := by decide +kernel
theorem dX5_lacks_16 : decode cX5_lacks 16 = .ok (.i2l, 1) := by decide +kernel
theorem dX5_lacks_17 : decode cX5_lacks 17 = .ok (.lconst 0, 1) := by decide +kernel
theorem dX5_lacks_18 : decode cX5_lacks 18 = .ok (.aload_n 0, 1) := by decide +kernel
theorem dX5_lacks_19 : decode cX5_lacks 19 = .ok (.getfield 13, 3) := by decide +kernel
theorem dX5_lacks_22 : decode cX5_lacks 22 = .ok (.iload_n 1, 1) := by decide +kernel
theorem dX5_lacks_23 : decode cX5_lacks 23 = .ok (.iaload, 1) := by decide +kernel
theorem dX5_lacks_24 : decode cX5_lacks 24 = .ok (.iload_n 3, 1) := by decide +kernel
theorem dX5_lacks_25 : decode cX5_lacks 25 = .ok (.isub, 1) := by decide +kernel
theorem dX5_lacks_26 : decode cX5_lacks 26 = .ok (.i2l, 1) := by decide +kernel
theorem dX5_lacks_27 : decode cX5_lacks 27 = .ok (.invokestatic 54, 3) := by decide +kernel
theorem dX5_lacks_30 : decode cX5_lacks 30 = .ok (.ifCond .eq 7, 3) := by decide +kernel
theorem dX5_lacks_33 : decode cX5_lacks 33 = .ok (.iconst 0, 1) := by decide +kernel
theorem dX5_lacks_34 : decode cX5_lacks 34 = .ok (.goto 8, 3) := by decide +kernel
theorem dX5_lacks_37 : decode cX5_lacks 37 = .ok (.aload_n 0, 1) := by decide +kernel
theorem dX5_lacks_38 : decode cX5_lacks 38 = .ok (.iconst 2, 1) := by decide +kernel
theorem dX5_lacks_39 : decode cX5_lacks 39 = .ok (.invokevirtual 65, 3) := by decide +kernel
theorem dX5_lacks_42 : decode cX5_lacks 42 = .ok (.ireturn, 1) := by decide +kernel
theorem dX5_isSo_0 : decode cX5_isSo 0 = .ok (.iconst 1, 1) := by decide +kernel
theorem dX5_isSo_1 : decode cX5_isSo 1 = .ok (.istore 4, 2) := by decide +kernel
theorem dX5_isSo_3 : decode cX5_isSo 3 = .ok (.iconst 0, 1) := by decide +kernel
theorem dX5_isSo_4 : decode cX5_isSo 4 = .ok (.istore 5, 2) := by decide +kernel
theorem dX5_isSo_6 : decode cX5_isSo 6 = .ok (.iload 5, 2) := by decide +kernel
theorem dX5_isSo_8 : decode cX5_isSo 8 = .ok (.iload_n 3, 1) := by decide +kernel
theorem dX5_isSo_9 : decode cX5_isSo 9 = .ok (.if_icmp .ge 46, 3) := by decide +kernel
theorem dX5_isSo_12 : decode cX5_isSo 12 = .ok (.aload_n 0, 1) := by decide +kernel
theorem dX5_isSo_13 : decode cX5_isSo 13 = .ok (.invokevirtual 173, 3) := by decide +kernel
theorem dX5_isSo_16 : decode cX5_isSo 16 = .ok (.iload 4, 2) := by decide +kernel
theorem dX5_isSo_18 : decode cX5_isSo 18 = .ok (.ifCond .eq 28, 3) := by decide +kernel
theorem dX5_isSo_21 : decode cX5_isSo 21 = .ok (.aload_n 0, 1) := by decide +kernel
theorem dX5_isSo_22 : decode cX5_isSo 22 = .ok (.getfield 16, 3) := by decide +kernel
theorem dX5_isSo_25 : decode cX5_isSo 25 = .ok (.iload_n 2, 1) := by decide +kernel
theorem dX5_isSo_26 : decode cX5_isSo 26 = .ok (.iload 5, 2) := by decide +kernel
theorem dX5_isSo_28 : decode cX5_isSo 28 = .ok (.iadd, 1) := by decide +kernel
theorem dX5_isSo_29 : decode cX5_isSo 29 = .ok (.iaload, 1) := by decide +kernel
theorem dX5_isSo_30 : decode cX5_isSo 30 = .ok (.aload_n 0, 1) := by decide +kernel
theorem dX5_isSo_31 : decode cX5_isSo 31 = .ok (.getfield 19, 3) := by decide +kernel
theorem dX5_isSo_34 : decode cX5_isSo 34 = .ok (.bipush 6, 2) := by decide +kernel
theorem dX5_isSo_36 : decode cX5_isSo 36 = .ok (.iload_n 1, 1) := by decide +kernel
theorem dX5_isSo_37 : decode cX5_isSo 37 = .ok (.iadd, 1) := by decide +kernel
theorem dX5_isSo_38 : decode cX5_isSo 38 = .ok (.iaload, 1) := by decide +kernel
theorem dX5_isSo_39 : decode cX5_isSo 39 = .ok (.if_icmp .ne 7, 3) := by decide +kernel
theorem dX5_isSo_42 : decode cX5_isSo 42 = .ok (.iconst 1, 1) := by decide +kernel
theorem dX5_isSo_43 : decode cX5_isSo 43 = .ok (.goto 4, 3) := by decide +kernel
theorem dX5_isSo_46 : decode cX5_isSo 46 = .ok (.iconst 0, 1) := by decide +kernel
theorem dX5_isSo_47 : decode cX5_isSo 47 = .ok (.istore 4, 2) := by decide +kernel
theorem dX5_isSo_49 : decode cX5_isSo 49 = .ok (.iinc 5 1, 3) := by decide +kernel
theorem dX5_isSo_52 : decode cX5_isSo 52 = .ok (.goto (-46), 3) := by decide +kernel
theorem dX5_isSo_55 : decode cX5_isSo 55 = .ok (.aload_n 0, 1) := by decide +kernel
theorem dX5_isSo_56 : decode cX5_isSo 56 = .ok (.invokevirtual 201, 3) := by decide +kernel
theorem dX5_isSo_59 : decode cX5_isSo 59 = .ok (.iload 4, 2) := by decide +kernel
theorem dX5_isSo_61 : decode cX5_isSo 61 = .ok (.ireturn, 1) := by decide +kernel
theorem dX5_lacksAsk_0 : decode cX5_lacksAsk 0 = .ok (.aload_n 0, 1) := by decide +kernel
theorem dX5_lacksAsk_1 : decode cX5_lacksAsk 1 = .ok (.iload_n 1, 1) := by decide +kernel
theorem dX5_lacksAsk_2 : decode cX5_lacksAsk 2 = .ok (.invokevirtual 183, 3) := by decide +kernel
theorem dX5_lacksAsk_5 : decode cX5_lacksAsk 5 = .ok (.ifCond .eq 23, 3) := by decide +kernel
theorem dX5_lacksAsk_8 : decode cX5_lacksAsk 8 = .ok (.iload_n 2, 1) := by decide +kernel
theorem dX5_lacksAsk_9 : decode cX5_lacksAsk 9 = .ok (.invokestatic 58, 3) := by decide +kernel
theorem dX5_lacksAsk_12 : decode cX5_lacksAsk 12 = .ok (.ifCond .eq 16, 3) := by decide +kernel
theorem dX5_lacksAsk_15 : decode cX5_lacksAsk 15 = .ok (.iload 4, 2) := by decide +kernel
theorem dX5_lacksAsk_17 : decode cX5_lacksAsk 17 = .ok (.i2l, 1) := by decide +kernel
theorem dX5_lacksAsk_18 : decode cX5_lacksAsk 18 = .ok (.lconst 1, 1) := by decide +kernel
theorem dX5_lacksAsk_19 : decode cX5_lacksAsk 19 = .ok (.ldc2_w 218, 3) := by decide +kernel
theorem dX5_lacksAsk_22 : decode cX5_lacksAsk 22 = .ok (.invokestatic 54, 3) := by decide +kernel
theorem dX5_lacksAsk_25 : decode cX5_lacksAsk 25 = .ok (.ifCond .ne 8, 3) := by decide +kernel
theorem dX5_lacksAsk_28 : decode cX5_lacksAsk 28 = .ok (.ldc 64, 2) := by decide +kernel
theorem dX5_lacksAsk_30 : decode cX5_lacksAsk 30 = .ok (.goto 11, 3) := by decide +kernel
theorem dX5_lacksAsk_33 : decode cX5_lacksAsk 33 = .ok (.aload_n 0, 1) := by decide +kernel
theorem dX5_lacksAsk_34 : decode cX5_lacksAsk 34 = .ok (.iload_n 2, 1) := by decide +kernel
theorem dX5_lacksAsk_35 : decode cX5_lacksAsk 35 = .ok (.iload_n 3, 1) := by decide +kernel
theorem dX5_lacksAsk_36 : decode cX5_lacksAsk 36 = .ok (.iload 4, 2) := by decide +kernel
theorem dX5_lacksAsk_38 : decode cX5_lacksAsk 38 = .ok (.invokevirtual 220, 3) := by decide +kernel
theorem dX5_lacksAsk_41 : decode cX5_lacksAsk 41 = .ok (.ireturn, 1) := by decide +kernel
theorem dX5_who_0 : decode cX5_who 0 = .ok (.aload_n 0, 1) := by decide +kernel
theorem dX5_who_1 : decode cX5_who 1 = .ok (.iload_n 1, 1) := by decide +kernel
theorem dX5_who_2 : decode cX5_who 2 = .ok (.invokevirtual 180, 3) := by decide +kernel
theorem dX5_who_5 : decode cX5_who 5 = .ok (.ifCond .eq 16, 3) := by decide +kernel
theorem dX5_who_8 : decode cX5_who 8 = .ok (.aload_n 0, 1) := by decide +kernel
theorem dX5_who_9 : decode cX5_who 9 = .ok (.iload_n 2, 1) := by decide +kernel
theorem dX5_who_10 : decode cX5_who 10 = .ok (.iload_n 3, 1) := by decide +kernel
theorem dX5_who_11 : decode cX5_who 11 = .ok (.iload 4, 2) := by decide +kernel
theorem dX5_who_13 : decode cX5_who 13 = .ok (.iload 5, 2) := by decide +kernel
theorem dX5_who_15 : decode cX5_who 15 = .ok (.invokevirtual 224, 3) := by decide +kernel
theorem dX5_who_18 : decode cX5_who 18 = .ok (.goto 5, 3) := by decide +kernel
theorem dX5_who_21 : decode cX5_who 21 = .ok (.ldc 64, 2) := by decide +kernel
theorem dX5_who_23 : decode cX5_who 23 = .ok (.istore 6, 2) := by decide +kernel
theorem dX5_who_25 : decode cX5_who 25 = .ok (.iload 6, 2) := by decide +kernel
theorem dX5_who_27 : decode cX5_who 27 = .ok (.ifCond .ge 6, 3) := by decide +kernel
theorem dX5_who_30 : decode cX5_who 30 = .ok (.iload 6, 2) := by decide +kernel
theorem dX5_who_32 : decode cX5_who 32 = .ok (.ireturn, 1) := by decide +kernel
theorem dX5_who_33 : decode cX5_who 33 = .ok (.aload_n 0, 1) := by decide +kernel
theorem dX5_who_34 : decode cX5_who 34 = .ok (.invokevirtual 194, 3) := by decide +kernel
theorem dX5_who_37 : decode cX5_who 37 = .ok (.iconst 0, 1) := by decide +kernel
theorem dX5_who_38 : decode cX5_who 38 = .ok (.istore 7, 2) := by decide +kernel
theorem dX5_who_40 : decode cX5_who 40 = .ok (.iconst 1, 1) := by decide +kernel
theorem dX5_who_41 : decode cX5_who 41 = .ok (.istore 8, 2) := by decide +kernel
theorem dX5_who_43 : decode cX5_who 43 = .ok (.iload 8, 2) := by decide +kernel
theorem dX5_who_45 : decode cX5_who 45 = .ok (.iconst 5, 1) := by decide +kernel
theorem dX5_who_46 : decode cX5_who 46 = .ok (.if_icmp .gt 50, 3) := by decide +kernel
theorem dX5_who_49 : decode cX5_who 49 = .ok (.aload_n 0, 1) := by decide +kernel
theorem dX5_who_50 : decode cX5_who 50 = .ok (.getfield 19, 3) := by decide +kernel
theorem dX5_who_53 : decode cX5_who 53 = .ok (.bipush 16, 2) := by decide +kernel
theorem dX5_who_55 : decode cX5_who 55 = .ok (.iload_n 1, 1) := by decide +kernel
theorem dX5_who_56 : decode cX5_who 56 = .ok (.iadd, 1) := by decide +kernel
theorem dX5_who_57 : decode cX5_who 57 = .ok (.iload 8, 2) := by decide +kernel
theorem dX5_who_59 : decode cX5_who 59 = .ok (.iastore, 1) := by decide +kernel
theorem dX5_who_60 : decode cX5_who 60 = .ok (.iload 7, 2) := by decide +kernel
theorem dX5_who_62 : decode cX5_who 62 = .ok (.aload_n 0, 1) := by decide +kernel
theorem dX5_who_63 : decode cX5_who 63 = .ok (.iload_n 2, 1) := by decide +kernel
theorem dX5_who_64 : decode cX5_who 64 = .ok (.bipush 40, 2) := by decide +kernel
theorem dX5_who_66 : decode cX5_who 66 = .ok (.iload_n 3, 1) := by decide +kernel
theorem dX5_who_67 : decode cX5_who 67 = .ok (.imul, 1) := by decide +kernel
theorem dX5_who_68 : decode cX5_who 68 = .ok (.iload 4, 2) := by decide +kernel
theorem dX5_who_70 : decode cX5_who 70 = .ok (.iadd, 1) := by decide +kernel
theorem dX5_who_71 : decode cX5_who 71 = .ok (.iload 5, 2) := by decide +kernel
theorem dX5_who_73 : decode cX5_who 73 = .ok (.invokevirtual 228, 3) := by decide +kernel
theorem dX5_who_76 : decode cX5_who 76 = .ok (.ifCond .eq 10, 3) := by decide +kernel
theorem dX5_who_79 : decode cX5_who 79 = .ok (.iconst 1, 1) := by decide +kernel
theorem dX5_who_80 : decode cX5_who 80 = .ok (.iload 8, 2) := by decide +kernel
theorem dX5_who_82 : decode cX5_who 82 = .ok (.ishl, 1) := by decide +kernel
theorem dX5_who_83 : decode cX5_who 83 = .ok (.goto 4, 3) := by decide +kernel
theorem dX5_who_86 : decode cX5_who 86 = .ok (.iconst 0, 1) := by decide +kernel
theorem dX5_who_87 : decode cX5_who 87 = .ok (.ior, 1) := by decide +kernel
theorem dX5_who_88 : decode cX5_who 88 = .ok (.istore 7, 2) := by decide +kernel
theorem dX5_who_90 : decode cX5_who 90 = .ok (.iinc 8 1, 3) := by decide +kernel
theorem dX5_who_93 : decode cX5_who 93 = .ok (.goto (-50), 3) := by decide +kernel
theorem dX5_who_96 : decode cX5_who 96 = .ok (.aload_n 0, 1) := by decide +kernel
theorem dX5_who_97 : decode cX5_who 97 = .ok (.iload 7, 2) := by decide +kernel
theorem dX5_who_99 : decode cX5_who 99 = .ok (.invokevirtual 69, 3) := by decide +kernel
theorem dX5_who_102 : decode cX5_who 102 = .ok (.ireturn, 1) := by decide +kernel
theorem dX5_houses_0 : decode cX5_houses 0 = .ok (.aload_n 0, 1) := by decide +kernel
theorem dX5_houses_1 : decode cX5_houses 1 = .ok (.iload_n 1, 1) := by decide +kernel
theorem dX5_houses_2 : decode cX5_houses 2 = .ok (.invokevirtual 180, 3) := by decide +kernel
theorem dX5_houses_5 : decode cX5_houses 5 = .ok (.ifCond .eq 16, 3) := by decide +kernel
theorem dX5_houses_8 : decode cX5_houses 8 = .ok (.aload_n 0, 1) := by decide +kernel
theorem dX5_houses_9 : decode cX5_houses 9 = .ok (.iload_n 2, 1) := by decide +kernel
theorem dX5_houses_10 : decode cX5_houses 10 = .ok (.iload_n 3, 1) := by decide +kernel
theorem dX5_houses_11 : decode cX5_houses 11 = .ok (.iload 4, 2) := by decide +kernel
theorem dX5_houses_13 : decode cX5_houses 13 = .ok (.iload 5, 2) := by decide +kernel
theorem dX5_houses_15 : decode cX5_houses 15 = .ok (.invokevirtual 224, 3) := by decide +kernel
theorem dX5_houses_18 : decode cX5_houses 18 = .ok (.goto 5, 3) := by decide +kernel
theorem dX5_houses_21 : decode cX5_houses 21 = .ok (.ldc 64, 2) := by decide +kernel
theorem dX5_houses_23 : decode cX5_houses 23 = .ok (.istore 6, 2) := by decide +kernel
theorem dX5_houses_25 : decode cX5_houses 25 = .ok (.iload 6, 2) := by decide +kernel
theorem dX5_houses_27 : decode cX5_houses 27 = .ok (.ifCond .ge 6, 3) := by decide +kernel
theorem dX5_houses_30 : decode cX5_houses 30 = .ok (.iload 6, 2) := by decide +kernel
theorem dX5_houses_32 : decode cX5_houses 32 = .ok (.ireturn, 1) := by decide +kernel
theorem dX5_houses_33 : decode cX5_houses 33 = .ok (.aload_n 0, 1) := by decide +kernel
theorem dX5_houses_34 : decode cX5_houses 34 = .ok (.invokevirtual 194, 3) := by decide +kernel
theorem dX5_houses_37 : decode cX5_houses 37 = .ok (.iconst 0, 1) := by decide +kernel
theorem dX5_houses_38 : decode cX5_houses 38 = .ok (.istore 7, 2) := by decide +kernel
theorem dX5_houses_40 : decode cX5_houses 40 = .ok (.iconst 0, 1) := by decide +kernel
theorem dX5_houses_41 : decode cX5_houses 41 = .ok (.istore 8, 2) := by decide +kernel
theorem dX5_houses_43 : decode cX5_houses 43 = .ok (.iload 8, 2) := by decide +kernel
theorem dX5_houses_45 : decode cX5_houses 45 = .ok (.aload_n 0, 1) := by decide +kernel
theorem dX5_houses_46 : decode cX5_houses 46 = .ok (.getfield 19, 3) := by decide +kernel
theorem dX5_houses_49 : decode cX5_houses 49 = .ok (.iconst 2, 1) := by decide +kernel
theorem dX5_houses_50 : decode cX5_houses 50 = .ok (.iaload, 1) := by decide +kernel
theorem dX5_houses_51 : decode cX5_houses 51 = .ok (.if_icmp .ge 46, 3) := by decide +kernel
theorem dX5_houses_54 : decode cX5_houses 54 = .ok (.aload_n 0, 1) := by decide +kernel
theorem dX5_houses_55 : decode cX5_houses 55 = .ok (.iload_n 1, 1) := by decide +kernel
theorem dX5_houses_56 : decode cX5_houses 56 = .ok (.iload 8, 2) := by decide +kernel
theorem dX5_houses_58 : decode cX5_houses 58 = .ok (.invokevirtual 186, 3) := by decide +kernel
theorem dX5_houses_61 : decode cX5_houses 61 = .ok (.iload 7, 2) := by decide +kernel
theorem dX5_houses_63 : decode cX5_houses 63 = .ok (.aload_n 0, 1) := by decide +kernel
theorem dX5_houses_64 : decode cX5_houses 64 = .ok (.iload_n 2, 1) := by decide +kernel
theorem dX5_houses_65 : decode cX5_houses 65 = .ok (.bipush 40, 2) := by decide +kernel
theorem dX5_houses_67 : decode cX5_houses 67 = .ok (.iload_n 3, 1) := by decide +kernel
theorem dX5_houses_68 : decode cX5_houses 68 = .ok (.imul, 1) := by decide +kernel
theorem dX5_houses_69 : decode cX5_houses 69 = .ok (.iload 4, 2) := by decide +kernel
theorem dX5_houses_71 : decode cX5_houses 71 = .ok (.iadd, 1) := by decide +kernel
theorem dX5_houses_72 : decode cX5_houses 72 = .ok (.iload 5, 2) := by decide +kernel
theorem dX5_houses_74 : decode cX5_houses 74 = .ok (.invokevirtual 228, 3) := by decide +kernel
theorem dX5_houses_77 : decode cX5_houses 77 = .ok (.ifCond .eq 10, 3) := by decide +kernel
theorem dX5_houses_80 : decode cX5_houses 80 = .ok (.iconst 1, 1) := by decide +kernel
theorem dX5_houses_81 : decode cX5_houses 81 = .ok (.iload 8, 2) := by decide +kernel
theorem dX5_houses_83 : decode cX5_houses 83 = .ok (.ishl, 1) := by decide +kernel
theorem dX5_houses_84 : decode cX5_houses 84 = .ok (.goto 4, 3) := by decide +kernel
theorem dX5_houses_87 : decode cX5_houses 87 = .ok (.iconst 0, 1) := by decide +kernel
theorem dX5_houses_88 : decode cX5_houses 88 = .ok (.ior, 1) := by decide +kernel
theorem dX5_houses_89 : decode cX5_houses 89 = .ok (.istore 7, 2) := by decide +kernel
theorem dX5_houses_91 : decode cX5_houses 91 = .ok (.iinc 8 1, 3) := by decide +kernel
theorem dX5_houses_94 : decode cX5_houses 94 = .ok (.goto (-51), 3) := by decide +kernel
theorem dX5_houses_97 : decode cX5_houses 97 = .ok (.aload_n 0, 1) := by decide +kernel
theorem dX5_houses_98 : decode cX5_houses 98 = .ok (.iload 7, 2) := by decide +kernel
theorem dX5_houses_100 : decode cX5_houses 100 = .ok (.invokevirtual 69, 3) := by decide +kernel
theorem dX5_houses_103 : decode cX5_houses 103 = .ok (.ireturn, 1) := by decide +kernel
theorem dX5_weights_0 : decode cX5_weights 0 = .ok (.aload_n 0, 1) := by decide +kernel
theorem dX5_weights_1 : decode cX5_weights 1 = .ok (.iload_n 1, 1) := by decide +kernel
theorem dX5_weights_2 : decode cX5_weights 2 = .ok (.invokevirtual 180, 3) := by decide +kernel
theorem dX5_weights_5 : decode cX5_weights 5 = .ok (.ifCond .eq 16, 3) := by decide +kernel
theorem dX5_weights_8 : decode cX5_weights 8 = .ok (.aload_n 0, 1) := by decide +kernel
theorem dX5_weights_9 : decode cX5_weights 9 = .ok (.iload_n 2, 1) := by decide +kernel
theorem dX5_weights_10 : decode cX5_weights 10 = .ok (.iload_n 3, 1) := by decide +kernel
theorem dX5_weights_11 : decode cX5_weights 11 = .ok (.iload 4, 2) := by decide +kernel
theorem dX5_weights_13 : decode cX5_weights 13 = .ok (.iload 5, 2) := by decide +kernel
theorem dX5_weights_15 : decode cX5_weights 15 = .ok (.invokevirtual 224, 3) := by decide +kernel
theorem dX5_weights_18 : decode cX5_weights 18 = .ok (.goto 5, 3) := by decide +kernel
theorem dX5_weights_21 : decode cX5_weights 21 = .ok (.ldc 64, 2) := by decide +kernel
theorem dX5_weights_23 : decode cX5_weights 23 = .ok (.istore 6, 2) := by decide +kernel
theorem dX5_weights_25 : decode cX5_weights 25 = .ok (.iload 6, 2) := by decide +kernel
theorem dX5_weights_27 : decode cX5_weights 27 = .ok (.ifCond .ge 6, 3) := by decide +kernel
theorem dX5_weights_30 : decode cX5_weights 30 = .ok (.iload 6, 2) := by decide +kernel
theorem dX5_weights_32 : decode cX5_weights 32 = .ok (.ireturn, 1) := by decide +kernel
theorem dX5_weights_33 : decode cX5_weights 33 = .ok (.aload_n 0, 1) := by decide +kernel
theorem dX5_weights_34 : decode cX5_weights 34 = .ok (.invokevirtual 194, 3) := by decide +kernel
theorem dX5_weights_37 : decode cX5_weights 37 = .ok (.iconst 0, 1) := by decide +kernel
theorem dX5_weights_38 : decode cX5_weights 38 = .ok (.istore 7, 2) := by decide +kernel
theorem dX5_weights_40 : decode cX5_weights 40 = .ok (.iconst 1, 1) := by decide +kernel
theorem dX5_weights_41 : decode cX5_weights 41 = .ok (.istore 8, 2) := by decide +kernel
theorem dX5_weights_43 : decode cX5_weights 43 = .ok (.iload 8, 2) := by decide +kernel
theorem dX5_weights_45 : decode cX5_weights 45 = .ok (.bipush 10, 2) := by decide +kernel
theorem dX5_weights_47 : decode cX5_weights 47 = .ok (.if_icmp .ge 50, 3) := by decide +kernel
theorem dX5_weights_50 : decode cX5_weights 50 = .ok (.aload_n 0, 1) := by decide +kernel
theorem dX5_weights_51 : decode cX5_weights 51 = .ok (.getfield 19, 3) := by decide +kernel
theorem dX5_weights_54 : decode cX5_weights 54 = .ok (.bipush 28, 2) := by decide +kernel
theorem dX5_weights_56 : decode cX5_weights 56 = .ok (.iload_n 1, 1) := by decide +kernel
theorem dX5_weights_57 : decode cX5_weights 57 = .ok (.iadd, 1) := by decide +kernel
theorem dX5_weights_58 : decode cX5_weights 58 = .ok (.iload 8, 2) := by decide +kernel
theorem dX5_weights_60 : decode cX5_weights 60 = .ok (.iastore, 1) := by decide +kernel
theorem dX5_weights_61 : decode cX5_weights 61 = .ok (.iload 7, 2) := by decide +kernel
theorem dX5_weights_63 : decode cX5_weights 63 = .ok (.aload_n 0, 1) := by decide +kernel
theorem dX5_weights_64 : decode cX5_weights 64 = .ok (.iload_n 2, 1) := by decide +kernel
theorem dX5_weights_65 : decode cX5_weights 65 = .ok (.bipush 40, 2) := by decide +kernel
theorem dX5_weights_67 : decode cX5_weights 67 = .ok (.iload_n 3, 1) := by decide +kernel
theorem dX5_weights_68 : decode cX5_weights 68 = .ok (.imul, 1) := by decide +kernel
theorem dX5_weights_69 : decode cX5_weights 69 = .ok (.iload 4, 2) := by decide +kernel
theorem dX5_weights_71 : decode cX5_weights 71 = .ok (.iadd, 1) := by decide +kernel
theorem dX5_weights_72 : decode cX5_weights 72 = .ok (.iload 5, 2) := by decide +kernel
theorem dX5_weights_74 : decode cX5_weights 74 = .ok (.invokevirtual 228, 3) := by decide +kernel
theorem dX5_weights_77 : decode cX5_weights 77 = .ok (.ifCond .eq 10, 3) := by decide +kernel
theorem dX5_weights_80 : decode cX5_weights 80 = .ok (.iconst 1, 1) := by decide +kernel
theorem dX5_weights_81 : decode cX5_weights 81 = .ok (.iload 8, 2) := by decide +kernel
theorem dX5_weights_83 : decode cX5_weights 83 = .ok (.ishl, 1) := by decide +kernel
theorem dX5_weights_84 : decode cX5_weights 84 = .ok (.goto 4, 3) := by decide +kernel
theorem dX5_weights_87 : decode cX5_weights 87 = .ok (.iconst 0, 1) := by decide +kernel
theorem dX5_weights_88 : decode cX5_weights 88 = .ok (.ior, 1) := by decide +kernel
theorem dX5_weights_89 : decode cX5_weights 89 = .ok (.istore 7, 2) := by decide +kernel
theorem dX5_weights_91 : decode cX5_weights 91 = .ok (.iinc 8 1, 3) := by decide +kernel
theorem dX5_weights_94 : decode cX5_weights 94 = .ok (.goto (-51), 3) := by decide +kernel
theorem dX5_weights_97 : decode cX5_weights 97 = .ok (.aload_n 0, 1) := by decide +kernel
theorem dX5_weights_98 : decode cX5_weights 98 = .ok (.iload 7, 2) := by decide +kernel
theorem dX5_weights_100 : decode cX5_weights 100 = .ok (.invokevirtual 69, 3) := by decide +kernel
theorem dX5_weights_103 : decode cX5_weights 103 = .ok (.ireturn, 1) := by decide +kernel
theorem dX5_absent_0 : decode cX5_absent 0 = .ok (.aload_n 0, 1) := by decide +kernel
theorem dX5_absent_1 : decode cX5_absent 1 = .ok (.iload_n 1, 1) := by decide +kernel
theorem dX5_absent_2 : decode cX5_absent 2 = .ok (.iload_n 2, 1) := by decide +kernel
theorem dX5_absent_3 : decode cX5_absent 3 = .ok (.iload_n 3, 1) := by decide +kernel
theorem dX5_absent_4 : decode cX5_absent 4 = .ok (.iload 4, 2) := by decide +kernel
theorem dX5_absent_6 : decode cX5_absent 6 = .ok (.invokevirtual 224, 3) := by decide +kernel
theorem dX5_absent_9 : decode cX5_absent 9 = .ok (.istore 5, 2) := by decide +kernel
theorem dX5_absent_11 : decode cX5_absent 11 = .ok (.iload 5, 2) := by decide +kernel
theorem dX5_absent_13 : decode cX5_absent 13 = .ok (.ifCond .ge 6, 3) := by decide +kernel
theorem dX5_absent_16 : decode cX5_absent 16 = .ok (.iload 5, 2) := by decide +kernel
theorem dX5_absent_18 : decode cX5_absent 18 = .ok (.ireturn, 1) := by decide +kernel
theorem dX5_absent_19 : decode cX5_absent 19 = .ok (.aload_n 0, 1) := by decide +kernel
theorem dX5_absent_20 : decode cX5_absent 20 = .ok (.invokevirtual 194, 3) := by decide +kernel
theorem dX5_absent_23 : decode cX5_absent 23 = .ok (.aload_n 0, 1) := by decide +kernel
theorem dX5_absent_24 : decode cX5_absent 24 = .ok (.iload_n 1, 1) := by decide +kernel
theorem dX5_absent_25 : decode cX5_absent 25 = .ok (.bipush 40, 2) := by decide +kernel
theorem dX5_absent_27 : decode cX5_absent 27 = .ok (.iload_n 2, 1) := by decide +kernel
theorem dX5_absent_28 : decode cX5_absent 28 = .ok (.imul, 1) := by decide +kernel
theorem dX5_absent_29 : decode cX5_absent 29 = .ok (.iload_n 3, 1) := by decide +kernel
theorem dX5_absent_30 : decode cX5_absent 30 = .ok (.iadd, 1) := by decide +kernel
theorem dX5_absent_31 : decode cX5_absent 31 = .ok (.iload 4, 2) := by decide +kernel
theorem dX5_absent_33 : decode cX5_absent 33 = .ok (.invokevirtual 228, 3) := by decide +kernel
theorem dX5_absent_36 : decode cX5_absent 36 = .ok (.ifCond .eq 8, 3) := by decide +kernel
theorem dX5_absent_39 : decode cX5_absent 39 = .ok (.bipush 64, 2) := by decide +kernel
theorem dX5_absent_41 : decode cX5_absent 41 = .ok (.goto 4, 3) := by decide +kernel
theorem dX5_absent_44 : decode cX5_absent 44 = .ok (.iconst 0, 1) := by decide +kernel
theorem dX5_absent_45 : decode cX5_absent 45 = .ok (.istore 6, 2) := by decide +kernel
theorem dX5_absent_47 : decode cX5_absent 47 = .ok (.iconst 0, 1) := by decide +kernel
theorem dX5_absent_48 : decode cX5_absent 48 = .ok (.istore 7, 2) := by decide +kernel
theorem dX5_absent_50 : decode cX5_absent 50 = .ok (.iload 7, 2) := by decide +kernel
theorem dX5_absent_52 : decode cX5_absent 52 = .ok (.aload_n 0, 1) := by decide +kernel
theorem dX5_absent_53 : decode cX5_absent 53 = .ok (.getfield 19, 3) := by decide +kernel
theorem dX5_absent_56 : decode cX5_absent 56 = .ok (.iconst 3, 1) := by decide +kernel
theorem dX5_absent_57 : decode cX5_absent 57 = .ok (.iaload, 1) := by decide +kernel
theorem dX5_absent_58 : decode cX5_absent 58 = .ok (.if_icmp .ge 46, 3) := by decide +kernel
theorem dX5_absent_61 : decode cX5_absent 61 = .ok (.aload_n 0, 1) := by decide +kernel
theorem dX5_absent_62 : decode cX5_absent 62 = .ok (.iconst 1, 1) := by decide +kernel
theorem dX5_absent_63 : decode cX5_absent 63 = .ok (.iload 7, 2) := by decide +kernel
theorem dX5_absent_65 : decode cX5_absent 65 = .ok (.ishl, 1) := by decide +kernel
theorem dX5_absent_66 : decode cX5_absent 66 = .ok (.putfield 148, 3) := by decide +kernel
theorem dX5_absent_69 : decode cX5_absent 69 = .ok (.iload 6, 2) := by decide +kernel
theorem dX5_absent_71 : decode cX5_absent 71 = .ok (.aload_n 0, 1) := by decide +kernel
theorem dX5_absent_72 : decode cX5_absent 72 = .ok (.iload_n 1, 1) := by decide +kernel
theorem dX5_absent_73 : decode cX5_absent 73 = .ok (.bipush 40, 2) := by decide +kernel
theorem dX5_absent_75 : decode cX5_absent 75 = .ok (.iload_n 2, 1) := by decide +kernel
theorem dX5_absent_76 : decode cX5_absent 76 = .ok (.imul, 1) := by decide +kernel
theorem dX5_absent_77 : decode cX5_absent 77 = .ok (.iload_n 3, 1) := by decide +kernel
theorem dX5_absent_78 : decode cX5_absent 78 = .ok (.iadd, 1) := by decide +kernel
theorem dX5_absent_79 : decode cX5_absent 79 = .ok (.iload 4, 2) := by decide +kernel
theorem dX5_absent_81 : decode cX5_absent 81 = .ok (.invokevirtual 228, 3) := by decide +kernel
theorem dX5_absent_84 : decode cX5_absent 84 = .ok (.ifCond .eq 10, 3) := by decide +kernel
theorem dX5_absent_87 : decode cX5_absent 87 = .ok (.iconst 1, 1) := by decide +kernel
theorem dX5_absent_88 : decode cX5_absent 88 = .ok (.iload 7, 2) := by decide +kernel
theorem dX5_absent_90 : decode cX5_absent 90 = .ok (.ishl, 1) := by decide +kernel
theorem dX5_absent_91 : decode cX5_absent 91 = .ok (.goto 4, 3) := by decide +kernel
theorem dX5_absent_94 : decode cX5_absent 94 = .ok (.iconst 0, 1) := by decide +kernel
theorem dX5_absent_95 : decode cX5_absent 95 = .ok (.ior, 1) := by decide +kernel
theorem dX5_absent_96 : decode cX5_absent 96 = .ok (.istore 6, 2) := by decide +kernel
theorem dX5_absent_98 : decode cX5_absent 98 = .ok (.iinc 7 1, 3) := by decide +kernel
theorem dX5_absent_101 : decode cX5_absent 101 = .ok (.goto (-51), 3) := by decide +kernel
theorem dX5_absent_104 : decode cX5_absent 104 = .ok (.aload_n 0, 1) := by decide +kernel
theorem dX5_absent_105 : decode cX5_absent 105 = .ok (.iconst 0, 1) := by decide +kernel
theorem dX5_absent_106 : decode cX5_absent 106 = .ok (.putfield 148, 3) := by decide +kernel
theorem dX5_absent_109 : decode cX5_absent 109 = .ok (.aload_n 0, 1) := by decide +kernel
theorem dX5_absent_110 : decode cX5_absent 110 = .ok (.iload 6, 2) := by decide +kernel
theorem dX5_absent_112 : decode cX5_absent 112 = .ok (.invokevirtual 69, 3) := by decide +kernel
theorem dX5_absent_115 : decode cX5_absent 115 = .ok (.ireturn, 1) := by decide +kernel
theorem dX5_isFree_0 : decode cX5_isFree 0 = .ok (.aload_n 0, 1) := by decide +kernel
theorem dX5_isFree_1 : decode cX5_isFree 1 = .ok (.getfield 19, 3) := by decide +kernel
theorem dX5_isFree_4 : decode cX5_isFree 4 = .ok (.iconst 5, 1) := by decide +kernel
theorem dX5_isFree_5 : decode cX5_isFree 5 = .ok (.iaload, 1) := by decide +kernel
theorem dX5_isFree_6 : decode cX5_isFree 6 = .ok (.iload_n 1, 1) := by decide +kernel
theorem dX5_isFree_7 : decode cX5_isFree 7 = .ok (.invokestatic 151, 3) := by decide +kernel
theorem dX5_isFree_10 : decode cX5_isFree 10 = .ok (.ifCond .ne 15, 3) := by decide +kernel
theorem dX5_isFree_13 : decode cX5_isFree 13 = .ok (.aload_n 0, 1) := by decide +kernel
theorem dX5_isFree_14 : decode cX5_isFree 14 = .ok (.iload_n 1, 1) := by decide +kernel
theorem dX5_isFree_15 : decode cX5_isFree 15 = .ok (.invokevirtual 155, 3) := by decide +kernel
theorem dX5_isFree_18 : decode cX5_isFree 18 = .ok (.ifCond .ne 7, 3) := by decide +kernel
theorem dX5_isFree_21 : decode cX5_isFree 21 = .ok (.iconst 1, 1) := by decide +kernel
theorem dX5_isFree_22 : decode cX5_isFree 22 = .ok (.goto 4, 3) := by decide +kernel
theorem dX5_isFree_25 : decode cX5_isFree 25 = .ok (.iconst 0, 1) := by decide +kernel
theorem dX5_isFree_26 : decode cX5_isFree 26 = .ok (.ireturn, 1) := by decide +kernel
theorem dX5_greets_0 : decode cX5_greets 0 = .ok (.aload_n 0, 1) := by decide +kernel
theorem dX5_greets_1 : decode cX5_greets 1 = .ok (.getfield 135, 3) := by decide +kernel
theorem dX5_greets_4 : decode cX5_greets 4 = .ok (.ifCond .ne 6, 3) := by decide +kernel
theorem dX5_greets_7 : decode cX5_greets 7 = .ok (.ldc 167, 2) := by decide +kernel
theorem dX5_greets_9 : decode cX5_greets 9 = .ok (.ireturn, 1) := by decide +kernel
theorem dX5_greets_10 : decode cX5_greets 10 = .ok (.iload_n 1, 1) := by decide +kernel
theorem dX5_greets_11 : decode cX5_greets 11 = .ok (.invokestatic 209, 3) := by decide +kernel
theorem dX5_greets_14 : decode cX5_greets 14 = .ok (.ifCond .ne 6, 3) := by decide +kernel
theorem dX5_greets_17 : decode cX5_greets 17 = .ok (.ldc 64, 2) := by decide +kernel
theorem dX5_greets_19 : decode cX5_greets 19 = .ok (.ireturn, 1) := by decide +kernel
theorem dX5_greets_20 : decode cX5_greets 20 = .ok (.iconst 0, 1) := by decide +kernel
theorem dX5_greets_21 : decode cX5_greets 21 = .ok (.istore_n 2, 1) := by decide +kernel
theorem dX5_greets_22 : decode cX5_greets 22 = .ok (.ldc 204, 2) := by decide +kernel
theorem dX5_greets_24 : decode cX5_greets 24 = .ok (.istore_n 3, 1) := by decide +kernel
theorem dX5_greets_25 : decode cX5_greets 25 = .ok (.aload_n 0, 1) := by decide +kernel
theorem dX5_greets_26 : decode cX5_greets 26 = .ok (.getfield 19, 3) := by decide +kernel
theorem dX5_greets_29 : decode cX5_greets 29 = .ok (.iconst 2, 1) := by decide +kernel
theorem dX5_greets_30 : decode cX5_greets 30 = .ok (.iaload, 1) := by decide +kernel
theorem dX5_greets_31 : decode cX5_greets 31 = .ok (.iconst 2, 1) := by decide +kernel
theorem dX5_greets_32 : decode cX5_greets 32 = .ok (.isub, 1) := by decide +kernel
theorem dX5_greets_33 : decode cX5_greets 33 = .ok (.istore 4, 2) := by decide +kernel
theorem dX5_greets_35 : decode cX5_greets 35 = .ok (.iload 4, 2) := by decide +kernel
theorem dX5_greets_37 : decode cX5_greets 37 = .ok (.ifCond .lt 40, 3) := by decide +kernel
theorem dX5_greets_40 : decode cX5_greets 40 = .ok (.aload_n 0, 1) := by decide +kernel
theorem dX5_greets_41 : decode cX5_greets 41 = .ok (.iload 4, 2) := by decide +kernel
theorem dX5_greets_43 : decode cX5_greets 43 = .ok (.invokevirtual 232, 3) := by decide +kernel
theorem dX5_greets_46 : decode cX5_greets 46 = .ok (.ifCond .eq 25, 3) := by decide +kernel
theorem dX5_greets_49 : decode cX5_greets 49 = .ok (.aload_n 0, 1) := by decide +kernel
theorem dX5_greets_50 : decode cX5_greets 50 = .ok (.iload 4, 2) := by decide +kernel
theorem dX5_greets_52 : decode cX5_greets 52 = .ok (.iconst 1, 1) := by decide +kernel
theorem dX5_greets_53 : decode cX5_greets 53 = .ok (.iadd, 1) := by decide +kernel
theorem dX5_greets_54 : decode cX5_greets 54 = .ok (.invokevirtual 232, 3) := by decide +kernel
theorem dX5_greets_57 : decode cX5_greets 57 = .ok (.ifCond .eq 14, 3) := by decide +kernel
theorem dX5_greets_60 : decode cX5_greets 60 = .ok (.bipush 11, 2) := by decide +kernel
theorem dX5_greets_62 : decode cX5_greets 62 = .ok (.iload 4, 2) := by decide +kernel
theorem dX5_greets_64 : decode cX5_greets 64 = .ok (.imul, 1) := by decide +kernel
theorem dX5_greets_65 : decode cX5_greets 65 = .ok (.iconst 1, 1) := by decide +kernel
theorem dX5_greets_66 : decode cX5_greets 66 = .ok (.iadd, 1) := by decide +kernel
theorem dX5_greets_67 : decode cX5_greets 67 = .ok (.istore_n 3, 1) := by decide +kernel
theorem dX5_greets_68 : decode cX5_greets 68 = .ok (.iinc 2 1, 3) := by decide +kernel
theorem dX5_greets_71 : decode cX5_greets 71 = .ok (.iinc 4 (-1), 3) := by decide +kernel
theorem dX5_greets_74 : decode cX5_greets 74 = .ok (.goto (-39), 3) := by decide +kernel
theorem dX5_greets_77 : decode cX5_greets 77 = .ok (.iload_n 1, 1) := by decide +kernel
theorem dX5_greets_78 : decode cX5_greets 78 = .ok (.ifCond .ne 7, 3) := by decide +kernel
theorem dX5_greets_81 : decode cX5_greets 81 = .ok (.iload_n 2, 1) := by decide +kernel
theorem dX5_greets_82 : decode cX5_greets 82 = .ok (.goto 4, 3) := by decide +kernel
theorem dX5_greets_85 : decode cX5_greets 85 = .ok (.iload_n 3, 1) := by decide +kernel
theorem dX5_greets_86 : decode cX5_greets 86 = .ok (.ireturn, 1) := by decide +kernel
theorem dX5_talk_0 : decode cX5_talk 0 = .ok (.aload_n 0, 1) := by decide +kernel
theorem dX5_talk_1 : decode cX5_talk 1 = .ok (.iload_n 1, 1) := by decide +kernel
theorem dX5_talk_2 : decode cX5_talk 2 = .ok (.invokevirtual 183, 3) := by decide +kernel
theorem dX5_talk_5 : decode cX5_talk 5 = .ok (.ifCond .eq 16, 3) := by decide +kernel
theorem dX5_talk_8 : decode cX5_talk 8 = .ok (.aload_n 0, 1) := by decide +kernel
theorem dX5_talk_9 : decode cX5_talk 9 = .ok (.iload_n 2, 1) := by decide +kernel
theorem dX5_talk_10 : decode cX5_talk 10 = .ok (.invokevirtual 183, 3) := by decide +kernel
theorem dX5_talk_13 : decode cX5_talk 13 = .ok (.ifCond .eq 8, 3) := by decide +kernel
theorem dX5_talk_16 : decode cX5_talk 16 = .ok (.iload_n 1, 1) := by decide +kernel
theorem dX5_talk_17 : decode cX5_talk 17 = .ok (.iload_n 2, 1) := by decide +kernel
theorem dX5_talk_18 : decode cX5_talk 18 = .ok (.if_icmp .ne 6, 3) := by decide +kernel
theorem dX5_talk_21 : decode cX5_talk 21 = .ok (.ldc 64, 2) := by decide +kernel
theorem dX5_talk_23 : decode cX5_talk 23 = .ok (.ireturn, 1) := by decide +kernel
theorem dX5_talk_24 : decode cX5_talk 24 = .ok (.iconst 1, 1) := by decide +kernel
theorem dX5_talk_25 : decode cX5_talk 25 = .ok (.istore_n 3, 1) := by decide +kernel
theorem dX5_talk_26 : decode cX5_talk 26 = .ok (.iconst 0, 1) := by decide +kernel
theorem dX5_talk_27 : decode cX5_talk 27 = .ok (.istore 4, 2) := by decide +kernel
theorem dX5_talk_29 : decode cX5_talk 29 = .ok (.iload 4, 2) := by decide +kernel
theorem dX5_talk_31 : decode cX5_talk 31 = .ok (.aload_n 0, 1) := by decide +kernel
theorem dX5_talk_32 : decode cX5_talk 32 = .ok (.getfield 19, 3) := by decide +kernel
theorem dX5_talk_35 : decode cX5_talk 35 = .ok (.iconst 2, 1) := by decide +kernel
theorem dX5_talk_36 : decode cX5_talk 36 = .ok (.iaload, 1) := by decide +kernel
theorem dX5_talk_37 : decode cX5_talk 37 = .ok (.if_icmp .ge 67, 3) := by decide +kernel
theorem dX5_talk_40 : decode cX5_talk 40 = .ok (.iload 4, 2) := by decide +kernel
theorem dX5_talk_42 : decode cX5_talk 42 = .ok (.i2l, 1) := by decide +kernel
theorem dX5_talk_43 : decode cX5_talk 43 = .ok (.iload_n 1, 1) := by decide +kernel
theorem dX5_talk_44 : decode cX5_talk 44 = .ok (.i2l, 1) := by decide +kernel
theorem dX5_talk_45 : decode cX5_talk 45 = .ok (.iload_n 2, 1) := by decide +kernel
theorem dX5_talk_46 : decode cX5_talk 46 = .ok (.i2l, 1) := by decide +kernel
theorem dX5_talk_47 : decode cX5_talk 47 = .ok (.invokestatic 54, 3) := by decide +kernel
theorem dX5_talk_50 : decode cX5_talk 50 = .ok (.ifCond .ne 16, 3) := by decide +kernel
theorem dX5_talk_53 : decode cX5_talk 53 = .ok (.iload 4, 2) := by decide +kernel
theorem dX5_talk_55 : decode cX5_talk 55 = .ok (.i2l, 1) := by decide +kernel
theorem dX5_talk_56 : decode cX5_talk 56 = .ok (.iload_n 2, 1) := by decide +kernel
theorem dX5_talk_57 : decode cX5_talk 57 = .ok (.i2l, 1) := by decide +kernel
theorem dX5_talk_58 : decode cX5_talk 58 = .ok (.iload_n 1, 1) := by decide +kernel
theorem dX5_talk_59 : decode cX5_talk 59 = .ok (.i2l, 1) := by decide +kernel
theorem dX5_talk_60 : decode cX5_talk 60 = .ok (.invokestatic 54, 3) := by decide +kernel
theorem dX5_talk_63 : decode cX5_talk 63 = .ok (.ifCond .eq 7, 3) := by decide +kernel
theorem dX5_talk_66 : decode cX5_talk 66 = .ok (.iconst 1, 1) := by decide +kernel
theorem dX5_talk_67 : decode cX5_talk 67 = .ok (.goto 4, 3) := by decide +kernel
theorem dX5_talk_70 : decode cX5_talk 70 = .ok (.iconst 0, 1) := by decide +kernel
theorem dX5_talk_71 : decode cX5_talk 71 = .ok (.istore 5, 2) := by decide +kernel
theorem dX5_talk_73 : decode cX5_talk 73 = .ok (.iload 5, 2) := by decide +kernel
theorem dX5_talk_75 : decode cX5_talk 75 = .ok (.ifCond .eq 21, 3) := by decide +kernel
theorem dX5_talk_78 : decode cX5_talk 78 = .ok (.aload_n 0, 1) := by decide +kernel
theorem dX5_talk_79 : decode cX5_talk 79 = .ok (.getfield 19, 3) := by decide +kernel
theorem dX5_talk_82 : decode cX5_talk 82 = .ok (.iconst 5, 1) := by decide +kernel
theorem dX5_talk_83 : decode cX5_talk 83 = .ok (.iaload, 1) := by decide +kernel
theorem dX5_talk_84 : decode cX5_talk 84 = .ok (.iload 4, 2) := by decide +kernel
theorem dX5_talk_86 : decode cX5_talk 86 = .ok (.invokestatic 151, 3) := by decide +kernel
theorem dX5_talk_89 : decode cX5_talk 89 = .ok (.ifCond .eq 7, 3) := by decide +kernel
theorem dX5_talk_92 : decode cX5_talk 92 = .ok (.iconst 0, 1) := by decide +kernel
theorem dX5_talk_93 : decode cX5_talk 93 = .ok (.goto 4, 3) := by decide +kernel
theorem dX5_talk_96 : decode cX5_talk 96 = .ok (.iload_n 3, 1) := by decide +kernel
theorem dX5_talk_97 : decode cX5_talk 97 = .ok (.istore_n 3, 1) := by decide +kernel
theorem dX5_talk_98 : decode cX5_talk 98 = .ok (.iinc 4 1, 3) := by decide +kernel
theorem dX5_talk_101 : decode cX5_talk 101 = .ok (.goto (-72), 3) := by decide +kernel
theorem dX5_talk_104 : decode cX5_talk 104 = .ok (.iload_n 3, 1) := by decide +kernel
theorem dX5_talk_105 : decode cX5_talk 105 = .ok (.ireturn, 1) := by decide +kernel
theorem dX5_alone_0 : decode cX5_alone 0 = .ok (.aload_n 0, 1) := by decide +kernel
theorem dX5_alone_1 : decode cX5_alone 1 = .ok (.getfield 135, 3) := by decide +kernel
theorem dX5_alone_4 : decode cX5_alone 4 = .ok (.ifCond .ne 6, 3) := by decide +kernel
theorem dX5_alone_7 : decode cX5_alone 7 = .ok (.ldc 167, 2) := by decide +kernel
theorem dX5_alone_9 : decode cX5_alone 9 = .ok (.ireturn, 1) := by decide +kernel
theorem dX5_alone_10 : decode cX5_alone 10 = .ok (.iconst 0, 1) := by decide +kernel
theorem dX5_alone_11 : decode cX5_alone 11 = .ok (.istore_n 1, 1) := by decide +kernel
theorem dX5_alone_12 : decode cX5_alone 12 = .ok (.iconst (-1), 1) := by decide +kernel
theorem dX5_alone_13 : decode cX5_alone 13 = .ok (.istore_n 2, 1) := by decide +kernel
theorem dX5_alone_14 : decode cX5_alone 14 = .ok (.iconst 0, 1) := by decide +kernel
theorem dX5_alone_15 : decode cX5_alone 15 = .ok (.istore_n 3, 1) := by decide +kernel
theorem dX5_alone_16 : decode cX5_alone 16 = .ok (.iload_n 3, 1) := by decide +kernel
theorem dX5_alone_17 : decode cX5_alone 17 = .ok (.aload_n 0, 1) := by decide +kernel
theorem dX5_alone_18 : decode cX5_alone 18 = .ok (.getfield 19, 3) := by decide +kernel
theorem dX5_alone_21 : decode cX5_alone 21 = .ok (.iconst 2, 1) := by decide +kernel
theorem dX5_alone_22 : decode cX5_alone 22 = .ok (.iaload, 1) := by decide +kernel
theorem dX5_alone_23 : decode cX5_alone 23 = .ok (.if_icmp .ge 61, 3) := by decide +kernel
theorem dX5_alone_26 : decode cX5_alone 26 = .ok (.aload_n 0, 1) := by decide +kernel
theorem dX5_alone_27 : decode cX5_alone 27 = .ok (.getfield 19, 3) := by decide +kernel
theorem dX5_alone_30 : decode cX5_alone 30 = .ok (.bipush 6, 2) := by decide +kernel
theorem dX5_alone_32 : decode cX5_alone 32 = .ok (.iload_n 3, 1) := by decide +kernel
theorem dX5_alone_33 : decode cX5_alone 33 = .ok (.iadd, 1) := by decide +kernel
theorem dX5_alone_34 : decode cX5_alone 34 = .ok (.iaload, 1) := by decide +kernel
theorem dX5_alone_35 : decode cX5_alone 35 = .ok (.istore 4, 2) := by decide +kernel
theorem dX5_alone_37 : decode cX5_alone 37 = .ok (.iload 4, 2) := by decide +kernel
theorem dX5_alone_39 : decode cX5_alone 39 = .ok (.iload_n 2, 1) := by decide +kernel
theorem dX5_alone_40 : decode cX5_alone 40 = .ok (.if_icmp .le 9, 3) := by decide +kernel
theorem dX5_alone_43 : decode cX5_alone 43 = .ok (.iconst 1, 1) := by decide +kernel
theorem dX5_alone_44 : decode cX5_alone 44 = .ok (.iload_n 3, 1) := by decide +kernel
theorem dX5_alone_45 : decode cX5_alone 45 = .ok (.ishl, 1) := by decide +kernel
theorem dX5_alone_46 : decode cX5_alone 46 = .ok (.goto 18, 3) := by decide +kernel
theorem dX5_alone_49 : decode cX5_alone 49 = .ok (.iload 4, 2) := by decide +kernel
theorem dX5_alone_51 : decode cX5_alone 51 = .ok (.iload_n 2, 1) := by decide +kernel
theorem dX5_alone_52 : decode cX5_alone 52 = .ok (.if_icmp .ne 11, 3) := by decide +kernel
theorem dX5_alone_55 : decode cX5_alone 55 = .ok (.iload_n 1, 1) := by decide +kernel
theorem dX5_alone_56 : decode cX5_alone 56 = .ok (.iconst 1, 1) := by decide +kernel
theorem dX5_alone_57 : decode cX5_alone 57 = .ok (.iload_n 3, 1) := by decide +kernel
theorem dX5_alone_58 : decode cX5_alone 58 = .ok (.ishl, 1) := by decide +kernel
theorem dX5_alone_59 : decode cX5_alone 59 = .ok (.ior, 1) := by decide +kernel
theorem dX5_alone_60 : decode cX5_alone 60 = .ok (.goto 4, 3) := by decide +kernel
theorem dX5_alone_63 : decode cX5_alone 63 = .ok (.iload_n 1, 1) := by decide +kernel
theorem dX5_alone_64 : decode cX5_alone 64 = .ok (.istore_n 1, 1) := by decide +kernel
theorem dX5_alone_65 : decode cX5_alone 65 = .ok (.iload 4, 2) := by decide +kernel
theorem dX5_alone_67 : decode cX5_alone 67 = .ok (.iload_n 2, 1) := by decide +kernel
theorem dX5_alone_68 : decode cX5_alone 68 = .ok (.if_icmp .le 8, 3) := by decide +kernel
theorem dX5_alone_71 : decode cX5_alone 71 = .ok (.iload 4, 2) := by decide +kernel
theorem dX5_alone_73 : decode cX5_alone 73 = .ok (.goto 4, 3) := by decide +kernel
theorem dX5_alone_76 : decode cX5_alone 76 = .ok (.iload_n 2, 1) := by decide +kernel
theorem dX5_alone_77 : decode cX5_alone 77 = .ok (.istore_n 2, 1) := by decide +kernel
theorem dX5_alone_78 : decode cX5_alone 78 = .ok (.iinc 3 1, 3) := by decide +kernel
theorem dX5_alone_81 : decode cX5_alone 81 = .ok (.goto (-65), 3) := by decide +kernel
theorem dX5_alone_84 : decode cX5_alone 84 = .ok (.iload_n 1, 1) := by decide +kernel
theorem dX5_alone_85 : decode cX5_alone 85 = .ok (.ireturn, 1) := by decide +kernel
theorem dX5_rain_0 : decode cX5_rain 0 = .ok (.aload_n 0, 1) := by decide +kernel
theorem dX5_rain_1 : decode cX5_rain 1 = .ok (.iload_n 1, 1) := by decide +kernel
theorem dX5_rain_2 : decode cX5_rain 2 = .ok (.invokevirtual 183, 3) := by decide +kernel
theorem dX5_rain_5 : decode cX5_rain 5 = .ok (.ifCond .eq 35, 3) := by decide +kernel
theorem dX5_rain_8 : decode cX5_rain 8 = .ok (.iload_n 2, 1) := by decide +kernel
theorem dX5_rain_9 : decode cX5_rain 9 = .ok (.i2l, 1) := by decide +kernel
theorem dX5_rain_10 : decode cX5_rain 10 = .ok (.lconst 0, 1) := by decide +kernel
theorem dX5_rain_11 : decode cX5_rain 11 = .ok (.ldc2_w 205, 3) := by decide +kernel
theorem dX5_rain_14 : decode cX5_rain 14 = .ok (.invokestatic 54, 3) := by decide +kernel
theorem dX5_rain_17 : decode cX5_rain 17 = .ok (.ifCond .eq 23, 3) := by decide +kernel
theorem dX5_rain_20 : decode cX5_rain 20 = .ok (.iload_n 3, 1) := by decide +kernel
theorem dX5_rain_21 : decode cX5_rain 21 = .ok (.i2l, 1) := by decide +kernel
theorem dX5_rain_22 : decode cX5_rain 22 = .ok (.lconst 0, 1) := by decide +kernel
theorem dX5_rain_23 : decode cX5_rain 23 = .ok (.ldc2_w 235, 3) := by decide +kernel
theorem dX5_rain_26 : decode cX5_rain 26 = .ok (.invokestatic 54, 3) := by decide +kernel
theorem dX5_rain_29 : decode cX5_rain 29 = .ok (.ifCond .eq 11, 3) := by decide +kernel
theorem dX5_rain_32 : decode cX5_rain 32 = .ok (.iload 4, 2) := by decide +kernel
theorem dX5_rain_34 : decode cX5_rain 34 = .ok (.invokestatic 209, 3) := by decide +kernel
theorem dX5_rain_37 : decode cX5_rain 37 = .ok (.ifCond .ne 7, 3) := by decide +kernel
theorem dX5_rain_40 : decode cX5_rain 40 = .ok (.ldc2_w 237, 3) := by decide +kernel
theorem dX5_rain_43 : decode cX5_rain 43 = .ok (.lreturn, 1) := by decide +kernel
theorem dX5_rain_44 : decode cX5_rain 44 = .ok (.aload_n 0, 1) := by decide +kernel
theorem dX5_rain_45 : decode cX5_rain 45 = .ok (.invokevirtual 194, 3) := by decide +kernel
theorem dX5_rain_48 : decode cX5_rain 48 = .ok (.lconst 0, 1) := by decide +kernel
theorem dX5_rain_49 : decode cX5_rain 49 = .ok (.lstore 5, 2) := by decide +kernel
theorem dX5_rain_51 : decode cX5_rain 51 = .ok (.lconst 1, 1) := by decide +kernel
theorem dX5_rain_52 : decode cX5_rain 52 = .ok (.lstore 7, 2) := by decide +kernel
theorem dX5_rain_54 : decode cX5_rain 54 = .ok (.iconst 0, 1) := by decide +kernel
theorem dX5_rain_55 : decode cX5_rain 55 = .ok (.istore 9, 2) := by decide +kernel
theorem dX5_rain_57 : decode cX5_rain 57 = .ok (.iconst 0, 1) := by decide +kernel
theorem dX5_rain_58 : decode cX5_rain 58 = .ok (.istore 10, 2) := by decide +kernel
theorem dX5_rain_60 : decode cX5_rain 60 = .ok (.iload 10, 2) := by decide +kernel
theorem dX5_rain_62 : decode cX5_rain 62 = .ok (.aload_n 0, 1) := by decide +kernel
theorem dX5_rain_63 : decode cX5_rain 63 = .ok (.getfield 19, 3) := by decide +kernel
theorem dX5_rain_66 : decode cX5_rain 66 = .ok (.iconst 3, 1) := by decide +kernel
theorem dX5_rain_67 : decode cX5_rain 67 = .ok (.iaload, 1) := by decide +kernel
theorem dX5_rain_68 : decode cX5_rain 68 = .ok (.if_icmp .ge 65, 3) := by decide +kernel
theorem dX5_rain_71 : decode cX5_rain 71 = .ok (.aload_n 0, 1) := by decide +kernel
theorem dX5_rain_72 : decode cX5_rain 72 = .ok (.getfield 19, 3) := by decide +kernel
theorem dX5_rain_75 : decode cX5_rain 75 = .ok (.bipush 16, 2) := by decide +kernel
theorem dX5_rain_77 : decode cX5_rain 77 = .ok (.iload 10, 2) := by decide +kernel
theorem dX5_rain_79 : decode cX5_rain 79 = .ok (.iadd, 1) := by decide +kernel
theorem dX5_rain_80 : decode cX5_rain 80 = .ok (.iaload, 1) := by decide +kernel
theorem dX5_rain_81 : decode cX5_rain 81 = .ok (.iconst 5, 1) := by decide +kernel
theorem dX5_rain_82 : decode cX5_rain 82 = .ok (.if_icmp .ne 7, 3) := by decide +kernel
theorem dX5_rain_85 : decode cX5_rain 85 = .ok (.iconst 1, 1) := by decide +kernel
theorem dX5_rain_86 : decode cX5_rain 86 = .ok (.goto 4, 3) := by decide +kernel
theorem dX5_rain_89 : decode cX5_rain 89 = .ok (.iconst 0, 1) := by decide +kernel
theorem dX5_rain_90 : decode cX5_rain 90 = .ok (.istore 11, 2) := by decide +kernel
theorem dX5_rain_92 : decode cX5_rain 92 = .ok (.iload 9, 2) := by decide +kernel
theorem dX5_rain_94 : decode cX5_rain 94 = .ok (.iload 11, 2) := by decide +kernel
theorem dX5_rain_96 : decode cX5_rain 96 = .ok (.ifCond .eq 10, 3) := by decide +kernel
theorem dX5_rain_99 : decode cX5_rain 99 = .ok (.iconst 1, 1) := by decide +kernel
theorem dX5_rain_100 : decode cX5_rain 100 = .ok (.iload 10, 2) := by decide +kernel
theorem dX5_rain_102 : decode cX5_rain 102 = .ok (.ishl, 1) := by decide +kernel
theorem dX5_rain_103 : decode cX5_rain 103 = .ok (.goto 4, 3) := by decide +kernel
theorem dX5_rain_106 : decode cX5_rain 106 = .ok (.iconst 0, 1) := by decide +kernel
theorem dX5_rain_107 : decode cX5_rain 107 = .ok (.ior, 1) := by decide +kernel
theorem dX5_rain_108 : decode cX5_rain 108 = .ok (.istore 9, 2) := by decide +kernel
theorem dX5_rain_110 : decode cX5_rain 110 = .ok (.lload 7, 2) := by decide +kernel
theorem dX5_rain_112 : decode cX5_rain 112 = .ok (.iload 11, 2) := by decide +kernel
theorem dX5_rain_114 : decode cX5_rain 114 = .ok (.ifCond .eq 9, 3) := by decide +kernel
theorem dX5_rain_117 : decode cX5_rain 117 = .ok (.ldc2_w 235, 3) := by decide +kernel
theorem dX5_rain_120 : decode cX5_rain 120 = .ok (.goto 4, 3) := by decide +kernel
theorem dX5_rain_123 : decode cX5_rain 123 = .ok (.lconst 1, 1) := by decide +kernel
theorem dX5_rain_124 : decode cX5_rain 124 = .ok (.lmul, 1) := by decide +kernel
theorem dX5_rain_125 : decode cX5_rain 125 = .ok (.lstore 7, 2) := by decide +kernel
theorem dX5_rain_127 : decode cX5_rain 127 = .ok (.iinc 10 1, 3) := by decide +kernel
theorem dX5_rain_130 : decode cX5_rain 130 = .ok (.goto (-70), 3) := by decide +kernel
theorem dX5_rain_133 : decode cX5_rain 133 = .ok (.iconst 0, 1) := by decide +kernel
theorem dX5_rain_134 : decode cX5_rain 134 = .ok (.istore 10, 2) := by decide +kernel
theorem dX5_rain_136 : decode cX5_rain 136 = .ok (.iload 10, 2) := by decide +kernel
theorem dX5_rain_138 : decode cX5_rain 138 = .ok (.iload 9, 2) := by decide +kernel
theorem dX5_rain_140 : decode cX5_rain 140 = .ok (.if_icmp .gt 119, 3) := by decide +kernel
theorem dX5_rain_143 : decode cX5_rain 143 = .ok (.iload 10, 2) := by decide +kernel
theorem dX5_rain_145 : decode cX5_rain 145 = .ok (.iload 9, 2) := by decide +kernel
theorem dX5_rain_147 : decode cX5_rain 147 = .ok (.iconst (-1), 1) := by decide +kernel
theorem dX5_rain_148 : decode cX5_rain 148 = .ok (.ixor, 1) := by decide +kernel
theorem dX5_rain_149 : decode cX5_rain 149 = .ok (.iand, 1) := by decide +kernel
theorem dX5_rain_150 : decode cX5_rain 150 = .ok (.ifCond .ne 103, 3) := by decide +kernel
theorem dX5_rain_153 : decode cX5_rain 153 = .ok (.lconst 1, 1) := by decide +kernel
theorem dX5_rain_154 : decode cX5_rain 154 = .ok (.lstore 11, 2) := by decide +kernel
theorem dX5_rain_156 : decode cX5_rain 156 = .ok (.iconst 0, 1) := by decide +kernel
theorem dX5_rain_157 : decode cX5_rain 157 = .ok (.istore 13, 2) := by decide +kernel
theorem dX5_rain_159 : decode cX5_rain 159 = .ok (.iload 13, 2) := by decide +kernel
theorem dX5_rain_161 : decode cX5_rain 161 = .ok (.aload_n 0, 1) := by decide +kernel
theorem dX5_rain_162 : decode cX5_rain 162 = .ok (.getfield 19, 3) := by decide +kernel
theorem dX5_rain_165 : decode cX5_rain 165 = .ok (.iconst 3, 1) := by decide +kernel
theorem dX5_rain_166 : decode cX5_rain 166 = .ok (.iaload, 1) := by decide +kernel
theorem dX5_rain_167 : decode cX5_rain 167 = .ok (.if_icmp .ge 48, 3) := by decide +kernel
theorem dX5_rain_170 : decode cX5_rain 170 = .ok (.lload 11, 2) := by decide +kernel
theorem dX5_rain_172 : decode cX5_rain 172 = .ok (.iload 9, 2) := by decide +kernel
theorem dX5_rain_174 : decode cX5_rain 174 = .ok (.iload 13, 2) := by decide +kernel
theorem dX5_rain_176 : decode cX5_rain 176 = .ok (.invokestatic 151, 3) := by decide +kernel
theorem dX5_rain_179 : decode cX5_rain 179 = .ok (.ifCond .ne 7, 3) := by decide +kernel
theorem dX5_rain_182 : decode cX5_rain 182 = .ok (.lconst 1, 1) := by decide +kernel
theorem dX5_rain_183 : decode cX5_rain 183 = .ok (.goto 23, 3) := by decide +kernel
theorem dX5_rain_186 : decode cX5_rain 186 = .ok (.iload 10, 2) := by decide +kernel
theorem dX5_rain_188 : decode cX5_rain 188 = .ok (.iload 13, 2) := by decide +kernel
theorem dX5_rain_190 : decode cX5_rain 190 = .ok (.invokestatic 151, 3) := by decide +kernel
theorem dX5_rain_193 : decode cX5_rain 193 = .ok (.ifCond .eq 8, 3) := by decide +kernel
theorem dX5_rain_196 : decode cX5_rain 196 = .ok (.iload_n 3, 1) := by decide +kernel
theorem dX5_rain_197 : decode cX5_rain 197 = .ok (.i2l, 1) := by decide +kernel
theorem dX5_rain_198 : decode cX5_rain 198 = .ok (.goto 8, 3) := by decide +kernel
theorem dX5_rain_201 : decode cX5_rain 201 = .ok (.bipush 10, 2) := by decide +kernel
theorem dX5_rain_203 : decode cX5_rain 203 = .ok (.iload_n 3, 1) := by decide +kernel
theorem dX5_rain_204 : decode cX5_rain 204 = .ok (.isub, 1) := by decide +kernel
theorem dX5_rain_205 : decode cX5_rain 205 = .ok (.i2l, 1) := by decide +kernel
theorem dX5_rain_206 : decode cX5_rain 206 = .ok (.lmul, 1) := by decide +kernel
theorem dX5_rain_207 : decode cX5_rain 207 = .ok (.lstore 11, 2) := by decide +kernel
theorem dX5_rain_209 : decode cX5_rain 209 = .ok (.iinc 13 1, 3) := by decide +kernel
theorem dX5_rain_212 : decode cX5_rain 212 = .ok (.goto (-53), 3) := by decide +kernel
theorem dX5_rain_215 : decode cX5_rain 215 = .ok (.aload_n 0, 1) := by decide +kernel
theorem dX5_rain_216 : decode cX5_rain 216 = .ok (.iload 10, 2) := by decide +kernel
theorem dX5_rain_218 : decode cX5_rain 218 = .ok (.putfield 148, 3) := by decide +kernel
theorem dX5_rain_221 : decode cX5_rain 221 = .ok (.aload_n 0, 1) := by decide +kernel
theorem dX5_rain_222 : decode cX5_rain 222 = .ok (.invokevirtual 173, 3) := by decide +kernel
theorem dX5_rain_225 : decode cX5_rain 225 = .ok (.lload 5, 2) := by decide +kernel
theorem dX5_rain_227 : decode cX5_rain 227 = .ok (.aload_n 0, 1) := by decide +kernel
theorem dX5_rain_228 : decode cX5_rain 228 = .ok (.getfield 19, 3) := by decide +kernel
theorem dX5_rain_231 : decode cX5_rain 231 = .ok (.bipush 6, 2) := by decide +kernel
theorem dX5_rain_233 : decode cX5_rain 233 = .ok (.iload_n 1, 1) := by decide +kernel
theorem dX5_rain_234 : decode cX5_rain 234 = .ok (.iadd, 1) := by decide +kernel
theorem dX5_rain_235 : decode cX5_rain 235 = .ok (.iaload, 1) := by decide +kernel
theorem dX5_rain_236 : decode cX5_rain 236 = .ok (.iload_n 2, 1) := by decide +kernel
theorem dX5_rain_237 : decode cX5_rain 237 = .ok (.if_icmp .lt 8, 3) := by decide +kernel
theorem dX5_rain_240 : decode cX5_rain 240 = .ok (.lload 11, 2) := by decide +kernel
theorem dX5_rain_242 : decode cX5_rain 242 = .ok (.goto 4, 3) := by decide +kernel
theorem dX5_rain_245 : decode cX5_rain 245 = .ok (.lconst 0, 1) := by decide +kernel
theorem dX5_rain_246 : decode cX5_rain 246 = .ok (.ladd, 1) := by decide +kernel
theorem dX5_rain_247 : decode cX5_rain 247 = .ok (.lstore 5, 2) := by decide +kernel
theorem dX5_rain_249 : decode cX5_rain 249 = .ok (.aload_n 0, 1) := by decide +kernel
theorem dX5_rain_250 : decode cX5_rain 250 = .ok (.invokevirtual 201, 3) := by decide +kernel
theorem dX5_rain_253 : decode cX5_rain 253 = .ok (.iinc 10 1, 3) := by decide +kernel
theorem dX5_rain_256 : decode cX5_rain 256 = .ok (.goto (-120), 3) := by decide +kernel
theorem dX5_rain_259 : decode cX5_rain 259 = .ok (.aload_n 0, 1) := by decide +kernel
theorem dX5_rain_260 : decode cX5_rain 260 = .ok (.iconst 0, 1) := by decide +kernel
theorem dX5_rain_261 : decode cX5_rain 261 = .ok (.putfield 148, 3) := by decide +kernel
theorem dX5_rain_264 : decode cX5_rain 264 = .ok (.lload 5, 2) := by decide +kernel
theorem dX5_rain_266 : decode cX5_rain 266 = .ok (.lstore 10, 2) := by decide +kernel
theorem dX5_rain_268 : decode cX5_rain 268 = .ok (.lload 7, 2) := by decide +kernel
theorem dX5_rain_270 : decode cX5_rain 270 = .ok (.lstore 12, 2) := by decide +kernel
theorem dX5_rain_272 : decode cX5_rain 272 = .ok (.lload 12, 2) := by decide +kernel
theorem dX5_rain_274 : decode cX5_rain 274 = .ok (.lconst 0, 1) := by decide +kernel
theorem dX5_rain_275 : decode cX5_rain 275 = .ok (.lcmp, 1) := by decide +kernel
theorem dX5_rain_276 : decode cX5_rain 276 = .ok (.ifCond .eq 21, 3) := by decide +kernel
theorem dX5_rain_279 : decode cX5_rain 279 = .ok (.lload 10, 2) := by decide +kernel
theorem dX5_rain_281 : decode cX5_rain 281 = .ok (.lload 12, 2) := by decide +kernel
theorem dX5_rain_283 : decode cX5_rain 283 = .ok (.lrem, 1) := by decide +kernel
theorem dX5_rain_284 : decode cX5_rain 284 = .ok (.lstore 14, 2) := by decide +kernel
theorem dX5_rain_286 : decode cX5_rain 286 = .ok (.lload 12, 2) := by decide +kernel
theorem dX5_rain_288 : decode cX5_rain 288 = .ok (.lstore 10, 2) := by decide +kernel
theorem dX5_rain_290 : decode cX5_rain 290 = .ok (.lload 14, 2) := by decide +kernel
theorem dX5_rain_292 : decode cX5_rain 292 = .ok (.lstore 12, 2) := by decide +kernel
theorem dX5_rain_294 : decode cX5_rain 294 = .ok (.goto (-22), 3) := by decide +kernel
theorem dX5_rain_297 : decode cX5_rain 297 = .ok (.iload 4, 2) := by decide +kernel
theorem dX5_rain_299 : decode cX5_rain 299 = .ok (.ifCond .ne 11, 3) := by decide +kernel
theorem dX5_rain_302 : decode cX5_rain 302 = .ok (.lload 5, 2) := by decide +kernel
theorem dX5_rain_304 : decode cX5_rain 304 = .ok (.lload 10, 2) := by decide +kernel
theorem dX5_rain_306 : decode cX5_rain 306 = .ok (.ldiv, 1) := by decide +kernel
theorem dX5_rain_307 : decode cX5_rain 307 = .ok (.goto 8, 3) := by decide +kernel
theorem dX5_rain_310 : decode cX5_rain 310 = .ok (.lload 7, 2) := by decide +kernel
theorem dX5_rain_312 : decode cX5_rain 312 = .ok (.lload 10, 2) := by decide +kernel
theorem dX5_rain_314 : decode cX5_rain 314 = .ok (.ldiv, 1) := by decide +kernel
theorem dX5_rain_315 : decode cX5_rain 315 = .ok (.lreturn, 1) := by decide +kernel
theorem dX5_drawn_0 : decode cX5_drawn 0 = .ok (.aload_n 0, 1) := by decide +kernel
theorem dX5_drawn_1 : decode cX5_drawn 1 = .ok (.getfield 135, 3) := by decide +kernel
theorem dX5_drawn_4 : decode cX5_drawn 4 = .ok (.ifCond .ne 6, 3) := by decide +kernel
theorem dX5_drawn_7 : decode cX5_drawn 7 = .ok (.ldc 167, 2) := by decide +kernel
theorem dX5_drawn_9 : decode cX5_drawn 9 = .ok (.ireturn, 1) := by decide +kernel
theorem dX5_drawn_10 : decode cX5_drawn 10 = .ok (.iload_n 1, 1) := by decide +kernel
theorem dX5_drawn_11 : decode cX5_drawn 11 = .ok (.i2l, 1) := by decide +kernel
theorem dX5_drawn_12 : decode cX5_drawn 12 = .ok (.lconst 0, 1) := by decide +kernel
theorem dX5_drawn_13 : decode cX5_drawn 13 = .ok (.ldc2_w 192, 3) := by decide +kernel
theorem dX5_drawn_16 : decode cX5_drawn 16 = .ok (.invokestatic 54, 3) := by decide +kernel
theorem dX5_drawn_19 : decode cX5_drawn 19 = .ok (.ifCond .eq 22, 3) := by decide +kernel
theorem dX5_drawn_22 : decode cX5_drawn 22 = .ok (.iload_n 2, 1) := by decide +kernel
theorem dX5_drawn_23 : decode cX5_drawn 23 = .ok (.i2l, 1) := by decide +kernel
theorem dX5_drawn_24 : decode cX5_drawn 24 = .ok (.lconst 1, 1) := by decide +kernel
theorem dX5_drawn_25 : decode cX5_drawn 25 = .ok (.ldc2_w 239, 3) := by decide +kernel
theorem dX5_drawn_28 : decode cX5_drawn 28 = .ok (.invokestatic 54, 3) := by decide +kernel
theorem dX5_drawn_31 : decode cX5_drawn 31 = .ok (.ifCond .eq 10, 3) := by decide +kernel
theorem dX5_drawn_34 : decode cX5_drawn 34 = .ok (.iload_n 3, 1) := by decide +kernel
theorem dX5_drawn_35 : decode cX5_drawn 35 = .ok (.invokestatic 209, 3) := by decide +kernel
theorem dX5_drawn_38 : decode cX5_drawn 38 = .ok (.ifCond .ne 6, 3) := by decide +kernel
theorem dX5_drawn_41 : decode cX5_drawn 41 = .ok (.ldc 64, 2) := by decide +kernel
theorem dX5_drawn_43 : decode cX5_drawn 43 = .ok (.ireturn, 1) := by decide +kernel
theorem dX5_drawn_44 : decode cX5_drawn 44 = .ok (.aload_n 0, 1) := by decide +kernel
theorem dX5_drawn_45 : decode cX5_drawn 45 = .ok (.invokevirtual 194, 3) := by decide +kernel
theorem dX5_drawn_48 : decode cX5_drawn 48 = .ok (.iload_n 2, 1) := by decide +kernel
theorem dX5_drawn_49 : decode cX5_drawn 49 = .ok (.i2l, 1) := by decide +kernel
theorem dX5_drawn_50 : decode cX5_drawn 50 = .ok (.lstore 4, 2) := by decide +kernel
theorem dX5_drawn_52 : decode cX5_drawn 52 = .ok (.iconst 0, 1) := by decide +kernel
theorem dX5_drawn_53 : decode cX5_drawn 53 = .ok (.istore 6, 2) := by decide +kernel
theorem dX5_drawn_55 : decode cX5_drawn 55 = .ok (.iconst 0, 1) := by decide +kernel
theorem dX5_drawn_56 : decode cX5_drawn 56 = .ok (.istore 7, 2) := by decide +kernel
theorem dX5_drawn_58 : decode cX5_drawn 58 = .ok (.iload 7, 2) := by decide +kernel
theorem dX5_drawn_60 : decode cX5_drawn 60 = .ok (.iload_n 1, 1) := by decide +kernel
theorem dX5_drawn_61 : decode cX5_drawn 61 = .ok (.if_icmp .ge 79, 3) := by decide +kernel
theorem dX5_drawn_64 : decode cX5_drawn 64 = .ok (.lload 4, 2) := by decide +kernel
theorem dX5_drawn_66 : decode cX5_drawn 66 = .ok (.ldc2_w 241, 3) := by decide +kernel
theorem dX5_drawn_69 : decode cX5_drawn 69 = .ok (.lmul, 1) := by decide +kernel
theorem dX5_drawn_70 : decode cX5_drawn 70 = .ok (.ldc2_w 243, 3) := by decide +kernel
theorem dX5_drawn_73 : decode cX5_drawn 73 = .ok (.lrem, 1) := by decide +kernel
theorem dX5_drawn_74 : decode cX5_drawn 74 = .ok (.lstore 4, 2) := by decide +kernel
theorem dX5_drawn_76 : decode cX5_drawn 76 = .ok (.lload 4, 2) := by decide +kernel
theorem dX5_drawn_78 : decode cX5_drawn 78 = .ok (.ldc2_w 245, 3) := by decide +kernel
theorem dX5_drawn_81 : decode cX5_drawn 81 = .ok (.lrem, 1) := by decide +kernel
theorem dX5_drawn_82 : decode cX5_drawn 82 = .ok (.lconst 0, 1) := by decide +kernel
theorem dX5_drawn_83 : decode cX5_drawn 83 = .ok (.lcmp, 1) := by decide +kernel
theorem dX5_drawn_84 : decode cX5_drawn 84 = .ok (.ifCond .ne 29, 3) := by decide +kernel
theorem dX5_drawn_87 : decode cX5_drawn 87 = .ok (.aload_n 0, 1) := by decide +kernel
theorem dX5_drawn_88 : decode cX5_drawn 88 = .ok (.lload 4, 2) := by decide +kernel
theorem dX5_drawn_90 : decode cX5_drawn 90 = .ok (.aload_n 0, 1) := by decide +kernel
theorem dX5_drawn_91 : decode cX5_drawn 91 = .ok (.getfield 19, 3) := by decide +kernel
theorem dX5_drawn_94 : decode cX5_drawn 94 = .ok (.iconst 3, 1) := by decide +kernel
theorem dX5_drawn_95 : decode cX5_drawn 95 = .ok (.iaload, 1) := by decide +kernel
theorem dX5_drawn_96 : decode cX5_drawn 96 = .ok (.i2l, 1) := by decide +kernel
theorem dX5_drawn_97 : decode cX5_drawn 97 = .ok (.lrem, 1) := by decide +kernel
theorem dX5_drawn_98 : decode cX5_drawn 98 = .ok (.l2i, 1) := by decide +kernel
theorem dX5_drawn_99 : decode cX5_drawn 99 = .ok (.lload 4, 2) := by decide +kernel
theorem dX5_drawn_101 : decode cX5_drawn 101 = .ok (.aload_n 0, 1) := by decide +kernel
theorem dX5_drawn_102 : decode cX5_drawn 102 = .ok (.getfield 19, 3) := by decide +kernel
theorem dX5_drawn_105 : decode cX5_drawn 105 = .ok (.iconst 2, 1) := by decide +kernel
theorem dX5_drawn_106 : decode cX5_drawn 106 = .ok (.iaload, 1) := by decide +kernel
theorem dX5_drawn_107 : decode cX5_drawn 107 = .ok (.i2l, 1) := by decide +kernel
theorem dX5_drawn_108 : decode cX5_drawn 108 = .ok (.lrem, 1) := by decide +kernel
theorem dX5_drawn_109 : decode cX5_drawn 109 = .ok (.l2i, 1) := by decide +kernel
theorem dX5_drawn_110 : decode cX5_drawn 110 = .ok (.invokevirtual 186, 3) := by decide +kernel
theorem dX5_drawn_113 : decode cX5_drawn 113 = .ok (.aload_n 0, 1) := by decide +kernel
theorem dX5_drawn_114 : decode cX5_drawn 114 = .ok (.invokevirtual 173, 3) := by decide +kernel
theorem dX5_drawn_117 : decode cX5_drawn 117 = .ok (.iload 6, 2) := by decide +kernel
theorem dX5_drawn_119 : decode cX5_drawn 119 = .ok (.aload_n 0, 1) := by decide +kernel
theorem dX5_drawn_120 : decode cX5_drawn 120 = .ok (.getfield 161, 3) := by decide +kernel
theorem dX5_drawn_123 : decode cX5_drawn 123 = .ok (.ifCond .eq 7, 3) := by decide +kernel
theorem dX5_drawn_126 : decode cX5_drawn 126 = .ok (.iconst 1, 1) := by decide +kernel
theorem dX5_drawn_127 : decode cX5_drawn 127 = .ok (.goto 4, 3) := by decide +kernel
theorem dX5_drawn_130 : decode cX5_drawn 130 = .ok (.iconst 0, 1) := by decide +kernel
theorem dX5_drawn_131 : decode cX5_drawn 131 = .ok (.iadd, 1) := by decide +kernel
theorem dX5_drawn_132 : decode cX5_drawn 132 = .ok (.istore 6, 2) := by decide +kernel
theorem dX5_drawn_134 : decode cX5_drawn 134 = .ok (.iinc 7 1, 3) := by decide +kernel
theorem dX5_drawn_137 : decode cX5_drawn 137 = .ok (.goto (-79), 3) := by decide +kernel
theorem dX5_drawn_140 : decode cX5_drawn 140 = .ok (.iload_n 3, 1) := by decide +kernel
theorem dX5_drawn_141 : decode cX5_drawn 141 = .ok (.ifCond .ne 10, 3) := by decide +kernel
theorem dX5_drawn_144 : decode cX5_drawn 144 = .ok (.aload_n 0, 1) := by decide +kernel
theorem dX5_drawn_145 : decode cX5_drawn 145 = .ok (.invokevirtual 176, 3) := by decide +kernel
theorem dX5_drawn_148 : decode cX5_drawn 148 = .ok (.goto 5, 3) := by decide +kernel
theorem dX5_drawn_151 : decode cX5_drawn 151 = .ok (.iload 6, 2) := by decide +kernel
theorem dX5_drawn_153 : decode cX5_drawn 153 = .ok (.istore 7, 2) := by decide +kernel
theorem dX5_drawn_155 : decode cX5_drawn 155 = .ok (.aload_n 0, 1) := by decide +kernel
theorem dX5_drawn_156 : decode cX5_drawn 156 = .ok (.invokevirtual 201, 3) := by decide +kernel
theorem dX5_drawn_159 : decode cX5_drawn 159 = .ok (.iload 7, 2) := by decide +kernel
theorem dX5_drawn_161 : decode cX5_drawn 161 = .ok (.ireturn, 1) := by decide +kernel
theorem dX5_image_0 : decode cX5_image 0 = .ok (.iload_n 1, 1) := by decide +kernel
theorem dX5_image_1 : decode cX5_image 1 = .ok (.i2l, 1) := by decide +kernel
theorem dX5_image_2 : decode cX5_image 2 = .ok (.lconst 0, 1) := by decide +kernel
theorem dX5_image_3 : decode cX5_image 3 = .ok (.lconst 1, 1) := by decide +kernel
theorem dX5_image_4 : decode cX5_image 4 = .ok (.invokestatic 54, 3) := by decide +kernel
theorem dX5_image_7 : decode cX5_image 7 = .ok (.ifCond .ne 6, 3) := by decide +kernel
theorem dX5_image_10 : decode cX5_image 10 = .ok (.ldc 64, 2) := by decide +kernel
theorem dX5_image_12 : decode cX5_image 12 = .ok (.ireturn, 1) := by decide +kernel
theorem dX5_image_13 : decode cX5_image 13 = .ok (.aload_n 0, 1) := by decide +kernel
theorem dX5_image_14 : decode cX5_image 14 = .ok (.getfield 135, 3) := by decide +kernel
theorem dX5_image_17 : decode cX5_image 17 = .ok (.ifCond .ne 6, 3) := by decide +kernel
theorem dX5_image_20 : decode cX5_image 20 = .ok (.ldc 167, 2) := by decide +kernel
theorem dX5_image_22 : decode cX5_image 22 = .ok (.ireturn, 1) := by decide +kernel
theorem dX5_image_23 : decode cX5_image 23 = .ok (.iconst 0, 1) := by decide +kernel
theorem dX5_image_24 : decode cX5_image 24 = .ok (.istore_n 2, 1) := by decide +kernel
theorem dX5_image_25 : decode cX5_image 25 = .ok (.iload_n 2, 1) := by decide +kernel
theorem dX5_image_26 : decode cX5_image 26 = .ok (.bipush 70, 2) := by decide +kernel
theorem dX5_image_28 : decode cX5_image 28 = .ok (.if_icmp .ge 26, 3) := by decide +kernel
theorem dX5_image_31 : decode cX5_image 31 = .ok (.aload_n 0, 1) := by decide +kernel
theorem dX5_image_32 : decode cX5_image 32 = .ok (.getfield 41, 3) := by decide +kernel
theorem dX5_image_35 : decode cX5_image 35 = .ok (.bipush 70, 2) := by decide +kernel
theorem dX5_image_37 : decode cX5_image 37 = .ok (.iload_n 1, 1) := by decide +kernel
theorem dX5_image_38 : decode cX5_image 38 = .ok (.imul, 1) := by decide +kernel
theorem dX5_image_39 : decode cX5_image 39 = .ok (.iload_n 2, 1) := by decide +kernel
theorem dX5_image_40 : decode cX5_image 40 = .ok (.iadd, 1) := by decide +kernel
theorem dX5_image_41 : decode cX5_image 41 = .ok (.aload_n 0, 1) := by decide +kernel
theorem dX5_image_42 : decode cX5_image 42 = .ok (.getfield 19, 3) := by decide +kernel
theorem dX5_image_45 : decode cX5_image 45 = .ok (.iload_n 2, 1) := by decide +kernel
theorem dX5_image_46 : decode cX5_image 46 = .ok (.iaload, 1) := by decide +kernel
theorem dX5_image_47 : decode cX5_image 47 = .ok (.iastore, 1) := by decide +kernel
theorem dX5_image_48 : decode cX5_image 48 = .ok (.iinc 2 1, 3) := by decide +kernel
theorem dX5_image_51 : decode cX5_image 51 = .ok (.goto (-26), 3) := by decide +kernel
theorem dX5_image_54 : decode cX5_image 54 = .ok (.aload_n 0, 1) := by decide +kernel
theorem dX5_image_55 : decode cX5_image 55 = .ok (.getfield 37, 3) := by decide +kernel
theorem dX5_image_58 : decode cX5_image 58 = .ok (.iload_n 1, 1) := by decide +kernel
theorem dX5_image_59 : decode cX5_image 59 = .ok (.iconst 1, 1) := by decide +kernel
theorem dX5_image_60 : decode cX5_image 60 = .ok (.bastore, 1) := by decide +kernel
theorem dX5_image_61 : decode cX5_image 61 = .ok (.iconst 1, 1) := by decide +kernel
theorem dX5_image_62 : decode cX5_image 62 = .ok (.ireturn, 1) := by decide +kernel
theorem dX5_restore_0 : decode cX5_restore 0 = .ok (.iload_n 1, 1) := by decide +kernel
theorem dX5_restore_1 : decode cX5_restore 1 = .ok (.i2l, 1) := by decide +kernel
theorem dX5_restore_2 : decode cX5_restore 2 = .ok (.lconst 0, 1) := by decide +kernel
theorem dX5_restore_3 : decode cX5_restore 3 = .ok (.lconst 1, 1) := by decide +kernel
theorem dX5_restore_4 : decode cX5_restore 4 = .ok (.invokestatic 54, 3) := by decide +kernel
theorem dX5_restore_7 : decode cX5_restore 7 = .ok (.ifCond .ne 6, 3) := by decide +kernel
theorem dX5_restore_10 : decode cX5_restore 10 = .ok (.ldc 64, 2) := by decide +kernel
theorem dX5_restore_12 : decode cX5_restore 12 = .ok (.ireturn, 1) := by decide +kernel
theorem dX5_restore_13 : decode cX5_restore 13 = .ok (.aload_n 0, 1) := by decide +kernel
theorem dX5_restore_14 : decode cX5_restore 14 = .ok (.getfield 37, 3) := by decide +kernel
theorem dX5_restore_17 : decode cX5_restore 17 = .ok (.iload_n 1, 1) := by decide +kernel
theorem dX5_restore_18 : decode cX5_restore 18 = .ok (.baload, 1) := by decide +kernel
theorem dX5_restore_19 : decode cX5_restore 19 = .ok (.ifCond .ne 6, 3) := by decide +kernel
theorem dX5_restore_22 : decode cX5_restore 22 = .ok (.ldc 167, 2) := by decide +kernel
theorem dX5_restore_24 : decode cX5_restore 24 = .ok (.ireturn, 1) := by decide +kernel
theorem dX5_restore_25 : decode cX5_restore 25 = .ok (.iconst 0, 1) := by decide +kernel
theorem dX5_restore_26 : decode cX5_restore 26 = .ok (.istore_n 2, 1) := by decide +kernel
theorem dX5_restore_27 : decode cX5_restore 27 = .ok (.iload_n 2, 1) := by decide +kernel
theorem dX5_restore_28 : decode cX5_restore 28 = .ok (.bipush 70, 2) := by decide +kernel
theorem dX5_restore_30 : decode cX5_restore 30 = .ok (.if_icmp .ge 26, 3) := by decide +kernel
theorem dX5_restore_33 : decode cX5_restore 33 = .ok (.aload_n 0, 1) := by decide +kernel
theorem dX5_restore_34 : decode cX5_restore 34 = .ok (.getfield 19, 3) := by decide +kernel
theorem dX5_restore_37 : decode cX5_restore 37 = .ok (.iload_n 2, 1) := by decide +kernel
theorem dX5_restore_38 : decode cX5_restore 38 = .ok (.aload_n 0, 1) := by decide +kernel
theorem dX5_restore_39 : decode cX5_restore 39 = .ok (.getfield 41, 3) := by decide +kernel
theorem dX5_restore_42 : decode cX5_restore 42 = .ok (.bipush 70, 2) := by decide +kernel
theorem dX5_restore_44 : decode cX5_restore 44 = .ok (.iload_n 1, 1) := by decide +kernel
theorem dX5_restore_45 : decode cX5_restore 45 = .ok (.imul, 1) := by decide +kernel
theorem dX5_restore_46 : decode cX5_restore 46 = .ok (.iload_n 2, 1) := by decide +kernel
theorem dX5_restore_47 : decode cX5_restore 47 = .ok (.iadd, 1) := by decide +kernel
theorem dX5_restore_48 : decode cX5_restore 48 = .ok (.iaload, 1) := by decide +kernel
theorem dX5_restore_49 : decode cX5_restore 49 = .ok (.iastore, 1) := by decide +kernel
theorem dX5_restore_50 : decode cX5_restore 50 = .ok (.iinc 2 1, 3) := by decide +kernel
theorem dX5_restore_53 : decode cX5_restore 53 = .ok (.goto (-26), 3) := by decide +kernel
theorem dX5_restore_56 : decode cX5_restore 56 = .ok (.aload_n 0, 1) := by decide +kernel
theorem dX5_restore_57 : decode cX5_restore 57 = .ok (.iconst 0, 1) := by decide +kernel
theorem dX5_restore_58 : decode cX5_restore 58 = .ok (.putfield 139, 3) := by decide +kernel
theorem dX5_restore_61 : decode cX5_restore 61 = .ok (.iconst 1, 1) := by decide +kernel
theorem dX5_restore_62 : decode cX5_restore 62 = .ok (.ireturn, 1) := by decide +kernel
theorem dX5_kind_0 : decode cX5_kind 0 = .ok (.aload_n 0, 1) := by decide +kernel
theorem dX5_kind_1 : decode cX5_kind 1 = .ok (.iload_n 1, 1) := by decide +kernel
theorem dX5_kind_2 : decode cX5_kind 2 = .ok (.invokevirtual 180, 3) := by decide +kernel
theorem dX5_kind_5 : decode cX5_kind 5 = .ok (.ifCond .eq 15, 3) := by decide +kernel
theorem dX5_kind_8 : decode cX5_kind 8 = .ok (.aload_n 0, 1) := by decide +kernel
theorem dX5_kind_9 : decode cX5_kind 9 = .ok (.getfield 19, 3) := by decide +kernel
theorem dX5_kind_12 : decode cX5_kind 12 = .ok (.bipush 16, 2) := by decide +kernel
theorem dX5_kind_14 : decode cX5_kind 14 = .ok (.iload_n 1, 1) := by decide +kernel
theorem dX5_kind_15 : decode cX5_kind 15 = .ok (.iadd, 1) := by decide +kernel
theorem dX5_kind_16 : decode cX5_kind 16 = .ok (.iaload, 1) := by decide +kernel
theorem dX5_kind_17 : decode cX5_kind 17 = .ok (.goto 5, 3) := by decide +kernel
theorem dX5_kind_20 : decode cX5_kind 20 = .ok (.ldc 64, 2) := by decide +kernel
theorem dX5_kind_22 : decode cX5_kind 22 = .ok (.ireturn, 1) := by decide +kernel
theorem dX5_isKind_0 : decode cX5_isKind 0 = .ok (.iload_n 1, 1) := by decide +kernel
theorem dX5_isKind_1 : decode cX5_isKind 1 = .ok (.ifCond .eq 28, 3) := by decide +kernel
theorem dX5_isKind_4 : decode cX5_isKind 4 = .ok (.iload_n 0, 1) := by decide +kernel
theorem dX5_isKind_5 : decode cX5_isKind 5 = .ok (.iload_n 1, 1) := by decide +kernel
theorem dX5_isKind_6 : decode cX5_isKind 6 = .ok (.if_icmp .eq 23, 3) := by decide +kernel
theorem dX5_isKind_9 : decode cX5_isKind 9 = .ok (.iload_n 1, 1) := by decide +kernel
theorem dX5_isKind_10 : decode cX5_isKind 10 = .ok (.iconst 1, 1) := by decide +kernel
theorem dX5_isKind_11 : decode cX5_isKind 11 = .ok (.if_icmp .ne 8, 3) := by decide +kernel
theorem dX5_isKind_14 : decode cX5_isKind 14 = .ok (.iload_n 0, 1) := by decide +kernel
theorem dX5_isKind_15 : decode cX5_isKind 15 = .ok (.iconst 4, 1) := by decide +kernel
theorem dX5_isKind_16 : decode cX5_isKind 16 = .ok (.if_icmp .lt 13, 3) := by decide +kernel
theorem dX5_isKind_19 : decode cX5_isKind 19 = .ok (.iload_n 1, 1) := by decide +kernel
theorem dX5_isKind_20 : decode cX5_isKind 20 = .ok (.iconst 4, 1) := by decide +kernel
theorem dX5_isKind_21 : decode cX5_isKind 21 = .ok (.if_icmp .ne 12, 3) := by decide +kernel
theorem dX5_isKind_24 : decode cX5_isKind 24 = .ok (.iload_n 0, 1) := by decide +kernel
theorem dX5_isKind_25 : decode cX5_isKind 25 = .ok (.iconst 5, 1) := by decide +kernel
theorem dX5_isKind_26 : decode cX5_isKind 26 = .ok (.if_icmp .ne 7, 3) := by decide +kernel
theorem dX5_isKind_29 : decode cX5_isKind 29 = .ok (.iconst 1, 1) := by decide +kernel
theorem dX5_isKind_30 : decode cX5_isKind 30 = .ok (.goto 4, 3) := by decide +kernel
theorem dX5_isKind_33 : decode cX5_isKind 33 = .ok (.iconst 0, 1) := by decide +kernel
theorem dX5_isKind_34 : decode cX5_isKind 34 = .ok (.ireturn, 1) := by decide +kernel
theorem dX5_as_0 : decode cX5_as 0 = .ok (.aload_n 0, 1) := by decide +kernel
theorem dX5_as_1 : decode cX5_as 1 = .ok (.iload_n 1, 1) := by decide +kernel
theorem dX5_as_2 : decode cX5_as 2 = .ok (.invokevirtual 180, 3) := by decide +kernel
theorem dX5_as_5 : decode cX5_as 5 = .ok (.ifCond .eq 15, 3) := by decide +kernel
theorem dX5_as_8 : decode cX5_as 8 = .ok (.iload_n 2, 1) := by decide +kernel
theorem dX5_as_9 : decode cX5_as 9 = .ok (.i2l, 1) := by decide +kernel
theorem dX5_as_10 : decode cX5_as 10 = .ok (.lconst 0, 1) := by decide +kernel
theorem dX5_as_11 : decode cX5_as 11 = .ok (.ldc2_w 247, 3) := by decide +kernel
theorem dX5_as_14 : decode cX5_as 14 = .ok (.invokestatic 54, 3) := by decide +kernel
theorem dX5_as_17 : decode cX5_as 17 = .ok (.ifCond .ne 6, 3) := by decide +kernel
theorem dX5_as_20 : decode cX5_as 20 = .ok (.ldc 64, 2) := by decide +kernel
theorem dX5_as_22 : decode cX5_as 22 = .ok (.ireturn, 1) := by decide +kernel
theorem dX5_as_23 : decode cX5_as 23 = .ok (.aload_n 0, 1) := by decide +kernel
theorem dX5_as_24 : decode cX5_as 24 = .ok (.getfield 19, 3) := by decide +kernel
theorem dX5_as_27 : decode cX5_as 27 = .ok (.bipush 16, 2) := by decide +kernel
theorem dX5_as_29 : decode cX5_as 29 = .ok (.iload_n 1, 1) := by decide +kernel
theorem dX5_as_30 : decode cX5_as 30 = .ok (.iadd, 1) := by decide +kernel
theorem dX5_as_31 : decode cX5_as 31 = .ok (.iaload, 1) := by decide +kernel
theorem dX5_as_32 : decode cX5_as 32 = .ok (.iload_n 2, 1) := by decide +kernel
theorem dX5_as_33 : decode cX5_as 33 = .ok (.invokestatic 249, 3) := by decide +kernel
theorem dX5_as_36 : decode cX5_as 36 = .ok (.ifCond .eq 11, 3) := by decide +kernel
theorem dX5_as_39 : decode cX5_as 39 = .ok (.aload_n 0, 1) := by decide +kernel
theorem dX5_as_40 : decode cX5_as 40 = .ok (.iload_n 1, 1) := by decide +kernel
theorem dX5_as_41 : decode cX5_as 41 = .ok (.invokevirtual 69, 3) := by decide +kernel
theorem dX5_as_44 : decode cX5_as 44 = .ok (.goto 8, 3) := by decide +kernel
theorem dX5_as_47 : decode cX5_as 47 = .ok (.aload_n 0, 1) := by decide +kernel
theorem dX5_as_48 : decode cX5_as 48 = .ok (.iconst 3, 1) := by decide +kernel
theorem dX5_as_49 : decode cX5_as 49 = .ok (.invokevirtual 65, 3) := by decide +kernel
theorem dX5_as_52 : decode cX5_as 52 = .ok (.ireturn, 1) := by decide +kernel
theorem dX5_begin_0 : decode cX5_begin 0 = .ok (.aload_n 0, 1) := by decide +kernel
theorem dX5_begin_1 : decode cX5_begin 1 = .ok (.getfield 252, 3) := by decide +kernel
theorem dX5_begin_4 : decode cX5_begin 4 = .ok (.bipush 16, 2) := by decide +kernel
theorem dX5_begin_6 : decode cX5_begin 6 = .ok (.if_icmp .ge 23, 3) := by decide +kernel
theorem dX5_begin_9 : decode cX5_begin 9 = .ok (.aload_n 0, 1) := by decide +kernel
theorem dX5_begin_10 : decode cX5_begin 10 = .ok (.getfield 44, 3) := by decide +kernel
theorem dX5_begin_13 : decode cX5_begin 13 = .ok (.aload_n 0, 1) := by decide +kernel
theorem dX5_begin_14 : decode cX5_begin 14 = .ok (.getfield 252, 3) := by decide +kernel
theorem dX5_begin_17 : decode cX5_begin 17 = .ok (.iload_n 1, 1) := by decide +kernel
theorem dX5_begin_18 : decode cX5_begin 18 = .ok (.iastore, 1) := by decide +kernel
theorem dX5_begin_19 : decode cX5_begin 19 = .ok (.aload_n 0, 1) := by decide +kernel
theorem dX5_begin_20 : decode cX5_begin 20 = .ok (.dup, 1) := by decide +kernel
theorem dX5_begin_21 : decode cX5_begin 21 = .ok (.getfield 252, 3) := by decide +kernel
theorem dX5_begin_24 : decode cX5_begin 24 = .ok (.iconst 1, 1) := by decide +kernel
theorem dX5_begin_25 : decode cX5_begin 25 = .ok (.iadd, 1) := by decide +kernel
theorem dX5_begin_26 : decode cX5_begin 26 = .ok (.putfield 252, 3) := by decide +kernel
theorem dX5_begin_29 : decode cX5_begin 29 = .ok (.return_, 1) := by decide +kernel
theorem dX5_lent_0 : decode cX5_lent 0 = .ok (.aload_n 0, 1) := by decide +kernel
theorem dX5_lent_1 : decode cX5_lent 1 = .ok (.iload_n 2, 1) := by decide +kernel
theorem dX5_lent_2 : decode cX5_lent 2 = .ok (.invokevirtual 255, 3) := by decide +kernel
theorem dX5_lent_5 : decode cX5_lent 5 = .ok (.iload_n 2, 1) := by decide +kernel
theorem dX5_lent_6 : decode cX5_lent 6 = .ok (.bipush 10, 2) := by decide +kernel
theorem dX5_lent_8 : decode cX5_lent 8 = .ok (.if_icmp .ne 15, 3) := by decide +kernel
theorem dX5_lent_11 : decode cX5_lent 11 = .ok (.aload_n 0, 1) := by decide +kernel
theorem dX5_lent_12 : decode cX5_lent 12 = .ok (.getfield 19, 3) := by decide +kernel
theorem dX5_lent_15 : decode cX5_lent 15 = .ok (.bipush 28, 2) := by decide +kernel
theorem dX5_lent_17 : decode cX5_lent 17 = .ok (.iload_n 1, 1) := by decide +kernel
theorem dX5_lent_18 : decode cX5_lent 18 = .ok (.iadd, 1) := by decide +kernel
theorem dX5_lent_19 : decode cX5_lent 19 = .ok (.iaload, 1) := by decide +kernel
theorem dX5_lent_20 : decode cX5_lent 20 = .ok (.goto 4, 3) := by decide +kernel
theorem dX5_lent_23 : decode cX5_lent 23 = .ok (.iload_n 1, 1) := by decide +kernel
theorem dX5_lent_24 : decode cX5_lent 24 = .ok (.ireturn, 1) := by decide +kernel
theorem dX5_pointedMark_0 : decode cX5_pointedMark 0 = .ok (.aload_n 0, 1) := by decide +kernel
theorem dX5_pointedMark_1 : decode cX5_pointedMark 1 = .ok (.bipush 21, 2) := by decide +kernel
theorem dX5_pointedMark_3 : decode cX5_pointedMark 3 = .ok (.invokevirtual 255, 3) := by decide +kernel
theorem dX5_pointedMark_6 : decode cX5_pointedMark 6 = .ok (.aload_n 0, 1) := by decide +kernel
theorem dX5_pointedMark_7 : decode cX5_pointedMark 7 = .ok (.iload_n 1, 1) := by decide +kernel
theorem dX5_pointedMark_8 : decode cX5_pointedMark 8 = .ok (.bipush 20, 2) := by decide +kernel
theorem dX5_pointedMark_10 : decode cX5_pointedMark 10 = .ok (.invokevirtual 258, 3) := by decide +kernel
theorem dX5_pointedMark_13 : decode cX5_pointedMark 13 = .ok (.aload_n 0, 1) := by decide +kernel
theorem dX5_pointedMark_14 : decode cX5_pointedMark 14 = .ok (.iload_n 1, 1) := by decide +kernel
theorem dX5_pointedMark_15 : decode cX5_pointedMark 15 = .ok (.invokevirtual 158, 3) := by decide +kernel
theorem dX5_pointedMark_18 : decode cX5_pointedMark 18 = .ok (.iadd, 1) := by decide +kernel
theorem dX5_pointedMark_19 : decode cX5_pointedMark 19 = .ok (.ireturn, 1) := by decide +kernel
theorem dX5_idleSize_0 : decode cX5_idleSize 0 = .ok (.aload_n 0, 1) := by decide +kernel
theorem dX5_idleSize_1 : decode cX5_idleSize 1 = .ok (.bipush 13, 2) := by decide +kernel
theorem dX5_idleSize_3 : decode cX5_idleSize 3 = .ok (.invokevirtual 255, 3) := by decide +kernel
theorem dX5_idleSize_6 : decode cX5_idleSize 6 = .ok (.aload_n 0, 1) := by decide +kernel
theorem dX5_idleSize_7 : decode cX5_idleSize 7 = .ok (.iload_n 1, 1) := by decide +kernel
theorem dX5_idleSize_8 : decode cX5_idleSize 8 = .ok (.bipush 10, 2) := by decide +kernel
theorem dX5_idleSize_10 : decode cX5_idleSize 10 = .ok (.invokevirtual 258, 3) := by decide +kernel
theorem dX5_idleSize_13 : decode cX5_idleSize 13 = .ok (.bipush 100, 2) := by decide +kernel
theorem dX5_idleSize_15 : decode cX5_idleSize 15 = .ok (.isub, 1) := by decide +kernel
theorem dX5_idleSize_16 : decode cX5_idleSize 16 = .ok (.ireturn, 1) := by decide +kernel
theorem dX5_sizeOfIdle_0 : decode cX5_sizeOfIdle 0 = .ok (.aload_n 0, 1) := by decide +kernel
theorem dX5_sizeOfIdle_1 : decode cX5_sizeOfIdle 1 = .ok (.getfield 19, 3) := by decide +kernel
theorem dX5_sizeOfIdle_4 : decode cX5_sizeOfIdle 4 = .ok (.bipush 16, 2) := by decide +kernel
theorem dX5_sizeOfIdle_6 : decode cX5_sizeOfIdle 6 = .ok (.iload_n 1, 1) := by decide +kernel
theorem dX5_sizeOfIdle_7 : decode cX5_sizeOfIdle 7 = .ok (.iadd, 1) := by decide +kernel
theorem dX5_sizeOfIdle_8 : decode cX5_sizeOfIdle 8 = .ok (.iaload, 1) := by decide +kernel
theorem dX5_sizeOfIdle_9 : decode cX5_sizeOfIdle 9 = .ok (.iconst 5, 1) := by decide +kernel
theorem dX5_sizeOfIdle_10 : decode cX5_sizeOfIdle 10 = .ok (.if_icmp .ne 17, 3) := by decide +kernel
theorem dX5_sizeOfIdle_13 : decode cX5_sizeOfIdle 13 = .ok (.aload_n 0, 1) := by decide +kernel
theorem dX5_sizeOfIdle_14 : decode cX5_sizeOfIdle 14 = .ok (.bipush 14, 2) := by decide +kernel
theorem dX5_sizeOfIdle_16 : decode cX5_sizeOfIdle 16 = .ok (.invokevirtual 255, 3) := by decide +kernel
theorem dX5_sizeOfIdle_19 : decode cX5_sizeOfIdle 19 = .ok (.iconst 2, 1) := by decide +kernel
theorem dX5_sizeOfIdle_20 : decode cX5_sizeOfIdle 20 = .ok (.aload_n 0, 1) := by decide +kernel
theorem dX5_sizeOfIdle_21 : decode cX5_sizeOfIdle 21 = .ok (.iload_n 1, 1) := by decide +kernel
theorem dX5_sizeOfIdle_22 : decode cX5_sizeOfIdle 22 = .ok (.invokevirtual 261, 3) := by decide +kernel
theorem dX5_sizeOfIdle_25 : decode cX5_sizeOfIdle 25 = .ok (.imul, 1) := by decide +kernel
theorem dX5_sizeOfIdle_26 : decode cX5_sizeOfIdle 26 = .ok (.ireturn, 1) := by decide +kernel
theorem dX5_sizeOfIdle_27 : decode cX5_sizeOfIdle 27 = .ok (.aload_n 0, 1) := by decide +kernel
theorem dX5_sizeOfIdle_28 : decode cX5_sizeOfIdle 28 = .ok (.iload_n 1, 1) := by decide +kernel
theorem dX5_sizeOfIdle_29 : decode cX5_sizeOfIdle 29 = .ok (.invokevirtual 261, 3) := by decide +kernel
theorem dX5_sizeOfIdle_32 : decode cX5_sizeOfIdle 32 = .ok (.ireturn, 1) := by decide +kernel
theorem dX5_markOf_0 : decode cX5_markOf 0 = .ok (.aload_n 0, 1) := by decide +kernel
theorem dX5_markOf_1 : decode cX5_markOf 1 = .ok (.getfield 19, 3) := by decide +kernel
theorem dX5_markOf_4 : decode cX5_markOf 4 = .ok (.bipush 16, 2) := by decide +kernel
theorem dX5_markOf_6 : decode cX5_markOf 6 = .ok (.iload_n 1, 1) := by decide +kernel
theorem dX5_markOf_7 : decode cX5_markOf 7 = .ok (.iadd, 1) := by decide +kernel
theorem dX5_markOf_8 : decode cX5_markOf 8 = .ok (.iaload, 1) := by decide +kernel
theorem dX5_markOf_9 : decode cX5_markOf 9 = .ok (.istore_n 2, 1) := by decide +kernel
theorem dX5_markOf_10 : decode cX5_markOf 10 = .ok (.iload_n 2, 1) := by decide +kernel
theorem dX5_markOf_11 : decode cX5_markOf 11 = .ok (.iconst 2, 1) := by decide +kernel
theorem dX5_markOf_12 : decode cX5_markOf 12 = .ok (.if_icmp .ne 17, 3) := by decide +kernel
theorem dX5_markOf_15 : decode cX5_markOf 15 = .ok (.aload_n 0, 1) := by decide +kernel
theorem dX5_markOf_16 : decode cX5_markOf 16 = .ok (.bipush 24, 2) := by decide +kernel
theorem dX5_markOf_18 : decode cX5_markOf 18 = .ok (.invokevirtual 255, 3) := by decide +kernel
theorem dX5_markOf_21 : decode cX5_markOf 21 = .ok (.iconst 2, 1) := by decide +kernel
theorem dX5_markOf_22 : decode cX5_markOf 22 = .ok (.aload_n 0, 1) := by decide +kernel
theorem dX5_markOf_23 : decode cX5_markOf 23 = .ok (.iload_n 1, 1) := by decide +kernel
theorem dX5_markOf_24 : decode cX5_markOf 24 = .ok (.invokevirtual 264, 3) := by decide +kernel
theorem dX5_markOf_27 : decode cX5_markOf 27 = .ok (.imul, 1) := by decide +kernel
theorem dX5_markOf_28 : decode cX5_markOf 28 = .ok (.ireturn, 1) := by decide +kernel
theorem dX5_markOf_29 : decode cX5_markOf 29 = .ok (.iload_n 2, 1) := by decide +kernel
theorem dX5_markOf_30 : decode cX5_markOf 30 = .ok (.iconst 3, 1) := by decide +kernel
theorem dX5_markOf_31 : decode cX5_markOf 31 = .ok (.if_icmp .ne 19, 3) := by decide +kernel
theorem dX5_markOf_34 : decode cX5_markOf 34 = .ok (.aload_n 0, 1) := by decide +kernel
theorem dX5_markOf_35 : decode cX5_markOf 35 = .ok (.bipush 22, 2) := by decide +kernel
theorem dX5_markOf_37 : decode cX5_markOf 37 = .ok (.invokevirtual 255, 3) := by decide +kernel
theorem dX5_markOf_40 : decode cX5_markOf 40 = .ok (.aload_n 0, 1) := by decide +kernel
theorem dX5_markOf_41 : decode cX5_markOf 41 = .ok (.iload_n 1, 1) := by decide +kernel
theorem dX5_markOf_42 : decode cX5_markOf 42 = .ok (.invokevirtual 264, 3) := by decide +kernel
theorem dX5_markOf_45 : decode cX5_markOf 45 = .ok (.sipush 1000, 3) := by decide +kernel
theorem dX5_markOf_48 : decode cX5_markOf 48 = .ok (.isub, 1) := by decide +kernel
theorem dX5_markOf_49 : decode cX5_markOf 49 = .ok (.ireturn, 1) := by decide +kernel
theorem dX5_markOf_50 : decode cX5_markOf 50 = .ok (.iload_n 2, 1) := by decide +kernel
theorem dX5_markOf_51 : decode cX5_markOf 51 = .ok (.iconst 1, 1) := by decide +kernel
theorem dX5_markOf_52 : decode cX5_markOf 52 = .ok (.if_icmp .ne 9, 3) := by decide +kernel
theorem dX5_markOf_55 : decode cX5_markOf 55 = .ok (.aload_n 0, 1) := by decide +kernel
theorem dX5_markOf_56 : decode cX5_markOf 56 = .ok (.iload_n 1, 1) := by decide +kernel
theorem dX5_markOf_57 : decode cX5_markOf 57 = .ok (.invokevirtual 264, 3) := by decide +kernel
theorem dX5_markOf_60 : decode cX5_markOf 60 = .ok (.ireturn, 1) := by decide +kernel
theorem dX5_markOf_61 : decode cX5_markOf 61 = .ok (.aload_n 0, 1) := by decide +kernel
theorem dX5_markOf_62 : decode cX5_markOf 62 = .ok (.bipush 23, 2) := by decide +kernel
theorem dX5_markOf_64 : decode cX5_markOf 64 = .ok (.invokevirtual 255, 3) := by decide +kernel
theorem dX5_markOf_67 : decode cX5_markOf 67 = .ok (.aload_n 0, 1) := by decide +kernel
theorem dX5_markOf_68 : decode cX5_markOf 68 = .ok (.iload_n 1, 1) := by decide +kernel
theorem dX5_markOf_69 : decode cX5_markOf 69 = .ok (.bipush 20, 2) := by decide +kernel
theorem dX5_markOf_71 : decode cX5_markOf 71 = .ok (.invokevirtual 258, 3) := by decide +kernel
theorem dX5_markOf_74 : decode cX5_markOf 74 = .ok (.istore_n 3, 1) := by decide +kernel
theorem dX5_markOf_75 : decode cX5_markOf 75 = .ok (.iload_n 3, 1) := by decide +kernel
theorem dX5_markOf_76 : decode cX5_markOf 76 = .ok (.aload_n 0, 1) := by decide +kernel
theorem dX5_markOf_77 : decode cX5_markOf 77 = .ok (.iload_n 1, 1) := by decide +kernel
theorem dX5_markOf_78 : decode cX5_markOf 78 = .ok (.invokevirtual 267, 3) := by decide +kernel
theorem dX5_markOf_81 : decode cX5_markOf 81 = .ok (.isub, 1) := by decide +kernel
theorem dX5_markOf_82 : decode cX5_markOf 82 = .ok (.ireturn, 1) := by decide +kernel
theorem dX5_pointedSize_0 : decode cX5_pointedSize 0 = .ok (.aload_n 0, 1) := by decide +kernel
theorem dX5_pointedSize_1 : decode cX5_pointedSize 1 = .ok (.bipush 11, 2) := by decide +kernel
theorem dX5_pointedSize_3 : decode cX5_pointedSize 3 = .ok (.invokevirtual 255, 3) := by decide +kernel
theorem dX5_pointedSize_6 : decode cX5_pointedSize 6 = .ok (.aload_n 0, 1) := by decide +kernel
theorem dX5_pointedSize_7 : decode cX5_pointedSize 7 = .ok (.iload_n 1, 1) := by decide +kernel
theorem dX5_pointedSize_8 : decode cX5_pointedSize 8 = .ok (.bipush 10, 2) := by decide +kernel
theorem dX5_pointedSize_10 : decode cX5_pointedSize 10 = .ok (.invokevirtual 258, 3) := by decide +kernel
theorem dX5_pointedSize_13 : decode cX5_pointedSize 13 = .ok (.istore_n 2, 1) := by decide +kernel
theorem dX5_pointedSize_14 : decode cX5_pointedSize 14 = .ok (.iload_n 2, 1) := by decide +kernel
theorem dX5_pointedSize_15 : decode cX5_pointedSize 15 = .ok (.aload_n 0, 1) := by decide +kernel
theorem dX5_pointedSize_16 : decode cX5_pointedSize 16 = .ok (.iload_n 1, 1) := by decide +kernel
theorem dX5_pointedSize_17 : decode cX5_pointedSize 17 = .ok (.invokevirtual 270, 3) := by decide +kernel
theorem dX5_pointedSize_20 : decode cX5_pointedSize 20 = .ok (.iadd, 1) := by decide +kernel
theorem dX5_pointedSize_21 : decode cX5_pointedSize 21 = .ok (.ireturn, 1) := by decide +kernel
theorem dX5_sizeOf_0 : decode cX5_sizeOf 0 = .ok (.aload_n 0, 1) := by decide +kernel
theorem dX5_sizeOf_1 : decode cX5_sizeOf 1 = .ok (.getfield 19, 3) := by decide +kernel
theorem dX5_sizeOf_4 : decode cX5_sizeOf 4 = .ok (.bipush 16, 2) := by decide +kernel
theorem dX5_sizeOf_6 : decode cX5_sizeOf 6 = .ok (.iload_n 1, 1) := by decide +kernel
theorem dX5_sizeOf_7 : decode cX5_sizeOf 7 = .ok (.iadd, 1) := by decide +kernel
theorem dX5_sizeOf_8 : decode cX5_sizeOf 8 = .ok (.iaload, 1) := by decide +kernel
theorem dX5_sizeOf_9 : decode cX5_sizeOf 9 = .ok (.istore_n 2, 1) := by decide +kernel
theorem dX5_sizeOf_10 : decode cX5_sizeOf 10 = .ok (.iload_n 2, 1) := by decide +kernel
theorem dX5_sizeOf_11 : decode cX5_sizeOf 11 = .ok (.iconst 2, 1) := by decide +kernel
theorem dX5_sizeOf_12 : decode cX5_sizeOf 12 = .ok (.if_icmp .ne 16, 3) := by decide +kernel
theorem dX5_sizeOf_15 : decode cX5_sizeOf 15 = .ok (.aload_n 0, 1) := by decide +kernel
theorem dX5_sizeOf_16 : decode cX5_sizeOf 16 = .ok (.bipush 12, 2) := by decide +kernel
theorem dX5_sizeOf_18 : decode cX5_sizeOf 18 = .ok (.invokevirtual 255, 3) := by decide +kernel
theorem dX5_sizeOf_21 : decode cX5_sizeOf 21 = .ok (.aload_n 0, 1) := by decide +kernel
theorem dX5_sizeOf_22 : decode cX5_sizeOf 22 = .ok (.iload_n 1, 1) := by decide +kernel
theorem dX5_sizeOf_23 : decode cX5_sizeOf 23 = .ok (.invokevirtual 273, 3) := by decide +kernel
theorem dX5_sizeOf_26 : decode cX5_sizeOf 26 = .ok (.ineg, 1) := by decide +kernel
theorem dX5_sizeOf_27 : decode cX5_sizeOf 27 = .ok (.ireturn, 1) := by decide +kernel
theorem dX5_sizeOf_28 : decode cX5_sizeOf 28 = .ok (.iload_n 2, 1) := by decide +kernel
theorem dX5_sizeOf_29 : decode cX5_sizeOf 29 = .ok (.iconst 4, 1) := by decide +kernel
theorem dX5_sizeOf_30 : decode cX5_sizeOf 30 = .ok (.if_icmp .lt 11, 3) := by decide +kernel
theorem dX5_sizeOf_33 : decode cX5_sizeOf 33 = .ok (.aload_n 0, 1) := by decide +kernel
theorem dX5_sizeOf_34 : decode cX5_sizeOf 34 = .ok (.iload_n 1, 1) := by decide +kernel
theorem dX5_sizeOf_35 : decode cX5_sizeOf 35 = .ok (.invokevirtual 267, 3) := by decide +kernel
theorem dX5_sizeOf_38 : decode cX5_sizeOf 38 = .ok (.goto 8, 3) := by decide +kernel
theorem dX5_sizeOf_41 : decode cX5_sizeOf 41 = .ok (.aload_n 0, 1) := by decide +kernel
theorem dX5_sizeOf_42 : decode cX5_sizeOf 42 = .ok (.iload_n 1, 1) := by decide +kernel
theorem dX5_sizeOf_43 : decode cX5_sizeOf 43 = .ok (.invokevirtual 273, 3) := by decide +kernel
theorem dX5_sizeOf_46 : decode cX5_sizeOf 46 = .ok (.ireturn, 1) := by decide +kernel
theorem dX5_ask_0 : decode cX5_ask 0 = .ok (.aload_n 0, 1) := by decide +kernel
theorem dX5_ask_1 : decode cX5_ask 1 = .ok (.iload_n 1, 1) := by decide +kernel
theorem dX5_ask_2 : decode cX5_ask 2 = .ok (.invokevirtual 180, 3) := by decide +kernel
theorem dX5_ask_5 : decode cX5_ask 5 = .ok (.ifCond .eq 13, 3) := by decide +kernel
theorem dX5_ask_8 : decode cX5_ask 8 = .ok (.iload_n 2, 1) := by decide +kernel
theorem dX5_ask_9 : decode cX5_ask 9 = .ok (.i2l, 1) := by decide +kernel
theorem dX5_ask_10 : decode cX5_ask 10 = .ok (.lconst 0, 1) := by decide +kernel
theorem dX5_ask_11 : decode cX5_ask 11 = .ok (.lconst 1, 1) := by decide +kernel
theorem dX5_ask_12 : decode cX5_ask 12 = .ok (.invokestatic 54, 3) := by decide +kernel
theorem dX5_ask_15 : decode cX5_ask 15 = .ok (.ifCond .ne 6, 3) := by decide +kernel
theorem dX5_ask_18 : decode cX5_ask 18 = .ok (.ldc 64, 2) := by decide +kernel
theorem dX5_ask_20 : decode cX5_ask 20 = .ok (.ireturn, 1) := by decide +kernel
theorem dX5_ask_21 : decode cX5_ask 21 = .ok (.aload_n 0, 1) := by decide +kernel
theorem dX5_ask_22 : decode cX5_ask 22 = .ok (.iconst 0, 1) := by decide +kernel
theorem dX5_ask_23 : decode cX5_ask 23 = .ok (.putfield 252, 3) := by decide +kernel
theorem dX5_ask_26 : decode cX5_ask 26 = .ok (.iload_n 2, 1) := by decide +kernel
theorem dX5_ask_27 : decode cX5_ask 27 = .ok (.ifCond .ne 11, 3) := by decide +kernel
theorem dX5_ask_30 : decode cX5_ask 30 = .ok (.aload_n 0, 1) := by decide +kernel
theorem dX5_ask_31 : decode cX5_ask 31 = .ok (.iload_n 1, 1) := by decide +kernel
theorem dX5_ask_32 : decode cX5_ask 32 = .ok (.invokevirtual 276, 3) := by decide +kernel
theorem dX5_ask_35 : decode cX5_ask 35 = .ok (.goto 8, 3) := by decide +kernel
theorem dX5_ask_38 : decode cX5_ask 38 = .ok (.aload_n 0, 1) := by decide +kernel
theorem dX5_ask_39 : decode cX5_ask 39 = .ok (.iload_n 1, 1) := by decide +kernel
theorem dX5_ask_40 : decode cX5_ask 40 = .ok (.invokevirtual 270, 3) := by decide +kernel
theorem dX5_ask_43 : decode cX5_ask 43 = .ok (.ireturn, 1) := by decide +kernel
theorem dX5_trace_0 : decode cX5_trace 0 = .ok (.iload_n 1, 1) := by decide +kernel
theorem dX5_trace_1 : decode cX5_trace 1 = .ok (.i2l, 1) := by decide +kernel
theorem dX5_trace_2 : decode cX5_trace 2 = .ok (.lconst 0, 1) := by decide +kernel
theorem dX5_trace_3 : decode cX5_trace 3 = .ok (.aload_n 0, 1) := by decide +kernel
theorem dX5_trace_4 : decode cX5_trace 4 = .ok (.getfield 252, 3) := by decide +kernel
theorem dX5_trace_7 : decode cX5_trace 7 = .ok (.iconst 1, 1) := by decide +kernel
theorem dX5_trace_8 : decode cX5_trace 8 = .ok (.isub, 1) := by decide +kernel
theorem dX5_trace_9 : decode cX5_trace 9 = .ok (.i2l, 1) := by decide +kernel
theorem dX5_trace_10 : decode cX5_trace 10 = .ok (.invokestatic 54, 3) := by decide +kernel
theorem dX5_trace_13 : decode cX5_trace 13 = .ok (.ifCond .eq 12, 3) := by decide +kernel
theorem dX5_trace_16 : decode cX5_trace 16 = .ok (.aload_n 0, 1) := by decide +kernel
theorem dX5_trace_17 : decode cX5_trace 17 = .ok (.getfield 44, 3) := by decide +kernel
theorem dX5_trace_20 : decode cX5_trace 20 = .ok (.iload_n 1, 1) := by decide +kernel
theorem dX5_trace_21 : decode cX5_trace 21 = .ok (.iaload, 1) := by decide +kernel
theorem dX5_trace_22 : decode cX5_trace 22 = .ok (.goto 5, 3) := by decide +kernel
theorem dX5_trace_25 : decode cX5_trace 25 = .ok (.ldc 204, 2) := by decide +kernel
theorem dX5_trace_27 : decode cX5_trace 27 = .ok (.ireturn, 1) := by decide +kernel
theorem dX5_count_0 : decode cX5_count 0 = .ok (.iconst 0, 1) := by decide +kernel
theorem dX5_count_1 : decode cX5_count 1 = .ok (.istore_n 2, 1) := by decide +kernel
theorem dX5_count_2 : decode cX5_count 2 = .ok (.iconst 0, 1) := by decide +kernel
theorem dX5_count_3 : decode cX5_count 3 = .ok (.istore_n 3, 1) := by decide +kernel
theorem dX5_count_4 : decode cX5_count 4 = .ok (.iload_n 3, 1) := by decide +kernel
theorem dX5_count_5 : decode cX5_count 5 = .ok (.bipush 8, 2) := by decide +kernel
theorem dX5_count_7 : decode cX5_count 7 = .ok (.if_icmp .ge 26, 3) := by decide +kernel
theorem dX5_count_10 : decode cX5_count 10 = .ok (.iload_n 2, 1) := by decide +kernel
theorem dX5_count_11 : decode cX5_count 11 = .ok (.aload_n 0, 1) := by decide +kernel
theorem dX5_count_12 : decode cX5_count 12 = .ok (.getfield 13, 3) := by decide +kernel
theorem dX5_count_15 : decode cX5_count 15 = .ok (.iload_n 3, 1) := by decide +kernel
theorem dX5_count_16 : decode cX5_count 16 = .ok (.iaload, 1) := by decide +kernel
theorem dX5_count_17 : decode cX5_count 17 = .ok (.ifCond .lt 7, 3) := by decide +kernel
theorem dX5_count_20 : decode cX5_count 20 = .ok (.iconst 1, 1) := by decide +kernel
theorem dX5_count_21 : decode cX5_count 21 = .ok (.goto 4, 3) := by decide +kernel
theorem dX5_count_24 : decode cX5_count 24 = .ok (.iconst 0, 1) := by decide +kernel
theorem dX5_count_25 : decode cX5_count 25 = .ok (.iadd, 1) := by decide +kernel
theorem dX5_count_26 : decode cX5_count 26 = .ok (.istore_n 2, 1) := by decide +kernel
theorem dX5_count_27 : decode cX5_count 27 = .ok (.iinc 3 1, 3) := by decide +kernel
theorem dX5_count_30 : decode cX5_count 30 = .ok (.goto (-26), 3) := by decide +kernel
theorem dX5_count_33 : decode cX5_count 33 = .ok (.iload_n 1, 1) := by decide +kernel
theorem dX5_count_34 : decode cX5_count 34 = .ok (.tableswitch 91 0 7 #[46, 48, 55, 62, 69, 74, 81, 86], 46) := by decide +kernel
theorem dX5_count_80 : decode cX5_count 80 = .ok (.iload_n 2, 1) := by decide +kernel
theorem dX5_count_81 : decode cX5_count 81 = .ok (.ireturn, 1) := by decide +kernel
theorem dX5_count_82 : decode cX5_count 82 = .ok (.aload_n 0, 1) := by decide +kernel
theorem dX5_count_83 : decode cX5_count 83 = .ok (.getfield 19, 3) := by decide +kernel
theorem dX5_count_86 : decode cX5_count 86 = .ok (.iconst 2, 1) := by decide +kernel
theorem dX5_count_87 : decode cX5_count 87 = .ok (.iaload, 1) := by decide +kernel
theorem dX5_count_88 : decode cX5_count 88 = .ok (.ireturn, 1) := by decide +kernel
theorem dX5_count_89 : decode cX5_count 89 = .ok (.aload_n 0, 1) := by decide +kernel
theorem dX5_count_90 : decode cX5_count 90 = .ok (.getfield 19, 3) := by decide +kernel
theorem dX5_count_93 : decode cX5_count 93 = .ok (.iconst 3, 1) := by decide +kernel
theorem dX5_count_94 : decode cX5_count 94 = .ok (.iaload, 1) := by decide +kernel
theorem dX5_count_95 : decode cX5_count 95 = .ok (.ireturn, 1) := by decide +kernel
theorem dX5_count_96 : decode cX5_count 96 = .ok (.aload_n 0, 1) := by decide +kernel
theorem dX5_count_97 : decode cX5_count 97 = .ok (.getfield 19, 3) := by decide +kernel
theorem dX5_count_100 : decode cX5_count 100 = .ok (.iconst 4, 1) := by decide +kernel
theorem dX5_count_101 : decode cX5_count 101 = .ok (.iaload, 1) := by decide +kernel
theorem dX5_count_102 : decode cX5_count 102 = .ok (.ireturn, 1) := by decide +kernel
theorem dX5_count_103 : decode cX5_count 103 = .ok (.aload_n 0, 1) := by decide +kernel
theorem dX5_count_104 : decode cX5_count 104 = .ok (.invokevirtual 176, 3) := by decide +kernel
theorem dX5_count_107 : decode cX5_count 107 = .ok (.ireturn, 1) := by decide +kernel
theorem dX5_count_108 : decode cX5_count 108 = .ok (.aload_n 0, 1) := by decide +kernel
theorem dX5_count_109 : decode cX5_count 109 = .ok (.getfield 19, 3) := by decide +kernel
theorem dX5_count_112 : decode cX5_count 112 = .ok (.iconst 5, 1) := by decide +kernel
theorem dX5_count_113 : decode cX5_count 113 = .ok (.iaload, 1) := by decide +kernel
theorem dX5_count_114 : decode cX5_count 114 = .ok (.ireturn, 1) := by decide +kernel
theorem dX5_count_115 : decode cX5_count 115 = .ok (.aload_n 0, 1) := by decide +kernel
theorem dX5_count_116 : decode cX5_count 116 = .ok (.getfield 139, 3) := by decide +kernel
theorem dX5_count_119 : decode cX5_count 119 = .ok (.ireturn, 1) := by decide +kernel
theorem dX5_count_120 : decode cX5_count 120 = .ok (.aload_n 0, 1) := by decide +kernel
theorem dX5_count_121 : decode cX5_count 121 = .ok (.getfield 78, 3) := by decide +kernel
theorem dX5_count_124 : decode cX5_count 124 = .ok (.ireturn, 1) := by decide +kernel
theorem dX5_count_125 : decode cX5_count 125 = .ok (.ldc 64, 2) := by decide +kernel
theorem dX5_count_127 : decode cX5_count 127 = .ok (.ireturn, 1) := by decide +kernel
theorem dX5_status_0 : decode cX5_status 0 = .ok (.aload_n 0, 1) := by decide +kernel
theorem dX5_status_1 : decode cX5_status 1 = .ok (.getfield 47, 3) := by decide +kernel
theorem dX5_status_4 : decode cX5_status 4 = .ok (.ireturn, 1) := by decide +kernel
end
section
theorem dL_law_0 : decode cL_law 0 = .ok (.new 7, 3) := by decide +kernel
theorem dL_law_3 : decode cL_law 3 = .ok (.dup, 1) := by decide +kernel
theorem dL_law_4 : decode cL_law 4 = .ok (.invokespecial 9, 3) := by decide +kernel
theorem dL_law_7 : decode cL_law 7 = .ok (.astore_n 1, 1) := by decide +kernel
theorem dL_law_8 : decode cL_law 8 = .ok (.new 10, 3) := by decide +kernel
theorem dL_law_11 : decode cL_law 11 = .ok (.dup, 1) := by decide +kernel
theorem dL_law_12 : decode cL_law 12 = .ok (.invokespecial 12, 3) := by decide +kernel
theorem dL_law_15 : decode cL_law 15 = .ok (.astore_n 2, 1) := by decide +kernel
theorem dL_law_16 : decode cL_law 16 = .ok (.iconst 0, 1) := by decide +kernel
theorem dL_law_17 : decode cL_law 17 = .ok (.istore_n 3, 1) := by decide +kernel
theorem dL_law_18 : decode cL_law 18 = .ok (.iload_n 3, 1) := by decide +kernel
theorem dL_law_19 : decode cL_law 19 = .ok (.aload_n 0, 1) := by decide +kernel
theorem dL_law_20 : decode cL_law 20 = .ok (.arraylength, 1) := by decide +kernel
theorem dL_law_21 : decode cL_law 21 = .ok (.bipush 6, 2) := by decide +kernel
theorem dL_law_23 : decode cL_law 23 = .ok (.isub, 1) := by decide +kernel
theorem dL_law_24 : decode cL_law 24 = .ok (.if_icmp .gt 1531, 3) := by decide +kernel
theorem dL_law_27 : decode cL_law 27 = .ok (.aload_n 0, 1) := by decide +kernel
theorem dL_law_28 : decode cL_law 28 = .ok (.iload_n 3, 1) := by decide +kernel
theorem dL_law_29 : decode cL_law 29 = .ok (.iaload, 1) := by decide +kernel
theorem dL_law_30 : decode cL_law 30 = .ok (.bipush 63, 2) := by decide +kernel
theorem dL_law_32 : decode cL_law 32 = .ok (.iand, 1) := by decide +kernel
theorem dL_law_33 : decode cL_law 33 = .ok (.tableswitch 1516 0 39 #[175, 218, 261, 324, 347, 370, 383, 396, 409, 432, 465, 498, 531, 564, 597, 630, 663, 696, 719, 752, 785, 838, 881, 914, 977, 1040, 1103, 1156, 1179, 1212, 1225, 1279, 1322, 1345, 1368, 1391, 1424, 1457, 1480, 1503], 175) := by decide +kernel
theorem dL_law_208 : decode cL_law 208 = .ok (.aload_n 1, 1) := by decide +kernel
theorem dL_law_209 : decode cL_law 209 = .ok (.aload_n 0, 1) := by decide +kernel
theorem dL_law_210 : decode cL_law 210 = .ok (.iload_n 3, 1) := by decide +kernel
theorem dL_law_211 : decode cL_law 211 = .ok (.iconst 1, 1) := by decide +kernel
theorem dL_law_212 : decode cL_law 212 = .ok (.iadd, 1) := by decide +kernel
theorem dL_law_213 : decode cL_law 213 = .ok (.iaload, 1) := by decide +kernel
theorem dL_law_214 : decode cL_law 214 = .ok (.aload_n 0, 1) := by decide +kernel
theorem dL_law_215 : decode cL_law 215 = .ok (.iload_n 3, 1) := by decide +kernel
theorem dL_law_216 : decode cL_law 216 = .ok (.iconst 2, 1) := by decide +kernel
theorem dL_law_217 : decode cL_law 217 = .ok (.iadd, 1) := by decide +kernel
theorem dL_law_218 : decode cL_law 218 = .ok (.iaload, 1) := by decide +kernel
theorem dL_law_219 : decode cL_law 219 = .ok (.aload_n 0, 1) := by decide +kernel
theorem dL_law_220 : decode cL_law 220 = .ok (.iload_n 3, 1) := by decide +kernel
theorem dL_law_221 : decode cL_law 221 = .ok (.iconst 3, 1) := by decide +kernel
theorem dL_law_222 : decode cL_law 222 = .ok (.iadd, 1) := by decide +kernel
theorem dL_law_223 : decode cL_law 223 = .ok (.iaload, 1) := by decide +kernel
theorem dL_law_224 : decode cL_law 224 = .ok (.invokevirtual 13, 3) := by decide +kernel
theorem dL_law_227 : decode cL_law 227 = .ok (.aload_n 2, 1) := by decide +kernel
theorem dL_law_228 : decode cL_law 228 = .ok (.aload_n 0, 1) := by decide +kernel
theorem dL_law_229 : decode cL_law 229 = .ok (.iload_n 3, 1) := by decide +kernel
theorem dL_law_230 : decode cL_law 230 = .ok (.iconst 1, 1) := by decide +kernel
theorem dL_law_231 : decode cL_law 231 = .ok (.iadd, 1) := by decide +kernel
theorem dL_law_232 : decode cL_law 232 = .ok (.iaload, 1) := by decide +kernel
theorem dL_law_233 : decode cL_law 233 = .ok (.aload_n 0, 1) := by decide +kernel
theorem dL_law_234 : decode cL_law 234 = .ok (.iload_n 3, 1) := by decide +kernel
theorem dL_law_235 : decode cL_law 235 = .ok (.iconst 2, 1) := by decide +kernel
theorem dL_law_236 : decode cL_law 236 = .ok (.iadd, 1) := by decide +kernel
theorem dL_law_237 : decode cL_law 237 = .ok (.iaload, 1) := by decide +kernel
theorem dL_law_238 : decode cL_law 238 = .ok (.aload_n 0, 1) := by decide +kernel
theorem dL_law_239 : decode cL_law 239 = .ok (.iload_n 3, 1) := by decide +kernel
theorem dL_law_240 : decode cL_law 240 = .ok (.iconst 3, 1) := by decide +kernel
theorem dL_law_241 : decode cL_law 241 = .ok (.iadd, 1) := by decide +kernel
theorem dL_law_242 : decode cL_law 242 = .ok (.iaload, 1) := by decide +kernel
theorem dL_law_243 : decode cL_law 243 = .ok (.invokevirtual 17, 3) := by decide +kernel
theorem dL_law_246 : decode cL_law 246 = .ok (.if_icmp .eq 1303, 3) := by decide +kernel
theorem dL_law_249 : decode cL_law 249 = .ok (.iconst 0, 1) := by decide +kernel
theorem dL_law_250 : decode cL_law 250 = .ok (.ireturn, 1) := by decide +kernel
theorem dL_law_251 : decode cL_law 251 = .ok (.aload_n 1, 1) := by decide +kernel
theorem dL_law_252 : decode cL_law 252 = .ok (.aload_n 0, 1) := by decide +kernel
theorem dL_law_253 : decode cL_law 253 = .ok (.iload_n 3, 1) := by decide +kernel
theorem dL_law_254 : decode cL_law 254 = .ok (.iconst 1, 1) := by decide +kernel
theorem dL_law_255 : decode cL_law 255 = .ok (.iadd, 1) := by decide +kernel
theorem dL_law_256 : decode cL_law 256 = .ok (.iaload, 1) := by decide +kernel
theorem dL_law_257 : decode cL_law 257 = .ok (.aload_n 0, 1) := by decide +kernel
theorem dL_law_258 : decode cL_law 258 = .ok (.iload_n 3, 1) := by decide +kernel
theorem dL_law_259 : decode cL_law 259 = .ok (.iconst 2, 1) := by decide +kernel
theorem dL_law_260 : decode cL_law 260 = .ok (.iadd, 1) := by decide +kernel
theorem dL_law_261 : decode cL_law 261 = .ok (.iaload, 1) := by decide +kernel
theorem dL_law_262 : decode cL_law 262 = .ok (.aload_n 0, 1) := by decide +kernel
theorem dL_law_263 : decode cL_law 263 = .ok (.iload_n 3, 1) := by decide +kernel
theorem dL_law_264 : decode cL_law 264 = .ok (.iconst 3, 1) := by decide +kernel
theorem dL_law_265 : decode cL_law 265 = .ok (.iadd, 1) := by decide +kernel
theorem dL_law_266 : decode cL_law 266 = .ok (.iaload, 1) := by decide +kernel
theorem dL_law_267 : decode cL_law 267 = .ok (.invokevirtual 18, 3) := by decide +kernel
theorem dL_law_270 : decode cL_law 270 = .ok (.aload_n 2, 1) := by decide +kernel
theorem dL_law_271 : decode cL_law 271 = .ok (.aload_n 0, 1) := by decide +kernel
theorem dL_law_272 : decode cL_law 272 = .ok (.iload_n 3, 1) := by decide +kernel
theorem dL_law_273 : decode cL_law 273 = .ok (.iconst 1, 1) := by decide +kernel
theorem dL_law_274 : decode cL_law 274 = .ok (.iadd, 1) := by decide +kernel
theorem dL_law_275 : decode cL_law 275 = .ok (.iaload, 1) := by decide +kernel
theorem dL_law_276 : decode cL_law 276 = .ok (.aload_n 0, 1) := by decide +kernel
theorem dL_law_277 : decode cL_law 277 = .ok (.iload_n 3, 1) := by decide +kernel
theorem dL_law_278 : decode cL_law 278 = .ok (.iconst 2, 1) := by decide +kernel
theorem dL_law_279 : decode cL_law 279 = .ok (.iadd, 1) := by decide +kernel
theorem dL_law_280 : decode cL_law 280 = .ok (.iaload, 1) := by decide +kernel
theorem dL_law_281 : decode cL_law 281 = .ok (.aload_n 0, 1) := by decide +kernel
theorem dL_law_282 : decode cL_law 282 = .ok (.iload_n 3, 1) := by decide +kernel
theorem dL_law_283 : decode cL_law 283 = .ok (.iconst 3, 1) := by decide +kernel
theorem dL_law_284 : decode cL_law 284 = .ok (.iadd, 1) := by decide +kernel
theorem dL_law_285 : decode cL_law 285 = .ok (.iaload, 1) := by decide +kernel
theorem dL_law_286 : decode cL_law 286 = .ok (.invokevirtual 21, 3) := by decide +kernel
theorem dL_law_289 : decode cL_law 289 = .ok (.if_icmp .eq 1260, 3) := by decide +kernel
theorem dL_law_292 : decode cL_law 292 = .ok (.iconst 0, 1) := by decide +kernel
theorem dL_law_293 : decode cL_law 293 = .ok (.ireturn, 1) := by decide +kernel
theorem dL_law_294 : decode cL_law 294 = .ok (.aload_n 1, 1) := by decide +kernel
theorem dL_law_295 : decode cL_law 295 = .ok (.aload_n 0, 1) := by decide +kernel
theorem dL_law_296 : decode cL_law 296 = .ok (.iload_n 3, 1) := by decide +kernel
theorem dL_law_297 : decode cL_law 297 = .ok (.iconst 1, 1) := by decide +kernel
theorem dL_law_298 : decode cL_law 298 = .ok (.iadd, 1) := by decide +kernel
theorem dL_law_299 : decode cL_law 299 = .ok (.iaload, 1) := by decide +kernel
theorem dL_law_300 : decode cL_law 300 = .ok (.aload_n 0, 1) := by decide +kernel
theorem dL_law_301 : decode cL_law 301 = .ok (.iload_n 3, 1) := by decide +kernel
theorem dL_law_302 : decode cL_law 302 = .ok (.iconst 2, 1) := by decide +kernel
theorem dL_law_303 : decode cL_law 303 = .ok (.iadd, 1) := by decide +kernel
theorem dL_law_304 : decode cL_law 304 = .ok (.iaload, 1) := by decide +kernel
theorem dL_law_305 : decode cL_law 305 = .ok (.aload_n 0, 1) := by decide +kernel
theorem dL_law_306 : decode cL_law 306 = .ok (.iload_n 3, 1) := by decide +kernel
theorem dL_law_307 : decode cL_law 307 = .ok (.iconst 3, 1) := by decide +kernel
theorem dL_law_308 : decode cL_law 308 = .ok (.iadd, 1) := by decide +kernel
theorem dL_law_309 : decode cL_law 309 = .ok (.iaload, 1) := by decide +kernel
theorem dL_law_310 : decode cL_law 310 = .ok (.aload_n 0, 1) := by decide +kernel
theorem dL_law_311 : decode cL_law 311 = .ok (.iload_n 3, 1) := by decide +kernel
theorem dL_law_312 : decode cL_law 312 = .ok (.iconst 4, 1) := by decide +kernel
theorem dL_law_313 : decode cL_law 313 = .ok (.iadd, 1) := by decide +kernel
theorem dL_law_314 : decode cL_law 314 = .ok (.iaload, 1) := by decide +kernel
theorem dL_law_315 : decode cL_law 315 = .ok (.aload_n 0, 1) := by decide +kernel
theorem dL_law_316 : decode cL_law 316 = .ok (.iload_n 3, 1) := by decide +kernel
theorem dL_law_317 : decode cL_law 317 = .ok (.iconst 5, 1) := by decide +kernel
theorem dL_law_318 : decode cL_law 318 = .ok (.iadd, 1) := by decide +kernel
theorem dL_law_319 : decode cL_law 319 = .ok (.iaload, 1) := by decide +kernel
theorem dL_law_320 : decode cL_law 320 = .ok (.invokevirtual 22, 3) := by decide +kernel
theorem dL_law_323 : decode cL_law 323 = .ok (.aload_n 2, 1) := by decide +kernel
theorem dL_law_324 : decode cL_law 324 = .ok (.aload_n 0, 1) := by decide +kernel
theorem dL_law_325 : decode cL_law 325 = .ok (.iload_n 3, 1) := by decide +kernel
theorem dL_law_326 : decode cL_law 326 = .ok (.iconst 1, 1) := by decide +kernel
theorem dL_law_327 : decode cL_law 327 = .ok (.iadd, 1) := by decide +kernel
theorem dL_law_328 : decode cL_law 328 = .ok (.iaload, 1) := by decide +kernel
theorem dL_law_329 : decode cL_law 329 = .ok (.aload_n 0, 1) := by decide +kernel
theorem dL_law_330 : decode cL_law 330 = .ok (.iload_n 3, 1) := by decide +kernel
theorem dL_law_331 : decode cL_law 331 = .ok (.iconst 2, 1) := by decide +kernel
theorem dL_law_332 : decode cL_law 332 = .ok (.iadd, 1) := by decide +kernel
theorem dL_law_333 : decode cL_law 333 = .ok (.iaload, 1) := by decide +kernel
theorem dL_law_334 : decode cL_law 334 = .ok (.aload_n 0, 1) := by decide +kernel
theorem dL_law_335 : decode cL_law 335 = .ok (.iload_n 3, 1) := by decide +kernel
theorem dL_law_336 : decode cL_law 336 = .ok (.iconst 3, 1) := by decide +kernel
theorem dL_law_337 : decode cL_law 337 = .ok (.iadd, 1) := by decide +kernel
theorem dL_law_338 : decode cL_law 338 = .ok (.iaload, 1) := by decide +kernel
theorem dL_law_339 : decode cL_law 339 = .ok (.aload_n 0, 1) := by decide +kernel
theorem dL_law_340 : decode cL_law 340 = .ok (.iload_n 3, 1) := by decide +kernel
theorem dL_law_341 : decode cL_law 341 = .ok (.iconst 4, 1) := by decide +kernel
theorem dL_law_342 : decode cL_law 342 = .ok (.iadd, 1) := by decide +kernel
theorem dL_law_343 : decode cL_law 343 = .ok (.iaload, 1) := by decide +kernel
theorem dL_law_344 : decode cL_law 344 = .ok (.aload_n 0, 1) := by decide +kernel
theorem dL_law_345 : decode cL_law 345 = .ok (.iload_n 3, 1) := by decide +kernel
theorem dL_law_346 : decode cL_law 346 = .ok (.iconst 5, 1) := by decide +kernel
theorem dL_law_347 : decode cL_law 347 = .ok (.iadd, 1) := by decide +kernel
theorem dL_law_348 : decode cL_law 348 = .ok (.iaload, 1) := by decide +kernel
theorem dL_law_349 : decode cL_law 349 = .ok (.invokevirtual 26, 3) := by decide +kernel
theorem dL_law_352 : decode cL_law 352 = .ok (.if_icmp .eq 1197, 3) := by decide +kernel
theorem dL_law_355 : decode cL_law 355 = .ok (.iconst 0, 1) := by decide +kernel
theorem dL_law_356 : decode cL_law 356 = .ok (.ireturn, 1) := by decide +kernel
theorem dL_law_357 : decode cL_law 357 = .ok (.aload_n 1, 1) := by decide +kernel
theorem dL_law_358 : decode cL_law 358 = .ok (.aload_n 0, 1) := by decide +kernel
theorem dL_law_359 : decode cL_law 359 = .ok (.iload_n 3, 1) := by decide +kernel
theorem dL_law_360 : decode cL_law 360 = .ok (.iconst 1, 1) := by decide +kernel
theorem dL_law_361 : decode cL_law 361 = .ok (.iadd, 1) := by decide +kernel
theorem dL_law_362 : decode cL_law 362 = .ok (.iaload, 1) := by decide +kernel
theorem dL_law_363 : decode cL_law 363 = .ok (.invokevirtual 27, 3) := by decide +kernel
theorem dL_law_366 : decode cL_law 366 = .ok (.aload_n 2, 1) := by decide +kernel
theorem dL_law_367 : decode cL_law 367 = .ok (.aload_n 0, 1) := by decide +kernel
theorem dL_law_368 : decode cL_law 368 = .ok (.iload_n 3, 1) := by decide +kernel
theorem dL_law_369 : decode cL_law 369 = .ok (.iconst 1, 1) := by decide +kernel
theorem dL_law_370 : decode cL_law 370 = .ok (.iadd, 1) := by decide +kernel
theorem dL_law_371 : decode cL_law 371 = .ok (.iaload, 1) := by decide +kernel
theorem dL_law_372 : decode cL_law 372 = .ok (.invokevirtual 31, 3) := by decide +kernel
theorem dL_law_375 : decode cL_law 375 = .ok (.if_icmp .eq 1174, 3) := by decide +kernel
theorem dL_law_378 : decode cL_law 378 = .ok (.iconst 0, 1) := by decide +kernel
theorem dL_law_379 : decode cL_law 379 = .ok (.ireturn, 1) := by decide +kernel
theorem dL_law_380 : decode cL_law 380 = .ok (.aload_n 1, 1) := by decide +kernel
theorem dL_law_381 : decode cL_law 381 = .ok (.aload_n 0, 1) := by decide +kernel
theorem dL_law_382 : decode cL_law 382 = .ok (.iload_n 3, 1) := by decide +kernel
theorem dL_law_383 : decode cL_law 383 = .ok (.iconst 1, 1) := by decide +kernel
theorem dL_law_384 : decode cL_law 384 = .ok (.iadd, 1) := by decide +kernel
theorem dL_law_385 : decode cL_law 385 = .ok (.iaload, 1) := by decide +kernel
theorem dL_law_386 : decode cL_law 386 = .ok (.invokevirtual 32, 3) := by decide +kernel
theorem dL_law_389 : decode cL_law 389 = .ok (.aload_n 2, 1) := by decide +kernel
theorem dL_law_390 : decode cL_law 390 = .ok (.aload_n 0, 1) := by decide +kernel
theorem dL_law_391 : decode cL_law 391 = .ok (.iload_n 3, 1) := by decide +kernel
theorem dL_law_392 : decode cL_law 392 = .ok (.iconst 1, 1) := by decide +kernel
theorem dL_law_393 : decode cL_law 393 = .ok (.iadd, 1) := by decide +kernel
theorem dL_law_394 : decode cL_law 394 = .ok (.iaload, 1) := by decide +kernel
theorem dL_law_395 : decode cL_law 395 = .ok (.invokevirtual 35, 3) := by decide +kernel
theorem dL_law_398 : decode cL_law 398 = .ok (.if_icmp .eq 1151, 3) := by decide +kernel
theorem dL_law_401 : decode cL_law 401 = .ok (.iconst 0, 1) := by decide +kernel
theorem dL_law_402 : decode cL_law 402 = .ok (.ireturn, 1) := by decide +kernel
theorem dL_law_403 : decode cL_law 403 = .ok (.aload_n 1, 1) := by decide +kernel
theorem dL_law_404 : decode cL_law 404 = .ok (.invokevirtual 36, 3) := by decide +kernel
theorem dL_law_407 : decode cL_law 407 = .ok (.aload_n 2, 1) := by decide +kernel
theorem dL_law_408 : decode cL_law 408 = .ok (.invokevirtual 40, 3) := by decide +kernel
theorem dL_law_411 : decode cL_law 411 = .ok (.if_icmp .eq 1138, 3) := by decide +kernel
theorem dL_law_414 : decode cL_law 414 = .ok (.iconst 0, 1) := by decide +kernel
theorem dL_law_415 : decode cL_law 415 = .ok (.ireturn, 1) := by decide +kernel
theorem dL_law_416 : decode cL_law 416 = .ok (.aload_n 1, 1) := by decide +kernel
theorem dL_law_417 : decode cL_law 417 = .ok (.invokevirtual 41, 3) := by decide +kernel
theorem dL_law_420 : decode cL_law 420 = .ok (.aload_n 2, 1) := by decide +kernel
theorem dL_law_421 : decode cL_law 421 = .ok (.invokevirtual 44, 3) := by decide +kernel
theorem dL_law_424 : decode cL_law 424 = .ok (.if_icmp .eq 1125, 3) := by decide +kernel
theorem dL_law_427 : decode cL_law 427 = .ok (.iconst 0, 1) := by decide +kernel
theorem dL_law_428 : decode cL_law 428 = .ok (.ireturn, 1) := by decide +kernel
theorem dL_law_429 : decode cL_law 429 = .ok (.aload_n 1, 1) := by decide +kernel
theorem dL_law_430 : decode cL_law 430 = .ok (.invokevirtual 45, 3) := by decide +kernel
theorem dL_law_433 : decode cL_law 433 = .ok (.aload_n 2, 1) := by decide +kernel
theorem dL_law_434 : decode cL_law 434 = .ok (.invokevirtual 48, 3) := by decide +kernel
theorem dL_law_437 : decode cL_law 437 = .ok (.if_icmp .eq 1112, 3) := by decide +kernel
theorem dL_law_440 : decode cL_law 440 = .ok (.iconst 0, 1) := by decide +kernel
theorem dL_law_441 : decode cL_law 441 = .ok (.ireturn, 1) := by decide +kernel
theorem dL_law_442 : decode cL_law 442 = .ok (.aload_n 1, 1) := by decide +kernel
theorem dL_law_443 : decode cL_law 443 = .ok (.aload_n 0, 1) := by decide +kernel
theorem dL_law_444 : decode cL_law 444 = .ok (.iload_n 3, 1) := by decide +kernel
theorem dL_law_445 : decode cL_law 445 = .ok (.iconst 1, 1) := by decide +kernel
theorem dL_law_446 : decode cL_law 446 = .ok (.iadd, 1) := by decide +kernel
theorem dL_law_447 : decode cL_law 447 = .ok (.iaload, 1) := by decide +kernel
theorem dL_law_448 : decode cL_law 448 = .ok (.invokevirtual 49, 3) := by decide +kernel
theorem dL_law_451 : decode cL_law 451 = .ok (.aload_n 2, 1) := by decide +kernel
theorem dL_law_452 : decode cL_law 452 = .ok (.aload_n 0, 1) := by decide +kernel
theorem dL_law_453 : decode cL_law 453 = .ok (.iload_n 3, 1) := by decide +kernel
theorem dL_law_454 : decode cL_law 454 = .ok (.iconst 1, 1) := by decide +kernel
theorem dL_law_455 : decode cL_law 455 = .ok (.iadd, 1) := by decide +kernel
theorem dL_law_456 : decode cL_law 456 = .ok (.iaload, 1) := by decide +kernel
theorem dL_law_457 : decode cL_law 457 = .ok (.invokevirtual 52, 3) := by decide +kernel
theorem dL_law_460 : decode cL_law 460 = .ok (.if_icmp .eq 1089, 3) := by decide +kernel
theorem dL_law_463 : decode cL_law 463 = .ok (.iconst 0, 1) := by decide +kernel
theorem dL_law_464 : decode cL_law 464 = .ok (.ireturn, 1) := by decide +kernel
theorem dL_law_465 : decode cL_law 465 = .ok (.aload_n 1, 1) := by decide +kernel
theorem dL_law_466 : decode cL_law 466 = .ok (.aload_n 0, 1) := by decide +kernel
theorem dL_law_467 : decode cL_law 467 = .ok (.iload_n 3, 1) := by decide +kernel
theorem dL_law_468 : decode cL_law 468 = .ok (.iconst 1, 1) := by decide +kernel
theorem dL_law_469 : decode cL_law 469 = .ok (.iadd, 1) := by decide +kernel
theorem dL_law_470 : decode cL_law 470 = .ok (.iaload, 1) := by decide +kernel
theorem dL_law_471 : decode cL_law 471 = .ok (.aload_n 0, 1) := by decide +kernel
theorem dL_law_472 : decode cL_law 472 = .ok (.iload_n 3, 1) := by decide +kernel
theorem dL_law_473 : decode cL_law 473 = .ok (.iconst 2, 1) := by decide +kernel
theorem dL_law_474 : decode cL_law 474 = .ok (.iadd, 1) := by decide +kernel
theorem dL_law_475 : decode cL_law 475 = .ok (.iaload, 1) := by decide +kernel
theorem dL_law_476 : decode cL_law 476 = .ok (.invokevirtual 53, 3) := by decide +kernel
theorem dL_law_479 : decode cL_law 479 = .ok (.aload_n 2, 1) := by decide +kernel
theorem dL_law_480 : decode cL_law 480 = .ok (.aload_n 0, 1) := by decide +kernel
theorem dL_law_481 : decode cL_law 481 = .ok (.iload_n 3, 1) := by decide +kernel
theorem dL_law_482 : decode cL_law 482 = .ok (.iconst 1, 1) := by decide +kernel
theorem dL_law_483 : decode cL_law 483 = .ok (.iadd, 1) := by decide +kernel
theorem dL_law_484 : decode cL_law 484 = .ok (.iaload, 1) := by decide +kernel
theorem dL_law_485 : decode cL_law 485 = .ok (.aload_n 0, 1) := by decide +kernel
theorem dL_law_486 : decode cL_law 486 = .ok (.iload_n 3, 1) := by decide +kernel
theorem dL_law_487 : decode cL_law 487 = .ok (.iconst 2, 1) := by decide +kernel
theorem dL_law_488 : decode cL_law 488 = .ok (.iadd, 1) := by decide +kernel
theorem dL_law_489 : decode cL_law 489 = .ok (.iaload, 1) := by decide +kernel
theorem dL_law_490 : decode cL_law 490 = .ok (.invokevirtual 57, 3) := by decide +kernel
theorem dL_law_493 : decode cL_law 493 = .ok (.if_icmp .eq 1056, 3) := by decide +kernel
theorem dL_law_496 : decode cL_law 496 = .ok (.iconst 0, 1) := by decide +kernel
theorem dL_law_497 : decode cL_law 497 = .ok (.ireturn, 1) := by decide +kernel
theorem dL_law_498 : decode cL_law 498 = .ok (.aload_n 1, 1) := by decide +kernel
theorem dL_law_499 : decode cL_law 499 = .ok (.aload_n 0, 1) := by decide +kernel
theorem dL_law_500 : decode cL_law 500 = .ok (.iload_n 3, 1) := by decide +kernel
theorem dL_law_501 : decode cL_law 501 = .ok (.iconst 1, 1) := by decide +kernel
theorem dL_law_502 : decode cL_law 502 = .ok (.iadd, 1) := by decide +kernel
theorem dL_law_503 : decode cL_law 503 = .ok (.iaload, 1) := by decide +kernel
theorem dL_law_504 : decode cL_law 504 = .ok (.aload_n 0, 1) := by decide +kernel
theorem dL_law_505 : decode cL_law 505 = .ok (.iload_n 3, 1) := by decide +kernel
theorem dL_law_506 : decode cL_law 506 = .ok (.iconst 2, 1) := by decide +kernel
theorem dL_law_507 : decode cL_law 507 = .ok (.iadd, 1) := by decide +kernel
theorem dL_law_508 : decode cL_law 508 = .ok (.iaload, 1) := by decide +kernel
theorem dL_law_509 : decode cL_law 509 = .ok (.invokevirtual 58, 3) := by decide +kernel
theorem dL_law_512 : decode cL_law 512 = .ok (.aload_n 2, 1) := by decide +kernel
theorem dL_law_513 : decode cL_law 513 = .ok (.aload_n 0, 1) := by decide +kernel
theorem dL_law_514 : decode cL_law 514 = .ok (.iload_n 3, 1) := by decide +kernel
theorem dL_law_515 : decode cL_law 515 = .ok (.iconst 1, 1) := by decide +kernel
theorem dL_law_516 : decode cL_law 516 = .ok (.iadd, 1) := by decide +kernel
theorem dL_law_517 : decode cL_law 517 = .ok (.iaload, 1) := by decide +kernel
theorem dL_law_518 : decode cL_law 518 = .ok (.aload_n 0, 1) := by decide +kernel
theorem dL_law_519 : decode cL_law 519 = .ok (.iload_n 3, 1) := by decide +kernel
theorem dL_law_520 : decode cL_law 520 = .ok (.iconst 2, 1) := by decide +kernel
theorem dL_law_521 : decode cL_law 521 = .ok (.iadd, 1) := by decide +kernel
theorem dL_law_522 : decode cL_law 522 = .ok (.iaload, 1) := by decide +kernel
theorem dL_law_523 : decode cL_law 523 = .ok (.invokevirtual 61, 3) := by decide +kernel
theorem dL_law_526 : decode cL_law 526 = .ok (.if_icmp .eq 1023, 3) := by decide +kernel
theorem dL_law_529 : decode cL_law 529 = .ok (.iconst 0, 1) := by decide +kernel
theorem dL_law_530 : decode cL_law 530 = .ok (.ireturn, 1) := by decide +kernel
theorem dL_law_531 : decode cL_law 531 = .ok (.aload_n 1, 1) := by decide +kernel
theorem dL_law_532 : decode cL_law 532 = .ok (.aload_n 0, 1) := by decide +kernel
theorem dL_law_533 : decode cL_law 533 = .ok (.iload_n 3, 1) := by decide +kernel
theorem dL_law_534 : decode cL_law 534 = .ok (.iconst 1, 1) := by decide +kernel
theorem dL_law_535 : decode cL_law 535 = .ok (.iadd, 1) := by decide +kernel
theorem dL_law_536 : decode cL_law 536 = .ok (.iaload, 1) := by decide +kernel
theorem dL_law_537 : decode cL_law 537 = .ok (.aload_n 0, 1) := by decide +kernel
theorem dL_law_538 : decode cL_law 538 = .ok (.iload_n 3, 1) := by decide +kernel
theorem dL_law_539 : decode cL_law 539 = .ok (.iconst 2, 1) := by decide +kernel
theorem dL_law_540 : decode cL_law 540 = .ok (.iadd, 1) := by decide +kernel
theorem dL_law_541 : decode cL_law 541 = .ok (.iaload, 1) := by decide +kernel
theorem dL_law_542 : decode cL_law 542 = .ok (.invokevirtual 62, 3) := by decide +kernel
theorem dL_law_545 : decode cL_law 545 = .ok (.aload_n 2, 1) := by decide +kernel
theorem dL_law_546 : decode cL_law 546 = .ok (.aload_n 0, 1) := by decide +kernel
theorem dL_law_547 : decode cL_law 547 = .ok (.iload_n 3, 1) := by decide +kernel
theorem dL_law_548 : decode cL_law 548 = .ok (.iconst 1, 1) := by decide +kernel
theorem dL_law_549 : decode cL_law 549 = .ok (.iadd, 1) := by decide +kernel
theorem dL_law_550 : decode cL_law 550 = .ok (.iaload, 1) := by decide +kernel
theorem dL_law_551 : decode cL_law 551 = .ok (.aload_n 0, 1) := by decide +kernel
theorem dL_law_552 : decode cL_law 552 = .ok (.iload_n 3, 1) := by decide +kernel
theorem dL_law_553 : decode cL_law 553 = .ok (.iconst 2, 1) := by decide +kernel
theorem dL_law_554 : decode cL_law 554 = .ok (.iadd, 1) := by decide +kernel
theorem dL_law_555 : decode cL_law 555 = .ok (.iaload, 1) := by decide +kernel
theorem dL_law_556 : decode cL_law 556 = .ok (.invokevirtual 65, 3) := by decide +kernel
theorem dL_law_559 : decode cL_law 559 = .ok (.if_icmp .eq 990, 3) := by decide +kernel
theorem dL_law_562 : decode cL_law 562 = .ok (.iconst 0, 1) := by decide +kernel
theorem dL_law_563 : decode cL_law 563 = .ok (.ireturn, 1) := by decide +kernel
theorem dL_law_564 : decode cL_law 564 = .ok (.aload_n 1, 1) := by decide +kernel
theorem dL_law_565 : decode cL_law 565 = .ok (.aload_n 0, 1) := by decide +kernel
theorem dL_law_566 : decode cL_law 566 = .ok (.iload_n 3, 1) := by decide +kernel
theorem dL_law_567 : decode cL_law 567 = .ok (.iconst 1, 1) := by decide +kernel
theorem dL_law_568 : decode cL_law 568 = .ok (.iadd, 1) := by decide +kernel
theorem dL_law_569 : decode cL_law 569 = .ok (.iaload, 1) := by decide +kernel
theorem dL_law_570 : decode cL_law 570 = .ok (.aload_n 0, 1) := by decide +kernel
theorem dL_law_571 : decode cL_law 571 = .ok (.iload_n 3, 1) := by decide +kernel
theorem dL_law_572 : decode cL_law 572 = .ok (.iconst 2, 1) := by decide +kernel
theorem dL_law_573 : decode cL_law 573 = .ok (.iadd, 1) := by decide +kernel
theorem dL_law_574 : decode cL_law 574 = .ok (.iaload, 1) := by decide +kernel
theorem dL_law_575 : decode cL_law 575 = .ok (.invokevirtual 66, 3) := by decide +kernel
theorem dL_law_578 : decode cL_law 578 = .ok (.aload_n 2, 1) := by decide +kernel
theorem dL_law_579 : decode cL_law 579 = .ok (.aload_n 0, 1) := by decide +kernel
theorem dL_law_580 : decode cL_law 580 = .ok (.iload_n 3, 1) := by decide +kernel
theorem dL_law_581 : decode cL_law 581 = .ok (.iconst 1, 1) := by decide +kernel
theorem dL_law_582 : decode cL_law 582 = .ok (.iadd, 1) := by decide +kernel
theorem dL_law_583 : decode cL_law 583 = .ok (.iaload, 1) := by decide +kernel
theorem dL_law_584 : decode cL_law 584 = .ok (.aload_n 0, 1) := by decide +kernel
theorem dL_law_585 : decode cL_law 585 = .ok (.iload_n 3, 1) := by decide +kernel
theorem dL_law_586 : decode cL_law 586 = .ok (.iconst 2, 1) := by decide +kernel
theorem dL_law_587 : decode cL_law 587 = .ok (.iadd, 1) := by decide +kernel
theorem dL_law_588 : decode cL_law 588 = .ok (.iaload, 1) := by decide +kernel
theorem dL_law_589 : decode cL_law 589 = .ok (.invokevirtual 69, 3) := by decide +kernel
theorem dL_law_592 : decode cL_law 592 = .ok (.if_icmp .eq 957, 3) := by decide +kernel
theorem dL_law_595 : decode cL_law 595 = .ok (.iconst 0, 1) := by decide +kernel
theorem dL_law_596 : decode cL_law 596 = .ok (.ireturn, 1) := by decide +kernel
theorem dL_law_597 : decode cL_law 597 = .ok (.aload_n 1, 1) := by decide +kernel
theorem dL_law_598 : decode cL_law 598 = .ok (.aload_n 0, 1) := by decide +kernel
theorem dL_law_599 : decode cL_law 599 = .ok (.iload_n 3, 1) := by decide +kernel
theorem dL_law_600 : decode cL_law 600 = .ok (.iconst 1, 1) := by decide +kernel
theorem dL_law_601 : decode cL_law 601 = .ok (.iadd, 1) := by decide +kernel
theorem dL_law_602 : decode cL_law 602 = .ok (.iaload, 1) := by decide +kernel
theorem dL_law_603 : decode cL_law 603 = .ok (.aload_n 0, 1) := by decide +kernel
theorem dL_law_604 : decode cL_law 604 = .ok (.iload_n 3, 1) := by decide +kernel
theorem dL_law_605 : decode cL_law 605 = .ok (.iconst 2, 1) := by decide +kernel
theorem dL_law_606 : decode cL_law 606 = .ok (.iadd, 1) := by decide +kernel
theorem dL_law_607 : decode cL_law 607 = .ok (.iaload, 1) := by decide +kernel
theorem dL_law_608 : decode cL_law 608 = .ok (.invokevirtual 70, 3) := by decide +kernel
theorem dL_law_611 : decode cL_law 611 = .ok (.aload_n 2, 1) := by decide +kernel
theorem dL_law_612 : decode cL_law 612 = .ok (.aload_n 0, 1) := by decide +kernel
theorem dL_law_613 : decode cL_law 613 = .ok (.iload_n 3, 1) := by decide +kernel
theorem dL_law_614 : decode cL_law 614 = .ok (.iconst 1, 1) := by decide +kernel
theorem dL_law_615 : decode cL_law 615 = .ok (.iadd, 1) := by decide +kernel
theorem dL_law_616 : decode cL_law 616 = .ok (.iaload, 1) := by decide +kernel
theorem dL_law_617 : decode cL_law 617 = .ok (.aload_n 0, 1) := by decide +kernel
theorem dL_law_618 : decode cL_law 618 = .ok (.iload_n 3, 1) := by decide +kernel
theorem dL_law_619 : decode cL_law 619 = .ok (.iconst 2, 1) := by decide +kernel
theorem dL_law_620 : decode cL_law 620 = .ok (.iadd, 1) := by decide +kernel
theorem dL_law_621 : decode cL_law 621 = .ok (.iaload, 1) := by decide +kernel
theorem dL_law_622 : decode cL_law 622 = .ok (.invokevirtual 73, 3) := by decide +kernel
theorem dL_law_625 : decode cL_law 625 = .ok (.if_icmp .eq 924, 3) := by decide +kernel
theorem dL_law_628 : decode cL_law 628 = .ok (.iconst 0, 1) := by decide +kernel
theorem dL_law_629 : decode cL_law 629 = .ok (.ireturn, 1) := by decide +kernel
theorem dL_law_630 : decode cL_law 630 = .ok (.aload_n 1, 1) := by decide +kernel
theorem dL_law_631 : decode cL_law 631 = .ok (.aload_n 0, 1) := by decide +kernel
theorem dL_law_632 : decode cL_law 632 = .ok (.iload_n 3, 1) := by decide +kernel
theorem dL_law_633 : decode cL_law 633 = .ok (.iconst 1, 1) := by decide +kernel
theorem dL_law_634 : decode cL_law 634 = .ok (.iadd, 1) := by decide +kernel
theorem dL_law_635 : decode cL_law 635 = .ok (.iaload, 1) := by decide +kernel
theorem dL_law_636 : decode cL_law 636 = .ok (.aload_n 0, 1) := by decide +kernel
theorem dL_law_637 : decode cL_law 637 = .ok (.iload_n 3, 1) := by decide +kernel
theorem dL_law_638 : decode cL_law 638 = .ok (.iconst 2, 1) := by decide +kernel
theorem dL_law_639 : decode cL_law 639 = .ok (.iadd, 1) := by decide +kernel
theorem dL_law_640 : decode cL_law 640 = .ok (.iaload, 1) := by decide +kernel
theorem dL_law_641 : decode cL_law 641 = .ok (.invokevirtual 74, 3) := by decide +kernel
theorem dL_law_644 : decode cL_law 644 = .ok (.aload_n 2, 1) := by decide +kernel
theorem dL_law_645 : decode cL_law 645 = .ok (.aload_n 0, 1) := by decide +kernel
theorem dL_law_646 : decode cL_law 646 = .ok (.iload_n 3, 1) := by decide +kernel
theorem dL_law_647 : decode cL_law 647 = .ok (.iconst 1, 1) := by decide +kernel
theorem dL_law_648 : decode cL_law 648 = .ok (.iadd, 1) := by decide +kernel
theorem dL_law_649 : decode cL_law 649 = .ok (.iaload, 1) := by decide +kernel
theorem dL_law_650 : decode cL_law 650 = .ok (.aload_n 0, 1) := by decide +kernel
theorem dL_law_651 : decode cL_law 651 = .ok (.iload_n 3, 1) := by decide +kernel
theorem dL_law_652 : decode cL_law 652 = .ok (.iconst 2, 1) := by decide +kernel
theorem dL_law_653 : decode cL_law 653 = .ok (.iadd, 1) := by decide +kernel
theorem dL_law_654 : decode cL_law 654 = .ok (.iaload, 1) := by decide +kernel
theorem dL_law_655 : decode cL_law 655 = .ok (.invokevirtual 77, 3) := by decide +kernel
theorem dL_law_658 : decode cL_law 658 = .ok (.if_icmp .eq 891, 3) := by decide +kernel
theorem dL_law_661 : decode cL_law 661 = .ok (.iconst 0, 1) := by decide +kernel
theorem dL_law_662 : decode cL_law 662 = .ok (.ireturn, 1) := by decide +kernel
theorem dL_law_663 : decode cL_law 663 = .ok (.aload_n 1, 1) := by decide +kernel
theorem dL_law_664 : decode cL_law 664 = .ok (.aload_n 0, 1) := by decide +kernel
theorem dL_law_665 : decode cL_law 665 = .ok (.iload_n 3, 1) := by decide +kernel
theorem dL_law_666 : decode cL_law 666 = .ok (.iconst 1, 1) := by decide +kernel
theorem dL_law_667 : decode cL_law 667 = .ok (.iadd, 1) := by decide +kernel
theorem dL_law_668 : decode cL_law 668 = .ok (.iaload, 1) := by decide +kernel
theorem dL_law_669 : decode cL_law 669 = .ok (.aload_n 0, 1) := by decide +kernel
theorem dL_law_670 : decode cL_law 670 = .ok (.iload_n 3, 1) := by decide +kernel
theorem dL_law_671 : decode cL_law 671 = .ok (.iconst 2, 1) := by decide +kernel
theorem dL_law_672 : decode cL_law 672 = .ok (.iadd, 1) := by decide +kernel
theorem dL_law_673 : decode cL_law 673 = .ok (.iaload, 1) := by decide +kernel
theorem dL_law_674 : decode cL_law 674 = .ok (.invokevirtual 78, 3) := by decide +kernel
theorem dL_law_677 : decode cL_law 677 = .ok (.aload_n 2, 1) := by decide +kernel
theorem dL_law_678 : decode cL_law 678 = .ok (.aload_n 0, 1) := by decide +kernel
theorem dL_law_679 : decode cL_law 679 = .ok (.iload_n 3, 1) := by decide +kernel
theorem dL_law_680 : decode cL_law 680 = .ok (.iconst 1, 1) := by decide +kernel
theorem dL_law_681 : decode cL_law 681 = .ok (.iadd, 1) := by decide +kernel
theorem dL_law_682 : decode cL_law 682 = .ok (.iaload, 1) := by decide +kernel
theorem dL_law_683 : decode cL_law 683 = .ok (.aload_n 0, 1) := by decide +kernel
theorem dL_law_684 : decode cL_law 684 = .ok (.iload_n 3, 1) := by decide +kernel
theorem dL_law_685 : decode cL_law 685 = .ok (.iconst 2, 1) := by decide +kernel
theorem dL_law_686 : decode cL_law 686 = .ok (.iadd, 1) := by decide +kernel
theorem dL_law_687 : decode cL_law 687 = .ok (.iaload, 1) := by decide +kernel
theorem dL_law_688 : decode cL_law 688 = .ok (.invokevirtual 81, 3) := by decide +kernel
theorem dL_law_691 : decode cL_law 691 = .ok (.if_icmp .eq 858, 3) := by decide +kernel
theorem dL_law_694 : decode cL_law 694 = .ok (.iconst 0, 1) := by decide +kernel
theorem dL_law_695 : decode cL_law 695 = .ok (.ireturn, 1) := by decide +kernel
theorem dL_law_696 : decode cL_law 696 = .ok (.aload_n 1, 1) := by decide +kernel
theorem dL_law_697 : decode cL_law 697 = .ok (.aload_n 0, 1) := by decide +kernel
theorem dL_law_698 : decode cL_law 698 = .ok (.iload_n 3, 1) := by decide +kernel
theorem dL_law_699 : decode cL_law 699 = .ok (.iconst 1, 1) := by decide +kernel
theorem dL_law_700 : decode cL_law 700 = .ok (.iadd, 1) := by decide +kernel
theorem dL_law_701 : decode cL_law 701 = .ok (.iaload, 1) := by decide +kernel
theorem dL_law_702 : decode cL_law 702 = .ok (.aload_n 0, 1) := by decide +kernel
theorem dL_law_703 : decode cL_law 703 = .ok (.iload_n 3, 1) := by decide +kernel
theorem dL_law_704 : decode cL_law 704 = .ok (.iconst 2, 1) := by decide +kernel
theorem dL_law_705 : decode cL_law 705 = .ok (.iadd, 1) := by decide +kernel
theorem dL_law_706 : decode cL_law 706 = .ok (.iaload, 1) := by decide +kernel
theorem dL_law_707 : decode cL_law 707 = .ok (.invokevirtual 82, 3) := by decide +kernel
theorem dL_law_710 : decode cL_law 710 = .ok (.aload_n 2, 1) := by decide +kernel
theorem dL_law_711 : decode cL_law 711 = .ok (.aload_n 0, 1) := by decide +kernel
theorem dL_law_712 : decode cL_law 712 = .ok (.iload_n 3, 1) := by decide +kernel
theorem dL_law_713 : decode cL_law 713 = .ok (.iconst 1, 1) := by decide +kernel
theorem dL_law_714 : decode cL_law 714 = .ok (.iadd, 1) := by decide +kernel
theorem dL_law_715 : decode cL_law 715 = .ok (.iaload, 1) := by decide +kernel
theorem dL_law_716 : decode cL_law 716 = .ok (.aload_n 0, 1) := by decide +kernel
theorem dL_law_717 : decode cL_law 717 = .ok (.iload_n 3, 1) := by decide +kernel
theorem dL_law_718 : decode cL_law 718 = .ok (.iconst 2, 1) := by decide +kernel
theorem dL_law_719 : decode cL_law 719 = .ok (.iadd, 1) := by decide +kernel
theorem dL_law_720 : decode cL_law 720 = .ok (.iaload, 1) := by decide +kernel
theorem dL_law_721 : decode cL_law 721 = .ok (.invokevirtual 85, 3) := by decide +kernel
theorem dL_law_724 : decode cL_law 724 = .ok (.if_icmp .eq 825, 3) := by decide +kernel
theorem dL_law_727 : decode cL_law 727 = .ok (.iconst 0, 1) := by decide +kernel
theorem dL_law_728 : decode cL_law 728 = .ok (.ireturn, 1) := by decide +kernel
theorem dL_law_729 : decode cL_law 729 = .ok (.aload_n 1, 1) := by decide +kernel
theorem dL_law_730 : decode cL_law 730 = .ok (.aload_n 0, 1) := by decide +kernel
theorem dL_law_731 : decode cL_law 731 = .ok (.iload_n 3, 1) := by decide +kernel
theorem dL_law_732 : decode cL_law 732 = .ok (.iconst 1, 1) := by decide +kernel
theorem dL_law_733 : decode cL_law 733 = .ok (.iadd, 1) := by decide +kernel
theorem dL_law_734 : decode cL_law 734 = .ok (.iaload, 1) := by decide +kernel
theorem dL_law_735 : decode cL_law 735 = .ok (.invokevirtual 86, 3) := by decide +kernel
theorem dL_law_738 : decode cL_law 738 = .ok (.aload_n 2, 1) := by decide +kernel
theorem dL_law_739 : decode cL_law 739 = .ok (.aload_n 0, 1) := by decide +kernel
theorem dL_law_740 : decode cL_law 740 = .ok (.iload_n 3, 1) := by decide +kernel
theorem dL_law_741 : decode cL_law 741 = .ok (.iconst 1, 1) := by decide +kernel
theorem dL_law_742 : decode cL_law 742 = .ok (.iadd, 1) := by decide +kernel
theorem dL_law_743 : decode cL_law 743 = .ok (.iaload, 1) := by decide +kernel
theorem dL_law_744 : decode cL_law 744 = .ok (.invokevirtual 89, 3) := by decide +kernel
theorem dL_law_747 : decode cL_law 747 = .ok (.if_icmp .eq 802, 3) := by decide +kernel
theorem dL_law_750 : decode cL_law 750 = .ok (.iconst 0, 1) := by decide +kernel
theorem dL_law_751 : decode cL_law 751 = .ok (.ireturn, 1) := by decide +kernel
theorem dL_law_752 : decode cL_law 752 = .ok (.aload_n 1, 1) := by decide +kernel
theorem dL_law_753 : decode cL_law 753 = .ok (.aload_n 0, 1) := by decide +kernel
theorem dL_law_754 : decode cL_law 754 = .ok (.iload_n 3, 1) := by decide +kernel
theorem dL_law_755 : decode cL_law 755 = .ok (.iconst 1, 1) := by decide +kernel
theorem dL_law_756 : decode cL_law 756 = .ok (.iadd, 1) := by decide +kernel
theorem dL_law_757 : decode cL_law 757 = .ok (.iaload, 1) := by decide +kernel
theorem dL_law_758 : decode cL_law 758 = .ok (.aload_n 0, 1) := by decide +kernel
theorem dL_law_759 : decode cL_law 759 = .ok (.iload_n 3, 1) := by decide +kernel
theorem dL_law_760 : decode cL_law 760 = .ok (.iconst 2, 1) := by decide +kernel
theorem dL_law_761 : decode cL_law 761 = .ok (.iadd, 1) := by decide +kernel
theorem dL_law_762 : decode cL_law 762 = .ok (.iaload, 1) := by decide +kernel
theorem dL_law_763 : decode cL_law 763 = .ok (.invokevirtual 90, 3) := by decide +kernel
theorem dL_law_766 : decode cL_law 766 = .ok (.aload_n 2, 1) := by decide +kernel
theorem dL_law_767 : decode cL_law 767 = .ok (.aload_n 0, 1) := by decide +kernel
theorem dL_law_768 : decode cL_law 768 = .ok (.iload_n 3, 1) := by decide +kernel
theorem dL_law_769 : decode cL_law 769 = .ok (.iconst 1, 1) := by decide +kernel
theorem dL_law_770 : decode cL_law 770 = .ok (.iadd, 1) := by decide +kernel
theorem dL_law_771 : decode cL_law 771 = .ok (.iaload, 1) := by decide +kernel
theorem dL_law_772 : decode cL_law 772 = .ok (.aload_n 0, 1) := by decide +kernel
theorem dL_law_773 : decode cL_law 773 = .ok (.iload_n 3, 1) := by decide +kernel
theorem dL_law_774 : decode cL_law 774 = .ok (.iconst 2, 1) := by decide +kernel
theorem dL_law_775 : decode cL_law 775 = .ok (.iadd, 1) := by decide +kernel
theorem dL_law_776 : decode cL_law 776 = .ok (.iaload, 1) := by decide +kernel
theorem dL_law_777 : decode cL_law 777 = .ok (.invokevirtual 93, 3) := by decide +kernel
theorem dL_law_780 : decode cL_law 780 = .ok (.if_icmp .eq 769, 3) := by decide +kernel
theorem dL_law_783 : decode cL_law 783 = .ok (.iconst 0, 1) := by decide +kernel
theorem dL_law_784 : decode cL_law 784 = .ok (.ireturn, 1) := by decide +kernel
theorem dL_law_785 : decode cL_law 785 = .ok (.aload_n 1, 1) := by decide +kernel
theorem dL_law_786 : decode cL_law 786 = .ok (.aload_n 0, 1) := by decide +kernel
theorem dL_law_787 : decode cL_law 787 = .ok (.iload_n 3, 1) := by decide +kernel
theorem dL_law_788 : decode cL_law 788 = .ok (.iconst 1, 1) := by decide +kernel
theorem dL_law_789 : decode cL_law 789 = .ok (.iadd, 1) := by decide +kernel
theorem dL_law_790 : decode cL_law 790 = .ok (.iaload, 1) := by decide +kernel
theorem dL_law_791 : decode cL_law 791 = .ok (.aload_n 0, 1) := by decide +kernel
theorem dL_law_792 : decode cL_law 792 = .ok (.iload_n 3, 1) := by decide +kernel
theorem dL_law_793 : decode cL_law 793 = .ok (.iconst 2, 1) := by decide +kernel
theorem dL_law_794 : decode cL_law 794 = .ok (.iadd, 1) := by decide +kernel
theorem dL_law_795 : decode cL_law 795 = .ok (.iaload, 1) := by decide +kernel
theorem dL_law_796 : decode cL_law 796 = .ok (.invokevirtual 94, 3) := by decide +kernel
theorem dL_law_799 : decode cL_law 799 = .ok (.aload_n 2, 1) := by decide +kernel
theorem dL_law_800 : decode cL_law 800 = .ok (.aload_n 0, 1) := by decide +kernel
theorem dL_law_801 : decode cL_law 801 = .ok (.iload_n 3, 1) := by decide +kernel
theorem dL_law_802 : decode cL_law 802 = .ok (.iconst 1, 1) := by decide +kernel
theorem dL_law_803 : decode cL_law 803 = .ok (.iadd, 1) := by decide +kernel
theorem dL_law_804 : decode cL_law 804 = .ok (.iaload, 1) := by decide +kernel
theorem dL_law_805 : decode cL_law 805 = .ok (.aload_n 0, 1) := by decide +kernel
theorem dL_law_806 : decode cL_law 806 = .ok (.iload_n 3, 1) := by decide +kernel
theorem dL_law_807 : decode cL_law 807 = .ok (.iconst 2, 1) := by decide +kernel
theorem dL_law_808 : decode cL_law 808 = .ok (.iadd, 1) := by decide +kernel
theorem dL_law_809 : decode cL_law 809 = .ok (.iaload, 1) := by decide +kernel
theorem dL_law_810 : decode cL_law 810 = .ok (.invokevirtual 97, 3) := by decide +kernel
theorem dL_law_813 : decode cL_law 813 = .ok (.if_icmp .eq 736, 3) := by decide +kernel
theorem dL_law_816 : decode cL_law 816 = .ok (.iconst 0, 1) := by decide +kernel
theorem dL_law_817 : decode cL_law 817 = .ok (.ireturn, 1) := by decide +kernel
theorem dL_law_818 : decode cL_law 818 = .ok (.aload_n 1, 1) := by decide +kernel
theorem dL_law_819 : decode cL_law 819 = .ok (.aload_n 0, 1) := by decide +kernel
theorem dL_law_820 : decode cL_law 820 = .ok (.iload_n 3, 1) := by decide +kernel
theorem dL_law_821 : decode cL_law 821 = .ok (.iconst 1, 1) := by decide +kernel
theorem dL_law_822 : decode cL_law 822 = .ok (.iadd, 1) := by decide +kernel
theorem dL_law_823 : decode cL_law 823 = .ok (.iaload, 1) := by decide +kernel
theorem dL_law_824 : decode cL_law 824 = .ok (.aload_n 0, 1) := by decide +kernel
theorem dL_law_825 : decode cL_law 825 = .ok (.iload_n 3, 1) := by decide +kernel
theorem dL_law_826 : decode cL_law 826 = .ok (.iconst 2, 1) := by decide +kernel
theorem dL_law_827 : decode cL_law 827 = .ok (.iadd, 1) := by decide +kernel
theorem dL_law_828 : decode cL_law 828 = .ok (.iaload, 1) := by decide +kernel
theorem dL_law_829 : decode cL_law 829 = .ok (.aload_n 0, 1) := by decide +kernel
theorem dL_law_830 : decode cL_law 830 = .ok (.iload_n 3, 1) := by decide +kernel
theorem dL_law_831 : decode cL_law 831 = .ok (.iconst 3, 1) := by decide +kernel
theorem dL_law_832 : decode cL_law 832 = .ok (.iadd, 1) := by decide +kernel
theorem dL_law_833 : decode cL_law 833 = .ok (.iaload, 1) := by decide +kernel
theorem dL_law_834 : decode cL_law 834 = .ok (.aload_n 0, 1) := by decide +kernel
theorem dL_law_835 : decode cL_law 835 = .ok (.iload_n 3, 1) := by decide +kernel
theorem dL_law_836 : decode cL_law 836 = .ok (.iconst 4, 1) := by decide +kernel
theorem dL_law_837 : decode cL_law 837 = .ok (.iadd, 1) := by decide +kernel
theorem dL_law_838 : decode cL_law 838 = .ok (.iaload, 1) := by decide +kernel
theorem dL_law_839 : decode cL_law 839 = .ok (.invokevirtual 98, 3) := by decide +kernel
theorem dL_law_842 : decode cL_law 842 = .ok (.aload_n 2, 1) := by decide +kernel
theorem dL_law_843 : decode cL_law 843 = .ok (.aload_n 0, 1) := by decide +kernel
theorem dL_law_844 : decode cL_law 844 = .ok (.iload_n 3, 1) := by decide +kernel
theorem dL_law_845 : decode cL_law 845 = .ok (.iconst 1, 1) := by decide +kernel
theorem dL_law_846 : decode cL_law 846 = .ok (.iadd, 1) := by decide +kernel
theorem dL_law_847 : decode cL_law 847 = .ok (.iaload, 1) := by decide +kernel
theorem dL_law_848 : decode cL_law 848 = .ok (.aload_n 0, 1) := by decide +kernel
theorem dL_law_849 : decode cL_law 849 = .ok (.iload_n 3, 1) := by decide +kernel
theorem dL_law_850 : decode cL_law 850 = .ok (.iconst 2, 1) := by decide +kernel
theorem dL_law_851 : decode cL_law 851 = .ok (.iadd, 1) := by decide +kernel
theorem dL_law_852 : decode cL_law 852 = .ok (.iaload, 1) := by decide +kernel
theorem dL_law_853 : decode cL_law 853 = .ok (.aload_n 0, 1) := by decide +kernel
theorem dL_law_854 : decode cL_law 854 = .ok (.iload_n 3, 1) := by decide +kernel
theorem dL_law_855 : decode cL_law 855 = .ok (.iconst 3, 1) := by decide +kernel
theorem dL_law_856 : decode cL_law 856 = .ok (.iadd, 1) := by decide +kernel
theorem dL_law_857 : decode cL_law 857 = .ok (.iaload, 1) := by decide +kernel
theorem dL_law_858 : decode cL_law 858 = .ok (.aload_n 0, 1) := by decide +kernel
theorem dL_law_859 : decode cL_law 859 = .ok (.iload_n 3, 1) := by decide +kernel
theorem dL_law_860 : decode cL_law 860 = .ok (.iconst 4, 1) := by decide +kernel
theorem dL_law_861 : decode cL_law 861 = .ok (.iadd, 1) := by decide +kernel
theorem dL_law_862 : decode cL_law 862 = .ok (.iaload, 1) := by decide +kernel
theorem dL_law_863 : decode cL_law 863 = .ok (.invokevirtual 102, 3) := by decide +kernel
theorem dL_law_866 : decode cL_law 866 = .ok (.if_icmp .eq 683, 3) := by decide +kernel
theorem dL_law_869 : decode cL_law 869 = .ok (.iconst 0, 1) := by decide +kernel
theorem dL_law_870 : decode cL_law 870 = .ok (.ireturn, 1) := by decide +kernel
theorem dL_law_871 : decode cL_law 871 = .ok (.aload_n 1, 1) := by decide +kernel
theorem dL_law_872 : decode cL_law 872 = .ok (.aload_n 0, 1) := by decide +kernel
theorem dL_law_873 : decode cL_law 873 = .ok (.iload_n 3, 1) := by decide +kernel
theorem dL_law_874 : decode cL_law 874 = .ok (.iconst 1, 1) := by decide +kernel
theorem dL_law_875 : decode cL_law 875 = .ok (.iadd, 1) := by decide +kernel
theorem dL_law_876 : decode cL_law 876 = .ok (.iaload, 1) := by decide +kernel
theorem dL_law_877 : decode cL_law 877 = .ok (.aload_n 0, 1) := by decide +kernel
theorem dL_law_878 : decode cL_law 878 = .ok (.iload_n 3, 1) := by decide +kernel
theorem dL_law_879 : decode cL_law 879 = .ok (.iconst 2, 1) := by decide +kernel
theorem dL_law_880 : decode cL_law 880 = .ok (.iadd, 1) := by decide +kernel
theorem dL_law_881 : decode cL_law 881 = .ok (.iaload, 1) := by decide +kernel
theorem dL_law_882 : decode cL_law 882 = .ok (.aload_n 0, 1) := by decide +kernel
theorem dL_law_883 : decode cL_law 883 = .ok (.iload_n 3, 1) := by decide +kernel
theorem dL_law_884 : decode cL_law 884 = .ok (.iconst 3, 1) := by decide +kernel
theorem dL_law_885 : decode cL_law 885 = .ok (.iadd, 1) := by decide +kernel
theorem dL_law_886 : decode cL_law 886 = .ok (.iaload, 1) := by decide +kernel
theorem dL_law_887 : decode cL_law 887 = .ok (.invokevirtual 103, 3) := by decide +kernel
theorem dL_law_890 : decode cL_law 890 = .ok (.aload_n 2, 1) := by decide +kernel
theorem dL_law_891 : decode cL_law 891 = .ok (.aload_n 0, 1) := by decide +kernel
theorem dL_law_892 : decode cL_law 892 = .ok (.iload_n 3, 1) := by decide +kernel
theorem dL_law_893 : decode cL_law 893 = .ok (.iconst 1, 1) := by decide +kernel
theorem dL_law_894 : decode cL_law 894 = .ok (.iadd, 1) := by decide +kernel
theorem dL_law_895 : decode cL_law 895 = .ok (.iaload, 1) := by decide +kernel
theorem dL_law_896 : decode cL_law 896 = .ok (.aload_n 0, 1) := by decide +kernel
theorem dL_law_897 : decode cL_law 897 = .ok (.iload_n 3, 1) := by decide +kernel
theorem dL_law_898 : decode cL_law 898 = .ok (.iconst 2, 1) := by decide +kernel
theorem dL_law_899 : decode cL_law 899 = .ok (.iadd, 1) := by decide +kernel
theorem dL_law_900 : decode cL_law 900 = .ok (.iaload, 1) := by decide +kernel
theorem dL_law_901 : decode cL_law 901 = .ok (.aload_n 0, 1) := by decide +kernel
theorem dL_law_902 : decode cL_law 902 = .ok (.iload_n 3, 1) := by decide +kernel
theorem dL_law_903 : decode cL_law 903 = .ok (.iconst 3, 1) := by decide +kernel
theorem dL_law_904 : decode cL_law 904 = .ok (.iadd, 1) := by decide +kernel
theorem dL_law_905 : decode cL_law 905 = .ok (.iaload, 1) := by decide +kernel
theorem dL_law_906 : decode cL_law 906 = .ok (.invokevirtual 106, 3) := by decide +kernel
theorem dL_law_909 : decode cL_law 909 = .ok (.if_icmp .eq 640, 3) := by decide +kernel
theorem dL_law_912 : decode cL_law 912 = .ok (.iconst 0, 1) := by decide +kernel
theorem dL_law_913 : decode cL_law 913 = .ok (.ireturn, 1) := by decide +kernel
theorem dL_law_914 : decode cL_law 914 = .ok (.aload_n 1, 1) := by decide +kernel
theorem dL_law_915 : decode cL_law 915 = .ok (.aload_n 0, 1) := by decide +kernel
theorem dL_law_916 : decode cL_law 916 = .ok (.iload_n 3, 1) := by decide +kernel
theorem dL_law_917 : decode cL_law 917 = .ok (.iconst 1, 1) := by decide +kernel
theorem dL_law_918 : decode cL_law 918 = .ok (.iadd, 1) := by decide +kernel
theorem dL_law_919 : decode cL_law 919 = .ok (.iaload, 1) := by decide +kernel
theorem dL_law_920 : decode cL_law 920 = .ok (.aload_n 0, 1) := by decide +kernel
theorem dL_law_921 : decode cL_law 921 = .ok (.iload_n 3, 1) := by decide +kernel
theorem dL_law_922 : decode cL_law 922 = .ok (.iconst 2, 1) := by decide +kernel
theorem dL_law_923 : decode cL_law 923 = .ok (.iadd, 1) := by decide +kernel
theorem dL_law_924 : decode cL_law 924 = .ok (.iaload, 1) := by decide +kernel
theorem dL_law_925 : decode cL_law 925 = .ok (.invokevirtual 107, 3) := by decide +kernel
theorem dL_law_928 : decode cL_law 928 = .ok (.aload_n 2, 1) := by decide +kernel
theorem dL_law_929 : decode cL_law 929 = .ok (.aload_n 0, 1) := by decide +kernel
theorem dL_law_930 : decode cL_law 930 = .ok (.iload_n 3, 1) := by decide +kernel
theorem dL_law_931 : decode cL_law 931 = .ok (.iconst 1, 1) := by decide +kernel
theorem dL_law_932 : decode cL_law 932 = .ok (.iadd, 1) := by decide +kernel
theorem dL_law_933 : decode cL_law 933 = .ok (.iaload, 1) := by decide +kernel
theorem dL_law_934 : decode cL_law 934 = .ok (.aload_n 0, 1) := by decide +kernel
theorem dL_law_935 : decode cL_law 935 = .ok (.iload_n 3, 1) := by decide +kernel
theorem dL_law_936 : decode cL_law 936 = .ok (.iconst 2, 1) := by decide +kernel
theorem dL_law_937 : decode cL_law 937 = .ok (.iadd, 1) := by decide +kernel
theorem dL_law_938 : decode cL_law 938 = .ok (.iaload, 1) := by decide +kernel
theorem dL_law_939 : decode cL_law 939 = .ok (.invokevirtual 110, 3) := by decide +kernel
theorem dL_law_942 : decode cL_law 942 = .ok (.if_icmp .eq 607, 3) := by decide +kernel
theorem dL_law_945 : decode cL_law 945 = .ok (.iconst 0, 1) := by decide +kernel
theorem dL_law_946 : decode cL_law 946 = .ok (.ireturn, 1) := by decide +kernel
theorem dL_law_947 : decode cL_law 947 = .ok (.aload_n 1, 1) := by decide +kernel
theorem dL_law_948 : decode cL_law 948 = .ok (.aload_n 0, 1) := by decide +kernel
theorem dL_law_949 : decode cL_law 949 = .ok (.iload_n 3, 1) := by decide +kernel
theorem dL_law_950 : decode cL_law 950 = .ok (.iconst 1, 1) := by decide +kernel
theorem dL_law_951 : decode cL_law 951 = .ok (.iadd, 1) := by decide +kernel
theorem dL_law_952 : decode cL_law 952 = .ok (.iaload, 1) := by decide +kernel
theorem dL_law_953 : decode cL_law 953 = .ok (.aload_n 0, 1) := by decide +kernel
theorem dL_law_954 : decode cL_law 954 = .ok (.iload_n 3, 1) := by decide +kernel
theorem dL_law_955 : decode cL_law 955 = .ok (.iconst 2, 1) := by decide +kernel
theorem dL_law_956 : decode cL_law 956 = .ok (.iadd, 1) := by decide +kernel
theorem dL_law_957 : decode cL_law 957 = .ok (.iaload, 1) := by decide +kernel
theorem dL_law_958 : decode cL_law 958 = .ok (.aload_n 0, 1) := by decide +kernel
theorem dL_law_959 : decode cL_law 959 = .ok (.iload_n 3, 1) := by decide +kernel
theorem dL_law_960 : decode cL_law 960 = .ok (.iconst 3, 1) := by decide +kernel
theorem dL_law_961 : decode cL_law 961 = .ok (.iadd, 1) := by decide +kernel
theorem dL_law_962 : decode cL_law 962 = .ok (.iaload, 1) := by decide +kernel
theorem dL_law_963 : decode cL_law 963 = .ok (.aload_n 0, 1) := by decide +kernel
theorem dL_law_964 : decode cL_law 964 = .ok (.iload_n 3, 1) := by decide +kernel
theorem dL_law_965 : decode cL_law 965 = .ok (.iconst 4, 1) := by decide +kernel
theorem dL_law_966 : decode cL_law 966 = .ok (.iadd, 1) := by decide +kernel
theorem dL_law_967 : decode cL_law 967 = .ok (.iaload, 1) := by decide +kernel
theorem dL_law_968 : decode cL_law 968 = .ok (.aload_n 0, 1) := by decide +kernel
theorem dL_law_969 : decode cL_law 969 = .ok (.iload_n 3, 1) := by decide +kernel
theorem dL_law_970 : decode cL_law 970 = .ok (.iconst 5, 1) := by decide +kernel
theorem dL_law_971 : decode cL_law 971 = .ok (.iadd, 1) := by decide +kernel
theorem dL_law_972 : decode cL_law 972 = .ok (.iaload, 1) := by decide +kernel
theorem dL_law_973 : decode cL_law 973 = .ok (.invokevirtual 111, 3) := by decide +kernel
theorem dL_law_976 : decode cL_law 976 = .ok (.aload_n 2, 1) := by decide +kernel
theorem dL_law_977 : decode cL_law 977 = .ok (.aload_n 0, 1) := by decide +kernel
theorem dL_law_978 : decode cL_law 978 = .ok (.iload_n 3, 1) := by decide +kernel
theorem dL_law_979 : decode cL_law 979 = .ok (.iconst 1, 1) := by decide +kernel
theorem dL_law_980 : decode cL_law 980 = .ok (.iadd, 1) := by decide +kernel
theorem dL_law_981 : decode cL_law 981 = .ok (.iaload, 1) := by decide +kernel
theorem dL_law_982 : decode cL_law 982 = .ok (.aload_n 0, 1) := by decide +kernel
theorem dL_law_983 : decode cL_law 983 = .ok (.iload_n 3, 1) := by decide +kernel
theorem dL_law_984 : decode cL_law 984 = .ok (.iconst 2, 1) := by decide +kernel
theorem dL_law_985 : decode cL_law 985 = .ok (.iadd, 1) := by decide +kernel
theorem dL_law_986 : decode cL_law 986 = .ok (.iaload, 1) := by decide +kernel
theorem dL_law_987 : decode cL_law 987 = .ok (.aload_n 0, 1) := by decide +kernel
theorem dL_law_988 : decode cL_law 988 = .ok (.iload_n 3, 1) := by decide +kernel
theorem dL_law_989 : decode cL_law 989 = .ok (.iconst 3, 1) := by decide +kernel
theorem dL_law_990 : decode cL_law 990 = .ok (.iadd, 1) := by decide +kernel
theorem dL_law_991 : decode cL_law 991 = .ok (.iaload, 1) := by decide +kernel
theorem dL_law_992 : decode cL_law 992 = .ok (.aload_n 0, 1) := by decide +kernel
theorem dL_law_993 : decode cL_law 993 = .ok (.iload_n 3, 1) := by decide +kernel
theorem dL_law_994 : decode cL_law 994 = .ok (.iconst 4, 1) := by decide +kernel
theorem dL_law_995 : decode cL_law 995 = .ok (.iadd, 1) := by decide +kernel
theorem dL_law_996 : decode cL_law 996 = .ok (.iaload, 1) := by decide +kernel
theorem dL_law_997 : decode cL_law 997 = .ok (.aload_n 0, 1) := by decide +kernel
theorem dL_law_998 : decode cL_law 998 = .ok (.iload_n 3, 1) := by decide +kernel
theorem dL_law_999 : decode cL_law 999 = .ok (.iconst 5, 1) := by decide +kernel
theorem dL_law_1000 : decode cL_law 1000 = .ok (.iadd, 1) := by decide +kernel
theorem dL_law_1001 : decode cL_law 1001 = .ok (.iaload, 1) := by decide +kernel
theorem dL_law_1002 : decode cL_law 1002 = .ok (.invokevirtual 114, 3) := by decide +kernel
theorem dL_law_1005 : decode cL_law 1005 = .ok (.if_icmp .eq 544, 3) := by decide +kernel
theorem dL_law_1008 : decode cL_law 1008 = .ok (.iconst 0, 1) := by decide +kernel
theorem dL_law_1009 : decode cL_law 1009 = .ok (.ireturn, 1) := by decide +kernel
theorem dL_law_1010 : decode cL_law 1010 = .ok (.aload_n 1, 1) := by decide +kernel
theorem dL_law_1011 : decode cL_law 1011 = .ok (.aload_n 0, 1) := by decide +kernel
theorem dL_law_1012 : decode cL_law 1012 = .ok (.iload_n 3, 1) := by decide +kernel
theorem dL_law_1013 : decode cL_law 1013 = .ok (.iconst 1, 1) := by decide +kernel
theorem dL_law_1014 : decode cL_law 1014 = .ok (.iadd, 1) := by decide +kernel
theorem dL_law_1015 : decode cL_law 1015 = .ok (.iaload, 1) := by decide +kernel
theorem dL_law_1016 : decode cL_law 1016 = .ok (.aload_n 0, 1) := by decide +kernel
theorem dL_law_1017 : decode cL_law 1017 = .ok (.iload_n 3, 1) := by decide +kernel
theorem dL_law_1018 : decode cL_law 1018 = .ok (.iconst 2, 1) := by decide +kernel
theorem dL_law_1019 : decode cL_law 1019 = .ok (.iadd, 1) := by decide +kernel
theorem dL_law_1020 : decode cL_law 1020 = .ok (.iaload, 1) := by decide +kernel
theorem dL_law_1021 : decode cL_law 1021 = .ok (.aload_n 0, 1) := by decide +kernel
theorem dL_law_1022 : decode cL_law 1022 = .ok (.iload_n 3, 1) := by decide +kernel
theorem dL_law_1023 : decode cL_law 1023 = .ok (.iconst 3, 1) := by decide +kernel
theorem dL_law_1024 : decode cL_law 1024 = .ok (.iadd, 1) := by decide +kernel
theorem dL_law_1025 : decode cL_law 1025 = .ok (.iaload, 1) := by decide +kernel
theorem dL_law_1026 : decode cL_law 1026 = .ok (.aload_n 0, 1) := by decide +kernel
theorem dL_law_1027 : decode cL_law 1027 = .ok (.iload_n 3, 1) := by decide +kernel
theorem dL_law_1028 : decode cL_law 1028 = .ok (.iconst 4, 1) := by decide +kernel
theorem dL_law_1029 : decode cL_law 1029 = .ok (.iadd, 1) := by decide +kernel
theorem dL_law_1030 : decode cL_law 1030 = .ok (.iaload, 1) := by decide +kernel
theorem dL_law_1031 : decode cL_law 1031 = .ok (.aload_n 0, 1) := by decide +kernel
theorem dL_law_1032 : decode cL_law 1032 = .ok (.iload_n 3, 1) := by decide +kernel
theorem dL_law_1033 : decode cL_law 1033 = .ok (.iconst 5, 1) := by decide +kernel
theorem dL_law_1034 : decode cL_law 1034 = .ok (.iadd, 1) := by decide +kernel
theorem dL_law_1035 : decode cL_law 1035 = .ok (.iaload, 1) := by decide +kernel
theorem dL_law_1036 : decode cL_law 1036 = .ok (.invokevirtual 115, 3) := by decide +kernel
theorem dL_law_1039 : decode cL_law 1039 = .ok (.aload_n 2, 1) := by decide +kernel
theorem dL_law_1040 : decode cL_law 1040 = .ok (.aload_n 0, 1) := by decide +kernel
theorem dL_law_1041 : decode cL_law 1041 = .ok (.iload_n 3, 1) := by decide +kernel
theorem dL_law_1042 : decode cL_law 1042 = .ok (.iconst 1, 1) := by decide +kernel
theorem dL_law_1043 : decode cL_law 1043 = .ok (.iadd, 1) := by decide +kernel
theorem dL_law_1044 : decode cL_law 1044 = .ok (.iaload, 1) := by decide +kernel
theorem dL_law_1045 : decode cL_law 1045 = .ok (.aload_n 0, 1) := by decide +kernel
theorem dL_law_1046 : decode cL_law 1046 = .ok (.iload_n 3, 1) := by decide +kernel
theorem dL_law_1047 : decode cL_law 1047 = .ok (.iconst 2, 1) := by decide +kernel
theorem dL_law_1048 : decode cL_law 1048 = .ok (.iadd, 1) := by decide +kernel
theorem dL_law_1049 : decode cL_law 1049 = .ok (.iaload, 1) := by decide +kernel
theorem dL_law_1050 : decode cL_law 1050 = .ok (.aload_n 0, 1) := by decide +kernel
theorem dL_law_1051 : decode cL_law 1051 = .ok (.iload_n 3, 1) := by decide +kernel
theorem dL_law_1052 : decode cL_law 1052 = .ok (.iconst 3, 1) := by decide +kernel
theorem dL_law_1053 : decode cL_law 1053 = .ok (.iadd, 1) := by decide +kernel
theorem dL_law_1054 : decode cL_law 1054 = .ok (.iaload, 1) := by decide +kernel
theorem dL_law_1055 : decode cL_law 1055 = .ok (.aload_n 0, 1) := by decide +kernel
theorem dL_law_1056 : decode cL_law 1056 = .ok (.iload_n 3, 1) := by decide +kernel
theorem dL_law_1057 : decode cL_law 1057 = .ok (.iconst 4, 1) := by decide +kernel
theorem dL_law_1058 : decode cL_law 1058 = .ok (.iadd, 1) := by decide +kernel
theorem dL_law_1059 : decode cL_law 1059 = .ok (.iaload, 1) := by decide +kernel
theorem dL_law_1060 : decode cL_law 1060 = .ok (.aload_n 0, 1) := by decide +kernel
theorem dL_law_1061 : decode cL_law 1061 = .ok (.iload_n 3, 1) := by decide +kernel
theorem dL_law_1062 : decode cL_law 1062 = .ok (.iconst 5, 1) := by decide +kernel
theorem dL_law_1063 : decode cL_law 1063 = .ok (.iadd, 1) := by decide +kernel
theorem dL_law_1064 : decode cL_law 1064 = .ok (.iaload, 1) := by decide +kernel
theorem dL_law_1065 : decode cL_law 1065 = .ok (.invokevirtual 118, 3) := by decide +kernel
theorem dL_law_1068 : decode cL_law 1068 = .ok (.if_icmp .eq 481, 3) := by decide +kernel
theorem dL_law_1071 : decode cL_law 1071 = .ok (.iconst 0, 1) := by decide +kernel
theorem dL_law_1072 : decode cL_law 1072 = .ok (.ireturn, 1) := by decide +kernel
theorem dL_law_1073 : decode cL_law 1073 = .ok (.aload_n 1, 1) := by decide +kernel
theorem dL_law_1074 : decode cL_law 1074 = .ok (.aload_n 0, 1) := by decide +kernel
theorem dL_law_1075 : decode cL_law 1075 = .ok (.iload_n 3, 1) := by decide +kernel
theorem dL_law_1076 : decode cL_law 1076 = .ok (.iconst 1, 1) := by decide +kernel
theorem dL_law_1077 : decode cL_law 1077 = .ok (.iadd, 1) := by decide +kernel
theorem dL_law_1078 : decode cL_law 1078 = .ok (.iaload, 1) := by decide +kernel
theorem dL_law_1079 : decode cL_law 1079 = .ok (.aload_n 0, 1) := by decide +kernel
theorem dL_law_1080 : decode cL_law 1080 = .ok (.iload_n 3, 1) := by decide +kernel
theorem dL_law_1081 : decode cL_law 1081 = .ok (.iconst 2, 1) := by decide +kernel
theorem dL_law_1082 : decode cL_law 1082 = .ok (.iadd, 1) := by decide +kernel
theorem dL_law_1083 : decode cL_law 1083 = .ok (.iaload, 1) := by decide +kernel
theorem dL_law_1084 : decode cL_law 1084 = .ok (.aload_n 0, 1) := by decide +kernel
theorem dL_law_1085 : decode cL_law 1085 = .ok (.iload_n 3, 1) := by decide +kernel
theorem dL_law_1086 : decode cL_law 1086 = .ok (.iconst 3, 1) := by decide +kernel
theorem dL_law_1087 : decode cL_law 1087 = .ok (.iadd, 1) := by decide +kernel
theorem dL_law_1088 : decode cL_law 1088 = .ok (.iaload, 1) := by decide +kernel
theorem dL_law_1089 : decode cL_law 1089 = .ok (.aload_n 0, 1) := by decide +kernel
theorem dL_law_1090 : decode cL_law 1090 = .ok (.iload_n 3, 1) := by decide +kernel
theorem dL_law_1091 : decode cL_law 1091 = .ok (.iconst 4, 1) := by decide +kernel
theorem dL_law_1092 : decode cL_law 1092 = .ok (.iadd, 1) := by decide +kernel
theorem dL_law_1093 : decode cL_law 1093 = .ok (.iaload, 1) := by decide +kernel
theorem dL_law_1094 : decode cL_law 1094 = .ok (.aload_n 0, 1) := by decide +kernel
theorem dL_law_1095 : decode cL_law 1095 = .ok (.iload_n 3, 1) := by decide +kernel
theorem dL_law_1096 : decode cL_law 1096 = .ok (.iconst 5, 1) := by decide +kernel
theorem dL_law_1097 : decode cL_law 1097 = .ok (.iadd, 1) := by decide +kernel
theorem dL_law_1098 : decode cL_law 1098 = .ok (.iaload, 1) := by decide +kernel
theorem dL_law_1099 : decode cL_law 1099 = .ok (.invokevirtual 119, 3) := by decide +kernel
theorem dL_law_1102 : decode cL_law 1102 = .ok (.aload_n 2, 1) := by decide +kernel
theorem dL_law_1103 : decode cL_law 1103 = .ok (.aload_n 0, 1) := by decide +kernel
theorem dL_law_1104 : decode cL_law 1104 = .ok (.iload_n 3, 1) := by decide +kernel
theorem dL_law_1105 : decode cL_law 1105 = .ok (.iconst 1, 1) := by decide +kernel
theorem dL_law_1106 : decode cL_law 1106 = .ok (.iadd, 1) := by decide +kernel
theorem dL_law_1107 : decode cL_law 1107 = .ok (.iaload, 1) := by decide +kernel
theorem dL_law_1108 : decode cL_law 1108 = .ok (.aload_n 0, 1) := by decide +kernel
theorem dL_law_1109 : decode cL_law 1109 = .ok (.iload_n 3, 1) := by decide +kernel
theorem dL_law_1110 : decode cL_law 1110 = .ok (.iconst 2, 1) := by decide +kernel
theorem dL_law_1111 : decode cL_law 1111 = .ok (.iadd, 1) := by decide +kernel
theorem dL_law_1112 : decode cL_law 1112 = .ok (.iaload, 1) := by decide +kernel
theorem dL_law_1113 : decode cL_law 1113 = .ok (.aload_n 0, 1) := by decide +kernel
theorem dL_law_1114 : decode cL_law 1114 = .ok (.iload_n 3, 1) := by decide +kernel
theorem dL_law_1115 : decode cL_law 1115 = .ok (.iconst 3, 1) := by decide +kernel
theorem dL_law_1116 : decode cL_law 1116 = .ok (.iadd, 1) := by decide +kernel
theorem dL_law_1117 : decode cL_law 1117 = .ok (.iaload, 1) := by decide +kernel
theorem dL_law_1118 : decode cL_law 1118 = .ok (.aload_n 0, 1) := by decide +kernel
theorem dL_law_1119 : decode cL_law 1119 = .ok (.iload_n 3, 1) := by decide +kernel
theorem dL_law_1120 : decode cL_law 1120 = .ok (.iconst 4, 1) := by decide +kernel
theorem dL_law_1121 : decode cL_law 1121 = .ok (.iadd, 1) := by decide +kernel
theorem dL_law_1122 : decode cL_law 1122 = .ok (.iaload, 1) := by decide +kernel
theorem dL_law_1123 : decode cL_law 1123 = .ok (.aload_n 0, 1) := by decide +kernel
theorem dL_law_1124 : decode cL_law 1124 = .ok (.iload_n 3, 1) := by decide +kernel
theorem dL_law_1125 : decode cL_law 1125 = .ok (.iconst 5, 1) := by decide +kernel
theorem dL_law_1126 : decode cL_law 1126 = .ok (.iadd, 1) := by decide +kernel
theorem dL_law_1127 : decode cL_law 1127 = .ok (.iaload, 1) := by decide +kernel
theorem dL_law_1128 : decode cL_law 1128 = .ok (.invokevirtual 122, 3) := by decide +kernel
theorem dL_law_1131 : decode cL_law 1131 = .ok (.if_icmp .eq 418, 3) := by decide +kernel
theorem dL_law_1134 : decode cL_law 1134 = .ok (.iconst 0, 1) := by decide +kernel
theorem dL_law_1135 : decode cL_law 1135 = .ok (.ireturn, 1) := by decide +kernel
theorem dL_law_1136 : decode cL_law 1136 = .ok (.aload_n 1, 1) := by decide +kernel
theorem dL_law_1137 : decode cL_law 1137 = .ok (.aload_n 0, 1) := by decide +kernel
theorem dL_law_1138 : decode cL_law 1138 = .ok (.iload_n 3, 1) := by decide +kernel
theorem dL_law_1139 : decode cL_law 1139 = .ok (.iconst 1, 1) := by decide +kernel
theorem dL_law_1140 : decode cL_law 1140 = .ok (.iadd, 1) := by decide +kernel
theorem dL_law_1141 : decode cL_law 1141 = .ok (.iaload, 1) := by decide +kernel
theorem dL_law_1142 : decode cL_law 1142 = .ok (.aload_n 0, 1) := by decide +kernel
theorem dL_law_1143 : decode cL_law 1143 = .ok (.iload_n 3, 1) := by decide +kernel
theorem dL_law_1144 : decode cL_law 1144 = .ok (.iconst 2, 1) := by decide +kernel
theorem dL_law_1145 : decode cL_law 1145 = .ok (.iadd, 1) := by decide +kernel
theorem dL_law_1146 : decode cL_law 1146 = .ok (.iaload, 1) := by decide +kernel
theorem dL_law_1147 : decode cL_law 1147 = .ok (.aload_n 0, 1) := by decide +kernel
theorem dL_law_1148 : decode cL_law 1148 = .ok (.iload_n 3, 1) := by decide +kernel
theorem dL_law_1149 : decode cL_law 1149 = .ok (.iconst 3, 1) := by decide +kernel
theorem dL_law_1150 : decode cL_law 1150 = .ok (.iadd, 1) := by decide +kernel
theorem dL_law_1151 : decode cL_law 1151 = .ok (.iaload, 1) := by decide +kernel
theorem dL_law_1152 : decode cL_law 1152 = .ok (.aload_n 0, 1) := by decide +kernel
theorem dL_law_1153 : decode cL_law 1153 = .ok (.iload_n 3, 1) := by decide +kernel
theorem dL_law_1154 : decode cL_law 1154 = .ok (.iconst 4, 1) := by decide +kernel
theorem dL_law_1155 : decode cL_law 1155 = .ok (.iadd, 1) := by decide +kernel
theorem dL_law_1156 : decode cL_law 1156 = .ok (.iaload, 1) := by decide +kernel
theorem dL_law_1157 : decode cL_law 1157 = .ok (.invokevirtual 123, 3) := by decide +kernel
theorem dL_law_1160 : decode cL_law 1160 = .ok (.aload_n 2, 1) := by decide +kernel
theorem dL_law_1161 : decode cL_law 1161 = .ok (.aload_n 0, 1) := by decide +kernel
theorem dL_law_1162 : decode cL_law 1162 = .ok (.iload_n 3, 1) := by decide +kernel
theorem dL_law_1163 : decode cL_law 1163 = .ok (.iconst 1, 1) := by decide +kernel
theorem dL_law_1164 : decode cL_law 1164 = .ok (.iadd, 1) := by decide +kernel
theorem dL_law_1165 : decode cL_law 1165 = .ok (.iaload, 1) := by decide +kernel
theorem dL_law_1166 : decode cL_law 1166 = .ok (.aload_n 0, 1) := by decide +kernel
theorem dL_law_1167 : decode cL_law 1167 = .ok (.iload_n 3, 1) := by decide +kernel
theorem dL_law_1168 : decode cL_law 1168 = .ok (.iconst 2, 1) := by decide +kernel
theorem dL_law_1169 : decode cL_law 1169 = .ok (.iadd, 1) := by decide +kernel
theorem dL_law_1170 : decode cL_law 1170 = .ok (.iaload, 1) := by decide +kernel
theorem dL_law_1171 : decode cL_law 1171 = .ok (.aload_n 0, 1) := by decide +kernel
theorem dL_law_1172 : decode cL_law 1172 = .ok (.iload_n 3, 1) := by decide +kernel
theorem dL_law_1173 : decode cL_law 1173 = .ok (.iconst 3, 1) := by decide +kernel
theorem dL_law_1174 : decode cL_law 1174 = .ok (.iadd, 1) := by decide +kernel
theorem dL_law_1175 : decode cL_law 1175 = .ok (.iaload, 1) := by decide +kernel
theorem dL_law_1176 : decode cL_law 1176 = .ok (.aload_n 0, 1) := by decide +kernel
theorem dL_law_1177 : decode cL_law 1177 = .ok (.iload_n 3, 1) := by decide +kernel
theorem dL_law_1178 : decode cL_law 1178 = .ok (.iconst 4, 1) := by decide +kernel
theorem dL_law_1179 : decode cL_law 1179 = .ok (.iadd, 1) := by decide +kernel
theorem dL_law_1180 : decode cL_law 1180 = .ok (.iaload, 1) := by decide +kernel
theorem dL_law_1181 : decode cL_law 1181 = .ok (.invokevirtual 126, 3) := by decide +kernel
theorem dL_law_1184 : decode cL_law 1184 = .ok (.if_icmp .eq 365, 3) := by decide +kernel
theorem dL_law_1187 : decode cL_law 1187 = .ok (.iconst 0, 1) := by decide +kernel
theorem dL_law_1188 : decode cL_law 1188 = .ok (.ireturn, 1) := by decide +kernel
theorem dL_law_1189 : decode cL_law 1189 = .ok (.aload_n 1, 1) := by decide +kernel
theorem dL_law_1190 : decode cL_law 1190 = .ok (.aload_n 0, 1) := by decide +kernel
theorem dL_law_1191 : decode cL_law 1191 = .ok (.iload_n 3, 1) := by decide +kernel
theorem dL_law_1192 : decode cL_law 1192 = .ok (.iconst 1, 1) := by decide +kernel
theorem dL_law_1193 : decode cL_law 1193 = .ok (.iadd, 1) := by decide +kernel
theorem dL_law_1194 : decode cL_law 1194 = .ok (.iaload, 1) := by decide +kernel
theorem dL_law_1195 : decode cL_law 1195 = .ok (.invokevirtual 127, 3) := by decide +kernel
theorem dL_law_1198 : decode cL_law 1198 = .ok (.aload_n 2, 1) := by decide +kernel
theorem dL_law_1199 : decode cL_law 1199 = .ok (.aload_n 0, 1) := by decide +kernel
theorem dL_law_1200 : decode cL_law 1200 = .ok (.iload_n 3, 1) := by decide +kernel
theorem dL_law_1201 : decode cL_law 1201 = .ok (.iconst 1, 1) := by decide +kernel
theorem dL_law_1202 : decode cL_law 1202 = .ok (.iadd, 1) := by decide +kernel
theorem dL_law_1203 : decode cL_law 1203 = .ok (.iaload, 1) := by decide +kernel
theorem dL_law_1204 : decode cL_law 1204 = .ok (.invokevirtual 130, 3) := by decide +kernel
theorem dL_law_1207 : decode cL_law 1207 = .ok (.if_icmp .eq 342, 3) := by decide +kernel
theorem dL_law_1210 : decode cL_law 1210 = .ok (.iconst 0, 1) := by decide +kernel
theorem dL_law_1211 : decode cL_law 1211 = .ok (.ireturn, 1) := by decide +kernel
theorem dL_law_1212 : decode cL_law 1212 = .ok (.aload_n 1, 1) := by decide +kernel
theorem dL_law_1213 : decode cL_law 1213 = .ok (.aload_n 0, 1) := by decide +kernel
theorem dL_law_1214 : decode cL_law 1214 = .ok (.iload_n 3, 1) := by decide +kernel
theorem dL_law_1215 : decode cL_law 1215 = .ok (.iconst 1, 1) := by decide +kernel
theorem dL_law_1216 : decode cL_law 1216 = .ok (.iadd, 1) := by decide +kernel
theorem dL_law_1217 : decode cL_law 1217 = .ok (.iaload, 1) := by decide +kernel
theorem dL_law_1218 : decode cL_law 1218 = .ok (.aload_n 0, 1) := by decide +kernel
theorem dL_law_1219 : decode cL_law 1219 = .ok (.iload_n 3, 1) := by decide +kernel
theorem dL_law_1220 : decode cL_law 1220 = .ok (.iconst 2, 1) := by decide +kernel
theorem dL_law_1221 : decode cL_law 1221 = .ok (.iadd, 1) := by decide +kernel
theorem dL_law_1222 : decode cL_law 1222 = .ok (.iaload, 1) := by decide +kernel
theorem dL_law_1223 : decode cL_law 1223 = .ok (.invokevirtual 131, 3) := by decide +kernel
theorem dL_law_1226 : decode cL_law 1226 = .ok (.aload_n 2, 1) := by decide +kernel
theorem dL_law_1227 : decode cL_law 1227 = .ok (.aload_n 0, 1) := by decide +kernel
theorem dL_law_1228 : decode cL_law 1228 = .ok (.iload_n 3, 1) := by decide +kernel
theorem dL_law_1229 : decode cL_law 1229 = .ok (.iconst 1, 1) := by decide +kernel
theorem dL_law_1230 : decode cL_law 1230 = .ok (.iadd, 1) := by decide +kernel
theorem dL_law_1231 : decode cL_law 1231 = .ok (.iaload, 1) := by decide +kernel
theorem dL_law_1232 : decode cL_law 1232 = .ok (.aload_n 0, 1) := by decide +kernel
theorem dL_law_1233 : decode cL_law 1233 = .ok (.iload_n 3, 1) := by decide +kernel
theorem dL_law_1234 : decode cL_law 1234 = .ok (.iconst 2, 1) := by decide +kernel
theorem dL_law_1235 : decode cL_law 1235 = .ok (.iadd, 1) := by decide +kernel
theorem dL_law_1236 : decode cL_law 1236 = .ok (.iaload, 1) := by decide +kernel
theorem dL_law_1237 : decode cL_law 1237 = .ok (.invokevirtual 134, 3) := by decide +kernel
theorem dL_law_1240 : decode cL_law 1240 = .ok (.if_icmp .eq 309, 3) := by decide +kernel
theorem dL_law_1243 : decode cL_law 1243 = .ok (.iconst 0, 1) := by decide +kernel
theorem dL_law_1244 : decode cL_law 1244 = .ok (.ireturn, 1) := by decide +kernel
theorem dL_law_1245 : decode cL_law 1245 = .ok (.aload_n 1, 1) := by decide +kernel
theorem dL_law_1246 : decode cL_law 1246 = .ok (.invokevirtual 135, 3) := by decide +kernel
theorem dL_law_1249 : decode cL_law 1249 = .ok (.aload_n 2, 1) := by decide +kernel
theorem dL_law_1250 : decode cL_law 1250 = .ok (.invokevirtual 138, 3) := by decide +kernel
theorem dL_law_1253 : decode cL_law 1253 = .ok (.if_icmp .eq 296, 3) := by decide +kernel
theorem dL_law_1256 : decode cL_law 1256 = .ok (.iconst 0, 1) := by decide +kernel
theorem dL_law_1257 : decode cL_law 1257 = .ok (.ireturn, 1) := by decide +kernel
theorem dL_law_1258 : decode cL_law 1258 = .ok (.aload_n 1, 1) := by decide +kernel
theorem dL_law_1259 : decode cL_law 1259 = .ok (.aload_n 0, 1) := by decide +kernel
theorem dL_law_1260 : decode cL_law 1260 = .ok (.iload_n 3, 1) := by decide +kernel
theorem dL_law_1261 : decode cL_law 1261 = .ok (.iconst 1, 1) := by decide +kernel
theorem dL_law_1262 : decode cL_law 1262 = .ok (.iadd, 1) := by decide +kernel
theorem dL_law_1263 : decode cL_law 1263 = .ok (.iaload, 1) := by decide +kernel
theorem dL_law_1264 : decode cL_law 1264 = .ok (.aload_n 0, 1) := by decide +kernel
theorem dL_law_1265 : decode cL_law 1265 = .ok (.iload_n 3, 1) := by decide +kernel
theorem dL_law_1266 : decode cL_law 1266 = .ok (.iconst 2, 1) := by decide +kernel
theorem dL_law_1267 : decode cL_law 1267 = .ok (.iadd, 1) := by decide +kernel
theorem dL_law_1268 : decode cL_law 1268 = .ok (.iaload, 1) := by decide +kernel
theorem dL_law_1269 : decode cL_law 1269 = .ok (.aload_n 0, 1) := by decide +kernel
theorem dL_law_1270 : decode cL_law 1270 = .ok (.iload_n 3, 1) := by decide +kernel
theorem dL_law_1271 : decode cL_law 1271 = .ok (.iconst 3, 1) := by decide +kernel
theorem dL_law_1272 : decode cL_law 1272 = .ok (.iadd, 1) := by decide +kernel
theorem dL_law_1273 : decode cL_law 1273 = .ok (.iaload, 1) := by decide +kernel
theorem dL_law_1274 : decode cL_law 1274 = .ok (.aload_n 0, 1) := by decide +kernel
theorem dL_law_1275 : decode cL_law 1275 = .ok (.iload_n 3, 1) := by decide +kernel
theorem dL_law_1276 : decode cL_law 1276 = .ok (.iconst 4, 1) := by decide +kernel
theorem dL_law_1277 : decode cL_law 1277 = .ok (.iadd, 1) := by decide +kernel
theorem dL_law_1278 : decode cL_law 1278 = .ok (.iaload, 1) := by decide +kernel
theorem dL_law_1279 : decode cL_law 1279 = .ok (.invokevirtual 139, 3) := by decide +kernel
theorem dL_law_1282 : decode cL_law 1282 = .ok (.aload_n 2, 1) := by decide +kernel
theorem dL_law_1283 : decode cL_law 1283 = .ok (.aload_n 0, 1) := by decide +kernel
theorem dL_law_1284 : decode cL_law 1284 = .ok (.iload_n 3, 1) := by decide +kernel
theorem dL_law_1285 : decode cL_law 1285 = .ok (.iconst 1, 1) := by decide +kernel
theorem dL_law_1286 : decode cL_law 1286 = .ok (.iadd, 1) := by decide +kernel
theorem dL_law_1287 : decode cL_law 1287 = .ok (.iaload, 1) := by decide +kernel
theorem dL_law_1288 : decode cL_law 1288 = .ok (.aload_n 0, 1) := by decide +kernel
theorem dL_law_1289 : decode cL_law 1289 = .ok (.iload_n 3, 1) := by decide +kernel
theorem dL_law_1290 : decode cL_law 1290 = .ok (.iconst 2, 1) := by decide +kernel
theorem dL_law_1291 : decode cL_law 1291 = .ok (.iadd, 1) := by decide +kernel
theorem dL_law_1292 : decode cL_law 1292 = .ok (.iaload, 1) := by decide +kernel
theorem dL_law_1293 : decode cL_law 1293 = .ok (.aload_n 0, 1) := by decide +kernel
theorem dL_law_1294 : decode cL_law 1294 = .ok (.iload_n 3, 1) := by decide +kernel
theorem dL_law_1295 : decode cL_law 1295 = .ok (.iconst 3, 1) := by decide +kernel
theorem dL_law_1296 : decode cL_law 1296 = .ok (.iadd, 1) := by decide +kernel
theorem dL_law_1297 : decode cL_law 1297 = .ok (.iaload, 1) := by decide +kernel
theorem dL_law_1298 : decode cL_law 1298 = .ok (.aload_n 0, 1) := by decide +kernel
theorem dL_law_1299 : decode cL_law 1299 = .ok (.iload_n 3, 1) := by decide +kernel
theorem dL_law_1300 : decode cL_law 1300 = .ok (.iconst 4, 1) := by decide +kernel
theorem dL_law_1301 : decode cL_law 1301 = .ok (.iadd, 1) := by decide +kernel
theorem dL_law_1302 : decode cL_law 1302 = .ok (.iaload, 1) := by decide +kernel
theorem dL_law_1303 : decode cL_law 1303 = .ok (.invokevirtual 143, 3) := by decide +kernel
theorem dL_law_1306 : decode cL_law 1306 = .ok (.lcmp, 1) := by decide +kernel
theorem dL_law_1307 : decode cL_law 1307 = .ok (.ifCond .eq 242, 3) := by decide +kernel
theorem dL_law_1310 : decode cL_law 1310 = .ok (.iconst 0, 1) := by decide +kernel
theorem dL_law_1311 : decode cL_law 1311 = .ok (.ireturn, 1) := by decide +kernel
theorem dL_law_1312 : decode cL_law 1312 = .ok (.aload_n 1, 1) := by decide +kernel
theorem dL_law_1313 : decode cL_law 1313 = .ok (.aload_n 0, 1) := by decide +kernel
theorem dL_law_1314 : decode cL_law 1314 = .ok (.iload_n 3, 1) := by decide +kernel
theorem dL_law_1315 : decode cL_law 1315 = .ok (.iconst 1, 1) := by decide +kernel
theorem dL_law_1316 : decode cL_law 1316 = .ok (.iadd, 1) := by decide +kernel
theorem dL_law_1317 : decode cL_law 1317 = .ok (.iaload, 1) := by decide +kernel
theorem dL_law_1318 : decode cL_law 1318 = .ok (.aload_n 0, 1) := by decide +kernel
theorem dL_law_1319 : decode cL_law 1319 = .ok (.iload_n 3, 1) := by decide +kernel
theorem dL_law_1320 : decode cL_law 1320 = .ok (.iconst 2, 1) := by decide +kernel
theorem dL_law_1321 : decode cL_law 1321 = .ok (.iadd, 1) := by decide +kernel
theorem dL_law_1322 : decode cL_law 1322 = .ok (.iaload, 1) := by decide +kernel
theorem dL_law_1323 : decode cL_law 1323 = .ok (.aload_n 0, 1) := by decide +kernel
theorem dL_law_1324 : decode cL_law 1324 = .ok (.iload_n 3, 1) := by decide +kernel
theorem dL_law_1325 : decode cL_law 1325 = .ok (.iconst 3, 1) := by decide +kernel
theorem dL_law_1326 : decode cL_law 1326 = .ok (.iadd, 1) := by decide +kernel
theorem dL_law_1327 : decode cL_law 1327 = .ok (.iaload, 1) := by decide +kernel
theorem dL_law_1328 : decode cL_law 1328 = .ok (.invokevirtual 144, 3) := by decide +kernel
theorem dL_law_1331 : decode cL_law 1331 = .ok (.aload_n 2, 1) := by decide +kernel
theorem dL_law_1332 : decode cL_law 1332 = .ok (.aload_n 0, 1) := by decide +kernel
theorem dL_law_1333 : decode cL_law 1333 = .ok (.iload_n 3, 1) := by decide +kernel
theorem dL_law_1334 : decode cL_law 1334 = .ok (.iconst 1, 1) := by decide +kernel
theorem dL_law_1335 : decode cL_law 1335 = .ok (.iadd, 1) := by decide +kernel
theorem dL_law_1336 : decode cL_law 1336 = .ok (.iaload, 1) := by decide +kernel
theorem dL_law_1337 : decode cL_law 1337 = .ok (.aload_n 0, 1) := by decide +kernel
theorem dL_law_1338 : decode cL_law 1338 = .ok (.iload_n 3, 1) := by decide +kernel
theorem dL_law_1339 : decode cL_law 1339 = .ok (.iconst 2, 1) := by decide +kernel
theorem dL_law_1340 : decode cL_law 1340 = .ok (.iadd, 1) := by decide +kernel
theorem dL_law_1341 : decode cL_law 1341 = .ok (.iaload, 1) := by decide +kernel
theorem dL_law_1342 : decode cL_law 1342 = .ok (.aload_n 0, 1) := by decide +kernel
theorem dL_law_1343 : decode cL_law 1343 = .ok (.iload_n 3, 1) := by decide +kernel
theorem dL_law_1344 : decode cL_law 1344 = .ok (.iconst 3, 1) := by decide +kernel
theorem dL_law_1345 : decode cL_law 1345 = .ok (.iadd, 1) := by decide +kernel
theorem dL_law_1346 : decode cL_law 1346 = .ok (.iaload, 1) := by decide +kernel
theorem dL_law_1347 : decode cL_law 1347 = .ok (.invokevirtual 147, 3) := by decide +kernel
theorem dL_law_1350 : decode cL_law 1350 = .ok (.if_icmp .eq 199, 3) := by decide +kernel
theorem dL_law_1353 : decode cL_law 1353 = .ok (.iconst 0, 1) := by decide +kernel
theorem dL_law_1354 : decode cL_law 1354 = .ok (.ireturn, 1) := by decide +kernel
theorem dL_law_1355 : decode cL_law 1355 = .ok (.aload_n 1, 1) := by decide +kernel
theorem dL_law_1356 : decode cL_law 1356 = .ok (.aload_n 0, 1) := by decide +kernel
theorem dL_law_1357 : decode cL_law 1357 = .ok (.iload_n 3, 1) := by decide +kernel
theorem dL_law_1358 : decode cL_law 1358 = .ok (.iconst 1, 1) := by decide +kernel
theorem dL_law_1359 : decode cL_law 1359 = .ok (.iadd, 1) := by decide +kernel
theorem dL_law_1360 : decode cL_law 1360 = .ok (.iaload, 1) := by decide +kernel
theorem dL_law_1361 : decode cL_law 1361 = .ok (.invokevirtual 148, 3) := by decide +kernel
theorem dL_law_1364 : decode cL_law 1364 = .ok (.aload_n 2, 1) := by decide +kernel
theorem dL_law_1365 : decode cL_law 1365 = .ok (.aload_n 0, 1) := by decide +kernel
theorem dL_law_1366 : decode cL_law 1366 = .ok (.iload_n 3, 1) := by decide +kernel
theorem dL_law_1367 : decode cL_law 1367 = .ok (.iconst 1, 1) := by decide +kernel
theorem dL_law_1368 : decode cL_law 1368 = .ok (.iadd, 1) := by decide +kernel
theorem dL_law_1369 : decode cL_law 1369 = .ok (.iaload, 1) := by decide +kernel
theorem dL_law_1370 : decode cL_law 1370 = .ok (.invokevirtual 151, 3) := by decide +kernel
theorem dL_law_1373 : decode cL_law 1373 = .ok (.if_icmp .eq 176, 3) := by decide +kernel
theorem dL_law_1376 : decode cL_law 1376 = .ok (.iconst 0, 1) := by decide +kernel
theorem dL_law_1377 : decode cL_law 1377 = .ok (.ireturn, 1) := by decide +kernel
theorem dL_law_1378 : decode cL_law 1378 = .ok (.aload_n 1, 1) := by decide +kernel
theorem dL_law_1379 : decode cL_law 1379 = .ok (.aload_n 0, 1) := by decide +kernel
theorem dL_law_1380 : decode cL_law 1380 = .ok (.iload_n 3, 1) := by decide +kernel
theorem dL_law_1381 : decode cL_law 1381 = .ok (.iconst 1, 1) := by decide +kernel
theorem dL_law_1382 : decode cL_law 1382 = .ok (.iadd, 1) := by decide +kernel
theorem dL_law_1383 : decode cL_law 1383 = .ok (.iaload, 1) := by decide +kernel
theorem dL_law_1384 : decode cL_law 1384 = .ok (.invokevirtual 152, 3) := by decide +kernel
theorem dL_law_1387 : decode cL_law 1387 = .ok (.aload_n 2, 1) := by decide +kernel
theorem dL_law_1388 : decode cL_law 1388 = .ok (.aload_n 0, 1) := by decide +kernel
theorem dL_law_1389 : decode cL_law 1389 = .ok (.iload_n 3, 1) := by decide +kernel
theorem dL_law_1390 : decode cL_law 1390 = .ok (.iconst 1, 1) := by decide +kernel
theorem dL_law_1391 : decode cL_law 1391 = .ok (.iadd, 1) := by decide +kernel
theorem dL_law_1392 : decode cL_law 1392 = .ok (.iaload, 1) := by decide +kernel
theorem dL_law_1393 : decode cL_law 1393 = .ok (.invokevirtual 155, 3) := by decide +kernel
theorem dL_law_1396 : decode cL_law 1396 = .ok (.if_icmp .eq 153, 3) := by decide +kernel
theorem dL_law_1399 : decode cL_law 1399 = .ok (.iconst 0, 1) := by decide +kernel
theorem dL_law_1400 : decode cL_law 1400 = .ok (.ireturn, 1) := by decide +kernel
theorem dL_law_1401 : decode cL_law 1401 = .ok (.aload_n 1, 1) := by decide +kernel
theorem dL_law_1402 : decode cL_law 1402 = .ok (.aload_n 0, 1) := by decide +kernel
theorem dL_law_1403 : decode cL_law 1403 = .ok (.iload_n 3, 1) := by decide +kernel
theorem dL_law_1404 : decode cL_law 1404 = .ok (.iconst 1, 1) := by decide +kernel
theorem dL_law_1405 : decode cL_law 1405 = .ok (.iadd, 1) := by decide +kernel
theorem dL_law_1406 : decode cL_law 1406 = .ok (.iaload, 1) := by decide +kernel
theorem dL_law_1407 : decode cL_law 1407 = .ok (.invokevirtual 156, 3) := by decide +kernel
theorem dL_law_1410 : decode cL_law 1410 = .ok (.aload_n 2, 1) := by decide +kernel
theorem dL_law_1411 : decode cL_law 1411 = .ok (.aload_n 0, 1) := by decide +kernel
theorem dL_law_1412 : decode cL_law 1412 = .ok (.iload_n 3, 1) := by decide +kernel
theorem dL_law_1413 : decode cL_law 1413 = .ok (.iconst 1, 1) := by decide +kernel
theorem dL_law_1414 : decode cL_law 1414 = .ok (.iadd, 1) := by decide +kernel
theorem dL_law_1415 : decode cL_law 1415 = .ok (.iaload, 1) := by decide +kernel
theorem dL_law_1416 : decode cL_law 1416 = .ok (.invokevirtual 159, 3) := by decide +kernel
theorem dL_law_1419 : decode cL_law 1419 = .ok (.if_icmp .eq 130, 3) := by decide +kernel
theorem dL_law_1422 : decode cL_law 1422 = .ok (.iconst 0, 1) := by decide +kernel
theorem dL_law_1423 : decode cL_law 1423 = .ok (.ireturn, 1) := by decide +kernel
theorem dL_law_1424 : decode cL_law 1424 = .ok (.aload_n 1, 1) := by decide +kernel
theorem dL_law_1425 : decode cL_law 1425 = .ok (.aload_n 0, 1) := by decide +kernel
theorem dL_law_1426 : decode cL_law 1426 = .ok (.iload_n 3, 1) := by decide +kernel
theorem dL_law_1427 : decode cL_law 1427 = .ok (.iconst 1, 1) := by decide +kernel
theorem dL_law_1428 : decode cL_law 1428 = .ok (.iadd, 1) := by decide +kernel
theorem dL_law_1429 : decode cL_law 1429 = .ok (.iaload, 1) := by decide +kernel
theorem dL_law_1430 : decode cL_law 1430 = .ok (.aload_n 0, 1) := by decide +kernel
theorem dL_law_1431 : decode cL_law 1431 = .ok (.iload_n 3, 1) := by decide +kernel
theorem dL_law_1432 : decode cL_law 1432 = .ok (.iconst 2, 1) := by decide +kernel
theorem dL_law_1433 : decode cL_law 1433 = .ok (.iadd, 1) := by decide +kernel
theorem dL_law_1434 : decode cL_law 1434 = .ok (.iaload, 1) := by decide +kernel
theorem dL_law_1435 : decode cL_law 1435 = .ok (.invokevirtual 160, 3) := by decide +kernel
theorem dL_law_1438 : decode cL_law 1438 = .ok (.aload_n 2, 1) := by decide +kernel
theorem dL_law_1439 : decode cL_law 1439 = .ok (.aload_n 0, 1) := by decide +kernel
theorem dL_law_1440 : decode cL_law 1440 = .ok (.iload_n 3, 1) := by decide +kernel
theorem dL_law_1441 : decode cL_law 1441 = .ok (.iconst 1, 1) := by decide +kernel
theorem dL_law_1442 : decode cL_law 1442 = .ok (.iadd, 1) := by decide +kernel
theorem dL_law_1443 : decode cL_law 1443 = .ok (.iaload, 1) := by decide +kernel
theorem dL_law_1444 : decode cL_law 1444 = .ok (.aload_n 0, 1) := by decide +kernel
theorem dL_law_1445 : decode cL_law 1445 = .ok (.iload_n 3, 1) := by decide +kernel
theorem dL_law_1446 : decode cL_law 1446 = .ok (.iconst 2, 1) := by decide +kernel
theorem dL_law_1447 : decode cL_law 1447 = .ok (.iadd, 1) := by decide +kernel
theorem dL_law_1448 : decode cL_law 1448 = .ok (.iaload, 1) := by decide +kernel
theorem dL_law_1449 : decode cL_law 1449 = .ok (.invokevirtual 163, 3) := by decide +kernel
theorem dL_law_1452 : decode cL_law 1452 = .ok (.if_icmp .eq 97, 3) := by decide +kernel
theorem dL_law_1455 : decode cL_law 1455 = .ok (.iconst 0, 1) := by decide +kernel
theorem dL_law_1456 : decode cL_law 1456 = .ok (.ireturn, 1) := by decide +kernel
theorem dL_law_1457 : decode cL_law 1457 = .ok (.aload_n 1, 1) := by decide +kernel
theorem dL_law_1458 : decode cL_law 1458 = .ok (.aload_n 0, 1) := by decide +kernel
theorem dL_law_1459 : decode cL_law 1459 = .ok (.iload_n 3, 1) := by decide +kernel
theorem dL_law_1460 : decode cL_law 1460 = .ok (.iconst 1, 1) := by decide +kernel
theorem dL_law_1461 : decode cL_law 1461 = .ok (.iadd, 1) := by decide +kernel
theorem dL_law_1462 : decode cL_law 1462 = .ok (.iaload, 1) := by decide +kernel
theorem dL_law_1463 : decode cL_law 1463 = .ok (.aload_n 0, 1) := by decide +kernel
theorem dL_law_1464 : decode cL_law 1464 = .ok (.iload_n 3, 1) := by decide +kernel
theorem dL_law_1465 : decode cL_law 1465 = .ok (.iconst 2, 1) := by decide +kernel
theorem dL_law_1466 : decode cL_law 1466 = .ok (.iadd, 1) := by decide +kernel
theorem dL_law_1467 : decode cL_law 1467 = .ok (.iaload, 1) := by decide +kernel
theorem dL_law_1468 : decode cL_law 1468 = .ok (.invokevirtual 164, 3) := by decide +kernel
theorem dL_law_1471 : decode cL_law 1471 = .ok (.aload_n 2, 1) := by decide +kernel
theorem dL_law_1472 : decode cL_law 1472 = .ok (.aload_n 0, 1) := by decide +kernel
theorem dL_law_1473 : decode cL_law 1473 = .ok (.iload_n 3, 1) := by decide +kernel
theorem dL_law_1474 : decode cL_law 1474 = .ok (.iconst 1, 1) := by decide +kernel
theorem dL_law_1475 : decode cL_law 1475 = .ok (.iadd, 1) := by decide +kernel
theorem dL_law_1476 : decode cL_law 1476 = .ok (.iaload, 1) := by decide +kernel
theorem dL_law_1477 : decode cL_law 1477 = .ok (.aload_n 0, 1) := by decide +kernel
theorem dL_law_1478 : decode cL_law 1478 = .ok (.iload_n 3, 1) := by decide +kernel
theorem dL_law_1479 : decode cL_law 1479 = .ok (.iconst 2, 1) := by decide +kernel
theorem dL_law_1480 : decode cL_law 1480 = .ok (.iadd, 1) := by decide +kernel
theorem dL_law_1481 : decode cL_law 1481 = .ok (.iaload, 1) := by decide +kernel
theorem dL_law_1482 : decode cL_law 1482 = .ok (.invokevirtual 167, 3) := by decide +kernel
theorem dL_law_1485 : decode cL_law 1485 = .ok (.if_icmp .eq 64, 3) := by decide +kernel
theorem dL_law_1488 : decode cL_law 1488 = .ok (.iconst 0, 1) := by decide +kernel
theorem dL_law_1489 : decode cL_law 1489 = .ok (.ireturn, 1) := by decide +kernel
theorem dL_law_1490 : decode cL_law 1490 = .ok (.aload_n 1, 1) := by decide +kernel
theorem dL_law_1491 : decode cL_law 1491 = .ok (.aload_n 0, 1) := by decide +kernel
theorem dL_law_1492 : decode cL_law 1492 = .ok (.iload_n 3, 1) := by decide +kernel
theorem dL_law_1493 : decode cL_law 1493 = .ok (.iconst 1, 1) := by decide +kernel
theorem dL_law_1494 : decode cL_law 1494 = .ok (.iadd, 1) := by decide +kernel
theorem dL_law_1495 : decode cL_law 1495 = .ok (.iaload, 1) := by decide +kernel
theorem dL_law_1496 : decode cL_law 1496 = .ok (.invokevirtual 168, 3) := by decide +kernel
theorem dL_law_1499 : decode cL_law 1499 = .ok (.aload_n 2, 1) := by decide +kernel
theorem dL_law_1500 : decode cL_law 1500 = .ok (.aload_n 0, 1) := by decide +kernel
theorem dL_law_1501 : decode cL_law 1501 = .ok (.iload_n 3, 1) := by decide +kernel
theorem dL_law_1502 : decode cL_law 1502 = .ok (.iconst 1, 1) := by decide +kernel
theorem dL_law_1503 : decode cL_law 1503 = .ok (.iadd, 1) := by decide +kernel
theorem dL_law_1504 : decode cL_law 1504 = .ok (.iaload, 1) := by decide +kernel
theorem dL_law_1505 : decode cL_law 1505 = .ok (.invokevirtual 171, 3) := by decide +kernel
theorem dL_law_1508 : decode cL_law 1508 = .ok (.if_icmp .eq 41, 3) := by decide +kernel
theorem dL_law_1511 : decode cL_law 1511 = .ok (.iconst 0, 1) := by decide +kernel
theorem dL_law_1512 : decode cL_law 1512 = .ok (.ireturn, 1) := by decide +kernel
theorem dL_law_1513 : decode cL_law 1513 = .ok (.aload_n 1, 1) := by decide +kernel
theorem dL_law_1514 : decode cL_law 1514 = .ok (.aload_n 0, 1) := by decide +kernel
theorem dL_law_1515 : decode cL_law 1515 = .ok (.iload_n 3, 1) := by decide +kernel
theorem dL_law_1516 : decode cL_law 1516 = .ok (.iconst 1, 1) := by decide +kernel
theorem dL_law_1517 : decode cL_law 1517 = .ok (.iadd, 1) := by decide +kernel
theorem dL_law_1518 : decode cL_law 1518 = .ok (.iaload, 1) := by decide +kernel
theorem dL_law_1519 : decode cL_law 1519 = .ok (.invokevirtual 172, 3) := by decide +kernel
theorem dL_law_1522 : decode cL_law 1522 = .ok (.aload_n 2, 1) := by decide +kernel
theorem dL_law_1523 : decode cL_law 1523 = .ok (.aload_n 0, 1) := by decide +kernel
theorem dL_law_1524 : decode cL_law 1524 = .ok (.iload_n 3, 1) := by decide +kernel
theorem dL_law_1525 : decode cL_law 1525 = .ok (.iconst 1, 1) := by decide +kernel
theorem dL_law_1526 : decode cL_law 1526 = .ok (.iadd, 1) := by decide +kernel
theorem dL_law_1527 : decode cL_law 1527 = .ok (.iaload, 1) := by decide +kernel
theorem dL_law_1528 : decode cL_law 1528 = .ok (.invokevirtual 175, 3) := by decide +kernel
theorem dL_law_1531 : decode cL_law 1531 = .ok (.if_icmp .eq 18, 3) := by decide +kernel
theorem dL_law_1534 : decode cL_law 1534 = .ok (.iconst 0, 1) := by decide +kernel
theorem dL_law_1535 : decode cL_law 1535 = .ok (.ireturn, 1) := by decide +kernel
theorem dL_law_1536 : decode cL_law 1536 = .ok (.aload_n 1, 1) := by decide +kernel
theorem dL_law_1537 : decode cL_law 1537 = .ok (.invokevirtual 176, 3) := by decide +kernel
theorem dL_law_1540 : decode cL_law 1540 = .ok (.aload_n 2, 1) := by decide +kernel
theorem dL_law_1541 : decode cL_law 1541 = .ok (.invokevirtual 179, 3) := by decide +kernel
theorem dL_law_1544 : decode cL_law 1544 = .ok (.if_icmp .eq 5, 3) := by decide +kernel
theorem dL_law_1547 : decode cL_law 1547 = .ok (.iconst 0, 1) := by decide +kernel
theorem dL_law_1548 : decode cL_law 1548 = .ok (.ireturn, 1) := by decide +kernel
theorem dL_law_1549 : decode cL_law 1549 = .ok (.iinc 3 6, 3) := by decide +kernel
theorem dL_law_1552 : decode cL_law 1552 = .ok (.goto (-1534), 3) := by decide +kernel
theorem dL_law_1555 : decode cL_law 1555 = .ok (.iconst 1, 1) := by decide +kernel
theorem dL_law_1556 : decode cL_law 1556 = .ok (.ireturn, 1) := by decide +kernel
end
section
/-! ===== the words that every method takes: the tables' good ones ===== -/
def gt : List Cond := lw_tbl.filter goodWord
theorem gt_of {w : Cond} (h : w ∈ lw_tbl) (g : goodWord w = true) : w ∈ gt := List.mem_filter.mpr ⟨h, g⟩
theorem gt_good {w : Cond} (h : w ∈ gt) : goodWord w = true := (List.mem_filter.mp h).2
theorem gt_tb {w : Cond} (i : Nat) (h : tables_1[i]? = some w) (g : goodWord w = true) : w ∈ gt := gt_of (List.mem_append_right _ (List.mem_of_getElem? h)) g
theorem gt_pv {y : MethodName} (i n : Nat) (h : lw_privs[i]? = some (y, n)) (g : goodWord (Cond.selects y.cls y y) = true) : Cond.selects y.cls y y ∈ gt :=
  gt_of (List.mem_append_left _ (List.mem_map.mpr ⟨(y, n), List.mem_of_getElem? h, rfl⟩)) g
theorem gt_in {y : MethodName} {b : ByteArray} {n : Nat} {r : Option FieldType} (h : Cond.code y b n r ∈ gt) : GoodIn gt (Cond.code y b n r :: gt) := fun w hw => by
  rcases List.mem_cons.mp hw with rfl | h1
  · exact ⟨h, good_of_word (gt_good h)⟩
  · exact ⟨h1, good_of_word (gt_good h1)⟩
/-! ===== the layout: what each cell is ===== -/
abbrev PI : Type := Nat → Nat → Int32
/-- Town number k (0 the town, 1 the trial, 2, 3 the images, 4 .. 27 the acts): its object at j = 0, its arrays at j = 1 .. 8 -/
def tc (k j : Nat) : Nat := 9 * k + j
/-- Row number r: its object at j = 0, its items at 1 -/
def rc (r j : Nat) : Nat := 260 + 2 * r + j
def kq (i : Nat) : Nat × Nat :=
  if i < 252 then (if i % 9 = 0 then (3, 0) else if i % 9 = 7 then (6, 30) else if i % 9 = 1 then (6, 5) else if i % 9 = 2 then (6, 5) else if i % 9 = 8 then (6, 5) else (6, 6))
  else if i = 252 then (4, 0) else if i = 253 then (8, 8) else if i = 254 then (9, 2) else if i = 255 then (9, 24) else if i = 256 then (0, 0) else if i = 257 then (1, 0) else if i = 258 then (6, 120) else if i = 259 then (6, 16)
  else if i < 276 then (if i % 2 = 0 then (2, 0) else (6, 40))
  else if i = 276 then (5, 0) else if i = 277 then (6, 8) else if i = 278 then (6, 8) else if i = 279 then (6, 320) else if i = 280 then (6, 70) else if i = 281 then (6, 40) else if i = 282 then (6, 120) else if i = 283 then (6, 70)
  else if i = 284 then (6, 1680) else if i = 285 then (6, 70) else if i = 286 then (7, 2) else if i = 287 then (6, 140) else (6, 16)
def rq (i k : Nat) : Option Nat :=
  if i < 252 then some (i + 1 + k)
  else if i = 252 then (if k = 0 then some 253 else if k = 1 then some 257 else if k = 2 then some 256 else if k = 3 then some 0 else if k = 4 then some 9 else if k = 5 then some 254 else some 259)
  else if i = 253 then some (260 + 2 * k) else if i = 254 then some (18 + 9 * k) else if i = 255 then some (36 + 9 * k) else if i = 256 then some 255 else if i = 257 then some 258
  else if i < 276 then some (i + 1)
  else if k = 0 then some 277 else if k = 1 then some 278 else if k = 2 then some 279 else if k = 5 then some 280 else if k = 7 then some 281 else if k = 8 then some 282 else if k = 16 then some 283 else if k = 18 then some 284 else if k = 20 then some 285 else if k = 21 then some 286 else if k = 22 then some 287 else some 288
def nF (c : Nat) : Nat := if c = 0 then 3 else if c = 1 then 8 else if c = 2 then 4 else if c = 3 then 15 else if c = 4 then 10 else 25
def fR (c k : Nat) : Bool := if c = 3 then decide (k < 8) else if c = 4 then decide (k < 7) else if c = 5 then decide (k ∈ [0, 1, 2, 5, 7, 8, 16, 18, 20, 21, 22, 23]) else decide (k = 0)
/-- addresses, classes and slots, array classes (6 int, 7 boolean, 8 Row, 9 Town), the three static rows, what may change -/
abbrev XP : Type := (Nat → Nat) × va_G × (Nat → ClassId) × (Nat → Nat) × (Nat → Prop)
def fsO (X : XP) (σ : PI) (c i : Nat) : List Value := (List.range (nF c)).map (fun k => if fR c k then va_rf ((rq i k).map X.1) else .int (σ i k))
def ent (X : XP) (σ : PI) (i : Nat) : va_E :=
  if (kq i).1 < 6 then .inr ((kq i).1, fsO X σ (kq i).1 i)
  else if (kq i).1 < 8 then .inl (X.2.2.1 (kq i).1, (kq i).2, .inl (σ i))
  else .inl (X.2.2.1 (kq i).1, (kq i).2, .inr (.inr (.inr (.inr (fun j => (rq i j).map X.1)))))
def wl (X : XP) (σ : PI) : va_W := (List.range 289).map (fun i => (X.1 i, ent X σ i))
def up (σ : PI) (i k : Nat) (v : Int32) : PI := fun a => if a = i then upd (σ i) k v else σ a
def upA (σ : PI) (i : Nat) (f : Nat → Int32) : PI := fun a => if a = i then f else σ a
theorem wl_get {X : XP} {σ : PI} {i : Nat} (h : i < 289) : (wl X σ)[i]? = some (X.1 i, ent X σ i) := by
  simp [wl, List.getElem?_map, List.getElem?_range h]
theorem ent_cong {X : XP} {σ τ : PI} {i : Nat} (h : τ i = σ i) : ent X τ i = ent X σ i := by
  unfold ent fsO
  rw [h]
theorem wl_set {X : XP} {σ τ : PI} {i : Nat} {e : va_E} (hi : i < 289) (h : ∀ j, j ≠ i → τ j = σ j) (he : ent X τ i = e) : (wl X σ).set i (X.1 i, e) = wl X τ := by
  apply List.ext_getElem?
  intro j
  by_cases hj : j < 289
  · rw [wl_get hj]
    by_cases e1 : i = j
    · subst e1
      rw [List.getElem?_set_self (by simp [wl]; exact hi), he]
    · rw [List.getElem?_set_ne e1, wl_get hj, ent_cong (h j (fun q => e1 q.symm))]
  · rw [List.getElem?_eq_none (by simp [wl]; omega), List.getElem?_eq_none (by simp [wl]; omega)]
def tyX (X : XP) : List (ClassId × FieldType) := [(X.2.2.1 6, .int), (X.2.2.1 7, .boolean), (X.2.2.1 8, .object "LeftAlone$Row"), (X.2.2.1 9, .object "LeftAlone$Town")]
def nestW : List Cond := [.methodLinkNest "LeftAlone$Reader" 107 ⟨"LeftAlone", "within", "(III)Z"⟩ "LeftAlone", .methodLinkNest "LeftAlone$Town" 84 ⟨"LeftAlone", "bit", "(II)I"⟩ "LeftAlone"]
def sArr (n : Nat) : Nat → Int32 := fun j => if n = 0 then [-1, 0, 1, 1, 0, 4].getD j 0 else if n = 1 then [10, 11, 12, 0, 13, 14].getD j 0 else [20, 21, 24, 22, 23, 0].getD j 0
def sNm (n : Nat) : String := if n = 0 then "ABOVE" else if n = 1 then "SIZE_BODIES" else "MARK_BODIES"
def VK (X : XP) (U : State) : Prop := va_K X.2.1 vwCl (tyX X) U ∧ ∀ w ∈ nestW, va_Nw w U
def ST (X : XP) (U : State) (H : Heap) : Prop := ∀ n, n < 3 → va_Z "LeftAlone" (sNm n) "[I" (.ref (X.2.2.2.1 n)) X.2.2.2.2 U H ∧ va_T .int (X.2.2.2.1 n) 6 (fun j => .int (sArr n j)) X.2.2.2.2 U H
def AD (X : XP) : Prop := (∀ i j, i < 289 → j < 289 → X.1 i = X.1 j → i = j) ∧ ∀ i, i < 289 → X.2.2.2.2 (X.1 i)
def Wd (X : XP) (σ : PI) (U : State) : Prop := va_P X.2.1 vwCl (wl X σ) U.heap ∧ VK X U ∧ ST X U U.heap ∧ AD X
theorem AD.d {X : XP} (h : AD X) (σ : PI) : va_D X.2.2.2.2 (wl X σ) := by
  have key : ∀ (i : Nat) (p : Nat × va_E), (wl X σ)[i]? = some p → i < 289 ∧ p.1 = X.1 i := by
    intro i p hp
    by_cases hi : i < 289
    · rw [wl_get hi] at hp
      cases hp
      exact ⟨hi, rfl⟩
    · rw [List.getElem?_eq_none (by simp [wl]; omega)] at hp
      cases hp
  refine ⟨fun i j p q hp hq e => ?_, fun k q hq => ?_⟩
  · obtain ⟨h1, h2⟩ := key i p hp
    obtain ⟨h3, h4⟩ := key j q hq
    exact h.1 i j h1 h3 (by rw [← h2, ← h4]; exact e)
  · obtain ⟨h1, h2⟩ := key k q hq
    rw [h2]
    exact h.2 k h1
theorem va_Nw.warmW {w : Cond} (hw : w ∈ nestW) {s U : State} (hW : s.WarmedH U.vm) (h : va_Nw w s) : va_Nw w U := by
  simp only [nestW, List.mem_cons, List.not_mem_nil, or_false] at hw
  rcases hw with rfl | rfl <;> exact va_Nw.warmM hW h
theorem VK.warm {X : XP} {s U : State} (hW : s.WarmedH U.vm) (h : VK X s) : VK X U := ⟨va_K.moved hW.alike h.1, fun w hw => va_Nw.warmW hw hW (h.2 w hw)⟩
/-! ===== the locals ===== -/
def en : Nat → List (Option Value) → List (Nat × Value)
  | _, [] => []
  | i, none :: t => en (i + 1) t
  | i, some v :: t => (i, v) :: en (i + 1) t
def lg : List (Option Value) → Nat → Option Value
  | [], _ => none
  | x :: _, 0 => x
  | _ :: t, n + 1 => lg t n
theorem lg_en {v : Value} : ∀ (L : List (Option Value)) (i j : Nat), lg L i = some v → (j + i, v) ∈ en j L
  | [], i, j, h => by cases h
  | none :: t, 0, j, h => by cases h
  | some w :: t, 0, j, h => by
    cases h
    exact List.mem_cons_self
  | none :: t, i + 1, j, h => by
    have := lg_en t i (j + 1) h
    rw [show j + 1 + i = j + (i + 1) by omega] at this
    exact this
  | some w :: t, i + 1, j, h => by
    have := lg_en t i (j + 1) h
    rw [show j + 1 + i = j + (i + 1) by omega] at this
    exact List.mem_cons_of_mem _ this
theorem en_lg {v : Value} {q : Nat} : ∀ (L : List (Option Value)) (j : Nat), (q, v) ∈ en j L → j ≤ q ∧ lg L (q - j) = some v
  | [], j, h => by cases h
  | none :: t, j, h => by
    obtain ⟨h1, h2⟩ := en_lg t (j + 1) h
    refine ⟨by omega, ?_⟩
    rw [show q - j = (q - (j + 1)) + 1 by omega]
    exact h2
  | some w :: t, j, h => by
    rcases List.mem_cons.mp h with h | h
    · cases h
      refine ⟨Nat.le_refl _, ?_⟩
      rw [Nat.sub_self]
      rfl
    · obtain ⟨h1, h2⟩ := en_lg t (j + 1) h
      refine ⟨by omega, ?_⟩
      rw [show q - j = (q - (j + 1)) + 1 by omega]
      exact h2
theorem en_at {L : List (Option Value)} {i : Nat} {v : Value} {ls : Array Slot} {n : Nat} (h : lv_has ls n (en 0 L)) (hi : lg L i = some v) : ls[i]? = some (.val v) := by
  have := lg_en L i 0 hi
  rw [Nat.zero_add] at this
  exact h.2.2 _ this
def ls1 : List (Option Value) → Nat → Option Value → List (Option Value)
  | [], _, _ => []
  | _ :: t, 0, v => v :: t
  | x :: t, n + 1, v => x :: ls1 t n v
theorem lg_ls1 {v : Option Value} : ∀ (L : List (Option Value)) (i j : Nat) (w : Value), lg (ls1 L i v) j = some w → (j = i ∧ v = some w) ∨ (j ≠ i ∧ lg L j = some w)
  | [], i, j, w, h => by cases h
  | x :: t, 0, 0, w, h => Or.inl ⟨rfl, h⟩
  | x :: t, 0, j + 1, w, h => Or.inr ⟨by omega, h⟩
  | x :: t, i + 1, 0, w, h => Or.inr ⟨by omega, h⟩
  | x :: t, i + 1, j + 1, w, h => by
    rcases lg_ls1 t i j w h with ⟨h1, h2⟩ | ⟨h1, h2⟩
    · exact Or.inl ⟨by omega, h2⟩
    · exact Or.inr ⟨by omega, h2⟩
/-- no long stands just ahead of place i -/
def ok1 (L : List (Option Value)) (i : Nat) : Bool := match i with
  | 0 => true
  | j + 1 => match lg L j with
    | some (.long _) => false
    | some (.double _) => false
    | _ => true
theorem ok1_cat {L : List (Option Value)} {i q : Nat} {w : Value} (h : ok1 L i = true) (hq : q + 1 = i) (hw : lg L q = some w) : ¬ w.category = 2 := by
  subst hq
  simp only [ok1, hw] at h
  intro hc
  cases w <;> simp [Value.category] at hc <;> simp at h
theorem lv_has_sub {ls : Array Slot} {n : Nat} {l l' : List (Nat × Value)} (h : lv_has ls n l) (hs : ∀ q ∈ l', q ∈ l) : lv_has ls n l' := ⟨h.1, h.2.1, fun q hq => h.2.2 q (hs q hq)⟩
theorem en_st1 {L : List (Option Value)} {i : Nat} {v : Value} (ho : ok1 L i = true) : ∀ q ∈ en 0 (ls1 L i (some v)), q ∈ (i, v) :: (en 0 L).filter (fun q => !(q.1 == i) && !(q.1 + 1 == i && q.2.category == 2)) := by
  rintro ⟨q, w⟩ hq
  obtain ⟨-, h2⟩ := en_lg _ 0 hq
  rw [Nat.sub_zero] at h2
  rcases lg_ls1 L i q w h2 with ⟨h3, h4⟩ | ⟨h3, h4⟩
  · cases h4
    subst h3
    exact List.mem_cons_self
  · refine List.mem_cons_of_mem _ (List.mem_filter.mpr ⟨?_, ?_⟩)
    · have := lg_en L q 0 h4
      rwa [Nat.zero_add] at this
    · by_cases h5 : q + 1 = i
      · have := ok1_cat ho h5 h4
        simp [h3, this]
      · simp [h3, h5]
theorem en_st2 {L : List (Option Value)} {i : Nat} {v : Value} (ho : ok1 L i = true) : ∀ q ∈ en 0 (ls1 (ls1 L i (some v)) (i + 1) none), q ∈ (i, v) :: (en 0 L).filter (fun q => !(q.1 == i) && (!(q.1 == i + 1) && !(q.1 + 1 == i && q.2.category == 2))) := by
  rintro ⟨q, w⟩ hq
  obtain ⟨-, h2⟩ := en_lg _ 0 hq
  rw [Nat.sub_zero] at h2
  rcases lg_ls1 _ (i + 1) q w h2 with ⟨h3, h4⟩ | ⟨h3, h4⟩
  · cases h4
  · rcases lg_ls1 L i q w h4 with ⟨h5, h6⟩ | ⟨h5, h6⟩
    · cases h6
      subst h5
      exact List.mem_cons_self
    · refine List.mem_cons_of_mem _ (List.mem_filter.mpr ⟨?_, ?_⟩)
      · have := lg_en L q 0 h6
        rwa [Nat.zero_add] at this
      · by_cases h7 : q + 1 = i
        · have := ok1_cat ho h7 h6
          simp [h3, h5, this]
        · simp [h3, h5, h7]
theorem en_fg {L : List (Option Value)} (i : Nat) : ∀ q ∈ en 0 (ls1 L i none), q ∈ en 0 L := by
  rintro ⟨q, w⟩ hq
  obtain ⟨-, h2⟩ := en_lg _ 0 hq
  rw [Nat.sub_zero] at h2
  rcases lg_ls1 L i q w h2 with ⟨-, h4⟩ | ⟨-, h4⟩
  · cases h4
  · have := lg_en L q 0 h4
    rwa [Nat.zero_add] at this
end
section

/-! ===== the judgement: from here the method comes to its end ===== -/
abbrev MC : Type := Program × Launch × Env × Room × State × MethodId × Array Value × List Frame × Method × Code × Nat × Nat
def J (M : MC) (X : XP) (Q : State → Prop) (σ : PI) (pc : Nat) (L : List (Option Value)) (st : List Value) : Prop := match M with
  | (p, l, e, R, s, m, args, below, meth, c, cells, slots) => ∀ (H : Heap) (locs : List Loc) (ls : Array Slot), va_P X.2.1 vwCl (wl X σ) H → va_S X.2.2.2.2 s.heap H locs → lv_has ls c.maxLocals (en 0 L) → W p l e R s m args below meth c H locs cells slots Q (F0 m pc ls st)
def Cx (M : MC) (X : XP) (own : String) (cc : ByteArray) (nL : Nat) (ret : Option FieldType) (lvl : Nat) : Prop := match M with
  | (p, l, e, R, s, m, args, below, meth, c, cells, slots) => p.tables.exec = Jvm.exec ∧ c.code = cc ∧ c.maxLocals = nL ∧ s.vm.findClass own = some m.cls ∧ (∀ w ∈ gt, w.before args s = true) ∧ meth.sig.returnType = ret ∧ meth.locks = false ∧ lvl ≤ R.frames ∧ 64 * lvl ≤ R.locals ∧ cells ≤ R.cells ∧ slots ≤ R.slots ∧ VK X s ∧ ST X s s.heap ∧ AD X
def rmL (n : Nat) : Room := { frames := n, cells := 0, slots := 0, locals := 64 * n }
def QcO (X : XP) (Qr : Option Value → PI → Prop) : Array Value → State → Outcome → State → Prop := fun _ st oc t => (∃ (r : Option Value) (σ : PI), oc = .returned r ∧ Qr r σ ∧ Wd X σ t) ∧ va_F X.2.2.2.2 st t
def QF (M : MC) (X : XP) (Qr : Option Value → PI → Prop) : State → Prop := match M with
  | (p, l, e, R, s, m, args, below, meth, c, cells, slots) => MQ below (QcO X Qr) args s cells slots X.2.2.2.2
def Ct (l : Launch) (y : MethodName) (cc : ByteArray) (nL : Nat) (ret : Option FieldType) (lvl : Nat) (X : XP) (as : List Value) (σ : PI) (Qr : Option Value → PI → Prop) : Prop :=
  Met l y (Cond.code y cc nL ret :: gt) (rmL lvl) (va_Pc as (fun U => Wd X σ U)) (QcO X Qr) 0 0 X.2.2.2.2
def qI (Q : Int32 → PI → Prop) : Option Value → PI → Prop := fun r σ => ∃ v : Int32, r = some (.int v) ∧ Q v σ
def qL (Q : Int64 → PI → Prop) : Option Value → PI → Prop := fun r σ => ∃ v : Int64, r = some (.long v) ∧ Q v σ
def qV (Q : PI → Prop) : Option Value → PI → Prop := fun r σ => r = none ∧ Q σ
def bz (v : Int32) : Prop := v = 0 ∨ v = 1
section JR
variable {M : MC} {X : XP} {Q : State → Prop} {σ : PI} {pc : Nat} {L : List (Option Value)} {st rest : List Value} {own : String} {cc : ByteArray} {nL : Nat} {ret : Option FieldType} {lvl : Nat}

theorem J_iconst (cx : Cx M X own cc nL ret lvl) {n : Int} {v : Int32} (d : decode cc pc = .ok (.iconst n, 1)) (hv : Int32.ofInt n = v) (k : J M X Q σ (pc + 1) L (.int v :: st)) : J M X Q σ pc L (st) := by
  obtain ⟨p, l, e, R, s, m, args, below, meth, c, cells, slots⟩ := M
  intro H locs ls hP hS hl
  exact lv_iconst cx.1 cx.2.1 d hv (k H locs ls hP hS hl)
theorem J_bipush (cx : Cx M X own cc nL ret lvl) {n : Int} {v : Int32} (d : decode cc pc = .ok (.bipush n, 2)) (hv : (Int8.ofInt n).toInt32 = v) (k : J M X Q σ (pc + 2) L (.int v :: st)) : J M X Q σ pc L (st) := by
  obtain ⟨p, l, e, R, s, m, args, below, meth, c, cells, slots⟩ := M
  intro H locs ls hP hS hl
  exact lv_bipush cx.1 cx.2.1 d hv (k H locs ls hP hS hl)
theorem J_sipush (cx : Cx M X own cc nL ret lvl) {n : Int} {v : Int32} (d : decode cc pc = .ok (.sipush n, 3)) (hv : (Int16.ofInt n).toInt32 = v) (k : J M X Q σ (pc + 3) L (.int v :: st)) : J M X Q σ pc L (st) := by
  obtain ⟨p, l, e, R, s, m, args, below, meth, c, cells, slots⟩ := M
  intro H locs ls hP hS hl
  exact lv_sipush cx.1 cx.2.1 d hv (k H locs ls hP hS hl)
theorem J_lconst (cx : Cx M X own cc nL ret lvl) {n : Fin 2} {v : Int64} (d : decode cc pc = .ok (.lconst n, 1)) (hv : Int64.ofNat (n : Nat) = v) (k : J M X Q σ (pc + 1) L (.long v :: st)) : J M X Q σ pc L (st) := by
  obtain ⟨p, l, e, R, s, m, args, below, meth, c, cells, slots⟩ := M
  intro H locs ls hP hS hl
  exact lv_lconst cx.1 cx.2.1 d hv (k H locs ls hP hS hl)
theorem J_iload_n (cx : Cx M X own cc nL ret lvl) {q : Fin 4} (i : Nat) {x : Int32} (d : decode cc pc = .ok (.iload_n q, 1)) (hi : (q : Nat) = i) (hx : lg L i = some (.int x)) (k : J M X Q σ (pc + 1) L (.int x :: st)) : J M X Q σ pc L (st) := by
  obtain ⟨p, l, e, R, s, m, args, below, meth, c, cells, slots⟩ := M
  intro H locs ls hP hS hl
  exact lv_iload_n cx.1 cx.2.1 d hi (en_at hl hx) (k H locs ls hP hS hl)
theorem J_iload (cx : Cx M X own cc nL ret lvl) {i : Nat} {x : Int32} (d : decode cc pc = .ok (.iload i, 2)) (hx : lg L i = some (.int x)) (k : J M X Q σ (pc + 2) L (.int x :: st)) : J M X Q σ pc L (st) := by
  obtain ⟨p, l, e, R, s, m, args, below, meth, c, cells, slots⟩ := M
  intro H locs ls hP hS hl
  exact lv_iload cx.1 cx.2.1 d (en_at hl hx) (k H locs ls hP hS hl)
theorem J_lload_n (cx : Cx M X own cc nL ret lvl) {q : Fin 4} (i : Nat) {x : Int64} (d : decode cc pc = .ok (.lload_n q, 1)) (hi : (q : Nat) = i) (hx : lg L i = some (.long x)) (k : J M X Q σ (pc + 1) L (.long x :: st)) : J M X Q σ pc L (st) := by
  obtain ⟨p, l, e, R, s, m, args, below, meth, c, cells, slots⟩ := M
  intro H locs ls hP hS hl
  exact lv_lload_n cx.1 cx.2.1 d hi (en_at hl hx) (k H locs ls hP hS hl)
theorem J_lload (cx : Cx M X own cc nL ret lvl) {i : Nat} {x : Int64} (d : decode cc pc = .ok (.lload i, 2)) (hx : lg L i = some (.long x)) (k : J M X Q σ (pc + 2) L (.long x :: st)) : J M X Q σ pc L (st) := by
  obtain ⟨p, l, e, R, s, m, args, below, meth, c, cells, slots⟩ := M
  intro H locs ls hP hS hl
  exact lv_lload cx.1 cx.2.1 d (en_at hl hx) (k H locs ls hP hS hl)
theorem J_aload_n (cx : Cx M X own cc nL ret lvl) {q : Fin 4} (i : Nat) {x : Nat} (d : decode cc pc = .ok (.aload_n q, 1)) (hi : (q : Nat) = i) (hx : lg L i = some (.ref x)) (k : J M X Q σ (pc + 1) L (.ref x :: st)) : J M X Q σ pc L (st) := by
  obtain ⟨p, l, e, R, s, m, args, below, meth, c, cells, slots⟩ := M
  intro H locs ls hP hS hl
  exact lv_aload_n cx.1 cx.2.1 d hi (en_at hl hx) (k H locs ls hP hS hl)
theorem J_aload (cx : Cx M X own cc nL ret lvl) {i : Nat} {x : Nat} (d : decode cc pc = .ok (.aload i, 2)) (hx : lg L i = some (.ref x)) (k : J M X Q σ (pc + 2) L (.ref x :: st)) : J M X Q σ pc L (st) := by
  obtain ⟨p, l, e, R, s, m, args, below, meth, c, cells, slots⟩ := M
  intro H locs ls hP hS hl
  exact lv_aload cx.1 cx.2.1 d (en_at hl hx) (k H locs ls hP hS hl)
theorem J_istore_n (cx : Cx M X own cc nL ret lvl) {q : Fin 4} (i : Nat) {x : Int32} {L' : List (Option Value)} (d : decode cc pc = .ok (.istore_n q, 1)) (hi : (q : Nat) = i) (hn : i < nL) (ho : ok1 L i = true) (hL : ls1 L i (some (.int x)) = L') (k : J M X Q σ (pc + 1) L' st) : J M X Q σ pc L (.int x :: st) := by
  obtain ⟨p, l, e, R, s, m, args, below, meth, c, cells, slots⟩ := M
  intro H locs ls hP hS hl
  subst hL
  exact lv_istore_n cx.1 cx.2.1 d hi hl (by rw [show c.maxLocals = nL from cx.2.2.1]; exact hn) rfl (fun ls hl => k H locs ls hP hS (lv_has_sub hl (en_st1 ho)))
theorem J_istore (cx : Cx M X own cc nL ret lvl) {i : Nat} {x : Int32} {L' : List (Option Value)} (d : decode cc pc = .ok (.istore i, 2))  (hn : i < nL) (ho : ok1 L i = true) (hL : ls1 L i (some (.int x)) = L') (k : J M X Q σ (pc + 2) L' st) : J M X Q σ pc L (.int x :: st) := by
  obtain ⟨p, l, e, R, s, m, args, below, meth, c, cells, slots⟩ := M
  intro H locs ls hP hS hl
  subst hL
  exact lv_istore cx.1 cx.2.1 d  hl (by rw [show c.maxLocals = nL from cx.2.2.1]; exact hn) rfl (fun ls hl => k H locs ls hP hS (lv_has_sub hl (en_st1 ho)))
theorem J_astore_n (cx : Cx M X own cc nL ret lvl) {q : Fin 4} (i : Nat) {x : Nat} {L' : List (Option Value)} (d : decode cc pc = .ok (.astore_n q, 1)) (hi : (q : Nat) = i) (hn : i < nL) (ho : ok1 L i = true) (hL : ls1 L i (some (.ref x)) = L') (k : J M X Q σ (pc + 1) L' st) : J M X Q σ pc L (.ref x :: st) := by
  obtain ⟨p, l, e, R, s, m, args, below, meth, c, cells, slots⟩ := M
  intro H locs ls hP hS hl
  subst hL
  exact lv_astore_n cx.1 cx.2.1 d hi hl (by rw [show c.maxLocals = nL from cx.2.2.1]; exact hn) rfl (fun ls hl => k H locs ls hP hS (lv_has_sub hl (en_st1 ho)))
theorem J_astore (cx : Cx M X own cc nL ret lvl) {i : Nat} {x : Nat} {L' : List (Option Value)} (d : decode cc pc = .ok (.astore i, 2))  (hn : i < nL) (ho : ok1 L i = true) (hL : ls1 L i (some (.ref x)) = L') (k : J M X Q σ (pc + 2) L' st) : J M X Q σ pc L (.ref x :: st) := by
  obtain ⟨p, l, e, R, s, m, args, below, meth, c, cells, slots⟩ := M
  intro H locs ls hP hS hl
  subst hL
  exact lv_astore cx.1 cx.2.1 d  hl (by rw [show c.maxLocals = nL from cx.2.2.1]; exact hn) rfl (fun ls hl => k H locs ls hP hS (lv_has_sub hl (en_st1 ho)))
theorem J_lstore_n (cx : Cx M X own cc nL ret lvl) {q : Fin 4} (i : Nat) {x : Int64} {L' : List (Option Value)} (d : decode cc pc = .ok (.lstore_n q, 1)) (hi : (q : Nat) = i) (hn : i + 1 < nL) (ho : ok1 L i = true) (hL : ls1 (ls1 L i (some (.long x))) (i + 1) none = L') (k : J M X Q σ (pc + 1) L' st) : J M X Q σ pc L (.long x :: st) := by
  obtain ⟨p, l, e, R, s, m, args, below, meth, c, cells, slots⟩ := M
  intro H locs ls hP hS hl
  subst hL
  exact lv_lstore_n cx.1 cx.2.1 d hi hl (by rw [show c.maxLocals = nL from cx.2.2.1]; exact hn) rfl (fun ls hl => k H locs ls hP hS (lv_has_sub hl (en_st2 ho)))
theorem J_lstore (cx : Cx M X own cc nL ret lvl) {i : Nat} {x : Int64} {L' : List (Option Value)} (d : decode cc pc = .ok (.lstore i, 2))  (hn : i + 1 < nL) (ho : ok1 L i = true) (hL : ls1 (ls1 L i (some (.long x))) (i + 1) none = L') (k : J M X Q σ (pc + 2) L' st) : J M X Q σ pc L (.long x :: st) := by
  obtain ⟨p, l, e, R, s, m, args, below, meth, c, cells, slots⟩ := M
  intro H locs ls hP hS hl
  subst hL
  exact lv_lstore cx.1 cx.2.1 d  hl (by rw [show c.maxLocals = nL from cx.2.2.1]; exact hn) rfl (fun ls hl => k H locs ls hP hS (lv_has_sub hl (en_st2 ho)))
theorem J_iinc (cx : Cx M X own cc nL ret lvl) {i : Nat} {n : Int} {x v : Int32} {L' : List (Option Value)} (d : decode cc pc = .ok (.iinc i n, 3)) (hx : lg L i = some (.int x)) (hv : Int32.ofInt n = v) (hn : i < nL) (ho : ok1 L i = true) (hL : ls1 L i (some (.int (x + v))) = L') (k : J M X Q σ (pc + 3) L' st) : J M X Q σ pc L st := by
  obtain ⟨p, l, e, R, s, m, args, below, meth, c, cells, slots⟩ := M
  intro H locs ls hP hS hl
  subst hL
  have h1 := lg_en L i 0 hx
  rw [Nat.zero_add] at h1
  obtain ⟨w, hw⟩ := List.getElem?_of_mem h1
  exact lv_iinc cx.1 cx.2.1 d hl hw (by rw [hv]) (by rw [show c.maxLocals = nL from cx.2.2.1]; exact hn) rfl (fun ls hl => k H locs ls hP hS (lv_has_sub hl (en_st1 ho)))
theorem J_fg {L' : List (Option Value)} (i : Nat) (hL : ls1 L i none = L') (k : J M X Q σ pc L' st) : J M X Q σ pc L st := by
  obtain ⟨p, l, e, R, s, m, args, below, meth, c, cells, slots⟩ := M
  intro H locs ls hP hS hl
  subst hL
  exact k H locs ls hP hS (lv_has_sub hl (en_fg i))
theorem J_iadd (cx : Cx M X own cc nL ret lvl) {x y : Int32} (d : decode cc pc = .ok (.iadd, 1))  (k : J M X Q σ (pc + 1) L (.int (x + y) :: st)) : J M X Q σ pc L (.int y :: .int x :: st) := by
  obtain ⟨p, l, e, R, s, m, args, below, meth, c, cells, slots⟩ := M
  intro H locs ls hP hS hl
  exact lv_iadd cx.1 cx.2.1 d (k H locs ls hP hS hl)
theorem J_isub (cx : Cx M X own cc nL ret lvl) {x y : Int32} (d : decode cc pc = .ok (.isub, 1))  (k : J M X Q σ (pc + 1) L (.int (x - y) :: st)) : J M X Q σ pc L (.int y :: .int x :: st) := by
  obtain ⟨p, l, e, R, s, m, args, below, meth, c, cells, slots⟩ := M
  intro H locs ls hP hS hl
  exact lv_isub cx.1 cx.2.1 d (k H locs ls hP hS hl)
theorem J_imul (cx : Cx M X own cc nL ret lvl) {x y : Int32} (d : decode cc pc = .ok (.imul, 1))  (k : J M X Q σ (pc + 1) L (.int (x * y) :: st)) : J M X Q σ pc L (.int y :: .int x :: st) := by
  obtain ⟨p, l, e, R, s, m, args, below, meth, c, cells, slots⟩ := M
  intro H locs ls hP hS hl
  exact lv_imul cx.1 cx.2.1 d (k H locs ls hP hS hl)
theorem J_iand (cx : Cx M X own cc nL ret lvl) {x y : Int32} (d : decode cc pc = .ok (.iand, 1))  (k : J M X Q σ (pc + 1) L (.int (x &&& y) :: st)) : J M X Q σ pc L (.int y :: .int x :: st) := by
  obtain ⟨p, l, e, R, s, m, args, below, meth, c, cells, slots⟩ := M
  intro H locs ls hP hS hl
  exact lv_iand cx.1 cx.2.1 d (k H locs ls hP hS hl)
theorem J_ior (cx : Cx M X own cc nL ret lvl) {x y : Int32} (d : decode cc pc = .ok (.ior, 1))  (k : J M X Q σ (pc + 1) L (.int (x ||| y) :: st)) : J M X Q σ pc L (.int y :: .int x :: st) := by
  obtain ⟨p, l, e, R, s, m, args, below, meth, c, cells, slots⟩ := M
  intro H locs ls hP hS hl
  exact lv_ior cx.1 cx.2.1 d (k H locs ls hP hS hl)
theorem J_ixor (cx : Cx M X own cc nL ret lvl) {x y : Int32} (d : decode cc pc = .ok (.ixor, 1))  (k : J M X Q σ (pc + 1) L (.int (x ^^^ y) :: st)) : J M X Q σ pc L (.int y :: .int x :: st) := by
  obtain ⟨p, l, e, R, s, m, args, below, meth, c, cells, slots⟩ := M
  intro H locs ls hP hS hl
  exact lv_ixor cx.1 cx.2.1 d (k H locs ls hP hS hl)
theorem J_ladd (cx : Cx M X own cc nL ret lvl) {x y : Int64} (d : decode cc pc = .ok (.ladd, 1))  (k : J M X Q σ (pc + 1) L (.long (x + y) :: st)) : J M X Q σ pc L (.long y :: .long x :: st) := by
  obtain ⟨p, l, e, R, s, m, args, below, meth, c, cells, slots⟩ := M
  intro H locs ls hP hS hl
  exact lv_ladd cx.1 cx.2.1 d (k H locs ls hP hS hl)
theorem J_lsub (cx : Cx M X own cc nL ret lvl) {x y : Int64} (d : decode cc pc = .ok (.lsub, 1))  (k : J M X Q σ (pc + 1) L (.long (x - y) :: st)) : J M X Q σ pc L (.long y :: .long x :: st) := by
  obtain ⟨p, l, e, R, s, m, args, below, meth, c, cells, slots⟩ := M
  intro H locs ls hP hS hl
  exact lv_lsub cx.1 cx.2.1 d (k H locs ls hP hS hl)
theorem J_lmul (cx : Cx M X own cc nL ret lvl) {x y : Int64} (d : decode cc pc = .ok (.lmul, 1))  (k : J M X Q σ (pc + 1) L (.long (x * y) :: st)) : J M X Q σ pc L (.long y :: .long x :: st) := by
  obtain ⟨p, l, e, R, s, m, args, below, meth, c, cells, slots⟩ := M
  intro H locs ls hP hS hl
  exact lv_lmul cx.1 cx.2.1 d (k H locs ls hP hS hl)
theorem J_idiv (cx : Cx M X own cc nL ret lvl) {x y : Int32} (d : decode cc pc = .ok (.idiv, 1)) (hne : ¬ y = 0) (k : J M X Q σ (pc + 1) L (.int (x / y) :: st)) : J M X Q σ pc L (.int y :: .int x :: st) := by
  obtain ⟨p, l, e, R, s, m, args, below, meth, c, cells, slots⟩ := M
  intro H locs ls hP hS hl
  exact lv_idiv cx.1 cx.2.1 d hne (k H locs ls hP hS hl)
theorem J_ldiv (cx : Cx M X own cc nL ret lvl) {x y : Int64} (d : decode cc pc = .ok (.ldiv, 1)) (hne : ¬ y = 0) (k : J M X Q σ (pc + 1) L (.long (x / y) :: st)) : J M X Q σ pc L (.long y :: .long x :: st) := by
  obtain ⟨p, l, e, R, s, m, args, below, meth, c, cells, slots⟩ := M
  intro H locs ls hP hS hl
  exact lv_ldiv cx.1 cx.2.1 d hne (k H locs ls hP hS hl)
theorem J_irem (cx : Cx M X own cc nL ret lvl) {x y : Int32} (d : decode cc pc = .ok (.irem, 1)) (hne : ¬ y = 0) (k : J M X Q σ (pc + 1) L (.int (x - x / y * y) :: st)) : J M X Q σ pc L (.int y :: .int x :: st) := by
  obtain ⟨p, l, e, R, s, m, args, below, meth, c, cells, slots⟩ := M
  intro H locs ls hP hS hl
  exact lv_irem cx.1 cx.2.1 d hne (k H locs ls hP hS hl)
theorem J_lrem (cx : Cx M X own cc nL ret lvl) {x y : Int64} (d : decode cc pc = .ok (.lrem, 1)) (hne : ¬ y = 0) (k : J M X Q σ (pc + 1) L (.long (x - x / y * y) :: st)) : J M X Q σ pc L (.long y :: .long x :: st) := by
  obtain ⟨p, l, e, R, s, m, args, below, meth, c, cells, slots⟩ := M
  intro H locs ls hP hS hl
  exact lv_lrem cx.1 cx.2.1 d hne (k H locs ls hP hS hl)
theorem J_ishl (cx : Cx M X own cc nL ret lvl) {x y : Int32} (d : decode cc pc = .ok (.ishl, 1))  (k : J M X Q σ (pc + 1) L (.int (x <<< (y &&& 31)) :: st)) : J M X Q σ pc L (.int y :: .int x :: st) := by
  obtain ⟨p, l, e, R, s, m, args, below, meth, c, cells, slots⟩ := M
  intro H locs ls hP hS hl
  exact lv_ishl cx.1 cx.2.1 d (k H locs ls hP hS hl)
theorem J_ishr (cx : Cx M X own cc nL ret lvl) {x y : Int32} (d : decode cc pc = .ok (.ishr, 1))  (k : J M X Q σ (pc + 1) L (.int (x >>> (y &&& 31)) :: st)) : J M X Q σ pc L (.int y :: .int x :: st) := by
  obtain ⟨p, l, e, R, s, m, args, below, meth, c, cells, slots⟩ := M
  intro H locs ls hP hS hl
  exact lv_ishr cx.1 cx.2.1 d (k H locs ls hP hS hl)
theorem J_ineg (cx : Cx M X own cc nL ret lvl) {x : Int32} (d : decode cc pc = .ok (.ineg, 1))  (k : J M X Q σ (pc + 1) L (.int (-x) :: st)) : J M X Q σ pc L (.int x :: st) := by
  obtain ⟨p, l, e, R, s, m, args, below, meth, c, cells, slots⟩ := M
  intro H locs ls hP hS hl
  exact lv_ineg cx.1 cx.2.1 d (k H locs ls hP hS hl)
theorem J_i2l (cx : Cx M X own cc nL ret lvl) {x : Int32} (d : decode cc pc = .ok (.i2l, 1))  (k : J M X Q σ (pc + 1) L (.long x.toInt64 :: st)) : J M X Q σ pc L (.int x :: st) := by
  obtain ⟨p, l, e, R, s, m, args, below, meth, c, cells, slots⟩ := M
  intro H locs ls hP hS hl
  exact lv_i2l cx.1 cx.2.1 d rfl (k H locs ls hP hS hl)
theorem J_l2i (cx : Cx M X own cc nL ret lvl) {x : Int64} (d : decode cc pc = .ok (.l2i, 1))  (k : J M X Q σ (pc + 1) L (.int x.toInt32 :: st)) : J M X Q σ pc L (.long x :: st) := by
  obtain ⟨p, l, e, R, s, m, args, below, meth, c, cells, slots⟩ := M
  intro H locs ls hP hS hl
  exact lv_l2i cx.1 cx.2.1 d rfl (k H locs ls hP hS hl)
theorem J_i2b (cx : Cx M X own cc nL ret lvl) {x : Int32} (d : decode cc pc = .ok (.i2b, 1))  (k : J M X Q σ (pc + 1) L (.int x.toInt8.toInt32 :: st)) : J M X Q σ pc L (.int x :: st) := by
  obtain ⟨p, l, e, R, s, m, args, below, meth, c, cells, slots⟩ := M
  intro H locs ls hP hS hl
  exact lv_i2b cx.1 cx.2.1 d rfl (k H locs ls hP hS hl)
theorem J_i2s (cx : Cx M X own cc nL ret lvl) {x : Int32} (d : decode cc pc = .ok (.i2s, 1))  (k : J M X Q σ (pc + 1) L (.int x.toInt16.toInt32 :: st)) : J M X Q σ pc L (.int x :: st) := by
  obtain ⟨p, l, e, R, s, m, args, below, meth, c, cells, slots⟩ := M
  intro H locs ls hP hS hl
  exact lv_i2s cx.1 cx.2.1 d rfl (k H locs ls hP hS hl)
theorem J_iushr (cx : Cx M X own cc nL ret lvl) {x y : Int32} (d : decode cc pc = .ok (.iushr, 1))  (k : J M X Q σ (pc + 1) L (.int (x.toUInt32 >>> (y.toUInt32 &&& Int32.toUInt32 31)).toInt32 :: st)) : J M X Q σ pc L (.int y :: .int x :: st) := by
  obtain ⟨p, l, e, R, s, m, args, below, meth, c, cells, slots⟩ := M
  intro H locs ls hP hS hl
  exact lv_iushr cx.1 cx.2.1 d rfl (k H locs ls hP hS hl)
theorem J_lcmp (cx : Cx M X own cc nL ret lvl) {x y : Int64} (d : decode cc pc = .ok (.lcmp, 1))  (k : J M X Q σ (pc + 1) L (.int (lg_cmp x y) :: st)) : J M X Q σ pc L (.long y :: .long x :: st) := by
  obtain ⟨p, l, e, R, s, m, args, below, meth, c, cells, slots⟩ := M
  intro H locs ls hP hS hl
  exact W.lcmp cx.1 cx.2.1 d (k H locs ls hP hS hl)
theorem J_dup (cx : Cx M X own cc nL ret lvl) {v : Value} (d : decode cc pc = .ok (.dup, 1)) (hv : v.category = 1) (k : J M X Q σ (pc + 1) L (v :: v :: st)) : J M X Q σ pc L (v :: st) := by
  obtain ⟨p, l, e, R, s, m, args, below, meth, c, cells, slots⟩ := M
  intro H locs ls hP hS hl
  exact lv_dup cx.1 cx.2.1 d hv (k H locs ls hP hS hl)
theorem J_pop (cx : Cx M X own cc nL ret lvl) {v : Value} (d : decode cc pc = .ok (.pop, 1)) (hv : v.category = 1) (k : J M X Q σ (pc + 1) L (st)) : J M X Q σ pc L (v :: st) := by
  obtain ⟨p, l, e, R, s, m, args, below, meth, c, cells, slots⟩ := M
  intro H locs ls hP hS hl
  exact lv_pop cx.1 cx.2.1 d hv (k H locs ls hP hS hl)
theorem J_dup2 (cx : Cx M X own cc nL ret lvl) {v w : Value} (d : decode cc pc = .ok (.dup2, 1)) (hv : v.category = 1) (hw : w.category = 1) (k : J M X Q σ (pc + 1) L (v :: w :: v :: w :: st)) : J M X Q σ pc L (v :: w :: st) := by
  obtain ⟨p, l, e, R, s, m, args, below, meth, c, cells, slots⟩ := M
  intro H locs ls hP hS hl
  exact lv_dup2_11 cx.1 cx.2.1 d hv hw (k H locs ls hP hS hl)
theorem J_if_eq (cx : Cx M X own cc nL ret lvl) {x : Int32} {off : Int} {tgt : Nat} (d : decode cc pc = .ok (.ifCond .eq off, 3)) (ht : (pc : Int) + off = (tgt : Int)) (kt : x = 0 → J M X Q σ tgt L st) (kf : ¬ x = 0 → J M X Q σ (pc + 3) L st) : J M X Q σ pc L (.int x :: st) := by
  obtain ⟨p, l, e, R, s, m, args, below, meth, c, cells, slots⟩ := M
  intro H locs ls hP hS hl
  exact lv_if_eq cx.1 cx.2.1 d ht (fun q => kt q H locs ls hP hS hl) (fun q => kf q H locs ls hP hS hl)
theorem J_icmp_eq (cx : Cx M X own cc nL ret lvl) {x y : Int32} {off : Int} {tgt : Nat} (d : decode cc pc = .ok (.if_icmp .eq off, 3)) (ht : (pc : Int) + off = (tgt : Int)) (kt : x = y → J M X Q σ tgt L st) (kf : ¬ x = y → J M X Q σ (pc + 3) L st) : J M X Q σ pc L (.int y :: .int x :: st) := by
  obtain ⟨p, l, e, R, s, m, args, below, meth, c, cells, slots⟩ := M
  intro H locs ls hP hS hl
  exact lv_icmp_eq cx.1 cx.2.1 d ht (fun q => kt q H locs ls hP hS hl) (fun q => kf q H locs ls hP hS hl)
theorem J_if_ne (cx : Cx M X own cc nL ret lvl) {x : Int32} {off : Int} {tgt : Nat} (d : decode cc pc = .ok (.ifCond .ne off, 3)) (ht : (pc : Int) + off = (tgt : Int)) (kt : ¬ x = 0 → J M X Q σ tgt L st) (kf : x = 0 → J M X Q σ (pc + 3) L st) : J M X Q σ pc L (.int x :: st) := by
  obtain ⟨p, l, e, R, s, m, args, below, meth, c, cells, slots⟩ := M
  intro H locs ls hP hS hl
  exact lv_if_ne cx.1 cx.2.1 d ht (fun q => kt q H locs ls hP hS hl) (fun q => kf q H locs ls hP hS hl)
theorem J_icmp_ne (cx : Cx M X own cc nL ret lvl) {x y : Int32} {off : Int} {tgt : Nat} (d : decode cc pc = .ok (.if_icmp .ne off, 3)) (ht : (pc : Int) + off = (tgt : Int)) (kt : ¬ x = y → J M X Q σ tgt L st) (kf : x = y → J M X Q σ (pc + 3) L st) : J M X Q σ pc L (.int y :: .int x :: st) := by
  obtain ⟨p, l, e, R, s, m, args, below, meth, c, cells, slots⟩ := M
  intro H locs ls hP hS hl
  exact lv_icmp_ne cx.1 cx.2.1 d ht (fun q => kt q H locs ls hP hS hl) (fun q => kf q H locs ls hP hS hl)
theorem J_if_lt (cx : Cx M X own cc nL ret lvl) {x : Int32} {off : Int} {tgt : Nat} (d : decode cc pc = .ok (.ifCond .lt off, 3)) (ht : (pc : Int) + off = (tgt : Int)) (kt : x < 0 → J M X Q σ tgt L st) (kf : ¬ x < 0 → J M X Q σ (pc + 3) L st) : J M X Q σ pc L (.int x :: st) := by
  obtain ⟨p, l, e, R, s, m, args, below, meth, c, cells, slots⟩ := M
  intro H locs ls hP hS hl
  exact lv_if_lt cx.1 cx.2.1 d ht (fun q => kt q H locs ls hP hS hl) (fun q => kf q H locs ls hP hS hl)
theorem J_icmp_lt (cx : Cx M X own cc nL ret lvl) {x y : Int32} {off : Int} {tgt : Nat} (d : decode cc pc = .ok (.if_icmp .lt off, 3)) (ht : (pc : Int) + off = (tgt : Int)) (kt : x < y → J M X Q σ tgt L st) (kf : ¬ x < y → J M X Q σ (pc + 3) L st) : J M X Q σ pc L (.int y :: .int x :: st) := by
  obtain ⟨p, l, e, R, s, m, args, below, meth, c, cells, slots⟩ := M
  intro H locs ls hP hS hl
  exact lv_icmp_lt cx.1 cx.2.1 d ht (fun q => kt q H locs ls hP hS hl) (fun q => kf q H locs ls hP hS hl)
theorem J_if_ge (cx : Cx M X own cc nL ret lvl) {x : Int32} {off : Int} {tgt : Nat} (d : decode cc pc = .ok (.ifCond .ge off, 3)) (ht : (pc : Int) + off = (tgt : Int)) (kt : 0 ≤ x → J M X Q σ tgt L st) (kf : ¬ 0 ≤ x → J M X Q σ (pc + 3) L st) : J M X Q σ pc L (.int x :: st) := by
  obtain ⟨p, l, e, R, s, m, args, below, meth, c, cells, slots⟩ := M
  intro H locs ls hP hS hl
  exact lv_if_ge cx.1 cx.2.1 d ht (fun q => kt q H locs ls hP hS hl) (fun q => kf q H locs ls hP hS hl)
theorem J_icmp_ge (cx : Cx M X own cc nL ret lvl) {x y : Int32} {off : Int} {tgt : Nat} (d : decode cc pc = .ok (.if_icmp .ge off, 3)) (ht : (pc : Int) + off = (tgt : Int)) (kt : y ≤ x → J M X Q σ tgt L st) (kf : ¬ y ≤ x → J M X Q σ (pc + 3) L st) : J M X Q σ pc L (.int y :: .int x :: st) := by
  obtain ⟨p, l, e, R, s, m, args, below, meth, c, cells, slots⟩ := M
  intro H locs ls hP hS hl
  exact lv_icmp_ge cx.1 cx.2.1 d ht (fun q => kt q H locs ls hP hS hl) (fun q => kf q H locs ls hP hS hl)
theorem J_if_gt (cx : Cx M X own cc nL ret lvl) {x : Int32} {off : Int} {tgt : Nat} (d : decode cc pc = .ok (.ifCond .gt off, 3)) (ht : (pc : Int) + off = (tgt : Int)) (kt : 0 < x → J M X Q σ tgt L st) (kf : ¬ 0 < x → J M X Q σ (pc + 3) L st) : J M X Q σ pc L (.int x :: st) := by
  obtain ⟨p, l, e, R, s, m, args, below, meth, c, cells, slots⟩ := M
  intro H locs ls hP hS hl
  exact lv_if_gt cx.1 cx.2.1 d ht (fun q => kt q H locs ls hP hS hl) (fun q => kf q H locs ls hP hS hl)
theorem J_icmp_gt (cx : Cx M X own cc nL ret lvl) {x y : Int32} {off : Int} {tgt : Nat} (d : decode cc pc = .ok (.if_icmp .gt off, 3)) (ht : (pc : Int) + off = (tgt : Int)) (kt : y < x → J M X Q σ tgt L st) (kf : ¬ y < x → J M X Q σ (pc + 3) L st) : J M X Q σ pc L (.int y :: .int x :: st) := by
  obtain ⟨p, l, e, R, s, m, args, below, meth, c, cells, slots⟩ := M
  intro H locs ls hP hS hl
  exact lv_icmp_gt cx.1 cx.2.1 d ht (fun q => kt q H locs ls hP hS hl) (fun q => kf q H locs ls hP hS hl)
theorem J_if_le (cx : Cx M X own cc nL ret lvl) {x : Int32} {off : Int} {tgt : Nat} (d : decode cc pc = .ok (.ifCond .le off, 3)) (ht : (pc : Int) + off = (tgt : Int)) (kt : x ≤ 0 → J M X Q σ tgt L st) (kf : ¬ x ≤ 0 → J M X Q σ (pc + 3) L st) : J M X Q σ pc L (.int x :: st) := by
  obtain ⟨p, l, e, R, s, m, args, below, meth, c, cells, slots⟩ := M
  intro H locs ls hP hS hl
  exact lv_if_le cx.1 cx.2.1 d ht (fun q => kt q H locs ls hP hS hl) (fun q => kf q H locs ls hP hS hl)
theorem J_icmp_le (cx : Cx M X own cc nL ret lvl) {x y : Int32} {off : Int} {tgt : Nat} (d : decode cc pc = .ok (.if_icmp .le off, 3)) (ht : (pc : Int) + off = (tgt : Int)) (kt : x ≤ y → J M X Q σ tgt L st) (kf : ¬ x ≤ y → J M X Q σ (pc + 3) L st) : J M X Q σ pc L (.int y :: .int x :: st) := by
  obtain ⟨p, l, e, R, s, m, args, below, meth, c, cells, slots⟩ := M
  intro H locs ls hP hS hl
  exact lv_icmp_le cx.1 cx.2.1 d ht (fun q => kt q H locs ls hP hS hl) (fun q => kf q H locs ls hP hS hl)
theorem J_goto (cx : Cx M X own cc nL ret lvl) {off : Int} {tgt : Nat} (d : decode cc pc = .ok (.goto off, 3)) (ht : (pc : Int) + off = (tgt : Int)) (k : J M X Q σ tgt L st) : J M X Q σ pc L st := by
  obtain ⟨p, l, e, R, s, m, args, below, meth, c, cells, slots⟩ := M
  intro H locs ls hP hS hl
  exact lv_goto cx.1 cx.2.1 d ht (k H locs ls hP hS hl)
theorem J_ldc (cx : Cx M X own cc nL ret lvl) {i : Nat} {v : Int32} (d : decode cc pc = .ok (.ldc i, 2)) (hw : Cond.constant own i v ∈ gt) (k : J M X Q σ (pc + 2) L (.int v :: st)) : J M X Q σ pc L st := by
  obtain ⟨p, l, e, R, s, m, args, below, meth, c, cells, slots⟩ := M
  intro H locs ls hP hS hl
  exact lv_ldc cx.1 cx.2.1 cx.2.2.2.1 (cx.2.2.2.2.1 _ hw) d (k H locs ls hP hS hl)
theorem J_ldc_w (cx : Cx M X own cc nL ret lvl) {i : Nat} {v : Int32} (d : decode cc pc = .ok (.ldc_w i, 3)) (hw : Cond.constant own i v ∈ gt) (k : J M X Q σ (pc + 3) L (.int v :: st)) : J M X Q σ pc L st := by
  obtain ⟨p, l, e, R, s, m, args, below, meth, c, cells, slots⟩ := M
  intro H locs ls hP hS hl
  exact lv_ldcw cx.1 cx.2.1 cx.2.2.2.1 (cx.2.2.2.2.1 _ hw) d (k H locs ls hP hS hl)
theorem J_ldc2 (cx : Cx M X own cc nL ret lvl) {i : Nat} {v : Int64} (d : decode cc pc = .ok (.ldc2_w i, 3)) (hw : Cond.constantLong own i v ∈ gt) (k : J M X Q σ (pc + 3) L (.long v :: st)) : J M X Q σ pc L st := by
  obtain ⟨p, l, e, R, s, m, args, below, meth, c, cells, slots⟩ := M
  intro H locs ls hP hS hl
  exact lv_ldc2 cx.1 cx.2.1 cx.2.2.2.1 (cx.2.2.2.2.1 _ hw) d (k H locs ls hP hS hl)
theorem J_tsI (cx : Cx M X own cc nL ret lvl) {dflt lo hi : Int} {offs : Array Int} {len : Nat} {x : Int32} {off : Int} {tgt : Nat} (v : Int32) (hx : x = v) (d : decode cc pc = .ok (.tableswitch dflt lo hi offs, len)) (h1 : ¬ v.toInt < lo) (h2 : ¬ hi < v.toInt) (ho : offs[(v.toInt - lo).toNat]? = some off) (ht : (pc : Int) + off = (tgt : Int)) (k : J M X Q σ tgt L st) : J M X Q σ pc L (.int x :: st) := by
  obtain ⟨p, l, e, R, s, m, args, below, meth, c, cells, slots⟩ := M
  intro H locs ls hP hS hl
  subst hx
  exact lv_tableIn cx.1 cx.2.1 d h1 h2 ho ht (k H locs ls hP hS hl)
theorem J_tsO (cx : Cx M X own cc nL ret lvl) {dflt lo hi : Int} {offs : Array Int} {len : Nat} {x : Int32} {tgt : Nat} (d : decode cc pc = .ok (.tableswitch dflt lo hi offs, len)) (h : x.toInt < lo ∨ hi < x.toInt) (ht : (pc : Int) + dflt = (tgt : Int)) (k : J M X Q σ tgt L st) : J M X Q σ pc L (.int x :: st) := by
  obtain ⟨p, l, e, R, s, m, args, below, meth, c, cells, slots⟩ := M
  intro H locs ls hP hS hl
  exact lv_tableOut cx.1 cx.2.1 d h ht (k H locs ls hP hS hl)
theorem J_lsw (cx : Cx M X own cc nL ret lvl) {dflt : Int} {ps : Array (Int × Int)} {len : Nat} {x : Int32} {off : Int} {tgt : Nat} (d : decode cc pc = .ok (.lookupswitch dflt ps, len)) (hp : (ps.toList.zip (ps.toList.drop 1)).all (fun (a, next) => a.1 < next.1) = true) (ho : Op.lookupswitch.offset ps.toList dflt x.toInt = off) (ht : (pc : Int) + off = (tgt : Int)) (k : J M X Q σ tgt L st) : J M X Q σ pc L (.int x :: st) := by
  obtain ⟨p, l, e, R, s, m, args, below, meth, c, cells, slots⟩ := M
  intro H locs ls hP hS hl
  exact lv_lookup cx.1 cx.2.1 d hp ho ht (k H locs ls hP hS hl)

end JR
end
section
/-! ===== cells ===== -/
theorem uws_0 : ∀ w ∈ u_ws RX0 TX0 3, w ∈ lw_tbl := by decide +kernel
theorem uws_1 : ∀ w ∈ u_ws RX1 TX1 8, w ∈ lw_tbl := by decide +kernel
theorem uws_2 : ∀ w ∈ u_ws RX2 TX2 4, w ∈ lw_tbl := by decide +kernel
theorem uws_3 : ∀ w ∈ u_ws RX3 TX3 15, w ∈ lw_tbl := by decide +kernel
theorem uws_4 : ∀ w ∈ u_ws RX4 TX4 10, w ∈ lw_tbl := by decide +kernel
theorem uws_5 : ∀ w ∈ u_ws RX5 TX5 25, w ∈ lw_tbl := by decide +kernel
theorem uwg_0 : ∀ w ∈ u_ws RX0 TX0 3, goodWord w = true := by decide +kernel
theorem uwg_1 : ∀ w ∈ u_ws RX1 TX1 8, goodWord w = true := by decide +kernel
theorem uwg_2 : ∀ w ∈ u_ws RX2 TX2 4, goodWord w = true := by decide +kernel
theorem uwg_3 : ∀ w ∈ u_ws RX3 TX3 15, goodWord w = true := by decide +kernel
theorem uwg_4 : ∀ w ∈ u_ws RX4 TX4 10, goodWord w = true := by decide +kernel
theorem uwg_5 : ∀ w ∈ u_ws RX5 TX5 25, goodWord w = true := by decide +kernel
/-- what the tables say of a class: its fields' words, their types, their names apart -/
theorem cl_ok : ∀ (c : Nat) (C : String) (T : u_T) (N : Nat), vwCl[c]? = some (C, T, N) → (∀ w ∈ u_ws C T N, w ∈ gt) ∧ (∃ ty0 : Nat → FieldType, ∀ k, k < N → parseFieldDescriptor (T k).2.2.1 = some (ty0 k)) ∧ (∀ a, a < N → ∀ b, b < N → a ≠ b → (T a).2.1 ≠ (T b).2.1) ∧ N = nF c ∧ c < 6
  | 0, C, T, N, h => by cases h; exact ⟨fun w hw => gt_of (uws_0 w hw) (uwg_0 w hw), ⟨_, tyX0_ok⟩, nmX0, rfl, by omega⟩
  | 1, C, T, N, h => by cases h; exact ⟨fun w hw => gt_of (uws_1 w hw) (uwg_1 w hw), ⟨_, tyX1_ok⟩, nmX1, rfl, by omega⟩
  | 2, C, T, N, h => by cases h; exact ⟨fun w hw => gt_of (uws_2 w hw) (uwg_2 w hw), ⟨_, tyX2_ok⟩, nmX2, rfl, by omega⟩
  | 3, C, T, N, h => by cases h; exact ⟨fun w hw => gt_of (uws_3 w hw) (uwg_3 w hw), ⟨_, tyX3_ok⟩, nmX3, rfl, by omega⟩
  | 4, C, T, N, h => by cases h; exact ⟨fun w hw => gt_of (uws_4 w hw) (uwg_4 w hw), ⟨_, tyX4_ok⟩, nmX4, rfl, by omega⟩
  | 5, C, T, N, h => by cases h; exact ⟨fun w hw => gt_of (uws_5 w hw) (uwg_5 w hw), ⟨_, tyX5_ok⟩, nmX5, rfl, by omega⟩
  | c + 6, C, T, N, h => by simp [vwCl] at h
/-- getfield, putfield number idx of class own: field k of class c -/
def fld (own : String) (idx c k : Nat) : Prop := ∃ (C : String) (T : u_T) (N : Nat), vwCl[c]? = some (C, T, N) ∧ k < N ∧ Cond.fieldLink own idx (T k).1 (T k).2.1 (T k).2.2.1 ∈ gt
def fldP (own : String) (idx c k : Nat) (v : Int32) : Prop := ∃ (C : String) (T : u_T) (N : Nat) (ty : FieldType), vwCl[c]? = some (C, T, N) ∧ k < N ∧ Cond.fieldLink own idx (T k).1 (T k).2.1 (T k).2.2.1 ∈ gt ∧ (T k).2.2.2 = false ∧ parseFieldDescriptor (T k).2.2.1 = some ty ∧ narrow ty (.int v) = .int v ∧ fits ty (.int v) = true
theorem fsO_get {X : XP} {σ : PI} {c i k : Nat} (h : k < nF c) : (fsO X σ c i)[k]? = some (if fR c k then va_rf ((rq i k).map X.1) else .int (σ i k)) := by
  simp [fsO, List.getElem?_map, List.getElem?_range h]
theorem fsO_len {X : XP} {σ : PI} {c i : Nat} : (fsO X σ c i).length = nF c := by simp [fsO]
theorem up_self {σ : PI} {i k : Nat} {v : Int32} : up σ i k v i = upd (σ i) k v := by simp [up]
theorem up_ne {σ : PI} {i k j : Nat} {v : Int32} (h : j ≠ i) : up σ i k v j = σ j := by simp [up, h]
theorem upA_self {σ : PI} {i : Nat} {f : Nat → Int32} : upA σ i f i = f := by simp [upA]
theorem upA_ne {σ : PI} {i j : Nat} {f : Nat → Int32} (h : j ≠ i) : upA σ i f j = σ j := by simp [upA, h]
theorem fsO_set {X : XP} {σ : PI} {c i k : Nat} {v : Int32} (hr : fR c k = false) : fsO X (up σ i k v) c i = (fsO X σ c i).set k (.int v) := by
  apply List.ext_getElem?
  intro j
  by_cases hj : j < nF c
  · rw [fsO_get hj]
    by_cases e : k = j
    · subst e
      rw [List.getElem?_set_self (by rw [fsO_len]; exact hj), hr, up_self]
      simp [upd]
    · rw [List.getElem?_set_ne e, fsO_get hj, up_self]
      have : ¬ j = k := fun q => e q.symm
      simp [upd, this]
  · rw [List.getElem?_eq_none (by rw [fsO_len]; omega), List.getElem?_eq_none (by rw [List.length_set, fsO_len]; omega)]
theorem ent_o {X : XP} {σ : PI} {i c : Nat} (hc : (kq i).1 = c) (h6 : c < 6) : ent X σ i = .inr (c, fsO X σ c i) := by
  unfold ent
  rw [hc, if_pos h6]
theorem ent_i {X : XP} {σ : PI} {i q n : Nat} (hc : kq i = (q, n)) (h6 : ¬ q < 6) (h8 : q < 8) : ent X σ i = .inl (X.2.2.1 q, n, .inl (σ i)) := by
  unfold ent
  rw [hc]
  show (if q < 6 then _ else _) = _
  rw [if_neg h6]
  show (if q < 8 then _ else _) = _
  rw [if_pos h8]
theorem ent_r {X : XP} {σ : PI} {i q n : Nat} (hc : kq i = (q, n)) (h8 : ¬ q < 8) : ent X σ i = .inl (X.2.2.1 q, n, .inr (.inr (.inr (.inr (fun j => (rq i j).map X.1))))) := by
  unfold ent
  rw [hc]
  show (if q < 6 then _ else _) = _
  rw [if_neg (by omega)]
  show (if q < 8 then _ else _) = _
  rw [if_neg h8]
theorem wl_o {X : XP} {σ : PI} {i c : Nat} (hi : i < 289) (hc : (kq i).1 = c) (h6 : c < 6) : (wl X σ)[i]? = some (X.1 i, .inr (c, fsO X σ c i)) := by rw [wl_get hi, ent_o hc h6]
theorem wl_i {X : XP} {σ : PI} {i n : Nat} (hi : i < 289) (hc : kq i = (6, n)) : (wl X σ)[i]? = some (X.1 i, .inl (X.2.2.1 6, n, .inl (σ i))) := by rw [wl_get hi, ent_i hc (by omega) (by omega)]
theorem wl_z {X : XP} {σ : PI} {i n : Nat} (hi : i < 289) (hc : kq i = (7, n)) : (wl X σ)[i]? = some (X.1 i, .inl (X.2.2.1 7, n, .inl (σ i))) := by rw [wl_get hi, ent_i hc (by omega) (by omega)]
theorem wl_r {X : XP} {σ : PI} {i q n : Nat} (hi : i < 289) (hc : kq i = (q, n)) (h8 : ¬ q < 8) : (wl X σ)[i]? = some (X.1 i, .inl (X.2.2.1 q, n, .inr (.inr (.inr (.inr (fun j => (rq i j).map X.1)))))) := by rw [wl_get hi, ent_r hc h8]
theorem ST.to {X : XP} {s t : State} {H : Heap} (h : ST X s s.heap) (hvm : s.vm.Alike t.vm) (hq : ∀ a : Nat, a < s.heap.size → ¬ X.2.2.2.2 a → H[a]? = s.heap[a]?) : ST X t H := fun n hn => ⟨((h n hn).1.kept hq).moved hvm, ((h n hn).2.kept hq).moved hvm⟩
theorem Wd.calling {X : XP} {σ : PI} {U : State} {g : JFrame} {mk : MethodId} {a : Array Value} (h : Wd X σ U) : Wd X σ (U.calling g mk a) :=
  ⟨h.1, ⟨va_K.moved (u := U) (U := U.calling g mk a) (Vm.Alike.refl U.vm) h.2.1.1, fun w hw => va_Nw.same (u := U) (by simp only [nestW, List.mem_cons, List.not_mem_nil, or_false] at hw; rcases hw with rfl | rfl <;> rfl) rfl (h.2.1.2 w hw)⟩, fun n hn => ⟨(h.2.2.1 n hn).1.moved (Vm.Alike.refl U.vm), (h.2.2.1 n hn).2.moved (Vm.Alike.refl U.vm)⟩, h.2.2.2⟩
section JH
variable {M : MC} {X : XP} {Q : State → Prop} {σ : PI} {pc : Nat} {L : List (Option Value)} {st rest : List Value} {own : String} {cc : ByteArray} {nL : Nat} {ret : Option FieldType} {lvl : Nat}
theorem J_getI (cx : Cx M X own cc nL ret lvl) {idx c i k : Nat} (d : decode cc pc = .ok (.getfield idx, 3)) (hF : fld own idx c k) (hi : i < 289) (hc : (kq i).1 = c) (hr : fR c k = false) (kk : J M X Q σ (pc + 3) L (.int (σ i k) :: st)) : J M X Q σ pc L (.ref (X.1 i) :: st) := by
  obtain ⟨p, l, e, R, s, m, args, below, meth, c0, cells, slots⟩ := M
  obtain ⟨hx, hb, hml, hown, hts, hre, hlk, hfr, hlo, hce, hsl, hvk, hst, had⟩ := cx
  obtain ⟨C, T, N, hcl, hk, hlink⟩ := hF
  obtain ⟨h1, -, -, hN, h6⟩ := cl_ok c C T N hcl
  intro H locs ls hP hS hl
  exact va_get hx hb hts h1 hown hvk.1 hP i (wl_o hi hc h6) hcl k hk (hts _ hlink) (fun _ h => h) (by rw [fsO_get (by omega), hr]; rfl) d (kk H locs ls hP hS hl)
theorem J_getR (cx : Cx M X own cc nL ret lvl) {idx c i k j : Nat} (d : decode cc pc = .ok (.getfield idx, 3)) (hF : fld own idx c k) (hi : i < 289) (hc : (kq i).1 = c) (hr : fR c k = true) (hj : rq i k = some j) (kk : J M X Q σ (pc + 3) L (.ref (X.1 j) :: st)) : J M X Q σ pc L (.ref (X.1 i) :: st) := by
  obtain ⟨p, l, e, R, s, m, args, below, meth, c0, cells, slots⟩ := M
  obtain ⟨hx, hb, hml, hown, hts, hre, hlk, hfr, hlo, hce, hsl, hvk, hst, had⟩ := cx
  obtain ⟨C, T, N, hcl, hk, hlink⟩ := hF
  obtain ⟨h1, -, -, hN, h6⟩ := cl_ok c C T N hcl
  intro H locs ls hP hS hl
  exact va_get hx hb hts h1 hown hvk.1 hP i (wl_o hi hc h6) hcl k hk (hts _ hlink) (fun _ h => h) (by rw [fsO_get (by omega), hr, hj]; rfl) d (kk H locs ls hP hS hl)
theorem J_putI (cx : Cx M X own cc nL ret lvl) {idx c i k : Nat} {v : Int32} (d : decode cc pc = .ok (.putfield idx, 3)) (hF : fldP own idx c k v) (hi : i < 289) (hc : (kq i).1 = c) (hr : fR c k = false) (kk : J M X Q (up σ i k v) (pc + 3) L st) : J M X Q σ pc L (.int v :: .ref (X.1 i) :: st) := by
  obtain ⟨p, l, e, R, s, m, args, below, meth, c0, cells, slots⟩ := M
  obtain ⟨hx, hb, hml, hown, hts, hre, hlk, hfr, hlo, hce, hsl, hvk, hst, had⟩ := cx
  obtain ⟨C, T, N, ty, hcl, hk, hlink, hfin, hd, hn, hfit⟩ := hF
  obtain ⟨h1, ⟨ty0, h2⟩, h3, hN, h6⟩ := cl_ok c C T N hcl
  intro H locs ls hP hS hl
  refine va_put hx hb hts h1 ty0 h2 h3 hown hvk.1 hP (had.d σ) hS i (wl_o hi hc h6) hcl k hk (hts _ hlink) (fun _ h => h) hfin hd hn hfit (by rw [fsO_len]; omega) d (fun H1 locs1 hP1 hD1 hS1 => ?_)
  rw [wl_set hi (τ := up σ i k v) (fun j hj => up_ne hj) (by rw [ent_o hc h6, fsO_set hr])] at hP1
  exact kk H1 locs1 ls hP1 hS1 hl
theorem J_iald (cx : Cx M X own cc nL ret lvl) {i n : Nat} {x : Int32} (d : decode cc pc = .ok (.iaload, 1)) (hi : i < 289) (hc : kq i = (6, n)) (hin : vp_in x n) (kk : J M X Q σ (pc + 1) L (.int (σ i x.toNatClampNeg) :: st)) : J M X Q σ pc L (.int x :: .ref (X.1 i) :: st) := by
  obtain ⟨p, l, e, R, s, m, args, below, meth, c0, cells, slots⟩ := M
  obtain ⟨hx, hb, hml, hown, hts, hre, hlk, hfr, hlo, hce, hsl, hvk, hst, had⟩ := cx
  intro H locs ls hP hS hl
  exact va_iald hx hb hvk.1 hP i 0 (wl_i hi hc) rfl hin d (kk H locs ls hP hS hl)
theorem J_iast (cx : Cx M X own cc nL ret lvl) {i n : Nat} {x v : Int32} (d : decode cc pc = .ok (.iastore, 1)) (hi : i < 289) (hc : kq i = (6, n)) (hin : vp_in x n) (kk : J M X Q (up σ i x.toNatClampNeg v) (pc + 1) L st) : J M X Q σ pc L (.int v :: .int x :: .ref (X.1 i) :: st) := by
  obtain ⟨p, l, e, R, s, m, args, below, meth, c0, cells, slots⟩ := M
  obtain ⟨hx, hb, hml, hown, hts, hre, hlk, hfr, hlo, hce, hsl, hvk, hst, had⟩ := cx
  intro H locs ls hP hS hl
  refine va_iast hx hb hvk.1 hP (had.d σ) hS i 0 (wl_i hi hc) rfl hin d (fun H1 locs1 hP1 hD1 hS1 => ?_)
  rw [wl_set hi (τ := up σ i x.toNatClampNeg v) (fun j hj => up_ne hj) (by rw [ent_i hc (by omega) (by omega), up_self])] at hP1
  exact kk H1 locs1 ls hP1 hS1 hl
theorem J_zald (cx : Cx M X own cc nL ret lvl) {i n : Nat} {x : Int32} (d : decode cc pc = .ok (.baload, 1)) (hi : i < 289) (hc : kq i = (7, n)) (hin : vp_in x n) (kk : J M X Q σ (pc + 1) L (.int (σ i x.toNatClampNeg) :: st)) : J M X Q σ pc L (.int x :: .ref (X.1 i) :: st) := by
  obtain ⟨p, l, e, R, s, m, args, below, meth, c0, cells, slots⟩ := M
  obtain ⟨hx, hb, hml, hown, hts, hre, hlk, hfr, hlo, hce, hsl, hvk, hst, had⟩ := cx
  intro H locs ls hP hS hl
  exact va_zald hx hb hvk.1 hP i 1 (wl_z hi hc) rfl hin d (kk H locs ls hP hS hl)
theorem J_zast (cx : Cx M X own cc nL ret lvl) {i n : Nat} {x v : Int32} (d : decode cc pc = .ok (.bastore, 1)) (hi : i < 289) (hc : kq i = (7, n)) (hv : vp_nar .boolean v = v) (hin : vp_in x n) (kk : J M X Q (up σ i x.toNatClampNeg v) (pc + 1) L st) : J M X Q σ pc L (.int v :: .int x :: .ref (X.1 i) :: st) := by
  obtain ⟨p, l, e, R, s, m, args, below, meth, c0, cells, slots⟩ := M
  obtain ⟨hx, hb, hml, hown, hts, hre, hlk, hfr, hlo, hce, hsl, hvk, hst, had⟩ := cx
  intro H locs ls hP hS hl
  refine va_zast hx hb hvk.1 hP (had.d σ) hS i 1 (wl_z hi hc) rfl hin d (fun H1 locs1 hP1 hD1 hS1 => ?_)
  rw [hv, wl_set hi (τ := up σ i x.toNatClampNeg v) (fun j hj => up_ne hj) (by rw [ent_i hc (by omega) (by omega), up_self])] at hP1
  exact kk H1 locs1 ls hP1 hS1 hl
theorem J_aald (cx : Cx M X own cc nL ret lvl) {i q n j : Nat} {x : Int32} (d : decode cc pc = .ok (.aaload, 1)) (hi : i < 289) (hc : kq i = (q, n)) (hq : q = 8 ∨ q = 9) (hin : vp_in x n) (hj : rq i x.toNatClampNeg = some j) (kk : J M X Q σ (pc + 1) L (.ref (X.1 j) :: st)) : J M X Q σ pc L (.int x :: .ref (X.1 i) :: st) := by
  obtain ⟨p, l, e, R, s, m, args, below, meth, c0, cells, slots⟩ := M
  obtain ⟨hx, hb, hml, hown, hts, hre, hlk, hfr, hlo, hce, hsl, hvk, hst, had⟩ := cx
  intro H locs ls hP hS hl
  have kk := kk H locs ls hP hS hl
  rcases hq with rfl | rfl
  · exact va_aldq hx hb hvk.1 hP i 2 (wl_r hi hc (by omega)) rfl hin d (by rw [hj]; exact kk)
  · exact va_aldq hx hb hvk.1 hP i 3 (wl_r hi hc (by omega)) rfl hin d (by rw [hj]; exact kk)
theorem J_alen (cx : Cx M X own cc nL ret lvl) {i n : Nat} {v : Int32} (d : decode cc pc = .ok (.arraylength, 1)) (hi : i < 289) (hc : kq i = (6, n)) (hv : Int32.ofNat n = v) (kk : J M X Q σ (pc + 1) L (.int v :: st)) : J M X Q σ pc L (.ref (X.1 i) :: st) := by
  obtain ⟨p, l, e, R, s, m, args, below, meth, c0, cells, slots⟩ := M
  obtain ⟨hx, hb, hml, hown, hts, hre, hlk, hfr, hlo, hce, hsl, hvk, hst, had⟩ := cx
  intro H locs ls hP hS hl
  exact va_alen hx hb hvk.1 hP i 0 (wl_i hi hc) (ty := .int) rfl hv d (kk H locs ls hP hS hl)
theorem J_copy (cx : Cx M X own cc nL ret lvl) {idx i j n0 n1 : Nat} {sp dp n : Int32} (d : decode cc pc = .ok (.invokestatic idx, 3)) (hw : Cond.methodLink own idx arraycopyName ∈ gt) (hlv : 0 < lvl) (hrs : (rest.map fun v => v.category).sum ≤ 8) (hi : i < 289) (hc : kq i = (6, n0)) (hj : j < 289) (hd : kq j = (6, n1)) (h1 : ¬ sp < 0) (h2 : ¬ dp < 0) (h3 : ¬ n < 0) (h4 : sp.toNatClampNeg + n.toNatClampNeg ≤ n0) (h5 : dp.toNatClampNeg + n.toNatClampNeg ≤ n1)
    (kk : J M X Q (upA σ j (va_cpy (σ i) (σ j) sp.toNatClampNeg dp.toNatClampNeg n.toNatClampNeg)) (pc + 3) L rest) : J M X Q σ pc L (.int n :: .int dp :: .ref (X.1 j) :: .int sp :: .ref (X.1 i) :: rest) := by
  obtain ⟨p, l, e, R, s, m, args, below, meth, c0, cells, slots⟩ := M
  obtain ⟨hx, hb, hml, hown, hts, hre, hlk, hfr, hlo, hce, hsl, hvk, hst, had⟩ := cx
  intro H locs ls hP hS hl
  have hnf : nativeFrameWords "java/lang/System" "arraycopy" 5 + 11 ≤ 56 := by decide +kernel
  refine va_copyi hx hb hl.1.symm hown (hts _ hw) (hts _ (gt_tb 244 (by decide +kernel) (by decide +kernel))) (hts _ (gt_tb 243 (by decide +kernel) (by decide +kernel))) (hts _ (gt_tb 7 (by decide +kernel) (by decide +kernel))) hvk.1 hP (had.d σ) hS i j 0 0 (wl_i hi hc) (wl_i hj hd) rfl rfl rfl h1 h2 h3 h4 h5 (fun _ _ => rfl) (by omega) (by omega) d (fun H1 locs1 hP1 hD1 hS1 => ?_)
  rw [wl_set hj (τ := upA σ j (va_cpy (σ i) (σ j) sp.toNatClampNeg dp.toNatClampNeg n.toNatClampNeg)) (fun q hq => upA_ne hq) (by rw [ent_i hd (by omega) (by omega), upA_self])] at hP1
  exact kk H1 locs1 ls hP1 hS1 hl
theorem J_gets (cx : Cx M X own cc nL ret lvl) {idx n : Nat} (d : decode cc pc = .ok (.getstatic idx, 3)) (hn : n < 3) (hw : Cond.fieldLink own idx "LeftAlone" (sNm n) "[I" ∈ gt) (kk : J M X Q σ (pc + 3) L (.ref (X.2.2.2.1 n) :: st)) : J M X Q σ pc L st := by
  obtain ⟨p, l, e, R, s, m, args, below, meth, c0, cells, slots⟩ := M
  obtain ⟨hx, hb, hml, hown, hts, hre, hlk, hfr, hlo, hce, hsl, hvk, hst, had⟩ := cx
  intro H locs ls hP hS hl
  exact va_gets hx hb (hst n hn).1 hS hown (hts _ hw) (fun _ h => h) d (kk H locs ls hP hS hl)
theorem J_sald (cx : Cx M X own cc nL ret lvl) {n : Nat} {x : Int32} (d : decode cc pc = .ok (.iaload, 1)) (hn : n < 3) (hin : vp_in x 6) (kk : J M X Q σ (pc + 1) L (.int (sArr n x.toNatClampNeg) :: st)) : J M X Q σ pc L (.int x :: .ref (X.2.2.2.1 n) :: st) := by
  obtain ⟨p, l, e, R, s, m, args, below, meth, c0, cells, slots⟩ := M
  obtain ⟨hx, hb, hml, hown, hts, hre, hlk, hfr, hlo, hce, hsl, hvk, hst, had⟩ := cx
  intro H locs ls hP hS hl
  exact va_ti hx hb (hst n hn).2 hS hin rfl d (kk H locs ls hP hS hl)
/-! ===== ends ===== -/
theorem J_end {p : Program} {l : Launch} {e : Env} {R : Room} {s : State} {m : MethodId} {args : Array Value} {below : List Frame} {meth : Method} {c : Code} {cells slots : Nat} (cx : Cx (p, l, e, R, s, m, args, below, meth, c, cells, slots) X own cc nL ret lvl) {Qr : Option Value → PI → Prop} {r : Option Value} {H : Heap} {locs : List Loc} (hP : va_P X.2.1 vwCl (wl X σ) H) (hS : va_S X.2.2.2.2 s.heap H locs) (h : Qr r σ) (t : State) (ht : t.heap = H) (hW : s.WarmedH t.vm) : QcO X Qr args s (.returned r) t := by
  obtain ⟨hx, hb, hml, hown, hts, hre, hlk, hfr, hlo, hce, hsl, hvk, hst, had⟩ := cx
  exact ⟨⟨r, σ, rfl, h, by rw [ht]; exact hP, hvk.warm hW, hst.to hW.alike (by rw [ht]; exact hS.2.1), had⟩, hS.F ht⟩
theorem J_iret (cx : Cx M X own cc nL (some .int) lvl) {Qi : Int32 → PI → Prop} {v : Int32} (d : decode cc pc = .ok (.ireturn, 1)) (h : Qi v σ) : J M X (QF M X (qI Qi)) σ pc L [.int v] := by
  obtain ⟨p, l, e, R, s, m, args, below, meth, c0, cells, slots⟩ := M
  intro H locs ls hP hS hl
  exact W.iret cx.1 cx.2.1 cx.2.2.2.2.2.1 (J_end cx hP hS ⟨v, rfl, h⟩) hS.2.2 d cx.2.2.2.2.2.2.1
theorem J_zret (cx : Cx M X own cc nL (some .boolean) lvl) {Qi : Int32 → PI → Prop} {v : Int32} (d : decode cc pc = .ok (.ireturn, 1)) (hv : bz v) (h : Qi v σ) : J M X (QF M X (qI Qi)) σ pc L [.int v] := by
  obtain ⟨p, l, e, R, s, m, args, below, meth, c0, cells, slots⟩ := M
  intro H locs ls hP hS hl
  exact W.zret cx.1 cx.2.1 cx.2.2.2.2.2.1 (by rcases hv with rfl | rfl <;> decide) (J_end cx hP hS ⟨v, rfl, h⟩) hS.2.2 d cx.2.2.2.2.2.2.1
theorem J_lret (cx : Cx M X own cc nL (some .long) lvl) {Qi : Int64 → PI → Prop} {v : Int64} (d : decode cc pc = .ok (.lreturn, 1)) (h : Qi v σ) : J M X (QF M X (qL Qi)) σ pc L [.long v] := by
  obtain ⟨p, l, e, R, s, m, args, below, meth, c0, cells, slots⟩ := M
  intro H locs ls hP hS hl
  exact W.lret cx.1 cx.2.1 cx.2.2.2.2.2.1 (J_end cx hP hS ⟨v, rfl, h⟩) hS.2.2 d cx.2.2.2.2.2.2.1
theorem J_vret (cx : Cx M X own cc nL none lvl) {Qi : PI → Prop} (d : decode cc pc = .ok (.return_, 1)) (h : Qi σ) : J M X (QF M X (qV Qi)) σ pc L [] := by
  obtain ⟨p, l, e, R, s, m, args, below, meth, c0, cells, slots⟩ := M
  intro H locs ls hP hS hl
  exact W.vret cx.1 cx.2.1 cx.2.2.2.2.2.1 (J_end cx hP hS ⟨rfl, h⟩) hS.2.2 d cx.2.2.2.2.2.2.1
/-! ===== a method's contract out of its walk ===== -/
theorem Ct_of {l : Launch} {y : MethodName} {as : List Value} {Qr : Option Value → PI → Prop} (hy : plainName y.cls = true) (hn : (lg_sl as).length ≤ nL) (hL : en 0 L = lv_args 0 as) (body : ∀ M : MC, M.2.1 = l → Cx M X y.cls cc nL ret lvl → J M X (QF M X Qr) σ 0 L []) : Ct l y cc nL ret lvl X as σ Qr := by
  refine Met.ofW (cc := cc) (maxL := nL) (ret := ret) hy rfl ?_
  intro p e s m args below meth c s₁ B hml hv
  obtain ⟨rfl, hP, hvk, hst, had⟩ := hv
  have hts := atoms_spec (ws := Cond.code y cc nL ret :: gt) B.pre
  have hl := lv_entry as hn
  rw [lg_entry_eq]
  generalize (lg_sl as ++ List.replicate (nL - (lg_sl as).length) Slot.unset).toArray = ls at hl ⊢
  refine body (p, l, e, rmL lvl, s, m, as.toArray, below, meth, c, 0, 0) rfl ⟨B.exec, B.bytes, hml, findClass_of_methodNamed B.named, fun w hw => hts w (List.mem_cons_of_mem _ hw), B.returns, B.notSynchronized, Nat.le_refl _, Nat.le_refl _, Nat.le_refl _, Nat.le_refl _, hvk, hst, had⟩ s.heap [] ls hP va_S.rf ?_
  rw [hL, hml]
  exact hl
/-! ===== calls ===== -/
theorem J_run {p : Program} {l : Launch} {e : Env} {R : Room} {s : State} {m : MethodId} {args : Array Value} {below : List Frame} {meth : Method} {c : Code} {cells slots : Nat} {H : Heap} {locs : List Loc} {ls : Array Slot} {a : Array Value} {Qr : Option Value → PI → Prop} (hS : va_S X.2.2.2.2 s.heap H locs) (hl : lv_has ls c.maxLocals (en 0 L))
    (hr : va_Run p l e R s m args below meth c H locs cells slots 0 0 (F0 m pc ls st) rest (QcO X Qr a) X.2.2.2.2) (k : ∀ r τ, Qr r τ → J (p, l, e, R, s, m, args, below, meth, c, cells, slots) X Q τ (pc + 3) L (r.toList ++ rest)) : W p l e R s m args below meth c H locs cells slots Q (F0 m pc ls st) := by
  intro T hT X0
  obtain ⟨v, st₀, t, T', Lc, h0, X', hL, e1, e2, ⟨⟨r, τ, hv, hq, hw⟩, hz, hk⟩, stp⟩ := hr T hT X0
  cases hv
  rw [h0] at hz hk
  obtain ⟨t2, a1, b1⟩ := k v τ hq T'.heap (locs ++ Lc) ls (by rw [e1]; exact hw.1) ⟨Nat.le_trans hS.1 (by rw [e1]; exact hz), fun q h1 h2 => by rw [e1, hk q (Nat.lt_of_lt_of_le h1 hS.1) h2]; exact hS.2.1 q h1 h2, fun q hq => by
      rcases List.mem_append.mp hq with h | h
      · exact hS.2.2 q h
      · exact hL q h⟩ hl T' rfl X'
  exact ⟨t2, stp t2 a1, b1⟩
/-- a call's words: number idx of class own calls y, of n arguments -/
def cV (own : String) (idx : Nat) (y : MethodName) (c2 : ByteArray) (n2 : Nat) (r2 : Option FieldType) (n c : Nat) : Prop := Cond.methodLink own idx y ∈ gt ∧ Cond.instanceMethod y ∈ gt ∧ Cond.selects y.cls y y ∈ gt ∧ Cond.initialized y.cls ∈ gt ∧ Cond.code y c2 n2 r2 ∈ gt ∧ (y.cls ≠ "java/lang/invoke/MethodHandle" ∧ y.cls ≠ "java/lang/invoke/VarHandle") ∧ (parseMethodDescriptor y.desc).map (fun d => d.parameters.length) = some n ∧ n2 ≤ 40 ∧ ∃ T N, vwCl[c]? = some (y.cls, T, N)
def cS (own : String) (idx : Nat) (y : MethodName) (c2 : ByteArray) (n2 : Nat) (r2 : Option FieldType) (n : Nat) : Prop := Cond.methodLink own idx y ∈ gt ∧ Cond.static y ∈ gt ∧ y.cls = own ∧ Cond.initialized y.cls ∈ gt ∧ Cond.code y c2 n2 r2 ∈ gt ∧ (y.cls ≠ "java/lang/invoke/MethodHandle" ∧ y.cls ≠ "java/lang/invoke/VarHandle") ∧ (parseMethodDescriptor y.desc).map (fun d => d.parameters.length) = some n ∧ n2 ≤ 40
def cN (own : String) (idx : Nat) (y : MethodName) (c2 : ByteArray) (n2 : Nat) (r2 : Option FieldType) (n : Nat) : Prop := Cond.methodLinkNest own idx y "LeftAlone" ∈ nestW ∧ Cond.static y ∈ gt ∧ Cond.initialized y.cls ∈ gt ∧ Cond.code y c2 n2 r2 ∈ gt ∧ (y.cls ≠ "java/lang/invoke/MethodHandle" ∧ y.cls ≠ "java/lang/invoke/VarHandle") ∧ (parseMethodDescriptor y.desc).map (fun d => d.parameters.length) = some n ∧ n2 ≤ 40
variable {y : MethodName} {c2 : ByteArray} {n2 idx n i c lv2 : Nat} {r2 : Option FieldType} {Qr : Option Value → PI → Prop} {As : List Value}
theorem J_cV (cx : Cx M X own cc nL ret lvl) (d : decode cc pc = .ok (.invokevirtual idx, 3)) (hw : cV own idx y c2 n2 r2 n c) (hlv : lv2 < lvl) (hi : i < 289) (hc : (kq i).1 = c) (hM : Ct M.2.1 y c2 n2 r2 lv2 X (.ref (X.1 i) :: As) σ Qr) (hn : As.length = n) (hst : st = As.reverse ++ .ref (X.1 i) :: rest) (hrs : (rest.map fun v => v.category).sum ≤ 8) (k : ∀ r τ, Qr r τ → J M X Q τ (pc + 3) L (r.toList ++ rest)) : J M X Q σ pc L st := by
  obtain ⟨p, l, e, R, s, m, args, below, meth, c0, cells, slots⟩ := M
  obtain ⟨hx, hb, hml, hown, hts, hre, hlk, hfr, hlo, hce, hsl, hvk, hstt, had⟩ := cx
  obtain ⟨w1, w2, w3, w4, w5, w6, w7, w8, T, N, w9⟩ := hw
  intro H locs ls hP hS hl
  obtain ⟨-, -, -, -, h6⟩ := cl_ok _ _ _ _ w9
  refine J_run hS hl (va_runV (C := y.cls) (As := As) (b := X.1 i) ⟨hx, hb, hml, hown, hts⟩ hM (cwV n hts ?_ rfl rfl rfl ⟨rfl, w6.1, w6.2, w7⟩ ⟨?_, ?_⟩) ⟨fun a U g mk q => ⟨q.1, q.2.calling⟩, va_recv hvk.1 hP w9 (wl_o hi hc h6), fun U hU hW => ⟨rfl, by rw [hU]; exact hP, hvk.warm hW, hstt.to hW.alike (by rw [hU]; exact hS.2.1), had⟩⟩ rfl hn (hl.1.trans hml) hst (lv_room hrs) d ⟨hce, hsl⟩) k
  · intro w h
    have hwg : w ∈ gt := by
      simp only [wsV, List.mem_append, List.mem_cons, List.not_mem_nil, or_false] at h
      rcases h with (h | h | h | h) | h | h
      · rw [h]; exact w1
      · rw [h]; exact w2
      · rw [h]; exact w3
      · rw [h]; exact w4
      · rw [h]; exact w5
      · exact h
    exact ⟨hwg, good_of_word (gt_good hwg)⟩
  · show lv2 + 1 ≤ R.frames
    omega
  · show 8 + (n2 + 11) + 64 * lv2 ≤ R.locals
    omega
theorem J_cS (cx : Cx M X own cc nL ret lvl) (d : decode cc pc = .ok (.invokestatic idx, 3)) (hw : cS own idx y c2 n2 r2 n) (hlv : lv2 < lvl) (hM : Ct M.2.1 y c2 n2 r2 lv2 X As σ Qr) (hn : As.length = n) (hst : st = As.reverse ++ rest) (hrs : (rest.map fun v => v.category).sum ≤ 8) (k : ∀ r τ, Qr r τ → J M X Q τ (pc + 3) L (r.toList ++ rest)) : J M X Q σ pc L st := by
  obtain ⟨p, l, e, R, s, m, args, below, meth, c0, cells, slots⟩ := M
  obtain ⟨hx, hb, hml, hown, hts, hre, hlk, hfr, hlo, hce, hsl, hvk, hstt, had⟩ := cx
  obtain ⟨w1, w2, w3, w4, w5, w6, w7, w8⟩ := hw
  intro H locs ls hP hS hl
  refine J_run hS hl (va_runS (As := As) ⟨hx, hb, hml, hown, hts⟩ hM (cwS n hts ?_ rfl rfl rfl ⟨w3, w6.1, w6.2, w7⟩ ⟨?_, ?_⟩) ⟨fun a U g mk q => ⟨q.1, q.2.calling⟩, fun U hU hW => ⟨rfl, by rw [hU]; exact hP, hvk.warm hW, hstt.to hW.alike (by rw [hU]; exact hS.2.1), had⟩⟩ rfl hn (hl.1.trans hml) hst (lv_room hrs) d ⟨hce, hsl⟩) k
  · intro w h
    have hwg : w ∈ gt := by
      simp only [wsS, List.mem_append, List.mem_cons, List.not_mem_nil, or_false] at h
      rcases h with (h | h | h) | h | h
      · rw [h]; exact w1
      · rw [h]; exact w2
      · rw [h, ← w3]; exact w4
      · rw [h]; exact w5
      · exact h
    exact ⟨hwg, good_of_word (gt_good hwg)⟩
  · show lv2 + 1 ≤ R.frames
    omega
  · show 8 + (n2 + 11) + 64 * lv2 ≤ R.locals
    omega
theorem J_cN (cx : Cx M X own cc nL ret lvl) (d : decode cc pc = .ok (.invokestatic idx, 3)) (hw : cN own idx y c2 n2 r2 n) (hlv : lv2 < lvl) (hM : Ct M.2.1 y c2 n2 r2 lv2 X As σ Qr) (hn : As.length = n) (hst : st = As.reverse ++ rest) (hrs : (rest.map fun v => v.category).sum ≤ 8) (k : ∀ r τ, Qr r τ → J M X Q τ (pc + 3) L (r.toList ++ rest)) : J M X Q σ pc L st := by
  obtain ⟨p, l, e, R, s, m, args, below, meth, c0, cells, slots⟩ := M
  obtain ⟨hx, hb, hml, hown, hts, hre, hlk, hfr, hlo, hce, hsl, hvk, hstt, had⟩ := cx
  obtain ⟨w1, w2, w4, w5, w6, w7, w8⟩ := hw
  intro H locs ls hP hS hl
  refine J_run hS hl (va_runSN (As := As) ⟨hx, hb, hml, hown, hts⟩ hM ⟨va_cnB n hts (gt_in w5) rfl rfl rfl (hvk.2 _ w1) (hts _ w4) ⟨w6.1, w6.2, w7⟩ ⟨?_, ?_⟩, hts _ w2, trivial⟩ ⟨fun a U g mk q => ⟨q.1, q.2.calling⟩, fun U hU hW => ⟨rfl, by rw [hU]; exact hP, hvk.warm hW, hstt.to hW.alike (by rw [hU]; exact hS.2.1), had⟩⟩ rfl hn (hl.1.trans hml) hst (lv_room hrs) d ⟨hce, hsl⟩) k
  · show lv2 + 1 ≤ R.frames
    omega
  · show 8 + (n2 + 11) + 64 * lv2 ≤ R.locals
    omega
theorem k_i {Qi : Int32 → PI → Prop} (k : ∀ v τ, Qi v τ → J M X Q τ pc L (.int v :: rest)) : ∀ r τ, qI Qi r τ → J M X Q τ pc L (r.toList ++ rest) := by
  rintro r τ ⟨v, rfl, h⟩
  exact k v τ h
theorem k_l {Qi : Int64 → PI → Prop} (k : ∀ v τ, Qi v τ → J M X Q τ pc L (.long v :: rest)) : ∀ r τ, qL Qi r τ → J M X Q τ pc L (r.toList ++ rest) := by
  rintro r τ ⟨v, rfl, h⟩
  exact k v τ h
theorem k_v {Qi : PI → Prop} (k : ∀ τ, Qi τ → J M X Q τ pc L rest) : ∀ r τ, qV Qi r τ → J M X Q τ pc L (r.toList ++ rest) := by
  rintro r τ ⟨rfl, h⟩
  exact k τ h
theorem J_mmax (cx : Cx M X own cc nL ret lvl) {x z : Int32} (d : decode cc pc = .ok (.invokestatic idx, 3)) (hlv : 0 < lvl) (hrs : (rest.map fun v => v.category).sum ≤ 8) (w1 : Cond.methodLink own idx Lib.Math.max.name ∈ gt) (w2 : Cond.static Lib.Math.max.name ∈ gt) (w3 : Cond.code Lib.Math.max.name Lib.Math.max.code 2 (some .int) ∈ gt) (k : J M X Q σ (pc + 3) L (.int (if x < z then z else x) :: rest)) : J M X Q σ pc L (.int z :: .int x :: rest) := by
  obtain ⟨p, l, e, R, s, m, args, below, meth, c0, cells, slots⟩ := M
  obtain ⟨hx, hb, hml, hown, hts, hre, hlk, hfr, hlo, hce, hsl, hvk, hstt, had⟩ := cx
  intro H locs ls hP hS hl
  exact va_mmax hx hb hl.1.symm hown (hts _ w1) (hts _ w2) (hts _ (gt_tb 8 (by decide +kernel) (by decide +kernel))) (hts _ w3) (by omega) (by omega) hce hsl d (k H locs ls hP hS hl)
theorem J_mmin (cx : Cx M X own cc nL ret lvl) {x z : Int32} (d : decode cc pc = .ok (.invokestatic idx, 3)) (hlv : 0 < lvl) (hrs : (rest.map fun v => v.category).sum ≤ 8) (w1 : Cond.methodLink own idx Lib.Math.min.name ∈ gt) (w2 : Cond.static Lib.Math.min.name ∈ gt) (w3 : Cond.code Lib.Math.min.name Lib.Math.min.code 2 (some .int) ∈ gt) (k : J M X Q σ (pc + 3) L (.int (if z < x then z else x) :: rest)) : J M X Q σ pc L (.int z :: .int x :: rest) := by
  obtain ⟨p, l, e, R, s, m, args, below, meth, c0, cells, slots⟩ := M
  obtain ⟨hx, hb, hml, hown, hts, hre, hlk, hfr, hlo, hce, hsl, hvk, hstt, had⟩ := cx
  intro H locs ls hP hS hl
  exact va_mmin hx hb hl.1.symm hown (hts _ w1) (hts _ w2) (hts _ (gt_tb 8 (by decide +kernel) (by decide +kernel))) (hts _ w3) (by omega) (by omega) hce hsl d (k H locs ls hP hS hl)
theorem J_lmax (cx : Cx M X own cc nL ret lvl) {x z : Int64} (d : decode cc pc = .ok (.invokestatic idx, 3)) (hlv : 0 < lvl) (hrs : (rest.map fun v => v.category).sum ≤ 8) (w1 : Cond.methodLink own idx Lib.MathLoose.max_long.x ∈ gt) (w2 : Cond.static Lib.MathLoose.max_long.x ∈ gt) (w3 : Cond.code Lib.MathLoose.max_long.x Lib.MathLoose.max_long.code 4 (some .long) ∈ gt) (k : J M X Q σ (pc + 3) L (.long (if z < x then x else z) :: rest)) : J M X Q σ pc L (.long z :: .long x :: rest) := by
  obtain ⟨p, l, e, R, s, m, args, below, meth, c0, cells, slots⟩ := M
  obtain ⟨hx, hb, hml, hown, hts, hre, hlk, hfr, hlo, hce, hsl, hvk, hstt, had⟩ := cx
  intro H locs ls hP hS hl
  exact va_mmax_long hx hb hl.1.symm hown (hts _ w1) (hts _ w2) (hts _ (gt_tb 8 (by decide +kernel) (by decide +kernel))) (hts _ w3) (by omega) (by omega) hce hsl d (k H locs ls hP hS hl)
end JH
end
