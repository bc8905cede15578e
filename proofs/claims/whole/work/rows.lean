section
-- ===== PART A: goes FIRST, ahead of the names: the tables' words, and 'selects' of the private methods out of them =====
/-- a private method of a class that the tables say can be made, by its rows of tables_1 -/
def lw_okq (q : MethodName × Nat) : Prop := (q.1.cls ≠ "java/lang/invoke/MethodHandle" ∧ q.1.cls ≠ "java/lang/invoke/VarHandle") ∧ Cond.instantiable q.1.cls q.2 ∈ tables_1 ∧ Cond.privateMethod q.1 ∈ tables_1 ∧ Cond.instanceMethod q.1 ∈ tables_1
theorem lw_p0 : lw_okq (⟨"SumOfTwoThatStand$Street", "place", "(IIIII)V"⟩, 11) := ⟨⟨by decide +kernel, by decide +kernel⟩, List.mem_of_getElem? (i := 27) (by decide +kernel), List.mem_of_getElem? (i := 37) (by decide +kernel), List.mem_of_getElem? (i := 38) (by decide +kernel)⟩
theorem lw_p1 : lw_okq (⟨"SumOfTwoThatStand", "refuse", "(I)I"⟩, 10) := ⟨⟨by decide +kernel, by decide +kernel⟩, List.mem_of_getElem? (i := 19) (by decide +kernel), List.mem_of_getElem? (i := 189) (by decide +kernel), List.mem_of_getElem? (i := 190) (by decide +kernel)⟩
theorem lw_p2 : lw_okq (⟨"SumOfTwoThatStand$Letters", "readStatement", "()Z"⟩, 7) := ⟨⟨by decide +kernel, by decide +kernel⟩, List.mem_of_getElem? (i := 80) (by decide +kernel), List.mem_of_getElem? (i := 227) (by decide +kernel), List.mem_of_getElem? (i := 228) (by decide +kernel)⟩
theorem lw_p3 : lw_okq (⟨"SumOfTwoThatStand$Letters", "readPart", "(C)Z"⟩, 7) := ⟨⟨by decide +kernel, by decide +kernel⟩, List.mem_of_getElem? (i := 80) (by decide +kernel), List.mem_of_getElem? (i := 297) (by decide +kernel), List.mem_of_getElem? (i := 298) (by decide +kernel)⟩
theorem lw_p4 : lw_okq (⟨"SumOfTwoThatStand$Letters", "readFigure", "(I)Z"⟩, 7) := ⟨⟨by decide +kernel, by decide +kernel⟩, List.mem_of_getElem? (i := 80) (by decide +kernel), List.mem_of_getElem? (i := 301) (by decide +kernel), List.mem_of_getElem? (i := 302) (by decide +kernel)⟩
theorem lw_p5 : lw_okq (⟨"SumOfTwoThatStand$Letters", "comesTo", "(LSumOfTwoThatStand$Street;)Z"⟩, 7) := ⟨⟨by decide +kernel, by decide +kernel⟩, List.mem_of_getElem? (i := 80) (by decide +kernel), List.mem_of_getElem? (i := 312) (by decide +kernel), List.mem_of_getElem? (i := 313) (by decide +kernel)⟩
theorem lw_p6 : lw_okq (⟨"SumOfTwoThatStand$Street", "isLawful", "(II)Z"⟩, 11) := ⟨⟨by decide +kernel, by decide +kernel⟩, List.mem_of_getElem? (i := 27) (by decide +kernel), List.mem_of_getElem? (i := 338) (by decide +kernel), List.mem_of_getElem? (i := 339) (by decide +kernel)⟩
theorem lw_p7 : lw_okq (⟨"SumOfTwoThatStand$Street", "lends", "(II)Z"⟩, 11) := ⟨⟨by decide +kernel, by decide +kernel⟩, List.mem_of_getElem? (i := 27) (by decide +kernel), List.mem_of_getElem? (i := 346) (by decide +kernel), List.mem_of_getElem? (i := 347) (by decide +kernel)⟩
theorem lw_p8 : lw_okq (⟨"SumOfTwoThatStand$Street", "use", "(I)V"⟩, 11) := ⟨⟨by decide +kernel, by decide +kernel⟩, List.mem_of_getElem? (i := 27) (by decide +kernel), List.mem_of_getElem? (i := 354) (by decide +kernel), List.mem_of_getElem? (i := 355) (by decide +kernel)⟩
theorem lw_p9 : lw_okq (⟨"SumOfTwoThatStand$Street", "loseHut", "(I)V"⟩, 11) := ⟨⟨by decide +kernel, by decide +kernel⟩, List.mem_of_getElem? (i := 27) (by decide +kernel), List.mem_of_getElem? (i := 362) (by decide +kernel), List.mem_of_getElem? (i := 363) (by decide +kernel)⟩
theorem lw_p10 : lw_okq (⟨"SumOfTwoThatStand", "comesNextButOne", "(I)Z"⟩, 10) := ⟨⟨by decide +kernel, by decide +kernel⟩, List.mem_of_getElem? (i := 19) (by decide +kernel), List.mem_of_getElem? (i := 550) (by decide +kernel), List.mem_of_getElem? (i := 551) (by decide +kernel)⟩
theorem lw_p11 : lw_okq (⟨"SumOfTwoThatStand$Orders", "letNextCome", "(LSumOfTwoThatStand$Street;II)V"⟩, 1) := ⟨⟨by decide +kernel, by decide +kernel⟩, List.mem_of_getElem? (i := 133) (by decide +kernel), List.mem_of_getElem? (i := 566) (by decide +kernel), List.mem_of_getElem? (i := 567) (by decide +kernel)⟩
theorem lw_p12 : lw_okq (⟨"SumOfTwoThatStand$Street", "bitOf", "(I)I"⟩, 11) := ⟨⟨by decide +kernel, by decide +kernel⟩, List.mem_of_getElem? (i := 27) (by decide +kernel), List.mem_of_getElem? (i := 574) (by decide +kernel), List.mem_of_getElem? (i := 575) (by decide +kernel)⟩
theorem lw_p13 : lw_okq (⟨"SumOfTwoThatStand$Game", "isWon", "(II)Z"⟩, 1) := ⟨⟨by decide +kernel, by decide +kernel⟩, List.mem_of_getElem? (i := 143) (by decide +kernel), List.mem_of_getElem? (i := 586) (by decide +kernel), List.mem_of_getElem? (i := 587) (by decide +kernel)⟩
theorem lw_p14 : lw_okq (⟨"SumOfTwoThatStand$Row", "isNew", "(I)Z"⟩, 2) := ⟨⟨by decide +kernel, by decide +kernel⟩, List.mem_of_getElem? (i := 114) (by decide +kernel), List.mem_of_getElem? (i := 617) (by decide +kernel), List.mem_of_getElem? (i := 618) (by decide +kernel)⟩
theorem lw_p15 : lw_okq (⟨"SumOfTwoThatStand$Row", "isSum", "(I)Z"⟩, 2) := ⟨⟨by decide +kernel, by decide +kernel⟩, List.mem_of_getElem? (i := 114) (by decide +kernel), List.mem_of_getElem? (i := 621) (by decide +kernel), List.mem_of_getElem? (i := 622) (by decide +kernel)⟩
def lw_privs_1 : List (MethodName × Nat) := [(⟨"SumOfTwoThatStand$Street", "place", "(IIIII)V"⟩, 11), (⟨"SumOfTwoThatStand", "refuse", "(I)I"⟩, 10), (⟨"SumOfTwoThatStand$Letters", "readStatement", "()Z"⟩, 7), (⟨"SumOfTwoThatStand$Letters", "readPart", "(C)Z"⟩, 7), (⟨"SumOfTwoThatStand$Letters", "readFigure", "(I)Z"⟩, 7), (⟨"SumOfTwoThatStand$Letters", "comesTo", "(LSumOfTwoThatStand$Street;)Z"⟩, 7), (⟨"SumOfTwoThatStand$Street", "isLawful", "(II)Z"⟩, 11), (⟨"SumOfTwoThatStand$Street", "lends", "(II)Z"⟩, 11), (⟨"SumOfTwoThatStand$Street", "use", "(I)V"⟩, 11), (⟨"SumOfTwoThatStand$Street", "loseHut", "(I)V"⟩, 11), (⟨"SumOfTwoThatStand", "comesNextButOne", "(I)Z"⟩, 10), (⟨"SumOfTwoThatStand$Orders", "letNextCome", "(LSumOfTwoThatStand$Street;II)V"⟩, 1), (⟨"SumOfTwoThatStand$Street", "bitOf", "(I)I"⟩, 11), (⟨"SumOfTwoThatStand$Game", "isWon", "(II)Z"⟩, 1), (⟨"SumOfTwoThatStand$Row", "isNew", "(I)Z"⟩, 2), (⟨"SumOfTwoThatStand$Row", "isSum", "(I)Z"⟩, 2)]
theorem lw_r1 : ∀ q ∈ lw_privs_1, lw_okq q := List.forall_mem_cons.mpr ⟨lw_p0, List.forall_mem_cons.mpr ⟨lw_p1, List.forall_mem_cons.mpr ⟨lw_p2, List.forall_mem_cons.mpr ⟨lw_p3, List.forall_mem_cons.mpr ⟨lw_p4, List.forall_mem_cons.mpr ⟨lw_p5, List.forall_mem_cons.mpr ⟨lw_p6, List.forall_mem_cons.mpr ⟨lw_p7, List.forall_mem_cons.mpr ⟨lw_p8, List.forall_mem_cons.mpr ⟨lw_p9, List.forall_mem_cons.mpr ⟨lw_p10, List.forall_mem_cons.mpr ⟨lw_p11, List.forall_mem_cons.mpr ⟨lw_p12, List.forall_mem_cons.mpr ⟨lw_p13, List.forall_mem_cons.mpr ⟨lw_p14, List.forall_mem_cons.mpr ⟨lw_p15, fun _ h => absurd h List.not_mem_nil⟩⟩⟩⟩⟩⟩⟩⟩⟩⟩⟩⟩⟩⟩⟩⟩
theorem lw_p16 : lw_okq (⟨"SumOfTwoThatStandModel", "beginsAnew", "()V"⟩, 33) := ⟨⟨by decide +kernel, by decide +kernel⟩, List.mem_of_getElem? (i := 670) (by decide +kernel), List.mem_of_getElem? (i := 676) (by decide +kernel), List.mem_of_getElem? (i := 677) (by decide +kernel)⟩
theorem lw_p17 : lw_okq (⟨"SumOfTwoThatStandModel", "isMore", "(IIIII)V"⟩, 33) := ⟨⟨by decide +kernel, by decide +kernel⟩, List.mem_of_getElem? (i := 670) (by decide +kernel), List.mem_of_getElem? (i := 680) (by decide +kernel), List.mem_of_getElem? (i := 681) (by decide +kernel)⟩
theorem lw_p18 : lw_okq (⟨"SumOfTwoThatStandModel", "no", "(I)I"⟩, 33) := ⟨⟨by decide +kernel, by decide +kernel⟩, List.mem_of_getElem? (i := 670) (by decide +kernel), List.mem_of_getElem? (i := 791) (by decide +kernel), List.mem_of_getElem? (i := 792) (by decide +kernel)⟩
theorem lw_p19 : lw_okq (⟨"SumOfTwoThatStandModel", "statement", "()Z"⟩, 33) := ⟨⟨by decide +kernel, by decide +kernel⟩, List.mem_of_getElem? (i := 670) (by decide +kernel), List.mem_of_getElem? (i := 799) (by decide +kernel), List.mem_of_getElem? (i := 800) (by decide +kernel)⟩
theorem lw_p20 : lw_okq (⟨"SumOfTwoThatStandModel", "sign", "()I"⟩, 33) := ⟨⟨by decide +kernel, by decide +kernel⟩, List.mem_of_getElem? (i := 670) (by decide +kernel), List.mem_of_getElem? (i := 803) (by decide +kernel), List.mem_of_getElem? (i := 804) (by decide +kernel)⟩
theorem lw_p21 : lw_okq (⟨"SumOfTwoThatStandModel", "readsAll", "(I)Z"⟩, 33) := ⟨⟨by decide +kernel, by decide +kernel⟩, List.mem_of_getElem? (i := 670) (by decide +kernel), List.mem_of_getElem? (i := 807) (by decide +kernel), List.mem_of_getElem? (i := 808) (by decide +kernel)⟩
theorem lw_p22 : lw_okq (⟨"SumOfTwoThatStandModel", "readsNumber", "(I)Z"⟩, 33) := ⟨⟨by decide +kernel, by decide +kernel⟩, List.mem_of_getElem? (i := 670) (by decide +kernel), List.mem_of_getElem? (i := 811) (by decide +kernel), List.mem_of_getElem? (i := 812) (by decide +kernel)⟩
theorem lw_p23 : lw_okq (⟨"SumOfTwoThatStandModel", "reads", "(I)Z"⟩, 33) := ⟨⟨by decide +kernel, by decide +kernel⟩, List.mem_of_getElem? (i := 670) (by decide +kernel), List.mem_of_getElem? (i := 818) (by decide +kernel), List.mem_of_getElem? (i := 819) (by decide +kernel)⟩
theorem lw_p24 : lw_okq (⟨"SumOfTwoThatStandModel", "passesAll", "(IZ)V"⟩, 33) := ⟨⟨by decide +kernel, by decide +kernel⟩, List.mem_of_getElem? (i := 670) (by decide +kernel), List.mem_of_getElem? (i := 822) (by decide +kernel), List.mem_of_getElem? (i := 823) (by decide +kernel)⟩
theorem lw_p25 : lw_okq (⟨"SumOfTwoThatStandModel", "passes", "([I)V"⟩, 33) := ⟨⟨by decide +kernel, by decide +kernel⟩, List.mem_of_getElem? (i := 670) (by decide +kernel), List.mem_of_getElem? (i := 826) (by decide +kernel), List.mem_of_getElem? (i := 827) (by decide +kernel)⟩
theorem lw_p26 : lw_okq (⟨"SumOfTwoThatStandModel", "passOne", "(I)I"⟩, 33) := ⟨⟨by decide +kernel, by decide +kernel⟩, List.mem_of_getElem? (i := 670) (by decide +kernel), List.mem_of_getElem? (i := 830) (by decide +kernel), List.mem_of_getElem? (i := 831) (by decide +kernel)⟩
theorem lw_p27 : lw_okq (⟨"SumOfTwoThatStandModel", "comesTold", "(I)Z"⟩, 33) := ⟨⟨by decide +kernel, by decide +kernel⟩, List.mem_of_getElem? (i := 670) (by decide +kernel), List.mem_of_getElem? (i := 834) (by decide +kernel), List.mem_of_getElem? (i := 835) (by decide +kernel)⟩
theorem lw_p28 : lw_okq (⟨"SumOfTwoThatStandModel", "comesNew", "(I)Z"⟩, 33) := ⟨⟨by decide +kernel, by decide +kernel⟩, List.mem_of_getElem? (i := 670) (by decide +kernel), List.mem_of_getElem? (i := 838) (by decide +kernel), List.mem_of_getElem? (i := 839) (by decide +kernel)⟩
theorem lw_p29 : lw_okq (⟨"SumOfTwoThatStandModel", "doesStand", "(I)Z"⟩, 33) := ⟨⟨by decide +kernel, by decide +kernel⟩, List.mem_of_getElem? (i := 670) (by decide +kernel), List.mem_of_getElem? (i := 842) (by decide +kernel), List.mem_of_getElem? (i := 843) (by decide +kernel)⟩
theorem lw_p30 : lw_okq (⟨"SumOfTwoThatStandModel", "isHouse", "(I)Z"⟩, 33) := ⟨⟨by decide +kernel, by decide +kernel⟩, List.mem_of_getElem? (i := 670) (by decide +kernel), List.mem_of_getElem? (i := 846) (by decide +kernel), List.mem_of_getElem? (i := 847) (by decide +kernel)⟩
theorem lw_p31 : lw_okq (⟨"SumOfTwoThatStandModel", "mayBe", "(II)Z"⟩, 33) := ⟨⟨by decide +kernel, by decide +kernel⟩, List.mem_of_getElem? (i := 670) (by decide +kernel), List.mem_of_getElem? (i := 850) (by decide +kernel), List.mem_of_getElem? (i := 851) (by decide +kernel)⟩
def lw_privs_2 : List (MethodName × Nat) := [(⟨"SumOfTwoThatStandModel", "beginsAnew", "()V"⟩, 33), (⟨"SumOfTwoThatStandModel", "isMore", "(IIIII)V"⟩, 33), (⟨"SumOfTwoThatStandModel", "no", "(I)I"⟩, 33), (⟨"SumOfTwoThatStandModel", "statement", "()Z"⟩, 33), (⟨"SumOfTwoThatStandModel", "sign", "()I"⟩, 33), (⟨"SumOfTwoThatStandModel", "readsAll", "(I)Z"⟩, 33), (⟨"SumOfTwoThatStandModel", "readsNumber", "(I)Z"⟩, 33), (⟨"SumOfTwoThatStandModel", "reads", "(I)Z"⟩, 33), (⟨"SumOfTwoThatStandModel", "passesAll", "(IZ)V"⟩, 33), (⟨"SumOfTwoThatStandModel", "passes", "([I)V"⟩, 33), (⟨"SumOfTwoThatStandModel", "passOne", "(I)I"⟩, 33), (⟨"SumOfTwoThatStandModel", "comesTold", "(I)Z"⟩, 33), (⟨"SumOfTwoThatStandModel", "comesNew", "(I)Z"⟩, 33), (⟨"SumOfTwoThatStandModel", "doesStand", "(I)Z"⟩, 33), (⟨"SumOfTwoThatStandModel", "isHouse", "(I)Z"⟩, 33), (⟨"SumOfTwoThatStandModel", "mayBe", "(II)Z"⟩, 33)]
theorem lw_r2 : ∀ q ∈ lw_privs_2, lw_okq q := List.forall_mem_cons.mpr ⟨lw_p16, List.forall_mem_cons.mpr ⟨lw_p17, List.forall_mem_cons.mpr ⟨lw_p18, List.forall_mem_cons.mpr ⟨lw_p19, List.forall_mem_cons.mpr ⟨lw_p20, List.forall_mem_cons.mpr ⟨lw_p21, List.forall_mem_cons.mpr ⟨lw_p22, List.forall_mem_cons.mpr ⟨lw_p23, List.forall_mem_cons.mpr ⟨lw_p24, List.forall_mem_cons.mpr ⟨lw_p25, List.forall_mem_cons.mpr ⟨lw_p26, List.forall_mem_cons.mpr ⟨lw_p27, List.forall_mem_cons.mpr ⟨lw_p28, List.forall_mem_cons.mpr ⟨lw_p29, List.forall_mem_cons.mpr ⟨lw_p30, List.forall_mem_cons.mpr ⟨lw_p31, fun _ h => absurd h List.not_mem_nil⟩⟩⟩⟩⟩⟩⟩⟩⟩⟩⟩⟩⟩⟩⟩⟩
theorem lw_p32 : lw_okq (⟨"SumOfTwoThatStandModel", "lends", "(II)Z"⟩, 33) := ⟨⟨by decide +kernel, by decide +kernel⟩, List.mem_of_getElem? (i := 670) (by decide +kernel), List.mem_of_getElem? (i := 854) (by decide +kernel), List.mem_of_getElem? (i := 855) (by decide +kernel)⟩
theorem lw_p33 : lw_okq (⟨"SumOfTwoThatStandModel", "isThere", "(I)Z"⟩, 33) := ⟨⟨by decide +kernel, by decide +kernel⟩, List.mem_of_getElem? (i := 670) (by decide +kernel), List.mem_of_getElem? (i := 858) (by decide +kernel), List.mem_of_getElem? (i := 859) (by decide +kernel)⟩
theorem lw_p34 : lw_okq (⟨"SumOfTwoThatStandModel", "isLawful", "(II)Z"⟩, 33) := ⟨⟨by decide +kernel, by decide +kernel⟩, List.mem_of_getElem? (i := 670) (by decide +kernel), List.mem_of_getElem? (i := 862) (by decide +kernel), List.mem_of_getElem? (i := 863) (by decide +kernel)⟩
theorem lw_p35 : lw_okq (⟨"SumOfTwoThatStandModel", "latest", "()I"⟩, 33) := ⟨⟨by decide +kernel, by decide +kernel⟩, List.mem_of_getElem? (i := 670) (by decide +kernel), List.mem_of_getElem? (i := 866) (by decide +kernel), List.mem_of_getElem? (i := 867) (by decide +kernel)⟩
theorem lw_p36 : lw_okq (⟨"SumOfTwoThatStandModel", "builds", "(IIII)V"⟩, 33) := ⟨⟨by decide +kernel, by decide +kernel⟩, List.mem_of_getElem? (i := 670) (by decide +kernel), List.mem_of_getElem? (i := 870) (by decide +kernel), List.mem_of_getElem? (i := 871) (by decide +kernel)⟩
theorem lw_p37 : lw_okq (⟨"SumOfTwoThatStandModel", "isUsed", "(I)V"⟩, 33) := ⟨⟨by decide +kernel, by decide +kernel⟩, List.mem_of_getElem? (i := 670) (by decide +kernel), List.mem_of_getElem? (i := 874) (by decide +kernel), List.mem_of_getElem? (i := 875) (by decide +kernel)⟩
theorem lw_p38 : lw_okq (⟨"SumOfTwoThatStandModel", "fee", "(I)I"⟩, 33) := ⟨⟨by decide +kernel, by decide +kernel⟩, List.mem_of_getElem? (i := 670) (by decide +kernel), List.mem_of_getElem? (i := 878) (by decide +kernel), List.mem_of_getElem? (i := 879) (by decide +kernel)⟩
theorem lw_p39 : lw_okq (⟨"SumOfTwoThatStandModel", "comesFire", "(I)Z"⟩, 33) := ⟨⟨by decide +kernel, by decide +kernel⟩, List.mem_of_getElem? (i := 670) (by decide +kernel), List.mem_of_getElem? (i := 882) (by decide +kernel), List.mem_of_getElem? (i := 883) (by decide +kernel)⟩
theorem lw_p40 : lw_okq (⟨"SumOfTwoThatStandModel", "burns", "(I)V"⟩, 33) := ⟨⟨by decide +kernel, by decide +kernel⟩, List.mem_of_getElem? (i := 670) (by decide +kernel), List.mem_of_getElem? (i := 886) (by decide +kernel), List.mem_of_getElem? (i := 887) (by decide +kernel)⟩
theorem lw_p41 : lw_okq (⟨"SumOfTwoThatStandModel", "fallsWith", "(I)Z"⟩, 33) := ⟨⟨by decide +kernel, by decide +kernel⟩, List.mem_of_getElem? (i := 670) (by decide +kernel), List.mem_of_getElem? (i := 890) (by decide +kernel), List.mem_of_getElem? (i := 891) (by decide +kernel)⟩
theorem lw_p42 : lw_okq (⟨"SumOfTwoThatStandModel", "hasFallen", "(I)Z"⟩, 33) := ⟨⟨by decide +kernel, by decide +kernel⟩, List.mem_of_getElem? (i := 670) (by decide +kernel), List.mem_of_getElem? (i := 894) (by decide +kernel), List.mem_of_getElem? (i := 895) (by decide +kernel)⟩
theorem lw_p43 : lw_okq (⟨"SumOfTwoThatStandModel", "comesLaw", "(II)Z"⟩, 33) := ⟨⟨by decide +kernel, by decide +kernel⟩, List.mem_of_getElem? (i := 670) (by decide +kernel), List.mem_of_getElem? (i := 898) (by decide +kernel), List.mem_of_getElem? (i := 899) (by decide +kernel)⟩
theorem lw_p44 : lw_okq (⟨"SumOfTwoThatStandModel", "canBe", "(II)Z"⟩, 33) := ⟨⟨by decide +kernel, by decide +kernel⟩, List.mem_of_getElem? (i := 670) (by decide +kernel), List.mem_of_getElem? (i := 926) (by decide +kernel), List.mem_of_getElem? (i := 927) (by decide +kernel)⟩
theorem lw_p45 : lw_okq (⟨"SumOfTwoThatStandModel", "standing", "()I"⟩, 33) := ⟨⟨by decide +kernel, by decide +kernel⟩, List.mem_of_getElem? (i := 670) (by decide +kernel), List.mem_of_getElem? (i := 938) (by decide +kernel), List.mem_of_getElem? (i := 939) (by decide +kernel)⟩
theorem lw_p46 : lw_okq (⟨"SumOfTwoThatStandModel", "hangsOn", "(I)I"⟩, 33) := ⟨⟨by decide +kernel, by decide +kernel⟩, List.mem_of_getElem? (i := 670) (by decide +kernel), List.mem_of_getElem? (i := 949) (by decide +kernel), List.mem_of_getElem? (i := 950) (by decide +kernel)⟩
theorem lw_p47 : lw_okq (⟨"SumOfTwoThatStandModel", "shortest", "(II)I"⟩, 33) := ⟨⟨by decide +kernel, by decide +kernel⟩, List.mem_of_getElem? (i := 670) (by decide +kernel), List.mem_of_getElem? (i := 961) (by decide +kernel), List.mem_of_getElem? (i := 962) (by decide +kernel)⟩
def lw_privs_3 : List (MethodName × Nat) := [(⟨"SumOfTwoThatStandModel", "lends", "(II)Z"⟩, 33), (⟨"SumOfTwoThatStandModel", "isThere", "(I)Z"⟩, 33), (⟨"SumOfTwoThatStandModel", "isLawful", "(II)Z"⟩, 33), (⟨"SumOfTwoThatStandModel", "latest", "()I"⟩, 33), (⟨"SumOfTwoThatStandModel", "builds", "(IIII)V"⟩, 33), (⟨"SumOfTwoThatStandModel", "isUsed", "(I)V"⟩, 33), (⟨"SumOfTwoThatStandModel", "fee", "(I)I"⟩, 33), (⟨"SumOfTwoThatStandModel", "comesFire", "(I)Z"⟩, 33), (⟨"SumOfTwoThatStandModel", "burns", "(I)V"⟩, 33), (⟨"SumOfTwoThatStandModel", "fallsWith", "(I)Z"⟩, 33), (⟨"SumOfTwoThatStandModel", "hasFallen", "(I)Z"⟩, 33), (⟨"SumOfTwoThatStandModel", "comesLaw", "(II)Z"⟩, 33), (⟨"SumOfTwoThatStandModel", "canBe", "(II)Z"⟩, 33), (⟨"SumOfTwoThatStandModel", "standing", "()I"⟩, 33), (⟨"SumOfTwoThatStandModel", "hangsOn", "(I)I"⟩, 33), (⟨"SumOfTwoThatStandModel", "shortest", "(II)I"⟩, 33)]
theorem lw_r3 : ∀ q ∈ lw_privs_3, lw_okq q := List.forall_mem_cons.mpr ⟨lw_p32, List.forall_mem_cons.mpr ⟨lw_p33, List.forall_mem_cons.mpr ⟨lw_p34, List.forall_mem_cons.mpr ⟨lw_p35, List.forall_mem_cons.mpr ⟨lw_p36, List.forall_mem_cons.mpr ⟨lw_p37, List.forall_mem_cons.mpr ⟨lw_p38, List.forall_mem_cons.mpr ⟨lw_p39, List.forall_mem_cons.mpr ⟨lw_p40, List.forall_mem_cons.mpr ⟨lw_p41, List.forall_mem_cons.mpr ⟨lw_p42, List.forall_mem_cons.mpr ⟨lw_p43, List.forall_mem_cons.mpr ⟨lw_p44, List.forall_mem_cons.mpr ⟨lw_p45, List.forall_mem_cons.mpr ⟨lw_p46, List.forall_mem_cons.mpr ⟨lw_p47, fun _ h => absurd h List.not_mem_nil⟩⟩⟩⟩⟩⟩⟩⟩⟩⟩⟩⟩⟩⟩⟩⟩
theorem lw_p48 : lw_okq (⟨"SumOfTwoThatStandModel", "findsChain", "(I)Z"⟩, 33) := ⟨⟨by decide +kernel, by decide +kernel⟩, List.mem_of_getElem? (i := 670) (by decide +kernel), List.mem_of_getElem? (i := 965) (by decide +kernel), List.mem_of_getElem? (i := 966) (by decide +kernel)⟩
theorem lw_p49 : lw_okq (⟨"SumOfTwoThatStandModel", "nextTry", "(III)I"⟩, 33) := ⟨⟨by decide +kernel, by decide +kernel⟩, List.mem_of_getElem? (i := 670) (by decide +kernel), List.mem_of_getElem? (i := 969) (by decide +kernel), List.mem_of_getElem? (i := 970) (by decide +kernel)⟩
theorem lw_p50 : lw_okq (⟨"SumOfTwoThatStandModel", "goesOn", "(III)Z"⟩, 33) := ⟨⟨by decide +kernel, by decide +kernel⟩, List.mem_of_getElem? (i := 670) (by decide +kernel), List.mem_of_getElem? (i := 973) (by decide +kernel), List.mem_of_getElem? (i := 974) (by decide +kernel)⟩
theorem lw_p51 : lw_okq (⟨"SumOfTwoThatStandModel", "isSum", "(II)Z"⟩, 33) := ⟨⟨by decide +kernel, by decide +kernel⟩, List.mem_of_getElem? (i := 670) (by decide +kernel), List.mem_of_getElem? (i := 977) (by decide +kernel), List.mem_of_getElem? (i := 978) (by decide +kernel)⟩
theorem lw_p52 : lw_okq (⟨"SumOfTwoThatStandModel", "canReach", "(II)Z"⟩, 33) := ⟨⟨by decide +kernel, by decide +kernel⟩, List.mem_of_getElem? (i := 670) (by decide +kernel), List.mem_of_getElem? (i := 981) (by decide +kernel), List.mem_of_getElem? (i := 982) (by decide +kernel)⟩
theorem lw_p53 : lw_okq (⟨"SumOfTwoThatStandModel", "factors", "(I)I"⟩, 33) := ⟨⟨by decide +kernel, by decide +kernel⟩, List.mem_of_getElem? (i := 670) (by decide +kernel), List.mem_of_getElem? (i := 996) (by decide +kernel), List.mem_of_getElem? (i := 997) (by decide +kernel)⟩
theorem lw_p54 : lw_okq (⟨"SumOfTwoThatStandModel", "isWithin", "(II)Z"⟩, 33) := ⟨⟨by decide +kernel, by decide +kernel⟩, List.mem_of_getElem? (i := 670) (by decide +kernel), List.mem_of_getElem? (i := 1015) (by decide +kernel), List.mem_of_getElem? (i := 1016) (by decide +kernel)⟩
theorem lw_p55 : lw_okq (⟨"SumOfTwoThatStandModel", "comesToIn1", "(I)Z"⟩, 33) := ⟨⟨by decide +kernel, by decide +kernel⟩, List.mem_of_getElem? (i := 670) (by decide +kernel), List.mem_of_getElem? (i := 1023) (by decide +kernel), List.mem_of_getElem? (i := 1024) (by decide +kernel)⟩
theorem lw_p56 : lw_okq (⟨"SumOfTwoThatStandModel", "comesToIn2", "(I)Z"⟩, 33) := ⟨⟨by decide +kernel, by decide +kernel⟩, List.mem_of_getElem? (i := 670) (by decide +kernel), List.mem_of_getElem? (i := 1027) (by decide +kernel), List.mem_of_getElem? (i := 1028) (by decide +kernel)⟩
theorem lw_p57 : lw_okq (⟨"SumOfTwoThatStandModel", "needs", "(I)I"⟩, 33) := ⟨⟨by decide +kernel, by decide +kernel⟩, List.mem_of_getElem? (i := 670) (by decide +kernel), List.mem_of_getElem? (i := 1038) (by decide +kernel), List.mem_of_getElem? (i := 1039) (by decide +kernel)⟩
theorem lw_p58 : lw_okq (⟨"SumOfTwoThatStandModel", "doesWin", "(II)Z"⟩, 33) := ⟨⟨by decide +kernel, by decide +kernel⟩, List.mem_of_getElem? (i := 670) (by decide +kernel), List.mem_of_getElem? (i := 1046) (by decide +kernel), List.mem_of_getElem? (i := 1047) (by decide +kernel)⟩
theorem lw_p59 : lw_okq (⟨"SumOfTwoThatStandModel", "isSumIn", "(II)Z"⟩, 33) := ⟨⟨by decide +kernel, by decide +kernel⟩, List.mem_of_getElem? (i := 670) (by decide +kernel), List.mem_of_getElem? (i := 1050) (by decide +kernel), List.mem_of_getElem? (i := 1051) (by decide +kernel)⟩
theorem lw_p60 : lw_okq (⟨"SumOfTwoThatStandModel", "isWell", "(I)Z"⟩, 33) := ⟨⟨by decide +kernel, by decide +kernel⟩, List.mem_of_getElem? (i := 670) (by decide +kernel), List.mem_of_getElem? (i := 1062) (by decide +kernel), List.mem_of_getElem? (i := 1063) (by decide +kernel)⟩
theorem lw_p61 : lw_okq (⟨"SumOfTwoThatStandModel", "buildsByLot", "()V"⟩, 33) := ⟨⟨by decide +kernel, by decide +kernel⟩, List.mem_of_getElem? (i := 670) (by decide +kernel), List.mem_of_getElem? (i := 1070) (by decide +kernel), List.mem_of_getElem? (i := 1071) (by decide +kernel)⟩
theorem lw_p62 : lw_okq (⟨"SumOfTwoThatStandModel", "draw", "(I)I"⟩, 33) := ⟨⟨by decide +kernel, by decide +kernel⟩, List.mem_of_getElem? (i := 670) (by decide +kernel), List.mem_of_getElem? (i := 1074) (by decide +kernel), List.mem_of_getElem? (i := 1075) (by decide +kernel)⟩
theorem lw_p63 : lw_okq (⟨"SumOfTwoThatStandModel", "greatest", "()I"⟩, 33) := ⟨⟨by decide +kernel, by decide +kernel⟩, List.mem_of_getElem? (i := 670) (by decide +kernel), List.mem_of_getElem? (i := 1081) (by decide +kernel), List.mem_of_getElem? (i := 1082) (by decide +kernel)⟩
def lw_privs_4 : List (MethodName × Nat) := [(⟨"SumOfTwoThatStandModel", "findsChain", "(I)Z"⟩, 33), (⟨"SumOfTwoThatStandModel", "nextTry", "(III)I"⟩, 33), (⟨"SumOfTwoThatStandModel", "goesOn", "(III)Z"⟩, 33), (⟨"SumOfTwoThatStandModel", "isSum", "(II)Z"⟩, 33), (⟨"SumOfTwoThatStandModel", "canReach", "(II)Z"⟩, 33), (⟨"SumOfTwoThatStandModel", "factors", "(I)I"⟩, 33), (⟨"SumOfTwoThatStandModel", "isWithin", "(II)Z"⟩, 33), (⟨"SumOfTwoThatStandModel", "comesToIn1", "(I)Z"⟩, 33), (⟨"SumOfTwoThatStandModel", "comesToIn2", "(I)Z"⟩, 33), (⟨"SumOfTwoThatStandModel", "needs", "(I)I"⟩, 33), (⟨"SumOfTwoThatStandModel", "doesWin", "(II)Z"⟩, 33), (⟨"SumOfTwoThatStandModel", "isSumIn", "(II)Z"⟩, 33), (⟨"SumOfTwoThatStandModel", "isWell", "(I)Z"⟩, 33), (⟨"SumOfTwoThatStandModel", "buildsByLot", "()V"⟩, 33), (⟨"SumOfTwoThatStandModel", "draw", "(I)I"⟩, 33), (⟨"SumOfTwoThatStandModel", "greatest", "()I"⟩, 33)]
theorem lw_r4 : ∀ q ∈ lw_privs_4, lw_okq q := List.forall_mem_cons.mpr ⟨lw_p48, List.forall_mem_cons.mpr ⟨lw_p49, List.forall_mem_cons.mpr ⟨lw_p50, List.forall_mem_cons.mpr ⟨lw_p51, List.forall_mem_cons.mpr ⟨lw_p52, List.forall_mem_cons.mpr ⟨lw_p53, List.forall_mem_cons.mpr ⟨lw_p54, List.forall_mem_cons.mpr ⟨lw_p55, List.forall_mem_cons.mpr ⟨lw_p56, List.forall_mem_cons.mpr ⟨lw_p57, List.forall_mem_cons.mpr ⟨lw_p58, List.forall_mem_cons.mpr ⟨lw_p59, List.forall_mem_cons.mpr ⟨lw_p60, List.forall_mem_cons.mpr ⟨lw_p61, List.forall_mem_cons.mpr ⟨lw_p62, List.forall_mem_cons.mpr ⟨lw_p63, fun _ h => absurd h List.not_mem_nil⟩⟩⟩⟩⟩⟩⟩⟩⟩⟩⟩⟩⟩⟩⟩⟩
theorem lw_p64 : lw_okq (⟨"SumOfTwoThatStandModel", "allEarned", "()I"⟩, 33) := ⟨⟨by decide +kernel, by decide +kernel⟩, List.mem_of_getElem? (i := 670) (by decide +kernel), List.mem_of_getElem? (i := 1089) (by decide +kernel), List.mem_of_getElem? (i := 1090) (by decide +kernel)⟩
def lw_privs_5 : List (MethodName × Nat) := [(⟨"SumOfTwoThatStandModel", "allEarned", "()I"⟩, 33)]
theorem lw_r5 : ∀ q ∈ lw_privs_5, lw_okq q := List.forall_mem_cons.mpr ⟨lw_p64, fun _ h => absurd h List.not_mem_nil⟩
def lw_privs : List (MethodName × Nat) := lw_privs_1 ++ (lw_privs_2 ++ (lw_privs_3 ++ (lw_privs_4 ++ (lw_privs_5))))
def lw_tbl : List Cond := k2_sels lw_privs ++ tables_1
theorem lw_privs_ok : ∀ q ∈ lw_privs, lw_okq q := by
  show ∀ q ∈ lw_privs_1 ++ (lw_privs_2 ++ (lw_privs_3 ++ (lw_privs_4 ++ (lw_privs_5)))), lw_okq q
  exact List.forall_mem_append.mpr ⟨lw_r1, List.forall_mem_append.mpr ⟨lw_r2, List.forall_mem_append.mpr ⟨lw_r3, List.forall_mem_append.mpr ⟨lw_r4, lw_r5⟩⟩⟩⟩
-- ===== end of PART A; then your names; then what follows =====
end
section
/-! ===== BEGIN words of one list among another's, by their places ===== -/
theorem goodIn_r {big : List Cond} (ws : List Cond) (ps : List Nat) (hp : ws = ps.filterMap (fun i => big[i]?)) (h : ws.all goodWord = true) : GoodIn big ws := by
  intro w hw
  have h1 := List.all_eq_true.mp h w hw
  rw [hp] at hw
  obtain ⟨i, -, hi⟩ := List.mem_filterMap.mp hw
  have hm : w ∈ big := by first | exact List.mem_of_getElem? hi | exact List.getElem?_mem hi
  exact ⟨hm, good_of_word h1⟩
theorem goodIn_app {big a b : List Cond} (ha : GoodIn big a) (hb : GoodIn big b) : GoodIn big (a ++ b) := fun w h => (List.mem_append.mp h).elim (ha w) (hb w)
theorem goodIn_ca {big a b : List Cond} {c : Cond} (ha : GoodIn big (c :: a)) (hb : GoodIn big b) : GoodIn big (c :: (a ++ b)) := fun w h => (List.mem_cons.mp h).elim (fun e => ha w (List.mem_cons.mpr (Or.inl e))) (fun h => (List.mem_append.mp h).elim (fun h => ha w (List.mem_cons.mpr (Or.inr h))) (hb w))
theorem goodIn_sub {big ws : List Cond} (hm : ∀ w ∈ ws, w ∈ big) (h : ws.all goodWord = true) : GoodIn big ws := fun w hw => ⟨hm w hw, good_of_word (List.all_eq_true.mp h w hw)⟩
/-! ===== END ===== -/

/-! ===== BEGIN printed: names, fields, word lists, decode rows ===== -/
def RX0 : String := "SumOfTwoThatStand$Chains"
def TX0 : u_T := fun k => match k with
  | _ => ("SumOfTwoThatStand$Chains", "numbers", "[I", true)
def tyX0 : Nat → FieldType := fun k => match k with
  | _ => .array .int
abbrev wsX00 : List Cond := u_ws RX0 TX0 1
theorem nmX0 : ∀ a, a < 1 → ∀ b, b < 1 → a ≠ b → (TX0 a).2.1 ≠ (TX0 b).2.1 := by decide +kernel
theorem tyX0_ok : ∀ k, k < 1 → parseFieldDescriptor (TX0 k).2.2.1 = some (tyX0 k) := by decide +kernel
abbrev cX0_init : ByteArray := prog_2_method_1_code
def yX0_init : MethodName := ⟨RX0, "<init>", "()V"⟩
abbrev cX0_numberAt : ByteArray := prog_2_method_2_code
def yX0_numberAt : MethodName := ⟨RX0, "numberAt", "(I)I"⟩
abbrev cX0_shortest : ByteArray := prog_2_method_3_code
def yX0_shortest : MethodName := ⟨RX0, "shortest", "(II)I"⟩
abbrev cX0_reaches : ByteArray := prog_2_method_4_code
def yX0_reaches : MethodName := ⟨RX0, "reaches", "([IIIII)Z"⟩
abbrev cX0_leastUseful : ByteArray := prog_2_method_5_code
def yX0_leastUseful : MethodName := ⟨RX0, "leastUseful", "(III)I"⟩
abbrev cX0_isSum : ByteArray := prog_2_method_6_code
def yX0_isSum : MethodName := ⟨RX0, "isSum", "([III)Z"⟩
abbrev cX0_reachable : ByteArray := prog_2_method_7_code
def yX0_reachable : MethodName := ⟨RX0, "reachable", "(I)J"⟩
abbrev cX0_reached : ByteArray := prog_2_method_8_code
def yX0_reached : MethodName := ⟨RX0, "reached", "([III)J"⟩
abbrev cX0_byHalves : ByteArray := prog_2_method_9_code
def yX0_byHalves : MethodName := ⟨RX0, "byHalves", "(I)I"⟩
abbrev cX0_byFactors : ByteArray := prog_2_method_10_code
def yX0_byFactors : MethodName := ⟨RX0, "byFactors", "(I)I"⟩
abbrev cX0_splitDown : ByteArray := prog_2_method_11_code
def yX0_splitDown : MethodName := ⟨RX0, "splitDown", "(II)I"⟩
abbrev cX0_leastFactor : ByteArray := prog_2_method_12_code
def yX0_leastFactor : MethodName := ⟨RX0, "leastFactor", "(I)I"⟩
def RX1 : String := "SumOfTwoThatStand$Game"
def TX1 : u_T := fun k => match k with
  | _ => ("SumOfTwoThatStand$Game", "wins", "[Z", true)
def tyX1 : Nat → FieldType := fun k => match k with
  | _ => .array .boolean
abbrev wsX10 : List Cond := u_ws RX1 TX1 1
theorem nmX1 : ∀ a, a < 1 → ∀ b, b < 1 → a ≠ b → (TX1 a).2.1 ≠ (TX1 b).2.1 := by decide +kernel
theorem tyX1_ok : ∀ k, k < 1 → parseFieldDescriptor (TX1 k).2.2.1 = some (tyX1 k) := by decide +kernel
abbrev cX1_init : ByteArray := prog_3_method_1_code
def yX1_init : MethodName := ⟨RX1, "<init>", "()V"⟩
abbrev cX1_isWonByFirst : ByteArray := prog_3_method_2_code
def yX1_isWonByFirst : MethodName := ⟨RX1, "isWonByFirst", "(I)Z"⟩
abbrev cX1_isWon : ByteArray := prog_3_method_3_code
def yX1_isWon : MethodName := ⟨RX1, "isWon", "(II)Z"⟩
abbrev cX1_sumsOf : ByteArray := prog_3_method_4_code
def yX1_sumsOf : MethodName := ⟨RX1, "sumsOf", "(II)I"⟩
def RX2 : String := "SumOfTwoThatStand$Letters"
def TX2 : u_T := fun k => match k with
  | 0 => ("SumOfTwoThatStand$Told", "all", "[I", true)
  | 1 => ("SumOfTwoThatStand$Told", "length", "I", false)
  | 2 => ("SumOfTwoThatStand$Letters", "figures", "[I", true)
  | 3 => ("SumOfTwoThatStand$Letters", "at", "I", false)
  | 4 => ("SumOfTwoThatStand$Letters", "verb", "I", false)
  | 5 => ("SumOfTwoThatStand$Letters", "figureCount", "I", false)
  | _ => ("SumOfTwoThatStand$Letters", "statements", "I", false)
def tyX2 : Nat → FieldType := fun k => match k with
  | 0 => .array .int
  | 1 => .int
  | 2 => .array .int
  | 3 => .int
  | 4 => .int
  | 5 => .int
  | _ => .int
abbrev wsX20 : List Cond := u_ws RX2 TX2 7
theorem nmX2 : ∀ a, a < 7 → ∀ b, b < 7 → a ≠ b → (TX2 a).2.1 ≠ (TX2 b).2.1 := by decide +kernel
theorem tyX2_ok : ∀ k, k < 7 → parseFieldDescriptor (TX2 k).2.2.1 = some (tyX2 k) := by decide +kernel
abbrev cX2_init : ByteArray := prog_4_method_1_code
def yX2_init : MethodName := ⟨RX2, "<init>", "()V"⟩
abbrev cX2_statementCount : ByteArray := prog_4_method_2_code
def yX2_statementCount : MethodName := ⟨RX2, "statementCount", "()I"⟩
abbrev cX2_faultOfForm : ByteArray := prog_4_method_3_code
def yX2_faultOfForm : MethodName := ⟨RX2, "faultOfForm", "()I"⟩
abbrev cX2_faultOfSense : ByteArray := prog_4_method_4_code
def yX2_faultOfSense : MethodName := ⟨RX2, "faultOfSense", "(LSumOfTwoThatStand$Street;)I"⟩
abbrev cX2_comesTo : ByteArray := prog_4_method_5_code
def yX2_comesTo : MethodName := ⟨RX2, "comesTo", "(LSumOfTwoThatStand$Street;)Z"⟩
abbrev cX2_readStatement : ByteArray := prog_4_method_6_code
def yX2_readStatement : MethodName := ⟨RX2, "readStatement", "()Z"⟩
abbrev cX2_formOf : ByteArray := prog_4_method_7_code
def yX2_formOf : MethodName := ⟨RX2, "formOf", "(I)Ljava/lang/String;"⟩
abbrev cX2_readPart : ByteArray := prog_4_method_8_code
def yX2_readPart : MethodName := ⟨RX2, "readPart", "(C)Z"⟩
abbrev cX2_readFigure : ByteArray := prog_4_method_9_code
def yX2_readFigure : MethodName := ⟨RX2, "readFigure", "(I)Z"⟩
abbrev cX2_isDigit : ByteArray := prog_4_method_10_code
def yX2_isDigit : MethodName := ⟨RX2, "isDigit", "(I)Z"⟩
def RX3 : String := "SumOfTwoThatStand$Orders"
def TX3 : u_T := fun k => match k with
  | _ => ("SumOfTwoThatStand$Orders", "ways", "[I", true)
def tyX3 : Nat → FieldType := fun k => match k with
  | _ => .array .int
abbrev wsX30 : List Cond := u_ws RX3 TX3 1
theorem nmX3 : ∀ a, a < 1 → ∀ b, b < 1 → a ≠ b → (TX3 a).2.1 ≠ (TX3 b).2.1 := by decide +kernel
theorem tyX3_ok : ∀ k, k < 1 → parseFieldDescriptor (TX3 k).2.2.1 = some (tyX3 k) := by decide +kernel
abbrev cX3_init : ByteArray := prog_5_method_1_code
def yX3_init : MethodName := ⟨RX3, "<init>", "()V"⟩
abbrev cX3_of : ByteArray := prog_5_method_2_code
def yX3_of : MethodName := ⟨RX3, "of", "(LSumOfTwoThatStand$Street;)I"⟩
abbrev cX3_letNextCome : ByteArray := prog_5_method_3_code
def yX3_letNextCome : MethodName := ⟨RX3, "letNextCome", "(LSumOfTwoThatStand$Street;II)V"⟩
def RX4 : String := "SumOfTwoThatStand$Row"
def TX4 : u_T := fun k => match k with
  | 0 => ("SumOfTwoThatStand$Told", "all", "[I", true)
  | _ => ("SumOfTwoThatStand$Told", "length", "I", false)
def tyX4 : Nat → FieldType := fun k => match k with
  | 0 => .array .int
  | _ => .int
abbrev wsX40 : List Cond := u_ws RX4 TX4 2
theorem nmX4 : ∀ a, a < 2 → ∀ b, b < 2 → a ≠ b → (TX4 a).2.1 ≠ (TX4 b).2.1 := by decide +kernel
theorem tyX4_ok : ∀ k, k < 2 → parseFieldDescriptor (TX4 k).2.2.1 = some (tyX4 k) := by decide +kernel
abbrev cX4_init : ByteArray := prog_6_method_1_code
def yX4_init : MethodName := ⟨RX4, "<init>", "()V"⟩
abbrev cX4_firstWrong : ByteArray := prog_6_method_2_code
def yX4_firstWrong : MethodName := ⟨RX4, "firstWrong", "()I"⟩
abbrev cX4_isNew : ByteArray := prog_6_method_3_code
def yX4_isNew : MethodName := ⟨RX4, "isNew", "(I)Z"⟩
abbrev cX4_isSum : ByteArray := prog_6_method_4_code
def yX4_isSum : MethodName := ⟨RX4, "isSum", "(I)Z"⟩
def RX5 : String := "SumOfTwoThatStand$Street"
def TX5 : u_T := fun k => match k with
  | 0 => ("SumOfTwoThatStand$Street", "kinds", "[I", true)
  | 1 => ("SumOfTwoThatStand$Street", "figures", "[I", true)
  | 2 => ("SumOfTwoThatStand$Street", "numbers", "[I", true)
  | 3 => ("SumOfTwoThatStand$Street", "firsts", "[I", true)
  | 4 => ("SumOfTwoThatStand$Street", "seconds", "[I", true)
  | 5 => ("SumOfTwoThatStand$Street", "uses", "[I", true)
  | 6 => ("SumOfTwoThatStand$Street", "earned", "[I", true)
  | 7 => ("SumOfTwoThatStand$Street", "came", "I", false)
  | 8 => ("SumOfTwoThatStand$Street", "standing", "I", false)
  | 9 => ("SumOfTwoThatStand$Street", "sums", "I", false)
  | _ => ("SumOfTwoThatStand$Street", "falls", "I", false)
def tyX5 : Nat → FieldType := fun k => match k with
  | 0 => .array .int
  | 1 => .array .int
  | 2 => .array .int
  | 3 => .array .int
  | 4 => .array .int
  | 5 => .array .int
  | 6 => .array .int
  | 7 => .int
  | 8 => .int
  | 9 => .int
  | _ => .int
abbrev wsX50 : List Cond := u_ws RX5 TX5 11
theorem nmX5 : ∀ a, a < 11 → ∀ b, b < 11 → a ≠ b → (TX5 a).2.1 ≠ (TX5 b).2.1 := by decide +kernel
theorem tyX5_ok : ∀ k, k < 11 → parseFieldDescriptor (TX5 k).2.2.1 = some (tyX5 k) := by decide +kernel
abbrev cX5_init : ByteArray := prog_7_method_1_code
def yX5_init : MethodName := ⟨RX5, "<init>", "()V"⟩
abbrev cX5_beginAnew : ByteArray := prog_7_method_2_code
def yX5_beginAnew : MethodName := ⟨RX5, "beginAnew", "()V"⟩
abbrev cX5_become : ByteArray := prog_7_method_3_code
def yX5_become : MethodName := ⟨RX5, "become", "(LSumOfTwoThatStand$Street;)V"⟩
abbrev cX5_isKind : ByteArray := prog_7_method_4_code
def yX5_isKind : MethodName := ⟨RX5, "isKind", "(I)Z"⟩
abbrev cX5_has : ByteArray := prog_7_method_5_code
def yX5_has : MethodName := ⟨RX5, "has", "(I)Z"⟩
abbrev cX5_stands : ByteArray := prog_7_method_6_code
def yX5_stands : MethodName := ⟨RX5, "stands", "(I)Z"⟩
abbrev cX5_hasRoom : ByteArray := prog_7_method_7_code
def yX5_hasRoom : MethodName := ⟨RX5, "hasRoom", "()Z"⟩
abbrev cX5_cameCount : ByteArray := prog_7_method_8_code
def yX5_cameCount : MethodName := ⟨RX5, "cameCount", "()I"⟩
abbrev cX5_standingCount : ByteArray := prog_7_method_9_code
def yX5_standingCount : MethodName := ⟨RX5, "standingCount", "()I"⟩
abbrev cX5_standingBits : ByteArray := prog_7_method_10_code
def yX5_standingBits : MethodName := ⟨RX5, "standingBits", "()I"⟩
abbrev cX5_sumsLaw : ByteArray := prog_7_method_11_code
def yX5_sumsLaw : MethodName := ⟨RX5, "sumsLaw", "()I"⟩
abbrev cX5_fallsLaw : ByteArray := prog_7_method_12_code
def yX5_fallsLaw : MethodName := ⟨RX5, "fallsLaw", "()I"⟩
abbrev cX5_changeLaws : ByteArray := prog_7_method_13_code
def yX5_changeLaws : MethodName := ⟨RX5, "changeLaws", "(II)Z"⟩
abbrev cX5_tell : ByteArray := prog_7_method_14_code
def yX5_tell : MethodName := ⟨RX5, "tell", "(II)I"⟩
abbrev cX5_greatest : ByteArray := prog_7_method_15_code
def yX5_greatest : MethodName := ⟨RX5, "greatest", "()I"⟩
abbrev cX5_allEarned : ByteArray := prog_7_method_16_code
def yX5_allEarned : MethodName := ⟨RX5, "allEarned", "()I"⟩
abbrev cX5_isThere : ByteArray := prog_7_method_17_code
def yX5_isThere : MethodName := ⟨RX5, "isThere", "(I)Z"⟩
abbrev cX5_fee : ByteArray := prog_7_method_18_code
def yX5_fee : MethodName := ⟨RX5, "fee", "(I)I"⟩
abbrev cX5_mayBe : ByteArray := prog_7_method_19_code
def yX5_mayBe : MethodName := ⟨RX5, "mayBe", "(II)Z"⟩
abbrev cX5_isLawful : ByteArray := prog_7_method_20_code
def yX5_isLawful : MethodName := ⟨RX5, "isLawful", "(II)Z"⟩
abbrev cX5_lends : ByteArray := prog_7_method_21_code
def yX5_lends : MethodName := ⟨RX5, "lends", "(II)Z"⟩
abbrev cX5_build : ByteArray := prog_7_method_22_code
def yX5_build : MethodName := ⟨RX5, "build", "(IIII)Z"⟩
abbrev cX5_place : ByteArray := prog_7_method_23_code
def yX5_place : MethodName := ⟨RX5, "place", "(IIIII)V"⟩
abbrev cX5_use : ByteArray := prog_7_method_24_code
def yX5_use : MethodName := ⟨RX5, "use", "(I)V"⟩
abbrev cX5_loseHut : ByteArray := prog_7_method_25_code
def yX5_loseHut : MethodName := ⟨RX5, "loseHut", "(I)V"⟩
abbrev cX5_fire : ByteArray := prog_7_method_26_code
def yX5_fire : MethodName := ⟨RX5, "fire", "(I)I"⟩
abbrev cX5_fallsWith : ByteArray := prog_7_method_27_code
def yX5_fallsWith : MethodName := ⟨RX5, "fallsWith", "(I)I"⟩
abbrev cX5_aheadOf : ByteArray := prog_7_method_28_code
def yX5_aheadOf : MethodName := ⟨RX5, "aheadOf", "(I)I"⟩
abbrev cX5_bitOf : ByteArray := prog_7_method_29_code
def yX5_bitOf : MethodName := ⟨RX5, "bitOf", "(I)I"⟩
abbrev cX5_comesNext : ByteArray := prog_7_method_30_code
def yX5_comesNext : MethodName := ⟨RX5, "comesNext", "(I)Z"⟩
abbrev cX5_isIn : ByteArray := prog_7_method_31_code
def yX5_isIn : MethodName := ⟨RX5, "isIn", "(II)Z"⟩
def RX6 : String := "SumOfTwoThatStand$Told"
def TX6 : u_T := fun k => match k with
  | _ => ("", "", "", false)
def tyX6 : Nat → FieldType := fun k => match k with
  | _ => .int
abbrev wsX60 : List Cond := u_ws RX6 TX6 0
theorem nmX6 : ∀ a, a < 0 → ∀ b, b < 0 → a ≠ b → (TX6 a).2.1 ≠ (TX6 b).2.1 := by decide +kernel
theorem tyX6_ok : ∀ k, k < 0 → parseFieldDescriptor (TX6 k).2.2.1 = some (tyX6 k) := by decide +kernel
abbrev cX6_init : ByteArray := prog_8_method_1_code
def yX6_init : MethodName := ⟨RX6, "<init>", "(I)V"⟩
abbrev cX6_hasRoom : ByteArray := prog_8_method_2_code
def yX6_hasRoom : MethodName := ⟨RX6, "hasRoom", "()Z"⟩
abbrev cX6_take : ByteArray := prog_8_method_3_code
def yX6_take : MethodName := ⟨RX6, "take", "(I)I"⟩
abbrev cX6_forget : ByteArray := prog_8_method_4_code
def yX6_forget : MethodName := ⟨RX6, "forget", "()V"⟩
abbrev cX6_howMany : ByteArray := prog_8_method_5_code
def yX6_howMany : MethodName := ⟨RX6, "howMany", "()I"⟩
abbrev cX6_toldAt : ByteArray := prog_8_method_6_code
def yX6_toldAt : MethodName := ⟨RX6, "toldAt", "(I)I"⟩
def RX7 : String := "SumOfTwoThatStand"
def TX7 : u_T := fun k => match k with
  | 0 => ("SumOfTwoThatStand", "live", "LSumOfTwoThatStand$Street;", true)
  | 1 => ("SumOfTwoThatStand", "kept", "LSumOfTwoThatStand$Street;", true)
  | 2 => ("SumOfTwoThatStand", "mind", "LSumOfTwoThatStand$Street;", true)
  | 3 => ("SumOfTwoThatStand", "letters", "LSumOfTwoThatStand$Letters;", true)
  | 4 => ("SumOfTwoThatStand", "told", "LSumOfTwoThatStand$Row;", true)
  | 5 => ("SumOfTwoThatStand", "chains", "LSumOfTwoThatStand$Chains;", true)
  | 6 => ("SumOfTwoThatStand", "comings", "LSumOfTwoThatStand$Orders;", true)
  | 7 => ("SumOfTwoThatStand", "builders", "LSumOfTwoThatStand$Game;", true)
  | 8 => ("SumOfTwoThatStand", "refusals", "[I", true)
  | _ => ("SumOfTwoThatStand", "isKept", "Z", false)
def tyX7 : Nat → FieldType := fun k => match k with
  | 0 => .object "SumOfTwoThatStand$Street"
  | 1 => .object "SumOfTwoThatStand$Street"
  | 2 => .object "SumOfTwoThatStand$Street"
  | 3 => .object "SumOfTwoThatStand$Letters"
  | 4 => .object "SumOfTwoThatStand$Row"
  | 5 => .object "SumOfTwoThatStand$Chains"
  | 6 => .object "SumOfTwoThatStand$Orders"
  | 7 => .object "SumOfTwoThatStand$Game"
  | 8 => .array .int
  | _ => .boolean
abbrev wsX70 : List Cond := u_ws RX7 TX7 10
theorem nmX7 : ∀ a, a < 10 → ∀ b, b < 10 → a ≠ b → (TX7 a).2.1 ≠ (TX7 b).2.1 := by decide +kernel
theorem tyX7_ok : ∀ k, k < 10 → parseFieldDescriptor (TX7 k).2.2.1 = some (tyX7 k) := by decide +kernel
abbrev cX7_init : ByteArray := prog_1_method_1_code
def yX7_init : MethodName := ⟨RX7, "<init>", "()V"⟩
abbrev cX7_feed : ByteArray := prog_1_method_2_code
def yX7_feed : MethodName := ⟨RX7, "feed", "(I)I"⟩
abbrev cX7_street : ByteArray := prog_1_method_3_code
def yX7_street : MethodName := ⟨RX7, "street", "()I"⟩
abbrev cX7_house : ByteArray := prog_1_method_4_code
def yX7_house : MethodName := ⟨RX7, "house", "(II)I"⟩
abbrev cX7_law : ByteArray := prog_1_method_5_code
def yX7_law : MethodName := ⟨RX7, "law", "(II)I"⟩
abbrev cX7_may : ByteArray := prog_1_method_6_code
def yX7_may : MethodName := ⟨RX7, "may", "(II)I"⟩
abbrev cX7_cost : ByteArray := prog_1_method_7_code
def yX7_cost : MethodName := ⟨RX7, "cost", "(II)I"⟩
abbrev cX7_add : ByteArray := prog_1_method_8_code
def yX7_add : MethodName := ⟨RX7, "add", "(IIII)I"⟩
abbrev cX7_burn : ByteArray := prog_1_method_9_code
def yX7_burn : MethodName := ⟨RX7, "burn", "(I)I"⟩
abbrev cX7_hangs : ByteArray := prog_1_method_10_code
def yX7_hangs : MethodName := ⟨RX7, "hangs", "(I)I"⟩
abbrev cX7_save : ByteArray := prog_1_method_11_code
def yX7_save : MethodName := ⟨RX7, "save", "()I"⟩
abbrev cX7_fewest : ByteArray := prog_1_method_12_code
def yX7_fewest : MethodName := ⟨RX7, "fewest", "(I)I"⟩
abbrev cX7_chain : ByteArray := prog_1_method_13_code
def yX7_chain : MethodName := ⟨RX7, "chain", "(II)I"⟩
abbrev cX7_way : ByteArray := prog_1_method_14_code
def yX7_way : MethodName := ⟨RX7, "way", "(II)I"⟩
abbrev cX7_both : ByteArray := prog_1_method_15_code
def yX7_both : MethodName := ⟨RX7, "both", "(II)I"⟩
abbrev cX7_far : ByteArray := prog_1_method_16_code
def yX7_far : MethodName := ⟨RX7, "far", "(I)I"⟩
abbrev cX7_can : ByteArray := prog_1_method_17_code
def yX7_can : MethodName := ⟨RX7, "can", "(II)I"⟩
abbrev cX7_more : ByteArray := prog_1_method_18_code
def yX7_more : MethodName := ⟨RX7, "more", "(I)I"⟩
abbrev cX7_orders : ByteArray := prog_1_method_19_code
def yX7_orders : MethodName := ⟨RX7, "orders", "()I"⟩
abbrev cX7_game : ByteArray := prog_1_method_20_code
def yX7_game : MethodName := ⟨RX7, "game", "(I)I"⟩
abbrev cX7_row : ByteArray := prog_1_method_21_code
def yX7_row : MethodName := ⟨RX7, "row", "(I)I"⟩
abbrev cX7_judge : ByteArray := prog_1_method_22_code
def yX7_judge : MethodName := ⟨RX7, "judge", "()I"⟩
abbrev cX7_seeds : ByteArray := prog_1_method_23_code
def yX7_seeds : MethodName := ⟨RX7, "seeds", "(III)I"⟩
abbrev cX7_image : ByteArray := prog_1_method_24_code
def yX7_image : MethodName := ⟨RX7, "image", "()I"⟩
abbrev cX7_restore : ByteArray := prog_1_method_25_code
def yX7_restore : MethodName := ⟨RX7, "restore", "()I"⟩
abbrev cX7_count : ByteArray := prog_1_method_26_code
def yX7_count : MethodName := ⟨RX7, "count", "(I)I"⟩
abbrev cX7_refuse : ByteArray := prog_1_method_27_code
def yX7_refuse : MethodName := ⟨RX7, "refuse", "(I)I"⟩
abbrev cX7_outside : ByteArray := prog_1_method_28_code
def yX7_outside : MethodName := ⟨RX7, "outside", "(III)I"⟩
abbrev cX7_isOneOfTwo : ByteArray := prog_1_method_29_code
def yX7_isOneOfTwo : MethodName := ⟨RX7, "isOneOfTwo", "(I)Z"⟩
abbrev cX7_comesNextButOne : ByteArray := prog_1_method_30_code
def yX7_comesNextButOne : MethodName := ⟨RX7, "comesNextButOne", "(I)Z"⟩
abbrev cX7_sow : ByteArray := prog_1_method_31_code
def yX7_sow : MethodName := ⟨RX7, "sow", "(LSumOfTwoThatStand$Street;II)V"⟩
abbrev cX7_nextSeed : ByteArray := prog_1_method_32_code
def yX7_nextSeed : MethodName := ⟨RX7, "nextSeed", "(I)I"⟩
abbrev cX7_draw : ByteArray := prog_1_method_33_code
def yX7_draw : MethodName := ⟨RX7, "draw", "(II)I"⟩
def RX8 : String := "SumOfTwoThatStandModel"
def TX8 : u_T := fun k => match k with
  | 0 => ("SumOfTwoThatStandModel", "refused", "[I", true)
  | 1 => ("SumOfTwoThatStandModel", "number", "[I", true)
  | 2 => ("SumOfTwoThatStandModel", "kind", "[I", true)
  | 3 => ("SumOfTwoThatStandModel", "figure", "[I", true)
  | 4 => ("SumOfTwoThatStandModel", "one", "[I", true)
  | 5 => ("SumOfTwoThatStandModel", "other", "[I", true)
  | 6 => ("SumOfTwoThatStandModel", "stands", "[I", true)
  | 7 => ("SumOfTwoThatStandModel", "uses", "[I", true)
  | 8 => ("SumOfTwoThatStandModel", "earned", "[I", true)
  | 9 => ("SumOfTwoThatStandModel", "houses", "I", false)
  | 10 => ("SumOfTwoThatStandModel", "sums", "I", false)
  | 11 => ("SumOfTwoThatStandModel", "falls", "I", false)
  | 12 => ("SumOfTwoThatStandModel", "tape", "[I", true)
  | 13 => ("SumOfTwoThatStandModel", "sort", "[I", true)
  | 14 => ("SumOfTwoThatStandModel", "sortAt", "[I", true)
  | 15 => ("SumOfTwoThatStandModel", "told", "[I", true)
  | 16 => ("SumOfTwoThatStandModel", "taped", "I", false)
  | 17 => ("SumOfTwoThatStandModel", "reading", "I", false)
  | 18 => ("SumOfTwoThatStandModel", "statements", "I", false)
  | 19 => ("SumOfTwoThatStandModel", "telling", "I", false)
  | 20 => ("SumOfTwoThatStandModel", "kept", "[I", true)
  | 21 => ("SumOfTwoThatStandModel", "hasImage", "Z", false)
  | 22 => ("SumOfTwoThatStandModel", "isKeeping", "Z", false)
  | 23 => ("SumOfTwoThatStandModel", "cursor", "I", false)
  | 24 => ("SumOfTwoThatStandModel", "tried", "[I", true)
  | 25 => ("SumOfTwoThatStandModel", "wanted", "I", false)
  | 26 => ("SumOfTwoThatStandModel", "goal", "I", false)
  | 27 => ("SumOfTwoThatStandModel", "byFactors", "[I", true)
  | 28 => ("SumOfTwoThatStandModel", "ways", "[I", true)
  | 29 => ("SumOfTwoThatStandModel", "wins", "[I", true)
  | 30 => ("SumOfTwoThatStandModel", "row", "[I", true)
  | 31 => ("SumOfTwoThatStandModel", "rowMany", "I", false)
  | _ => ("SumOfTwoThatStandModel", "lots", "I", false)
def tyX8 : Nat → FieldType := fun k => match k with
  | 0 => .array .int
  | 1 => .array .int
  | 2 => .array .int
  | 3 => .array .int
  | 4 => .array .int
  | 5 => .array .int
  | 6 => .array .int
  | 7 => .array .int
  | 8 => .array .int
  | 9 => .int
  | 10 => .int
  | 11 => .int
  | 12 => .array .int
  | 13 => .array .int
  | 14 => .array .int
  | 15 => .array .int
  | 16 => .int
  | 17 => .int
  | 18 => .int
  | 19 => .int
  | 20 => .array .int
  | 21 => .boolean
  | 22 => .boolean
  | 23 => .int
  | 24 => .array .int
  | 25 => .int
  | 26 => .int
  | 27 => .array .int
  | 28 => .array .int
  | 29 => .array .int
  | 30 => .array .int
  | 31 => .int
  | _ => .int
abbrev wsX80 : List Cond := u_ws RX8 TX8 33
theorem nmX8 : ∀ a, a < 33 → ∀ b, b < 33 → a ≠ b → (TX8 a).2.1 ≠ (TX8 b).2.1 := by decide +kernel
theorem tyX8_ok : ∀ k, k < 33 → parseFieldDescriptor (TX8 k).2.2.1 = some (tyX8 k) := by decide +kernel
abbrev cX8_init : ByteArray := prog_10_method_1_code
def yX8_init : MethodName := ⟨RX8, "<init>", "()V"⟩
abbrev cX8_no : ByteArray := prog_10_method_2_code
def yX8_no : MethodName := ⟨RX8, "no", "(I)I"⟩
abbrev cX8_isIn : ByteArray := prog_10_method_3_code
def yX8_isIn : MethodName := ⟨RX8, "isIn", "(III)Z"⟩
abbrev cX8_bound : ByteArray := prog_10_method_4_code
def yX8_bound : MethodName := ⟨RX8, "bound", "(III)I"⟩
abbrev cX8_has : ByteArray := prog_10_method_5_code
def yX8_has : MethodName := ⟨RX8, "has", "(II)Z"⟩
abbrev cX8_bits : ByteArray := prog_10_method_6_code
def yX8_bits : MethodName := ⟨RX8, "bits", "(I)I"⟩
abbrev cX8_beginsAnew : ByteArray := prog_10_method_7_code
def yX8_beginsAnew : MethodName := ⟨RX8, "beginsAnew", "()V"⟩
abbrev cX8_isMore : ByteArray := prog_10_method_8_code
def yX8_isMore : MethodName := ⟨RX8, "isMore", "(IIIII)V"⟩
abbrev cX8_isHouse : ByteArray := prog_10_method_9_code
def yX8_isHouse : MethodName := ⟨RX8, "isHouse", "(I)Z"⟩
abbrev cX8_doesStand : ByteArray := prog_10_method_10_code
def yX8_doesStand : MethodName := ⟨RX8, "doesStand", "(I)Z"⟩
abbrev cX8_standing : ByteArray := prog_10_method_11_code
def yX8_standing : MethodName := ⟨RX8, "standing", "()I"⟩
abbrev cX8_lends : ByteArray := prog_10_method_12_code
def yX8_lends : MethodName := ⟨RX8, "lends", "(II)Z"⟩
abbrev cX8_fee : ByteArray := prog_10_method_13_code
def yX8_fee : MethodName := ⟨RX8, "fee", "(I)I"⟩
abbrev cX8_isThere : ByteArray := prog_10_method_14_code
def yX8_isThere : MethodName := ⟨RX8, "isThere", "(I)Z"⟩
abbrev cX8_latest : ByteArray := prog_10_method_15_code
def yX8_latest : MethodName := ⟨RX8, "latest", "()I"⟩
abbrev cX8_isLawful : ByteArray := prog_10_method_16_code
def yX8_isLawful : MethodName := ⟨RX8, "isLawful", "(II)Z"⟩
abbrev cX8_mayBe : ByteArray := prog_10_method_17_code
def yX8_mayBe : MethodName := ⟨RX8, "mayBe", "(II)Z"⟩
abbrev cX8_isUsed : ByteArray := prog_10_method_18_code
def yX8_isUsed : MethodName := ⟨RX8, "isUsed", "(I)V"⟩
abbrev cX8_builds : ByteArray := prog_10_method_19_code
def yX8_builds : MethodName := ⟨RX8, "builds", "(IIII)V"⟩
abbrev cX8_hasFallen : ByteArray := prog_10_method_20_code
def yX8_hasFallen : MethodName := ⟨RX8, "hasFallen", "(I)Z"⟩
abbrev cX8_fallsWith : ByteArray := prog_10_method_21_code
def yX8_fallsWith : MethodName := ⟨RX8, "fallsWith", "(I)Z"⟩
abbrev cX8_burns : ByteArray := prog_10_method_22_code
def yX8_burns : MethodName := ⟨RX8, "burns", "(I)V"⟩
abbrev cX8_feed : ByteArray := prog_10_method_23_code
def yX8_feed : MethodName := ⟨RX8, "feed", "(I)I"⟩
abbrev cX8_sign : ByteArray := prog_10_method_24_code
def yX8_sign : MethodName := ⟨RX8, "sign", "()I"⟩
abbrev cX8_reads : ByteArray := prog_10_method_25_code
def yX8_reads : MethodName := ⟨RX8, "reads", "(I)Z"⟩
abbrev cX8_readsNumber : ByteArray := prog_10_method_26_code
def yX8_readsNumber : MethodName := ⟨RX8, "readsNumber", "(I)Z"⟩
abbrev cX8_readsAll : ByteArray := prog_10_method_27_code
def yX8_readsAll : MethodName := ⟨RX8, "readsAll", "(I)Z"⟩
abbrev cX8_statement : ByteArray := prog_10_method_28_code
def yX8_statement : MethodName := ⟨RX8, "statement", "()Z"⟩
abbrev cX8_comesNew : ByteArray := prog_10_method_29_code
def yX8_comesNew : MethodName := ⟨RX8, "comesNew", "(I)Z"⟩
abbrev cX8_comesFire : ByteArray := prog_10_method_30_code
def yX8_comesFire : MethodName := ⟨RX8, "comesFire", "(I)Z"⟩
abbrev cX8_comesLaw : ByteArray := prog_10_method_31_code
def yX8_comesLaw : MethodName := ⟨RX8, "comesLaw", "(II)Z"⟩
abbrev cX8_comesTold : ByteArray := prog_10_method_32_code
def yX8_comesTold : MethodName := ⟨RX8, "comesTold", "(I)Z"⟩
abbrev cX8_street : ByteArray := prog_10_method_33_code
def yX8_street : MethodName := ⟨RX8, "street", "()I"⟩
abbrev cX8_passes : ByteArray := prog_10_method_34_code
def yX8_passes : MethodName := ⟨RX8, "passes", "([I)V"⟩
abbrev cX8_passOne : ByteArray := prog_10_method_35_code
def yX8_passOne : MethodName := ⟨RX8, "passOne", "(I)I"⟩
abbrev cX8_passesAll : ByteArray := prog_10_method_36_code
def yX8_passesAll : MethodName := ⟨RX8, "passesAll", "(IZ)V"⟩
abbrev cX8_image : ByteArray := prog_10_method_37_code
def yX8_image : MethodName := ⟨RX8, "image", "()I"⟩
abbrev cX8_restore : ByteArray := prog_10_method_38_code
def yX8_restore : MethodName := ⟨RX8, "restore", "()I"⟩
abbrev cX8_house : ByteArray := prog_10_method_39_code
def yX8_house : MethodName := ⟨RX8, "house", "(II)I"⟩
abbrev cX8_law : ByteArray := prog_10_method_40_code
def yX8_law : MethodName := ⟨RX8, "law", "(II)I"⟩
abbrev cX8_may : ByteArray := prog_10_method_41_code
def yX8_may : MethodName := ⟨RX8, "may", "(II)I"⟩
abbrev cX8_canBe : ByteArray := prog_10_method_42_code
def yX8_canBe : MethodName := ⟨RX8, "canBe", "(II)Z"⟩
abbrev cX8_cost : ByteArray := prog_10_method_43_code
def yX8_cost : MethodName := ⟨RX8, "cost", "(II)I"⟩
abbrev cX8_add : ByteArray := prog_10_method_44_code
def yX8_add : MethodName := ⟨RX8, "add", "(IIII)I"⟩
abbrev cX8_burn : ByteArray := prog_10_method_45_code
def yX8_burn : MethodName := ⟨RX8, "burn", "(I)I"⟩
abbrev cX8_hangsOn : ByteArray := prog_10_method_46_code
def yX8_hangsOn : MethodName := ⟨RX8, "hangsOn", "(I)I"⟩
abbrev cX8_hangs : ByteArray := prog_10_method_47_code
def yX8_hangs : MethodName := ⟨RX8, "hangs", "(I)I"⟩
abbrev cX8_save : ByteArray := prog_10_method_48_code
def yX8_save : MethodName := ⟨RX8, "save", "()I"⟩
abbrev cX8_isSum : ByteArray := prog_10_method_49_code
def yX8_isSum : MethodName := ⟨RX8, "isSum", "(II)Z"⟩
abbrev cX8_canReach : ByteArray := prog_10_method_50_code
def yX8_canReach : MethodName := ⟨RX8, "canReach", "(II)Z"⟩
abbrev cX8_goesOn : ByteArray := prog_10_method_51_code
def yX8_goesOn : MethodName := ⟨RX8, "goesOn", "(III)Z"⟩
abbrev cX8_nextTry : ByteArray := prog_10_method_52_code
def yX8_nextTry : MethodName := ⟨RX8, "nextTry", "(III)I"⟩
abbrev cX8_findsChain : ByteArray := prog_10_method_53_code
def yX8_findsChain : MethodName := ⟨RX8, "findsChain", "(I)Z"⟩
abbrev cX8_shortest : ByteArray := prog_10_method_54_code
def yX8_shortest : MethodName := ⟨RX8, "shortest", "(II)I"⟩
abbrev cX8_fewest : ByteArray := prog_10_method_55_code
def yX8_fewest : MethodName := ⟨RX8, "fewest", "(I)I"⟩
abbrev cX8_chain : ByteArray := prog_10_method_56_code
def yX8_chain : MethodName := ⟨RX8, "chain", "(II)I"⟩
abbrev cX8_halves : ByteArray := prog_10_method_57_code
def yX8_halves : MethodName := ⟨RX8, "halves", "(I)I"⟩
abbrev cX8_leastFactor : ByteArray := prog_10_method_58_code
def yX8_leastFactor : MethodName := ⟨RX8, "leastFactor", "(I)I"⟩
abbrev cX8_factors : ByteArray := prog_10_method_59_code
def yX8_factors : MethodName := ⟨RX8, "factors", "(I)I"⟩
abbrev cX8_way : ByteArray := prog_10_method_60_code
def yX8_way : MethodName := ⟨RX8, "way", "(II)I"⟩
abbrev cX8_both : ByteArray := prog_10_method_61_code
def yX8_both : MethodName := ⟨RX8, "both", "(II)I"⟩
abbrev cX8_far : ByteArray := prog_10_method_62_code
def yX8_far : MethodName := ⟨RX8, "far", "(I)I"⟩
abbrev cX8_isWithin : ByteArray := prog_10_method_63_code
def yX8_isWithin : MethodName := ⟨RX8, "isWithin", "(II)Z"⟩
abbrev cX8_can : ByteArray := prog_10_method_64_code
def yX8_can : MethodName := ⟨RX8, "can", "(II)I"⟩
abbrev cX8_comesToIn1 : ByteArray := prog_10_method_65_code
def yX8_comesToIn1 : MethodName := ⟨RX8, "comesToIn1", "(I)Z"⟩
abbrev cX8_comesToIn2 : ByteArray := prog_10_method_66_code
def yX8_comesToIn2 : MethodName := ⟨RX8, "comesToIn2", "(I)Z"⟩
abbrev cX8_more : ByteArray := prog_10_method_67_code
def yX8_more : MethodName := ⟨RX8, "more", "(I)I"⟩
abbrev cX8_needs : ByteArray := prog_10_method_68_code
def yX8_needs : MethodName := ⟨RX8, "needs", "(I)I"⟩
abbrev cX8_orders : ByteArray := prog_10_method_69_code
def yX8_orders : MethodName := ⟨RX8, "orders", "()I"⟩
abbrev cX8_isSumIn : ByteArray := prog_10_method_70_code
def yX8_isSumIn : MethodName := ⟨RX8, "isSumIn", "(II)Z"⟩
abbrev cX8_doesWin : ByteArray := prog_10_method_71_code
def yX8_doesWin : MethodName := ⟨RX8, "doesWin", "(II)Z"⟩
abbrev cX8_game : ByteArray := prog_10_method_72_code
def yX8_game : MethodName := ⟨RX8, "game", "(I)I"⟩
abbrev cX8_row : ByteArray := prog_10_method_73_code
def yX8_row : MethodName := ⟨RX8, "row", "(I)I"⟩
abbrev cX8_isWell : ByteArray := prog_10_method_74_code
def yX8_isWell : MethodName := ⟨RX8, "isWell", "(I)Z"⟩
abbrev cX8_judge : ByteArray := prog_10_method_75_code
def yX8_judge : MethodName := ⟨RX8, "judge", "()I"⟩
abbrev cX8_draw : ByteArray := prog_10_method_76_code
def yX8_draw : MethodName := ⟨RX8, "draw", "(I)I"⟩
abbrev cX8_greatest : ByteArray := prog_10_method_77_code
def yX8_greatest : MethodName := ⟨RX8, "greatest", "()I"⟩
abbrev cX8_buildsByLot : ByteArray := prog_10_method_78_code
def yX8_buildsByLot : MethodName := ⟨RX8, "buildsByLot", "()V"⟩
abbrev cX8_seeds : ByteArray := prog_10_method_79_code
def yX8_seeds : MethodName := ⟨RX8, "seeds", "(III)I"⟩
abbrev cX8_allEarned : ByteArray := prog_10_method_80_code
def yX8_allEarned : MethodName := ⟨RX8, "allEarned", "()I"⟩
abbrev cX8_count : ByteArray := prog_10_method_81_code
def yX8_count : MethodName := ⟨RX8, "count", "(I)I"⟩
def RJ6 : String := "java/lang/Integer"
def TJ6 : u_T := fun k => match k with
  | _ => ("", "", "", false)
def tyJ6 : Nat → FieldType := fun k => match k with
  | _ => .int
abbrev wsJ60 : List Cond := u_ws RJ6 TJ6 0
theorem nmJ6 : ∀ a, a < 0 → ∀ b, b < 0 → a ≠ b → (TJ6 a).2.1 ≠ (TJ6 b).2.1 := by decide +kernel
theorem tyJ6_ok : ∀ k, k < 0 → parseFieldDescriptor (TJ6 k).2.2.1 = some (tyJ6 k) := by decide +kernel
abbrev cJ6_numberOfLeadingZeros_0f7a4 : ByteArray := prog_11_method_47_code
def yJ6_numberOfLeadingZeros_0f7a4 : MethodName := ⟨RJ6, "numberOfLeadingZeros", "(I)I"⟩
abbrev cJ6_numberOfTrailingZeros_0f7a4 : ByteArray := prog_11_method_48_code
def yJ6_numberOfTrailingZeros_0f7a4 : MethodName := ⟨RJ6, "numberOfTrailingZeros", "(I)I"⟩
abbrev cJ6_bitCount_0f7a4 : ByteArray := prog_11_method_49_code
def yJ6_bitCount_0f7a4 : MethodName := ⟨RJ6, "bitCount", "(I)I"⟩
def RJ13 : String := "java/lang/Long"
def TJ13 : u_T := fun k => match k with
  | _ => ("", "", "", false)
def tyJ13 : Nat → FieldType := fun k => match k with
  | _ => .int
abbrev wsJ130 : List Cond := u_ws RJ13 TJ13 0
theorem nmJ13 : ∀ a, a < 0 → ∀ b, b < 0 → a ≠ b → (TJ13 a).2.1 ≠ (TJ13 b).2.1 := by decide +kernel
theorem tyJ13_ok : ∀ k, k < 0 → parseFieldDescriptor (TJ13 k).2.2.1 = some (tyJ13 k) := by decide +kernel
abbrev cJ13_numberOfTrailingZeros_95d88 : ByteArray := prog_12_method_49_code
def yJ13_numberOfTrailingZeros_95d88 : MethodName := ⟨RJ13, "numberOfTrailingZeros", "(J)I"⟩
abbrev cJ13_bitCount_95d88 : ByteArray := prog_12_method_50_code
def yJ13_bitCount_95d88 : MethodName := ⟨RJ13, "bitCount", "(J)I"⟩
def RJ9 : String := "java/lang/Math"
def TJ9 : u_T := fun k => match k with
  | _ => ("", "", "", false)
def tyJ9 : Nat → FieldType := fun k => match k with
  | _ => .int
abbrev wsJ90 : List Cond := u_ws RJ9 TJ9 0
theorem nmJ9 : ∀ a, a < 0 → ∀ b, b < 0 → a ≠ b → (TJ9 a).2.1 ≠ (TJ9 b).2.1 := by decide +kernel
theorem tyJ9_ok : ∀ k, k < 0 → parseFieldDescriptor (TJ9 k).2.2.1 = some (tyJ9 k) := by decide +kernel
abbrev cJ9_max_7cf53 : ByteArray := prog_13_method_65_code
def yJ9_max_7cf53 : MethodName := ⟨RJ9, "max", "(II)I"⟩
abbrev cJ9_min_7cf53 : ByteArray := prog_13_method_69_code
def yJ9_min_7cf53 : MethodName := ⟨RJ9, "min", "(II)I"⟩
def RJ0 : String := "java/lang/String"
def TJ0 : u_T := fun k => match k with
  | _ => ("", "", "", false)
def tyJ0 : Nat → FieldType := fun k => match k with
  | _ => .int
abbrev wsJ00 : List Cond := u_ws RJ0 TJ0 0
theorem nmJ0 : ∀ a, a < 0 → ∀ b, b < 0 → a ≠ b → (TJ0 a).2.1 ≠ (TJ0 b).2.1 := by decide +kernel
theorem tyJ0_ok : ∀ k, k < 0 → parseFieldDescriptor (TJ0 k).2.2.1 = some (tyJ0 k) := by decide +kernel
abbrev cJ0_length_8abf5 : ByteArray := prog_14_method_54_code
def yJ0_length_8abf5 : MethodName := ⟨RJ0, "length", "()I"⟩
abbrev cJ0_isEmpty_aae02 : ByteArray := prog_14_method_55_code
def yJ0_isEmpty_aae02 : MethodName := ⟨RJ0, "isEmpty", "()Z"⟩
abbrev cJ0_charAt_5068e : ByteArray := prog_14_method_56_code
def yJ0_charAt_5068e : MethodName := ⟨RJ0, "charAt", "(I)C"⟩
abbrev cJ0_coder_7d493 : ByteArray := prog_14_method_152_code
def yJ0_coder_7d493 : MethodName := ⟨RJ0, "coder", "()B"⟩
abbrev cJ0_isLatin1_aae02 : ByteArray := prog_14_method_154_code
def yJ0_isLatin1_aae02 : MethodName := ⟨RJ0, "isLatin1", "()Z"⟩
abbrev cJ0_checkIndex_df160 : ByteArray := prog_14_method_155_code
def yJ0_checkIndex_df160 : MethodName := ⟨RJ0, "checkIndex", "(II)V"⟩
def RJ1 : String := "java/lang/StringLatin1"
def TJ1 : u_T := fun k => match k with
  | _ => ("", "", "", false)
def tyJ1 : Nat → FieldType := fun k => match k with
  | _ => .int
abbrev wsJ10 : List Cond := u_ws RJ1 TJ1 0
theorem nmJ1 : ∀ a, a < 0 → ∀ b, b < 0 → a ≠ b → (TJ1 a).2.1 ≠ (TJ1 b).2.1 := by decide +kernel
theorem tyJ1_ok : ∀ k, k < 0 → parseFieldDescriptor (TJ1 k).2.2.1 = some (tyJ1 k) := by decide +kernel
abbrev cJ1_charAt_3b067 : ByteArray := prog_15_method_2_code
def yJ1_charAt_3b067 : MethodName := ⟨RJ1, "charAt", "([BI)C"⟩
def RJ2 : String := "java/lang/StringUTF16"
def TJ2 : u_T := fun k => match k with
  | _ => ("", "", "", false)
def tyJ2 : Nat → FieldType := fun k => match k with
  | _ => .int
abbrev wsJ20 : List Cond := u_ws RJ2 TJ2 0
theorem nmJ2 : ∀ a, a < 0 → ∀ b, b < 0 → a ≠ b → (TJ2 a).2.1 ≠ (TJ2 b).2.1 := by decide +kernel
theorem tyJ2_ok : ∀ k, k < 0 → parseFieldDescriptor (TJ2 k).2.2.1 = some (tyJ2 k) := by decide +kernel
abbrev cJ2_getChar_3b067 : ByteArray := prog_16_method_5_code
def yJ2_getChar_3b067 : MethodName := ⟨RJ2, "getChar", "([BI)C"⟩
abbrev cJ2_length_9d52b : ByteArray := prog_16_method_6_code
def yJ2_length_9d52b : MethodName := ⟨RJ2, "length", "([B)I"⟩
abbrev cJ2_charAt_3b067 : ByteArray := prog_16_method_83_code
def yJ2_charAt_3b067 : MethodName := ⟨RJ2, "charAt", "([BI)C"⟩
abbrev cJ2_checkIndex_2214a : ByteArray := prog_16_method_91_code
def yJ2_checkIndex_2214a : MethodName := ⟨RJ2, "checkIndex", "(I[B)V"⟩
def RJ10 : String := "java/lang/System"
def TJ10 : u_T := fun k => match k with
  | _ => ("", "", "", false)
def tyJ10 : Nat → FieldType := fun k => match k with
  | _ => .int
abbrev wsJ100 : List Cond := u_ws RJ10 TJ10 0
theorem nmJ10 : ∀ a, a < 0 → ∀ b, b < 0 → a ≠ b → (TJ10 a).2.1 ≠ (TJ10 b).2.1 := by decide +kernel
theorem tyJ10_ok : ∀ k, k < 0 → parseFieldDescriptor (TJ10 k).2.2.1 = some (tyJ10 k) := by decide +kernel
def RJ3 : String := "jdk/internal/util/Preconditions"
def TJ3 : u_T := fun k => match k with
  | _ => ("", "", "", false)
def tyJ3 : Nat → FieldType := fun k => match k with
  | _ => .int
abbrev wsJ30 : List Cond := u_ws RJ3 TJ3 0
theorem nmJ3 : ∀ a, a < 0 → ∀ b, b < 0 → a ≠ b → (TJ3 a).2.1 ≠ (TJ3 b).2.1 := by decide +kernel
theorem tyJ3_ok : ∀ k, k < 0 → parseFieldDescriptor (TJ3 k).2.2.1 = some (tyJ3 k) := by decide +kernel
abbrev cJ3_checkIndex_8e157 : ByteArray := prog_18_method_11_code
def yJ3_checkIndex_8e157 : MethodName := ⟨RJ3, "checkIndex", "(IILjava/util/function/BiFunction;)I"⟩
def RL : String := "SumOfTwoThatStandLaw"
abbrev cL_law : ByteArray := code
def yL_law : MethodName := ⟨RL, "law", "([I)Z"⟩
def wsX0_init : List Cond := .code yX0_init cX0_init 1 none :: ([.methodLink RX0 3 objectInit, .instanceMethod objectInit, .code objectInit ⟨#[0xb1]⟩ 1 none, .arrayClass .int, .fieldLink RX0 11 "SumOfTwoThatStand$Chains" "numbers" "[I"] ++ wsX00)
def wsX0_numberAt : List Cond := .code yX0_numberAt cX0_numberAt 2 (some .int) :: ([.fieldLink RX0 11 "SumOfTwoThatStand$Chains" "numbers" "[I"] ++ wsX00)
def wsX0_leastUseful : List Cond := .code yX0_leastUseful cX0_leastUseful 4 (some .int) :: ([.methodLink RX0 33 Lib.Math.max.name, .static Lib.Math.max.name, .initialized "java/lang/Math", .code Lib.Math.max.name Lib.Math.max.code 2 (some .int)])
def wsX0_isSum : List Cond := .code yX0_isSum cX0_isSum 6 (some .boolean) :: ([.methodLink RX0 19 Lib.Math.min.name, .static Lib.Math.min.name, .initialized "java/lang/Math", .code Lib.Math.min.name Lib.Math.min.code 2 (some .int)])
def wsX0_reaches : List Cond := .code yX0_reaches cX0_reaches 8 (some .boolean) :: ([.methodLink RX0 19 Lib.Math.min.name, .static Lib.Math.min.name, .initialized "java/lang/Math", .code Lib.Math.min.name Lib.Math.min.code 2 (some .int), .methodLink RX0 25 yX0_leastUseful, .static yX0_leastUseful, .initialized RX0, .code yX0_leastUseful cX0_leastUseful 4 (some .int), .methodLink RX0 33 Lib.Math.max.name, .static Lib.Math.max.name, .code Lib.Math.max.name Lib.Math.max.code 2 (some .int), .methodLink RX0 29 yX0_isSum, .static yX0_isSum, .code yX0_isSum cX0_isSum 6 (some .boolean), .methodLink RX0 15 yX0_reaches, .static yX0_reaches])
def wsX0_shortest : List Cond := .code yX0_shortest cX0_shortest 4 (some .int) :: ([.fieldLink RX0 11 "SumOfTwoThatStand$Chains" "numbers" "[I", .methodLink RX0 15 yX0_reaches, .static yX0_reaches, .initialized RX0, .code yX0_reaches cX0_reaches 8 (some .boolean), .methodLink RX0 19 Lib.Math.min.name, .static Lib.Math.min.name, .initialized "java/lang/Math", .code Lib.Math.min.name Lib.Math.min.code 2 (some .int), .methodLink RX0 25 yX0_leastUseful, .static yX0_leastUseful, .code yX0_leastUseful cX0_leastUseful 4 (some .int), .methodLink RX0 33 Lib.Math.max.name, .static Lib.Math.max.name, .code Lib.Math.max.name Lib.Math.max.code 2 (some .int), .methodLink RX0 29 yX0_isSum, .static yX0_isSum, .code yX0_isSum cX0_isSum 6 (some .boolean)] ++ wsX00)
def wsX0_reached : List Cond := .code yX0_reached cX0_reached 7 (some .long) :: ([.methodLink RX0 29 yX0_isSum, .static yX0_isSum, .initialized RX0, .code yX0_isSum cX0_isSum 6 (some .boolean), .methodLink RX0 19 Lib.Math.min.name, .static Lib.Math.min.name, .initialized "java/lang/Math", .code Lib.Math.min.name Lib.Math.min.code 2 (some .int), .methodLink RX0 36 yX0_reached, .static yX0_reached])
def wsX0_reachable : List Cond := .code yX0_reachable cX0_reachable 2 (some .long) :: ([.fieldLink RX0 11 "SumOfTwoThatStand$Chains" "numbers" "[I", .methodLink RX0 19 Lib.Math.min.name, .static Lib.Math.min.name, .initialized "java/lang/Math", .code Lib.Math.min.name Lib.Math.min.code 2 (some .int), .methodLink RX0 36 yX0_reached, .static yX0_reached, .initialized RX0, .code yX0_reached cX0_reached 7 (some .long), .methodLink RX0 29 yX0_isSum, .static yX0_isSum, .code yX0_isSum cX0_isSum 6 (some .boolean)] ++ wsX00)
def wsJ6_numberOfLeadingZeros_0f7a4 : List Cond := .code yJ6_numberOfLeadingZeros_0f7a4 cJ6_numberOfLeadingZeros_0f7a4 2 (some .int) :: ([.constant RJ6 264 (65536)])
def wsJ6_bitCount_0f7a4 : List Cond := .code yJ6_bitCount_0f7a4 cJ6_bitCount_0f7a4 1 (some .int) :: ([.constant RJ6 265 (1431655765), .constant RJ6 266 (858993459), .constant RJ6 267 (252645135)])
def wsX0_byHalves : List Cond := .code yX0_byHalves cX0_byHalves 1 (some .int) :: ([.methodLink RX0 40 yJ6_numberOfLeadingZeros_0f7a4, .static yJ6_numberOfLeadingZeros_0f7a4, .initialized RJ6, .code yJ6_numberOfLeadingZeros_0f7a4 cJ6_numberOfLeadingZeros_0f7a4 2 (some .int), .constant RJ6 264 (65536), .methodLink RX0 46 yJ6_bitCount_0f7a4, .static yJ6_bitCount_0f7a4, .code yJ6_bitCount_0f7a4 cJ6_bitCount_0f7a4 1 (some .int), .constant RJ6 265 (1431655765), .constant RJ6 266 (858993459), .constant RJ6 267 (252645135)])
def wsX0_leastFactor : List Cond := .code yX0_leastFactor cX0_leastFactor 2 (some .int) :: ([])
def wsX0_splitDown : List Cond := .code yX0_splitDown cX0_splitDown 3 (some .int) :: ([.methodLink RX0 52 yX0_leastFactor, .static yX0_leastFactor, .initialized RX0, .code yX0_leastFactor cX0_leastFactor 2 (some .int), .methodLink RX0 49 yX0_splitDown, .static yX0_splitDown])
def wsX0_byFactors : List Cond := .code yX0_byFactors cX0_byFactors 1 (some .int) :: ([.methodLink RX0 49 yX0_splitDown, .static yX0_splitDown, .initialized RX0, .code yX0_splitDown cX0_splitDown 3 (some .int), .methodLink RX0 52 yX0_leastFactor, .static yX0_leastFactor, .code yX0_leastFactor cX0_leastFactor 2 (some .int)])
def wsX1_init : List Cond := .code yX1_init cX1_init 1 none :: ([.methodLink RX1 1 objectInit, .instanceMethod objectInit, .code objectInit ⟨#[0xb1]⟩ 1 none, .arrayClass .boolean, .fieldLink RX1 9 "SumOfTwoThatStand$Game" "wins" "[Z"] ++ wsX10)
def wsX1_sumsOf : List Cond := .code yX1_sumsOf cX1_sumsOf 4 (some .int) :: ([])
def wsX1_isWon : List Cond := .code yX1_isWon cX1_isWon 6 (some .boolean) :: ([.fieldLink RX1 9 "SumOfTwoThatStand$Game" "wins" "[Z", .methodLink RX1 17 yX1_sumsOf, .static yX1_sumsOf, .initialized RX1, .code yX1_sumsOf cX1_sumsOf 4 (some .int)] ++ wsX10)
def wsX1_isWonByFirst : List Cond := .code yX1_isWonByFirst cX1_isWonByFirst 3 (some .boolean) :: ([.fieldLink RX1 9 "SumOfTwoThatStand$Game" "wins" "[Z", .methodLink RX1 13 yX1_isWon, .instanceMethod yX1_isWon, .selects RX1 yX1_isWon yX1_isWon, .initialized RX1, .code yX1_isWon cX1_isWon 6 (some .boolean), .methodLink RX1 17 yX1_sumsOf, .static yX1_sumsOf, .code yX1_sumsOf cX1_sumsOf 4 (some .int)] ++ wsX10)
def wsX6_init : List Cond := .code yX6_init cX6_init 2 none :: ([.methodLink RX6 1 objectInit, .instanceMethod objectInit, .code objectInit ⟨#[0xb1]⟩ 1 none, .methodLink RX6 7 Lib.Math.max.name, .static Lib.Math.max.name, .initialized "java/lang/Math", .code Lib.Math.max.name Lib.Math.max.code 2 (some .int), .arrayClass .int, .fieldLink RX6 13 "SumOfTwoThatStand$Told" "all" "[I"] ++ wsX20 ++ wsX40)
def wsX2_init : List Cond := .code yX2_init cX2_init 1 none :: ([.arrayClass .int, .fieldLink RX2 9 "SumOfTwoThatStand$Letters" "figures" "[I", .methodLink RX2 3 yX6_init, .instanceMethod yX6_init, .initialized RX6, .code yX6_init cX6_init 2 none, .methodLink RX6 1 objectInit, .instanceMethod objectInit, .code objectInit ⟨#[0xb1]⟩ 1 none, .methodLink RX6 7 Lib.Math.max.name, .static Lib.Math.max.name, .initialized "java/lang/Math", .code Lib.Math.max.name Lib.Math.max.code 2 (some .int), .fieldLink RX6 13 "SumOfTwoThatStand$Told" "all" "[I"] ++ wsX20 ++ wsX40)
def wsX2_statementCount : List Cond := .code yX2_statementCount cX2_statementCount 1 (some .int) :: ([.fieldLink RX2 15 "SumOfTwoThatStand$Letters" "statements" "I"] ++ wsX20)
def wsX6_howMany : List Cond := .code yX6_howMany cX6_howMany 1 (some .int) :: ([.fieldLink RX6 19 "SumOfTwoThatStand$Told" "length" "I"] ++ wsX20 ++ wsX40)
def wsX6_toldAt : List Cond := .code yX6_toldAt cX6_toldAt 2 (some .int) :: ([.fieldLink RX6 19 "SumOfTwoThatStand$Told" "length" "I", .fieldLink RX6 13 "SumOfTwoThatStand$Told" "all" "[I"] ++ wsX20 ++ wsX40)
def wsX2_formOf : List Cond := .code yX2_formOf cX2_formOf 1 (some (.object "java/lang/String")) :: ([])
def wsJ0_isEmpty_aae02 : List Cond := .code yJ0_isEmpty_aae02 cJ0_isEmpty_aae02 1 (some .boolean) :: ([.fieldLink RJ0 9 "java/lang/String" "value" "[B"])
def wsJ0_coder_7d493 : List Cond := .code yJ0_coder_7d493 cJ0_coder_7d493 1 (some .byte) :: ([.fieldLink RJ0 38 "java/lang/String" "COMPACT_STRINGS" "Z", .fieldLink RJ0 15 "java/lang/String" "coder" "B"])
def wsJ0_length_8abf5 : List Cond := .code yJ0_length_8abf5 cJ0_length_8abf5 1 (some .int) :: ([.fieldLink RJ0 9 "java/lang/String" "value" "[B", .methodLink RJ0 335 yJ0_coder_7d493, .instanceMethod yJ0_coder_7d493, .selects RJ0 yJ0_coder_7d493 yJ0_coder_7d493, .initialized RJ0, .code yJ0_coder_7d493 cJ0_coder_7d493 1 (some .byte), .fieldLink RJ0 38 "java/lang/String" "COMPACT_STRINGS" "Z", .fieldLink RJ0 15 "java/lang/String" "coder" "B"])
def wsJ0_isLatin1_aae02 : List Cond := .code yJ0_isLatin1_aae02 cJ0_isLatin1_aae02 1 (some .boolean) :: ([.fieldLink RJ0 38 "java/lang/String" "COMPACT_STRINGS" "Z", .fieldLink RJ0 15 "java/lang/String" "coder" "B"])
def wsJ3_checkIndex_8e157 : List Cond := .code yJ3_checkIndex_8e157 cJ3_checkIndex_8e157 3 (some .int) :: ([])
def wsJ0_checkIndex_df160 : List Cond := .code yJ0_checkIndex_df160 cJ0_checkIndex_df160 2 none :: ([.fieldLink RJ0 1053 "jdk/internal/util/Preconditions" "SIOOBE_FORMATTER" "Ljava/util/function/BiFunction;", .methodLink RJ0 1059 yJ3_checkIndex_8e157, .static yJ3_checkIndex_8e157, .initialized RJ3, .code yJ3_checkIndex_8e157 cJ3_checkIndex_8e157 3 (some .int)])
def wsJ1_charAt_3b067 : List Cond := .code yJ1_charAt_3b067 cJ1_charAt_3b067 2 (some .char) :: ([.methodLink RJ1 9 yJ0_checkIndex_df160, .static yJ0_checkIndex_df160, .initialized RJ0, .code yJ0_checkIndex_df160 cJ0_checkIndex_df160 2 none, .fieldLink RJ0 1053 "jdk/internal/util/Preconditions" "SIOOBE_FORMATTER" "Ljava/util/function/BiFunction;", .methodLink RJ0 1059 yJ3_checkIndex_8e157, .static yJ3_checkIndex_8e157, .initialized RJ3, .code yJ3_checkIndex_8e157 cJ3_checkIndex_8e157 3 (some .int)])
def wsJ2_length_9d52b : List Cond := .code yJ2_length_9d52b cJ2_length_9d52b 1 (some .int) :: ([])
def wsJ2_checkIndex_2214a : List Cond := .code yJ2_checkIndex_2214a cJ2_checkIndex_2214a 2 none :: ([.methodLink RJ2 48 yJ2_length_9d52b, .static yJ2_length_9d52b, .initialized RJ2, .code yJ2_length_9d52b cJ2_length_9d52b 1 (some .int), .methodLink RJ2 414 yJ0_checkIndex_df160, .static yJ0_checkIndex_df160, .initialized RJ0, .code yJ0_checkIndex_df160 cJ0_checkIndex_df160 2 none, .fieldLink RJ0 1053 "jdk/internal/util/Preconditions" "SIOOBE_FORMATTER" "Ljava/util/function/BiFunction;", .methodLink RJ0 1059 yJ3_checkIndex_8e157, .static yJ3_checkIndex_8e157, .initialized RJ3, .code yJ3_checkIndex_8e157 cJ3_checkIndex_8e157 3 (some .int)])
def wsJ2_getChar_3b067 : List Cond := .code yJ2_getChar_3b067 cJ2_getChar_3b067 2 (some .char) :: ([.fieldLink RJ2 44 "java/lang/StringUTF16" "$assertionsDisabled" "Z", .fieldLink RJ2 59 "java/lang/StringUTF16" "HI_BYTE_SHIFT" "I", .fieldLink RJ2 63 "java/lang/StringUTF16" "LO_BYTE_SHIFT" "I", .methodLink RJ2 48 yJ2_length_9d52b, .static yJ2_length_9d52b, .initialized RJ2, .code yJ2_length_9d52b cJ2_length_9d52b 1 (some .int)])
def wsJ2_charAt_3b067 : List Cond := .code yJ2_charAt_3b067 cJ2_charAt_3b067 2 (some .char) :: ([.methodLink RJ2 67 yJ2_checkIndex_2214a, .static yJ2_checkIndex_2214a, .initialized RJ2, .code yJ2_checkIndex_2214a cJ2_checkIndex_2214a 2 none, .methodLink RJ2 48 yJ2_length_9d52b, .static yJ2_length_9d52b, .code yJ2_length_9d52b cJ2_length_9d52b 1 (some .int), .methodLink RJ2 414 yJ0_checkIndex_df160, .static yJ0_checkIndex_df160, .initialized RJ0, .code yJ0_checkIndex_df160 cJ0_checkIndex_df160 2 none, .fieldLink RJ0 1053 "jdk/internal/util/Preconditions" "SIOOBE_FORMATTER" "Ljava/util/function/BiFunction;", .methodLink RJ0 1059 yJ3_checkIndex_8e157, .static yJ3_checkIndex_8e157, .initialized RJ3, .code yJ3_checkIndex_8e157 cJ3_checkIndex_8e157 3 (some .int), .methodLink RJ2 71 yJ2_getChar_3b067, .static yJ2_getChar_3b067, .code yJ2_getChar_3b067 cJ2_getChar_3b067 2 (some .char), .fieldLink RJ2 44 "java/lang/StringUTF16" "$assertionsDisabled" "Z", .fieldLink RJ2 59 "java/lang/StringUTF16" "HI_BYTE_SHIFT" "I", .fieldLink RJ2 63 "java/lang/StringUTF16" "LO_BYTE_SHIFT" "I"])
def wsJ0_charAt_5068e_r1 : List Cond := [Cond.fieldLink RJ0 9 "java/lang/String" "value" "[B", Cond.methodLink RJ0 492 yJ0_isLatin1_aae02, Cond.instanceMethod yJ0_isLatin1_aae02, Cond.selects RJ0 yJ0_isLatin1_aae02 yJ0_isLatin1_aae02, Cond.initialized RJ0, Cond.code yJ0_isLatin1_aae02 cJ0_isLatin1_aae02 1 (some .boolean), Cond.fieldLink RJ0 38 "java/lang/String" "COMPACT_STRINGS" "Z", Cond.fieldLink RJ0 15 "java/lang/String" "coder" "B", Cond.methodLink RJ0 495 yJ1_charAt_3b067, Cond.static yJ1_charAt_3b067, Cond.initialized RJ1, Cond.code yJ1_charAt_3b067 cJ1_charAt_3b067 2 (some .char), Cond.methodLink RJ1 9 yJ0_checkIndex_df160, Cond.static yJ0_checkIndex_df160, Cond.code yJ0_checkIndex_df160 cJ0_checkIndex_df160 2 none, Cond.fieldLink RJ0 1053 "jdk/internal/util/Preconditions" "SIOOBE_FORMATTER" "Ljava/util/function/BiFunction;", Cond.methodLink RJ0 1059 yJ3_checkIndex_8e157, Cond.static yJ3_checkIndex_8e157, Cond.initialized RJ3, Cond.code yJ3_checkIndex_8e157 cJ3_checkIndex_8e157 3 (some .int), Cond.methodLink RJ0 498 yJ2_charAt_3b067, Cond.static yJ2_charAt_3b067, Cond.initialized RJ2, Cond.code yJ2_charAt_3b067 cJ2_charAt_3b067 2 (some .char)]
def wsJ0_charAt_5068e_r2 : List Cond := [Cond.methodLink RJ2 67 yJ2_checkIndex_2214a, Cond.static yJ2_checkIndex_2214a, Cond.code yJ2_checkIndex_2214a cJ2_checkIndex_2214a 2 none, Cond.methodLink RJ2 48 yJ2_length_9d52b, Cond.static yJ2_length_9d52b, Cond.code yJ2_length_9d52b cJ2_length_9d52b 1 (some .int), Cond.methodLink RJ2 414 yJ0_checkIndex_df160, Cond.methodLink RJ2 71 yJ2_getChar_3b067, Cond.static yJ2_getChar_3b067, Cond.code yJ2_getChar_3b067 cJ2_getChar_3b067 2 (some .char), Cond.fieldLink RJ2 44 "java/lang/StringUTF16" "$assertionsDisabled" "Z", Cond.fieldLink RJ2 59 "java/lang/StringUTF16" "HI_BYTE_SHIFT" "I", Cond.fieldLink RJ2 63 "java/lang/StringUTF16" "LO_BYTE_SHIFT" "I"]
def wsJ0_charAt_5068e : List Cond := .code yJ0_charAt_5068e cJ0_charAt_5068e 2 (some .char) :: ((wsJ0_charAt_5068e_r1 ++ wsJ0_charAt_5068e_r2))
def wsX2_isDigit : List Cond := .code yX2_isDigit cX2_isDigit 1 (some .boolean) :: ([])
def wsX2_readFigure : List Cond := .code yX2_readFigure cX2_readFigure 4 (some .boolean) :: ([.fieldLink RX2 19 "SumOfTwoThatStand$Letters" "at" "I", .fieldLink RX2 58 "SumOfTwoThatStand$Letters" "figureCount" "I", .fieldLink RX2 9 "SumOfTwoThatStand$Letters" "figures" "[I", .methodLink RX2 55 ⟨"SumOfTwoThatStand$Letters", "toldAt", "(I)I"⟩, .sameMethod "SumOfTwoThatStand$Letters" "SumOfTwoThatStand$Told" "toldAt" "(I)I", .selects RX2 ⟨"SumOfTwoThatStand$Letters", "toldAt", "(I)I"⟩ yX6_toldAt, .instanceMethod yX6_toldAt, .initialized RX6, .code yX6_toldAt cX6_toldAt 2 (some .int), .fieldLink RX6 19 "SumOfTwoThatStand$Told" "length" "I", .fieldLink RX6 13 "SumOfTwoThatStand$Told" "all" "[I", .methodLink RX2 95 yX2_isDigit, .static yX2_isDigit, .initialized RX2, .code yX2_isDigit cX2_isDigit 1 (some .boolean)] ++ wsX20 ++ wsX40)
def wsX2_readPart : List Cond := .code yX2_readPart cX2_readPart 2 (some .boolean) :: ([.fieldLink RX2 19 "SumOfTwoThatStand$Letters" "at" "I", .methodLink RX2 91 yX2_readFigure, .instanceMethod yX2_readFigure, .selects RX2 yX2_readFigure yX2_readFigure, .initialized RX2, .code yX2_readFigure cX2_readFigure 4 (some .boolean), .fieldLink RX2 58 "SumOfTwoThatStand$Letters" "figureCount" "I", .fieldLink RX2 9 "SumOfTwoThatStand$Letters" "figures" "[I", .methodLink RX2 55 ⟨"SumOfTwoThatStand$Letters", "toldAt", "(I)I"⟩, .sameMethod "SumOfTwoThatStand$Letters" "SumOfTwoThatStand$Told" "toldAt" "(I)I", .selects RX2 ⟨"SumOfTwoThatStand$Letters", "toldAt", "(I)I"⟩ yX6_toldAt, .instanceMethod yX6_toldAt, .initialized RX6, .code yX6_toldAt cX6_toldAt 2 (some .int), .fieldLink RX6 19 "SumOfTwoThatStand$Told" "length" "I", .fieldLink RX6 13 "SumOfTwoThatStand$Told" "all" "[I", .methodLink RX2 95 yX2_isDigit, .static yX2_isDigit, .code yX2_isDigit cX2_isDigit 1 (some .boolean)] ++ wsX20 ++ wsX40)
def wsX2_readStatement_r1 : List Cond := [Cond.fieldLink RX2 19 "SumOfTwoThatStand$Letters" "at" "I", Cond.fieldLink RX2 34 "SumOfTwoThatStand$Letters" "verb" "I", Cond.fieldLink RX2 58 "SumOfTwoThatStand$Letters" "figureCount" "I", Cond.methodLink RX2 55 ⟨"SumOfTwoThatStand$Letters", "toldAt", "(I)I"⟩, Cond.sameMethod "SumOfTwoThatStand$Letters" "SumOfTwoThatStand$Told" "toldAt" "(I)I", Cond.selects RX2 ⟨"SumOfTwoThatStand$Letters", "toldAt", "(I)I"⟩ yX6_toldAt, Cond.instanceMethod yX6_toldAt, Cond.initialized RX6, Cond.code yX6_toldAt cX6_toldAt 2 (some .int), Cond.fieldLink RX6 19 "SumOfTwoThatStand$Told" "length" "I", Cond.fieldLink RX6 13 "SumOfTwoThatStand$Told" "all" "[I", Cond.methodLink RX2 61 yX2_formOf, Cond.static yX2_formOf, Cond.initialized RX2, Cond.code yX2_formOf cX2_formOf 1 (some (.object "java/lang/String")), Cond.methodLink RX2 65 yJ0_isEmpty_aae02, Cond.instanceMethod yJ0_isEmpty_aae02, Cond.selects RJ0 yJ0_isEmpty_aae02 yJ0_isEmpty_aae02, Cond.initialized RJ0, Cond.code yJ0_isEmpty_aae02 cJ0_isEmpty_aae02 1 (some .boolean), Cond.fieldLink RJ0 9 "java/lang/String" "value" "[B", Cond.methodLink RX2 70 yJ0_length_8abf5, Cond.instanceMethod yJ0_length_8abf5, Cond.selects RJ0 yJ0_length_8abf5 yJ0_length_8abf5]
def wsX2_readStatement_r2 : List Cond := [Cond.code yJ0_length_8abf5 cJ0_length_8abf5 1 (some .int), Cond.methodLink RJ0 335 yJ0_coder_7d493, Cond.instanceMethod yJ0_coder_7d493, Cond.selects RJ0 yJ0_coder_7d493 yJ0_coder_7d493, Cond.code yJ0_coder_7d493 cJ0_coder_7d493 1 (some .byte), Cond.fieldLink RJ0 38 "java/lang/String" "COMPACT_STRINGS" "Z", Cond.fieldLink RJ0 15 "java/lang/String" "coder" "B", Cond.methodLink RX2 73 yJ0_charAt_5068e, Cond.instanceMethod yJ0_charAt_5068e, Cond.selects RJ0 yJ0_charAt_5068e yJ0_charAt_5068e, Cond.code yJ0_charAt_5068e cJ0_charAt_5068e 2 (some .char), Cond.methodLink RJ0 492 yJ0_isLatin1_aae02, Cond.instanceMethod yJ0_isLatin1_aae02, Cond.selects RJ0 yJ0_isLatin1_aae02 yJ0_isLatin1_aae02, Cond.code yJ0_isLatin1_aae02 cJ0_isLatin1_aae02 1 (some .boolean), Cond.methodLink RJ0 495 yJ1_charAt_3b067, Cond.static yJ1_charAt_3b067, Cond.initialized RJ1, Cond.code yJ1_charAt_3b067 cJ1_charAt_3b067 2 (some .char), Cond.methodLink RJ1 9 yJ0_checkIndex_df160, Cond.static yJ0_checkIndex_df160, Cond.code yJ0_checkIndex_df160 cJ0_checkIndex_df160 2 none, Cond.fieldLink RJ0 1053 "jdk/internal/util/Preconditions" "SIOOBE_FORMATTER" "Ljava/util/function/BiFunction;", Cond.methodLink RJ0 1059 yJ3_checkIndex_8e157]
def wsX2_readStatement_r3 : List Cond := [Cond.static yJ3_checkIndex_8e157, Cond.initialized RJ3, Cond.code yJ3_checkIndex_8e157 cJ3_checkIndex_8e157 3 (some .int), Cond.methodLink RJ0 498 yJ2_charAt_3b067, Cond.static yJ2_charAt_3b067, Cond.initialized RJ2, Cond.code yJ2_charAt_3b067 cJ2_charAt_3b067 2 (some .char), Cond.methodLink RJ2 67 yJ2_checkIndex_2214a, Cond.static yJ2_checkIndex_2214a, Cond.code yJ2_checkIndex_2214a cJ2_checkIndex_2214a 2 none, Cond.methodLink RJ2 48 yJ2_length_9d52b, Cond.static yJ2_length_9d52b, Cond.code yJ2_length_9d52b cJ2_length_9d52b 1 (some .int), Cond.methodLink RJ2 414 yJ0_checkIndex_df160, Cond.methodLink RJ2 71 yJ2_getChar_3b067, Cond.static yJ2_getChar_3b067, Cond.code yJ2_getChar_3b067 cJ2_getChar_3b067 2 (some .char), Cond.fieldLink RJ2 44 "java/lang/StringUTF16" "$assertionsDisabled" "Z", Cond.fieldLink RJ2 59 "java/lang/StringUTF16" "HI_BYTE_SHIFT" "I", Cond.fieldLink RJ2 63 "java/lang/StringUTF16" "LO_BYTE_SHIFT" "I", Cond.methodLink RX2 77 yX2_readPart, Cond.instanceMethod yX2_readPart, Cond.selects RX2 yX2_readPart yX2_readPart, Cond.code yX2_readPart cX2_readPart 2 (some .boolean)]
def wsX2_readStatement_r4 : List Cond := [Cond.methodLink RX2 91 yX2_readFigure, Cond.instanceMethod yX2_readFigure, Cond.selects RX2 yX2_readFigure yX2_readFigure, Cond.code yX2_readFigure cX2_readFigure 4 (some .boolean), Cond.fieldLink RX2 9 "SumOfTwoThatStand$Letters" "figures" "[I", Cond.methodLink RX2 95 yX2_isDigit, Cond.static yX2_isDigit, Cond.code yX2_isDigit cX2_isDigit 1 (some .boolean)]
def wsX2_readStatement : List Cond := .code yX2_readStatement cX2_readStatement 3 (some .boolean) :: ((wsX2_readStatement_r1 ++ (wsX2_readStatement_r2 ++ (wsX2_readStatement_r3 ++ wsX2_readStatement_r4))) ++ wsX20 ++ wsX40)
def wsX2_faultOfForm_r1 : List Cond := [Cond.fieldLink RX2 19 "SumOfTwoThatStand$Letters" "at" "I", Cond.fieldLink RX2 15 "SumOfTwoThatStand$Letters" "statements" "I", Cond.methodLink RX2 22 ⟨"SumOfTwoThatStand$Letters", "howMany", "()I"⟩, Cond.sameMethod "SumOfTwoThatStand$Letters" "SumOfTwoThatStand$Told" "howMany" "()I", Cond.selects RX2 ⟨"SumOfTwoThatStand$Letters", "howMany", "()I"⟩ yX6_howMany, Cond.instanceMethod yX6_howMany, Cond.initialized RX6, Cond.code yX6_howMany cX6_howMany 1 (some .int), Cond.fieldLink RX6 19 "SumOfTwoThatStand$Told" "length" "I", Cond.methodLink RX2 26 yX2_readStatement, Cond.instanceMethod yX2_readStatement, Cond.selects RX2 yX2_readStatement yX2_readStatement, Cond.initialized RX2, Cond.code yX2_readStatement cX2_readStatement 3 (some .boolean), Cond.fieldLink RX2 34 "SumOfTwoThatStand$Letters" "verb" "I", Cond.fieldLink RX2 58 "SumOfTwoThatStand$Letters" "figureCount" "I", Cond.methodLink RX2 55 ⟨"SumOfTwoThatStand$Letters", "toldAt", "(I)I"⟩, Cond.sameMethod "SumOfTwoThatStand$Letters" "SumOfTwoThatStand$Told" "toldAt" "(I)I", Cond.selects RX2 ⟨"SumOfTwoThatStand$Letters", "toldAt", "(I)I"⟩ yX6_toldAt, Cond.instanceMethod yX6_toldAt, Cond.code yX6_toldAt cX6_toldAt 2 (some .int), Cond.fieldLink RX6 13 "SumOfTwoThatStand$Told" "all" "[I", Cond.methodLink RX2 61 yX2_formOf, Cond.static yX2_formOf]
def wsX2_faultOfForm_r2 : List Cond := [Cond.code yX2_formOf cX2_formOf 1 (some (.object "java/lang/String")), Cond.methodLink RX2 65 yJ0_isEmpty_aae02, Cond.instanceMethod yJ0_isEmpty_aae02, Cond.selects RJ0 yJ0_isEmpty_aae02 yJ0_isEmpty_aae02, Cond.initialized RJ0, Cond.code yJ0_isEmpty_aae02 cJ0_isEmpty_aae02 1 (some .boolean), Cond.fieldLink RJ0 9 "java/lang/String" "value" "[B", Cond.methodLink RX2 70 yJ0_length_8abf5, Cond.instanceMethod yJ0_length_8abf5, Cond.selects RJ0 yJ0_length_8abf5 yJ0_length_8abf5, Cond.code yJ0_length_8abf5 cJ0_length_8abf5 1 (some .int), Cond.methodLink RJ0 335 yJ0_coder_7d493, Cond.instanceMethod yJ0_coder_7d493, Cond.selects RJ0 yJ0_coder_7d493 yJ0_coder_7d493, Cond.code yJ0_coder_7d493 cJ0_coder_7d493 1 (some .byte), Cond.fieldLink RJ0 38 "java/lang/String" "COMPACT_STRINGS" "Z", Cond.fieldLink RJ0 15 "java/lang/String" "coder" "B", Cond.methodLink RX2 73 yJ0_charAt_5068e, Cond.instanceMethod yJ0_charAt_5068e, Cond.selects RJ0 yJ0_charAt_5068e yJ0_charAt_5068e, Cond.code yJ0_charAt_5068e cJ0_charAt_5068e 2 (some .char), Cond.methodLink RJ0 492 yJ0_isLatin1_aae02, Cond.instanceMethod yJ0_isLatin1_aae02, Cond.selects RJ0 yJ0_isLatin1_aae02 yJ0_isLatin1_aae02]
def wsX2_faultOfForm_r3 : List Cond := [Cond.code yJ0_isLatin1_aae02 cJ0_isLatin1_aae02 1 (some .boolean), Cond.methodLink RJ0 495 yJ1_charAt_3b067, Cond.static yJ1_charAt_3b067, Cond.initialized RJ1, Cond.code yJ1_charAt_3b067 cJ1_charAt_3b067 2 (some .char), Cond.methodLink RJ1 9 yJ0_checkIndex_df160, Cond.static yJ0_checkIndex_df160, Cond.code yJ0_checkIndex_df160 cJ0_checkIndex_df160 2 none, Cond.fieldLink RJ0 1053 "jdk/internal/util/Preconditions" "SIOOBE_FORMATTER" "Ljava/util/function/BiFunction;", Cond.methodLink RJ0 1059 yJ3_checkIndex_8e157, Cond.static yJ3_checkIndex_8e157, Cond.initialized RJ3, Cond.code yJ3_checkIndex_8e157 cJ3_checkIndex_8e157 3 (some .int), Cond.methodLink RJ0 498 yJ2_charAt_3b067, Cond.static yJ2_charAt_3b067, Cond.initialized RJ2, Cond.code yJ2_charAt_3b067 cJ2_charAt_3b067 2 (some .char), Cond.methodLink RJ2 67 yJ2_checkIndex_2214a, Cond.static yJ2_checkIndex_2214a, Cond.code yJ2_checkIndex_2214a cJ2_checkIndex_2214a 2 none, Cond.methodLink RJ2 48 yJ2_length_9d52b, Cond.static yJ2_length_9d52b, Cond.code yJ2_length_9d52b cJ2_length_9d52b 1 (some .int), Cond.methodLink RJ2 414 yJ0_checkIndex_df160]
def wsX2_faultOfForm_r4 : List Cond := [Cond.methodLink RJ2 71 yJ2_getChar_3b067, Cond.static yJ2_getChar_3b067, Cond.code yJ2_getChar_3b067 cJ2_getChar_3b067 2 (some .char), Cond.fieldLink RJ2 44 "java/lang/StringUTF16" "$assertionsDisabled" "Z", Cond.fieldLink RJ2 59 "java/lang/StringUTF16" "HI_BYTE_SHIFT" "I", Cond.fieldLink RJ2 63 "java/lang/StringUTF16" "LO_BYTE_SHIFT" "I", Cond.methodLink RX2 77 yX2_readPart, Cond.instanceMethod yX2_readPart, Cond.selects RX2 yX2_readPart yX2_readPart, Cond.code yX2_readPart cX2_readPart 2 (some .boolean), Cond.methodLink RX2 91 yX2_readFigure, Cond.instanceMethod yX2_readFigure, Cond.selects RX2 yX2_readFigure yX2_readFigure, Cond.code yX2_readFigure cX2_readFigure 4 (some .boolean), Cond.fieldLink RX2 9 "SumOfTwoThatStand$Letters" "figures" "[I", Cond.methodLink RX2 95 yX2_isDigit, Cond.static yX2_isDigit, Cond.code yX2_isDigit cX2_isDigit 1 (some .boolean)]
def wsX2_faultOfForm : List Cond := .code yX2_faultOfForm cX2_faultOfForm 2 (some .int) :: ((wsX2_faultOfForm_r1 ++ (wsX2_faultOfForm_r2 ++ (wsX2_faultOfForm_r3 ++ wsX2_faultOfForm_r4))) ++ wsX20 ++ wsX40)
def wsX5_hasRoom : List Cond := .code yX5_hasRoom cX5_hasRoom 1 (some .boolean) :: ([.fieldLink RX5 36 "SumOfTwoThatStand$Street" "came" "I"] ++ wsX50)
def wsX5_isKind : List Cond := .code yX5_isKind cX5_isKind 1 (some .boolean) :: ([])
def wsX5_has : List Cond := .code yX5_has cX5_has 2 (some .boolean) :: ([.fieldLink RX5 36 "SumOfTwoThatStand$Street" "came" "I"] ++ wsX50)
def wsX5_isIn : List Cond := .code yX5_isIn cX5_isIn 2 (some .boolean) :: ([])
def wsX5_stands : List Cond := .code yX5_stands cX5_stands 2 (some .boolean) :: ([.fieldLink RX5 40 "SumOfTwoThatStand$Street" "standing" "I", .methodLink RX5 59 yX5_has, .instanceMethod yX5_has, .selects RX5 yX5_has yX5_has, .initialized RX5, .code yX5_has cX5_has 2 (some .boolean), .fieldLink RX5 36 "SumOfTwoThatStand$Street" "came" "I", .methodLink RX5 63 yX5_isIn, .static yX5_isIn, .code yX5_isIn cX5_isIn 2 (some .boolean)] ++ wsX50)
def wsX5_isLawful : List Cond := .code yX5_isLawful cX5_isLawful 4 (some .boolean) :: ([.fieldLink RX5 53 "SumOfTwoThatStand$Street" "sums" "I", .fieldLink RX5 40 "SumOfTwoThatStand$Street" "standing" "I", .methodLink RX5 91 yJ6_numberOfLeadingZeros_0f7a4, .static yJ6_numberOfLeadingZeros_0f7a4, .initialized RJ6, .code yJ6_numberOfLeadingZeros_0f7a4 cJ6_numberOfLeadingZeros_0f7a4 2 (some .int), .constant RJ6 264 (65536)] ++ wsX50)
def wsX5_lends : List Cond := .code yX5_lends cX5_lends 3 (some .boolean) :: ([.fieldLink RX5 9 "SumOfTwoThatStand$Street" "kinds" "[I", .fieldLink RX5 27 "SumOfTwoThatStand$Street" "uses" "[I", .methodLink RX5 59 yX5_has, .instanceMethod yX5_has, .selects RX5 yX5_has yX5_has, .initialized RX5, .code yX5_has cX5_has 2 (some .boolean), .fieldLink RX5 36 "SumOfTwoThatStand$Street" "came" "I"] ++ wsX50)
def wsX5_isThere : List Cond := .code yX5_isThere cX5_isThere 3 (some .boolean) :: ([.fieldLink RX5 36 "SumOfTwoThatStand$Street" "came" "I", .fieldLink RX5 40 "SumOfTwoThatStand$Street" "standing" "I", .fieldLink RX5 18 "SumOfTwoThatStand$Street" "numbers" "[I", .methodLink RX5 63 yX5_isIn, .static yX5_isIn, .initialized RX5, .code yX5_isIn cX5_isIn 2 (some .boolean)] ++ wsX50)
def wsX5_mayBe_r1 : List Cond := [Cond.fieldLink RX5 18 "SumOfTwoThatStand$Street" "numbers" "[I", Cond.methodLink RX5 79 yX5_stands, Cond.instanceMethod yX5_stands, Cond.selects RX5 yX5_stands yX5_stands, Cond.initialized RX5, Cond.code yX5_stands cX5_stands 2 (some .boolean), Cond.fieldLink RX5 40 "SumOfTwoThatStand$Street" "standing" "I", Cond.methodLink RX5 59 yX5_has, Cond.instanceMethod yX5_has, Cond.selects RX5 yX5_has yX5_has, Cond.code yX5_has cX5_has 2 (some .boolean), Cond.fieldLink RX5 36 "SumOfTwoThatStand$Street" "came" "I", Cond.methodLink RX5 63 yX5_isIn, Cond.static yX5_isIn, Cond.code yX5_isIn cX5_isIn 2 (some .boolean), Cond.methodLink RX5 82 yX5_isLawful, Cond.instanceMethod yX5_isLawful, Cond.selects RX5 yX5_isLawful yX5_isLawful, Cond.code yX5_isLawful cX5_isLawful 4 (some .boolean), Cond.fieldLink RX5 53 "SumOfTwoThatStand$Street" "sums" "I", Cond.methodLink RX5 91 yJ6_numberOfLeadingZeros_0f7a4, Cond.static yJ6_numberOfLeadingZeros_0f7a4, Cond.initialized RJ6, Cond.code yJ6_numberOfLeadingZeros_0f7a4 cJ6_numberOfLeadingZeros_0f7a4 2 (some .int)]
def wsX5_mayBe_r2 : List Cond := [Cond.constant RJ6 264 (65536), Cond.methodLink RX5 85 yX5_lends, Cond.instanceMethod yX5_lends, Cond.selects RX5 yX5_lends yX5_lends, Cond.code yX5_lends cX5_lends 3 (some .boolean), Cond.fieldLink RX5 9 "SumOfTwoThatStand$Street" "kinds" "[I", Cond.fieldLink RX5 27 "SumOfTwoThatStand$Street" "uses" "[I", Cond.methodLink RX5 88 yX5_isThere, Cond.instanceMethod yX5_isThere, Cond.selects RX5 yX5_isThere yX5_isThere, Cond.code yX5_isThere cX5_isThere 3 (some .boolean)]
def wsX5_mayBe : List Cond := .code yX5_mayBe cX5_mayBe 4 (some .boolean) :: ((wsX5_mayBe_r1 ++ wsX5_mayBe_r2) ++ wsX50)
def wsX5_place : List Cond := .code yX5_place cX5_place 6 none :: ([.fieldLink RX5 18 "SumOfTwoThatStand$Street" "numbers" "[I", .fieldLink RX5 36 "SumOfTwoThatStand$Street" "came" "I", .fieldLink RX5 21 "SumOfTwoThatStand$Street" "firsts" "[I", .fieldLink RX5 24 "SumOfTwoThatStand$Street" "seconds" "[I", .fieldLink RX5 9 "SumOfTwoThatStand$Street" "kinds" "[I", .fieldLink RX5 15 "SumOfTwoThatStand$Street" "figures" "[I", .fieldLink RX5 27 "SumOfTwoThatStand$Street" "uses" "[I", .fieldLink RX5 30 "SumOfTwoThatStand$Street" "earned" "[I", .fieldLink RX5 40 "SumOfTwoThatStand$Street" "standing" "I", .methodLink RX5 94 yX5_hasRoom, .instanceMethod yX5_hasRoom, .selects RX5 yX5_hasRoom yX5_hasRoom, .initialized RX5, .code yX5_hasRoom cX5_hasRoom 1 (some .boolean)] ++ wsX50)
def wsX5_fee : List Cond := .code yX5_fee cX5_fee 2 (some .int) :: ([.fieldLink RX5 9 "SumOfTwoThatStand$Street" "kinds" "[I", .fieldLink RX5 15 "SumOfTwoThatStand$Street" "figures" "[I", .methodLink RX5 59 yX5_has, .instanceMethod yX5_has, .selects RX5 yX5_has yX5_has, .initialized RX5, .code yX5_has cX5_has 2 (some .boolean), .fieldLink RX5 36 "SumOfTwoThatStand$Street" "came" "I"] ++ wsX50)
def wsX5_use : List Cond := .code yX5_use cX5_use 2 none :: ([.fieldLink RX5 27 "SumOfTwoThatStand$Street" "uses" "[I", .fieldLink RX5 30 "SumOfTwoThatStand$Street" "earned" "[I", .methodLink RX5 59 yX5_has, .instanceMethod yX5_has, .selects RX5 yX5_has yX5_has, .initialized RX5, .code yX5_has cX5_has 2 (some .boolean), .fieldLink RX5 36 "SumOfTwoThatStand$Street" "came" "I", .methodLink RX5 111 yX5_fee, .instanceMethod yX5_fee, .selects RX5 yX5_fee yX5_fee, .code yX5_fee cX5_fee 2 (some .int), .fieldLink RX5 9 "SumOfTwoThatStand$Street" "kinds" "[I", .fieldLink RX5 15 "SumOfTwoThatStand$Street" "figures" "[I"] ++ wsX50)
def wsX5_loseHut : List Cond := .code yX5_loseHut cX5_loseHut 2 none :: ([.fieldLink RX5 9 "SumOfTwoThatStand$Street" "kinds" "[I", .fieldLink RX5 40 "SumOfTwoThatStand$Street" "standing" "I", .methodLink RX5 59 yX5_has, .instanceMethod yX5_has, .selects RX5 yX5_has yX5_has, .initialized RX5, .code yX5_has cX5_has 2 (some .boolean), .fieldLink RX5 36 "SumOfTwoThatStand$Street" "came" "I"] ++ wsX50)
def wsX5_build_r1 : List Cond := [Cond.fieldLink RX5 18 "SumOfTwoThatStand$Street" "numbers" "[I", Cond.methodLink RX5 94 yX5_hasRoom, Cond.instanceMethod yX5_hasRoom, Cond.selects RX5 yX5_hasRoom yX5_hasRoom, Cond.initialized RX5, Cond.code yX5_hasRoom cX5_hasRoom 1 (some .boolean), Cond.fieldLink RX5 36 "SumOfTwoThatStand$Street" "came" "I", Cond.methodLink RX5 98 yX5_isKind, Cond.static yX5_isKind, Cond.code yX5_isKind cX5_isKind 1 (some .boolean), Cond.methodLink RX5 101 yX5_mayBe, Cond.instanceMethod yX5_mayBe, Cond.selects RX5 yX5_mayBe yX5_mayBe, Cond.code yX5_mayBe cX5_mayBe 4 (some .boolean), Cond.methodLink RX5 79 yX5_stands, Cond.instanceMethod yX5_stands, Cond.selects RX5 yX5_stands yX5_stands, Cond.code yX5_stands cX5_stands 2 (some .boolean), Cond.fieldLink RX5 40 "SumOfTwoThatStand$Street" "standing" "I", Cond.methodLink RX5 59 yX5_has, Cond.instanceMethod yX5_has, Cond.selects RX5 yX5_has yX5_has, Cond.code yX5_has cX5_has 2 (some .boolean), Cond.methodLink RX5 63 yX5_isIn]
def wsX5_build_r2 : List Cond := [Cond.static yX5_isIn, Cond.code yX5_isIn cX5_isIn 2 (some .boolean), Cond.methodLink RX5 82 yX5_isLawful, Cond.instanceMethod yX5_isLawful, Cond.selects RX5 yX5_isLawful yX5_isLawful, Cond.code yX5_isLawful cX5_isLawful 4 (some .boolean), Cond.fieldLink RX5 53 "SumOfTwoThatStand$Street" "sums" "I", Cond.methodLink RX5 91 yJ6_numberOfLeadingZeros_0f7a4, Cond.static yJ6_numberOfLeadingZeros_0f7a4, Cond.initialized RJ6, Cond.code yJ6_numberOfLeadingZeros_0f7a4 cJ6_numberOfLeadingZeros_0f7a4 2 (some .int), Cond.constant RJ6 264 (65536), Cond.methodLink RX5 85 yX5_lends, Cond.instanceMethod yX5_lends, Cond.selects RX5 yX5_lends yX5_lends, Cond.code yX5_lends cX5_lends 3 (some .boolean), Cond.fieldLink RX5 9 "SumOfTwoThatStand$Street" "kinds" "[I", Cond.fieldLink RX5 27 "SumOfTwoThatStand$Street" "uses" "[I", Cond.methodLink RX5 88 yX5_isThere, Cond.instanceMethod yX5_isThere, Cond.selects RX5 yX5_isThere yX5_isThere, Cond.code yX5_isThere cX5_isThere 3 (some .boolean), Cond.methodLink RX5 43 yX5_place, Cond.instanceMethod yX5_place]
def wsX5_build_r3 : List Cond := [Cond.selects RX5 yX5_place yX5_place, Cond.code yX5_place cX5_place 6 none, Cond.fieldLink RX5 21 "SumOfTwoThatStand$Street" "firsts" "[I", Cond.fieldLink RX5 24 "SumOfTwoThatStand$Street" "seconds" "[I", Cond.fieldLink RX5 15 "SumOfTwoThatStand$Street" "figures" "[I", Cond.fieldLink RX5 30 "SumOfTwoThatStand$Street" "earned" "[I", Cond.methodLink RX5 104 yX5_use, Cond.instanceMethod yX5_use, Cond.selects RX5 yX5_use yX5_use, Cond.code yX5_use cX5_use 2 none, Cond.methodLink RX5 111 yX5_fee, Cond.instanceMethod yX5_fee, Cond.selects RX5 yX5_fee yX5_fee, Cond.code yX5_fee cX5_fee 2 (some .int), Cond.methodLink RX5 108 yX5_loseHut, Cond.instanceMethod yX5_loseHut, Cond.selects RX5 yX5_loseHut yX5_loseHut, Cond.code yX5_loseHut cX5_loseHut 2 none]
def wsX5_build : List Cond := .code yX5_build cX5_build 5 (some .boolean) :: ((wsX5_build_r1 ++ (wsX5_build_r2 ++ wsX5_build_r3)) ++ wsX50)
def wsX5_fallsWith : List Cond := .code yX5_fallsWith cX5_fallsWith 5 (some .int) :: ([.fieldLink RX5 40 "SumOfTwoThatStand$Street" "standing" "I", .fieldLink RX5 36 "SumOfTwoThatStand$Street" "came" "I", .fieldLink RX5 56 "SumOfTwoThatStand$Street" "falls" "I", .fieldLink RX5 9 "SumOfTwoThatStand$Street" "kinds" "[I", .fieldLink RX5 21 "SumOfTwoThatStand$Street" "firsts" "[I", .fieldLink RX5 24 "SumOfTwoThatStand$Street" "seconds" "[I", .methodLink RX5 79 yX5_stands, .instanceMethod yX5_stands, .selects RX5 yX5_stands yX5_stands, .initialized RX5, .code yX5_stands cX5_stands 2 (some .boolean), .methodLink RX5 59 yX5_has, .instanceMethod yX5_has, .selects RX5 yX5_has yX5_has, .code yX5_has cX5_has 2 (some .boolean), .methodLink RX5 63 yX5_isIn, .static yX5_isIn, .code yX5_isIn cX5_isIn 2 (some .boolean)] ++ wsX50)
def wsX5_fire_r1 : List Cond := [Cond.fieldLink RX5 40 "SumOfTwoThatStand$Street" "standing" "I", Cond.methodLink RX5 114 yX5_fallsWith, Cond.instanceMethod yX5_fallsWith, Cond.selects RX5 yX5_fallsWith yX5_fallsWith, Cond.initialized RX5, Cond.code yX5_fallsWith cX5_fallsWith 5 (some .int), Cond.fieldLink RX5 36 "SumOfTwoThatStand$Street" "came" "I", Cond.fieldLink RX5 56 "SumOfTwoThatStand$Street" "falls" "I", Cond.fieldLink RX5 9 "SumOfTwoThatStand$Street" "kinds" "[I", Cond.fieldLink RX5 21 "SumOfTwoThatStand$Street" "firsts" "[I", Cond.fieldLink RX5 24 "SumOfTwoThatStand$Street" "seconds" "[I", Cond.methodLink RX5 79 yX5_stands, Cond.instanceMethod yX5_stands, Cond.selects RX5 yX5_stands yX5_stands, Cond.code yX5_stands cX5_stands 2 (some .boolean), Cond.methodLink RX5 59 yX5_has, Cond.instanceMethod yX5_has, Cond.selects RX5 yX5_has yX5_has, Cond.code yX5_has cX5_has 2 (some .boolean), Cond.methodLink RX5 63 yX5_isIn, Cond.static yX5_isIn, Cond.code yX5_isIn cX5_isIn 2 (some .boolean), Cond.methodLink RX5 67 yJ6_bitCount_0f7a4, Cond.static yJ6_bitCount_0f7a4]
def wsX5_fire_r2 : List Cond := [Cond.initialized RJ6, Cond.code yJ6_bitCount_0f7a4 cJ6_bitCount_0f7a4 1 (some .int), Cond.constant RJ6 265 (1431655765), Cond.constant RJ6 266 (858993459), Cond.constant RJ6 267 (252645135)]
def wsX5_fire : List Cond := .code yX5_fire cX5_fire 3 (some .int) :: ((wsX5_fire_r1 ++ wsX5_fire_r2) ++ wsX50)
def wsX5_changeLaws : List Cond := .code yX5_changeLaws cX5_changeLaws 3 (some .boolean) :: ([.fieldLink RX5 53 "SumOfTwoThatStand$Street" "sums" "I", .fieldLink RX5 56 "SumOfTwoThatStand$Street" "falls" "I"] ++ wsX50)
def wsX5_beginAnew : List Cond := .code yX5_beginAnew cX5_beginAnew 1 none :: ([.fieldLink RX5 36 "SumOfTwoThatStand$Street" "came" "I", .fieldLink RX5 40 "SumOfTwoThatStand$Street" "standing" "I", .methodLink RX5 43 yX5_place, .instanceMethod yX5_place, .selects RX5 yX5_place yX5_place, .initialized RX5, .code yX5_place cX5_place 6 none, .fieldLink RX5 18 "SumOfTwoThatStand$Street" "numbers" "[I", .fieldLink RX5 21 "SumOfTwoThatStand$Street" "firsts" "[I", .fieldLink RX5 24 "SumOfTwoThatStand$Street" "seconds" "[I", .fieldLink RX5 9 "SumOfTwoThatStand$Street" "kinds" "[I", .fieldLink RX5 15 "SumOfTwoThatStand$Street" "figures" "[I", .fieldLink RX5 27 "SumOfTwoThatStand$Street" "uses" "[I", .fieldLink RX5 30 "SumOfTwoThatStand$Street" "earned" "[I", .methodLink RX5 94 yX5_hasRoom, .instanceMethod yX5_hasRoom, .selects RX5 yX5_hasRoom yX5_hasRoom, .code yX5_hasRoom cX5_hasRoom 1 (some .boolean)] ++ wsX50)
def wsX2_comesTo_r1 : List Cond := [Cond.fieldLink RX2 34 "SumOfTwoThatStand$Letters" "verb" "I", Cond.fieldLink RX2 9 "SumOfTwoThatStand$Letters" "figures" "[I", Cond.methodLink RX2 37 yX5_build, Cond.instanceMethod yX5_build, Cond.selects RX5 yX5_build yX5_build, Cond.initialized RX5, Cond.code yX5_build cX5_build 5 (some .boolean), Cond.fieldLink RX5 18 "SumOfTwoThatStand$Street" "numbers" "[I", Cond.methodLink RX5 94 yX5_hasRoom, Cond.instanceMethod yX5_hasRoom, Cond.selects RX5 yX5_hasRoom yX5_hasRoom, Cond.code yX5_hasRoom cX5_hasRoom 1 (some .boolean), Cond.fieldLink RX5 36 "SumOfTwoThatStand$Street" "came" "I", Cond.methodLink RX5 98 yX5_isKind, Cond.static yX5_isKind, Cond.code yX5_isKind cX5_isKind 1 (some .boolean), Cond.methodLink RX5 101 yX5_mayBe, Cond.instanceMethod yX5_mayBe, Cond.selects RX5 yX5_mayBe yX5_mayBe, Cond.code yX5_mayBe cX5_mayBe 4 (some .boolean), Cond.methodLink RX5 79 yX5_stands, Cond.instanceMethod yX5_stands, Cond.selects RX5 yX5_stands yX5_stands, Cond.code yX5_stands cX5_stands 2 (some .boolean)]
def wsX2_comesTo_r2 : List Cond := [Cond.fieldLink RX5 40 "SumOfTwoThatStand$Street" "standing" "I", Cond.methodLink RX5 59 yX5_has, Cond.instanceMethod yX5_has, Cond.selects RX5 yX5_has yX5_has, Cond.code yX5_has cX5_has 2 (some .boolean), Cond.methodLink RX5 63 yX5_isIn, Cond.static yX5_isIn, Cond.code yX5_isIn cX5_isIn 2 (some .boolean), Cond.methodLink RX5 82 yX5_isLawful, Cond.instanceMethod yX5_isLawful, Cond.selects RX5 yX5_isLawful yX5_isLawful, Cond.code yX5_isLawful cX5_isLawful 4 (some .boolean), Cond.fieldLink RX5 53 "SumOfTwoThatStand$Street" "sums" "I", Cond.methodLink RX5 91 yJ6_numberOfLeadingZeros_0f7a4, Cond.static yJ6_numberOfLeadingZeros_0f7a4, Cond.initialized RJ6, Cond.code yJ6_numberOfLeadingZeros_0f7a4 cJ6_numberOfLeadingZeros_0f7a4 2 (some .int), Cond.constant RJ6 264 (65536), Cond.methodLink RX5 85 yX5_lends, Cond.instanceMethod yX5_lends, Cond.selects RX5 yX5_lends yX5_lends, Cond.code yX5_lends cX5_lends 3 (some .boolean), Cond.fieldLink RX5 9 "SumOfTwoThatStand$Street" "kinds" "[I", Cond.fieldLink RX5 27 "SumOfTwoThatStand$Street" "uses" "[I"]
def wsX2_comesTo_r3 : List Cond := [Cond.methodLink RX5 88 yX5_isThere, Cond.instanceMethod yX5_isThere, Cond.selects RX5 yX5_isThere yX5_isThere, Cond.code yX5_isThere cX5_isThere 3 (some .boolean), Cond.methodLink RX5 43 yX5_place, Cond.instanceMethod yX5_place, Cond.selects RX5 yX5_place yX5_place, Cond.code yX5_place cX5_place 6 none, Cond.fieldLink RX5 21 "SumOfTwoThatStand$Street" "firsts" "[I", Cond.fieldLink RX5 24 "SumOfTwoThatStand$Street" "seconds" "[I", Cond.fieldLink RX5 15 "SumOfTwoThatStand$Street" "figures" "[I", Cond.fieldLink RX5 30 "SumOfTwoThatStand$Street" "earned" "[I", Cond.methodLink RX5 104 yX5_use, Cond.instanceMethod yX5_use, Cond.selects RX5 yX5_use yX5_use, Cond.code yX5_use cX5_use 2 none, Cond.methodLink RX5 111 yX5_fee, Cond.instanceMethod yX5_fee, Cond.selects RX5 yX5_fee yX5_fee, Cond.code yX5_fee cX5_fee 2 (some .int), Cond.methodLink RX5 108 yX5_loseHut, Cond.instanceMethod yX5_loseHut, Cond.selects RX5 yX5_loseHut yX5_loseHut, Cond.code yX5_loseHut cX5_loseHut 2 none]
def wsX2_comesTo_r4 : List Cond := [Cond.methodLink RX2 43 yX5_fire, Cond.instanceMethod yX5_fire, Cond.selects RX5 yX5_fire yX5_fire, Cond.code yX5_fire cX5_fire 3 (some .int), Cond.methodLink RX5 114 yX5_fallsWith, Cond.instanceMethod yX5_fallsWith, Cond.selects RX5 yX5_fallsWith yX5_fallsWith, Cond.code yX5_fallsWith cX5_fallsWith 5 (some .int), Cond.fieldLink RX5 56 "SumOfTwoThatStand$Street" "falls" "I", Cond.methodLink RX5 67 yJ6_bitCount_0f7a4, Cond.static yJ6_bitCount_0f7a4, Cond.code yJ6_bitCount_0f7a4 cJ6_bitCount_0f7a4 1 (some .int), Cond.constant RJ6 265 (1431655765), Cond.constant RJ6 266 (858993459), Cond.constant RJ6 267 (252645135), Cond.methodLink RX2 47 yX5_changeLaws, Cond.instanceMethod yX5_changeLaws, Cond.selects RX5 yX5_changeLaws yX5_changeLaws, Cond.code yX5_changeLaws cX5_changeLaws 3 (some .boolean), Cond.methodLink RX2 51 yX5_beginAnew, Cond.instanceMethod yX5_beginAnew, Cond.selects RX5 yX5_beginAnew yX5_beginAnew, Cond.code yX5_beginAnew cX5_beginAnew 1 none]
def wsX2_comesTo : List Cond := .code yX2_comesTo cX2_comesTo 2 (some .boolean) :: ((wsX2_comesTo_r1 ++ (wsX2_comesTo_r2 ++ (wsX2_comesTo_r3 ++ wsX2_comesTo_r4))) ++ wsX20 ++ wsX50)
def wsX2_faultOfSense_r1 : List Cond := [Cond.fieldLink RX2 19 "SumOfTwoThatStand$Letters" "at" "I", Cond.fieldLink RX2 15 "SumOfTwoThatStand$Letters" "statements" "I", Cond.methodLink RX2 26 yX2_readStatement, Cond.instanceMethod yX2_readStatement, Cond.selects RX2 yX2_readStatement yX2_readStatement, Cond.initialized RX2, Cond.code yX2_readStatement cX2_readStatement 3 (some .boolean), Cond.fieldLink RX2 34 "SumOfTwoThatStand$Letters" "verb" "I", Cond.fieldLink RX2 58 "SumOfTwoThatStand$Letters" "figureCount" "I", Cond.methodLink RX2 55 ⟨"SumOfTwoThatStand$Letters", "toldAt", "(I)I"⟩, Cond.sameMethod "SumOfTwoThatStand$Letters" "SumOfTwoThatStand$Told" "toldAt" "(I)I", Cond.selects RX2 ⟨"SumOfTwoThatStand$Letters", "toldAt", "(I)I"⟩ yX6_toldAt, Cond.instanceMethod yX6_toldAt, Cond.initialized RX6, Cond.code yX6_toldAt cX6_toldAt 2 (some .int), Cond.fieldLink RX6 19 "SumOfTwoThatStand$Told" "length" "I", Cond.fieldLink RX6 13 "SumOfTwoThatStand$Told" "all" "[I", Cond.methodLink RX2 61 yX2_formOf, Cond.static yX2_formOf, Cond.code yX2_formOf cX2_formOf 1 (some (.object "java/lang/String")), Cond.methodLink RX2 65 yJ0_isEmpty_aae02, Cond.instanceMethod yJ0_isEmpty_aae02, Cond.selects RJ0 yJ0_isEmpty_aae02 yJ0_isEmpty_aae02, Cond.initialized RJ0]
def wsX2_faultOfSense_r2 : List Cond := [Cond.code yJ0_isEmpty_aae02 cJ0_isEmpty_aae02 1 (some .boolean), Cond.fieldLink RJ0 9 "java/lang/String" "value" "[B", Cond.methodLink RX2 70 yJ0_length_8abf5, Cond.instanceMethod yJ0_length_8abf5, Cond.selects RJ0 yJ0_length_8abf5 yJ0_length_8abf5, Cond.code yJ0_length_8abf5 cJ0_length_8abf5 1 (some .int), Cond.methodLink RJ0 335 yJ0_coder_7d493, Cond.instanceMethod yJ0_coder_7d493, Cond.selects RJ0 yJ0_coder_7d493 yJ0_coder_7d493, Cond.code yJ0_coder_7d493 cJ0_coder_7d493 1 (some .byte), Cond.fieldLink RJ0 38 "java/lang/String" "COMPACT_STRINGS" "Z", Cond.fieldLink RJ0 15 "java/lang/String" "coder" "B", Cond.methodLink RX2 73 yJ0_charAt_5068e, Cond.instanceMethod yJ0_charAt_5068e, Cond.selects RJ0 yJ0_charAt_5068e yJ0_charAt_5068e, Cond.code yJ0_charAt_5068e cJ0_charAt_5068e 2 (some .char), Cond.methodLink RJ0 492 yJ0_isLatin1_aae02, Cond.instanceMethod yJ0_isLatin1_aae02, Cond.selects RJ0 yJ0_isLatin1_aae02 yJ0_isLatin1_aae02, Cond.code yJ0_isLatin1_aae02 cJ0_isLatin1_aae02 1 (some .boolean), Cond.methodLink RJ0 495 yJ1_charAt_3b067, Cond.static yJ1_charAt_3b067, Cond.initialized RJ1, Cond.code yJ1_charAt_3b067 cJ1_charAt_3b067 2 (some .char)]
def wsX2_faultOfSense_r3 : List Cond := [Cond.methodLink RJ1 9 yJ0_checkIndex_df160, Cond.static yJ0_checkIndex_df160, Cond.code yJ0_checkIndex_df160 cJ0_checkIndex_df160 2 none, Cond.fieldLink RJ0 1053 "jdk/internal/util/Preconditions" "SIOOBE_FORMATTER" "Ljava/util/function/BiFunction;", Cond.methodLink RJ0 1059 yJ3_checkIndex_8e157, Cond.static yJ3_checkIndex_8e157, Cond.initialized RJ3, Cond.code yJ3_checkIndex_8e157 cJ3_checkIndex_8e157 3 (some .int), Cond.methodLink RJ0 498 yJ2_charAt_3b067, Cond.static yJ2_charAt_3b067, Cond.initialized RJ2, Cond.code yJ2_charAt_3b067 cJ2_charAt_3b067 2 (some .char), Cond.methodLink RJ2 67 yJ2_checkIndex_2214a, Cond.static yJ2_checkIndex_2214a, Cond.code yJ2_checkIndex_2214a cJ2_checkIndex_2214a 2 none, Cond.methodLink RJ2 48 yJ2_length_9d52b, Cond.static yJ2_length_9d52b, Cond.code yJ2_length_9d52b cJ2_length_9d52b 1 (some .int), Cond.methodLink RJ2 414 yJ0_checkIndex_df160, Cond.methodLink RJ2 71 yJ2_getChar_3b067, Cond.static yJ2_getChar_3b067, Cond.code yJ2_getChar_3b067 cJ2_getChar_3b067 2 (some .char), Cond.fieldLink RJ2 44 "java/lang/StringUTF16" "$assertionsDisabled" "Z", Cond.fieldLink RJ2 59 "java/lang/StringUTF16" "HI_BYTE_SHIFT" "I"]
def wsX2_faultOfSense_r4 : List Cond := [Cond.fieldLink RJ2 63 "java/lang/StringUTF16" "LO_BYTE_SHIFT" "I", Cond.methodLink RX2 77 yX2_readPart, Cond.instanceMethod yX2_readPart, Cond.selects RX2 yX2_readPart yX2_readPart, Cond.code yX2_readPart cX2_readPart 2 (some .boolean), Cond.methodLink RX2 91 yX2_readFigure, Cond.instanceMethod yX2_readFigure, Cond.selects RX2 yX2_readFigure yX2_readFigure, Cond.code yX2_readFigure cX2_readFigure 4 (some .boolean), Cond.fieldLink RX2 9 "SumOfTwoThatStand$Letters" "figures" "[I", Cond.methodLink RX2 95 yX2_isDigit, Cond.static yX2_isDigit, Cond.code yX2_isDigit cX2_isDigit 1 (some .boolean), Cond.methodLink RX2 30 yX2_comesTo, Cond.instanceMethod yX2_comesTo, Cond.selects RX2 yX2_comesTo yX2_comesTo, Cond.code yX2_comesTo cX2_comesTo 2 (some .boolean), Cond.methodLink RX2 37 yX5_build, Cond.instanceMethod yX5_build, Cond.selects RX5 yX5_build yX5_build, Cond.initialized RX5, Cond.code yX5_build cX5_build 5 (some .boolean), Cond.fieldLink RX5 18 "SumOfTwoThatStand$Street" "numbers" "[I", Cond.methodLink RX5 94 yX5_hasRoom]
def wsX2_faultOfSense_r5 : List Cond := [Cond.instanceMethod yX5_hasRoom, Cond.selects RX5 yX5_hasRoom yX5_hasRoom, Cond.code yX5_hasRoom cX5_hasRoom 1 (some .boolean), Cond.fieldLink RX5 36 "SumOfTwoThatStand$Street" "came" "I", Cond.methodLink RX5 98 yX5_isKind, Cond.static yX5_isKind, Cond.code yX5_isKind cX5_isKind 1 (some .boolean), Cond.methodLink RX5 101 yX5_mayBe, Cond.instanceMethod yX5_mayBe, Cond.selects RX5 yX5_mayBe yX5_mayBe, Cond.code yX5_mayBe cX5_mayBe 4 (some .boolean), Cond.methodLink RX5 79 yX5_stands, Cond.instanceMethod yX5_stands, Cond.selects RX5 yX5_stands yX5_stands, Cond.code yX5_stands cX5_stands 2 (some .boolean), Cond.fieldLink RX5 40 "SumOfTwoThatStand$Street" "standing" "I", Cond.methodLink RX5 59 yX5_has, Cond.instanceMethod yX5_has, Cond.selects RX5 yX5_has yX5_has, Cond.code yX5_has cX5_has 2 (some .boolean), Cond.methodLink RX5 63 yX5_isIn, Cond.static yX5_isIn, Cond.code yX5_isIn cX5_isIn 2 (some .boolean), Cond.methodLink RX5 82 yX5_isLawful]
def wsX2_faultOfSense_r6 : List Cond := [Cond.instanceMethod yX5_isLawful, Cond.selects RX5 yX5_isLawful yX5_isLawful, Cond.code yX5_isLawful cX5_isLawful 4 (some .boolean), Cond.fieldLink RX5 53 "SumOfTwoThatStand$Street" "sums" "I", Cond.methodLink RX5 91 yJ6_numberOfLeadingZeros_0f7a4, Cond.static yJ6_numberOfLeadingZeros_0f7a4, Cond.initialized RJ6, Cond.code yJ6_numberOfLeadingZeros_0f7a4 cJ6_numberOfLeadingZeros_0f7a4 2 (some .int), Cond.constant RJ6 264 (65536), Cond.methodLink RX5 85 yX5_lends, Cond.instanceMethod yX5_lends, Cond.selects RX5 yX5_lends yX5_lends, Cond.code yX5_lends cX5_lends 3 (some .boolean), Cond.fieldLink RX5 9 "SumOfTwoThatStand$Street" "kinds" "[I", Cond.fieldLink RX5 27 "SumOfTwoThatStand$Street" "uses" "[I", Cond.methodLink RX5 88 yX5_isThere, Cond.instanceMethod yX5_isThere, Cond.selects RX5 yX5_isThere yX5_isThere, Cond.code yX5_isThere cX5_isThere 3 (some .boolean), Cond.methodLink RX5 43 yX5_place, Cond.instanceMethod yX5_place, Cond.selects RX5 yX5_place yX5_place, Cond.code yX5_place cX5_place 6 none, Cond.fieldLink RX5 21 "SumOfTwoThatStand$Street" "firsts" "[I"]
def wsX2_faultOfSense_r7 : List Cond := [Cond.fieldLink RX5 24 "SumOfTwoThatStand$Street" "seconds" "[I", Cond.fieldLink RX5 15 "SumOfTwoThatStand$Street" "figures" "[I", Cond.fieldLink RX5 30 "SumOfTwoThatStand$Street" "earned" "[I", Cond.methodLink RX5 104 yX5_use, Cond.instanceMethod yX5_use, Cond.selects RX5 yX5_use yX5_use, Cond.code yX5_use cX5_use 2 none, Cond.methodLink RX5 111 yX5_fee, Cond.instanceMethod yX5_fee, Cond.selects RX5 yX5_fee yX5_fee, Cond.code yX5_fee cX5_fee 2 (some .int), Cond.methodLink RX5 108 yX5_loseHut, Cond.instanceMethod yX5_loseHut, Cond.selects RX5 yX5_loseHut yX5_loseHut, Cond.code yX5_loseHut cX5_loseHut 2 none, Cond.methodLink RX2 43 yX5_fire, Cond.instanceMethod yX5_fire, Cond.selects RX5 yX5_fire yX5_fire, Cond.code yX5_fire cX5_fire 3 (some .int), Cond.methodLink RX5 114 yX5_fallsWith, Cond.instanceMethod yX5_fallsWith, Cond.selects RX5 yX5_fallsWith yX5_fallsWith, Cond.code yX5_fallsWith cX5_fallsWith 5 (some .int), Cond.fieldLink RX5 56 "SumOfTwoThatStand$Street" "falls" "I"]
def wsX2_faultOfSense_r8 : List Cond := [Cond.methodLink RX5 67 yJ6_bitCount_0f7a4, Cond.static yJ6_bitCount_0f7a4, Cond.code yJ6_bitCount_0f7a4 cJ6_bitCount_0f7a4 1 (some .int), Cond.constant RJ6 265 (1431655765), Cond.constant RJ6 266 (858993459), Cond.constant RJ6 267 (252645135), Cond.methodLink RX2 47 yX5_changeLaws, Cond.instanceMethod yX5_changeLaws, Cond.selects RX5 yX5_changeLaws yX5_changeLaws, Cond.code yX5_changeLaws cX5_changeLaws 3 (some .boolean), Cond.methodLink RX2 51 yX5_beginAnew, Cond.instanceMethod yX5_beginAnew, Cond.selects RX5 yX5_beginAnew yX5_beginAnew, Cond.code yX5_beginAnew cX5_beginAnew 1 none]
def wsX2_faultOfSense : List Cond := .code yX2_faultOfSense cX2_faultOfSense 4 (some .int) :: ((wsX2_faultOfSense_r1 ++ (wsX2_faultOfSense_r2 ++ (wsX2_faultOfSense_r3 ++ (wsX2_faultOfSense_r4 ++ (wsX2_faultOfSense_r5 ++ (wsX2_faultOfSense_r6 ++ (wsX2_faultOfSense_r7 ++ wsX2_faultOfSense_r8))))))) ++ wsX20 ++ wsX40 ++ wsX50)
def wsX3_init : List Cond := .code yX3_init cX3_init 1 none :: ([.methodLink RX3 3 objectInit, .instanceMethod objectInit, .code objectInit ⟨#[0xb1]⟩ 1 none, .arrayClass .int, .fieldLink RX3 9 "SumOfTwoThatStand$Orders" "ways" "[I"] ++ wsX30)
def wsX5_standingBits : List Cond := .code yX5_standingBits cX5_standingBits 1 (some .int) :: ([.fieldLink RX5 40 "SumOfTwoThatStand$Street" "standing" "I"] ++ wsX50)
def wsX5_bitOf : List Cond := .code yX5_bitOf cX5_bitOf 2 (some .int) :: ([.methodLink RX5 79 yX5_stands, .instanceMethod yX5_stands, .selects RX5 yX5_stands yX5_stands, .initialized RX5, .code yX5_stands cX5_stands 2 (some .boolean), .fieldLink RX5 40 "SumOfTwoThatStand$Street" "standing" "I", .methodLink RX5 59 yX5_has, .instanceMethod yX5_has, .selects RX5 yX5_has yX5_has, .code yX5_has cX5_has 2 (some .boolean), .fieldLink RX5 36 "SumOfTwoThatStand$Street" "came" "I", .methodLink RX5 63 yX5_isIn, .static yX5_isIn, .code yX5_isIn cX5_isIn 2 (some .boolean)] ++ wsX50)
def wsX5_aheadOf : List Cond := .code yX5_aheadOf cX5_aheadOf 2 (some .int) :: ([.fieldLink RX5 21 "SumOfTwoThatStand$Street" "firsts" "[I", .fieldLink RX5 24 "SumOfTwoThatStand$Street" "seconds" "[I", .methodLink RX5 59 yX5_has, .instanceMethod yX5_has, .selects RX5 yX5_has yX5_has, .initialized RX5, .code yX5_has cX5_has 2 (some .boolean), .fieldLink RX5 36 "SumOfTwoThatStand$Street" "came" "I", .methodLink RX5 117 yX5_bitOf, .instanceMethod yX5_bitOf, .selects RX5 yX5_bitOf yX5_bitOf, .code yX5_bitOf cX5_bitOf 2 (some .int), .methodLink RX5 79 yX5_stands, .instanceMethod yX5_stands, .selects RX5 yX5_stands yX5_stands, .code yX5_stands cX5_stands 2 (some .boolean), .fieldLink RX5 40 "SumOfTwoThatStand$Street" "standing" "I", .methodLink RX5 63 yX5_isIn, .static yX5_isIn, .code yX5_isIn cX5_isIn 2 (some .boolean)] ++ wsX50)
def wsX3_letNextCome_r1 : List Cond := [Cond.fieldLink RX3 9 "SumOfTwoThatStand$Orders" "ways" "[I", Cond.methodLink RX3 25 yX5_aheadOf, Cond.instanceMethod yX5_aheadOf, Cond.selects RX5 yX5_aheadOf yX5_aheadOf, Cond.initialized RX5, Cond.code yX5_aheadOf cX5_aheadOf 2 (some .int), Cond.fieldLink RX5 21 "SumOfTwoThatStand$Street" "firsts" "[I", Cond.fieldLink RX5 24 "SumOfTwoThatStand$Street" "seconds" "[I", Cond.methodLink RX5 59 yX5_has, Cond.instanceMethod yX5_has, Cond.selects RX5 yX5_has yX5_has, Cond.code yX5_has cX5_has 2 (some .boolean), Cond.fieldLink RX5 36 "SumOfTwoThatStand$Street" "came" "I", Cond.methodLink RX5 117 yX5_bitOf, Cond.instanceMethod yX5_bitOf, Cond.selects RX5 yX5_bitOf yX5_bitOf, Cond.code yX5_bitOf cX5_bitOf 2 (some .int), Cond.methodLink RX5 79 yX5_stands, Cond.instanceMethod yX5_stands, Cond.selects RX5 yX5_stands yX5_stands, Cond.code yX5_stands cX5_stands 2 (some .boolean), Cond.fieldLink RX5 40 "SumOfTwoThatStand$Street" "standing" "I", Cond.methodLink RX5 63 yX5_isIn, Cond.static yX5_isIn]
def wsX3_letNextCome_r2 : List Cond := [Cond.code yX5_isIn cX5_isIn 2 (some .boolean)]
def wsX3_letNextCome : List Cond := .code yX3_letNextCome cX3_letNextCome 8 none :: ((wsX3_letNextCome_r1 ++ wsX3_letNextCome_r2) ++ wsX30 ++ wsX50)
def wsX3_of_r1 : List Cond := [Cond.fieldLink RX3 9 "SumOfTwoThatStand$Orders" "ways" "[I", Cond.methodLink RX3 15 yX5_standingBits, Cond.instanceMethod yX5_standingBits, Cond.selects RX5 yX5_standingBits yX5_standingBits, Cond.initialized RX5, Cond.code yX5_standingBits cX5_standingBits 1 (some .int), Cond.fieldLink RX5 40 "SumOfTwoThatStand$Street" "standing" "I", Cond.methodLink RX3 21 yX3_letNextCome, Cond.instanceMethod yX3_letNextCome, Cond.selects RX3 yX3_letNextCome yX3_letNextCome, Cond.initialized RX3, Cond.code yX3_letNextCome cX3_letNextCome 8 none, Cond.methodLink RX3 25 yX5_aheadOf, Cond.instanceMethod yX5_aheadOf, Cond.selects RX5 yX5_aheadOf yX5_aheadOf, Cond.code yX5_aheadOf cX5_aheadOf 2 (some .int), Cond.fieldLink RX5 21 "SumOfTwoThatStand$Street" "firsts" "[I", Cond.fieldLink RX5 24 "SumOfTwoThatStand$Street" "seconds" "[I", Cond.methodLink RX5 59 yX5_has, Cond.instanceMethod yX5_has, Cond.selects RX5 yX5_has yX5_has, Cond.code yX5_has cX5_has 2 (some .boolean), Cond.fieldLink RX5 36 "SumOfTwoThatStand$Street" "came" "I", Cond.methodLink RX5 117 yX5_bitOf]
def wsX3_of_r2 : List Cond := [Cond.instanceMethod yX5_bitOf, Cond.selects RX5 yX5_bitOf yX5_bitOf, Cond.code yX5_bitOf cX5_bitOf 2 (some .int), Cond.methodLink RX5 79 yX5_stands, Cond.instanceMethod yX5_stands, Cond.selects RX5 yX5_stands yX5_stands, Cond.code yX5_stands cX5_stands 2 (some .boolean), Cond.methodLink RX5 63 yX5_isIn, Cond.static yX5_isIn, Cond.code yX5_isIn cX5_isIn 2 (some .boolean)]
def wsX3_of : List Cond := .code yX3_of cX3_of 4 (some .int) :: ((wsX3_of_r1 ++ wsX3_of_r2) ++ wsX30 ++ wsX50)
def wsX4_init : List Cond := .code yX4_init cX4_init 1 none :: ([.methodLink RX4 3 yX6_init, .instanceMethod yX6_init, .initialized RX6, .code yX6_init cX6_init 2 none, .methodLink RX6 1 objectInit, .instanceMethod objectInit, .code objectInit ⟨#[0xb1]⟩ 1 none, .methodLink RX6 7 Lib.Math.max.name, .static Lib.Math.max.name, .initialized "java/lang/Math", .code Lib.Math.max.name Lib.Math.max.code 2 (some .int), .arrayClass .int, .fieldLink RX6 13 "SumOfTwoThatStand$Told" "all" "[I"] ++ wsX20 ++ wsX40)
def wsX4_isNew : List Cond := .code yX4_isNew cX4_isNew 3 (some .boolean) :: ([.methodLink RX4 15 ⟨"SumOfTwoThatStand$Row", "toldAt", "(I)I"⟩, .sameMethod "SumOfTwoThatStand$Row" "SumOfTwoThatStand$Told" "toldAt" "(I)I", .selects RX4 ⟨"SumOfTwoThatStand$Row", "toldAt", "(I)I"⟩ yX6_toldAt, .instanceMethod yX6_toldAt, .initialized RX6, .code yX6_toldAt cX6_toldAt 2 (some .int), .fieldLink RX6 19 "SumOfTwoThatStand$Told" "length" "I", .fieldLink RX6 13 "SumOfTwoThatStand$Told" "all" "[I"] ++ wsX20 ++ wsX40)
def wsX4_isSum : List Cond := .code yX4_isSum cX4_isSum 4 (some .boolean) :: ([.methodLink RX4 15 ⟨"SumOfTwoThatStand$Row", "toldAt", "(I)I"⟩, .sameMethod "SumOfTwoThatStand$Row" "SumOfTwoThatStand$Told" "toldAt" "(I)I", .selects RX4 ⟨"SumOfTwoThatStand$Row", "toldAt", "(I)I"⟩ yX6_toldAt, .instanceMethod yX6_toldAt, .initialized RX6, .code yX6_toldAt cX6_toldAt 2 (some .int), .fieldLink RX6 19 "SumOfTwoThatStand$Told" "length" "I", .fieldLink RX6 13 "SumOfTwoThatStand$Told" "all" "[I"] ++ wsX20 ++ wsX40)
def wsX4_firstWrong : List Cond := .code yX4_firstWrong cX4_firstWrong 3 (some .int) :: ([.methodLink RX4 9 ⟨"SumOfTwoThatStand$Row", "howMany", "()I"⟩, .sameMethod "SumOfTwoThatStand$Row" "SumOfTwoThatStand$Told" "howMany" "()I", .selects RX4 ⟨"SumOfTwoThatStand$Row", "howMany", "()I"⟩ yX6_howMany, .instanceMethod yX6_howMany, .initialized RX6, .code yX6_howMany cX6_howMany 1 (some .int), .fieldLink RX6 19 "SumOfTwoThatStand$Told" "length" "I", .methodLink RX4 15 ⟨"SumOfTwoThatStand$Row", "toldAt", "(I)I"⟩, .sameMethod "SumOfTwoThatStand$Row" "SumOfTwoThatStand$Told" "toldAt" "(I)I", .selects RX4 ⟨"SumOfTwoThatStand$Row", "toldAt", "(I)I"⟩ yX6_toldAt, .instanceMethod yX6_toldAt, .code yX6_toldAt cX6_toldAt 2 (some .int), .fieldLink RX6 13 "SumOfTwoThatStand$Told" "all" "[I", .methodLink RX4 19 yX4_isNew, .instanceMethod yX4_isNew, .selects RX4 yX4_isNew yX4_isNew, .initialized RX4, .code yX4_isNew cX4_isNew 3 (some .boolean), .methodLink RX4 23 yX4_isSum, .instanceMethod yX4_isSum, .selects RX4 yX4_isSum yX4_isSum, .code yX4_isSum cX4_isSum 4 (some .boolean)] ++ wsX20 ++ wsX40)
def wsX5_init_r1 : List Cond := [Cond.methodLink RX5 3 objectInit, Cond.instanceMethod objectInit, Cond.code objectInit ⟨#[0xb1]⟩ 1 none, Cond.arrayClass .int, Cond.fieldLink RX5 9 "SumOfTwoThatStand$Street" "kinds" "[I", Cond.fieldLink RX5 15 "SumOfTwoThatStand$Street" "figures" "[I", Cond.fieldLink RX5 18 "SumOfTwoThatStand$Street" "numbers" "[I", Cond.fieldLink RX5 21 "SumOfTwoThatStand$Street" "firsts" "[I", Cond.fieldLink RX5 24 "SumOfTwoThatStand$Street" "seconds" "[I", Cond.fieldLink RX5 27 "SumOfTwoThatStand$Street" "uses" "[I", Cond.fieldLink RX5 30 "SumOfTwoThatStand$Street" "earned" "[I", Cond.methodLink RX5 33 yX5_beginAnew, Cond.instanceMethod yX5_beginAnew, Cond.selects RX5 yX5_beginAnew yX5_beginAnew, Cond.initialized RX5, Cond.code yX5_beginAnew cX5_beginAnew 1 none, Cond.fieldLink RX5 36 "SumOfTwoThatStand$Street" "came" "I", Cond.fieldLink RX5 40 "SumOfTwoThatStand$Street" "standing" "I", Cond.methodLink RX5 43 yX5_place, Cond.instanceMethod yX5_place, Cond.selects RX5 yX5_place yX5_place, Cond.code yX5_place cX5_place 6 none, Cond.methodLink RX5 94 yX5_hasRoom, Cond.instanceMethod yX5_hasRoom]
def wsX5_init_r2 : List Cond := [Cond.selects RX5 yX5_hasRoom yX5_hasRoom, Cond.code yX5_hasRoom cX5_hasRoom 1 (some .boolean)]
def wsX5_init : List Cond := .code yX5_init cX5_init 1 none :: ((wsX5_init_r1 ++ wsX5_init_r2) ++ wsX50)
def wsX5_become : List Cond := .code yX5_become cX5_become 2 none :: ([.fieldLink RX5 9 "SumOfTwoThatStand$Street" "kinds" "[I", .methodLink RX5 47 arraycopyName, .native arraycopyName, .static arraycopyName, .initialized "java/lang/System", .fieldLink RX5 15 "SumOfTwoThatStand$Street" "figures" "[I", .fieldLink RX5 18 "SumOfTwoThatStand$Street" "numbers" "[I", .fieldLink RX5 21 "SumOfTwoThatStand$Street" "firsts" "[I", .fieldLink RX5 24 "SumOfTwoThatStand$Street" "seconds" "[I", .fieldLink RX5 27 "SumOfTwoThatStand$Street" "uses" "[I", .fieldLink RX5 30 "SumOfTwoThatStand$Street" "earned" "[I", .fieldLink RX5 36 "SumOfTwoThatStand$Street" "came" "I", .fieldLink RX5 40 "SumOfTwoThatStand$Street" "standing" "I", .fieldLink RX5 53 "SumOfTwoThatStand$Street" "sums" "I", .fieldLink RX5 56 "SumOfTwoThatStand$Street" "falls" "I"] ++ wsX50)
def wsX5_cameCount : List Cond := .code yX5_cameCount cX5_cameCount 1 (some .int) :: ([.fieldLink RX5 36 "SumOfTwoThatStand$Street" "came" "I"] ++ wsX50)
def wsX5_standingCount : List Cond := .code yX5_standingCount cX5_standingCount 1 (some .int) :: ([.fieldLink RX5 40 "SumOfTwoThatStand$Street" "standing" "I", .methodLink RX5 67 yJ6_bitCount_0f7a4, .static yJ6_bitCount_0f7a4, .initialized RJ6, .code yJ6_bitCount_0f7a4 cJ6_bitCount_0f7a4 1 (some .int), .constant RJ6 265 (1431655765), .constant RJ6 266 (858993459), .constant RJ6 267 (252645135)] ++ wsX50)
def wsX5_sumsLaw : List Cond := .code yX5_sumsLaw cX5_sumsLaw 1 (some .int) :: ([.fieldLink RX5 53 "SumOfTwoThatStand$Street" "sums" "I"] ++ wsX50)
def wsX5_fallsLaw : List Cond := .code yX5_fallsLaw cX5_fallsLaw 1 (some .int) :: ([.fieldLink RX5 56 "SumOfTwoThatStand$Street" "falls" "I"] ++ wsX50)
def wsX5_tell : List Cond := .code yX5_tell cX5_tell 3 (some .int) :: ([.fieldLink RX5 9 "SumOfTwoThatStand$Street" "kinds" "[I", .fieldLink RX5 15 "SumOfTwoThatStand$Street" "figures" "[I", .fieldLink RX5 18 "SumOfTwoThatStand$Street" "numbers" "[I", .fieldLink RX5 21 "SumOfTwoThatStand$Street" "firsts" "[I", .fieldLink RX5 24 "SumOfTwoThatStand$Street" "seconds" "[I", .fieldLink RX5 40 "SumOfTwoThatStand$Street" "standing" "I", .fieldLink RX5 27 "SumOfTwoThatStand$Street" "uses" "[I", .fieldLink RX5 30 "SumOfTwoThatStand$Street" "earned" "[I", .methodLink RX5 59 yX5_has, .instanceMethod yX5_has, .selects RX5 yX5_has yX5_has, .initialized RX5, .code yX5_has cX5_has 2 (some .boolean), .fieldLink RX5 36 "SumOfTwoThatStand$Street" "came" "I", .methodLink RX5 63 yX5_isIn, .static yX5_isIn, .code yX5_isIn cX5_isIn 2 (some .boolean)] ++ wsX50)
def wsX5_greatest : List Cond := .code yX5_greatest cX5_greatest 3 (some .int) :: ([.fieldLink RX5 36 "SumOfTwoThatStand$Street" "came" "I", .fieldLink RX5 40 "SumOfTwoThatStand$Street" "standing" "I", .fieldLink RX5 18 "SumOfTwoThatStand$Street" "numbers" "[I", .methodLink RX5 73 Lib.Math.max.name, .static Lib.Math.max.name, .initialized "java/lang/Math", .code Lib.Math.max.name Lib.Math.max.code 2 (some .int), .methodLink RX5 63 yX5_isIn, .static yX5_isIn, .initialized RX5, .code yX5_isIn cX5_isIn 2 (some .boolean)] ++ wsX50)
def wsX5_allEarned : List Cond := .code yX5_allEarned cX5_allEarned 3 (some .int) :: ([.fieldLink RX5 36 "SumOfTwoThatStand$Street" "came" "I", .fieldLink RX5 30 "SumOfTwoThatStand$Street" "earned" "[I"] ++ wsX50)
def wsX5_comesNext_r1 : List Cond := [Cond.fieldLink RX5 36 "SumOfTwoThatStand$Street" "came" "I", Cond.fieldLink RX5 18 "SumOfTwoThatStand$Street" "numbers" "[I", Cond.methodLink RX5 94 yX5_hasRoom, Cond.instanceMethod yX5_hasRoom, Cond.selects RX5 yX5_hasRoom yX5_hasRoom, Cond.initialized RX5, Cond.code yX5_hasRoom cX5_hasRoom 1 (some .boolean), Cond.methodLink RX5 101 yX5_mayBe, Cond.instanceMethod yX5_mayBe, Cond.selects RX5 yX5_mayBe yX5_mayBe, Cond.code yX5_mayBe cX5_mayBe 4 (some .boolean), Cond.methodLink RX5 79 yX5_stands, Cond.instanceMethod yX5_stands, Cond.selects RX5 yX5_stands yX5_stands, Cond.code yX5_stands cX5_stands 2 (some .boolean), Cond.fieldLink RX5 40 "SumOfTwoThatStand$Street" "standing" "I", Cond.methodLink RX5 59 yX5_has, Cond.instanceMethod yX5_has, Cond.selects RX5 yX5_has yX5_has, Cond.code yX5_has cX5_has 2 (some .boolean), Cond.methodLink RX5 63 yX5_isIn, Cond.static yX5_isIn, Cond.code yX5_isIn cX5_isIn 2 (some .boolean), Cond.methodLink RX5 82 yX5_isLawful]
def wsX5_comesNext_r2 : List Cond := [Cond.instanceMethod yX5_isLawful, Cond.selects RX5 yX5_isLawful yX5_isLawful, Cond.code yX5_isLawful cX5_isLawful 4 (some .boolean), Cond.fieldLink RX5 53 "SumOfTwoThatStand$Street" "sums" "I", Cond.methodLink RX5 91 yJ6_numberOfLeadingZeros_0f7a4, Cond.static yJ6_numberOfLeadingZeros_0f7a4, Cond.initialized RJ6, Cond.code yJ6_numberOfLeadingZeros_0f7a4 cJ6_numberOfLeadingZeros_0f7a4 2 (some .int), Cond.constant RJ6 264 (65536), Cond.methodLink RX5 85 yX5_lends, Cond.instanceMethod yX5_lends, Cond.selects RX5 yX5_lends yX5_lends, Cond.code yX5_lends cX5_lends 3 (some .boolean), Cond.fieldLink RX5 9 "SumOfTwoThatStand$Street" "kinds" "[I", Cond.fieldLink RX5 27 "SumOfTwoThatStand$Street" "uses" "[I", Cond.methodLink RX5 88 yX5_isThere, Cond.instanceMethod yX5_isThere, Cond.selects RX5 yX5_isThere yX5_isThere, Cond.code yX5_isThere cX5_isThere 3 (some .boolean)]
def wsX5_comesNext : List Cond := .code yX5_comesNext cX5_comesNext 4 (some .boolean) :: ((wsX5_comesNext_r1 ++ wsX5_comesNext_r2) ++ wsX50)
def wsX6_hasRoom : List Cond := .code yX6_hasRoom cX6_hasRoom 1 (some .boolean) :: ([.fieldLink RX6 19 "SumOfTwoThatStand$Told" "length" "I", .fieldLink RX6 13 "SumOfTwoThatStand$Told" "all" "[I"] ++ wsX20 ++ wsX40)
def wsX6_take : List Cond := .code yX6_take cX6_take 2 (some .int) :: ([.fieldLink RX6 13 "SumOfTwoThatStand$Told" "all" "[I", .fieldLink RX6 19 "SumOfTwoThatStand$Told" "length" "I", .methodLink RX6 23 ⟨"SumOfTwoThatStand$Told", "hasRoom", "()Z"⟩, .sameMethod "SumOfTwoThatStand$Told" "SumOfTwoThatStand$Told" "hasRoom" "()Z", .selects RX2 ⟨"SumOfTwoThatStand$Told", "hasRoom", "()Z"⟩ yX6_hasRoom, .instanceMethod yX6_hasRoom, .initialized RX6, .code yX6_hasRoom cX6_hasRoom 1 (some .boolean), .selects RX4 ⟨"SumOfTwoThatStand$Told", "hasRoom", "()Z"⟩ yX6_hasRoom] ++ wsX20 ++ wsX40)
def wsX6_forget : List Cond := .code yX6_forget cX6_forget 1 none :: ([.fieldLink RX6 19 "SumOfTwoThatStand$Told" "length" "I"] ++ wsX20 ++ wsX40)
def wsX7_init_r1 : List Cond := [Cond.methodLink RX7 1 objectInit, Cond.instanceMethod objectInit, Cond.code objectInit ⟨#[0xb1]⟩ 1 none, Cond.classLink RX7 7 RX5, Cond.instantiable RX5 11, Cond.initialized RX5, Cond.fieldLink RX7 10 "SumOfTwoThatStand" "live" "LSumOfTwoThatStand$Street;", Cond.fieldLink RX7 16 "SumOfTwoThatStand" "kept" "LSumOfTwoThatStand$Street;", Cond.fieldLink RX7 19 "SumOfTwoThatStand" "mind" "LSumOfTwoThatStand$Street;", Cond.classLink RX7 22 RX2, Cond.instantiable RX2 7, Cond.initialized RX2, Cond.fieldLink RX7 25 "SumOfTwoThatStand" "letters" "LSumOfTwoThatStand$Letters;", Cond.classLink RX7 29 RX4, Cond.instantiable RX4 2, Cond.initialized RX4, Cond.fieldLink RX7 32 "SumOfTwoThatStand" "told" "LSumOfTwoThatStand$Row;", Cond.classLink RX7 36 RX0, Cond.instantiable RX0 1, Cond.initialized RX0, Cond.fieldLink RX7 39 "SumOfTwoThatStand" "chains" "LSumOfTwoThatStand$Chains;", Cond.classLink RX7 43 RX3, Cond.instantiable RX3 1, Cond.initialized RX3]
def wsX7_init_r2 : List Cond := [Cond.fieldLink RX7 46 "SumOfTwoThatStand" "comings" "LSumOfTwoThatStand$Orders;", Cond.classLink RX7 50 RX1, Cond.instantiable RX1 1, Cond.initialized RX1, Cond.fieldLink RX7 53 "SumOfTwoThatStand" "builders" "LSumOfTwoThatStand$Game;", Cond.arrayClass .int, Cond.fieldLink RX7 57 "SumOfTwoThatStand" "refusals" "[I", Cond.fieldLink RX7 61 "SumOfTwoThatStand" "isKept" "Z", Cond.methodLink RX7 9 yX5_init, Cond.instanceMethod yX5_init, Cond.code yX5_init cX5_init 1 none, Cond.methodLink RX5 3 objectInit, Cond.fieldLink RX5 9 "SumOfTwoThatStand$Street" "kinds" "[I", Cond.fieldLink RX5 15 "SumOfTwoThatStand$Street" "figures" "[I", Cond.fieldLink RX5 18 "SumOfTwoThatStand$Street" "numbers" "[I", Cond.fieldLink RX5 21 "SumOfTwoThatStand$Street" "firsts" "[I", Cond.fieldLink RX5 24 "SumOfTwoThatStand$Street" "seconds" "[I", Cond.fieldLink RX5 27 "SumOfTwoThatStand$Street" "uses" "[I", Cond.fieldLink RX5 30 "SumOfTwoThatStand$Street" "earned" "[I", Cond.methodLink RX5 33 yX5_beginAnew, Cond.instanceMethod yX5_beginAnew, Cond.selects RX5 yX5_beginAnew yX5_beginAnew, Cond.code yX5_beginAnew cX5_beginAnew 1 none, Cond.fieldLink RX5 36 "SumOfTwoThatStand$Street" "came" "I"]
def wsX7_init_r3 : List Cond := [Cond.fieldLink RX5 40 "SumOfTwoThatStand$Street" "standing" "I", Cond.methodLink RX5 43 yX5_place, Cond.instanceMethod yX5_place, Cond.selects RX5 yX5_place yX5_place, Cond.code yX5_place cX5_place 6 none, Cond.methodLink RX5 94 yX5_hasRoom, Cond.instanceMethod yX5_hasRoom, Cond.selects RX5 yX5_hasRoom yX5_hasRoom, Cond.code yX5_hasRoom cX5_hasRoom 1 (some .boolean), Cond.methodLink RX7 24 yX2_init, Cond.instanceMethod yX2_init, Cond.code yX2_init cX2_init 1 none, Cond.fieldLink RX2 9 "SumOfTwoThatStand$Letters" "figures" "[I", Cond.methodLink RX2 3 yX6_init, Cond.instanceMethod yX6_init, Cond.initialized RX6, Cond.code yX6_init cX6_init 2 none, Cond.methodLink RX6 1 objectInit, Cond.methodLink RX6 7 Lib.Math.max.name, Cond.static Lib.Math.max.name, Cond.initialized "java/lang/Math", Cond.code Lib.Math.max.name Lib.Math.max.code 2 (some .int), Cond.fieldLink RX6 13 "SumOfTwoThatStand$Told" "all" "[I", Cond.methodLink RX7 31 yX4_init]
def wsX7_init_r4 : List Cond := [Cond.instanceMethod yX4_init, Cond.code yX4_init cX4_init 1 none, Cond.methodLink RX4 3 yX6_init, Cond.methodLink RX7 38 yX0_init, Cond.instanceMethod yX0_init, Cond.code yX0_init cX0_init 1 none, Cond.methodLink RX0 3 objectInit, Cond.fieldLink RX0 11 "SumOfTwoThatStand$Chains" "numbers" "[I", Cond.instanceMethod yX3_init, Cond.code yX3_init cX3_init 1 none, Cond.methodLink RX3 3 objectInit, Cond.fieldLink RX3 9 "SumOfTwoThatStand$Orders" "ways" "[I", Cond.instanceMethod yX1_init, Cond.code yX1_init cX1_init 1 none, Cond.methodLink RX1 1 objectInit, Cond.arrayClass .boolean, Cond.fieldLink RX1 9 "SumOfTwoThatStand$Game" "wins" "[Z"]
def wsX7_init : List Cond := .code yX7_init cX7_init 1 none :: ((wsX7_init_r1 ++ (wsX7_init_r2 ++ (wsX7_init_r3 ++ wsX7_init_r4))) ++ wsX50 ++ wsX70 ++ wsX20 ++ wsX40 ++ wsX00 ++ wsX30 ++ wsX10)
def wsX7_refuse : List Cond := .code yX7_refuse cX7_refuse 2 (some .int) :: ([.fieldLink RX7 57 "SumOfTwoThatStand" "refusals" "[I"] ++ wsX70)
def wsX7_feed : List Cond := .code yX7_feed cX7_feed 2 (some .int) :: ([.fieldLink RX7 25 "SumOfTwoThatStand" "letters" "LSumOfTwoThatStand$Letters;", .methodLink RX7 65 yX7_refuse, .instanceMethod yX7_refuse, .selects RX7 yX7_refuse yX7_refuse, .initialized RX7, .code yX7_refuse cX7_refuse 2 (some .int), .fieldLink RX7 57 "SumOfTwoThatStand" "refusals" "[I", .methodLink RX7 69 ⟨"SumOfTwoThatStand$Letters", "hasRoom", "()Z"⟩, .sameMethod "SumOfTwoThatStand$Letters" "SumOfTwoThatStand$Told" "hasRoom" "()Z", .selects RX2 ⟨"SumOfTwoThatStand$Letters", "hasRoom", "()Z"⟩ yX6_hasRoom, .instanceMethod yX6_hasRoom, .initialized RX6, .code yX6_hasRoom cX6_hasRoom 1 (some .boolean), .fieldLink RX6 19 "SumOfTwoThatStand$Told" "length" "I", .fieldLink RX6 13 "SumOfTwoThatStand$Told" "all" "[I", .methodLink RX7 73 ⟨"SumOfTwoThatStand$Letters", "take", "(I)I"⟩, .sameMethod "SumOfTwoThatStand$Letters" "SumOfTwoThatStand$Told" "take" "(I)I", .selects RX2 ⟨"SumOfTwoThatStand$Letters", "take", "(I)I"⟩ yX6_take, .instanceMethod yX6_take, .code yX6_take cX6_take 2 (some .int), .methodLink RX6 23 ⟨"SumOfTwoThatStand$Told", "hasRoom", "()Z"⟩, .sameMethod "SumOfTwoThatStand$Told" "SumOfTwoThatStand$Told" "hasRoom" "()Z", .selects RX2 ⟨"SumOfTwoThatStand$Told", "hasRoom", "()Z"⟩ yX6_hasRoom, .selects RX4 ⟨"SumOfTwoThatStand$Told", "hasRoom", "()Z"⟩ yX6_hasRoom] ++ wsX70 ++ wsX20 ++ wsX40)
def wsX7_street_r1 : List Cond := [Cond.fieldLink RX7 19 "SumOfTwoThatStand" "mind" "LSumOfTwoThatStand$Street;", Cond.fieldLink RX7 10 "SumOfTwoThatStand" "live" "LSumOfTwoThatStand$Street;", Cond.fieldLink RX7 25 "SumOfTwoThatStand" "letters" "LSumOfTwoThatStand$Letters;", Cond.methodLink RX7 76 yX5_become, Cond.instanceMethod yX5_become, Cond.selects RX5 yX5_become yX5_become, Cond.initialized RX5, Cond.code yX5_become cX5_become 2 none, Cond.fieldLink RX5 9 "SumOfTwoThatStand$Street" "kinds" "[I", Cond.methodLink RX5 47 arraycopyName, Cond.native arraycopyName, Cond.static arraycopyName, Cond.initialized "java/lang/System", Cond.fieldLink RX5 15 "SumOfTwoThatStand$Street" "figures" "[I", Cond.fieldLink RX5 18 "SumOfTwoThatStand$Street" "numbers" "[I", Cond.fieldLink RX5 21 "SumOfTwoThatStand$Street" "firsts" "[I", Cond.fieldLink RX5 24 "SumOfTwoThatStand$Street" "seconds" "[I", Cond.fieldLink RX5 27 "SumOfTwoThatStand$Street" "uses" "[I", Cond.fieldLink RX5 30 "SumOfTwoThatStand$Street" "earned" "[I", Cond.fieldLink RX5 36 "SumOfTwoThatStand$Street" "came" "I", Cond.fieldLink RX5 40 "SumOfTwoThatStand$Street" "standing" "I", Cond.fieldLink RX5 53 "SumOfTwoThatStand$Street" "sums" "I", Cond.fieldLink RX5 56 "SumOfTwoThatStand$Street" "falls" "I", Cond.methodLink RX7 80 yX2_faultOfForm]
def wsX7_street_r2 : List Cond := [Cond.instanceMethod yX2_faultOfForm, Cond.selects RX2 yX2_faultOfForm yX2_faultOfForm, Cond.initialized RX2, Cond.code yX2_faultOfForm cX2_faultOfForm 2 (some .int), Cond.fieldLink RX2 19 "SumOfTwoThatStand$Letters" "at" "I", Cond.fieldLink RX2 15 "SumOfTwoThatStand$Letters" "statements" "I", Cond.methodLink RX2 22 ⟨"SumOfTwoThatStand$Letters", "howMany", "()I"⟩, Cond.sameMethod "SumOfTwoThatStand$Letters" "SumOfTwoThatStand$Told" "howMany" "()I", Cond.selects RX2 ⟨"SumOfTwoThatStand$Letters", "howMany", "()I"⟩ yX6_howMany, Cond.instanceMethod yX6_howMany, Cond.initialized RX6, Cond.code yX6_howMany cX6_howMany 1 (some .int), Cond.fieldLink RX6 19 "SumOfTwoThatStand$Told" "length" "I", Cond.methodLink RX2 26 yX2_readStatement, Cond.instanceMethod yX2_readStatement, Cond.selects RX2 yX2_readStatement yX2_readStatement, Cond.code yX2_readStatement cX2_readStatement 3 (some .boolean), Cond.fieldLink RX2 34 "SumOfTwoThatStand$Letters" "verb" "I", Cond.fieldLink RX2 58 "SumOfTwoThatStand$Letters" "figureCount" "I", Cond.methodLink RX2 55 ⟨"SumOfTwoThatStand$Letters", "toldAt", "(I)I"⟩, Cond.sameMethod "SumOfTwoThatStand$Letters" "SumOfTwoThatStand$Told" "toldAt" "(I)I", Cond.selects RX2 ⟨"SumOfTwoThatStand$Letters", "toldAt", "(I)I"⟩ yX6_toldAt, Cond.instanceMethod yX6_toldAt, Cond.code yX6_toldAt cX6_toldAt 2 (some .int)]
def wsX7_street_r3 : List Cond := [Cond.fieldLink RX6 13 "SumOfTwoThatStand$Told" "all" "[I", Cond.methodLink RX2 61 yX2_formOf, Cond.static yX2_formOf, Cond.code yX2_formOf cX2_formOf 1 (some (.object "java/lang/String")), Cond.methodLink RX2 65 yJ0_isEmpty_aae02, Cond.instanceMethod yJ0_isEmpty_aae02, Cond.selects RJ0 yJ0_isEmpty_aae02 yJ0_isEmpty_aae02, Cond.initialized RJ0, Cond.code yJ0_isEmpty_aae02 cJ0_isEmpty_aae02 1 (some .boolean), Cond.fieldLink RJ0 9 "java/lang/String" "value" "[B", Cond.methodLink RX2 70 yJ0_length_8abf5, Cond.instanceMethod yJ0_length_8abf5, Cond.selects RJ0 yJ0_length_8abf5 yJ0_length_8abf5, Cond.code yJ0_length_8abf5 cJ0_length_8abf5 1 (some .int), Cond.methodLink RJ0 335 yJ0_coder_7d493, Cond.instanceMethod yJ0_coder_7d493, Cond.selects RJ0 yJ0_coder_7d493 yJ0_coder_7d493, Cond.code yJ0_coder_7d493 cJ0_coder_7d493 1 (some .byte), Cond.fieldLink RJ0 38 "java/lang/String" "COMPACT_STRINGS" "Z", Cond.fieldLink RJ0 15 "java/lang/String" "coder" "B", Cond.methodLink RX2 73 yJ0_charAt_5068e, Cond.instanceMethod yJ0_charAt_5068e, Cond.selects RJ0 yJ0_charAt_5068e yJ0_charAt_5068e, Cond.code yJ0_charAt_5068e cJ0_charAt_5068e 2 (some .char)]
def wsX7_street_r4 : List Cond := [Cond.methodLink RJ0 492 yJ0_isLatin1_aae02, Cond.instanceMethod yJ0_isLatin1_aae02, Cond.selects RJ0 yJ0_isLatin1_aae02 yJ0_isLatin1_aae02, Cond.code yJ0_isLatin1_aae02 cJ0_isLatin1_aae02 1 (some .boolean), Cond.methodLink RJ0 495 yJ1_charAt_3b067, Cond.static yJ1_charAt_3b067, Cond.initialized RJ1, Cond.code yJ1_charAt_3b067 cJ1_charAt_3b067 2 (some .char), Cond.methodLink RJ1 9 yJ0_checkIndex_df160, Cond.static yJ0_checkIndex_df160, Cond.code yJ0_checkIndex_df160 cJ0_checkIndex_df160 2 none, Cond.fieldLink RJ0 1053 "jdk/internal/util/Preconditions" "SIOOBE_FORMATTER" "Ljava/util/function/BiFunction;", Cond.methodLink RJ0 1059 yJ3_checkIndex_8e157, Cond.static yJ3_checkIndex_8e157, Cond.initialized RJ3, Cond.code yJ3_checkIndex_8e157 cJ3_checkIndex_8e157 3 (some .int), Cond.methodLink RJ0 498 yJ2_charAt_3b067, Cond.static yJ2_charAt_3b067, Cond.initialized RJ2, Cond.code yJ2_charAt_3b067 cJ2_charAt_3b067 2 (some .char), Cond.methodLink RJ2 67 yJ2_checkIndex_2214a, Cond.static yJ2_checkIndex_2214a, Cond.code yJ2_checkIndex_2214a cJ2_checkIndex_2214a 2 none, Cond.methodLink RJ2 48 yJ2_length_9d52b]
def wsX7_street_r5 : List Cond := [Cond.static yJ2_length_9d52b, Cond.code yJ2_length_9d52b cJ2_length_9d52b 1 (some .int), Cond.methodLink RJ2 414 yJ0_checkIndex_df160, Cond.methodLink RJ2 71 yJ2_getChar_3b067, Cond.static yJ2_getChar_3b067, Cond.code yJ2_getChar_3b067 cJ2_getChar_3b067 2 (some .char), Cond.fieldLink RJ2 44 "java/lang/StringUTF16" "$assertionsDisabled" "Z", Cond.fieldLink RJ2 59 "java/lang/StringUTF16" "HI_BYTE_SHIFT" "I", Cond.fieldLink RJ2 63 "java/lang/StringUTF16" "LO_BYTE_SHIFT" "I", Cond.methodLink RX2 77 yX2_readPart, Cond.instanceMethod yX2_readPart, Cond.selects RX2 yX2_readPart yX2_readPart, Cond.code yX2_readPart cX2_readPart 2 (some .boolean), Cond.methodLink RX2 91 yX2_readFigure, Cond.instanceMethod yX2_readFigure, Cond.selects RX2 yX2_readFigure yX2_readFigure, Cond.code yX2_readFigure cX2_readFigure 4 (some .boolean), Cond.fieldLink RX2 9 "SumOfTwoThatStand$Letters" "figures" "[I", Cond.methodLink RX2 95 yX2_isDigit, Cond.static yX2_isDigit, Cond.code yX2_isDigit cX2_isDigit 1 (some .boolean), Cond.methodLink RX7 84 yX2_faultOfSense, Cond.instanceMethod yX2_faultOfSense, Cond.selects RX2 yX2_faultOfSense yX2_faultOfSense]
def wsX7_street_r6 : List Cond := [Cond.code yX2_faultOfSense cX2_faultOfSense 4 (some .int), Cond.methodLink RX2 30 yX2_comesTo, Cond.instanceMethod yX2_comesTo, Cond.selects RX2 yX2_comesTo yX2_comesTo, Cond.code yX2_comesTo cX2_comesTo 2 (some .boolean), Cond.methodLink RX2 37 yX5_build, Cond.instanceMethod yX5_build, Cond.selects RX5 yX5_build yX5_build, Cond.code yX5_build cX5_build 5 (some .boolean), Cond.methodLink RX5 94 yX5_hasRoom, Cond.instanceMethod yX5_hasRoom, Cond.selects RX5 yX5_hasRoom yX5_hasRoom, Cond.code yX5_hasRoom cX5_hasRoom 1 (some .boolean), Cond.methodLink RX5 98 yX5_isKind, Cond.static yX5_isKind, Cond.code yX5_isKind cX5_isKind 1 (some .boolean), Cond.methodLink RX5 101 yX5_mayBe, Cond.instanceMethod yX5_mayBe, Cond.selects RX5 yX5_mayBe yX5_mayBe, Cond.code yX5_mayBe cX5_mayBe 4 (some .boolean), Cond.methodLink RX5 79 yX5_stands, Cond.instanceMethod yX5_stands, Cond.selects RX5 yX5_stands yX5_stands, Cond.code yX5_stands cX5_stands 2 (some .boolean)]
def wsX7_street_r7 : List Cond := [Cond.methodLink RX5 59 yX5_has, Cond.instanceMethod yX5_has, Cond.selects RX5 yX5_has yX5_has, Cond.code yX5_has cX5_has 2 (some .boolean), Cond.methodLink RX5 63 yX5_isIn, Cond.static yX5_isIn, Cond.code yX5_isIn cX5_isIn 2 (some .boolean), Cond.methodLink RX5 82 yX5_isLawful, Cond.instanceMethod yX5_isLawful, Cond.selects RX5 yX5_isLawful yX5_isLawful, Cond.code yX5_isLawful cX5_isLawful 4 (some .boolean), Cond.methodLink RX5 91 yJ6_numberOfLeadingZeros_0f7a4, Cond.static yJ6_numberOfLeadingZeros_0f7a4, Cond.initialized RJ6, Cond.code yJ6_numberOfLeadingZeros_0f7a4 cJ6_numberOfLeadingZeros_0f7a4 2 (some .int), Cond.constant RJ6 264 (65536), Cond.methodLink RX5 85 yX5_lends, Cond.instanceMethod yX5_lends, Cond.selects RX5 yX5_lends yX5_lends, Cond.code yX5_lends cX5_lends 3 (some .boolean), Cond.methodLink RX5 88 yX5_isThere, Cond.instanceMethod yX5_isThere, Cond.selects RX5 yX5_isThere yX5_isThere, Cond.code yX5_isThere cX5_isThere 3 (some .boolean)]
def wsX7_street_r8 : List Cond := [Cond.methodLink RX5 43 yX5_place, Cond.instanceMethod yX5_place, Cond.selects RX5 yX5_place yX5_place, Cond.code yX5_place cX5_place 6 none, Cond.methodLink RX5 104 yX5_use, Cond.instanceMethod yX5_use, Cond.selects RX5 yX5_use yX5_use, Cond.code yX5_use cX5_use 2 none, Cond.methodLink RX5 111 yX5_fee, Cond.instanceMethod yX5_fee, Cond.selects RX5 yX5_fee yX5_fee, Cond.code yX5_fee cX5_fee 2 (some .int), Cond.methodLink RX5 108 yX5_loseHut, Cond.instanceMethod yX5_loseHut, Cond.selects RX5 yX5_loseHut yX5_loseHut, Cond.code yX5_loseHut cX5_loseHut 2 none, Cond.methodLink RX2 43 yX5_fire, Cond.instanceMethod yX5_fire, Cond.selects RX5 yX5_fire yX5_fire, Cond.code yX5_fire cX5_fire 3 (some .int), Cond.methodLink RX5 114 yX5_fallsWith, Cond.instanceMethod yX5_fallsWith, Cond.selects RX5 yX5_fallsWith yX5_fallsWith, Cond.code yX5_fallsWith cX5_fallsWith 5 (some .int)]
def wsX7_street_r9 : List Cond := [Cond.methodLink RX5 67 yJ6_bitCount_0f7a4, Cond.static yJ6_bitCount_0f7a4, Cond.code yJ6_bitCount_0f7a4 cJ6_bitCount_0f7a4 1 (some .int), Cond.constant RJ6 265 (1431655765), Cond.constant RJ6 266 (858993459), Cond.constant RJ6 267 (252645135), Cond.methodLink RX2 47 yX5_changeLaws, Cond.instanceMethod yX5_changeLaws, Cond.selects RX5 yX5_changeLaws yX5_changeLaws, Cond.code yX5_changeLaws cX5_changeLaws 3 (some .boolean), Cond.methodLink RX2 51 yX5_beginAnew, Cond.instanceMethod yX5_beginAnew, Cond.selects RX5 yX5_beginAnew yX5_beginAnew, Cond.code yX5_beginAnew cX5_beginAnew 1 none, Cond.methodLink RX7 88 ⟨"SumOfTwoThatStand$Letters", "forget", "()V"⟩, Cond.sameMethod "SumOfTwoThatStand$Letters" "SumOfTwoThatStand$Told" "forget" "()V", Cond.selects RX2 ⟨"SumOfTwoThatStand$Letters", "forget", "()V"⟩ yX6_forget, Cond.instanceMethod yX6_forget, Cond.code yX6_forget cX6_forget 1 none, Cond.methodLink RX7 91 yX2_statementCount, Cond.instanceMethod yX2_statementCount, Cond.selects RX2 yX2_statementCount yX2_statementCount, Cond.code yX2_statementCount cX2_statementCount 1 (some .int)]
def wsX7_street : List Cond := .code yX7_street cX7_street 2 (some .int) :: ((wsX7_street_r1 ++ (wsX7_street_r2 ++ (wsX7_street_r3 ++ (wsX7_street_r4 ++ (wsX7_street_r5 ++ (wsX7_street_r6 ++ (wsX7_street_r7 ++ (wsX7_street_r8 ++ wsX7_street_r9)))))))) ++ wsX70 ++ wsX50 ++ wsX20 ++ wsX40)
def wsX7_house_r1 : List Cond := [Cond.fieldLink RX7 10 "SumOfTwoThatStand" "live" "LSumOfTwoThatStand$Street;", Cond.methodLink RX7 94 yX5_has, Cond.instanceMethod yX5_has, Cond.selects RX5 yX5_has yX5_has, Cond.initialized RX5, Cond.code yX5_has cX5_has 2 (some .boolean), Cond.fieldLink RX5 36 "SumOfTwoThatStand$Street" "came" "I", Cond.methodLink RX7 65 yX7_refuse, Cond.instanceMethod yX7_refuse, Cond.selects RX7 yX7_refuse yX7_refuse, Cond.initialized RX7, Cond.code yX7_refuse cX7_refuse 2 (some .int), Cond.fieldLink RX7 57 "SumOfTwoThatStand" "refusals" "[I", Cond.methodLink RX7 98 yX5_tell, Cond.instanceMethod yX5_tell, Cond.selects RX5 yX5_tell yX5_tell, Cond.code yX5_tell cX5_tell 3 (some .int), Cond.fieldLink RX5 9 "SumOfTwoThatStand$Street" "kinds" "[I", Cond.fieldLink RX5 15 "SumOfTwoThatStand$Street" "figures" "[I", Cond.fieldLink RX5 18 "SumOfTwoThatStand$Street" "numbers" "[I", Cond.fieldLink RX5 21 "SumOfTwoThatStand$Street" "firsts" "[I", Cond.fieldLink RX5 24 "SumOfTwoThatStand$Street" "seconds" "[I", Cond.fieldLink RX5 40 "SumOfTwoThatStand$Street" "standing" "I", Cond.fieldLink RX5 27 "SumOfTwoThatStand$Street" "uses" "[I"]
def wsX7_house_r2 : List Cond := [Cond.fieldLink RX5 30 "SumOfTwoThatStand$Street" "earned" "[I", Cond.methodLink RX5 59 yX5_has, Cond.methodLink RX5 63 yX5_isIn, Cond.static yX5_isIn, Cond.code yX5_isIn cX5_isIn 2 (some .boolean)]
def wsX7_house : List Cond := .code yX7_house cX7_house 3 (some .int) :: ((wsX7_house_r1 ++ wsX7_house_r2) ++ wsX70 ++ wsX50)
def wsX7_law : List Cond := .code yX7_law cX7_law 6 (some .int) :: ([.fieldLink RX7 10 "SumOfTwoThatStand" "live" "LSumOfTwoThatStand$Street;", .methodLink RX7 65 yX7_refuse, .instanceMethod yX7_refuse, .selects RX7 yX7_refuse yX7_refuse, .initialized RX7, .code yX7_refuse cX7_refuse 2 (some .int), .fieldLink RX7 57 "SumOfTwoThatStand" "refusals" "[I", .methodLink RX7 102 yX5_sumsLaw, .instanceMethod yX5_sumsLaw, .selects RX5 yX5_sumsLaw yX5_sumsLaw, .initialized RX5, .code yX5_sumsLaw cX5_sumsLaw 1 (some .int), .fieldLink RX5 53 "SumOfTwoThatStand$Street" "sums" "I", .methodLink RX7 105 yX5_fallsLaw, .instanceMethod yX5_fallsLaw, .selects RX5 yX5_fallsLaw yX5_fallsLaw, .code yX5_fallsLaw cX5_fallsLaw 1 (some .int), .fieldLink RX5 56 "SumOfTwoThatStand$Street" "falls" "I", .methodLink RX7 108 yX5_changeLaws, .instanceMethod yX5_changeLaws, .selects RX5 yX5_changeLaws yX5_changeLaws, .code yX5_changeLaws cX5_changeLaws 3 (some .boolean)] ++ wsX70 ++ wsX50)
def wsX7_may_r1 : List Cond := [Cond.fieldLink RX7 10 "SumOfTwoThatStand" "live" "LSumOfTwoThatStand$Street;", Cond.methodLink RX7 94 yX5_has, Cond.instanceMethod yX5_has, Cond.selects RX5 yX5_has yX5_has, Cond.initialized RX5, Cond.code yX5_has cX5_has 2 (some .boolean), Cond.fieldLink RX5 36 "SumOfTwoThatStand$Street" "came" "I", Cond.methodLink RX7 65 yX7_refuse, Cond.instanceMethod yX7_refuse, Cond.selects RX7 yX7_refuse yX7_refuse, Cond.initialized RX7, Cond.code yX7_refuse cX7_refuse 2 (some .int), Cond.fieldLink RX7 57 "SumOfTwoThatStand" "refusals" "[I", Cond.methodLink RX7 112 yX5_stands, Cond.instanceMethod yX5_stands, Cond.selects RX5 yX5_stands yX5_stands, Cond.code yX5_stands cX5_stands 2 (some .boolean), Cond.fieldLink RX5 40 "SumOfTwoThatStand$Street" "standing" "I", Cond.methodLink RX5 59 yX5_has, Cond.methodLink RX5 63 yX5_isIn, Cond.static yX5_isIn, Cond.code yX5_isIn cX5_isIn 2 (some .boolean), Cond.methodLink RX7 115 yX5_mayBe, Cond.instanceMethod yX5_mayBe]
def wsX7_may_r2 : List Cond := [Cond.selects RX5 yX5_mayBe yX5_mayBe, Cond.code yX5_mayBe cX5_mayBe 4 (some .boolean), Cond.fieldLink RX5 18 "SumOfTwoThatStand$Street" "numbers" "[I", Cond.methodLink RX5 79 yX5_stands, Cond.methodLink RX5 82 yX5_isLawful, Cond.instanceMethod yX5_isLawful, Cond.selects RX5 yX5_isLawful yX5_isLawful, Cond.code yX5_isLawful cX5_isLawful 4 (some .boolean), Cond.fieldLink RX5 53 "SumOfTwoThatStand$Street" "sums" "I", Cond.methodLink RX5 91 yJ6_numberOfLeadingZeros_0f7a4, Cond.static yJ6_numberOfLeadingZeros_0f7a4, Cond.initialized RJ6, Cond.code yJ6_numberOfLeadingZeros_0f7a4 cJ6_numberOfLeadingZeros_0f7a4 2 (some .int), Cond.constant RJ6 264 (65536), Cond.methodLink RX5 85 yX5_lends, Cond.instanceMethod yX5_lends, Cond.selects RX5 yX5_lends yX5_lends, Cond.code yX5_lends cX5_lends 3 (some .boolean), Cond.fieldLink RX5 9 "SumOfTwoThatStand$Street" "kinds" "[I", Cond.fieldLink RX5 27 "SumOfTwoThatStand$Street" "uses" "[I", Cond.methodLink RX5 88 yX5_isThere, Cond.instanceMethod yX5_isThere, Cond.selects RX5 yX5_isThere yX5_isThere, Cond.code yX5_isThere cX5_isThere 3 (some .boolean)]
def wsX7_may : List Cond := .code yX7_may cX7_may 3 (some .int) :: ((wsX7_may_r1 ++ wsX7_may_r2) ++ wsX70 ++ wsX50)
def wsX7_cost_r1 : List Cond := [Cond.fieldLink RX7 10 "SumOfTwoThatStand" "live" "LSumOfTwoThatStand$Street;", Cond.methodLink RX7 94 yX5_has, Cond.instanceMethod yX5_has, Cond.selects RX5 yX5_has yX5_has, Cond.initialized RX5, Cond.code yX5_has cX5_has 2 (some .boolean), Cond.fieldLink RX5 36 "SumOfTwoThatStand$Street" "came" "I", Cond.methodLink RX7 65 yX7_refuse, Cond.instanceMethod yX7_refuse, Cond.selects RX7 yX7_refuse yX7_refuse, Cond.initialized RX7, Cond.code yX7_refuse cX7_refuse 2 (some .int), Cond.fieldLink RX7 57 "SumOfTwoThatStand" "refusals" "[I", Cond.methodLink RX7 115 yX5_mayBe, Cond.instanceMethod yX5_mayBe, Cond.selects RX5 yX5_mayBe yX5_mayBe, Cond.code yX5_mayBe cX5_mayBe 4 (some .boolean), Cond.fieldLink RX5 18 "SumOfTwoThatStand$Street" "numbers" "[I", Cond.methodLink RX5 79 yX5_stands, Cond.instanceMethod yX5_stands, Cond.selects RX5 yX5_stands yX5_stands, Cond.code yX5_stands cX5_stands 2 (some .boolean), Cond.fieldLink RX5 40 "SumOfTwoThatStand$Street" "standing" "I", Cond.methodLink RX5 59 yX5_has]
def wsX7_cost_r2 : List Cond := [Cond.methodLink RX5 63 yX5_isIn, Cond.static yX5_isIn, Cond.code yX5_isIn cX5_isIn 2 (some .boolean), Cond.methodLink RX5 82 yX5_isLawful, Cond.instanceMethod yX5_isLawful, Cond.selects RX5 yX5_isLawful yX5_isLawful, Cond.code yX5_isLawful cX5_isLawful 4 (some .boolean), Cond.fieldLink RX5 53 "SumOfTwoThatStand$Street" "sums" "I", Cond.methodLink RX5 91 yJ6_numberOfLeadingZeros_0f7a4, Cond.static yJ6_numberOfLeadingZeros_0f7a4, Cond.initialized RJ6, Cond.code yJ6_numberOfLeadingZeros_0f7a4 cJ6_numberOfLeadingZeros_0f7a4 2 (some .int), Cond.constant RJ6 264 (65536), Cond.methodLink RX5 85 yX5_lends, Cond.instanceMethod yX5_lends, Cond.selects RX5 yX5_lends yX5_lends, Cond.code yX5_lends cX5_lends 3 (some .boolean), Cond.fieldLink RX5 9 "SumOfTwoThatStand$Street" "kinds" "[I", Cond.fieldLink RX5 27 "SumOfTwoThatStand$Street" "uses" "[I", Cond.methodLink RX5 88 yX5_isThere, Cond.instanceMethod yX5_isThere, Cond.selects RX5 yX5_isThere yX5_isThere, Cond.code yX5_isThere cX5_isThere 3 (some .boolean), Cond.methodLink RX7 118 yX5_fee]
def wsX7_cost_r3 : List Cond := [Cond.instanceMethod yX5_fee, Cond.selects RX5 yX5_fee yX5_fee, Cond.code yX5_fee cX5_fee 2 (some .int), Cond.fieldLink RX5 15 "SumOfTwoThatStand$Street" "figures" "[I"]
def wsX7_cost : List Cond := .code yX7_cost cX7_cost 3 (some .int) :: ((wsX7_cost_r1 ++ (wsX7_cost_r2 ++ wsX7_cost_r3)) ++ wsX70 ++ wsX50)
def wsX7_add_r1 : List Cond := [Cond.fieldLink RX7 10 "SumOfTwoThatStand" "live" "LSumOfTwoThatStand$Street;", Cond.methodLink RX7 94 yX5_has, Cond.instanceMethod yX5_has, Cond.selects RX5 yX5_has yX5_has, Cond.initialized RX5, Cond.code yX5_has cX5_has 2 (some .boolean), Cond.fieldLink RX5 36 "SumOfTwoThatStand$Street" "came" "I", Cond.methodLink RX7 65 yX7_refuse, Cond.instanceMethod yX7_refuse, Cond.selects RX7 yX7_refuse yX7_refuse, Cond.initialized RX7, Cond.code yX7_refuse cX7_refuse 2 (some .int), Cond.fieldLink RX7 57 "SumOfTwoThatStand" "refusals" "[I", Cond.methodLink RX7 121 yX5_isKind, Cond.static yX5_isKind, Cond.code yX5_isKind cX5_isKind 1 (some .boolean), Cond.methodLink RX7 115 yX5_mayBe, Cond.instanceMethod yX5_mayBe, Cond.selects RX5 yX5_mayBe yX5_mayBe, Cond.code yX5_mayBe cX5_mayBe 4 (some .boolean), Cond.fieldLink RX5 18 "SumOfTwoThatStand$Street" "numbers" "[I", Cond.methodLink RX5 79 yX5_stands, Cond.instanceMethod yX5_stands, Cond.selects RX5 yX5_stands yX5_stands]
def wsX7_add_r2 : List Cond := [Cond.code yX5_stands cX5_stands 2 (some .boolean), Cond.fieldLink RX5 40 "SumOfTwoThatStand$Street" "standing" "I", Cond.methodLink RX5 59 yX5_has, Cond.methodLink RX5 63 yX5_isIn, Cond.static yX5_isIn, Cond.code yX5_isIn cX5_isIn 2 (some .boolean), Cond.methodLink RX5 82 yX5_isLawful, Cond.instanceMethod yX5_isLawful, Cond.selects RX5 yX5_isLawful yX5_isLawful, Cond.code yX5_isLawful cX5_isLawful 4 (some .boolean), Cond.fieldLink RX5 53 "SumOfTwoThatStand$Street" "sums" "I", Cond.methodLink RX5 91 yJ6_numberOfLeadingZeros_0f7a4, Cond.static yJ6_numberOfLeadingZeros_0f7a4, Cond.initialized RJ6, Cond.code yJ6_numberOfLeadingZeros_0f7a4 cJ6_numberOfLeadingZeros_0f7a4 2 (some .int), Cond.constant RJ6 264 (65536), Cond.methodLink RX5 85 yX5_lends, Cond.instanceMethod yX5_lends, Cond.selects RX5 yX5_lends yX5_lends, Cond.code yX5_lends cX5_lends 3 (some .boolean), Cond.fieldLink RX5 9 "SumOfTwoThatStand$Street" "kinds" "[I", Cond.fieldLink RX5 27 "SumOfTwoThatStand$Street" "uses" "[I", Cond.methodLink RX5 88 yX5_isThere, Cond.instanceMethod yX5_isThere]
def wsX7_add_r3 : List Cond := [Cond.selects RX5 yX5_isThere yX5_isThere, Cond.code yX5_isThere cX5_isThere 3 (some .boolean), Cond.methodLink RX7 124 yX5_build, Cond.instanceMethod yX5_build, Cond.selects RX5 yX5_build yX5_build, Cond.code yX5_build cX5_build 5 (some .boolean), Cond.methodLink RX5 94 yX5_hasRoom, Cond.instanceMethod yX5_hasRoom, Cond.selects RX5 yX5_hasRoom yX5_hasRoom, Cond.code yX5_hasRoom cX5_hasRoom 1 (some .boolean), Cond.methodLink RX5 98 yX5_isKind, Cond.methodLink RX5 101 yX5_mayBe, Cond.methodLink RX5 43 yX5_place, Cond.instanceMethod yX5_place, Cond.selects RX5 yX5_place yX5_place, Cond.code yX5_place cX5_place 6 none, Cond.fieldLink RX5 21 "SumOfTwoThatStand$Street" "firsts" "[I", Cond.fieldLink RX5 24 "SumOfTwoThatStand$Street" "seconds" "[I", Cond.fieldLink RX5 15 "SumOfTwoThatStand$Street" "figures" "[I", Cond.fieldLink RX5 30 "SumOfTwoThatStand$Street" "earned" "[I", Cond.methodLink RX5 104 yX5_use, Cond.instanceMethod yX5_use, Cond.selects RX5 yX5_use yX5_use, Cond.code yX5_use cX5_use 2 none]
def wsX7_add_r4 : List Cond := [Cond.methodLink RX5 111 yX5_fee, Cond.instanceMethod yX5_fee, Cond.selects RX5 yX5_fee yX5_fee, Cond.code yX5_fee cX5_fee 2 (some .int), Cond.methodLink RX5 108 yX5_loseHut, Cond.instanceMethod yX5_loseHut, Cond.selects RX5 yX5_loseHut yX5_loseHut, Cond.code yX5_loseHut cX5_loseHut 2 none, Cond.methodLink RX7 128 yX5_cameCount, Cond.instanceMethod yX5_cameCount, Cond.selects RX5 yX5_cameCount yX5_cameCount, Cond.code yX5_cameCount cX5_cameCount 1 (some .int)]
def wsX7_add : List Cond := .code yX7_add cX7_add 5 (some .int) :: ((wsX7_add_r1 ++ (wsX7_add_r2 ++ (wsX7_add_r3 ++ wsX7_add_r4))) ++ wsX70 ++ wsX50)
def wsX7_burn_r1 : List Cond := [Cond.fieldLink RX7 10 "SumOfTwoThatStand" "live" "LSumOfTwoThatStand$Street;", Cond.methodLink RX7 94 yX5_has, Cond.instanceMethod yX5_has, Cond.selects RX5 yX5_has yX5_has, Cond.initialized RX5, Cond.code yX5_has cX5_has 2 (some .boolean), Cond.fieldLink RX5 36 "SumOfTwoThatStand$Street" "came" "I", Cond.methodLink RX7 65 yX7_refuse, Cond.instanceMethod yX7_refuse, Cond.selects RX7 yX7_refuse yX7_refuse, Cond.initialized RX7, Cond.code yX7_refuse cX7_refuse 2 (some .int), Cond.fieldLink RX7 57 "SumOfTwoThatStand" "refusals" "[I", Cond.methodLink RX7 112 yX5_stands, Cond.instanceMethod yX5_stands, Cond.selects RX5 yX5_stands yX5_stands, Cond.code yX5_stands cX5_stands 2 (some .boolean), Cond.fieldLink RX5 40 "SumOfTwoThatStand$Street" "standing" "I", Cond.methodLink RX5 59 yX5_has, Cond.methodLink RX5 63 yX5_isIn, Cond.static yX5_isIn, Cond.code yX5_isIn cX5_isIn 2 (some .boolean), Cond.methodLink RX7 131 yX5_fire, Cond.instanceMethod yX5_fire]
def wsX7_burn_r2 : List Cond := [Cond.selects RX5 yX5_fire yX5_fire, Cond.code yX5_fire cX5_fire 3 (some .int), Cond.methodLink RX5 114 yX5_fallsWith, Cond.instanceMethod yX5_fallsWith, Cond.selects RX5 yX5_fallsWith yX5_fallsWith, Cond.code yX5_fallsWith cX5_fallsWith 5 (some .int), Cond.fieldLink RX5 56 "SumOfTwoThatStand$Street" "falls" "I", Cond.fieldLink RX5 9 "SumOfTwoThatStand$Street" "kinds" "[I", Cond.fieldLink RX5 21 "SumOfTwoThatStand$Street" "firsts" "[I", Cond.fieldLink RX5 24 "SumOfTwoThatStand$Street" "seconds" "[I", Cond.methodLink RX5 79 yX5_stands, Cond.methodLink RX5 67 yJ6_bitCount_0f7a4, Cond.static yJ6_bitCount_0f7a4, Cond.initialized RJ6, Cond.code yJ6_bitCount_0f7a4 cJ6_bitCount_0f7a4 1 (some .int), Cond.constant RJ6 265 (1431655765), Cond.constant RJ6 266 (858993459), Cond.constant RJ6 267 (252645135)]
def wsX7_burn : List Cond := .code yX7_burn cX7_burn 2 (some .int) :: ((wsX7_burn_r1 ++ wsX7_burn_r2) ++ wsX70 ++ wsX50)
def wsX7_hangs_r1 : List Cond := [Cond.fieldLink RX7 10 "SumOfTwoThatStand" "live" "LSumOfTwoThatStand$Street;", Cond.methodLink RX7 94 yX5_has, Cond.instanceMethod yX5_has, Cond.selects RX5 yX5_has yX5_has, Cond.initialized RX5, Cond.code yX5_has cX5_has 2 (some .boolean), Cond.fieldLink RX5 36 "SumOfTwoThatStand$Street" "came" "I", Cond.methodLink RX7 65 yX7_refuse, Cond.instanceMethod yX7_refuse, Cond.selects RX7 yX7_refuse yX7_refuse, Cond.initialized RX7, Cond.code yX7_refuse cX7_refuse 2 (some .int), Cond.fieldLink RX7 57 "SumOfTwoThatStand" "refusals" "[I", Cond.methodLink RX7 112 yX5_stands, Cond.instanceMethod yX5_stands, Cond.selects RX5 yX5_stands yX5_stands, Cond.code yX5_stands cX5_stands 2 (some .boolean), Cond.fieldLink RX5 40 "SumOfTwoThatStand$Street" "standing" "I", Cond.methodLink RX5 59 yX5_has, Cond.methodLink RX5 63 yX5_isIn, Cond.static yX5_isIn, Cond.code yX5_isIn cX5_isIn 2 (some .boolean), Cond.methodLink RX7 134 yX5_fallsWith, Cond.instanceMethod yX5_fallsWith]
def wsX7_hangs_r2 : List Cond := [Cond.selects RX5 yX5_fallsWith yX5_fallsWith, Cond.code yX5_fallsWith cX5_fallsWith 5 (some .int), Cond.fieldLink RX5 56 "SumOfTwoThatStand$Street" "falls" "I", Cond.fieldLink RX5 9 "SumOfTwoThatStand$Street" "kinds" "[I", Cond.fieldLink RX5 21 "SumOfTwoThatStand$Street" "firsts" "[I", Cond.fieldLink RX5 24 "SumOfTwoThatStand$Street" "seconds" "[I", Cond.methodLink RX5 79 yX5_stands]
def wsX7_hangs : List Cond := .code yX7_hangs cX7_hangs 2 (some .int) :: ((wsX7_hangs_r1 ++ wsX7_hangs_r2) ++ wsX70 ++ wsX50)
def wsX7_save_r1 : List Cond := [Cond.fieldLink RX7 10 "SumOfTwoThatStand" "live" "LSumOfTwoThatStand$Street;", Cond.methodLink RX7 128 yX5_cameCount, Cond.instanceMethod yX5_cameCount, Cond.selects RX5 yX5_cameCount yX5_cameCount, Cond.initialized RX5, Cond.code yX5_cameCount cX5_cameCount 1 (some .int), Cond.fieldLink RX5 36 "SumOfTwoThatStand$Street" "came" "I", Cond.methodLink RX7 112 yX5_stands, Cond.instanceMethod yX5_stands, Cond.selects RX5 yX5_stands yX5_stands, Cond.code yX5_stands cX5_stands 2 (some .boolean), Cond.fieldLink RX5 40 "SumOfTwoThatStand$Street" "standing" "I", Cond.methodLink RX5 59 yX5_has, Cond.instanceMethod yX5_has, Cond.selects RX5 yX5_has yX5_has, Cond.code yX5_has cX5_has 2 (some .boolean), Cond.methodLink RX5 63 yX5_isIn, Cond.static yX5_isIn, Cond.code yX5_isIn cX5_isIn 2 (some .boolean), Cond.methodLink RX7 134 yX5_fallsWith, Cond.instanceMethod yX5_fallsWith, Cond.selects RX5 yX5_fallsWith yX5_fallsWith, Cond.code yX5_fallsWith cX5_fallsWith 5 (some .int), Cond.fieldLink RX5 56 "SumOfTwoThatStand$Street" "falls" "I"]
def wsX7_save_r2 : List Cond := [Cond.fieldLink RX5 9 "SumOfTwoThatStand$Street" "kinds" "[I", Cond.fieldLink RX5 21 "SumOfTwoThatStand$Street" "firsts" "[I", Cond.fieldLink RX5 24 "SumOfTwoThatStand$Street" "seconds" "[I", Cond.methodLink RX5 79 yX5_stands, Cond.methodLink RX7 137 yJ6_bitCount_0f7a4, Cond.static yJ6_bitCount_0f7a4, Cond.initialized RJ6, Cond.code yJ6_bitCount_0f7a4 cJ6_bitCount_0f7a4 1 (some .int), Cond.constant RJ6 265 (1431655765), Cond.constant RJ6 266 (858993459), Cond.constant RJ6 267 (252645135)]
def wsX7_save : List Cond := .code yX7_save cX7_save 5 (some .int) :: ((wsX7_save_r1 ++ wsX7_save_r2) ++ wsX70 ++ wsX50)
def wsX7_outside : List Cond := .code yX7_outside cX7_outside 3 (some .int) :: ([])
def wsX7_fewest_r1 : List Cond := [Cond.fieldLink RX7 39 "SumOfTwoThatStand" "chains" "LSumOfTwoThatStand$Chains;", Cond.methodLink RX7 142 yX7_outside, Cond.static yX7_outside, Cond.initialized RX7, Cond.code yX7_outside cX7_outside 3 (some .int), Cond.methodLink RX7 65 yX7_refuse, Cond.instanceMethod yX7_refuse, Cond.selects RX7 yX7_refuse yX7_refuse, Cond.code yX7_refuse cX7_refuse 2 (some .int), Cond.fieldLink RX7 57 "SumOfTwoThatStand" "refusals" "[I", Cond.methodLink RX7 146 yX0_shortest, Cond.instanceMethod yX0_shortest, Cond.selects RX0 yX0_shortest yX0_shortest, Cond.initialized RX0, Cond.code yX0_shortest cX0_shortest 4 (some .int), Cond.fieldLink RX0 11 "SumOfTwoThatStand$Chains" "numbers" "[I", Cond.methodLink RX0 15 yX0_reaches, Cond.static yX0_reaches, Cond.code yX0_reaches cX0_reaches 8 (some .boolean), Cond.methodLink RX0 19 Lib.Math.min.name, Cond.static Lib.Math.min.name, Cond.initialized "java/lang/Math", Cond.code Lib.Math.min.name Lib.Math.min.code 2 (some .int), Cond.methodLink RX0 25 yX0_leastUseful]
def wsX7_fewest_r2 : List Cond := [Cond.static yX0_leastUseful, Cond.code yX0_leastUseful cX0_leastUseful 4 (some .int), Cond.methodLink RX0 33 Lib.Math.max.name, Cond.static Lib.Math.max.name, Cond.code Lib.Math.max.name Lib.Math.max.code 2 (some .int), Cond.methodLink RX0 29 yX0_isSum, Cond.static yX0_isSum, Cond.code yX0_isSum cX0_isSum 6 (some .boolean)]
def wsX7_fewest : List Cond := .code yX7_fewest cX7_fewest 3 (some .int) :: ((wsX7_fewest_r1 ++ wsX7_fewest_r2) ++ wsX70 ++ wsX00)
def wsX7_chain_r1 : List Cond := [Cond.fieldLink RX7 39 "SumOfTwoThatStand" "chains" "LSumOfTwoThatStand$Chains;", Cond.methodLink RX7 65 yX7_refuse, Cond.instanceMethod yX7_refuse, Cond.selects RX7 yX7_refuse yX7_refuse, Cond.initialized RX7, Cond.code yX7_refuse cX7_refuse 2 (some .int), Cond.fieldLink RX7 57 "SumOfTwoThatStand" "refusals" "[I", Cond.methodLink RX7 142 yX7_outside, Cond.static yX7_outside, Cond.code yX7_outside cX7_outside 3 (some .int), Cond.methodLink RX7 146 yX0_shortest, Cond.instanceMethod yX0_shortest, Cond.selects RX0 yX0_shortest yX0_shortest, Cond.initialized RX0, Cond.code yX0_shortest cX0_shortest 4 (some .int), Cond.fieldLink RX0 11 "SumOfTwoThatStand$Chains" "numbers" "[I", Cond.methodLink RX0 15 yX0_reaches, Cond.static yX0_reaches, Cond.code yX0_reaches cX0_reaches 8 (some .boolean), Cond.methodLink RX0 19 Lib.Math.min.name, Cond.static Lib.Math.min.name, Cond.initialized "java/lang/Math", Cond.code Lib.Math.min.name Lib.Math.min.code 2 (some .int), Cond.methodLink RX0 25 yX0_leastUseful]
def wsX7_chain_r2 : List Cond := [Cond.static yX0_leastUseful, Cond.code yX0_leastUseful cX0_leastUseful 4 (some .int), Cond.methodLink RX0 33 Lib.Math.max.name, Cond.static Lib.Math.max.name, Cond.code Lib.Math.max.name Lib.Math.max.code 2 (some .int), Cond.methodLink RX0 29 yX0_isSum, Cond.static yX0_isSum, Cond.code yX0_isSum cX0_isSum 6 (some .boolean), Cond.methodLink RX7 149 yX0_numberAt, Cond.instanceMethod yX0_numberAt, Cond.selects RX0 yX0_numberAt yX0_numberAt, Cond.code yX0_numberAt cX0_numberAt 2 (some .int)]
def wsX7_chain : List Cond := .code yX7_chain cX7_chain 4 (some .int) :: ((wsX7_chain_r1 ++ wsX7_chain_r2) ++ wsX70 ++ wsX00)
def wsX7_isOneOfTwo : List Cond := .code yX7_isOneOfTwo cX7_isOneOfTwo 1 (some .boolean) :: ([])
def wsX7_way_r1 : List Cond := [Cond.methodLink RX7 152 yX7_isOneOfTwo, Cond.static yX7_isOneOfTwo, Cond.initialized RX7, Cond.code yX7_isOneOfTwo cX7_isOneOfTwo 1 (some .boolean), Cond.methodLink RX7 142 yX7_outside, Cond.static yX7_outside, Cond.code yX7_outside cX7_outside 3 (some .int), Cond.methodLink RX7 65 yX7_refuse, Cond.instanceMethod yX7_refuse, Cond.selects RX7 yX7_refuse yX7_refuse, Cond.code yX7_refuse cX7_refuse 2 (some .int), Cond.fieldLink RX7 57 "SumOfTwoThatStand" "refusals" "[I", Cond.methodLink RX7 155 yX0_byHalves, Cond.static yX0_byHalves, Cond.initialized RX0, Cond.code yX0_byHalves cX0_byHalves 1 (some .int), Cond.methodLink RX0 40 yJ6_numberOfLeadingZeros_0f7a4, Cond.static yJ6_numberOfLeadingZeros_0f7a4, Cond.initialized RJ6, Cond.code yJ6_numberOfLeadingZeros_0f7a4 cJ6_numberOfLeadingZeros_0f7a4 2 (some .int), Cond.constant RJ6 264 (65536), Cond.methodLink RX0 46 yJ6_bitCount_0f7a4, Cond.static yJ6_bitCount_0f7a4, Cond.code yJ6_bitCount_0f7a4 cJ6_bitCount_0f7a4 1 (some .int)]
def wsX7_way_r2 : List Cond := [Cond.constant RJ6 265 (1431655765), Cond.constant RJ6 266 (858993459), Cond.constant RJ6 267 (252645135), Cond.methodLink RX7 158 yX0_byFactors, Cond.static yX0_byFactors, Cond.code yX0_byFactors cX0_byFactors 1 (some .int), Cond.methodLink RX0 49 yX0_splitDown, Cond.static yX0_splitDown, Cond.code yX0_splitDown cX0_splitDown 3 (some .int), Cond.methodLink RX0 52 yX0_leastFactor, Cond.static yX0_leastFactor, Cond.code yX0_leastFactor cX0_leastFactor 2 (some .int)]
def wsX7_way : List Cond := .code yX7_way cX7_way 4 (some .int) :: ((wsX7_way_r1 ++ wsX7_way_r2) ++ wsX70)
def wsX7_both_r1 : List Cond := [Cond.methodLink RX7 161 Lib.Math.min.name, Cond.static Lib.Math.min.name, Cond.initialized "java/lang/Math", Cond.code Lib.Math.min.name Lib.Math.min.code 2 (some .int), Cond.methodLink RX7 166 Lib.Math.max.name, Cond.static Lib.Math.max.name, Cond.code Lib.Math.max.name Lib.Math.max.code 2 (some .int), Cond.fieldLink RX7 39 "SumOfTwoThatStand" "chains" "LSumOfTwoThatStand$Chains;", Cond.methodLink RX7 142 yX7_outside, Cond.static yX7_outside, Cond.initialized RX7, Cond.code yX7_outside cX7_outside 3 (some .int), Cond.methodLink RX7 65 yX7_refuse, Cond.instanceMethod yX7_refuse, Cond.selects RX7 yX7_refuse yX7_refuse, Cond.code yX7_refuse cX7_refuse 2 (some .int), Cond.fieldLink RX7 57 "SumOfTwoThatStand" "refusals" "[I", Cond.methodLink RX7 146 yX0_shortest, Cond.instanceMethod yX0_shortest, Cond.selects RX0 yX0_shortest yX0_shortest, Cond.initialized RX0, Cond.code yX0_shortest cX0_shortest 4 (some .int), Cond.fieldLink RX0 11 "SumOfTwoThatStand$Chains" "numbers" "[I", Cond.methodLink RX0 15 yX0_reaches]
def wsX7_both_r2 : List Cond := [Cond.static yX0_reaches, Cond.code yX0_reaches cX0_reaches 8 (some .boolean), Cond.methodLink RX0 19 Lib.Math.min.name, Cond.methodLink RX0 25 yX0_leastUseful, Cond.static yX0_leastUseful, Cond.code yX0_leastUseful cX0_leastUseful 4 (some .int), Cond.methodLink RX0 33 Lib.Math.max.name, Cond.methodLink RX0 29 yX0_isSum, Cond.static yX0_isSum, Cond.code yX0_isSum cX0_isSum 6 (some .boolean)]
def wsX7_both : List Cond := .code yX7_both cX7_both 6 (some .int) :: ((wsX7_both_r1 ++ wsX7_both_r2) ++ wsX70 ++ wsX00)
def wsX7_far : List Cond := .code yX7_far cX7_far 3 (some .int) :: ([.methodLink RX7 142 yX7_outside, .static yX7_outside, .initialized RX7, .code yX7_outside cX7_outside 3 (some .int), .methodLink RX7 65 yX7_refuse, .instanceMethod yX7_refuse, .selects RX7 yX7_refuse yX7_refuse, .code yX7_refuse cX7_refuse 2 (some .int), .fieldLink RX7 57 "SumOfTwoThatStand" "refusals" "[I"] ++ wsX70)
def wsJ13_bitCount_95d88 : List Cond := .code yJ13_bitCount_95d88 cJ13_bitCount_95d88 2 (some .int) :: ([.constantLong RJ13 314 (6148914691236517205), .constantLong RJ13 316 (3689348814741910323), .constantLong RJ13 318 (1085102592571150095)])
def wsJ6_numberOfTrailingZeros_0f7a4 : List Cond := .code yJ6_numberOfTrailingZeros_0f7a4 cJ6_numberOfTrailingZeros_0f7a4 2 (some .int) :: ([.constant RJ6 264 (65536)])
def wsJ13_numberOfTrailingZeros_95d88 : List Cond := .code yJ13_numberOfTrailingZeros_95d88 cJ13_numberOfTrailingZeros_95d88 3 (some .int) :: ([.methodLink RJ13 311 yJ6_numberOfTrailingZeros_0f7a4, .static yJ6_numberOfTrailingZeros_0f7a4, .initialized RJ6, .code yJ6_numberOfTrailingZeros_0f7a4 cJ6_numberOfTrailingZeros_0f7a4 2 (some .int), .constant RJ6 264 (65536)])
def wsX7_can_r1 : List Cond := [Cond.fieldLink RX7 39 "SumOfTwoThatStand" "chains" "LSumOfTwoThatStand$Chains;", Cond.constantLong RX7 178 (-1), Cond.methodLink RX7 152 yX7_isOneOfTwo, Cond.static yX7_isOneOfTwo, Cond.initialized RX7, Cond.code yX7_isOneOfTwo cX7_isOneOfTwo 1 (some .boolean), Cond.methodLink RX7 142 yX7_outside, Cond.static yX7_outside, Cond.code yX7_outside cX7_outside 3 (some .int), Cond.methodLink RX7 65 yX7_refuse, Cond.instanceMethod yX7_refuse, Cond.selects RX7 yX7_refuse yX7_refuse, Cond.code yX7_refuse cX7_refuse 2 (some .int), Cond.fieldLink RX7 57 "SumOfTwoThatStand" "refusals" "[I", Cond.methodLink RX7 169 yX0_reachable, Cond.instanceMethod yX0_reachable, Cond.selects RX0 yX0_reachable yX0_reachable, Cond.initialized RX0, Cond.code yX0_reachable cX0_reachable 2 (some .long), Cond.fieldLink RX0 11 "SumOfTwoThatStand$Chains" "numbers" "[I", Cond.methodLink RX0 19 Lib.Math.min.name, Cond.static Lib.Math.min.name, Cond.initialized "java/lang/Math", Cond.code Lib.Math.min.name Lib.Math.min.code 2 (some .int)]
def wsX7_can_r2 : List Cond := [Cond.methodLink RX0 36 yX0_reached, Cond.static yX0_reached, Cond.code yX0_reached cX0_reached 7 (some .long), Cond.methodLink RX0 29 yX0_isSum, Cond.static yX0_isSum, Cond.code yX0_isSum cX0_isSum 6 (some .boolean), Cond.methodLink RX7 173 yJ13_bitCount_95d88, Cond.static yJ13_bitCount_95d88, Cond.initialized RJ13, Cond.code yJ13_bitCount_95d88 cJ13_bitCount_95d88 2 (some .int), Cond.constantLong RJ13 314 (6148914691236517205), Cond.constantLong RJ13 316 (3689348814741910323), Cond.constantLong RJ13 318 (1085102592571150095), Cond.methodLink RX7 180 yJ13_numberOfTrailingZeros_95d88, Cond.static yJ13_numberOfTrailingZeros_95d88, Cond.code yJ13_numberOfTrailingZeros_95d88 cJ13_numberOfTrailingZeros_95d88 3 (some .int), Cond.methodLink RJ13 311 yJ6_numberOfTrailingZeros_0f7a4, Cond.static yJ6_numberOfTrailingZeros_0f7a4, Cond.initialized RJ6, Cond.code yJ6_numberOfTrailingZeros_0f7a4 cJ6_numberOfTrailingZeros_0f7a4 2 (some .int), Cond.constant RJ6 264 (65536)]
def wsX7_can : List Cond := .code yX7_can cX7_can 6 (some .int) :: ((wsX7_can_r1 ++ wsX7_can_r2) ++ wsX70 ++ wsX00)
def wsX7_comesNextButOne_r1 : List Cond := [Cond.fieldLink RX7 10 "SumOfTwoThatStand" "live" "LSumOfTwoThatStand$Street;", Cond.fieldLink RX7 19 "SumOfTwoThatStand" "mind" "LSumOfTwoThatStand$Street;", Cond.methodLink RX7 128 yX5_cameCount, Cond.instanceMethod yX5_cameCount, Cond.selects RX5 yX5_cameCount yX5_cameCount, Cond.initialized RX5, Cond.code yX5_cameCount cX5_cameCount 1 (some .int), Cond.fieldLink RX5 36 "SumOfTwoThatStand$Street" "came" "I", Cond.methodLink RX7 76 yX5_become, Cond.instanceMethod yX5_become, Cond.selects RX5 yX5_become yX5_become, Cond.code yX5_become cX5_become 2 none, Cond.fieldLink RX5 9 "SumOfTwoThatStand$Street" "kinds" "[I", Cond.methodLink RX5 47 arraycopyName, Cond.native arraycopyName, Cond.static arraycopyName, Cond.initialized "java/lang/System", Cond.fieldLink RX5 15 "SumOfTwoThatStand$Street" "figures" "[I", Cond.fieldLink RX5 18 "SumOfTwoThatStand$Street" "numbers" "[I", Cond.fieldLink RX5 21 "SumOfTwoThatStand$Street" "firsts" "[I", Cond.fieldLink RX5 24 "SumOfTwoThatStand$Street" "seconds" "[I", Cond.fieldLink RX5 27 "SumOfTwoThatStand$Street" "uses" "[I", Cond.fieldLink RX5 30 "SumOfTwoThatStand$Street" "earned" "[I", Cond.fieldLink RX5 40 "SumOfTwoThatStand$Street" "standing" "I"]
def wsX7_comesNextButOne_r2 : List Cond := [Cond.fieldLink RX5 53 "SumOfTwoThatStand$Street" "sums" "I", Cond.fieldLink RX5 56 "SumOfTwoThatStand$Street" "falls" "I", Cond.methodLink RX7 124 yX5_build, Cond.instanceMethod yX5_build, Cond.selects RX5 yX5_build yX5_build, Cond.code yX5_build cX5_build 5 (some .boolean), Cond.methodLink RX5 94 yX5_hasRoom, Cond.instanceMethod yX5_hasRoom, Cond.selects RX5 yX5_hasRoom yX5_hasRoom, Cond.code yX5_hasRoom cX5_hasRoom 1 (some .boolean), Cond.methodLink RX5 98 yX5_isKind, Cond.static yX5_isKind, Cond.code yX5_isKind cX5_isKind 1 (some .boolean), Cond.methodLink RX5 101 yX5_mayBe, Cond.instanceMethod yX5_mayBe, Cond.selects RX5 yX5_mayBe yX5_mayBe, Cond.code yX5_mayBe cX5_mayBe 4 (some .boolean), Cond.methodLink RX5 79 yX5_stands, Cond.instanceMethod yX5_stands, Cond.selects RX5 yX5_stands yX5_stands, Cond.code yX5_stands cX5_stands 2 (some .boolean), Cond.methodLink RX5 59 yX5_has, Cond.instanceMethod yX5_has, Cond.selects RX5 yX5_has yX5_has]
def wsX7_comesNextButOne_r3 : List Cond := [Cond.code yX5_has cX5_has 2 (some .boolean), Cond.methodLink RX5 63 yX5_isIn, Cond.static yX5_isIn, Cond.code yX5_isIn cX5_isIn 2 (some .boolean), Cond.methodLink RX5 82 yX5_isLawful, Cond.instanceMethod yX5_isLawful, Cond.selects RX5 yX5_isLawful yX5_isLawful, Cond.code yX5_isLawful cX5_isLawful 4 (some .boolean), Cond.methodLink RX5 91 yJ6_numberOfLeadingZeros_0f7a4, Cond.static yJ6_numberOfLeadingZeros_0f7a4, Cond.initialized RJ6, Cond.code yJ6_numberOfLeadingZeros_0f7a4 cJ6_numberOfLeadingZeros_0f7a4 2 (some .int), Cond.constant RJ6 264 (65536), Cond.methodLink RX5 85 yX5_lends, Cond.instanceMethod yX5_lends, Cond.selects RX5 yX5_lends yX5_lends, Cond.code yX5_lends cX5_lends 3 (some .boolean), Cond.methodLink RX5 88 yX5_isThere, Cond.instanceMethod yX5_isThere, Cond.selects RX5 yX5_isThere yX5_isThere, Cond.code yX5_isThere cX5_isThere 3 (some .boolean), Cond.methodLink RX5 43 yX5_place, Cond.instanceMethod yX5_place, Cond.selects RX5 yX5_place yX5_place]
def wsX7_comesNextButOne_r4 : List Cond := [Cond.code yX5_place cX5_place 6 none, Cond.methodLink RX5 104 yX5_use, Cond.instanceMethod yX5_use, Cond.selects RX5 yX5_use yX5_use, Cond.code yX5_use cX5_use 2 none, Cond.methodLink RX5 111 yX5_fee, Cond.instanceMethod yX5_fee, Cond.selects RX5 yX5_fee yX5_fee, Cond.code yX5_fee cX5_fee 2 (some .int), Cond.methodLink RX5 108 yX5_loseHut, Cond.instanceMethod yX5_loseHut, Cond.selects RX5 yX5_loseHut yX5_loseHut, Cond.code yX5_loseHut cX5_loseHut 2 none, Cond.methodLink RX7 186 yX5_comesNext, Cond.instanceMethod yX5_comesNext, Cond.selects RX5 yX5_comesNext yX5_comesNext, Cond.code yX5_comesNext cX5_comesNext 4 (some .boolean)]
def wsX7_comesNextButOne : List Cond := .code yX7_comesNextButOne cX7_comesNextButOne 4 (some .boolean) :: ((wsX7_comesNextButOne_r1 ++ (wsX7_comesNextButOne_r2 ++ (wsX7_comesNextButOne_r3 ++ wsX7_comesNextButOne_r4))) ++ wsX70 ++ wsX50)
def wsX7_more_r1 : List Cond := [Cond.fieldLink RX7 10 "SumOfTwoThatStand" "live" "LSumOfTwoThatStand$Street;", Cond.methodLink RX7 142 yX7_outside, Cond.static yX7_outside, Cond.initialized RX7, Cond.code yX7_outside cX7_outside 3 (some .int), Cond.methodLink RX7 65 yX7_refuse, Cond.instanceMethod yX7_refuse, Cond.selects RX7 yX7_refuse yX7_refuse, Cond.code yX7_refuse cX7_refuse 2 (some .int), Cond.fieldLink RX7 57 "SumOfTwoThatStand" "refusals" "[I", Cond.methodLink RX7 183 yX5_isThere, Cond.instanceMethod yX5_isThere, Cond.selects RX5 yX5_isThere yX5_isThere, Cond.initialized RX5, Cond.code yX5_isThere cX5_isThere 3 (some .boolean), Cond.fieldLink RX5 36 "SumOfTwoThatStand$Street" "came" "I", Cond.fieldLink RX5 40 "SumOfTwoThatStand$Street" "standing" "I", Cond.fieldLink RX5 18 "SumOfTwoThatStand$Street" "numbers" "[I", Cond.methodLink RX5 63 yX5_isIn, Cond.static yX5_isIn, Cond.code yX5_isIn cX5_isIn 2 (some .boolean), Cond.methodLink RX7 186 yX5_comesNext, Cond.instanceMethod yX5_comesNext, Cond.selects RX5 yX5_comesNext yX5_comesNext]
def wsX7_more_r2 : List Cond := [Cond.code yX5_comesNext cX5_comesNext 4 (some .boolean), Cond.methodLink RX5 94 yX5_hasRoom, Cond.instanceMethod yX5_hasRoom, Cond.selects RX5 yX5_hasRoom yX5_hasRoom, Cond.code yX5_hasRoom cX5_hasRoom 1 (some .boolean), Cond.methodLink RX5 101 yX5_mayBe, Cond.instanceMethod yX5_mayBe, Cond.selects RX5 yX5_mayBe yX5_mayBe, Cond.code yX5_mayBe cX5_mayBe 4 (some .boolean), Cond.methodLink RX5 79 yX5_stands, Cond.instanceMethod yX5_stands, Cond.selects RX5 yX5_stands yX5_stands, Cond.code yX5_stands cX5_stands 2 (some .boolean), Cond.methodLink RX5 59 yX5_has, Cond.instanceMethod yX5_has, Cond.selects RX5 yX5_has yX5_has, Cond.code yX5_has cX5_has 2 (some .boolean), Cond.methodLink RX5 82 yX5_isLawful, Cond.instanceMethod yX5_isLawful, Cond.selects RX5 yX5_isLawful yX5_isLawful, Cond.code yX5_isLawful cX5_isLawful 4 (some .boolean), Cond.fieldLink RX5 53 "SumOfTwoThatStand$Street" "sums" "I", Cond.methodLink RX5 91 yJ6_numberOfLeadingZeros_0f7a4, Cond.static yJ6_numberOfLeadingZeros_0f7a4]
def wsX7_more_r3 : List Cond := [Cond.initialized RJ6, Cond.code yJ6_numberOfLeadingZeros_0f7a4 cJ6_numberOfLeadingZeros_0f7a4 2 (some .int), Cond.constant RJ6 264 (65536), Cond.methodLink RX5 85 yX5_lends, Cond.instanceMethod yX5_lends, Cond.selects RX5 yX5_lends yX5_lends, Cond.code yX5_lends cX5_lends 3 (some .boolean), Cond.fieldLink RX5 9 "SumOfTwoThatStand$Street" "kinds" "[I", Cond.fieldLink RX5 27 "SumOfTwoThatStand$Street" "uses" "[I", Cond.methodLink RX5 88 yX5_isThere, Cond.methodLink RX7 189 yX7_comesNextButOne, Cond.instanceMethod yX7_comesNextButOne, Cond.selects RX7 yX7_comesNextButOne yX7_comesNextButOne, Cond.code yX7_comesNextButOne cX7_comesNextButOne 4 (some .boolean), Cond.fieldLink RX7 19 "SumOfTwoThatStand" "mind" "LSumOfTwoThatStand$Street;", Cond.methodLink RX7 128 yX5_cameCount, Cond.instanceMethod yX5_cameCount, Cond.selects RX5 yX5_cameCount yX5_cameCount, Cond.code yX5_cameCount cX5_cameCount 1 (some .int), Cond.methodLink RX7 76 yX5_become, Cond.instanceMethod yX5_become, Cond.selects RX5 yX5_become yX5_become, Cond.code yX5_become cX5_become 2 none, Cond.methodLink RX5 47 arraycopyName]
def wsX7_more_r4 : List Cond := [Cond.native arraycopyName, Cond.static arraycopyName, Cond.initialized "java/lang/System", Cond.fieldLink RX5 15 "SumOfTwoThatStand$Street" "figures" "[I", Cond.fieldLink RX5 21 "SumOfTwoThatStand$Street" "firsts" "[I", Cond.fieldLink RX5 24 "SumOfTwoThatStand$Street" "seconds" "[I", Cond.fieldLink RX5 30 "SumOfTwoThatStand$Street" "earned" "[I", Cond.fieldLink RX5 56 "SumOfTwoThatStand$Street" "falls" "I", Cond.methodLink RX7 124 yX5_build, Cond.instanceMethod yX5_build, Cond.selects RX5 yX5_build yX5_build, Cond.code yX5_build cX5_build 5 (some .boolean), Cond.methodLink RX5 98 yX5_isKind, Cond.static yX5_isKind, Cond.code yX5_isKind cX5_isKind 1 (some .boolean), Cond.methodLink RX5 43 yX5_place, Cond.instanceMethod yX5_place, Cond.selects RX5 yX5_place yX5_place, Cond.code yX5_place cX5_place 6 none, Cond.methodLink RX5 104 yX5_use, Cond.instanceMethod yX5_use, Cond.selects RX5 yX5_use yX5_use, Cond.code yX5_use cX5_use 2 none, Cond.methodLink RX5 111 yX5_fee]
def wsX7_more_r5 : List Cond := [Cond.instanceMethod yX5_fee, Cond.selects RX5 yX5_fee yX5_fee, Cond.code yX5_fee cX5_fee 2 (some .int), Cond.methodLink RX5 108 yX5_loseHut, Cond.instanceMethod yX5_loseHut, Cond.selects RX5 yX5_loseHut yX5_loseHut, Cond.code yX5_loseHut cX5_loseHut 2 none]
def wsX7_more : List Cond := .code yX7_more cX7_more 3 (some .int) :: ((wsX7_more_r1 ++ (wsX7_more_r2 ++ (wsX7_more_r3 ++ (wsX7_more_r4 ++ wsX7_more_r5)))) ++ wsX70 ++ wsX50)
def wsX7_orders_r1 : List Cond := [Cond.fieldLink RX7 46 "SumOfTwoThatStand" "comings" "LSumOfTwoThatStand$Orders;", Cond.fieldLink RX7 10 "SumOfTwoThatStand" "live" "LSumOfTwoThatStand$Street;", Cond.methodLink RX7 192 yX3_of, Cond.instanceMethod yX3_of, Cond.selects RX3 yX3_of yX3_of, Cond.initialized RX3, Cond.code yX3_of cX3_of 4 (some .int), Cond.fieldLink RX3 9 "SumOfTwoThatStand$Orders" "ways" "[I", Cond.methodLink RX3 15 yX5_standingBits, Cond.instanceMethod yX5_standingBits, Cond.selects RX5 yX5_standingBits yX5_standingBits, Cond.initialized RX5, Cond.code yX5_standingBits cX5_standingBits 1 (some .int), Cond.fieldLink RX5 40 "SumOfTwoThatStand$Street" "standing" "I", Cond.methodLink RX3 21 yX3_letNextCome, Cond.instanceMethod yX3_letNextCome, Cond.selects RX3 yX3_letNextCome yX3_letNextCome, Cond.code yX3_letNextCome cX3_letNextCome 8 none, Cond.methodLink RX3 25 yX5_aheadOf, Cond.instanceMethod yX5_aheadOf, Cond.selects RX5 yX5_aheadOf yX5_aheadOf, Cond.code yX5_aheadOf cX5_aheadOf 2 (some .int), Cond.fieldLink RX5 21 "SumOfTwoThatStand$Street" "firsts" "[I", Cond.fieldLink RX5 24 "SumOfTwoThatStand$Street" "seconds" "[I"]
def wsX7_orders_r2 : List Cond := [Cond.methodLink RX5 59 yX5_has, Cond.instanceMethod yX5_has, Cond.selects RX5 yX5_has yX5_has, Cond.code yX5_has cX5_has 2 (some .boolean), Cond.fieldLink RX5 36 "SumOfTwoThatStand$Street" "came" "I", Cond.methodLink RX5 117 yX5_bitOf, Cond.instanceMethod yX5_bitOf, Cond.selects RX5 yX5_bitOf yX5_bitOf, Cond.code yX5_bitOf cX5_bitOf 2 (some .int), Cond.methodLink RX5 79 yX5_stands, Cond.instanceMethod yX5_stands, Cond.selects RX5 yX5_stands yX5_stands, Cond.code yX5_stands cX5_stands 2 (some .boolean), Cond.methodLink RX5 63 yX5_isIn, Cond.static yX5_isIn, Cond.code yX5_isIn cX5_isIn 2 (some .boolean)]
def wsX7_orders : List Cond := .code yX7_orders cX7_orders 1 (some .int) :: ((wsX7_orders_r1 ++ wsX7_orders_r2) ++ wsX70 ++ wsX30 ++ wsX50)
def wsX7_game : List Cond := .code yX7_game cX7_game 3 (some .int) :: ([.fieldLink RX7 53 "SumOfTwoThatStand" "builders" "LSumOfTwoThatStand$Game;", .methodLink RX7 142 yX7_outside, .static yX7_outside, .initialized RX7, .code yX7_outside cX7_outside 3 (some .int), .methodLink RX7 65 yX7_refuse, .instanceMethod yX7_refuse, .selects RX7 yX7_refuse yX7_refuse, .code yX7_refuse cX7_refuse 2 (some .int), .fieldLink RX7 57 "SumOfTwoThatStand" "refusals" "[I", .methodLink RX7 195 yX1_isWonByFirst, .instanceMethod yX1_isWonByFirst, .selects RX1 yX1_isWonByFirst yX1_isWonByFirst, .initialized RX1, .code yX1_isWonByFirst cX1_isWonByFirst 3 (some .boolean), .fieldLink RX1 9 "SumOfTwoThatStand$Game" "wins" "[Z", .methodLink RX1 13 yX1_isWon, .instanceMethod yX1_isWon, .selects RX1 yX1_isWon yX1_isWon, .code yX1_isWon cX1_isWon 6 (some .boolean), .methodLink RX1 17 yX1_sumsOf, .static yX1_sumsOf, .code yX1_sumsOf cX1_sumsOf 4 (some .int)] ++ wsX70 ++ wsX10)
def wsX7_row_r1 : List Cond := [Cond.fieldLink RX7 32 "SumOfTwoThatStand" "told" "LSumOfTwoThatStand$Row;", Cond.methodLink RX7 142 yX7_outside, Cond.static yX7_outside, Cond.initialized RX7, Cond.code yX7_outside cX7_outside 3 (some .int), Cond.methodLink RX7 198 ⟨"SumOfTwoThatStand$Row", "hasRoom", "()Z"⟩, Cond.sameMethod "SumOfTwoThatStand$Row" "SumOfTwoThatStand$Told" "hasRoom" "()Z", Cond.selects RX4 ⟨"SumOfTwoThatStand$Row", "hasRoom", "()Z"⟩ yX6_hasRoom, Cond.instanceMethod yX6_hasRoom, Cond.initialized RX6, Cond.code yX6_hasRoom cX6_hasRoom 1 (some .boolean), Cond.fieldLink RX6 19 "SumOfTwoThatStand$Told" "length" "I", Cond.fieldLink RX6 13 "SumOfTwoThatStand$Told" "all" "[I", Cond.methodLink RX7 65 yX7_refuse, Cond.instanceMethod yX7_refuse, Cond.selects RX7 yX7_refuse yX7_refuse, Cond.code yX7_refuse cX7_refuse 2 (some .int), Cond.fieldLink RX7 57 "SumOfTwoThatStand" "refusals" "[I", Cond.methodLink RX7 199 ⟨"SumOfTwoThatStand$Row", "take", "(I)I"⟩, Cond.sameMethod "SumOfTwoThatStand$Row" "SumOfTwoThatStand$Told" "take" "(I)I", Cond.selects RX4 ⟨"SumOfTwoThatStand$Row", "take", "(I)I"⟩ yX6_take, Cond.instanceMethod yX6_take, Cond.code yX6_take cX6_take 2 (some .int), Cond.methodLink RX6 23 ⟨"SumOfTwoThatStand$Told", "hasRoom", "()Z"⟩]
def wsX7_row_r2 : List Cond := [Cond.sameMethod "SumOfTwoThatStand$Told" "SumOfTwoThatStand$Told" "hasRoom" "()Z", Cond.selects RX2 ⟨"SumOfTwoThatStand$Told", "hasRoom", "()Z"⟩ yX6_hasRoom, Cond.selects RX4 ⟨"SumOfTwoThatStand$Told", "hasRoom", "()Z"⟩ yX6_hasRoom]
def wsX7_row : List Cond := .code yX7_row cX7_row 3 (some .int) :: ((wsX7_row_r1 ++ wsX7_row_r2) ++ wsX70 ++ wsX20 ++ wsX40)
def wsX7_judge_r1 : List Cond := [Cond.fieldLink RX7 32 "SumOfTwoThatStand" "told" "LSumOfTwoThatStand$Row;", Cond.methodLink RX7 200 yX4_firstWrong, Cond.instanceMethod yX4_firstWrong, Cond.selects RX4 yX4_firstWrong yX4_firstWrong, Cond.initialized RX4, Cond.code yX4_firstWrong cX4_firstWrong 3 (some .int), Cond.methodLink RX4 9 ⟨"SumOfTwoThatStand$Row", "howMany", "()I"⟩, Cond.sameMethod "SumOfTwoThatStand$Row" "SumOfTwoThatStand$Told" "howMany" "()I", Cond.selects RX4 ⟨"SumOfTwoThatStand$Row", "howMany", "()I"⟩ yX6_howMany, Cond.instanceMethod yX6_howMany, Cond.initialized RX6, Cond.code yX6_howMany cX6_howMany 1 (some .int), Cond.fieldLink RX6 19 "SumOfTwoThatStand$Told" "length" "I", Cond.methodLink RX4 15 ⟨"SumOfTwoThatStand$Row", "toldAt", "(I)I"⟩, Cond.sameMethod "SumOfTwoThatStand$Row" "SumOfTwoThatStand$Told" "toldAt" "(I)I", Cond.selects RX4 ⟨"SumOfTwoThatStand$Row", "toldAt", "(I)I"⟩ yX6_toldAt, Cond.instanceMethod yX6_toldAt, Cond.code yX6_toldAt cX6_toldAt 2 (some .int), Cond.fieldLink RX6 13 "SumOfTwoThatStand$Told" "all" "[I", Cond.methodLink RX4 19 yX4_isNew, Cond.instanceMethod yX4_isNew, Cond.selects RX4 yX4_isNew yX4_isNew, Cond.code yX4_isNew cX4_isNew 3 (some .boolean), Cond.methodLink RX4 23 yX4_isSum]
def wsX7_judge_r2 : List Cond := [Cond.instanceMethod yX4_isSum, Cond.selects RX4 yX4_isSum yX4_isSum, Cond.code yX4_isSum cX4_isSum 4 (some .boolean), Cond.methodLink RX7 203 ⟨"SumOfTwoThatStand$Row", "forget", "()V"⟩, Cond.sameMethod "SumOfTwoThatStand$Row" "SumOfTwoThatStand$Told" "forget" "()V", Cond.selects RX4 ⟨"SumOfTwoThatStand$Row", "forget", "()V"⟩ yX6_forget, Cond.instanceMethod yX6_forget, Cond.code yX6_forget cX6_forget 1 none]
def wsX7_judge : List Cond := .code yX7_judge cX7_judge 2 (some .int) :: ((wsX7_judge_r1 ++ wsX7_judge_r2) ++ wsX70 ++ wsX20 ++ wsX40)
def wsX7_nextSeed : List Cond := .code yX7_nextSeed cX7_nextSeed 1 (some .int) :: ([.constant RX7 227 (1103515245)])
def wsX7_draw : List Cond := .code yX7_draw cX7_draw 2 (some .int) :: ([.constant RX7 228 (2147483647)])
def wsX7_sow_r1 : List Cond := [Cond.methodLink RX7 221 yX7_nextSeed, Cond.static yX7_nextSeed, Cond.initialized RX7, Cond.code yX7_nextSeed cX7_nextSeed 1 (some .int), Cond.constant RX7 227 (1103515245), Cond.methodLink RX7 128 yX5_cameCount, Cond.instanceMethod yX5_cameCount, Cond.selects RX5 yX5_cameCount yX5_cameCount, Cond.initialized RX5, Cond.code yX5_cameCount cX5_cameCount 1 (some .int), Cond.fieldLink RX5 36 "SumOfTwoThatStand$Street" "came" "I", Cond.methodLink RX7 224 yX7_draw, Cond.static yX7_draw, Cond.code yX7_draw cX7_draw 2 (some .int), Cond.constant RX7 228 (2147483647), Cond.methodLink RX7 124 yX5_build, Cond.instanceMethod yX5_build, Cond.selects RX5 yX5_build yX5_build, Cond.code yX5_build cX5_build 5 (some .boolean), Cond.fieldLink RX5 18 "SumOfTwoThatStand$Street" "numbers" "[I", Cond.methodLink RX5 94 yX5_hasRoom, Cond.instanceMethod yX5_hasRoom, Cond.selects RX5 yX5_hasRoom yX5_hasRoom, Cond.code yX5_hasRoom cX5_hasRoom 1 (some .boolean)]
def wsX7_sow_r2 : List Cond := [Cond.methodLink RX5 98 yX5_isKind, Cond.static yX5_isKind, Cond.code yX5_isKind cX5_isKind 1 (some .boolean), Cond.methodLink RX5 101 yX5_mayBe, Cond.instanceMethod yX5_mayBe, Cond.selects RX5 yX5_mayBe yX5_mayBe, Cond.code yX5_mayBe cX5_mayBe 4 (some .boolean), Cond.methodLink RX5 79 yX5_stands, Cond.instanceMethod yX5_stands, Cond.selects RX5 yX5_stands yX5_stands, Cond.code yX5_stands cX5_stands 2 (some .boolean), Cond.fieldLink RX5 40 "SumOfTwoThatStand$Street" "standing" "I", Cond.methodLink RX5 59 yX5_has, Cond.instanceMethod yX5_has, Cond.selects RX5 yX5_has yX5_has, Cond.code yX5_has cX5_has 2 (some .boolean), Cond.methodLink RX5 63 yX5_isIn, Cond.static yX5_isIn, Cond.code yX5_isIn cX5_isIn 2 (some .boolean), Cond.methodLink RX5 82 yX5_isLawful, Cond.instanceMethod yX5_isLawful, Cond.selects RX5 yX5_isLawful yX5_isLawful, Cond.code yX5_isLawful cX5_isLawful 4 (some .boolean), Cond.fieldLink RX5 53 "SumOfTwoThatStand$Street" "sums" "I"]
def wsX7_sow_r3 : List Cond := [Cond.methodLink RX5 91 yJ6_numberOfLeadingZeros_0f7a4, Cond.static yJ6_numberOfLeadingZeros_0f7a4, Cond.initialized RJ6, Cond.code yJ6_numberOfLeadingZeros_0f7a4 cJ6_numberOfLeadingZeros_0f7a4 2 (some .int), Cond.constant RJ6 264 (65536), Cond.methodLink RX5 85 yX5_lends, Cond.instanceMethod yX5_lends, Cond.selects RX5 yX5_lends yX5_lends, Cond.code yX5_lends cX5_lends 3 (some .boolean), Cond.fieldLink RX5 9 "SumOfTwoThatStand$Street" "kinds" "[I", Cond.fieldLink RX5 27 "SumOfTwoThatStand$Street" "uses" "[I", Cond.methodLink RX5 88 yX5_isThere, Cond.instanceMethod yX5_isThere, Cond.selects RX5 yX5_isThere yX5_isThere, Cond.code yX5_isThere cX5_isThere 3 (some .boolean), Cond.methodLink RX5 43 yX5_place, Cond.instanceMethod yX5_place, Cond.selects RX5 yX5_place yX5_place, Cond.code yX5_place cX5_place 6 none, Cond.fieldLink RX5 21 "SumOfTwoThatStand$Street" "firsts" "[I", Cond.fieldLink RX5 24 "SumOfTwoThatStand$Street" "seconds" "[I", Cond.fieldLink RX5 15 "SumOfTwoThatStand$Street" "figures" "[I", Cond.fieldLink RX5 30 "SumOfTwoThatStand$Street" "earned" "[I", Cond.methodLink RX5 104 yX5_use]
def wsX7_sow_r4 : List Cond := [Cond.instanceMethod yX5_use, Cond.selects RX5 yX5_use yX5_use, Cond.code yX5_use cX5_use 2 none, Cond.methodLink RX5 111 yX5_fee, Cond.instanceMethod yX5_fee, Cond.selects RX5 yX5_fee yX5_fee, Cond.code yX5_fee cX5_fee 2 (some .int), Cond.methodLink RX5 108 yX5_loseHut, Cond.instanceMethod yX5_loseHut, Cond.selects RX5 yX5_loseHut yX5_loseHut, Cond.code yX5_loseHut cX5_loseHut 2 none]
def wsX7_sow : List Cond := .code yX7_sow cX7_sow 7 none :: ((wsX7_sow_r1 ++ (wsX7_sow_r2 ++ (wsX7_sow_r3 ++ wsX7_sow_r4))) ++ wsX50)
def wsX7_seeds_r1 : List Cond := [Cond.fieldLink RX7 19 "SumOfTwoThatStand" "mind" "LSumOfTwoThatStand$Street;", Cond.fieldLink RX7 10 "SumOfTwoThatStand" "live" "LSumOfTwoThatStand$Street;", Cond.methodLink RX7 152 yX7_isOneOfTwo, Cond.static yX7_isOneOfTwo, Cond.initialized RX7, Cond.code yX7_isOneOfTwo cX7_isOneOfTwo 1 (some .boolean), Cond.methodLink RX7 142 yX7_outside, Cond.static yX7_outside, Cond.code yX7_outside cX7_outside 3 (some .int), Cond.methodLink RX7 65 yX7_refuse, Cond.instanceMethod yX7_refuse, Cond.selects RX7 yX7_refuse yX7_refuse, Cond.code yX7_refuse cX7_refuse 2 (some .int), Cond.fieldLink RX7 57 "SumOfTwoThatStand" "refusals" "[I", Cond.methodLink RX7 76 yX5_become, Cond.instanceMethod yX5_become, Cond.selects RX5 yX5_become yX5_become, Cond.initialized RX5, Cond.code yX5_become cX5_become 2 none, Cond.fieldLink RX5 9 "SumOfTwoThatStand$Street" "kinds" "[I", Cond.methodLink RX5 47 arraycopyName, Cond.native arraycopyName, Cond.static arraycopyName, Cond.initialized "java/lang/System"]
def wsX7_seeds_r2 : List Cond := [Cond.fieldLink RX5 15 "SumOfTwoThatStand$Street" "figures" "[I", Cond.fieldLink RX5 18 "SumOfTwoThatStand$Street" "numbers" "[I", Cond.fieldLink RX5 21 "SumOfTwoThatStand$Street" "firsts" "[I", Cond.fieldLink RX5 24 "SumOfTwoThatStand$Street" "seconds" "[I", Cond.fieldLink RX5 27 "SumOfTwoThatStand$Street" "uses" "[I", Cond.fieldLink RX5 30 "SumOfTwoThatStand$Street" "earned" "[I", Cond.fieldLink RX5 36 "SumOfTwoThatStand$Street" "came" "I", Cond.fieldLink RX5 40 "SumOfTwoThatStand$Street" "standing" "I", Cond.fieldLink RX5 53 "SumOfTwoThatStand$Street" "sums" "I", Cond.fieldLink RX5 56 "SumOfTwoThatStand$Street" "falls" "I", Cond.methodLink RX7 204 yX7_sow, Cond.static yX7_sow, Cond.code yX7_sow cX7_sow 7 none, Cond.methodLink RX7 221 yX7_nextSeed, Cond.static yX7_nextSeed, Cond.code yX7_nextSeed cX7_nextSeed 1 (some .int), Cond.constant RX7 227 (1103515245), Cond.methodLink RX7 128 yX5_cameCount, Cond.instanceMethod yX5_cameCount, Cond.selects RX5 yX5_cameCount yX5_cameCount, Cond.code yX5_cameCount cX5_cameCount 1 (some .int), Cond.methodLink RX7 224 yX7_draw, Cond.static yX7_draw, Cond.code yX7_draw cX7_draw 2 (some .int)]
def wsX7_seeds_r3 : List Cond := [Cond.constant RX7 228 (2147483647), Cond.methodLink RX7 124 yX5_build, Cond.instanceMethod yX5_build, Cond.selects RX5 yX5_build yX5_build, Cond.code yX5_build cX5_build 5 (some .boolean), Cond.methodLink RX5 94 yX5_hasRoom, Cond.instanceMethod yX5_hasRoom, Cond.selects RX5 yX5_hasRoom yX5_hasRoom, Cond.code yX5_hasRoom cX5_hasRoom 1 (some .boolean), Cond.methodLink RX5 98 yX5_isKind, Cond.static yX5_isKind, Cond.code yX5_isKind cX5_isKind 1 (some .boolean), Cond.methodLink RX5 101 yX5_mayBe, Cond.instanceMethod yX5_mayBe, Cond.selects RX5 yX5_mayBe yX5_mayBe, Cond.code yX5_mayBe cX5_mayBe 4 (some .boolean), Cond.methodLink RX5 79 yX5_stands, Cond.instanceMethod yX5_stands, Cond.selects RX5 yX5_stands yX5_stands, Cond.code yX5_stands cX5_stands 2 (some .boolean), Cond.methodLink RX5 59 yX5_has, Cond.instanceMethod yX5_has, Cond.selects RX5 yX5_has yX5_has, Cond.code yX5_has cX5_has 2 (some .boolean)]
def wsX7_seeds_r4 : List Cond := [Cond.methodLink RX5 63 yX5_isIn, Cond.static yX5_isIn, Cond.code yX5_isIn cX5_isIn 2 (some .boolean), Cond.methodLink RX5 82 yX5_isLawful, Cond.instanceMethod yX5_isLawful, Cond.selects RX5 yX5_isLawful yX5_isLawful, Cond.code yX5_isLawful cX5_isLawful 4 (some .boolean), Cond.methodLink RX5 91 yJ6_numberOfLeadingZeros_0f7a4, Cond.static yJ6_numberOfLeadingZeros_0f7a4, Cond.initialized RJ6, Cond.code yJ6_numberOfLeadingZeros_0f7a4 cJ6_numberOfLeadingZeros_0f7a4 2 (some .int), Cond.constant RJ6 264 (65536), Cond.methodLink RX5 85 yX5_lends, Cond.instanceMethod yX5_lends, Cond.selects RX5 yX5_lends yX5_lends, Cond.code yX5_lends cX5_lends 3 (some .boolean), Cond.methodLink RX5 88 yX5_isThere, Cond.instanceMethod yX5_isThere, Cond.selects RX5 yX5_isThere yX5_isThere, Cond.code yX5_isThere cX5_isThere 3 (some .boolean), Cond.methodLink RX5 43 yX5_place, Cond.instanceMethod yX5_place, Cond.selects RX5 yX5_place yX5_place, Cond.code yX5_place cX5_place 6 none]
def wsX7_seeds_r5 : List Cond := [Cond.methodLink RX5 104 yX5_use, Cond.instanceMethod yX5_use, Cond.selects RX5 yX5_use yX5_use, Cond.code yX5_use cX5_use 2 none, Cond.methodLink RX5 111 yX5_fee, Cond.instanceMethod yX5_fee, Cond.selects RX5 yX5_fee yX5_fee, Cond.code yX5_fee cX5_fee 2 (some .int), Cond.methodLink RX5 108 yX5_loseHut, Cond.instanceMethod yX5_loseHut, Cond.selects RX5 yX5_loseHut yX5_loseHut, Cond.code yX5_loseHut cX5_loseHut 2 none, Cond.methodLink RX7 208 yX5_standingCount, Cond.instanceMethod yX5_standingCount, Cond.selects RX5 yX5_standingCount yX5_standingCount, Cond.code yX5_standingCount cX5_standingCount 1 (some .int), Cond.methodLink RX5 67 yJ6_bitCount_0f7a4, Cond.static yJ6_bitCount_0f7a4, Cond.code yJ6_bitCount_0f7a4 cJ6_bitCount_0f7a4 1 (some .int), Cond.constant RJ6 265 (1431655765), Cond.constant RJ6 266 (858993459), Cond.constant RJ6 267 (252645135), Cond.methodLink RX7 211 yX5_greatest, Cond.instanceMethod yX5_greatest]
def wsX7_seeds_r6 : List Cond := [Cond.selects RX5 yX5_greatest yX5_greatest, Cond.code yX5_greatest cX5_greatest 3 (some .int), Cond.methodLink RX5 73 Lib.Math.max.name, Cond.static Lib.Math.max.name, Cond.initialized "java/lang/Math", Cond.code Lib.Math.max.name Lib.Math.max.code 2 (some .int)]
def wsX7_seeds : List Cond := .code yX7_seeds cX7_seeds 5 (some .int) :: ((wsX7_seeds_r1 ++ (wsX7_seeds_r2 ++ (wsX7_seeds_r3 ++ (wsX7_seeds_r4 ++ (wsX7_seeds_r5 ++ wsX7_seeds_r6))))) ++ wsX70 ++ wsX50)
def wsX7_image_r1 : List Cond := [Cond.fieldLink RX7 16 "SumOfTwoThatStand" "kept" "LSumOfTwoThatStand$Street;", Cond.fieldLink RX7 10 "SumOfTwoThatStand" "live" "LSumOfTwoThatStand$Street;", Cond.fieldLink RX7 61 "SumOfTwoThatStand" "isKept" "Z", Cond.methodLink RX7 76 yX5_become, Cond.instanceMethod yX5_become, Cond.selects RX5 yX5_become yX5_become, Cond.initialized RX5, Cond.code yX5_become cX5_become 2 none, Cond.fieldLink RX5 9 "SumOfTwoThatStand$Street" "kinds" "[I", Cond.methodLink RX5 47 arraycopyName, Cond.native arraycopyName, Cond.static arraycopyName, Cond.initialized "java/lang/System", Cond.fieldLink RX5 15 "SumOfTwoThatStand$Street" "figures" "[I", Cond.fieldLink RX5 18 "SumOfTwoThatStand$Street" "numbers" "[I", Cond.fieldLink RX5 21 "SumOfTwoThatStand$Street" "firsts" "[I", Cond.fieldLink RX5 24 "SumOfTwoThatStand$Street" "seconds" "[I", Cond.fieldLink RX5 27 "SumOfTwoThatStand$Street" "uses" "[I", Cond.fieldLink RX5 30 "SumOfTwoThatStand$Street" "earned" "[I", Cond.fieldLink RX5 36 "SumOfTwoThatStand$Street" "came" "I", Cond.fieldLink RX5 40 "SumOfTwoThatStand$Street" "standing" "I", Cond.fieldLink RX5 53 "SumOfTwoThatStand$Street" "sums" "I", Cond.fieldLink RX5 56 "SumOfTwoThatStand$Street" "falls" "I", Cond.methodLink RX7 128 yX5_cameCount]
def wsX7_image_r2 : List Cond := [Cond.instanceMethod yX5_cameCount, Cond.selects RX5 yX5_cameCount yX5_cameCount, Cond.code yX5_cameCount cX5_cameCount 1 (some .int)]
def wsX7_image : List Cond := .code yX7_image cX7_image 1 (some .int) :: ((wsX7_image_r1 ++ wsX7_image_r2) ++ wsX70 ++ wsX50)
def wsX7_restore_r1 : List Cond := [Cond.fieldLink RX7 61 "SumOfTwoThatStand" "isKept" "Z", Cond.fieldLink RX7 10 "SumOfTwoThatStand" "live" "LSumOfTwoThatStand$Street;", Cond.fieldLink RX7 16 "SumOfTwoThatStand" "kept" "LSumOfTwoThatStand$Street;", Cond.methodLink RX7 65 yX7_refuse, Cond.instanceMethod yX7_refuse, Cond.selects RX7 yX7_refuse yX7_refuse, Cond.initialized RX7, Cond.code yX7_refuse cX7_refuse 2 (some .int), Cond.fieldLink RX7 57 "SumOfTwoThatStand" "refusals" "[I", Cond.methodLink RX7 76 yX5_become, Cond.instanceMethod yX5_become, Cond.selects RX5 yX5_become yX5_become, Cond.initialized RX5, Cond.code yX5_become cX5_become 2 none, Cond.fieldLink RX5 9 "SumOfTwoThatStand$Street" "kinds" "[I", Cond.methodLink RX5 47 arraycopyName, Cond.native arraycopyName, Cond.static arraycopyName, Cond.initialized "java/lang/System", Cond.fieldLink RX5 15 "SumOfTwoThatStand$Street" "figures" "[I", Cond.fieldLink RX5 18 "SumOfTwoThatStand$Street" "numbers" "[I", Cond.fieldLink RX5 21 "SumOfTwoThatStand$Street" "firsts" "[I", Cond.fieldLink RX5 24 "SumOfTwoThatStand$Street" "seconds" "[I", Cond.fieldLink RX5 27 "SumOfTwoThatStand$Street" "uses" "[I"]
def wsX7_restore_r2 : List Cond := [Cond.fieldLink RX5 30 "SumOfTwoThatStand$Street" "earned" "[I", Cond.fieldLink RX5 36 "SumOfTwoThatStand$Street" "came" "I", Cond.fieldLink RX5 40 "SumOfTwoThatStand$Street" "standing" "I", Cond.fieldLink RX5 53 "SumOfTwoThatStand$Street" "sums" "I", Cond.fieldLink RX5 56 "SumOfTwoThatStand$Street" "falls" "I", Cond.methodLink RX7 128 yX5_cameCount, Cond.instanceMethod yX5_cameCount, Cond.selects RX5 yX5_cameCount yX5_cameCount, Cond.code yX5_cameCount cX5_cameCount 1 (some .int)]
def wsX7_restore : List Cond := .code yX7_restore cX7_restore 1 (some .int) :: ((wsX7_restore_r1 ++ wsX7_restore_r2) ++ wsX70 ++ wsX50)
def wsX7_count_r1 : List Cond := [Cond.fieldLink RX7 57 "SumOfTwoThatStand" "refusals" "[I", Cond.fieldLink RX7 10 "SumOfTwoThatStand" "live" "LSumOfTwoThatStand$Street;", Cond.fieldLink RX7 25 "SumOfTwoThatStand" "letters" "LSumOfTwoThatStand$Letters;", Cond.fieldLink RX7 32 "SumOfTwoThatStand" "told" "LSumOfTwoThatStand$Row;", Cond.methodLink RX7 128 yX5_cameCount, Cond.instanceMethod yX5_cameCount, Cond.selects RX5 yX5_cameCount yX5_cameCount, Cond.initialized RX5, Cond.code yX5_cameCount cX5_cameCount 1 (some .int), Cond.fieldLink RX5 36 "SumOfTwoThatStand$Street" "came" "I", Cond.methodLink RX7 208 yX5_standingCount, Cond.instanceMethod yX5_standingCount, Cond.selects RX5 yX5_standingCount yX5_standingCount, Cond.code yX5_standingCount cX5_standingCount 1 (some .int), Cond.fieldLink RX5 40 "SumOfTwoThatStand$Street" "standing" "I", Cond.methodLink RX5 67 yJ6_bitCount_0f7a4, Cond.static yJ6_bitCount_0f7a4, Cond.initialized RJ6, Cond.code yJ6_bitCount_0f7a4 cJ6_bitCount_0f7a4 1 (some .int), Cond.constant RJ6 265 (1431655765), Cond.constant RJ6 266 (858993459), Cond.constant RJ6 267 (252645135), Cond.methodLink RX7 211 yX5_greatest, Cond.instanceMethod yX5_greatest]
def wsX7_count_r2 : List Cond := [Cond.selects RX5 yX5_greatest yX5_greatest, Cond.code yX5_greatest cX5_greatest 3 (some .int), Cond.fieldLink RX5 18 "SumOfTwoThatStand$Street" "numbers" "[I", Cond.methodLink RX5 73 Lib.Math.max.name, Cond.static Lib.Math.max.name, Cond.initialized "java/lang/Math", Cond.code Lib.Math.max.name Lib.Math.max.code 2 (some .int), Cond.methodLink RX5 63 yX5_isIn, Cond.static yX5_isIn, Cond.code yX5_isIn cX5_isIn 2 (some .boolean), Cond.methodLink RX7 102 yX5_sumsLaw, Cond.instanceMethod yX5_sumsLaw, Cond.selects RX5 yX5_sumsLaw yX5_sumsLaw, Cond.code yX5_sumsLaw cX5_sumsLaw 1 (some .int), Cond.fieldLink RX5 53 "SumOfTwoThatStand$Street" "sums" "I", Cond.methodLink RX7 105 yX5_fallsLaw, Cond.instanceMethod yX5_fallsLaw, Cond.selects RX5 yX5_fallsLaw yX5_fallsLaw, Cond.code yX5_fallsLaw cX5_fallsLaw 1 (some .int), Cond.fieldLink RX5 56 "SumOfTwoThatStand$Street" "falls" "I", Cond.methodLink RX7 214 yX5_allEarned, Cond.instanceMethod yX5_allEarned, Cond.selects RX5 yX5_allEarned yX5_allEarned, Cond.code yX5_allEarned cX5_allEarned 3 (some .int)]
def wsX7_count_r3 : List Cond := [Cond.fieldLink RX5 30 "SumOfTwoThatStand$Street" "earned" "[I", Cond.methodLink RX7 217 ⟨"SumOfTwoThatStand$Letters", "howMany", "()I"⟩, Cond.sameMethod "SumOfTwoThatStand$Letters" "SumOfTwoThatStand$Told" "howMany" "()I", Cond.selects RX2 ⟨"SumOfTwoThatStand$Letters", "howMany", "()I"⟩ yX6_howMany, Cond.instanceMethod yX6_howMany, Cond.initialized RX6, Cond.code yX6_howMany cX6_howMany 1 (some .int), Cond.fieldLink RX6 19 "SumOfTwoThatStand$Told" "length" "I", Cond.methodLink RX7 220 ⟨"SumOfTwoThatStand$Row", "howMany", "()I"⟩, Cond.sameMethod "SumOfTwoThatStand$Row" "SumOfTwoThatStand$Told" "howMany" "()I", Cond.selects RX4 ⟨"SumOfTwoThatStand$Row", "howMany", "()I"⟩ yX6_howMany]
def wsX7_count : List Cond := .code yX7_count cX7_count 2 (some .int) :: ((wsX7_count_r1 ++ (wsX7_count_r2 ++ wsX7_count_r3)) ++ wsX70 ++ wsX50 ++ wsX20 ++ wsX40)
def wsX8_isMore : List Cond := .code yX8_isMore cX8_isMore 6 none :: ([.fieldLink RX8 13 "SumOfTwoThatStandModel" "number" "[I", .fieldLink RX8 70 "SumOfTwoThatStandModel" "houses" "I", .fieldLink RX8 16 "SumOfTwoThatStandModel" "kind" "[I", .fieldLink RX8 19 "SumOfTwoThatStandModel" "figure" "[I", .fieldLink RX8 22 "SumOfTwoThatStandModel" "one" "[I", .fieldLink RX8 25 "SumOfTwoThatStandModel" "other" "[I", .fieldLink RX8 28 "SumOfTwoThatStandModel" "stands" "[I", .fieldLink RX8 31 "SumOfTwoThatStandModel" "uses" "[I", .fieldLink RX8 34 "SumOfTwoThatStandModel" "earned" "[I"] ++ wsX80)
def wsX8_beginsAnew : List Cond := .code yX8_beginsAnew cX8_beginsAnew 1 none :: ([.fieldLink RX8 70 "SumOfTwoThatStandModel" "houses" "I", .methodLink RX8 74 yX8_isMore, .instanceMethod yX8_isMore, .selects RX8 yX8_isMore yX8_isMore, .initialized RX8, .code yX8_isMore cX8_isMore 6 none, .fieldLink RX8 13 "SumOfTwoThatStandModel" "number" "[I", .fieldLink RX8 16 "SumOfTwoThatStandModel" "kind" "[I", .fieldLink RX8 19 "SumOfTwoThatStandModel" "figure" "[I", .fieldLink RX8 22 "SumOfTwoThatStandModel" "one" "[I", .fieldLink RX8 25 "SumOfTwoThatStandModel" "other" "[I", .fieldLink RX8 28 "SumOfTwoThatStandModel" "stands" "[I", .fieldLink RX8 31 "SumOfTwoThatStandModel" "uses" "[I", .fieldLink RX8 34 "SumOfTwoThatStandModel" "earned" "[I"] ++ wsX80)
def wsX8_init_r1 : List Cond := [Cond.methodLink RX8 1 objectInit, Cond.instanceMethod objectInit, Cond.code objectInit ⟨#[0xb1]⟩ 1 none, Cond.arrayClass .int, Cond.fieldLink RX8 7 "SumOfTwoThatStandModel" "refused" "[I", Cond.fieldLink RX8 13 "SumOfTwoThatStandModel" "number" "[I", Cond.fieldLink RX8 16 "SumOfTwoThatStandModel" "kind" "[I", Cond.fieldLink RX8 19 "SumOfTwoThatStandModel" "figure" "[I", Cond.fieldLink RX8 22 "SumOfTwoThatStandModel" "one" "[I", Cond.fieldLink RX8 25 "SumOfTwoThatStandModel" "other" "[I", Cond.fieldLink RX8 28 "SumOfTwoThatStandModel" "stands" "[I", Cond.fieldLink RX8 31 "SumOfTwoThatStandModel" "uses" "[I", Cond.fieldLink RX8 34 "SumOfTwoThatStandModel" "earned" "[I", Cond.fieldLink RX8 37 "SumOfTwoThatStandModel" "tape" "[I", Cond.fieldLink RX8 40 "SumOfTwoThatStandModel" "sort" "[I", Cond.fieldLink RX8 43 "SumOfTwoThatStandModel" "sortAt" "[I", Cond.fieldLink RX8 46 "SumOfTwoThatStandModel" "told" "[I", Cond.fieldLink RX8 49 "SumOfTwoThatStandModel" "kept" "[I", Cond.fieldLink RX8 52 "SumOfTwoThatStandModel" "tried" "[I", Cond.fieldLink RX8 55 "SumOfTwoThatStandModel" "byFactors" "[I", Cond.fieldLink RX8 58 "SumOfTwoThatStandModel" "ways" "[I", Cond.fieldLink RX8 61 "SumOfTwoThatStandModel" "wins" "[I", Cond.fieldLink RX8 64 "SumOfTwoThatStandModel" "row" "[I", Cond.methodLink RX8 67 yX8_beginsAnew]
def wsX8_init_r2 : List Cond := [Cond.instanceMethod yX8_beginsAnew, Cond.selects RX8 yX8_beginsAnew yX8_beginsAnew, Cond.initialized RX8, Cond.code yX8_beginsAnew cX8_beginsAnew 1 none, Cond.fieldLink RX8 70 "SumOfTwoThatStandModel" "houses" "I", Cond.methodLink RX8 74 yX8_isMore, Cond.instanceMethod yX8_isMore, Cond.selects RX8 yX8_isMore yX8_isMore, Cond.code yX8_isMore cX8_isMore 6 none]
def wsX8_init : List Cond := .code yX8_init cX8_init 1 none :: ((wsX8_init_r1 ++ wsX8_init_r2) ++ wsX80)
def wsX8_no : List Cond := .code yX8_no cX8_no 2 (some .int) :: ([.fieldLink RX8 7 "SumOfTwoThatStandModel" "refused" "[I"] ++ wsX80)
def wsX8_isIn : List Cond := .code yX8_isIn cX8_isIn 3 (some .boolean) :: ([])
def wsX8_bound : List Cond := .code yX8_bound cX8_bound 3 (some .int) :: ([])
def wsX8_has : List Cond := .code yX8_has cX8_has 2 (some .boolean) :: ([])
def wsX8_bits : List Cond := .code yX8_bits cX8_bits 3 (some .int) :: ([])
def wsX8_isHouse : List Cond := .code yX8_isHouse cX8_isHouse 2 (some .boolean) :: ([.fieldLink RX8 70 "SumOfTwoThatStandModel" "houses" "I", .methodLink RX8 78 yX8_isIn, .static yX8_isIn, .initialized RX8, .code yX8_isIn cX8_isIn 3 (some .boolean)] ++ wsX80)
def wsX8_doesStand : List Cond := .code yX8_doesStand cX8_doesStand 2 (some .boolean) :: ([.fieldLink RX8 28 "SumOfTwoThatStandModel" "stands" "[I", .methodLink RX8 82 yX8_isHouse, .instanceMethod yX8_isHouse, .selects RX8 yX8_isHouse yX8_isHouse, .initialized RX8, .code yX8_isHouse cX8_isHouse 2 (some .boolean), .fieldLink RX8 70 "SumOfTwoThatStandModel" "houses" "I", .methodLink RX8 78 yX8_isIn, .static yX8_isIn, .code yX8_isIn cX8_isIn 3 (some .boolean)] ++ wsX80)
def wsX8_standing : List Cond := .code yX8_standing cX8_standing 3 (some .int) :: ([.fieldLink RX8 70 "SumOfTwoThatStandModel" "houses" "I", .fieldLink RX8 28 "SumOfTwoThatStandModel" "stands" "[I"] ++ wsX80)
def wsX8_lends : List Cond := .code yX8_lends cX8_lends 3 (some .boolean) :: ([.fieldLink RX8 16 "SumOfTwoThatStandModel" "kind" "[I", .fieldLink RX8 31 "SumOfTwoThatStandModel" "uses" "[I"] ++ wsX80)
def wsX8_fee : List Cond := .code yX8_fee cX8_fee 2 (some .int) :: ([.fieldLink RX8 16 "SumOfTwoThatStandModel" "kind" "[I", .fieldLink RX8 19 "SumOfTwoThatStandModel" "figure" "[I"] ++ wsX80)
def wsX8_isThere : List Cond := .code yX8_isThere cX8_isThere 3 (some .boolean) :: ([.fieldLink RX8 70 "SumOfTwoThatStandModel" "houses" "I", .fieldLink RX8 28 "SumOfTwoThatStandModel" "stands" "[I", .fieldLink RX8 13 "SumOfTwoThatStandModel" "number" "[I"] ++ wsX80)
def wsX8_latest : List Cond := .code yX8_latest cX8_latest 3 (some .int) :: ([.fieldLink RX8 70 "SumOfTwoThatStandModel" "houses" "I", .fieldLink RX8 28 "SumOfTwoThatStandModel" "stands" "[I"] ++ wsX80)
def wsX8_isLawful : List Cond := .code yX8_isLawful cX8_isLawful 3 (some .boolean) :: ([.fieldLink RX8 86 "SumOfTwoThatStandModel" "sums" "I", .methodLink RX8 89 yX8_latest, .instanceMethod yX8_latest, .selects RX8 yX8_latest yX8_latest, .initialized RX8, .code yX8_latest cX8_latest 3 (some .int), .fieldLink RX8 70 "SumOfTwoThatStandModel" "houses" "I", .fieldLink RX8 28 "SumOfTwoThatStandModel" "stands" "[I"] ++ wsX80)
def wsX8_mayBe : List Cond := .code yX8_mayBe cX8_mayBe 4 (some .boolean) :: ([.fieldLink RX8 13 "SumOfTwoThatStandModel" "number" "[I", .methodLink RX8 93 yX8_lends, .instanceMethod yX8_lends, .selects RX8 yX8_lends yX8_lends, .initialized RX8, .code yX8_lends cX8_lends 3 (some .boolean), .fieldLink RX8 16 "SumOfTwoThatStandModel" "kind" "[I", .fieldLink RX8 31 "SumOfTwoThatStandModel" "uses" "[I", .methodLink RX8 97 yX8_isThere, .instanceMethod yX8_isThere, .selects RX8 yX8_isThere yX8_isThere, .code yX8_isThere cX8_isThere 3 (some .boolean), .fieldLink RX8 70 "SumOfTwoThatStandModel" "houses" "I", .fieldLink RX8 28 "SumOfTwoThatStandModel" "stands" "[I", .methodLink RX8 100 yX8_isLawful, .instanceMethod yX8_isLawful, .selects RX8 yX8_isLawful yX8_isLawful, .code yX8_isLawful cX8_isLawful 3 (some .boolean), .fieldLink RX8 86 "SumOfTwoThatStandModel" "sums" "I", .methodLink RX8 89 yX8_latest, .instanceMethod yX8_latest, .selects RX8 yX8_latest yX8_latest, .code yX8_latest cX8_latest 3 (some .int)] ++ wsX80)
def wsX8_isUsed : List Cond := .code yX8_isUsed cX8_isUsed 2 none :: ([.fieldLink RX8 31 "SumOfTwoThatStandModel" "uses" "[I", .fieldLink RX8 34 "SumOfTwoThatStandModel" "earned" "[I", .fieldLink RX8 16 "SumOfTwoThatStandModel" "kind" "[I", .fieldLink RX8 28 "SumOfTwoThatStandModel" "stands" "[I", .methodLink RX8 103 yX8_fee, .instanceMethod yX8_fee, .selects RX8 yX8_fee yX8_fee, .initialized RX8, .code yX8_fee cX8_fee 2 (some .int), .fieldLink RX8 19 "SumOfTwoThatStandModel" "figure" "[I"] ++ wsX80)
def wsX8_builds : List Cond := .code yX8_builds cX8_builds 6 none :: ([.fieldLink RX8 13 "SumOfTwoThatStandModel" "number" "[I", .methodLink RX8 107 yX8_isUsed, .instanceMethod yX8_isUsed, .selects RX8 yX8_isUsed yX8_isUsed, .initialized RX8, .code yX8_isUsed cX8_isUsed 2 none, .fieldLink RX8 31 "SumOfTwoThatStandModel" "uses" "[I", .fieldLink RX8 34 "SumOfTwoThatStandModel" "earned" "[I", .fieldLink RX8 16 "SumOfTwoThatStandModel" "kind" "[I", .fieldLink RX8 28 "SumOfTwoThatStandModel" "stands" "[I", .methodLink RX8 103 yX8_fee, .instanceMethod yX8_fee, .selects RX8 yX8_fee yX8_fee, .code yX8_fee cX8_fee 2 (some .int), .fieldLink RX8 19 "SumOfTwoThatStandModel" "figure" "[I", .methodLink RX8 74 yX8_isMore, .instanceMethod yX8_isMore, .selects RX8 yX8_isMore yX8_isMore, .code yX8_isMore cX8_isMore 6 none, .fieldLink RX8 70 "SumOfTwoThatStandModel" "houses" "I", .fieldLink RX8 22 "SumOfTwoThatStandModel" "one" "[I", .fieldLink RX8 25 "SumOfTwoThatStandModel" "other" "[I"] ++ wsX80)
def wsX8_hasFallen : List Cond := .code yX8_hasFallen cX8_hasFallen 2 (some .boolean) :: ([.fieldLink RX8 28 "SumOfTwoThatStandModel" "stands" "[I"] ++ wsX80)
def wsX8_fallsWith : List Cond := .code yX8_fallsWith cX8_fallsWith 2 (some .boolean) :: ([.fieldLink RX8 28 "SumOfTwoThatStandModel" "stands" "[I", .fieldLink RX8 111 "SumOfTwoThatStandModel" "falls" "I", .fieldLink RX8 16 "SumOfTwoThatStandModel" "kind" "[I", .fieldLink RX8 22 "SumOfTwoThatStandModel" "one" "[I", .fieldLink RX8 25 "SumOfTwoThatStandModel" "other" "[I", .methodLink RX8 114 yX8_hasFallen, .instanceMethod yX8_hasFallen, .selects RX8 yX8_hasFallen yX8_hasFallen, .initialized RX8, .code yX8_hasFallen cX8_hasFallen 2 (some .boolean)] ++ wsX80)
def wsX8_burns : List Cond := .code yX8_burns cX8_burns 4 none :: ([.fieldLink RX8 28 "SumOfTwoThatStandModel" "stands" "[I", .fieldLink RX8 70 "SumOfTwoThatStandModel" "houses" "I", .methodLink RX8 117 yX8_fallsWith, .instanceMethod yX8_fallsWith, .selects RX8 yX8_fallsWith yX8_fallsWith, .initialized RX8, .code yX8_fallsWith cX8_fallsWith 2 (some .boolean), .fieldLink RX8 111 "SumOfTwoThatStandModel" "falls" "I", .fieldLink RX8 16 "SumOfTwoThatStandModel" "kind" "[I", .fieldLink RX8 22 "SumOfTwoThatStandModel" "one" "[I", .fieldLink RX8 25 "SumOfTwoThatStandModel" "other" "[I", .methodLink RX8 114 yX8_hasFallen, .instanceMethod yX8_hasFallen, .selects RX8 yX8_hasFallen yX8_hasFallen, .code yX8_hasFallen cX8_hasFallen 2 (some .boolean)] ++ wsX80)
def wsX8_feed : List Cond := .code yX8_feed cX8_feed 3 (some .int) :: ([.fieldLink RX8 124 "SumOfTwoThatStandModel" "taped" "I", .fieldLink RX8 37 "SumOfTwoThatStandModel" "tape" "[I", .methodLink RX8 120 yX8_bound, .static yX8_bound, .initialized RX8, .code yX8_bound cX8_bound 3 (some .int), .methodLink RX8 127 yX8_no, .instanceMethod yX8_no, .selects RX8 yX8_no yX8_no, .code yX8_no cX8_no 2 (some .int), .fieldLink RX8 7 "SumOfTwoThatStandModel" "refused" "[I"] ++ wsX80)
def wsX8_sign : List Cond := .code yX8_sign cX8_sign 1 (some .int) :: ([.fieldLink RX8 130 "SumOfTwoThatStandModel" "reading" "I", .fieldLink RX8 124 "SumOfTwoThatStandModel" "taped" "I", .fieldLink RX8 37 "SumOfTwoThatStandModel" "tape" "[I"] ++ wsX80)
def wsX8_reads : List Cond := .code yX8_reads cX8_reads 2 (some .boolean) :: ([.fieldLink RX8 130 "SumOfTwoThatStandModel" "reading" "I", .methodLink RX8 133 yX8_sign, .instanceMethod yX8_sign, .selects RX8 yX8_sign yX8_sign, .initialized RX8, .code yX8_sign cX8_sign 1 (some .int), .fieldLink RX8 124 "SumOfTwoThatStandModel" "taped" "I", .fieldLink RX8 37 "SumOfTwoThatStandModel" "tape" "[I"] ++ wsX80)
def wsX8_readsNumber : List Cond := .code yX8_readsNumber cX8_readsNumber 4 (some .boolean) :: ([.fieldLink RX8 130 "SumOfTwoThatStandModel" "reading" "I", .fieldLink RX8 46 "SumOfTwoThatStandModel" "told" "[I", .fieldLink RX8 136 "SumOfTwoThatStandModel" "telling" "I", .methodLink RX8 133 yX8_sign, .instanceMethod yX8_sign, .selects RX8 yX8_sign yX8_sign, .initialized RX8, .code yX8_sign cX8_sign 1 (some .int), .fieldLink RX8 124 "SumOfTwoThatStandModel" "taped" "I", .fieldLink RX8 37 "SumOfTwoThatStandModel" "tape" "[I", .methodLink RX8 78 yX8_isIn, .static yX8_isIn, .code yX8_isIn cX8_isIn 3 (some .boolean)] ++ wsX80)
def wsX8_readsAll : List Cond := .code yX8_readsAll cX8_readsAll 2 (some .boolean) :: ([.methodLink RX8 139 yX8_readsNumber, .instanceMethod yX8_readsNumber, .selects RX8 yX8_readsNumber yX8_readsNumber, .initialized RX8, .code yX8_readsNumber cX8_readsNumber 4 (some .boolean), .fieldLink RX8 130 "SumOfTwoThatStandModel" "reading" "I", .fieldLink RX8 46 "SumOfTwoThatStandModel" "told" "[I", .fieldLink RX8 136 "SumOfTwoThatStandModel" "telling" "I", .methodLink RX8 133 yX8_sign, .instanceMethod yX8_sign, .selects RX8 yX8_sign yX8_sign, .code yX8_sign cX8_sign 1 (some .int), .fieldLink RX8 124 "SumOfTwoThatStandModel" "taped" "I", .fieldLink RX8 37 "SumOfTwoThatStandModel" "tape" "[I", .methodLink RX8 78 yX8_isIn, .static yX8_isIn, .code yX8_isIn cX8_isIn 3 (some .boolean), .methodLink RX8 142 yX8_reads, .instanceMethod yX8_reads, .selects RX8 yX8_reads yX8_reads, .code yX8_reads cX8_reads 2 (some .boolean)] ++ wsX80)
def wsX8_statement_r1 : List Cond := [Cond.fieldLink RX8 40 "SumOfTwoThatStandModel" "sort" "[I", Cond.fieldLink RX8 145 "SumOfTwoThatStandModel" "statements" "I", Cond.fieldLink RX8 43 "SumOfTwoThatStandModel" "sortAt" "[I", Cond.fieldLink RX8 130 "SumOfTwoThatStandModel" "reading" "I", Cond.fieldLink RX8 136 "SumOfTwoThatStandModel" "telling" "I", Cond.methodLink RX8 133 yX8_sign, Cond.instanceMethod yX8_sign, Cond.selects RX8 yX8_sign yX8_sign, Cond.initialized RX8, Cond.code yX8_sign cX8_sign 1 (some .int), Cond.fieldLink RX8 124 "SumOfTwoThatStandModel" "taped" "I", Cond.fieldLink RX8 37 "SumOfTwoThatStandModel" "tape" "[I", Cond.methodLink RX8 148 yX8_readsAll, Cond.instanceMethod yX8_readsAll, Cond.selects RX8 yX8_readsAll yX8_readsAll, Cond.code yX8_readsAll cX8_readsAll 2 (some .boolean), Cond.methodLink RX8 139 yX8_readsNumber, Cond.instanceMethod yX8_readsNumber, Cond.selects RX8 yX8_readsNumber yX8_readsNumber, Cond.code yX8_readsNumber cX8_readsNumber 4 (some .boolean), Cond.fieldLink RX8 46 "SumOfTwoThatStandModel" "told" "[I", Cond.methodLink RX8 78 yX8_isIn, Cond.static yX8_isIn, Cond.code yX8_isIn cX8_isIn 3 (some .boolean)]
def wsX8_statement_r2 : List Cond := [Cond.methodLink RX8 142 yX8_reads, Cond.instanceMethod yX8_reads, Cond.selects RX8 yX8_reads yX8_reads, Cond.code yX8_reads cX8_reads 2 (some .boolean)]
def wsX8_statement : List Cond := .code yX8_statement cX8_statement 2 (some .boolean) :: ((wsX8_statement_r1 ++ wsX8_statement_r2) ++ wsX80)
def wsX8_comesNew_r1 : List Cond := [Cond.fieldLink RX8 46 "SumOfTwoThatStandModel" "told" "[I", Cond.fieldLink RX8 70 "SumOfTwoThatStandModel" "houses" "I", Cond.methodLink RX8 151 yX8_doesStand, Cond.instanceMethod yX8_doesStand, Cond.selects RX8 yX8_doesStand yX8_doesStand, Cond.initialized RX8, Cond.code yX8_doesStand cX8_doesStand 2 (some .boolean), Cond.fieldLink RX8 28 "SumOfTwoThatStandModel" "stands" "[I", Cond.methodLink RX8 82 yX8_isHouse, Cond.instanceMethod yX8_isHouse, Cond.selects RX8 yX8_isHouse yX8_isHouse, Cond.code yX8_isHouse cX8_isHouse 2 (some .boolean), Cond.methodLink RX8 78 yX8_isIn, Cond.static yX8_isIn, Cond.code yX8_isIn cX8_isIn 3 (some .boolean), Cond.methodLink RX8 154 yX8_mayBe, Cond.instanceMethod yX8_mayBe, Cond.selects RX8 yX8_mayBe yX8_mayBe, Cond.code yX8_mayBe cX8_mayBe 4 (some .boolean), Cond.fieldLink RX8 13 "SumOfTwoThatStandModel" "number" "[I", Cond.methodLink RX8 93 yX8_lends, Cond.instanceMethod yX8_lends, Cond.selects RX8 yX8_lends yX8_lends, Cond.code yX8_lends cX8_lends 3 (some .boolean)]
def wsX8_comesNew_r2 : List Cond := [Cond.fieldLink RX8 16 "SumOfTwoThatStandModel" "kind" "[I", Cond.fieldLink RX8 31 "SumOfTwoThatStandModel" "uses" "[I", Cond.methodLink RX8 97 yX8_isThere, Cond.instanceMethod yX8_isThere, Cond.selects RX8 yX8_isThere yX8_isThere, Cond.code yX8_isThere cX8_isThere 3 (some .boolean), Cond.methodLink RX8 100 yX8_isLawful, Cond.instanceMethod yX8_isLawful, Cond.selects RX8 yX8_isLawful yX8_isLawful, Cond.code yX8_isLawful cX8_isLawful 3 (some .boolean), Cond.fieldLink RX8 86 "SumOfTwoThatStandModel" "sums" "I", Cond.methodLink RX8 89 yX8_latest, Cond.instanceMethod yX8_latest, Cond.selects RX8 yX8_latest yX8_latest, Cond.code yX8_latest cX8_latest 3 (some .int), Cond.methodLink RX8 157 yX8_builds, Cond.instanceMethod yX8_builds, Cond.selects RX8 yX8_builds yX8_builds, Cond.code yX8_builds cX8_builds 6 none, Cond.methodLink RX8 107 yX8_isUsed, Cond.instanceMethod yX8_isUsed, Cond.selects RX8 yX8_isUsed yX8_isUsed, Cond.code yX8_isUsed cX8_isUsed 2 none, Cond.fieldLink RX8 34 "SumOfTwoThatStandModel" "earned" "[I"]
def wsX8_comesNew_r3 : List Cond := [Cond.methodLink RX8 103 yX8_fee, Cond.instanceMethod yX8_fee, Cond.selects RX8 yX8_fee yX8_fee, Cond.code yX8_fee cX8_fee 2 (some .int), Cond.fieldLink RX8 19 "SumOfTwoThatStandModel" "figure" "[I", Cond.methodLink RX8 74 yX8_isMore, Cond.instanceMethod yX8_isMore, Cond.selects RX8 yX8_isMore yX8_isMore, Cond.code yX8_isMore cX8_isMore 6 none, Cond.fieldLink RX8 22 "SumOfTwoThatStandModel" "one" "[I", Cond.fieldLink RX8 25 "SumOfTwoThatStandModel" "other" "[I"]
def wsX8_comesNew : List Cond := .code yX8_comesNew cX8_comesNew 4 (some .boolean) :: ((wsX8_comesNew_r1 ++ (wsX8_comesNew_r2 ++ wsX8_comesNew_r3)) ++ wsX80)
def wsX8_comesFire_r1 : List Cond := [Cond.methodLink RX8 151 yX8_doesStand, Cond.instanceMethod yX8_doesStand, Cond.selects RX8 yX8_doesStand yX8_doesStand, Cond.initialized RX8, Cond.code yX8_doesStand cX8_doesStand 2 (some .boolean), Cond.fieldLink RX8 28 "SumOfTwoThatStandModel" "stands" "[I", Cond.methodLink RX8 82 yX8_isHouse, Cond.instanceMethod yX8_isHouse, Cond.selects RX8 yX8_isHouse yX8_isHouse, Cond.code yX8_isHouse cX8_isHouse 2 (some .boolean), Cond.fieldLink RX8 70 "SumOfTwoThatStandModel" "houses" "I", Cond.methodLink RX8 78 yX8_isIn, Cond.static yX8_isIn, Cond.code yX8_isIn cX8_isIn 3 (some .boolean), Cond.methodLink RX8 161 yX8_burns, Cond.instanceMethod yX8_burns, Cond.selects RX8 yX8_burns yX8_burns, Cond.code yX8_burns cX8_burns 4 none, Cond.methodLink RX8 117 yX8_fallsWith, Cond.instanceMethod yX8_fallsWith, Cond.selects RX8 yX8_fallsWith yX8_fallsWith, Cond.code yX8_fallsWith cX8_fallsWith 2 (some .boolean), Cond.fieldLink RX8 111 "SumOfTwoThatStandModel" "falls" "I", Cond.fieldLink RX8 16 "SumOfTwoThatStandModel" "kind" "[I"]
def wsX8_comesFire_r2 : List Cond := [Cond.fieldLink RX8 22 "SumOfTwoThatStandModel" "one" "[I", Cond.fieldLink RX8 25 "SumOfTwoThatStandModel" "other" "[I", Cond.methodLink RX8 114 yX8_hasFallen, Cond.instanceMethod yX8_hasFallen, Cond.selects RX8 yX8_hasFallen yX8_hasFallen, Cond.code yX8_hasFallen cX8_hasFallen 2 (some .boolean)]
def wsX8_comesFire : List Cond := .code yX8_comesFire cX8_comesFire 2 (some .boolean) :: ((wsX8_comesFire_r1 ++ wsX8_comesFire_r2) ++ wsX80)
def wsX8_comesLaw : List Cond := .code yX8_comesLaw cX8_comesLaw 3 (some .boolean) :: ([.fieldLink RX8 86 "SumOfTwoThatStandModel" "sums" "I", .fieldLink RX8 111 "SumOfTwoThatStandModel" "falls" "I"] ++ wsX80)
def wsX8_comesTold_r1 : List Cond := [Cond.fieldLink RX8 40 "SumOfTwoThatStandModel" "sort" "[I", Cond.fieldLink RX8 46 "SumOfTwoThatStandModel" "told" "[I", Cond.methodLink RX8 164 yX8_comesNew, Cond.instanceMethod yX8_comesNew, Cond.selects RX8 yX8_comesNew yX8_comesNew, Cond.initialized RX8, Cond.code yX8_comesNew cX8_comesNew 4 (some .boolean), Cond.fieldLink RX8 70 "SumOfTwoThatStandModel" "houses" "I", Cond.methodLink RX8 151 yX8_doesStand, Cond.instanceMethod yX8_doesStand, Cond.selects RX8 yX8_doesStand yX8_doesStand, Cond.code yX8_doesStand cX8_doesStand 2 (some .boolean), Cond.fieldLink RX8 28 "SumOfTwoThatStandModel" "stands" "[I", Cond.methodLink RX8 82 yX8_isHouse, Cond.instanceMethod yX8_isHouse, Cond.selects RX8 yX8_isHouse yX8_isHouse, Cond.code yX8_isHouse cX8_isHouse 2 (some .boolean), Cond.methodLink RX8 78 yX8_isIn, Cond.static yX8_isIn, Cond.code yX8_isIn cX8_isIn 3 (some .boolean), Cond.methodLink RX8 154 yX8_mayBe, Cond.instanceMethod yX8_mayBe, Cond.selects RX8 yX8_mayBe yX8_mayBe, Cond.code yX8_mayBe cX8_mayBe 4 (some .boolean)]
def wsX8_comesTold_r2 : List Cond := [Cond.fieldLink RX8 13 "SumOfTwoThatStandModel" "number" "[I", Cond.methodLink RX8 93 yX8_lends, Cond.instanceMethod yX8_lends, Cond.selects RX8 yX8_lends yX8_lends, Cond.code yX8_lends cX8_lends 3 (some .boolean), Cond.fieldLink RX8 16 "SumOfTwoThatStandModel" "kind" "[I", Cond.fieldLink RX8 31 "SumOfTwoThatStandModel" "uses" "[I", Cond.methodLink RX8 97 yX8_isThere, Cond.instanceMethod yX8_isThere, Cond.selects RX8 yX8_isThere yX8_isThere, Cond.code yX8_isThere cX8_isThere 3 (some .boolean), Cond.methodLink RX8 100 yX8_isLawful, Cond.instanceMethod yX8_isLawful, Cond.selects RX8 yX8_isLawful yX8_isLawful, Cond.code yX8_isLawful cX8_isLawful 3 (some .boolean), Cond.fieldLink RX8 86 "SumOfTwoThatStandModel" "sums" "I", Cond.methodLink RX8 89 yX8_latest, Cond.instanceMethod yX8_latest, Cond.selects RX8 yX8_latest yX8_latest, Cond.code yX8_latest cX8_latest 3 (some .int), Cond.methodLink RX8 157 yX8_builds, Cond.instanceMethod yX8_builds, Cond.selects RX8 yX8_builds yX8_builds, Cond.code yX8_builds cX8_builds 6 none]
def wsX8_comesTold_r3 : List Cond := [Cond.methodLink RX8 107 yX8_isUsed, Cond.instanceMethod yX8_isUsed, Cond.selects RX8 yX8_isUsed yX8_isUsed, Cond.code yX8_isUsed cX8_isUsed 2 none, Cond.fieldLink RX8 34 "SumOfTwoThatStandModel" "earned" "[I", Cond.methodLink RX8 103 yX8_fee, Cond.instanceMethod yX8_fee, Cond.selects RX8 yX8_fee yX8_fee, Cond.code yX8_fee cX8_fee 2 (some .int), Cond.fieldLink RX8 19 "SumOfTwoThatStandModel" "figure" "[I", Cond.methodLink RX8 74 yX8_isMore, Cond.instanceMethod yX8_isMore, Cond.selects RX8 yX8_isMore yX8_isMore, Cond.code yX8_isMore cX8_isMore 6 none, Cond.fieldLink RX8 22 "SumOfTwoThatStandModel" "one" "[I", Cond.fieldLink RX8 25 "SumOfTwoThatStandModel" "other" "[I", Cond.methodLink RX8 167 yX8_comesFire, Cond.instanceMethod yX8_comesFire, Cond.selects RX8 yX8_comesFire yX8_comesFire, Cond.code yX8_comesFire cX8_comesFire 2 (some .boolean), Cond.methodLink RX8 161 yX8_burns, Cond.instanceMethod yX8_burns, Cond.selects RX8 yX8_burns yX8_burns, Cond.code yX8_burns cX8_burns 4 none]
def wsX8_comesTold_r4 : List Cond := [Cond.methodLink RX8 117 yX8_fallsWith, Cond.instanceMethod yX8_fallsWith, Cond.selects RX8 yX8_fallsWith yX8_fallsWith, Cond.code yX8_fallsWith cX8_fallsWith 2 (some .boolean), Cond.fieldLink RX8 111 "SumOfTwoThatStandModel" "falls" "I", Cond.methodLink RX8 114 yX8_hasFallen, Cond.instanceMethod yX8_hasFallen, Cond.selects RX8 yX8_hasFallen yX8_hasFallen, Cond.code yX8_hasFallen cX8_hasFallen 2 (some .boolean), Cond.methodLink RX8 170 yX8_comesLaw, Cond.instanceMethod yX8_comesLaw, Cond.selects RX8 yX8_comesLaw yX8_comesLaw, Cond.code yX8_comesLaw cX8_comesLaw 3 (some .boolean), Cond.methodLink RX8 67 yX8_beginsAnew, Cond.instanceMethod yX8_beginsAnew, Cond.selects RX8 yX8_beginsAnew yX8_beginsAnew, Cond.code yX8_beginsAnew cX8_beginsAnew 1 none]
def wsX8_comesTold : List Cond := .code yX8_comesTold cX8_comesTold 3 (some .boolean) :: ((wsX8_comesTold_r1 ++ (wsX8_comesTold_r2 ++ (wsX8_comesTold_r3 ++ wsX8_comesTold_r4))) ++ wsX80)
def wsX8_passes : List Cond := .code yX8_passes cX8_passes 3 none :: ([.fieldLink RX8 184 "SumOfTwoThatStandModel" "isKeeping" "Z", .fieldLink RX8 49 "SumOfTwoThatStandModel" "kept" "[I", .fieldLink RX8 188 "SumOfTwoThatStandModel" "cursor" "I"] ++ wsX80)
def wsX8_passOne : List Cond := .code yX8_passOne cX8_passOne 3 (some .int) :: ([.fieldLink RX8 184 "SumOfTwoThatStandModel" "isKeeping" "Z", .fieldLink RX8 49 "SumOfTwoThatStandModel" "kept" "[I", .fieldLink RX8 188 "SumOfTwoThatStandModel" "cursor" "I"] ++ wsX80)
def wsX8_passesAll : List Cond := .code yX8_passesAll cX8_passesAll 3 none :: ([.fieldLink RX8 188 "SumOfTwoThatStandModel" "cursor" "I", .fieldLink RX8 184 "SumOfTwoThatStandModel" "isKeeping" "Z", .fieldLink RX8 13 "SumOfTwoThatStandModel" "number" "[I", .fieldLink RX8 16 "SumOfTwoThatStandModel" "kind" "[I", .fieldLink RX8 19 "SumOfTwoThatStandModel" "figure" "[I", .fieldLink RX8 22 "SumOfTwoThatStandModel" "one" "[I", .fieldLink RX8 25 "SumOfTwoThatStandModel" "other" "[I", .fieldLink RX8 28 "SumOfTwoThatStandModel" "stands" "[I", .fieldLink RX8 31 "SumOfTwoThatStandModel" "uses" "[I", .fieldLink RX8 34 "SumOfTwoThatStandModel" "earned" "[I", .fieldLink RX8 70 "SumOfTwoThatStandModel" "houses" "I", .fieldLink RX8 86 "SumOfTwoThatStandModel" "sums" "I", .fieldLink RX8 111 "SumOfTwoThatStandModel" "falls" "I", .methodLink RX8 191 yX8_passes, .instanceMethod yX8_passes, .selects RX8 yX8_passes yX8_passes, .initialized RX8, .code yX8_passes cX8_passes 3 none, .fieldLink RX8 49 "SumOfTwoThatStandModel" "kept" "[I", .methodLink RX8 195 yX8_passOne, .instanceMethod yX8_passOne, .selects RX8 yX8_passOne yX8_passOne, .code yX8_passOne cX8_passOne 3 (some .int)] ++ wsX80)
def wsX8_street_r1 : List Cond := [Cond.fieldLink RX8 130 "SumOfTwoThatStandModel" "reading" "I", Cond.fieldLink RX8 145 "SumOfTwoThatStandModel" "statements" "I", Cond.fieldLink RX8 124 "SumOfTwoThatStandModel" "taped" "I", Cond.fieldLink RX8 43 "SumOfTwoThatStandModel" "sortAt" "[I", Cond.methodLink RX8 173 yX8_statement, Cond.instanceMethod yX8_statement, Cond.selects RX8 yX8_statement yX8_statement, Cond.initialized RX8, Cond.code yX8_statement cX8_statement 2 (some .boolean), Cond.fieldLink RX8 40 "SumOfTwoThatStandModel" "sort" "[I", Cond.fieldLink RX8 136 "SumOfTwoThatStandModel" "telling" "I", Cond.methodLink RX8 133 yX8_sign, Cond.instanceMethod yX8_sign, Cond.selects RX8 yX8_sign yX8_sign, Cond.code yX8_sign cX8_sign 1 (some .int), Cond.fieldLink RX8 37 "SumOfTwoThatStandModel" "tape" "[I", Cond.methodLink RX8 148 yX8_readsAll, Cond.instanceMethod yX8_readsAll, Cond.selects RX8 yX8_readsAll yX8_readsAll, Cond.code yX8_readsAll cX8_readsAll 2 (some .boolean), Cond.methodLink RX8 139 yX8_readsNumber, Cond.instanceMethod yX8_readsNumber, Cond.selects RX8 yX8_readsNumber yX8_readsNumber, Cond.code yX8_readsNumber cX8_readsNumber 4 (some .boolean)]
def wsX8_street_r2 : List Cond := [Cond.fieldLink RX8 46 "SumOfTwoThatStandModel" "told" "[I", Cond.methodLink RX8 78 yX8_isIn, Cond.static yX8_isIn, Cond.code yX8_isIn cX8_isIn 3 (some .boolean), Cond.methodLink RX8 142 yX8_reads, Cond.instanceMethod yX8_reads, Cond.selects RX8 yX8_reads yX8_reads, Cond.code yX8_reads cX8_reads 2 (some .boolean), Cond.methodLink RX8 177 yX8_passesAll, Cond.instanceMethod yX8_passesAll, Cond.selects RX8 yX8_passesAll yX8_passesAll, Cond.code yX8_passesAll cX8_passesAll 3 none, Cond.fieldLink RX8 188 "SumOfTwoThatStandModel" "cursor" "I", Cond.fieldLink RX8 184 "SumOfTwoThatStandModel" "isKeeping" "Z", Cond.fieldLink RX8 13 "SumOfTwoThatStandModel" "number" "[I", Cond.fieldLink RX8 16 "SumOfTwoThatStandModel" "kind" "[I", Cond.fieldLink RX8 19 "SumOfTwoThatStandModel" "figure" "[I", Cond.fieldLink RX8 22 "SumOfTwoThatStandModel" "one" "[I", Cond.fieldLink RX8 25 "SumOfTwoThatStandModel" "other" "[I", Cond.fieldLink RX8 28 "SumOfTwoThatStandModel" "stands" "[I", Cond.fieldLink RX8 31 "SumOfTwoThatStandModel" "uses" "[I", Cond.fieldLink RX8 34 "SumOfTwoThatStandModel" "earned" "[I", Cond.fieldLink RX8 70 "SumOfTwoThatStandModel" "houses" "I", Cond.fieldLink RX8 86 "SumOfTwoThatStandModel" "sums" "I"]
def wsX8_street_r3 : List Cond := [Cond.fieldLink RX8 111 "SumOfTwoThatStandModel" "falls" "I", Cond.methodLink RX8 191 yX8_passes, Cond.instanceMethod yX8_passes, Cond.selects RX8 yX8_passes yX8_passes, Cond.code yX8_passes cX8_passes 3 none, Cond.fieldLink RX8 49 "SumOfTwoThatStandModel" "kept" "[I", Cond.methodLink RX8 195 yX8_passOne, Cond.instanceMethod yX8_passOne, Cond.selects RX8 yX8_passOne yX8_passOne, Cond.code yX8_passOne cX8_passOne 3 (some .int), Cond.methodLink RX8 181 yX8_comesTold, Cond.instanceMethod yX8_comesTold, Cond.selects RX8 yX8_comesTold yX8_comesTold, Cond.code yX8_comesTold cX8_comesTold 3 (some .boolean), Cond.methodLink RX8 164 yX8_comesNew, Cond.instanceMethod yX8_comesNew, Cond.selects RX8 yX8_comesNew yX8_comesNew, Cond.code yX8_comesNew cX8_comesNew 4 (some .boolean), Cond.methodLink RX8 151 yX8_doesStand, Cond.instanceMethod yX8_doesStand, Cond.selects RX8 yX8_doesStand yX8_doesStand, Cond.code yX8_doesStand cX8_doesStand 2 (some .boolean), Cond.methodLink RX8 82 yX8_isHouse, Cond.instanceMethod yX8_isHouse]
def wsX8_street_r4 : List Cond := [Cond.selects RX8 yX8_isHouse yX8_isHouse, Cond.code yX8_isHouse cX8_isHouse 2 (some .boolean), Cond.methodLink RX8 154 yX8_mayBe, Cond.instanceMethod yX8_mayBe, Cond.selects RX8 yX8_mayBe yX8_mayBe, Cond.code yX8_mayBe cX8_mayBe 4 (some .boolean), Cond.methodLink RX8 93 yX8_lends, Cond.instanceMethod yX8_lends, Cond.selects RX8 yX8_lends yX8_lends, Cond.code yX8_lends cX8_lends 3 (some .boolean), Cond.methodLink RX8 97 yX8_isThere, Cond.instanceMethod yX8_isThere, Cond.selects RX8 yX8_isThere yX8_isThere, Cond.code yX8_isThere cX8_isThere 3 (some .boolean), Cond.methodLink RX8 100 yX8_isLawful, Cond.instanceMethod yX8_isLawful, Cond.selects RX8 yX8_isLawful yX8_isLawful, Cond.code yX8_isLawful cX8_isLawful 3 (some .boolean), Cond.methodLink RX8 89 yX8_latest, Cond.instanceMethod yX8_latest, Cond.selects RX8 yX8_latest yX8_latest, Cond.code yX8_latest cX8_latest 3 (some .int), Cond.methodLink RX8 157 yX8_builds, Cond.instanceMethod yX8_builds]
def wsX8_street_r5 : List Cond := [Cond.selects RX8 yX8_builds yX8_builds, Cond.code yX8_builds cX8_builds 6 none, Cond.methodLink RX8 107 yX8_isUsed, Cond.instanceMethod yX8_isUsed, Cond.selects RX8 yX8_isUsed yX8_isUsed, Cond.code yX8_isUsed cX8_isUsed 2 none, Cond.methodLink RX8 103 yX8_fee, Cond.instanceMethod yX8_fee, Cond.selects RX8 yX8_fee yX8_fee, Cond.code yX8_fee cX8_fee 2 (some .int), Cond.methodLink RX8 74 yX8_isMore, Cond.instanceMethod yX8_isMore, Cond.selects RX8 yX8_isMore yX8_isMore, Cond.code yX8_isMore cX8_isMore 6 none, Cond.methodLink RX8 167 yX8_comesFire, Cond.instanceMethod yX8_comesFire, Cond.selects RX8 yX8_comesFire yX8_comesFire, Cond.code yX8_comesFire cX8_comesFire 2 (some .boolean), Cond.methodLink RX8 161 yX8_burns, Cond.instanceMethod yX8_burns, Cond.selects RX8 yX8_burns yX8_burns, Cond.code yX8_burns cX8_burns 4 none, Cond.methodLink RX8 117 yX8_fallsWith, Cond.instanceMethod yX8_fallsWith]
def wsX8_street_r6 : List Cond := [Cond.selects RX8 yX8_fallsWith yX8_fallsWith, Cond.code yX8_fallsWith cX8_fallsWith 2 (some .boolean), Cond.methodLink RX8 114 yX8_hasFallen, Cond.instanceMethod yX8_hasFallen, Cond.selects RX8 yX8_hasFallen yX8_hasFallen, Cond.code yX8_hasFallen cX8_hasFallen 2 (some .boolean), Cond.methodLink RX8 170 yX8_comesLaw, Cond.instanceMethod yX8_comesLaw, Cond.selects RX8 yX8_comesLaw yX8_comesLaw, Cond.code yX8_comesLaw cX8_comesLaw 3 (some .boolean), Cond.methodLink RX8 67 yX8_beginsAnew, Cond.instanceMethod yX8_beginsAnew, Cond.selects RX8 yX8_beginsAnew yX8_beginsAnew, Cond.code yX8_beginsAnew cX8_beginsAnew 1 none]
def wsX8_street : List Cond := .code yX8_street cX8_street 3 (some .int) :: ((wsX8_street_r1 ++ (wsX8_street_r2 ++ (wsX8_street_r3 ++ (wsX8_street_r4 ++ (wsX8_street_r5 ++ wsX8_street_r6))))) ++ wsX80)
def wsX8_image_r1 : List Cond := [Cond.fieldLink RX8 198 "SumOfTwoThatStandModel" "hasImage" "Z", Cond.fieldLink RX8 70 "SumOfTwoThatStandModel" "houses" "I", Cond.methodLink RX8 177 yX8_passesAll, Cond.instanceMethod yX8_passesAll, Cond.selects RX8 yX8_passesAll yX8_passesAll, Cond.initialized RX8, Cond.code yX8_passesAll cX8_passesAll 3 none, Cond.fieldLink RX8 188 "SumOfTwoThatStandModel" "cursor" "I", Cond.fieldLink RX8 184 "SumOfTwoThatStandModel" "isKeeping" "Z", Cond.fieldLink RX8 13 "SumOfTwoThatStandModel" "number" "[I", Cond.fieldLink RX8 16 "SumOfTwoThatStandModel" "kind" "[I", Cond.fieldLink RX8 19 "SumOfTwoThatStandModel" "figure" "[I", Cond.fieldLink RX8 22 "SumOfTwoThatStandModel" "one" "[I", Cond.fieldLink RX8 25 "SumOfTwoThatStandModel" "other" "[I", Cond.fieldLink RX8 28 "SumOfTwoThatStandModel" "stands" "[I", Cond.fieldLink RX8 31 "SumOfTwoThatStandModel" "uses" "[I", Cond.fieldLink RX8 34 "SumOfTwoThatStandModel" "earned" "[I", Cond.fieldLink RX8 86 "SumOfTwoThatStandModel" "sums" "I", Cond.fieldLink RX8 111 "SumOfTwoThatStandModel" "falls" "I", Cond.methodLink RX8 191 yX8_passes, Cond.instanceMethod yX8_passes, Cond.selects RX8 yX8_passes yX8_passes, Cond.code yX8_passes cX8_passes 3 none, Cond.fieldLink RX8 49 "SumOfTwoThatStandModel" "kept" "[I"]
def wsX8_image_r2 : List Cond := [Cond.methodLink RX8 195 yX8_passOne, Cond.instanceMethod yX8_passOne, Cond.selects RX8 yX8_passOne yX8_passOne, Cond.code yX8_passOne cX8_passOne 3 (some .int)]
def wsX8_image : List Cond := .code yX8_image cX8_image 1 (some .int) :: ((wsX8_image_r1 ++ wsX8_image_r2) ++ wsX80)
def wsX8_restore_r1 : List Cond := [Cond.fieldLink RX8 198 "SumOfTwoThatStandModel" "hasImage" "Z", Cond.fieldLink RX8 70 "SumOfTwoThatStandModel" "houses" "I", Cond.methodLink RX8 127 yX8_no, Cond.instanceMethod yX8_no, Cond.selects RX8 yX8_no yX8_no, Cond.initialized RX8, Cond.code yX8_no cX8_no 2 (some .int), Cond.fieldLink RX8 7 "SumOfTwoThatStandModel" "refused" "[I", Cond.methodLink RX8 177 yX8_passesAll, Cond.instanceMethod yX8_passesAll, Cond.selects RX8 yX8_passesAll yX8_passesAll, Cond.code yX8_passesAll cX8_passesAll 3 none, Cond.fieldLink RX8 188 "SumOfTwoThatStandModel" "cursor" "I", Cond.fieldLink RX8 184 "SumOfTwoThatStandModel" "isKeeping" "Z", Cond.fieldLink RX8 13 "SumOfTwoThatStandModel" "number" "[I", Cond.fieldLink RX8 16 "SumOfTwoThatStandModel" "kind" "[I", Cond.fieldLink RX8 19 "SumOfTwoThatStandModel" "figure" "[I", Cond.fieldLink RX8 22 "SumOfTwoThatStandModel" "one" "[I", Cond.fieldLink RX8 25 "SumOfTwoThatStandModel" "other" "[I", Cond.fieldLink RX8 28 "SumOfTwoThatStandModel" "stands" "[I", Cond.fieldLink RX8 31 "SumOfTwoThatStandModel" "uses" "[I", Cond.fieldLink RX8 34 "SumOfTwoThatStandModel" "earned" "[I", Cond.fieldLink RX8 86 "SumOfTwoThatStandModel" "sums" "I", Cond.fieldLink RX8 111 "SumOfTwoThatStandModel" "falls" "I"]
def wsX8_restore_r2 : List Cond := [Cond.methodLink RX8 191 yX8_passes, Cond.instanceMethod yX8_passes, Cond.selects RX8 yX8_passes yX8_passes, Cond.code yX8_passes cX8_passes 3 none, Cond.fieldLink RX8 49 "SumOfTwoThatStandModel" "kept" "[I", Cond.methodLink RX8 195 yX8_passOne, Cond.instanceMethod yX8_passOne, Cond.selects RX8 yX8_passOne yX8_passOne, Cond.code yX8_passOne cX8_passOne 3 (some .int)]
def wsX8_restore : List Cond := .code yX8_restore cX8_restore 1 (some .int) :: ((wsX8_restore_r1 ++ wsX8_restore_r2) ++ wsX80)
def wsX8_house : List Cond := .code yX8_house cX8_house 3 (some .int) :: ([.fieldLink RX8 16 "SumOfTwoThatStandModel" "kind" "[I", .fieldLink RX8 19 "SumOfTwoThatStandModel" "figure" "[I", .fieldLink RX8 13 "SumOfTwoThatStandModel" "number" "[I", .fieldLink RX8 22 "SumOfTwoThatStandModel" "one" "[I", .fieldLink RX8 25 "SumOfTwoThatStandModel" "other" "[I", .fieldLink RX8 28 "SumOfTwoThatStandModel" "stands" "[I", .fieldLink RX8 31 "SumOfTwoThatStandModel" "uses" "[I", .fieldLink RX8 34 "SumOfTwoThatStandModel" "earned" "[I", .methodLink RX8 82 yX8_isHouse, .instanceMethod yX8_isHouse, .selects RX8 yX8_isHouse yX8_isHouse, .initialized RX8, .code yX8_isHouse cX8_isHouse 2 (some .boolean), .fieldLink RX8 70 "SumOfTwoThatStandModel" "houses" "I", .methodLink RX8 78 yX8_isIn, .static yX8_isIn, .code yX8_isIn cX8_isIn 3 (some .boolean), .methodLink RX8 127 yX8_no, .instanceMethod yX8_no, .selects RX8 yX8_no yX8_no, .code yX8_no cX8_no 2 (some .int), .fieldLink RX8 7 "SumOfTwoThatStandModel" "refused" "[I"] ++ wsX80)
def wsX8_law : List Cond := .code yX8_law cX8_law 4 (some .int) :: ([.fieldLink RX8 86 "SumOfTwoThatStandModel" "sums" "I", .fieldLink RX8 111 "SumOfTwoThatStandModel" "falls" "I", .methodLink RX8 78 yX8_isIn, .static yX8_isIn, .initialized RX8, .code yX8_isIn cX8_isIn 3 (some .boolean), .methodLink RX8 127 yX8_no, .instanceMethod yX8_no, .selects RX8 yX8_no yX8_no, .code yX8_no cX8_no 2 (some .int), .fieldLink RX8 7 "SumOfTwoThatStandModel" "refused" "[I"] ++ wsX80)
def wsX8_may_r1 : List Cond := [Cond.methodLink RX8 82 yX8_isHouse, Cond.instanceMethod yX8_isHouse, Cond.selects RX8 yX8_isHouse yX8_isHouse, Cond.initialized RX8, Cond.code yX8_isHouse cX8_isHouse 2 (some .boolean), Cond.fieldLink RX8 70 "SumOfTwoThatStandModel" "houses" "I", Cond.methodLink RX8 78 yX8_isIn, Cond.static yX8_isIn, Cond.code yX8_isIn cX8_isIn 3 (some .boolean), Cond.methodLink RX8 151 yX8_doesStand, Cond.instanceMethod yX8_doesStand, Cond.selects RX8 yX8_doesStand yX8_doesStand, Cond.code yX8_doesStand cX8_doesStand 2 (some .boolean), Cond.fieldLink RX8 28 "SumOfTwoThatStandModel" "stands" "[I", Cond.methodLink RX8 127 yX8_no, Cond.instanceMethod yX8_no, Cond.selects RX8 yX8_no yX8_no, Cond.code yX8_no cX8_no 2 (some .int), Cond.fieldLink RX8 7 "SumOfTwoThatStandModel" "refused" "[I", Cond.methodLink RX8 154 yX8_mayBe, Cond.instanceMethod yX8_mayBe, Cond.selects RX8 yX8_mayBe yX8_mayBe, Cond.code yX8_mayBe cX8_mayBe 4 (some .boolean), Cond.fieldLink RX8 13 "SumOfTwoThatStandModel" "number" "[I"]
def wsX8_may_r2 : List Cond := [Cond.methodLink RX8 93 yX8_lends, Cond.instanceMethod yX8_lends, Cond.selects RX8 yX8_lends yX8_lends, Cond.code yX8_lends cX8_lends 3 (some .boolean), Cond.fieldLink RX8 16 "SumOfTwoThatStandModel" "kind" "[I", Cond.fieldLink RX8 31 "SumOfTwoThatStandModel" "uses" "[I", Cond.methodLink RX8 97 yX8_isThere, Cond.instanceMethod yX8_isThere, Cond.selects RX8 yX8_isThere yX8_isThere, Cond.code yX8_isThere cX8_isThere 3 (some .boolean), Cond.methodLink RX8 100 yX8_isLawful, Cond.instanceMethod yX8_isLawful, Cond.selects RX8 yX8_isLawful yX8_isLawful, Cond.code yX8_isLawful cX8_isLawful 3 (some .boolean), Cond.fieldLink RX8 86 "SumOfTwoThatStandModel" "sums" "I", Cond.methodLink RX8 89 yX8_latest, Cond.instanceMethod yX8_latest, Cond.selects RX8 yX8_latest yX8_latest, Cond.code yX8_latest cX8_latest 3 (some .int)]
def wsX8_may : List Cond := .code yX8_may cX8_may 4 (some .int) :: ((wsX8_may_r1 ++ wsX8_may_r2) ++ wsX80)
def wsX8_canBe_r1 : List Cond := [Cond.methodLink RX8 151 yX8_doesStand, Cond.instanceMethod yX8_doesStand, Cond.selects RX8 yX8_doesStand yX8_doesStand, Cond.initialized RX8, Cond.code yX8_doesStand cX8_doesStand 2 (some .boolean), Cond.fieldLink RX8 28 "SumOfTwoThatStandModel" "stands" "[I", Cond.methodLink RX8 82 yX8_isHouse, Cond.instanceMethod yX8_isHouse, Cond.selects RX8 yX8_isHouse yX8_isHouse, Cond.code yX8_isHouse cX8_isHouse 2 (some .boolean), Cond.fieldLink RX8 70 "SumOfTwoThatStandModel" "houses" "I", Cond.methodLink RX8 78 yX8_isIn, Cond.static yX8_isIn, Cond.code yX8_isIn cX8_isIn 3 (some .boolean), Cond.methodLink RX8 154 yX8_mayBe, Cond.instanceMethod yX8_mayBe, Cond.selects RX8 yX8_mayBe yX8_mayBe, Cond.code yX8_mayBe cX8_mayBe 4 (some .boolean), Cond.fieldLink RX8 13 "SumOfTwoThatStandModel" "number" "[I", Cond.methodLink RX8 93 yX8_lends, Cond.instanceMethod yX8_lends, Cond.selects RX8 yX8_lends yX8_lends, Cond.code yX8_lends cX8_lends 3 (some .boolean), Cond.fieldLink RX8 16 "SumOfTwoThatStandModel" "kind" "[I"]
def wsX8_canBe_r2 : List Cond := [Cond.fieldLink RX8 31 "SumOfTwoThatStandModel" "uses" "[I", Cond.methodLink RX8 97 yX8_isThere, Cond.instanceMethod yX8_isThere, Cond.selects RX8 yX8_isThere yX8_isThere, Cond.code yX8_isThere cX8_isThere 3 (some .boolean), Cond.methodLink RX8 100 yX8_isLawful, Cond.instanceMethod yX8_isLawful, Cond.selects RX8 yX8_isLawful yX8_isLawful, Cond.code yX8_isLawful cX8_isLawful 3 (some .boolean), Cond.fieldLink RX8 86 "SumOfTwoThatStandModel" "sums" "I", Cond.methodLink RX8 89 yX8_latest, Cond.instanceMethod yX8_latest, Cond.selects RX8 yX8_latest yX8_latest, Cond.code yX8_latest cX8_latest 3 (some .int)]
def wsX8_canBe : List Cond := .code yX8_canBe cX8_canBe 3 (some .boolean) :: ((wsX8_canBe_r1 ++ wsX8_canBe_r2) ++ wsX80)
def wsX8_cost_r1 : List Cond := [Cond.methodLink RX8 82 yX8_isHouse, Cond.instanceMethod yX8_isHouse, Cond.selects RX8 yX8_isHouse yX8_isHouse, Cond.initialized RX8, Cond.code yX8_isHouse cX8_isHouse 2 (some .boolean), Cond.fieldLink RX8 70 "SumOfTwoThatStandModel" "houses" "I", Cond.methodLink RX8 78 yX8_isIn, Cond.static yX8_isIn, Cond.code yX8_isIn cX8_isIn 3 (some .boolean), Cond.methodLink RX8 201 yX8_canBe, Cond.instanceMethod yX8_canBe, Cond.selects RX8 yX8_canBe yX8_canBe, Cond.code yX8_canBe cX8_canBe 3 (some .boolean), Cond.methodLink RX8 151 yX8_doesStand, Cond.instanceMethod yX8_doesStand, Cond.selects RX8 yX8_doesStand yX8_doesStand, Cond.code yX8_doesStand cX8_doesStand 2 (some .boolean), Cond.fieldLink RX8 28 "SumOfTwoThatStandModel" "stands" "[I", Cond.methodLink RX8 154 yX8_mayBe, Cond.instanceMethod yX8_mayBe, Cond.selects RX8 yX8_mayBe yX8_mayBe, Cond.code yX8_mayBe cX8_mayBe 4 (some .boolean), Cond.fieldLink RX8 13 "SumOfTwoThatStandModel" "number" "[I", Cond.methodLink RX8 93 yX8_lends]
def wsX8_cost_r2 : List Cond := [Cond.instanceMethod yX8_lends, Cond.selects RX8 yX8_lends yX8_lends, Cond.code yX8_lends cX8_lends 3 (some .boolean), Cond.fieldLink RX8 16 "SumOfTwoThatStandModel" "kind" "[I", Cond.fieldLink RX8 31 "SumOfTwoThatStandModel" "uses" "[I", Cond.methodLink RX8 97 yX8_isThere, Cond.instanceMethod yX8_isThere, Cond.selects RX8 yX8_isThere yX8_isThere, Cond.code yX8_isThere cX8_isThere 3 (some .boolean), Cond.methodLink RX8 100 yX8_isLawful, Cond.instanceMethod yX8_isLawful, Cond.selects RX8 yX8_isLawful yX8_isLawful, Cond.code yX8_isLawful cX8_isLawful 3 (some .boolean), Cond.fieldLink RX8 86 "SumOfTwoThatStandModel" "sums" "I", Cond.methodLink RX8 89 yX8_latest, Cond.instanceMethod yX8_latest, Cond.selects RX8 yX8_latest yX8_latest, Cond.code yX8_latest cX8_latest 3 (some .int), Cond.methodLink RX8 127 yX8_no, Cond.instanceMethod yX8_no, Cond.selects RX8 yX8_no yX8_no, Cond.code yX8_no cX8_no 2 (some .int), Cond.fieldLink RX8 7 "SumOfTwoThatStandModel" "refused" "[I", Cond.methodLink RX8 103 yX8_fee]
def wsX8_cost_r3 : List Cond := [Cond.instanceMethod yX8_fee, Cond.selects RX8 yX8_fee yX8_fee, Cond.code yX8_fee cX8_fee 2 (some .int), Cond.fieldLink RX8 19 "SumOfTwoThatStandModel" "figure" "[I"]
def wsX8_cost : List Cond := .code yX8_cost cX8_cost 4 (some .int) :: ((wsX8_cost_r1 ++ (wsX8_cost_r2 ++ wsX8_cost_r3)) ++ wsX80)
def wsX8_add_r1 : List Cond := [Cond.fieldLink RX8 70 "SumOfTwoThatStandModel" "houses" "I", Cond.methodLink RX8 82 yX8_isHouse, Cond.instanceMethod yX8_isHouse, Cond.selects RX8 yX8_isHouse yX8_isHouse, Cond.initialized RX8, Cond.code yX8_isHouse cX8_isHouse 2 (some .boolean), Cond.methodLink RX8 78 yX8_isIn, Cond.static yX8_isIn, Cond.code yX8_isIn cX8_isIn 3 (some .boolean), Cond.methodLink RX8 120 yX8_bound, Cond.static yX8_bound, Cond.code yX8_bound cX8_bound 3 (some .int), Cond.methodLink RX8 201 yX8_canBe, Cond.instanceMethod yX8_canBe, Cond.selects RX8 yX8_canBe yX8_canBe, Cond.code yX8_canBe cX8_canBe 3 (some .boolean), Cond.methodLink RX8 151 yX8_doesStand, Cond.instanceMethod yX8_doesStand, Cond.selects RX8 yX8_doesStand yX8_doesStand, Cond.code yX8_doesStand cX8_doesStand 2 (some .boolean), Cond.fieldLink RX8 28 "SumOfTwoThatStandModel" "stands" "[I", Cond.methodLink RX8 154 yX8_mayBe, Cond.instanceMethod yX8_mayBe, Cond.selects RX8 yX8_mayBe yX8_mayBe]
def wsX8_add_r2 : List Cond := [Cond.code yX8_mayBe cX8_mayBe 4 (some .boolean), Cond.fieldLink RX8 13 "SumOfTwoThatStandModel" "number" "[I", Cond.methodLink RX8 93 yX8_lends, Cond.instanceMethod yX8_lends, Cond.selects RX8 yX8_lends yX8_lends, Cond.code yX8_lends cX8_lends 3 (some .boolean), Cond.fieldLink RX8 16 "SumOfTwoThatStandModel" "kind" "[I", Cond.fieldLink RX8 31 "SumOfTwoThatStandModel" "uses" "[I", Cond.methodLink RX8 97 yX8_isThere, Cond.instanceMethod yX8_isThere, Cond.selects RX8 yX8_isThere yX8_isThere, Cond.code yX8_isThere cX8_isThere 3 (some .boolean), Cond.methodLink RX8 100 yX8_isLawful, Cond.instanceMethod yX8_isLawful, Cond.selects RX8 yX8_isLawful yX8_isLawful, Cond.code yX8_isLawful cX8_isLawful 3 (some .boolean), Cond.fieldLink RX8 86 "SumOfTwoThatStandModel" "sums" "I", Cond.methodLink RX8 89 yX8_latest, Cond.instanceMethod yX8_latest, Cond.selects RX8 yX8_latest yX8_latest, Cond.code yX8_latest cX8_latest 3 (some .int), Cond.methodLink RX8 127 yX8_no, Cond.instanceMethod yX8_no, Cond.selects RX8 yX8_no yX8_no]
def wsX8_add_r3 : List Cond := [Cond.code yX8_no cX8_no 2 (some .int), Cond.fieldLink RX8 7 "SumOfTwoThatStandModel" "refused" "[I", Cond.methodLink RX8 157 yX8_builds, Cond.instanceMethod yX8_builds, Cond.selects RX8 yX8_builds yX8_builds, Cond.code yX8_builds cX8_builds 6 none, Cond.methodLink RX8 107 yX8_isUsed, Cond.instanceMethod yX8_isUsed, Cond.selects RX8 yX8_isUsed yX8_isUsed, Cond.code yX8_isUsed cX8_isUsed 2 none, Cond.fieldLink RX8 34 "SumOfTwoThatStandModel" "earned" "[I", Cond.methodLink RX8 103 yX8_fee, Cond.instanceMethod yX8_fee, Cond.selects RX8 yX8_fee yX8_fee, Cond.code yX8_fee cX8_fee 2 (some .int), Cond.fieldLink RX8 19 "SumOfTwoThatStandModel" "figure" "[I", Cond.methodLink RX8 74 yX8_isMore, Cond.instanceMethod yX8_isMore, Cond.selects RX8 yX8_isMore yX8_isMore, Cond.code yX8_isMore cX8_isMore 6 none, Cond.fieldLink RX8 22 "SumOfTwoThatStandModel" "one" "[I", Cond.fieldLink RX8 25 "SumOfTwoThatStandModel" "other" "[I"]
def wsX8_add : List Cond := .code yX8_add cX8_add 6 (some .int) :: ((wsX8_add_r1 ++ (wsX8_add_r2 ++ wsX8_add_r3)) ++ wsX80)
def wsX8_burn_r1 : List Cond := [Cond.methodLink RX8 82 yX8_isHouse, Cond.instanceMethod yX8_isHouse, Cond.selects RX8 yX8_isHouse yX8_isHouse, Cond.initialized RX8, Cond.code yX8_isHouse cX8_isHouse 2 (some .boolean), Cond.fieldLink RX8 70 "SumOfTwoThatStandModel" "houses" "I", Cond.methodLink RX8 78 yX8_isIn, Cond.static yX8_isIn, Cond.code yX8_isIn cX8_isIn 3 (some .boolean), Cond.methodLink RX8 151 yX8_doesStand, Cond.instanceMethod yX8_doesStand, Cond.selects RX8 yX8_doesStand yX8_doesStand, Cond.code yX8_doesStand cX8_doesStand 2 (some .boolean), Cond.fieldLink RX8 28 "SumOfTwoThatStandModel" "stands" "[I", Cond.methodLink RX8 127 yX8_no, Cond.instanceMethod yX8_no, Cond.selects RX8 yX8_no yX8_no, Cond.code yX8_no cX8_no 2 (some .int), Cond.fieldLink RX8 7 "SumOfTwoThatStandModel" "refused" "[I", Cond.methodLink RX8 204 yX8_standing, Cond.instanceMethod yX8_standing, Cond.selects RX8 yX8_standing yX8_standing, Cond.code yX8_standing cX8_standing 3 (some .int), Cond.methodLink RX8 207 yX8_bits]
def wsX8_burn_r2 : List Cond := [Cond.static yX8_bits, Cond.code yX8_bits cX8_bits 3 (some .int), Cond.methodLink RX8 161 yX8_burns, Cond.instanceMethod yX8_burns, Cond.selects RX8 yX8_burns yX8_burns, Cond.code yX8_burns cX8_burns 4 none, Cond.methodLink RX8 117 yX8_fallsWith, Cond.instanceMethod yX8_fallsWith, Cond.selects RX8 yX8_fallsWith yX8_fallsWith, Cond.code yX8_fallsWith cX8_fallsWith 2 (some .boolean), Cond.fieldLink RX8 111 "SumOfTwoThatStandModel" "falls" "I", Cond.fieldLink RX8 16 "SumOfTwoThatStandModel" "kind" "[I", Cond.fieldLink RX8 22 "SumOfTwoThatStandModel" "one" "[I", Cond.fieldLink RX8 25 "SumOfTwoThatStandModel" "other" "[I", Cond.methodLink RX8 114 yX8_hasFallen, Cond.instanceMethod yX8_hasFallen, Cond.selects RX8 yX8_hasFallen yX8_hasFallen, Cond.code yX8_hasFallen cX8_hasFallen 2 (some .boolean)]
def wsX8_burn : List Cond := .code yX8_burn cX8_burn 4 (some .int) :: ((wsX8_burn_r1 ++ wsX8_burn_r2) ++ wsX80)
def wsX8_hangsOn_r1 : List Cond := [Cond.methodLink RX8 204 yX8_standing, Cond.instanceMethod yX8_standing, Cond.selects RX8 yX8_standing yX8_standing, Cond.initialized RX8, Cond.code yX8_standing cX8_standing 3 (some .int), Cond.fieldLink RX8 70 "SumOfTwoThatStandModel" "houses" "I", Cond.fieldLink RX8 28 "SumOfTwoThatStandModel" "stands" "[I", Cond.methodLink RX8 177 yX8_passesAll, Cond.instanceMethod yX8_passesAll, Cond.selects RX8 yX8_passesAll yX8_passesAll, Cond.code yX8_passesAll cX8_passesAll 3 none, Cond.fieldLink RX8 188 "SumOfTwoThatStandModel" "cursor" "I", Cond.fieldLink RX8 184 "SumOfTwoThatStandModel" "isKeeping" "Z", Cond.fieldLink RX8 13 "SumOfTwoThatStandModel" "number" "[I", Cond.fieldLink RX8 16 "SumOfTwoThatStandModel" "kind" "[I", Cond.fieldLink RX8 19 "SumOfTwoThatStandModel" "figure" "[I", Cond.fieldLink RX8 22 "SumOfTwoThatStandModel" "one" "[I", Cond.fieldLink RX8 25 "SumOfTwoThatStandModel" "other" "[I", Cond.fieldLink RX8 31 "SumOfTwoThatStandModel" "uses" "[I", Cond.fieldLink RX8 34 "SumOfTwoThatStandModel" "earned" "[I", Cond.fieldLink RX8 86 "SumOfTwoThatStandModel" "sums" "I", Cond.fieldLink RX8 111 "SumOfTwoThatStandModel" "falls" "I", Cond.methodLink RX8 191 yX8_passes, Cond.instanceMethod yX8_passes]
def wsX8_hangsOn_r2 : List Cond := [Cond.selects RX8 yX8_passes yX8_passes, Cond.code yX8_passes cX8_passes 3 none, Cond.fieldLink RX8 49 "SumOfTwoThatStandModel" "kept" "[I", Cond.methodLink RX8 195 yX8_passOne, Cond.instanceMethod yX8_passOne, Cond.selects RX8 yX8_passOne yX8_passOne, Cond.code yX8_passOne cX8_passOne 3 (some .int), Cond.methodLink RX8 161 yX8_burns, Cond.instanceMethod yX8_burns, Cond.selects RX8 yX8_burns yX8_burns, Cond.code yX8_burns cX8_burns 4 none, Cond.methodLink RX8 117 yX8_fallsWith, Cond.instanceMethod yX8_fallsWith, Cond.selects RX8 yX8_fallsWith yX8_fallsWith, Cond.code yX8_fallsWith cX8_fallsWith 2 (some .boolean), Cond.methodLink RX8 114 yX8_hasFallen, Cond.instanceMethod yX8_hasFallen, Cond.selects RX8 yX8_hasFallen yX8_hasFallen, Cond.code yX8_hasFallen cX8_hasFallen 2 (some .boolean)]
def wsX8_hangsOn : List Cond := .code yX8_hangsOn cX8_hangsOn 4 (some .int) :: ((wsX8_hangsOn_r1 ++ wsX8_hangsOn_r2) ++ wsX80)
def wsX8_hangs_r1 : List Cond := [Cond.methodLink RX8 82 yX8_isHouse, Cond.instanceMethod yX8_isHouse, Cond.selects RX8 yX8_isHouse yX8_isHouse, Cond.initialized RX8, Cond.code yX8_isHouse cX8_isHouse 2 (some .boolean), Cond.fieldLink RX8 70 "SumOfTwoThatStandModel" "houses" "I", Cond.methodLink RX8 78 yX8_isIn, Cond.static yX8_isIn, Cond.code yX8_isIn cX8_isIn 3 (some .boolean), Cond.methodLink RX8 151 yX8_doesStand, Cond.instanceMethod yX8_doesStand, Cond.selects RX8 yX8_doesStand yX8_doesStand, Cond.code yX8_doesStand cX8_doesStand 2 (some .boolean), Cond.fieldLink RX8 28 "SumOfTwoThatStandModel" "stands" "[I", Cond.methodLink RX8 127 yX8_no, Cond.instanceMethod yX8_no, Cond.selects RX8 yX8_no yX8_no, Cond.code yX8_no cX8_no 2 (some .int), Cond.fieldLink RX8 7 "SumOfTwoThatStandModel" "refused" "[I", Cond.methodLink RX8 210 yX8_hangsOn, Cond.instanceMethod yX8_hangsOn, Cond.selects RX8 yX8_hangsOn yX8_hangsOn, Cond.code yX8_hangsOn cX8_hangsOn 4 (some .int), Cond.methodLink RX8 204 yX8_standing]
def wsX8_hangs_r2 : List Cond := [Cond.instanceMethod yX8_standing, Cond.selects RX8 yX8_standing yX8_standing, Cond.code yX8_standing cX8_standing 3 (some .int), Cond.methodLink RX8 177 yX8_passesAll, Cond.instanceMethod yX8_passesAll, Cond.selects RX8 yX8_passesAll yX8_passesAll, Cond.code yX8_passesAll cX8_passesAll 3 none, Cond.fieldLink RX8 188 "SumOfTwoThatStandModel" "cursor" "I", Cond.fieldLink RX8 184 "SumOfTwoThatStandModel" "isKeeping" "Z", Cond.fieldLink RX8 13 "SumOfTwoThatStandModel" "number" "[I", Cond.fieldLink RX8 16 "SumOfTwoThatStandModel" "kind" "[I", Cond.fieldLink RX8 19 "SumOfTwoThatStandModel" "figure" "[I", Cond.fieldLink RX8 22 "SumOfTwoThatStandModel" "one" "[I", Cond.fieldLink RX8 25 "SumOfTwoThatStandModel" "other" "[I", Cond.fieldLink RX8 31 "SumOfTwoThatStandModel" "uses" "[I", Cond.fieldLink RX8 34 "SumOfTwoThatStandModel" "earned" "[I", Cond.fieldLink RX8 86 "SumOfTwoThatStandModel" "sums" "I", Cond.fieldLink RX8 111 "SumOfTwoThatStandModel" "falls" "I", Cond.methodLink RX8 191 yX8_passes, Cond.instanceMethod yX8_passes, Cond.selects RX8 yX8_passes yX8_passes, Cond.code yX8_passes cX8_passes 3 none, Cond.fieldLink RX8 49 "SumOfTwoThatStandModel" "kept" "[I", Cond.methodLink RX8 195 yX8_passOne]
def wsX8_hangs_r3 : List Cond := [Cond.instanceMethod yX8_passOne, Cond.selects RX8 yX8_passOne yX8_passOne, Cond.code yX8_passOne cX8_passOne 3 (some .int), Cond.methodLink RX8 161 yX8_burns, Cond.instanceMethod yX8_burns, Cond.selects RX8 yX8_burns yX8_burns, Cond.code yX8_burns cX8_burns 4 none, Cond.methodLink RX8 117 yX8_fallsWith, Cond.instanceMethod yX8_fallsWith, Cond.selects RX8 yX8_fallsWith yX8_fallsWith, Cond.code yX8_fallsWith cX8_fallsWith 2 (some .boolean), Cond.methodLink RX8 114 yX8_hasFallen, Cond.instanceMethod yX8_hasFallen, Cond.selects RX8 yX8_hasFallen yX8_hasFallen, Cond.code yX8_hasFallen cX8_hasFallen 2 (some .boolean)]
def wsX8_hangs : List Cond := .code yX8_hangs cX8_hangs 3 (some .int) :: ((wsX8_hangs_r1 ++ (wsX8_hangs_r2 ++ wsX8_hangs_r3)) ++ wsX80)
def wsX8_save_r1 : List Cond := [Cond.fieldLink RX8 70 "SumOfTwoThatStandModel" "houses" "I", Cond.fieldLink RX8 28 "SumOfTwoThatStandModel" "stands" "[I", Cond.methodLink RX8 210 yX8_hangsOn, Cond.instanceMethod yX8_hangsOn, Cond.selects RX8 yX8_hangsOn yX8_hangsOn, Cond.initialized RX8, Cond.code yX8_hangsOn cX8_hangsOn 4 (some .int), Cond.methodLink RX8 204 yX8_standing, Cond.instanceMethod yX8_standing, Cond.selects RX8 yX8_standing yX8_standing, Cond.code yX8_standing cX8_standing 3 (some .int), Cond.methodLink RX8 177 yX8_passesAll, Cond.instanceMethod yX8_passesAll, Cond.selects RX8 yX8_passesAll yX8_passesAll, Cond.code yX8_passesAll cX8_passesAll 3 none, Cond.fieldLink RX8 188 "SumOfTwoThatStandModel" "cursor" "I", Cond.fieldLink RX8 184 "SumOfTwoThatStandModel" "isKeeping" "Z", Cond.fieldLink RX8 13 "SumOfTwoThatStandModel" "number" "[I", Cond.fieldLink RX8 16 "SumOfTwoThatStandModel" "kind" "[I", Cond.fieldLink RX8 19 "SumOfTwoThatStandModel" "figure" "[I", Cond.fieldLink RX8 22 "SumOfTwoThatStandModel" "one" "[I", Cond.fieldLink RX8 25 "SumOfTwoThatStandModel" "other" "[I", Cond.fieldLink RX8 31 "SumOfTwoThatStandModel" "uses" "[I", Cond.fieldLink RX8 34 "SumOfTwoThatStandModel" "earned" "[I"]
def wsX8_save_r2 : List Cond := [Cond.fieldLink RX8 86 "SumOfTwoThatStandModel" "sums" "I", Cond.fieldLink RX8 111 "SumOfTwoThatStandModel" "falls" "I", Cond.methodLink RX8 191 yX8_passes, Cond.instanceMethod yX8_passes, Cond.selects RX8 yX8_passes yX8_passes, Cond.code yX8_passes cX8_passes 3 none, Cond.fieldLink RX8 49 "SumOfTwoThatStandModel" "kept" "[I", Cond.methodLink RX8 195 yX8_passOne, Cond.instanceMethod yX8_passOne, Cond.selects RX8 yX8_passOne yX8_passOne, Cond.code yX8_passOne cX8_passOne 3 (some .int), Cond.methodLink RX8 161 yX8_burns, Cond.instanceMethod yX8_burns, Cond.selects RX8 yX8_burns yX8_burns, Cond.code yX8_burns cX8_burns 4 none, Cond.methodLink RX8 117 yX8_fallsWith, Cond.instanceMethod yX8_fallsWith, Cond.selects RX8 yX8_fallsWith yX8_fallsWith, Cond.code yX8_fallsWith cX8_fallsWith 2 (some .boolean), Cond.methodLink RX8 114 yX8_hasFallen, Cond.instanceMethod yX8_hasFallen, Cond.selects RX8 yX8_hasFallen yX8_hasFallen, Cond.code yX8_hasFallen cX8_hasFallen 2 (some .boolean), Cond.methodLink RX8 207 yX8_bits]
def wsX8_save_r3 : List Cond := [Cond.static yX8_bits, Cond.code yX8_bits cX8_bits 3 (some .int)]
def wsX8_save : List Cond := .code yX8_save cX8_save 5 (some .int) :: ((wsX8_save_r1 ++ (wsX8_save_r2 ++ wsX8_save_r3)) ++ wsX80)
def wsX8_isSum : List Cond := .code yX8_isSum cX8_isSum 5 (some .boolean) :: ([.fieldLink RX8 52 "SumOfTwoThatStandModel" "tried" "[I"] ++ wsX80)
def wsX8_canReach : List Cond := .code yX8_canReach cX8_canReach 5 (some .boolean) :: ([.fieldLink RX8 213 "SumOfTwoThatStandModel" "goal" "I"] ++ wsX80)
def wsX8_goesOn : List Cond := .code yX8_goesOn cX8_goesOn 4 (some .boolean) :: ([.fieldLink RX8 52 "SumOfTwoThatStandModel" "tried" "[I", .fieldLink RX8 222 "SumOfTwoThatStandModel" "wanted" "I", .methodLink RX8 216 yX8_isSum, .instanceMethod yX8_isSum, .selects RX8 yX8_isSum yX8_isSum, .initialized RX8, .code yX8_isSum cX8_isSum 5 (some .boolean), .methodLink RX8 219 yX8_canReach, .instanceMethod yX8_canReach, .selects RX8 yX8_canReach yX8_canReach, .code yX8_canReach cX8_canReach 5 (some .boolean), .fieldLink RX8 213 "SumOfTwoThatStandModel" "goal" "I"] ++ wsX80)
def wsX8_nextTry : List Cond := .code yX8_nextTry cX8_nextTry 6 (some .int) :: ([.fieldLink RX8 52 "SumOfTwoThatStandModel" "tried" "[I", .fieldLink RX8 213 "SumOfTwoThatStandModel" "goal" "I", .methodLink RX8 225 yX8_goesOn, .instanceMethod yX8_goesOn, .selects RX8 yX8_goesOn yX8_goesOn, .initialized RX8, .code yX8_goesOn cX8_goesOn 4 (some .boolean), .fieldLink RX8 222 "SumOfTwoThatStandModel" "wanted" "I", .methodLink RX8 216 yX8_isSum, .instanceMethod yX8_isSum, .selects RX8 yX8_isSum yX8_isSum, .code yX8_isSum cX8_isSum 5 (some .boolean), .methodLink RX8 219 yX8_canReach, .instanceMethod yX8_canReach, .selects RX8 yX8_canReach yX8_canReach, .code yX8_canReach cX8_canReach 5 (some .boolean)] ++ wsX80)
def wsX8_findsChain : List Cond := .code yX8_findsChain cX8_findsChain 3 (some .boolean) :: ([.fieldLink RX8 52 "SumOfTwoThatStandModel" "tried" "[I", .fieldLink RX8 213 "SumOfTwoThatStandModel" "goal" "I", .methodLink RX8 228 yX8_nextTry, .instanceMethod yX8_nextTry, .selects RX8 yX8_nextTry yX8_nextTry, .initialized RX8, .code yX8_nextTry cX8_nextTry 6 (some .int), .methodLink RX8 225 yX8_goesOn, .instanceMethod yX8_goesOn, .selects RX8 yX8_goesOn yX8_goesOn, .code yX8_goesOn cX8_goesOn 4 (some .boolean), .fieldLink RX8 222 "SumOfTwoThatStandModel" "wanted" "I", .methodLink RX8 216 yX8_isSum, .instanceMethod yX8_isSum, .selects RX8 yX8_isSum yX8_isSum, .code yX8_isSum cX8_isSum 5 (some .boolean), .methodLink RX8 219 yX8_canReach, .instanceMethod yX8_canReach, .selects RX8 yX8_canReach yX8_canReach, .code yX8_canReach cX8_canReach 5 (some .boolean)] ++ wsX80)
def wsX8_shortest : List Cond := .code yX8_shortest cX8_shortest 4 (some .int) :: ([.fieldLink RX8 222 "SumOfTwoThatStandModel" "wanted" "I", .fieldLink RX8 213 "SumOfTwoThatStandModel" "goal" "I", .methodLink RX8 231 yX8_findsChain, .instanceMethod yX8_findsChain, .selects RX8 yX8_findsChain yX8_findsChain, .initialized RX8, .code yX8_findsChain cX8_findsChain 3 (some .boolean), .fieldLink RX8 52 "SumOfTwoThatStandModel" "tried" "[I", .methodLink RX8 228 yX8_nextTry, .instanceMethod yX8_nextTry, .selects RX8 yX8_nextTry yX8_nextTry, .code yX8_nextTry cX8_nextTry 6 (some .int), .methodLink RX8 225 yX8_goesOn, .instanceMethod yX8_goesOn, .selects RX8 yX8_goesOn yX8_goesOn, .code yX8_goesOn cX8_goesOn 4 (some .boolean), .methodLink RX8 216 yX8_isSum, .instanceMethod yX8_isSum, .selects RX8 yX8_isSum yX8_isSum, .code yX8_isSum cX8_isSum 5 (some .boolean), .methodLink RX8 219 yX8_canReach, .instanceMethod yX8_canReach, .selects RX8 yX8_canReach yX8_canReach, .code yX8_canReach cX8_canReach 5 (some .boolean)] ++ wsX80)
def wsX8_fewest_r1 : List Cond := [Cond.methodLink RX8 120 yX8_bound, Cond.static yX8_bound, Cond.initialized RX8, Cond.code yX8_bound cX8_bound 3 (some .int), Cond.methodLink RX8 127 yX8_no, Cond.instanceMethod yX8_no, Cond.selects RX8 yX8_no yX8_no, Cond.code yX8_no cX8_no 2 (some .int), Cond.fieldLink RX8 7 "SumOfTwoThatStandModel" "refused" "[I", Cond.methodLink RX8 234 yX8_shortest, Cond.instanceMethod yX8_shortest, Cond.selects RX8 yX8_shortest yX8_shortest, Cond.code yX8_shortest cX8_shortest 4 (some .int), Cond.fieldLink RX8 222 "SumOfTwoThatStandModel" "wanted" "I", Cond.fieldLink RX8 213 "SumOfTwoThatStandModel" "goal" "I", Cond.methodLink RX8 231 yX8_findsChain, Cond.instanceMethod yX8_findsChain, Cond.selects RX8 yX8_findsChain yX8_findsChain, Cond.code yX8_findsChain cX8_findsChain 3 (some .boolean), Cond.fieldLink RX8 52 "SumOfTwoThatStandModel" "tried" "[I", Cond.methodLink RX8 228 yX8_nextTry, Cond.instanceMethod yX8_nextTry, Cond.selects RX8 yX8_nextTry yX8_nextTry, Cond.code yX8_nextTry cX8_nextTry 6 (some .int)]
def wsX8_fewest_r2 : List Cond := [Cond.methodLink RX8 225 yX8_goesOn, Cond.instanceMethod yX8_goesOn, Cond.selects RX8 yX8_goesOn yX8_goesOn, Cond.code yX8_goesOn cX8_goesOn 4 (some .boolean), Cond.methodLink RX8 216 yX8_isSum, Cond.instanceMethod yX8_isSum, Cond.selects RX8 yX8_isSum yX8_isSum, Cond.code yX8_isSum cX8_isSum 5 (some .boolean), Cond.methodLink RX8 219 yX8_canReach, Cond.instanceMethod yX8_canReach, Cond.selects RX8 yX8_canReach yX8_canReach, Cond.code yX8_canReach cX8_canReach 5 (some .boolean)]
def wsX8_fewest : List Cond := .code yX8_fewest cX8_fewest 3 (some .int) :: ((wsX8_fewest_r1 ++ wsX8_fewest_r2) ++ wsX80)
def wsX8_chain_r1 : List Cond := [Cond.fieldLink RX8 52 "SumOfTwoThatStandModel" "tried" "[I", Cond.methodLink RX8 127 yX8_no, Cond.instanceMethod yX8_no, Cond.selects RX8 yX8_no yX8_no, Cond.initialized RX8, Cond.code yX8_no cX8_no 2 (some .int), Cond.fieldLink RX8 7 "SumOfTwoThatStandModel" "refused" "[I", Cond.methodLink RX8 234 yX8_shortest, Cond.instanceMethod yX8_shortest, Cond.selects RX8 yX8_shortest yX8_shortest, Cond.code yX8_shortest cX8_shortest 4 (some .int), Cond.fieldLink RX8 222 "SumOfTwoThatStandModel" "wanted" "I", Cond.fieldLink RX8 213 "SumOfTwoThatStandModel" "goal" "I", Cond.methodLink RX8 231 yX8_findsChain, Cond.instanceMethod yX8_findsChain, Cond.selects RX8 yX8_findsChain yX8_findsChain, Cond.code yX8_findsChain cX8_findsChain 3 (some .boolean), Cond.methodLink RX8 228 yX8_nextTry, Cond.instanceMethod yX8_nextTry, Cond.selects RX8 yX8_nextTry yX8_nextTry, Cond.code yX8_nextTry cX8_nextTry 6 (some .int), Cond.methodLink RX8 225 yX8_goesOn, Cond.instanceMethod yX8_goesOn, Cond.selects RX8 yX8_goesOn yX8_goesOn]
def wsX8_chain_r2 : List Cond := [Cond.code yX8_goesOn cX8_goesOn 4 (some .boolean), Cond.methodLink RX8 216 yX8_isSum, Cond.instanceMethod yX8_isSum, Cond.selects RX8 yX8_isSum yX8_isSum, Cond.code yX8_isSum cX8_isSum 5 (some .boolean), Cond.methodLink RX8 219 yX8_canReach, Cond.instanceMethod yX8_canReach, Cond.selects RX8 yX8_canReach yX8_canReach, Cond.code yX8_canReach cX8_canReach 5 (some .boolean)]
def wsX8_chain : List Cond := .code yX8_chain cX8_chain 5 (some .int) :: ((wsX8_chain_r1 ++ wsX8_chain_r2) ++ wsX80)
def wsX8_halves : List Cond := .code yX8_halves cX8_halves 3 (some .int) :: ([])
def wsX8_leastFactor : List Cond := .code yX8_leastFactor cX8_leastFactor 2 (some .int) :: ([])
def wsX8_factors : List Cond := .code yX8_factors cX8_factors 4 (some .int) :: ([.fieldLink RX8 55 "SumOfTwoThatStandModel" "byFactors" "[I", .methodLink RX8 238 yX8_leastFactor, .static yX8_leastFactor, .initialized RX8, .code yX8_leastFactor cX8_leastFactor 2 (some .int)] ++ wsX80)
def wsX8_way : List Cond := .code yX8_way cX8_way 4 (some .int) :: ([.methodLink RX8 78 yX8_isIn, .static yX8_isIn, .initialized RX8, .code yX8_isIn cX8_isIn 3 (some .boolean), .methodLink RX8 120 yX8_bound, .static yX8_bound, .code yX8_bound cX8_bound 3 (some .int), .methodLink RX8 127 yX8_no, .instanceMethod yX8_no, .selects RX8 yX8_no yX8_no, .code yX8_no cX8_no 2 (some .int), .fieldLink RX8 7 "SumOfTwoThatStandModel" "refused" "[I", .methodLink RX8 241 yX8_halves, .static yX8_halves, .code yX8_halves cX8_halves 3 (some .int), .methodLink RX8 244 yX8_factors, .instanceMethod yX8_factors, .selects RX8 yX8_factors yX8_factors, .code yX8_factors cX8_factors 4 (some .int), .fieldLink RX8 55 "SumOfTwoThatStandModel" "byFactors" "[I", .methodLink RX8 238 yX8_leastFactor, .static yX8_leastFactor, .code yX8_leastFactor cX8_leastFactor 2 (some .int)] ++ wsX80)
def wsX8_both_r1 : List Cond := [Cond.methodLink RX8 127 yX8_no, Cond.instanceMethod yX8_no, Cond.selects RX8 yX8_no yX8_no, Cond.initialized RX8, Cond.code yX8_no cX8_no 2 (some .int), Cond.fieldLink RX8 7 "SumOfTwoThatStandModel" "refused" "[I", Cond.methodLink RX8 234 yX8_shortest, Cond.instanceMethod yX8_shortest, Cond.selects RX8 yX8_shortest yX8_shortest, Cond.code yX8_shortest cX8_shortest 4 (some .int), Cond.fieldLink RX8 222 "SumOfTwoThatStandModel" "wanted" "I", Cond.fieldLink RX8 213 "SumOfTwoThatStandModel" "goal" "I", Cond.methodLink RX8 231 yX8_findsChain, Cond.instanceMethod yX8_findsChain, Cond.selects RX8 yX8_findsChain yX8_findsChain, Cond.code yX8_findsChain cX8_findsChain 3 (some .boolean), Cond.fieldLink RX8 52 "SumOfTwoThatStandModel" "tried" "[I", Cond.methodLink RX8 228 yX8_nextTry, Cond.instanceMethod yX8_nextTry, Cond.selects RX8 yX8_nextTry yX8_nextTry, Cond.code yX8_nextTry cX8_nextTry 6 (some .int), Cond.methodLink RX8 225 yX8_goesOn, Cond.instanceMethod yX8_goesOn, Cond.selects RX8 yX8_goesOn yX8_goesOn]
def wsX8_both_r2 : List Cond := [Cond.code yX8_goesOn cX8_goesOn 4 (some .boolean), Cond.methodLink RX8 216 yX8_isSum, Cond.instanceMethod yX8_isSum, Cond.selects RX8 yX8_isSum yX8_isSum, Cond.code yX8_isSum cX8_isSum 5 (some .boolean), Cond.methodLink RX8 219 yX8_canReach, Cond.instanceMethod yX8_canReach, Cond.selects RX8 yX8_canReach yX8_canReach, Cond.code yX8_canReach cX8_canReach 5 (some .boolean)]
def wsX8_both : List Cond := .code yX8_both cX8_both 4 (some .int) :: ((wsX8_both_r1 ++ wsX8_both_r2) ++ wsX80)
def wsX8_far : List Cond := .code yX8_far cX8_far 3 (some .int) :: ([.methodLink RX8 120 yX8_bound, .static yX8_bound, .initialized RX8, .code yX8_bound cX8_bound 3 (some .int), .methodLink RX8 127 yX8_no, .instanceMethod yX8_no, .selects RX8 yX8_no yX8_no, .code yX8_no cX8_no 2 (some .int), .fieldLink RX8 7 "SumOfTwoThatStandModel" "refused" "[I"] ++ wsX80)
def wsX8_isWithin : List Cond := .code yX8_isWithin cX8_isWithin 4 (some .boolean) :: ([.fieldLink RX8 222 "SumOfTwoThatStandModel" "wanted" "I", .fieldLink RX8 213 "SumOfTwoThatStandModel" "goal" "I", .methodLink RX8 231 yX8_findsChain, .instanceMethod yX8_findsChain, .selects RX8 yX8_findsChain yX8_findsChain, .initialized RX8, .code yX8_findsChain cX8_findsChain 3 (some .boolean), .fieldLink RX8 52 "SumOfTwoThatStandModel" "tried" "[I", .methodLink RX8 228 yX8_nextTry, .instanceMethod yX8_nextTry, .selects RX8 yX8_nextTry yX8_nextTry, .code yX8_nextTry cX8_nextTry 6 (some .int), .methodLink RX8 225 yX8_goesOn, .instanceMethod yX8_goesOn, .selects RX8 yX8_goesOn yX8_goesOn, .code yX8_goesOn cX8_goesOn 4 (some .boolean), .methodLink RX8 216 yX8_isSum, .instanceMethod yX8_isSum, .selects RX8 yX8_isSum yX8_isSum, .code yX8_isSum cX8_isSum 5 (some .boolean), .methodLink RX8 219 yX8_canReach, .instanceMethod yX8_canReach, .selects RX8 yX8_canReach yX8_canReach, .code yX8_canReach cX8_canReach 5 (some .boolean)] ++ wsX80)
def wsX8_can_r1 : List Cond := [Cond.methodLink RX8 78 yX8_isIn, Cond.static yX8_isIn, Cond.initialized RX8, Cond.code yX8_isIn cX8_isIn 3 (some .boolean), Cond.methodLink RX8 120 yX8_bound, Cond.static yX8_bound, Cond.code yX8_bound cX8_bound 3 (some .int), Cond.methodLink RX8 127 yX8_no, Cond.instanceMethod yX8_no, Cond.selects RX8 yX8_no yX8_no, Cond.code yX8_no cX8_no 2 (some .int), Cond.fieldLink RX8 7 "SumOfTwoThatStandModel" "refused" "[I", Cond.methodLink RX8 247 yX8_isWithin, Cond.instanceMethod yX8_isWithin, Cond.selects RX8 yX8_isWithin yX8_isWithin, Cond.code yX8_isWithin cX8_isWithin 4 (some .boolean), Cond.fieldLink RX8 222 "SumOfTwoThatStandModel" "wanted" "I", Cond.fieldLink RX8 213 "SumOfTwoThatStandModel" "goal" "I", Cond.methodLink RX8 231 yX8_findsChain, Cond.instanceMethod yX8_findsChain, Cond.selects RX8 yX8_findsChain yX8_findsChain, Cond.code yX8_findsChain cX8_findsChain 3 (some .boolean), Cond.fieldLink RX8 52 "SumOfTwoThatStandModel" "tried" "[I", Cond.methodLink RX8 228 yX8_nextTry]
def wsX8_can_r2 : List Cond := [Cond.instanceMethod yX8_nextTry, Cond.selects RX8 yX8_nextTry yX8_nextTry, Cond.code yX8_nextTry cX8_nextTry 6 (some .int), Cond.methodLink RX8 225 yX8_goesOn, Cond.instanceMethod yX8_goesOn, Cond.selects RX8 yX8_goesOn yX8_goesOn, Cond.code yX8_goesOn cX8_goesOn 4 (some .boolean), Cond.methodLink RX8 216 yX8_isSum, Cond.instanceMethod yX8_isSum, Cond.selects RX8 yX8_isSum yX8_isSum, Cond.code yX8_isSum cX8_isSum 5 (some .boolean), Cond.methodLink RX8 219 yX8_canReach, Cond.instanceMethod yX8_canReach, Cond.selects RX8 yX8_canReach yX8_canReach, Cond.code yX8_canReach cX8_canReach 5 (some .boolean)]
def wsX8_can : List Cond := .code yX8_can cX8_can 8 (some .int) :: ((wsX8_can_r1 ++ wsX8_can_r2) ++ wsX80)
def wsX8_comesToIn1_r1 : List Cond := [Cond.fieldLink RX8 70 "SumOfTwoThatStandModel" "houses" "I", Cond.fieldLink RX8 13 "SumOfTwoThatStandModel" "number" "[I", Cond.methodLink RX8 201 yX8_canBe, Cond.instanceMethod yX8_canBe, Cond.selects RX8 yX8_canBe yX8_canBe, Cond.initialized RX8, Cond.code yX8_canBe cX8_canBe 3 (some .boolean), Cond.methodLink RX8 151 yX8_doesStand, Cond.instanceMethod yX8_doesStand, Cond.selects RX8 yX8_doesStand yX8_doesStand, Cond.code yX8_doesStand cX8_doesStand 2 (some .boolean), Cond.fieldLink RX8 28 "SumOfTwoThatStandModel" "stands" "[I", Cond.methodLink RX8 82 yX8_isHouse, Cond.instanceMethod yX8_isHouse, Cond.selects RX8 yX8_isHouse yX8_isHouse, Cond.code yX8_isHouse cX8_isHouse 2 (some .boolean), Cond.methodLink RX8 78 yX8_isIn, Cond.static yX8_isIn, Cond.code yX8_isIn cX8_isIn 3 (some .boolean), Cond.methodLink RX8 154 yX8_mayBe, Cond.instanceMethod yX8_mayBe, Cond.selects RX8 yX8_mayBe yX8_mayBe, Cond.code yX8_mayBe cX8_mayBe 4 (some .boolean), Cond.methodLink RX8 93 yX8_lends]
def wsX8_comesToIn1_r2 : List Cond := [Cond.instanceMethod yX8_lends, Cond.selects RX8 yX8_lends yX8_lends, Cond.code yX8_lends cX8_lends 3 (some .boolean), Cond.fieldLink RX8 16 "SumOfTwoThatStandModel" "kind" "[I", Cond.fieldLink RX8 31 "SumOfTwoThatStandModel" "uses" "[I", Cond.methodLink RX8 97 yX8_isThere, Cond.instanceMethod yX8_isThere, Cond.selects RX8 yX8_isThere yX8_isThere, Cond.code yX8_isThere cX8_isThere 3 (some .boolean), Cond.methodLink RX8 100 yX8_isLawful, Cond.instanceMethod yX8_isLawful, Cond.selects RX8 yX8_isLawful yX8_isLawful, Cond.code yX8_isLawful cX8_isLawful 3 (some .boolean), Cond.fieldLink RX8 86 "SumOfTwoThatStandModel" "sums" "I", Cond.methodLink RX8 89 yX8_latest, Cond.instanceMethod yX8_latest, Cond.selects RX8 yX8_latest yX8_latest, Cond.code yX8_latest cX8_latest 3 (some .int)]
def wsX8_comesToIn1 : List Cond := .code yX8_comesToIn1 cX8_comesToIn1 4 (some .boolean) :: ((wsX8_comesToIn1_r1 ++ wsX8_comesToIn1_r2) ++ wsX80)
def wsX8_comesToIn2_r1 : List Cond := [Cond.fieldLink RX8 70 "SumOfTwoThatStandModel" "houses" "I", Cond.methodLink RX8 201 yX8_canBe, Cond.instanceMethod yX8_canBe, Cond.selects RX8 yX8_canBe yX8_canBe, Cond.initialized RX8, Cond.code yX8_canBe cX8_canBe 3 (some .boolean), Cond.methodLink RX8 151 yX8_doesStand, Cond.instanceMethod yX8_doesStand, Cond.selects RX8 yX8_doesStand yX8_doesStand, Cond.code yX8_doesStand cX8_doesStand 2 (some .boolean), Cond.fieldLink RX8 28 "SumOfTwoThatStandModel" "stands" "[I", Cond.methodLink RX8 82 yX8_isHouse, Cond.instanceMethod yX8_isHouse, Cond.selects RX8 yX8_isHouse yX8_isHouse, Cond.code yX8_isHouse cX8_isHouse 2 (some .boolean), Cond.methodLink RX8 78 yX8_isIn, Cond.static yX8_isIn, Cond.code yX8_isIn cX8_isIn 3 (some .boolean), Cond.methodLink RX8 154 yX8_mayBe, Cond.instanceMethod yX8_mayBe, Cond.selects RX8 yX8_mayBe yX8_mayBe, Cond.code yX8_mayBe cX8_mayBe 4 (some .boolean), Cond.fieldLink RX8 13 "SumOfTwoThatStandModel" "number" "[I", Cond.methodLink RX8 93 yX8_lends]
def wsX8_comesToIn2_r2 : List Cond := [Cond.instanceMethod yX8_lends, Cond.selects RX8 yX8_lends yX8_lends, Cond.code yX8_lends cX8_lends 3 (some .boolean), Cond.fieldLink RX8 16 "SumOfTwoThatStandModel" "kind" "[I", Cond.fieldLink RX8 31 "SumOfTwoThatStandModel" "uses" "[I", Cond.methodLink RX8 97 yX8_isThere, Cond.instanceMethod yX8_isThere, Cond.selects RX8 yX8_isThere yX8_isThere, Cond.code yX8_isThere cX8_isThere 3 (some .boolean), Cond.methodLink RX8 100 yX8_isLawful, Cond.instanceMethod yX8_isLawful, Cond.selects RX8 yX8_isLawful yX8_isLawful, Cond.code yX8_isLawful cX8_isLawful 3 (some .boolean), Cond.fieldLink RX8 86 "SumOfTwoThatStandModel" "sums" "I", Cond.methodLink RX8 89 yX8_latest, Cond.instanceMethod yX8_latest, Cond.selects RX8 yX8_latest yX8_latest, Cond.code yX8_latest cX8_latest 3 (some .int), Cond.methodLink RX8 177 yX8_passesAll, Cond.instanceMethod yX8_passesAll, Cond.selects RX8 yX8_passesAll yX8_passesAll, Cond.code yX8_passesAll cX8_passesAll 3 none, Cond.fieldLink RX8 188 "SumOfTwoThatStandModel" "cursor" "I", Cond.fieldLink RX8 184 "SumOfTwoThatStandModel" "isKeeping" "Z"]
def wsX8_comesToIn2_r3 : List Cond := [Cond.fieldLink RX8 19 "SumOfTwoThatStandModel" "figure" "[I", Cond.fieldLink RX8 22 "SumOfTwoThatStandModel" "one" "[I", Cond.fieldLink RX8 25 "SumOfTwoThatStandModel" "other" "[I", Cond.fieldLink RX8 34 "SumOfTwoThatStandModel" "earned" "[I", Cond.fieldLink RX8 111 "SumOfTwoThatStandModel" "falls" "I", Cond.methodLink RX8 191 yX8_passes, Cond.instanceMethod yX8_passes, Cond.selects RX8 yX8_passes yX8_passes, Cond.code yX8_passes cX8_passes 3 none, Cond.fieldLink RX8 49 "SumOfTwoThatStandModel" "kept" "[I", Cond.methodLink RX8 195 yX8_passOne, Cond.instanceMethod yX8_passOne, Cond.selects RX8 yX8_passOne yX8_passOne, Cond.code yX8_passOne cX8_passOne 3 (some .int), Cond.methodLink RX8 157 yX8_builds, Cond.instanceMethod yX8_builds, Cond.selects RX8 yX8_builds yX8_builds, Cond.code yX8_builds cX8_builds 6 none, Cond.methodLink RX8 107 yX8_isUsed, Cond.instanceMethod yX8_isUsed, Cond.selects RX8 yX8_isUsed yX8_isUsed, Cond.code yX8_isUsed cX8_isUsed 2 none, Cond.methodLink RX8 103 yX8_fee, Cond.instanceMethod yX8_fee]
def wsX8_comesToIn2_r4 : List Cond := [Cond.selects RX8 yX8_fee yX8_fee, Cond.code yX8_fee cX8_fee 2 (some .int), Cond.methodLink RX8 74 yX8_isMore, Cond.instanceMethod yX8_isMore, Cond.selects RX8 yX8_isMore yX8_isMore, Cond.code yX8_isMore cX8_isMore 6 none, Cond.methodLink RX8 250 yX8_comesToIn1, Cond.instanceMethod yX8_comesToIn1, Cond.selects RX8 yX8_comesToIn1 yX8_comesToIn1, Cond.code yX8_comesToIn1 cX8_comesToIn1 4 (some .boolean)]
def wsX8_comesToIn2 : List Cond := .code yX8_comesToIn2 cX8_comesToIn2 6 (some .boolean) :: ((wsX8_comesToIn2_r1 ++ (wsX8_comesToIn2_r2 ++ (wsX8_comesToIn2_r3 ++ wsX8_comesToIn2_r4))) ++ wsX80)
def wsX8_more_r1 : List Cond := [Cond.methodLink RX8 120 yX8_bound, Cond.static yX8_bound, Cond.initialized RX8, Cond.code yX8_bound cX8_bound 3 (some .int), Cond.methodLink RX8 127 yX8_no, Cond.instanceMethod yX8_no, Cond.selects RX8 yX8_no yX8_no, Cond.code yX8_no cX8_no 2 (some .int), Cond.fieldLink RX8 7 "SumOfTwoThatStandModel" "refused" "[I", Cond.methodLink RX8 97 yX8_isThere, Cond.instanceMethod yX8_isThere, Cond.selects RX8 yX8_isThere yX8_isThere, Cond.code yX8_isThere cX8_isThere 3 (some .boolean), Cond.fieldLink RX8 70 "SumOfTwoThatStandModel" "houses" "I", Cond.fieldLink RX8 28 "SumOfTwoThatStandModel" "stands" "[I", Cond.fieldLink RX8 13 "SumOfTwoThatStandModel" "number" "[I", Cond.methodLink RX8 250 yX8_comesToIn1, Cond.instanceMethod yX8_comesToIn1, Cond.selects RX8 yX8_comesToIn1 yX8_comesToIn1, Cond.code yX8_comesToIn1 cX8_comesToIn1 4 (some .boolean), Cond.methodLink RX8 201 yX8_canBe, Cond.instanceMethod yX8_canBe, Cond.selects RX8 yX8_canBe yX8_canBe, Cond.code yX8_canBe cX8_canBe 3 (some .boolean)]
def wsX8_more_r2 : List Cond := [Cond.methodLink RX8 151 yX8_doesStand, Cond.instanceMethod yX8_doesStand, Cond.selects RX8 yX8_doesStand yX8_doesStand, Cond.code yX8_doesStand cX8_doesStand 2 (some .boolean), Cond.methodLink RX8 82 yX8_isHouse, Cond.instanceMethod yX8_isHouse, Cond.selects RX8 yX8_isHouse yX8_isHouse, Cond.code yX8_isHouse cX8_isHouse 2 (some .boolean), Cond.methodLink RX8 78 yX8_isIn, Cond.static yX8_isIn, Cond.code yX8_isIn cX8_isIn 3 (some .boolean), Cond.methodLink RX8 154 yX8_mayBe, Cond.instanceMethod yX8_mayBe, Cond.selects RX8 yX8_mayBe yX8_mayBe, Cond.code yX8_mayBe cX8_mayBe 4 (some .boolean), Cond.methodLink RX8 93 yX8_lends, Cond.instanceMethod yX8_lends, Cond.selects RX8 yX8_lends yX8_lends, Cond.code yX8_lends cX8_lends 3 (some .boolean), Cond.fieldLink RX8 16 "SumOfTwoThatStandModel" "kind" "[I", Cond.fieldLink RX8 31 "SumOfTwoThatStandModel" "uses" "[I", Cond.methodLink RX8 100 yX8_isLawful, Cond.instanceMethod yX8_isLawful, Cond.selects RX8 yX8_isLawful yX8_isLawful]
def wsX8_more_r3 : List Cond := [Cond.code yX8_isLawful cX8_isLawful 3 (some .boolean), Cond.fieldLink RX8 86 "SumOfTwoThatStandModel" "sums" "I", Cond.methodLink RX8 89 yX8_latest, Cond.instanceMethod yX8_latest, Cond.selects RX8 yX8_latest yX8_latest, Cond.code yX8_latest cX8_latest 3 (some .int), Cond.methodLink RX8 253 yX8_comesToIn2, Cond.instanceMethod yX8_comesToIn2, Cond.selects RX8 yX8_comesToIn2 yX8_comesToIn2, Cond.code yX8_comesToIn2 cX8_comesToIn2 6 (some .boolean), Cond.methodLink RX8 177 yX8_passesAll, Cond.instanceMethod yX8_passesAll, Cond.selects RX8 yX8_passesAll yX8_passesAll, Cond.code yX8_passesAll cX8_passesAll 3 none, Cond.fieldLink RX8 188 "SumOfTwoThatStandModel" "cursor" "I", Cond.fieldLink RX8 184 "SumOfTwoThatStandModel" "isKeeping" "Z", Cond.fieldLink RX8 19 "SumOfTwoThatStandModel" "figure" "[I", Cond.fieldLink RX8 22 "SumOfTwoThatStandModel" "one" "[I", Cond.fieldLink RX8 25 "SumOfTwoThatStandModel" "other" "[I", Cond.fieldLink RX8 34 "SumOfTwoThatStandModel" "earned" "[I", Cond.fieldLink RX8 111 "SumOfTwoThatStandModel" "falls" "I", Cond.methodLink RX8 191 yX8_passes, Cond.instanceMethod yX8_passes, Cond.selects RX8 yX8_passes yX8_passes]
def wsX8_more_r4 : List Cond := [Cond.code yX8_passes cX8_passes 3 none, Cond.fieldLink RX8 49 "SumOfTwoThatStandModel" "kept" "[I", Cond.methodLink RX8 195 yX8_passOne, Cond.instanceMethod yX8_passOne, Cond.selects RX8 yX8_passOne yX8_passOne, Cond.code yX8_passOne cX8_passOne 3 (some .int), Cond.methodLink RX8 157 yX8_builds, Cond.instanceMethod yX8_builds, Cond.selects RX8 yX8_builds yX8_builds, Cond.code yX8_builds cX8_builds 6 none, Cond.methodLink RX8 107 yX8_isUsed, Cond.instanceMethod yX8_isUsed, Cond.selects RX8 yX8_isUsed yX8_isUsed, Cond.code yX8_isUsed cX8_isUsed 2 none, Cond.methodLink RX8 103 yX8_fee, Cond.instanceMethod yX8_fee, Cond.selects RX8 yX8_fee yX8_fee, Cond.code yX8_fee cX8_fee 2 (some .int), Cond.methodLink RX8 74 yX8_isMore, Cond.instanceMethod yX8_isMore, Cond.selects RX8 yX8_isMore yX8_isMore, Cond.code yX8_isMore cX8_isMore 6 none]
def wsX8_more : List Cond := .code yX8_more cX8_more 3 (some .int) :: ((wsX8_more_r1 ++ (wsX8_more_r2 ++ (wsX8_more_r3 ++ wsX8_more_r4))) ++ wsX80)
def wsX8_needs : List Cond := .code yX8_needs cX8_needs 3 (some .int) :: ([.fieldLink RX8 22 "SumOfTwoThatStandModel" "one" "[I", .fieldLink RX8 25 "SumOfTwoThatStandModel" "other" "[I", .methodLink RX8 204 yX8_standing, .instanceMethod yX8_standing, .selects RX8 yX8_standing yX8_standing, .initialized RX8, .code yX8_standing cX8_standing 3 (some .int), .fieldLink RX8 70 "SumOfTwoThatStandModel" "houses" "I", .fieldLink RX8 28 "SumOfTwoThatStandModel" "stands" "[I"] ++ wsX80)
def wsX8_orders : List Cond := .code yX8_orders cX8_orders 5 (some .int) :: ([.fieldLink RX8 58 "SumOfTwoThatStandModel" "ways" "[I", .fieldLink RX8 70 "SumOfTwoThatStandModel" "houses" "I", .methodLink RX8 204 yX8_standing, .instanceMethod yX8_standing, .selects RX8 yX8_standing yX8_standing, .initialized RX8, .code yX8_standing cX8_standing 3 (some .int), .fieldLink RX8 28 "SumOfTwoThatStandModel" "stands" "[I", .methodLink RX8 256 yX8_has, .static yX8_has, .code yX8_has cX8_has 2 (some .boolean), .methodLink RX8 259 yX8_needs, .instanceMethod yX8_needs, .selects RX8 yX8_needs yX8_needs, .code yX8_needs cX8_needs 3 (some .int), .fieldLink RX8 22 "SumOfTwoThatStandModel" "one" "[I", .fieldLink RX8 25 "SumOfTwoThatStandModel" "other" "[I"] ++ wsX80)
def wsX8_isSumIn : List Cond := .code yX8_isSumIn cX8_isSumIn 4 (some .boolean) :: ([.methodLink RX8 256 yX8_has, .static yX8_has, .initialized RX8, .code yX8_has cX8_has 2 (some .boolean)])
def wsX8_doesWin : List Cond := .code yX8_doesWin cX8_doesWin 4 (some .boolean) :: ([.fieldLink RX8 61 "SumOfTwoThatStandModel" "wins" "[I", .methodLink RX8 256 yX8_has, .static yX8_has, .initialized RX8, .code yX8_has cX8_has 2 (some .boolean), .methodLink RX8 262 yX8_isSumIn, .instanceMethod yX8_isSumIn, .selects RX8 yX8_isSumIn yX8_isSumIn, .code yX8_isSumIn cX8_isSumIn 4 (some .boolean)] ++ wsX80)
def wsX8_game : List Cond := .code yX8_game cX8_game 4 (some .int) :: ([.fieldLink RX8 61 "SumOfTwoThatStandModel" "wins" "[I", .methodLink RX8 120 yX8_bound, .static yX8_bound, .initialized RX8, .code yX8_bound cX8_bound 3 (some .int), .methodLink RX8 127 yX8_no, .instanceMethod yX8_no, .selects RX8 yX8_no yX8_no, .code yX8_no cX8_no 2 (some .int), .fieldLink RX8 7 "SumOfTwoThatStandModel" "refused" "[I", .methodLink RX8 256 yX8_has, .static yX8_has, .code yX8_has cX8_has 2 (some .boolean), .methodLink RX8 265 yX8_doesWin, .instanceMethod yX8_doesWin, .selects RX8 yX8_doesWin yX8_doesWin, .code yX8_doesWin cX8_doesWin 4 (some .boolean), .methodLink RX8 262 yX8_isSumIn, .instanceMethod yX8_isSumIn, .selects RX8 yX8_isSumIn yX8_isSumIn, .code yX8_isSumIn cX8_isSumIn 4 (some .boolean)] ++ wsX80)
def wsX8_row : List Cond := .code yX8_row cX8_row 3 (some .int) :: ([.fieldLink RX8 268 "SumOfTwoThatStandModel" "rowMany" "I", .fieldLink RX8 64 "SumOfTwoThatStandModel" "row" "[I", .methodLink RX8 120 yX8_bound, .static yX8_bound, .initialized RX8, .code yX8_bound cX8_bound 3 (some .int), .methodLink RX8 127 yX8_no, .instanceMethod yX8_no, .selects RX8 yX8_no yX8_no, .code yX8_no cX8_no 2 (some .int), .fieldLink RX8 7 "SumOfTwoThatStandModel" "refused" "[I"] ++ wsX80)
def wsX8_isWell : List Cond := .code yX8_isWell cX8_isWell 5 (some .boolean) :: ([.fieldLink RX8 64 "SumOfTwoThatStandModel" "row" "[I"] ++ wsX80)
def wsX8_judge : List Cond := .code yX8_judge cX8_judge 3 (some .int) :: ([.fieldLink RX8 268 "SumOfTwoThatStandModel" "rowMany" "I", .methodLink RX8 271 yX8_isWell, .instanceMethod yX8_isWell, .selects RX8 yX8_isWell yX8_isWell, .initialized RX8, .code yX8_isWell cX8_isWell 5 (some .boolean), .fieldLink RX8 64 "SumOfTwoThatStandModel" "row" "[I"] ++ wsX80)
def wsX8_draw : List Cond := .code yX8_draw cX8_draw 2 (some .int) :: ([.fieldLink RX8 274 "SumOfTwoThatStandModel" "lots" "I", .constant RX8 277 (1103515245), .constant RX8 278 (2147483647), .constant RX8 279 (65536)] ++ wsX80)
def wsX8_greatest : List Cond := .code yX8_greatest cX8_greatest 3 (some .int) :: ([.fieldLink RX8 70 "SumOfTwoThatStandModel" "houses" "I", .fieldLink RX8 28 "SumOfTwoThatStandModel" "stands" "[I", .fieldLink RX8 13 "SumOfTwoThatStandModel" "number" "[I"] ++ wsX80)
def wsX8_buildsByLot_r1 : List Cond := [Cond.fieldLink RX8 70 "SumOfTwoThatStandModel" "houses" "I", Cond.methodLink RX8 280 yX8_draw, Cond.instanceMethod yX8_draw, Cond.selects RX8 yX8_draw yX8_draw, Cond.initialized RX8, Cond.code yX8_draw cX8_draw 2 (some .int), Cond.fieldLink RX8 274 "SumOfTwoThatStandModel" "lots" "I", Cond.constant RX8 277 (1103515245), Cond.constant RX8 278 (2147483647), Cond.constant RX8 279 (65536), Cond.methodLink RX8 201 yX8_canBe, Cond.instanceMethod yX8_canBe, Cond.selects RX8 yX8_canBe yX8_canBe, Cond.code yX8_canBe cX8_canBe 3 (some .boolean), Cond.methodLink RX8 151 yX8_doesStand, Cond.instanceMethod yX8_doesStand, Cond.selects RX8 yX8_doesStand yX8_doesStand, Cond.code yX8_doesStand cX8_doesStand 2 (some .boolean), Cond.fieldLink RX8 28 "SumOfTwoThatStandModel" "stands" "[I", Cond.methodLink RX8 82 yX8_isHouse, Cond.instanceMethod yX8_isHouse, Cond.selects RX8 yX8_isHouse yX8_isHouse, Cond.code yX8_isHouse cX8_isHouse 2 (some .boolean), Cond.methodLink RX8 78 yX8_isIn]
def wsX8_buildsByLot_r2 : List Cond := [Cond.static yX8_isIn, Cond.code yX8_isIn cX8_isIn 3 (some .boolean), Cond.methodLink RX8 154 yX8_mayBe, Cond.instanceMethod yX8_mayBe, Cond.selects RX8 yX8_mayBe yX8_mayBe, Cond.code yX8_mayBe cX8_mayBe 4 (some .boolean), Cond.fieldLink RX8 13 "SumOfTwoThatStandModel" "number" "[I", Cond.methodLink RX8 93 yX8_lends, Cond.instanceMethod yX8_lends, Cond.selects RX8 yX8_lends yX8_lends, Cond.code yX8_lends cX8_lends 3 (some .boolean), Cond.fieldLink RX8 16 "SumOfTwoThatStandModel" "kind" "[I", Cond.fieldLink RX8 31 "SumOfTwoThatStandModel" "uses" "[I", Cond.methodLink RX8 97 yX8_isThere, Cond.instanceMethod yX8_isThere, Cond.selects RX8 yX8_isThere yX8_isThere, Cond.code yX8_isThere cX8_isThere 3 (some .boolean), Cond.methodLink RX8 100 yX8_isLawful, Cond.instanceMethod yX8_isLawful, Cond.selects RX8 yX8_isLawful yX8_isLawful, Cond.code yX8_isLawful cX8_isLawful 3 (some .boolean), Cond.fieldLink RX8 86 "SumOfTwoThatStandModel" "sums" "I", Cond.methodLink RX8 89 yX8_latest, Cond.instanceMethod yX8_latest]
def wsX8_buildsByLot_r3 : List Cond := [Cond.selects RX8 yX8_latest yX8_latest, Cond.code yX8_latest cX8_latest 3 (some .int), Cond.methodLink RX8 157 yX8_builds, Cond.instanceMethod yX8_builds, Cond.selects RX8 yX8_builds yX8_builds, Cond.code yX8_builds cX8_builds 6 none, Cond.methodLink RX8 107 yX8_isUsed, Cond.instanceMethod yX8_isUsed, Cond.selects RX8 yX8_isUsed yX8_isUsed, Cond.code yX8_isUsed cX8_isUsed 2 none, Cond.fieldLink RX8 34 "SumOfTwoThatStandModel" "earned" "[I", Cond.methodLink RX8 103 yX8_fee, Cond.instanceMethod yX8_fee, Cond.selects RX8 yX8_fee yX8_fee, Cond.code yX8_fee cX8_fee 2 (some .int), Cond.fieldLink RX8 19 "SumOfTwoThatStandModel" "figure" "[I", Cond.methodLink RX8 74 yX8_isMore, Cond.instanceMethod yX8_isMore, Cond.selects RX8 yX8_isMore yX8_isMore, Cond.code yX8_isMore cX8_isMore 6 none, Cond.fieldLink RX8 22 "SumOfTwoThatStandModel" "one" "[I", Cond.fieldLink RX8 25 "SumOfTwoThatStandModel" "other" "[I"]
def wsX8_buildsByLot : List Cond := .code yX8_buildsByLot cX8_buildsByLot 3 none :: ((wsX8_buildsByLot_r1 ++ (wsX8_buildsByLot_r2 ++ wsX8_buildsByLot_r3)) ++ wsX80)
def wsX8_seeds_r1 : List Cond := [Cond.fieldLink RX8 274 "SumOfTwoThatStandModel" "lots" "I", Cond.methodLink RX8 78 yX8_isIn, Cond.static yX8_isIn, Cond.initialized RX8, Cond.code yX8_isIn cX8_isIn 3 (some .boolean), Cond.methodLink RX8 120 yX8_bound, Cond.static yX8_bound, Cond.code yX8_bound cX8_bound 3 (some .int), Cond.methodLink RX8 127 yX8_no, Cond.instanceMethod yX8_no, Cond.selects RX8 yX8_no yX8_no, Cond.code yX8_no cX8_no 2 (some .int), Cond.fieldLink RX8 7 "SumOfTwoThatStandModel" "refused" "[I", Cond.methodLink RX8 177 yX8_passesAll, Cond.instanceMethod yX8_passesAll, Cond.selects RX8 yX8_passesAll yX8_passesAll, Cond.code yX8_passesAll cX8_passesAll 3 none, Cond.fieldLink RX8 188 "SumOfTwoThatStandModel" "cursor" "I", Cond.fieldLink RX8 184 "SumOfTwoThatStandModel" "isKeeping" "Z", Cond.fieldLink RX8 13 "SumOfTwoThatStandModel" "number" "[I", Cond.fieldLink RX8 16 "SumOfTwoThatStandModel" "kind" "[I", Cond.fieldLink RX8 19 "SumOfTwoThatStandModel" "figure" "[I", Cond.fieldLink RX8 22 "SumOfTwoThatStandModel" "one" "[I", Cond.fieldLink RX8 25 "SumOfTwoThatStandModel" "other" "[I"]
def wsX8_seeds_r2 : List Cond := [Cond.fieldLink RX8 28 "SumOfTwoThatStandModel" "stands" "[I", Cond.fieldLink RX8 31 "SumOfTwoThatStandModel" "uses" "[I", Cond.fieldLink RX8 34 "SumOfTwoThatStandModel" "earned" "[I", Cond.fieldLink RX8 70 "SumOfTwoThatStandModel" "houses" "I", Cond.fieldLink RX8 86 "SumOfTwoThatStandModel" "sums" "I", Cond.fieldLink RX8 111 "SumOfTwoThatStandModel" "falls" "I", Cond.methodLink RX8 191 yX8_passes, Cond.instanceMethod yX8_passes, Cond.selects RX8 yX8_passes yX8_passes, Cond.code yX8_passes cX8_passes 3 none, Cond.fieldLink RX8 49 "SumOfTwoThatStandModel" "kept" "[I", Cond.methodLink RX8 195 yX8_passOne, Cond.instanceMethod yX8_passOne, Cond.selects RX8 yX8_passOne yX8_passOne, Cond.code yX8_passOne cX8_passOne 3 (some .int), Cond.methodLink RX8 283 yX8_buildsByLot, Cond.instanceMethod yX8_buildsByLot, Cond.selects RX8 yX8_buildsByLot yX8_buildsByLot, Cond.code yX8_buildsByLot cX8_buildsByLot 3 none, Cond.methodLink RX8 280 yX8_draw, Cond.instanceMethod yX8_draw, Cond.selects RX8 yX8_draw yX8_draw, Cond.code yX8_draw cX8_draw 2 (some .int), Cond.constant RX8 277 (1103515245)]
def wsX8_seeds_r3 : List Cond := [Cond.constant RX8 278 (2147483647), Cond.constant RX8 279 (65536), Cond.methodLink RX8 201 yX8_canBe, Cond.instanceMethod yX8_canBe, Cond.selects RX8 yX8_canBe yX8_canBe, Cond.code yX8_canBe cX8_canBe 3 (some .boolean), Cond.methodLink RX8 151 yX8_doesStand, Cond.instanceMethod yX8_doesStand, Cond.selects RX8 yX8_doesStand yX8_doesStand, Cond.code yX8_doesStand cX8_doesStand 2 (some .boolean), Cond.methodLink RX8 82 yX8_isHouse, Cond.instanceMethod yX8_isHouse, Cond.selects RX8 yX8_isHouse yX8_isHouse, Cond.code yX8_isHouse cX8_isHouse 2 (some .boolean), Cond.methodLink RX8 154 yX8_mayBe, Cond.instanceMethod yX8_mayBe, Cond.selects RX8 yX8_mayBe yX8_mayBe, Cond.code yX8_mayBe cX8_mayBe 4 (some .boolean), Cond.methodLink RX8 93 yX8_lends, Cond.instanceMethod yX8_lends, Cond.selects RX8 yX8_lends yX8_lends, Cond.code yX8_lends cX8_lends 3 (some .boolean), Cond.methodLink RX8 97 yX8_isThere, Cond.instanceMethod yX8_isThere]
def wsX8_seeds_r4 : List Cond := [Cond.selects RX8 yX8_isThere yX8_isThere, Cond.code yX8_isThere cX8_isThere 3 (some .boolean), Cond.methodLink RX8 100 yX8_isLawful, Cond.instanceMethod yX8_isLawful, Cond.selects RX8 yX8_isLawful yX8_isLawful, Cond.code yX8_isLawful cX8_isLawful 3 (some .boolean), Cond.methodLink RX8 89 yX8_latest, Cond.instanceMethod yX8_latest, Cond.selects RX8 yX8_latest yX8_latest, Cond.code yX8_latest cX8_latest 3 (some .int), Cond.methodLink RX8 157 yX8_builds, Cond.instanceMethod yX8_builds, Cond.selects RX8 yX8_builds yX8_builds, Cond.code yX8_builds cX8_builds 6 none, Cond.methodLink RX8 107 yX8_isUsed, Cond.instanceMethod yX8_isUsed, Cond.selects RX8 yX8_isUsed yX8_isUsed, Cond.code yX8_isUsed cX8_isUsed 2 none, Cond.methodLink RX8 103 yX8_fee, Cond.instanceMethod yX8_fee, Cond.selects RX8 yX8_fee yX8_fee, Cond.code yX8_fee cX8_fee 2 (some .int), Cond.methodLink RX8 74 yX8_isMore, Cond.instanceMethod yX8_isMore]
def wsX8_seeds_r5 : List Cond := [Cond.selects RX8 yX8_isMore yX8_isMore, Cond.code yX8_isMore cX8_isMore 6 none, Cond.methodLink RX8 204 yX8_standing, Cond.instanceMethod yX8_standing, Cond.selects RX8 yX8_standing yX8_standing, Cond.code yX8_standing cX8_standing 3 (some .int), Cond.methodLink RX8 207 yX8_bits, Cond.static yX8_bits, Cond.code yX8_bits cX8_bits 3 (some .int), Cond.methodLink RX8 286 yX8_greatest, Cond.instanceMethod yX8_greatest, Cond.selects RX8 yX8_greatest yX8_greatest, Cond.code yX8_greatest cX8_greatest 3 (some .int)]
def wsX8_seeds : List Cond := .code yX8_seeds cX8_seeds 6 (some .int) :: ((wsX8_seeds_r1 ++ (wsX8_seeds_r2 ++ (wsX8_seeds_r3 ++ (wsX8_seeds_r4 ++ wsX8_seeds_r5)))) ++ wsX80)
def wsX8_allEarned : List Cond := .code yX8_allEarned cX8_allEarned 3 (some .int) :: ([.fieldLink RX8 70 "SumOfTwoThatStandModel" "houses" "I", .fieldLink RX8 34 "SumOfTwoThatStandModel" "earned" "[I"] ++ wsX80)
def wsX8_count_r1 : List Cond := [Cond.fieldLink RX8 7 "SumOfTwoThatStandModel" "refused" "[I", Cond.fieldLink RX8 70 "SumOfTwoThatStandModel" "houses" "I", Cond.fieldLink RX8 86 "SumOfTwoThatStandModel" "sums" "I", Cond.fieldLink RX8 111 "SumOfTwoThatStandModel" "falls" "I", Cond.fieldLink RX8 124 "SumOfTwoThatStandModel" "taped" "I", Cond.fieldLink RX8 268 "SumOfTwoThatStandModel" "rowMany" "I", Cond.methodLink RX8 78 yX8_isIn, Cond.static yX8_isIn, Cond.initialized RX8, Cond.code yX8_isIn cX8_isIn 3 (some .boolean), Cond.methodLink RX8 204 yX8_standing, Cond.instanceMethod yX8_standing, Cond.selects RX8 yX8_standing yX8_standing, Cond.code yX8_standing cX8_standing 3 (some .int), Cond.fieldLink RX8 28 "SumOfTwoThatStandModel" "stands" "[I", Cond.methodLink RX8 207 yX8_bits, Cond.static yX8_bits, Cond.code yX8_bits cX8_bits 3 (some .int), Cond.methodLink RX8 286 yX8_greatest, Cond.instanceMethod yX8_greatest, Cond.selects RX8 yX8_greatest yX8_greatest, Cond.code yX8_greatest cX8_greatest 3 (some .int), Cond.fieldLink RX8 13 "SumOfTwoThatStandModel" "number" "[I", Cond.methodLink RX8 289 yX8_allEarned]
def wsX8_count_r2 : List Cond := [Cond.instanceMethod yX8_allEarned, Cond.selects RX8 yX8_allEarned yX8_allEarned, Cond.code yX8_allEarned cX8_allEarned 3 (some .int), Cond.fieldLink RX8 34 "SumOfTwoThatStandModel" "earned" "[I"]
def wsX8_count : List Cond := .code yX8_count cX8_count 2 (some .int) :: ((wsX8_count_r1 ++ wsX8_count_r2) ++ wsX80)
def wsJ9_max_7cf53 : List Cond := .code yJ9_max_7cf53 cJ9_max_7cf53 2 (some .int) :: ([])
def wsJ9_min_7cf53 : List Cond := .code yJ9_min_7cf53 cJ9_min_7cf53 2 (some .int) :: ([])
def wsL_law_r1 : List Cond := [Cond.classLink RL 7 RX7, Cond.instantiable RX7 10, Cond.initialized RX7, Cond.classLink RL 10 RX8, Cond.instantiable RX8 33, Cond.initialized RX8, Cond.methodLink RL 9 yX7_init, Cond.instanceMethod yX7_init, Cond.code yX7_init cX7_init 1 none, Cond.methodLink RX7 1 objectInit, Cond.instanceMethod objectInit, Cond.code objectInit ⟨#[0xb1]⟩ 1 none, Cond.classLink RX7 7 RX5, Cond.instantiable RX5 11, Cond.initialized RX5, Cond.fieldLink RX7 10 "SumOfTwoThatStand" "live" "LSumOfTwoThatStand$Street;", Cond.fieldLink RX7 16 "SumOfTwoThatStand" "kept" "LSumOfTwoThatStand$Street;", Cond.fieldLink RX7 19 "SumOfTwoThatStand" "mind" "LSumOfTwoThatStand$Street;", Cond.classLink RX7 22 RX2, Cond.instantiable RX2 7, Cond.initialized RX2, Cond.fieldLink RX7 25 "SumOfTwoThatStand" "letters" "LSumOfTwoThatStand$Letters;", Cond.classLink RX7 29 RX4, Cond.instantiable RX4 2]
def wsL_law_r2 : List Cond := [Cond.initialized RX4, Cond.fieldLink RX7 32 "SumOfTwoThatStand" "told" "LSumOfTwoThatStand$Row;", Cond.classLink RX7 36 RX0, Cond.instantiable RX0 1, Cond.initialized RX0, Cond.fieldLink RX7 39 "SumOfTwoThatStand" "chains" "LSumOfTwoThatStand$Chains;", Cond.classLink RX7 43 RX3, Cond.instantiable RX3 1, Cond.initialized RX3, Cond.fieldLink RX7 46 "SumOfTwoThatStand" "comings" "LSumOfTwoThatStand$Orders;", Cond.classLink RX7 50 RX1, Cond.instantiable RX1 1, Cond.initialized RX1, Cond.fieldLink RX7 53 "SumOfTwoThatStand" "builders" "LSumOfTwoThatStand$Game;", Cond.arrayClass .int, Cond.fieldLink RX7 57 "SumOfTwoThatStand" "refusals" "[I", Cond.fieldLink RX7 61 "SumOfTwoThatStand" "isKept" "Z", Cond.methodLink RX7 9 yX5_init, Cond.instanceMethod yX5_init, Cond.code yX5_init cX5_init 1 none, Cond.methodLink RX5 3 objectInit, Cond.fieldLink RX5 9 "SumOfTwoThatStand$Street" "kinds" "[I", Cond.fieldLink RX5 15 "SumOfTwoThatStand$Street" "figures" "[I", Cond.fieldLink RX5 18 "SumOfTwoThatStand$Street" "numbers" "[I"]
def wsL_law_r3 : List Cond := [Cond.fieldLink RX5 21 "SumOfTwoThatStand$Street" "firsts" "[I", Cond.fieldLink RX5 24 "SumOfTwoThatStand$Street" "seconds" "[I", Cond.fieldLink RX5 27 "SumOfTwoThatStand$Street" "uses" "[I", Cond.fieldLink RX5 30 "SumOfTwoThatStand$Street" "earned" "[I", Cond.methodLink RX5 33 yX5_beginAnew, Cond.instanceMethod yX5_beginAnew, Cond.selects RX5 yX5_beginAnew yX5_beginAnew, Cond.code yX5_beginAnew cX5_beginAnew 1 none, Cond.fieldLink RX5 36 "SumOfTwoThatStand$Street" "came" "I", Cond.fieldLink RX5 40 "SumOfTwoThatStand$Street" "standing" "I", Cond.methodLink RX5 43 yX5_place, Cond.instanceMethod yX5_place, Cond.selects RX5 yX5_place yX5_place, Cond.code yX5_place cX5_place 6 none, Cond.methodLink RX5 94 yX5_hasRoom, Cond.instanceMethod yX5_hasRoom, Cond.selects RX5 yX5_hasRoom yX5_hasRoom, Cond.code yX5_hasRoom cX5_hasRoom 1 (some .boolean), Cond.methodLink RX7 24 yX2_init, Cond.instanceMethod yX2_init, Cond.code yX2_init cX2_init 1 none, Cond.fieldLink RX2 9 "SumOfTwoThatStand$Letters" "figures" "[I", Cond.methodLink RX2 3 yX6_init, Cond.instanceMethod yX6_init]
def wsL_law_r4 : List Cond := [Cond.initialized RX6, Cond.code yX6_init cX6_init 2 none, Cond.methodLink RX6 1 objectInit, Cond.methodLink RX6 7 Lib.Math.max.name, Cond.static Lib.Math.max.name, Cond.initialized "java/lang/Math", Cond.code Lib.Math.max.name Lib.Math.max.code 2 (some .int), Cond.fieldLink RX6 13 "SumOfTwoThatStand$Told" "all" "[I", Cond.methodLink RX7 31 yX4_init, Cond.instanceMethod yX4_init, Cond.code yX4_init cX4_init 1 none, Cond.methodLink RX4 3 yX6_init, Cond.methodLink RX7 38 yX0_init, Cond.instanceMethod yX0_init, Cond.code yX0_init cX0_init 1 none, Cond.methodLink RX0 3 objectInit, Cond.fieldLink RX0 11 "SumOfTwoThatStand$Chains" "numbers" "[I", Cond.instanceMethod yX3_init, Cond.code yX3_init cX3_init 1 none, Cond.methodLink RX3 3 objectInit, Cond.fieldLink RX3 9 "SumOfTwoThatStand$Orders" "ways" "[I", Cond.instanceMethod yX1_init, Cond.code yX1_init cX1_init 1 none, Cond.methodLink RX1 1 objectInit]
def wsL_law_r5 : List Cond := [Cond.arrayClass .boolean, Cond.fieldLink RX1 9 "SumOfTwoThatStand$Game" "wins" "[Z", Cond.methodLink RL 12 yX8_init, Cond.instanceMethod yX8_init, Cond.code yX8_init cX8_init 1 none, Cond.methodLink RX8 1 objectInit, Cond.fieldLink RX8 7 "SumOfTwoThatStandModel" "refused" "[I", Cond.fieldLink RX8 13 "SumOfTwoThatStandModel" "number" "[I", Cond.fieldLink RX8 16 "SumOfTwoThatStandModel" "kind" "[I", Cond.fieldLink RX8 19 "SumOfTwoThatStandModel" "figure" "[I", Cond.fieldLink RX8 22 "SumOfTwoThatStandModel" "one" "[I", Cond.fieldLink RX8 25 "SumOfTwoThatStandModel" "other" "[I", Cond.fieldLink RX8 28 "SumOfTwoThatStandModel" "stands" "[I", Cond.fieldLink RX8 31 "SumOfTwoThatStandModel" "uses" "[I", Cond.fieldLink RX8 34 "SumOfTwoThatStandModel" "earned" "[I", Cond.fieldLink RX8 37 "SumOfTwoThatStandModel" "tape" "[I", Cond.fieldLink RX8 40 "SumOfTwoThatStandModel" "sort" "[I", Cond.fieldLink RX8 43 "SumOfTwoThatStandModel" "sortAt" "[I", Cond.fieldLink RX8 46 "SumOfTwoThatStandModel" "told" "[I", Cond.fieldLink RX8 49 "SumOfTwoThatStandModel" "kept" "[I", Cond.fieldLink RX8 52 "SumOfTwoThatStandModel" "tried" "[I", Cond.fieldLink RX8 55 "SumOfTwoThatStandModel" "byFactors" "[I", Cond.fieldLink RX8 58 "SumOfTwoThatStandModel" "ways" "[I", Cond.fieldLink RX8 61 "SumOfTwoThatStandModel" "wins" "[I"]
def wsL_law_r6 : List Cond := [Cond.fieldLink RX8 64 "SumOfTwoThatStandModel" "row" "[I", Cond.methodLink RX8 67 yX8_beginsAnew, Cond.instanceMethod yX8_beginsAnew, Cond.selects RX8 yX8_beginsAnew yX8_beginsAnew, Cond.code yX8_beginsAnew cX8_beginsAnew 1 none, Cond.fieldLink RX8 70 "SumOfTwoThatStandModel" "houses" "I", Cond.methodLink RX8 74 yX8_isMore, Cond.instanceMethod yX8_isMore, Cond.selects RX8 yX8_isMore yX8_isMore, Cond.code yX8_isMore cX8_isMore 6 none, Cond.methodLink RL 13 yX7_feed, Cond.instanceMethod yX7_feed, Cond.selects RX7 yX7_feed yX7_feed, Cond.code yX7_feed cX7_feed 2 (some .int), Cond.methodLink RX7 65 yX7_refuse, Cond.instanceMethod yX7_refuse, Cond.selects RX7 yX7_refuse yX7_refuse, Cond.code yX7_refuse cX7_refuse 2 (some .int), Cond.methodLink RX7 69 ⟨"SumOfTwoThatStand$Letters", "hasRoom", "()Z"⟩, Cond.sameMethod "SumOfTwoThatStand$Letters" "SumOfTwoThatStand$Told" "hasRoom" "()Z", Cond.selects RX2 ⟨"SumOfTwoThatStand$Letters", "hasRoom", "()Z"⟩ yX6_hasRoom, Cond.instanceMethod yX6_hasRoom, Cond.code yX6_hasRoom cX6_hasRoom 1 (some .boolean), Cond.fieldLink RX6 19 "SumOfTwoThatStand$Told" "length" "I"]
def wsL_law_r7 : List Cond := [Cond.methodLink RX7 73 ⟨"SumOfTwoThatStand$Letters", "take", "(I)I"⟩, Cond.sameMethod "SumOfTwoThatStand$Letters" "SumOfTwoThatStand$Told" "take" "(I)I", Cond.selects RX2 ⟨"SumOfTwoThatStand$Letters", "take", "(I)I"⟩ yX6_take, Cond.instanceMethod yX6_take, Cond.code yX6_take cX6_take 2 (some .int), Cond.methodLink RX6 23 ⟨"SumOfTwoThatStand$Told", "hasRoom", "()Z"⟩, Cond.sameMethod "SumOfTwoThatStand$Told" "SumOfTwoThatStand$Told" "hasRoom" "()Z", Cond.selects RX2 ⟨"SumOfTwoThatStand$Told", "hasRoom", "()Z"⟩ yX6_hasRoom, Cond.selects RX4 ⟨"SumOfTwoThatStand$Told", "hasRoom", "()Z"⟩ yX6_hasRoom, Cond.methodLink RL 17 yX8_feed, Cond.instanceMethod yX8_feed, Cond.selects RX8 yX8_feed yX8_feed, Cond.code yX8_feed cX8_feed 3 (some .int), Cond.fieldLink RX8 124 "SumOfTwoThatStandModel" "taped" "I", Cond.methodLink RX8 120 yX8_bound, Cond.static yX8_bound, Cond.code yX8_bound cX8_bound 3 (some .int), Cond.methodLink RX8 127 yX8_no, Cond.instanceMethod yX8_no, Cond.selects RX8 yX8_no yX8_no, Cond.code yX8_no cX8_no 2 (some .int), Cond.methodLink RL 18 yX7_street, Cond.instanceMethod yX7_street, Cond.selects RX7 yX7_street yX7_street]
def wsL_law_r8 : List Cond := [Cond.code yX7_street cX7_street 2 (some .int), Cond.methodLink RX7 76 yX5_become, Cond.instanceMethod yX5_become, Cond.selects RX5 yX5_become yX5_become, Cond.code yX5_become cX5_become 2 none, Cond.methodLink RX5 47 arraycopyName, Cond.native arraycopyName, Cond.static arraycopyName, Cond.initialized "java/lang/System", Cond.fieldLink RX5 53 "SumOfTwoThatStand$Street" "sums" "I", Cond.fieldLink RX5 56 "SumOfTwoThatStand$Street" "falls" "I", Cond.methodLink RX7 80 yX2_faultOfForm, Cond.instanceMethod yX2_faultOfForm, Cond.selects RX2 yX2_faultOfForm yX2_faultOfForm, Cond.code yX2_faultOfForm cX2_faultOfForm 2 (some .int), Cond.fieldLink RX2 19 "SumOfTwoThatStand$Letters" "at" "I", Cond.fieldLink RX2 15 "SumOfTwoThatStand$Letters" "statements" "I", Cond.methodLink RX2 22 ⟨"SumOfTwoThatStand$Letters", "howMany", "()I"⟩, Cond.sameMethod "SumOfTwoThatStand$Letters" "SumOfTwoThatStand$Told" "howMany" "()I", Cond.selects RX2 ⟨"SumOfTwoThatStand$Letters", "howMany", "()I"⟩ yX6_howMany, Cond.instanceMethod yX6_howMany, Cond.code yX6_howMany cX6_howMany 1 (some .int), Cond.methodLink RX2 26 yX2_readStatement, Cond.instanceMethod yX2_readStatement]
def wsL_law_r9 : List Cond := [Cond.selects RX2 yX2_readStatement yX2_readStatement, Cond.code yX2_readStatement cX2_readStatement 3 (some .boolean), Cond.fieldLink RX2 34 "SumOfTwoThatStand$Letters" "verb" "I", Cond.fieldLink RX2 58 "SumOfTwoThatStand$Letters" "figureCount" "I", Cond.methodLink RX2 55 ⟨"SumOfTwoThatStand$Letters", "toldAt", "(I)I"⟩, Cond.sameMethod "SumOfTwoThatStand$Letters" "SumOfTwoThatStand$Told" "toldAt" "(I)I", Cond.selects RX2 ⟨"SumOfTwoThatStand$Letters", "toldAt", "(I)I"⟩ yX6_toldAt, Cond.instanceMethod yX6_toldAt, Cond.code yX6_toldAt cX6_toldAt 2 (some .int), Cond.methodLink RX2 61 yX2_formOf, Cond.static yX2_formOf, Cond.code yX2_formOf cX2_formOf 1 (some (.object "java/lang/String")), Cond.methodLink RX2 65 yJ0_isEmpty_aae02, Cond.instanceMethod yJ0_isEmpty_aae02, Cond.selects RJ0 yJ0_isEmpty_aae02 yJ0_isEmpty_aae02, Cond.initialized RJ0, Cond.code yJ0_isEmpty_aae02 cJ0_isEmpty_aae02 1 (some .boolean), Cond.fieldLink RJ0 9 "java/lang/String" "value" "[B", Cond.methodLink RX2 70 yJ0_length_8abf5, Cond.instanceMethod yJ0_length_8abf5, Cond.selects RJ0 yJ0_length_8abf5 yJ0_length_8abf5, Cond.code yJ0_length_8abf5 cJ0_length_8abf5 1 (some .int), Cond.methodLink RJ0 335 yJ0_coder_7d493, Cond.instanceMethod yJ0_coder_7d493]
def wsL_law_r10 : List Cond := [Cond.selects RJ0 yJ0_coder_7d493 yJ0_coder_7d493, Cond.code yJ0_coder_7d493 cJ0_coder_7d493 1 (some .byte), Cond.fieldLink RJ0 38 "java/lang/String" "COMPACT_STRINGS" "Z", Cond.fieldLink RJ0 15 "java/lang/String" "coder" "B", Cond.methodLink RX2 73 yJ0_charAt_5068e, Cond.instanceMethod yJ0_charAt_5068e, Cond.selects RJ0 yJ0_charAt_5068e yJ0_charAt_5068e, Cond.code yJ0_charAt_5068e cJ0_charAt_5068e 2 (some .char), Cond.methodLink RJ0 492 yJ0_isLatin1_aae02, Cond.instanceMethod yJ0_isLatin1_aae02, Cond.selects RJ0 yJ0_isLatin1_aae02 yJ0_isLatin1_aae02, Cond.code yJ0_isLatin1_aae02 cJ0_isLatin1_aae02 1 (some .boolean), Cond.methodLink RJ0 495 yJ1_charAt_3b067, Cond.static yJ1_charAt_3b067, Cond.initialized RJ1, Cond.code yJ1_charAt_3b067 cJ1_charAt_3b067 2 (some .char), Cond.methodLink RJ1 9 yJ0_checkIndex_df160, Cond.static yJ0_checkIndex_df160, Cond.code yJ0_checkIndex_df160 cJ0_checkIndex_df160 2 none, Cond.fieldLink RJ0 1053 "jdk/internal/util/Preconditions" "SIOOBE_FORMATTER" "Ljava/util/function/BiFunction;", Cond.methodLink RJ0 1059 yJ3_checkIndex_8e157, Cond.static yJ3_checkIndex_8e157, Cond.initialized RJ3, Cond.code yJ3_checkIndex_8e157 cJ3_checkIndex_8e157 3 (some .int)]
def wsL_law_r11 : List Cond := [Cond.methodLink RJ0 498 yJ2_charAt_3b067, Cond.static yJ2_charAt_3b067, Cond.initialized RJ2, Cond.code yJ2_charAt_3b067 cJ2_charAt_3b067 2 (some .char), Cond.methodLink RJ2 67 yJ2_checkIndex_2214a, Cond.static yJ2_checkIndex_2214a, Cond.code yJ2_checkIndex_2214a cJ2_checkIndex_2214a 2 none, Cond.methodLink RJ2 48 yJ2_length_9d52b, Cond.static yJ2_length_9d52b, Cond.code yJ2_length_9d52b cJ2_length_9d52b 1 (some .int), Cond.methodLink RJ2 414 yJ0_checkIndex_df160, Cond.methodLink RJ2 71 yJ2_getChar_3b067, Cond.static yJ2_getChar_3b067, Cond.code yJ2_getChar_3b067 cJ2_getChar_3b067 2 (some .char), Cond.fieldLink RJ2 44 "java/lang/StringUTF16" "$assertionsDisabled" "Z", Cond.fieldLink RJ2 59 "java/lang/StringUTF16" "HI_BYTE_SHIFT" "I", Cond.fieldLink RJ2 63 "java/lang/StringUTF16" "LO_BYTE_SHIFT" "I", Cond.methodLink RX2 77 yX2_readPart, Cond.instanceMethod yX2_readPart, Cond.selects RX2 yX2_readPart yX2_readPart, Cond.code yX2_readPart cX2_readPart 2 (some .boolean), Cond.methodLink RX2 91 yX2_readFigure, Cond.instanceMethod yX2_readFigure, Cond.selects RX2 yX2_readFigure yX2_readFigure]
def wsL_law_r12 : List Cond := [Cond.code yX2_readFigure cX2_readFigure 4 (some .boolean), Cond.methodLink RX2 95 yX2_isDigit, Cond.static yX2_isDigit, Cond.code yX2_isDigit cX2_isDigit 1 (some .boolean), Cond.methodLink RX7 84 yX2_faultOfSense, Cond.instanceMethod yX2_faultOfSense, Cond.selects RX2 yX2_faultOfSense yX2_faultOfSense, Cond.code yX2_faultOfSense cX2_faultOfSense 4 (some .int), Cond.methodLink RX2 30 yX2_comesTo, Cond.instanceMethod yX2_comesTo, Cond.selects RX2 yX2_comesTo yX2_comesTo, Cond.code yX2_comesTo cX2_comesTo 2 (some .boolean), Cond.methodLink RX2 37 yX5_build, Cond.instanceMethod yX5_build, Cond.selects RX5 yX5_build yX5_build, Cond.code yX5_build cX5_build 5 (some .boolean), Cond.methodLink RX5 98 yX5_isKind, Cond.static yX5_isKind, Cond.code yX5_isKind cX5_isKind 1 (some .boolean), Cond.methodLink RX5 101 yX5_mayBe, Cond.instanceMethod yX5_mayBe, Cond.selects RX5 yX5_mayBe yX5_mayBe, Cond.code yX5_mayBe cX5_mayBe 4 (some .boolean), Cond.methodLink RX5 79 yX5_stands]
def wsL_law_r13 : List Cond := [Cond.instanceMethod yX5_stands, Cond.selects RX5 yX5_stands yX5_stands, Cond.code yX5_stands cX5_stands 2 (some .boolean), Cond.methodLink RX5 59 yX5_has, Cond.instanceMethod yX5_has, Cond.selects RX5 yX5_has yX5_has, Cond.code yX5_has cX5_has 2 (some .boolean), Cond.methodLink RX5 63 yX5_isIn, Cond.static yX5_isIn, Cond.code yX5_isIn cX5_isIn 2 (some .boolean), Cond.methodLink RX5 82 yX5_isLawful, Cond.instanceMethod yX5_isLawful, Cond.selects RX5 yX5_isLawful yX5_isLawful, Cond.code yX5_isLawful cX5_isLawful 4 (some .boolean), Cond.methodLink RX5 91 yJ6_numberOfLeadingZeros_0f7a4, Cond.static yJ6_numberOfLeadingZeros_0f7a4, Cond.initialized RJ6, Cond.code yJ6_numberOfLeadingZeros_0f7a4 cJ6_numberOfLeadingZeros_0f7a4 2 (some .int), Cond.constant RJ6 264 (65536), Cond.methodLink RX5 85 yX5_lends, Cond.instanceMethod yX5_lends, Cond.selects RX5 yX5_lends yX5_lends, Cond.code yX5_lends cX5_lends 3 (some .boolean), Cond.methodLink RX5 88 yX5_isThere]
def wsL_law_r14 : List Cond := [Cond.instanceMethod yX5_isThere, Cond.selects RX5 yX5_isThere yX5_isThere, Cond.code yX5_isThere cX5_isThere 3 (some .boolean), Cond.methodLink RX5 104 yX5_use, Cond.instanceMethod yX5_use, Cond.selects RX5 yX5_use yX5_use, Cond.code yX5_use cX5_use 2 none, Cond.methodLink RX5 111 yX5_fee, Cond.instanceMethod yX5_fee, Cond.selects RX5 yX5_fee yX5_fee, Cond.code yX5_fee cX5_fee 2 (some .int), Cond.methodLink RX5 108 yX5_loseHut, Cond.instanceMethod yX5_loseHut, Cond.selects RX5 yX5_loseHut yX5_loseHut, Cond.code yX5_loseHut cX5_loseHut 2 none, Cond.methodLink RX2 43 yX5_fire, Cond.instanceMethod yX5_fire, Cond.selects RX5 yX5_fire yX5_fire, Cond.code yX5_fire cX5_fire 3 (some .int), Cond.methodLink RX5 114 yX5_fallsWith, Cond.instanceMethod yX5_fallsWith, Cond.selects RX5 yX5_fallsWith yX5_fallsWith, Cond.code yX5_fallsWith cX5_fallsWith 5 (some .int), Cond.methodLink RX5 67 yJ6_bitCount_0f7a4]
def wsL_law_r15 : List Cond := [Cond.static yJ6_bitCount_0f7a4, Cond.code yJ6_bitCount_0f7a4 cJ6_bitCount_0f7a4 1 (some .int), Cond.constant RJ6 265 (1431655765), Cond.constant RJ6 266 (858993459), Cond.constant RJ6 267 (252645135), Cond.methodLink RX2 47 yX5_changeLaws, Cond.instanceMethod yX5_changeLaws, Cond.selects RX5 yX5_changeLaws yX5_changeLaws, Cond.code yX5_changeLaws cX5_changeLaws 3 (some .boolean), Cond.methodLink RX2 51 yX5_beginAnew, Cond.methodLink RX7 88 ⟨"SumOfTwoThatStand$Letters", "forget", "()V"⟩, Cond.sameMethod "SumOfTwoThatStand$Letters" "SumOfTwoThatStand$Told" "forget" "()V", Cond.selects RX2 ⟨"SumOfTwoThatStand$Letters", "forget", "()V"⟩ yX6_forget, Cond.instanceMethod yX6_forget, Cond.code yX6_forget cX6_forget 1 none, Cond.methodLink RX7 91 yX2_statementCount, Cond.instanceMethod yX2_statementCount, Cond.selects RX2 yX2_statementCount yX2_statementCount, Cond.code yX2_statementCount cX2_statementCount 1 (some .int), Cond.methodLink RL 22 yX8_street, Cond.instanceMethod yX8_street, Cond.selects RX8 yX8_street yX8_street, Cond.code yX8_street cX8_street 3 (some .int), Cond.fieldLink RX8 130 "SumOfTwoThatStandModel" "reading" "I"]
def wsL_law_r16 : List Cond := [Cond.fieldLink RX8 145 "SumOfTwoThatStandModel" "statements" "I", Cond.methodLink RX8 173 yX8_statement, Cond.instanceMethod yX8_statement, Cond.selects RX8 yX8_statement yX8_statement, Cond.code yX8_statement cX8_statement 2 (some .boolean), Cond.fieldLink RX8 136 "SumOfTwoThatStandModel" "telling" "I", Cond.methodLink RX8 133 yX8_sign, Cond.instanceMethod yX8_sign, Cond.selects RX8 yX8_sign yX8_sign, Cond.code yX8_sign cX8_sign 1 (some .int), Cond.methodLink RX8 148 yX8_readsAll, Cond.instanceMethod yX8_readsAll, Cond.selects RX8 yX8_readsAll yX8_readsAll, Cond.code yX8_readsAll cX8_readsAll 2 (some .boolean), Cond.methodLink RX8 139 yX8_readsNumber, Cond.instanceMethod yX8_readsNumber, Cond.selects RX8 yX8_readsNumber yX8_readsNumber, Cond.code yX8_readsNumber cX8_readsNumber 4 (some .boolean), Cond.methodLink RX8 78 yX8_isIn, Cond.static yX8_isIn, Cond.code yX8_isIn cX8_isIn 3 (some .boolean), Cond.methodLink RX8 142 yX8_reads, Cond.instanceMethod yX8_reads, Cond.selects RX8 yX8_reads yX8_reads]
def wsL_law_r17 : List Cond := [Cond.code yX8_reads cX8_reads 2 (some .boolean), Cond.methodLink RX8 177 yX8_passesAll, Cond.instanceMethod yX8_passesAll, Cond.selects RX8 yX8_passesAll yX8_passesAll, Cond.code yX8_passesAll cX8_passesAll 3 none, Cond.fieldLink RX8 188 "SumOfTwoThatStandModel" "cursor" "I", Cond.fieldLink RX8 184 "SumOfTwoThatStandModel" "isKeeping" "Z", Cond.fieldLink RX8 86 "SumOfTwoThatStandModel" "sums" "I", Cond.fieldLink RX8 111 "SumOfTwoThatStandModel" "falls" "I", Cond.methodLink RX8 191 yX8_passes, Cond.instanceMethod yX8_passes, Cond.selects RX8 yX8_passes yX8_passes, Cond.code yX8_passes cX8_passes 3 none, Cond.methodLink RX8 195 yX8_passOne, Cond.instanceMethod yX8_passOne, Cond.selects RX8 yX8_passOne yX8_passOne, Cond.code yX8_passOne cX8_passOne 3 (some .int), Cond.methodLink RX8 181 yX8_comesTold, Cond.instanceMethod yX8_comesTold, Cond.selects RX8 yX8_comesTold yX8_comesTold, Cond.code yX8_comesTold cX8_comesTold 3 (some .boolean), Cond.methodLink RX8 164 yX8_comesNew, Cond.instanceMethod yX8_comesNew, Cond.selects RX8 yX8_comesNew yX8_comesNew]
def wsL_law_r18 : List Cond := [Cond.code yX8_comesNew cX8_comesNew 4 (some .boolean), Cond.methodLink RX8 151 yX8_doesStand, Cond.instanceMethod yX8_doesStand, Cond.selects RX8 yX8_doesStand yX8_doesStand, Cond.code yX8_doesStand cX8_doesStand 2 (some .boolean), Cond.methodLink RX8 82 yX8_isHouse, Cond.instanceMethod yX8_isHouse, Cond.selects RX8 yX8_isHouse yX8_isHouse, Cond.code yX8_isHouse cX8_isHouse 2 (some .boolean), Cond.methodLink RX8 154 yX8_mayBe, Cond.instanceMethod yX8_mayBe, Cond.selects RX8 yX8_mayBe yX8_mayBe, Cond.code yX8_mayBe cX8_mayBe 4 (some .boolean), Cond.methodLink RX8 93 yX8_lends, Cond.instanceMethod yX8_lends, Cond.selects RX8 yX8_lends yX8_lends, Cond.code yX8_lends cX8_lends 3 (some .boolean), Cond.methodLink RX8 97 yX8_isThere, Cond.instanceMethod yX8_isThere, Cond.selects RX8 yX8_isThere yX8_isThere, Cond.code yX8_isThere cX8_isThere 3 (some .boolean), Cond.methodLink RX8 100 yX8_isLawful, Cond.instanceMethod yX8_isLawful, Cond.selects RX8 yX8_isLawful yX8_isLawful]
def wsL_law_r19 : List Cond := [Cond.code yX8_isLawful cX8_isLawful 3 (some .boolean), Cond.methodLink RX8 89 yX8_latest, Cond.instanceMethod yX8_latest, Cond.selects RX8 yX8_latest yX8_latest, Cond.code yX8_latest cX8_latest 3 (some .int), Cond.methodLink RX8 157 yX8_builds, Cond.instanceMethod yX8_builds, Cond.selects RX8 yX8_builds yX8_builds, Cond.code yX8_builds cX8_builds 6 none, Cond.methodLink RX8 107 yX8_isUsed, Cond.instanceMethod yX8_isUsed, Cond.selects RX8 yX8_isUsed yX8_isUsed, Cond.code yX8_isUsed cX8_isUsed 2 none, Cond.methodLink RX8 103 yX8_fee, Cond.instanceMethod yX8_fee, Cond.selects RX8 yX8_fee yX8_fee, Cond.code yX8_fee cX8_fee 2 (some .int), Cond.methodLink RX8 167 yX8_comesFire, Cond.instanceMethod yX8_comesFire, Cond.selects RX8 yX8_comesFire yX8_comesFire, Cond.code yX8_comesFire cX8_comesFire 2 (some .boolean), Cond.methodLink RX8 161 yX8_burns, Cond.instanceMethod yX8_burns, Cond.selects RX8 yX8_burns yX8_burns]
def wsL_law_r20 : List Cond := [Cond.code yX8_burns cX8_burns 4 none, Cond.methodLink RX8 117 yX8_fallsWith, Cond.instanceMethod yX8_fallsWith, Cond.selects RX8 yX8_fallsWith yX8_fallsWith, Cond.code yX8_fallsWith cX8_fallsWith 2 (some .boolean), Cond.methodLink RX8 114 yX8_hasFallen, Cond.instanceMethod yX8_hasFallen, Cond.selects RX8 yX8_hasFallen yX8_hasFallen, Cond.code yX8_hasFallen cX8_hasFallen 2 (some .boolean), Cond.methodLink RX8 170 yX8_comesLaw, Cond.instanceMethod yX8_comesLaw, Cond.selects RX8 yX8_comesLaw yX8_comesLaw, Cond.code yX8_comesLaw cX8_comesLaw 3 (some .boolean), Cond.methodLink RL 23 yX7_house, Cond.instanceMethod yX7_house, Cond.selects RX7 yX7_house yX7_house, Cond.code yX7_house cX7_house 3 (some .int), Cond.methodLink RX7 94 yX5_has, Cond.methodLink RX7 98 yX5_tell, Cond.instanceMethod yX5_tell, Cond.selects RX5 yX5_tell yX5_tell, Cond.code yX5_tell cX5_tell 3 (some .int), Cond.methodLink RL 27 yX8_house, Cond.instanceMethod yX8_house]
def wsL_law_r21 : List Cond := [Cond.selects RX8 yX8_house yX8_house, Cond.code yX8_house cX8_house 3 (some .int), Cond.methodLink RL 28 yX7_law, Cond.instanceMethod yX7_law, Cond.selects RX7 yX7_law yX7_law, Cond.code yX7_law cX7_law 6 (some .int), Cond.methodLink RX7 102 yX5_sumsLaw, Cond.instanceMethod yX5_sumsLaw, Cond.selects RX5 yX5_sumsLaw yX5_sumsLaw, Cond.code yX5_sumsLaw cX5_sumsLaw 1 (some .int), Cond.methodLink RX7 105 yX5_fallsLaw, Cond.instanceMethod yX5_fallsLaw, Cond.selects RX5 yX5_fallsLaw yX5_fallsLaw, Cond.code yX5_fallsLaw cX5_fallsLaw 1 (some .int), Cond.methodLink RX7 108 yX5_changeLaws, Cond.methodLink RL 31 yX8_law, Cond.instanceMethod yX8_law, Cond.selects RX8 yX8_law yX8_law, Cond.code yX8_law cX8_law 4 (some .int), Cond.methodLink RL 32 yX7_may, Cond.instanceMethod yX7_may, Cond.selects RX7 yX7_may yX7_may, Cond.code yX7_may cX7_may 3 (some .int), Cond.methodLink RX7 112 yX5_stands]
def wsL_law_r22 : List Cond := [Cond.methodLink RX7 115 yX5_mayBe, Cond.methodLink RL 35 yX8_may, Cond.instanceMethod yX8_may, Cond.selects RX8 yX8_may yX8_may, Cond.code yX8_may cX8_may 4 (some .int), Cond.methodLink RL 36 yX7_cost, Cond.instanceMethod yX7_cost, Cond.selects RX7 yX7_cost yX7_cost, Cond.code yX7_cost cX7_cost 3 (some .int), Cond.methodLink RX7 118 yX5_fee, Cond.methodLink RL 39 yX8_cost, Cond.instanceMethod yX8_cost, Cond.selects RX8 yX8_cost yX8_cost, Cond.code yX8_cost cX8_cost 4 (some .int), Cond.methodLink RX8 201 yX8_canBe, Cond.instanceMethod yX8_canBe, Cond.selects RX8 yX8_canBe yX8_canBe, Cond.code yX8_canBe cX8_canBe 3 (some .boolean), Cond.methodLink RL 40 yX7_add, Cond.instanceMethod yX7_add, Cond.selects RX7 yX7_add yX7_add, Cond.code yX7_add cX7_add 5 (some .int), Cond.methodLink RX7 121 yX5_isKind, Cond.methodLink RX7 124 yX5_build]
def wsL_law_r23 : List Cond := [Cond.methodLink RX7 128 yX5_cameCount, Cond.instanceMethod yX5_cameCount, Cond.selects RX5 yX5_cameCount yX5_cameCount, Cond.code yX5_cameCount cX5_cameCount 1 (some .int), Cond.methodLink RL 44 yX8_add, Cond.instanceMethod yX8_add, Cond.selects RX8 yX8_add yX8_add, Cond.code yX8_add cX8_add 6 (some .int), Cond.methodLink RL 45 yX7_burn, Cond.instanceMethod yX7_burn, Cond.selects RX7 yX7_burn yX7_burn, Cond.code yX7_burn cX7_burn 2 (some .int), Cond.methodLink RX7 131 yX5_fire, Cond.methodLink RL 48 yX8_burn, Cond.instanceMethod yX8_burn, Cond.selects RX8 yX8_burn yX8_burn, Cond.code yX8_burn cX8_burn 4 (some .int), Cond.methodLink RX8 204 yX8_standing, Cond.instanceMethod yX8_standing, Cond.selects RX8 yX8_standing yX8_standing, Cond.code yX8_standing cX8_standing 3 (some .int), Cond.methodLink RX8 207 yX8_bits, Cond.static yX8_bits, Cond.code yX8_bits cX8_bits 3 (some .int)]
def wsL_law_r24 : List Cond := [Cond.methodLink RL 49 yX7_hangs, Cond.instanceMethod yX7_hangs, Cond.selects RX7 yX7_hangs yX7_hangs, Cond.code yX7_hangs cX7_hangs 2 (some .int), Cond.methodLink RX7 134 yX5_fallsWith, Cond.methodLink RL 52 yX8_hangs, Cond.instanceMethod yX8_hangs, Cond.selects RX8 yX8_hangs yX8_hangs, Cond.code yX8_hangs cX8_hangs 3 (some .int), Cond.methodLink RX8 210 yX8_hangsOn, Cond.instanceMethod yX8_hangsOn, Cond.selects RX8 yX8_hangsOn yX8_hangsOn, Cond.code yX8_hangsOn cX8_hangsOn 4 (some .int), Cond.methodLink RL 53 yX7_save, Cond.instanceMethod yX7_save, Cond.selects RX7 yX7_save yX7_save, Cond.code yX7_save cX7_save 5 (some .int), Cond.methodLink RX7 137 yJ6_bitCount_0f7a4, Cond.methodLink RL 56 yX8_save, Cond.instanceMethod yX8_save, Cond.selects RX8 yX8_save yX8_save, Cond.code yX8_save cX8_save 5 (some .int), Cond.methodLink RL 57 yX7_fewest, Cond.instanceMethod yX7_fewest]
def wsL_law_r25 : List Cond := [Cond.selects RX7 yX7_fewest yX7_fewest, Cond.code yX7_fewest cX7_fewest 3 (some .int), Cond.methodLink RX7 142 yX7_outside, Cond.static yX7_outside, Cond.code yX7_outside cX7_outside 3 (some .int), Cond.methodLink RX7 146 yX0_shortest, Cond.instanceMethod yX0_shortest, Cond.selects RX0 yX0_shortest yX0_shortest, Cond.code yX0_shortest cX0_shortest 4 (some .int), Cond.methodLink RX0 15 yX0_reaches, Cond.static yX0_reaches, Cond.code yX0_reaches cX0_reaches 8 (some .boolean), Cond.methodLink RX0 19 Lib.Math.min.name, Cond.static Lib.Math.min.name, Cond.code Lib.Math.min.name Lib.Math.min.code 2 (some .int), Cond.methodLink RX0 25 yX0_leastUseful, Cond.static yX0_leastUseful, Cond.code yX0_leastUseful cX0_leastUseful 4 (some .int), Cond.methodLink RX0 33 Lib.Math.max.name, Cond.methodLink RX0 29 yX0_isSum, Cond.static yX0_isSum, Cond.code yX0_isSum cX0_isSum 6 (some .boolean), Cond.methodLink RL 60 yX8_fewest, Cond.instanceMethod yX8_fewest]
def wsL_law_r26 : List Cond := [Cond.selects RX8 yX8_fewest yX8_fewest, Cond.code yX8_fewest cX8_fewest 3 (some .int), Cond.methodLink RX8 234 yX8_shortest, Cond.instanceMethod yX8_shortest, Cond.selects RX8 yX8_shortest yX8_shortest, Cond.code yX8_shortest cX8_shortest 4 (some .int), Cond.fieldLink RX8 222 "SumOfTwoThatStandModel" "wanted" "I", Cond.fieldLink RX8 213 "SumOfTwoThatStandModel" "goal" "I", Cond.methodLink RX8 231 yX8_findsChain, Cond.instanceMethod yX8_findsChain, Cond.selects RX8 yX8_findsChain yX8_findsChain, Cond.code yX8_findsChain cX8_findsChain 3 (some .boolean), Cond.methodLink RX8 228 yX8_nextTry, Cond.instanceMethod yX8_nextTry, Cond.selects RX8 yX8_nextTry yX8_nextTry, Cond.code yX8_nextTry cX8_nextTry 6 (some .int), Cond.methodLink RX8 225 yX8_goesOn, Cond.instanceMethod yX8_goesOn, Cond.selects RX8 yX8_goesOn yX8_goesOn, Cond.code yX8_goesOn cX8_goesOn 4 (some .boolean), Cond.methodLink RX8 216 yX8_isSum, Cond.instanceMethod yX8_isSum, Cond.selects RX8 yX8_isSum yX8_isSum, Cond.code yX8_isSum cX8_isSum 5 (some .boolean)]
def wsL_law_r27 : List Cond := [Cond.methodLink RX8 219 yX8_canReach, Cond.instanceMethod yX8_canReach, Cond.selects RX8 yX8_canReach yX8_canReach, Cond.code yX8_canReach cX8_canReach 5 (some .boolean), Cond.methodLink RL 61 yX7_chain, Cond.instanceMethod yX7_chain, Cond.selects RX7 yX7_chain yX7_chain, Cond.code yX7_chain cX7_chain 4 (some .int), Cond.methodLink RX7 149 yX0_numberAt, Cond.instanceMethod yX0_numberAt, Cond.selects RX0 yX0_numberAt yX0_numberAt, Cond.code yX0_numberAt cX0_numberAt 2 (some .int), Cond.methodLink RL 64 yX8_chain, Cond.instanceMethod yX8_chain, Cond.selects RX8 yX8_chain yX8_chain, Cond.code yX8_chain cX8_chain 5 (some .int), Cond.methodLink RL 65 yX7_way, Cond.instanceMethod yX7_way, Cond.selects RX7 yX7_way yX7_way, Cond.code yX7_way cX7_way 4 (some .int), Cond.methodLink RX7 152 yX7_isOneOfTwo, Cond.static yX7_isOneOfTwo, Cond.code yX7_isOneOfTwo cX7_isOneOfTwo 1 (some .boolean), Cond.methodLink RX7 155 yX0_byHalves]
def wsL_law_r28 : List Cond := [Cond.static yX0_byHalves, Cond.code yX0_byHalves cX0_byHalves 1 (some .int), Cond.methodLink RX0 40 yJ6_numberOfLeadingZeros_0f7a4, Cond.methodLink RX0 46 yJ6_bitCount_0f7a4, Cond.methodLink RX7 158 yX0_byFactors, Cond.static yX0_byFactors, Cond.code yX0_byFactors cX0_byFactors 1 (some .int), Cond.methodLink RX0 49 yX0_splitDown, Cond.static yX0_splitDown, Cond.code yX0_splitDown cX0_splitDown 3 (some .int), Cond.methodLink RX0 52 yX0_leastFactor, Cond.static yX0_leastFactor, Cond.code yX0_leastFactor cX0_leastFactor 2 (some .int), Cond.methodLink RL 68 yX8_way, Cond.instanceMethod yX8_way, Cond.selects RX8 yX8_way yX8_way, Cond.code yX8_way cX8_way 4 (some .int), Cond.methodLink RX8 241 yX8_halves, Cond.static yX8_halves, Cond.code yX8_halves cX8_halves 3 (some .int), Cond.methodLink RX8 244 yX8_factors, Cond.instanceMethod yX8_factors, Cond.selects RX8 yX8_factors yX8_factors, Cond.code yX8_factors cX8_factors 4 (some .int)]
def wsL_law_r29 : List Cond := [Cond.methodLink RX8 238 yX8_leastFactor, Cond.static yX8_leastFactor, Cond.code yX8_leastFactor cX8_leastFactor 2 (some .int), Cond.methodLink RL 69 yX7_both, Cond.instanceMethod yX7_both, Cond.selects RX7 yX7_both yX7_both, Cond.code yX7_both cX7_both 6 (some .int), Cond.methodLink RX7 161 Lib.Math.min.name, Cond.methodLink RX7 166 Lib.Math.max.name, Cond.methodLink RL 72 yX8_both, Cond.instanceMethod yX8_both, Cond.selects RX8 yX8_both yX8_both, Cond.code yX8_both cX8_both 4 (some .int), Cond.methodLink RL 73 yX7_far, Cond.instanceMethod yX7_far, Cond.selects RX7 yX7_far yX7_far, Cond.code yX7_far cX7_far 3 (some .int), Cond.methodLink RL 76 yX8_far, Cond.instanceMethod yX8_far, Cond.selects RX8 yX8_far yX8_far, Cond.code yX8_far cX8_far 3 (some .int), Cond.methodLink RL 77 yX7_can, Cond.instanceMethod yX7_can, Cond.selects RX7 yX7_can yX7_can]
def wsL_law_r30 : List Cond := [Cond.code yX7_can cX7_can 6 (some .int), Cond.constantLong RX7 178 (-1), Cond.methodLink RX7 169 yX0_reachable, Cond.instanceMethod yX0_reachable, Cond.selects RX0 yX0_reachable yX0_reachable, Cond.code yX0_reachable cX0_reachable 2 (some .long), Cond.methodLink RX0 36 yX0_reached, Cond.static yX0_reached, Cond.code yX0_reached cX0_reached 7 (some .long), Cond.methodLink RX7 173 yJ13_bitCount_95d88, Cond.static yJ13_bitCount_95d88, Cond.initialized RJ13, Cond.code yJ13_bitCount_95d88 cJ13_bitCount_95d88 2 (some .int), Cond.constantLong RJ13 314 (6148914691236517205), Cond.constantLong RJ13 316 (3689348814741910323), Cond.constantLong RJ13 318 (1085102592571150095), Cond.methodLink RX7 180 yJ13_numberOfTrailingZeros_95d88, Cond.static yJ13_numberOfTrailingZeros_95d88, Cond.code yJ13_numberOfTrailingZeros_95d88 cJ13_numberOfTrailingZeros_95d88 3 (some .int), Cond.methodLink RJ13 311 yJ6_numberOfTrailingZeros_0f7a4, Cond.static yJ6_numberOfTrailingZeros_0f7a4, Cond.code yJ6_numberOfTrailingZeros_0f7a4 cJ6_numberOfTrailingZeros_0f7a4 2 (some .int), Cond.methodLink RL 80 yX8_can, Cond.instanceMethod yX8_can]
def wsL_law_r31 : List Cond := [Cond.selects RX8 yX8_can yX8_can, Cond.code yX8_can cX8_can 8 (some .int), Cond.methodLink RX8 247 yX8_isWithin, Cond.instanceMethod yX8_isWithin, Cond.selects RX8 yX8_isWithin yX8_isWithin, Cond.code yX8_isWithin cX8_isWithin 4 (some .boolean), Cond.methodLink RL 81 yX7_more, Cond.instanceMethod yX7_more, Cond.selects RX7 yX7_more yX7_more, Cond.code yX7_more cX7_more 3 (some .int), Cond.methodLink RX7 183 yX5_isThere, Cond.methodLink RX7 186 yX5_comesNext, Cond.instanceMethod yX5_comesNext, Cond.selects RX5 yX5_comesNext yX5_comesNext, Cond.code yX5_comesNext cX5_comesNext 4 (some .boolean), Cond.methodLink RX7 189 yX7_comesNextButOne, Cond.instanceMethod yX7_comesNextButOne, Cond.selects RX7 yX7_comesNextButOne yX7_comesNextButOne, Cond.code yX7_comesNextButOne cX7_comesNextButOne 4 (some .boolean), Cond.methodLink RL 84 yX8_more, Cond.instanceMethod yX8_more, Cond.selects RX8 yX8_more yX8_more, Cond.code yX8_more cX8_more 3 (some .int), Cond.methodLink RX8 250 yX8_comesToIn1]
def wsL_law_r32 : List Cond := [Cond.instanceMethod yX8_comesToIn1, Cond.selects RX8 yX8_comesToIn1 yX8_comesToIn1, Cond.code yX8_comesToIn1 cX8_comesToIn1 4 (some .boolean), Cond.methodLink RX8 253 yX8_comesToIn2, Cond.instanceMethod yX8_comesToIn2, Cond.selects RX8 yX8_comesToIn2 yX8_comesToIn2, Cond.code yX8_comesToIn2 cX8_comesToIn2 6 (some .boolean), Cond.methodLink RL 85 yX7_orders, Cond.instanceMethod yX7_orders, Cond.selects RX7 yX7_orders yX7_orders, Cond.code yX7_orders cX7_orders 1 (some .int), Cond.methodLink RX7 192 yX3_of, Cond.instanceMethod yX3_of, Cond.selects RX3 yX3_of yX3_of, Cond.code yX3_of cX3_of 4 (some .int), Cond.methodLink RX3 15 yX5_standingBits, Cond.instanceMethod yX5_standingBits, Cond.selects RX5 yX5_standingBits yX5_standingBits, Cond.code yX5_standingBits cX5_standingBits 1 (some .int), Cond.methodLink RX3 21 yX3_letNextCome, Cond.instanceMethod yX3_letNextCome, Cond.selects RX3 yX3_letNextCome yX3_letNextCome, Cond.code yX3_letNextCome cX3_letNextCome 8 none, Cond.methodLink RX3 25 yX5_aheadOf]
def wsL_law_r33 : List Cond := [Cond.instanceMethod yX5_aheadOf, Cond.selects RX5 yX5_aheadOf yX5_aheadOf, Cond.code yX5_aheadOf cX5_aheadOf 2 (some .int), Cond.methodLink RX5 117 yX5_bitOf, Cond.instanceMethod yX5_bitOf, Cond.selects RX5 yX5_bitOf yX5_bitOf, Cond.code yX5_bitOf cX5_bitOf 2 (some .int), Cond.methodLink RL 88 yX8_orders, Cond.instanceMethod yX8_orders, Cond.selects RX8 yX8_orders yX8_orders, Cond.code yX8_orders cX8_orders 5 (some .int), Cond.methodLink RX8 256 yX8_has, Cond.static yX8_has, Cond.code yX8_has cX8_has 2 (some .boolean), Cond.methodLink RX8 259 yX8_needs, Cond.instanceMethod yX8_needs, Cond.selects RX8 yX8_needs yX8_needs, Cond.code yX8_needs cX8_needs 3 (some .int), Cond.methodLink RL 89 yX7_game, Cond.instanceMethod yX7_game, Cond.selects RX7 yX7_game yX7_game, Cond.code yX7_game cX7_game 3 (some .int), Cond.methodLink RX7 195 yX1_isWonByFirst, Cond.instanceMethod yX1_isWonByFirst]
def wsL_law_r34 : List Cond := [Cond.selects RX1 yX1_isWonByFirst yX1_isWonByFirst, Cond.code yX1_isWonByFirst cX1_isWonByFirst 3 (some .boolean), Cond.methodLink RX1 13 yX1_isWon, Cond.instanceMethod yX1_isWon, Cond.selects RX1 yX1_isWon yX1_isWon, Cond.code yX1_isWon cX1_isWon 6 (some .boolean), Cond.methodLink RX1 17 yX1_sumsOf, Cond.static yX1_sumsOf, Cond.code yX1_sumsOf cX1_sumsOf 4 (some .int), Cond.methodLink RL 92 yX8_game, Cond.instanceMethod yX8_game, Cond.selects RX8 yX8_game yX8_game, Cond.code yX8_game cX8_game 4 (some .int), Cond.methodLink RX8 265 yX8_doesWin, Cond.instanceMethod yX8_doesWin, Cond.selects RX8 yX8_doesWin yX8_doesWin, Cond.code yX8_doesWin cX8_doesWin 4 (some .boolean), Cond.methodLink RX8 262 yX8_isSumIn, Cond.instanceMethod yX8_isSumIn, Cond.selects RX8 yX8_isSumIn yX8_isSumIn, Cond.code yX8_isSumIn cX8_isSumIn 4 (some .boolean), Cond.methodLink RL 93 yX7_row, Cond.instanceMethod yX7_row, Cond.selects RX7 yX7_row yX7_row]
def wsL_law_r35 : List Cond := [Cond.code yX7_row cX7_row 3 (some .int), Cond.methodLink RX7 198 ⟨"SumOfTwoThatStand$Row", "hasRoom", "()Z"⟩, Cond.sameMethod "SumOfTwoThatStand$Row" "SumOfTwoThatStand$Told" "hasRoom" "()Z", Cond.selects RX4 ⟨"SumOfTwoThatStand$Row", "hasRoom", "()Z"⟩ yX6_hasRoom, Cond.methodLink RX7 199 ⟨"SumOfTwoThatStand$Row", "take", "(I)I"⟩, Cond.sameMethod "SumOfTwoThatStand$Row" "SumOfTwoThatStand$Told" "take" "(I)I", Cond.selects RX4 ⟨"SumOfTwoThatStand$Row", "take", "(I)I"⟩ yX6_take, Cond.methodLink RL 96 yX8_row, Cond.instanceMethod yX8_row, Cond.selects RX8 yX8_row yX8_row, Cond.code yX8_row cX8_row 3 (some .int), Cond.fieldLink RX8 268 "SumOfTwoThatStandModel" "rowMany" "I", Cond.methodLink RL 97 yX7_judge, Cond.instanceMethod yX7_judge, Cond.selects RX7 yX7_judge yX7_judge, Cond.code yX7_judge cX7_judge 2 (some .int), Cond.methodLink RX7 200 yX4_firstWrong, Cond.instanceMethod yX4_firstWrong, Cond.selects RX4 yX4_firstWrong yX4_firstWrong, Cond.code yX4_firstWrong cX4_firstWrong 3 (some .int), Cond.methodLink RX4 9 ⟨"SumOfTwoThatStand$Row", "howMany", "()I"⟩, Cond.sameMethod "SumOfTwoThatStand$Row" "SumOfTwoThatStand$Told" "howMany" "()I", Cond.selects RX4 ⟨"SumOfTwoThatStand$Row", "howMany", "()I"⟩ yX6_howMany, Cond.methodLink RX4 15 ⟨"SumOfTwoThatStand$Row", "toldAt", "(I)I"⟩]
def wsL_law_r36 : List Cond := [Cond.sameMethod "SumOfTwoThatStand$Row" "SumOfTwoThatStand$Told" "toldAt" "(I)I", Cond.selects RX4 ⟨"SumOfTwoThatStand$Row", "toldAt", "(I)I"⟩ yX6_toldAt, Cond.methodLink RX4 19 yX4_isNew, Cond.instanceMethod yX4_isNew, Cond.selects RX4 yX4_isNew yX4_isNew, Cond.code yX4_isNew cX4_isNew 3 (some .boolean), Cond.methodLink RX4 23 yX4_isSum, Cond.instanceMethod yX4_isSum, Cond.selects RX4 yX4_isSum yX4_isSum, Cond.code yX4_isSum cX4_isSum 4 (some .boolean), Cond.methodLink RX7 203 ⟨"SumOfTwoThatStand$Row", "forget", "()V"⟩, Cond.sameMethod "SumOfTwoThatStand$Row" "SumOfTwoThatStand$Told" "forget" "()V", Cond.selects RX4 ⟨"SumOfTwoThatStand$Row", "forget", "()V"⟩ yX6_forget, Cond.methodLink RL 100 yX8_judge, Cond.instanceMethod yX8_judge, Cond.selects RX8 yX8_judge yX8_judge, Cond.code yX8_judge cX8_judge 3 (some .int), Cond.methodLink RX8 271 yX8_isWell, Cond.instanceMethod yX8_isWell, Cond.selects RX8 yX8_isWell yX8_isWell, Cond.code yX8_isWell cX8_isWell 5 (some .boolean), Cond.methodLink RL 101 yX7_seeds, Cond.instanceMethod yX7_seeds, Cond.selects RX7 yX7_seeds yX7_seeds]
def wsL_law_r37 : List Cond := [Cond.code yX7_seeds cX7_seeds 5 (some .int), Cond.methodLink RX7 204 yX7_sow, Cond.static yX7_sow, Cond.code yX7_sow cX7_sow 7 none, Cond.methodLink RX7 221 yX7_nextSeed, Cond.static yX7_nextSeed, Cond.code yX7_nextSeed cX7_nextSeed 1 (some .int), Cond.constant RX7 227 (1103515245), Cond.methodLink RX7 224 yX7_draw, Cond.static yX7_draw, Cond.code yX7_draw cX7_draw 2 (some .int), Cond.constant RX7 228 (2147483647), Cond.methodLink RX7 208 yX5_standingCount, Cond.instanceMethod yX5_standingCount, Cond.selects RX5 yX5_standingCount yX5_standingCount, Cond.code yX5_standingCount cX5_standingCount 1 (some .int), Cond.methodLink RX7 211 yX5_greatest, Cond.instanceMethod yX5_greatest, Cond.selects RX5 yX5_greatest yX5_greatest, Cond.code yX5_greatest cX5_greatest 3 (some .int), Cond.methodLink RX5 73 Lib.Math.max.name, Cond.methodLink RL 105 yX8_seeds, Cond.instanceMethod yX8_seeds, Cond.selects RX8 yX8_seeds yX8_seeds]
def wsL_law_r38 : List Cond := [Cond.code yX8_seeds cX8_seeds 6 (some .int), Cond.fieldLink RX8 274 "SumOfTwoThatStandModel" "lots" "I", Cond.methodLink RX8 283 yX8_buildsByLot, Cond.instanceMethod yX8_buildsByLot, Cond.selects RX8 yX8_buildsByLot yX8_buildsByLot, Cond.code yX8_buildsByLot cX8_buildsByLot 3 none, Cond.methodLink RX8 280 yX8_draw, Cond.instanceMethod yX8_draw, Cond.selects RX8 yX8_draw yX8_draw, Cond.code yX8_draw cX8_draw 2 (some .int), Cond.constant RX8 277 (1103515245), Cond.constant RX8 278 (2147483647), Cond.constant RX8 279 (65536), Cond.methodLink RX8 286 yX8_greatest, Cond.instanceMethod yX8_greatest, Cond.selects RX8 yX8_greatest yX8_greatest, Cond.code yX8_greatest cX8_greatest 3 (some .int), Cond.methodLink RL 106 yX7_image, Cond.instanceMethod yX7_image, Cond.selects RX7 yX7_image yX7_image, Cond.code yX7_image cX7_image 1 (some .int), Cond.methodLink RL 109 yX8_image, Cond.instanceMethod yX8_image, Cond.selects RX8 yX8_image yX8_image]
def wsL_law_r39 : List Cond := [Cond.code yX8_image cX8_image 1 (some .int), Cond.fieldLink RX8 198 "SumOfTwoThatStandModel" "hasImage" "Z", Cond.methodLink RL 110 yX7_restore, Cond.instanceMethod yX7_restore, Cond.selects RX7 yX7_restore yX7_restore, Cond.code yX7_restore cX7_restore 1 (some .int), Cond.methodLink RL 113 yX8_restore, Cond.instanceMethod yX8_restore, Cond.selects RX8 yX8_restore yX8_restore, Cond.code yX8_restore cX8_restore 1 (some .int), Cond.methodLink RL 114 yX7_count, Cond.instanceMethod yX7_count, Cond.selects RX7 yX7_count yX7_count, Cond.code yX7_count cX7_count 2 (some .int), Cond.methodLink RX7 214 yX5_allEarned, Cond.instanceMethod yX5_allEarned, Cond.selects RX5 yX5_allEarned yX5_allEarned, Cond.code yX5_allEarned cX5_allEarned 3 (some .int), Cond.methodLink RX7 217 ⟨"SumOfTwoThatStand$Letters", "howMany", "()I"⟩, Cond.methodLink RX7 220 ⟨"SumOfTwoThatStand$Row", "howMany", "()I"⟩, Cond.methodLink RL 117 yX8_count, Cond.instanceMethod yX8_count, Cond.selects RX8 yX8_count yX8_count, Cond.code yX8_count cX8_count 2 (some .int)]
def wsL_law_r40 : List Cond := [Cond.methodLink RX8 289 yX8_allEarned, Cond.instanceMethod yX8_allEarned, Cond.selects RX8 yX8_allEarned yX8_allEarned, Cond.code yX8_allEarned cX8_allEarned 3 (some .int)]
def wsL_law : List Cond := (wsL_law_r1 ++ (wsL_law_r2 ++ (wsL_law_r3 ++ (wsL_law_r4 ++ (wsL_law_r5 ++ (wsL_law_r6 ++ (wsL_law_r7 ++ (wsL_law_r8 ++ (wsL_law_r9 ++ (wsL_law_r10 ++ (wsL_law_r11 ++ (wsL_law_r12 ++ (wsL_law_r13 ++ (wsL_law_r14 ++ (wsL_law_r15 ++ (wsL_law_r16 ++ (wsL_law_r17 ++ (wsL_law_r18 ++ (wsL_law_r19 ++ (wsL_law_r20 ++ (wsL_law_r21 ++ (wsL_law_r22 ++ (wsL_law_r23 ++ (wsL_law_r24 ++ (wsL_law_r25 ++ (wsL_law_r26 ++ (wsL_law_r27 ++ (wsL_law_r28 ++ (wsL_law_r29 ++ (wsL_law_r30 ++ (wsL_law_r31 ++ (wsL_law_r32 ++ (wsL_law_r33 ++ (wsL_law_r34 ++ (wsL_law_r35 ++ (wsL_law_r36 ++ (wsL_law_r37 ++ (wsL_law_r38 ++ (wsL_law_r39 ++ wsL_law_r40))))))))))))))))))))))))))))))))))))))) ++ wsX70 ++ wsX80 ++ wsX50 ++ wsX20 ++ wsX40 ++ wsX00 ++ wsX30 ++ wsX10 ++ ([] : List Cond)
abbrev vwCl : List vw_C := [(RX0, TX0, 1), (RX1, TX1, 1), (RX2, TX2, 7), (RX3, TX3, 1), (RX4, TX4, 2), (RX5, TX5, 11), (RX7, TX7, 10), (RX8, TX8, 33)]
end
section
set_option maxRecDepth 20000 in
theorem ggX5_init_X5_beginAnew : GoodIn wsX5_init wsX5_beginAnew := goodIn_r _ [16, 17, 18, 19, 20, 21, 15, 22, 7, 8, 9, 5, 6, 10, 11, 23, 24, 25, 26, 27, 28, 29, 30, 31, 32, 33, 34, 35, 36, 37] (by decide +kernel) (by decide +kernel)
set_option maxRecDepth 20000 in
theorem gX5_init_X5_beginAnew : GoodIn wsX5_init (wsV RX5 33 RX5 yX5_beginAnew wsX5_beginAnew) := goodIn_app (goodIn_of _ (by decide +kernel)) ggX5_init_X5_beginAnew
theorem dX5_init_0 : decode cX5_init 0 = .ok (.aload_n 0, 1) := by decide +kernel
theorem dX5_init_1 : decode cX5_init 1 = .ok (.invokespecial 3, 3) := by decide +kernel
theorem dX5_init_4 : decode cX5_init 4 = .ok (.aload_n 0, 1) := by decide +kernel
theorem dX5_init_5 : decode cX5_init 5 = .ok (.bipush 12, 2) := by decide +kernel
theorem dX5_init_7 : decode cX5_init 7 = .ok (.newarray .int, 2) := by decide +kernel
theorem dX5_init_9 : decode cX5_init 9 = .ok (.putfield 9, 3) := by decide +kernel
theorem dX5_init_12 : decode cX5_init 12 = .ok (.aload_n 0, 1) := by decide +kernel
theorem dX5_init_13 : decode cX5_init 13 = .ok (.bipush 12, 2) := by decide +kernel
theorem dX5_init_15 : decode cX5_init 15 = .ok (.newarray .int, 2) := by decide +kernel
theorem dX5_init_17 : decode cX5_init 17 = .ok (.putfield 15, 3) := by decide +kernel
theorem dX5_init_20 : decode cX5_init 20 = .ok (.aload_n 0, 1) := by decide +kernel
theorem dX5_init_21 : decode cX5_init 21 = .ok (.bipush 12, 2) := by decide +kernel
theorem dX5_init_23 : decode cX5_init 23 = .ok (.newarray .int, 2) := by decide +kernel
theorem dX5_init_25 : decode cX5_init 25 = .ok (.putfield 18, 3) := by decide +kernel
theorem dX5_init_28 : decode cX5_init 28 = .ok (.aload_n 0, 1) := by decide +kernel
theorem dX5_init_29 : decode cX5_init 29 = .ok (.bipush 12, 2) := by decide +kernel
theorem dX5_init_31 : decode cX5_init 31 = .ok (.newarray .int, 2) := by decide +kernel
theorem dX5_init_33 : decode cX5_init 33 = .ok (.putfield 21, 3) := by decide +kernel
theorem dX5_init_36 : decode cX5_init 36 = .ok (.aload_n 0, 1) := by decide +kernel
theorem dX5_init_37 : decode cX5_init 37 = .ok (.bipush 12, 2) := by decide +kernel
theorem dX5_init_39 : decode cX5_init 39 = .ok (.newarray .int, 2) := by decide +kernel
theorem dX5_init_41 : decode cX5_init 41 = .ok (.putfield 24, 3) := by decide +kernel
theorem dX5_init_44 : decode cX5_init 44 = .ok (.aload_n 0, 1) := by decide +kernel
theorem dX5_init_45 : decode cX5_init 45 = .ok (.bipush 12, 2) := by decide +kernel
theorem dX5_init_47 : decode cX5_init 47 = .ok (.newarray .int, 2) := by decide +kernel
theorem dX5_init_49 : decode cX5_init 49 = .ok (.putfield 27, 3) := by decide +kernel
theorem dX5_init_52 : decode cX5_init 52 = .ok (.aload_n 0, 1) := by decide +kernel
theorem dX5_init_53 : decode cX5_init 53 = .ok (.bipush 12, 2) := by decide +kernel
theorem dX5_init_55 : decode cX5_init 55 = .ok (.newarray .int, 2) := by decide +kernel
theorem dX5_init_57 : decode cX5_init 57 = .ok (.putfield 30, 3) := by decide +kernel
theorem dX5_init_60 : decode cX5_init 60 = .ok (.aload_n 0, 1) := by decide +kernel
theorem dX5_init_61 : decode cX5_init 61 = .ok (.invokevirtual 33, 3) := by decide +kernel
theorem dX5_init_64 : decode cX5_init 64 = .ok (.return_, 1) := by decide +kernel
set_option maxRecDepth 20000 in
theorem ggX5_beginAnew_X5_place : GoodIn wsX5_beginAnew wsX5_place := goodIn_r _ [7, 8, 1, 9, 10, 11, 12, 13, 14, 2, 15, 16, 17, 6, 18, 19, 20, 21, 22, 23, 24, 25, 26, 27, 28, 29] (by decide +kernel) (by decide +kernel)
set_option maxRecDepth 20000 in
theorem gX5_beginAnew_X5_place : GoodIn wsX5_beginAnew (wsV RX5 43 RX5 yX5_place wsX5_place) := goodIn_app (goodIn_of _ (by decide +kernel)) ggX5_beginAnew_X5_place
theorem dX5_beginAnew_0 : decode cX5_beginAnew 0 = .ok (.aload_n 0, 1) := by decide +kernel
theorem dX5_beginAnew_1 : decode cX5_beginAnew 1 = .ok (.iconst 0, 1) := by decide +kernel
theorem dX5_beginAnew_2 : decode cX5_beginAnew 2 = .ok (.putfield 36, 3) := by decide +kernel
theorem dX5_beginAnew_5 : decode cX5_beginAnew 5 = .ok (.aload_n 0, 1) := by decide +kernel
theorem dX5_beginAnew_6 : decode cX5_beginAnew 6 = .ok (.iconst 0, 1) := by decide +kernel
theorem dX5_beginAnew_7 : decode cX5_beginAnew 7 = .ok (.putfield 40, 3) := by decide +kernel
theorem dX5_beginAnew_10 : decode cX5_beginAnew 10 = .ok (.aload_n 0, 1) := by decide +kernel
theorem dX5_beginAnew_11 : decode cX5_beginAnew 11 = .ok (.iconst 1, 1) := by decide +kernel
theorem dX5_beginAnew_12 : decode cX5_beginAnew 12 = .ok (.bipush (-4), 2) := by decide +kernel
theorem dX5_beginAnew_14 : decode cX5_beginAnew 14 = .ok (.bipush (-4), 2) := by decide +kernel
theorem dX5_beginAnew_16 : decode cX5_beginAnew 16 = .ok (.iconst 0, 1) := by decide +kernel
theorem dX5_beginAnew_17 : decode cX5_beginAnew 17 = .ok (.iconst 0, 1) := by decide +kernel
theorem dX5_beginAnew_18 : decode cX5_beginAnew 18 = .ok (.invokevirtual 43, 3) := by decide +kernel
theorem dX5_beginAnew_21 : decode cX5_beginAnew 21 = .ok (.return_, 1) := by decide +kernel
theorem dX5_become_0 : decode cX5_become 0 = .ok (.aload_n 1, 1) := by decide +kernel
theorem dX5_become_1 : decode cX5_become 1 = .ok (.getfield 9, 3) := by decide +kernel
theorem dX5_become_4 : decode cX5_become 4 = .ok (.iconst 0, 1) := by decide +kernel
theorem dX5_become_5 : decode cX5_become 5 = .ok (.aload_n 0, 1) := by decide +kernel
theorem dX5_become_6 : decode cX5_become 6 = .ok (.getfield 9, 3) := by decide +kernel
theorem dX5_become_9 : decode cX5_become 9 = .ok (.iconst 0, 1) := by decide +kernel
theorem dX5_become_10 : decode cX5_become 10 = .ok (.bipush 12, 2) := by decide +kernel
theorem dX5_become_12 : decode cX5_become 12 = .ok (.invokestatic 47, 3) := by decide +kernel
theorem dX5_become_15 : decode cX5_become 15 = .ok (.aload_n 1, 1) := by decide +kernel
theorem dX5_become_16 : decode cX5_become 16 = .ok (.getfield 15, 3) := by decide +kernel
theorem dX5_become_19 : decode cX5_become 19 = .ok (.iconst 0, 1) := by decide +kernel
theorem dX5_become_20 : decode cX5_become 20 = .ok (.aload_n 0, 1) := by decide +kernel
theorem dX5_become_21 : decode cX5_become 21 = .ok (.getfield 15, 3) := by decide +kernel
theorem dX5_become_24 : decode cX5_become 24 = .ok (.iconst 0, 1) := by decide +kernel
theorem dX5_become_25 : decode cX5_become 25 = .ok (.bipush 12, 2) := by decide +kernel
theorem dX5_become_27 : decode cX5_become 27 = .ok (.invokestatic 47, 3) := by decide +kernel
theorem dX5_become_30 : decode cX5_become 30 = .ok (.aload_n 1, 1) := by decide +kernel
theorem dX5_become_31 : decode cX5_become 31 = .ok (.getfield 18, 3) := by decide +kernel
theorem dX5_become_34 : decode cX5_become 34 = .ok (.iconst 0, 1) := by decide +kernel
theorem dX5_become_35 : decode cX5_become 35 = .ok (.aload_n 0, 1) := by decide +kernel
theorem dX5_become_36 : decode cX5_become 36 = .ok (.getfield 18, 3) := by decide +kernel
theorem dX5_become_39 : decode cX5_become 39 = .ok (.iconst 0, 1) := by decide +kernel
theorem dX5_become_40 : decode cX5_become 40 = .ok (.bipush 12, 2) := by decide +kernel
theorem dX5_become_42 : decode cX5_become 42 = .ok (.invokestatic 47, 3) := by decide +kernel
theorem dX5_become_45 : decode cX5_become 45 = .ok (.aload_n 1, 1) := by decide +kernel
theorem dX5_become_46 : decode cX5_become 46 = .ok (.getfield 21, 3) := by decide +kernel
theorem dX5_become_49 : decode cX5_become 49 = .ok (.iconst 0, 1) := by decide +kernel
theorem dX5_become_50 : decode cX5_become 50 = .ok (.aload_n 0, 1) := by decide +kernel
theorem dX5_become_51 : decode cX5_become 51 = .ok (.getfield 21, 3) := by decide +kernel
theorem dX5_become_54 : decode cX5_become 54 = .ok (.iconst 0, 1) := by decide +kernel
theorem dX5_become_55 : decode cX5_become 55 = .ok (.bipush 12, 2) := by decide +kernel
theorem dX5_become_57 : decode cX5_become 57 = .ok (.invokestatic 47, 3) := by decide +kernel
theorem dX5_become_60 : decode cX5_become 60 = .ok (.aload_n 1, 1) := by decide +kernel
theorem dX5_become_61 : decode cX5_become 61 = .ok (.getfield 24, 3) := by decide +kernel
theorem dX5_become_64 : decode cX5_become 64 = .ok (.iconst 0, 1) := by decide +kernel
theorem dX5_become_65 : decode cX5_become 65 = .ok (.aload_n 0, 1) := by decide +kernel
theorem dX5_become_66 : decode cX5_become 66 = .ok (.getfield 24, 3) := by decide +kernel
theorem dX5_become_69 : decode cX5_become 69 = .ok (.iconst 0, 1) := by decide +kernel
theorem dX5_become_70 : decode cX5_become 70 = .ok (.bipush 12, 2) := by decide +kernel
theorem dX5_become_72 : decode cX5_become 72 = .ok (.invokestatic 47, 3) := by decide +kernel
theorem dX5_become_75 : decode cX5_become 75 = .ok (.aload_n 1, 1) := by decide +kernel
theorem dX5_become_76 : decode cX5_become 76 = .ok (.getfield 27, 3) := by decide +kernel
theorem dX5_become_79 : decode cX5_become 79 = .ok (.iconst 0, 1) := by decide +kernel
theorem dX5_become_80 : decode cX5_become 80 = .ok (.aload_n 0, 1) := by decide +kernel
theorem dX5_become_81 : decode cX5_become 81 = .ok (.getfield 27, 3) := by decide +kernel
theorem dX5_become_84 : decode cX5_become 84 = .ok (.iconst 0, 1) := by decide +kernel
theorem dX5_become_85 : decode cX5_become 85 = .ok (.bipush 12, 2) := by decide +kernel
theorem dX5_become_87 : decode cX5_become 87 = .ok (.invokestatic 47, 3) := by decide +kernel
theorem dX5_become_90 : decode cX5_become 90 = .ok (.aload_n 1, 1) := by decide +kernel
theorem dX5_become_91 : decode cX5_become 91 = .ok (.getfield 30, 3) := by decide +kernel
theorem dX5_become_94 : decode cX5_become 94 = .ok (.iconst 0, 1) := by decide +kernel
theorem dX5_become_95 : decode cX5_become 95 = .ok (.aload_n 0, 1) := by decide +kernel
theorem dX5_become_96 : decode cX5_become 96 = .ok (.getfield 30, 3) := by decide +kernel
theorem dX5_become_99 : decode cX5_become 99 = .ok (.iconst 0, 1) := by decide +kernel
theorem dX5_become_100 : decode cX5_become 100 = .ok (.bipush 12, 2) := by decide +kernel
theorem dX5_become_102 : decode cX5_become 102 = .ok (.invokestatic 47, 3) := by decide +kernel
theorem dX5_become_105 : decode cX5_become 105 = .ok (.aload_n 0, 1) := by decide +kernel
theorem dX5_become_106 : decode cX5_become 106 = .ok (.aload_n 1, 1) := by decide +kernel
theorem dX5_become_107 : decode cX5_become 107 = .ok (.getfield 36, 3) := by decide +kernel
theorem dX5_become_110 : decode cX5_become 110 = .ok (.putfield 36, 3) := by decide +kernel
theorem dX5_become_113 : decode cX5_become 113 = .ok (.aload_n 0, 1) := by decide +kernel
theorem dX5_become_114 : decode cX5_become 114 = .ok (.aload_n 1, 1) := by decide +kernel
theorem dX5_become_115 : decode cX5_become 115 = .ok (.getfield 40, 3) := by decide +kernel
theorem dX5_become_118 : decode cX5_become 118 = .ok (.putfield 40, 3) := by decide +kernel
theorem dX5_become_121 : decode cX5_become 121 = .ok (.aload_n 0, 1) := by decide +kernel
theorem dX5_become_122 : decode cX5_become 122 = .ok (.aload_n 1, 1) := by decide +kernel
theorem dX5_become_123 : decode cX5_become 123 = .ok (.getfield 53, 3) := by decide +kernel
theorem dX5_become_126 : decode cX5_become 126 = .ok (.putfield 53, 3) := by decide +kernel
theorem dX5_become_129 : decode cX5_become 129 = .ok (.aload_n 0, 1) := by decide +kernel
theorem dX5_become_130 : decode cX5_become 130 = .ok (.aload_n 1, 1) := by decide +kernel
theorem dX5_become_131 : decode cX5_become 131 = .ok (.getfield 56, 3) := by decide +kernel
theorem dX5_become_134 : decode cX5_become 134 = .ok (.putfield 56, 3) := by decide +kernel
theorem dX5_become_137 : decode cX5_become 137 = .ok (.return_, 1) := by decide +kernel
theorem dX5_isKind_0 : decode cX5_isKind 0 = .ok (.iload_n 0, 1) := by decide +kernel
theorem dX5_isKind_1 : decode cX5_isKind 1 = .ok (.ifCond .lt 12, 3) := by decide +kernel
theorem dX5_isKind_4 : decode cX5_isKind 4 = .ok (.iload_n 0, 1) := by decide +kernel
theorem dX5_isKind_5 : decode cX5_isKind 5 = .ok (.iconst 5, 1) := by decide +kernel
theorem dX5_isKind_6 : decode cX5_isKind 6 = .ok (.if_icmp .gt 7, 3) := by decide +kernel
theorem dX5_isKind_9 : decode cX5_isKind 9 = .ok (.iconst 1, 1) := by decide +kernel
theorem dX5_isKind_10 : decode cX5_isKind 10 = .ok (.goto 4, 3) := by decide +kernel
theorem dX5_isKind_13 : decode cX5_isKind 13 = .ok (.iconst 0, 1) := by decide +kernel
theorem dX5_isKind_14 : decode cX5_isKind 14 = .ok (.ireturn, 1) := by decide +kernel
theorem dX5_has_0 : decode cX5_has 0 = .ok (.iload_n 1, 1) := by decide +kernel
theorem dX5_has_1 : decode cX5_has 1 = .ok (.ifCond .lt 15, 3) := by decide +kernel
theorem dX5_has_4 : decode cX5_has 4 = .ok (.iload_n 1, 1) := by decide +kernel
theorem dX5_has_5 : decode cX5_has 5 = .ok (.aload_n 0, 1) := by decide +kernel
theorem dX5_has_6 : decode cX5_has 6 = .ok (.getfield 36, 3) := by decide +kernel
theorem dX5_has_9 : decode cX5_has 9 = .ok (.if_icmp .ge 7, 3) := by decide +kernel
theorem dX5_has_12 : decode cX5_has 12 = .ok (.iconst 1, 1) := by decide +kernel
theorem dX5_has_13 : decode cX5_has 13 = .ok (.goto 4, 3) := by decide +kernel
theorem dX5_has_16 : decode cX5_has 16 = .ok (.iconst 0, 1) := by decide +kernel
theorem dX5_has_17 : decode cX5_has 17 = .ok (.ireturn, 1) := by decide +kernel
set_option maxRecDepth 20000 in
theorem ggX5_stands_X5_has : GoodIn wsX5_stands wsX5_has := goodIn_r _ [6, 7, 11, 12, 13, 14, 15, 16, 17, 18, 19, 20, 21] (by decide +kernel) (by decide +kernel)
set_option maxRecDepth 20000 in
theorem gX5_stands_X5_has : GoodIn wsX5_stands (wsV RX5 59 RX5 yX5_has wsX5_has) := goodIn_app (goodIn_of _ (by decide +kernel)) ggX5_stands_X5_has
set_option maxRecDepth 20000 in
theorem ggX5_stands_X5_isIn : GoodIn wsX5_stands wsX5_isIn := goodIn_r _ [10] (by decide +kernel) (by decide +kernel)
set_option maxRecDepth 20000 in
theorem gX5_stands_X5_isIn : GoodIn wsX5_stands (va_wsS RX5 63 yX5_isIn wsX5_isIn) := goodIn_app (goodIn_of _ (by decide +kernel)) ggX5_stands_X5_isIn
theorem dX5_stands_0 : decode cX5_stands 0 = .ok (.aload_n 0, 1) := by decide +kernel
theorem dX5_stands_1 : decode cX5_stands 1 = .ok (.iload_n 1, 1) := by decide +kernel
theorem dX5_stands_2 : decode cX5_stands 2 = .ok (.invokevirtual 59, 3) := by decide +kernel
theorem dX5_stands_5 : decode cX5_stands 5 = .ok (.ifCond .eq 18, 3) := by decide +kernel
theorem dX5_stands_8 : decode cX5_stands 8 = .ok (.aload_n 0, 1) := by decide +kernel
theorem dX5_stands_9 : decode cX5_stands 9 = .ok (.getfield 40, 3) := by decide +kernel
theorem dX5_stands_12 : decode cX5_stands 12 = .ok (.iload_n 1, 1) := by decide +kernel
theorem dX5_stands_13 : decode cX5_stands 13 = .ok (.invokestatic 63, 3) := by decide +kernel
theorem dX5_stands_16 : decode cX5_stands 16 = .ok (.ifCond .eq 7, 3) := by decide +kernel
theorem dX5_stands_19 : decode cX5_stands 19 = .ok (.iconst 1, 1) := by decide +kernel
theorem dX5_stands_20 : decode cX5_stands 20 = .ok (.goto 4, 3) := by decide +kernel
theorem dX5_stands_23 : decode cX5_stands 23 = .ok (.iconst 0, 1) := by decide +kernel
theorem dX5_stands_24 : decode cX5_stands 24 = .ok (.ireturn, 1) := by decide +kernel
theorem dX5_hasRoom_0 : decode cX5_hasRoom 0 = .ok (.aload_n 0, 1) := by decide +kernel
theorem dX5_hasRoom_1 : decode cX5_hasRoom 1 = .ok (.getfield 36, 3) := by decide +kernel
theorem dX5_hasRoom_4 : decode cX5_hasRoom 4 = .ok (.bipush 12, 2) := by decide +kernel
theorem dX5_hasRoom_6 : decode cX5_hasRoom 6 = .ok (.if_icmp .ge 7, 3) := by decide +kernel
theorem dX5_hasRoom_9 : decode cX5_hasRoom 9 = .ok (.iconst 1, 1) := by decide +kernel
theorem dX5_hasRoom_10 : decode cX5_hasRoom 10 = .ok (.goto 4, 3) := by decide +kernel
theorem dX5_hasRoom_13 : decode cX5_hasRoom 13 = .ok (.iconst 0, 1) := by decide +kernel
theorem dX5_hasRoom_14 : decode cX5_hasRoom 14 = .ok (.ireturn, 1) := by decide +kernel
theorem dX5_cameCount_0 : decode cX5_cameCount 0 = .ok (.aload_n 0, 1) := by decide +kernel
theorem dX5_cameCount_1 : decode cX5_cameCount 1 = .ok (.getfield 36, 3) := by decide +kernel
theorem dX5_cameCount_4 : decode cX5_cameCount 4 = .ok (.ireturn, 1) := by decide +kernel
set_option maxRecDepth 20000 in
theorem ggX5_standingCount_J6_bitCount_0f7a4 : GoodIn wsX5_standingCount wsJ6_bitCount_0f7a4 := goodIn_r _ [5, 6, 7, 8] (by decide +kernel) (by decide +kernel)
set_option maxRecDepth 20000 in
theorem gX5_standingCount_J6_bitCount_0f7a4 : GoodIn wsX5_standingCount (va_wsS RX5 67 yJ6_bitCount_0f7a4 wsJ6_bitCount_0f7a4) := goodIn_app (goodIn_of _ (by decide +kernel)) ggX5_standingCount_J6_bitCount_0f7a4
theorem dX5_standingCount_0 : decode cX5_standingCount 0 = .ok (.aload_n 0, 1) := by decide +kernel
theorem dX5_standingCount_1 : decode cX5_standingCount 1 = .ok (.getfield 40, 3) := by decide +kernel
theorem dX5_standingCount_4 : decode cX5_standingCount 4 = .ok (.invokestatic 67, 3) := by decide +kernel
theorem dX5_standingCount_7 : decode cX5_standingCount 7 = .ok (.ireturn, 1) := by decide +kernel
theorem dX5_standingBits_0 : decode cX5_standingBits 0 = .ok (.aload_n 0, 1) := by decide +kernel
theorem dX5_standingBits_1 : decode cX5_standingBits 1 = .ok (.getfield 40, 3) := by decide +kernel
theorem dX5_standingBits_4 : decode cX5_standingBits 4 = .ok (.ireturn, 1) := by decide +kernel
theorem dX5_sumsLaw_0 : decode cX5_sumsLaw 0 = .ok (.aload_n 0, 1) := by decide +kernel
theorem dX5_sumsLaw_1 : decode cX5_sumsLaw 1 = .ok (.getfield 53, 3) := by decide +kernel
theorem dX5_sumsLaw_4 : decode cX5_sumsLaw 4 = .ok (.ireturn, 1) := by decide +kernel
theorem dX5_fallsLaw_0 : decode cX5_fallsLaw 0 = .ok (.aload_n 0, 1) := by decide +kernel
theorem dX5_fallsLaw_1 : decode cX5_fallsLaw 1 = .ok (.getfield 56, 3) := by decide +kernel
theorem dX5_fallsLaw_4 : decode cX5_fallsLaw 4 = .ok (.ireturn, 1) := by decide +kernel
theorem dX5_changeLaws_0 : decode cX5_changeLaws 0 = .ok (.iload_n 1, 1) := by decide +kernel
theorem dX5_changeLaws_1 : decode cX5_changeLaws 1 = .ok (.ifCond .lt 17, 3) := by decide +kernel
theorem dX5_changeLaws_4 : decode cX5_changeLaws 4 = .ok (.iload_n 1, 1) := by decide +kernel
theorem dX5_changeLaws_5 : decode cX5_changeLaws 5 = .ok (.iconst 2, 1) := by decide +kernel
theorem dX5_changeLaws_6 : decode cX5_changeLaws 6 = .ok (.if_icmp .gt 12, 3) := by decide +kernel
theorem dX5_changeLaws_9 : decode cX5_changeLaws 9 = .ok (.iload_n 2, 1) := by decide +kernel
theorem dX5_changeLaws_10 : decode cX5_changeLaws 10 = .ok (.ifCond .lt 8, 3) := by decide +kernel
theorem dX5_changeLaws_13 : decode cX5_changeLaws 13 = .ok (.iload_n 2, 1) := by decide +kernel
theorem dX5_changeLaws_14 : decode cX5_changeLaws 14 = .ok (.iconst 1, 1) := by decide +kernel
theorem dX5_changeLaws_15 : decode cX5_changeLaws 15 = .ok (.if_icmp .le 5, 3) := by decide +kernel
theorem dX5_changeLaws_18 : decode cX5_changeLaws 18 = .ok (.iconst 0, 1) := by decide +kernel
theorem dX5_changeLaws_19 : decode cX5_changeLaws 19 = .ok (.ireturn, 1) := by decide +kernel
theorem dX5_changeLaws_20 : decode cX5_changeLaws 20 = .ok (.aload_n 0, 1) := by decide +kernel
theorem dX5_changeLaws_21 : decode cX5_changeLaws 21 = .ok (.iload_n 1, 1) := by decide +kernel
theorem dX5_changeLaws_22 : decode cX5_changeLaws 22 = .ok (.putfield 53, 3) := by decide +kernel
theorem dX5_changeLaws_25 : decode cX5_changeLaws 25 = .ok (.aload_n 0, 1) := by decide +kernel
theorem dX5_changeLaws_26 : decode cX5_changeLaws 26 = .ok (.iload_n 2, 1) := by decide +kernel
theorem dX5_changeLaws_27 : decode cX5_changeLaws 27 = .ok (.putfield 56, 3) := by decide +kernel
theorem dX5_changeLaws_30 : decode cX5_changeLaws 30 = .ok (.iconst 1, 1) := by decide +kernel
theorem dX5_changeLaws_31 : decode cX5_changeLaws 31 = .ok (.ireturn, 1) := by decide +kernel
set_option maxRecDepth 20000 in
theorem ggX5_tell_X5_has : GoodIn wsX5_tell wsX5_has := goodIn_r _ [13, 14, 18, 19, 20, 21, 22, 23, 24, 25, 26, 27, 28] (by decide +kernel) (by decide +kernel)
set_option maxRecDepth 20000 in
theorem gX5_tell_X5_has : GoodIn wsX5_tell (wsV RX5 59 RX5 yX5_has wsX5_has) := goodIn_app (goodIn_of _ (by decide +kernel)) ggX5_tell_X5_has
set_option maxRecDepth 20000 in
theorem ggX5_tell_X5_isIn : GoodIn wsX5_tell wsX5_isIn := goodIn_r _ [17] (by decide +kernel) (by decide +kernel)
set_option maxRecDepth 20000 in
theorem gX5_tell_X5_isIn : GoodIn wsX5_tell (va_wsS RX5 63 yX5_isIn wsX5_isIn) := goodIn_app (goodIn_of _ (by decide +kernel)) ggX5_tell_X5_isIn
theorem dX5_tell_0 : decode cX5_tell 0 = .ok (.aload_n 0, 1) := by decide +kernel
theorem dX5_tell_1 : decode cX5_tell 1 = .ok (.iload_n 1, 1) := by decide +kernel
theorem dX5_tell_2 : decode cX5_tell 2 = .ok (.invokevirtual 59, 3) := by decide +kernel
theorem dX5_tell_5 : decode cX5_tell 5 = .ok (.ifCond .ne 5, 3) := by decide +kernel
theorem dX5_tell_8 : decode cX5_tell 8 = .ok (.iconst (-1), 1) := by decide +kernel
theorem dX5_tell_9 : decode cX5_tell 9 = .ok (.ireturn, 1) := by decide +kernel
theorem dX5_tell_10 : decode cX5_tell 10 = .ok (.iload_n 2, 1) := by decide +kernel
theorem dX5_tell_11 : decode cX5_tell 11 = .ok (.tableswitch 111 0 7 #[45, 52, 59, 66, 73, 80, 97, 104], 45) := by decide +kernel
theorem dX5_tell_56 : decode cX5_tell 56 = .ok (.aload_n 0, 1) := by decide +kernel
theorem dX5_tell_57 : decode cX5_tell 57 = .ok (.getfield 9, 3) := by decide +kernel
theorem dX5_tell_60 : decode cX5_tell 60 = .ok (.iload_n 1, 1) := by decide +kernel
theorem dX5_tell_61 : decode cX5_tell 61 = .ok (.iaload, 1) := by decide +kernel
theorem dX5_tell_62 : decode cX5_tell 62 = .ok (.ireturn, 1) := by decide +kernel
theorem dX5_tell_63 : decode cX5_tell 63 = .ok (.aload_n 0, 1) := by decide +kernel
theorem dX5_tell_64 : decode cX5_tell 64 = .ok (.getfield 15, 3) := by decide +kernel
theorem dX5_tell_67 : decode cX5_tell 67 = .ok (.iload_n 1, 1) := by decide +kernel
theorem dX5_tell_68 : decode cX5_tell 68 = .ok (.iaload, 1) := by decide +kernel
theorem dX5_tell_69 : decode cX5_tell 69 = .ok (.ireturn, 1) := by decide +kernel
theorem dX5_tell_70 : decode cX5_tell 70 = .ok (.aload_n 0, 1) := by decide +kernel
theorem dX5_tell_71 : decode cX5_tell 71 = .ok (.getfield 18, 3) := by decide +kernel
theorem dX5_tell_74 : decode cX5_tell 74 = .ok (.iload_n 1, 1) := by decide +kernel
theorem dX5_tell_75 : decode cX5_tell 75 = .ok (.iaload, 1) := by decide +kernel
theorem dX5_tell_76 : decode cX5_tell 76 = .ok (.ireturn, 1) := by decide +kernel
theorem dX5_tell_77 : decode cX5_tell 77 = .ok (.aload_n 0, 1) := by decide +kernel
theorem dX5_tell_78 : decode cX5_tell 78 = .ok (.getfield 21, 3) := by decide +kernel
theorem dX5_tell_81 : decode cX5_tell 81 = .ok (.iload_n 1, 1) := by decide +kernel
theorem dX5_tell_82 : decode cX5_tell 82 = .ok (.iaload, 1) := by decide +kernel
theorem dX5_tell_83 : decode cX5_tell 83 = .ok (.ireturn, 1) := by decide +kernel
theorem dX5_tell_84 : decode cX5_tell 84 = .ok (.aload_n 0, 1) := by decide +kernel
theorem dX5_tell_85 : decode cX5_tell 85 = .ok (.getfield 24, 3) := by decide +kernel
theorem dX5_tell_88 : decode cX5_tell 88 = .ok (.iload_n 1, 1) := by decide +kernel
theorem dX5_tell_89 : decode cX5_tell 89 = .ok (.iaload, 1) := by decide +kernel
theorem dX5_tell_90 : decode cX5_tell 90 = .ok (.ireturn, 1) := by decide +kernel
theorem dX5_tell_91 : decode cX5_tell 91 = .ok (.aload_n 0, 1) := by decide +kernel
theorem dX5_tell_92 : decode cX5_tell 92 = .ok (.getfield 40, 3) := by decide +kernel
theorem dX5_tell_95 : decode cX5_tell 95 = .ok (.iload_n 1, 1) := by decide +kernel
theorem dX5_tell_96 : decode cX5_tell 96 = .ok (.invokestatic 63, 3) := by decide +kernel
theorem dX5_tell_99 : decode cX5_tell 99 = .ok (.ifCond .eq 7, 3) := by decide +kernel
theorem dX5_tell_102 : decode cX5_tell 102 = .ok (.iconst 1, 1) := by decide +kernel
theorem dX5_tell_103 : decode cX5_tell 103 = .ok (.goto 4, 3) := by decide +kernel
theorem dX5_tell_106 : decode cX5_tell 106 = .ok (.iconst 0, 1) := by decide +kernel
theorem dX5_tell_107 : decode cX5_tell 107 = .ok (.ireturn, 1) := by decide +kernel
theorem dX5_tell_108 : decode cX5_tell 108 = .ok (.aload_n 0, 1) := by decide +kernel
theorem dX5_tell_109 : decode cX5_tell 109 = .ok (.getfield 27, 3) := by decide +kernel
theorem dX5_tell_112 : decode cX5_tell 112 = .ok (.iload_n 1, 1) := by decide +kernel
theorem dX5_tell_113 : decode cX5_tell 113 = .ok (.iaload, 1) := by decide +kernel
theorem dX5_tell_114 : decode cX5_tell 114 = .ok (.ireturn, 1) := by decide +kernel
theorem dX5_tell_115 : decode cX5_tell 115 = .ok (.aload_n 0, 1) := by decide +kernel
theorem dX5_tell_116 : decode cX5_tell 116 = .ok (.getfield 30, 3) := by decide +kernel
theorem dX5_tell_119 : decode cX5_tell 119 = .ok (.iload_n 1, 1) := by decide +kernel
theorem dX5_tell_120 : decode cX5_tell 120 = .ok (.iaload, 1) := by decide +kernel
theorem dX5_tell_121 : decode cX5_tell 121 = .ok (.ireturn, 1) := by decide +kernel
theorem dX5_tell_122 : decode cX5_tell 122 = .ok (.bipush (-2), 2) := by decide +kernel
theorem dX5_tell_124 : decode cX5_tell 124 = .ok (.ireturn, 1) := by decide +kernel
set_option maxRecDepth 20000 in
theorem ggX5_greatest_X5_isIn : GoodIn wsX5_greatest wsX5_isIn := goodIn_r _ [11] (by decide +kernel) (by decide +kernel)
set_option maxRecDepth 20000 in
theorem gX5_greatest_X5_isIn : GoodIn wsX5_greatest (va_wsS RX5 63 yX5_isIn wsX5_isIn) := goodIn_app (goodIn_of _ (by decide +kernel)) ggX5_greatest_X5_isIn
theorem dX5_greatest_0 : decode cX5_greatest 0 = .ok (.iconst 0, 1) := by decide +kernel
theorem dX5_greatest_1 : decode cX5_greatest 1 = .ok (.istore_n 1, 1) := by decide +kernel
theorem dX5_greatest_2 : decode cX5_greatest 2 = .ok (.iconst 0, 1) := by decide +kernel
theorem dX5_greatest_3 : decode cX5_greatest 3 = .ok (.istore_n 2, 1) := by decide +kernel
theorem dX5_greatest_4 : decode cX5_greatest 4 = .ok (.iload_n 2, 1) := by decide +kernel
theorem dX5_greatest_5 : decode cX5_greatest 5 = .ok (.aload_n 0, 1) := by decide +kernel
theorem dX5_greatest_6 : decode cX5_greatest 6 = .ok (.getfield 36, 3) := by decide +kernel
theorem dX5_greatest_9 : decode cX5_greatest 9 = .ok (.if_icmp .ge 31, 3) := by decide +kernel
theorem dX5_greatest_12 : decode cX5_greatest 12 = .ok (.aload_n 0, 1) := by decide +kernel
theorem dX5_greatest_13 : decode cX5_greatest 13 = .ok (.getfield 40, 3) := by decide +kernel
theorem dX5_greatest_16 : decode cX5_greatest 16 = .ok (.iload_n 2, 1) := by decide +kernel
theorem dX5_greatest_17 : decode cX5_greatest 17 = .ok (.invokestatic 63, 3) := by decide +kernel
theorem dX5_greatest_20 : decode cX5_greatest 20 = .ok (.ifCond .eq 14, 3) := by decide +kernel
theorem dX5_greatest_23 : decode cX5_greatest 23 = .ok (.iload_n 1, 1) := by decide +kernel
theorem dX5_greatest_24 : decode cX5_greatest 24 = .ok (.aload_n 0, 1) := by decide +kernel
theorem dX5_greatest_25 : decode cX5_greatest 25 = .ok (.getfield 18, 3) := by decide +kernel
theorem dX5_greatest_28 : decode cX5_greatest 28 = .ok (.iload_n 2, 1) := by decide +kernel
theorem dX5_greatest_29 : decode cX5_greatest 29 = .ok (.iaload, 1) := by decide +kernel
theorem dX5_greatest_30 : decode cX5_greatest 30 = .ok (.invokestatic 73, 3) := by decide +kernel
theorem dX5_greatest_33 : decode cX5_greatest 33 = .ok (.istore_n 1, 1) := by decide +kernel
theorem dX5_greatest_34 : decode cX5_greatest 34 = .ok (.iinc 2 1, 3) := by decide +kernel
theorem dX5_greatest_37 : decode cX5_greatest 37 = .ok (.goto (-33), 3) := by decide +kernel
theorem dX5_greatest_40 : decode cX5_greatest 40 = .ok (.iload_n 1, 1) := by decide +kernel
theorem dX5_greatest_41 : decode cX5_greatest 41 = .ok (.ireturn, 1) := by decide +kernel
theorem dX5_allEarned_0 : decode cX5_allEarned 0 = .ok (.iconst 0, 1) := by decide +kernel
theorem dX5_allEarned_1 : decode cX5_allEarned 1 = .ok (.istore_n 1, 1) := by decide +kernel
theorem dX5_allEarned_2 : decode cX5_allEarned 2 = .ok (.iconst 0, 1) := by decide +kernel
theorem dX5_allEarned_3 : decode cX5_allEarned 3 = .ok (.istore_n 2, 1) := by decide +kernel
theorem dX5_allEarned_4 : decode cX5_allEarned 4 = .ok (.iload_n 2, 1) := by decide +kernel
theorem dX5_allEarned_5 : decode cX5_allEarned 5 = .ok (.aload_n 0, 1) := by decide +kernel
theorem dX5_allEarned_6 : decode cX5_allEarned 6 = .ok (.getfield 36, 3) := by decide +kernel
theorem dX5_allEarned_9 : decode cX5_allEarned 9 = .ok (.if_icmp .ge 18, 3) := by decide +kernel
theorem dX5_allEarned_12 : decode cX5_allEarned 12 = .ok (.iload_n 1, 1) := by decide +kernel
theorem dX5_allEarned_13 : decode cX5_allEarned 13 = .ok (.aload_n 0, 1) := by decide +kernel
theorem dX5_allEarned_14 : decode cX5_allEarned 14 = .ok (.getfield 30, 3) := by decide +kernel
theorem dX5_allEarned_17 : decode cX5_allEarned 17 = .ok (.iload_n 2, 1) := by decide +kernel
theorem dX5_allEarned_18 : decode cX5_allEarned 18 = .ok (.iaload, 1) := by decide +kernel
theorem dX5_allEarned_19 : decode cX5_allEarned 19 = .ok (.iadd, 1) := by decide +kernel
theorem dX5_allEarned_20 : decode cX5_allEarned 20 = .ok (.istore_n 1, 1) := by decide +kernel
theorem dX5_allEarned_21 : decode cX5_allEarned 21 = .ok (.iinc 2 1, 3) := by decide +kernel
theorem dX5_allEarned_24 : decode cX5_allEarned 24 = .ok (.goto (-20), 3) := by decide +kernel
theorem dX5_allEarned_27 : decode cX5_allEarned 27 = .ok (.iload_n 1, 1) := by decide +kernel
theorem dX5_allEarned_28 : decode cX5_allEarned 28 = .ok (.ireturn, 1) := by decide +kernel
set_option maxRecDepth 20000 in
theorem ggX5_isThere_X5_isIn : GoodIn wsX5_isThere wsX5_isIn := goodIn_r _ [7] (by decide +kernel) (by decide +kernel)
set_option maxRecDepth 20000 in
theorem gX5_isThere_X5_isIn : GoodIn wsX5_isThere (va_wsS RX5 63 yX5_isIn wsX5_isIn) := goodIn_app (goodIn_of _ (by decide +kernel)) ggX5_isThere_X5_isIn
theorem dX5_isThere_0 : decode cX5_isThere 0 = .ok (.iconst 0, 1) := by decide +kernel
theorem dX5_isThere_1 : decode cX5_isThere 1 = .ok (.istore_n 2, 1) := by decide +kernel
theorem dX5_isThere_2 : decode cX5_isThere 2 = .ok (.iload_n 2, 1) := by decide +kernel
theorem dX5_isThere_3 : decode cX5_isThere 3 = .ok (.aload_n 0, 1) := by decide +kernel
theorem dX5_isThere_4 : decode cX5_isThere 4 = .ok (.getfield 36, 3) := by decide +kernel
theorem dX5_isThere_7 : decode cX5_isThere 7 = .ok (.if_icmp .ge 32, 3) := by decide +kernel
theorem dX5_isThere_10 : decode cX5_isThere 10 = .ok (.aload_n 0, 1) := by decide +kernel
theorem dX5_isThere_11 : decode cX5_isThere 11 = .ok (.getfield 40, 3) := by decide +kernel
theorem dX5_isThere_14 : decode cX5_isThere 14 = .ok (.iload_n 2, 1) := by decide +kernel
theorem dX5_isThere_15 : decode cX5_isThere 15 = .ok (.invokestatic 63, 3) := by decide +kernel
theorem dX5_isThere_18 : decode cX5_isThere 18 = .ok (.ifCond .eq 15, 3) := by decide +kernel
theorem dX5_isThere_21 : decode cX5_isThere 21 = .ok (.aload_n 0, 1) := by decide +kernel
theorem dX5_isThere_22 : decode cX5_isThere 22 = .ok (.getfield 18, 3) := by decide +kernel
theorem dX5_isThere_25 : decode cX5_isThere 25 = .ok (.iload_n 2, 1) := by decide +kernel
theorem dX5_isThere_26 : decode cX5_isThere 26 = .ok (.iaload, 1) := by decide +kernel
theorem dX5_isThere_27 : decode cX5_isThere 27 = .ok (.iload_n 1, 1) := by decide +kernel
theorem dX5_isThere_28 : decode cX5_isThere 28 = .ok (.if_icmp .ne 5, 3) := by decide +kernel
theorem dX5_isThere_31 : decode cX5_isThere 31 = .ok (.iconst 1, 1) := by decide +kernel
theorem dX5_isThere_32 : decode cX5_isThere 32 = .ok (.ireturn, 1) := by decide +kernel
theorem dX5_isThere_33 : decode cX5_isThere 33 = .ok (.iinc 2 1, 3) := by decide +kernel
theorem dX5_isThere_36 : decode cX5_isThere 36 = .ok (.goto (-34), 3) := by decide +kernel
theorem dX5_isThere_39 : decode cX5_isThere 39 = .ok (.iconst 0, 1) := by decide +kernel
theorem dX5_isThere_40 : decode cX5_isThere 40 = .ok (.ireturn, 1) := by decide +kernel
set_option maxRecDepth 20000 in
theorem ggX5_fee_X5_has : GoodIn wsX5_fee wsX5_has := goodIn_r _ [7, 8, 9, 10, 11, 12, 13, 14, 15, 16, 17, 18, 19] (by decide +kernel) (by decide +kernel)
set_option maxRecDepth 20000 in
theorem gX5_fee_X5_has : GoodIn wsX5_fee (wsV RX5 59 RX5 yX5_has wsX5_has) := goodIn_app (goodIn_of _ (by decide +kernel)) ggX5_fee_X5_has
theorem dX5_fee_0 : decode cX5_fee 0 = .ok (.aload_n 0, 1) := by decide +kernel
theorem dX5_fee_1 : decode cX5_fee 1 = .ok (.iload_n 1, 1) := by decide +kernel
theorem dX5_fee_2 : decode cX5_fee 2 = .ok (.invokevirtual 59, 3) := by decide +kernel
theorem dX5_fee_5 : decode cX5_fee 5 = .ok (.ifCond .ne 5, 3) := by decide +kernel
theorem dX5_fee_8 : decode cX5_fee 8 = .ok (.iconst 0, 1) := by decide +kernel
theorem dX5_fee_9 : decode cX5_fee 9 = .ok (.ireturn, 1) := by decide +kernel
theorem dX5_fee_10 : decode cX5_fee 10 = .ok (.aload_n 0, 1) := by decide +kernel
theorem dX5_fee_11 : decode cX5_fee 11 = .ok (.getfield 9, 3) := by decide +kernel
theorem dX5_fee_14 : decode cX5_fee 14 = .ok (.iload_n 1, 1) := by decide +kernel
theorem dX5_fee_15 : decode cX5_fee 15 = .ok (.iaload, 1) := by decide +kernel
theorem dX5_fee_16 : decode cX5_fee 16 = .ok (.lookupswitch 46 #[(2, 28), (3, 35)], 28) := by decide +kernel
theorem dX5_fee_44 : decode cX5_fee 44 = .ok (.aload_n 0, 1) := by decide +kernel
theorem dX5_fee_45 : decode cX5_fee 45 = .ok (.getfield 15, 3) := by decide +kernel
theorem dX5_fee_48 : decode cX5_fee 48 = .ok (.iload_n 1, 1) := by decide +kernel
theorem dX5_fee_49 : decode cX5_fee 49 = .ok (.iaload, 1) := by decide +kernel
theorem dX5_fee_50 : decode cX5_fee 50 = .ok (.ireturn, 1) := by decide +kernel
theorem dX5_fee_51 : decode cX5_fee 51 = .ok (.iconst 2, 1) := by decide +kernel
theorem dX5_fee_52 : decode cX5_fee 52 = .ok (.aload_n 0, 1) := by decide +kernel
theorem dX5_fee_53 : decode cX5_fee 53 = .ok (.getfield 15, 3) := by decide +kernel
theorem dX5_fee_56 : decode cX5_fee 56 = .ok (.iload_n 1, 1) := by decide +kernel
theorem dX5_fee_57 : decode cX5_fee 57 = .ok (.iaload, 1) := by decide +kernel
theorem dX5_fee_58 : decode cX5_fee 58 = .ok (.imul, 1) := by decide +kernel
theorem dX5_fee_59 : decode cX5_fee 59 = .ok (.iconst 1, 1) := by decide +kernel
theorem dX5_fee_60 : decode cX5_fee 60 = .ok (.iadd, 1) := by decide +kernel
theorem dX5_fee_61 : decode cX5_fee 61 = .ok (.ireturn, 1) := by decide +kernel
theorem dX5_fee_62 : decode cX5_fee 62 = .ok (.iconst 0, 1) := by decide +kernel
theorem dX5_fee_63 : decode cX5_fee 63 = .ok (.ireturn, 1) := by decide +kernel
set_option maxRecDepth 20000 in
theorem ggX5_mayBe_X5_stands : GoodIn wsX5_mayBe wsX5_stands := goodIn_r _ [6, 7, 8, 9, 10, 5, 11, 12, 13, 14, 15, 36, 37, 38, 39, 40, 41, 42, 43, 44, 45, 46] (by decide +kernel) (by decide +kernel)
set_option maxRecDepth 20000 in
theorem gX5_mayBe_X5_stands : GoodIn wsX5_mayBe (wsV RX5 79 RX5 yX5_stands wsX5_stands) := goodIn_app (goodIn_of _ (by decide +kernel)) ggX5_mayBe_X5_stands
set_option maxRecDepth 20000 in
theorem ggX5_mayBe_X5_isLawful : GoodIn wsX5_mayBe wsX5_isLawful := goodIn_r _ [19, 20, 7, 21, 22, 23, 24, 25, 36, 37, 38, 39, 40, 41, 42, 43, 44, 45, 46] (by decide +kernel) (by decide +kernel)
set_option maxRecDepth 20000 in
theorem gX5_mayBe_X5_isLawful : GoodIn wsX5_mayBe (wsV RX5 82 RX5 yX5_isLawful wsX5_isLawful) := goodIn_app (goodIn_of _ (by decide +kernel)) ggX5_mayBe_X5_isLawful
set_option maxRecDepth 20000 in
theorem ggX5_mayBe_X5_lends : GoodIn wsX5_mayBe wsX5_lends := goodIn_r _ [29, 30, 31, 8, 9, 10, 5, 11, 12, 36, 37, 38, 39, 40, 41, 42, 43, 44, 45, 46] (by decide +kernel) (by decide +kernel)
set_option maxRecDepth 20000 in
theorem gX5_mayBe_X5_lends : GoodIn wsX5_mayBe (wsV RX5 85 RX5 yX5_lends wsX5_lends) := goodIn_app (goodIn_of _ (by decide +kernel)) ggX5_mayBe_X5_lends
set_option maxRecDepth 20000 in
theorem ggX5_mayBe_X5_isThere : GoodIn wsX5_mayBe wsX5_isThere := goodIn_r _ [35, 12, 7, 1, 13, 14, 5, 15, 36, 37, 38, 39, 40, 41, 42, 43, 44, 45, 46] (by decide +kernel) (by decide +kernel)
set_option maxRecDepth 20000 in
theorem gX5_mayBe_X5_isThere : GoodIn wsX5_mayBe (wsV RX5 88 RX5 yX5_isThere wsX5_isThere) := goodIn_app (goodIn_of _ (by decide +kernel)) ggX5_mayBe_X5_isThere
theorem dX5_mayBe_0 : decode cX5_mayBe 0 = .ok (.aload_n 0, 1) := by decide +kernel
theorem dX5_mayBe_1 : decode cX5_mayBe 1 = .ok (.iload_n 1, 1) := by decide +kernel
theorem dX5_mayBe_2 : decode cX5_mayBe 2 = .ok (.invokevirtual 79, 3) := by decide +kernel
theorem dX5_mayBe_5 : decode cX5_mayBe 5 = .ok (.ifCond .eq 20, 3) := by decide +kernel
theorem dX5_mayBe_8 : decode cX5_mayBe 8 = .ok (.aload_n 0, 1) := by decide +kernel
theorem dX5_mayBe_9 : decode cX5_mayBe 9 = .ok (.iload_n 2, 1) := by decide +kernel
theorem dX5_mayBe_10 : decode cX5_mayBe 10 = .ok (.invokevirtual 79, 3) := by decide +kernel
theorem dX5_mayBe_13 : decode cX5_mayBe 13 = .ok (.ifCond .eq 12, 3) := by decide +kernel
theorem dX5_mayBe_16 : decode cX5_mayBe 16 = .ok (.aload_n 0, 1) := by decide +kernel
theorem dX5_mayBe_17 : decode cX5_mayBe 17 = .ok (.iload_n 1, 1) := by decide +kernel
theorem dX5_mayBe_18 : decode cX5_mayBe 18 = .ok (.iload_n 2, 1) := by decide +kernel
theorem dX5_mayBe_19 : decode cX5_mayBe 19 = .ok (.invokevirtual 82, 3) := by decide +kernel
theorem dX5_mayBe_22 : decode cX5_mayBe 22 = .ok (.ifCond .ne 5, 3) := by decide +kernel
theorem dX5_mayBe_25 : decode cX5_mayBe 25 = .ok (.iconst 0, 1) := by decide +kernel
theorem dX5_mayBe_26 : decode cX5_mayBe 26 = .ok (.ireturn, 1) := by decide +kernel
theorem dX5_mayBe_27 : decode cX5_mayBe 27 = .ok (.aload_n 0, 1) := by decide +kernel
theorem dX5_mayBe_28 : decode cX5_mayBe 28 = .ok (.getfield 18, 3) := by decide +kernel
theorem dX5_mayBe_31 : decode cX5_mayBe 31 = .ok (.iload_n 1, 1) := by decide +kernel
theorem dX5_mayBe_32 : decode cX5_mayBe 32 = .ok (.iaload, 1) := by decide +kernel
theorem dX5_mayBe_33 : decode cX5_mayBe 33 = .ok (.aload_n 0, 1) := by decide +kernel
theorem dX5_mayBe_34 : decode cX5_mayBe 34 = .ok (.getfield 18, 3) := by decide +kernel
theorem dX5_mayBe_37 : decode cX5_mayBe 37 = .ok (.iload_n 2, 1) := by decide +kernel
theorem dX5_mayBe_38 : decode cX5_mayBe 38 = .ok (.iaload, 1) := by decide +kernel
theorem dX5_mayBe_39 : decode cX5_mayBe 39 = .ok (.iadd, 1) := by decide +kernel
theorem dX5_mayBe_40 : decode cX5_mayBe 40 = .ok (.istore_n 3, 1) := by decide +kernel
theorem dX5_mayBe_41 : decode cX5_mayBe 41 = .ok (.iload_n 3, 1) := by decide +kernel
theorem dX5_mayBe_42 : decode cX5_mayBe 42 = .ok (.sipush 9999, 3) := by decide +kernel
theorem dX5_mayBe_45 : decode cX5_mayBe 45 = .ok (.if_icmp .gt 33, 3) := by decide +kernel
theorem dX5_mayBe_48 : decode cX5_mayBe 48 = .ok (.aload_n 0, 1) := by decide +kernel
theorem dX5_mayBe_49 : decode cX5_mayBe 49 = .ok (.iload_n 1, 1) := by decide +kernel
theorem dX5_mayBe_50 : decode cX5_mayBe 50 = .ok (.iload_n 3, 1) := by decide +kernel
theorem dX5_mayBe_51 : decode cX5_mayBe 51 = .ok (.invokevirtual 85, 3) := by decide +kernel
theorem dX5_mayBe_54 : decode cX5_mayBe 54 = .ok (.ifCond .eq 24, 3) := by decide +kernel
theorem dX5_mayBe_57 : decode cX5_mayBe 57 = .ok (.aload_n 0, 1) := by decide +kernel
theorem dX5_mayBe_58 : decode cX5_mayBe 58 = .ok (.iload_n 2, 1) := by decide +kernel
theorem dX5_mayBe_59 : decode cX5_mayBe 59 = .ok (.iload_n 3, 1) := by decide +kernel
theorem dX5_mayBe_60 : decode cX5_mayBe 60 = .ok (.invokevirtual 85, 3) := by decide +kernel
theorem dX5_mayBe_63 : decode cX5_mayBe 63 = .ok (.ifCond .eq 15, 3) := by decide +kernel
theorem dX5_mayBe_66 : decode cX5_mayBe 66 = .ok (.aload_n 0, 1) := by decide +kernel
theorem dX5_mayBe_67 : decode cX5_mayBe 67 = .ok (.iload_n 3, 1) := by decide +kernel
theorem dX5_mayBe_68 : decode cX5_mayBe 68 = .ok (.invokevirtual 88, 3) := by decide +kernel
theorem dX5_mayBe_71 : decode cX5_mayBe 71 = .ok (.ifCond .ne 7, 3) := by decide +kernel
theorem dX5_mayBe_74 : decode cX5_mayBe 74 = .ok (.iconst 1, 1) := by decide +kernel
theorem dX5_mayBe_75 : decode cX5_mayBe 75 = .ok (.goto 4, 3) := by decide +kernel
theorem dX5_mayBe_78 : decode cX5_mayBe 78 = .ok (.iconst 0, 1) := by decide +kernel
theorem dX5_mayBe_79 : decode cX5_mayBe 79 = .ok (.ireturn, 1) := by decide +kernel
set_option maxRecDepth 20000 in
theorem ggX5_isLawful_J6_numberOfLeadingZeros_0f7a4 : GoodIn wsX5_isLawful wsJ6_numberOfLeadingZeros_0f7a4 := goodIn_r _ [6, 7] (by decide +kernel) (by decide +kernel)
set_option maxRecDepth 20000 in
theorem gX5_isLawful_J6_numberOfLeadingZeros_0f7a4 : GoodIn wsX5_isLawful (va_wsS RX5 91 yJ6_numberOfLeadingZeros_0f7a4 wsJ6_numberOfLeadingZeros_0f7a4) := goodIn_app (goodIn_of _ (by decide +kernel)) ggX5_isLawful_J6_numberOfLeadingZeros_0f7a4
theorem dX5_isLawful_0 : decode cX5_isLawful 0 = .ok (.aload_n 0, 1) := by decide +kernel
theorem dX5_isLawful_1 : decode cX5_isLawful 1 = .ok (.getfield 53, 3) := by decide +kernel
theorem dX5_isLawful_4 : decode cX5_isLawful 4 = .ok (.lookupswitch 66 #[(1, 28), (2, 55)], 28) := by decide +kernel
theorem dX5_isLawful_32 : decode cX5_isLawful 32 = .ok (.bipush 31, 2) := by decide +kernel
theorem dX5_isLawful_34 : decode cX5_isLawful 34 = .ok (.aload_n 0, 1) := by decide +kernel
theorem dX5_isLawful_35 : decode cX5_isLawful 35 = .ok (.getfield 40, 3) := by decide +kernel
theorem dX5_isLawful_38 : decode cX5_isLawful 38 = .ok (.invokestatic 91, 3) := by decide +kernel
theorem dX5_isLawful_41 : decode cX5_isLawful 41 = .ok (.isub, 1) := by decide +kernel
theorem dX5_isLawful_42 : decode cX5_isLawful 42 = .ok (.istore_n 3, 1) := by decide +kernel
theorem dX5_isLawful_43 : decode cX5_isLawful 43 = .ok (.iload_n 1, 1) := by decide +kernel
theorem dX5_isLawful_44 : decode cX5_isLawful 44 = .ok (.iload_n 3, 1) := by decide +kernel
theorem dX5_isLawful_45 : decode cX5_isLawful 45 = .ok (.if_icmp .eq 8, 3) := by decide +kernel
theorem dX5_isLawful_48 : decode cX5_isLawful 48 = .ok (.iload_n 2, 1) := by decide +kernel
theorem dX5_isLawful_49 : decode cX5_isLawful 49 = .ok (.iload_n 3, 1) := by decide +kernel
theorem dX5_isLawful_50 : decode cX5_isLawful 50 = .ok (.if_icmp .ne 7, 3) := by decide +kernel
theorem dX5_isLawful_53 : decode cX5_isLawful 53 = .ok (.iconst 1, 1) := by decide +kernel
theorem dX5_isLawful_54 : decode cX5_isLawful 54 = .ok (.goto 4, 3) := by decide +kernel
theorem dX5_isLawful_57 : decode cX5_isLawful 57 = .ok (.iconst 0, 1) := by decide +kernel
theorem dX5_isLawful_58 : decode cX5_isLawful 58 = .ok (.ireturn, 1) := by decide +kernel
theorem dX5_isLawful_59 : decode cX5_isLawful 59 = .ok (.iload_n 1, 1) := by decide +kernel
theorem dX5_isLawful_60 : decode cX5_isLawful 60 = .ok (.iload_n 2, 1) := by decide +kernel
theorem dX5_isLawful_61 : decode cX5_isLawful 61 = .ok (.if_icmp .ne 7, 3) := by decide +kernel
theorem dX5_isLawful_64 : decode cX5_isLawful 64 = .ok (.iconst 1, 1) := by decide +kernel
theorem dX5_isLawful_65 : decode cX5_isLawful 65 = .ok (.goto 4, 3) := by decide +kernel
theorem dX5_isLawful_68 : decode cX5_isLawful 68 = .ok (.iconst 0, 1) := by decide +kernel
theorem dX5_isLawful_69 : decode cX5_isLawful 69 = .ok (.ireturn, 1) := by decide +kernel
theorem dX5_isLawful_70 : decode cX5_isLawful 70 = .ok (.iconst 1, 1) := by decide +kernel
theorem dX5_isLawful_71 : decode cX5_isLawful 71 = .ok (.ireturn, 1) := by decide +kernel
set_option maxRecDepth 20000 in
theorem ggX5_lends_X5_has : GoodIn wsX5_lends wsX5_has := goodIn_r _ [7, 8, 9, 10, 11, 12, 13, 14, 15, 16, 17, 18, 19] (by decide +kernel) (by decide +kernel)
set_option maxRecDepth 20000 in
theorem gX5_lends_X5_has : GoodIn wsX5_lends (wsV RX5 59 RX5 yX5_has wsX5_has) := goodIn_app (goodIn_of _ (by decide +kernel)) ggX5_lends_X5_has
theorem dX5_lends_0 : decode cX5_lends 0 = .ok (.aload_n 0, 1) := by decide +kernel
theorem dX5_lends_1 : decode cX5_lends 1 = .ok (.iload_n 1, 1) := by decide +kernel
theorem dX5_lends_2 : decode cX5_lends 2 = .ok (.invokevirtual 59, 3) := by decide +kernel
theorem dX5_lends_5 : decode cX5_lends 5 = .ok (.ifCond .ne 5, 3) := by decide +kernel
theorem dX5_lends_8 : decode cX5_lends 8 = .ok (.iconst 0, 1) := by decide +kernel
theorem dX5_lends_9 : decode cX5_lends 9 = .ok (.ireturn, 1) := by decide +kernel
theorem dX5_lends_10 : decode cX5_lends 10 = .ok (.aload_n 0, 1) := by decide +kernel
theorem dX5_lends_11 : decode cX5_lends 11 = .ok (.getfield 9, 3) := by decide +kernel
theorem dX5_lends_14 : decode cX5_lends 14 = .ok (.iload_n 1, 1) := by decide +kernel
theorem dX5_lends_15 : decode cX5_lends 15 = .ok (.iaload, 1) := by decide +kernel
theorem dX5_lends_16 : decode cX5_lends 16 = .ok (.tableswitch 61 1 4 #[32, 61, 47, 59], 32) := by decide +kernel
theorem dX5_lends_48 : decode cX5_lends 48 = .ok (.aload_n 0, 1) := by decide +kernel
theorem dX5_lends_49 : decode cX5_lends 49 = .ok (.getfield 27, 3) := by decide +kernel
theorem dX5_lends_52 : decode cX5_lends 52 = .ok (.iload_n 1, 1) := by decide +kernel
theorem dX5_lends_53 : decode cX5_lends 53 = .ok (.iaload, 1) := by decide +kernel
theorem dX5_lends_54 : decode cX5_lends 54 = .ok (.ifCond .ne 7, 3) := by decide +kernel
theorem dX5_lends_57 : decode cX5_lends 57 = .ok (.iconst 1, 1) := by decide +kernel
theorem dX5_lends_58 : decode cX5_lends 58 = .ok (.goto 4, 3) := by decide +kernel
theorem dX5_lends_61 : decode cX5_lends 61 = .ok (.iconst 0, 1) := by decide +kernel
theorem dX5_lends_62 : decode cX5_lends 62 = .ok (.ireturn, 1) := by decide +kernel
theorem dX5_lends_63 : decode cX5_lends 63 = .ok (.iload_n 2, 1) := by decide +kernel
theorem dX5_lends_64 : decode cX5_lends 64 = .ok (.iconst 1, 1) := by decide +kernel
theorem dX5_lends_65 : decode cX5_lends 65 = .ok (.iand, 1) := by decide +kernel
theorem dX5_lends_66 : decode cX5_lends 66 = .ok (.ifCond .ne 7, 3) := by decide +kernel
theorem dX5_lends_69 : decode cX5_lends 69 = .ok (.iconst 1, 1) := by decide +kernel
theorem dX5_lends_70 : decode cX5_lends 70 = .ok (.goto 4, 3) := by decide +kernel
theorem dX5_lends_73 : decode cX5_lends 73 = .ok (.iconst 0, 1) := by decide +kernel
theorem dX5_lends_74 : decode cX5_lends 74 = .ok (.ireturn, 1) := by decide +kernel
theorem dX5_lends_75 : decode cX5_lends 75 = .ok (.iconst 0, 1) := by decide +kernel
theorem dX5_lends_76 : decode cX5_lends 76 = .ok (.ireturn, 1) := by decide +kernel
theorem dX5_lends_77 : decode cX5_lends 77 = .ok (.iconst 1, 1) := by decide +kernel
theorem dX5_lends_78 : decode cX5_lends 78 = .ok (.ireturn, 1) := by decide +kernel
set_option maxRecDepth 20000 in
theorem ggX5_build_X5_hasRoom : GoodIn wsX5_build wsX5_hasRoom := goodIn_r _ [6, 7, 67, 68, 69, 70, 71, 72, 73, 74, 75, 76, 77] (by decide +kernel) (by decide +kernel)
set_option maxRecDepth 20000 in
theorem gX5_build_X5_hasRoom : GoodIn wsX5_build (wsV RX5 94 RX5 yX5_hasRoom wsX5_hasRoom) := goodIn_app (goodIn_of _ (by decide +kernel)) ggX5_build_X5_hasRoom
set_option maxRecDepth 20000 in
theorem ggX5_build_X5_isKind : GoodIn wsX5_build wsX5_isKind := goodIn_r _ [10] (by decide +kernel) (by decide +kernel)
set_option maxRecDepth 20000 in
theorem gX5_build_X5_isKind : GoodIn wsX5_build (va_wsS RX5 98 yX5_isKind wsX5_isKind) := goodIn_app (goodIn_of _ (by decide +kernel)) ggX5_build_X5_isKind
set_option maxRecDepth 20000 in
theorem ggX5_build_X5_mayBe : GoodIn wsX5_build wsX5_mayBe := goodIn_r _ [14, 1, 15, 16, 17, 5, 18, 19, 20, 21, 22, 23, 7, 24, 25, 26, 27, 28, 29, 30, 31, 32, 33, 34, 35, 36, 37, 38, 39, 40, 41, 42, 43, 44, 45, 46, 67, 68, 69, 70, 71, 72, 73, 74, 75, 76, 77] (by decide +kernel) (by decide +kernel)
set_option maxRecDepth 20000 in
theorem gX5_build_X5_mayBe : GoodIn wsX5_build (wsV RX5 101 RX5 yX5_mayBe wsX5_mayBe) := goodIn_app (goodIn_of _ (by decide +kernel)) ggX5_build_X5_mayBe
set_option maxRecDepth 20000 in
theorem ggX5_build_X5_place : GoodIn wsX5_build wsX5_place := goodIn_r _ [50, 1, 7, 51, 52, 41, 53, 42, 54, 19, 2, 3, 4, 5, 6, 67, 68, 69, 70, 71, 72, 73, 74, 75, 76, 77] (by decide +kernel) (by decide +kernel)
set_option maxRecDepth 20000 in
theorem gX5_build_X5_place : GoodIn wsX5_build (wsV RX5 43 RX5 yX5_place wsX5_place) := goodIn_app (goodIn_of _ (by decide +kernel)) ggX5_build_X5_place
set_option maxRecDepth 20000 in
theorem ggX5_build_X5_use : GoodIn wsX5_build wsX5_use := goodIn_r _ [58, 42, 54, 20, 21, 22, 5, 23, 7, 59, 60, 61, 62, 41, 53, 67, 68, 69, 70, 71, 72, 73, 74, 75, 76, 77] (by decide +kernel) (by decide +kernel)
set_option maxRecDepth 20000 in
theorem gX5_build_X5_use : GoodIn wsX5_build (wsV RX5 104 RX5 yX5_use wsX5_use) := goodIn_app (goodIn_of _ (by decide +kernel)) ggX5_build_X5_use
set_option maxRecDepth 20000 in
theorem ggX5_build_X5_loseHut : GoodIn wsX5_build wsX5_loseHut := goodIn_r _ [66, 41, 19, 20, 21, 22, 5, 23, 7, 67, 68, 69, 70, 71, 72, 73, 74, 75, 76, 77] (by decide +kernel) (by decide +kernel)
set_option maxRecDepth 20000 in
theorem gX5_build_X5_loseHut : GoodIn wsX5_build (wsV RX5 108 RX5 yX5_loseHut wsX5_loseHut) := goodIn_app (goodIn_of _ (by decide +kernel)) ggX5_build_X5_loseHut
theorem dX5_build_0 : decode cX5_build 0 = .ok (.aload_n 0, 1) := by decide +kernel
theorem dX5_build_1 : decode cX5_build 1 = .ok (.invokevirtual 94, 3) := by decide +kernel
theorem dX5_build_4 : decode cX5_build 4 = .ok (.ifCond .eq 19, 3) := by decide +kernel
theorem dX5_build_7 : decode cX5_build 7 = .ok (.iload_n 3, 1) := by decide +kernel
theorem dX5_build_8 : decode cX5_build 8 = .ok (.invokestatic 98, 3) := by decide +kernel
theorem dX5_build_11 : decode cX5_build 11 = .ok (.ifCond .eq 12, 3) := by decide +kernel
theorem dX5_build_14 : decode cX5_build 14 = .ok (.aload_n 0, 1) := by decide +kernel
theorem dX5_build_15 : decode cX5_build 15 = .ok (.iload_n 1, 1) := by decide +kernel
theorem dX5_build_16 : decode cX5_build 16 = .ok (.iload_n 2, 1) := by decide +kernel
theorem dX5_build_17 : decode cX5_build 17 = .ok (.invokevirtual 101, 3) := by decide +kernel
theorem dX5_build_20 : decode cX5_build 20 = .ok (.ifCond .ne 5, 3) := by decide +kernel
theorem dX5_build_23 : decode cX5_build 23 = .ok (.iconst 0, 1) := by decide +kernel
theorem dX5_build_24 : decode cX5_build 24 = .ok (.ireturn, 1) := by decide +kernel
theorem dX5_build_25 : decode cX5_build 25 = .ok (.aload_n 0, 1) := by decide +kernel
theorem dX5_build_26 : decode cX5_build 26 = .ok (.aload_n 0, 1) := by decide +kernel
theorem dX5_build_27 : decode cX5_build 27 = .ok (.getfield 18, 3) := by decide +kernel
theorem dX5_build_30 : decode cX5_build 30 = .ok (.iload_n 1, 1) := by decide +kernel
theorem dX5_build_31 : decode cX5_build 31 = .ok (.iaload, 1) := by decide +kernel
theorem dX5_build_32 : decode cX5_build 32 = .ok (.aload_n 0, 1) := by decide +kernel
theorem dX5_build_33 : decode cX5_build 33 = .ok (.getfield 18, 3) := by decide +kernel
theorem dX5_build_36 : decode cX5_build 36 = .ok (.iload_n 2, 1) := by decide +kernel
theorem dX5_build_37 : decode cX5_build 37 = .ok (.iaload, 1) := by decide +kernel
theorem dX5_build_38 : decode cX5_build 38 = .ok (.iadd, 1) := by decide +kernel
theorem dX5_build_39 : decode cX5_build 39 = .ok (.iload_n 1, 1) := by decide +kernel
theorem dX5_build_40 : decode cX5_build 40 = .ok (.iload_n 2, 1) := by decide +kernel
theorem dX5_build_41 : decode cX5_build 41 = .ok (.iload_n 3, 1) := by decide +kernel
theorem dX5_build_42 : decode cX5_build 42 = .ok (.iload 4, 2) := by decide +kernel
theorem dX5_build_44 : decode cX5_build 44 = .ok (.invokevirtual 43, 3) := by decide +kernel
theorem dX5_build_47 : decode cX5_build 47 = .ok (.aload_n 0, 1) := by decide +kernel
theorem dX5_build_48 : decode cX5_build 48 = .ok (.iload_n 1, 1) := by decide +kernel
theorem dX5_build_49 : decode cX5_build 49 = .ok (.invokevirtual 104, 3) := by decide +kernel
theorem dX5_build_52 : decode cX5_build 52 = .ok (.aload_n 0, 1) := by decide +kernel
theorem dX5_build_53 : decode cX5_build 53 = .ok (.iload_n 2, 1) := by decide +kernel
theorem dX5_build_54 : decode cX5_build 54 = .ok (.invokevirtual 104, 3) := by decide +kernel
theorem dX5_build_57 : decode cX5_build 57 = .ok (.aload_n 0, 1) := by decide +kernel
theorem dX5_build_58 : decode cX5_build 58 = .ok (.iload_n 1, 1) := by decide +kernel
theorem dX5_build_59 : decode cX5_build 59 = .ok (.invokevirtual 108, 3) := by decide +kernel
theorem dX5_build_62 : decode cX5_build 62 = .ok (.aload_n 0, 1) := by decide +kernel
theorem dX5_build_63 : decode cX5_build 63 = .ok (.iload_n 2, 1) := by decide +kernel
theorem dX5_build_64 : decode cX5_build 64 = .ok (.invokevirtual 108, 3) := by decide +kernel
theorem dX5_build_67 : decode cX5_build 67 = .ok (.iconst 1, 1) := by decide +kernel
theorem dX5_build_68 : decode cX5_build 68 = .ok (.ireturn, 1) := by decide +kernel
set_option maxRecDepth 20000 in
theorem ggX5_place_X5_hasRoom : GoodIn wsX5_place wsX5_hasRoom := goodIn_r _ [14, 2, 15, 16, 17, 18, 19, 20, 21, 22, 23, 24, 25] (by decide +kernel) (by decide +kernel)
set_option maxRecDepth 20000 in
theorem gX5_place_X5_hasRoom : GoodIn wsX5_place (wsV RX5 94 RX5 yX5_hasRoom wsX5_hasRoom) := goodIn_app (goodIn_of _ (by decide +kernel)) ggX5_place_X5_hasRoom
theorem dX5_place_0 : decode cX5_place 0 = .ok (.aload_n 0, 1) := by decide +kernel
theorem dX5_place_1 : decode cX5_place 1 = .ok (.invokevirtual 94, 3) := by decide +kernel
theorem dX5_place_4 : decode cX5_place 4 = .ok (.ifCond .ne 4, 3) := by decide +kernel
theorem dX5_place_7 : decode cX5_place 7 = .ok (.return_, 1) := by decide +kernel
theorem dX5_place_8 : decode cX5_place 8 = .ok (.aload_n 0, 1) := by decide +kernel
theorem dX5_place_9 : decode cX5_place 9 = .ok (.getfield 18, 3) := by decide +kernel
theorem dX5_place_12 : decode cX5_place 12 = .ok (.aload_n 0, 1) := by decide +kernel
theorem dX5_place_13 : decode cX5_place 13 = .ok (.getfield 36, 3) := by decide +kernel
theorem dX5_place_16 : decode cX5_place 16 = .ok (.iload_n 1, 1) := by decide +kernel
theorem dX5_place_17 : decode cX5_place 17 = .ok (.iastore, 1) := by decide +kernel
theorem dX5_place_18 : decode cX5_place 18 = .ok (.aload_n 0, 1) := by decide +kernel
theorem dX5_place_19 : decode cX5_place 19 = .ok (.getfield 21, 3) := by decide +kernel
theorem dX5_place_22 : decode cX5_place 22 = .ok (.aload_n 0, 1) := by decide +kernel
theorem dX5_place_23 : decode cX5_place 23 = .ok (.getfield 36, 3) := by decide +kernel
theorem dX5_place_26 : decode cX5_place 26 = .ok (.iload_n 2, 1) := by decide +kernel
theorem dX5_place_27 : decode cX5_place 27 = .ok (.iastore, 1) := by decide +kernel
theorem dX5_place_28 : decode cX5_place 28 = .ok (.aload_n 0, 1) := by decide +kernel
theorem dX5_place_29 : decode cX5_place 29 = .ok (.getfield 24, 3) := by decide +kernel
theorem dX5_place_32 : decode cX5_place 32 = .ok (.aload_n 0, 1) := by decide +kernel
theorem dX5_place_33 : decode cX5_place 33 = .ok (.getfield 36, 3) := by decide +kernel
theorem dX5_place_36 : decode cX5_place 36 = .ok (.iload_n 3, 1) := by decide +kernel
theorem dX5_place_37 : decode cX5_place 37 = .ok (.iastore, 1) := by decide +kernel
theorem dX5_place_38 : decode cX5_place 38 = .ok (.aload_n 0, 1) := by decide +kernel
theorem dX5_place_39 : decode cX5_place 39 = .ok (.getfield 9, 3) := by decide +kernel
theorem dX5_place_42 : decode cX5_place 42 = .ok (.aload_n 0, 1) := by decide +kernel
theorem dX5_place_43 : decode cX5_place 43 = .ok (.getfield 36, 3) := by decide +kernel
theorem dX5_place_46 : decode cX5_place 46 = .ok (.iload 4, 2) := by decide +kernel
theorem dX5_place_48 : decode cX5_place 48 = .ok (.iastore, 1) := by decide +kernel
theorem dX5_place_49 : decode cX5_place 49 = .ok (.aload_n 0, 1) := by decide +kernel
theorem dX5_place_50 : decode cX5_place 50 = .ok (.getfield 15, 3) := by decide +kernel
theorem dX5_place_53 : decode cX5_place 53 = .ok (.aload_n 0, 1) := by decide +kernel
theorem dX5_place_54 : decode cX5_place 54 = .ok (.getfield 36, 3) := by decide +kernel
theorem dX5_place_57 : decode cX5_place 57 = .ok (.iload 5, 2) := by decide +kernel
theorem dX5_place_59 : decode cX5_place 59 = .ok (.iastore, 1) := by decide +kernel
theorem dX5_place_60 : decode cX5_place 60 = .ok (.aload_n 0, 1) := by decide +kernel
theorem dX5_place_61 : decode cX5_place 61 = .ok (.getfield 27, 3) := by decide +kernel
theorem dX5_place_64 : decode cX5_place 64 = .ok (.aload_n 0, 1) := by decide +kernel
theorem dX5_place_65 : decode cX5_place 65 = .ok (.getfield 36, 3) := by decide +kernel
theorem dX5_place_68 : decode cX5_place 68 = .ok (.iconst 0, 1) := by decide +kernel
theorem dX5_place_69 : decode cX5_place 69 = .ok (.iastore, 1) := by decide +kernel
theorem dX5_place_70 : decode cX5_place 70 = .ok (.aload_n 0, 1) := by decide +kernel
theorem dX5_place_71 : decode cX5_place 71 = .ok (.getfield 30, 3) := by decide +kernel
theorem dX5_place_74 : decode cX5_place 74 = .ok (.aload_n 0, 1) := by decide +kernel
theorem dX5_place_75 : decode cX5_place 75 = .ok (.getfield 36, 3) := by decide +kernel
theorem dX5_place_78 : decode cX5_place 78 = .ok (.iconst 0, 1) := by decide +kernel
theorem dX5_place_79 : decode cX5_place 79 = .ok (.iastore, 1) := by decide +kernel
theorem dX5_place_80 : decode cX5_place 80 = .ok (.aload_n 0, 1) := by decide +kernel
theorem dX5_place_81 : decode cX5_place 81 = .ok (.dup, 1) := by decide +kernel
theorem dX5_place_82 : decode cX5_place 82 = .ok (.getfield 40, 3) := by decide +kernel
theorem dX5_place_85 : decode cX5_place 85 = .ok (.iconst 1, 1) := by decide +kernel
theorem dX5_place_86 : decode cX5_place 86 = .ok (.aload_n 0, 1) := by decide +kernel
theorem dX5_place_87 : decode cX5_place 87 = .ok (.getfield 36, 3) := by decide +kernel
theorem dX5_place_90 : decode cX5_place 90 = .ok (.ishl, 1) := by decide +kernel
theorem dX5_place_91 : decode cX5_place 91 = .ok (.ior, 1) := by decide +kernel
theorem dX5_place_92 : decode cX5_place 92 = .ok (.putfield 40, 3) := by decide +kernel
theorem dX5_place_95 : decode cX5_place 95 = .ok (.aload_n 0, 1) := by decide +kernel
theorem dX5_place_96 : decode cX5_place 96 = .ok (.dup, 1) := by decide +kernel
theorem dX5_place_97 : decode cX5_place 97 = .ok (.getfield 36, 3) := by decide +kernel
theorem dX5_place_100 : decode cX5_place 100 = .ok (.iconst 1, 1) := by decide +kernel
theorem dX5_place_101 : decode cX5_place 101 = .ok (.iadd, 1) := by decide +kernel
theorem dX5_place_102 : decode cX5_place 102 = .ok (.putfield 36, 3) := by decide +kernel
theorem dX5_place_105 : decode cX5_place 105 = .ok (.return_, 1) := by decide +kernel
set_option maxRecDepth 20000 in
theorem ggX5_use_X5_has : GoodIn wsX5_use wsX5_has := goodIn_r _ [7, 8, 15, 16, 17, 18, 19, 20, 21, 22, 23, 24, 25] (by decide +kernel) (by decide +kernel)
set_option maxRecDepth 20000 in
theorem gX5_use_X5_has : GoodIn wsX5_use (wsV RX5 59 RX5 yX5_has wsX5_has) := goodIn_app (goodIn_of _ (by decide +kernel)) ggX5_use_X5_has
set_option maxRecDepth 20000 in
theorem ggX5_use_X5_fee : GoodIn wsX5_use wsX5_fee := goodIn_r _ [12, 13, 14, 3, 4, 5, 6, 7, 8, 15, 16, 17, 18, 19, 20, 21, 22, 23, 24, 25] (by decide +kernel) (by decide +kernel)
set_option maxRecDepth 20000 in
theorem gX5_use_X5_fee : GoodIn wsX5_use (wsV RX5 111 RX5 yX5_fee wsX5_fee) := goodIn_app (goodIn_of _ (by decide +kernel)) ggX5_use_X5_fee
theorem dX5_use_0 : decode cX5_use 0 = .ok (.aload_n 0, 1) := by decide +kernel
theorem dX5_use_1 : decode cX5_use 1 = .ok (.iload_n 1, 1) := by decide +kernel
theorem dX5_use_2 : decode cX5_use 2 = .ok (.invokevirtual 59, 3) := by decide +kernel
theorem dX5_use_5 : decode cX5_use 5 = .ok (.ifCond .eq 27, 3) := by decide +kernel
theorem dX5_use_8 : decode cX5_use 8 = .ok (.aload_n 0, 1) := by decide +kernel
theorem dX5_use_9 : decode cX5_use 9 = .ok (.getfield 27, 3) := by decide +kernel
theorem dX5_use_12 : decode cX5_use 12 = .ok (.iload_n 1, 1) := by decide +kernel
theorem dX5_use_13 : decode cX5_use 13 = .ok (.dup2, 1) := by decide +kernel
theorem dX5_use_14 : decode cX5_use 14 = .ok (.iaload, 1) := by decide +kernel
theorem dX5_use_15 : decode cX5_use 15 = .ok (.iconst 1, 1) := by decide +kernel
theorem dX5_use_16 : decode cX5_use 16 = .ok (.iadd, 1) := by decide +kernel
theorem dX5_use_17 : decode cX5_use 17 = .ok (.iastore, 1) := by decide +kernel
theorem dX5_use_18 : decode cX5_use 18 = .ok (.aload_n 0, 1) := by decide +kernel
theorem dX5_use_19 : decode cX5_use 19 = .ok (.getfield 30, 3) := by decide +kernel
theorem dX5_use_22 : decode cX5_use 22 = .ok (.iload_n 1, 1) := by decide +kernel
theorem dX5_use_23 : decode cX5_use 23 = .ok (.dup2, 1) := by decide +kernel
theorem dX5_use_24 : decode cX5_use 24 = .ok (.iaload, 1) := by decide +kernel
theorem dX5_use_25 : decode cX5_use 25 = .ok (.aload_n 0, 1) := by decide +kernel
theorem dX5_use_26 : decode cX5_use 26 = .ok (.iload_n 1, 1) := by decide +kernel
theorem dX5_use_27 : decode cX5_use 27 = .ok (.invokevirtual 111, 3) := by decide +kernel
theorem dX5_use_30 : decode cX5_use 30 = .ok (.iadd, 1) := by decide +kernel
theorem dX5_use_31 : decode cX5_use 31 = .ok (.iastore, 1) := by decide +kernel
theorem dX5_use_32 : decode cX5_use 32 = .ok (.return_, 1) := by decide +kernel
set_option maxRecDepth 20000 in
theorem ggX5_loseHut_X5_has : GoodIn wsX5_loseHut wsX5_has := goodIn_r _ [7, 8, 9, 10, 11, 12, 13, 14, 15, 16, 17, 18, 19] (by decide +kernel) (by decide +kernel)
set_option maxRecDepth 20000 in
theorem gX5_loseHut_X5_has : GoodIn wsX5_loseHut (wsV RX5 59 RX5 yX5_has wsX5_has) := goodIn_app (goodIn_of _ (by decide +kernel)) ggX5_loseHut_X5_has
theorem dX5_loseHut_0 : decode cX5_loseHut 0 = .ok (.aload_n 0, 1) := by decide +kernel
theorem dX5_loseHut_1 : decode cX5_loseHut 1 = .ok (.iload_n 1, 1) := by decide +kernel
theorem dX5_loseHut_2 : decode cX5_loseHut 2 = .ok (.invokevirtual 59, 3) := by decide +kernel
theorem dX5_loseHut_5 : decode cX5_loseHut 5 = .ok (.ifCond .eq 27, 3) := by decide +kernel
theorem dX5_loseHut_8 : decode cX5_loseHut 8 = .ok (.aload_n 0, 1) := by decide +kernel
theorem dX5_loseHut_9 : decode cX5_loseHut 9 = .ok (.getfield 9, 3) := by decide +kernel
theorem dX5_loseHut_12 : decode cX5_loseHut 12 = .ok (.iload_n 1, 1) := by decide +kernel
theorem dX5_loseHut_13 : decode cX5_loseHut 13 = .ok (.iaload, 1) := by decide +kernel
theorem dX5_loseHut_14 : decode cX5_loseHut 14 = .ok (.iconst 1, 1) := by decide +kernel
theorem dX5_loseHut_15 : decode cX5_loseHut 15 = .ok (.if_icmp .ne 17, 3) := by decide +kernel
theorem dX5_loseHut_18 : decode cX5_loseHut 18 = .ok (.aload_n 0, 1) := by decide +kernel
theorem dX5_loseHut_19 : decode cX5_loseHut 19 = .ok (.dup, 1) := by decide +kernel
theorem dX5_loseHut_20 : decode cX5_loseHut 20 = .ok (.getfield 40, 3) := by decide +kernel
theorem dX5_loseHut_23 : decode cX5_loseHut 23 = .ok (.iconst 1, 1) := by decide +kernel
theorem dX5_loseHut_24 : decode cX5_loseHut 24 = .ok (.iload_n 1, 1) := by decide +kernel
theorem dX5_loseHut_25 : decode cX5_loseHut 25 = .ok (.ishl, 1) := by decide +kernel
theorem dX5_loseHut_26 : decode cX5_loseHut 26 = .ok (.iconst (-1), 1) := by decide +kernel
theorem dX5_loseHut_27 : decode cX5_loseHut 27 = .ok (.ixor, 1) := by decide +kernel
theorem dX5_loseHut_28 : decode cX5_loseHut 28 = .ok (.iand, 1) := by decide +kernel
theorem dX5_loseHut_29 : decode cX5_loseHut 29 = .ok (.putfield 40, 3) := by decide +kernel
theorem dX5_loseHut_32 : decode cX5_loseHut 32 = .ok (.return_, 1) := by decide +kernel
set_option maxRecDepth 20000 in
theorem ggX5_fire_X5_fallsWith : GoodIn wsX5_fire wsX5_fallsWith := goodIn_r _ [6, 1, 7, 8, 9, 10, 11, 12, 13, 14, 5, 15, 16, 17, 18, 19, 20, 21, 22, 30, 31, 32, 33, 34, 35, 36, 37, 38, 39, 40] (by decide +kernel) (by decide +kernel)
set_option maxRecDepth 20000 in
theorem gX5_fire_X5_fallsWith : GoodIn wsX5_fire (wsV RX5 114 RX5 yX5_fallsWith wsX5_fallsWith) := goodIn_app (goodIn_of _ (by decide +kernel)) ggX5_fire_X5_fallsWith
set_option maxRecDepth 20000 in
theorem ggX5_fire_J6_bitCount_0f7a4 : GoodIn wsX5_fire wsJ6_bitCount_0f7a4 := goodIn_r _ [26, 27, 28, 29] (by decide +kernel) (by decide +kernel)
set_option maxRecDepth 20000 in
theorem gX5_fire_J6_bitCount_0f7a4 : GoodIn wsX5_fire (va_wsS RX5 67 yJ6_bitCount_0f7a4 wsJ6_bitCount_0f7a4) := goodIn_app (goodIn_of _ (by decide +kernel)) ggX5_fire_J6_bitCount_0f7a4
theorem dX5_fire_0 : decode cX5_fire 0 = .ok (.aload_n 0, 1) := by decide +kernel
theorem dX5_fire_1 : decode cX5_fire 1 = .ok (.iload_n 1, 1) := by decide +kernel
theorem dX5_fire_2 : decode cX5_fire 2 = .ok (.invokevirtual 114, 3) := by decide +kernel
theorem dX5_fire_5 : decode cX5_fire 5 = .ok (.istore_n 2, 1) := by decide +kernel
theorem dX5_fire_6 : decode cX5_fire 6 = .ok (.aload_n 0, 1) := by decide +kernel
theorem dX5_fire_7 : decode cX5_fire 7 = .ok (.dup, 1) := by decide +kernel
theorem dX5_fire_8 : decode cX5_fire 8 = .ok (.getfield 40, 3) := by decide +kernel
theorem dX5_fire_11 : decode cX5_fire 11 = .ok (.iload_n 2, 1) := by decide +kernel
theorem dX5_fire_12 : decode cX5_fire 12 = .ok (.iconst (-1), 1) := by decide +kernel
theorem dX5_fire_13 : decode cX5_fire 13 = .ok (.ixor, 1) := by decide +kernel
theorem dX5_fire_14 : decode cX5_fire 14 = .ok (.iand, 1) := by decide +kernel
theorem dX5_fire_15 : decode cX5_fire 15 = .ok (.putfield 40, 3) := by decide +kernel
theorem dX5_fire_18 : decode cX5_fire 18 = .ok (.iload_n 2, 1) := by decide +kernel
theorem dX5_fire_19 : decode cX5_fire 19 = .ok (.invokestatic 67, 3) := by decide +kernel
theorem dX5_fire_22 : decode cX5_fire 22 = .ok (.ireturn, 1) := by decide +kernel
set_option maxRecDepth 20000 in
theorem ggX5_fallsWith_X5_stands : GoodIn wsX5_fallsWith wsX5_stands := goodIn_r _ [11, 1, 12, 13, 14, 10, 15, 2, 16, 17, 18, 19, 20, 21, 22, 23, 24, 25, 26, 27, 28, 29] (by decide +kernel) (by decide +kernel)
set_option maxRecDepth 20000 in
theorem gX5_fallsWith_X5_stands : GoodIn wsX5_fallsWith (wsV RX5 79 RX5 yX5_stands wsX5_stands) := goodIn_app (goodIn_of _ (by decide +kernel)) ggX5_fallsWith_X5_stands
set_option maxRecDepth 20000 in
theorem ggX5_fallsWith_X5_isIn : GoodIn wsX5_fallsWith wsX5_isIn := goodIn_r _ [18] (by decide +kernel) (by decide +kernel)
set_option maxRecDepth 20000 in
theorem gX5_fallsWith_X5_isIn : GoodIn wsX5_fallsWith (va_wsS RX5 63 yX5_isIn wsX5_isIn) := goodIn_app (goodIn_of _ (by decide +kernel)) ggX5_fallsWith_X5_isIn
theorem dX5_fallsWith_0 : decode cX5_fallsWith 0 = .ok (.aload_n 0, 1) := by decide +kernel
theorem dX5_fallsWith_1 : decode cX5_fallsWith 1 = .ok (.iload_n 1, 1) := by decide +kernel
theorem dX5_fallsWith_2 : decode cX5_fallsWith 2 = .ok (.invokevirtual 79, 3) := by decide +kernel
theorem dX5_fallsWith_5 : decode cX5_fallsWith 5 = .ok (.ifCond .ne 5, 3) := by decide +kernel
theorem dX5_fallsWith_8 : decode cX5_fallsWith 8 = .ok (.iconst 0, 1) := by decide +kernel
theorem dX5_fallsWith_9 : decode cX5_fallsWith 9 = .ok (.ireturn, 1) := by decide +kernel
theorem dX5_fallsWith_10 : decode cX5_fallsWith 10 = .ok (.aload_n 0, 1) := by decide +kernel
theorem dX5_fallsWith_11 : decode cX5_fallsWith 11 = .ok (.getfield 40, 3) := by decide +kernel
theorem dX5_fallsWith_14 : decode cX5_fallsWith 14 = .ok (.iconst 1, 1) := by decide +kernel
theorem dX5_fallsWith_15 : decode cX5_fallsWith 15 = .ok (.iload_n 1, 1) := by decide +kernel
theorem dX5_fallsWith_16 : decode cX5_fallsWith 16 = .ok (.ishl, 1) := by decide +kernel
theorem dX5_fallsWith_17 : decode cX5_fallsWith 17 = .ok (.iconst (-1), 1) := by decide +kernel
theorem dX5_fallsWith_18 : decode cX5_fallsWith 18 = .ok (.ixor, 1) := by decide +kernel
theorem dX5_fallsWith_19 : decode cX5_fallsWith 19 = .ok (.iand, 1) := by decide +kernel
theorem dX5_fallsWith_20 : decode cX5_fallsWith 20 = .ok (.istore_n 2, 1) := by decide +kernel
theorem dX5_fallsWith_21 : decode cX5_fallsWith 21 = .ok (.iconst 1, 1) := by decide +kernel
theorem dX5_fallsWith_22 : decode cX5_fallsWith 22 = .ok (.istore_n 3, 1) := by decide +kernel
theorem dX5_fallsWith_23 : decode cX5_fallsWith 23 = .ok (.iload_n 3, 1) := by decide +kernel
theorem dX5_fallsWith_24 : decode cX5_fallsWith 24 = .ok (.aload_n 0, 1) := by decide +kernel
theorem dX5_fallsWith_25 : decode cX5_fallsWith 25 = .ok (.getfield 36, 3) := by decide +kernel
theorem dX5_fallsWith_28 : decode cX5_fallsWith 28 = .ok (.if_icmp .ge 73, 3) := by decide +kernel
theorem dX5_fallsWith_31 : decode cX5_fallsWith 31 = .ok (.aload_n 0, 1) := by decide +kernel
theorem dX5_fallsWith_32 : decode cX5_fallsWith 32 = .ok (.getfield 56, 3) := by decide +kernel
theorem dX5_fallsWith_35 : decode cX5_fallsWith 35 = .ok (.iconst 1, 1) := by decide +kernel
theorem dX5_fallsWith_36 : decode cX5_fallsWith 36 = .ok (.if_icmp .eq 13, 3) := by decide +kernel
theorem dX5_fallsWith_39 : decode cX5_fallsWith 39 = .ok (.aload_n 0, 1) := by decide +kernel
theorem dX5_fallsWith_40 : decode cX5_fallsWith 40 = .ok (.getfield 9, 3) := by decide +kernel
theorem dX5_fallsWith_43 : decode cX5_fallsWith 43 = .ok (.iload_n 3, 1) := by decide +kernel
theorem dX5_fallsWith_44 : decode cX5_fallsWith 44 = .ok (.iaload, 1) := by decide +kernel
theorem dX5_fallsWith_45 : decode cX5_fallsWith 45 = .ok (.iconst 5, 1) := by decide +kernel
theorem dX5_fallsWith_46 : decode cX5_fallsWith 46 = .ok (.if_icmp .ne 7, 3) := by decide +kernel
theorem dX5_fallsWith_49 : decode cX5_fallsWith 49 = .ok (.iconst 1, 1) := by decide +kernel
theorem dX5_fallsWith_50 : decode cX5_fallsWith 50 = .ok (.goto 4, 3) := by decide +kernel
theorem dX5_fallsWith_53 : decode cX5_fallsWith 53 = .ok (.iconst 0, 1) := by decide +kernel
theorem dX5_fallsWith_54 : decode cX5_fallsWith 54 = .ok (.istore 4, 2) := by decide +kernel
theorem dX5_fallsWith_56 : decode cX5_fallsWith 56 = .ok (.iload 4, 2) := by decide +kernel
theorem dX5_fallsWith_58 : decode cX5_fallsWith 58 = .ok (.ifCond .eq 37, 3) := by decide +kernel
theorem dX5_fallsWith_61 : decode cX5_fallsWith 61 = .ok (.iload_n 2, 1) := by decide +kernel
theorem dX5_fallsWith_62 : decode cX5_fallsWith 62 = .ok (.aload_n 0, 1) := by decide +kernel
theorem dX5_fallsWith_63 : decode cX5_fallsWith 63 = .ok (.getfield 21, 3) := by decide +kernel
theorem dX5_fallsWith_66 : decode cX5_fallsWith 66 = .ok (.iload_n 3, 1) := by decide +kernel
theorem dX5_fallsWith_67 : decode cX5_fallsWith 67 = .ok (.iaload, 1) := by decide +kernel
theorem dX5_fallsWith_68 : decode cX5_fallsWith 68 = .ok (.invokestatic 63, 3) := by decide +kernel
theorem dX5_fallsWith_71 : decode cX5_fallsWith 71 = .ok (.ifCond .eq 16, 3) := by decide +kernel
theorem dX5_fallsWith_74 : decode cX5_fallsWith 74 = .ok (.iload_n 2, 1) := by decide +kernel
theorem dX5_fallsWith_75 : decode cX5_fallsWith 75 = .ok (.aload_n 0, 1) := by decide +kernel
theorem dX5_fallsWith_76 : decode cX5_fallsWith 76 = .ok (.getfield 24, 3) := by decide +kernel
theorem dX5_fallsWith_79 : decode cX5_fallsWith 79 = .ok (.iload_n 3, 1) := by decide +kernel
theorem dX5_fallsWith_80 : decode cX5_fallsWith 80 = .ok (.iaload, 1) := by decide +kernel
theorem dX5_fallsWith_81 : decode cX5_fallsWith 81 = .ok (.invokestatic 63, 3) := by decide +kernel
theorem dX5_fallsWith_84 : decode cX5_fallsWith 84 = .ok (.ifCond .ne 11, 3) := by decide +kernel
theorem dX5_fallsWith_87 : decode cX5_fallsWith 87 = .ok (.iload_n 2, 1) := by decide +kernel
theorem dX5_fallsWith_88 : decode cX5_fallsWith 88 = .ok (.iconst 1, 1) := by decide +kernel
theorem dX5_fallsWith_89 : decode cX5_fallsWith 89 = .ok (.iload_n 3, 1) := by decide +kernel
theorem dX5_fallsWith_90 : decode cX5_fallsWith 90 = .ok (.ishl, 1) := by decide +kernel
theorem dX5_fallsWith_91 : decode cX5_fallsWith 91 = .ok (.iconst (-1), 1) := by decide +kernel
theorem dX5_fallsWith_92 : decode cX5_fallsWith 92 = .ok (.ixor, 1) := by decide +kernel
theorem dX5_fallsWith_93 : decode cX5_fallsWith 93 = .ok (.iand, 1) := by decide +kernel
theorem dX5_fallsWith_94 : decode cX5_fallsWith 94 = .ok (.istore_n 2, 1) := by decide +kernel
theorem dX5_fallsWith_95 : decode cX5_fallsWith 95 = .ok (.iinc 3 1, 3) := by decide +kernel
theorem dX5_fallsWith_98 : decode cX5_fallsWith 98 = .ok (.goto (-75), 3) := by decide +kernel
theorem dX5_fallsWith_101 : decode cX5_fallsWith 101 = .ok (.aload_n 0, 1) := by decide +kernel
theorem dX5_fallsWith_102 : decode cX5_fallsWith 102 = .ok (.getfield 40, 3) := by decide +kernel
theorem dX5_fallsWith_105 : decode cX5_fallsWith 105 = .ok (.iload_n 2, 1) := by decide +kernel
theorem dX5_fallsWith_106 : decode cX5_fallsWith 106 = .ok (.iconst (-1), 1) := by decide +kernel
theorem dX5_fallsWith_107 : decode cX5_fallsWith 107 = .ok (.ixor, 1) := by decide +kernel
theorem dX5_fallsWith_108 : decode cX5_fallsWith 108 = .ok (.iand, 1) := by decide +kernel
theorem dX5_fallsWith_109 : decode cX5_fallsWith 109 = .ok (.ireturn, 1) := by decide +kernel
set_option maxRecDepth 20000 in
theorem ggX5_aheadOf_X5_has : GoodIn wsX5_aheadOf wsX5_has := goodIn_r _ [7, 8, 21, 22, 23, 24, 25, 26, 27, 28, 29, 30, 31] (by decide +kernel) (by decide +kernel)
set_option maxRecDepth 20000 in
theorem gX5_aheadOf_X5_has : GoodIn wsX5_aheadOf (wsV RX5 59 RX5 yX5_has wsX5_has) := goodIn_app (goodIn_of _ (by decide +kernel)) ggX5_aheadOf_X5_has
set_option maxRecDepth 20000 in
theorem ggX5_aheadOf_X5_bitOf : GoodIn wsX5_aheadOf wsX5_bitOf := goodIn_r _ [12, 13, 14, 15, 6, 16, 17, 3, 4, 5, 7, 8, 18, 19, 20, 21, 22, 23, 24, 25, 26, 27, 28, 29, 30, 31] (by decide +kernel) (by decide +kernel)
set_option maxRecDepth 20000 in
theorem gX5_aheadOf_X5_bitOf : GoodIn wsX5_aheadOf (wsV RX5 117 RX5 yX5_bitOf wsX5_bitOf) := goodIn_app (goodIn_of _ (by decide +kernel)) ggX5_aheadOf_X5_bitOf
theorem dX5_aheadOf_0 : decode cX5_aheadOf 0 = .ok (.aload_n 0, 1) := by decide +kernel
theorem dX5_aheadOf_1 : decode cX5_aheadOf 1 = .ok (.iload_n 1, 1) := by decide +kernel
theorem dX5_aheadOf_2 : decode cX5_aheadOf 2 = .ok (.invokevirtual 59, 3) := by decide +kernel
theorem dX5_aheadOf_5 : decode cX5_aheadOf 5 = .ok (.ifCond .ne 5, 3) := by decide +kernel
theorem dX5_aheadOf_8 : decode cX5_aheadOf 8 = .ok (.iconst 0, 1) := by decide +kernel
theorem dX5_aheadOf_9 : decode cX5_aheadOf 9 = .ok (.ireturn, 1) := by decide +kernel
theorem dX5_aheadOf_10 : decode cX5_aheadOf 10 = .ok (.aload_n 0, 1) := by decide +kernel
theorem dX5_aheadOf_11 : decode cX5_aheadOf 11 = .ok (.aload_n 0, 1) := by decide +kernel
theorem dX5_aheadOf_12 : decode cX5_aheadOf 12 = .ok (.getfield 21, 3) := by decide +kernel
theorem dX5_aheadOf_15 : decode cX5_aheadOf 15 = .ok (.iload_n 1, 1) := by decide +kernel
theorem dX5_aheadOf_16 : decode cX5_aheadOf 16 = .ok (.iaload, 1) := by decide +kernel
theorem dX5_aheadOf_17 : decode cX5_aheadOf 17 = .ok (.invokevirtual 117, 3) := by decide +kernel
theorem dX5_aheadOf_20 : decode cX5_aheadOf 20 = .ok (.aload_n 0, 1) := by decide +kernel
theorem dX5_aheadOf_21 : decode cX5_aheadOf 21 = .ok (.aload_n 0, 1) := by decide +kernel
theorem dX5_aheadOf_22 : decode cX5_aheadOf 22 = .ok (.getfield 24, 3) := by decide +kernel
theorem dX5_aheadOf_25 : decode cX5_aheadOf 25 = .ok (.iload_n 1, 1) := by decide +kernel
theorem dX5_aheadOf_26 : decode cX5_aheadOf 26 = .ok (.iaload, 1) := by decide +kernel
theorem dX5_aheadOf_27 : decode cX5_aheadOf 27 = .ok (.invokevirtual 117, 3) := by decide +kernel
theorem dX5_aheadOf_30 : decode cX5_aheadOf 30 = .ok (.ior, 1) := by decide +kernel
theorem dX5_aheadOf_31 : decode cX5_aheadOf 31 = .ok (.ireturn, 1) := by decide +kernel
set_option maxRecDepth 20000 in
theorem ggX5_bitOf_X5_stands : GoodIn wsX5_bitOf wsX5_stands := goodIn_r _ [5, 6, 7, 8, 9, 4, 10, 11, 12, 13, 14, 15, 16, 17, 18, 19, 20, 21, 22, 23, 24, 25] (by decide +kernel) (by decide +kernel)
set_option maxRecDepth 20000 in
theorem gX5_bitOf_X5_stands : GoodIn wsX5_bitOf (wsV RX5 79 RX5 yX5_stands wsX5_stands) := goodIn_app (goodIn_of _ (by decide +kernel)) ggX5_bitOf_X5_stands
theorem dX5_bitOf_0 : decode cX5_bitOf 0 = .ok (.aload_n 0, 1) := by decide +kernel
theorem dX5_bitOf_1 : decode cX5_bitOf 1 = .ok (.iload_n 1, 1) := by decide +kernel
theorem dX5_bitOf_2 : decode cX5_bitOf 2 = .ok (.invokevirtual 79, 3) := by decide +kernel
theorem dX5_bitOf_5 : decode cX5_bitOf 5 = .ok (.ifCond .eq 9, 3) := by decide +kernel
theorem dX5_bitOf_8 : decode cX5_bitOf 8 = .ok (.iconst 1, 1) := by decide +kernel
theorem dX5_bitOf_9 : decode cX5_bitOf 9 = .ok (.iload_n 1, 1) := by decide +kernel
theorem dX5_bitOf_10 : decode cX5_bitOf 10 = .ok (.ishl, 1) := by decide +kernel
theorem dX5_bitOf_11 : decode cX5_bitOf 11 = .ok (.goto 4, 3) := by decide +kernel
theorem dX5_bitOf_14 : decode cX5_bitOf 14 = .ok (.iconst 0, 1) := by decide +kernel
theorem dX5_bitOf_15 : decode cX5_bitOf 15 = .ok (.ireturn, 1) := by decide +kernel
set_option maxRecDepth 20000 in
theorem ggX5_comesNext_X5_hasRoom : GoodIn wsX5_comesNext wsX5_hasRoom := goodIn_r _ [7, 1, 44, 45, 46, 47, 48, 49, 50, 51, 52, 53, 54] (by decide +kernel) (by decide +kernel)
set_option maxRecDepth 20000 in
theorem gX5_comesNext_X5_hasRoom : GoodIn wsX5_comesNext (wsV RX5 94 RX5 yX5_hasRoom wsX5_hasRoom) := goodIn_app (goodIn_of _ (by decide +kernel)) ggX5_comesNext_X5_hasRoom
set_option maxRecDepth 20000 in
theorem ggX5_comesNext_X5_mayBe : GoodIn wsX5_comesNext wsX5_mayBe := goodIn_r _ [11, 2, 12, 13, 14, 6, 15, 16, 17, 18, 19, 20, 1, 21, 22, 23, 24, 25, 26, 27, 28, 29, 30, 31, 32, 33, 34, 35, 36, 37, 38, 39, 40, 41, 42, 43, 44, 45, 46, 47, 48, 49, 50, 51, 52, 53, 54] (by decide +kernel) (by decide +kernel)
set_option maxRecDepth 20000 in
theorem gX5_comesNext_X5_mayBe : GoodIn wsX5_comesNext (wsV RX5 101 RX5 yX5_mayBe wsX5_mayBe) := goodIn_app (goodIn_of _ (by decide +kernel)) ggX5_comesNext_X5_mayBe
theorem dX5_comesNext_0 : decode cX5_comesNext 0 = .ok (.aload_n 0, 1) := by decide +kernel
theorem dX5_comesNext_1 : decode cX5_comesNext 1 = .ok (.invokevirtual 94, 3) := by decide +kernel
theorem dX5_comesNext_4 : decode cX5_comesNext 4 = .ok (.ifCond .ne 5, 3) := by decide +kernel
theorem dX5_comesNext_7 : decode cX5_comesNext 7 = .ok (.iconst 0, 1) := by decide +kernel
theorem dX5_comesNext_8 : decode cX5_comesNext 8 = .ok (.ireturn, 1) := by decide +kernel
theorem dX5_comesNext_9 : decode cX5_comesNext 9 = .ok (.iconst 0, 1) := by decide +kernel
theorem dX5_comesNext_10 : decode cX5_comesNext 10 = .ok (.istore_n 2, 1) := by decide +kernel
theorem dX5_comesNext_11 : decode cX5_comesNext 11 = .ok (.iload_n 2, 1) := by decide +kernel
theorem dX5_comesNext_12 : decode cX5_comesNext 12 = .ok (.aload_n 0, 1) := by decide +kernel
theorem dX5_comesNext_13 : decode cX5_comesNext 13 = .ok (.getfield 36, 3) := by decide +kernel
theorem dX5_comesNext_16 : decode cX5_comesNext 16 = .ok (.if_icmp .ge 53, 3) := by decide +kernel
theorem dX5_comesNext_19 : decode cX5_comesNext 19 = .ok (.iload_n 2, 1) := by decide +kernel
theorem dX5_comesNext_20 : decode cX5_comesNext 20 = .ok (.istore_n 3, 1) := by decide +kernel
theorem dX5_comesNext_21 : decode cX5_comesNext 21 = .ok (.iload_n 3, 1) := by decide +kernel
theorem dX5_comesNext_22 : decode cX5_comesNext 22 = .ok (.aload_n 0, 1) := by decide +kernel
theorem dX5_comesNext_23 : decode cX5_comesNext 23 = .ok (.getfield 36, 3) := by decide +kernel
theorem dX5_comesNext_26 : decode cX5_comesNext 26 = .ok (.if_icmp .ge 37, 3) := by decide +kernel
theorem dX5_comesNext_29 : decode cX5_comesNext 29 = .ok (.aload_n 0, 1) := by decide +kernel
theorem dX5_comesNext_30 : decode cX5_comesNext 30 = .ok (.getfield 18, 3) := by decide +kernel
theorem dX5_comesNext_33 : decode cX5_comesNext 33 = .ok (.iload_n 2, 1) := by decide +kernel
theorem dX5_comesNext_34 : decode cX5_comesNext 34 = .ok (.iaload, 1) := by decide +kernel
theorem dX5_comesNext_35 : decode cX5_comesNext 35 = .ok (.aload_n 0, 1) := by decide +kernel
theorem dX5_comesNext_36 : decode cX5_comesNext 36 = .ok (.getfield 18, 3) := by decide +kernel
theorem dX5_comesNext_39 : decode cX5_comesNext 39 = .ok (.iload_n 3, 1) := by decide +kernel
theorem dX5_comesNext_40 : decode cX5_comesNext 40 = .ok (.iaload, 1) := by decide +kernel
theorem dX5_comesNext_41 : decode cX5_comesNext 41 = .ok (.iadd, 1) := by decide +kernel
theorem dX5_comesNext_42 : decode cX5_comesNext 42 = .ok (.iload_n 1, 1) := by decide +kernel
theorem dX5_comesNext_43 : decode cX5_comesNext 43 = .ok (.if_icmp .ne 14, 3) := by decide +kernel
theorem dX5_comesNext_46 : decode cX5_comesNext 46 = .ok (.aload_n 0, 1) := by decide +kernel
theorem dX5_comesNext_47 : decode cX5_comesNext 47 = .ok (.iload_n 2, 1) := by decide +kernel
theorem dX5_comesNext_48 : decode cX5_comesNext 48 = .ok (.iload_n 3, 1) := by decide +kernel
theorem dX5_comesNext_49 : decode cX5_comesNext 49 = .ok (.invokevirtual 101, 3) := by decide +kernel
theorem dX5_comesNext_52 : decode cX5_comesNext 52 = .ok (.ifCond .eq 5, 3) := by decide +kernel
theorem dX5_comesNext_55 : decode cX5_comesNext 55 = .ok (.iconst 1, 1) := by decide +kernel
theorem dX5_comesNext_56 : decode cX5_comesNext 56 = .ok (.ireturn, 1) := by decide +kernel
theorem dX5_comesNext_57 : decode cX5_comesNext 57 = .ok (.iinc 3 1, 3) := by decide +kernel
theorem dX5_comesNext_60 : decode cX5_comesNext 60 = .ok (.goto (-39), 3) := by decide +kernel
theorem dX5_comesNext_63 : decode cX5_comesNext 63 = .ok (.iinc 2 1, 3) := by decide +kernel
theorem dX5_comesNext_66 : decode cX5_comesNext 66 = .ok (.goto (-55), 3) := by decide +kernel
theorem dX5_comesNext_69 : decode cX5_comesNext 69 = .ok (.iconst 0, 1) := by decide +kernel
theorem dX5_comesNext_70 : decode cX5_comesNext 70 = .ok (.ireturn, 1) := by decide +kernel
theorem dX5_isIn_0 : decode cX5_isIn 0 = .ok (.iload_n 1, 1) := by decide +kernel
theorem dX5_isIn_1 : decode cX5_isIn 1 = .ok (.ifCond .lt 22, 3) := by decide +kernel
theorem dX5_isIn_4 : decode cX5_isIn 4 = .ok (.iload_n 1, 1) := by decide +kernel
theorem dX5_isIn_5 : decode cX5_isIn 5 = .ok (.bipush 12, 2) := by decide +kernel
theorem dX5_isIn_7 : decode cX5_isIn 7 = .ok (.if_icmp .ge 16, 3) := by decide +kernel
theorem dX5_isIn_10 : decode cX5_isIn 10 = .ok (.iload_n 0, 1) := by decide +kernel
theorem dX5_isIn_11 : decode cX5_isIn 11 = .ok (.iload_n 1, 1) := by decide +kernel
theorem dX5_isIn_12 : decode cX5_isIn 12 = .ok (.ishr, 1) := by decide +kernel
theorem dX5_isIn_13 : decode cX5_isIn 13 = .ok (.iconst 1, 1) := by decide +kernel
theorem dX5_isIn_14 : decode cX5_isIn 14 = .ok (.iand, 1) := by decide +kernel
theorem dX5_isIn_15 : decode cX5_isIn 15 = .ok (.iconst 1, 1) := by decide +kernel
theorem dX5_isIn_16 : decode cX5_isIn 16 = .ok (.if_icmp .ne 7, 3) := by decide +kernel
theorem dX5_isIn_19 : decode cX5_isIn 19 = .ok (.iconst 1, 1) := by decide +kernel
theorem dX5_isIn_20 : decode cX5_isIn 20 = .ok (.goto 4, 3) := by decide +kernel
theorem dX5_isIn_23 : decode cX5_isIn 23 = .ok (.iconst 0, 1) := by decide +kernel
theorem dX5_isIn_24 : decode cX5_isIn 24 = .ok (.ireturn, 1) := by decide +kernel
theorem dJ6_numberOfLeadingZeros_0f7a4_0 : decode cJ6_numberOfLeadingZeros_0f7a4 0 = .ok (.iload_n 0, 1) := by decide +kernel
theorem dJ6_numberOfLeadingZeros_0f7a4_1 : decode cJ6_numberOfLeadingZeros_0f7a4 1 = .ok (.ifCond .gt 14, 3) := by decide +kernel
theorem dJ6_numberOfLeadingZeros_0f7a4_4 : decode cJ6_numberOfLeadingZeros_0f7a4 4 = .ok (.iload_n 0, 1) := by decide +kernel
theorem dJ6_numberOfLeadingZeros_0f7a4_5 : decode cJ6_numberOfLeadingZeros_0f7a4 5 = .ok (.ifCond .ne 8, 3) := by decide +kernel
theorem dJ6_numberOfLeadingZeros_0f7a4_8 : decode cJ6_numberOfLeadingZeros_0f7a4 8 = .ok (.bipush 32, 2) := by decide +kernel
theorem dJ6_numberOfLeadingZeros_0f7a4_10 : decode cJ6_numberOfLeadingZeros_0f7a4 10 = .ok (.goto 4, 3) := by decide +kernel
theorem dJ6_numberOfLeadingZeros_0f7a4_13 : decode cJ6_numberOfLeadingZeros_0f7a4 13 = .ok (.iconst 0, 1) := by decide +kernel
theorem dJ6_numberOfLeadingZeros_0f7a4_14 : decode cJ6_numberOfLeadingZeros_0f7a4 14 = .ok (.ireturn, 1) := by decide +kernel
theorem dJ6_numberOfLeadingZeros_0f7a4_15 : decode cJ6_numberOfLeadingZeros_0f7a4 15 = .ok (.bipush 31, 2) := by decide +kernel
theorem dJ6_numberOfLeadingZeros_0f7a4_17 : decode cJ6_numberOfLeadingZeros_0f7a4 17 = .ok (.istore_n 1, 1) := by decide +kernel
theorem dJ6_numberOfLeadingZeros_0f7a4_18 : decode cJ6_numberOfLeadingZeros_0f7a4 18 = .ok (.iload_n 0, 1) := by decide +kernel
theorem dJ6_numberOfLeadingZeros_0f7a4_19 : decode cJ6_numberOfLeadingZeros_0f7a4 19 = .ok (.ldc_w 264, 3) := by decide +kernel
theorem dJ6_numberOfLeadingZeros_0f7a4_22 : decode cJ6_numberOfLeadingZeros_0f7a4 22 = .ok (.if_icmp .lt 11, 3) := by decide +kernel
theorem dJ6_numberOfLeadingZeros_0f7a4_25 : decode cJ6_numberOfLeadingZeros_0f7a4 25 = .ok (.iinc 1 (-16), 3) := by decide +kernel
theorem dJ6_numberOfLeadingZeros_0f7a4_28 : decode cJ6_numberOfLeadingZeros_0f7a4 28 = .ok (.iload_n 0, 1) := by decide +kernel
theorem dJ6_numberOfLeadingZeros_0f7a4_29 : decode cJ6_numberOfLeadingZeros_0f7a4 29 = .ok (.bipush 16, 2) := by decide +kernel
theorem dJ6_numberOfLeadingZeros_0f7a4_31 : decode cJ6_numberOfLeadingZeros_0f7a4 31 = .ok (.iushr, 1) := by decide +kernel
theorem dJ6_numberOfLeadingZeros_0f7a4_32 : decode cJ6_numberOfLeadingZeros_0f7a4 32 = .ok (.istore_n 0, 1) := by decide +kernel
theorem dJ6_numberOfLeadingZeros_0f7a4_33 : decode cJ6_numberOfLeadingZeros_0f7a4 33 = .ok (.iload_n 0, 1) := by decide +kernel
theorem dJ6_numberOfLeadingZeros_0f7a4_34 : decode cJ6_numberOfLeadingZeros_0f7a4 34 = .ok (.sipush 256, 3) := by decide +kernel
theorem dJ6_numberOfLeadingZeros_0f7a4_37 : decode cJ6_numberOfLeadingZeros_0f7a4 37 = .ok (.if_icmp .lt 11, 3) := by decide +kernel
theorem dJ6_numberOfLeadingZeros_0f7a4_40 : decode cJ6_numberOfLeadingZeros_0f7a4 40 = .ok (.iinc 1 (-8), 3) := by decide +kernel
theorem dJ6_numberOfLeadingZeros_0f7a4_43 : decode cJ6_numberOfLeadingZeros_0f7a4 43 = .ok (.iload_n 0, 1) := by decide +kernel
theorem dJ6_numberOfLeadingZeros_0f7a4_44 : decode cJ6_numberOfLeadingZeros_0f7a4 44 = .ok (.bipush 8, 2) := by decide +kernel
theorem dJ6_numberOfLeadingZeros_0f7a4_46 : decode cJ6_numberOfLeadingZeros_0f7a4 46 = .ok (.iushr, 1) := by decide +kernel
theorem dJ6_numberOfLeadingZeros_0f7a4_47 : decode cJ6_numberOfLeadingZeros_0f7a4 47 = .ok (.istore_n 0, 1) := by decide +kernel
theorem dJ6_numberOfLeadingZeros_0f7a4_48 : decode cJ6_numberOfLeadingZeros_0f7a4 48 = .ok (.iload_n 0, 1) := by decide +kernel
theorem dJ6_numberOfLeadingZeros_0f7a4_49 : decode cJ6_numberOfLeadingZeros_0f7a4 49 = .ok (.bipush 16, 2) := by decide +kernel
theorem dJ6_numberOfLeadingZeros_0f7a4_51 : decode cJ6_numberOfLeadingZeros_0f7a4 51 = .ok (.if_icmp .lt 10, 3) := by decide +kernel
theorem dJ6_numberOfLeadingZeros_0f7a4_54 : decode cJ6_numberOfLeadingZeros_0f7a4 54 = .ok (.iinc 1 (-4), 3) := by decide +kernel
theorem dJ6_numberOfLeadingZeros_0f7a4_57 : decode cJ6_numberOfLeadingZeros_0f7a4 57 = .ok (.iload_n 0, 1) := by decide +kernel
theorem dJ6_numberOfLeadingZeros_0f7a4_58 : decode cJ6_numberOfLeadingZeros_0f7a4 58 = .ok (.iconst 4, 1) := by decide +kernel
theorem dJ6_numberOfLeadingZeros_0f7a4_59 : decode cJ6_numberOfLeadingZeros_0f7a4 59 = .ok (.iushr, 1) := by decide +kernel
theorem dJ6_numberOfLeadingZeros_0f7a4_60 : decode cJ6_numberOfLeadingZeros_0f7a4 60 = .ok (.istore_n 0, 1) := by decide +kernel
theorem dJ6_numberOfLeadingZeros_0f7a4_61 : decode cJ6_numberOfLeadingZeros_0f7a4 61 = .ok (.iload_n 0, 1) := by decide +kernel
theorem dJ6_numberOfLeadingZeros_0f7a4_62 : decode cJ6_numberOfLeadingZeros_0f7a4 62 = .ok (.iconst 4, 1) := by decide +kernel
theorem dJ6_numberOfLeadingZeros_0f7a4_63 : decode cJ6_numberOfLeadingZeros_0f7a4 63 = .ok (.if_icmp .lt 10, 3) := by decide +kernel
theorem dJ6_numberOfLeadingZeros_0f7a4_66 : decode cJ6_numberOfLeadingZeros_0f7a4 66 = .ok (.iinc 1 (-2), 3) := by decide +kernel
theorem dJ6_numberOfLeadingZeros_0f7a4_69 : decode cJ6_numberOfLeadingZeros_0f7a4 69 = .ok (.iload_n 0, 1) := by decide +kernel
theorem dJ6_numberOfLeadingZeros_0f7a4_70 : decode cJ6_numberOfLeadingZeros_0f7a4 70 = .ok (.iconst 2, 1) := by decide +kernel
theorem dJ6_numberOfLeadingZeros_0f7a4_71 : decode cJ6_numberOfLeadingZeros_0f7a4 71 = .ok (.iushr, 1) := by decide +kernel
theorem dJ6_numberOfLeadingZeros_0f7a4_72 : decode cJ6_numberOfLeadingZeros_0f7a4 72 = .ok (.istore_n 0, 1) := by decide +kernel
theorem dJ6_numberOfLeadingZeros_0f7a4_73 : decode cJ6_numberOfLeadingZeros_0f7a4 73 = .ok (.iload_n 1, 1) := by decide +kernel
theorem dJ6_numberOfLeadingZeros_0f7a4_74 : decode cJ6_numberOfLeadingZeros_0f7a4 74 = .ok (.iload_n 0, 1) := by decide +kernel
theorem dJ6_numberOfLeadingZeros_0f7a4_75 : decode cJ6_numberOfLeadingZeros_0f7a4 75 = .ok (.iconst 1, 1) := by decide +kernel
theorem dJ6_numberOfLeadingZeros_0f7a4_76 : decode cJ6_numberOfLeadingZeros_0f7a4 76 = .ok (.iushr, 1) := by decide +kernel
theorem dJ6_numberOfLeadingZeros_0f7a4_77 : decode cJ6_numberOfLeadingZeros_0f7a4 77 = .ok (.isub, 1) := by decide +kernel
theorem dJ6_numberOfLeadingZeros_0f7a4_78 : decode cJ6_numberOfLeadingZeros_0f7a4 78 = .ok (.ireturn, 1) := by decide +kernel
theorem dJ6_numberOfTrailingZeros_0f7a4_0 : decode cJ6_numberOfTrailingZeros_0f7a4 0 = .ok (.iload_n 0, 1) := by decide +kernel
theorem dJ6_numberOfTrailingZeros_0f7a4_1 : decode cJ6_numberOfTrailingZeros_0f7a4 1 = .ok (.iconst (-1), 1) := by decide +kernel
theorem dJ6_numberOfTrailingZeros_0f7a4_2 : decode cJ6_numberOfTrailingZeros_0f7a4 2 = .ok (.ixor, 1) := by decide +kernel
theorem dJ6_numberOfTrailingZeros_0f7a4_3 : decode cJ6_numberOfTrailingZeros_0f7a4 3 = .ok (.iload_n 0, 1) := by decide +kernel
theorem dJ6_numberOfTrailingZeros_0f7a4_4 : decode cJ6_numberOfTrailingZeros_0f7a4 4 = .ok (.iconst 1, 1) := by decide +kernel
theorem dJ6_numberOfTrailingZeros_0f7a4_5 : decode cJ6_numberOfTrailingZeros_0f7a4 5 = .ok (.isub, 1) := by decide +kernel
theorem dJ6_numberOfTrailingZeros_0f7a4_6 : decode cJ6_numberOfTrailingZeros_0f7a4 6 = .ok (.iand, 1) := by decide +kernel
theorem dJ6_numberOfTrailingZeros_0f7a4_7 : decode cJ6_numberOfTrailingZeros_0f7a4 7 = .ok (.istore_n 0, 1) := by decide +kernel
theorem dJ6_numberOfTrailingZeros_0f7a4_8 : decode cJ6_numberOfTrailingZeros_0f7a4 8 = .ok (.iload_n 0, 1) := by decide +kernel
theorem dJ6_numberOfTrailingZeros_0f7a4_9 : decode cJ6_numberOfTrailingZeros_0f7a4 9 = .ok (.ifCond .gt 8, 3) := by decide +kernel
theorem dJ6_numberOfTrailingZeros_0f7a4_12 : decode cJ6_numberOfTrailingZeros_0f7a4 12 = .ok (.iload_n 0, 1) := by decide +kernel
theorem dJ6_numberOfTrailingZeros_0f7a4_13 : decode cJ6_numberOfTrailingZeros_0f7a4 13 = .ok (.bipush 32, 2) := by decide +kernel
theorem dJ6_numberOfTrailingZeros_0f7a4_15 : decode cJ6_numberOfTrailingZeros_0f7a4 15 = .ok (.iand, 1) := by decide +kernel
theorem dJ6_numberOfTrailingZeros_0f7a4_16 : decode cJ6_numberOfTrailingZeros_0f7a4 16 = .ok (.ireturn, 1) := by decide +kernel
theorem dJ6_numberOfTrailingZeros_0f7a4_17 : decode cJ6_numberOfTrailingZeros_0f7a4 17 = .ok (.iconst 1, 1) := by decide +kernel
theorem dJ6_numberOfTrailingZeros_0f7a4_18 : decode cJ6_numberOfTrailingZeros_0f7a4 18 = .ok (.istore_n 1, 1) := by decide +kernel
theorem dJ6_numberOfTrailingZeros_0f7a4_19 : decode cJ6_numberOfTrailingZeros_0f7a4 19 = .ok (.iload_n 0, 1) := by decide +kernel
theorem dJ6_numberOfTrailingZeros_0f7a4_20 : decode cJ6_numberOfTrailingZeros_0f7a4 20 = .ok (.ldc_w 264, 3) := by decide +kernel
theorem dJ6_numberOfTrailingZeros_0f7a4_23 : decode cJ6_numberOfTrailingZeros_0f7a4 23 = .ok (.if_icmp .le 11, 3) := by decide +kernel
theorem dJ6_numberOfTrailingZeros_0f7a4_26 : decode cJ6_numberOfTrailingZeros_0f7a4 26 = .ok (.iinc 1 16, 3) := by decide +kernel
theorem dJ6_numberOfTrailingZeros_0f7a4_29 : decode cJ6_numberOfTrailingZeros_0f7a4 29 = .ok (.iload_n 0, 1) := by decide +kernel
theorem dJ6_numberOfTrailingZeros_0f7a4_30 : decode cJ6_numberOfTrailingZeros_0f7a4 30 = .ok (.bipush 16, 2) := by decide +kernel
theorem dJ6_numberOfTrailingZeros_0f7a4_32 : decode cJ6_numberOfTrailingZeros_0f7a4 32 = .ok (.iushr, 1) := by decide +kernel
theorem dJ6_numberOfTrailingZeros_0f7a4_33 : decode cJ6_numberOfTrailingZeros_0f7a4 33 = .ok (.istore_n 0, 1) := by decide +kernel
theorem dJ6_numberOfTrailingZeros_0f7a4_34 : decode cJ6_numberOfTrailingZeros_0f7a4 34 = .ok (.iload_n 0, 1) := by decide +kernel
theorem dJ6_numberOfTrailingZeros_0f7a4_35 : decode cJ6_numberOfTrailingZeros_0f7a4 35 = .ok (.sipush 256, 3) := by decide +kernel
theorem dJ6_numberOfTrailingZeros_0f7a4_38 : decode cJ6_numberOfTrailingZeros_0f7a4 38 = .ok (.if_icmp .le 11, 3) := by decide +kernel
theorem dJ6_numberOfTrailingZeros_0f7a4_41 : decode cJ6_numberOfTrailingZeros_0f7a4 41 = .ok (.iinc 1 8, 3) := by decide +kernel
theorem dJ6_numberOfTrailingZeros_0f7a4_44 : decode cJ6_numberOfTrailingZeros_0f7a4 44 = .ok (.iload_n 0, 1) := by decide +kernel
theorem dJ6_numberOfTrailingZeros_0f7a4_45 : decode cJ6_numberOfTrailingZeros_0f7a4 45 = .ok (.bipush 8, 2) := by decide +kernel
theorem dJ6_numberOfTrailingZeros_0f7a4_47 : decode cJ6_numberOfTrailingZeros_0f7a4 47 = .ok (.iushr, 1) := by decide +kernel
theorem dJ6_numberOfTrailingZeros_0f7a4_48 : decode cJ6_numberOfTrailingZeros_0f7a4 48 = .ok (.istore_n 0, 1) := by decide +kernel
theorem dJ6_numberOfTrailingZeros_0f7a4_49 : decode cJ6_numberOfTrailingZeros_0f7a4 49 = .ok (.iload_n 0, 1) := by decide +kernel
theorem dJ6_numberOfTrailingZeros_0f7a4_50 : decode cJ6_numberOfTrailingZeros_0f7a4 50 = .ok (.bipush 16, 2) := by decide +kernel
theorem dJ6_numberOfTrailingZeros_0f7a4_52 : decode cJ6_numberOfTrailingZeros_0f7a4 52 = .ok (.if_icmp .le 10, 3) := by decide +kernel
theorem dJ6_numberOfTrailingZeros_0f7a4_55 : decode cJ6_numberOfTrailingZeros_0f7a4 55 = .ok (.iinc 1 4, 3) := by decide +kernel
theorem dJ6_numberOfTrailingZeros_0f7a4_58 : decode cJ6_numberOfTrailingZeros_0f7a4 58 = .ok (.iload_n 0, 1) := by decide +kernel
theorem dJ6_numberOfTrailingZeros_0f7a4_59 : decode cJ6_numberOfTrailingZeros_0f7a4 59 = .ok (.iconst 4, 1) := by decide +kernel
theorem dJ6_numberOfTrailingZeros_0f7a4_60 : decode cJ6_numberOfTrailingZeros_0f7a4 60 = .ok (.iushr, 1) := by decide +kernel
theorem dJ6_numberOfTrailingZeros_0f7a4_61 : decode cJ6_numberOfTrailingZeros_0f7a4 61 = .ok (.istore_n 0, 1) := by decide +kernel
theorem dJ6_numberOfTrailingZeros_0f7a4_62 : decode cJ6_numberOfTrailingZeros_0f7a4 62 = .ok (.iload_n 0, 1) := by decide +kernel
theorem dJ6_numberOfTrailingZeros_0f7a4_63 : decode cJ6_numberOfTrailingZeros_0f7a4 63 = .ok (.iconst 4, 1) := by decide +kernel
theorem dJ6_numberOfTrailingZeros_0f7a4_64 : decode cJ6_numberOfTrailingZeros_0f7a4 64 = .ok (.if_icmp .le 10, 3) := by decide +kernel
theorem dJ6_numberOfTrailingZeros_0f7a4_67 : decode cJ6_numberOfTrailingZeros_0f7a4 67 = .ok (.iinc 1 2, 3) := by decide +kernel
theorem dJ6_numberOfTrailingZeros_0f7a4_70 : decode cJ6_numberOfTrailingZeros_0f7a4 70 = .ok (.iload_n 0, 1) := by decide +kernel
theorem dJ6_numberOfTrailingZeros_0f7a4_71 : decode cJ6_numberOfTrailingZeros_0f7a4 71 = .ok (.iconst 2, 1) := by decide +kernel
theorem dJ6_numberOfTrailingZeros_0f7a4_72 : decode cJ6_numberOfTrailingZeros_0f7a4 72 = .ok (.iushr, 1) := by decide +kernel
theorem dJ6_numberOfTrailingZeros_0f7a4_73 : decode cJ6_numberOfTrailingZeros_0f7a4 73 = .ok (.istore_n 0, 1) := by decide +kernel
theorem dJ6_numberOfTrailingZeros_0f7a4_74 : decode cJ6_numberOfTrailingZeros_0f7a4 74 = .ok (.iload_n 1, 1) := by decide +kernel
theorem dJ6_numberOfTrailingZeros_0f7a4_75 : decode cJ6_numberOfTrailingZeros_0f7a4 75 = .ok (.iload_n 0, 1) := by decide +kernel
theorem dJ6_numberOfTrailingZeros_0f7a4_76 : decode cJ6_numberOfTrailingZeros_0f7a4 76 = .ok (.iconst 1, 1) := by decide +kernel
theorem dJ6_numberOfTrailingZeros_0f7a4_77 : decode cJ6_numberOfTrailingZeros_0f7a4 77 = .ok (.iushr, 1) := by decide +kernel
theorem dJ6_numberOfTrailingZeros_0f7a4_78 : decode cJ6_numberOfTrailingZeros_0f7a4 78 = .ok (.iadd, 1) := by decide +kernel
theorem dJ6_numberOfTrailingZeros_0f7a4_79 : decode cJ6_numberOfTrailingZeros_0f7a4 79 = .ok (.ireturn, 1) := by decide +kernel
theorem dJ6_bitCount_0f7a4_0 : decode cJ6_bitCount_0f7a4 0 = .ok (.iload_n 0, 1) := by decide +kernel
theorem dJ6_bitCount_0f7a4_1 : decode cJ6_bitCount_0f7a4 1 = .ok (.iload_n 0, 1) := by decide +kernel
theorem dJ6_bitCount_0f7a4_2 : decode cJ6_bitCount_0f7a4 2 = .ok (.iconst 1, 1) := by decide +kernel
theorem dJ6_bitCount_0f7a4_3 : decode cJ6_bitCount_0f7a4 3 = .ok (.iushr, 1) := by decide +kernel
theorem dJ6_bitCount_0f7a4_4 : decode cJ6_bitCount_0f7a4 4 = .ok (.ldc_w 265, 3) := by decide +kernel
theorem dJ6_bitCount_0f7a4_7 : decode cJ6_bitCount_0f7a4 7 = .ok (.iand, 1) := by decide +kernel
theorem dJ6_bitCount_0f7a4_8 : decode cJ6_bitCount_0f7a4 8 = .ok (.isub, 1) := by decide +kernel
theorem dJ6_bitCount_0f7a4_9 : decode cJ6_bitCount_0f7a4 9 = .ok (.istore_n 0, 1) := by decide +kernel
theorem dJ6_bitCount_0f7a4_10 : decode cJ6_bitCount_0f7a4 10 = .ok (.iload_n 0, 1) := by decide +kernel
theorem dJ6_bitCount_0f7a4_11 : decode cJ6_bitCount_0f7a4 11 = .ok (.ldc_w 266, 3) := by decide +kernel
theorem dJ6_bitCount_0f7a4_14 : decode cJ6_bitCount_0f7a4 14 = .ok (.iand, 1) := by decide +kernel
theorem dJ6_bitCount_0f7a4_15 : decode cJ6_bitCount_0f7a4 15 = .ok (.iload_n 0, 1) := by decide +kernel
theorem dJ6_bitCount_0f7a4_16 : decode cJ6_bitCount_0f7a4 16 = .ok (.iconst 2, 1) := by decide +kernel
theorem dJ6_bitCount_0f7a4_17 : decode cJ6_bitCount_0f7a4 17 = .ok (.iushr, 1) := by decide +kernel
theorem dJ6_bitCount_0f7a4_18 : decode cJ6_bitCount_0f7a4 18 = .ok (.ldc_w 266, 3) := by decide +kernel
theorem dJ6_bitCount_0f7a4_21 : decode cJ6_bitCount_0f7a4 21 = .ok (.iand, 1) := by decide +kernel
theorem dJ6_bitCount_0f7a4_22 : decode cJ6_bitCount_0f7a4 22 = .ok (.iadd, 1) := by decide +kernel
theorem dJ6_bitCount_0f7a4_23 : decode cJ6_bitCount_0f7a4 23 = .ok (.istore_n 0, 1) := by decide +kernel
theorem dJ6_bitCount_0f7a4_24 : decode cJ6_bitCount_0f7a4 24 = .ok (.iload_n 0, 1) := by decide +kernel
theorem dJ6_bitCount_0f7a4_25 : decode cJ6_bitCount_0f7a4 25 = .ok (.iload_n 0, 1) := by decide +kernel
theorem dJ6_bitCount_0f7a4_26 : decode cJ6_bitCount_0f7a4 26 = .ok (.iconst 4, 1) := by decide +kernel
theorem dJ6_bitCount_0f7a4_27 : decode cJ6_bitCount_0f7a4 27 = .ok (.iushr, 1) := by decide +kernel
theorem dJ6_bitCount_0f7a4_28 : decode cJ6_bitCount_0f7a4 28 = .ok (.iadd, 1) := by decide +kernel
theorem dJ6_bitCount_0f7a4_29 : decode cJ6_bitCount_0f7a4 29 = .ok (.ldc_w 267, 3) := by decide +kernel
theorem dJ6_bitCount_0f7a4_32 : decode cJ6_bitCount_0f7a4 32 = .ok (.iand, 1) := by decide +kernel
theorem dJ6_bitCount_0f7a4_33 : decode cJ6_bitCount_0f7a4 33 = .ok (.istore_n 0, 1) := by decide +kernel
theorem dJ6_bitCount_0f7a4_34 : decode cJ6_bitCount_0f7a4 34 = .ok (.iload_n 0, 1) := by decide +kernel
theorem dJ6_bitCount_0f7a4_35 : decode cJ6_bitCount_0f7a4 35 = .ok (.iload_n 0, 1) := by decide +kernel
theorem dJ6_bitCount_0f7a4_36 : decode cJ6_bitCount_0f7a4 36 = .ok (.bipush 8, 2) := by decide +kernel
theorem dJ6_bitCount_0f7a4_38 : decode cJ6_bitCount_0f7a4 38 = .ok (.iushr, 1) := by decide +kernel
theorem dJ6_bitCount_0f7a4_39 : decode cJ6_bitCount_0f7a4 39 = .ok (.iadd, 1) := by decide +kernel
theorem dJ6_bitCount_0f7a4_40 : decode cJ6_bitCount_0f7a4 40 = .ok (.istore_n 0, 1) := by decide +kernel
theorem dJ6_bitCount_0f7a4_41 : decode cJ6_bitCount_0f7a4 41 = .ok (.iload_n 0, 1) := by decide +kernel
theorem dJ6_bitCount_0f7a4_42 : decode cJ6_bitCount_0f7a4 42 = .ok (.iload_n 0, 1) := by decide +kernel
theorem dJ6_bitCount_0f7a4_43 : decode cJ6_bitCount_0f7a4 43 = .ok (.bipush 16, 2) := by decide +kernel
theorem dJ6_bitCount_0f7a4_45 : decode cJ6_bitCount_0f7a4 45 = .ok (.iushr, 1) := by decide +kernel
theorem dJ6_bitCount_0f7a4_46 : decode cJ6_bitCount_0f7a4 46 = .ok (.iadd, 1) := by decide +kernel
theorem dJ6_bitCount_0f7a4_47 : decode cJ6_bitCount_0f7a4 47 = .ok (.istore_n 0, 1) := by decide +kernel
theorem dJ6_bitCount_0f7a4_48 : decode cJ6_bitCount_0f7a4 48 = .ok (.iload_n 0, 1) := by decide +kernel
theorem dJ6_bitCount_0f7a4_49 : decode cJ6_bitCount_0f7a4 49 = .ok (.bipush 63, 2) := by decide +kernel
theorem dJ6_bitCount_0f7a4_51 : decode cJ6_bitCount_0f7a4 51 = .ok (.iand, 1) := by decide +kernel
theorem dJ6_bitCount_0f7a4_52 : decode cJ6_bitCount_0f7a4 52 = .ok (.ireturn, 1) := by decide +kernel
set_option maxRecDepth 20000 in
theorem ggJ13_numberOfTrailingZeros_95d88_J6_numberOfTrailingZeros_0f7a4 : GoodIn wsJ13_numberOfTrailingZeros_95d88 wsJ6_numberOfTrailingZeros_0f7a4 := goodIn_r _ [4, 5] (by decide +kernel) (by decide +kernel)
set_option maxRecDepth 20000 in
theorem gJ13_numberOfTrailingZeros_95d88_J6_numberOfTrailingZeros_0f7a4 : GoodIn wsJ13_numberOfTrailingZeros_95d88 (va_wsS RJ13 311 yJ6_numberOfTrailingZeros_0f7a4 wsJ6_numberOfTrailingZeros_0f7a4) := goodIn_app (goodIn_of _ (by decide +kernel)) ggJ13_numberOfTrailingZeros_95d88_J6_numberOfTrailingZeros_0f7a4
theorem dJ13_numberOfTrailingZeros_95d88_0 : decode cJ13_numberOfTrailingZeros_95d88 0 = .ok (.lload_n 0, 1) := by decide +kernel
theorem dJ13_numberOfTrailingZeros_95d88_1 : decode cJ13_numberOfTrailingZeros_95d88 1 = .ok (.l2i, 1) := by decide +kernel
theorem dJ13_numberOfTrailingZeros_95d88_2 : decode cJ13_numberOfTrailingZeros_95d88 2 = .ok (.istore_n 2, 1) := by decide +kernel
theorem dJ13_numberOfTrailingZeros_95d88_3 : decode cJ13_numberOfTrailingZeros_95d88 3 = .ok (.iload_n 2, 1) := by decide +kernel
theorem dJ13_numberOfTrailingZeros_95d88_4 : decode cJ13_numberOfTrailingZeros_95d88 4 = .ok (.ifCond .ne 17, 3) := by decide +kernel
theorem dJ13_numberOfTrailingZeros_95d88_7 : decode cJ13_numberOfTrailingZeros_95d88 7 = .ok (.bipush 32, 2) := by decide +kernel
theorem dJ13_numberOfTrailingZeros_95d88_9 : decode cJ13_numberOfTrailingZeros_95d88 9 = .ok (.lload_n 0, 1) := by decide +kernel
theorem dJ13_numberOfTrailingZeros_95d88_10 : decode cJ13_numberOfTrailingZeros_95d88 10 = .ok (.bipush 32, 2) := by decide +kernel
theorem dJ13_numberOfTrailingZeros_95d88_12 : decode cJ13_numberOfTrailingZeros_95d88 12 = .ok (.lushr, 1) := by decide +kernel
theorem dJ13_numberOfTrailingZeros_95d88_13 : decode cJ13_numberOfTrailingZeros_95d88 13 = .ok (.l2i, 1) := by decide +kernel
theorem dJ13_numberOfTrailingZeros_95d88_14 : decode cJ13_numberOfTrailingZeros_95d88 14 = .ok (.invokestatic 311, 3) := by decide +kernel
theorem dJ13_numberOfTrailingZeros_95d88_17 : decode cJ13_numberOfTrailingZeros_95d88 17 = .ok (.iadd, 1) := by decide +kernel
theorem dJ13_numberOfTrailingZeros_95d88_18 : decode cJ13_numberOfTrailingZeros_95d88 18 = .ok (.goto 7, 3) := by decide +kernel
theorem dJ13_numberOfTrailingZeros_95d88_21 : decode cJ13_numberOfTrailingZeros_95d88 21 = .ok (.iload_n 2, 1) := by decide +kernel
theorem dJ13_numberOfTrailingZeros_95d88_22 : decode cJ13_numberOfTrailingZeros_95d88 22 = .ok (.invokestatic 311, 3) := by decide +kernel
theorem dJ13_numberOfTrailingZeros_95d88_25 : decode cJ13_numberOfTrailingZeros_95d88 25 = .ok (.ireturn, 1) := by decide +kernel
theorem dJ13_bitCount_95d88_0 : decode cJ13_bitCount_95d88 0 = .ok (.lload_n 0, 1) := by decide +kernel
theorem dJ13_bitCount_95d88_1 : decode cJ13_bitCount_95d88 1 = .ok (.lload_n 0, 1) := by decide +kernel
theorem dJ13_bitCount_95d88_2 : decode cJ13_bitCount_95d88 2 = .ok (.iconst 1, 1) := by decide +kernel
theorem dJ13_bitCount_95d88_3 : decode cJ13_bitCount_95d88 3 = .ok (.lushr, 1) := by decide +kernel
theorem dJ13_bitCount_95d88_4 : decode cJ13_bitCount_95d88 4 = .ok (.ldc2_w 314, 3) := by decide +kernel
theorem dJ13_bitCount_95d88_7 : decode cJ13_bitCount_95d88 7 = .ok (.land, 1) := by decide +kernel
theorem dJ13_bitCount_95d88_8 : decode cJ13_bitCount_95d88 8 = .ok (.lsub, 1) := by decide +kernel
theorem dJ13_bitCount_95d88_9 : decode cJ13_bitCount_95d88 9 = .ok (.lstore_n 0, 1) := by decide +kernel
theorem dJ13_bitCount_95d88_10 : decode cJ13_bitCount_95d88 10 = .ok (.lload_n 0, 1) := by decide +kernel
theorem dJ13_bitCount_95d88_11 : decode cJ13_bitCount_95d88 11 = .ok (.ldc2_w 316, 3) := by decide +kernel
theorem dJ13_bitCount_95d88_14 : decode cJ13_bitCount_95d88 14 = .ok (.land, 1) := by decide +kernel
theorem dJ13_bitCount_95d88_15 : decode cJ13_bitCount_95d88 15 = .ok (.lload_n 0, 1) := by decide +kernel
theorem dJ13_bitCount_95d88_16 : decode cJ13_bitCount_95d88 16 = .ok (.iconst 2, 1) := by decide +kernel
theorem dJ13_bitCount_95d88_17 : decode cJ13_bitCount_95d88 17 = .ok (.lushr, 1) := by decide +kernel
theorem dJ13_bitCount_95d88_18 : decode cJ13_bitCount_95d88 18 = .ok (.ldc2_w 316, 3) := by decide +kernel
theorem dJ13_bitCount_95d88_21 : decode cJ13_bitCount_95d88 21 = .ok (.land, 1) := by decide +kernel
theorem dJ13_bitCount_95d88_22 : decode cJ13_bitCount_95d88 22 = .ok (.ladd, 1) := by decide +kernel
theorem dJ13_bitCount_95d88_23 : decode cJ13_bitCount_95d88 23 = .ok (.lstore_n 0, 1) := by decide +kernel
theorem dJ13_bitCount_95d88_24 : decode cJ13_bitCount_95d88 24 = .ok (.lload_n 0, 1) := by decide +kernel
theorem dJ13_bitCount_95d88_25 : decode cJ13_bitCount_95d88 25 = .ok (.lload_n 0, 1) := by decide +kernel
theorem dJ13_bitCount_95d88_26 : decode cJ13_bitCount_95d88 26 = .ok (.iconst 4, 1) := by decide +kernel
theorem dJ13_bitCount_95d88_27 : decode cJ13_bitCount_95d88 27 = .ok (.lushr, 1) := by decide +kernel
theorem dJ13_bitCount_95d88_28 : decode cJ13_bitCount_95d88 28 = .ok (.ladd, 1) := by decide +kernel
theorem dJ13_bitCount_95d88_29 : decode cJ13_bitCount_95d88 29 = .ok (.ldc2_w 318, 3) := by decide +kernel
theorem dJ13_bitCount_95d88_32 : decode cJ13_bitCount_95d88 32 = .ok (.land, 1) := by decide +kernel
theorem dJ13_bitCount_95d88_33 : decode cJ13_bitCount_95d88 33 = .ok (.lstore_n 0, 1) := by decide +kernel
theorem dJ13_bitCount_95d88_34 : decode cJ13_bitCount_95d88 34 = .ok (.lload_n 0, 1) := by decide +kernel
theorem dJ13_bitCount_95d88_35 : decode cJ13_bitCount_95d88 35 = .ok (.lload_n 0, 1) := by decide +kernel
theorem dJ13_bitCount_95d88_36 : decode cJ13_bitCount_95d88 36 = .ok (.bipush 8, 2) := by decide +kernel
theorem dJ13_bitCount_95d88_38 : decode cJ13_bitCount_95d88 38 = .ok (.lushr, 1) := by decide +kernel
theorem dJ13_bitCount_95d88_39 : decode cJ13_bitCount_95d88 39 = .ok (.ladd, 1) := by decide +kernel
theorem dJ13_bitCount_95d88_40 : decode cJ13_bitCount_95d88 40 = .ok (.lstore_n 0, 1) := by decide +kernel
theorem dJ13_bitCount_95d88_41 : decode cJ13_bitCount_95d88 41 = .ok (.lload_n 0, 1) := by decide +kernel
theorem dJ13_bitCount_95d88_42 : decode cJ13_bitCount_95d88 42 = .ok (.lload_n 0, 1) := by decide +kernel
theorem dJ13_bitCount_95d88_43 : decode cJ13_bitCount_95d88 43 = .ok (.bipush 16, 2) := by decide +kernel
theorem dJ13_bitCount_95d88_45 : decode cJ13_bitCount_95d88 45 = .ok (.lushr, 1) := by decide +kernel
theorem dJ13_bitCount_95d88_46 : decode cJ13_bitCount_95d88 46 = .ok (.ladd, 1) := by decide +kernel
theorem dJ13_bitCount_95d88_47 : decode cJ13_bitCount_95d88 47 = .ok (.lstore_n 0, 1) := by decide +kernel
theorem dJ13_bitCount_95d88_48 : decode cJ13_bitCount_95d88 48 = .ok (.lload_n 0, 1) := by decide +kernel
theorem dJ13_bitCount_95d88_49 : decode cJ13_bitCount_95d88 49 = .ok (.lload_n 0, 1) := by decide +kernel
theorem dJ13_bitCount_95d88_50 : decode cJ13_bitCount_95d88 50 = .ok (.bipush 32, 2) := by decide +kernel
theorem dJ13_bitCount_95d88_52 : decode cJ13_bitCount_95d88 52 = .ok (.lushr, 1) := by decide +kernel
theorem dJ13_bitCount_95d88_53 : decode cJ13_bitCount_95d88 53 = .ok (.ladd, 1) := by decide +kernel
theorem dJ13_bitCount_95d88_54 : decode cJ13_bitCount_95d88 54 = .ok (.lstore_n 0, 1) := by decide +kernel
theorem dJ13_bitCount_95d88_55 : decode cJ13_bitCount_95d88 55 = .ok (.lload_n 0, 1) := by decide +kernel
theorem dJ13_bitCount_95d88_56 : decode cJ13_bitCount_95d88 56 = .ok (.l2i, 1) := by decide +kernel
theorem dJ13_bitCount_95d88_57 : decode cJ13_bitCount_95d88 57 = .ok (.bipush 127, 2) := by decide +kernel
theorem dJ13_bitCount_95d88_59 : decode cJ13_bitCount_95d88 59 = .ok (.iand, 1) := by decide +kernel
theorem dJ13_bitCount_95d88_60 : decode cJ13_bitCount_95d88 60 = .ok (.ireturn, 1) := by decide +kernel
end
section
/-! core: one form of context, world, contract; calls -/
/-- what is fixed in a launch: the classes, the array classes, where the text constants stand -/
abbrev zK : Type := va_G × (ClassId × ClassId) × (Nat → Nat) × (Nat → Nat)
def zTY (K : zK) : List (ClassId × FieldType) := [(K.2.1.1, .int), (K.2.1.2, .boolean)]
def zLen : List Nat := [7, 2, 3, 1, 0]
def zByt : List (List Int32) := [[104, 44, 104, 44, 100, 100, 59], [104, 59], [100, 100, 59], [59], []]
def zTx (i : Nat) : String := match i with
  | 0 => "h,h,dd;"
  | 1 => "h;"
  | 2 => "dd;"
  | 3 => ";"
  | _ => ""
/-- text constants and statics that nobody writes -/
def zE (K : zK) (A : Nat → Prop) (U : State) (H : Heap) : Prop :=
  vk_S 5 zLen zByt K.2.2.1 K.2.2.2 A U H ∧ (∀ i : Nat, i < 5 → vk_R "SumOfTwoThatStand$Letters" (81 + 2 * i) (zTx i) (K.2.2.1 i) U) ∧ va_Z "java/lang/String" "COMPACT_STRINGS" "Z" (.int 1) A U H ∧ va_Zq "jdk/internal/util/Preconditions" "SIOOBE_FORMATTER" "Ljava/util/function/BiFunction;" A U H
theorem zE.kept {K : zK} {A : Nat → Prop} {U : State} {H H1 : Heap} (h : zE K A U H) (hq : ∀ a : Nat, a < H.size → ¬ A a → H1[a]? = H[a]?) : zE K A U H1 := ⟨h.1.kept hq, h.2.1, h.2.2.1.kept hq, h.2.2.2.kept hq⟩
theorem zE.narrow {K : zK} {A B : Nat → Prop} {U : State} {H : Heap} (h : zE K A U H) (hAB : ∀ q, B q → A q) : zE K B U H := ⟨h.1.narrow hAB, h.2.1, h.2.2.1.narrow hAB, h.2.2.2.narrow hAB⟩
theorem zE.warm {K : zK} {A : Nat → Prop} {s U : State} {H : Heap} (hW : s.WarmedH U.vm) (h : zE K A s H) : zE K A U H := ⟨vk_S.moved hW.alike h.1, fun i hi => (h.2.1 i hi).warm hW, va_Z.moved hW.alike h.2.2.1, va_Zq.moved hW.alike h.2.2.2⟩
theorem zE.same {K : zK} {A : Nat → Prop} {s U : State} {H : Heap} (hv : U.vm = s.vm) (h : zE K A s H) : zE K A U H := ⟨vk_S.moved (by rw [hv]; exact Vm.Alike.refl _) h.1, fun i hi => (h.2.1 i hi).same hv, va_Z.moved (by rw [hv]; exact Vm.Alike.refl _) h.2.2.1, va_Zq.moved (by rw [hv]; exact Vm.Alike.refl _) h.2.2.2⟩
/-- the world here and now -/
def zW (K : zK) (A : Nat → Prop) (s : State) (H : Heap) (locs : List Loc) (ws : va_W) : Prop :=
  va_P K.1 vwCl ws H ∧ va_D A ws ∧ va_S A s.heap H locs
/-- the fixed things of a method's run -/
def zX (p : Program) (m : MethodId) (c : Code) (cc : ByteArray) (nL : Nat) (s : State) (args : Array Value) (Ts : List Cond) (own : String) (K : zK) (A : Nat → Prop) : Prop :=
  CallFix p m c cc nL s args Ts own ∧ va_K K.1 vwCl (zTY K) s ∧ (∀ q, s.heap.size ≤ q → A q) ∧ zE K A s s.heap
def zPc (K : zK) (av : List Value) (w : va_W) (sz : Nat) : Array Value → State → Prop :=
  va_Pc av (fun U => U.heap.size = sz ∧ va_P K.1 vwCl w U.heap ∧ va_K K.1 vwCl (zTY K) U ∧ va_D (fun _ => True) w ∧ zE K (va_A w sz) U U.heap)
def zB (K : zK) (A : Nat → Prop) (w : va_W) (t : State) : Prop :=
  va_P K.1 vwCl w t.heap ∧ va_K K.1 vwCl (zTY K) t ∧ va_D A w
/-- a method's end: the answer, the world, and that all else stays -/
def zQ (K : zK) (A : Nat → Prop) (ov : Option Value) (w : va_W) : Array Value → State → Outcome → State → Prop :=
  fun _ st oc t => oc = .returned ov ∧ zB K A w t ∧ va_F A st t
/-- a contract: from the world w with these arguments it returns ov, with the world w' -/
def zC (l : Launch) (y : MethodName) (ws : List Cond) (rm : Room) (K : zK) (av : List Value) (w : va_W) (ov : Option Value) (w' : va_W) : Prop :=
  ∀ sz : Nat, Met l y ws rm (zPc K av w sz) (zQ K (va_A w sz) ov w') 0 0 (va_A w sz)
theorem zPc_blind (K : zK) (av : List Value) (w : va_W) (sz : Nat) : FrameBlind (zPc K av w sz) := fun a U g mk q => by
  obtain ⟨q0, q1, qP, qK, qD, qE⟩ := q
  exact ⟨q0, q1, qP, va_K.moved (u := U) (U := U.calling g mk a) (Vm.Alike.refl U.vm) qK, qD, qE.same (s := U) (U := U.calling g mk a) rfl⟩
/-- two worlds are one when their lists are -/
theorem zW.to {K : zK} {A : Nat → Prop} {s : State} {H : Heap} {locs : List Loc} {w w' : va_W} (h : zW K A s H locs w) (e : w = w') : zW K A s H locs w' := e ▸ h
theorem zfm {ws : va_W} : ∀ (is : List Nat) (w : va_W), is.map (fun i => ws[i]?) = w.map some → is.filterMap (fun i => ws[i]?) = w := by
  intro is
  induction is with
  | nil => intro w h; cases w with
    | nil => rfl
    | cons a b => cases h
  | cons i is ih =>
    intro w h
    cases w with
    | nil => cases h
    | cons a b =>
      rw [List.map_cons, List.map_cons] at h
      injection h with h1 h3
      rw [List.filterMap_cons, h1, ih b h3]
section ZS
variable {l : Launch} {y : MethodName} {ws ws' : List Cond} {rm : Room} {K : zK} {av : List Value} {w w' : va_W} {cc : ByteArray} {maxL : Nat}
theorem zC_i (r : Int32) (hy : plainName y.cls = true) (hw : ws = Cond.code y cc maxL (some .int) :: ws') (hle : (lg_sl av).length ≤ maxL) (hc : rm.cells = 0) (hs : rm.slots = 0)
    (body : ∀ (p : Program) (e : Env) (s : State) (m : MethodId) (below : List Frame) (meth : Method) (c : Code) (Q : State → Prop) (A : Nat → Prop), zX p m c cc maxL s av.toArray ws y.cls K A →
      (∀ (pc : Nat) (ls : Array Slot) (H : Heap) (locs : List Loc) (v : Int32), v = r → decode cc pc = .ok (.ireturn, 1) → zW K A s H locs w' → W p l e rm s m av.toArray below meth c H locs 0 0 Q (F0 m pc ls [.int v])) →
      ∀ ls, lv_has ls maxL (lv_args 0 av) → zW K A s s.heap [] w → W p l e rm s m av.toArray below meth c s.heap [] 0 0 Q (F0 m 0 ls [])) :
    zC l y ws rm K av w (some (.int r)) w' := by
  intro sz
  refine Met.ofW (cc := cc) (maxL := maxL) (ret := some .int) hy hw ?_
  intro p e s m args below meth c s₁ B hml hv
  obtain ⟨rfl, hsz, hP, hK, hD0, hE⟩ := hv
  subst hsz
  have hD := hD0.self (sz := s.heap.size)
  have hA : ∀ q : Nat, s.heap.size ≤ q → va_A w s.heap.size q := fun q h => Or.inr h
  have hl := lv_entry av (n := maxL) hle
  rw [lg_entry_eq]
  refine body p e s m below meth c _ (va_A w s.heap.size) ⟨⟨B.exec, B.bytes, hml, findClass_of_methodNamed B.named, atoms_spec (ws := ws) B.pre⟩, hK, hA, hE⟩ ?_ _ hl ⟨hP, hD, va_S.rf⟩
  intro pc ls H locs v hv hd hh
  subst hv
  obtain ⟨h1, h2, h3⟩ := hh
  exact W.iret (v := v) B.exec B.bytes B.returns (fun t ht hW => ⟨rfl, ⟨by rw [ht]; exact h1, va_K.moved hW.alike hK, h2⟩, h3.F ht⟩) h3.2.2 hd (hlocks := B.notSynchronized)
theorem zC_z (ty : FieldType) (r : Int32) (hy : plainName y.cls = true) (hw : ws = Cond.code y cc maxL (some ty) :: ws') (hle : (lg_sl av).length ≤ maxL) (hc : rm.cells = 0) (hs : rm.slots = 0)
    (body : ∀ (p : Program) (e : Env) (s : State) (m : MethodId) (below : List Frame) (meth : Method) (c : Code) (Q : State → Prop) (A : Nat → Prop), zX p m c cc maxL s av.toArray ws y.cls K A →
      (∀ (pc : Nat) (ls : Array Slot) (H : Heap) (locs : List Loc) (v : Int32), v = r → narrow ty (.int v) = .int v → decode cc pc = .ok (.ireturn, 1) → zW K A s H locs w' → W p l e rm s m av.toArray below meth c H locs 0 0 Q (F0 m pc ls [.int v])) →
      ∀ ls, lv_has ls maxL (lv_args 0 av) → zW K A s s.heap [] w → W p l e rm s m av.toArray below meth c s.heap [] 0 0 Q (F0 m 0 ls [])) :
    zC l y ws rm K av w (some (.int r)) w' := by
  intro sz
  refine Met.ofW (cc := cc) (maxL := maxL) (ret := some ty) hy hw ?_
  intro p e s m args below meth c s₁ B hml hv
  obtain ⟨rfl, hsz, hP, hK, hD0, hE⟩ := hv
  subst hsz
  have hD := hD0.self (sz := s.heap.size)
  have hA : ∀ q : Nat, s.heap.size ≤ q → va_A w s.heap.size q := fun q h => Or.inr h
  have hl := lv_entry av (n := maxL) hle
  rw [lg_entry_eq]
  refine body p e s m below meth c _ (va_A w s.heap.size) ⟨⟨B.exec, B.bytes, hml, findClass_of_methodNamed B.named, atoms_spec (ws := ws) B.pre⟩, hK, hA, hE⟩ ?_ _ hl ⟨hP, hD, va_S.rf⟩
  intro pc ls H locs v hv hn hd hh
  subst hv
  obtain ⟨h1, h2, h3⟩ := hh
  exact W.zret (v := v) B.exec B.bytes B.returns hn (fun t ht hW => ⟨rfl, ⟨by rw [ht]; exact h1, va_K.moved hW.alike hK, h2⟩, h3.F ht⟩) h3.2.2 hd (hlocks := B.notSynchronized)
theorem zC_l (r : Int64) (hy : plainName y.cls = true) (hw : ws = Cond.code y cc maxL (some .long) :: ws') (hle : (lg_sl av).length ≤ maxL) (hc : rm.cells = 0) (hs : rm.slots = 0)
    (body : ∀ (p : Program) (e : Env) (s : State) (m : MethodId) (below : List Frame) (meth : Method) (c : Code) (Q : State → Prop) (A : Nat → Prop), zX p m c cc maxL s av.toArray ws y.cls K A →
      (∀ (pc : Nat) (ls : Array Slot) (H : Heap) (locs : List Loc) (v : Int64), v = r → decode cc pc = .ok (.lreturn, 1) → zW K A s H locs w' → W p l e rm s m av.toArray below meth c H locs 0 0 Q (F0 m pc ls [.long v])) →
      ∀ ls, lv_has ls maxL (lv_args 0 av) → zW K A s s.heap [] w → W p l e rm s m av.toArray below meth c s.heap [] 0 0 Q (F0 m 0 ls [])) :
    zC l y ws rm K av w (some (.long r)) w' := by
  intro sz
  refine Met.ofW (cc := cc) (maxL := maxL) (ret := some .long) hy hw ?_
  intro p e s m args below meth c s₁ B hml hv
  obtain ⟨rfl, hsz, hP, hK, hD0, hE⟩ := hv
  subst hsz
  have hD := hD0.self (sz := s.heap.size)
  have hA : ∀ q : Nat, s.heap.size ≤ q → va_A w s.heap.size q := fun q h => Or.inr h
  have hl := lv_entry av (n := maxL) hle
  rw [lg_entry_eq]
  refine body p e s m below meth c _ (va_A w s.heap.size) ⟨⟨B.exec, B.bytes, hml, findClass_of_methodNamed B.named, atoms_spec (ws := ws) B.pre⟩, hK, hA, hE⟩ ?_ _ hl ⟨hP, hD, va_S.rf⟩
  intro pc ls H locs v hv hd hh
  subst hv
  obtain ⟨h1, h2, h3⟩ := hh
  exact W.lret (v := v) B.exec B.bytes B.returns (fun t ht hW => ⟨rfl, ⟨by rw [ht]; exact h1, va_K.moved hW.alike hK, h2⟩, h3.F ht⟩) h3.2.2 hd (hlocks := B.notSynchronized)
theorem zC_v (hy : plainName y.cls = true) (hw : ws = Cond.code y cc maxL none :: ws') (hle : (lg_sl av).length ≤ maxL) (hc : rm.cells = 0) (hs : rm.slots = 0)
    (body : ∀ (p : Program) (e : Env) (s : State) (m : MethodId) (below : List Frame) (meth : Method) (c : Code) (Q : State → Prop) (A : Nat → Prop), zX p m c cc maxL s av.toArray ws y.cls K A →
      (∀ (pc : Nat) (ls : Array Slot) (H : Heap) (locs : List Loc), decode cc pc = .ok (.return_, 1) → zW K A s H locs w' → W p l e rm s m av.toArray below meth c H locs 0 0 Q (F0 m pc ls [])) →
      ∀ ls, lv_has ls maxL (lv_args 0 av) → zW K A s s.heap [] w → W p l e rm s m av.toArray below meth c s.heap [] 0 0 Q (F0 m 0 ls [])) :
    zC l y ws rm K av w none w' := by
  intro sz
  refine Met.ofW (cc := cc) (maxL := maxL) (ret := none) hy hw ?_
  intro p e s m args below meth c s₁ B hml hv
  obtain ⟨rfl, hsz, hP, hK, hD0, hE⟩ := hv
  subst hsz
  have hD := hD0.self (sz := s.heap.size)
  have hA : ∀ q : Nat, s.heap.size ≤ q → va_A w s.heap.size q := fun q h => Or.inr h
  have hl := lv_entry av (n := maxL) hle
  rw [lg_entry_eq]
  refine body p e s m below meth c _ (va_A w s.heap.size) ⟨⟨B.exec, B.bytes, hml, findClass_of_methodNamed B.named, atoms_spec (ws := ws) B.pre⟩, hK, hA, hE⟩ ?_ _ hl ⟨hP, hD, va_S.rf⟩
  intro pc ls H locs hd hh
  obtain ⟨h1, h2, h3⟩ := hh
  exact W.vret B.exec B.bytes B.returns (fun t ht hW => ⟨rfl, ⟨by rw [ht]; exact h1, va_K.moved hW.alike hK, h2⟩, h3.F ht⟩) h3.2.2 hd (hlocks := B.notSynchronized)
end ZS
/-- the cells at these places -/
def zsel (ws : va_W) (is : List Nat) : va_W := is.filterMap (fun i => ws[i]?)
section ZC
variable {p : Program} {l : Launch} {e : Env} {R : Room} {s : State} {m : MethodId} {args : Array Value} {below : List Frame} {meth : Method} {c : Code} {H : Heap} {locs : List Loc} {cells slots : Nat} {Q : State → Prop}
variable {cc : ByteArray} {nL : Nat} {Ts : List Cond} {own : String} {K : zK} {A : Nat → Prop} {wc wc' wr ws ws' : va_W}
/-- behind a call: the answer on the stack, the world put together again -/
theorem zJoin {pc : Nat} {ls : Array Slot} {st0 rest : List Value} {ov : Option Value} {a : Array Value} (X : zX p m c cc nL s args Ts own K A) (hh : zW K A s H locs ws) (isC isR pm : List Nat) (hC : isC.map (fun i => ws[i]?) = wc.map some) (hR : isR.map (fun i => ws[i]?) = wr.map some) (hn : va_nd isR = true) (hdis : ∀ i ∈ isR, i ∉ isC) (hpm : va_nd pm = true) (hnew : pm.map (fun i => (wr ++ wc')[i]?) = ws'.map some)
    (hr : va_Run p l e R s m args below meth c H locs cells slots 0 0 (F0 m pc ls st0) rest (zQ K (va_A wc H.size) ov wc' a) (va_A wc H.size))
    (kk : ∀ (H1 : Heap) (locs1 : List Loc), zW K A s H1 locs1 ws' → W p l e R s m args below meth c H1 locs1 cells slots Q (F0 m (pc + 3) ls (ov.toList ++ rest))) : W p l e R s m args below meth c H locs cells slots Q (F0 m pc ls st0) := by
  intro T hT Xs
  obtain ⟨hP, hD, hS⟩ := hh
  have hF := va_free hD hS X.2.2.1 isC hC
  obtain ⟨v, st₀, t, T', L, h0, X', hL, e1, e2, ⟨hv, ⟨qP, qK, qD⟩, hz, hk⟩, st⟩ := hr T hT Xs
  cases hv
  rw [h0] at hz hk
  have hP1 := qP
  obtain ⟨jP, jD⟩ := va_join hP hD isC isR hC hR hn hdis hk hF hP1 qD
  have hS' : va_S A s.heap t.heap (locs ++ L) := ⟨Nat.le_trans hS.1 hz, fun q h1 h2 => by
    rw [hk q (Nat.lt_of_lt_of_le h1 hS.1) (fun z => h2 (hF q z))]
    exact hS.2.1 q h1 h2, fun q hq => by
      rcases List.mem_append.mp hq with h | h
      · exact hS.2.2 q h
      · exact hF _ (hL q h)⟩
  have hh' : zW K A s T'.heap (locs ++ L) ws' := by
    rw [e1]
    exact ⟨jP.sub pm (zfm pm ws' hnew), jD.sub pm hpm hnew, hS'⟩
  obtain ⟨t2, a1, b1⟩ := kk T'.heap (locs ++ L) hh' T' rfl X'
  exact ⟨t2, st t2 a1, b1⟩
theorem zPre {av : List Value} (X : zX p m c cc nL s args Ts own K A) (hh : zW K A s H locs ws) (isC : List Nat) (hC : isC.map (fun i => ws[i]?) = wc.map some) (hnC : va_nd isC = true) : ∀ U : State, U.heap = H → s.WarmedH U.vm → zPc K av wc H.size av.toArray U := by
  intro U hU hW
  have hs : isC.filterMap (fun i => ws[i]?) = wc := zfm isC wc hC
  have hF := va_free hh.2.1 hh.2.2 X.2.2.1 isC hC
  refine ⟨rfl, by rw [hU], by rw [hU]; exact hh.1.sub isC hs, va_K.moved hW.alike X.2.1, (hh.2.1.sub isC hnC hC).weaken (fun _ _ _ _ => trivial), by rw [hU]; exact (X.2.2.2.kept hh.2.2.2.1).narrow hF |>.warm hW⟩
/-- invokevirtual -/
theorem zcallV {ci q0 : Nat} {qc : vw_C} {fs : List Value} {y : MethodName} {bytes : ByteArray} {maxL n index pc : Nat} {ret : Option FieldType} {wl : List Cond} {rm : Room} {b : Nat} {As rest : List Value} {ls : Array Slot} {st0 : List Value} {ov : Option Value} {lv : List (Nat × Value)}
    (X : zX p m c cc nL s args Ts own K A) (hh : zW K A s H locs ws) (hl : lv_has ls nL lv) (hM : zC l y wl rm K (.ref b :: As) wc ov wc') (cw : ∀ ht : ∀ w ∈ Ts, w.before args s = true, CallW R s args own qc.1 index y bytes maxL ret wl rm 0 0 n)
    (isC isR pm : List Nat) (hC : isC.map (fun i => ws[i]?) = wc.map some) (hR : isR.map (fun i => ws[i]?) = wr.map some) (hnC : va_nd isC = true) (hn : va_nd isR = true) (hdis : ∀ i ∈ isR, i ∉ isC) (hpm : va_nd pm = true) (hnew : pm.map (fun i => (wr ++ wc')[i]?) = ws'.map some)
    (hc : vwCl[ci]? = some qc) (he : ws[q0]? = some (b, .inr (ci, fs)))
    (hlen : As.length = n) (hstack : st0 = As.reverse ++ .ref b :: rest) (hroom : (rest.map fun v => v.category).sum ≤ 8) (hdg : decode cc pc = .ok (.invokevirtual index, 3)) (hf : cells ≤ R.cells ∧ slots ≤ R.slots)
    (kk : ∀ (H1 : Heap) (locs1 : List Loc), zW K A s H1 locs1 ws' → W p l e R s m args below meth c H1 locs1 cells slots Q (F0 m (pc + 3) ls (ov.toList ++ rest))) : W p l e R s m args below meth c H locs cells slots Q (F0 m pc ls st0) :=
  zJoin X hh isC isR pm hC hR hn hdis hpm hnew (va_runV X.1 (hM H.size) (cw X.1.2.2.2.2) ⟨zPc_blind _ _ _ _, va_recv X.2.1 hh.1 hc he, zPre X hh isC hC hnC⟩ rfl hlen hl.1 hstack (lv_room hroom) hdg hf) kk
/-- invokestatic -/
theorem zcallS {y : MethodName} {bytes : ByteArray} {maxL n index pc : Nat} {ret : Option FieldType} {wl : List Cond} {rm : Room} {As rest : List Value} {ls : Array Slot} {st0 : List Value} {ov : Option Value} {lv : List (Nat × Value)}
    (X : zX p m c cc nL s args Ts own K A) (hh : zW K A s H locs ws) (hl : lv_has ls nL lv) (hM : zC l y wl rm K As wc ov wc') (cw : ∀ ht : ∀ w ∈ Ts, w.before args s = true, CallB R s args own index y bytes maxL ret wl rm 0 0 n ∧ (Cond.static y).before args s = true)
    (isC isR pm : List Nat) (hC : isC.map (fun i => ws[i]?) = wc.map some) (hR : isR.map (fun i => ws[i]?) = wr.map some) (hnC : va_nd isC = true) (hn : va_nd isR = true) (hdis : ∀ i ∈ isR, i ∉ isC) (hpm : va_nd pm = true) (hnew : pm.map (fun i => (wr ++ wc')[i]?) = ws'.map some)
    (hlen : As.length = n) (hstack : st0 = As.reverse ++ rest) (hroom : (rest.map fun v => v.category).sum ≤ 8) (hdg : decode cc pc = .ok (.invokestatic index, 3)) (hf : cells ≤ R.cells ∧ slots ≤ R.slots)
    (kk : ∀ (H1 : Heap) (locs1 : List Loc), zW K A s H1 locs1 ws' → W p l e R s m args below meth c H1 locs1 cells slots Q (F0 m (pc + 3) ls (ov.toList ++ rest))) : W p l e R s m args below meth c H locs cells slots Q (F0 m pc ls st0) :=
  zJoin X hh isC isR pm hC hR hn hdis hpm hnew (va_runS X.1 (hM H.size) (cw X.1.2.2.2.2) ⟨zPc_blind _ _ _ _, zPre X hh isC hC hnC⟩ rfl hlen hl.1 hstack (lv_room hroom) hdg hf) kk
/-- invokevirtual of an inherited method -/
theorem zcallU {ci q0 : Nat} {qc : vw_C} {fs : List Value} {owner : String} {x y : MethodName} {bytes : ByteArray} {maxL n index pc : Nat} {ret : Option FieldType} {wl : List Cond} {rm : Room} {b : Nat} {As rest : List Value} {ls : Array Slot} {st0 : List Value} {ov : Option Value} {lv : List (Nat × Value)}
    (X : zX p m c cc nL s args Ts own K A) (hh : zW K A s H locs ws) (hl : lv_has ls nL lv) (hM : zC l y wl rm K (.ref b :: As) wc ov wc') (cw : ∀ ht : ∀ w ∈ Ts, w.before args s = true, va_CU R s args own qc.1 owner index x y bytes maxL ret wl rm 0 0 n)
    (isC isR pm : List Nat) (hC : isC.map (fun i => ws[i]?) = wc.map some) (hR : isR.map (fun i => ws[i]?) = wr.map some) (hnC : va_nd isC = true) (hn : va_nd isR = true) (hdis : ∀ i ∈ isR, i ∉ isC) (hpm : va_nd pm = true) (hnew : pm.map (fun i => (wr ++ wc')[i]?) = ws'.map some)
    (hc : vwCl[ci]? = some qc) (he : ws[q0]? = some (b, .inr (ci, fs)))
    (hlen : As.length = n) (hstack : st0 = As.reverse ++ .ref b :: rest) (hroom : (rest.map fun v => v.category).sum ≤ 8) (hdg : decode cc pc = .ok (.invokevirtual index, 3)) (hf : cells ≤ R.cells ∧ slots ≤ R.slots)
    (kk : ∀ (H1 : Heap) (locs1 : List Loc), zW K A s H1 locs1 ws' → W p l e R s m args below meth c H1 locs1 cells slots Q (F0 m (pc + 3) ls (ov.toList ++ rest))) : W p l e R s m args below meth c H locs cells slots Q (F0 m pc ls st0) :=
  zJoin X hh isC isR pm hC hR hn hdis hpm hnew (va_runU X.1 (hM H.size) (cw X.1.2.2.2.2) ⟨zPc_blind _ _ _ _, va_recv X.2.1 hh.1 hc he, zPre X hh isC hC hnC⟩ rfl hlen hl.1 hstack (lv_room hroom) hdg hf) kk
variable {pc : Nat} {ls : Array Slot} {rest : List Value} {a : Nat}
/-- getfield -/
theorem zget (X : zX p m c cc nL s args Ts own K A) (hh : zW K A s H locs ws) {ref C : String} {T : u_T} {N ci index : Nat} (hin : ∀ w ∈ u_ws C T N, w ∈ Ts) (q0 : Nat) {fs : List Value} (he : ws[q0]? = some (a, .inr (ci, fs))) (hc : vwCl[ci]? = some (C, T, N)) (k : Nat) (hk : k < N) (hlink : Cond.fieldLink own index ref (T k).2.1 (T k).2.2.1 ∈ Ts) (hsame : (T k).1 = ref) {v : Value} (hv : fs[k]? = some v) (hdg : decode cc pc = .ok (.getfield index, 3))
    (kk : W p l e R s m args below meth c H locs cells slots Q (F0 m (pc + 3) ls (v :: rest))) : W p l e R s m args below meth c H locs cells slots Q (F0 m pc ls (.ref a :: rest)) :=
  va_get X.1.1 X.1.2.1 X.1.2.2.2.2 hin X.1.2.2.2.1 X.2.1 hh.1 q0 he hc k hk (X.1.2.2.2.2 _ hlink) (by rw [hsame]; exact fun _ h => h) hv hdg kk
/-- putfield of a field that isn't final -/
theorem zput (X : zX p m c cc nL s args Ts own K A) (hh : zW K A s H locs ws) {ref C : String} {T : u_T} {N ci index : Nat} (hin : ∀ w ∈ u_ws C T N, w ∈ Ts) (ty0 : Nat → FieldType) (hty : ∀ k, k < N → parseFieldDescriptor (T k).2.2.1 = some (ty0 k)) (hnm : ∀ a, a < N → ∀ b, b < N → a ≠ b → (T a).2.1 ≠ (T b).2.1) (q0 : Nat) {fs : List Value} (he : ws[q0]? = some (a, .inr (ci, fs))) (hc : vwCl[ci]? = some (C, T, N)) (k : Nat) (hk : k < N) (hlink : Cond.fieldLink own index ref (T k).2.1 (T k).2.2.1 ∈ Ts) (hsame : (T k).1 = ref) (hfin : (T k).2.2.2 = false) {ty : FieldType} {v : Value} (hd : parseFieldDescriptor (T k).2.2.1 = some ty) (hn : narrow ty v = v) (hfit : fits ty v = true) (hl : k < fs.length) (hdg : decode cc pc = .ok (.putfield index, 3))
    (kk : ∀ (H1 : Heap) (locs1 : List Loc), zW K A s H1 locs1 (ws.set q0 (a, .inr (ci, fs.set k v))) → W p l e R s m args below meth c H1 locs1 cells slots Q (F0 m (pc + 3) ls rest)) : W p l e R s m args below meth c H locs cells slots Q (F0 m pc ls (v :: .ref a :: rest)) :=
  va_put X.1.1 X.1.2.1 X.1.2.2.2.2 hin ty0 hty hnm X.1.2.2.2.1 X.2.1 hh.1 hh.2.1 hh.2.2 q0 he hc k hk (X.1.2.2.2.2 _ hlink) (by rw [hsame]; exact fun _ h => h) hfin hd hn hfit hl hdg (fun H1 locs1 h1 h2 h3 => kk H1 locs1 ⟨h1, h2, h3⟩)
theorem ziald (X : zX p m c cc nL s args Ts own K A) (hh : zW K A s H locs ws) (q0 : Nat) {n : Nat} {f : Nat → Int32} (ha : ws[q0]? = some (a, .inl (K.2.1.1, n, .inl f))) {i : Int32} (hin : ¬ (i < 0 ∨ n ≤ i.toNatClampNeg)) (hdg : decode cc pc = .ok (.iaload, 1))
    (kk : W p l e R s m args below meth c H locs cells slots Q (F0 m (pc + 1) ls (.int (f i.toNatClampNeg) :: rest))) : W p l e R s m args below meth c H locs cells slots Q (F0 m pc ls (.int i :: .ref a :: rest)) :=
  va_iald X.1.1 X.1.2.1 X.2.1 hh.1 q0 0 ha rfl hin hdg kk
theorem zzald (X : zX p m c cc nL s args Ts own K A) (hh : zW K A s H locs ws) (q0 : Nat) {n : Nat} {f : Nat → Int32} (ha : ws[q0]? = some (a, .inl (K.2.1.2, n, .inl f))) {i : Int32} (hin : ¬ (i < 0 ∨ n ≤ i.toNatClampNeg)) (hdg : decode cc pc = .ok (.baload, 1))
    (kk : W p l e R s m args below meth c H locs cells slots Q (F0 m (pc + 1) ls (.int (f i.toNatClampNeg) :: rest))) : W p l e R s m args below meth c H locs cells slots Q (F0 m pc ls (.int i :: .ref a :: rest)) :=
  va_zald X.1.1 X.1.2.1 X.2.1 hh.1 q0 1 ha rfl hin hdg kk
theorem ziast (X : zX p m c cc nL s args Ts own K A) (hh : zW K A s H locs ws) (q0 : Nat) {n : Nat} {f : Nat → Int32} (ha : ws[q0]? = some (a, .inl (K.2.1.1, n, .inl f))) {i x : Int32} (hin : ¬ (i < 0 ∨ n ≤ i.toNatClampNeg)) (hdg : decode cc pc = .ok (.iastore, 1))
    (kk : ∀ (H1 : Heap) (locs1 : List Loc), zW K A s H1 locs1 (ws.set q0 (a, .inl (K.2.1.1, n, .inl (upd f i.toNatClampNeg x)))) → W p l e R s m args below meth c H1 locs1 cells slots Q (F0 m (pc + 1) ls rest)) : W p l e R s m args below meth c H locs cells slots Q (F0 m pc ls (.int x :: .int i :: .ref a :: rest)) :=
  va_iast X.1.1 X.1.2.1 X.2.1 hh.1 hh.2.1 hh.2.2 q0 0 ha rfl hin hdg (fun H1 locs1 h1 h2 h3 => kk H1 locs1 ⟨h1, h2, h3⟩)
theorem zzast (X : zX p m c cc nL s args Ts own K A) (hh : zW K A s H locs ws) (q0 : Nat) {n : Nat} {f : Nat → Int32} (ha : ws[q0]? = some (a, .inl (K.2.1.2, n, .inl f))) {i x : Int32} (hin : ¬ (i < 0 ∨ n ≤ i.toNatClampNeg)) (hdg : decode cc pc = .ok (.bastore, 1))
    (kk : ∀ (H1 : Heap) (locs1 : List Loc), zW K A s H1 locs1 (ws.set q0 (a, .inl (K.2.1.2, n, .inl (upd f i.toNatClampNeg (vp_nar .boolean x))))) → W p l e R s m args below meth c H1 locs1 cells slots Q (F0 m (pc + 1) ls rest)) : W p l e R s m args below meth c H locs cells slots Q (F0 m pc ls (.int x :: .int i :: .ref a :: rest)) :=
  va_zast X.1.1 X.1.2.1 X.2.1 hh.1 hh.2.1 hh.2.2 q0 1 ha rfl hin hdg (fun H1 locs1 h1 h2 h3 => kk H1 locs1 ⟨h1, h2, h3⟩)
theorem zalenI (X : zX p m c cc nL s args Ts own K A) (hh : zW K A s H locs ws) (q0 : Nat) {x : vp_A} (ha : ws[q0]? = some (a, .inl (K.2.1.1, x))) {v : Int32} (hv : Int32.ofNat x.1 = v) (hdg : decode cc pc = .ok (.arraylength, 1))
    (kk : W p l e R s m args below meth c H locs cells slots Q (F0 m (pc + 1) ls (.int v :: rest))) : W p l e R s m args below meth c H locs cells slots Q (F0 m pc ls (.ref a :: rest)) :=
  va_alen X.1.1 X.1.2.1 X.2.1 hh.1 q0 0 ha rfl hv hdg kk
theorem zalenZ (X : zX p m c cc nL s args Ts own K A) (hh : zW K A s H locs ws) (q0 : Nat) {x : vp_A} (ha : ws[q0]? = some (a, .inl (K.2.1.2, x))) {v : Int32} (hv : Int32.ofNat x.1 = v) (hdg : decode cc pc = .ok (.arraylength, 1))
    (kk : W p l e R s m args below meth c H locs cells slots Q (F0 m (pc + 1) ls (.int v :: rest))) : W p l e R s m args below meth c H locs cells slots Q (F0 m pc ls (.ref a :: rest)) :=
  va_alen X.1.1 X.1.2.1 X.2.1 hh.1 q0 1 ha rfl hv hdg kk
end ZC
/-! reading a mirrored function backwards -/
theorem ob_bind {α β : Type} {o : Option α} {f : α → Option β} {r : β} (h : o.bind f = some r) : ∃ u, o = some u ∧ f u = some r := by
  cases o with
  | none => cases h
  | some u => exact ⟨u, rfl, h⟩
theorem ob_gd {α : Type} {c : Prop} [Decidable c] {b : Option α} {r : α} (h : (if c then none else b) = some r) : ¬ c ∧ b = some r := by
  by_cases hc : c
  · rw [if_pos hc] at h; cases h
  · rw [if_neg hc] at h; exact ⟨hc, h⟩
theorem ob_ck {α : Type} {c : Prop} [Decidable c] {b : Option α} {r : α} (h : (if c then b else none) = some r) : c ∧ b = some r := by
  by_cases hc : c
  · rw [if_pos hc] at h; exact ⟨hc, h⟩
  · rw [if_neg hc] at h; cases h
/-- the index i of an array of n places -/
def ix {α : Type} (n : Nat) (i : Int32) (k : Option α) : Option α := if i < 0 ∨ n ≤ i.toNatClampNeg then none else k
theorem ob_ix {α : Type} {n : Nat} {i : Int32} {k : Option α} {r : α} (h : ix n i k = some r) : ¬ (i < 0 ∨ n ≤ i.toNatClampNeg) ∧ k = some r := ob_gd h
theorem nar_ok {v : Int32} (h : v &&& 1 = v) : narrow .boolean (.int v) = .int v := by
  show Value.int (v &&& 1) = .int v
  rw [h]
theorem fit_ok {v : Int32} (h : v &&& 1 = v) : fits .boolean (.int v) = true := by
  show (v == 0 || v == 1) = true
  have h2 : v.toBitVec &&& 1#32 = v.toBitVec := congrArg Int32.toBitVec h
  have h3 : v.toBitVec = 0#32 ∨ v.toBitVec = 1#32 := by
    generalize v.toBitVec = x at h2
    rw [← h2]
    by_cases hb : x.getLsbD 0
    · right
      ext i
      simp [BitVec.getElem_one]
      rcases Nat.eq_zero_or_pos i with hi | hi
      · subst hi; simpa using hb
      · simp [Nat.ne_of_gt hi]
    · left
      ext i
      simp [BitVec.getElem_one]
      intro hx hi
      subst hi
      exact hb (by simpa using hx)
  rcases h3 with h3 | h3
  · have : v = 0 := Int32.toBitVec_inj.mp h3
    subst this; rfl
  · have : v = 1 := Int32.toBitVec_inj.mp h3
    subst this; rfl
/-- fuel of a mirrored loop -/
def FU : Nat := 1000000
end
section
/-! states: what a class holds, and its cells (by program) -/
def cA12 (K : zK) (a0 : Nat) (S : Nat → Int32) : va_W := [(a0, .inl (K.2.1.1, 12, .inl S))]
abbrev zCh : Type := (Nat → Int32)
def ch_numbers (S : zCh) : Nat → Int32 := S
def ch_set_numbers (S : zCh) (x : Nat → Int32) : zCh := (x)
def cCh (K : zK) (a0 a1 : Nat) (S : zCh) : va_W := [(a0, .inr (0, [.ref a1])), (a1, .inl (K.2.1.1, 12, .inl (ch_numbers S)))]
abbrev zGm : Type := (Nat → Int32)
def gm_wins (S : zGm) : Nat → Int32 := S
def gm_set_wins (S : zGm) (x : Nat → Int32) : zGm := (x)
def cGm (K : zK) (a0 a1 : Nat) (S : zGm) : va_W := [(a0, .inr (1, [.ref a1])), (a1, .inl (K.2.1.2, 1024, .inl (gm_wins S)))]
abbrev zLt : Type := (Nat → Int32) × (Int32) × (Nat → Int32) × (Int32) × (Int32) × (Int32) × (Int32)
def lt_all (S : zLt) : Nat → Int32 := S.1
def lt_length (S : zLt) : Int32 := S.2.1
def lt_figures (S : zLt) : Nat → Int32 := S.2.2.1
def lt_at (S : zLt) : Int32 := S.2.2.2.1
def lt_verb (S : zLt) : Int32 := S.2.2.2.2.1
def lt_figureCount (S : zLt) : Int32 := S.2.2.2.2.2.1
def lt_statements (S : zLt) : Int32 := S.2.2.2.2.2.2
def lt_set_all (S : zLt) (x : Nat → Int32) : zLt := (x, S.2)
def lt_set_length (S : zLt) (x : Int32) : zLt := (S.1, x, S.2.2)
def lt_set_figures (S : zLt) (x : Nat → Int32) : zLt := (S.1, S.2.1, x, S.2.2.2)
def lt_set_at (S : zLt) (x : Int32) : zLt := (S.1, S.2.1, S.2.2.1, x, S.2.2.2.2)
def lt_set_verb (S : zLt) (x : Int32) : zLt := (S.1, S.2.1, S.2.2.1, S.2.2.2.1, x, S.2.2.2.2.2)
def lt_set_figureCount (S : zLt) (x : Int32) : zLt := (S.1, S.2.1, S.2.2.1, S.2.2.2.1, S.2.2.2.2.1, x, S.2.2.2.2.2.2)
def lt_set_statements (S : zLt) (x : Int32) : zLt := (S.1, S.2.1, S.2.2.1, S.2.2.2.1, S.2.2.2.2.1, S.2.2.2.2.2.1, x)
def cLt (K : zK) (a0 a1 a2 : Nat) (S : zLt) : va_W := [(a0, .inr (2, [.ref a1, .int (lt_length S), .ref a2, .int (lt_at S), .int (lt_verb S), .int (lt_figureCount S), .int (lt_statements S)])), (a1, .inl (K.2.1.1, 64, .inl (lt_all S))), (a2, .inl (K.2.1.1, 4, .inl (lt_figures S)))]
abbrev zOr : Type := (Nat → Int32)
def or_ways (S : zOr) : Nat → Int32 := S
def or_set_ways (S : zOr) (x : Nat → Int32) : zOr := (x)
def cOr (K : zK) (a0 a1 : Nat) (S : zOr) : va_W := [(a0, .inr (3, [.ref a1])), (a1, .inl (K.2.1.1, 4096, .inl (or_ways S)))]
abbrev zRw : Type := (Nat → Int32) × (Int32)
def rw_all (S : zRw) : Nat → Int32 := S.1
def rw_length (S : zRw) : Int32 := S.2
def rw_set_all (S : zRw) (x : Nat → Int32) : zRw := (x, S.2)
def rw_set_length (S : zRw) (x : Int32) : zRw := (S.1, x)
def cRw (K : zK) (a0 a1 : Nat) (S : zRw) : va_W := [(a0, .inr (4, [.ref a1, .int (rw_length S)])), (a1, .inl (K.2.1.1, 12, .inl (rw_all S)))]
abbrev zSt : Type := (Nat → Int32) × (Nat → Int32) × (Nat → Int32) × (Nat → Int32) × (Nat → Int32) × (Nat → Int32) × (Nat → Int32) × (Int32) × (Int32) × (Int32) × (Int32)
def st_kinds (S : zSt) : Nat → Int32 := S.1
def st_figures (S : zSt) : Nat → Int32 := S.2.1
def st_numbers (S : zSt) : Nat → Int32 := S.2.2.1
def st_firsts (S : zSt) : Nat → Int32 := S.2.2.2.1
def st_seconds (S : zSt) : Nat → Int32 := S.2.2.2.2.1
def st_uses (S : zSt) : Nat → Int32 := S.2.2.2.2.2.1
def st_earned (S : zSt) : Nat → Int32 := S.2.2.2.2.2.2.1
def st_came (S : zSt) : Int32 := S.2.2.2.2.2.2.2.1
def st_standing (S : zSt) : Int32 := S.2.2.2.2.2.2.2.2.1
def st_sums (S : zSt) : Int32 := S.2.2.2.2.2.2.2.2.2.1
def st_falls (S : zSt) : Int32 := S.2.2.2.2.2.2.2.2.2.2
def st_set_kinds (S : zSt) (x : Nat → Int32) : zSt := (x, S.2)
def st_set_figures (S : zSt) (x : Nat → Int32) : zSt := (S.1, x, S.2.2)
def st_set_numbers (S : zSt) (x : Nat → Int32) : zSt := (S.1, S.2.1, x, S.2.2.2)
def st_set_firsts (S : zSt) (x : Nat → Int32) : zSt := (S.1, S.2.1, S.2.2.1, x, S.2.2.2.2)
def st_set_seconds (S : zSt) (x : Nat → Int32) : zSt := (S.1, S.2.1, S.2.2.1, S.2.2.2.1, x, S.2.2.2.2.2)
def st_set_uses (S : zSt) (x : Nat → Int32) : zSt := (S.1, S.2.1, S.2.2.1, S.2.2.2.1, S.2.2.2.2.1, x, S.2.2.2.2.2.2)
def st_set_earned (S : zSt) (x : Nat → Int32) : zSt := (S.1, S.2.1, S.2.2.1, S.2.2.2.1, S.2.2.2.2.1, S.2.2.2.2.2.1, x, S.2.2.2.2.2.2.2)
def st_set_came (S : zSt) (x : Int32) : zSt := (S.1, S.2.1, S.2.2.1, S.2.2.2.1, S.2.2.2.2.1, S.2.2.2.2.2.1, S.2.2.2.2.2.2.1, x, S.2.2.2.2.2.2.2.2)
def st_set_standing (S : zSt) (x : Int32) : zSt := (S.1, S.2.1, S.2.2.1, S.2.2.2.1, S.2.2.2.2.1, S.2.2.2.2.2.1, S.2.2.2.2.2.2.1, S.2.2.2.2.2.2.2.1, x, S.2.2.2.2.2.2.2.2.2)
def st_set_sums (S : zSt) (x : Int32) : zSt := (S.1, S.2.1, S.2.2.1, S.2.2.2.1, S.2.2.2.2.1, S.2.2.2.2.2.1, S.2.2.2.2.2.2.1, S.2.2.2.2.2.2.2.1, S.2.2.2.2.2.2.2.2.1, x, S.2.2.2.2.2.2.2.2.2.2)
def st_set_falls (S : zSt) (x : Int32) : zSt := (S.1, S.2.1, S.2.2.1, S.2.2.2.1, S.2.2.2.2.1, S.2.2.2.2.2.1, S.2.2.2.2.2.2.1, S.2.2.2.2.2.2.2.1, S.2.2.2.2.2.2.2.2.1, S.2.2.2.2.2.2.2.2.2.1, x)
def cSt (K : zK) (a0 a1 a2 a3 a4 a5 a6 a7 : Nat) (S : zSt) : va_W := [(a0, .inr (5, [.ref a1, .ref a2, .ref a3, .ref a4, .ref a5, .ref a6, .ref a7, .int (st_came S), .int (st_standing S), .int (st_sums S), .int (st_falls S)])), (a1, .inl (K.2.1.1, 12, .inl (st_kinds S))), (a2, .inl (K.2.1.1, 12, .inl (st_figures S))), (a3, .inl (K.2.1.1, 12, .inl (st_numbers S))), (a4, .inl (K.2.1.1, 12, .inl (st_firsts S))), (a5, .inl (K.2.1.1, 12, .inl (st_seconds S))), (a6, .inl (K.2.1.1, 12, .inl (st_uses S))), (a7, .inl (K.2.1.1, 12, .inl (st_earned S)))]
abbrev zMn : Type := (zSt) × (zSt) × (zSt) × (zLt) × (zRw) × (zCh) × (zOr) × (zGm) × (Nat → Int32) × (Int32)
def mn_live (S : zMn) : zSt := S.1
def mn_kept (S : zMn) : zSt := S.2.1
def mn_mind (S : zMn) : zSt := S.2.2.1
def mn_letters (S : zMn) : zLt := S.2.2.2.1
def mn_told (S : zMn) : zRw := S.2.2.2.2.1
def mn_chains (S : zMn) : zCh := S.2.2.2.2.2.1
def mn_comings (S : zMn) : zOr := S.2.2.2.2.2.2.1
def mn_builders (S : zMn) : zGm := S.2.2.2.2.2.2.2.1
def mn_refusals (S : zMn) : Nat → Int32 := S.2.2.2.2.2.2.2.2.1
def mn_isKept (S : zMn) : Int32 := S.2.2.2.2.2.2.2.2.2
def mn_set_live (S : zMn) (x : zSt) : zMn := (x, S.2)
def mn_set_kept (S : zMn) (x : zSt) : zMn := (S.1, x, S.2.2)
def mn_set_mind (S : zMn) (x : zSt) : zMn := (S.1, S.2.1, x, S.2.2.2)
def mn_set_letters (S : zMn) (x : zLt) : zMn := (S.1, S.2.1, S.2.2.1, x, S.2.2.2.2)
def mn_set_told (S : zMn) (x : zRw) : zMn := (S.1, S.2.1, S.2.2.1, S.2.2.2.1, x, S.2.2.2.2.2)
def mn_set_chains (S : zMn) (x : zCh) : zMn := (S.1, S.2.1, S.2.2.1, S.2.2.2.1, S.2.2.2.2.1, x, S.2.2.2.2.2.2)
def mn_set_comings (S : zMn) (x : zOr) : zMn := (S.1, S.2.1, S.2.2.1, S.2.2.2.1, S.2.2.2.2.1, S.2.2.2.2.2.1, x, S.2.2.2.2.2.2.2)
def mn_set_builders (S : zMn) (x : zGm) : zMn := (S.1, S.2.1, S.2.2.1, S.2.2.2.1, S.2.2.2.2.1, S.2.2.2.2.2.1, S.2.2.2.2.2.2.1, x, S.2.2.2.2.2.2.2.2)
def mn_set_refusals (S : zMn) (x : Nat → Int32) : zMn := (S.1, S.2.1, S.2.2.1, S.2.2.2.1, S.2.2.2.2.1, S.2.2.2.2.2.1, S.2.2.2.2.2.2.1, S.2.2.2.2.2.2.2.1, x, S.2.2.2.2.2.2.2.2.2)
def mn_set_isKept (S : zMn) (x : Int32) : zMn := (S.1, S.2.1, S.2.2.1, S.2.2.2.1, S.2.2.2.2.1, S.2.2.2.2.2.1, S.2.2.2.2.2.2.1, S.2.2.2.2.2.2.2.1, S.2.2.2.2.2.2.2.2.1, x)
def cMn (K : zK) (a0 a1 a2 a3 a4 a5 a6 a7 a8 a9 a10 a11 a12 a13 a14 a15 a16 a17 a18 a19 a20 a21 a22 a23 a24 a25 a26 a27 a28 a29 a30 a31 a32 a33 a34 a35 a36 : Nat) (S : zMn) : va_W := [(a0, .inr (6, [.ref a1, .ref a9, .ref a17, .ref a25, .ref a28, .ref a30, .ref a32, .ref a34, .ref a36, .int (mn_isKept S)])), (a1, .inr (5, [.ref a2, .ref a3, .ref a4, .ref a5, .ref a6, .ref a7, .ref a8, .int (st_came (mn_live S)), .int (st_standing (mn_live S)), .int (st_sums (mn_live S)), .int (st_falls (mn_live S))])), (a2, .inl (K.2.1.1, 12, .inl (st_kinds (mn_live S)))), (a3, .inl (K.2.1.1, 12, .inl (st_figures (mn_live S)))), (a4, .inl (K.2.1.1, 12, .inl (st_numbers (mn_live S)))), (a5, .inl (K.2.1.1, 12, .inl (st_firsts (mn_live S)))), (a6, .inl (K.2.1.1, 12, .inl (st_seconds (mn_live S)))), (a7, .inl (K.2.1.1, 12, .inl (st_uses (mn_live S)))), (a8, .inl (K.2.1.1, 12, .inl (st_earned (mn_live S)))), (a9, .inr (5, [.ref a10, .ref a11, .ref a12, .ref a13, .ref a14, .ref a15, .ref a16, .int (st_came (mn_kept S)), .int (st_standing (mn_kept S)), .int (st_sums (mn_kept S)), .int (st_falls (mn_kept S))])), (a10, .inl (K.2.1.1, 12, .inl (st_kinds (mn_kept S)))), (a11, .inl (K.2.1.1, 12, .inl (st_figures (mn_kept S)))), (a12, .inl (K.2.1.1, 12, .inl (st_numbers (mn_kept S)))), (a13, .inl (K.2.1.1, 12, .inl (st_firsts (mn_kept S)))), (a14, .inl (K.2.1.1, 12, .inl (st_seconds (mn_kept S)))), (a15, .inl (K.2.1.1, 12, .inl (st_uses (mn_kept S)))), (a16, .inl (K.2.1.1, 12, .inl (st_earned (mn_kept S)))), (a17, .inr (5, [.ref a18, .ref a19, .ref a20, .ref a21, .ref a22, .ref a23, .ref a24, .int (st_came (mn_mind S)), .int (st_standing (mn_mind S)), .int (st_sums (mn_mind S)), .int (st_falls (mn_mind S))])), (a18, .inl (K.2.1.1, 12, .inl (st_kinds (mn_mind S)))), (a19, .inl (K.2.1.1, 12, .inl (st_figures (mn_mind S)))), (a20, .inl (K.2.1.1, 12, .inl (st_numbers (mn_mind S)))), (a21, .inl (K.2.1.1, 12, .inl (st_firsts (mn_mind S)))), (a22, .inl (K.2.1.1, 12, .inl (st_seconds (mn_mind S)))), (a23, .inl (K.2.1.1, 12, .inl (st_uses (mn_mind S)))), (a24, .inl (K.2.1.1, 12, .inl (st_earned (mn_mind S)))), (a25, .inr (2, [.ref a26, .int (lt_length (mn_letters S)), .ref a27, .int (lt_at (mn_letters S)), .int (lt_verb (mn_letters S)), .int (lt_figureCount (mn_letters S)), .int (lt_statements (mn_letters S))])), (a26, .inl (K.2.1.1, 64, .inl (lt_all (mn_letters S)))), (a27, .inl (K.2.1.1, 4, .inl (lt_figures (mn_letters S)))), (a28, .inr (4, [.ref a29, .int (rw_length (mn_told S))])), (a29, .inl (K.2.1.1, 12, .inl (rw_all (mn_told S)))), (a30, .inr (0, [.ref a31])), (a31, .inl (K.2.1.1, 12, .inl (ch_numbers (mn_chains S)))), (a32, .inr (3, [.ref a33])), (a33, .inl (K.2.1.1, 4096, .inl (or_ways (mn_comings S)))), (a34, .inr (1, [.ref a35])), (a35, .inl (K.2.1.2, 1024, .inl (gm_wins (mn_builders S)))), (a36, .inl (K.2.1.1, 7, .inl (mn_refusals S)))]
abbrev zMd : Type := (Nat → Int32) × (Nat → Int32) × (Nat → Int32) × (Nat → Int32) × (Nat → Int32) × (Nat → Int32) × (Nat → Int32) × (Nat → Int32) × (Nat → Int32) × (Int32) × (Int32) × (Int32) × (Nat → Int32) × (Nat → Int32) × (Nat → Int32) × (Nat → Int32) × (Int32) × (Int32) × (Int32) × (Int32) × (Nat → Int32) × (Int32) × (Int32) × (Int32) × (Nat → Int32) × (Int32) × (Int32) × (Nat → Int32) × (Nat → Int32) × (Nat → Int32) × (Nat → Int32) × (Int32) × (Int32)
def md_refused (S : zMd) : Nat → Int32 := S.1
def md_number (S : zMd) : Nat → Int32 := S.2.1
def md_kind (S : zMd) : Nat → Int32 := S.2.2.1
def md_figure (S : zMd) : Nat → Int32 := S.2.2.2.1
def md_one (S : zMd) : Nat → Int32 := S.2.2.2.2.1
def md_other (S : zMd) : Nat → Int32 := S.2.2.2.2.2.1
def md_stands (S : zMd) : Nat → Int32 := S.2.2.2.2.2.2.1
def md_uses (S : zMd) : Nat → Int32 := S.2.2.2.2.2.2.2.1
def md_earned (S : zMd) : Nat → Int32 := S.2.2.2.2.2.2.2.2.1
def md_houses (S : zMd) : Int32 := S.2.2.2.2.2.2.2.2.2.1
def md_sums (S : zMd) : Int32 := S.2.2.2.2.2.2.2.2.2.2.1
def md_falls (S : zMd) : Int32 := S.2.2.2.2.2.2.2.2.2.2.2.1
def md_tape (S : zMd) : Nat → Int32 := S.2.2.2.2.2.2.2.2.2.2.2.2.1
def md_sort (S : zMd) : Nat → Int32 := S.2.2.2.2.2.2.2.2.2.2.2.2.2.1
def md_sortAt (S : zMd) : Nat → Int32 := S.2.2.2.2.2.2.2.2.2.2.2.2.2.2.1
def md_told (S : zMd) : Nat → Int32 := S.2.2.2.2.2.2.2.2.2.2.2.2.2.2.2.1
def md_taped (S : zMd) : Int32 := S.2.2.2.2.2.2.2.2.2.2.2.2.2.2.2.2.1
def md_reading (S : zMd) : Int32 := S.2.2.2.2.2.2.2.2.2.2.2.2.2.2.2.2.2.1
def md_statements (S : zMd) : Int32 := S.2.2.2.2.2.2.2.2.2.2.2.2.2.2.2.2.2.2.1
def md_telling (S : zMd) : Int32 := S.2.2.2.2.2.2.2.2.2.2.2.2.2.2.2.2.2.2.2.1
def md_kept (S : zMd) : Nat → Int32 := S.2.2.2.2.2.2.2.2.2.2.2.2.2.2.2.2.2.2.2.2.1
def md_hasImage (S : zMd) : Int32 := S.2.2.2.2.2.2.2.2.2.2.2.2.2.2.2.2.2.2.2.2.2.1
def md_isKeeping (S : zMd) : Int32 := S.2.2.2.2.2.2.2.2.2.2.2.2.2.2.2.2.2.2.2.2.2.2.1
def md_cursor (S : zMd) : Int32 := S.2.2.2.2.2.2.2.2.2.2.2.2.2.2.2.2.2.2.2.2.2.2.2.1
def md_tried (S : zMd) : Nat → Int32 := S.2.2.2.2.2.2.2.2.2.2.2.2.2.2.2.2.2.2.2.2.2.2.2.2.1
def md_wanted (S : zMd) : Int32 := S.2.2.2.2.2.2.2.2.2.2.2.2.2.2.2.2.2.2.2.2.2.2.2.2.2.1
def md_goal (S : zMd) : Int32 := S.2.2.2.2.2.2.2.2.2.2.2.2.2.2.2.2.2.2.2.2.2.2.2.2.2.2.1
def md_byFactors (S : zMd) : Nat → Int32 := S.2.2.2.2.2.2.2.2.2.2.2.2.2.2.2.2.2.2.2.2.2.2.2.2.2.2.2.1
def md_ways (S : zMd) : Nat → Int32 := S.2.2.2.2.2.2.2.2.2.2.2.2.2.2.2.2.2.2.2.2.2.2.2.2.2.2.2.2.1
def md_wins (S : zMd) : Nat → Int32 := S.2.2.2.2.2.2.2.2.2.2.2.2.2.2.2.2.2.2.2.2.2.2.2.2.2.2.2.2.2.1
def md_row (S : zMd) : Nat → Int32 := S.2.2.2.2.2.2.2.2.2.2.2.2.2.2.2.2.2.2.2.2.2.2.2.2.2.2.2.2.2.2.1
def md_rowMany (S : zMd) : Int32 := S.2.2.2.2.2.2.2.2.2.2.2.2.2.2.2.2.2.2.2.2.2.2.2.2.2.2.2.2.2.2.2.1
def md_lots (S : zMd) : Int32 := S.2.2.2.2.2.2.2.2.2.2.2.2.2.2.2.2.2.2.2.2.2.2.2.2.2.2.2.2.2.2.2.2
def md_set_refused (S : zMd) (x : Nat → Int32) : zMd := (x, S.2)
def md_set_number (S : zMd) (x : Nat → Int32) : zMd := (S.1, x, S.2.2)
def md_set_kind (S : zMd) (x : Nat → Int32) : zMd := (S.1, S.2.1, x, S.2.2.2)
def md_set_figure (S : zMd) (x : Nat → Int32) : zMd := (S.1, S.2.1, S.2.2.1, x, S.2.2.2.2)
def md_set_one (S : zMd) (x : Nat → Int32) : zMd := (S.1, S.2.1, S.2.2.1, S.2.2.2.1, x, S.2.2.2.2.2)
def md_set_other (S : zMd) (x : Nat → Int32) : zMd := (S.1, S.2.1, S.2.2.1, S.2.2.2.1, S.2.2.2.2.1, x, S.2.2.2.2.2.2)
def md_set_stands (S : zMd) (x : Nat → Int32) : zMd := (S.1, S.2.1, S.2.2.1, S.2.2.2.1, S.2.2.2.2.1, S.2.2.2.2.2.1, x, S.2.2.2.2.2.2.2)
def md_set_uses (S : zMd) (x : Nat → Int32) : zMd := (S.1, S.2.1, S.2.2.1, S.2.2.2.1, S.2.2.2.2.1, S.2.2.2.2.2.1, S.2.2.2.2.2.2.1, x, S.2.2.2.2.2.2.2.2)
def md_set_earned (S : zMd) (x : Nat → Int32) : zMd := (S.1, S.2.1, S.2.2.1, S.2.2.2.1, S.2.2.2.2.1, S.2.2.2.2.2.1, S.2.2.2.2.2.2.1, S.2.2.2.2.2.2.2.1, x, S.2.2.2.2.2.2.2.2.2)
def md_set_houses (S : zMd) (x : Int32) : zMd := (S.1, S.2.1, S.2.2.1, S.2.2.2.1, S.2.2.2.2.1, S.2.2.2.2.2.1, S.2.2.2.2.2.2.1, S.2.2.2.2.2.2.2.1, S.2.2.2.2.2.2.2.2.1, x, S.2.2.2.2.2.2.2.2.2.2)
def md_set_sums (S : zMd) (x : Int32) : zMd := (S.1, S.2.1, S.2.2.1, S.2.2.2.1, S.2.2.2.2.1, S.2.2.2.2.2.1, S.2.2.2.2.2.2.1, S.2.2.2.2.2.2.2.1, S.2.2.2.2.2.2.2.2.1, S.2.2.2.2.2.2.2.2.2.1, x, S.2.2.2.2.2.2.2.2.2.2.2)
def md_set_falls (S : zMd) (x : Int32) : zMd := (S.1, S.2.1, S.2.2.1, S.2.2.2.1, S.2.2.2.2.1, S.2.2.2.2.2.1, S.2.2.2.2.2.2.1, S.2.2.2.2.2.2.2.1, S.2.2.2.2.2.2.2.2.1, S.2.2.2.2.2.2.2.2.2.1, S.2.2.2.2.2.2.2.2.2.2.1, x, S.2.2.2.2.2.2.2.2.2.2.2.2)
def md_set_tape (S : zMd) (x : Nat → Int32) : zMd := (S.1, S.2.1, S.2.2.1, S.2.2.2.1, S.2.2.2.2.1, S.2.2.2.2.2.1, S.2.2.2.2.2.2.1, S.2.2.2.2.2.2.2.1, S.2.2.2.2.2.2.2.2.1, S.2.2.2.2.2.2.2.2.2.1, S.2.2.2.2.2.2.2.2.2.2.1, S.2.2.2.2.2.2.2.2.2.2.2.1, x, S.2.2.2.2.2.2.2.2.2.2.2.2.2)
def md_set_sort (S : zMd) (x : Nat → Int32) : zMd := (S.1, S.2.1, S.2.2.1, S.2.2.2.1, S.2.2.2.2.1, S.2.2.2.2.2.1, S.2.2.2.2.2.2.1, S.2.2.2.2.2.2.2.1, S.2.2.2.2.2.2.2.2.1, S.2.2.2.2.2.2.2.2.2.1, S.2.2.2.2.2.2.2.2.2.2.1, S.2.2.2.2.2.2.2.2.2.2.2.1, S.2.2.2.2.2.2.2.2.2.2.2.2.1, x, S.2.2.2.2.2.2.2.2.2.2.2.2.2.2)
def md_set_sortAt (S : zMd) (x : Nat → Int32) : zMd := (S.1, S.2.1, S.2.2.1, S.2.2.2.1, S.2.2.2.2.1, S.2.2.2.2.2.1, S.2.2.2.2.2.2.1, S.2.2.2.2.2.2.2.1, S.2.2.2.2.2.2.2.2.1, S.2.2.2.2.2.2.2.2.2.1, S.2.2.2.2.2.2.2.2.2.2.1, S.2.2.2.2.2.2.2.2.2.2.2.1, S.2.2.2.2.2.2.2.2.2.2.2.2.1, S.2.2.2.2.2.2.2.2.2.2.2.2.2.1, x, S.2.2.2.2.2.2.2.2.2.2.2.2.2.2.2)
def md_set_told (S : zMd) (x : Nat → Int32) : zMd := (S.1, S.2.1, S.2.2.1, S.2.2.2.1, S.2.2.2.2.1, S.2.2.2.2.2.1, S.2.2.2.2.2.2.1, S.2.2.2.2.2.2.2.1, S.2.2.2.2.2.2.2.2.1, S.2.2.2.2.2.2.2.2.2.1, S.2.2.2.2.2.2.2.2.2.2.1, S.2.2.2.2.2.2.2.2.2.2.2.1, S.2.2.2.2.2.2.2.2.2.2.2.2.1, S.2.2.2.2.2.2.2.2.2.2.2.2.2.1, S.2.2.2.2.2.2.2.2.2.2.2.2.2.2.1, x, S.2.2.2.2.2.2.2.2.2.2.2.2.2.2.2.2)
def md_set_taped (S : zMd) (x : Int32) : zMd := (S.1, S.2.1, S.2.2.1, S.2.2.2.1, S.2.2.2.2.1, S.2.2.2.2.2.1, S.2.2.2.2.2.2.1, S.2.2.2.2.2.2.2.1, S.2.2.2.2.2.2.2.2.1, S.2.2.2.2.2.2.2.2.2.1, S.2.2.2.2.2.2.2.2.2.2.1, S.2.2.2.2.2.2.2.2.2.2.2.1, S.2.2.2.2.2.2.2.2.2.2.2.2.1, S.2.2.2.2.2.2.2.2.2.2.2.2.2.1, S.2.2.2.2.2.2.2.2.2.2.2.2.2.2.1, S.2.2.2.2.2.2.2.2.2.2.2.2.2.2.2.1, x, S.2.2.2.2.2.2.2.2.2.2.2.2.2.2.2.2.2)
def md_set_reading (S : zMd) (x : Int32) : zMd := (S.1, S.2.1, S.2.2.1, S.2.2.2.1, S.2.2.2.2.1, S.2.2.2.2.2.1, S.2.2.2.2.2.2.1, S.2.2.2.2.2.2.2.1, S.2.2.2.2.2.2.2.2.1, S.2.2.2.2.2.2.2.2.2.1, S.2.2.2.2.2.2.2.2.2.2.1, S.2.2.2.2.2.2.2.2.2.2.2.1, S.2.2.2.2.2.2.2.2.2.2.2.2.1, S.2.2.2.2.2.2.2.2.2.2.2.2.2.1, S.2.2.2.2.2.2.2.2.2.2.2.2.2.2.1, S.2.2.2.2.2.2.2.2.2.2.2.2.2.2.2.1, S.2.2.2.2.2.2.2.2.2.2.2.2.2.2.2.2.1, x, S.2.2.2.2.2.2.2.2.2.2.2.2.2.2.2.2.2.2)
def md_set_statements (S : zMd) (x : Int32) : zMd := (S.1, S.2.1, S.2.2.1, S.2.2.2.1, S.2.2.2.2.1, S.2.2.2.2.2.1, S.2.2.2.2.2.2.1, S.2.2.2.2.2.2.2.1, S.2.2.2.2.2.2.2.2.1, S.2.2.2.2.2.2.2.2.2.1, S.2.2.2.2.2.2.2.2.2.2.1, S.2.2.2.2.2.2.2.2.2.2.2.1, S.2.2.2.2.2.2.2.2.2.2.2.2.1, S.2.2.2.2.2.2.2.2.2.2.2.2.2.1, S.2.2.2.2.2.2.2.2.2.2.2.2.2.2.1, S.2.2.2.2.2.2.2.2.2.2.2.2.2.2.2.1, S.2.2.2.2.2.2.2.2.2.2.2.2.2.2.2.2.1, S.2.2.2.2.2.2.2.2.2.2.2.2.2.2.2.2.2.1, x, S.2.2.2.2.2.2.2.2.2.2.2.2.2.2.2.2.2.2.2)
def md_set_telling (S : zMd) (x : Int32) : zMd := (S.1, S.2.1, S.2.2.1, S.2.2.2.1, S.2.2.2.2.1, S.2.2.2.2.2.1, S.2.2.2.2.2.2.1, S.2.2.2.2.2.2.2.1, S.2.2.2.2.2.2.2.2.1, S.2.2.2.2.2.2.2.2.2.1, S.2.2.2.2.2.2.2.2.2.2.1, S.2.2.2.2.2.2.2.2.2.2.2.1, S.2.2.2.2.2.2.2.2.2.2.2.2.1, S.2.2.2.2.2.2.2.2.2.2.2.2.2.1, S.2.2.2.2.2.2.2.2.2.2.2.2.2.2.1, S.2.2.2.2.2.2.2.2.2.2.2.2.2.2.2.1, S.2.2.2.2.2.2.2.2.2.2.2.2.2.2.2.2.1, S.2.2.2.2.2.2.2.2.2.2.2.2.2.2.2.2.2.1, S.2.2.2.2.2.2.2.2.2.2.2.2.2.2.2.2.2.2.1, x, S.2.2.2.2.2.2.2.2.2.2.2.2.2.2.2.2.2.2.2.2)
def md_set_kept (S : zMd) (x : Nat → Int32) : zMd := (S.1, S.2.1, S.2.2.1, S.2.2.2.1, S.2.2.2.2.1, S.2.2.2.2.2.1, S.2.2.2.2.2.2.1, S.2.2.2.2.2.2.2.1, S.2.2.2.2.2.2.2.2.1, S.2.2.2.2.2.2.2.2.2.1, S.2.2.2.2.2.2.2.2.2.2.1, S.2.2.2.2.2.2.2.2.2.2.2.1, S.2.2.2.2.2.2.2.2.2.2.2.2.1, S.2.2.2.2.2.2.2.2.2.2.2.2.2.1, S.2.2.2.2.2.2.2.2.2.2.2.2.2.2.1, S.2.2.2.2.2.2.2.2.2.2.2.2.2.2.2.1, S.2.2.2.2.2.2.2.2.2.2.2.2.2.2.2.2.1, S.2.2.2.2.2.2.2.2.2.2.2.2.2.2.2.2.2.1, S.2.2.2.2.2.2.2.2.2.2.2.2.2.2.2.2.2.2.1, S.2.2.2.2.2.2.2.2.2.2.2.2.2.2.2.2.2.2.2.1, x, S.2.2.2.2.2.2.2.2.2.2.2.2.2.2.2.2.2.2.2.2.2)
def md_set_hasImage (S : zMd) (x : Int32) : zMd := (S.1, S.2.1, S.2.2.1, S.2.2.2.1, S.2.2.2.2.1, S.2.2.2.2.2.1, S.2.2.2.2.2.2.1, S.2.2.2.2.2.2.2.1, S.2.2.2.2.2.2.2.2.1, S.2.2.2.2.2.2.2.2.2.1, S.2.2.2.2.2.2.2.2.2.2.1, S.2.2.2.2.2.2.2.2.2.2.2.1, S.2.2.2.2.2.2.2.2.2.2.2.2.1, S.2.2.2.2.2.2.2.2.2.2.2.2.2.1, S.2.2.2.2.2.2.2.2.2.2.2.2.2.2.1, S.2.2.2.2.2.2.2.2.2.2.2.2.2.2.2.1, S.2.2.2.2.2.2.2.2.2.2.2.2.2.2.2.2.1, S.2.2.2.2.2.2.2.2.2.2.2.2.2.2.2.2.2.1, S.2.2.2.2.2.2.2.2.2.2.2.2.2.2.2.2.2.2.1, S.2.2.2.2.2.2.2.2.2.2.2.2.2.2.2.2.2.2.2.1, S.2.2.2.2.2.2.2.2.2.2.2.2.2.2.2.2.2.2.2.2.1, x, S.2.2.2.2.2.2.2.2.2.2.2.2.2.2.2.2.2.2.2.2.2.2)
def md_set_isKeeping (S : zMd) (x : Int32) : zMd := (S.1, S.2.1, S.2.2.1, S.2.2.2.1, S.2.2.2.2.1, S.2.2.2.2.2.1, S.2.2.2.2.2.2.1, S.2.2.2.2.2.2.2.1, S.2.2.2.2.2.2.2.2.1, S.2.2.2.2.2.2.2.2.2.1, S.2.2.2.2.2.2.2.2.2.2.1, S.2.2.2.2.2.2.2.2.2.2.2.1, S.2.2.2.2.2.2.2.2.2.2.2.2.1, S.2.2.2.2.2.2.2.2.2.2.2.2.2.1, S.2.2.2.2.2.2.2.2.2.2.2.2.2.2.1, S.2.2.2.2.2.2.2.2.2.2.2.2.2.2.2.1, S.2.2.2.2.2.2.2.2.2.2.2.2.2.2.2.2.1, S.2.2.2.2.2.2.2.2.2.2.2.2.2.2.2.2.2.1, S.2.2.2.2.2.2.2.2.2.2.2.2.2.2.2.2.2.2.1, S.2.2.2.2.2.2.2.2.2.2.2.2.2.2.2.2.2.2.2.1, S.2.2.2.2.2.2.2.2.2.2.2.2.2.2.2.2.2.2.2.2.1, S.2.2.2.2.2.2.2.2.2.2.2.2.2.2.2.2.2.2.2.2.2.1, x, S.2.2.2.2.2.2.2.2.2.2.2.2.2.2.2.2.2.2.2.2.2.2.2)
def md_set_cursor (S : zMd) (x : Int32) : zMd := (S.1, S.2.1, S.2.2.1, S.2.2.2.1, S.2.2.2.2.1, S.2.2.2.2.2.1, S.2.2.2.2.2.2.1, S.2.2.2.2.2.2.2.1, S.2.2.2.2.2.2.2.2.1, S.2.2.2.2.2.2.2.2.2.1, S.2.2.2.2.2.2.2.2.2.2.1, S.2.2.2.2.2.2.2.2.2.2.2.1, S.2.2.2.2.2.2.2.2.2.2.2.2.1, S.2.2.2.2.2.2.2.2.2.2.2.2.2.1, S.2.2.2.2.2.2.2.2.2.2.2.2.2.2.1, S.2.2.2.2.2.2.2.2.2.2.2.2.2.2.2.1, S.2.2.2.2.2.2.2.2.2.2.2.2.2.2.2.2.1, S.2.2.2.2.2.2.2.2.2.2.2.2.2.2.2.2.2.1, S.2.2.2.2.2.2.2.2.2.2.2.2.2.2.2.2.2.2.1, S.2.2.2.2.2.2.2.2.2.2.2.2.2.2.2.2.2.2.2.1, S.2.2.2.2.2.2.2.2.2.2.2.2.2.2.2.2.2.2.2.2.1, S.2.2.2.2.2.2.2.2.2.2.2.2.2.2.2.2.2.2.2.2.2.1, S.2.2.2.2.2.2.2.2.2.2.2.2.2.2.2.2.2.2.2.2.2.2.1, x, S.2.2.2.2.2.2.2.2.2.2.2.2.2.2.2.2.2.2.2.2.2.2.2.2)
def md_set_tried (S : zMd) (x : Nat → Int32) : zMd := (S.1, S.2.1, S.2.2.1, S.2.2.2.1, S.2.2.2.2.1, S.2.2.2.2.2.1, S.2.2.2.2.2.2.1, S.2.2.2.2.2.2.2.1, S.2.2.2.2.2.2.2.2.1, S.2.2.2.2.2.2.2.2.2.1, S.2.2.2.2.2.2.2.2.2.2.1, S.2.2.2.2.2.2.2.2.2.2.2.1, S.2.2.2.2.2.2.2.2.2.2.2.2.1, S.2.2.2.2.2.2.2.2.2.2.2.2.2.1, S.2.2.2.2.2.2.2.2.2.2.2.2.2.2.1, S.2.2.2.2.2.2.2.2.2.2.2.2.2.2.2.1, S.2.2.2.2.2.2.2.2.2.2.2.2.2.2.2.2.1, S.2.2.2.2.2.2.2.2.2.2.2.2.2.2.2.2.2.1, S.2.2.2.2.2.2.2.2.2.2.2.2.2.2.2.2.2.2.1, S.2.2.2.2.2.2.2.2.2.2.2.2.2.2.2.2.2.2.2.1, S.2.2.2.2.2.2.2.2.2.2.2.2.2.2.2.2.2.2.2.2.1, S.2.2.2.2.2.2.2.2.2.2.2.2.2.2.2.2.2.2.2.2.2.1, S.2.2.2.2.2.2.2.2.2.2.2.2.2.2.2.2.2.2.2.2.2.2.1, S.2.2.2.2.2.2.2.2.2.2.2.2.2.2.2.2.2.2.2.2.2.2.2.1, x, S.2.2.2.2.2.2.2.2.2.2.2.2.2.2.2.2.2.2.2.2.2.2.2.2.2)
def md_set_wanted (S : zMd) (x : Int32) : zMd := (S.1, S.2.1, S.2.2.1, S.2.2.2.1, S.2.2.2.2.1, S.2.2.2.2.2.1, S.2.2.2.2.2.2.1, S.2.2.2.2.2.2.2.1, S.2.2.2.2.2.2.2.2.1, S.2.2.2.2.2.2.2.2.2.1, S.2.2.2.2.2.2.2.2.2.2.1, S.2.2.2.2.2.2.2.2.2.2.2.1, S.2.2.2.2.2.2.2.2.2.2.2.2.1, S.2.2.2.2.2.2.2.2.2.2.2.2.2.1, S.2.2.2.2.2.2.2.2.2.2.2.2.2.2.1, S.2.2.2.2.2.2.2.2.2.2.2.2.2.2.2.1, S.2.2.2.2.2.2.2.2.2.2.2.2.2.2.2.2.1, S.2.2.2.2.2.2.2.2.2.2.2.2.2.2.2.2.2.1, S.2.2.2.2.2.2.2.2.2.2.2.2.2.2.2.2.2.2.1, S.2.2.2.2.2.2.2.2.2.2.2.2.2.2.2.2.2.2.2.1, S.2.2.2.2.2.2.2.2.2.2.2.2.2.2.2.2.2.2.2.2.1, S.2.2.2.2.2.2.2.2.2.2.2.2.2.2.2.2.2.2.2.2.2.1, S.2.2.2.2.2.2.2.2.2.2.2.2.2.2.2.2.2.2.2.2.2.2.1, S.2.2.2.2.2.2.2.2.2.2.2.2.2.2.2.2.2.2.2.2.2.2.2.1, S.2.2.2.2.2.2.2.2.2.2.2.2.2.2.2.2.2.2.2.2.2.2.2.2.1, x, S.2.2.2.2.2.2.2.2.2.2.2.2.2.2.2.2.2.2.2.2.2.2.2.2.2.2)
def md_set_goal (S : zMd) (x : Int32) : zMd := (S.1, S.2.1, S.2.2.1, S.2.2.2.1, S.2.2.2.2.1, S.2.2.2.2.2.1, S.2.2.2.2.2.2.1, S.2.2.2.2.2.2.2.1, S.2.2.2.2.2.2.2.2.1, S.2.2.2.2.2.2.2.2.2.1, S.2.2.2.2.2.2.2.2.2.2.1, S.2.2.2.2.2.2.2.2.2.2.2.1, S.2.2.2.2.2.2.2.2.2.2.2.2.1, S.2.2.2.2.2.2.2.2.2.2.2.2.2.1, S.2.2.2.2.2.2.2.2.2.2.2.2.2.2.1, S.2.2.2.2.2.2.2.2.2.2.2.2.2.2.2.1, S.2.2.2.2.2.2.2.2.2.2.2.2.2.2.2.2.1, S.2.2.2.2.2.2.2.2.2.2.2.2.2.2.2.2.2.1, S.2.2.2.2.2.2.2.2.2.2.2.2.2.2.2.2.2.2.1, S.2.2.2.2.2.2.2.2.2.2.2.2.2.2.2.2.2.2.2.1, S.2.2.2.2.2.2.2.2.2.2.2.2.2.2.2.2.2.2.2.2.1, S.2.2.2.2.2.2.2.2.2.2.2.2.2.2.2.2.2.2.2.2.2.1, S.2.2.2.2.2.2.2.2.2.2.2.2.2.2.2.2.2.2.2.2.2.2.1, S.2.2.2.2.2.2.2.2.2.2.2.2.2.2.2.2.2.2.2.2.2.2.2.1, S.2.2.2.2.2.2.2.2.2.2.2.2.2.2.2.2.2.2.2.2.2.2.2.2.1, S.2.2.2.2.2.2.2.2.2.2.2.2.2.2.2.2.2.2.2.2.2.2.2.2.2.1, x, S.2.2.2.2.2.2.2.2.2.2.2.2.2.2.2.2.2.2.2.2.2.2.2.2.2.2.2)
def md_set_byFactors (S : zMd) (x : Nat → Int32) : zMd := (S.1, S.2.1, S.2.2.1, S.2.2.2.1, S.2.2.2.2.1, S.2.2.2.2.2.1, S.2.2.2.2.2.2.1, S.2.2.2.2.2.2.2.1, S.2.2.2.2.2.2.2.2.1, S.2.2.2.2.2.2.2.2.2.1, S.2.2.2.2.2.2.2.2.2.2.1, S.2.2.2.2.2.2.2.2.2.2.2.1, S.2.2.2.2.2.2.2.2.2.2.2.2.1, S.2.2.2.2.2.2.2.2.2.2.2.2.2.1, S.2.2.2.2.2.2.2.2.2.2.2.2.2.2.1, S.2.2.2.2.2.2.2.2.2.2.2.2.2.2.2.1, S.2.2.2.2.2.2.2.2.2.2.2.2.2.2.2.2.1, S.2.2.2.2.2.2.2.2.2.2.2.2.2.2.2.2.2.1, S.2.2.2.2.2.2.2.2.2.2.2.2.2.2.2.2.2.2.1, S.2.2.2.2.2.2.2.2.2.2.2.2.2.2.2.2.2.2.2.1, S.2.2.2.2.2.2.2.2.2.2.2.2.2.2.2.2.2.2.2.2.1, S.2.2.2.2.2.2.2.2.2.2.2.2.2.2.2.2.2.2.2.2.2.1, S.2.2.2.2.2.2.2.2.2.2.2.2.2.2.2.2.2.2.2.2.2.2.1, S.2.2.2.2.2.2.2.2.2.2.2.2.2.2.2.2.2.2.2.2.2.2.2.1, S.2.2.2.2.2.2.2.2.2.2.2.2.2.2.2.2.2.2.2.2.2.2.2.2.1, S.2.2.2.2.2.2.2.2.2.2.2.2.2.2.2.2.2.2.2.2.2.2.2.2.2.1, S.2.2.2.2.2.2.2.2.2.2.2.2.2.2.2.2.2.2.2.2.2.2.2.2.2.2.1, x, S.2.2.2.2.2.2.2.2.2.2.2.2.2.2.2.2.2.2.2.2.2.2.2.2.2.2.2.2)
def md_set_ways (S : zMd) (x : Nat → Int32) : zMd := (S.1, S.2.1, S.2.2.1, S.2.2.2.1, S.2.2.2.2.1, S.2.2.2.2.2.1, S.2.2.2.2.2.2.1, S.2.2.2.2.2.2.2.1, S.2.2.2.2.2.2.2.2.1, S.2.2.2.2.2.2.2.2.2.1, S.2.2.2.2.2.2.2.2.2.2.1, S.2.2.2.2.2.2.2.2.2.2.2.1, S.2.2.2.2.2.2.2.2.2.2.2.2.1, S.2.2.2.2.2.2.2.2.2.2.2.2.2.1, S.2.2.2.2.2.2.2.2.2.2.2.2.2.2.1, S.2.2.2.2.2.2.2.2.2.2.2.2.2.2.2.1, S.2.2.2.2.2.2.2.2.2.2.2.2.2.2.2.2.1, S.2.2.2.2.2.2.2.2.2.2.2.2.2.2.2.2.2.1, S.2.2.2.2.2.2.2.2.2.2.2.2.2.2.2.2.2.2.1, S.2.2.2.2.2.2.2.2.2.2.2.2.2.2.2.2.2.2.2.1, S.2.2.2.2.2.2.2.2.2.2.2.2.2.2.2.2.2.2.2.2.1, S.2.2.2.2.2.2.2.2.2.2.2.2.2.2.2.2.2.2.2.2.2.1, S.2.2.2.2.2.2.2.2.2.2.2.2.2.2.2.2.2.2.2.2.2.2.1, S.2.2.2.2.2.2.2.2.2.2.2.2.2.2.2.2.2.2.2.2.2.2.2.1, S.2.2.2.2.2.2.2.2.2.2.2.2.2.2.2.2.2.2.2.2.2.2.2.2.1, S.2.2.2.2.2.2.2.2.2.2.2.2.2.2.2.2.2.2.2.2.2.2.2.2.2.1, S.2.2.2.2.2.2.2.2.2.2.2.2.2.2.2.2.2.2.2.2.2.2.2.2.2.2.1, S.2.2.2.2.2.2.2.2.2.2.2.2.2.2.2.2.2.2.2.2.2.2.2.2.2.2.2.1, x, S.2.2.2.2.2.2.2.2.2.2.2.2.2.2.2.2.2.2.2.2.2.2.2.2.2.2.2.2.2)
def md_set_wins (S : zMd) (x : Nat → Int32) : zMd := (S.1, S.2.1, S.2.2.1, S.2.2.2.1, S.2.2.2.2.1, S.2.2.2.2.2.1, S.2.2.2.2.2.2.1, S.2.2.2.2.2.2.2.1, S.2.2.2.2.2.2.2.2.1, S.2.2.2.2.2.2.2.2.2.1, S.2.2.2.2.2.2.2.2.2.2.1, S.2.2.2.2.2.2.2.2.2.2.2.1, S.2.2.2.2.2.2.2.2.2.2.2.2.1, S.2.2.2.2.2.2.2.2.2.2.2.2.2.1, S.2.2.2.2.2.2.2.2.2.2.2.2.2.2.1, S.2.2.2.2.2.2.2.2.2.2.2.2.2.2.2.1, S.2.2.2.2.2.2.2.2.2.2.2.2.2.2.2.2.1, S.2.2.2.2.2.2.2.2.2.2.2.2.2.2.2.2.2.1, S.2.2.2.2.2.2.2.2.2.2.2.2.2.2.2.2.2.2.1, S.2.2.2.2.2.2.2.2.2.2.2.2.2.2.2.2.2.2.2.1, S.2.2.2.2.2.2.2.2.2.2.2.2.2.2.2.2.2.2.2.2.1, S.2.2.2.2.2.2.2.2.2.2.2.2.2.2.2.2.2.2.2.2.2.1, S.2.2.2.2.2.2.2.2.2.2.2.2.2.2.2.2.2.2.2.2.2.2.1, S.2.2.2.2.2.2.2.2.2.2.2.2.2.2.2.2.2.2.2.2.2.2.2.1, S.2.2.2.2.2.2.2.2.2.2.2.2.2.2.2.2.2.2.2.2.2.2.2.2.1, S.2.2.2.2.2.2.2.2.2.2.2.2.2.2.2.2.2.2.2.2.2.2.2.2.2.1, S.2.2.2.2.2.2.2.2.2.2.2.2.2.2.2.2.2.2.2.2.2.2.2.2.2.2.1, S.2.2.2.2.2.2.2.2.2.2.2.2.2.2.2.2.2.2.2.2.2.2.2.2.2.2.2.1, S.2.2.2.2.2.2.2.2.2.2.2.2.2.2.2.2.2.2.2.2.2.2.2.2.2.2.2.2.1, x, S.2.2.2.2.2.2.2.2.2.2.2.2.2.2.2.2.2.2.2.2.2.2.2.2.2.2.2.2.2.2)
def md_set_row (S : zMd) (x : Nat → Int32) : zMd := (S.1, S.2.1, S.2.2.1, S.2.2.2.1, S.2.2.2.2.1, S.2.2.2.2.2.1, S.2.2.2.2.2.2.1, S.2.2.2.2.2.2.2.1, S.2.2.2.2.2.2.2.2.1, S.2.2.2.2.2.2.2.2.2.1, S.2.2.2.2.2.2.2.2.2.2.1, S.2.2.2.2.2.2.2.2.2.2.2.1, S.2.2.2.2.2.2.2.2.2.2.2.2.1, S.2.2.2.2.2.2.2.2.2.2.2.2.2.1, S.2.2.2.2.2.2.2.2.2.2.2.2.2.2.1, S.2.2.2.2.2.2.2.2.2.2.2.2.2.2.2.1, S.2.2.2.2.2.2.2.2.2.2.2.2.2.2.2.2.1, S.2.2.2.2.2.2.2.2.2.2.2.2.2.2.2.2.2.1, S.2.2.2.2.2.2.2.2.2.2.2.2.2.2.2.2.2.2.1, S.2.2.2.2.2.2.2.2.2.2.2.2.2.2.2.2.2.2.2.1, S.2.2.2.2.2.2.2.2.2.2.2.2.2.2.2.2.2.2.2.2.1, S.2.2.2.2.2.2.2.2.2.2.2.2.2.2.2.2.2.2.2.2.2.1, S.2.2.2.2.2.2.2.2.2.2.2.2.2.2.2.2.2.2.2.2.2.2.1, S.2.2.2.2.2.2.2.2.2.2.2.2.2.2.2.2.2.2.2.2.2.2.2.1, S.2.2.2.2.2.2.2.2.2.2.2.2.2.2.2.2.2.2.2.2.2.2.2.2.1, S.2.2.2.2.2.2.2.2.2.2.2.2.2.2.2.2.2.2.2.2.2.2.2.2.2.1, S.2.2.2.2.2.2.2.2.2.2.2.2.2.2.2.2.2.2.2.2.2.2.2.2.2.2.1, S.2.2.2.2.2.2.2.2.2.2.2.2.2.2.2.2.2.2.2.2.2.2.2.2.2.2.2.1, S.2.2.2.2.2.2.2.2.2.2.2.2.2.2.2.2.2.2.2.2.2.2.2.2.2.2.2.2.1, S.2.2.2.2.2.2.2.2.2.2.2.2.2.2.2.2.2.2.2.2.2.2.2.2.2.2.2.2.2.1, x, S.2.2.2.2.2.2.2.2.2.2.2.2.2.2.2.2.2.2.2.2.2.2.2.2.2.2.2.2.2.2.2)
def md_set_rowMany (S : zMd) (x : Int32) : zMd := (S.1, S.2.1, S.2.2.1, S.2.2.2.1, S.2.2.2.2.1, S.2.2.2.2.2.1, S.2.2.2.2.2.2.1, S.2.2.2.2.2.2.2.1, S.2.2.2.2.2.2.2.2.1, S.2.2.2.2.2.2.2.2.2.1, S.2.2.2.2.2.2.2.2.2.2.1, S.2.2.2.2.2.2.2.2.2.2.2.1, S.2.2.2.2.2.2.2.2.2.2.2.2.1, S.2.2.2.2.2.2.2.2.2.2.2.2.2.1, S.2.2.2.2.2.2.2.2.2.2.2.2.2.2.1, S.2.2.2.2.2.2.2.2.2.2.2.2.2.2.2.1, S.2.2.2.2.2.2.2.2.2.2.2.2.2.2.2.2.1, S.2.2.2.2.2.2.2.2.2.2.2.2.2.2.2.2.2.1, S.2.2.2.2.2.2.2.2.2.2.2.2.2.2.2.2.2.2.1, S.2.2.2.2.2.2.2.2.2.2.2.2.2.2.2.2.2.2.2.1, S.2.2.2.2.2.2.2.2.2.2.2.2.2.2.2.2.2.2.2.2.1, S.2.2.2.2.2.2.2.2.2.2.2.2.2.2.2.2.2.2.2.2.2.1, S.2.2.2.2.2.2.2.2.2.2.2.2.2.2.2.2.2.2.2.2.2.2.1, S.2.2.2.2.2.2.2.2.2.2.2.2.2.2.2.2.2.2.2.2.2.2.2.1, S.2.2.2.2.2.2.2.2.2.2.2.2.2.2.2.2.2.2.2.2.2.2.2.2.1, S.2.2.2.2.2.2.2.2.2.2.2.2.2.2.2.2.2.2.2.2.2.2.2.2.2.1, S.2.2.2.2.2.2.2.2.2.2.2.2.2.2.2.2.2.2.2.2.2.2.2.2.2.2.1, S.2.2.2.2.2.2.2.2.2.2.2.2.2.2.2.2.2.2.2.2.2.2.2.2.2.2.2.1, S.2.2.2.2.2.2.2.2.2.2.2.2.2.2.2.2.2.2.2.2.2.2.2.2.2.2.2.2.1, S.2.2.2.2.2.2.2.2.2.2.2.2.2.2.2.2.2.2.2.2.2.2.2.2.2.2.2.2.2.1, S.2.2.2.2.2.2.2.2.2.2.2.2.2.2.2.2.2.2.2.2.2.2.2.2.2.2.2.2.2.2.1, x, S.2.2.2.2.2.2.2.2.2.2.2.2.2.2.2.2.2.2.2.2.2.2.2.2.2.2.2.2.2.2.2.2)
def md_set_lots (S : zMd) (x : Int32) : zMd := (S.1, S.2.1, S.2.2.1, S.2.2.2.1, S.2.2.2.2.1, S.2.2.2.2.2.1, S.2.2.2.2.2.2.1, S.2.2.2.2.2.2.2.1, S.2.2.2.2.2.2.2.2.1, S.2.2.2.2.2.2.2.2.2.1, S.2.2.2.2.2.2.2.2.2.2.1, S.2.2.2.2.2.2.2.2.2.2.2.1, S.2.2.2.2.2.2.2.2.2.2.2.2.1, S.2.2.2.2.2.2.2.2.2.2.2.2.2.1, S.2.2.2.2.2.2.2.2.2.2.2.2.2.2.1, S.2.2.2.2.2.2.2.2.2.2.2.2.2.2.2.1, S.2.2.2.2.2.2.2.2.2.2.2.2.2.2.2.2.1, S.2.2.2.2.2.2.2.2.2.2.2.2.2.2.2.2.2.1, S.2.2.2.2.2.2.2.2.2.2.2.2.2.2.2.2.2.2.1, S.2.2.2.2.2.2.2.2.2.2.2.2.2.2.2.2.2.2.2.1, S.2.2.2.2.2.2.2.2.2.2.2.2.2.2.2.2.2.2.2.2.1, S.2.2.2.2.2.2.2.2.2.2.2.2.2.2.2.2.2.2.2.2.2.1, S.2.2.2.2.2.2.2.2.2.2.2.2.2.2.2.2.2.2.2.2.2.2.1, S.2.2.2.2.2.2.2.2.2.2.2.2.2.2.2.2.2.2.2.2.2.2.2.1, S.2.2.2.2.2.2.2.2.2.2.2.2.2.2.2.2.2.2.2.2.2.2.2.2.1, S.2.2.2.2.2.2.2.2.2.2.2.2.2.2.2.2.2.2.2.2.2.2.2.2.2.1, S.2.2.2.2.2.2.2.2.2.2.2.2.2.2.2.2.2.2.2.2.2.2.2.2.2.2.1, S.2.2.2.2.2.2.2.2.2.2.2.2.2.2.2.2.2.2.2.2.2.2.2.2.2.2.2.1, S.2.2.2.2.2.2.2.2.2.2.2.2.2.2.2.2.2.2.2.2.2.2.2.2.2.2.2.2.1, S.2.2.2.2.2.2.2.2.2.2.2.2.2.2.2.2.2.2.2.2.2.2.2.2.2.2.2.2.2.1, S.2.2.2.2.2.2.2.2.2.2.2.2.2.2.2.2.2.2.2.2.2.2.2.2.2.2.2.2.2.2.1, S.2.2.2.2.2.2.2.2.2.2.2.2.2.2.2.2.2.2.2.2.2.2.2.2.2.2.2.2.2.2.2.1, x)
def cMd (K : zK) (a0 a1 a2 a3 a4 a5 a6 a7 a8 a9 a10 a11 a12 a13 a14 a15 a16 a17 a18 a19 : Nat) (S : zMd) : va_W := [(a0, .inr (7, [.ref a1, .ref a2, .ref a3, .ref a4, .ref a5, .ref a6, .ref a7, .ref a8, .ref a9, .int (md_houses S), .int (md_sums S), .int (md_falls S), .ref a10, .ref a11, .ref a12, .ref a13, .int (md_taped S), .int (md_reading S), .int (md_statements S), .int (md_telling S), .ref a14, .int (md_hasImage S), .int (md_isKeeping S), .int (md_cursor S), .ref a15, .int (md_wanted S), .int (md_goal S), .ref a16, .ref a17, .ref a18, .ref a19, .int (md_rowMany S), .int (md_lots S)])), (a1, .inl (K.2.1.1, 7, .inl (md_refused S))), (a2, .inl (K.2.1.1, 12, .inl (md_number S))), (a3, .inl (K.2.1.1, 12, .inl (md_kind S))), (a4, .inl (K.2.1.1, 12, .inl (md_figure S))), (a5, .inl (K.2.1.1, 12, .inl (md_one S))), (a6, .inl (K.2.1.1, 12, .inl (md_other S))), (a7, .inl (K.2.1.1, 12, .inl (md_stands S))), (a8, .inl (K.2.1.1, 12, .inl (md_uses S))), (a9, .inl (K.2.1.1, 12, .inl (md_earned S))), (a10, .inl (K.2.1.1, 64, .inl (md_tape S))), (a11, .inl (K.2.1.1, 33, .inl (md_sort S))), (a12, .inl (K.2.1.1, 33, .inl (md_sortAt S))), (a13, .inl (K.2.1.1, 132, .inl (md_told S))), (a14, .inl (K.2.1.1, 400, .inl (md_kept S))), (a15, .inl (K.2.1.1, 16, .inl (md_tried S))), (a16, .inl (K.2.1.1, 301, .inl (md_byFactors S))), (a17, .inl (K.2.1.1, 4096, .inl (md_ways S))), (a18, .inl (K.2.1.1, 8192, .inl (md_wins S))), (a19, .inl (K.2.1.1, 12, .inl (md_row S)))]
end
section
def fJ6_bitCount_0f7a4_j48 (v0 : Int32) : Int32 :=
  (v0 &&& (63 : Int32))
def fJ6_bitCount_0f7a4_j41 (v0 : Int32) : Int32 :=
  fJ6_bitCount_0f7a4_j48 (v0 + (v0.toUInt32 >>> ((16 : Int32).toUInt32 &&& Int32.toUInt32 31)).toInt32)
def fJ6_bitCount_0f7a4_j34 (v0 : Int32) : Int32 :=
  fJ6_bitCount_0f7a4_j41 (v0 + (v0.toUInt32 >>> ((8 : Int32).toUInt32 &&& Int32.toUInt32 31)).toInt32)
def fJ6_bitCount_0f7a4_j24 (v0 : Int32) : Int32 :=
  fJ6_bitCount_0f7a4_j34 ((v0 + (v0.toUInt32 >>> ((4 : Int32).toUInt32 &&& Int32.toUInt32 31)).toInt32) &&& (252645135 : Int32))
def fJ6_bitCount_0f7a4_j10 (v0 : Int32) : Int32 :=
  fJ6_bitCount_0f7a4_j24 ((v0 &&& (858993459 : Int32)) + ((v0.toUInt32 >>> ((2 : Int32).toUInt32 &&& Int32.toUInt32 31)).toInt32 &&& (858993459 : Int32)))
def fJ6_bitCount_0f7a4 (p0 : Int32) : Int32 :=
  fJ6_bitCount_0f7a4_j10 (p0 - ((p0.toUInt32 >>> ((1 : Int32).toUInt32 &&& Int32.toUInt32 31)).toInt32 &&& (1431655765 : Int32)))
theorem mmJ6_bitCount_0f7a4_0 : Cond.constant RJ6 267 (252645135) ∈ wsJ6_bitCount_0f7a4 := by decide +kernel
theorem mmJ6_bitCount_0f7a4_1 : Cond.constant RJ6 266 (858993459) ∈ wsJ6_bitCount_0f7a4 := by decide +kernel
theorem mmJ6_bitCount_0f7a4_2 : Cond.constant RJ6 265 (1431655765) ∈ wsJ6_bitCount_0f7a4 := by decide +kernel
theorem hdJ6_bitCount_0f7a4 : yJ6_bitCount_0f7a4.cls ≠ "java/lang/invoke/MethodHandle" ∧ yJ6_bitCount_0f7a4.cls ≠ "java/lang/invoke/VarHandle" ∧ (parseMethodDescriptor yJ6_bitCount_0f7a4.desc).map (fun d => d.parameters.length) = some 1 := by decide +kernel
set_option maxHeartbeats 4000000 in
set_option maxRecDepth 100000 in
theorem kJ6_bitCount_0f7a4 (l : Launch) (K : zK) (p0 : Int32) (R : Int32) (hf : fJ6_bitCount_0f7a4 p0 = R) : zC l yJ6_bitCount_0f7a4 wsJ6_bitCount_0f7a4 ({ frames := 0, cells := 0, slots := 0, locals := 0 } : Room) K [.int p0] ([]) (some (.int R)) ([]) := by
  refine zC_i R (cc := cJ6_bitCount_0f7a4) (maxL := 1) (by decide +kernel) rfl (Nat.le_of_ble_eq_true rfl) rfl rfl ?_
  intro p e s m below meth c Q A X hret ls hl hh
  have X : zX p m c cJ6_bitCount_0f7a4 1 s ([.int p0] : List Value).toArray wsJ6_bitCount_0f7a4 RJ6 K A := X
  have hx := X.1.1
  have hb := X.1.2.1
  have hr2 : ∀ (pc : Nat) (ls : Array Slot) (H : Heap) (locs : List Loc) (v : Int32), v = R → decode cJ6_bitCount_0f7a4 pc = .ok (.ireturn, 1) → zW K A s H locs ([]) → W p l e ({ frames := 0, cells := 0, slots := 0, locals := 0 } : Room) s m ([.int p0] : List Value).toArray below meth c H locs 0 0 Q (F0 m pc ls [.int v]) := by
    intro pc ls H locs v h hd hh
    cases h; exact hret pc ls H locs _ rfl hd hh
  have hl : lv_has ls 1 [(0, .int p0)] := hl
  have hJ48 : ∀ (v0 : Int32), ∀ (H : Heap) (locs : List Loc) (ls : Array Slot), fJ6_bitCount_0f7a4_j48 v0 = R → lv_has ls 1 [(0, .int v0)] → zW K A s H locs ([]) → W p l e ({ frames := 0, cells := 0, slots := 0, locals := 0 } : Room) s m ([.int p0] : List Value).toArray below meth c H locs 0 0 Q (F0 m 48 ls []) := by
    intro v0 H locs ls hf hl hh
    unfold fJ6_bitCount_0f7a4_j48 at hf
    refine lv_iload_n hx hb dJ6_bitCount_0f7a4_48 rfl (lv_at hl 0 rfl) ?_
    refine lv_bipush (v := (63 : Int32)) hx hb dJ6_bitCount_0f7a4_49 (by decide) ?_
    refine lv_iand hx hb dJ6_bitCount_0f7a4_51 ?_
    exact hr2 52 ls H locs (v0 &&& (63 : Int32)) hf dJ6_bitCount_0f7a4_52 hh
  have hJ41 : ∀ (v0 : Int32), ∀ (H : Heap) (locs : List Loc) (ls : Array Slot), fJ6_bitCount_0f7a4_j41 v0 = R → lv_has ls 1 [(0, .int v0)] → zW K A s H locs ([]) → W p l e ({ frames := 0, cells := 0, slots := 0, locals := 0 } : Room) s m ([.int p0] : List Value).toArray below meth c H locs 0 0 Q (F0 m 41 ls []) := by
    intro v0 H locs ls hf hl hh
    unfold fJ6_bitCount_0f7a4_j41 at hf
    refine lv_iload_n hx hb dJ6_bitCount_0f7a4_41 rfl (lv_at hl 0 rfl) ?_
    refine lv_iload_n hx hb dJ6_bitCount_0f7a4_42 rfl (lv_at hl 0 rfl) ?_
    refine lv_bipush (v := (16 : Int32)) hx hb dJ6_bitCount_0f7a4_43 (by decide) ?_
    refine lv_iushr (v := (v0.toUInt32 >>> ((16 : Int32).toUInt32 &&& Int32.toUInt32 31)).toInt32) hx hb dJ6_bitCount_0f7a4_45 rfl ?_
    refine lv_iadd hx hb dJ6_bitCount_0f7a4_46 ?_
    refine lv_istore_n (lv' := [(0, .int (v0 + (v0.toUInt32 >>> ((16 : Int32).toUInt32 &&& Int32.toUInt32 31)).toInt32))]) hx hb dJ6_bitCount_0f7a4_47 rfl hl (by decide) rfl (fun ls hl => ?_)
    exact hJ48 (v0 + (v0.toUInt32 >>> ((16 : Int32).toUInt32 &&& Int32.toUInt32 31)).toInt32) H locs ls hf (lv_sub hl [0] rfl) hh
  have hJ34 : ∀ (v0 : Int32), ∀ (H : Heap) (locs : List Loc) (ls : Array Slot), fJ6_bitCount_0f7a4_j34 v0 = R → lv_has ls 1 [(0, .int v0)] → zW K A s H locs ([]) → W p l e ({ frames := 0, cells := 0, slots := 0, locals := 0 } : Room) s m ([.int p0] : List Value).toArray below meth c H locs 0 0 Q (F0 m 34 ls []) := by
    intro v0 H locs ls hf hl hh
    unfold fJ6_bitCount_0f7a4_j34 at hf
    refine lv_iload_n hx hb dJ6_bitCount_0f7a4_34 rfl (lv_at hl 0 rfl) ?_
    refine lv_iload_n hx hb dJ6_bitCount_0f7a4_35 rfl (lv_at hl 0 rfl) ?_
    refine lv_bipush (v := (8 : Int32)) hx hb dJ6_bitCount_0f7a4_36 (by decide) ?_
    refine lv_iushr (v := (v0.toUInt32 >>> ((8 : Int32).toUInt32 &&& Int32.toUInt32 31)).toInt32) hx hb dJ6_bitCount_0f7a4_38 rfl ?_
    refine lv_iadd hx hb dJ6_bitCount_0f7a4_39 ?_
    refine lv_istore_n (lv' := [(0, .int (v0 + (v0.toUInt32 >>> ((8 : Int32).toUInt32 &&& Int32.toUInt32 31)).toInt32))]) hx hb dJ6_bitCount_0f7a4_40 rfl hl (by decide) rfl (fun ls hl => ?_)
    exact hJ41 (v0 + (v0.toUInt32 >>> ((8 : Int32).toUInt32 &&& Int32.toUInt32 31)).toInt32) H locs ls hf (lv_sub hl [0] rfl) hh
  have hJ24 : ∀ (v0 : Int32), ∀ (H : Heap) (locs : List Loc) (ls : Array Slot), fJ6_bitCount_0f7a4_j24 v0 = R → lv_has ls 1 [(0, .int v0)] → zW K A s H locs ([]) → W p l e ({ frames := 0, cells := 0, slots := 0, locals := 0 } : Room) s m ([.int p0] : List Value).toArray below meth c H locs 0 0 Q (F0 m 24 ls []) := by
    intro v0 H locs ls hf hl hh
    unfold fJ6_bitCount_0f7a4_j24 at hf
    refine lv_iload_n hx hb dJ6_bitCount_0f7a4_24 rfl (lv_at hl 0 rfl) ?_
    refine lv_iload_n hx hb dJ6_bitCount_0f7a4_25 rfl (lv_at hl 0 rfl) ?_
    refine lv_iconst (v := (4 : Int32)) hx hb dJ6_bitCount_0f7a4_26 (by decide) ?_
    refine lv_iushr (v := (v0.toUInt32 >>> ((4 : Int32).toUInt32 &&& Int32.toUInt32 31)).toInt32) hx hb dJ6_bitCount_0f7a4_27 rfl ?_
    refine lv_iadd hx hb dJ6_bitCount_0f7a4_28 ?_
    refine lv_ldcw (v := (252645135 : Int32)) hx hb X.1.2.2.2.1 (X.1.2.2.2.2 _ mmJ6_bitCount_0f7a4_0) dJ6_bitCount_0f7a4_29 ?_
    refine lv_iand hx hb dJ6_bitCount_0f7a4_32 ?_
    refine lv_istore_n (lv' := [(0, .int ((v0 + (v0.toUInt32 >>> ((4 : Int32).toUInt32 &&& Int32.toUInt32 31)).toInt32) &&& (252645135 : Int32)))]) hx hb dJ6_bitCount_0f7a4_33 rfl hl (by decide) rfl (fun ls hl => ?_)
    exact hJ34 ((v0 + (v0.toUInt32 >>> ((4 : Int32).toUInt32 &&& Int32.toUInt32 31)).toInt32) &&& (252645135 : Int32)) H locs ls hf (lv_sub hl [0] rfl) hh
  have hJ10 : ∀ (v0 : Int32), ∀ (H : Heap) (locs : List Loc) (ls : Array Slot), fJ6_bitCount_0f7a4_j10 v0 = R → lv_has ls 1 [(0, .int v0)] → zW K A s H locs ([]) → W p l e ({ frames := 0, cells := 0, slots := 0, locals := 0 } : Room) s m ([.int p0] : List Value).toArray below meth c H locs 0 0 Q (F0 m 10 ls []) := by
    intro v0 H locs ls hf hl hh
    unfold fJ6_bitCount_0f7a4_j10 at hf
    refine lv_iload_n hx hb dJ6_bitCount_0f7a4_10 rfl (lv_at hl 0 rfl) ?_
    refine lv_ldcw (v := (858993459 : Int32)) hx hb X.1.2.2.2.1 (X.1.2.2.2.2 _ mmJ6_bitCount_0f7a4_1) dJ6_bitCount_0f7a4_11 ?_
    refine lv_iand hx hb dJ6_bitCount_0f7a4_14 ?_
    refine lv_iload_n hx hb dJ6_bitCount_0f7a4_15 rfl (lv_at hl 0 rfl) ?_
    refine lv_iconst (v := (2 : Int32)) hx hb dJ6_bitCount_0f7a4_16 (by decide) ?_
    refine lv_iushr (v := (v0.toUInt32 >>> ((2 : Int32).toUInt32 &&& Int32.toUInt32 31)).toInt32) hx hb dJ6_bitCount_0f7a4_17 rfl ?_
    refine lv_ldcw (v := (858993459 : Int32)) hx hb X.1.2.2.2.1 (X.1.2.2.2.2 _ mmJ6_bitCount_0f7a4_1) dJ6_bitCount_0f7a4_18 ?_
    refine lv_iand hx hb dJ6_bitCount_0f7a4_21 ?_
    refine lv_iadd hx hb dJ6_bitCount_0f7a4_22 ?_
    refine lv_istore_n (lv' := [(0, .int ((v0 &&& (858993459 : Int32)) + ((v0.toUInt32 >>> ((2 : Int32).toUInt32 &&& Int32.toUInt32 31)).toInt32 &&& (858993459 : Int32))))]) hx hb dJ6_bitCount_0f7a4_23 rfl hl (by decide) rfl (fun ls hl => ?_)
    exact hJ24 ((v0 &&& (858993459 : Int32)) + ((v0.toUInt32 >>> ((2 : Int32).toUInt32 &&& Int32.toUInt32 31)).toInt32 &&& (858993459 : Int32))) H locs ls hf (lv_sub hl [0] rfl) hh
  unfold fJ6_bitCount_0f7a4 at hf
  refine (fun (hmain : ∀ (H : Heap) (locs : List Loc), zW K A s H locs ([]) → W p l e ({ frames := 0, cells := 0, slots := 0, locals := 0 } : Room) s m ([.int p0] : List Value).toArray below meth c H locs 0 0 Q (F0 m 0 ls [])) => hmain s.heap [] hh) (fun H locs hh => ?_)
  refine lv_iload_n hx hb dJ6_bitCount_0f7a4_0 rfl (lv_at hl 0 rfl) ?_
  refine lv_iload_n hx hb dJ6_bitCount_0f7a4_1 rfl (lv_at hl 0 rfl) ?_
  refine lv_iconst (v := (1 : Int32)) hx hb dJ6_bitCount_0f7a4_2 (by decide) ?_
  refine lv_iushr (v := (p0.toUInt32 >>> ((1 : Int32).toUInt32 &&& Int32.toUInt32 31)).toInt32) hx hb dJ6_bitCount_0f7a4_3 rfl ?_
  refine lv_ldcw (v := (1431655765 : Int32)) hx hb X.1.2.2.2.1 (X.1.2.2.2.2 _ mmJ6_bitCount_0f7a4_2) dJ6_bitCount_0f7a4_4 ?_
  refine lv_iand hx hb dJ6_bitCount_0f7a4_7 ?_
  refine lv_isub hx hb dJ6_bitCount_0f7a4_8 ?_
  refine lv_istore_n (lv' := [(0, .int (p0 - ((p0.toUInt32 >>> ((1 : Int32).toUInt32 &&& Int32.toUInt32 31)).toInt32 &&& (1431655765 : Int32))))]) hx hb dJ6_bitCount_0f7a4_9 rfl hl (by decide) rfl (fun ls hl => ?_)
  exact hJ10 (p0 - ((p0.toUInt32 >>> ((1 : Int32).toUInt32 &&& Int32.toUInt32 31)).toInt32 &&& (1431655765 : Int32))) H locs ls hf (lv_sub hl [0] rfl) hh
def fJ6_numberOfLeadingZeros_0f7a4_j61 (v0 : Int32) (v1 : Int32) : Int32 :=
  if v0 < (4 : Int32) then
  ((v1 - (v0.toUInt32 >>> ((1 : Int32).toUInt32 &&& Int32.toUInt32 31)).toInt32))
  else
  (((v1 + (-2 : Int32)) - ((v0.toUInt32 >>> ((2 : Int32).toUInt32 &&& Int32.toUInt32 31)).toInt32.toUInt32 >>> ((1 : Int32).toUInt32 &&& Int32.toUInt32 31)).toInt32))
def fJ6_numberOfLeadingZeros_0f7a4_j48 (v0 : Int32) (v1 : Int32) : Int32 :=
  if v0 < (16 : Int32) then
  (fJ6_numberOfLeadingZeros_0f7a4_j61 v0 v1)
  else
  (fJ6_numberOfLeadingZeros_0f7a4_j61 (v0.toUInt32 >>> ((4 : Int32).toUInt32 &&& Int32.toUInt32 31)).toInt32 (v1 + (-4 : Int32)))
def fJ6_numberOfLeadingZeros_0f7a4_j33 (v0 : Int32) (v1 : Int32) : Int32 :=
  if v0 < (256 : Int32) then
  (fJ6_numberOfLeadingZeros_0f7a4_j48 v0 v1)
  else
  (fJ6_numberOfLeadingZeros_0f7a4_j48 (v0.toUInt32 >>> ((8 : Int32).toUInt32 &&& Int32.toUInt32 31)).toInt32 (v1 + (-8 : Int32)))
def fJ6_numberOfLeadingZeros_0f7a4 (p0 : Int32) : Int32 :=
  if (0 : Int32) < p0 then
  (if p0 < (65536 : Int32) then
  (fJ6_numberOfLeadingZeros_0f7a4_j33 p0 (31 : Int32))
  else
  (fJ6_numberOfLeadingZeros_0f7a4_j33 (p0.toUInt32 >>> ((16 : Int32).toUInt32 &&& Int32.toUInt32 31)).toInt32 ((31 : Int32) + (-16 : Int32))))
  else
  (if p0 = (0 : Int32) then
  ((32 : Int32))
  else
  ((0 : Int32)))
theorem mmJ6_numberOfLeadingZeros_0f7a4_0 : Cond.constant RJ6 264 (65536) ∈ wsJ6_numberOfLeadingZeros_0f7a4 := by decide +kernel
theorem hdJ6_numberOfLeadingZeros_0f7a4 : yJ6_numberOfLeadingZeros_0f7a4.cls ≠ "java/lang/invoke/MethodHandle" ∧ yJ6_numberOfLeadingZeros_0f7a4.cls ≠ "java/lang/invoke/VarHandle" ∧ (parseMethodDescriptor yJ6_numberOfLeadingZeros_0f7a4.desc).map (fun d => d.parameters.length) = some 1 := by decide +kernel
set_option maxHeartbeats 4000000 in
set_option maxRecDepth 100000 in
theorem kJ6_numberOfLeadingZeros_0f7a4 (l : Launch) (K : zK) (p0 : Int32) (R : Int32) (hf : fJ6_numberOfLeadingZeros_0f7a4 p0 = R) : zC l yJ6_numberOfLeadingZeros_0f7a4 wsJ6_numberOfLeadingZeros_0f7a4 ({ frames := 0, cells := 0, slots := 0, locals := 0 } : Room) K [.int p0] ([]) (some (.int R)) ([]) := by
  refine zC_i R (cc := cJ6_numberOfLeadingZeros_0f7a4) (maxL := 2) (by decide +kernel) rfl (Nat.le_of_ble_eq_true rfl) rfl rfl ?_
  intro p e s m below meth c Q A X hret ls hl hh
  have X : zX p m c cJ6_numberOfLeadingZeros_0f7a4 2 s ([.int p0] : List Value).toArray wsJ6_numberOfLeadingZeros_0f7a4 RJ6 K A := X
  have hx := X.1.1
  have hb := X.1.2.1
  have hr2 : ∀ (pc : Nat) (ls : Array Slot) (H : Heap) (locs : List Loc) (v : Int32), v = R → decode cJ6_numberOfLeadingZeros_0f7a4 pc = .ok (.ireturn, 1) → zW K A s H locs ([]) → W p l e ({ frames := 0, cells := 0, slots := 0, locals := 0 } : Room) s m ([.int p0] : List Value).toArray below meth c H locs 0 0 Q (F0 m pc ls [.int v]) := by
    intro pc ls H locs v h hd hh
    cases h; exact hret pc ls H locs _ rfl hd hh
  have hl : lv_has ls 2 [(0, .int p0)] := hl
  have hJ61 : ∀ (v0 : Int32) (v1 : Int32), ∀ (H : Heap) (locs : List Loc) (ls : Array Slot), fJ6_numberOfLeadingZeros_0f7a4_j61 v0 v1 = R → lv_has ls 2 [(0, .int v0), (1, .int v1)] → zW K A s H locs ([]) → W p l e ({ frames := 0, cells := 0, slots := 0, locals := 0 } : Room) s m ([.int p0] : List Value).toArray below meth c H locs 0 0 Q (F0 m 61 ls []) := by
    intro v0 v1 H locs ls hf hl hh
    unfold fJ6_numberOfLeadingZeros_0f7a4_j61 at hf
    refine lv_iload_n hx hb dJ6_numberOfLeadingZeros_0f7a4_61 rfl (lv_at hl 0 rfl) ?_
    refine lv_iconst (v := (4 : Int32)) hx hb dJ6_numberOfLeadingZeros_0f7a4_62 (by decide) ?_
    refine lv_icmp_lt (tgt := 73) hx hb dJ6_numberOfLeadingZeros_0f7a4_63 (by decide) (fun c1 => ?_) (fun c1 => ?_)
    · replace hf := (if_pos c1).symm.trans hf
      refine lv_iload_n hx hb dJ6_numberOfLeadingZeros_0f7a4_73 rfl (lv_at hl 1 rfl) ?_
      refine lv_iload_n hx hb dJ6_numberOfLeadingZeros_0f7a4_74 rfl (lv_at hl 0 rfl) ?_
      refine lv_iconst (v := (1 : Int32)) hx hb dJ6_numberOfLeadingZeros_0f7a4_75 (by decide) ?_
      refine lv_iushr (v := (v0.toUInt32 >>> ((1 : Int32).toUInt32 &&& Int32.toUInt32 31)).toInt32) hx hb dJ6_numberOfLeadingZeros_0f7a4_76 rfl ?_
      refine lv_isub hx hb dJ6_numberOfLeadingZeros_0f7a4_77 ?_
      exact hr2 78 ls H locs (v1 - (v0.toUInt32 >>> ((1 : Int32).toUInt32 &&& Int32.toUInt32 31)).toInt32) hf dJ6_numberOfLeadingZeros_0f7a4_78 hh
    · replace hf := (if_neg c1).symm.trans hf
      refine lv_iinc (v := (v1 + (-2 : Int32))) (lv' := [(1, .int (v1 + (-2 : Int32))), (0, .int v0)]) hx hb dJ6_numberOfLeadingZeros_0f7a4_66 hl (k := 1) rfl rfl (by decide) rfl (fun ls hl => ?_)
      refine lv_iload_n hx hb dJ6_numberOfLeadingZeros_0f7a4_69 rfl (lv_at hl 1 rfl) ?_
      refine lv_iconst (v := (2 : Int32)) hx hb dJ6_numberOfLeadingZeros_0f7a4_70 (by decide) ?_
      refine lv_iushr (v := (v0.toUInt32 >>> ((2 : Int32).toUInt32 &&& Int32.toUInt32 31)).toInt32) hx hb dJ6_numberOfLeadingZeros_0f7a4_71 rfl ?_
      refine lv_istore_n (lv' := [(0, .int (v0.toUInt32 >>> ((2 : Int32).toUInt32 &&& Int32.toUInt32 31)).toInt32), (1, .int (v1 + (-2 : Int32)))]) hx hb dJ6_numberOfLeadingZeros_0f7a4_72 rfl hl (by decide) rfl (fun ls hl => ?_)
      refine lv_iload_n hx hb dJ6_numberOfLeadingZeros_0f7a4_73 rfl (lv_at hl 1 rfl) ?_
      refine lv_iload_n hx hb dJ6_numberOfLeadingZeros_0f7a4_74 rfl (lv_at hl 0 rfl) ?_
      refine lv_iconst (v := (1 : Int32)) hx hb dJ6_numberOfLeadingZeros_0f7a4_75 (by decide) ?_
      refine lv_iushr (v := ((v0.toUInt32 >>> ((2 : Int32).toUInt32 &&& Int32.toUInt32 31)).toInt32.toUInt32 >>> ((1 : Int32).toUInt32 &&& Int32.toUInt32 31)).toInt32) hx hb dJ6_numberOfLeadingZeros_0f7a4_76 rfl ?_
      refine lv_isub hx hb dJ6_numberOfLeadingZeros_0f7a4_77 ?_
      exact hr2 78 ls H locs ((v1 + (-2 : Int32)) - ((v0.toUInt32 >>> ((2 : Int32).toUInt32 &&& Int32.toUInt32 31)).toInt32.toUInt32 >>> ((1 : Int32).toUInt32 &&& Int32.toUInt32 31)).toInt32) hf dJ6_numberOfLeadingZeros_0f7a4_78 hh
  have hJ48 : ∀ (v0 : Int32) (v1 : Int32), ∀ (H : Heap) (locs : List Loc) (ls : Array Slot), fJ6_numberOfLeadingZeros_0f7a4_j48 v0 v1 = R → lv_has ls 2 [(0, .int v0), (1, .int v1)] → zW K A s H locs ([]) → W p l e ({ frames := 0, cells := 0, slots := 0, locals := 0 } : Room) s m ([.int p0] : List Value).toArray below meth c H locs 0 0 Q (F0 m 48 ls []) := by
    intro v0 v1 H locs ls hf hl hh
    unfold fJ6_numberOfLeadingZeros_0f7a4_j48 at hf
    refine lv_iload_n hx hb dJ6_numberOfLeadingZeros_0f7a4_48 rfl (lv_at hl 0 rfl) ?_
    refine lv_bipush (v := (16 : Int32)) hx hb dJ6_numberOfLeadingZeros_0f7a4_49 (by decide) ?_
    refine lv_icmp_lt (tgt := 61) hx hb dJ6_numberOfLeadingZeros_0f7a4_51 (by decide) (fun c2 => ?_) (fun c2 => ?_)
    · replace hf := (if_pos c2).symm.trans hf
      exact hJ61 v0 v1 H locs ls hf (lv_sub hl [0, 1] rfl) hh
    · replace hf := (if_neg c2).symm.trans hf
      refine lv_iinc (v := (v1 + (-4 : Int32))) (lv' := [(1, .int (v1 + (-4 : Int32))), (0, .int v0)]) hx hb dJ6_numberOfLeadingZeros_0f7a4_54 hl (k := 1) rfl rfl (by decide) rfl (fun ls hl => ?_)
      refine lv_iload_n hx hb dJ6_numberOfLeadingZeros_0f7a4_57 rfl (lv_at hl 1 rfl) ?_
      refine lv_iconst (v := (4 : Int32)) hx hb dJ6_numberOfLeadingZeros_0f7a4_58 (by decide) ?_
      refine lv_iushr (v := (v0.toUInt32 >>> ((4 : Int32).toUInt32 &&& Int32.toUInt32 31)).toInt32) hx hb dJ6_numberOfLeadingZeros_0f7a4_59 rfl ?_
      refine lv_istore_n (lv' := [(0, .int (v0.toUInt32 >>> ((4 : Int32).toUInt32 &&& Int32.toUInt32 31)).toInt32), (1, .int (v1 + (-4 : Int32)))]) hx hb dJ6_numberOfLeadingZeros_0f7a4_60 rfl hl (by decide) rfl (fun ls hl => ?_)
      exact hJ61 (v0.toUInt32 >>> ((4 : Int32).toUInt32 &&& Int32.toUInt32 31)).toInt32 (v1 + (-4 : Int32)) H locs ls hf (lv_sub hl [0, 1] rfl) hh
  have hJ33 : ∀ (v0 : Int32) (v1 : Int32), ∀ (H : Heap) (locs : List Loc) (ls : Array Slot), fJ6_numberOfLeadingZeros_0f7a4_j33 v0 v1 = R → lv_has ls 2 [(0, .int v0), (1, .int v1)] → zW K A s H locs ([]) → W p l e ({ frames := 0, cells := 0, slots := 0, locals := 0 } : Room) s m ([.int p0] : List Value).toArray below meth c H locs 0 0 Q (F0 m 33 ls []) := by
    intro v0 v1 H locs ls hf hl hh
    unfold fJ6_numberOfLeadingZeros_0f7a4_j33 at hf
    refine lv_iload_n hx hb dJ6_numberOfLeadingZeros_0f7a4_33 rfl (lv_at hl 0 rfl) ?_
    refine lv_sipush (v := (256 : Int32)) hx hb dJ6_numberOfLeadingZeros_0f7a4_34 (by decide) ?_
    refine lv_icmp_lt (tgt := 48) hx hb dJ6_numberOfLeadingZeros_0f7a4_37 (by decide) (fun c3 => ?_) (fun c3 => ?_)
    · replace hf := (if_pos c3).symm.trans hf
      exact hJ48 v0 v1 H locs ls hf (lv_sub hl [0, 1] rfl) hh
    · replace hf := (if_neg c3).symm.trans hf
      refine lv_iinc (v := (v1 + (-8 : Int32))) (lv' := [(1, .int (v1 + (-8 : Int32))), (0, .int v0)]) hx hb dJ6_numberOfLeadingZeros_0f7a4_40 hl (k := 1) rfl rfl (by decide) rfl (fun ls hl => ?_)
      refine lv_iload_n hx hb dJ6_numberOfLeadingZeros_0f7a4_43 rfl (lv_at hl 1 rfl) ?_
      refine lv_bipush (v := (8 : Int32)) hx hb dJ6_numberOfLeadingZeros_0f7a4_44 (by decide) ?_
      refine lv_iushr (v := (v0.toUInt32 >>> ((8 : Int32).toUInt32 &&& Int32.toUInt32 31)).toInt32) hx hb dJ6_numberOfLeadingZeros_0f7a4_46 rfl ?_
      refine lv_istore_n (lv' := [(0, .int (v0.toUInt32 >>> ((8 : Int32).toUInt32 &&& Int32.toUInt32 31)).toInt32), (1, .int (v1 + (-8 : Int32)))]) hx hb dJ6_numberOfLeadingZeros_0f7a4_47 rfl hl (by decide) rfl (fun ls hl => ?_)
      exact hJ48 (v0.toUInt32 >>> ((8 : Int32).toUInt32 &&& Int32.toUInt32 31)).toInt32 (v1 + (-8 : Int32)) H locs ls hf (lv_sub hl [0, 1] rfl) hh
  unfold fJ6_numberOfLeadingZeros_0f7a4 at hf
  refine (fun (hmain : ∀ (H : Heap) (locs : List Loc), zW K A s H locs ([]) → W p l e ({ frames := 0, cells := 0, slots := 0, locals := 0 } : Room) s m ([.int p0] : List Value).toArray below meth c H locs 0 0 Q (F0 m 0 ls [])) => hmain s.heap [] hh) (fun H locs hh => ?_)
  refine lv_iload_n hx hb dJ6_numberOfLeadingZeros_0f7a4_0 rfl (lv_at hl 0 rfl) ?_
  refine lv_if_gt (tgt := 15) hx hb dJ6_numberOfLeadingZeros_0f7a4_1 (by decide) (fun c4 => ?_) (fun c4 => ?_)
  · replace hf := (if_pos c4).symm.trans hf
    refine lv_bipush (v := (31 : Int32)) hx hb dJ6_numberOfLeadingZeros_0f7a4_15 (by decide) ?_
    refine lv_istore_n (lv' := [(1, .int (31 : Int32)), (0, .int p0)]) hx hb dJ6_numberOfLeadingZeros_0f7a4_17 rfl hl (by decide) rfl (fun ls hl => ?_)
    refine lv_iload_n hx hb dJ6_numberOfLeadingZeros_0f7a4_18 rfl (lv_at hl 1 rfl) ?_
    refine lv_ldcw (v := (65536 : Int32)) hx hb X.1.2.2.2.1 (X.1.2.2.2.2 _ mmJ6_numberOfLeadingZeros_0f7a4_0) dJ6_numberOfLeadingZeros_0f7a4_19 ?_
    refine lv_icmp_lt (tgt := 33) hx hb dJ6_numberOfLeadingZeros_0f7a4_22 (by decide) (fun c5 => ?_) (fun c5 => ?_)
    · replace hf := (if_pos c5).symm.trans hf
      exact hJ33 p0 (31 : Int32) H locs ls hf (lv_sub hl [1, 0] rfl) hh
    · replace hf := (if_neg c5).symm.trans hf
      refine lv_iinc (v := ((31 : Int32) + (-16 : Int32))) (lv' := [(1, .int ((31 : Int32) + (-16 : Int32))), (0, .int p0)]) hx hb dJ6_numberOfLeadingZeros_0f7a4_25 hl (k := 0) rfl rfl (by decide) rfl (fun ls hl => ?_)
      refine lv_iload_n hx hb dJ6_numberOfLeadingZeros_0f7a4_28 rfl (lv_at hl 1 rfl) ?_
      refine lv_bipush (v := (16 : Int32)) hx hb dJ6_numberOfLeadingZeros_0f7a4_29 (by decide) ?_
      refine lv_iushr (v := (p0.toUInt32 >>> ((16 : Int32).toUInt32 &&& Int32.toUInt32 31)).toInt32) hx hb dJ6_numberOfLeadingZeros_0f7a4_31 rfl ?_
      refine lv_istore_n (lv' := [(0, .int (p0.toUInt32 >>> ((16 : Int32).toUInt32 &&& Int32.toUInt32 31)).toInt32), (1, .int ((31 : Int32) + (-16 : Int32)))]) hx hb dJ6_numberOfLeadingZeros_0f7a4_32 rfl hl (by decide) rfl (fun ls hl => ?_)
      exact hJ33 (p0.toUInt32 >>> ((16 : Int32).toUInt32 &&& Int32.toUInt32 31)).toInt32 ((31 : Int32) + (-16 : Int32)) H locs ls hf (lv_sub hl [0, 1] rfl) hh
  · replace hf := (if_neg c4).symm.trans hf
    refine lv_iload_n hx hb dJ6_numberOfLeadingZeros_0f7a4_4 rfl (lv_at hl 0 rfl) ?_
    refine lv_if_ne (tgt := 13) hx hb dJ6_numberOfLeadingZeros_0f7a4_5 (by decide) (fun c6 => ?_) (fun c6 => ?_)
    · replace hf := (if_neg c6).symm.trans hf
      refine lv_iconst (v := (0 : Int32)) hx hb dJ6_numberOfLeadingZeros_0f7a4_13 (by decide) ?_
      exact hr2 14 ls H locs (0 : Int32) hf dJ6_numberOfLeadingZeros_0f7a4_14 hh
    · replace hf := (if_pos c6).symm.trans hf
      refine lv_bipush (v := (32 : Int32)) hx hb dJ6_numberOfLeadingZeros_0f7a4_8 (by decide) ?_
      refine lv_goto (tgt := 14) hx hb dJ6_numberOfLeadingZeros_0f7a4_10 (by decide) ?_
      exact hr2 14 ls H locs (32 : Int32) hf dJ6_numberOfLeadingZeros_0f7a4_14 hh
def fJ6_numberOfTrailingZeros_0f7a4_j62 (v0 : Int32) (v1 : Int32) : Int32 :=
  if v0 ≤ (4 : Int32) then
  ((v1 + (v0.toUInt32 >>> ((1 : Int32).toUInt32 &&& Int32.toUInt32 31)).toInt32))
  else
  (((v1 + (2 : Int32)) + ((v0.toUInt32 >>> ((2 : Int32).toUInt32 &&& Int32.toUInt32 31)).toInt32.toUInt32 >>> ((1 : Int32).toUInt32 &&& Int32.toUInt32 31)).toInt32))
def fJ6_numberOfTrailingZeros_0f7a4_j49 (v0 : Int32) (v1 : Int32) : Int32 :=
  if v0 ≤ (16 : Int32) then
  (fJ6_numberOfTrailingZeros_0f7a4_j62 v0 v1)
  else
  (fJ6_numberOfTrailingZeros_0f7a4_j62 (v0.toUInt32 >>> ((4 : Int32).toUInt32 &&& Int32.toUInt32 31)).toInt32 (v1 + (4 : Int32)))
def fJ6_numberOfTrailingZeros_0f7a4_j34 (v0 : Int32) (v1 : Int32) : Int32 :=
  if v0 ≤ (256 : Int32) then
  (fJ6_numberOfTrailingZeros_0f7a4_j49 v0 v1)
  else
  (fJ6_numberOfTrailingZeros_0f7a4_j49 (v0.toUInt32 >>> ((8 : Int32).toUInt32 &&& Int32.toUInt32 31)).toInt32 (v1 + (8 : Int32)))
def fJ6_numberOfTrailingZeros_0f7a4 (p0 : Int32) : Int32 :=
  if (0 : Int32) < ((p0 ^^^ (-1 : Int32)) &&& (p0 - (1 : Int32))) then
  (if ((p0 ^^^ (-1 : Int32)) &&& (p0 - (1 : Int32))) ≤ (65536 : Int32) then
  (fJ6_numberOfTrailingZeros_0f7a4_j34 ((p0 ^^^ (-1 : Int32)) &&& (p0 - (1 : Int32))) (1 : Int32))
  else
  (fJ6_numberOfTrailingZeros_0f7a4_j34 (((p0 ^^^ (-1 : Int32)) &&& (p0 - (1 : Int32))).toUInt32 >>> ((16 : Int32).toUInt32 &&& Int32.toUInt32 31)).toInt32 ((1 : Int32) + (16 : Int32))))
  else
  ((((p0 ^^^ (-1 : Int32)) &&& (p0 - (1 : Int32))) &&& (32 : Int32)))
theorem mmJ6_numberOfTrailingZeros_0f7a4_0 : Cond.constant RJ6 264 (65536) ∈ wsJ6_numberOfTrailingZeros_0f7a4 := by decide +kernel
theorem hdJ6_numberOfTrailingZeros_0f7a4 : yJ6_numberOfTrailingZeros_0f7a4.cls ≠ "java/lang/invoke/MethodHandle" ∧ yJ6_numberOfTrailingZeros_0f7a4.cls ≠ "java/lang/invoke/VarHandle" ∧ (parseMethodDescriptor yJ6_numberOfTrailingZeros_0f7a4.desc).map (fun d => d.parameters.length) = some 1 := by decide +kernel
set_option maxHeartbeats 4000000 in
set_option maxRecDepth 100000 in
theorem kJ6_numberOfTrailingZeros_0f7a4 (l : Launch) (K : zK) (p0 : Int32) (R : Int32) (hf : fJ6_numberOfTrailingZeros_0f7a4 p0 = R) : zC l yJ6_numberOfTrailingZeros_0f7a4 wsJ6_numberOfTrailingZeros_0f7a4 ({ frames := 0, cells := 0, slots := 0, locals := 0 } : Room) K [.int p0] ([]) (some (.int R)) ([]) := by
  refine zC_i R (cc := cJ6_numberOfTrailingZeros_0f7a4) (maxL := 2) (by decide +kernel) rfl (Nat.le_of_ble_eq_true rfl) rfl rfl ?_
  intro p e s m below meth c Q A X hret ls hl hh
  have X : zX p m c cJ6_numberOfTrailingZeros_0f7a4 2 s ([.int p0] : List Value).toArray wsJ6_numberOfTrailingZeros_0f7a4 RJ6 K A := X
  have hx := X.1.1
  have hb := X.1.2.1
  have hr2 : ∀ (pc : Nat) (ls : Array Slot) (H : Heap) (locs : List Loc) (v : Int32), v = R → decode cJ6_numberOfTrailingZeros_0f7a4 pc = .ok (.ireturn, 1) → zW K A s H locs ([]) → W p l e ({ frames := 0, cells := 0, slots := 0, locals := 0 } : Room) s m ([.int p0] : List Value).toArray below meth c H locs 0 0 Q (F0 m pc ls [.int v]) := by
    intro pc ls H locs v h hd hh
    cases h; exact hret pc ls H locs _ rfl hd hh
  have hl : lv_has ls 2 [(0, .int p0)] := hl
  have hJ62 : ∀ (v0 : Int32) (v1 : Int32), ∀ (H : Heap) (locs : List Loc) (ls : Array Slot), fJ6_numberOfTrailingZeros_0f7a4_j62 v0 v1 = R → lv_has ls 2 [(0, .int v0), (1, .int v1)] → zW K A s H locs ([]) → W p l e ({ frames := 0, cells := 0, slots := 0, locals := 0 } : Room) s m ([.int p0] : List Value).toArray below meth c H locs 0 0 Q (F0 m 62 ls []) := by
    intro v0 v1 H locs ls hf hl hh
    unfold fJ6_numberOfTrailingZeros_0f7a4_j62 at hf
    refine lv_iload_n hx hb dJ6_numberOfTrailingZeros_0f7a4_62 rfl (lv_at hl 0 rfl) ?_
    refine lv_iconst (v := (4 : Int32)) hx hb dJ6_numberOfTrailingZeros_0f7a4_63 (by decide) ?_
    refine lv_icmp_le (tgt := 74) hx hb dJ6_numberOfTrailingZeros_0f7a4_64 (by decide) (fun c1 => ?_) (fun c1 => ?_)
    · replace hf := (if_pos c1).symm.trans hf
      refine lv_iload_n hx hb dJ6_numberOfTrailingZeros_0f7a4_74 rfl (lv_at hl 1 rfl) ?_
      refine lv_iload_n hx hb dJ6_numberOfTrailingZeros_0f7a4_75 rfl (lv_at hl 0 rfl) ?_
      refine lv_iconst (v := (1 : Int32)) hx hb dJ6_numberOfTrailingZeros_0f7a4_76 (by decide) ?_
      refine lv_iushr (v := (v0.toUInt32 >>> ((1 : Int32).toUInt32 &&& Int32.toUInt32 31)).toInt32) hx hb dJ6_numberOfTrailingZeros_0f7a4_77 rfl ?_
      refine lv_iadd hx hb dJ6_numberOfTrailingZeros_0f7a4_78 ?_
      exact hr2 79 ls H locs (v1 + (v0.toUInt32 >>> ((1 : Int32).toUInt32 &&& Int32.toUInt32 31)).toInt32) hf dJ6_numberOfTrailingZeros_0f7a4_79 hh
    · replace hf := (if_neg c1).symm.trans hf
      refine lv_iinc (v := (v1 + (2 : Int32))) (lv' := [(1, .int (v1 + (2 : Int32))), (0, .int v0)]) hx hb dJ6_numberOfTrailingZeros_0f7a4_67 hl (k := 1) rfl rfl (by decide) rfl (fun ls hl => ?_)
      refine lv_iload_n hx hb dJ6_numberOfTrailingZeros_0f7a4_70 rfl (lv_at hl 1 rfl) ?_
      refine lv_iconst (v := (2 : Int32)) hx hb dJ6_numberOfTrailingZeros_0f7a4_71 (by decide) ?_
      refine lv_iushr (v := (v0.toUInt32 >>> ((2 : Int32).toUInt32 &&& Int32.toUInt32 31)).toInt32) hx hb dJ6_numberOfTrailingZeros_0f7a4_72 rfl ?_
      refine lv_istore_n (lv' := [(0, .int (v0.toUInt32 >>> ((2 : Int32).toUInt32 &&& Int32.toUInt32 31)).toInt32), (1, .int (v1 + (2 : Int32)))]) hx hb dJ6_numberOfTrailingZeros_0f7a4_73 rfl hl (by decide) rfl (fun ls hl => ?_)
      refine lv_iload_n hx hb dJ6_numberOfTrailingZeros_0f7a4_74 rfl (lv_at hl 1 rfl) ?_
      refine lv_iload_n hx hb dJ6_numberOfTrailingZeros_0f7a4_75 rfl (lv_at hl 0 rfl) ?_
      refine lv_iconst (v := (1 : Int32)) hx hb dJ6_numberOfTrailingZeros_0f7a4_76 (by decide) ?_
      refine lv_iushr (v := ((v0.toUInt32 >>> ((2 : Int32).toUInt32 &&& Int32.toUInt32 31)).toInt32.toUInt32 >>> ((1 : Int32).toUInt32 &&& Int32.toUInt32 31)).toInt32) hx hb dJ6_numberOfTrailingZeros_0f7a4_77 rfl ?_
      refine lv_iadd hx hb dJ6_numberOfTrailingZeros_0f7a4_78 ?_
      exact hr2 79 ls H locs ((v1 + (2 : Int32)) + ((v0.toUInt32 >>> ((2 : Int32).toUInt32 &&& Int32.toUInt32 31)).toInt32.toUInt32 >>> ((1 : Int32).toUInt32 &&& Int32.toUInt32 31)).toInt32) hf dJ6_numberOfTrailingZeros_0f7a4_79 hh
  have hJ49 : ∀ (v0 : Int32) (v1 : Int32), ∀ (H : Heap) (locs : List Loc) (ls : Array Slot), fJ6_numberOfTrailingZeros_0f7a4_j49 v0 v1 = R → lv_has ls 2 [(0, .int v0), (1, .int v1)] → zW K A s H locs ([]) → W p l e ({ frames := 0, cells := 0, slots := 0, locals := 0 } : Room) s m ([.int p0] : List Value).toArray below meth c H locs 0 0 Q (F0 m 49 ls []) := by
    intro v0 v1 H locs ls hf hl hh
    unfold fJ6_numberOfTrailingZeros_0f7a4_j49 at hf
    refine lv_iload_n hx hb dJ6_numberOfTrailingZeros_0f7a4_49 rfl (lv_at hl 0 rfl) ?_
    refine lv_bipush (v := (16 : Int32)) hx hb dJ6_numberOfTrailingZeros_0f7a4_50 (by decide) ?_
    refine lv_icmp_le (tgt := 62) hx hb dJ6_numberOfTrailingZeros_0f7a4_52 (by decide) (fun c2 => ?_) (fun c2 => ?_)
    · replace hf := (if_pos c2).symm.trans hf
      exact hJ62 v0 v1 H locs ls hf (lv_sub hl [0, 1] rfl) hh
    · replace hf := (if_neg c2).symm.trans hf
      refine lv_iinc (v := (v1 + (4 : Int32))) (lv' := [(1, .int (v1 + (4 : Int32))), (0, .int v0)]) hx hb dJ6_numberOfTrailingZeros_0f7a4_55 hl (k := 1) rfl rfl (by decide) rfl (fun ls hl => ?_)
      refine lv_iload_n hx hb dJ6_numberOfTrailingZeros_0f7a4_58 rfl (lv_at hl 1 rfl) ?_
      refine lv_iconst (v := (4 : Int32)) hx hb dJ6_numberOfTrailingZeros_0f7a4_59 (by decide) ?_
      refine lv_iushr (v := (v0.toUInt32 >>> ((4 : Int32).toUInt32 &&& Int32.toUInt32 31)).toInt32) hx hb dJ6_numberOfTrailingZeros_0f7a4_60 rfl ?_
      refine lv_istore_n (lv' := [(0, .int (v0.toUInt32 >>> ((4 : Int32).toUInt32 &&& Int32.toUInt32 31)).toInt32), (1, .int (v1 + (4 : Int32)))]) hx hb dJ6_numberOfTrailingZeros_0f7a4_61 rfl hl (by decide) rfl (fun ls hl => ?_)
      exact hJ62 (v0.toUInt32 >>> ((4 : Int32).toUInt32 &&& Int32.toUInt32 31)).toInt32 (v1 + (4 : Int32)) H locs ls hf (lv_sub hl [0, 1] rfl) hh
  have hJ34 : ∀ (v0 : Int32) (v1 : Int32), ∀ (H : Heap) (locs : List Loc) (ls : Array Slot), fJ6_numberOfTrailingZeros_0f7a4_j34 v0 v1 = R → lv_has ls 2 [(0, .int v0), (1, .int v1)] → zW K A s H locs ([]) → W p l e ({ frames := 0, cells := 0, slots := 0, locals := 0 } : Room) s m ([.int p0] : List Value).toArray below meth c H locs 0 0 Q (F0 m 34 ls []) := by
    intro v0 v1 H locs ls hf hl hh
    unfold fJ6_numberOfTrailingZeros_0f7a4_j34 at hf
    refine lv_iload_n hx hb dJ6_numberOfTrailingZeros_0f7a4_34 rfl (lv_at hl 0 rfl) ?_
    refine lv_sipush (v := (256 : Int32)) hx hb dJ6_numberOfTrailingZeros_0f7a4_35 (by decide) ?_
    refine lv_icmp_le (tgt := 49) hx hb dJ6_numberOfTrailingZeros_0f7a4_38 (by decide) (fun c3 => ?_) (fun c3 => ?_)
    · replace hf := (if_pos c3).symm.trans hf
      exact hJ49 v0 v1 H locs ls hf (lv_sub hl [0, 1] rfl) hh
    · replace hf := (if_neg c3).symm.trans hf
      refine lv_iinc (v := (v1 + (8 : Int32))) (lv' := [(1, .int (v1 + (8 : Int32))), (0, .int v0)]) hx hb dJ6_numberOfTrailingZeros_0f7a4_41 hl (k := 1) rfl rfl (by decide) rfl (fun ls hl => ?_)
      refine lv_iload_n hx hb dJ6_numberOfTrailingZeros_0f7a4_44 rfl (lv_at hl 1 rfl) ?_
      refine lv_bipush (v := (8 : Int32)) hx hb dJ6_numberOfTrailingZeros_0f7a4_45 (by decide) ?_
      refine lv_iushr (v := (v0.toUInt32 >>> ((8 : Int32).toUInt32 &&& Int32.toUInt32 31)).toInt32) hx hb dJ6_numberOfTrailingZeros_0f7a4_47 rfl ?_
      refine lv_istore_n (lv' := [(0, .int (v0.toUInt32 >>> ((8 : Int32).toUInt32 &&& Int32.toUInt32 31)).toInt32), (1, .int (v1 + (8 : Int32)))]) hx hb dJ6_numberOfTrailingZeros_0f7a4_48 rfl hl (by decide) rfl (fun ls hl => ?_)
      exact hJ49 (v0.toUInt32 >>> ((8 : Int32).toUInt32 &&& Int32.toUInt32 31)).toInt32 (v1 + (8 : Int32)) H locs ls hf (lv_sub hl [0, 1] rfl) hh
  unfold fJ6_numberOfTrailingZeros_0f7a4 at hf
  refine (fun (hmain : ∀ (H : Heap) (locs : List Loc), zW K A s H locs ([]) → W p l e ({ frames := 0, cells := 0, slots := 0, locals := 0 } : Room) s m ([.int p0] : List Value).toArray below meth c H locs 0 0 Q (F0 m 0 ls [])) => hmain s.heap [] hh) (fun H locs hh => ?_)
  refine lv_iload_n hx hb dJ6_numberOfTrailingZeros_0f7a4_0 rfl (lv_at hl 0 rfl) ?_
  refine lv_iconst (v := (-1 : Int32)) hx hb dJ6_numberOfTrailingZeros_0f7a4_1 (by decide) ?_
  refine lv_ixor hx hb dJ6_numberOfTrailingZeros_0f7a4_2 ?_
  refine lv_iload_n hx hb dJ6_numberOfTrailingZeros_0f7a4_3 rfl (lv_at hl 0 rfl) ?_
  refine lv_iconst (v := (1 : Int32)) hx hb dJ6_numberOfTrailingZeros_0f7a4_4 (by decide) ?_
  refine lv_isub hx hb dJ6_numberOfTrailingZeros_0f7a4_5 ?_
  refine lv_iand hx hb dJ6_numberOfTrailingZeros_0f7a4_6 ?_
  refine lv_istore_n (lv' := [(0, .int ((p0 ^^^ (-1 : Int32)) &&& (p0 - (1 : Int32))))]) hx hb dJ6_numberOfTrailingZeros_0f7a4_7 rfl hl (by decide) rfl (fun ls hl => ?_)
  refine lv_iload_n hx hb dJ6_numberOfTrailingZeros_0f7a4_8 rfl (lv_at hl 0 rfl) ?_
  refine lv_if_gt (tgt := 17) hx hb dJ6_numberOfTrailingZeros_0f7a4_9 (by decide) (fun c4 => ?_) (fun c4 => ?_)
  · replace hf := (if_pos c4).symm.trans hf
    refine lv_iconst (v := (1 : Int32)) hx hb dJ6_numberOfTrailingZeros_0f7a4_17 (by decide) ?_
    refine lv_istore_n (lv' := [(1, .int (1 : Int32)), (0, .int ((p0 ^^^ (-1 : Int32)) &&& (p0 - (1 : Int32))))]) hx hb dJ6_numberOfTrailingZeros_0f7a4_18 rfl hl (by decide) rfl (fun ls hl => ?_)
    refine lv_iload_n hx hb dJ6_numberOfTrailingZeros_0f7a4_19 rfl (lv_at hl 1 rfl) ?_
    refine lv_ldcw (v := (65536 : Int32)) hx hb X.1.2.2.2.1 (X.1.2.2.2.2 _ mmJ6_numberOfTrailingZeros_0f7a4_0) dJ6_numberOfTrailingZeros_0f7a4_20 ?_
    refine lv_icmp_le (tgt := 34) hx hb dJ6_numberOfTrailingZeros_0f7a4_23 (by decide) (fun c5 => ?_) (fun c5 => ?_)
    · replace hf := (if_pos c5).symm.trans hf
      exact hJ34 ((p0 ^^^ (-1 : Int32)) &&& (p0 - (1 : Int32))) (1 : Int32) H locs ls hf (lv_sub hl [1, 0] rfl) hh
    · replace hf := (if_neg c5).symm.trans hf
      refine lv_iinc (v := ((1 : Int32) + (16 : Int32))) (lv' := [(1, .int ((1 : Int32) + (16 : Int32))), (0, .int ((p0 ^^^ (-1 : Int32)) &&& (p0 - (1 : Int32))))]) hx hb dJ6_numberOfTrailingZeros_0f7a4_26 hl (k := 0) rfl rfl (by decide) rfl (fun ls hl => ?_)
      refine lv_iload_n hx hb dJ6_numberOfTrailingZeros_0f7a4_29 rfl (lv_at hl 1 rfl) ?_
      refine lv_bipush (v := (16 : Int32)) hx hb dJ6_numberOfTrailingZeros_0f7a4_30 (by decide) ?_
      refine lv_iushr (v := (((p0 ^^^ (-1 : Int32)) &&& (p0 - (1 : Int32))).toUInt32 >>> ((16 : Int32).toUInt32 &&& Int32.toUInt32 31)).toInt32) hx hb dJ6_numberOfTrailingZeros_0f7a4_32 rfl ?_
      refine lv_istore_n (lv' := [(0, .int (((p0 ^^^ (-1 : Int32)) &&& (p0 - (1 : Int32))).toUInt32 >>> ((16 : Int32).toUInt32 &&& Int32.toUInt32 31)).toInt32), (1, .int ((1 : Int32) + (16 : Int32)))]) hx hb dJ6_numberOfTrailingZeros_0f7a4_33 rfl hl (by decide) rfl (fun ls hl => ?_)
      exact hJ34 (((p0 ^^^ (-1 : Int32)) &&& (p0 - (1 : Int32))).toUInt32 >>> ((16 : Int32).toUInt32 &&& Int32.toUInt32 31)).toInt32 ((1 : Int32) + (16 : Int32)) H locs ls hf (lv_sub hl [0, 1] rfl) hh
  · replace hf := (if_neg c4).symm.trans hf
    refine lv_iload_n hx hb dJ6_numberOfTrailingZeros_0f7a4_12 rfl (lv_at hl 0 rfl) ?_
    refine lv_bipush (v := (32 : Int32)) hx hb dJ6_numberOfTrailingZeros_0f7a4_13 (by decide) ?_
    refine lv_iand hx hb dJ6_numberOfTrailingZeros_0f7a4_15 ?_
    exact hr2 16 ls H locs (((p0 ^^^ (-1 : Int32)) &&& (p0 - (1 : Int32))) &&& (32 : Int32)) hf dJ6_numberOfTrailingZeros_0f7a4_16 hh
def fJ13_bitCount_95d88 (p0 : Int64) : Int32 :=
  (((((((((p0 - ((p0.toUInt64 >>> ((1 : Int32).toInt64.toUInt64 &&& Int64.toUInt64 63)).toInt64 &&& (6148914691236517205 : Int64))) &&& (3689348814741910323 : Int64)) + (((p0 - ((p0.toUInt64 >>> ((1 : Int32).toInt64.toUInt64 &&& Int64.toUInt64 63)).toInt64 &&& (6148914691236517205 : Int64))).toUInt64 >>> ((2 : Int32).toInt64.toUInt64 &&& Int64.toUInt64 63)).toInt64 &&& (3689348814741910323 : Int64))) + ((((p0 - ((p0.toUInt64 >>> ((1 : Int32).toInt64.toUInt64 &&& Int64.toUInt64 63)).toInt64 &&& (6148914691236517205 : Int64))) &&& (3689348814741910323 : Int64)) + (((p0 - ((p0.toUInt64 >>> ((1 : Int32).toInt64.toUInt64 &&& Int64.toUInt64 63)).toInt64 &&& (6148914691236517205 : Int64))).toUInt64 >>> ((2 : Int32).toInt64.toUInt64 &&& Int64.toUInt64 63)).toInt64 &&& (3689348814741910323 : Int64))).toUInt64 >>> ((4 : Int32).toInt64.toUInt64 &&& Int64.toUInt64 63)).toInt64) &&& (1085102592571150095 : Int64)) + ((((((p0 - ((p0.toUInt64 >>> ((1 : Int32).toInt64.toUInt64 &&& Int64.toUInt64 63)).toInt64 &&& (6148914691236517205 : Int64))) &&& (3689348814741910323 : Int64)) + (((p0 - ((p0.toUInt64 >>> ((1 : Int32).toInt64.toUInt64 &&& Int64.toUInt64 63)).toInt64 &&& (6148914691236517205 : Int64))).toUInt64 >>> ((2 : Int32).toInt64.toUInt64 &&& Int64.toUInt64 63)).toInt64 &&& (3689348814741910323 : Int64))) + ((((p0 - ((p0.toUInt64 >>> ((1 : Int32).toInt64.toUInt64 &&& Int64.toUInt64 63)).toInt64 &&& (6148914691236517205 : Int64))) &&& (3689348814741910323 : Int64)) + (((p0 - ((p0.toUInt64 >>> ((1 : Int32).toInt64.toUInt64 &&& Int64.toUInt64 63)).toInt64 &&& (6148914691236517205 : Int64))).toUInt64 >>> ((2 : Int32).toInt64.toUInt64 &&& Int64.toUInt64 63)).toInt64 &&& (3689348814741910323 : Int64))).toUInt64 >>> ((4 : Int32).toInt64.toUInt64 &&& Int64.toUInt64 63)).toInt64) &&& (1085102592571150095 : Int64)).toUInt64 >>> ((8 : Int32).toInt64.toUInt64 &&& Int64.toUInt64 63)).toInt64) + (((((((p0 - ((p0.toUInt64 >>> ((1 : Int32).toInt64.toUInt64 &&& Int64.toUInt64 63)).toInt64 &&& (6148914691236517205 : Int64))) &&& (3689348814741910323 : Int64)) + (((p0 - ((p0.toUInt64 >>> ((1 : Int32).toInt64.toUInt64 &&& Int64.toUInt64 63)).toInt64 &&& (6148914691236517205 : Int64))).toUInt64 >>> ((2 : Int32).toInt64.toUInt64 &&& Int64.toUInt64 63)).toInt64 &&& (3689348814741910323 : Int64))) + ((((p0 - ((p0.toUInt64 >>> ((1 : Int32).toInt64.toUInt64 &&& Int64.toUInt64 63)).toInt64 &&& (6148914691236517205 : Int64))) &&& (3689348814741910323 : Int64)) + (((p0 - ((p0.toUInt64 >>> ((1 : Int32).toInt64.toUInt64 &&& Int64.toUInt64 63)).toInt64 &&& (6148914691236517205 : Int64))).toUInt64 >>> ((2 : Int32).toInt64.toUInt64 &&& Int64.toUInt64 63)).toInt64 &&& (3689348814741910323 : Int64))).toUInt64 >>> ((4 : Int32).toInt64.toUInt64 &&& Int64.toUInt64 63)).toInt64) &&& (1085102592571150095 : Int64)) + ((((((p0 - ((p0.toUInt64 >>> ((1 : Int32).toInt64.toUInt64 &&& Int64.toUInt64 63)).toInt64 &&& (6148914691236517205 : Int64))) &&& (3689348814741910323 : Int64)) + (((p0 - ((p0.toUInt64 >>> ((1 : Int32).toInt64.toUInt64 &&& Int64.toUInt64 63)).toInt64 &&& (6148914691236517205 : Int64))).toUInt64 >>> ((2 : Int32).toInt64.toUInt64 &&& Int64.toUInt64 63)).toInt64 &&& (3689348814741910323 : Int64))) + ((((p0 - ((p0.toUInt64 >>> ((1 : Int32).toInt64.toUInt64 &&& Int64.toUInt64 63)).toInt64 &&& (6148914691236517205 : Int64))) &&& (3689348814741910323 : Int64)) + (((p0 - ((p0.toUInt64 >>> ((1 : Int32).toInt64.toUInt64 &&& Int64.toUInt64 63)).toInt64 &&& (6148914691236517205 : Int64))).toUInt64 >>> ((2 : Int32).toInt64.toUInt64 &&& Int64.toUInt64 63)).toInt64 &&& (3689348814741910323 : Int64))).toUInt64 >>> ((4 : Int32).toInt64.toUInt64 &&& Int64.toUInt64 63)).toInt64) &&& (1085102592571150095 : Int64)).toUInt64 >>> ((8 : Int32).toInt64.toUInt64 &&& Int64.toUInt64 63)).toInt64).toUInt64 >>> ((16 : Int32).toInt64.toUInt64 &&& Int64.toUInt64 63)).toInt64) + ((((((((p0 - ((p0.toUInt64 >>> ((1 : Int32).toInt64.toUInt64 &&& Int64.toUInt64 63)).toInt64 &&& (6148914691236517205 : Int64))) &&& (3689348814741910323 : Int64)) + (((p0 - ((p0.toUInt64 >>> ((1 : Int32).toInt64.toUInt64 &&& Int64.toUInt64 63)).toInt64 &&& (6148914691236517205 : Int64))).toUInt64 >>> ((2 : Int32).toInt64.toUInt64 &&& Int64.toUInt64 63)).toInt64 &&& (3689348814741910323 : Int64))) + ((((p0 - ((p0.toUInt64 >>> ((1 : Int32).toInt64.toUInt64 &&& Int64.toUInt64 63)).toInt64 &&& (6148914691236517205 : Int64))) &&& (3689348814741910323 : Int64)) + (((p0 - ((p0.toUInt64 >>> ((1 : Int32).toInt64.toUInt64 &&& Int64.toUInt64 63)).toInt64 &&& (6148914691236517205 : Int64))).toUInt64 >>> ((2 : Int32).toInt64.toUInt64 &&& Int64.toUInt64 63)).toInt64 &&& (3689348814741910323 : Int64))).toUInt64 >>> ((4 : Int32).toInt64.toUInt64 &&& Int64.toUInt64 63)).toInt64) &&& (1085102592571150095 : Int64)) + ((((((p0 - ((p0.toUInt64 >>> ((1 : Int32).toInt64.toUInt64 &&& Int64.toUInt64 63)).toInt64 &&& (6148914691236517205 : Int64))) &&& (3689348814741910323 : Int64)) + (((p0 - ((p0.toUInt64 >>> ((1 : Int32).toInt64.toUInt64 &&& Int64.toUInt64 63)).toInt64 &&& (6148914691236517205 : Int64))).toUInt64 >>> ((2 : Int32).toInt64.toUInt64 &&& Int64.toUInt64 63)).toInt64 &&& (3689348814741910323 : Int64))) + ((((p0 - ((p0.toUInt64 >>> ((1 : Int32).toInt64.toUInt64 &&& Int64.toUInt64 63)).toInt64 &&& (6148914691236517205 : Int64))) &&& (3689348814741910323 : Int64)) + (((p0 - ((p0.toUInt64 >>> ((1 : Int32).toInt64.toUInt64 &&& Int64.toUInt64 63)).toInt64 &&& (6148914691236517205 : Int64))).toUInt64 >>> ((2 : Int32).toInt64.toUInt64 &&& Int64.toUInt64 63)).toInt64 &&& (3689348814741910323 : Int64))).toUInt64 >>> ((4 : Int32).toInt64.toUInt64 &&& Int64.toUInt64 63)).toInt64) &&& (1085102592571150095 : Int64)).toUInt64 >>> ((8 : Int32).toInt64.toUInt64 &&& Int64.toUInt64 63)).toInt64) + (((((((p0 - ((p0.toUInt64 >>> ((1 : Int32).toInt64.toUInt64 &&& Int64.toUInt64 63)).toInt64 &&& (6148914691236517205 : Int64))) &&& (3689348814741910323 : Int64)) + (((p0 - ((p0.toUInt64 >>> ((1 : Int32).toInt64.toUInt64 &&& Int64.toUInt64 63)).toInt64 &&& (6148914691236517205 : Int64))).toUInt64 >>> ((2 : Int32).toInt64.toUInt64 &&& Int64.toUInt64 63)).toInt64 &&& (3689348814741910323 : Int64))) + ((((p0 - ((p0.toUInt64 >>> ((1 : Int32).toInt64.toUInt64 &&& Int64.toUInt64 63)).toInt64 &&& (6148914691236517205 : Int64))) &&& (3689348814741910323 : Int64)) + (((p0 - ((p0.toUInt64 >>> ((1 : Int32).toInt64.toUInt64 &&& Int64.toUInt64 63)).toInt64 &&& (6148914691236517205 : Int64))).toUInt64 >>> ((2 : Int32).toInt64.toUInt64 &&& Int64.toUInt64 63)).toInt64 &&& (3689348814741910323 : Int64))).toUInt64 >>> ((4 : Int32).toInt64.toUInt64 &&& Int64.toUInt64 63)).toInt64) &&& (1085102592571150095 : Int64)) + ((((((p0 - ((p0.toUInt64 >>> ((1 : Int32).toInt64.toUInt64 &&& Int64.toUInt64 63)).toInt64 &&& (6148914691236517205 : Int64))) &&& (3689348814741910323 : Int64)) + (((p0 - ((p0.toUInt64 >>> ((1 : Int32).toInt64.toUInt64 &&& Int64.toUInt64 63)).toInt64 &&& (6148914691236517205 : Int64))).toUInt64 >>> ((2 : Int32).toInt64.toUInt64 &&& Int64.toUInt64 63)).toInt64 &&& (3689348814741910323 : Int64))) + ((((p0 - ((p0.toUInt64 >>> ((1 : Int32).toInt64.toUInt64 &&& Int64.toUInt64 63)).toInt64 &&& (6148914691236517205 : Int64))) &&& (3689348814741910323 : Int64)) + (((p0 - ((p0.toUInt64 >>> ((1 : Int32).toInt64.toUInt64 &&& Int64.toUInt64 63)).toInt64 &&& (6148914691236517205 : Int64))).toUInt64 >>> ((2 : Int32).toInt64.toUInt64 &&& Int64.toUInt64 63)).toInt64 &&& (3689348814741910323 : Int64))).toUInt64 >>> ((4 : Int32).toInt64.toUInt64 &&& Int64.toUInt64 63)).toInt64) &&& (1085102592571150095 : Int64)).toUInt64 >>> ((8 : Int32).toInt64.toUInt64 &&& Int64.toUInt64 63)).toInt64).toUInt64 >>> ((16 : Int32).toInt64.toUInt64 &&& Int64.toUInt64 63)).toInt64).toUInt64 >>> ((32 : Int32).toInt64.toUInt64 &&& Int64.toUInt64 63)).toInt64).toInt32 &&& (127 : Int32))
theorem mmJ13_bitCount_95d88_0 : Cond.constantLong RJ13 314 (6148914691236517205) ∈ wsJ13_bitCount_95d88 := by decide +kernel
theorem mmJ13_bitCount_95d88_1 : Cond.constantLong RJ13 316 (3689348814741910323) ∈ wsJ13_bitCount_95d88 := by decide +kernel
theorem mmJ13_bitCount_95d88_2 : Cond.constantLong RJ13 318 (1085102592571150095) ∈ wsJ13_bitCount_95d88 := by decide +kernel
theorem hdJ13_bitCount_95d88 : yJ13_bitCount_95d88.cls ≠ "java/lang/invoke/MethodHandle" ∧ yJ13_bitCount_95d88.cls ≠ "java/lang/invoke/VarHandle" ∧ (parseMethodDescriptor yJ13_bitCount_95d88.desc).map (fun d => d.parameters.length) = some 1 := by decide +kernel
set_option maxHeartbeats 4000000 in
set_option maxRecDepth 100000 in
theorem kJ13_bitCount_95d88 (l : Launch) (K : zK) (p0 : Int64) (R : Int32) (hf : fJ13_bitCount_95d88 p0 = R) : zC l yJ13_bitCount_95d88 wsJ13_bitCount_95d88 ({ frames := 0, cells := 0, slots := 0, locals := 0 } : Room) K [.long p0] ([]) (some (.int R)) ([]) := by
  refine zC_i R (cc := cJ13_bitCount_95d88) (maxL := 2) (by decide +kernel) rfl (Nat.le_of_ble_eq_true rfl) rfl rfl ?_
  intro p e s m below meth c Q A X hret ls hl hh
  have X : zX p m c cJ13_bitCount_95d88 2 s ([.long p0] : List Value).toArray wsJ13_bitCount_95d88 RJ13 K A := X
  have hx := X.1.1
  have hb := X.1.2.1
  have hr2 : ∀ (pc : Nat) (ls : Array Slot) (H : Heap) (locs : List Loc) (v : Int32), v = R → decode cJ13_bitCount_95d88 pc = .ok (.ireturn, 1) → zW K A s H locs ([]) → W p l e ({ frames := 0, cells := 0, slots := 0, locals := 0 } : Room) s m ([.long p0] : List Value).toArray below meth c H locs 0 0 Q (F0 m pc ls [.int v]) := by
    intro pc ls H locs v h hd hh
    cases h; exact hret pc ls H locs _ rfl hd hh
  have hl : lv_has ls 2 [(0, .long p0)] := hl
  unfold fJ13_bitCount_95d88 at hf
  refine (fun (hmain : ∀ (H : Heap) (locs : List Loc), zW K A s H locs ([]) → W p l e ({ frames := 0, cells := 0, slots := 0, locals := 0 } : Room) s m ([.long p0] : List Value).toArray below meth c H locs 0 0 Q (F0 m 0 ls [])) => hmain s.heap [] hh) (fun H locs hh => ?_)
  refine lv_lload_n hx hb dJ13_bitCount_95d88_0 rfl (lv_at hl 0 rfl) ?_
  refine lv_lload_n hx hb dJ13_bitCount_95d88_1 rfl (lv_at hl 0 rfl) ?_
  refine lv_iconst (v := (1 : Int32)) hx hb dJ13_bitCount_95d88_2 (by decide) ?_
  refine lv_lushr (v := (p0.toUInt64 >>> ((1 : Int32).toInt64.toUInt64 &&& Int64.toUInt64 63)).toInt64) hx hb dJ13_bitCount_95d88_3 rfl ?_
  refine lv_ldc2 (v := (6148914691236517205 : Int64)) hx hb X.1.2.2.2.1 (X.1.2.2.2.2 _ mmJ13_bitCount_95d88_0) dJ13_bitCount_95d88_4 ?_
  refine lv_land hx hb dJ13_bitCount_95d88_7 ?_
  refine lv_lsub hx hb dJ13_bitCount_95d88_8 ?_
  refine lv_lstore_n (lv' := [(0, .long (p0 - ((p0.toUInt64 >>> ((1 : Int32).toInt64.toUInt64 &&& Int64.toUInt64 63)).toInt64 &&& (6148914691236517205 : Int64))))]) hx hb dJ13_bitCount_95d88_9 rfl hl (by decide) rfl (fun ls hl => ?_)
  refine lv_lload_n hx hb dJ13_bitCount_95d88_10 rfl (lv_at hl 0 rfl) ?_
  refine lv_ldc2 (v := (3689348814741910323 : Int64)) hx hb X.1.2.2.2.1 (X.1.2.2.2.2 _ mmJ13_bitCount_95d88_1) dJ13_bitCount_95d88_11 ?_
  refine lv_land hx hb dJ13_bitCount_95d88_14 ?_
  refine lv_lload_n hx hb dJ13_bitCount_95d88_15 rfl (lv_at hl 0 rfl) ?_
  refine lv_iconst (v := (2 : Int32)) hx hb dJ13_bitCount_95d88_16 (by decide) ?_
  refine lv_lushr (v := ((p0 - ((p0.toUInt64 >>> ((1 : Int32).toInt64.toUInt64 &&& Int64.toUInt64 63)).toInt64 &&& (6148914691236517205 : Int64))).toUInt64 >>> ((2 : Int32).toInt64.toUInt64 &&& Int64.toUInt64 63)).toInt64) hx hb dJ13_bitCount_95d88_17 rfl ?_
  refine lv_ldc2 (v := (3689348814741910323 : Int64)) hx hb X.1.2.2.2.1 (X.1.2.2.2.2 _ mmJ13_bitCount_95d88_1) dJ13_bitCount_95d88_18 ?_
  refine lv_land hx hb dJ13_bitCount_95d88_21 ?_
  refine lv_ladd hx hb dJ13_bitCount_95d88_22 ?_
  refine lv_lstore_n (lv' := [(0, .long (((p0 - ((p0.toUInt64 >>> ((1 : Int32).toInt64.toUInt64 &&& Int64.toUInt64 63)).toInt64 &&& (6148914691236517205 : Int64))) &&& (3689348814741910323 : Int64)) + (((p0 - ((p0.toUInt64 >>> ((1 : Int32).toInt64.toUInt64 &&& Int64.toUInt64 63)).toInt64 &&& (6148914691236517205 : Int64))).toUInt64 >>> ((2 : Int32).toInt64.toUInt64 &&& Int64.toUInt64 63)).toInt64 &&& (3689348814741910323 : Int64))))]) hx hb dJ13_bitCount_95d88_23 rfl hl (by decide) rfl (fun ls hl => ?_)
  refine lv_lload_n hx hb dJ13_bitCount_95d88_24 rfl (lv_at hl 0 rfl) ?_
  refine lv_lload_n hx hb dJ13_bitCount_95d88_25 rfl (lv_at hl 0 rfl) ?_
  refine lv_iconst (v := (4 : Int32)) hx hb dJ13_bitCount_95d88_26 (by decide) ?_
  refine lv_lushr (v := ((((p0 - ((p0.toUInt64 >>> ((1 : Int32).toInt64.toUInt64 &&& Int64.toUInt64 63)).toInt64 &&& (6148914691236517205 : Int64))) &&& (3689348814741910323 : Int64)) + (((p0 - ((p0.toUInt64 >>> ((1 : Int32).toInt64.toUInt64 &&& Int64.toUInt64 63)).toInt64 &&& (6148914691236517205 : Int64))).toUInt64 >>> ((2 : Int32).toInt64.toUInt64 &&& Int64.toUInt64 63)).toInt64 &&& (3689348814741910323 : Int64))).toUInt64 >>> ((4 : Int32).toInt64.toUInt64 &&& Int64.toUInt64 63)).toInt64) hx hb dJ13_bitCount_95d88_27 rfl ?_
  refine lv_ladd hx hb dJ13_bitCount_95d88_28 ?_
  refine lv_ldc2 (v := (1085102592571150095 : Int64)) hx hb X.1.2.2.2.1 (X.1.2.2.2.2 _ mmJ13_bitCount_95d88_2) dJ13_bitCount_95d88_29 ?_
  refine lv_land hx hb dJ13_bitCount_95d88_32 ?_
  refine lv_lstore_n (lv' := [(0, .long (((((p0 - ((p0.toUInt64 >>> ((1 : Int32).toInt64.toUInt64 &&& Int64.toUInt64 63)).toInt64 &&& (6148914691236517205 : Int64))) &&& (3689348814741910323 : Int64)) + (((p0 - ((p0.toUInt64 >>> ((1 : Int32).toInt64.toUInt64 &&& Int64.toUInt64 63)).toInt64 &&& (6148914691236517205 : Int64))).toUInt64 >>> ((2 : Int32).toInt64.toUInt64 &&& Int64.toUInt64 63)).toInt64 &&& (3689348814741910323 : Int64))) + ((((p0 - ((p0.toUInt64 >>> ((1 : Int32).toInt64.toUInt64 &&& Int64.toUInt64 63)).toInt64 &&& (6148914691236517205 : Int64))) &&& (3689348814741910323 : Int64)) + (((p0 - ((p0.toUInt64 >>> ((1 : Int32).toInt64.toUInt64 &&& Int64.toUInt64 63)).toInt64 &&& (6148914691236517205 : Int64))).toUInt64 >>> ((2 : Int32).toInt64.toUInt64 &&& Int64.toUInt64 63)).toInt64 &&& (3689348814741910323 : Int64))).toUInt64 >>> ((4 : Int32).toInt64.toUInt64 &&& Int64.toUInt64 63)).toInt64) &&& (1085102592571150095 : Int64)))]) hx hb dJ13_bitCount_95d88_33 rfl hl (by decide) rfl (fun ls hl => ?_)
  refine lv_lload_n hx hb dJ13_bitCount_95d88_34 rfl (lv_at hl 0 rfl) ?_
  refine lv_lload_n hx hb dJ13_bitCount_95d88_35 rfl (lv_at hl 0 rfl) ?_
  refine lv_bipush (v := (8 : Int32)) hx hb dJ13_bitCount_95d88_36 (by decide) ?_
  refine lv_lushr (v := ((((((p0 - ((p0.toUInt64 >>> ((1 : Int32).toInt64.toUInt64 &&& Int64.toUInt64 63)).toInt64 &&& (6148914691236517205 : Int64))) &&& (3689348814741910323 : Int64)) + (((p0 - ((p0.toUInt64 >>> ((1 : Int32).toInt64.toUInt64 &&& Int64.toUInt64 63)).toInt64 &&& (6148914691236517205 : Int64))).toUInt64 >>> ((2 : Int32).toInt64.toUInt64 &&& Int64.toUInt64 63)).toInt64 &&& (3689348814741910323 : Int64))) + ((((p0 - ((p0.toUInt64 >>> ((1 : Int32).toInt64.toUInt64 &&& Int64.toUInt64 63)).toInt64 &&& (6148914691236517205 : Int64))) &&& (3689348814741910323 : Int64)) + (((p0 - ((p0.toUInt64 >>> ((1 : Int32).toInt64.toUInt64 &&& Int64.toUInt64 63)).toInt64 &&& (6148914691236517205 : Int64))).toUInt64 >>> ((2 : Int32).toInt64.toUInt64 &&& Int64.toUInt64 63)).toInt64 &&& (3689348814741910323 : Int64))).toUInt64 >>> ((4 : Int32).toInt64.toUInt64 &&& Int64.toUInt64 63)).toInt64) &&& (1085102592571150095 : Int64)).toUInt64 >>> ((8 : Int32).toInt64.toUInt64 &&& Int64.toUInt64 63)).toInt64) hx hb dJ13_bitCount_95d88_38 rfl ?_
  refine lv_ladd hx hb dJ13_bitCount_95d88_39 ?_
  refine lv_lstore_n (lv' := [(0, .long ((((((p0 - ((p0.toUInt64 >>> ((1 : Int32).toInt64.toUInt64 &&& Int64.toUInt64 63)).toInt64 &&& (6148914691236517205 : Int64))) &&& (3689348814741910323 : Int64)) + (((p0 - ((p0.toUInt64 >>> ((1 : Int32).toInt64.toUInt64 &&& Int64.toUInt64 63)).toInt64 &&& (6148914691236517205 : Int64))).toUInt64 >>> ((2 : Int32).toInt64.toUInt64 &&& Int64.toUInt64 63)).toInt64 &&& (3689348814741910323 : Int64))) + ((((p0 - ((p0.toUInt64 >>> ((1 : Int32).toInt64.toUInt64 &&& Int64.toUInt64 63)).toInt64 &&& (6148914691236517205 : Int64))) &&& (3689348814741910323 : Int64)) + (((p0 - ((p0.toUInt64 >>> ((1 : Int32).toInt64.toUInt64 &&& Int64.toUInt64 63)).toInt64 &&& (6148914691236517205 : Int64))).toUInt64 >>> ((2 : Int32).toInt64.toUInt64 &&& Int64.toUInt64 63)).toInt64 &&& (3689348814741910323 : Int64))).toUInt64 >>> ((4 : Int32).toInt64.toUInt64 &&& Int64.toUInt64 63)).toInt64) &&& (1085102592571150095 : Int64)) + ((((((p0 - ((p0.toUInt64 >>> ((1 : Int32).toInt64.toUInt64 &&& Int64.toUInt64 63)).toInt64 &&& (6148914691236517205 : Int64))) &&& (3689348814741910323 : Int64)) + (((p0 - ((p0.toUInt64 >>> ((1 : Int32).toInt64.toUInt64 &&& Int64.toUInt64 63)).toInt64 &&& (6148914691236517205 : Int64))).toUInt64 >>> ((2 : Int32).toInt64.toUInt64 &&& Int64.toUInt64 63)).toInt64 &&& (3689348814741910323 : Int64))) + ((((p0 - ((p0.toUInt64 >>> ((1 : Int32).toInt64.toUInt64 &&& Int64.toUInt64 63)).toInt64 &&& (6148914691236517205 : Int64))) &&& (3689348814741910323 : Int64)) + (((p0 - ((p0.toUInt64 >>> ((1 : Int32).toInt64.toUInt64 &&& Int64.toUInt64 63)).toInt64 &&& (6148914691236517205 : Int64))).toUInt64 >>> ((2 : Int32).toInt64.toUInt64 &&& Int64.toUInt64 63)).toInt64 &&& (3689348814741910323 : Int64))).toUInt64 >>> ((4 : Int32).toInt64.toUInt64 &&& Int64.toUInt64 63)).toInt64) &&& (1085102592571150095 : Int64)).toUInt64 >>> ((8 : Int32).toInt64.toUInt64 &&& Int64.toUInt64 63)).toInt64))]) hx hb dJ13_bitCount_95d88_40 rfl hl (by decide) rfl (fun ls hl => ?_)
  refine lv_lload_n hx hb dJ13_bitCount_95d88_41 rfl (lv_at hl 0 rfl) ?_
  refine lv_lload_n hx hb dJ13_bitCount_95d88_42 rfl (lv_at hl 0 rfl) ?_
  refine lv_bipush (v := (16 : Int32)) hx hb dJ13_bitCount_95d88_43 (by decide) ?_
  refine lv_lushr (v := (((((((p0 - ((p0.toUInt64 >>> ((1 : Int32).toInt64.toUInt64 &&& Int64.toUInt64 63)).toInt64 &&& (6148914691236517205 : Int64))) &&& (3689348814741910323 : Int64)) + (((p0 - ((p0.toUInt64 >>> ((1 : Int32).toInt64.toUInt64 &&& Int64.toUInt64 63)).toInt64 &&& (6148914691236517205 : Int64))).toUInt64 >>> ((2 : Int32).toInt64.toUInt64 &&& Int64.toUInt64 63)).toInt64 &&& (3689348814741910323 : Int64))) + ((((p0 - ((p0.toUInt64 >>> ((1 : Int32).toInt64.toUInt64 &&& Int64.toUInt64 63)).toInt64 &&& (6148914691236517205 : Int64))) &&& (3689348814741910323 : Int64)) + (((p0 - ((p0.toUInt64 >>> ((1 : Int32).toInt64.toUInt64 &&& Int64.toUInt64 63)).toInt64 &&& (6148914691236517205 : Int64))).toUInt64 >>> ((2 : Int32).toInt64.toUInt64 &&& Int64.toUInt64 63)).toInt64 &&& (3689348814741910323 : Int64))).toUInt64 >>> ((4 : Int32).toInt64.toUInt64 &&& Int64.toUInt64 63)).toInt64) &&& (1085102592571150095 : Int64)) + ((((((p0 - ((p0.toUInt64 >>> ((1 : Int32).toInt64.toUInt64 &&& Int64.toUInt64 63)).toInt64 &&& (6148914691236517205 : Int64))) &&& (3689348814741910323 : Int64)) + (((p0 - ((p0.toUInt64 >>> ((1 : Int32).toInt64.toUInt64 &&& Int64.toUInt64 63)).toInt64 &&& (6148914691236517205 : Int64))).toUInt64 >>> ((2 : Int32).toInt64.toUInt64 &&& Int64.toUInt64 63)).toInt64 &&& (3689348814741910323 : Int64))) + ((((p0 - ((p0.toUInt64 >>> ((1 : Int32).toInt64.toUInt64 &&& Int64.toUInt64 63)).toInt64 &&& (6148914691236517205 : Int64))) &&& (3689348814741910323 : Int64)) + (((p0 - ((p0.toUInt64 >>> ((1 : Int32).toInt64.toUInt64 &&& Int64.toUInt64 63)).toInt64 &&& (6148914691236517205 : Int64))).toUInt64 >>> ((2 : Int32).toInt64.toUInt64 &&& Int64.toUInt64 63)).toInt64 &&& (3689348814741910323 : Int64))).toUInt64 >>> ((4 : Int32).toInt64.toUInt64 &&& Int64.toUInt64 63)).toInt64) &&& (1085102592571150095 : Int64)).toUInt64 >>> ((8 : Int32).toInt64.toUInt64 &&& Int64.toUInt64 63)).toInt64).toUInt64 >>> ((16 : Int32).toInt64.toUInt64 &&& Int64.toUInt64 63)).toInt64) hx hb dJ13_bitCount_95d88_45 rfl ?_
  refine lv_ladd hx hb dJ13_bitCount_95d88_46 ?_
  refine lv_lstore_n (lv' := [(0, .long (((((((p0 - ((p0.toUInt64 >>> ((1 : Int32).toInt64.toUInt64 &&& Int64.toUInt64 63)).toInt64 &&& (6148914691236517205 : Int64))) &&& (3689348814741910323 : Int64)) + (((p0 - ((p0.toUInt64 >>> ((1 : Int32).toInt64.toUInt64 &&& Int64.toUInt64 63)).toInt64 &&& (6148914691236517205 : Int64))).toUInt64 >>> ((2 : Int32).toInt64.toUInt64 &&& Int64.toUInt64 63)).toInt64 &&& (3689348814741910323 : Int64))) + ((((p0 - ((p0.toUInt64 >>> ((1 : Int32).toInt64.toUInt64 &&& Int64.toUInt64 63)).toInt64 &&& (6148914691236517205 : Int64))) &&& (3689348814741910323 : Int64)) + (((p0 - ((p0.toUInt64 >>> ((1 : Int32).toInt64.toUInt64 &&& Int64.toUInt64 63)).toInt64 &&& (6148914691236517205 : Int64))).toUInt64 >>> ((2 : Int32).toInt64.toUInt64 &&& Int64.toUInt64 63)).toInt64 &&& (3689348814741910323 : Int64))).toUInt64 >>> ((4 : Int32).toInt64.toUInt64 &&& Int64.toUInt64 63)).toInt64) &&& (1085102592571150095 : Int64)) + ((((((p0 - ((p0.toUInt64 >>> ((1 : Int32).toInt64.toUInt64 &&& Int64.toUInt64 63)).toInt64 &&& (6148914691236517205 : Int64))) &&& (3689348814741910323 : Int64)) + (((p0 - ((p0.toUInt64 >>> ((1 : Int32).toInt64.toUInt64 &&& Int64.toUInt64 63)).toInt64 &&& (6148914691236517205 : Int64))).toUInt64 >>> ((2 : Int32).toInt64.toUInt64 &&& Int64.toUInt64 63)).toInt64 &&& (3689348814741910323 : Int64))) + ((((p0 - ((p0.toUInt64 >>> ((1 : Int32).toInt64.toUInt64 &&& Int64.toUInt64 63)).toInt64 &&& (6148914691236517205 : Int64))) &&& (3689348814741910323 : Int64)) + (((p0 - ((p0.toUInt64 >>> ((1 : Int32).toInt64.toUInt64 &&& Int64.toUInt64 63)).toInt64 &&& (6148914691236517205 : Int64))).toUInt64 >>> ((2 : Int32).toInt64.toUInt64 &&& Int64.toUInt64 63)).toInt64 &&& (3689348814741910323 : Int64))).toUInt64 >>> ((4 : Int32).toInt64.toUInt64 &&& Int64.toUInt64 63)).toInt64) &&& (1085102592571150095 : Int64)).toUInt64 >>> ((8 : Int32).toInt64.toUInt64 &&& Int64.toUInt64 63)).toInt64) + (((((((p0 - ((p0.toUInt64 >>> ((1 : Int32).toInt64.toUInt64 &&& Int64.toUInt64 63)).toInt64 &&& (6148914691236517205 : Int64))) &&& (3689348814741910323 : Int64)) + (((p0 - ((p0.toUInt64 >>> ((1 : Int32).toInt64.toUInt64 &&& Int64.toUInt64 63)).toInt64 &&& (6148914691236517205 : Int64))).toUInt64 >>> ((2 : Int32).toInt64.toUInt64 &&& Int64.toUInt64 63)).toInt64 &&& (3689348814741910323 : Int64))) + ((((p0 - ((p0.toUInt64 >>> ((1 : Int32).toInt64.toUInt64 &&& Int64.toUInt64 63)).toInt64 &&& (6148914691236517205 : Int64))) &&& (3689348814741910323 : Int64)) + (((p0 - ((p0.toUInt64 >>> ((1 : Int32).toInt64.toUInt64 &&& Int64.toUInt64 63)).toInt64 &&& (6148914691236517205 : Int64))).toUInt64 >>> ((2 : Int32).toInt64.toUInt64 &&& Int64.toUInt64 63)).toInt64 &&& (3689348814741910323 : Int64))).toUInt64 >>> ((4 : Int32).toInt64.toUInt64 &&& Int64.toUInt64 63)).toInt64) &&& (1085102592571150095 : Int64)) + ((((((p0 - ((p0.toUInt64 >>> ((1 : Int32).toInt64.toUInt64 &&& Int64.toUInt64 63)).toInt64 &&& (6148914691236517205 : Int64))) &&& (3689348814741910323 : Int64)) + (((p0 - ((p0.toUInt64 >>> ((1 : Int32).toInt64.toUInt64 &&& Int64.toUInt64 63)).toInt64 &&& (6148914691236517205 : Int64))).toUInt64 >>> ((2 : Int32).toInt64.toUInt64 &&& Int64.toUInt64 63)).toInt64 &&& (3689348814741910323 : Int64))) + ((((p0 - ((p0.toUInt64 >>> ((1 : Int32).toInt64.toUInt64 &&& Int64.toUInt64 63)).toInt64 &&& (6148914691236517205 : Int64))) &&& (3689348814741910323 : Int64)) + (((p0 - ((p0.toUInt64 >>> ((1 : Int32).toInt64.toUInt64 &&& Int64.toUInt64 63)).toInt64 &&& (6148914691236517205 : Int64))).toUInt64 >>> ((2 : Int32).toInt64.toUInt64 &&& Int64.toUInt64 63)).toInt64 &&& (3689348814741910323 : Int64))).toUInt64 >>> ((4 : Int32).toInt64.toUInt64 &&& Int64.toUInt64 63)).toInt64) &&& (1085102592571150095 : Int64)).toUInt64 >>> ((8 : Int32).toInt64.toUInt64 &&& Int64.toUInt64 63)).toInt64).toUInt64 >>> ((16 : Int32).toInt64.toUInt64 &&& Int64.toUInt64 63)).toInt64))]) hx hb dJ13_bitCount_95d88_47 rfl hl (by decide) rfl (fun ls hl => ?_)
  refine lv_lload_n hx hb dJ13_bitCount_95d88_48 rfl (lv_at hl 0 rfl) ?_
  refine lv_lload_n hx hb dJ13_bitCount_95d88_49 rfl (lv_at hl 0 rfl) ?_
  refine lv_bipush (v := (32 : Int32)) hx hb dJ13_bitCount_95d88_50 (by decide) ?_
  refine lv_lushr (v := ((((((((p0 - ((p0.toUInt64 >>> ((1 : Int32).toInt64.toUInt64 &&& Int64.toUInt64 63)).toInt64 &&& (6148914691236517205 : Int64))) &&& (3689348814741910323 : Int64)) + (((p0 - ((p0.toUInt64 >>> ((1 : Int32).toInt64.toUInt64 &&& Int64.toUInt64 63)).toInt64 &&& (6148914691236517205 : Int64))).toUInt64 >>> ((2 : Int32).toInt64.toUInt64 &&& Int64.toUInt64 63)).toInt64 &&& (3689348814741910323 : Int64))) + ((((p0 - ((p0.toUInt64 >>> ((1 : Int32).toInt64.toUInt64 &&& Int64.toUInt64 63)).toInt64 &&& (6148914691236517205 : Int64))) &&& (3689348814741910323 : Int64)) + (((p0 - ((p0.toUInt64 >>> ((1 : Int32).toInt64.toUInt64 &&& Int64.toUInt64 63)).toInt64 &&& (6148914691236517205 : Int64))).toUInt64 >>> ((2 : Int32).toInt64.toUInt64 &&& Int64.toUInt64 63)).toInt64 &&& (3689348814741910323 : Int64))).toUInt64 >>> ((4 : Int32).toInt64.toUInt64 &&& Int64.toUInt64 63)).toInt64) &&& (1085102592571150095 : Int64)) + ((((((p0 - ((p0.toUInt64 >>> ((1 : Int32).toInt64.toUInt64 &&& Int64.toUInt64 63)).toInt64 &&& (6148914691236517205 : Int64))) &&& (3689348814741910323 : Int64)) + (((p0 - ((p0.toUInt64 >>> ((1 : Int32).toInt64.toUInt64 &&& Int64.toUInt64 63)).toInt64 &&& (6148914691236517205 : Int64))).toUInt64 >>> ((2 : Int32).toInt64.toUInt64 &&& Int64.toUInt64 63)).toInt64 &&& (3689348814741910323 : Int64))) + ((((p0 - ((p0.toUInt64 >>> ((1 : Int32).toInt64.toUInt64 &&& Int64.toUInt64 63)).toInt64 &&& (6148914691236517205 : Int64))) &&& (3689348814741910323 : Int64)) + (((p0 - ((p0.toUInt64 >>> ((1 : Int32).toInt64.toUInt64 &&& Int64.toUInt64 63)).toInt64 &&& (6148914691236517205 : Int64))).toUInt64 >>> ((2 : Int32).toInt64.toUInt64 &&& Int64.toUInt64 63)).toInt64 &&& (3689348814741910323 : Int64))).toUInt64 >>> ((4 : Int32).toInt64.toUInt64 &&& Int64.toUInt64 63)).toInt64) &&& (1085102592571150095 : Int64)).toUInt64 >>> ((8 : Int32).toInt64.toUInt64 &&& Int64.toUInt64 63)).toInt64) + (((((((p0 - ((p0.toUInt64 >>> ((1 : Int32).toInt64.toUInt64 &&& Int64.toUInt64 63)).toInt64 &&& (6148914691236517205 : Int64))) &&& (3689348814741910323 : Int64)) + (((p0 - ((p0.toUInt64 >>> ((1 : Int32).toInt64.toUInt64 &&& Int64.toUInt64 63)).toInt64 &&& (6148914691236517205 : Int64))).toUInt64 >>> ((2 : Int32).toInt64.toUInt64 &&& Int64.toUInt64 63)).toInt64 &&& (3689348814741910323 : Int64))) + ((((p0 - ((p0.toUInt64 >>> ((1 : Int32).toInt64.toUInt64 &&& Int64.toUInt64 63)).toInt64 &&& (6148914691236517205 : Int64))) &&& (3689348814741910323 : Int64)) + (((p0 - ((p0.toUInt64 >>> ((1 : Int32).toInt64.toUInt64 &&& Int64.toUInt64 63)).toInt64 &&& (6148914691236517205 : Int64))).toUInt64 >>> ((2 : Int32).toInt64.toUInt64 &&& Int64.toUInt64 63)).toInt64 &&& (3689348814741910323 : Int64))).toUInt64 >>> ((4 : Int32).toInt64.toUInt64 &&& Int64.toUInt64 63)).toInt64) &&& (1085102592571150095 : Int64)) + ((((((p0 - ((p0.toUInt64 >>> ((1 : Int32).toInt64.toUInt64 &&& Int64.toUInt64 63)).toInt64 &&& (6148914691236517205 : Int64))) &&& (3689348814741910323 : Int64)) + (((p0 - ((p0.toUInt64 >>> ((1 : Int32).toInt64.toUInt64 &&& Int64.toUInt64 63)).toInt64 &&& (6148914691236517205 : Int64))).toUInt64 >>> ((2 : Int32).toInt64.toUInt64 &&& Int64.toUInt64 63)).toInt64 &&& (3689348814741910323 : Int64))) + ((((p0 - ((p0.toUInt64 >>> ((1 : Int32).toInt64.toUInt64 &&& Int64.toUInt64 63)).toInt64 &&& (6148914691236517205 : Int64))) &&& (3689348814741910323 : Int64)) + (((p0 - ((p0.toUInt64 >>> ((1 : Int32).toInt64.toUInt64 &&& Int64.toUInt64 63)).toInt64 &&& (6148914691236517205 : Int64))).toUInt64 >>> ((2 : Int32).toInt64.toUInt64 &&& Int64.toUInt64 63)).toInt64 &&& (3689348814741910323 : Int64))).toUInt64 >>> ((4 : Int32).toInt64.toUInt64 &&& Int64.toUInt64 63)).toInt64) &&& (1085102592571150095 : Int64)).toUInt64 >>> ((8 : Int32).toInt64.toUInt64 &&& Int64.toUInt64 63)).toInt64).toUInt64 >>> ((16 : Int32).toInt64.toUInt64 &&& Int64.toUInt64 63)).toInt64).toUInt64 >>> ((32 : Int32).toInt64.toUInt64 &&& Int64.toUInt64 63)).toInt64) hx hb dJ13_bitCount_95d88_52 rfl ?_
  refine lv_ladd hx hb dJ13_bitCount_95d88_53 ?_
  refine lv_lstore_n (lv' := [(0, .long ((((((((p0 - ((p0.toUInt64 >>> ((1 : Int32).toInt64.toUInt64 &&& Int64.toUInt64 63)).toInt64 &&& (6148914691236517205 : Int64))) &&& (3689348814741910323 : Int64)) + (((p0 - ((p0.toUInt64 >>> ((1 : Int32).toInt64.toUInt64 &&& Int64.toUInt64 63)).toInt64 &&& (6148914691236517205 : Int64))).toUInt64 >>> ((2 : Int32).toInt64.toUInt64 &&& Int64.toUInt64 63)).toInt64 &&& (3689348814741910323 : Int64))) + ((((p0 - ((p0.toUInt64 >>> ((1 : Int32).toInt64.toUInt64 &&& Int64.toUInt64 63)).toInt64 &&& (6148914691236517205 : Int64))) &&& (3689348814741910323 : Int64)) + (((p0 - ((p0.toUInt64 >>> ((1 : Int32).toInt64.toUInt64 &&& Int64.toUInt64 63)).toInt64 &&& (6148914691236517205 : Int64))).toUInt64 >>> ((2 : Int32).toInt64.toUInt64 &&& Int64.toUInt64 63)).toInt64 &&& (3689348814741910323 : Int64))).toUInt64 >>> ((4 : Int32).toInt64.toUInt64 &&& Int64.toUInt64 63)).toInt64) &&& (1085102592571150095 : Int64)) + ((((((p0 - ((p0.toUInt64 >>> ((1 : Int32).toInt64.toUInt64 &&& Int64.toUInt64 63)).toInt64 &&& (6148914691236517205 : Int64))) &&& (3689348814741910323 : Int64)) + (((p0 - ((p0.toUInt64 >>> ((1 : Int32).toInt64.toUInt64 &&& Int64.toUInt64 63)).toInt64 &&& (6148914691236517205 : Int64))).toUInt64 >>> ((2 : Int32).toInt64.toUInt64 &&& Int64.toUInt64 63)).toInt64 &&& (3689348814741910323 : Int64))) + ((((p0 - ((p0.toUInt64 >>> ((1 : Int32).toInt64.toUInt64 &&& Int64.toUInt64 63)).toInt64 &&& (6148914691236517205 : Int64))) &&& (3689348814741910323 : Int64)) + (((p0 - ((p0.toUInt64 >>> ((1 : Int32).toInt64.toUInt64 &&& Int64.toUInt64 63)).toInt64 &&& (6148914691236517205 : Int64))).toUInt64 >>> ((2 : Int32).toInt64.toUInt64 &&& Int64.toUInt64 63)).toInt64 &&& (3689348814741910323 : Int64))).toUInt64 >>> ((4 : Int32).toInt64.toUInt64 &&& Int64.toUInt64 63)).toInt64) &&& (1085102592571150095 : Int64)).toUInt64 >>> ((8 : Int32).toInt64.toUInt64 &&& Int64.toUInt64 63)).toInt64) + (((((((p0 - ((p0.toUInt64 >>> ((1 : Int32).toInt64.toUInt64 &&& Int64.toUInt64 63)).toInt64 &&& (6148914691236517205 : Int64))) &&& (3689348814741910323 : Int64)) + (((p0 - ((p0.toUInt64 >>> ((1 : Int32).toInt64.toUInt64 &&& Int64.toUInt64 63)).toInt64 &&& (6148914691236517205 : Int64))).toUInt64 >>> ((2 : Int32).toInt64.toUInt64 &&& Int64.toUInt64 63)).toInt64 &&& (3689348814741910323 : Int64))) + ((((p0 - ((p0.toUInt64 >>> ((1 : Int32).toInt64.toUInt64 &&& Int64.toUInt64 63)).toInt64 &&& (6148914691236517205 : Int64))) &&& (3689348814741910323 : Int64)) + (((p0 - ((p0.toUInt64 >>> ((1 : Int32).toInt64.toUInt64 &&& Int64.toUInt64 63)).toInt64 &&& (6148914691236517205 : Int64))).toUInt64 >>> ((2 : Int32).toInt64.toUInt64 &&& Int64.toUInt64 63)).toInt64 &&& (3689348814741910323 : Int64))).toUInt64 >>> ((4 : Int32).toInt64.toUInt64 &&& Int64.toUInt64 63)).toInt64) &&& (1085102592571150095 : Int64)) + ((((((p0 - ((p0.toUInt64 >>> ((1 : Int32).toInt64.toUInt64 &&& Int64.toUInt64 63)).toInt64 &&& (6148914691236517205 : Int64))) &&& (3689348814741910323 : Int64)) + (((p0 - ((p0.toUInt64 >>> ((1 : Int32).toInt64.toUInt64 &&& Int64.toUInt64 63)).toInt64 &&& (6148914691236517205 : Int64))).toUInt64 >>> ((2 : Int32).toInt64.toUInt64 &&& Int64.toUInt64 63)).toInt64 &&& (3689348814741910323 : Int64))) + ((((p0 - ((p0.toUInt64 >>> ((1 : Int32).toInt64.toUInt64 &&& Int64.toUInt64 63)).toInt64 &&& (6148914691236517205 : Int64))) &&& (3689348814741910323 : Int64)) + (((p0 - ((p0.toUInt64 >>> ((1 : Int32).toInt64.toUInt64 &&& Int64.toUInt64 63)).toInt64 &&& (6148914691236517205 : Int64))).toUInt64 >>> ((2 : Int32).toInt64.toUInt64 &&& Int64.toUInt64 63)).toInt64 &&& (3689348814741910323 : Int64))).toUInt64 >>> ((4 : Int32).toInt64.toUInt64 &&& Int64.toUInt64 63)).toInt64) &&& (1085102592571150095 : Int64)).toUInt64 >>> ((8 : Int32).toInt64.toUInt64 &&& Int64.toUInt64 63)).toInt64).toUInt64 >>> ((16 : Int32).toInt64.toUInt64 &&& Int64.toUInt64 63)).toInt64) + ((((((((p0 - ((p0.toUInt64 >>> ((1 : Int32).toInt64.toUInt64 &&& Int64.toUInt64 63)).toInt64 &&& (6148914691236517205 : Int64))) &&& (3689348814741910323 : Int64)) + (((p0 - ((p0.toUInt64 >>> ((1 : Int32).toInt64.toUInt64 &&& Int64.toUInt64 63)).toInt64 &&& (6148914691236517205 : Int64))).toUInt64 >>> ((2 : Int32).toInt64.toUInt64 &&& Int64.toUInt64 63)).toInt64 &&& (3689348814741910323 : Int64))) + ((((p0 - ((p0.toUInt64 >>> ((1 : Int32).toInt64.toUInt64 &&& Int64.toUInt64 63)).toInt64 &&& (6148914691236517205 : Int64))) &&& (3689348814741910323 : Int64)) + (((p0 - ((p0.toUInt64 >>> ((1 : Int32).toInt64.toUInt64 &&& Int64.toUInt64 63)).toInt64 &&& (6148914691236517205 : Int64))).toUInt64 >>> ((2 : Int32).toInt64.toUInt64 &&& Int64.toUInt64 63)).toInt64 &&& (3689348814741910323 : Int64))).toUInt64 >>> ((4 : Int32).toInt64.toUInt64 &&& Int64.toUInt64 63)).toInt64) &&& (1085102592571150095 : Int64)) + ((((((p0 - ((p0.toUInt64 >>> ((1 : Int32).toInt64.toUInt64 &&& Int64.toUInt64 63)).toInt64 &&& (6148914691236517205 : Int64))) &&& (3689348814741910323 : Int64)) + (((p0 - ((p0.toUInt64 >>> ((1 : Int32).toInt64.toUInt64 &&& Int64.toUInt64 63)).toInt64 &&& (6148914691236517205 : Int64))).toUInt64 >>> ((2 : Int32).toInt64.toUInt64 &&& Int64.toUInt64 63)).toInt64 &&& (3689348814741910323 : Int64))) + ((((p0 - ((p0.toUInt64 >>> ((1 : Int32).toInt64.toUInt64 &&& Int64.toUInt64 63)).toInt64 &&& (6148914691236517205 : Int64))) &&& (3689348814741910323 : Int64)) + (((p0 - ((p0.toUInt64 >>> ((1 : Int32).toInt64.toUInt64 &&& Int64.toUInt64 63)).toInt64 &&& (6148914691236517205 : Int64))).toUInt64 >>> ((2 : Int32).toInt64.toUInt64 &&& Int64.toUInt64 63)).toInt64 &&& (3689348814741910323 : Int64))).toUInt64 >>> ((4 : Int32).toInt64.toUInt64 &&& Int64.toUInt64 63)).toInt64) &&& (1085102592571150095 : Int64)).toUInt64 >>> ((8 : Int32).toInt64.toUInt64 &&& Int64.toUInt64 63)).toInt64) + (((((((p0 - ((p0.toUInt64 >>> ((1 : Int32).toInt64.toUInt64 &&& Int64.toUInt64 63)).toInt64 &&& (6148914691236517205 : Int64))) &&& (3689348814741910323 : Int64)) + (((p0 - ((p0.toUInt64 >>> ((1 : Int32).toInt64.toUInt64 &&& Int64.toUInt64 63)).toInt64 &&& (6148914691236517205 : Int64))).toUInt64 >>> ((2 : Int32).toInt64.toUInt64 &&& Int64.toUInt64 63)).toInt64 &&& (3689348814741910323 : Int64))) + ((((p0 - ((p0.toUInt64 >>> ((1 : Int32).toInt64.toUInt64 &&& Int64.toUInt64 63)).toInt64 &&& (6148914691236517205 : Int64))) &&& (3689348814741910323 : Int64)) + (((p0 - ((p0.toUInt64 >>> ((1 : Int32).toInt64.toUInt64 &&& Int64.toUInt64 63)).toInt64 &&& (6148914691236517205 : Int64))).toUInt64 >>> ((2 : Int32).toInt64.toUInt64 &&& Int64.toUInt64 63)).toInt64 &&& (3689348814741910323 : Int64))).toUInt64 >>> ((4 : Int32).toInt64.toUInt64 &&& Int64.toUInt64 63)).toInt64) &&& (1085102592571150095 : Int64)) + ((((((p0 - ((p0.toUInt64 >>> ((1 : Int32).toInt64.toUInt64 &&& Int64.toUInt64 63)).toInt64 &&& (6148914691236517205 : Int64))) &&& (3689348814741910323 : Int64)) + (((p0 - ((p0.toUInt64 >>> ((1 : Int32).toInt64.toUInt64 &&& Int64.toUInt64 63)).toInt64 &&& (6148914691236517205 : Int64))).toUInt64 >>> ((2 : Int32).toInt64.toUInt64 &&& Int64.toUInt64 63)).toInt64 &&& (3689348814741910323 : Int64))) + ((((p0 - ((p0.toUInt64 >>> ((1 : Int32).toInt64.toUInt64 &&& Int64.toUInt64 63)).toInt64 &&& (6148914691236517205 : Int64))) &&& (3689348814741910323 : Int64)) + (((p0 - ((p0.toUInt64 >>> ((1 : Int32).toInt64.toUInt64 &&& Int64.toUInt64 63)).toInt64 &&& (6148914691236517205 : Int64))).toUInt64 >>> ((2 : Int32).toInt64.toUInt64 &&& Int64.toUInt64 63)).toInt64 &&& (3689348814741910323 : Int64))).toUInt64 >>> ((4 : Int32).toInt64.toUInt64 &&& Int64.toUInt64 63)).toInt64) &&& (1085102592571150095 : Int64)).toUInt64 >>> ((8 : Int32).toInt64.toUInt64 &&& Int64.toUInt64 63)).toInt64).toUInt64 >>> ((16 : Int32).toInt64.toUInt64 &&& Int64.toUInt64 63)).toInt64).toUInt64 >>> ((32 : Int32).toInt64.toUInt64 &&& Int64.toUInt64 63)).toInt64))]) hx hb dJ13_bitCount_95d88_54 rfl hl (by decide) rfl (fun ls hl => ?_)
  refine lv_lload_n hx hb dJ13_bitCount_95d88_55 rfl (lv_at hl 0 rfl) ?_
  refine lv_l2i (v := ((((((((p0 - ((p0.toUInt64 >>> ((1 : Int32).toInt64.toUInt64 &&& Int64.toUInt64 63)).toInt64 &&& (6148914691236517205 : Int64))) &&& (3689348814741910323 : Int64)) + (((p0 - ((p0.toUInt64 >>> ((1 : Int32).toInt64.toUInt64 &&& Int64.toUInt64 63)).toInt64 &&& (6148914691236517205 : Int64))).toUInt64 >>> ((2 : Int32).toInt64.toUInt64 &&& Int64.toUInt64 63)).toInt64 &&& (3689348814741910323 : Int64))) + ((((p0 - ((p0.toUInt64 >>> ((1 : Int32).toInt64.toUInt64 &&& Int64.toUInt64 63)).toInt64 &&& (6148914691236517205 : Int64))) &&& (3689348814741910323 : Int64)) + (((p0 - ((p0.toUInt64 >>> ((1 : Int32).toInt64.toUInt64 &&& Int64.toUInt64 63)).toInt64 &&& (6148914691236517205 : Int64))).toUInt64 >>> ((2 : Int32).toInt64.toUInt64 &&& Int64.toUInt64 63)).toInt64 &&& (3689348814741910323 : Int64))).toUInt64 >>> ((4 : Int32).toInt64.toUInt64 &&& Int64.toUInt64 63)).toInt64) &&& (1085102592571150095 : Int64)) + ((((((p0 - ((p0.toUInt64 >>> ((1 : Int32).toInt64.toUInt64 &&& Int64.toUInt64 63)).toInt64 &&& (6148914691236517205 : Int64))) &&& (3689348814741910323 : Int64)) + (((p0 - ((p0.toUInt64 >>> ((1 : Int32).toInt64.toUInt64 &&& Int64.toUInt64 63)).toInt64 &&& (6148914691236517205 : Int64))).toUInt64 >>> ((2 : Int32).toInt64.toUInt64 &&& Int64.toUInt64 63)).toInt64 &&& (3689348814741910323 : Int64))) + ((((p0 - ((p0.toUInt64 >>> ((1 : Int32).toInt64.toUInt64 &&& Int64.toUInt64 63)).toInt64 &&& (6148914691236517205 : Int64))) &&& (3689348814741910323 : Int64)) + (((p0 - ((p0.toUInt64 >>> ((1 : Int32).toInt64.toUInt64 &&& Int64.toUInt64 63)).toInt64 &&& (6148914691236517205 : Int64))).toUInt64 >>> ((2 : Int32).toInt64.toUInt64 &&& Int64.toUInt64 63)).toInt64 &&& (3689348814741910323 : Int64))).toUInt64 >>> ((4 : Int32).toInt64.toUInt64 &&& Int64.toUInt64 63)).toInt64) &&& (1085102592571150095 : Int64)).toUInt64 >>> ((8 : Int32).toInt64.toUInt64 &&& Int64.toUInt64 63)).toInt64) + (((((((p0 - ((p0.toUInt64 >>> ((1 : Int32).toInt64.toUInt64 &&& Int64.toUInt64 63)).toInt64 &&& (6148914691236517205 : Int64))) &&& (3689348814741910323 : Int64)) + (((p0 - ((p0.toUInt64 >>> ((1 : Int32).toInt64.toUInt64 &&& Int64.toUInt64 63)).toInt64 &&& (6148914691236517205 : Int64))).toUInt64 >>> ((2 : Int32).toInt64.toUInt64 &&& Int64.toUInt64 63)).toInt64 &&& (3689348814741910323 : Int64))) + ((((p0 - ((p0.toUInt64 >>> ((1 : Int32).toInt64.toUInt64 &&& Int64.toUInt64 63)).toInt64 &&& (6148914691236517205 : Int64))) &&& (3689348814741910323 : Int64)) + (((p0 - ((p0.toUInt64 >>> ((1 : Int32).toInt64.toUInt64 &&& Int64.toUInt64 63)).toInt64 &&& (6148914691236517205 : Int64))).toUInt64 >>> ((2 : Int32).toInt64.toUInt64 &&& Int64.toUInt64 63)).toInt64 &&& (3689348814741910323 : Int64))).toUInt64 >>> ((4 : Int32).toInt64.toUInt64 &&& Int64.toUInt64 63)).toInt64) &&& (1085102592571150095 : Int64)) + ((((((p0 - ((p0.toUInt64 >>> ((1 : Int32).toInt64.toUInt64 &&& Int64.toUInt64 63)).toInt64 &&& (6148914691236517205 : Int64))) &&& (3689348814741910323 : Int64)) + (((p0 - ((p0.toUInt64 >>> ((1 : Int32).toInt64.toUInt64 &&& Int64.toUInt64 63)).toInt64 &&& (6148914691236517205 : Int64))).toUInt64 >>> ((2 : Int32).toInt64.toUInt64 &&& Int64.toUInt64 63)).toInt64 &&& (3689348814741910323 : Int64))) + ((((p0 - ((p0.toUInt64 >>> ((1 : Int32).toInt64.toUInt64 &&& Int64.toUInt64 63)).toInt64 &&& (6148914691236517205 : Int64))) &&& (3689348814741910323 : Int64)) + (((p0 - ((p0.toUInt64 >>> ((1 : Int32).toInt64.toUInt64 &&& Int64.toUInt64 63)).toInt64 &&& (6148914691236517205 : Int64))).toUInt64 >>> ((2 : Int32).toInt64.toUInt64 &&& Int64.toUInt64 63)).toInt64 &&& (3689348814741910323 : Int64))).toUInt64 >>> ((4 : Int32).toInt64.toUInt64 &&& Int64.toUInt64 63)).toInt64) &&& (1085102592571150095 : Int64)).toUInt64 >>> ((8 : Int32).toInt64.toUInt64 &&& Int64.toUInt64 63)).toInt64).toUInt64 >>> ((16 : Int32).toInt64.toUInt64 &&& Int64.toUInt64 63)).toInt64) + ((((((((p0 - ((p0.toUInt64 >>> ((1 : Int32).toInt64.toUInt64 &&& Int64.toUInt64 63)).toInt64 &&& (6148914691236517205 : Int64))) &&& (3689348814741910323 : Int64)) + (((p0 - ((p0.toUInt64 >>> ((1 : Int32).toInt64.toUInt64 &&& Int64.toUInt64 63)).toInt64 &&& (6148914691236517205 : Int64))).toUInt64 >>> ((2 : Int32).toInt64.toUInt64 &&& Int64.toUInt64 63)).toInt64 &&& (3689348814741910323 : Int64))) + ((((p0 - ((p0.toUInt64 >>> ((1 : Int32).toInt64.toUInt64 &&& Int64.toUInt64 63)).toInt64 &&& (6148914691236517205 : Int64))) &&& (3689348814741910323 : Int64)) + (((p0 - ((p0.toUInt64 >>> ((1 : Int32).toInt64.toUInt64 &&& Int64.toUInt64 63)).toInt64 &&& (6148914691236517205 : Int64))).toUInt64 >>> ((2 : Int32).toInt64.toUInt64 &&& Int64.toUInt64 63)).toInt64 &&& (3689348814741910323 : Int64))).toUInt64 >>> ((4 : Int32).toInt64.toUInt64 &&& Int64.toUInt64 63)).toInt64) &&& (1085102592571150095 : Int64)) + ((((((p0 - ((p0.toUInt64 >>> ((1 : Int32).toInt64.toUInt64 &&& Int64.toUInt64 63)).toInt64 &&& (6148914691236517205 : Int64))) &&& (3689348814741910323 : Int64)) + (((p0 - ((p0.toUInt64 >>> ((1 : Int32).toInt64.toUInt64 &&& Int64.toUInt64 63)).toInt64 &&& (6148914691236517205 : Int64))).toUInt64 >>> ((2 : Int32).toInt64.toUInt64 &&& Int64.toUInt64 63)).toInt64 &&& (3689348814741910323 : Int64))) + ((((p0 - ((p0.toUInt64 >>> ((1 : Int32).toInt64.toUInt64 &&& Int64.toUInt64 63)).toInt64 &&& (6148914691236517205 : Int64))) &&& (3689348814741910323 : Int64)) + (((p0 - ((p0.toUInt64 >>> ((1 : Int32).toInt64.toUInt64 &&& Int64.toUInt64 63)).toInt64 &&& (6148914691236517205 : Int64))).toUInt64 >>> ((2 : Int32).toInt64.toUInt64 &&& Int64.toUInt64 63)).toInt64 &&& (3689348814741910323 : Int64))).toUInt64 >>> ((4 : Int32).toInt64.toUInt64 &&& Int64.toUInt64 63)).toInt64) &&& (1085102592571150095 : Int64)).toUInt64 >>> ((8 : Int32).toInt64.toUInt64 &&& Int64.toUInt64 63)).toInt64) + (((((((p0 - ((p0.toUInt64 >>> ((1 : Int32).toInt64.toUInt64 &&& Int64.toUInt64 63)).toInt64 &&& (6148914691236517205 : Int64))) &&& (3689348814741910323 : Int64)) + (((p0 - ((p0.toUInt64 >>> ((1 : Int32).toInt64.toUInt64 &&& Int64.toUInt64 63)).toInt64 &&& (6148914691236517205 : Int64))).toUInt64 >>> ((2 : Int32).toInt64.toUInt64 &&& Int64.toUInt64 63)).toInt64 &&& (3689348814741910323 : Int64))) + ((((p0 - ((p0.toUInt64 >>> ((1 : Int32).toInt64.toUInt64 &&& Int64.toUInt64 63)).toInt64 &&& (6148914691236517205 : Int64))) &&& (3689348814741910323 : Int64)) + (((p0 - ((p0.toUInt64 >>> ((1 : Int32).toInt64.toUInt64 &&& Int64.toUInt64 63)).toInt64 &&& (6148914691236517205 : Int64))).toUInt64 >>> ((2 : Int32).toInt64.toUInt64 &&& Int64.toUInt64 63)).toInt64 &&& (3689348814741910323 : Int64))).toUInt64 >>> ((4 : Int32).toInt64.toUInt64 &&& Int64.toUInt64 63)).toInt64) &&& (1085102592571150095 : Int64)) + ((((((p0 - ((p0.toUInt64 >>> ((1 : Int32).toInt64.toUInt64 &&& Int64.toUInt64 63)).toInt64 &&& (6148914691236517205 : Int64))) &&& (3689348814741910323 : Int64)) + (((p0 - ((p0.toUInt64 >>> ((1 : Int32).toInt64.toUInt64 &&& Int64.toUInt64 63)).toInt64 &&& (6148914691236517205 : Int64))).toUInt64 >>> ((2 : Int32).toInt64.toUInt64 &&& Int64.toUInt64 63)).toInt64 &&& (3689348814741910323 : Int64))) + ((((p0 - ((p0.toUInt64 >>> ((1 : Int32).toInt64.toUInt64 &&& Int64.toUInt64 63)).toInt64 &&& (6148914691236517205 : Int64))) &&& (3689348814741910323 : Int64)) + (((p0 - ((p0.toUInt64 >>> ((1 : Int32).toInt64.toUInt64 &&& Int64.toUInt64 63)).toInt64 &&& (6148914691236517205 : Int64))).toUInt64 >>> ((2 : Int32).toInt64.toUInt64 &&& Int64.toUInt64 63)).toInt64 &&& (3689348814741910323 : Int64))).toUInt64 >>> ((4 : Int32).toInt64.toUInt64 &&& Int64.toUInt64 63)).toInt64) &&& (1085102592571150095 : Int64)).toUInt64 >>> ((8 : Int32).toInt64.toUInt64 &&& Int64.toUInt64 63)).toInt64).toUInt64 >>> ((16 : Int32).toInt64.toUInt64 &&& Int64.toUInt64 63)).toInt64).toUInt64 >>> ((32 : Int32).toInt64.toUInt64 &&& Int64.toUInt64 63)).toInt64).toInt32) hx hb dJ13_bitCount_95d88_56 rfl ?_
  refine lv_bipush (v := (127 : Int32)) hx hb dJ13_bitCount_95d88_57 (by decide) ?_
  refine lv_iand hx hb dJ13_bitCount_95d88_59 ?_
  exact hr2 60 ls H locs (((((((((p0 - ((p0.toUInt64 >>> ((1 : Int32).toInt64.toUInt64 &&& Int64.toUInt64 63)).toInt64 &&& (6148914691236517205 : Int64))) &&& (3689348814741910323 : Int64)) + (((p0 - ((p0.toUInt64 >>> ((1 : Int32).toInt64.toUInt64 &&& Int64.toUInt64 63)).toInt64 &&& (6148914691236517205 : Int64))).toUInt64 >>> ((2 : Int32).toInt64.toUInt64 &&& Int64.toUInt64 63)).toInt64 &&& (3689348814741910323 : Int64))) + ((((p0 - ((p0.toUInt64 >>> ((1 : Int32).toInt64.toUInt64 &&& Int64.toUInt64 63)).toInt64 &&& (6148914691236517205 : Int64))) &&& (3689348814741910323 : Int64)) + (((p0 - ((p0.toUInt64 >>> ((1 : Int32).toInt64.toUInt64 &&& Int64.toUInt64 63)).toInt64 &&& (6148914691236517205 : Int64))).toUInt64 >>> ((2 : Int32).toInt64.toUInt64 &&& Int64.toUInt64 63)).toInt64 &&& (3689348814741910323 : Int64))).toUInt64 >>> ((4 : Int32).toInt64.toUInt64 &&& Int64.toUInt64 63)).toInt64) &&& (1085102592571150095 : Int64)) + ((((((p0 - ((p0.toUInt64 >>> ((1 : Int32).toInt64.toUInt64 &&& Int64.toUInt64 63)).toInt64 &&& (6148914691236517205 : Int64))) &&& (3689348814741910323 : Int64)) + (((p0 - ((p0.toUInt64 >>> ((1 : Int32).toInt64.toUInt64 &&& Int64.toUInt64 63)).toInt64 &&& (6148914691236517205 : Int64))).toUInt64 >>> ((2 : Int32).toInt64.toUInt64 &&& Int64.toUInt64 63)).toInt64 &&& (3689348814741910323 : Int64))) + ((((p0 - ((p0.toUInt64 >>> ((1 : Int32).toInt64.toUInt64 &&& Int64.toUInt64 63)).toInt64 &&& (6148914691236517205 : Int64))) &&& (3689348814741910323 : Int64)) + (((p0 - ((p0.toUInt64 >>> ((1 : Int32).toInt64.toUInt64 &&& Int64.toUInt64 63)).toInt64 &&& (6148914691236517205 : Int64))).toUInt64 >>> ((2 : Int32).toInt64.toUInt64 &&& Int64.toUInt64 63)).toInt64 &&& (3689348814741910323 : Int64))).toUInt64 >>> ((4 : Int32).toInt64.toUInt64 &&& Int64.toUInt64 63)).toInt64) &&& (1085102592571150095 : Int64)).toUInt64 >>> ((8 : Int32).toInt64.toUInt64 &&& Int64.toUInt64 63)).toInt64) + (((((((p0 - ((p0.toUInt64 >>> ((1 : Int32).toInt64.toUInt64 &&& Int64.toUInt64 63)).toInt64 &&& (6148914691236517205 : Int64))) &&& (3689348814741910323 : Int64)) + (((p0 - ((p0.toUInt64 >>> ((1 : Int32).toInt64.toUInt64 &&& Int64.toUInt64 63)).toInt64 &&& (6148914691236517205 : Int64))).toUInt64 >>> ((2 : Int32).toInt64.toUInt64 &&& Int64.toUInt64 63)).toInt64 &&& (3689348814741910323 : Int64))) + ((((p0 - ((p0.toUInt64 >>> ((1 : Int32).toInt64.toUInt64 &&& Int64.toUInt64 63)).toInt64 &&& (6148914691236517205 : Int64))) &&& (3689348814741910323 : Int64)) + (((p0 - ((p0.toUInt64 >>> ((1 : Int32).toInt64.toUInt64 &&& Int64.toUInt64 63)).toInt64 &&& (6148914691236517205 : Int64))).toUInt64 >>> ((2 : Int32).toInt64.toUInt64 &&& Int64.toUInt64 63)).toInt64 &&& (3689348814741910323 : Int64))).toUInt64 >>> ((4 : Int32).toInt64.toUInt64 &&& Int64.toUInt64 63)).toInt64) &&& (1085102592571150095 : Int64)) + ((((((p0 - ((p0.toUInt64 >>> ((1 : Int32).toInt64.toUInt64 &&& Int64.toUInt64 63)).toInt64 &&& (6148914691236517205 : Int64))) &&& (3689348814741910323 : Int64)) + (((p0 - ((p0.toUInt64 >>> ((1 : Int32).toInt64.toUInt64 &&& Int64.toUInt64 63)).toInt64 &&& (6148914691236517205 : Int64))).toUInt64 >>> ((2 : Int32).toInt64.toUInt64 &&& Int64.toUInt64 63)).toInt64 &&& (3689348814741910323 : Int64))) + ((((p0 - ((p0.toUInt64 >>> ((1 : Int32).toInt64.toUInt64 &&& Int64.toUInt64 63)).toInt64 &&& (6148914691236517205 : Int64))) &&& (3689348814741910323 : Int64)) + (((p0 - ((p0.toUInt64 >>> ((1 : Int32).toInt64.toUInt64 &&& Int64.toUInt64 63)).toInt64 &&& (6148914691236517205 : Int64))).toUInt64 >>> ((2 : Int32).toInt64.toUInt64 &&& Int64.toUInt64 63)).toInt64 &&& (3689348814741910323 : Int64))).toUInt64 >>> ((4 : Int32).toInt64.toUInt64 &&& Int64.toUInt64 63)).toInt64) &&& (1085102592571150095 : Int64)).toUInt64 >>> ((8 : Int32).toInt64.toUInt64 &&& Int64.toUInt64 63)).toInt64).toUInt64 >>> ((16 : Int32).toInt64.toUInt64 &&& Int64.toUInt64 63)).toInt64) + ((((((((p0 - ((p0.toUInt64 >>> ((1 : Int32).toInt64.toUInt64 &&& Int64.toUInt64 63)).toInt64 &&& (6148914691236517205 : Int64))) &&& (3689348814741910323 : Int64)) + (((p0 - ((p0.toUInt64 >>> ((1 : Int32).toInt64.toUInt64 &&& Int64.toUInt64 63)).toInt64 &&& (6148914691236517205 : Int64))).toUInt64 >>> ((2 : Int32).toInt64.toUInt64 &&& Int64.toUInt64 63)).toInt64 &&& (3689348814741910323 : Int64))) + ((((p0 - ((p0.toUInt64 >>> ((1 : Int32).toInt64.toUInt64 &&& Int64.toUInt64 63)).toInt64 &&& (6148914691236517205 : Int64))) &&& (3689348814741910323 : Int64)) + (((p0 - ((p0.toUInt64 >>> ((1 : Int32).toInt64.toUInt64 &&& Int64.toUInt64 63)).toInt64 &&& (6148914691236517205 : Int64))).toUInt64 >>> ((2 : Int32).toInt64.toUInt64 &&& Int64.toUInt64 63)).toInt64 &&& (3689348814741910323 : Int64))).toUInt64 >>> ((4 : Int32).toInt64.toUInt64 &&& Int64.toUInt64 63)).toInt64) &&& (1085102592571150095 : Int64)) + ((((((p0 - ((p0.toUInt64 >>> ((1 : Int32).toInt64.toUInt64 &&& Int64.toUInt64 63)).toInt64 &&& (6148914691236517205 : Int64))) &&& (3689348814741910323 : Int64)) + (((p0 - ((p0.toUInt64 >>> ((1 : Int32).toInt64.toUInt64 &&& Int64.toUInt64 63)).toInt64 &&& (6148914691236517205 : Int64))).toUInt64 >>> ((2 : Int32).toInt64.toUInt64 &&& Int64.toUInt64 63)).toInt64 &&& (3689348814741910323 : Int64))) + ((((p0 - ((p0.toUInt64 >>> ((1 : Int32).toInt64.toUInt64 &&& Int64.toUInt64 63)).toInt64 &&& (6148914691236517205 : Int64))) &&& (3689348814741910323 : Int64)) + (((p0 - ((p0.toUInt64 >>> ((1 : Int32).toInt64.toUInt64 &&& Int64.toUInt64 63)).toInt64 &&& (6148914691236517205 : Int64))).toUInt64 >>> ((2 : Int32).toInt64.toUInt64 &&& Int64.toUInt64 63)).toInt64 &&& (3689348814741910323 : Int64))).toUInt64 >>> ((4 : Int32).toInt64.toUInt64 &&& Int64.toUInt64 63)).toInt64) &&& (1085102592571150095 : Int64)).toUInt64 >>> ((8 : Int32).toInt64.toUInt64 &&& Int64.toUInt64 63)).toInt64) + (((((((p0 - ((p0.toUInt64 >>> ((1 : Int32).toInt64.toUInt64 &&& Int64.toUInt64 63)).toInt64 &&& (6148914691236517205 : Int64))) &&& (3689348814741910323 : Int64)) + (((p0 - ((p0.toUInt64 >>> ((1 : Int32).toInt64.toUInt64 &&& Int64.toUInt64 63)).toInt64 &&& (6148914691236517205 : Int64))).toUInt64 >>> ((2 : Int32).toInt64.toUInt64 &&& Int64.toUInt64 63)).toInt64 &&& (3689348814741910323 : Int64))) + ((((p0 - ((p0.toUInt64 >>> ((1 : Int32).toInt64.toUInt64 &&& Int64.toUInt64 63)).toInt64 &&& (6148914691236517205 : Int64))) &&& (3689348814741910323 : Int64)) + (((p0 - ((p0.toUInt64 >>> ((1 : Int32).toInt64.toUInt64 &&& Int64.toUInt64 63)).toInt64 &&& (6148914691236517205 : Int64))).toUInt64 >>> ((2 : Int32).toInt64.toUInt64 &&& Int64.toUInt64 63)).toInt64 &&& (3689348814741910323 : Int64))).toUInt64 >>> ((4 : Int32).toInt64.toUInt64 &&& Int64.toUInt64 63)).toInt64) &&& (1085102592571150095 : Int64)) + ((((((p0 - ((p0.toUInt64 >>> ((1 : Int32).toInt64.toUInt64 &&& Int64.toUInt64 63)).toInt64 &&& (6148914691236517205 : Int64))) &&& (3689348814741910323 : Int64)) + (((p0 - ((p0.toUInt64 >>> ((1 : Int32).toInt64.toUInt64 &&& Int64.toUInt64 63)).toInt64 &&& (6148914691236517205 : Int64))).toUInt64 >>> ((2 : Int32).toInt64.toUInt64 &&& Int64.toUInt64 63)).toInt64 &&& (3689348814741910323 : Int64))) + ((((p0 - ((p0.toUInt64 >>> ((1 : Int32).toInt64.toUInt64 &&& Int64.toUInt64 63)).toInt64 &&& (6148914691236517205 : Int64))) &&& (3689348814741910323 : Int64)) + (((p0 - ((p0.toUInt64 >>> ((1 : Int32).toInt64.toUInt64 &&& Int64.toUInt64 63)).toInt64 &&& (6148914691236517205 : Int64))).toUInt64 >>> ((2 : Int32).toInt64.toUInt64 &&& Int64.toUInt64 63)).toInt64 &&& (3689348814741910323 : Int64))).toUInt64 >>> ((4 : Int32).toInt64.toUInt64 &&& Int64.toUInt64 63)).toInt64) &&& (1085102592571150095 : Int64)).toUInt64 >>> ((8 : Int32).toInt64.toUInt64 &&& Int64.toUInt64 63)).toInt64).toUInt64 >>> ((16 : Int32).toInt64.toUInt64 &&& Int64.toUInt64 63)).toInt64).toUInt64 >>> ((32 : Int32).toInt64.toUInt64 &&& Int64.toUInt64 63)).toInt64).toInt32 &&& (127 : Int32)) hf dJ13_bitCount_95d88_60 hh
def fJ13_numberOfTrailingZeros_95d88 (p0 : Int64) : Int32 :=
  if p0.toInt32 = (0 : Int32) then
  (((32 : Int32) + (fJ6_numberOfTrailingZeros_0f7a4 (p0.toUInt64 >>> ((32 : Int32).toInt64.toUInt64 &&& Int64.toUInt64 63)).toInt64.toInt32)))
  else
  ((fJ6_numberOfTrailingZeros_0f7a4 p0.toInt32))
theorem hdJ13_numberOfTrailingZeros_95d88 : yJ13_numberOfTrailingZeros_95d88.cls ≠ "java/lang/invoke/MethodHandle" ∧ yJ13_numberOfTrailingZeros_95d88.cls ≠ "java/lang/invoke/VarHandle" ∧ (parseMethodDescriptor yJ13_numberOfTrailingZeros_95d88.desc).map (fun d => d.parameters.length) = some 1 := by decide +kernel
set_option maxHeartbeats 4000000 in
set_option maxRecDepth 100000 in
theorem kJ13_numberOfTrailingZeros_95d88 (l : Launch) (K : zK) (p0 : Int64) (R : Int32) (hf : fJ13_numberOfTrailingZeros_95d88 p0 = R) : zC l yJ13_numberOfTrailingZeros_95d88 wsJ13_numberOfTrailingZeros_95d88 ({ frames := 1, cells := 0, slots := 0, locals := 21 } : Room) K [.long p0] ([]) (some (.int R)) ([]) := by
  refine zC_i R (cc := cJ13_numberOfTrailingZeros_95d88) (maxL := 3) (by decide +kernel) rfl (Nat.le_of_ble_eq_true rfl) rfl rfl ?_
  intro p e s m below meth c Q A X hret ls hl hh
  have X : zX p m c cJ13_numberOfTrailingZeros_95d88 3 s ([.long p0] : List Value).toArray wsJ13_numberOfTrailingZeros_95d88 RJ13 K A := X
  have hx := X.1.1
  have hb := X.1.2.1
  have hr2 : ∀ (pc : Nat) (ls : Array Slot) (H : Heap) (locs : List Loc) (v : Int32), v = R → decode cJ13_numberOfTrailingZeros_95d88 pc = .ok (.ireturn, 1) → zW K A s H locs ([]) → W p l e ({ frames := 1, cells := 0, slots := 0, locals := 21 } : Room) s m ([.long p0] : List Value).toArray below meth c H locs 0 0 Q (F0 m pc ls [.int v]) := by
    intro pc ls H locs v h hd hh
    cases h; exact hret pc ls H locs _ rfl hd hh
  have hl : lv_has ls 3 [(0, .long p0)] := hl
  unfold fJ13_numberOfTrailingZeros_95d88 at hf
  refine (fun (hmain : ∀ (H : Heap) (locs : List Loc), zW K A s H locs ([]) → W p l e ({ frames := 1, cells := 0, slots := 0, locals := 21 } : Room) s m ([.long p0] : List Value).toArray below meth c H locs 0 0 Q (F0 m 0 ls [])) => hmain s.heap [] hh) (fun H locs hh => ?_)
  refine lv_lload_n hx hb dJ13_numberOfTrailingZeros_95d88_0 rfl (lv_at hl 0 rfl) ?_
  refine lv_l2i (v := p0.toInt32) hx hb dJ13_numberOfTrailingZeros_95d88_1 rfl ?_
  refine lv_istore_n (lv' := [(2, .int p0.toInt32), (0, .long p0)]) hx hb dJ13_numberOfTrailingZeros_95d88_2 rfl hl (by decide) rfl (fun ls hl => ?_)
  refine lv_iload_n hx hb dJ13_numberOfTrailingZeros_95d88_3 rfl (lv_at hl 0 rfl) ?_
  refine lv_if_ne (tgt := 21) hx hb dJ13_numberOfTrailingZeros_95d88_4 (by decide) (fun c1 => ?_) (fun c1 => ?_)
  · replace hf := (if_neg c1).symm.trans hf
    refine lv_iload_n hx hb dJ13_numberOfTrailingZeros_95d88_21 rfl (lv_at hl 0 rfl) ?_
    refine zcallS (As := [.int p0.toInt32]) (rest := []) (wr := []) (ws' := []) (ov := some (.int (fJ6_numberOfTrailingZeros_0f7a4 p0.toInt32))) X hh hl (kJ6_numberOfTrailingZeros_0f7a4 l K p0.toInt32 (fJ6_numberOfTrailingZeros_0f7a4 p0.toInt32) rfl) (fun ht => va_cwS 1 ht gJ13_numberOfTrailingZeros_95d88_J6_numberOfTrailingZeros_0f7a4 rfl rfl rfl hdJ6_numberOfTrailingZeros_0f7a4 ⟨Nat.le_of_ble_eq_true rfl, Nat.le_of_ble_eq_true rfl⟩) [] [] [] rfl rfl rfl rfl (by decide) rfl rfl rfl rfl (Nat.le_of_ble_eq_true rfl) dJ13_numberOfTrailingZeros_95d88_22 ⟨Nat.zero_le _, Nat.zero_le _⟩ (fun H locs hh => ?_)
    exact hr2 25 ls H locs (fJ6_numberOfTrailingZeros_0f7a4 p0.toInt32) hf dJ13_numberOfTrailingZeros_95d88_25 hh
  · replace hf := (if_pos c1).symm.trans hf
    refine lv_bipush (v := (32 : Int32)) hx hb dJ13_numberOfTrailingZeros_95d88_7 (by decide) ?_
    refine lv_lload_n hx hb dJ13_numberOfTrailingZeros_95d88_9 rfl (lv_at hl 1 rfl) ?_
    refine lv_bipush (v := (32 : Int32)) hx hb dJ13_numberOfTrailingZeros_95d88_10 (by decide) ?_
    refine lv_lushr (v := (p0.toUInt64 >>> ((32 : Int32).toInt64.toUInt64 &&& Int64.toUInt64 63)).toInt64) hx hb dJ13_numberOfTrailingZeros_95d88_12 rfl ?_
    refine lv_l2i (v := (p0.toUInt64 >>> ((32 : Int32).toInt64.toUInt64 &&& Int64.toUInt64 63)).toInt64.toInt32) hx hb dJ13_numberOfTrailingZeros_95d88_13 rfl ?_
    refine zcallS (As := [.int (p0.toUInt64 >>> ((32 : Int32).toInt64.toUInt64 &&& Int64.toUInt64 63)).toInt64.toInt32]) (rest := [.int (32 : Int32)]) (wr := []) (ws' := []) (ov := some (.int (fJ6_numberOfTrailingZeros_0f7a4 (p0.toUInt64 >>> ((32 : Int32).toInt64.toUInt64 &&& Int64.toUInt64 63)).toInt64.toInt32))) X hh hl (kJ6_numberOfTrailingZeros_0f7a4 l K (p0.toUInt64 >>> ((32 : Int32).toInt64.toUInt64 &&& Int64.toUInt64 63)).toInt64.toInt32 (fJ6_numberOfTrailingZeros_0f7a4 (p0.toUInt64 >>> ((32 : Int32).toInt64.toUInt64 &&& Int64.toUInt64 63)).toInt64.toInt32) rfl) (fun ht => va_cwS 1 ht gJ13_numberOfTrailingZeros_95d88_J6_numberOfTrailingZeros_0f7a4 rfl rfl rfl hdJ6_numberOfTrailingZeros_0f7a4 ⟨Nat.le_of_ble_eq_true rfl, Nat.le_of_ble_eq_true rfl⟩) [] [] [] rfl rfl rfl rfl (by decide) rfl rfl rfl rfl (Nat.le_of_ble_eq_true rfl) dJ13_numberOfTrailingZeros_95d88_14 ⟨Nat.zero_le _, Nat.zero_le _⟩ (fun H locs hh => ?_)
    refine lv_iadd hx hb dJ13_numberOfTrailingZeros_95d88_17 ?_
    refine lv_goto (tgt := 25) hx hb dJ13_numberOfTrailingZeros_95d88_18 (by decide) ?_
    exact hr2 25 ls H locs ((32 : Int32) + (fJ6_numberOfTrailingZeros_0f7a4 (p0.toUInt64 >>> ((32 : Int32).toInt64.toUInt64 &&& Int64.toUInt64 63)).toInt64.toInt32)) hf dJ13_numberOfTrailingZeros_95d88_25 hh
def fX5_isIn (p0 : Int32) (p1 : Int32) : Int32 :=
  if p1 < (0 : Int32) then
  ((0 : Int32))
  else
  (if (12 : Int32) ≤ p1 then
  ((0 : Int32))
  else
  (if ((p0 >>> (p1 &&& 31)) &&& (1 : Int32)) = (1 : Int32) then
  ((1 : Int32))
  else
  ((0 : Int32))))
theorem hdX5_isIn : yX5_isIn.cls ≠ "java/lang/invoke/MethodHandle" ∧ yX5_isIn.cls ≠ "java/lang/invoke/VarHandle" ∧ (parseMethodDescriptor yX5_isIn.desc).map (fun d => d.parameters.length) = some 2 := by decide +kernel
set_option maxHeartbeats 4000000 in
set_option maxRecDepth 100000 in
theorem kX5_isIn (l : Launch) (K : zK) (p0 : Int32) (p1 : Int32) (R : Int32) (hf : fX5_isIn p0 p1 = R) : zC l yX5_isIn wsX5_isIn ({ frames := 0, cells := 0, slots := 0, locals := 0 } : Room) K [.int p0, .int p1] ([]) (some (.int R)) ([]) := by
  refine zC_z .boolean R (cc := cX5_isIn) (maxL := 2) (by decide +kernel) rfl (Nat.le_of_ble_eq_true rfl) rfl rfl ?_
  intro p e s m below meth c Q A X hret ls hl hh
  have X : zX p m c cX5_isIn 2 s ([.int p0, .int p1] : List Value).toArray wsX5_isIn RX5 K A := X
  have hx := X.1.1
  have hb := X.1.2.1
  have hr2 : ∀ (pc : Nat) (ls : Array Slot) (H : Heap) (locs : List Loc) (v : Int32), v = R → narrow .boolean (.int v) = .int v → decode cX5_isIn pc = .ok (.ireturn, 1) → zW K A s H locs ([]) → W p l e ({ frames := 0, cells := 0, slots := 0, locals := 0 } : Room) s m ([.int p0, .int p1] : List Value).toArray below meth c H locs 0 0 Q (F0 m pc ls [.int v]) := by
    intro pc ls H locs v h hn hd hh
    cases h; exact hret pc ls H locs _ rfl hn hd hh
  have hl : lv_has ls 2 [(0, .int p0), (1, .int p1)] := hl
  unfold fX5_isIn at hf
  refine (fun (hmain : ∀ (H : Heap) (locs : List Loc), zW K A s H locs ([]) → W p l e ({ frames := 0, cells := 0, slots := 0, locals := 0 } : Room) s m ([.int p0, .int p1] : List Value).toArray below meth c H locs 0 0 Q (F0 m 0 ls [])) => hmain s.heap [] hh) (fun H locs hh => ?_)
  refine lv_iload_n hx hb dX5_isIn_0 rfl (lv_at hl 1 rfl) ?_
  refine lv_if_lt (tgt := 23) hx hb dX5_isIn_1 (by decide) (fun c1 => ?_) (fun c1 => ?_)
  · replace hf := (if_pos c1).symm.trans hf
    refine lv_iconst (v := (0 : Int32)) hx hb dX5_isIn_23 (by decide) ?_
    exact hr2 24 ls H locs (0 : Int32) hf rfl dX5_isIn_24 hh
  · replace hf := (if_neg c1).symm.trans hf
    refine lv_iload_n hx hb dX5_isIn_4 rfl (lv_at hl 1 rfl) ?_
    refine lv_bipush (v := (12 : Int32)) hx hb dX5_isIn_5 (by decide) ?_
    refine lv_icmp_ge (tgt := 23) hx hb dX5_isIn_7 (by decide) (fun c2 => ?_) (fun c2 => ?_)
    · replace hf := (if_pos c2).symm.trans hf
      refine lv_iconst (v := (0 : Int32)) hx hb dX5_isIn_23 (by decide) ?_
      exact hr2 24 ls H locs (0 : Int32) hf rfl dX5_isIn_24 hh
    · replace hf := (if_neg c2).symm.trans hf
      refine lv_iload_n hx hb dX5_isIn_10 rfl (lv_at hl 0 rfl) ?_
      refine lv_iload_n hx hb dX5_isIn_11 rfl (lv_at hl 1 rfl) ?_
      refine lv_ishr hx hb dX5_isIn_12 ?_
      refine lv_iconst (v := (1 : Int32)) hx hb dX5_isIn_13 (by decide) ?_
      refine lv_iand hx hb dX5_isIn_14 ?_
      refine lv_iconst (v := (1 : Int32)) hx hb dX5_isIn_15 (by decide) ?_
      refine lv_icmp_ne (tgt := 23) hx hb dX5_isIn_16 (by decide) (fun c3 => ?_) (fun c3 => ?_)
      · replace hf := (if_neg c3).symm.trans hf
        refine lv_iconst (v := (0 : Int32)) hx hb dX5_isIn_23 (by decide) ?_
        exact hr2 24 ls H locs (0 : Int32) hf rfl dX5_isIn_24 hh
      · replace hf := (if_pos c3).symm.trans hf
        refine lv_iconst (v := (1 : Int32)) hx hb dX5_isIn_19 (by decide) ?_
        refine lv_goto (tgt := 24) hx hb dX5_isIn_20 (by decide) ?_
        exact hr2 24 ls H locs (1 : Int32) hf rfl dX5_isIn_24 hh
def fX5_isKind (p0 : Int32) : Int32 :=
  if p0 < (0 : Int32) then
  ((0 : Int32))
  else
  (if (5 : Int32) < p0 then
  ((0 : Int32))
  else
  ((1 : Int32)))
theorem hdX5_isKind : yX5_isKind.cls ≠ "java/lang/invoke/MethodHandle" ∧ yX5_isKind.cls ≠ "java/lang/invoke/VarHandle" ∧ (parseMethodDescriptor yX5_isKind.desc).map (fun d => d.parameters.length) = some 1 := by decide +kernel
set_option maxHeartbeats 4000000 in
set_option maxRecDepth 100000 in
theorem kX5_isKind (l : Launch) (K : zK) (p0 : Int32) (R : Int32) (hf : fX5_isKind p0 = R) : zC l yX5_isKind wsX5_isKind ({ frames := 0, cells := 0, slots := 0, locals := 0 } : Room) K [.int p0] ([]) (some (.int R)) ([]) := by
  refine zC_z .boolean R (cc := cX5_isKind) (maxL := 1) (by decide +kernel) rfl (Nat.le_of_ble_eq_true rfl) rfl rfl ?_
  intro p e s m below meth c Q A X hret ls hl hh
  have X : zX p m c cX5_isKind 1 s ([.int p0] : List Value).toArray wsX5_isKind RX5 K A := X
  have hx := X.1.1
  have hb := X.1.2.1
  have hr2 : ∀ (pc : Nat) (ls : Array Slot) (H : Heap) (locs : List Loc) (v : Int32), v = R → narrow .boolean (.int v) = .int v → decode cX5_isKind pc = .ok (.ireturn, 1) → zW K A s H locs ([]) → W p l e ({ frames := 0, cells := 0, slots := 0, locals := 0 } : Room) s m ([.int p0] : List Value).toArray below meth c H locs 0 0 Q (F0 m pc ls [.int v]) := by
    intro pc ls H locs v h hn hd hh
    cases h; exact hret pc ls H locs _ rfl hn hd hh
  have hl : lv_has ls 1 [(0, .int p0)] := hl
  unfold fX5_isKind at hf
  refine (fun (hmain : ∀ (H : Heap) (locs : List Loc), zW K A s H locs ([]) → W p l e ({ frames := 0, cells := 0, slots := 0, locals := 0 } : Room) s m ([.int p0] : List Value).toArray below meth c H locs 0 0 Q (F0 m 0 ls [])) => hmain s.heap [] hh) (fun H locs hh => ?_)
  refine lv_iload_n hx hb dX5_isKind_0 rfl (lv_at hl 0 rfl) ?_
  refine lv_if_lt (tgt := 13) hx hb dX5_isKind_1 (by decide) (fun c1 => ?_) (fun c1 => ?_)
  · replace hf := (if_pos c1).symm.trans hf
    refine lv_iconst (v := (0 : Int32)) hx hb dX5_isKind_13 (by decide) ?_
    exact hr2 14 ls H locs (0 : Int32) hf rfl dX5_isKind_14 hh
  · replace hf := (if_neg c1).symm.trans hf
    refine lv_iload_n hx hb dX5_isKind_4 rfl (lv_at hl 0 rfl) ?_
    refine lv_iconst (v := (5 : Int32)) hx hb dX5_isKind_5 (by decide) ?_
    refine lv_icmp_gt (tgt := 13) hx hb dX5_isKind_6 (by decide) (fun c2 => ?_) (fun c2 => ?_)
    · replace hf := (if_pos c2).symm.trans hf
      refine lv_iconst (v := (0 : Int32)) hx hb dX5_isKind_13 (by decide) ?_
      exact hr2 14 ls H locs (0 : Int32) hf rfl dX5_isKind_14 hh
    · replace hf := (if_neg c2).symm.trans hf
      refine lv_iconst (v := (1 : Int32)) hx hb dX5_isKind_9 (by decide) ?_
      refine lv_goto (tgt := 14) hx hb dX5_isKind_10 (by decide) ?_
      exact hr2 14 ls H locs (1 : Int32) hf rfl dX5_isKind_14 hh
def fX5_has (S : zSt) (p1 : Int32) : Int32 :=
  if p1 < (0 : Int32) then
  ((0 : Int32))
  else
  (if (st_came S) ≤ p1 then
  ((0 : Int32))
  else
  ((1 : Int32)))
theorem inX5_has_X5 : ∀ w ∈ wsX50, w ∈ wsX5_has := by decide +kernel
theorem mmX5_has_0 : Cond.fieldLink RX5 36 "SumOfTwoThatStand$Street" "came" "I" ∈ wsX5_has := by decide +kernel
theorem hdX5_has : yX5_has.cls ≠ "java/lang/invoke/MethodHandle" ∧ yX5_has.cls ≠ "java/lang/invoke/VarHandle" ∧ (parseMethodDescriptor yX5_has.desc).map (fun d => d.parameters.length) = some 1 := by decide +kernel
set_option maxHeartbeats 4000000 in
set_option maxRecDepth 100000 in
theorem kX5_has (l : Launch) (K : zK) (a0 a1 a2 a3 a4 a5 a6 a7 : Nat) (S : zSt) (p1 : Int32) (R : Int32) (hf : fX5_has S p1 = R) : zC l yX5_has wsX5_has ({ frames := 0, cells := 0, slots := 0, locals := 0 } : Room) K [.ref a0, .int p1] (cSt K a0 a1 a2 a3 a4 a5 a6 a7 S) (some (.int R)) (cSt K a0 a1 a2 a3 a4 a5 a6 a7 S) := by
  refine zC_z .boolean R (cc := cX5_has) (maxL := 2) (by decide +kernel) rfl (Nat.le_of_ble_eq_true rfl) rfl rfl ?_
  intro p e s m below meth c Q A X hret ls hl hh
  have X : zX p m c cX5_has 2 s ([.ref a0, .int p1] : List Value).toArray wsX5_has RX5 K A := X
  have hx := X.1.1
  have hb := X.1.2.1
  have hr2 : ∀ (pc : Nat) (ls : Array Slot) (H : Heap) (locs : List Loc) (v : Int32), v = R → narrow .boolean (.int v) = .int v → decode cX5_has pc = .ok (.ireturn, 1) → zW K A s H locs (cSt K a0 a1 a2 a3 a4 a5 a6 a7 S) → W p l e ({ frames := 0, cells := 0, slots := 0, locals := 0 } : Room) s m ([.ref a0, .int p1] : List Value).toArray below meth c H locs 0 0 Q (F0 m pc ls [.int v]) := by
    intro pc ls H locs v h hn hd hh
    cases h; exact hret pc ls H locs _ rfl hn hd hh
  have hl : lv_has ls 2 [(0, .ref a0), (1, .int p1)] := hl
  unfold fX5_has at hf
  refine (fun (hmain : ∀ (H : Heap) (locs : List Loc), zW K A s H locs (cSt K a0 a1 a2 a3 a4 a5 a6 a7 S) → W p l e ({ frames := 0, cells := 0, slots := 0, locals := 0 } : Room) s m ([.ref a0, .int p1] : List Value).toArray below meth c H locs 0 0 Q (F0 m 0 ls [])) => hmain s.heap [] hh) (fun H locs hh => ?_)
  refine lv_iload_n hx hb dX5_has_0 rfl (lv_at hl 1 rfl) ?_
  refine lv_if_lt (tgt := 16) hx hb dX5_has_1 (by decide) (fun c1 => ?_) (fun c1 => ?_)
  · replace hf := (if_pos c1).symm.trans hf
    refine lv_iconst (v := (0 : Int32)) hx hb dX5_has_16 (by decide) ?_
    exact hr2 17 ls H locs (0 : Int32) hf rfl dX5_has_17 hh
  · replace hf := (if_neg c1).symm.trans hf
    refine lv_iload_n hx hb dX5_has_4 rfl (lv_at hl 1 rfl) ?_
    refine lv_aload_n hx hb dX5_has_5 rfl (lv_at hl 0 rfl) ?_
    refine zget (v := .int (st_came S)) (ref := "SumOfTwoThatStand$Street") (C := RX5) (T := TX5) (N := 11) (index := 36) X hh inX5_has_X5 0 rfl rfl 7 (by decide) mmX5_has_0 rfl rfl dX5_has_6 ?_
    refine lv_icmp_ge (tgt := 16) hx hb dX5_has_9 (by decide) (fun c2 => ?_) (fun c2 => ?_)
    · replace hf := (if_pos c2).symm.trans hf
      refine lv_iconst (v := (0 : Int32)) hx hb dX5_has_16 (by decide) ?_
      exact hr2 17 ls H locs (0 : Int32) hf rfl dX5_has_17 hh
    · replace hf := (if_neg c2).symm.trans hf
      refine lv_iconst (v := (1 : Int32)) hx hb dX5_has_12 (by decide) ?_
      refine lv_goto (tgt := 17) hx hb dX5_has_13 (by decide) ?_
      exact hr2 17 ls H locs (1 : Int32) hf rfl dX5_has_17 hh
def fX5_stands (S : zSt) (p1 : Int32) : Int32 :=
  if (fX5_has S p1) = (0 : Int32) then
  ((0 : Int32))
  else
  (if (fX5_isIn (st_standing S) p1) = (0 : Int32) then
  ((0 : Int32))
  else
  ((1 : Int32)))
theorem inX5_stands_X5 : ∀ w ∈ wsX50, w ∈ wsX5_stands := by decide +kernel
theorem mmX5_stands_0 : Cond.fieldLink RX5 40 "SumOfTwoThatStand$Street" "standing" "I" ∈ wsX5_stands := by decide +kernel
theorem hdX5_stands : yX5_stands.cls ≠ "java/lang/invoke/MethodHandle" ∧ yX5_stands.cls ≠ "java/lang/invoke/VarHandle" ∧ (parseMethodDescriptor yX5_stands.desc).map (fun d => d.parameters.length) = some 1 := by decide +kernel
set_option maxHeartbeats 4000000 in
set_option maxRecDepth 100000 in
theorem kX5_stands (l : Launch) (K : zK) (a0 a1 a2 a3 a4 a5 a6 a7 : Nat) (S : zSt) (p1 : Int32) (R : Int32) (hf : fX5_stands S p1 = R) : zC l yX5_stands wsX5_stands ({ frames := 1, cells := 0, slots := 0, locals := 21 } : Room) K [.ref a0, .int p1] (cSt K a0 a1 a2 a3 a4 a5 a6 a7 S) (some (.int R)) (cSt K a0 a1 a2 a3 a4 a5 a6 a7 S) := by
  refine zC_z .boolean R (cc := cX5_stands) (maxL := 2) (by decide +kernel) rfl (Nat.le_of_ble_eq_true rfl) rfl rfl ?_
  intro p e s m below meth c Q A X hret ls hl hh
  have X : zX p m c cX5_stands 2 s ([.ref a0, .int p1] : List Value).toArray wsX5_stands RX5 K A := X
  have hx := X.1.1
  have hb := X.1.2.1
  have hr2 : ∀ (pc : Nat) (ls : Array Slot) (H : Heap) (locs : List Loc) (v : Int32), v = R → narrow .boolean (.int v) = .int v → decode cX5_stands pc = .ok (.ireturn, 1) → zW K A s H locs (cSt K a0 a1 a2 a3 a4 a5 a6 a7 S) → W p l e ({ frames := 1, cells := 0, slots := 0, locals := 21 } : Room) s m ([.ref a0, .int p1] : List Value).toArray below meth c H locs 0 0 Q (F0 m pc ls [.int v]) := by
    intro pc ls H locs v h hn hd hh
    cases h; exact hret pc ls H locs _ rfl hn hd hh
  have hl : lv_has ls 2 [(0, .ref a0), (1, .int p1)] := hl
  unfold fX5_stands at hf
  refine (fun (hmain : ∀ (H : Heap) (locs : List Loc), zW K A s H locs (cSt K a0 a1 a2 a3 a4 a5 a6 a7 S) → W p l e ({ frames := 1, cells := 0, slots := 0, locals := 21 } : Room) s m ([.ref a0, .int p1] : List Value).toArray below meth c H locs 0 0 Q (F0 m 0 ls [])) => hmain s.heap [] hh) (fun H locs hh => ?_)
  refine lv_aload_n hx hb dX5_stands_0 rfl (lv_at hl 0 rfl) ?_
  refine lv_iload_n hx hb dX5_stands_1 rfl (lv_at hl 1 rfl) ?_
  refine zcallV (ci := 5) (q0 := 0) (As := [.int p1]) (rest := []) (wr := []) (ws' := cSt K a0 a1 a2 a3 a4 a5 a6 a7 S) (ov := some (.int (fX5_has S p1))) X hh hl (kX5_has l K a0 a1 a2 a3 a4 a5 a6 a7 S p1 (fX5_has S p1) rfl) (fun ht => cwV 1 ht gX5_stands_X5_has rfl rfl rfl ⟨rfl, hdX5_has⟩ ⟨Nat.le_of_ble_eq_true rfl, Nat.le_of_ble_eq_true rfl⟩) [0, 1, 2, 3, 4, 5, 6, 7] [] [0, 1, 2, 3, 4, 5, 6, 7] rfl rfl rfl rfl (by decide) rfl rfl rfl rfl rfl rfl (Nat.le_of_ble_eq_true rfl) dX5_stands_2 ⟨Nat.zero_le _, Nat.zero_le _⟩ (fun H locs hh => ?_)
  refine lv_if_eq (tgt := 23) hx hb dX5_stands_5 (by decide) (fun c2 => ?_) (fun c2 => ?_)
  · replace hf := (if_pos c2).symm.trans hf
    refine lv_iconst (v := (0 : Int32)) hx hb dX5_stands_23 (by decide) ?_
    exact hr2 24 ls H locs (0 : Int32) hf rfl dX5_stands_24 hh
  · replace hf := (if_neg c2).symm.trans hf
    refine lv_aload_n hx hb dX5_stands_8 rfl (lv_at hl 0 rfl) ?_
    refine zget (v := .int (st_standing S)) (ref := "SumOfTwoThatStand$Street") (C := RX5) (T := TX5) (N := 11) (index := 40) X hh inX5_stands_X5 0 rfl rfl 8 (by decide) mmX5_stands_0 rfl rfl dX5_stands_9 ?_
    refine lv_iload_n hx hb dX5_stands_12 rfl (lv_at hl 1 rfl) ?_
    refine zcallS (As := [.int (st_standing S), .int p1]) (rest := []) (wr := cSt K a0 a1 a2 a3 a4 a5 a6 a7 S) (ws' := cSt K a0 a1 a2 a3 a4 a5 a6 a7 S) (ov := some (.int (fX5_isIn (st_standing S) p1))) X hh hl (kX5_isIn l K (st_standing S) p1 (fX5_isIn (st_standing S) p1) rfl) (fun ht => va_cwS 2 ht gX5_stands_X5_isIn rfl rfl rfl hdX5_isIn ⟨Nat.le_of_ble_eq_true rfl, Nat.le_of_ble_eq_true rfl⟩) [] [0, 1, 2, 3, 4, 5, 6, 7] [0, 1, 2, 3, 4, 5, 6, 7] rfl rfl rfl rfl (by decide) rfl rfl rfl rfl (Nat.le_of_ble_eq_true rfl) dX5_stands_13 ⟨Nat.zero_le _, Nat.zero_le _⟩ (fun H locs hh => ?_)
    refine lv_if_eq (tgt := 23) hx hb dX5_stands_16 (by decide) (fun c4 => ?_) (fun c4 => ?_)
    · replace hf := (if_pos c4).symm.trans hf
      refine lv_iconst (v := (0 : Int32)) hx hb dX5_stands_23 (by decide) ?_
      exact hr2 24 ls H locs (0 : Int32) hf rfl dX5_stands_24 hh
    · replace hf := (if_neg c4).symm.trans hf
      refine lv_iconst (v := (1 : Int32)) hx hb dX5_stands_19 (by decide) ?_
      refine lv_goto (tgt := 24) hx hb dX5_stands_20 (by decide) ?_
      exact hr2 24 ls H locs (1 : Int32) hf rfl dX5_stands_24 hh
def fX5_hasRoom (S : zSt) : Int32 :=
  if (12 : Int32) ≤ (st_came S) then
  ((0 : Int32))
  else
  ((1 : Int32))
theorem inX5_hasRoom_X5 : ∀ w ∈ wsX50, w ∈ wsX5_hasRoom := by decide +kernel
theorem mmX5_hasRoom_0 : Cond.fieldLink RX5 36 "SumOfTwoThatStand$Street" "came" "I" ∈ wsX5_hasRoom := by decide +kernel
theorem hdX5_hasRoom : yX5_hasRoom.cls ≠ "java/lang/invoke/MethodHandle" ∧ yX5_hasRoom.cls ≠ "java/lang/invoke/VarHandle" ∧ (parseMethodDescriptor yX5_hasRoom.desc).map (fun d => d.parameters.length) = some 0 := by decide +kernel
set_option maxHeartbeats 4000000 in
set_option maxRecDepth 100000 in
theorem kX5_hasRoom (l : Launch) (K : zK) (a0 a1 a2 a3 a4 a5 a6 a7 : Nat) (S : zSt) (R : Int32) (hf : fX5_hasRoom S = R) : zC l yX5_hasRoom wsX5_hasRoom ({ frames := 0, cells := 0, slots := 0, locals := 0 } : Room) K [.ref a0] (cSt K a0 a1 a2 a3 a4 a5 a6 a7 S) (some (.int R)) (cSt K a0 a1 a2 a3 a4 a5 a6 a7 S) := by
  refine zC_z .boolean R (cc := cX5_hasRoom) (maxL := 1) (by decide +kernel) rfl (Nat.le_of_ble_eq_true rfl) rfl rfl ?_
  intro p e s m below meth c Q A X hret ls hl hh
  have X : zX p m c cX5_hasRoom 1 s ([.ref a0] : List Value).toArray wsX5_hasRoom RX5 K A := X
  have hx := X.1.1
  have hb := X.1.2.1
  have hr2 : ∀ (pc : Nat) (ls : Array Slot) (H : Heap) (locs : List Loc) (v : Int32), v = R → narrow .boolean (.int v) = .int v → decode cX5_hasRoom pc = .ok (.ireturn, 1) → zW K A s H locs (cSt K a0 a1 a2 a3 a4 a5 a6 a7 S) → W p l e ({ frames := 0, cells := 0, slots := 0, locals := 0 } : Room) s m ([.ref a0] : List Value).toArray below meth c H locs 0 0 Q (F0 m pc ls [.int v]) := by
    intro pc ls H locs v h hn hd hh
    cases h; exact hret pc ls H locs _ rfl hn hd hh
  have hl : lv_has ls 1 [(0, .ref a0)] := hl
  unfold fX5_hasRoom at hf
  refine (fun (hmain : ∀ (H : Heap) (locs : List Loc), zW K A s H locs (cSt K a0 a1 a2 a3 a4 a5 a6 a7 S) → W p l e ({ frames := 0, cells := 0, slots := 0, locals := 0 } : Room) s m ([.ref a0] : List Value).toArray below meth c H locs 0 0 Q (F0 m 0 ls [])) => hmain s.heap [] hh) (fun H locs hh => ?_)
  refine lv_aload_n hx hb dX5_hasRoom_0 rfl (lv_at hl 0 rfl) ?_
  refine zget (v := .int (st_came S)) (ref := "SumOfTwoThatStand$Street") (C := RX5) (T := TX5) (N := 11) (index := 36) X hh inX5_hasRoom_X5 0 rfl rfl 7 (by decide) mmX5_hasRoom_0 rfl rfl dX5_hasRoom_1 ?_
  refine lv_bipush (v := (12 : Int32)) hx hb dX5_hasRoom_4 (by decide) ?_
  refine lv_icmp_ge (tgt := 13) hx hb dX5_hasRoom_6 (by decide) (fun c1 => ?_) (fun c1 => ?_)
  · replace hf := (if_pos c1).symm.trans hf
    refine lv_iconst (v := (0 : Int32)) hx hb dX5_hasRoom_13 (by decide) ?_
    exact hr2 14 ls H locs (0 : Int32) hf rfl dX5_hasRoom_14 hh
  · replace hf := (if_neg c1).symm.trans hf
    refine lv_iconst (v := (1 : Int32)) hx hb dX5_hasRoom_9 (by decide) ?_
    refine lv_goto (tgt := 14) hx hb dX5_hasRoom_10 (by decide) ?_
    exact hr2 14 ls H locs (1 : Int32) hf rfl dX5_hasRoom_14 hh
def fX5_cameCount (S : zSt) : Int32 :=
  (st_came S)
theorem inX5_cameCount_X5 : ∀ w ∈ wsX50, w ∈ wsX5_cameCount := by decide +kernel
theorem mmX5_cameCount_0 : Cond.fieldLink RX5 36 "SumOfTwoThatStand$Street" "came" "I" ∈ wsX5_cameCount := by decide +kernel
theorem hdX5_cameCount : yX5_cameCount.cls ≠ "java/lang/invoke/MethodHandle" ∧ yX5_cameCount.cls ≠ "java/lang/invoke/VarHandle" ∧ (parseMethodDescriptor yX5_cameCount.desc).map (fun d => d.parameters.length) = some 0 := by decide +kernel
set_option maxHeartbeats 4000000 in
set_option maxRecDepth 100000 in
theorem kX5_cameCount (l : Launch) (K : zK) (a0 a1 a2 a3 a4 a5 a6 a7 : Nat) (S : zSt) (R : Int32) (hf : fX5_cameCount S = R) : zC l yX5_cameCount wsX5_cameCount ({ frames := 0, cells := 0, slots := 0, locals := 0 } : Room) K [.ref a0] (cSt K a0 a1 a2 a3 a4 a5 a6 a7 S) (some (.int R)) (cSt K a0 a1 a2 a3 a4 a5 a6 a7 S) := by
  refine zC_i R (cc := cX5_cameCount) (maxL := 1) (by decide +kernel) rfl (Nat.le_of_ble_eq_true rfl) rfl rfl ?_
  intro p e s m below meth c Q A X hret ls hl hh
  have X : zX p m c cX5_cameCount 1 s ([.ref a0] : List Value).toArray wsX5_cameCount RX5 K A := X
  have hx := X.1.1
  have hb := X.1.2.1
  have hr2 : ∀ (pc : Nat) (ls : Array Slot) (H : Heap) (locs : List Loc) (v : Int32), v = R → decode cX5_cameCount pc = .ok (.ireturn, 1) → zW K A s H locs (cSt K a0 a1 a2 a3 a4 a5 a6 a7 S) → W p l e ({ frames := 0, cells := 0, slots := 0, locals := 0 } : Room) s m ([.ref a0] : List Value).toArray below meth c H locs 0 0 Q (F0 m pc ls [.int v]) := by
    intro pc ls H locs v h hd hh
    cases h; exact hret pc ls H locs _ rfl hd hh
  have hl : lv_has ls 1 [(0, .ref a0)] := hl
  unfold fX5_cameCount at hf
  refine (fun (hmain : ∀ (H : Heap) (locs : List Loc), zW K A s H locs (cSt K a0 a1 a2 a3 a4 a5 a6 a7 S) → W p l e ({ frames := 0, cells := 0, slots := 0, locals := 0 } : Room) s m ([.ref a0] : List Value).toArray below meth c H locs 0 0 Q (F0 m 0 ls [])) => hmain s.heap [] hh) (fun H locs hh => ?_)
  refine lv_aload_n hx hb dX5_cameCount_0 rfl (lv_at hl 0 rfl) ?_
  refine zget (v := .int (st_came S)) (ref := "SumOfTwoThatStand$Street") (C := RX5) (T := TX5) (N := 11) (index := 36) X hh inX5_cameCount_X5 0 rfl rfl 7 (by decide) mmX5_cameCount_0 rfl rfl dX5_cameCount_1 ?_
  exact hr2 4 ls H locs (st_came S) hf dX5_cameCount_4 hh
def fX5_standingCount (S : zSt) : Int32 :=
  (fJ6_bitCount_0f7a4 (st_standing S))
theorem inX5_standingCount_X5 : ∀ w ∈ wsX50, w ∈ wsX5_standingCount := by decide +kernel
theorem mmX5_standingCount_0 : Cond.fieldLink RX5 40 "SumOfTwoThatStand$Street" "standing" "I" ∈ wsX5_standingCount := by decide +kernel
theorem hdX5_standingCount : yX5_standingCount.cls ≠ "java/lang/invoke/MethodHandle" ∧ yX5_standingCount.cls ≠ "java/lang/invoke/VarHandle" ∧ (parseMethodDescriptor yX5_standingCount.desc).map (fun d => d.parameters.length) = some 0 := by decide +kernel
set_option maxHeartbeats 4000000 in
set_option maxRecDepth 100000 in
theorem kX5_standingCount (l : Launch) (K : zK) (a0 a1 a2 a3 a4 a5 a6 a7 : Nat) (S : zSt) (R : Int32) (hf : fX5_standingCount S = R) : zC l yX5_standingCount wsX5_standingCount ({ frames := 1, cells := 0, slots := 0, locals := 20 } : Room) K [.ref a0] (cSt K a0 a1 a2 a3 a4 a5 a6 a7 S) (some (.int R)) (cSt K a0 a1 a2 a3 a4 a5 a6 a7 S) := by
  refine zC_i R (cc := cX5_standingCount) (maxL := 1) (by decide +kernel) rfl (Nat.le_of_ble_eq_true rfl) rfl rfl ?_
  intro p e s m below meth c Q A X hret ls hl hh
  have X : zX p m c cX5_standingCount 1 s ([.ref a0] : List Value).toArray wsX5_standingCount RX5 K A := X
  have hx := X.1.1
  have hb := X.1.2.1
  have hr2 : ∀ (pc : Nat) (ls : Array Slot) (H : Heap) (locs : List Loc) (v : Int32), v = R → decode cX5_standingCount pc = .ok (.ireturn, 1) → zW K A s H locs (cSt K a0 a1 a2 a3 a4 a5 a6 a7 S) → W p l e ({ frames := 1, cells := 0, slots := 0, locals := 20 } : Room) s m ([.ref a0] : List Value).toArray below meth c H locs 0 0 Q (F0 m pc ls [.int v]) := by
    intro pc ls H locs v h hd hh
    cases h; exact hret pc ls H locs _ rfl hd hh
  have hl : lv_has ls 1 [(0, .ref a0)] := hl
  unfold fX5_standingCount at hf
  refine (fun (hmain : ∀ (H : Heap) (locs : List Loc), zW K A s H locs (cSt K a0 a1 a2 a3 a4 a5 a6 a7 S) → W p l e ({ frames := 1, cells := 0, slots := 0, locals := 20 } : Room) s m ([.ref a0] : List Value).toArray below meth c H locs 0 0 Q (F0 m 0 ls [])) => hmain s.heap [] hh) (fun H locs hh => ?_)
  refine lv_aload_n hx hb dX5_standingCount_0 rfl (lv_at hl 0 rfl) ?_
  refine zget (v := .int (st_standing S)) (ref := "SumOfTwoThatStand$Street") (C := RX5) (T := TX5) (N := 11) (index := 40) X hh inX5_standingCount_X5 0 rfl rfl 8 (by decide) mmX5_standingCount_0 rfl rfl dX5_standingCount_1 ?_
  refine zcallS (As := [.int (st_standing S)]) (rest := []) (wr := cSt K a0 a1 a2 a3 a4 a5 a6 a7 S) (ws' := cSt K a0 a1 a2 a3 a4 a5 a6 a7 S) (ov := some (.int (fJ6_bitCount_0f7a4 (st_standing S)))) X hh hl (kJ6_bitCount_0f7a4 l K (st_standing S) (fJ6_bitCount_0f7a4 (st_standing S)) rfl) (fun ht => va_cwS 1 ht gX5_standingCount_J6_bitCount_0f7a4 rfl rfl rfl hdJ6_bitCount_0f7a4 ⟨Nat.le_of_ble_eq_true rfl, Nat.le_of_ble_eq_true rfl⟩) [] [0, 1, 2, 3, 4, 5, 6, 7] [0, 1, 2, 3, 4, 5, 6, 7] rfl rfl rfl rfl (by decide) rfl rfl rfl rfl (Nat.le_of_ble_eq_true rfl) dX5_standingCount_4 ⟨Nat.zero_le _, Nat.zero_le _⟩ (fun H locs hh => ?_)
  exact hr2 7 ls H locs (fJ6_bitCount_0f7a4 (st_standing S)) hf dX5_standingCount_7 hh
def fX5_standingBits (S : zSt) : Int32 :=
  (st_standing S)
theorem inX5_standingBits_X5 : ∀ w ∈ wsX50, w ∈ wsX5_standingBits := by decide +kernel
theorem mmX5_standingBits_0 : Cond.fieldLink RX5 40 "SumOfTwoThatStand$Street" "standing" "I" ∈ wsX5_standingBits := by decide +kernel
theorem hdX5_standingBits : yX5_standingBits.cls ≠ "java/lang/invoke/MethodHandle" ∧ yX5_standingBits.cls ≠ "java/lang/invoke/VarHandle" ∧ (parseMethodDescriptor yX5_standingBits.desc).map (fun d => d.parameters.length) = some 0 := by decide +kernel
set_option maxHeartbeats 4000000 in
set_option maxRecDepth 100000 in
theorem kX5_standingBits (l : Launch) (K : zK) (a0 a1 a2 a3 a4 a5 a6 a7 : Nat) (S : zSt) (R : Int32) (hf : fX5_standingBits S = R) : zC l yX5_standingBits wsX5_standingBits ({ frames := 0, cells := 0, slots := 0, locals := 0 } : Room) K [.ref a0] (cSt K a0 a1 a2 a3 a4 a5 a6 a7 S) (some (.int R)) (cSt K a0 a1 a2 a3 a4 a5 a6 a7 S) := by
  refine zC_i R (cc := cX5_standingBits) (maxL := 1) (by decide +kernel) rfl (Nat.le_of_ble_eq_true rfl) rfl rfl ?_
  intro p e s m below meth c Q A X hret ls hl hh
  have X : zX p m c cX5_standingBits 1 s ([.ref a0] : List Value).toArray wsX5_standingBits RX5 K A := X
  have hx := X.1.1
  have hb := X.1.2.1
  have hr2 : ∀ (pc : Nat) (ls : Array Slot) (H : Heap) (locs : List Loc) (v : Int32), v = R → decode cX5_standingBits pc = .ok (.ireturn, 1) → zW K A s H locs (cSt K a0 a1 a2 a3 a4 a5 a6 a7 S) → W p l e ({ frames := 0, cells := 0, slots := 0, locals := 0 } : Room) s m ([.ref a0] : List Value).toArray below meth c H locs 0 0 Q (F0 m pc ls [.int v]) := by
    intro pc ls H locs v h hd hh
    cases h; exact hret pc ls H locs _ rfl hd hh
  have hl : lv_has ls 1 [(0, .ref a0)] := hl
  unfold fX5_standingBits at hf
  refine (fun (hmain : ∀ (H : Heap) (locs : List Loc), zW K A s H locs (cSt K a0 a1 a2 a3 a4 a5 a6 a7 S) → W p l e ({ frames := 0, cells := 0, slots := 0, locals := 0 } : Room) s m ([.ref a0] : List Value).toArray below meth c H locs 0 0 Q (F0 m 0 ls [])) => hmain s.heap [] hh) (fun H locs hh => ?_)
  refine lv_aload_n hx hb dX5_standingBits_0 rfl (lv_at hl 0 rfl) ?_
  refine zget (v := .int (st_standing S)) (ref := "SumOfTwoThatStand$Street") (C := RX5) (T := TX5) (N := 11) (index := 40) X hh inX5_standingBits_X5 0 rfl rfl 8 (by decide) mmX5_standingBits_0 rfl rfl dX5_standingBits_1 ?_
  exact hr2 4 ls H locs (st_standing S) hf dX5_standingBits_4 hh
def fX5_sumsLaw (S : zSt) : Int32 :=
  (st_sums S)
theorem inX5_sumsLaw_X5 : ∀ w ∈ wsX50, w ∈ wsX5_sumsLaw := by decide +kernel
theorem mmX5_sumsLaw_0 : Cond.fieldLink RX5 53 "SumOfTwoThatStand$Street" "sums" "I" ∈ wsX5_sumsLaw := by decide +kernel
theorem hdX5_sumsLaw : yX5_sumsLaw.cls ≠ "java/lang/invoke/MethodHandle" ∧ yX5_sumsLaw.cls ≠ "java/lang/invoke/VarHandle" ∧ (parseMethodDescriptor yX5_sumsLaw.desc).map (fun d => d.parameters.length) = some 0 := by decide +kernel
set_option maxHeartbeats 4000000 in
set_option maxRecDepth 100000 in
theorem kX5_sumsLaw (l : Launch) (K : zK) (a0 a1 a2 a3 a4 a5 a6 a7 : Nat) (S : zSt) (R : Int32) (hf : fX5_sumsLaw S = R) : zC l yX5_sumsLaw wsX5_sumsLaw ({ frames := 0, cells := 0, slots := 0, locals := 0 } : Room) K [.ref a0] (cSt K a0 a1 a2 a3 a4 a5 a6 a7 S) (some (.int R)) (cSt K a0 a1 a2 a3 a4 a5 a6 a7 S) := by
  refine zC_i R (cc := cX5_sumsLaw) (maxL := 1) (by decide +kernel) rfl (Nat.le_of_ble_eq_true rfl) rfl rfl ?_
  intro p e s m below meth c Q A X hret ls hl hh
  have X : zX p m c cX5_sumsLaw 1 s ([.ref a0] : List Value).toArray wsX5_sumsLaw RX5 K A := X
  have hx := X.1.1
  have hb := X.1.2.1
  have hr2 : ∀ (pc : Nat) (ls : Array Slot) (H : Heap) (locs : List Loc) (v : Int32), v = R → decode cX5_sumsLaw pc = .ok (.ireturn, 1) → zW K A s H locs (cSt K a0 a1 a2 a3 a4 a5 a6 a7 S) → W p l e ({ frames := 0, cells := 0, slots := 0, locals := 0 } : Room) s m ([.ref a0] : List Value).toArray below meth c H locs 0 0 Q (F0 m pc ls [.int v]) := by
    intro pc ls H locs v h hd hh
    cases h; exact hret pc ls H locs _ rfl hd hh
  have hl : lv_has ls 1 [(0, .ref a0)] := hl
  unfold fX5_sumsLaw at hf
  refine (fun (hmain : ∀ (H : Heap) (locs : List Loc), zW K A s H locs (cSt K a0 a1 a2 a3 a4 a5 a6 a7 S) → W p l e ({ frames := 0, cells := 0, slots := 0, locals := 0 } : Room) s m ([.ref a0] : List Value).toArray below meth c H locs 0 0 Q (F0 m 0 ls [])) => hmain s.heap [] hh) (fun H locs hh => ?_)
  refine lv_aload_n hx hb dX5_sumsLaw_0 rfl (lv_at hl 0 rfl) ?_
  refine zget (v := .int (st_sums S)) (ref := "SumOfTwoThatStand$Street") (C := RX5) (T := TX5) (N := 11) (index := 53) X hh inX5_sumsLaw_X5 0 rfl rfl 9 (by decide) mmX5_sumsLaw_0 rfl rfl dX5_sumsLaw_1 ?_
  exact hr2 4 ls H locs (st_sums S) hf dX5_sumsLaw_4 hh
def fX5_fallsLaw (S : zSt) : Int32 :=
  (st_falls S)
theorem inX5_fallsLaw_X5 : ∀ w ∈ wsX50, w ∈ wsX5_fallsLaw := by decide +kernel
theorem mmX5_fallsLaw_0 : Cond.fieldLink RX5 56 "SumOfTwoThatStand$Street" "falls" "I" ∈ wsX5_fallsLaw := by decide +kernel
theorem hdX5_fallsLaw : yX5_fallsLaw.cls ≠ "java/lang/invoke/MethodHandle" ∧ yX5_fallsLaw.cls ≠ "java/lang/invoke/VarHandle" ∧ (parseMethodDescriptor yX5_fallsLaw.desc).map (fun d => d.parameters.length) = some 0 := by decide +kernel
set_option maxHeartbeats 4000000 in
set_option maxRecDepth 100000 in
theorem kX5_fallsLaw (l : Launch) (K : zK) (a0 a1 a2 a3 a4 a5 a6 a7 : Nat) (S : zSt) (R : Int32) (hf : fX5_fallsLaw S = R) : zC l yX5_fallsLaw wsX5_fallsLaw ({ frames := 0, cells := 0, slots := 0, locals := 0 } : Room) K [.ref a0] (cSt K a0 a1 a2 a3 a4 a5 a6 a7 S) (some (.int R)) (cSt K a0 a1 a2 a3 a4 a5 a6 a7 S) := by
  refine zC_i R (cc := cX5_fallsLaw) (maxL := 1) (by decide +kernel) rfl (Nat.le_of_ble_eq_true rfl) rfl rfl ?_
  intro p e s m below meth c Q A X hret ls hl hh
  have X : zX p m c cX5_fallsLaw 1 s ([.ref a0] : List Value).toArray wsX5_fallsLaw RX5 K A := X
  have hx := X.1.1
  have hb := X.1.2.1
  have hr2 : ∀ (pc : Nat) (ls : Array Slot) (H : Heap) (locs : List Loc) (v : Int32), v = R → decode cX5_fallsLaw pc = .ok (.ireturn, 1) → zW K A s H locs (cSt K a0 a1 a2 a3 a4 a5 a6 a7 S) → W p l e ({ frames := 0, cells := 0, slots := 0, locals := 0 } : Room) s m ([.ref a0] : List Value).toArray below meth c H locs 0 0 Q (F0 m pc ls [.int v]) := by
    intro pc ls H locs v h hd hh
    cases h; exact hret pc ls H locs _ rfl hd hh
  have hl : lv_has ls 1 [(0, .ref a0)] := hl
  unfold fX5_fallsLaw at hf
  refine (fun (hmain : ∀ (H : Heap) (locs : List Loc), zW K A s H locs (cSt K a0 a1 a2 a3 a4 a5 a6 a7 S) → W p l e ({ frames := 0, cells := 0, slots := 0, locals := 0 } : Room) s m ([.ref a0] : List Value).toArray below meth c H locs 0 0 Q (F0 m 0 ls [])) => hmain s.heap [] hh) (fun H locs hh => ?_)
  refine lv_aload_n hx hb dX5_fallsLaw_0 rfl (lv_at hl 0 rfl) ?_
  refine zget (v := .int (st_falls S)) (ref := "SumOfTwoThatStand$Street") (C := RX5) (T := TX5) (N := 11) (index := 56) X hh inX5_fallsLaw_X5 0 rfl rfl 10 (by decide) mmX5_fallsLaw_0 rfl rfl dX5_fallsLaw_1 ?_
  exact hr2 4 ls H locs (st_falls S) hf dX5_fallsLaw_4 hh
def fX5_changeLaws (S : zSt) (p1 : Int32) (p2 : Int32) : Int32 × zSt :=
  if p1 < (0 : Int32) then
  (((0 : Int32), S))
  else
  (if (2 : Int32) < p1 then
  (((0 : Int32), S))
  else
  (if p2 < (0 : Int32) then
  (((0 : Int32), S))
  else
  (if p2 ≤ (1 : Int32) then
  (((1 : Int32), (st_set_falls (st_set_sums S p1) p2)))
  else
  (((0 : Int32), S)))))
theorem inX5_changeLaws_X5 : ∀ w ∈ wsX50, w ∈ wsX5_changeLaws := by decide +kernel
theorem mmX5_changeLaws_0 : Cond.fieldLink RX5 53 "SumOfTwoThatStand$Street" "sums" "I" ∈ wsX5_changeLaws := by decide +kernel
theorem mmX5_changeLaws_1 : Cond.fieldLink RX5 56 "SumOfTwoThatStand$Street" "falls" "I" ∈ wsX5_changeLaws := by decide +kernel
theorem hdX5_changeLaws : yX5_changeLaws.cls ≠ "java/lang/invoke/MethodHandle" ∧ yX5_changeLaws.cls ≠ "java/lang/invoke/VarHandle" ∧ (parseMethodDescriptor yX5_changeLaws.desc).map (fun d => d.parameters.length) = some 2 := by decide +kernel
set_option maxHeartbeats 4000000 in
set_option maxRecDepth 100000 in
theorem kX5_changeLaws (l : Launch) (K : zK) (a0 a1 a2 a3 a4 a5 a6 a7 : Nat) (S : zSt) (p1 : Int32) (p2 : Int32) (R : Int32 × zSt) (hf : fX5_changeLaws S p1 p2 = R) : zC l yX5_changeLaws wsX5_changeLaws ({ frames := 0, cells := 0, slots := 0, locals := 0 } : Room) K [.ref a0, .int p1, .int p2] (cSt K a0 a1 a2 a3 a4 a5 a6 a7 S) (some (.int R.1)) (cSt K a0 a1 a2 a3 a4 a5 a6 a7 R.2) := by
  refine zC_z .boolean R.1 (cc := cX5_changeLaws) (maxL := 3) (by decide +kernel) rfl (Nat.le_of_ble_eq_true rfl) rfl rfl ?_
  intro p e s m below meth c Q A X hret ls hl hh
  have X : zX p m c cX5_changeLaws 3 s ([.ref a0, .int p1, .int p2] : List Value).toArray wsX5_changeLaws RX5 K A := X
  have hx := X.1.1
  have hb := X.1.2.1
  have hr2 : ∀ (pc : Nat) (ls : Array Slot) (H : Heap) (locs : List Loc) (v : Int32) (S : zSt), (v, S) = R → narrow .boolean (.int v) = .int v → decode cX5_changeLaws pc = .ok (.ireturn, 1) → zW K A s H locs (cSt K a0 a1 a2 a3 a4 a5 a6 a7 S) → W p l e ({ frames := 0, cells := 0, slots := 0, locals := 0 } : Room) s m ([.ref a0, .int p1, .int p2] : List Value).toArray below meth c H locs 0 0 Q (F0 m pc ls [.int v]) := by
    intro pc ls H locs v S h hn hd hh
    cases h; exact hret pc ls H locs _ rfl hn hd hh
  have hl : lv_has ls 3 [(0, .ref a0), (1, .int p1), (2, .int p2)] := hl
  unfold fX5_changeLaws at hf
  refine (fun (hmain : ∀ (H : Heap) (locs : List Loc), zW K A s H locs (cSt K a0 a1 a2 a3 a4 a5 a6 a7 S) → W p l e ({ frames := 0, cells := 0, slots := 0, locals := 0 } : Room) s m ([.ref a0, .int p1, .int p2] : List Value).toArray below meth c H locs 0 0 Q (F0 m 0 ls [])) => hmain s.heap [] hh) (fun H locs hh => ?_)
  refine lv_iload_n hx hb dX5_changeLaws_0 rfl (lv_at hl 1 rfl) ?_
  refine lv_if_lt (tgt := 18) hx hb dX5_changeLaws_1 (by decide) (fun c1 => ?_) (fun c1 => ?_)
  · replace hf := (if_pos c1).symm.trans hf
    refine lv_iconst (v := (0 : Int32)) hx hb dX5_changeLaws_18 (by decide) ?_
    exact hr2 19 ls H locs (0 : Int32) S hf rfl dX5_changeLaws_19 hh
  · replace hf := (if_neg c1).symm.trans hf
    refine lv_iload_n hx hb dX5_changeLaws_4 rfl (lv_at hl 1 rfl) ?_
    refine lv_iconst (v := (2 : Int32)) hx hb dX5_changeLaws_5 (by decide) ?_
    refine lv_icmp_gt (tgt := 18) hx hb dX5_changeLaws_6 (by decide) (fun c2 => ?_) (fun c2 => ?_)
    · replace hf := (if_pos c2).symm.trans hf
      refine lv_iconst (v := (0 : Int32)) hx hb dX5_changeLaws_18 (by decide) ?_
      exact hr2 19 ls H locs (0 : Int32) S hf rfl dX5_changeLaws_19 hh
    · replace hf := (if_neg c2).symm.trans hf
      refine lv_iload_n hx hb dX5_changeLaws_9 rfl (lv_at hl 2 rfl) ?_
      refine lv_if_lt (tgt := 18) hx hb dX5_changeLaws_10 (by decide) (fun c3 => ?_) (fun c3 => ?_)
      · replace hf := (if_pos c3).symm.trans hf
        refine lv_iconst (v := (0 : Int32)) hx hb dX5_changeLaws_18 (by decide) ?_
        exact hr2 19 ls H locs (0 : Int32) S hf rfl dX5_changeLaws_19 hh
      · replace hf := (if_neg c3).symm.trans hf
        refine lv_iload_n hx hb dX5_changeLaws_13 rfl (lv_at hl 2 rfl) ?_
        refine lv_iconst (v := (1 : Int32)) hx hb dX5_changeLaws_14 (by decide) ?_
        refine lv_icmp_le (tgt := 20) hx hb dX5_changeLaws_15 (by decide) (fun c4 => ?_) (fun c4 => ?_)
        · replace hf := (if_pos c4).symm.trans hf
          refine lv_aload_n hx hb dX5_changeLaws_20 rfl (lv_at hl 0 rfl) ?_
          refine lv_iload_n hx hb dX5_changeLaws_21 rfl (lv_at hl 1 rfl) ?_
          refine zput (v := .int p1) (ty := .int) (ref := "SumOfTwoThatStand$Street") (C := RX5) (T := TX5) (N := 11) (index := 53) X hh inX5_changeLaws_X5 tyX5 tyX5_ok nmX5 0 rfl rfl 9 (by decide) mmX5_changeLaws_0 rfl rfl (by decide +kernel) rfl rfl (Nat.le_of_ble_eq_true rfl) dX5_changeLaws_22 (fun H locs hh => ?_)
          have hh : zW K A s H locs (cSt K a0 a1 a2 a3 a4 a5 a6 a7 (st_set_sums S p1)) := hh
          refine lv_aload_n hx hb dX5_changeLaws_25 rfl (lv_at hl 0 rfl) ?_
          refine lv_iload_n hx hb dX5_changeLaws_26 rfl (lv_at hl 2 rfl) ?_
          refine zput (v := .int p2) (ty := .int) (ref := "SumOfTwoThatStand$Street") (C := RX5) (T := TX5) (N := 11) (index := 56) X hh inX5_changeLaws_X5 tyX5 tyX5_ok nmX5 0 rfl rfl 10 (by decide) mmX5_changeLaws_1 rfl rfl (by decide +kernel) rfl rfl (Nat.le_of_ble_eq_true rfl) dX5_changeLaws_27 (fun H locs hh => ?_)
          have hh : zW K A s H locs (cSt K a0 a1 a2 a3 a4 a5 a6 a7 (st_set_falls (st_set_sums S p1) p2)) := hh
          refine lv_iconst (v := (1 : Int32)) hx hb dX5_changeLaws_30 (by decide) ?_
          exact hr2 31 ls H locs (1 : Int32) (st_set_falls (st_set_sums S p1) p2) hf rfl dX5_changeLaws_31 hh
        · replace hf := (if_neg c4).symm.trans hf
          refine lv_iconst (v := (0 : Int32)) hx hb dX5_changeLaws_18 (by decide) ?_
          exact hr2 19 ls H locs (0 : Int32) S hf rfl dX5_changeLaws_19 hh
def fX5_tell (S : zSt) (p1 : Int32) (p2 : Int32) : Option (Int32) :=
  if (fX5_has S p1) = (0 : Int32) then
  (some (-1 : Int32))
  else
  (if p2 = (0 : Int32) then
  (ix 12 p1 (some ((st_kinds S) p1.toNatClampNeg)))
  else
  (if p2 = (1 : Int32) then
  (ix 12 p1 (some ((st_figures S) p1.toNatClampNeg)))
  else
  (if p2 = (2 : Int32) then
  (ix 12 p1 (some ((st_numbers S) p1.toNatClampNeg)))
  else
  (if p2 = (3 : Int32) then
  (ix 12 p1 (some ((st_firsts S) p1.toNatClampNeg)))
  else
  (if p2 = (4 : Int32) then
  (ix 12 p1 (some ((st_seconds S) p1.toNatClampNeg)))
  else
  (if p2 = (5 : Int32) then
  (if (fX5_isIn (st_standing S) p1) = (0 : Int32) then
  (some (0 : Int32))
  else
  (some (1 : Int32)))
  else
  (if p2 = (6 : Int32) then
  (ix 12 p1 (some ((st_uses S) p1.toNatClampNeg)))
  else
  (if p2 = (7 : Int32) then
  (ix 12 p1 (some ((st_earned S) p1.toNatClampNeg)))
  else
  (some (-2 : Int32))))))))))
theorem inX5_tell_X5 : ∀ w ∈ wsX50, w ∈ wsX5_tell := by decide +kernel
theorem mmX5_tell_0 : Cond.fieldLink RX5 9 "SumOfTwoThatStand$Street" "kinds" "[I" ∈ wsX5_tell := by decide +kernel
theorem mmX5_tell_1 : Cond.fieldLink RX5 15 "SumOfTwoThatStand$Street" "figures" "[I" ∈ wsX5_tell := by decide +kernel
theorem mmX5_tell_2 : Cond.fieldLink RX5 18 "SumOfTwoThatStand$Street" "numbers" "[I" ∈ wsX5_tell := by decide +kernel
theorem mmX5_tell_3 : Cond.fieldLink RX5 21 "SumOfTwoThatStand$Street" "firsts" "[I" ∈ wsX5_tell := by decide +kernel
theorem mmX5_tell_4 : Cond.fieldLink RX5 24 "SumOfTwoThatStand$Street" "seconds" "[I" ∈ wsX5_tell := by decide +kernel
theorem mmX5_tell_5 : Cond.fieldLink RX5 40 "SumOfTwoThatStand$Street" "standing" "I" ∈ wsX5_tell := by decide +kernel
theorem mmX5_tell_6 : Cond.fieldLink RX5 27 "SumOfTwoThatStand$Street" "uses" "[I" ∈ wsX5_tell := by decide +kernel
theorem mmX5_tell_7 : Cond.fieldLink RX5 30 "SumOfTwoThatStand$Street" "earned" "[I" ∈ wsX5_tell := by decide +kernel
theorem hdX5_tell : yX5_tell.cls ≠ "java/lang/invoke/MethodHandle" ∧ yX5_tell.cls ≠ "java/lang/invoke/VarHandle" ∧ (parseMethodDescriptor yX5_tell.desc).map (fun d => d.parameters.length) = some 2 := by decide +kernel
set_option maxHeartbeats 4000000 in
set_option maxRecDepth 100000 in
theorem kX5_tell (l : Launch) (K : zK) (a0 a1 a2 a3 a4 a5 a6 a7 : Nat) (S : zSt) (p1 : Int32) (p2 : Int32) (R : Int32) (hf : fX5_tell S p1 p2 = some R) : zC l yX5_tell wsX5_tell ({ frames := 1, cells := 0, slots := 0, locals := 21 } : Room) K [.ref a0, .int p1, .int p2] (cSt K a0 a1 a2 a3 a4 a5 a6 a7 S) (some (.int R)) (cSt K a0 a1 a2 a3 a4 a5 a6 a7 S) := by
  refine zC_i R (cc := cX5_tell) (maxL := 3) (by decide +kernel) rfl (Nat.le_of_ble_eq_true rfl) rfl rfl ?_
  intro p e s m below meth c Q A X hret ls hl hh
  have X : zX p m c cX5_tell 3 s ([.ref a0, .int p1, .int p2] : List Value).toArray wsX5_tell RX5 K A := X
  have hx := X.1.1
  have hb := X.1.2.1
  have hr2 : ∀ (pc : Nat) (ls : Array Slot) (H : Heap) (locs : List Loc) (v : Int32), some v = some R → decode cX5_tell pc = .ok (.ireturn, 1) → zW K A s H locs (cSt K a0 a1 a2 a3 a4 a5 a6 a7 S) → W p l e ({ frames := 1, cells := 0, slots := 0, locals := 21 } : Room) s m ([.ref a0, .int p1, .int p2] : List Value).toArray below meth c H locs 0 0 Q (F0 m pc ls [.int v]) := by
    intro pc ls H locs v h hd hh
    cases h; exact hret pc ls H locs _ rfl hd hh
  have hl : lv_has ls 3 [(0, .ref a0), (1, .int p1), (2, .int p2)] := hl
  unfold fX5_tell at hf
  refine (fun (hmain : ∀ (H : Heap) (locs : List Loc), zW K A s H locs (cSt K a0 a1 a2 a3 a4 a5 a6 a7 S) → W p l e ({ frames := 1, cells := 0, slots := 0, locals := 21 } : Room) s m ([.ref a0, .int p1, .int p2] : List Value).toArray below meth c H locs 0 0 Q (F0 m 0 ls [])) => hmain s.heap [] hh) (fun H locs hh => ?_)
  refine lv_aload_n hx hb dX5_tell_0 rfl (lv_at hl 0 rfl) ?_
  refine lv_iload_n hx hb dX5_tell_1 rfl (lv_at hl 1 rfl) ?_
  refine zcallV (ci := 5) (q0 := 0) (As := [.int p1]) (rest := []) (wr := []) (ws' := cSt K a0 a1 a2 a3 a4 a5 a6 a7 S) (ov := some (.int (fX5_has S p1))) X hh hl (kX5_has l K a0 a1 a2 a3 a4 a5 a6 a7 S p1 (fX5_has S p1) rfl) (fun ht => cwV 1 ht gX5_tell_X5_has rfl rfl rfl ⟨rfl, hdX5_has⟩ ⟨Nat.le_of_ble_eq_true rfl, Nat.le_of_ble_eq_true rfl⟩) [0, 1, 2, 3, 4, 5, 6, 7] [] [0, 1, 2, 3, 4, 5, 6, 7] rfl rfl rfl rfl (by decide) rfl rfl rfl rfl rfl rfl (Nat.le_of_ble_eq_true rfl) dX5_tell_2 ⟨Nat.zero_le _, Nat.zero_le _⟩ (fun H locs hh => ?_)
  refine lv_if_ne (tgt := 10) hx hb dX5_tell_5 (by decide) (fun c2 => ?_) (fun c2 => ?_)
  · replace hf := (if_neg c2).symm.trans hf
    refine lv_iload_n hx hb dX5_tell_10 rfl (lv_at hl 2 rfl) ?_
    by_cases c3_0 : p2 = (0 : Int32)
    · replace hf := (if_pos c3_0).symm.trans hf
      refine lv_tableIn (off := 45) (tgt := 56) hx hb dX5_tell_11 (by rw [c3_0]; decide) (by rw [c3_0]; decide) (by rw [c3_0]; decide) (by decide) ?_
      refine lv_aload_n hx hb dX5_tell_56 rfl (lv_at hl 0 rfl) ?_
      refine zget (v := .ref a1) (ref := "SumOfTwoThatStand$Street") (C := RX5) (T := TX5) (N := 11) (index := 9) X hh inX5_tell_X5 0 rfl rfl 0 (by decide) mmX5_tell_0 rfl rfl dX5_tell_57 ?_
      refine lv_iload_n hx hb dX5_tell_60 rfl (lv_at hl 1 rfl) ?_
      obtain ⟨g4, hf⟩ := ob_ix hf
      refine ziald (f := (st_kinds S)) X hh 1 rfl g4 dX5_tell_61 ?_
      exact hr2 62 ls H locs ((st_kinds S) p1.toNatClampNeg) hf dX5_tell_62 hh
    replace hf := (if_neg c3_0).symm.trans hf
    by_cases c3_1 : p2 = (1 : Int32)
    · replace hf := (if_pos c3_1).symm.trans hf
      refine lv_tableIn (off := 52) (tgt := 63) hx hb dX5_tell_11 (by rw [c3_1]; decide) (by rw [c3_1]; decide) (by rw [c3_1]; decide) (by decide) ?_
      refine lv_aload_n hx hb dX5_tell_63 rfl (lv_at hl 0 rfl) ?_
      refine zget (v := .ref a2) (ref := "SumOfTwoThatStand$Street") (C := RX5) (T := TX5) (N := 11) (index := 15) X hh inX5_tell_X5 0 rfl rfl 1 (by decide) mmX5_tell_1 rfl rfl dX5_tell_64 ?_
      refine lv_iload_n hx hb dX5_tell_67 rfl (lv_at hl 1 rfl) ?_
      obtain ⟨g5, hf⟩ := ob_ix hf
      refine ziald (f := (st_figures S)) X hh 2 rfl g5 dX5_tell_68 ?_
      exact hr2 69 ls H locs ((st_figures S) p1.toNatClampNeg) hf dX5_tell_69 hh
    replace hf := (if_neg c3_1).symm.trans hf
    by_cases c3_2 : p2 = (2 : Int32)
    · replace hf := (if_pos c3_2).symm.trans hf
      refine lv_tableIn (off := 59) (tgt := 70) hx hb dX5_tell_11 (by rw [c3_2]; decide) (by rw [c3_2]; decide) (by rw [c3_2]; decide) (by decide) ?_
      refine lv_aload_n hx hb dX5_tell_70 rfl (lv_at hl 0 rfl) ?_
      refine zget (v := .ref a3) (ref := "SumOfTwoThatStand$Street") (C := RX5) (T := TX5) (N := 11) (index := 18) X hh inX5_tell_X5 0 rfl rfl 2 (by decide) mmX5_tell_2 rfl rfl dX5_tell_71 ?_
      refine lv_iload_n hx hb dX5_tell_74 rfl (lv_at hl 1 rfl) ?_
      obtain ⟨g6, hf⟩ := ob_ix hf
      refine ziald (f := (st_numbers S)) X hh 3 rfl g6 dX5_tell_75 ?_
      exact hr2 76 ls H locs ((st_numbers S) p1.toNatClampNeg) hf dX5_tell_76 hh
    replace hf := (if_neg c3_2).symm.trans hf
    by_cases c3_3 : p2 = (3 : Int32)
    · replace hf := (if_pos c3_3).symm.trans hf
      refine lv_tableIn (off := 66) (tgt := 77) hx hb dX5_tell_11 (by rw [c3_3]; decide) (by rw [c3_3]; decide) (by rw [c3_3]; decide) (by decide) ?_
      refine lv_aload_n hx hb dX5_tell_77 rfl (lv_at hl 0 rfl) ?_
      refine zget (v := .ref a4) (ref := "SumOfTwoThatStand$Street") (C := RX5) (T := TX5) (N := 11) (index := 21) X hh inX5_tell_X5 0 rfl rfl 3 (by decide) mmX5_tell_3 rfl rfl dX5_tell_78 ?_
      refine lv_iload_n hx hb dX5_tell_81 rfl (lv_at hl 1 rfl) ?_
      obtain ⟨g7, hf⟩ := ob_ix hf
      refine ziald (f := (st_firsts S)) X hh 4 rfl g7 dX5_tell_82 ?_
      exact hr2 83 ls H locs ((st_firsts S) p1.toNatClampNeg) hf dX5_tell_83 hh
    replace hf := (if_neg c3_3).symm.trans hf
    by_cases c3_4 : p2 = (4 : Int32)
    · replace hf := (if_pos c3_4).symm.trans hf
      refine lv_tableIn (off := 73) (tgt := 84) hx hb dX5_tell_11 (by rw [c3_4]; decide) (by rw [c3_4]; decide) (by rw [c3_4]; decide) (by decide) ?_
      refine lv_aload_n hx hb dX5_tell_84 rfl (lv_at hl 0 rfl) ?_
      refine zget (v := .ref a5) (ref := "SumOfTwoThatStand$Street") (C := RX5) (T := TX5) (N := 11) (index := 24) X hh inX5_tell_X5 0 rfl rfl 4 (by decide) mmX5_tell_4 rfl rfl dX5_tell_85 ?_
      refine lv_iload_n hx hb dX5_tell_88 rfl (lv_at hl 1 rfl) ?_
      obtain ⟨g8, hf⟩ := ob_ix hf
      refine ziald (f := (st_seconds S)) X hh 5 rfl g8 dX5_tell_89 ?_
      exact hr2 90 ls H locs ((st_seconds S) p1.toNatClampNeg) hf dX5_tell_90 hh
    replace hf := (if_neg c3_4).symm.trans hf
    by_cases c3_5 : p2 = (5 : Int32)
    · replace hf := (if_pos c3_5).symm.trans hf
      refine lv_tableIn (off := 80) (tgt := 91) hx hb dX5_tell_11 (by rw [c3_5]; decide) (by rw [c3_5]; decide) (by rw [c3_5]; decide) (by decide) ?_
      refine lv_aload_n hx hb dX5_tell_91 rfl (lv_at hl 0 rfl) ?_
      refine zget (v := .int (st_standing S)) (ref := "SumOfTwoThatStand$Street") (C := RX5) (T := TX5) (N := 11) (index := 40) X hh inX5_tell_X5 0 rfl rfl 8 (by decide) mmX5_tell_5 rfl rfl dX5_tell_92 ?_
      refine lv_iload_n hx hb dX5_tell_95 rfl (lv_at hl 1 rfl) ?_
      refine zcallS (As := [.int (st_standing S), .int p1]) (rest := []) (wr := cSt K a0 a1 a2 a3 a4 a5 a6 a7 S) (ws' := cSt K a0 a1 a2 a3 a4 a5 a6 a7 S) (ov := some (.int (fX5_isIn (st_standing S) p1))) X hh hl (kX5_isIn l K (st_standing S) p1 (fX5_isIn (st_standing S) p1) rfl) (fun ht => va_cwS 2 ht gX5_tell_X5_isIn rfl rfl rfl hdX5_isIn ⟨Nat.le_of_ble_eq_true rfl, Nat.le_of_ble_eq_true rfl⟩) [] [0, 1, 2, 3, 4, 5, 6, 7] [0, 1, 2, 3, 4, 5, 6, 7] rfl rfl rfl rfl (by decide) rfl rfl rfl rfl (Nat.le_of_ble_eq_true rfl) dX5_tell_96 ⟨Nat.zero_le _, Nat.zero_le _⟩ (fun H locs hh => ?_)
      refine lv_if_eq (tgt := 106) hx hb dX5_tell_99 (by decide) (fun c10 => ?_) (fun c10 => ?_)
      · replace hf := (if_pos c10).symm.trans hf
        refine lv_iconst (v := (0 : Int32)) hx hb dX5_tell_106 (by decide) ?_
        exact hr2 107 ls H locs (0 : Int32) hf dX5_tell_107 hh
      · replace hf := (if_neg c10).symm.trans hf
        refine lv_iconst (v := (1 : Int32)) hx hb dX5_tell_102 (by decide) ?_
        refine lv_goto (tgt := 107) hx hb dX5_tell_103 (by decide) ?_
        exact hr2 107 ls H locs (1 : Int32) hf dX5_tell_107 hh
    replace hf := (if_neg c3_5).symm.trans hf
    by_cases c3_6 : p2 = (6 : Int32)
    · replace hf := (if_pos c3_6).symm.trans hf
      refine lv_tableIn (off := 97) (tgt := 108) hx hb dX5_tell_11 (by rw [c3_6]; decide) (by rw [c3_6]; decide) (by rw [c3_6]; decide) (by decide) ?_
      refine lv_aload_n hx hb dX5_tell_108 rfl (lv_at hl 0 rfl) ?_
      refine zget (v := .ref a6) (ref := "SumOfTwoThatStand$Street") (C := RX5) (T := TX5) (N := 11) (index := 27) X hh inX5_tell_X5 0 rfl rfl 5 (by decide) mmX5_tell_6 rfl rfl dX5_tell_109 ?_
      refine lv_iload_n hx hb dX5_tell_112 rfl (lv_at hl 1 rfl) ?_
      obtain ⟨g11, hf⟩ := ob_ix hf
      refine ziald (f := (st_uses S)) X hh 6 rfl g11 dX5_tell_113 ?_
      exact hr2 114 ls H locs ((st_uses S) p1.toNatClampNeg) hf dX5_tell_114 hh
    replace hf := (if_neg c3_6).symm.trans hf
    by_cases c3_7 : p2 = (7 : Int32)
    · replace hf := (if_pos c3_7).symm.trans hf
      refine lv_tableIn (off := 104) (tgt := 115) hx hb dX5_tell_11 (by rw [c3_7]; decide) (by rw [c3_7]; decide) (by rw [c3_7]; decide) (by decide) ?_
      refine lv_aload_n hx hb dX5_tell_115 rfl (lv_at hl 0 rfl) ?_
      refine zget (v := .ref a7) (ref := "SumOfTwoThatStand$Street") (C := RX5) (T := TX5) (N := 11) (index := 30) X hh inX5_tell_X5 0 rfl rfl 6 (by decide) mmX5_tell_7 rfl rfl dX5_tell_116 ?_
      refine lv_iload_n hx hb dX5_tell_119 rfl (lv_at hl 1 rfl) ?_
      obtain ⟨g12, hf⟩ := ob_ix hf
      refine ziald (f := (st_earned S)) X hh 7 rfl g12 dX5_tell_120 ?_
      exact hr2 121 ls H locs ((st_earned S) p1.toNatClampNeg) hf dX5_tell_121 hh
    replace hf := (if_neg c3_7).symm.trans hf
    refine lv_tableOut (tgt := 122) hx hb dX5_tell_11 (by have e0 := lv_neT c3_0 (a := 0) (by decide); have e1 := lv_neT c3_1 (a := 1) (by decide); have e2 := lv_neT c3_2 (a := 2) (by decide); have e3 := lv_neT c3_3 (a := 3) (by decide); have e4 := lv_neT c3_4 (a := 4) (by decide); have e5 := lv_neT c3_5 (a := 5) (by decide); have e6 := lv_neT c3_6 (a := 6) (by decide); have e7 := lv_neT c3_7 (a := 7) (by decide); omega) (by decide) ?_
    refine lv_bipush (v := (-2 : Int32)) hx hb dX5_tell_122 (by decide) ?_
    exact hr2 124 ls H locs (-2 : Int32) hf dX5_tell_124 hh
  · replace hf := (if_pos c2).symm.trans hf
    refine lv_iconst (v := (-1 : Int32)) hx hb dX5_tell_8 (by decide) ?_
    exact hr2 9 ls H locs (-1 : Int32) hf dX5_tell_9 hh
def fX5_greatest_j34 (S : zSt) (v1 : Int32) (v2 : Int32) (k4 : (Int32) → (Int32) → Option (Int32)) : Option (Int32) :=
  k4 v1 (v2 + (1 : Int32))
def fX5_greatest_l4 (S : zSt) : Nat → (Int32) → (Int32) → Option (Int32)
  | 0, _, _ => none
  | n + 1, v1, v2 =>
  if (st_came S) ≤ v2 then
  (some v1)
  else
  (if (fX5_isIn (st_standing S) v2) = (0 : Int32) then
  (fX5_greatest_j34 S v1 v2 (fX5_greatest_l4 S n))
  else
  (ix 12 v2 (fX5_greatest_j34 S (if v1 < ((st_numbers S) v2.toNatClampNeg) then ((st_numbers S) v2.toNatClampNeg) else v1) v2 (fX5_greatest_l4 S n))))
def fX5_greatest (S : zSt) : Option (Int32) :=
  fX5_greatest_l4 S FU (0 : Int32) (0 : Int32)
theorem inX5_greatest_X5 : ∀ w ∈ wsX50, w ∈ wsX5_greatest := by decide +kernel
theorem mmX5_greatest_0 : Cond.fieldLink RX5 36 "SumOfTwoThatStand$Street" "came" "I" ∈ wsX5_greatest := by decide +kernel
theorem mmX5_greatest_1 : Cond.fieldLink RX5 40 "SumOfTwoThatStand$Street" "standing" "I" ∈ wsX5_greatest := by decide +kernel
theorem mmX5_greatest_2 : Cond.fieldLink RX5 18 "SumOfTwoThatStand$Street" "numbers" "[I" ∈ wsX5_greatest := by decide +kernel
theorem mmX5_greatest_3 : Cond.methodLink RX5 73 Lib.Math.max.name ∈ wsX5_greatest := by decide +kernel
theorem mmX5_greatest_4 : Cond.static Lib.Math.max.name ∈ wsX5_greatest := by decide +kernel
theorem mmX5_greatest_5 : Cond.initialized "java/lang/Math" ∈ wsX5_greatest := by decide +kernel
theorem mmX5_greatest_6 : Cond.code Lib.Math.max.name Lib.Math.max.code 2 (some .int) ∈ wsX5_greatest := by decide +kernel
theorem hdX5_greatest : yX5_greatest.cls ≠ "java/lang/invoke/MethodHandle" ∧ yX5_greatest.cls ≠ "java/lang/invoke/VarHandle" ∧ (parseMethodDescriptor yX5_greatest.desc).map (fun d => d.parameters.length) = some 0 := by decide +kernel
set_option maxHeartbeats 4000000 in
set_option maxRecDepth 100000 in
theorem kX5_greatest (l : Launch) (K : zK) (a0 a1 a2 a3 a4 a5 a6 a7 : Nat) (S : zSt) (R : Int32) (hf : fX5_greatest S = some R) : zC l yX5_greatest wsX5_greatest ({ frames := 1, cells := 0, slots := 0, locals := 40 } : Room) K [.ref a0] (cSt K a0 a1 a2 a3 a4 a5 a6 a7 S) (some (.int R)) (cSt K a0 a1 a2 a3 a4 a5 a6 a7 S) := by
  refine zC_i R (cc := cX5_greatest) (maxL := 3) (by decide +kernel) rfl (Nat.le_of_ble_eq_true rfl) rfl rfl ?_
  intro p e s m below meth c Q A X hret ls hl hh
  have X : zX p m c cX5_greatest 3 s ([.ref a0] : List Value).toArray wsX5_greatest RX5 K A := X
  have hx := X.1.1
  have hb := X.1.2.1
  have hr2 : ∀ (pc : Nat) (ls : Array Slot) (H : Heap) (locs : List Loc) (v : Int32), some v = some R → decode cX5_greatest pc = .ok (.ireturn, 1) → zW K A s H locs (cSt K a0 a1 a2 a3 a4 a5 a6 a7 S) → W p l e ({ frames := 1, cells := 0, slots := 0, locals := 40 } : Room) s m ([.ref a0] : List Value).toArray below meth c H locs 0 0 Q (F0 m pc ls [.int v]) := by
    intro pc ls H locs v h hd hh
    cases h; exact hret pc ls H locs _ rfl hd hh
  have hl : lv_has ls 3 [(0, .ref a0)] := hl
  have hJ34 : ∀ (v1 : Int32) (v2 : Int32) (k4 : (Int32) → (Int32) → Option (Int32)), (∀ (v1 : Int32) (v2 : Int32) (H : Heap) (locs : List Loc) (ls : Array Slot), k4 v1 v2 = some R → lv_has ls 3 [(0, .ref a0), (1, .int v1), (2, .int v2)] → zW K A s H locs (cSt K a0 a1 a2 a3 a4 a5 a6 a7 S) → W p l e ({ frames := 1, cells := 0, slots := 0, locals := 40 } : Room) s m ([.ref a0] : List Value).toArray below meth c H locs 0 0 Q (F0 m 4 ls [])) → ∀ (H : Heap) (locs : List Loc) (ls : Array Slot), fX5_greatest_j34 S v1 v2 k4 = some R → lv_has ls 3 [(0, .ref a0), (1, .int v1), (2, .int v2)] → zW K A s H locs (cSt K a0 a1 a2 a3 a4 a5 a6 a7 S) → W p l e ({ frames := 1, cells := 0, slots := 0, locals := 40 } : Room) s m ([.ref a0] : List Value).toArray below meth c H locs 0 0 Q (F0 m 34 ls []) := by
    intro v1 v2 k4 hk4 H locs ls hf hl hh
    unfold fX5_greatest_j34 at hf
    refine lv_iinc (v := (v2 + (1 : Int32))) (lv' := [(2, .int (v2 + (1 : Int32))), (0, .ref a0), (1, .int v1)]) hx hb dX5_greatest_34 hl (k := 2) rfl rfl (by decide) rfl (fun ls hl => ?_)
    refine lv_goto (tgt := 4) hx hb dX5_greatest_37 (by decide) ?_
    exact hk4 v1 (v2 + (1 : Int32)) H locs ls hf (lv_sub hl [1, 2, 0] rfl) hh
  have hL4 : ∀ (n : Nat) (v1 : Int32) (v2 : Int32), ∀ (H : Heap) (locs : List Loc) (ls : Array Slot), fX5_greatest_l4 S n v1 v2 = some R → lv_has ls 3 [(0, .ref a0), (1, .int v1), (2, .int v2)] → zW K A s H locs (cSt K a0 a1 a2 a3 a4 a5 a6 a7 S) → W p l e ({ frames := 1, cells := 0, slots := 0, locals := 40 } : Room) s m ([.ref a0] : List Value).toArray below meth c H locs 0 0 Q (F0 m 4 ls []) := by
    intro n
    induction n with
    | zero =>
      intro v1 v2 H locs ls hf hl hh
      rw [fX5_greatest_l4] at hf; cases hf
    | succ n ih =>
      intro v1 v2 H locs ls hf hl hh
      rw [fX5_greatest_l4] at hf
      refine lv_iload_n hx hb dX5_greatest_4 rfl (lv_at hl 2 rfl) ?_
      refine lv_aload_n hx hb dX5_greatest_5 rfl (lv_at hl 0 rfl) ?_
      refine zget (v := .int (st_came S)) (ref := "SumOfTwoThatStand$Street") (C := RX5) (T := TX5) (N := 11) (index := 36) X hh inX5_greatest_X5 0 rfl rfl 7 (by decide) mmX5_greatest_0 rfl rfl dX5_greatest_6 ?_
      refine lv_icmp_ge (tgt := 40) hx hb dX5_greatest_9 (by decide) (fun c1 => ?_) (fun c1 => ?_)
      · replace hf := (if_pos c1).symm.trans hf
        refine lv_iload_n hx hb dX5_greatest_40 rfl (lv_at hl 1 rfl) ?_
        exact hr2 41 ls H locs v1 hf dX5_greatest_41 hh
      · replace hf := (if_neg c1).symm.trans hf
        refine lv_aload_n hx hb dX5_greatest_12 rfl (lv_at hl 0 rfl) ?_
        refine zget (v := .int (st_standing S)) (ref := "SumOfTwoThatStand$Street") (C := RX5) (T := TX5) (N := 11) (index := 40) X hh inX5_greatest_X5 0 rfl rfl 8 (by decide) mmX5_greatest_1 rfl rfl dX5_greatest_13 ?_
        refine lv_iload_n hx hb dX5_greatest_16 rfl (lv_at hl 2 rfl) ?_
        refine zcallS (As := [.int (st_standing S), .int v2]) (rest := []) (wr := cSt K a0 a1 a2 a3 a4 a5 a6 a7 S) (ws' := cSt K a0 a1 a2 a3 a4 a5 a6 a7 S) (ov := some (.int (fX5_isIn (st_standing S) v2))) X hh hl (kX5_isIn l K (st_standing S) v2 (fX5_isIn (st_standing S) v2) rfl) (fun ht => va_cwS 2 ht gX5_greatest_X5_isIn rfl rfl rfl hdX5_isIn ⟨Nat.le_of_ble_eq_true rfl, Nat.le_of_ble_eq_true rfl⟩) [] [0, 1, 2, 3, 4, 5, 6, 7] [0, 1, 2, 3, 4, 5, 6, 7] rfl rfl rfl rfl (by decide) rfl rfl rfl rfl (Nat.le_of_ble_eq_true rfl) dX5_greatest_17 ⟨Nat.zero_le _, Nat.zero_le _⟩ (fun H locs hh => ?_)
        refine lv_if_eq (tgt := 34) hx hb dX5_greatest_20 (by decide) (fun c3 => ?_) (fun c3 => ?_)
        · replace hf := (if_pos c3).symm.trans hf
          exact hJ34 v1 v2 (fX5_greatest_l4 S n) (ih) H locs ls hf (lv_sub hl [0, 1, 2] rfl) hh
        · replace hf := (if_neg c3).symm.trans hf
          refine lv_iload_n hx hb dX5_greatest_23 rfl (lv_at hl 1 rfl) ?_
          refine lv_aload_n hx hb dX5_greatest_24 rfl (lv_at hl 0 rfl) ?_
          refine zget (v := .ref a3) (ref := "SumOfTwoThatStand$Street") (C := RX5) (T := TX5) (N := 11) (index := 18) X hh inX5_greatest_X5 0 rfl rfl 2 (by decide) mmX5_greatest_2 rfl rfl dX5_greatest_25 ?_
          refine lv_iload_n hx hb dX5_greatest_28 rfl (lv_at hl 2 rfl) ?_
          obtain ⟨g4, hf⟩ := ob_ix hf
          refine ziald (f := (st_numbers S)) X hh 3 rfl g4 dX5_greatest_29 ?_
          refine va_mmax hx hb (X.1.2.2.1.trans hl.1.symm) X.1.2.2.2.1 (X.1.2.2.2.2 _ mmX5_greatest_3) (X.1.2.2.2.2 _ mmX5_greatest_4) (X.1.2.2.2.2 _ mmX5_greatest_5) (X.1.2.2.2.2 _ mmX5_greatest_6) (Nat.le_of_ble_eq_true rfl) (Nat.le_of_ble_eq_true rfl) (Nat.zero_le _) (Nat.zero_le _) dX5_greatest_30 ?_
          refine lv_istore_n (lv' := [(1, .int (if v1 < ((st_numbers S) v2.toNatClampNeg) then ((st_numbers S) v2.toNatClampNeg) else v1)), (0, .ref a0), (2, .int v2)]) hx hb dX5_greatest_33 rfl hl (by decide) rfl (fun ls hl => ?_)
          exact hJ34 (if v1 < ((st_numbers S) v2.toNatClampNeg) then ((st_numbers S) v2.toNatClampNeg) else v1) v2 (fX5_greatest_l4 S n) (ih) H locs ls hf (lv_sub hl [1, 0, 2] rfl) hh
  unfold fX5_greatest at hf
  refine (fun (hmain : ∀ (H : Heap) (locs : List Loc), zW K A s H locs (cSt K a0 a1 a2 a3 a4 a5 a6 a7 S) → W p l e ({ frames := 1, cells := 0, slots := 0, locals := 40 } : Room) s m ([.ref a0] : List Value).toArray below meth c H locs 0 0 Q (F0 m 0 ls [])) => hmain s.heap [] hh) (fun H locs hh => ?_)
  refine lv_iconst (v := (0 : Int32)) hx hb dX5_greatest_0 (by decide) ?_
  refine lv_istore_n (lv' := [(1, .int (0 : Int32)), (0, .ref a0)]) hx hb dX5_greatest_1 rfl hl (by decide) rfl (fun ls hl => ?_)
  refine lv_iconst (v := (0 : Int32)) hx hb dX5_greatest_2 (by decide) ?_
  refine lv_istore_n (lv' := [(2, .int (0 : Int32)), (1, .int (0 : Int32)), (0, .ref a0)]) hx hb dX5_greatest_3 rfl hl (by decide) rfl (fun ls hl => ?_)
  exact hL4 FU (0 : Int32) (0 : Int32) H locs ls hf (lv_sub hl [2, 1, 0] rfl) hh
def fX5_allEarned_l4 (S : zSt) : Nat → (Int32) → (Int32) → Option (Int32)
  | 0, _, _ => none
  | n + 1, v1, v2 =>
  if (st_came S) ≤ v2 then
  (some v1)
  else
  (ix 12 v2 (fX5_allEarned_l4 S n (v1 + ((st_earned S) v2.toNatClampNeg)) (v2 + (1 : Int32))))
def fX5_allEarned (S : zSt) : Option (Int32) :=
  fX5_allEarned_l4 S FU (0 : Int32) (0 : Int32)
theorem inX5_allEarned_X5 : ∀ w ∈ wsX50, w ∈ wsX5_allEarned := by decide +kernel
theorem mmX5_allEarned_0 : Cond.fieldLink RX5 36 "SumOfTwoThatStand$Street" "came" "I" ∈ wsX5_allEarned := by decide +kernel
theorem mmX5_allEarned_1 : Cond.fieldLink RX5 30 "SumOfTwoThatStand$Street" "earned" "[I" ∈ wsX5_allEarned := by decide +kernel
theorem hdX5_allEarned : yX5_allEarned.cls ≠ "java/lang/invoke/MethodHandle" ∧ yX5_allEarned.cls ≠ "java/lang/invoke/VarHandle" ∧ (parseMethodDescriptor yX5_allEarned.desc).map (fun d => d.parameters.length) = some 0 := by decide +kernel
set_option maxHeartbeats 4000000 in
set_option maxRecDepth 100000 in
theorem kX5_allEarned (l : Launch) (K : zK) (a0 a1 a2 a3 a4 a5 a6 a7 : Nat) (S : zSt) (R : Int32) (hf : fX5_allEarned S = some R) : zC l yX5_allEarned wsX5_allEarned ({ frames := 0, cells := 0, slots := 0, locals := 0 } : Room) K [.ref a0] (cSt K a0 a1 a2 a3 a4 a5 a6 a7 S) (some (.int R)) (cSt K a0 a1 a2 a3 a4 a5 a6 a7 S) := by
  refine zC_i R (cc := cX5_allEarned) (maxL := 3) (by decide +kernel) rfl (Nat.le_of_ble_eq_true rfl) rfl rfl ?_
  intro p e s m below meth c Q A X hret ls hl hh
  have X : zX p m c cX5_allEarned 3 s ([.ref a0] : List Value).toArray wsX5_allEarned RX5 K A := X
  have hx := X.1.1
  have hb := X.1.2.1
  have hr2 : ∀ (pc : Nat) (ls : Array Slot) (H : Heap) (locs : List Loc) (v : Int32), some v = some R → decode cX5_allEarned pc = .ok (.ireturn, 1) → zW K A s H locs (cSt K a0 a1 a2 a3 a4 a5 a6 a7 S) → W p l e ({ frames := 0, cells := 0, slots := 0, locals := 0 } : Room) s m ([.ref a0] : List Value).toArray below meth c H locs 0 0 Q (F0 m pc ls [.int v]) := by
    intro pc ls H locs v h hd hh
    cases h; exact hret pc ls H locs _ rfl hd hh
  have hl : lv_has ls 3 [(0, .ref a0)] := hl
  have hL4 : ∀ (n : Nat) (v1 : Int32) (v2 : Int32), ∀ (H : Heap) (locs : List Loc) (ls : Array Slot), fX5_allEarned_l4 S n v1 v2 = some R → lv_has ls 3 [(0, .ref a0), (1, .int v1), (2, .int v2)] → zW K A s H locs (cSt K a0 a1 a2 a3 a4 a5 a6 a7 S) → W p l e ({ frames := 0, cells := 0, slots := 0, locals := 0 } : Room) s m ([.ref a0] : List Value).toArray below meth c H locs 0 0 Q (F0 m 4 ls []) := by
    intro n
    induction n with
    | zero =>
      intro v1 v2 H locs ls hf hl hh
      rw [fX5_allEarned_l4] at hf; cases hf
    | succ n ih =>
      intro v1 v2 H locs ls hf hl hh
      rw [fX5_allEarned_l4] at hf
      refine lv_iload_n hx hb dX5_allEarned_4 rfl (lv_at hl 2 rfl) ?_
      refine lv_aload_n hx hb dX5_allEarned_5 rfl (lv_at hl 0 rfl) ?_
      refine zget (v := .int (st_came S)) (ref := "SumOfTwoThatStand$Street") (C := RX5) (T := TX5) (N := 11) (index := 36) X hh inX5_allEarned_X5 0 rfl rfl 7 (by decide) mmX5_allEarned_0 rfl rfl dX5_allEarned_6 ?_
      refine lv_icmp_ge (tgt := 27) hx hb dX5_allEarned_9 (by decide) (fun c1 => ?_) (fun c1 => ?_)
      · replace hf := (if_pos c1).symm.trans hf
        refine lv_iload_n hx hb dX5_allEarned_27 rfl (lv_at hl 1 rfl) ?_
        exact hr2 28 ls H locs v1 hf dX5_allEarned_28 hh
      · replace hf := (if_neg c1).symm.trans hf
        refine lv_iload_n hx hb dX5_allEarned_12 rfl (lv_at hl 1 rfl) ?_
        refine lv_aload_n hx hb dX5_allEarned_13 rfl (lv_at hl 0 rfl) ?_
        refine zget (v := .ref a7) (ref := "SumOfTwoThatStand$Street") (C := RX5) (T := TX5) (N := 11) (index := 30) X hh inX5_allEarned_X5 0 rfl rfl 6 (by decide) mmX5_allEarned_1 rfl rfl dX5_allEarned_14 ?_
        refine lv_iload_n hx hb dX5_allEarned_17 rfl (lv_at hl 2 rfl) ?_
        obtain ⟨g2, hf⟩ := ob_ix hf
        refine ziald (f := (st_earned S)) X hh 7 rfl g2 dX5_allEarned_18 ?_
        refine lv_iadd hx hb dX5_allEarned_19 ?_
        refine lv_istore_n (lv' := [(1, .int (v1 + ((st_earned S) v2.toNatClampNeg))), (0, .ref a0), (2, .int v2)]) hx hb dX5_allEarned_20 rfl hl (by decide) rfl (fun ls hl => ?_)
        refine lv_iinc (v := (v2 + (1 : Int32))) (lv' := [(2, .int (v2 + (1 : Int32))), (1, .int (v1 + ((st_earned S) v2.toNatClampNeg))), (0, .ref a0)]) hx hb dX5_allEarned_21 hl (k := 2) rfl rfl (by decide) rfl (fun ls hl => ?_)
        refine lv_goto (tgt := 4) hx hb dX5_allEarned_24 (by decide) ?_
        exact ih (v1 + ((st_earned S) v2.toNatClampNeg)) (v2 + (1 : Int32)) H locs ls hf (lv_sub hl [2, 1, 0] rfl) hh
  unfold fX5_allEarned at hf
  refine (fun (hmain : ∀ (H : Heap) (locs : List Loc), zW K A s H locs (cSt K a0 a1 a2 a3 a4 a5 a6 a7 S) → W p l e ({ frames := 0, cells := 0, slots := 0, locals := 0 } : Room) s m ([.ref a0] : List Value).toArray below meth c H locs 0 0 Q (F0 m 0 ls [])) => hmain s.heap [] hh) (fun H locs hh => ?_)
  refine lv_iconst (v := (0 : Int32)) hx hb dX5_allEarned_0 (by decide) ?_
  refine lv_istore_n (lv' := [(1, .int (0 : Int32)), (0, .ref a0)]) hx hb dX5_allEarned_1 rfl hl (by decide) rfl (fun ls hl => ?_)
  refine lv_iconst (v := (0 : Int32)) hx hb dX5_allEarned_2 (by decide) ?_
  refine lv_istore_n (lv' := [(2, .int (0 : Int32)), (1, .int (0 : Int32)), (0, .ref a0)]) hx hb dX5_allEarned_3 rfl hl (by decide) rfl (fun ls hl => ?_)
  exact hL4 FU (0 : Int32) (0 : Int32) H locs ls hf (lv_sub hl [2, 1, 0] rfl) hh
def fX5_isThere_j33 (S : zSt) (v1 : Int32) (v2 : Int32) (k2 : (Int32) → Option (Int32)) : Option (Int32) :=
  k2 (v2 + (1 : Int32))
def fX5_isThere_l2 (S : zSt) (v1 : Int32) : Nat → (Int32) → Option (Int32)
  | 0, _ => none
  | n + 1, v2 =>
  if (st_came S) ≤ v2 then
  (some (0 : Int32))
  else
  (if (fX5_isIn (st_standing S) v2) = (0 : Int32) then
  (fX5_isThere_j33 S v1 v2 (fX5_isThere_l2 S v1 n))
  else
  (ix 12 v2 (if ((st_numbers S) v2.toNatClampNeg) = v1 then
  (some (1 : Int32))
  else
  (fX5_isThere_j33 S v1 v2 (fX5_isThere_l2 S v1 n)))))
def fX5_isThere (S : zSt) (p1 : Int32) : Option (Int32) :=
  fX5_isThere_l2 S p1 FU (0 : Int32)
theorem inX5_isThere_X5 : ∀ w ∈ wsX50, w ∈ wsX5_isThere := by decide +kernel
theorem mmX5_isThere_0 : Cond.fieldLink RX5 36 "SumOfTwoThatStand$Street" "came" "I" ∈ wsX5_isThere := by decide +kernel
theorem mmX5_isThere_1 : Cond.fieldLink RX5 40 "SumOfTwoThatStand$Street" "standing" "I" ∈ wsX5_isThere := by decide +kernel
theorem mmX5_isThere_2 : Cond.fieldLink RX5 18 "SumOfTwoThatStand$Street" "numbers" "[I" ∈ wsX5_isThere := by decide +kernel
theorem hdX5_isThere : yX5_isThere.cls ≠ "java/lang/invoke/MethodHandle" ∧ yX5_isThere.cls ≠ "java/lang/invoke/VarHandle" ∧ (parseMethodDescriptor yX5_isThere.desc).map (fun d => d.parameters.length) = some 1 := by decide +kernel
set_option maxHeartbeats 4000000 in
set_option maxRecDepth 100000 in
theorem kX5_isThere (l : Launch) (K : zK) (a0 a1 a2 a3 a4 a5 a6 a7 : Nat) (S : zSt) (p1 : Int32) (R : Int32) (hf : fX5_isThere S p1 = some R) : zC l yX5_isThere wsX5_isThere ({ frames := 1, cells := 0, slots := 0, locals := 21 } : Room) K [.ref a0, .int p1] (cSt K a0 a1 a2 a3 a4 a5 a6 a7 S) (some (.int R)) (cSt K a0 a1 a2 a3 a4 a5 a6 a7 S) := by
  refine zC_z .boolean R (cc := cX5_isThere) (maxL := 3) (by decide +kernel) rfl (Nat.le_of_ble_eq_true rfl) rfl rfl ?_
  intro p e s m below meth c Q A X hret ls hl hh
  have X : zX p m c cX5_isThere 3 s ([.ref a0, .int p1] : List Value).toArray wsX5_isThere RX5 K A := X
  have hx := X.1.1
  have hb := X.1.2.1
  have hr2 : ∀ (pc : Nat) (ls : Array Slot) (H : Heap) (locs : List Loc) (v : Int32), some v = some R → narrow .boolean (.int v) = .int v → decode cX5_isThere pc = .ok (.ireturn, 1) → zW K A s H locs (cSt K a0 a1 a2 a3 a4 a5 a6 a7 S) → W p l e ({ frames := 1, cells := 0, slots := 0, locals := 21 } : Room) s m ([.ref a0, .int p1] : List Value).toArray below meth c H locs 0 0 Q (F0 m pc ls [.int v]) := by
    intro pc ls H locs v h hn hd hh
    cases h; exact hret pc ls H locs _ rfl hn hd hh
  have hl : lv_has ls 3 [(0, .ref a0), (1, .int p1)] := hl
  have hJ33 : ∀ (v1 : Int32) (v2 : Int32) (k2 : (Int32) → Option (Int32)), (∀ (v2 : Int32) (H : Heap) (locs : List Loc) (ls : Array Slot), k2 v2 = some R → lv_has ls 3 [(0, .ref a0), (1, .int v1), (2, .int v2)] → zW K A s H locs (cSt K a0 a1 a2 a3 a4 a5 a6 a7 S) → W p l e ({ frames := 1, cells := 0, slots := 0, locals := 21 } : Room) s m ([.ref a0, .int p1] : List Value).toArray below meth c H locs 0 0 Q (F0 m 2 ls [])) → ∀ (H : Heap) (locs : List Loc) (ls : Array Slot), fX5_isThere_j33 S v1 v2 k2 = some R → lv_has ls 3 [(0, .ref a0), (1, .int v1), (2, .int v2)] → zW K A s H locs (cSt K a0 a1 a2 a3 a4 a5 a6 a7 S) → W p l e ({ frames := 1, cells := 0, slots := 0, locals := 21 } : Room) s m ([.ref a0, .int p1] : List Value).toArray below meth c H locs 0 0 Q (F0 m 33 ls []) := by
    intro v1 v2 k2 hk2 H locs ls hf hl hh
    unfold fX5_isThere_j33 at hf
    refine lv_iinc (v := (v2 + (1 : Int32))) (lv' := [(2, .int (v2 + (1 : Int32))), (0, .ref a0), (1, .int v1)]) hx hb dX5_isThere_33 hl (k := 2) rfl rfl (by decide) rfl (fun ls hl => ?_)
    refine lv_goto (tgt := 2) hx hb dX5_isThere_36 (by decide) ?_
    exact hk2 (v2 + (1 : Int32)) H locs ls hf (lv_sub hl [1, 2, 0] rfl) hh
  have hL2 : ∀ (v1 : Int32), ∀ (n : Nat) (v2 : Int32), ∀ (H : Heap) (locs : List Loc) (ls : Array Slot), fX5_isThere_l2 S v1 n v2 = some R → lv_has ls 3 [(0, .ref a0), (1, .int v1), (2, .int v2)] → zW K A s H locs (cSt K a0 a1 a2 a3 a4 a5 a6 a7 S) → W p l e ({ frames := 1, cells := 0, slots := 0, locals := 21 } : Room) s m ([.ref a0, .int p1] : List Value).toArray below meth c H locs 0 0 Q (F0 m 2 ls []) := by
    intro v1 n
    induction n with
    | zero =>
      intro v2 H locs ls hf hl hh
      rw [fX5_isThere_l2] at hf; cases hf
    | succ n ih =>
      intro v2 H locs ls hf hl hh
      rw [fX5_isThere_l2] at hf
      refine lv_iload_n hx hb dX5_isThere_2 rfl (lv_at hl 2 rfl) ?_
      refine lv_aload_n hx hb dX5_isThere_3 rfl (lv_at hl 0 rfl) ?_
      refine zget (v := .int (st_came S)) (ref := "SumOfTwoThatStand$Street") (C := RX5) (T := TX5) (N := 11) (index := 36) X hh inX5_isThere_X5 0 rfl rfl 7 (by decide) mmX5_isThere_0 rfl rfl dX5_isThere_4 ?_
      refine lv_icmp_ge (tgt := 39) hx hb dX5_isThere_7 (by decide) (fun c1 => ?_) (fun c1 => ?_)
      · replace hf := (if_pos c1).symm.trans hf
        refine lv_iconst (v := (0 : Int32)) hx hb dX5_isThere_39 (by decide) ?_
        exact hr2 40 ls H locs (0 : Int32) hf rfl dX5_isThere_40 hh
      · replace hf := (if_neg c1).symm.trans hf
        refine lv_aload_n hx hb dX5_isThere_10 rfl (lv_at hl 0 rfl) ?_
        refine zget (v := .int (st_standing S)) (ref := "SumOfTwoThatStand$Street") (C := RX5) (T := TX5) (N := 11) (index := 40) X hh inX5_isThere_X5 0 rfl rfl 8 (by decide) mmX5_isThere_1 rfl rfl dX5_isThere_11 ?_
        refine lv_iload_n hx hb dX5_isThere_14 rfl (lv_at hl 2 rfl) ?_
        refine zcallS (As := [.int (st_standing S), .int v2]) (rest := []) (wr := cSt K a0 a1 a2 a3 a4 a5 a6 a7 S) (ws' := cSt K a0 a1 a2 a3 a4 a5 a6 a7 S) (ov := some (.int (fX5_isIn (st_standing S) v2))) X hh hl (kX5_isIn l K (st_standing S) v2 (fX5_isIn (st_standing S) v2) rfl) (fun ht => va_cwS 2 ht gX5_isThere_X5_isIn rfl rfl rfl hdX5_isIn ⟨Nat.le_of_ble_eq_true rfl, Nat.le_of_ble_eq_true rfl⟩) [] [0, 1, 2, 3, 4, 5, 6, 7] [0, 1, 2, 3, 4, 5, 6, 7] rfl rfl rfl rfl (by decide) rfl rfl rfl rfl (Nat.le_of_ble_eq_true rfl) dX5_isThere_15 ⟨Nat.zero_le _, Nat.zero_le _⟩ (fun H locs hh => ?_)
        refine lv_if_eq (tgt := 33) hx hb dX5_isThere_18 (by decide) (fun c3 => ?_) (fun c3 => ?_)
        · replace hf := (if_pos c3).symm.trans hf
          exact hJ33 v1 v2 (fX5_isThere_l2 S v1 n) (ih) H locs ls hf (lv_sub hl [0, 1, 2] rfl) hh
        · replace hf := (if_neg c3).symm.trans hf
          refine lv_aload_n hx hb dX5_isThere_21 rfl (lv_at hl 0 rfl) ?_
          refine zget (v := .ref a3) (ref := "SumOfTwoThatStand$Street") (C := RX5) (T := TX5) (N := 11) (index := 18) X hh inX5_isThere_X5 0 rfl rfl 2 (by decide) mmX5_isThere_2 rfl rfl dX5_isThere_22 ?_
          refine lv_iload_n hx hb dX5_isThere_25 rfl (lv_at hl 2 rfl) ?_
          obtain ⟨g4, hf⟩ := ob_ix hf
          refine ziald (f := (st_numbers S)) X hh 3 rfl g4 dX5_isThere_26 ?_
          refine lv_iload_n hx hb dX5_isThere_27 rfl (lv_at hl 1 rfl) ?_
          refine lv_icmp_ne (tgt := 33) hx hb dX5_isThere_28 (by decide) (fun c5 => ?_) (fun c5 => ?_)
          · replace hf := (if_neg c5).symm.trans hf
            exact hJ33 v1 v2 (fX5_isThere_l2 S v1 n) (ih) H locs ls hf (lv_sub hl [0, 1, 2] rfl) hh
          · replace hf := (if_pos c5).symm.trans hf
            refine lv_iconst (v := (1 : Int32)) hx hb dX5_isThere_31 (by decide) ?_
            exact hr2 32 ls H locs (1 : Int32) hf rfl dX5_isThere_32 hh
  unfold fX5_isThere at hf
  refine (fun (hmain : ∀ (H : Heap) (locs : List Loc), zW K A s H locs (cSt K a0 a1 a2 a3 a4 a5 a6 a7 S) → W p l e ({ frames := 1, cells := 0, slots := 0, locals := 21 } : Room) s m ([.ref a0, .int p1] : List Value).toArray below meth c H locs 0 0 Q (F0 m 0 ls [])) => hmain s.heap [] hh) (fun H locs hh => ?_)
  refine lv_iconst (v := (0 : Int32)) hx hb dX5_isThere_0 (by decide) ?_
  refine lv_istore_n (lv' := [(2, .int (0 : Int32)), (0, .ref a0), (1, .int p1)]) hx hb dX5_isThere_1 rfl hl (by decide) rfl (fun ls hl => ?_)
  exact hL2 p1 FU (0 : Int32) H locs ls hf (lv_sub hl [1, 2, 0] rfl) hh
def fX5_fee (S : zSt) (p1 : Int32) : Option (Int32) :=
  if (fX5_has S p1) = (0 : Int32) then
  (some (0 : Int32))
  else
  (ix 12 p1 (if ((st_kinds S) p1.toNatClampNeg) = (2 : Int32) then
  (some ((st_figures S) p1.toNatClampNeg))
  else
  (if ((st_kinds S) p1.toNatClampNeg) = (3 : Int32) then
  (some (((2 : Int32) * ((st_figures S) p1.toNatClampNeg)) + (1 : Int32)))
  else
  (some (0 : Int32)))))
theorem inX5_fee_X5 : ∀ w ∈ wsX50, w ∈ wsX5_fee := by decide +kernel
theorem mmX5_fee_0 : Cond.fieldLink RX5 9 "SumOfTwoThatStand$Street" "kinds" "[I" ∈ wsX5_fee := by decide +kernel
theorem mmX5_fee_1 : Cond.fieldLink RX5 15 "SumOfTwoThatStand$Street" "figures" "[I" ∈ wsX5_fee := by decide +kernel
theorem hdX5_fee : yX5_fee.cls ≠ "java/lang/invoke/MethodHandle" ∧ yX5_fee.cls ≠ "java/lang/invoke/VarHandle" ∧ (parseMethodDescriptor yX5_fee.desc).map (fun d => d.parameters.length) = some 1 := by decide +kernel
set_option maxHeartbeats 4000000 in
set_option maxRecDepth 100000 in
theorem kX5_fee (l : Launch) (K : zK) (a0 a1 a2 a3 a4 a5 a6 a7 : Nat) (S : zSt) (p1 : Int32) (R : Int32) (hf : fX5_fee S p1 = some R) : zC l yX5_fee wsX5_fee ({ frames := 1, cells := 0, slots := 0, locals := 21 } : Room) K [.ref a0, .int p1] (cSt K a0 a1 a2 a3 a4 a5 a6 a7 S) (some (.int R)) (cSt K a0 a1 a2 a3 a4 a5 a6 a7 S) := by
  refine zC_i R (cc := cX5_fee) (maxL := 2) (by decide +kernel) rfl (Nat.le_of_ble_eq_true rfl) rfl rfl ?_
  intro p e s m below meth c Q A X hret ls hl hh
  have X : zX p m c cX5_fee 2 s ([.ref a0, .int p1] : List Value).toArray wsX5_fee RX5 K A := X
  have hx := X.1.1
  have hb := X.1.2.1
  have hr2 : ∀ (pc : Nat) (ls : Array Slot) (H : Heap) (locs : List Loc) (v : Int32), some v = some R → decode cX5_fee pc = .ok (.ireturn, 1) → zW K A s H locs (cSt K a0 a1 a2 a3 a4 a5 a6 a7 S) → W p l e ({ frames := 1, cells := 0, slots := 0, locals := 21 } : Room) s m ([.ref a0, .int p1] : List Value).toArray below meth c H locs 0 0 Q (F0 m pc ls [.int v]) := by
    intro pc ls H locs v h hd hh
    cases h; exact hret pc ls H locs _ rfl hd hh
  have hl : lv_has ls 2 [(0, .ref a0), (1, .int p1)] := hl
  unfold fX5_fee at hf
  refine (fun (hmain : ∀ (H : Heap) (locs : List Loc), zW K A s H locs (cSt K a0 a1 a2 a3 a4 a5 a6 a7 S) → W p l e ({ frames := 1, cells := 0, slots := 0, locals := 21 } : Room) s m ([.ref a0, .int p1] : List Value).toArray below meth c H locs 0 0 Q (F0 m 0 ls [])) => hmain s.heap [] hh) (fun H locs hh => ?_)
  refine lv_aload_n hx hb dX5_fee_0 rfl (lv_at hl 0 rfl) ?_
  refine lv_iload_n hx hb dX5_fee_1 rfl (lv_at hl 1 rfl) ?_
  refine zcallV (ci := 5) (q0 := 0) (As := [.int p1]) (rest := []) (wr := []) (ws' := cSt K a0 a1 a2 a3 a4 a5 a6 a7 S) (ov := some (.int (fX5_has S p1))) X hh hl (kX5_has l K a0 a1 a2 a3 a4 a5 a6 a7 S p1 (fX5_has S p1) rfl) (fun ht => cwV 1 ht gX5_fee_X5_has rfl rfl rfl ⟨rfl, hdX5_has⟩ ⟨Nat.le_of_ble_eq_true rfl, Nat.le_of_ble_eq_true rfl⟩) [0, 1, 2, 3, 4, 5, 6, 7] [] [0, 1, 2, 3, 4, 5, 6, 7] rfl rfl rfl rfl (by decide) rfl rfl rfl rfl rfl rfl (Nat.le_of_ble_eq_true rfl) dX5_fee_2 ⟨Nat.zero_le _, Nat.zero_le _⟩ (fun H locs hh => ?_)
  refine lv_if_ne (tgt := 10) hx hb dX5_fee_5 (by decide) (fun c2 => ?_) (fun c2 => ?_)
  · replace hf := (if_neg c2).symm.trans hf
    refine lv_aload_n hx hb dX5_fee_10 rfl (lv_at hl 0 rfl) ?_
    refine zget (v := .ref a1) (ref := "SumOfTwoThatStand$Street") (C := RX5) (T := TX5) (N := 11) (index := 9) X hh inX5_fee_X5 0 rfl rfl 0 (by decide) mmX5_fee_0 rfl rfl dX5_fee_11 ?_
    refine lv_iload_n hx hb dX5_fee_14 rfl (lv_at hl 1 rfl) ?_
    obtain ⟨g3, hf⟩ := ob_ix hf
    refine ziald (f := (st_kinds S)) X hh 1 rfl g3 dX5_fee_15 ?_
    by_cases c4_0 : ((st_kinds S) p1.toNatClampNeg) = (2 : Int32)
    · replace hf := (if_pos c4_0).symm.trans hf
      refine lv_lookup (off := 28) (tgt := 44) hx hb dX5_fee_16 (by decide) (by rw [c4_0]; decide) (by decide) ?_
      refine lv_aload_n hx hb dX5_fee_44 rfl (lv_at hl 0 rfl) ?_
      refine zget (v := .ref a2) (ref := "SumOfTwoThatStand$Street") (C := RX5) (T := TX5) (N := 11) (index := 15) X hh inX5_fee_X5 0 rfl rfl 1 (by decide) mmX5_fee_1 rfl rfl dX5_fee_45 ?_
      refine lv_iload_n hx hb dX5_fee_48 rfl (lv_at hl 1 rfl) ?_
      refine ziald (f := (st_figures S)) X hh 2 rfl g3 dX5_fee_49 ?_
      exact hr2 50 ls H locs ((st_figures S) p1.toNatClampNeg) hf dX5_fee_50 hh
    replace hf := (if_neg c4_0).symm.trans hf
    by_cases c4_1 : ((st_kinds S) p1.toNatClampNeg) = (3 : Int32)
    · replace hf := (if_pos c4_1).symm.trans hf
      refine lv_lookup (off := 35) (tgt := 51) hx hb dX5_fee_16 (by decide) (by rw [c4_1]; decide) (by decide) ?_
      refine lv_iconst (v := (2 : Int32)) hx hb dX5_fee_51 (by decide) ?_
      refine lv_aload_n hx hb dX5_fee_52 rfl (lv_at hl 0 rfl) ?_
      refine zget (v := .ref a2) (ref := "SumOfTwoThatStand$Street") (C := RX5) (T := TX5) (N := 11) (index := 15) X hh inX5_fee_X5 0 rfl rfl 1 (by decide) mmX5_fee_1 rfl rfl dX5_fee_53 ?_
      refine lv_iload_n hx hb dX5_fee_56 rfl (lv_at hl 1 rfl) ?_
      refine ziald (f := (st_figures S)) X hh 2 rfl g3 dX5_fee_57 ?_
      refine lv_imul hx hb dX5_fee_58 ?_
      refine lv_iconst (v := (1 : Int32)) hx hb dX5_fee_59 (by decide) ?_
      refine lv_iadd hx hb dX5_fee_60 ?_
      exact hr2 61 ls H locs (((2 : Int32) * ((st_figures S) p1.toNatClampNeg)) + (1 : Int32)) hf dX5_fee_61 hh
    replace hf := (if_neg c4_1).symm.trans hf
    refine lv_lookup (off := 46) (tgt := 62) hx hb dX5_fee_16 (by decide) ((lv_osw c4_0 (by decide)).trans ((lv_osw c4_1 (by decide)).trans (rfl))) (by decide) ?_
    refine lv_iconst (v := (0 : Int32)) hx hb dX5_fee_62 (by decide) ?_
    exact hr2 63 ls H locs (0 : Int32) hf dX5_fee_63 hh
  · replace hf := (if_pos c2).symm.trans hf
    refine lv_iconst (v := (0 : Int32)) hx hb dX5_fee_8 (by decide) ?_
    exact hr2 9 ls H locs (0 : Int32) hf dX5_fee_9 hh
def fX5_isLawful (S : zSt) (p1 : Int32) (p2 : Int32) : Int32 :=
  if (st_sums S) = (1 : Int32) then
  (if p1 = ((31 : Int32) - (fJ6_numberOfLeadingZeros_0f7a4 (st_standing S))) then
  ((1 : Int32))
  else
  (if p2 = ((31 : Int32) - (fJ6_numberOfLeadingZeros_0f7a4 (st_standing S))) then
  ((1 : Int32))
  else
  ((0 : Int32))))
  else
  (if (st_sums S) = (2 : Int32) then
  (if p1 = p2 then
  ((1 : Int32))
  else
  ((0 : Int32)))
  else
  ((1 : Int32)))
theorem inX5_isLawful_X5 : ∀ w ∈ wsX50, w ∈ wsX5_isLawful := by decide +kernel
theorem mmX5_isLawful_0 : Cond.fieldLink RX5 53 "SumOfTwoThatStand$Street" "sums" "I" ∈ wsX5_isLawful := by decide +kernel
theorem mmX5_isLawful_1 : Cond.fieldLink RX5 40 "SumOfTwoThatStand$Street" "standing" "I" ∈ wsX5_isLawful := by decide +kernel
theorem hdX5_isLawful : yX5_isLawful.cls ≠ "java/lang/invoke/MethodHandle" ∧ yX5_isLawful.cls ≠ "java/lang/invoke/VarHandle" ∧ (parseMethodDescriptor yX5_isLawful.desc).map (fun d => d.parameters.length) = some 2 := by decide +kernel
set_option maxHeartbeats 4000000 in
set_option maxRecDepth 100000 in
theorem kX5_isLawful (l : Launch) (K : zK) (a0 a1 a2 a3 a4 a5 a6 a7 : Nat) (S : zSt) (p1 : Int32) (p2 : Int32) (R : Int32) (hf : fX5_isLawful S p1 p2 = R) : zC l yX5_isLawful wsX5_isLawful ({ frames := 1, cells := 0, slots := 0, locals := 21 } : Room) K [.ref a0, .int p1, .int p2] (cSt K a0 a1 a2 a3 a4 a5 a6 a7 S) (some (.int R)) (cSt K a0 a1 a2 a3 a4 a5 a6 a7 S) := by
  refine zC_z .boolean R (cc := cX5_isLawful) (maxL := 4) (by decide +kernel) rfl (Nat.le_of_ble_eq_true rfl) rfl rfl ?_
  intro p e s m below meth c Q A X hret ls hl hh
  have X : zX p m c cX5_isLawful 4 s ([.ref a0, .int p1, .int p2] : List Value).toArray wsX5_isLawful RX5 K A := X
  have hx := X.1.1
  have hb := X.1.2.1
  have hr2 : ∀ (pc : Nat) (ls : Array Slot) (H : Heap) (locs : List Loc) (v : Int32), v = R → narrow .boolean (.int v) = .int v → decode cX5_isLawful pc = .ok (.ireturn, 1) → zW K A s H locs (cSt K a0 a1 a2 a3 a4 a5 a6 a7 S) → W p l e ({ frames := 1, cells := 0, slots := 0, locals := 21 } : Room) s m ([.ref a0, .int p1, .int p2] : List Value).toArray below meth c H locs 0 0 Q (F0 m pc ls [.int v]) := by
    intro pc ls H locs v h hn hd hh
    cases h; exact hret pc ls H locs _ rfl hn hd hh
  have hl : lv_has ls 4 [(0, .ref a0), (1, .int p1), (2, .int p2)] := hl
  unfold fX5_isLawful at hf
  refine (fun (hmain : ∀ (H : Heap) (locs : List Loc), zW K A s H locs (cSt K a0 a1 a2 a3 a4 a5 a6 a7 S) → W p l e ({ frames := 1, cells := 0, slots := 0, locals := 21 } : Room) s m ([.ref a0, .int p1, .int p2] : List Value).toArray below meth c H locs 0 0 Q (F0 m 0 ls [])) => hmain s.heap [] hh) (fun H locs hh => ?_)
  refine lv_aload_n hx hb dX5_isLawful_0 rfl (lv_at hl 0 rfl) ?_
  refine zget (v := .int (st_sums S)) (ref := "SumOfTwoThatStand$Street") (C := RX5) (T := TX5) (N := 11) (index := 53) X hh inX5_isLawful_X5 0 rfl rfl 9 (by decide) mmX5_isLawful_0 rfl rfl dX5_isLawful_1 ?_
  by_cases c1_0 : (st_sums S) = (1 : Int32)
  · replace hf := (if_pos c1_0).symm.trans hf
    refine lv_lookup (off := 28) (tgt := 32) hx hb dX5_isLawful_4 (by decide) (by rw [c1_0]; decide) (by decide) ?_
    refine lv_bipush (v := (31 : Int32)) hx hb dX5_isLawful_32 (by decide) ?_
    refine lv_aload_n hx hb dX5_isLawful_34 rfl (lv_at hl 0 rfl) ?_
    refine zget (v := .int (st_standing S)) (ref := "SumOfTwoThatStand$Street") (C := RX5) (T := TX5) (N := 11) (index := 40) X hh inX5_isLawful_X5 0 rfl rfl 8 (by decide) mmX5_isLawful_1 rfl rfl dX5_isLawful_35 ?_
    refine zcallS (As := [.int (st_standing S)]) (rest := [.int (31 : Int32)]) (wr := cSt K a0 a1 a2 a3 a4 a5 a6 a7 S) (ws' := cSt K a0 a1 a2 a3 a4 a5 a6 a7 S) (ov := some (.int (fJ6_numberOfLeadingZeros_0f7a4 (st_standing S)))) X hh hl (kJ6_numberOfLeadingZeros_0f7a4 l K (st_standing S) (fJ6_numberOfLeadingZeros_0f7a4 (st_standing S)) rfl) (fun ht => va_cwS 1 ht gX5_isLawful_J6_numberOfLeadingZeros_0f7a4 rfl rfl rfl hdJ6_numberOfLeadingZeros_0f7a4 ⟨Nat.le_of_ble_eq_true rfl, Nat.le_of_ble_eq_true rfl⟩) [] [0, 1, 2, 3, 4, 5, 6, 7] [0, 1, 2, 3, 4, 5, 6, 7] rfl rfl rfl rfl (by decide) rfl rfl rfl rfl (Nat.le_of_ble_eq_true rfl) dX5_isLawful_38 ⟨Nat.zero_le _, Nat.zero_le _⟩ (fun H locs hh => ?_)
    refine lv_isub hx hb dX5_isLawful_41 ?_
    refine lv_istore_n (lv' := [(3, .int ((31 : Int32) - (fJ6_numberOfLeadingZeros_0f7a4 (st_standing S)))), (0, .ref a0), (1, .int p1), (2, .int p2)]) hx hb dX5_isLawful_42 rfl hl (by decide) rfl (fun ls hl => ?_)
    refine lv_iload_n hx hb dX5_isLawful_43 rfl (lv_at hl 2 rfl) ?_
    refine lv_iload_n hx hb dX5_isLawful_44 rfl (lv_at hl 0 rfl) ?_
    refine lv_icmp_eq (tgt := 53) hx hb dX5_isLawful_45 (by decide) (fun c3 => ?_) (fun c3 => ?_)
    · replace hf := (if_pos c3).symm.trans hf
      refine lv_iconst (v := (1 : Int32)) hx hb dX5_isLawful_53 (by decide) ?_
      refine lv_goto (tgt := 58) hx hb dX5_isLawful_54 (by decide) ?_
      exact hr2 58 ls H locs (1 : Int32) hf rfl dX5_isLawful_58 hh
    · replace hf := (if_neg c3).symm.trans hf
      refine lv_iload_n hx hb dX5_isLawful_48 rfl (lv_at hl 3 rfl) ?_
      refine lv_iload_n hx hb dX5_isLawful_49 rfl (lv_at hl 0 rfl) ?_
      refine lv_icmp_ne (tgt := 57) hx hb dX5_isLawful_50 (by decide) (fun c4 => ?_) (fun c4 => ?_)
      · replace hf := (if_neg c4).symm.trans hf
        refine lv_iconst (v := (0 : Int32)) hx hb dX5_isLawful_57 (by decide) ?_
        exact hr2 58 ls H locs (0 : Int32) hf rfl dX5_isLawful_58 hh
      · replace hf := (if_pos c4).symm.trans hf
        refine lv_iconst (v := (1 : Int32)) hx hb dX5_isLawful_53 (by decide) ?_
        refine lv_goto (tgt := 58) hx hb dX5_isLawful_54 (by decide) ?_
        exact hr2 58 ls H locs (1 : Int32) hf rfl dX5_isLawful_58 hh
  replace hf := (if_neg c1_0).symm.trans hf
  by_cases c1_1 : (st_sums S) = (2 : Int32)
  · replace hf := (if_pos c1_1).symm.trans hf
    refine lv_lookup (off := 55) (tgt := 59) hx hb dX5_isLawful_4 (by decide) (by rw [c1_1]; decide) (by decide) ?_
    refine lv_iload_n hx hb dX5_isLawful_59 rfl (lv_at hl 1 rfl) ?_
    refine lv_iload_n hx hb dX5_isLawful_60 rfl (lv_at hl 2 rfl) ?_
    refine lv_icmp_ne (tgt := 68) hx hb dX5_isLawful_61 (by decide) (fun c5 => ?_) (fun c5 => ?_)
    · replace hf := (if_neg c5).symm.trans hf
      refine lv_iconst (v := (0 : Int32)) hx hb dX5_isLawful_68 (by decide) ?_
      exact hr2 69 ls H locs (0 : Int32) hf rfl dX5_isLawful_69 hh
    · replace hf := (if_pos c5).symm.trans hf
      refine lv_iconst (v := (1 : Int32)) hx hb dX5_isLawful_64 (by decide) ?_
      refine lv_goto (tgt := 69) hx hb dX5_isLawful_65 (by decide) ?_
      exact hr2 69 ls H locs (1 : Int32) hf rfl dX5_isLawful_69 hh
  replace hf := (if_neg c1_1).symm.trans hf
  refine lv_lookup (off := 66) (tgt := 70) hx hb dX5_isLawful_4 (by decide) ((lv_osw c1_0 (by decide)).trans ((lv_osw c1_1 (by decide)).trans (rfl))) (by decide) ?_
  refine lv_iconst (v := (1 : Int32)) hx hb dX5_isLawful_70 (by decide) ?_
  exact hr2 71 ls H locs (1 : Int32) hf rfl dX5_isLawful_71 hh
def fX5_lends (S : zSt) (p1 : Int32) (p2 : Int32) : Option (Int32) :=
  if (fX5_has S p1) = (0 : Int32) then
  (some (0 : Int32))
  else
  (ix 12 p1 (if ((st_kinds S) p1.toNatClampNeg) = (1 : Int32) then
  (if ((st_uses S) p1.toNatClampNeg) = (0 : Int32) then
  (some (1 : Int32))
  else
  (some (0 : Int32)))
  else
  (if ((st_kinds S) p1.toNatClampNeg) = (2 : Int32) then
  (some (1 : Int32))
  else
  (if ((st_kinds S) p1.toNatClampNeg) = (3 : Int32) then
  (if (p2 &&& (1 : Int32)) = (0 : Int32) then
  (some (1 : Int32))
  else
  (some (0 : Int32)))
  else
  (if ((st_kinds S) p1.toNatClampNeg) = (4 : Int32) then
  (some (0 : Int32))
  else
  (some (1 : Int32)))))))
theorem inX5_lends_X5 : ∀ w ∈ wsX50, w ∈ wsX5_lends := by decide +kernel
theorem mmX5_lends_0 : Cond.fieldLink RX5 9 "SumOfTwoThatStand$Street" "kinds" "[I" ∈ wsX5_lends := by decide +kernel
theorem mmX5_lends_1 : Cond.fieldLink RX5 27 "SumOfTwoThatStand$Street" "uses" "[I" ∈ wsX5_lends := by decide +kernel
theorem hdX5_lends : yX5_lends.cls ≠ "java/lang/invoke/MethodHandle" ∧ yX5_lends.cls ≠ "java/lang/invoke/VarHandle" ∧ (parseMethodDescriptor yX5_lends.desc).map (fun d => d.parameters.length) = some 2 := by decide +kernel
set_option maxHeartbeats 4000000 in
set_option maxRecDepth 100000 in
theorem kX5_lends (l : Launch) (K : zK) (a0 a1 a2 a3 a4 a5 a6 a7 : Nat) (S : zSt) (p1 : Int32) (p2 : Int32) (R : Int32) (hf : fX5_lends S p1 p2 = some R) : zC l yX5_lends wsX5_lends ({ frames := 1, cells := 0, slots := 0, locals := 21 } : Room) K [.ref a0, .int p1, .int p2] (cSt K a0 a1 a2 a3 a4 a5 a6 a7 S) (some (.int R)) (cSt K a0 a1 a2 a3 a4 a5 a6 a7 S) := by
  refine zC_z .boolean R (cc := cX5_lends) (maxL := 3) (by decide +kernel) rfl (Nat.le_of_ble_eq_true rfl) rfl rfl ?_
  intro p e s m below meth c Q A X hret ls hl hh
  have X : zX p m c cX5_lends 3 s ([.ref a0, .int p1, .int p2] : List Value).toArray wsX5_lends RX5 K A := X
  have hx := X.1.1
  have hb := X.1.2.1
  have hr2 : ∀ (pc : Nat) (ls : Array Slot) (H : Heap) (locs : List Loc) (v : Int32), some v = some R → narrow .boolean (.int v) = .int v → decode cX5_lends pc = .ok (.ireturn, 1) → zW K A s H locs (cSt K a0 a1 a2 a3 a4 a5 a6 a7 S) → W p l e ({ frames := 1, cells := 0, slots := 0, locals := 21 } : Room) s m ([.ref a0, .int p1, .int p2] : List Value).toArray below meth c H locs 0 0 Q (F0 m pc ls [.int v]) := by
    intro pc ls H locs v h hn hd hh
    cases h; exact hret pc ls H locs _ rfl hn hd hh
  have hl : lv_has ls 3 [(0, .ref a0), (1, .int p1), (2, .int p2)] := hl
  unfold fX5_lends at hf
  refine (fun (hmain : ∀ (H : Heap) (locs : List Loc), zW K A s H locs (cSt K a0 a1 a2 a3 a4 a5 a6 a7 S) → W p l e ({ frames := 1, cells := 0, slots := 0, locals := 21 } : Room) s m ([.ref a0, .int p1, .int p2] : List Value).toArray below meth c H locs 0 0 Q (F0 m 0 ls [])) => hmain s.heap [] hh) (fun H locs hh => ?_)
  refine lv_aload_n hx hb dX5_lends_0 rfl (lv_at hl 0 rfl) ?_
  refine lv_iload_n hx hb dX5_lends_1 rfl (lv_at hl 1 rfl) ?_
  refine zcallV (ci := 5) (q0 := 0) (As := [.int p1]) (rest := []) (wr := []) (ws' := cSt K a0 a1 a2 a3 a4 a5 a6 a7 S) (ov := some (.int (fX5_has S p1))) X hh hl (kX5_has l K a0 a1 a2 a3 a4 a5 a6 a7 S p1 (fX5_has S p1) rfl) (fun ht => cwV 1 ht gX5_lends_X5_has rfl rfl rfl ⟨rfl, hdX5_has⟩ ⟨Nat.le_of_ble_eq_true rfl, Nat.le_of_ble_eq_true rfl⟩) [0, 1, 2, 3, 4, 5, 6, 7] [] [0, 1, 2, 3, 4, 5, 6, 7] rfl rfl rfl rfl (by decide) rfl rfl rfl rfl rfl rfl (Nat.le_of_ble_eq_true rfl) dX5_lends_2 ⟨Nat.zero_le _, Nat.zero_le _⟩ (fun H locs hh => ?_)
  refine lv_if_ne (tgt := 10) hx hb dX5_lends_5 (by decide) (fun c2 => ?_) (fun c2 => ?_)
  · replace hf := (if_neg c2).symm.trans hf
    refine lv_aload_n hx hb dX5_lends_10 rfl (lv_at hl 0 rfl) ?_
    refine zget (v := .ref a1) (ref := "SumOfTwoThatStand$Street") (C := RX5) (T := TX5) (N := 11) (index := 9) X hh inX5_lends_X5 0 rfl rfl 0 (by decide) mmX5_lends_0 rfl rfl dX5_lends_11 ?_
    refine lv_iload_n hx hb dX5_lends_14 rfl (lv_at hl 1 rfl) ?_
    obtain ⟨g3, hf⟩ := ob_ix hf
    refine ziald (f := (st_kinds S)) X hh 1 rfl g3 dX5_lends_15 ?_
    by_cases c4_0 : ((st_kinds S) p1.toNatClampNeg) = (1 : Int32)
    · replace hf := (if_pos c4_0).symm.trans hf
      refine lv_tableIn (off := 32) (tgt := 48) hx hb dX5_lends_16 (by rw [c4_0]; decide) (by rw [c4_0]; decide) (by rw [c4_0]; decide) (by decide) ?_
      refine lv_aload_n hx hb dX5_lends_48 rfl (lv_at hl 0 rfl) ?_
      refine zget (v := .ref a6) (ref := "SumOfTwoThatStand$Street") (C := RX5) (T := TX5) (N := 11) (index := 27) X hh inX5_lends_X5 0 rfl rfl 5 (by decide) mmX5_lends_1 rfl rfl dX5_lends_49 ?_
      refine lv_iload_n hx hb dX5_lends_52 rfl (lv_at hl 1 rfl) ?_
      refine ziald (f := (st_uses S)) X hh 6 rfl g3 dX5_lends_53 ?_
      refine lv_if_ne (tgt := 61) hx hb dX5_lends_54 (by decide) (fun c5 => ?_) (fun c5 => ?_)
      · replace hf := (if_neg c5).symm.trans hf
        refine lv_iconst (v := (0 : Int32)) hx hb dX5_lends_61 (by decide) ?_
        exact hr2 62 ls H locs (0 : Int32) hf rfl dX5_lends_62 hh
      · replace hf := (if_pos c5).symm.trans hf
        refine lv_iconst (v := (1 : Int32)) hx hb dX5_lends_57 (by decide) ?_
        refine lv_goto (tgt := 62) hx hb dX5_lends_58 (by decide) ?_
        exact hr2 62 ls H locs (1 : Int32) hf rfl dX5_lends_62 hh
    replace hf := (if_neg c4_0).symm.trans hf
    by_cases c4_1 : ((st_kinds S) p1.toNatClampNeg) = (2 : Int32)
    · replace hf := (if_pos c4_1).symm.trans hf
      refine lv_tableIn (off := 61) (tgt := 77) hx hb dX5_lends_16 (by rw [c4_1]; decide) (by rw [c4_1]; decide) (by rw [c4_1]; decide) (by decide) ?_
      refine lv_iconst (v := (1 : Int32)) hx hb dX5_lends_77 (by decide) ?_
      exact hr2 78 ls H locs (1 : Int32) hf rfl dX5_lends_78 hh
    replace hf := (if_neg c4_1).symm.trans hf
    by_cases c4_2 : ((st_kinds S) p1.toNatClampNeg) = (3 : Int32)
    · replace hf := (if_pos c4_2).symm.trans hf
      refine lv_tableIn (off := 47) (tgt := 63) hx hb dX5_lends_16 (by rw [c4_2]; decide) (by rw [c4_2]; decide) (by rw [c4_2]; decide) (by decide) ?_
      refine lv_iload_n hx hb dX5_lends_63 rfl (lv_at hl 2 rfl) ?_
      refine lv_iconst (v := (1 : Int32)) hx hb dX5_lends_64 (by decide) ?_
      refine lv_iand hx hb dX5_lends_65 ?_
      refine lv_if_ne (tgt := 73) hx hb dX5_lends_66 (by decide) (fun c6 => ?_) (fun c6 => ?_)
      · replace hf := (if_neg c6).symm.trans hf
        refine lv_iconst (v := (0 : Int32)) hx hb dX5_lends_73 (by decide) ?_
        exact hr2 74 ls H locs (0 : Int32) hf rfl dX5_lends_74 hh
      · replace hf := (if_pos c6).symm.trans hf
        refine lv_iconst (v := (1 : Int32)) hx hb dX5_lends_69 (by decide) ?_
        refine lv_goto (tgt := 74) hx hb dX5_lends_70 (by decide) ?_
        exact hr2 74 ls H locs (1 : Int32) hf rfl dX5_lends_74 hh
    replace hf := (if_neg c4_2).symm.trans hf
    by_cases c4_3 : ((st_kinds S) p1.toNatClampNeg) = (4 : Int32)
    · replace hf := (if_pos c4_3).symm.trans hf
      refine lv_tableIn (off := 59) (tgt := 75) hx hb dX5_lends_16 (by rw [c4_3]; decide) (by rw [c4_3]; decide) (by rw [c4_3]; decide) (by decide) ?_
      refine lv_iconst (v := (0 : Int32)) hx hb dX5_lends_75 (by decide) ?_
      exact hr2 76 ls H locs (0 : Int32) hf rfl dX5_lends_76 hh
    replace hf := (if_neg c4_3).symm.trans hf
    refine lv_tableOut (tgt := 77) hx hb dX5_lends_16 (by have e0 := lv_neT c4_0 (a := 1) (by decide); have e1 := lv_neT c4_1 (a := 2) (by decide); have e2 := lv_neT c4_2 (a := 3) (by decide); have e3 := lv_neT c4_3 (a := 4) (by decide); omega) (by decide) ?_
    refine lv_iconst (v := (1 : Int32)) hx hb dX5_lends_77 (by decide) ?_
    exact hr2 78 ls H locs (1 : Int32) hf rfl dX5_lends_78 hh
  · replace hf := (if_pos c2).symm.trans hf
    refine lv_iconst (v := (0 : Int32)) hx hb dX5_lends_8 (by decide) ?_
    exact hr2 9 ls H locs (0 : Int32) hf rfl dX5_lends_9 hh
def fX5_mayBe (S : zSt) (p1 : Int32) (p2 : Int32) : Option (Int32) :=
  if (fX5_stands S p1) = (0 : Int32) then
  (some (0 : Int32))
  else
  (if (fX5_stands S p2) = (0 : Int32) then
  (some (0 : Int32))
  else
  (if (fX5_isLawful S p1 p2) = (0 : Int32) then
  (some (0 : Int32))
  else
  (ix 12 p1 (ix 12 p2 (if (9999 : Int32) < (((st_numbers S) p1.toNatClampNeg) + ((st_numbers S) p2.toNatClampNeg)) then
  (some (0 : Int32))
  else
  ((fX5_lends S p1 (((st_numbers S) p1.toNatClampNeg) + ((st_numbers S) p2.toNatClampNeg))).bind fun u10 =>
  if u10 = (0 : Int32) then
  (some (0 : Int32))
  else
  ((fX5_lends S p2 (((st_numbers S) p1.toNatClampNeg) + ((st_numbers S) p2.toNatClampNeg))).bind fun u12 =>
  if u12 = (0 : Int32) then
  (some (0 : Int32))
  else
  ((fX5_isThere S (((st_numbers S) p1.toNatClampNeg) + ((st_numbers S) p2.toNatClampNeg))).bind fun u14 =>
  if u14 = (0 : Int32) then
  (some (1 : Int32))
  else
  (some (0 : Int32))))))))))
theorem inX5_mayBe_X5 : ∀ w ∈ wsX50, w ∈ wsX5_mayBe := by decide +kernel
theorem mmX5_mayBe_0 : Cond.fieldLink RX5 18 "SumOfTwoThatStand$Street" "numbers" "[I" ∈ wsX5_mayBe := by decide +kernel
theorem hdX5_mayBe : yX5_mayBe.cls ≠ "java/lang/invoke/MethodHandle" ∧ yX5_mayBe.cls ≠ "java/lang/invoke/VarHandle" ∧ (parseMethodDescriptor yX5_mayBe.desc).map (fun d => d.parameters.length) = some 2 := by decide +kernel
set_option maxHeartbeats 4000000 in
set_option maxRecDepth 100000 in
theorem kX5_mayBe (l : Launch) (K : zK) (a0 a1 a2 a3 a4 a5 a6 a7 : Nat) (S : zSt) (p1 : Int32) (p2 : Int32) (R : Int32) (hf : fX5_mayBe S p1 p2 = some R) : zC l yX5_mayBe wsX5_mayBe ({ frames := 2, cells := 0, slots := 0, locals := 44 } : Room) K [.ref a0, .int p1, .int p2] (cSt K a0 a1 a2 a3 a4 a5 a6 a7 S) (some (.int R)) (cSt K a0 a1 a2 a3 a4 a5 a6 a7 S) := by
  refine zC_z .boolean R (cc := cX5_mayBe) (maxL := 4) (by decide +kernel) rfl (Nat.le_of_ble_eq_true rfl) rfl rfl ?_
  intro p e s m below meth c Q A X hret ls hl hh
  have X : zX p m c cX5_mayBe 4 s ([.ref a0, .int p1, .int p2] : List Value).toArray wsX5_mayBe RX5 K A := X
  have hx := X.1.1
  have hb := X.1.2.1
  have hr2 : ∀ (pc : Nat) (ls : Array Slot) (H : Heap) (locs : List Loc) (v : Int32), some v = some R → narrow .boolean (.int v) = .int v → decode cX5_mayBe pc = .ok (.ireturn, 1) → zW K A s H locs (cSt K a0 a1 a2 a3 a4 a5 a6 a7 S) → W p l e ({ frames := 2, cells := 0, slots := 0, locals := 44 } : Room) s m ([.ref a0, .int p1, .int p2] : List Value).toArray below meth c H locs 0 0 Q (F0 m pc ls [.int v]) := by
    intro pc ls H locs v h hn hd hh
    cases h; exact hret pc ls H locs _ rfl hn hd hh
  have hl : lv_has ls 4 [(0, .ref a0), (1, .int p1), (2, .int p2)] := hl
  unfold fX5_mayBe at hf
  refine (fun (hmain : ∀ (H : Heap) (locs : List Loc), zW K A s H locs (cSt K a0 a1 a2 a3 a4 a5 a6 a7 S) → W p l e ({ frames := 2, cells := 0, slots := 0, locals := 44 } : Room) s m ([.ref a0, .int p1, .int p2] : List Value).toArray below meth c H locs 0 0 Q (F0 m 0 ls [])) => hmain s.heap [] hh) (fun H locs hh => ?_)
  refine lv_aload_n hx hb dX5_mayBe_0 rfl (lv_at hl 0 rfl) ?_
  refine lv_iload_n hx hb dX5_mayBe_1 rfl (lv_at hl 1 rfl) ?_
  refine zcallV (ci := 5) (q0 := 0) (As := [.int p1]) (rest := []) (wr := []) (ws' := cSt K a0 a1 a2 a3 a4 a5 a6 a7 S) (ov := some (.int (fX5_stands S p1))) X hh hl (kX5_stands l K a0 a1 a2 a3 a4 a5 a6 a7 S p1 (fX5_stands S p1) rfl) (fun ht => cwV 1 ht gX5_mayBe_X5_stands rfl rfl rfl ⟨rfl, hdX5_stands⟩ ⟨Nat.le_of_ble_eq_true rfl, Nat.le_of_ble_eq_true rfl⟩) [0, 1, 2, 3, 4, 5, 6, 7] [] [0, 1, 2, 3, 4, 5, 6, 7] rfl rfl rfl rfl (by decide) rfl rfl rfl rfl rfl rfl (Nat.le_of_ble_eq_true rfl) dX5_mayBe_2 ⟨Nat.zero_le _, Nat.zero_le _⟩ (fun H locs hh => ?_)
  refine lv_if_eq (tgt := 25) hx hb dX5_mayBe_5 (by decide) (fun c2 => ?_) (fun c2 => ?_)
  · replace hf := (if_pos c2).symm.trans hf
    refine lv_iconst (v := (0 : Int32)) hx hb dX5_mayBe_25 (by decide) ?_
    exact hr2 26 ls H locs (0 : Int32) hf rfl dX5_mayBe_26 hh
  · replace hf := (if_neg c2).symm.trans hf
    refine lv_aload_n hx hb dX5_mayBe_8 rfl (lv_at hl 0 rfl) ?_
    refine lv_iload_n hx hb dX5_mayBe_9 rfl (lv_at hl 2 rfl) ?_
    refine zcallV (ci := 5) (q0 := 0) (As := [.int p2]) (rest := []) (wr := []) (ws' := cSt K a0 a1 a2 a3 a4 a5 a6 a7 S) (ov := some (.int (fX5_stands S p2))) X hh hl (kX5_stands l K a0 a1 a2 a3 a4 a5 a6 a7 S p2 (fX5_stands S p2) rfl) (fun ht => cwV 1 ht gX5_mayBe_X5_stands rfl rfl rfl ⟨rfl, hdX5_stands⟩ ⟨Nat.le_of_ble_eq_true rfl, Nat.le_of_ble_eq_true rfl⟩) [0, 1, 2, 3, 4, 5, 6, 7] [] [0, 1, 2, 3, 4, 5, 6, 7] rfl rfl rfl rfl (by decide) rfl rfl rfl rfl rfl rfl (Nat.le_of_ble_eq_true rfl) dX5_mayBe_10 ⟨Nat.zero_le _, Nat.zero_le _⟩ (fun H locs hh => ?_)
    refine lv_if_eq (tgt := 25) hx hb dX5_mayBe_13 (by decide) (fun c4 => ?_) (fun c4 => ?_)
    · replace hf := (if_pos c4).symm.trans hf
      refine lv_iconst (v := (0 : Int32)) hx hb dX5_mayBe_25 (by decide) ?_
      exact hr2 26 ls H locs (0 : Int32) hf rfl dX5_mayBe_26 hh
    · replace hf := (if_neg c4).symm.trans hf
      refine lv_aload_n hx hb dX5_mayBe_16 rfl (lv_at hl 0 rfl) ?_
      refine lv_iload_n hx hb dX5_mayBe_17 rfl (lv_at hl 1 rfl) ?_
      refine lv_iload_n hx hb dX5_mayBe_18 rfl (lv_at hl 2 rfl) ?_
      refine zcallV (ci := 5) (q0 := 0) (As := [.int p1, .int p2]) (rest := []) (wr := []) (ws' := cSt K a0 a1 a2 a3 a4 a5 a6 a7 S) (ov := some (.int (fX5_isLawful S p1 p2))) X hh hl (kX5_isLawful l K a0 a1 a2 a3 a4 a5 a6 a7 S p1 p2 (fX5_isLawful S p1 p2) rfl) (fun ht => cwV 2 ht gX5_mayBe_X5_isLawful rfl rfl rfl ⟨rfl, hdX5_isLawful⟩ ⟨Nat.le_of_ble_eq_true rfl, Nat.le_of_ble_eq_true rfl⟩) [0, 1, 2, 3, 4, 5, 6, 7] [] [0, 1, 2, 3, 4, 5, 6, 7] rfl rfl rfl rfl (by decide) rfl rfl rfl rfl rfl rfl (Nat.le_of_ble_eq_true rfl) dX5_mayBe_19 ⟨Nat.zero_le _, Nat.zero_le _⟩ (fun H locs hh => ?_)
      refine lv_if_ne (tgt := 27) hx hb dX5_mayBe_22 (by decide) (fun c6 => ?_) (fun c6 => ?_)
      · replace hf := (if_neg c6).symm.trans hf
        refine lv_aload_n hx hb dX5_mayBe_27 rfl (lv_at hl 0 rfl) ?_
        refine zget (v := .ref a3) (ref := "SumOfTwoThatStand$Street") (C := RX5) (T := TX5) (N := 11) (index := 18) X hh inX5_mayBe_X5 0 rfl rfl 2 (by decide) mmX5_mayBe_0 rfl rfl dX5_mayBe_28 ?_
        refine lv_iload_n hx hb dX5_mayBe_31 rfl (lv_at hl 1 rfl) ?_
        obtain ⟨g7, hf⟩ := ob_ix hf
        refine ziald (f := (st_numbers S)) X hh 3 rfl g7 dX5_mayBe_32 ?_
        refine lv_aload_n hx hb dX5_mayBe_33 rfl (lv_at hl 0 rfl) ?_
        refine zget (v := .ref a3) (ref := "SumOfTwoThatStand$Street") (C := RX5) (T := TX5) (N := 11) (index := 18) X hh inX5_mayBe_X5 0 rfl rfl 2 (by decide) mmX5_mayBe_0 rfl rfl dX5_mayBe_34 ?_
        refine lv_iload_n hx hb dX5_mayBe_37 rfl (lv_at hl 2 rfl) ?_
        obtain ⟨g8, hf⟩ := ob_ix hf
        refine ziald (f := (st_numbers S)) X hh 3 rfl g8 dX5_mayBe_38 ?_
        refine lv_iadd hx hb dX5_mayBe_39 ?_
        refine lv_istore_n (lv' := [(3, .int (((st_numbers S) p1.toNatClampNeg) + ((st_numbers S) p2.toNatClampNeg))), (0, .ref a0), (1, .int p1), (2, .int p2)]) hx hb dX5_mayBe_40 rfl hl (by decide) rfl (fun ls hl => ?_)
        refine lv_iload_n hx hb dX5_mayBe_41 rfl (lv_at hl 0 rfl) ?_
        refine lv_sipush (v := (9999 : Int32)) hx hb dX5_mayBe_42 (by decide) ?_
        refine lv_icmp_gt (tgt := 78) hx hb dX5_mayBe_45 (by decide) (fun c9 => ?_) (fun c9 => ?_)
        · replace hf := (if_pos c9).symm.trans hf
          refine lv_iconst (v := (0 : Int32)) hx hb dX5_mayBe_78 (by decide) ?_
          exact hr2 79 ls H locs (0 : Int32) hf rfl dX5_mayBe_79 hh
        · replace hf := (if_neg c9).symm.trans hf
          refine lv_aload_n hx hb dX5_mayBe_48 rfl (lv_at hl 1 rfl) ?_
          refine lv_iload_n hx hb dX5_mayBe_49 rfl (lv_at hl 2 rfl) ?_
          refine lv_iload_n hx hb dX5_mayBe_50 rfl (lv_at hl 0 rfl) ?_
          obtain ⟨u10, hu10, hf⟩ := ob_bind hf
          refine zcallV (ci := 5) (q0 := 0) (As := [.int p1, .int (((st_numbers S) p1.toNatClampNeg) + ((st_numbers S) p2.toNatClampNeg))]) (rest := []) (wr := []) (ws' := cSt K a0 a1 a2 a3 a4 a5 a6 a7 S) (ov := some (.int u10)) X hh hl (kX5_lends l K a0 a1 a2 a3 a4 a5 a6 a7 S p1 (((st_numbers S) p1.toNatClampNeg) + ((st_numbers S) p2.toNatClampNeg)) u10 hu10) (fun ht => cwV 2 ht gX5_mayBe_X5_lends rfl rfl rfl ⟨rfl, hdX5_lends⟩ ⟨Nat.le_of_ble_eq_true rfl, Nat.le_of_ble_eq_true rfl⟩) [0, 1, 2, 3, 4, 5, 6, 7] [] [0, 1, 2, 3, 4, 5, 6, 7] rfl rfl rfl rfl (by decide) rfl rfl rfl rfl rfl rfl (Nat.le_of_ble_eq_true rfl) dX5_mayBe_51 ⟨Nat.zero_le _, Nat.zero_le _⟩ (fun H locs hh => ?_)
          refine lv_if_eq (tgt := 78) hx hb dX5_mayBe_54 (by decide) (fun c11 => ?_) (fun c11 => ?_)
          · replace hf := (if_pos c11).symm.trans hf
            refine lv_iconst (v := (0 : Int32)) hx hb dX5_mayBe_78 (by decide) ?_
            exact hr2 79 ls H locs (0 : Int32) hf rfl dX5_mayBe_79 hh
          · replace hf := (if_neg c11).symm.trans hf
            refine lv_aload_n hx hb dX5_mayBe_57 rfl (lv_at hl 1 rfl) ?_
            refine lv_iload_n hx hb dX5_mayBe_58 rfl (lv_at hl 3 rfl) ?_
            refine lv_iload_n hx hb dX5_mayBe_59 rfl (lv_at hl 0 rfl) ?_
            obtain ⟨u12, hu12, hf⟩ := ob_bind hf
            refine zcallV (ci := 5) (q0 := 0) (As := [.int p2, .int (((st_numbers S) p1.toNatClampNeg) + ((st_numbers S) p2.toNatClampNeg))]) (rest := []) (wr := []) (ws' := cSt K a0 a1 a2 a3 a4 a5 a6 a7 S) (ov := some (.int u12)) X hh hl (kX5_lends l K a0 a1 a2 a3 a4 a5 a6 a7 S p2 (((st_numbers S) p1.toNatClampNeg) + ((st_numbers S) p2.toNatClampNeg)) u12 hu12) (fun ht => cwV 2 ht gX5_mayBe_X5_lends rfl rfl rfl ⟨rfl, hdX5_lends⟩ ⟨Nat.le_of_ble_eq_true rfl, Nat.le_of_ble_eq_true rfl⟩) [0, 1, 2, 3, 4, 5, 6, 7] [] [0, 1, 2, 3, 4, 5, 6, 7] rfl rfl rfl rfl (by decide) rfl rfl rfl rfl rfl rfl (Nat.le_of_ble_eq_true rfl) dX5_mayBe_60 ⟨Nat.zero_le _, Nat.zero_le _⟩ (fun H locs hh => ?_)
            refine lv_if_eq (tgt := 78) hx hb dX5_mayBe_63 (by decide) (fun c13 => ?_) (fun c13 => ?_)
            · replace hf := (if_pos c13).symm.trans hf
              refine lv_iconst (v := (0 : Int32)) hx hb dX5_mayBe_78 (by decide) ?_
              exact hr2 79 ls H locs (0 : Int32) hf rfl dX5_mayBe_79 hh
            · replace hf := (if_neg c13).symm.trans hf
              refine lv_aload_n hx hb dX5_mayBe_66 rfl (lv_at hl 1 rfl) ?_
              refine lv_iload_n hx hb dX5_mayBe_67 rfl (lv_at hl 0 rfl) ?_
              obtain ⟨u14, hu14, hf⟩ := ob_bind hf
              refine zcallV (ci := 5) (q0 := 0) (As := [.int (((st_numbers S) p1.toNatClampNeg) + ((st_numbers S) p2.toNatClampNeg))]) (rest := []) (wr := []) (ws' := cSt K a0 a1 a2 a3 a4 a5 a6 a7 S) (ov := some (.int u14)) X hh hl (kX5_isThere l K a0 a1 a2 a3 a4 a5 a6 a7 S (((st_numbers S) p1.toNatClampNeg) + ((st_numbers S) p2.toNatClampNeg)) u14 hu14) (fun ht => cwV 1 ht gX5_mayBe_X5_isThere rfl rfl rfl ⟨rfl, hdX5_isThere⟩ ⟨Nat.le_of_ble_eq_true rfl, Nat.le_of_ble_eq_true rfl⟩) [0, 1, 2, 3, 4, 5, 6, 7] [] [0, 1, 2, 3, 4, 5, 6, 7] rfl rfl rfl rfl (by decide) rfl rfl rfl rfl rfl rfl (Nat.le_of_ble_eq_true rfl) dX5_mayBe_68 ⟨Nat.zero_le _, Nat.zero_le _⟩ (fun H locs hh => ?_)
              refine lv_if_ne (tgt := 78) hx hb dX5_mayBe_71 (by decide) (fun c15 => ?_) (fun c15 => ?_)
              · replace hf := (if_neg c15).symm.trans hf
                refine lv_iconst (v := (0 : Int32)) hx hb dX5_mayBe_78 (by decide) ?_
                exact hr2 79 ls H locs (0 : Int32) hf rfl dX5_mayBe_79 hh
              · replace hf := (if_pos c15).symm.trans hf
                refine lv_iconst (v := (1 : Int32)) hx hb dX5_mayBe_74 (by decide) ?_
                refine lv_goto (tgt := 79) hx hb dX5_mayBe_75 (by decide) ?_
                exact hr2 79 ls H locs (1 : Int32) hf rfl dX5_mayBe_79 hh
      · replace hf := (if_pos c6).symm.trans hf
        refine lv_iconst (v := (0 : Int32)) hx hb dX5_mayBe_25 (by decide) ?_
        exact hr2 26 ls H locs (0 : Int32) hf rfl dX5_mayBe_26 hh
def fX5_place (S : zSt) (p1 : Int32) (p2 : Int32) (p3 : Int32) (p4 : Int32) (p5 : Int32) : Option (zSt) :=
  if (fX5_hasRoom S) = (0 : Int32) then
  (some S)
  else
  (ix 12 (st_came S) (some (st_set_standing (st_set_came (st_set_earned (st_set_uses (st_set_seconds (st_set_firsts (st_set_numbers (st_set_figures (st_set_kinds S (upd (st_kinds S) (st_came S).toNatClampNeg p4)) (upd (st_figures S) (st_came S).toNatClampNeg p5)) (upd (st_numbers S) (st_came S).toNatClampNeg p1)) (upd (st_firsts S) (st_came S).toNatClampNeg p2)) (upd (st_seconds S) (st_came S).toNatClampNeg p3)) (upd (st_uses S) (st_came S).toNatClampNeg (0 : Int32))) (upd (st_earned S) (st_came S).toNatClampNeg (0 : Int32))) ((st_came S) + (1 : Int32))) ((st_standing S) ||| ((1 : Int32) <<< ((st_came S) &&& 31))))))
theorem inX5_place_X5 : ∀ w ∈ wsX50, w ∈ wsX5_place := by decide +kernel
theorem mmX5_place_0 : Cond.fieldLink RX5 18 "SumOfTwoThatStand$Street" "numbers" "[I" ∈ wsX5_place := by decide +kernel
theorem mmX5_place_1 : Cond.fieldLink RX5 36 "SumOfTwoThatStand$Street" "came" "I" ∈ wsX5_place := by decide +kernel
theorem mmX5_place_2 : Cond.fieldLink RX5 21 "SumOfTwoThatStand$Street" "firsts" "[I" ∈ wsX5_place := by decide +kernel
theorem mmX5_place_3 : Cond.fieldLink RX5 24 "SumOfTwoThatStand$Street" "seconds" "[I" ∈ wsX5_place := by decide +kernel
theorem mmX5_place_4 : Cond.fieldLink RX5 9 "SumOfTwoThatStand$Street" "kinds" "[I" ∈ wsX5_place := by decide +kernel
theorem mmX5_place_5 : Cond.fieldLink RX5 15 "SumOfTwoThatStand$Street" "figures" "[I" ∈ wsX5_place := by decide +kernel
theorem mmX5_place_6 : Cond.fieldLink RX5 27 "SumOfTwoThatStand$Street" "uses" "[I" ∈ wsX5_place := by decide +kernel
theorem mmX5_place_7 : Cond.fieldLink RX5 30 "SumOfTwoThatStand$Street" "earned" "[I" ∈ wsX5_place := by decide +kernel
theorem mmX5_place_8 : Cond.fieldLink RX5 40 "SumOfTwoThatStand$Street" "standing" "I" ∈ wsX5_place := by decide +kernel
theorem hdX5_place : yX5_place.cls ≠ "java/lang/invoke/MethodHandle" ∧ yX5_place.cls ≠ "java/lang/invoke/VarHandle" ∧ (parseMethodDescriptor yX5_place.desc).map (fun d => d.parameters.length) = some 5 := by decide +kernel
set_option maxHeartbeats 4000000 in
set_option maxRecDepth 100000 in
theorem kX5_place (l : Launch) (K : zK) (a0 a1 a2 a3 a4 a5 a6 a7 : Nat) (S : zSt) (p1 : Int32) (p2 : Int32) (p3 : Int32) (p4 : Int32) (p5 : Int32) (R : zSt) (hf : fX5_place S p1 p2 p3 p4 p5 = some R) : zC l yX5_place wsX5_place ({ frames := 1, cells := 0, slots := 0, locals := 20 } : Room) K [.ref a0, .int p1, .int p2, .int p3, .int p4, .int p5] (cSt K a0 a1 a2 a3 a4 a5 a6 a7 S) none (cSt K a0 a1 a2 a3 a4 a5 a6 a7 R) := by
  refine zC_v (cc := cX5_place) (maxL := 6) (by decide +kernel) rfl (Nat.le_of_ble_eq_true rfl) rfl rfl ?_
  intro p e s m below meth c Q A X hret ls hl hh
  have X : zX p m c cX5_place 6 s ([.ref a0, .int p1, .int p2, .int p3, .int p4, .int p5] : List Value).toArray wsX5_place RX5 K A := X
  have hx := X.1.1
  have hb := X.1.2.1
  have hr2 : ∀ (pc : Nat) (ls : Array Slot) (H : Heap) (locs : List Loc) (S : zSt), some S = some R → decode cX5_place pc = .ok (.return_, 1) → zW K A s H locs (cSt K a0 a1 a2 a3 a4 a5 a6 a7 S) → W p l e ({ frames := 1, cells := 0, slots := 0, locals := 20 } : Room) s m ([.ref a0, .int p1, .int p2, .int p3, .int p4, .int p5] : List Value).toArray below meth c H locs 0 0 Q (F0 m pc ls []) := by
    intro pc ls H locs S h hd hh
    cases h; exact hret pc ls H locs hd hh
  have hl : lv_has ls 6 [(0, .ref a0), (1, .int p1), (2, .int p2), (3, .int p3), (4, .int p4), (5, .int p5)] := hl
  unfold fX5_place at hf
  refine (fun (hmain : ∀ (H : Heap) (locs : List Loc), zW K A s H locs (cSt K a0 a1 a2 a3 a4 a5 a6 a7 S) → W p l e ({ frames := 1, cells := 0, slots := 0, locals := 20 } : Room) s m ([.ref a0, .int p1, .int p2, .int p3, .int p4, .int p5] : List Value).toArray below meth c H locs 0 0 Q (F0 m 0 ls [])) => hmain s.heap [] hh) (fun H locs hh => ?_)
  refine lv_aload_n hx hb dX5_place_0 rfl (lv_at hl 0 rfl) ?_
  refine zcallV (ci := 5) (q0 := 0) (As := []) (rest := []) (wr := []) (ws' := cSt K a0 a1 a2 a3 a4 a5 a6 a7 S) (ov := some (.int (fX5_hasRoom S))) X hh hl (kX5_hasRoom l K a0 a1 a2 a3 a4 a5 a6 a7 S (fX5_hasRoom S) rfl) (fun ht => cwV 0 ht gX5_place_X5_hasRoom rfl rfl rfl ⟨rfl, hdX5_hasRoom⟩ ⟨Nat.le_of_ble_eq_true rfl, Nat.le_of_ble_eq_true rfl⟩) [0, 1, 2, 3, 4, 5, 6, 7] [] [0, 1, 2, 3, 4, 5, 6, 7] rfl rfl rfl rfl (by decide) rfl rfl rfl rfl rfl rfl (Nat.le_of_ble_eq_true rfl) dX5_place_1 ⟨Nat.zero_le _, Nat.zero_le _⟩ (fun H locs hh => ?_)
  refine lv_if_ne (tgt := 8) hx hb dX5_place_4 (by decide) (fun c2 => ?_) (fun c2 => ?_)
  · replace hf := (if_neg c2).symm.trans hf
    refine lv_aload_n hx hb dX5_place_8 rfl (lv_at hl 0 rfl) ?_
    refine zget (v := .ref a3) (ref := "SumOfTwoThatStand$Street") (C := RX5) (T := TX5) (N := 11) (index := 18) X hh inX5_place_X5 0 rfl rfl 2 (by decide) mmX5_place_0 rfl rfl dX5_place_9 ?_
    refine lv_aload_n hx hb dX5_place_12 rfl (lv_at hl 0 rfl) ?_
    refine zget (v := .int (st_came S)) (ref := "SumOfTwoThatStand$Street") (C := RX5) (T := TX5) (N := 11) (index := 36) X hh inX5_place_X5 0 rfl rfl 7 (by decide) mmX5_place_1 rfl rfl dX5_place_13 ?_
    refine lv_iload_n hx hb dX5_place_16 rfl (lv_at hl 1 rfl) ?_
    obtain ⟨g3, hf⟩ := ob_ix hf
    refine ziast (f := (st_numbers S)) X hh 3 rfl g3 dX5_place_17 (fun H locs hh => ?_)
    have hh : zW K A s H locs (cSt K a0 a1 a2 a3 a4 a5 a6 a7 (st_set_numbers S (upd (st_numbers S) (st_came S).toNatClampNeg p1))) := hh
    refine lv_aload_n hx hb dX5_place_18 rfl (lv_at hl 0 rfl) ?_
    refine zget (v := .ref a4) (ref := "SumOfTwoThatStand$Street") (C := RX5) (T := TX5) (N := 11) (index := 21) X hh inX5_place_X5 0 rfl rfl 3 (by decide) mmX5_place_2 rfl rfl dX5_place_19 ?_
    refine lv_aload_n hx hb dX5_place_22 rfl (lv_at hl 0 rfl) ?_
    refine zget (v := .int (st_came S)) (ref := "SumOfTwoThatStand$Street") (C := RX5) (T := TX5) (N := 11) (index := 36) X hh inX5_place_X5 0 rfl rfl 7 (by decide) mmX5_place_1 rfl rfl dX5_place_23 ?_
    refine lv_iload_n hx hb dX5_place_26 rfl (lv_at hl 2 rfl) ?_
    refine ziast (f := (st_firsts S)) X hh 4 rfl g3 dX5_place_27 (fun H locs hh => ?_)
    have hh : zW K A s H locs (cSt K a0 a1 a2 a3 a4 a5 a6 a7 (st_set_firsts (st_set_numbers S (upd (st_numbers S) (st_came S).toNatClampNeg p1)) (upd (st_firsts S) (st_came S).toNatClampNeg p2))) := hh
    refine lv_aload_n hx hb dX5_place_28 rfl (lv_at hl 0 rfl) ?_
    refine zget (v := .ref a5) (ref := "SumOfTwoThatStand$Street") (C := RX5) (T := TX5) (N := 11) (index := 24) X hh inX5_place_X5 0 rfl rfl 4 (by decide) mmX5_place_3 rfl rfl dX5_place_29 ?_
    refine lv_aload_n hx hb dX5_place_32 rfl (lv_at hl 0 rfl) ?_
    refine zget (v := .int (st_came S)) (ref := "SumOfTwoThatStand$Street") (C := RX5) (T := TX5) (N := 11) (index := 36) X hh inX5_place_X5 0 rfl rfl 7 (by decide) mmX5_place_1 rfl rfl dX5_place_33 ?_
    refine lv_iload_n hx hb dX5_place_36 rfl (lv_at hl 3 rfl) ?_
    refine ziast (f := (st_seconds S)) X hh 5 rfl g3 dX5_place_37 (fun H locs hh => ?_)
    have hh : zW K A s H locs (cSt K a0 a1 a2 a3 a4 a5 a6 a7 (st_set_seconds (st_set_firsts (st_set_numbers S (upd (st_numbers S) (st_came S).toNatClampNeg p1)) (upd (st_firsts S) (st_came S).toNatClampNeg p2)) (upd (st_seconds S) (st_came S).toNatClampNeg p3))) := hh
    refine lv_aload_n hx hb dX5_place_38 rfl (lv_at hl 0 rfl) ?_
    refine zget (v := .ref a1) (ref := "SumOfTwoThatStand$Street") (C := RX5) (T := TX5) (N := 11) (index := 9) X hh inX5_place_X5 0 rfl rfl 0 (by decide) mmX5_place_4 rfl rfl dX5_place_39 ?_
    refine lv_aload_n hx hb dX5_place_42 rfl (lv_at hl 0 rfl) ?_
    refine zget (v := .int (st_came S)) (ref := "SumOfTwoThatStand$Street") (C := RX5) (T := TX5) (N := 11) (index := 36) X hh inX5_place_X5 0 rfl rfl 7 (by decide) mmX5_place_1 rfl rfl dX5_place_43 ?_
    refine lv_iload hx hb dX5_place_46 (lv_at hl 4 rfl) ?_
    refine ziast (f := (st_kinds S)) X hh 1 rfl g3 dX5_place_48 (fun H locs hh => ?_)
    have hh : zW K A s H locs (cSt K a0 a1 a2 a3 a4 a5 a6 a7 (st_set_seconds (st_set_firsts (st_set_numbers (st_set_kinds S (upd (st_kinds S) (st_came S).toNatClampNeg p4)) (upd (st_numbers S) (st_came S).toNatClampNeg p1)) (upd (st_firsts S) (st_came S).toNatClampNeg p2)) (upd (st_seconds S) (st_came S).toNatClampNeg p3))) := hh
    refine lv_aload_n hx hb dX5_place_49 rfl (lv_at hl 0 rfl) ?_
    refine zget (v := .ref a2) (ref := "SumOfTwoThatStand$Street") (C := RX5) (T := TX5) (N := 11) (index := 15) X hh inX5_place_X5 0 rfl rfl 1 (by decide) mmX5_place_5 rfl rfl dX5_place_50 ?_
    refine lv_aload_n hx hb dX5_place_53 rfl (lv_at hl 0 rfl) ?_
    refine zget (v := .int (st_came S)) (ref := "SumOfTwoThatStand$Street") (C := RX5) (T := TX5) (N := 11) (index := 36) X hh inX5_place_X5 0 rfl rfl 7 (by decide) mmX5_place_1 rfl rfl dX5_place_54 ?_
    refine lv_iload hx hb dX5_place_57 (lv_at hl 5 rfl) ?_
    refine ziast (f := (st_figures S)) X hh 2 rfl g3 dX5_place_59 (fun H locs hh => ?_)
    have hh : zW K A s H locs (cSt K a0 a1 a2 a3 a4 a5 a6 a7 (st_set_seconds (st_set_firsts (st_set_numbers (st_set_figures (st_set_kinds S (upd (st_kinds S) (st_came S).toNatClampNeg p4)) (upd (st_figures S) (st_came S).toNatClampNeg p5)) (upd (st_numbers S) (st_came S).toNatClampNeg p1)) (upd (st_firsts S) (st_came S).toNatClampNeg p2)) (upd (st_seconds S) (st_came S).toNatClampNeg p3))) := hh
    refine lv_aload_n hx hb dX5_place_60 rfl (lv_at hl 0 rfl) ?_
    refine zget (v := .ref a6) (ref := "SumOfTwoThatStand$Street") (C := RX5) (T := TX5) (N := 11) (index := 27) X hh inX5_place_X5 0 rfl rfl 5 (by decide) mmX5_place_6 rfl rfl dX5_place_61 ?_
    refine lv_aload_n hx hb dX5_place_64 rfl (lv_at hl 0 rfl) ?_
    refine zget (v := .int (st_came S)) (ref := "SumOfTwoThatStand$Street") (C := RX5) (T := TX5) (N := 11) (index := 36) X hh inX5_place_X5 0 rfl rfl 7 (by decide) mmX5_place_1 rfl rfl dX5_place_65 ?_
    refine lv_iconst (v := (0 : Int32)) hx hb dX5_place_68 (by decide) ?_
    refine ziast (f := (st_uses S)) X hh 6 rfl g3 dX5_place_69 (fun H locs hh => ?_)
    have hh : zW K A s H locs (cSt K a0 a1 a2 a3 a4 a5 a6 a7 (st_set_uses (st_set_seconds (st_set_firsts (st_set_numbers (st_set_figures (st_set_kinds S (upd (st_kinds S) (st_came S).toNatClampNeg p4)) (upd (st_figures S) (st_came S).toNatClampNeg p5)) (upd (st_numbers S) (st_came S).toNatClampNeg p1)) (upd (st_firsts S) (st_came S).toNatClampNeg p2)) (upd (st_seconds S) (st_came S).toNatClampNeg p3)) (upd (st_uses S) (st_came S).toNatClampNeg (0 : Int32)))) := hh
    refine lv_aload_n hx hb dX5_place_70 rfl (lv_at hl 0 rfl) ?_
    refine zget (v := .ref a7) (ref := "SumOfTwoThatStand$Street") (C := RX5) (T := TX5) (N := 11) (index := 30) X hh inX5_place_X5 0 rfl rfl 6 (by decide) mmX5_place_7 rfl rfl dX5_place_71 ?_
    refine lv_aload_n hx hb dX5_place_74 rfl (lv_at hl 0 rfl) ?_
    refine zget (v := .int (st_came S)) (ref := "SumOfTwoThatStand$Street") (C := RX5) (T := TX5) (N := 11) (index := 36) X hh inX5_place_X5 0 rfl rfl 7 (by decide) mmX5_place_1 rfl rfl dX5_place_75 ?_
    refine lv_iconst (v := (0 : Int32)) hx hb dX5_place_78 (by decide) ?_
    refine ziast (f := (st_earned S)) X hh 7 rfl g3 dX5_place_79 (fun H locs hh => ?_)
    have hh : zW K A s H locs (cSt K a0 a1 a2 a3 a4 a5 a6 a7 (st_set_earned (st_set_uses (st_set_seconds (st_set_firsts (st_set_numbers (st_set_figures (st_set_kinds S (upd (st_kinds S) (st_came S).toNatClampNeg p4)) (upd (st_figures S) (st_came S).toNatClampNeg p5)) (upd (st_numbers S) (st_came S).toNatClampNeg p1)) (upd (st_firsts S) (st_came S).toNatClampNeg p2)) (upd (st_seconds S) (st_came S).toNatClampNeg p3)) (upd (st_uses S) (st_came S).toNatClampNeg (0 : Int32))) (upd (st_earned S) (st_came S).toNatClampNeg (0 : Int32)))) := hh
    refine lv_aload_n hx hb dX5_place_80 rfl (lv_at hl 0 rfl) ?_
    refine lv_dup hx hb dX5_place_81 rfl ?_
    refine zget (v := .int (st_standing S)) (ref := "SumOfTwoThatStand$Street") (C := RX5) (T := TX5) (N := 11) (index := 40) X hh inX5_place_X5 0 rfl rfl 8 (by decide) mmX5_place_8 rfl rfl dX5_place_82 ?_
    refine lv_iconst (v := (1 : Int32)) hx hb dX5_place_85 (by decide) ?_
    refine lv_aload_n hx hb dX5_place_86 rfl (lv_at hl 0 rfl) ?_
    refine zget (v := .int (st_came S)) (ref := "SumOfTwoThatStand$Street") (C := RX5) (T := TX5) (N := 11) (index := 36) X hh inX5_place_X5 0 rfl rfl 7 (by decide) mmX5_place_1 rfl rfl dX5_place_87 ?_
    refine lv_ishl hx hb dX5_place_90 ?_
    refine lv_ior hx hb dX5_place_91 ?_
    refine zput (v := .int ((st_standing S) ||| ((1 : Int32) <<< ((st_came S) &&& 31)))) (ty := .int) (ref := "SumOfTwoThatStand$Street") (C := RX5) (T := TX5) (N := 11) (index := 40) X hh inX5_place_X5 tyX5 tyX5_ok nmX5 0 rfl rfl 8 (by decide) mmX5_place_8 rfl rfl (by decide +kernel) rfl rfl (Nat.le_of_ble_eq_true rfl) dX5_place_92 (fun H locs hh => ?_)
    have hh : zW K A s H locs (cSt K a0 a1 a2 a3 a4 a5 a6 a7 (st_set_standing (st_set_earned (st_set_uses (st_set_seconds (st_set_firsts (st_set_numbers (st_set_figures (st_set_kinds S (upd (st_kinds S) (st_came S).toNatClampNeg p4)) (upd (st_figures S) (st_came S).toNatClampNeg p5)) (upd (st_numbers S) (st_came S).toNatClampNeg p1)) (upd (st_firsts S) (st_came S).toNatClampNeg p2)) (upd (st_seconds S) (st_came S).toNatClampNeg p3)) (upd (st_uses S) (st_came S).toNatClampNeg (0 : Int32))) (upd (st_earned S) (st_came S).toNatClampNeg (0 : Int32))) ((st_standing S) ||| ((1 : Int32) <<< ((st_came S) &&& 31))))) := hh
    refine lv_aload_n hx hb dX5_place_95 rfl (lv_at hl 0 rfl) ?_
    refine lv_dup hx hb dX5_place_96 rfl ?_
    refine zget (v := .int (st_came S)) (ref := "SumOfTwoThatStand$Street") (C := RX5) (T := TX5) (N := 11) (index := 36) X hh inX5_place_X5 0 rfl rfl 7 (by decide) mmX5_place_1 rfl rfl dX5_place_97 ?_
    refine lv_iconst (v := (1 : Int32)) hx hb dX5_place_100 (by decide) ?_
    refine lv_iadd hx hb dX5_place_101 ?_
    refine zput (v := .int ((st_came S) + (1 : Int32))) (ty := .int) (ref := "SumOfTwoThatStand$Street") (C := RX5) (T := TX5) (N := 11) (index := 36) X hh inX5_place_X5 tyX5 tyX5_ok nmX5 0 rfl rfl 7 (by decide) mmX5_place_1 rfl rfl (by decide +kernel) rfl rfl (Nat.le_of_ble_eq_true rfl) dX5_place_102 (fun H locs hh => ?_)
    have hh : zW K A s H locs (cSt K a0 a1 a2 a3 a4 a5 a6 a7 (st_set_standing (st_set_came (st_set_earned (st_set_uses (st_set_seconds (st_set_firsts (st_set_numbers (st_set_figures (st_set_kinds S (upd (st_kinds S) (st_came S).toNatClampNeg p4)) (upd (st_figures S) (st_came S).toNatClampNeg p5)) (upd (st_numbers S) (st_came S).toNatClampNeg p1)) (upd (st_firsts S) (st_came S).toNatClampNeg p2)) (upd (st_seconds S) (st_came S).toNatClampNeg p3)) (upd (st_uses S) (st_came S).toNatClampNeg (0 : Int32))) (upd (st_earned S) (st_came S).toNatClampNeg (0 : Int32))) ((st_came S) + (1 : Int32))) ((st_standing S) ||| ((1 : Int32) <<< ((st_came S) &&& 31))))) := hh
    exact hr2 105 ls H locs (st_set_standing (st_set_came (st_set_earned (st_set_uses (st_set_seconds (st_set_firsts (st_set_numbers (st_set_figures (st_set_kinds S (upd (st_kinds S) (st_came S).toNatClampNeg p4)) (upd (st_figures S) (st_came S).toNatClampNeg p5)) (upd (st_numbers S) (st_came S).toNatClampNeg p1)) (upd (st_firsts S) (st_came S).toNatClampNeg p2)) (upd (st_seconds S) (st_came S).toNatClampNeg p3)) (upd (st_uses S) (st_came S).toNatClampNeg (0 : Int32))) (upd (st_earned S) (st_came S).toNatClampNeg (0 : Int32))) ((st_came S) + (1 : Int32))) ((st_standing S) ||| ((1 : Int32) <<< ((st_came S) &&& 31)))) hf dX5_place_105 hh
  · replace hf := (if_pos c2).symm.trans hf
    exact hr2 7 ls H locs S hf dX5_place_7 hh
def fX5_use (S : zSt) (p1 : Int32) : Option (zSt) :=
  if (fX5_has S p1) = (0 : Int32) then
  (some S)
  else
  (ix 12 p1 ((fX5_fee (st_set_uses S (upd (st_uses S) p1.toNatClampNeg (((st_uses S) p1.toNatClampNeg) + (1 : Int32)))) p1).bind fun u4 =>
  some (st_set_earned (st_set_uses S (upd (st_uses S) p1.toNatClampNeg (((st_uses S) p1.toNatClampNeg) + (1 : Int32)))) (upd (st_earned S) p1.toNatClampNeg (((st_earned S) p1.toNatClampNeg) + u4)))))
theorem inX5_use_X5 : ∀ w ∈ wsX50, w ∈ wsX5_use := by decide +kernel
theorem mmX5_use_0 : Cond.fieldLink RX5 27 "SumOfTwoThatStand$Street" "uses" "[I" ∈ wsX5_use := by decide +kernel
theorem mmX5_use_1 : Cond.fieldLink RX5 30 "SumOfTwoThatStand$Street" "earned" "[I" ∈ wsX5_use := by decide +kernel
theorem hdX5_use : yX5_use.cls ≠ "java/lang/invoke/MethodHandle" ∧ yX5_use.cls ≠ "java/lang/invoke/VarHandle" ∧ (parseMethodDescriptor yX5_use.desc).map (fun d => d.parameters.length) = some 1 := by decide +kernel
set_option maxHeartbeats 4000000 in
set_option maxRecDepth 100000 in
theorem kX5_use (l : Launch) (K : zK) (a0 a1 a2 a3 a4 a5 a6 a7 : Nat) (S : zSt) (p1 : Int32) (R : zSt) (hf : fX5_use S p1 = some R) : zC l yX5_use wsX5_use ({ frames := 2, cells := 0, slots := 0, locals := 42 } : Room) K [.ref a0, .int p1] (cSt K a0 a1 a2 a3 a4 a5 a6 a7 S) none (cSt K a0 a1 a2 a3 a4 a5 a6 a7 R) := by
  refine zC_v (cc := cX5_use) (maxL := 2) (by decide +kernel) rfl (Nat.le_of_ble_eq_true rfl) rfl rfl ?_
  intro p e s m below meth c Q A X hret ls hl hh
  have X : zX p m c cX5_use 2 s ([.ref a0, .int p1] : List Value).toArray wsX5_use RX5 K A := X
  have hx := X.1.1
  have hb := X.1.2.1
  have hr2 : ∀ (pc : Nat) (ls : Array Slot) (H : Heap) (locs : List Loc) (S : zSt), some S = some R → decode cX5_use pc = .ok (.return_, 1) → zW K A s H locs (cSt K a0 a1 a2 a3 a4 a5 a6 a7 S) → W p l e ({ frames := 2, cells := 0, slots := 0, locals := 42 } : Room) s m ([.ref a0, .int p1] : List Value).toArray below meth c H locs 0 0 Q (F0 m pc ls []) := by
    intro pc ls H locs S h hd hh
    cases h; exact hret pc ls H locs hd hh
  have hl : lv_has ls 2 [(0, .ref a0), (1, .int p1)] := hl
  unfold fX5_use at hf
  refine (fun (hmain : ∀ (H : Heap) (locs : List Loc), zW K A s H locs (cSt K a0 a1 a2 a3 a4 a5 a6 a7 S) → W p l e ({ frames := 2, cells := 0, slots := 0, locals := 42 } : Room) s m ([.ref a0, .int p1] : List Value).toArray below meth c H locs 0 0 Q (F0 m 0 ls [])) => hmain s.heap [] hh) (fun H locs hh => ?_)
  refine lv_aload_n hx hb dX5_use_0 rfl (lv_at hl 0 rfl) ?_
  refine lv_iload_n hx hb dX5_use_1 rfl (lv_at hl 1 rfl) ?_
  refine zcallV (ci := 5) (q0 := 0) (As := [.int p1]) (rest := []) (wr := []) (ws' := cSt K a0 a1 a2 a3 a4 a5 a6 a7 S) (ov := some (.int (fX5_has S p1))) X hh hl (kX5_has l K a0 a1 a2 a3 a4 a5 a6 a7 S p1 (fX5_has S p1) rfl) (fun ht => cwV 1 ht gX5_use_X5_has rfl rfl rfl ⟨rfl, hdX5_has⟩ ⟨Nat.le_of_ble_eq_true rfl, Nat.le_of_ble_eq_true rfl⟩) [0, 1, 2, 3, 4, 5, 6, 7] [] [0, 1, 2, 3, 4, 5, 6, 7] rfl rfl rfl rfl (by decide) rfl rfl rfl rfl rfl rfl (Nat.le_of_ble_eq_true rfl) dX5_use_2 ⟨Nat.zero_le _, Nat.zero_le _⟩ (fun H locs hh => ?_)
  refine lv_if_eq (tgt := 32) hx hb dX5_use_5 (by decide) (fun c2 => ?_) (fun c2 => ?_)
  · replace hf := (if_pos c2).symm.trans hf
    exact hr2 32 ls H locs S hf dX5_use_32 hh
  · replace hf := (if_neg c2).symm.trans hf
    refine lv_aload_n hx hb dX5_use_8 rfl (lv_at hl 0 rfl) ?_
    refine zget (v := .ref a6) (ref := "SumOfTwoThatStand$Street") (C := RX5) (T := TX5) (N := 11) (index := 27) X hh inX5_use_X5 0 rfl rfl 5 (by decide) mmX5_use_0 rfl rfl dX5_use_9 ?_
    refine lv_iload_n hx hb dX5_use_12 rfl (lv_at hl 1 rfl) ?_
    refine lv_dup2_11 hx hb dX5_use_13 rfl rfl ?_
    obtain ⟨g3, hf⟩ := ob_ix hf
    refine ziald (f := (st_uses S)) X hh 6 rfl g3 dX5_use_14 ?_
    refine lv_iconst (v := (1 : Int32)) hx hb dX5_use_15 (by decide) ?_
    refine lv_iadd hx hb dX5_use_16 ?_
    refine ziast (f := (st_uses S)) X hh 6 rfl g3 dX5_use_17 (fun H locs hh => ?_)
    have hh : zW K A s H locs (cSt K a0 a1 a2 a3 a4 a5 a6 a7 (st_set_uses S (upd (st_uses S) p1.toNatClampNeg (((st_uses S) p1.toNatClampNeg) + (1 : Int32))))) := hh
    refine lv_aload_n hx hb dX5_use_18 rfl (lv_at hl 0 rfl) ?_
    refine zget (v := .ref a7) (ref := "SumOfTwoThatStand$Street") (C := RX5) (T := TX5) (N := 11) (index := 30) X hh inX5_use_X5 0 rfl rfl 6 (by decide) mmX5_use_1 rfl rfl dX5_use_19 ?_
    refine lv_iload_n hx hb dX5_use_22 rfl (lv_at hl 1 rfl) ?_
    refine lv_dup2_11 hx hb dX5_use_23 rfl rfl ?_
    refine ziald (f := (st_earned S)) X hh 7 rfl g3 dX5_use_24 ?_
    refine lv_aload_n hx hb dX5_use_25 rfl (lv_at hl 0 rfl) ?_
    refine lv_iload_n hx hb dX5_use_26 rfl (lv_at hl 1 rfl) ?_
    obtain ⟨u4, hu4, hf⟩ := ob_bind hf
    refine zcallV (ci := 5) (q0 := 0) (As := [.int p1]) (rest := [.int ((st_earned S) p1.toNatClampNeg), .int p1, .ref a7]) (wr := []) (ws' := cSt K a0 a1 a2 a3 a4 a5 a6 a7 (st_set_uses S (upd (st_uses S) p1.toNatClampNeg (((st_uses S) p1.toNatClampNeg) + (1 : Int32))))) (ov := some (.int u4)) X hh hl (kX5_fee l K a0 a1 a2 a3 a4 a5 a6 a7 (st_set_uses S (upd (st_uses S) p1.toNatClampNeg (((st_uses S) p1.toNatClampNeg) + (1 : Int32)))) p1 u4 hu4) (fun ht => cwV 1 ht gX5_use_X5_fee rfl rfl rfl ⟨rfl, hdX5_fee⟩ ⟨Nat.le_of_ble_eq_true rfl, Nat.le_of_ble_eq_true rfl⟩) [0, 1, 2, 3, 4, 5, 6, 7] [] [0, 1, 2, 3, 4, 5, 6, 7] rfl rfl rfl rfl (by decide) rfl rfl rfl rfl rfl rfl (Nat.le_of_ble_eq_true rfl) dX5_use_27 ⟨Nat.zero_le _, Nat.zero_le _⟩ (fun H locs hh => ?_)
    refine lv_iadd hx hb dX5_use_30 ?_
    refine ziast (f := (st_earned S)) X hh 7 rfl g3 dX5_use_31 (fun H locs hh => ?_)
    have hh : zW K A s H locs (cSt K a0 a1 a2 a3 a4 a5 a6 a7 (st_set_earned (st_set_uses S (upd (st_uses S) p1.toNatClampNeg (((st_uses S) p1.toNatClampNeg) + (1 : Int32)))) (upd (st_earned S) p1.toNatClampNeg (((st_earned S) p1.toNatClampNeg) + u4)))) := hh
    exact hr2 32 ls H locs (st_set_earned (st_set_uses S (upd (st_uses S) p1.toNatClampNeg (((st_uses S) p1.toNatClampNeg) + (1 : Int32)))) (upd (st_earned S) p1.toNatClampNeg (((st_earned S) p1.toNatClampNeg) + u4))) hf dX5_use_32 hh
def fX5_loseHut (S : zSt) (p1 : Int32) : Option (zSt) :=
  if (fX5_has S p1) = (0 : Int32) then
  (some S)
  else
  (ix 12 p1 (if ((st_kinds S) p1.toNatClampNeg) = (1 : Int32) then
  (some (st_set_standing S ((st_standing S) &&& (((1 : Int32) <<< (p1 &&& 31)) ^^^ (-1 : Int32)))))
  else
  (some S)))
theorem inX5_loseHut_X5 : ∀ w ∈ wsX50, w ∈ wsX5_loseHut := by decide +kernel
theorem mmX5_loseHut_0 : Cond.fieldLink RX5 9 "SumOfTwoThatStand$Street" "kinds" "[I" ∈ wsX5_loseHut := by decide +kernel
theorem mmX5_loseHut_1 : Cond.fieldLink RX5 40 "SumOfTwoThatStand$Street" "standing" "I" ∈ wsX5_loseHut := by decide +kernel
theorem hdX5_loseHut : yX5_loseHut.cls ≠ "java/lang/invoke/MethodHandle" ∧ yX5_loseHut.cls ≠ "java/lang/invoke/VarHandle" ∧ (parseMethodDescriptor yX5_loseHut.desc).map (fun d => d.parameters.length) = some 1 := by decide +kernel
set_option maxHeartbeats 4000000 in
set_option maxRecDepth 100000 in
theorem kX5_loseHut (l : Launch) (K : zK) (a0 a1 a2 a3 a4 a5 a6 a7 : Nat) (S : zSt) (p1 : Int32) (R : zSt) (hf : fX5_loseHut S p1 = some R) : zC l yX5_loseHut wsX5_loseHut ({ frames := 1, cells := 0, slots := 0, locals := 21 } : Room) K [.ref a0, .int p1] (cSt K a0 a1 a2 a3 a4 a5 a6 a7 S) none (cSt K a0 a1 a2 a3 a4 a5 a6 a7 R) := by
  refine zC_v (cc := cX5_loseHut) (maxL := 2) (by decide +kernel) rfl (Nat.le_of_ble_eq_true rfl) rfl rfl ?_
  intro p e s m below meth c Q A X hret ls hl hh
  have X : zX p m c cX5_loseHut 2 s ([.ref a0, .int p1] : List Value).toArray wsX5_loseHut RX5 K A := X
  have hx := X.1.1
  have hb := X.1.2.1
  have hr2 : ∀ (pc : Nat) (ls : Array Slot) (H : Heap) (locs : List Loc) (S : zSt), some S = some R → decode cX5_loseHut pc = .ok (.return_, 1) → zW K A s H locs (cSt K a0 a1 a2 a3 a4 a5 a6 a7 S) → W p l e ({ frames := 1, cells := 0, slots := 0, locals := 21 } : Room) s m ([.ref a0, .int p1] : List Value).toArray below meth c H locs 0 0 Q (F0 m pc ls []) := by
    intro pc ls H locs S h hd hh
    cases h; exact hret pc ls H locs hd hh
  have hl : lv_has ls 2 [(0, .ref a0), (1, .int p1)] := hl
  unfold fX5_loseHut at hf
  refine (fun (hmain : ∀ (H : Heap) (locs : List Loc), zW K A s H locs (cSt K a0 a1 a2 a3 a4 a5 a6 a7 S) → W p l e ({ frames := 1, cells := 0, slots := 0, locals := 21 } : Room) s m ([.ref a0, .int p1] : List Value).toArray below meth c H locs 0 0 Q (F0 m 0 ls [])) => hmain s.heap [] hh) (fun H locs hh => ?_)
  refine lv_aload_n hx hb dX5_loseHut_0 rfl (lv_at hl 0 rfl) ?_
  refine lv_iload_n hx hb dX5_loseHut_1 rfl (lv_at hl 1 rfl) ?_
  refine zcallV (ci := 5) (q0 := 0) (As := [.int p1]) (rest := []) (wr := []) (ws' := cSt K a0 a1 a2 a3 a4 a5 a6 a7 S) (ov := some (.int (fX5_has S p1))) X hh hl (kX5_has l K a0 a1 a2 a3 a4 a5 a6 a7 S p1 (fX5_has S p1) rfl) (fun ht => cwV 1 ht gX5_loseHut_X5_has rfl rfl rfl ⟨rfl, hdX5_has⟩ ⟨Nat.le_of_ble_eq_true rfl, Nat.le_of_ble_eq_true rfl⟩) [0, 1, 2, 3, 4, 5, 6, 7] [] [0, 1, 2, 3, 4, 5, 6, 7] rfl rfl rfl rfl (by decide) rfl rfl rfl rfl rfl rfl (Nat.le_of_ble_eq_true rfl) dX5_loseHut_2 ⟨Nat.zero_le _, Nat.zero_le _⟩ (fun H locs hh => ?_)
  refine lv_if_eq (tgt := 32) hx hb dX5_loseHut_5 (by decide) (fun c2 => ?_) (fun c2 => ?_)
  · replace hf := (if_pos c2).symm.trans hf
    exact hr2 32 ls H locs S hf dX5_loseHut_32 hh
  · replace hf := (if_neg c2).symm.trans hf
    refine lv_aload_n hx hb dX5_loseHut_8 rfl (lv_at hl 0 rfl) ?_
    refine zget (v := .ref a1) (ref := "SumOfTwoThatStand$Street") (C := RX5) (T := TX5) (N := 11) (index := 9) X hh inX5_loseHut_X5 0 rfl rfl 0 (by decide) mmX5_loseHut_0 rfl rfl dX5_loseHut_9 ?_
    refine lv_iload_n hx hb dX5_loseHut_12 rfl (lv_at hl 1 rfl) ?_
    obtain ⟨g3, hf⟩ := ob_ix hf
    refine ziald (f := (st_kinds S)) X hh 1 rfl g3 dX5_loseHut_13 ?_
    refine lv_iconst (v := (1 : Int32)) hx hb dX5_loseHut_14 (by decide) ?_
    refine lv_icmp_ne (tgt := 32) hx hb dX5_loseHut_15 (by decide) (fun c4 => ?_) (fun c4 => ?_)
    · replace hf := (if_neg c4).symm.trans hf
      exact hr2 32 ls H locs S hf dX5_loseHut_32 hh
    · replace hf := (if_pos c4).symm.trans hf
      refine lv_aload_n hx hb dX5_loseHut_18 rfl (lv_at hl 0 rfl) ?_
      refine lv_dup hx hb dX5_loseHut_19 rfl ?_
      refine zget (v := .int (st_standing S)) (ref := "SumOfTwoThatStand$Street") (C := RX5) (T := TX5) (N := 11) (index := 40) X hh inX5_loseHut_X5 0 rfl rfl 8 (by decide) mmX5_loseHut_1 rfl rfl dX5_loseHut_20 ?_
      refine lv_iconst (v := (1 : Int32)) hx hb dX5_loseHut_23 (by decide) ?_
      refine lv_iload_n hx hb dX5_loseHut_24 rfl (lv_at hl 1 rfl) ?_
      refine lv_ishl hx hb dX5_loseHut_25 ?_
      refine lv_iconst (v := (-1 : Int32)) hx hb dX5_loseHut_26 (by decide) ?_
      refine lv_ixor hx hb dX5_loseHut_27 ?_
      refine lv_iand hx hb dX5_loseHut_28 ?_
      refine zput (v := .int ((st_standing S) &&& (((1 : Int32) <<< (p1 &&& 31)) ^^^ (-1 : Int32)))) (ty := .int) (ref := "SumOfTwoThatStand$Street") (C := RX5) (T := TX5) (N := 11) (index := 40) X hh inX5_loseHut_X5 tyX5 tyX5_ok nmX5 0 rfl rfl 8 (by decide) mmX5_loseHut_1 rfl rfl (by decide +kernel) rfl rfl (Nat.le_of_ble_eq_true rfl) dX5_loseHut_29 (fun H locs hh => ?_)
      have hh : zW K A s H locs (cSt K a0 a1 a2 a3 a4 a5 a6 a7 (st_set_standing S ((st_standing S) &&& (((1 : Int32) <<< (p1 &&& 31)) ^^^ (-1 : Int32))))) := hh
      exact hr2 32 ls H locs (st_set_standing S ((st_standing S) &&& (((1 : Int32) <<< (p1 &&& 31)) ^^^ (-1 : Int32)))) hf dX5_loseHut_32 hh
def fX5_build (S : zSt) (p1 : Int32) (p2 : Int32) (p3 : Int32) (p4 : Int32) : Option (Int32 × zSt) :=
  if (fX5_hasRoom S) = (0 : Int32) then
  (some ((0 : Int32), S))
  else
  (if (fX5_isKind p3) = (0 : Int32) then
  (some ((0 : Int32), S))
  else
  ((fX5_mayBe S p1 p2).bind fun u5 =>
  if u5 = (0 : Int32) then
  (some ((0 : Int32), S))
  else
  (ix 12 p1 (ix 12 p2 ((fX5_place S (((st_numbers S) p1.toNatClampNeg) + ((st_numbers S) p2.toNatClampNeg)) p1 p2 p3 p4).bind fun u9 =>
  (fX5_use u9 p1).bind fun u10 =>
  (fX5_use u10 p2).bind fun u11 =>
  (fX5_loseHut u11 p1).bind fun u12 =>
  (fX5_loseHut u12 p2).bind fun u13 =>
  some ((1 : Int32), u13))))))
theorem inX5_build_X5 : ∀ w ∈ wsX50, w ∈ wsX5_build := by decide +kernel
theorem mmX5_build_0 : Cond.fieldLink RX5 18 "SumOfTwoThatStand$Street" "numbers" "[I" ∈ wsX5_build := by decide +kernel
theorem hdX5_build : yX5_build.cls ≠ "java/lang/invoke/MethodHandle" ∧ yX5_build.cls ≠ "java/lang/invoke/VarHandle" ∧ (parseMethodDescriptor yX5_build.desc).map (fun d => d.parameters.length) = some 4 := by decide +kernel
set_option maxHeartbeats 4000000 in
set_option maxRecDepth 100000 in
theorem kX5_build (l : Launch) (K : zK) (a0 a1 a2 a3 a4 a5 a6 a7 : Nat) (S : zSt) (p1 : Int32) (p2 : Int32) (p3 : Int32) (p4 : Int32) (R : Int32 × zSt) (hf : fX5_build S p1 p2 p3 p4 = some R) : zC l yX5_build wsX5_build ({ frames := 3, cells := 0, slots := 0, locals := 67 } : Room) K [.ref a0, .int p1, .int p2, .int p3, .int p4] (cSt K a0 a1 a2 a3 a4 a5 a6 a7 S) (some (.int R.1)) (cSt K a0 a1 a2 a3 a4 a5 a6 a7 R.2) := by
  refine zC_z .boolean R.1 (cc := cX5_build) (maxL := 5) (by decide +kernel) rfl (Nat.le_of_ble_eq_true rfl) rfl rfl ?_
  intro p e s m below meth c Q A X hret ls hl hh
  have X : zX p m c cX5_build 5 s ([.ref a0, .int p1, .int p2, .int p3, .int p4] : List Value).toArray wsX5_build RX5 K A := X
  have hx := X.1.1
  have hb := X.1.2.1
  have hr2 : ∀ (pc : Nat) (ls : Array Slot) (H : Heap) (locs : List Loc) (v : Int32) (S : zSt), some (v, S) = some R → narrow .boolean (.int v) = .int v → decode cX5_build pc = .ok (.ireturn, 1) → zW K A s H locs (cSt K a0 a1 a2 a3 a4 a5 a6 a7 S) → W p l e ({ frames := 3, cells := 0, slots := 0, locals := 67 } : Room) s m ([.ref a0, .int p1, .int p2, .int p3, .int p4] : List Value).toArray below meth c H locs 0 0 Q (F0 m pc ls [.int v]) := by
    intro pc ls H locs v S h hn hd hh
    cases h; exact hret pc ls H locs _ rfl hn hd hh
  have hl : lv_has ls 5 [(0, .ref a0), (1, .int p1), (2, .int p2), (3, .int p3), (4, .int p4)] := hl
  unfold fX5_build at hf
  refine (fun (hmain : ∀ (H : Heap) (locs : List Loc), zW K A s H locs (cSt K a0 a1 a2 a3 a4 a5 a6 a7 S) → W p l e ({ frames := 3, cells := 0, slots := 0, locals := 67 } : Room) s m ([.ref a0, .int p1, .int p2, .int p3, .int p4] : List Value).toArray below meth c H locs 0 0 Q (F0 m 0 ls [])) => hmain s.heap [] hh) (fun H locs hh => ?_)
  refine lv_aload_n hx hb dX5_build_0 rfl (lv_at hl 0 rfl) ?_
  refine zcallV (ci := 5) (q0 := 0) (As := []) (rest := []) (wr := []) (ws' := cSt K a0 a1 a2 a3 a4 a5 a6 a7 S) (ov := some (.int (fX5_hasRoom S))) X hh hl (kX5_hasRoom l K a0 a1 a2 a3 a4 a5 a6 a7 S (fX5_hasRoom S) rfl) (fun ht => cwV 0 ht gX5_build_X5_hasRoom rfl rfl rfl ⟨rfl, hdX5_hasRoom⟩ ⟨Nat.le_of_ble_eq_true rfl, Nat.le_of_ble_eq_true rfl⟩) [0, 1, 2, 3, 4, 5, 6, 7] [] [0, 1, 2, 3, 4, 5, 6, 7] rfl rfl rfl rfl (by decide) rfl rfl rfl rfl rfl rfl (Nat.le_of_ble_eq_true rfl) dX5_build_1 ⟨Nat.zero_le _, Nat.zero_le _⟩ (fun H locs hh => ?_)
  refine lv_if_eq (tgt := 23) hx hb dX5_build_4 (by decide) (fun c2 => ?_) (fun c2 => ?_)
  · replace hf := (if_pos c2).symm.trans hf
    refine lv_iconst (v := (0 : Int32)) hx hb dX5_build_23 (by decide) ?_
    exact hr2 24 ls H locs (0 : Int32) S hf rfl dX5_build_24 hh
  · replace hf := (if_neg c2).symm.trans hf
    refine lv_iload_n hx hb dX5_build_7 rfl (lv_at hl 3 rfl) ?_
    refine zcallS (As := [.int p3]) (rest := []) (wr := cSt K a0 a1 a2 a3 a4 a5 a6 a7 S) (ws' := cSt K a0 a1 a2 a3 a4 a5 a6 a7 S) (ov := some (.int (fX5_isKind p3))) X hh hl (kX5_isKind l K p3 (fX5_isKind p3) rfl) (fun ht => va_cwS 1 ht gX5_build_X5_isKind rfl rfl rfl hdX5_isKind ⟨Nat.le_of_ble_eq_true rfl, Nat.le_of_ble_eq_true rfl⟩) [] [0, 1, 2, 3, 4, 5, 6, 7] [0, 1, 2, 3, 4, 5, 6, 7] rfl rfl rfl rfl (by decide) rfl rfl rfl rfl (Nat.le_of_ble_eq_true rfl) dX5_build_8 ⟨Nat.zero_le _, Nat.zero_le _⟩ (fun H locs hh => ?_)
    refine lv_if_eq (tgt := 23) hx hb dX5_build_11 (by decide) (fun c4 => ?_) (fun c4 => ?_)
    · replace hf := (if_pos c4).symm.trans hf
      refine lv_iconst (v := (0 : Int32)) hx hb dX5_build_23 (by decide) ?_
      exact hr2 24 ls H locs (0 : Int32) S hf rfl dX5_build_24 hh
    · replace hf := (if_neg c4).symm.trans hf
      refine lv_aload_n hx hb dX5_build_14 rfl (lv_at hl 0 rfl) ?_
      refine lv_iload_n hx hb dX5_build_15 rfl (lv_at hl 1 rfl) ?_
      refine lv_iload_n hx hb dX5_build_16 rfl (lv_at hl 2 rfl) ?_
      obtain ⟨u5, hu5, hf⟩ := ob_bind hf
      refine zcallV (ci := 5) (q0 := 0) (As := [.int p1, .int p2]) (rest := []) (wr := []) (ws' := cSt K a0 a1 a2 a3 a4 a5 a6 a7 S) (ov := some (.int u5)) X hh hl (kX5_mayBe l K a0 a1 a2 a3 a4 a5 a6 a7 S p1 p2 u5 hu5) (fun ht => cwV 2 ht gX5_build_X5_mayBe rfl rfl rfl ⟨rfl, hdX5_mayBe⟩ ⟨Nat.le_of_ble_eq_true rfl, Nat.le_of_ble_eq_true rfl⟩) [0, 1, 2, 3, 4, 5, 6, 7] [] [0, 1, 2, 3, 4, 5, 6, 7] rfl rfl rfl rfl (by decide) rfl rfl rfl rfl rfl rfl (Nat.le_of_ble_eq_true rfl) dX5_build_17 ⟨Nat.zero_le _, Nat.zero_le _⟩ (fun H locs hh => ?_)
      refine lv_if_ne (tgt := 25) hx hb dX5_build_20 (by decide) (fun c6 => ?_) (fun c6 => ?_)
      · replace hf := (if_neg c6).symm.trans hf
        refine lv_aload_n hx hb dX5_build_25 rfl (lv_at hl 0 rfl) ?_
        refine lv_aload_n hx hb dX5_build_26 rfl (lv_at hl 0 rfl) ?_
        refine zget (v := .ref a3) (ref := "SumOfTwoThatStand$Street") (C := RX5) (T := TX5) (N := 11) (index := 18) X hh inX5_build_X5 0 rfl rfl 2 (by decide) mmX5_build_0 rfl rfl dX5_build_27 ?_
        refine lv_iload_n hx hb dX5_build_30 rfl (lv_at hl 1 rfl) ?_
        obtain ⟨g7, hf⟩ := ob_ix hf
        refine ziald (f := (st_numbers S)) X hh 3 rfl g7 dX5_build_31 ?_
        refine lv_aload_n hx hb dX5_build_32 rfl (lv_at hl 0 rfl) ?_
        refine zget (v := .ref a3) (ref := "SumOfTwoThatStand$Street") (C := RX5) (T := TX5) (N := 11) (index := 18) X hh inX5_build_X5 0 rfl rfl 2 (by decide) mmX5_build_0 rfl rfl dX5_build_33 ?_
        refine lv_iload_n hx hb dX5_build_36 rfl (lv_at hl 2 rfl) ?_
        obtain ⟨g8, hf⟩ := ob_ix hf
        refine ziald (f := (st_numbers S)) X hh 3 rfl g8 dX5_build_37 ?_
        refine lv_iadd hx hb dX5_build_38 ?_
        refine lv_iload_n hx hb dX5_build_39 rfl (lv_at hl 1 rfl) ?_
        refine lv_iload_n hx hb dX5_build_40 rfl (lv_at hl 2 rfl) ?_
        refine lv_iload_n hx hb dX5_build_41 rfl (lv_at hl 3 rfl) ?_
        refine lv_iload hx hb dX5_build_42 (lv_at hl 4 rfl) ?_
        obtain ⟨u9, hu9, hf⟩ := ob_bind hf
        refine zcallV (ci := 5) (q0 := 0) (As := [.int (((st_numbers S) p1.toNatClampNeg) + ((st_numbers S) p2.toNatClampNeg)), .int p1, .int p2, .int p3, .int p4]) (rest := []) (wr := []) (ws' := cSt K a0 a1 a2 a3 a4 a5 a6 a7 u9) (ov := none) X hh hl (kX5_place l K a0 a1 a2 a3 a4 a5 a6 a7 S (((st_numbers S) p1.toNatClampNeg) + ((st_numbers S) p2.toNatClampNeg)) p1 p2 p3 p4 u9 hu9) (fun ht => cwV 5 ht gX5_build_X5_place rfl rfl rfl ⟨rfl, hdX5_place⟩ ⟨Nat.le_of_ble_eq_true rfl, Nat.le_of_ble_eq_true rfl⟩) [0, 1, 2, 3, 4, 5, 6, 7] [] [0, 1, 2, 3, 4, 5, 6, 7] rfl rfl rfl rfl (by decide) rfl rfl rfl rfl rfl rfl (Nat.le_of_ble_eq_true rfl) dX5_build_44 ⟨Nat.zero_le _, Nat.zero_le _⟩ (fun H locs hh => ?_)
        refine lv_aload_n hx hb dX5_build_47 rfl (lv_at hl 0 rfl) ?_
        refine lv_iload_n hx hb dX5_build_48 rfl (lv_at hl 1 rfl) ?_
        obtain ⟨u10, hu10, hf⟩ := ob_bind hf
        refine zcallV (ci := 5) (q0 := 0) (As := [.int p1]) (rest := []) (wr := []) (ws' := cSt K a0 a1 a2 a3 a4 a5 a6 a7 u10) (ov := none) X hh hl (kX5_use l K a0 a1 a2 a3 a4 a5 a6 a7 u9 p1 u10 hu10) (fun ht => cwV 1 ht gX5_build_X5_use rfl rfl rfl ⟨rfl, hdX5_use⟩ ⟨Nat.le_of_ble_eq_true rfl, Nat.le_of_ble_eq_true rfl⟩) [0, 1, 2, 3, 4, 5, 6, 7] [] [0, 1, 2, 3, 4, 5, 6, 7] rfl rfl rfl rfl (by decide) rfl rfl rfl rfl rfl rfl (Nat.le_of_ble_eq_true rfl) dX5_build_49 ⟨Nat.zero_le _, Nat.zero_le _⟩ (fun H locs hh => ?_)
        refine lv_aload_n hx hb dX5_build_52 rfl (lv_at hl 0 rfl) ?_
        refine lv_iload_n hx hb dX5_build_53 rfl (lv_at hl 2 rfl) ?_
        obtain ⟨u11, hu11, hf⟩ := ob_bind hf
        refine zcallV (ci := 5) (q0 := 0) (As := [.int p2]) (rest := []) (wr := []) (ws' := cSt K a0 a1 a2 a3 a4 a5 a6 a7 u11) (ov := none) X hh hl (kX5_use l K a0 a1 a2 a3 a4 a5 a6 a7 u10 p2 u11 hu11) (fun ht => cwV 1 ht gX5_build_X5_use rfl rfl rfl ⟨rfl, hdX5_use⟩ ⟨Nat.le_of_ble_eq_true rfl, Nat.le_of_ble_eq_true rfl⟩) [0, 1, 2, 3, 4, 5, 6, 7] [] [0, 1, 2, 3, 4, 5, 6, 7] rfl rfl rfl rfl (by decide) rfl rfl rfl rfl rfl rfl (Nat.le_of_ble_eq_true rfl) dX5_build_54 ⟨Nat.zero_le _, Nat.zero_le _⟩ (fun H locs hh => ?_)
        refine lv_aload_n hx hb dX5_build_57 rfl (lv_at hl 0 rfl) ?_
        refine lv_iload_n hx hb dX5_build_58 rfl (lv_at hl 1 rfl) ?_
        obtain ⟨u12, hu12, hf⟩ := ob_bind hf
        refine zcallV (ci := 5) (q0 := 0) (As := [.int p1]) (rest := []) (wr := []) (ws' := cSt K a0 a1 a2 a3 a4 a5 a6 a7 u12) (ov := none) X hh hl (kX5_loseHut l K a0 a1 a2 a3 a4 a5 a6 a7 u11 p1 u12 hu12) (fun ht => cwV 1 ht gX5_build_X5_loseHut rfl rfl rfl ⟨rfl, hdX5_loseHut⟩ ⟨Nat.le_of_ble_eq_true rfl, Nat.le_of_ble_eq_true rfl⟩) [0, 1, 2, 3, 4, 5, 6, 7] [] [0, 1, 2, 3, 4, 5, 6, 7] rfl rfl rfl rfl (by decide) rfl rfl rfl rfl rfl rfl (Nat.le_of_ble_eq_true rfl) dX5_build_59 ⟨Nat.zero_le _, Nat.zero_le _⟩ (fun H locs hh => ?_)
        refine lv_aload_n hx hb dX5_build_62 rfl (lv_at hl 0 rfl) ?_
        refine lv_iload_n hx hb dX5_build_63 rfl (lv_at hl 2 rfl) ?_
        obtain ⟨u13, hu13, hf⟩ := ob_bind hf
        refine zcallV (ci := 5) (q0 := 0) (As := [.int p2]) (rest := []) (wr := []) (ws' := cSt K a0 a1 a2 a3 a4 a5 a6 a7 u13) (ov := none) X hh hl (kX5_loseHut l K a0 a1 a2 a3 a4 a5 a6 a7 u12 p2 u13 hu13) (fun ht => cwV 1 ht gX5_build_X5_loseHut rfl rfl rfl ⟨rfl, hdX5_loseHut⟩ ⟨Nat.le_of_ble_eq_true rfl, Nat.le_of_ble_eq_true rfl⟩) [0, 1, 2, 3, 4, 5, 6, 7] [] [0, 1, 2, 3, 4, 5, 6, 7] rfl rfl rfl rfl (by decide) rfl rfl rfl rfl rfl rfl (Nat.le_of_ble_eq_true rfl) dX5_build_64 ⟨Nat.zero_le _, Nat.zero_le _⟩ (fun H locs hh => ?_)
        refine lv_iconst (v := (1 : Int32)) hx hb dX5_build_67 (by decide) ?_
        exact hr2 68 ls H locs (1 : Int32) u13 hf rfl dX5_build_68 hh
      · replace hf := (if_pos c6).symm.trans hf
        refine lv_iconst (v := (0 : Int32)) hx hb dX5_build_23 (by decide) ?_
        exact hr2 24 ls H locs (0 : Int32) S hf rfl dX5_build_24 hh
def fX5_beginAnew (S : zSt) : Option (zSt) :=
  (fX5_place (st_set_standing (st_set_came S (0 : Int32)) (0 : Int32)) (1 : Int32) (-4 : Int32) (-4 : Int32) (0 : Int32) (0 : Int32)).bind fun u1 =>
  some u1
theorem inX5_beginAnew_X5 : ∀ w ∈ wsX50, w ∈ wsX5_beginAnew := by decide +kernel
theorem mmX5_beginAnew_0 : Cond.fieldLink RX5 36 "SumOfTwoThatStand$Street" "came" "I" ∈ wsX5_beginAnew := by decide +kernel
theorem mmX5_beginAnew_1 : Cond.fieldLink RX5 40 "SumOfTwoThatStand$Street" "standing" "I" ∈ wsX5_beginAnew := by decide +kernel
theorem hdX5_beginAnew : yX5_beginAnew.cls ≠ "java/lang/invoke/MethodHandle" ∧ yX5_beginAnew.cls ≠ "java/lang/invoke/VarHandle" ∧ (parseMethodDescriptor yX5_beginAnew.desc).map (fun d => d.parameters.length) = some 0 := by decide +kernel
set_option maxHeartbeats 4000000 in
set_option maxRecDepth 100000 in
theorem kX5_beginAnew (l : Launch) (K : zK) (a0 a1 a2 a3 a4 a5 a6 a7 : Nat) (S : zSt) (R : zSt) (hf : fX5_beginAnew S = some R) : zC l yX5_beginAnew wsX5_beginAnew ({ frames := 2, cells := 0, slots := 0, locals := 45 } : Room) K [.ref a0] (cSt K a0 a1 a2 a3 a4 a5 a6 a7 S) none (cSt K a0 a1 a2 a3 a4 a5 a6 a7 R) := by
  refine zC_v (cc := cX5_beginAnew) (maxL := 1) (by decide +kernel) rfl (Nat.le_of_ble_eq_true rfl) rfl rfl ?_
  intro p e s m below meth c Q A X hret ls hl hh
  have X : zX p m c cX5_beginAnew 1 s ([.ref a0] : List Value).toArray wsX5_beginAnew RX5 K A := X
  have hx := X.1.1
  have hb := X.1.2.1
  have hr2 : ∀ (pc : Nat) (ls : Array Slot) (H : Heap) (locs : List Loc) (S : zSt), some S = some R → decode cX5_beginAnew pc = .ok (.return_, 1) → zW K A s H locs (cSt K a0 a1 a2 a3 a4 a5 a6 a7 S) → W p l e ({ frames := 2, cells := 0, slots := 0, locals := 45 } : Room) s m ([.ref a0] : List Value).toArray below meth c H locs 0 0 Q (F0 m pc ls []) := by
    intro pc ls H locs S h hd hh
    cases h; exact hret pc ls H locs hd hh
  have hl : lv_has ls 1 [(0, .ref a0)] := hl
  unfold fX5_beginAnew at hf
  refine (fun (hmain : ∀ (H : Heap) (locs : List Loc), zW K A s H locs (cSt K a0 a1 a2 a3 a4 a5 a6 a7 S) → W p l e ({ frames := 2, cells := 0, slots := 0, locals := 45 } : Room) s m ([.ref a0] : List Value).toArray below meth c H locs 0 0 Q (F0 m 0 ls [])) => hmain s.heap [] hh) (fun H locs hh => ?_)
  refine lv_aload_n hx hb dX5_beginAnew_0 rfl (lv_at hl 0 rfl) ?_
  refine lv_iconst (v := (0 : Int32)) hx hb dX5_beginAnew_1 (by decide) ?_
  refine zput (v := .int (0 : Int32)) (ty := .int) (ref := "SumOfTwoThatStand$Street") (C := RX5) (T := TX5) (N := 11) (index := 36) X hh inX5_beginAnew_X5 tyX5 tyX5_ok nmX5 0 rfl rfl 7 (by decide) mmX5_beginAnew_0 rfl rfl (by decide +kernel) rfl rfl (Nat.le_of_ble_eq_true rfl) dX5_beginAnew_2 (fun H locs hh => ?_)
  have hh : zW K A s H locs (cSt K a0 a1 a2 a3 a4 a5 a6 a7 (st_set_came S (0 : Int32))) := hh
  refine lv_aload_n hx hb dX5_beginAnew_5 rfl (lv_at hl 0 rfl) ?_
  refine lv_iconst (v := (0 : Int32)) hx hb dX5_beginAnew_6 (by decide) ?_
  refine zput (v := .int (0 : Int32)) (ty := .int) (ref := "SumOfTwoThatStand$Street") (C := RX5) (T := TX5) (N := 11) (index := 40) X hh inX5_beginAnew_X5 tyX5 tyX5_ok nmX5 0 rfl rfl 8 (by decide) mmX5_beginAnew_1 rfl rfl (by decide +kernel) rfl rfl (Nat.le_of_ble_eq_true rfl) dX5_beginAnew_7 (fun H locs hh => ?_)
  have hh : zW K A s H locs (cSt K a0 a1 a2 a3 a4 a5 a6 a7 (st_set_standing (st_set_came S (0 : Int32)) (0 : Int32))) := hh
  refine lv_aload_n hx hb dX5_beginAnew_10 rfl (lv_at hl 0 rfl) ?_
  refine lv_iconst (v := (1 : Int32)) hx hb dX5_beginAnew_11 (by decide) ?_
  refine lv_bipush (v := (-4 : Int32)) hx hb dX5_beginAnew_12 (by decide) ?_
  refine lv_bipush (v := (-4 : Int32)) hx hb dX5_beginAnew_14 (by decide) ?_
  refine lv_iconst (v := (0 : Int32)) hx hb dX5_beginAnew_16 (by decide) ?_
  refine lv_iconst (v := (0 : Int32)) hx hb dX5_beginAnew_17 (by decide) ?_
  obtain ⟨u1, hu1, hf⟩ := ob_bind hf
  refine zcallV (ci := 5) (q0 := 0) (As := [.int (1 : Int32), .int (-4 : Int32), .int (-4 : Int32), .int (0 : Int32), .int (0 : Int32)]) (rest := []) (wr := []) (ws' := cSt K a0 a1 a2 a3 a4 a5 a6 a7 u1) (ov := none) X hh hl (kX5_place l K a0 a1 a2 a3 a4 a5 a6 a7 (st_set_standing (st_set_came S (0 : Int32)) (0 : Int32)) (1 : Int32) (-4 : Int32) (-4 : Int32) (0 : Int32) (0 : Int32) u1 hu1) (fun ht => cwV 5 ht gX5_beginAnew_X5_place rfl rfl rfl ⟨rfl, hdX5_place⟩ ⟨Nat.le_of_ble_eq_true rfl, Nat.le_of_ble_eq_true rfl⟩) [0, 1, 2, 3, 4, 5, 6, 7] [] [0, 1, 2, 3, 4, 5, 6, 7] rfl rfl rfl rfl (by decide) rfl rfl rfl rfl rfl rfl (Nat.le_of_ble_eq_true rfl) dX5_beginAnew_18 ⟨Nat.zero_le _, Nat.zero_le _⟩ (fun H locs hh => ?_)
  exact hr2 21 ls H locs u1 hf dX5_beginAnew_21 hh
def fX5_fallsWith_j95 (S : zSt) (v2 : Int32) (v3 : Int32) (k23 : (Int32) → (Int32) → Option (Int32)) : Option (Int32) :=
  k23 v2 (v3 + (1 : Int32))
def fX5_fallsWith_j87 (S : zSt) (v2 : Int32) (v3 : Int32) (k23 : (Int32) → (Int32) → Option (Int32)) : Option (Int32) :=
  fX5_fallsWith_j95 S (v2 &&& (((1 : Int32) <<< (v3 &&& 31)) ^^^ (-1 : Int32))) v3 (k23)
def fX5_fallsWith_j54 (S : zSt) (v2 : Int32) (v3 : Int32) (t0 : Int32) (k23 : (Int32) → (Int32) → Option (Int32)) : Option (Int32) :=
  if t0 = (0 : Int32) then
  (fX5_fallsWith_j95 S v2 v3 (k23))
  else
  (ix 12 v3 (if (fX5_isIn v2 ((st_firsts S) v3.toNatClampNeg)) = (0 : Int32) then
  (fX5_fallsWith_j87 S v2 v3 (k23))
  else
  (if (fX5_isIn v2 ((st_seconds S) v3.toNatClampNeg)) = (0 : Int32) then
  (fX5_fallsWith_j87 S v2 v3 (k23))
  else
  (fX5_fallsWith_j95 S v2 v3 (k23)))))
def fX5_fallsWith_j49 (S : zSt) (v2 : Int32) (v3 : Int32) (k23 : (Int32) → (Int32) → Option (Int32)) : Option (Int32) :=
  fX5_fallsWith_j54 S v2 v3 (1 : Int32) (k23)
def fX5_fallsWith_l23 (S : zSt) : Nat → (Int32) → (Int32) → Option (Int32)
  | 0, _, _ => none
  | n + 1, v2, v3 =>
  if (st_came S) ≤ v3 then
  (some ((st_standing S) &&& (v2 ^^^ (-1 : Int32))))
  else
  (if (st_falls S) = (1 : Int32) then
  (fX5_fallsWith_j49 S v2 v3 (fX5_fallsWith_l23 S n))
  else
  (ix 12 v3 (if ((st_kinds S) v3.toNatClampNeg) = (5 : Int32) then
  (fX5_fallsWith_j49 S v2 v3 (fX5_fallsWith_l23 S n))
  else
  (fX5_fallsWith_j54 S v2 v3 (0 : Int32) (fX5_fallsWith_l23 S n)))))
def fX5_fallsWith (S : zSt) (p1 : Int32) : Option (Int32) :=
  if (fX5_stands S p1) = (0 : Int32) then
  (some (0 : Int32))
  else
  (fX5_fallsWith_l23 S FU ((st_standing S) &&& (((1 : Int32) <<< (p1 &&& 31)) ^^^ (-1 : Int32))) (1 : Int32))
theorem inX5_fallsWith_X5 : ∀ w ∈ wsX50, w ∈ wsX5_fallsWith := by decide +kernel
theorem mmX5_fallsWith_0 : Cond.fieldLink RX5 21 "SumOfTwoThatStand$Street" "firsts" "[I" ∈ wsX5_fallsWith := by decide +kernel
theorem mmX5_fallsWith_1 : Cond.fieldLink RX5 24 "SumOfTwoThatStand$Street" "seconds" "[I" ∈ wsX5_fallsWith := by decide +kernel
theorem mmX5_fallsWith_2 : Cond.fieldLink RX5 36 "SumOfTwoThatStand$Street" "came" "I" ∈ wsX5_fallsWith := by decide +kernel
theorem mmX5_fallsWith_3 : Cond.fieldLink RX5 40 "SumOfTwoThatStand$Street" "standing" "I" ∈ wsX5_fallsWith := by decide +kernel
theorem mmX5_fallsWith_4 : Cond.fieldLink RX5 56 "SumOfTwoThatStand$Street" "falls" "I" ∈ wsX5_fallsWith := by decide +kernel
theorem mmX5_fallsWith_5 : Cond.fieldLink RX5 9 "SumOfTwoThatStand$Street" "kinds" "[I" ∈ wsX5_fallsWith := by decide +kernel
theorem hdX5_fallsWith : yX5_fallsWith.cls ≠ "java/lang/invoke/MethodHandle" ∧ yX5_fallsWith.cls ≠ "java/lang/invoke/VarHandle" ∧ (parseMethodDescriptor yX5_fallsWith.desc).map (fun d => d.parameters.length) = some 1 := by decide +kernel
set_option maxHeartbeats 4000000 in
set_option maxRecDepth 100000 in
theorem kX5_fallsWith (l : Launch) (K : zK) (a0 a1 a2 a3 a4 a5 a6 a7 : Nat) (S : zSt) (p1 : Int32) (R : Int32) (hf : fX5_fallsWith S p1 = some R) : zC l yX5_fallsWith wsX5_fallsWith ({ frames := 2, cells := 0, slots := 0, locals := 42 } : Room) K [.ref a0, .int p1] (cSt K a0 a1 a2 a3 a4 a5 a6 a7 S) (some (.int R)) (cSt K a0 a1 a2 a3 a4 a5 a6 a7 S) := by
  refine zC_i R (cc := cX5_fallsWith) (maxL := 5) (by decide +kernel) rfl (Nat.le_of_ble_eq_true rfl) rfl rfl ?_
  intro p e s m below meth c Q A X hret ls hl hh
  have X : zX p m c cX5_fallsWith 5 s ([.ref a0, .int p1] : List Value).toArray wsX5_fallsWith RX5 K A := X
  have hx := X.1.1
  have hb := X.1.2.1
  have hr2 : ∀ (pc : Nat) (ls : Array Slot) (H : Heap) (locs : List Loc) (v : Int32), some v = some R → decode cX5_fallsWith pc = .ok (.ireturn, 1) → zW K A s H locs (cSt K a0 a1 a2 a3 a4 a5 a6 a7 S) → W p l e ({ frames := 2, cells := 0, slots := 0, locals := 42 } : Room) s m ([.ref a0, .int p1] : List Value).toArray below meth c H locs 0 0 Q (F0 m pc ls [.int v]) := by
    intro pc ls H locs v h hd hh
    cases h; exact hret pc ls H locs _ rfl hd hh
  have hl : lv_has ls 5 [(0, .ref a0), (1, .int p1)] := hl
  have hJ95 : ∀ (v2 : Int32) (v3 : Int32) (k23 : (Int32) → (Int32) → Option (Int32)), (∀ (v2 : Int32) (v3 : Int32) (H : Heap) (locs : List Loc) (ls : Array Slot), k23 v2 v3 = some R → lv_has ls 5 [(0, .ref a0), (2, .int v2), (3, .int v3)] → zW K A s H locs (cSt K a0 a1 a2 a3 a4 a5 a6 a7 S) → W p l e ({ frames := 2, cells := 0, slots := 0, locals := 42 } : Room) s m ([.ref a0, .int p1] : List Value).toArray below meth c H locs 0 0 Q (F0 m 23 ls [])) → ∀ (H : Heap) (locs : List Loc) (ls : Array Slot), fX5_fallsWith_j95 S v2 v3 k23 = some R → lv_has ls 5 [(0, .ref a0), (2, .int v2), (3, .int v3)] → zW K A s H locs (cSt K a0 a1 a2 a3 a4 a5 a6 a7 S) → W p l e ({ frames := 2, cells := 0, slots := 0, locals := 42 } : Room) s m ([.ref a0, .int p1] : List Value).toArray below meth c H locs 0 0 Q (F0 m 95 ls []) := by
    intro v2 v3 k23 hk23 H locs ls hf hl hh
    unfold fX5_fallsWith_j95 at hf
    refine lv_iinc (v := (v3 + (1 : Int32))) (lv' := [(3, .int (v3 + (1 : Int32))), (0, .ref a0), (2, .int v2)]) hx hb dX5_fallsWith_95 hl (k := 2) rfl rfl (by decide) rfl (fun ls hl => ?_)
    refine lv_goto (tgt := 23) hx hb dX5_fallsWith_98 (by decide) ?_
    exact hk23 v2 (v3 + (1 : Int32)) H locs ls hf (lv_sub hl [1, 2, 0] rfl) hh
  have hJ87 : ∀ (v2 : Int32) (v3 : Int32) (k23 : (Int32) → (Int32) → Option (Int32)), (∀ (v2 : Int32) (v3 : Int32) (H : Heap) (locs : List Loc) (ls : Array Slot), k23 v2 v3 = some R → lv_has ls 5 [(0, .ref a0), (2, .int v2), (3, .int v3)] → zW K A s H locs (cSt K a0 a1 a2 a3 a4 a5 a6 a7 S) → W p l e ({ frames := 2, cells := 0, slots := 0, locals := 42 } : Room) s m ([.ref a0, .int p1] : List Value).toArray below meth c H locs 0 0 Q (F0 m 23 ls [])) → ∀ (H : Heap) (locs : List Loc) (ls : Array Slot), fX5_fallsWith_j87 S v2 v3 k23 = some R → lv_has ls 5 [(0, .ref a0), (2, .int v2), (3, .int v3)] → zW K A s H locs (cSt K a0 a1 a2 a3 a4 a5 a6 a7 S) → W p l e ({ frames := 2, cells := 0, slots := 0, locals := 42 } : Room) s m ([.ref a0, .int p1] : List Value).toArray below meth c H locs 0 0 Q (F0 m 87 ls []) := by
    intro v2 v3 k23 hk23 H locs ls hf hl hh
    unfold fX5_fallsWith_j87 at hf
    refine lv_iload_n hx hb dX5_fallsWith_87 rfl (lv_at hl 1 rfl) ?_
    refine lv_iconst (v := (1 : Int32)) hx hb dX5_fallsWith_88 (by decide) ?_
    refine lv_iload_n hx hb dX5_fallsWith_89 rfl (lv_at hl 2 rfl) ?_
    refine lv_ishl hx hb dX5_fallsWith_90 ?_
    refine lv_iconst (v := (-1 : Int32)) hx hb dX5_fallsWith_91 (by decide) ?_
    refine lv_ixor hx hb dX5_fallsWith_92 ?_
    refine lv_iand hx hb dX5_fallsWith_93 ?_
    refine lv_istore_n (lv' := [(2, .int (v2 &&& (((1 : Int32) <<< (v3 &&& 31)) ^^^ (-1 : Int32)))), (0, .ref a0), (3, .int v3)]) hx hb dX5_fallsWith_94 rfl hl (by decide) rfl (fun ls hl => ?_)
    exact hJ95 (v2 &&& (((1 : Int32) <<< (v3 &&& 31)) ^^^ (-1 : Int32))) v3 (k23) (hk23) H locs ls hf (lv_sub hl [1, 0, 2] rfl) hh
  have hJ54 : ∀ (v2 : Int32) (v3 : Int32) (t0 : Int32) (k23 : (Int32) → (Int32) → Option (Int32)), (∀ (v2 : Int32) (v3 : Int32) (H : Heap) (locs : List Loc) (ls : Array Slot), k23 v2 v3 = some R → lv_has ls 5 [(0, .ref a0), (2, .int v2), (3, .int v3)] → zW K A s H locs (cSt K a0 a1 a2 a3 a4 a5 a6 a7 S) → W p l e ({ frames := 2, cells := 0, slots := 0, locals := 42 } : Room) s m ([.ref a0, .int p1] : List Value).toArray below meth c H locs 0 0 Q (F0 m 23 ls [])) → ∀ (H : Heap) (locs : List Loc) (ls : Array Slot), fX5_fallsWith_j54 S v2 v3 t0 k23 = some R → lv_has ls 5 [(0, .ref a0), (2, .int v2), (3, .int v3)] → zW K A s H locs (cSt K a0 a1 a2 a3 a4 a5 a6 a7 S) → W p l e ({ frames := 2, cells := 0, slots := 0, locals := 42 } : Room) s m ([.ref a0, .int p1] : List Value).toArray below meth c H locs 0 0 Q (F0 m 54 ls [.int t0]) := by
    intro v2 v3 t0 k23 hk23 H locs ls hf hl hh
    unfold fX5_fallsWith_j54 at hf
    refine lv_istore (lv' := [(4, .int t0), (0, .ref a0), (2, .int v2), (3, .int v3)]) hx hb dX5_fallsWith_54 hl (by decide) rfl (fun ls hl => ?_)
    refine lv_iload hx hb dX5_fallsWith_56 (lv_at hl 0 rfl) ?_
    refine lv_if_eq (tgt := 95) hx hb dX5_fallsWith_58 (by decide) (fun c1 => ?_) (fun c1 => ?_)
    · replace hf := (if_pos c1).symm.trans hf
      exact hJ95 v2 v3 (k23) (hk23) H locs ls hf (lv_sub hl [1, 2, 3] rfl) hh
    · replace hf := (if_neg c1).symm.trans hf
      refine lv_iload_n hx hb dX5_fallsWith_61 rfl (lv_at hl 2 rfl) ?_
      refine lv_aload_n hx hb dX5_fallsWith_62 rfl (lv_at hl 1 rfl) ?_
      refine zget (v := .ref a4) (ref := "SumOfTwoThatStand$Street") (C := RX5) (T := TX5) (N := 11) (index := 21) X hh inX5_fallsWith_X5 0 rfl rfl 3 (by decide) mmX5_fallsWith_0 rfl rfl dX5_fallsWith_63 ?_
      refine lv_iload_n hx hb dX5_fallsWith_66 rfl (lv_at hl 3 rfl) ?_
      obtain ⟨g2, hf⟩ := ob_ix hf
      refine ziald (f := (st_firsts S)) X hh 4 rfl g2 dX5_fallsWith_67 ?_
      refine zcallS (As := [.int v2, .int ((st_firsts S) v3.toNatClampNeg)]) (rest := []) (wr := cSt K a0 a1 a2 a3 a4 a5 a6 a7 S) (ws' := cSt K a0 a1 a2 a3 a4 a5 a6 a7 S) (ov := some (.int (fX5_isIn v2 ((st_firsts S) v3.toNatClampNeg)))) X hh hl (kX5_isIn l K v2 ((st_firsts S) v3.toNatClampNeg) (fX5_isIn v2 ((st_firsts S) v3.toNatClampNeg)) rfl) (fun ht => va_cwS 2 ht gX5_fallsWith_X5_isIn rfl rfl rfl hdX5_isIn ⟨Nat.le_of_ble_eq_true rfl, Nat.le_of_ble_eq_true rfl⟩) [] [0, 1, 2, 3, 4, 5, 6, 7] [0, 1, 2, 3, 4, 5, 6, 7] rfl rfl rfl rfl (by decide) rfl rfl rfl rfl (Nat.le_of_ble_eq_true rfl) dX5_fallsWith_68 ⟨Nat.zero_le _, Nat.zero_le _⟩ (fun H locs hh => ?_)
      refine lv_if_eq (tgt := 87) hx hb dX5_fallsWith_71 (by decide) (fun c4 => ?_) (fun c4 => ?_)
      · replace hf := (if_pos c4).symm.trans hf
        exact hJ87 v2 v3 (k23) (hk23) H locs ls hf (lv_sub hl [1, 2, 3] rfl) hh
      · replace hf := (if_neg c4).symm.trans hf
        refine lv_iload_n hx hb dX5_fallsWith_74 rfl (lv_at hl 2 rfl) ?_
        refine lv_aload_n hx hb dX5_fallsWith_75 rfl (lv_at hl 1 rfl) ?_
        refine zget (v := .ref a5) (ref := "SumOfTwoThatStand$Street") (C := RX5) (T := TX5) (N := 11) (index := 24) X hh inX5_fallsWith_X5 0 rfl rfl 4 (by decide) mmX5_fallsWith_1 rfl rfl dX5_fallsWith_76 ?_
        refine lv_iload_n hx hb dX5_fallsWith_79 rfl (lv_at hl 3 rfl) ?_
        refine ziald (f := (st_seconds S)) X hh 5 rfl g2 dX5_fallsWith_80 ?_
        refine zcallS (As := [.int v2, .int ((st_seconds S) v3.toNatClampNeg)]) (rest := []) (wr := cSt K a0 a1 a2 a3 a4 a5 a6 a7 S) (ws' := cSt K a0 a1 a2 a3 a4 a5 a6 a7 S) (ov := some (.int (fX5_isIn v2 ((st_seconds S) v3.toNatClampNeg)))) X hh hl (kX5_isIn l K v2 ((st_seconds S) v3.toNatClampNeg) (fX5_isIn v2 ((st_seconds S) v3.toNatClampNeg)) rfl) (fun ht => va_cwS 2 ht gX5_fallsWith_X5_isIn rfl rfl rfl hdX5_isIn ⟨Nat.le_of_ble_eq_true rfl, Nat.le_of_ble_eq_true rfl⟩) [] [0, 1, 2, 3, 4, 5, 6, 7] [0, 1, 2, 3, 4, 5, 6, 7] rfl rfl rfl rfl (by decide) rfl rfl rfl rfl (Nat.le_of_ble_eq_true rfl) dX5_fallsWith_81 ⟨Nat.zero_le _, Nat.zero_le _⟩ (fun H locs hh => ?_)
        refine lv_if_ne (tgt := 95) hx hb dX5_fallsWith_84 (by decide) (fun c6 => ?_) (fun c6 => ?_)
        · replace hf := (if_neg c6).symm.trans hf
          exact hJ95 v2 v3 (k23) (hk23) H locs ls hf (lv_sub hl [1, 2, 3] rfl) hh
        · replace hf := (if_pos c6).symm.trans hf
          exact hJ87 v2 v3 (k23) (hk23) H locs ls hf (lv_sub hl [1, 2, 3] rfl) hh
  have hJ49 : ∀ (v2 : Int32) (v3 : Int32) (k23 : (Int32) → (Int32) → Option (Int32)), (∀ (v2 : Int32) (v3 : Int32) (H : Heap) (locs : List Loc) (ls : Array Slot), k23 v2 v3 = some R → lv_has ls 5 [(0, .ref a0), (2, .int v2), (3, .int v3)] → zW K A s H locs (cSt K a0 a1 a2 a3 a4 a5 a6 a7 S) → W p l e ({ frames := 2, cells := 0, slots := 0, locals := 42 } : Room) s m ([.ref a0, .int p1] : List Value).toArray below meth c H locs 0 0 Q (F0 m 23 ls [])) → ∀ (H : Heap) (locs : List Loc) (ls : Array Slot), fX5_fallsWith_j49 S v2 v3 k23 = some R → lv_has ls 5 [(0, .ref a0), (2, .int v2), (3, .int v3)] → zW K A s H locs (cSt K a0 a1 a2 a3 a4 a5 a6 a7 S) → W p l e ({ frames := 2, cells := 0, slots := 0, locals := 42 } : Room) s m ([.ref a0, .int p1] : List Value).toArray below meth c H locs 0 0 Q (F0 m 49 ls []) := by
    intro v2 v3 k23 hk23 H locs ls hf hl hh
    unfold fX5_fallsWith_j49 at hf
    refine lv_iconst (v := (1 : Int32)) hx hb dX5_fallsWith_49 (by decide) ?_
    refine lv_goto (tgt := 54) hx hb dX5_fallsWith_50 (by decide) ?_
    exact hJ54 v2 v3 (1 : Int32) (k23) (hk23) H locs ls hf (lv_sub hl [0, 1, 2] rfl) hh
  have hL23 : ∀ (n : Nat) (v2 : Int32) (v3 : Int32), ∀ (H : Heap) (locs : List Loc) (ls : Array Slot), fX5_fallsWith_l23 S n v2 v3 = some R → lv_has ls 5 [(0, .ref a0), (2, .int v2), (3, .int v3)] → zW K A s H locs (cSt K a0 a1 a2 a3 a4 a5 a6 a7 S) → W p l e ({ frames := 2, cells := 0, slots := 0, locals := 42 } : Room) s m ([.ref a0, .int p1] : List Value).toArray below meth c H locs 0 0 Q (F0 m 23 ls []) := by
    intro n
    induction n with
    | zero =>
      intro v2 v3 H locs ls hf hl hh
      rw [fX5_fallsWith_l23] at hf; cases hf
    | succ n ih =>
      intro v2 v3 H locs ls hf hl hh
      rw [fX5_fallsWith_l23] at hf
      refine lv_iload_n hx hb dX5_fallsWith_23 rfl (lv_at hl 2 rfl) ?_
      refine lv_aload_n hx hb dX5_fallsWith_24 rfl (lv_at hl 0 rfl) ?_
      refine zget (v := .int (st_came S)) (ref := "SumOfTwoThatStand$Street") (C := RX5) (T := TX5) (N := 11) (index := 36) X hh inX5_fallsWith_X5 0 rfl rfl 7 (by decide) mmX5_fallsWith_2 rfl rfl dX5_fallsWith_25 ?_
      refine lv_icmp_ge (tgt := 101) hx hb dX5_fallsWith_28 (by decide) (fun c7 => ?_) (fun c7 => ?_)
      · replace hf := (if_pos c7).symm.trans hf
        refine lv_aload_n hx hb dX5_fallsWith_101 rfl (lv_at hl 0 rfl) ?_
        refine zget (v := .int (st_standing S)) (ref := "SumOfTwoThatStand$Street") (C := RX5) (T := TX5) (N := 11) (index := 40) X hh inX5_fallsWith_X5 0 rfl rfl 8 (by decide) mmX5_fallsWith_3 rfl rfl dX5_fallsWith_102 ?_
        refine lv_iload_n hx hb dX5_fallsWith_105 rfl (lv_at hl 1 rfl) ?_
        refine lv_iconst (v := (-1 : Int32)) hx hb dX5_fallsWith_106 (by decide) ?_
        refine lv_ixor hx hb dX5_fallsWith_107 ?_
        refine lv_iand hx hb dX5_fallsWith_108 ?_
        exact hr2 109 ls H locs ((st_standing S) &&& (v2 ^^^ (-1 : Int32))) hf dX5_fallsWith_109 hh
      · replace hf := (if_neg c7).symm.trans hf
        refine lv_aload_n hx hb dX5_fallsWith_31 rfl (lv_at hl 0 rfl) ?_
        refine zget (v := .int (st_falls S)) (ref := "SumOfTwoThatStand$Street") (C := RX5) (T := TX5) (N := 11) (index := 56) X hh inX5_fallsWith_X5 0 rfl rfl 10 (by decide) mmX5_fallsWith_4 rfl rfl dX5_fallsWith_32 ?_
        refine lv_iconst (v := (1 : Int32)) hx hb dX5_fallsWith_35 (by decide) ?_
        refine lv_icmp_eq (tgt := 49) hx hb dX5_fallsWith_36 (by decide) (fun c8 => ?_) (fun c8 => ?_)
        · replace hf := (if_pos c8).symm.trans hf
          exact hJ49 v2 v3 (fX5_fallsWith_l23 S n) (ih) H locs ls hf (lv_sub hl [0, 1, 2] rfl) hh
        · replace hf := (if_neg c8).symm.trans hf
          refine lv_aload_n hx hb dX5_fallsWith_39 rfl (lv_at hl 0 rfl) ?_
          refine zget (v := .ref a1) (ref := "SumOfTwoThatStand$Street") (C := RX5) (T := TX5) (N := 11) (index := 9) X hh inX5_fallsWith_X5 0 rfl rfl 0 (by decide) mmX5_fallsWith_5 rfl rfl dX5_fallsWith_40 ?_
          refine lv_iload_n hx hb dX5_fallsWith_43 rfl (lv_at hl 2 rfl) ?_
          obtain ⟨g9, hf⟩ := ob_ix hf
          refine ziald (f := (st_kinds S)) X hh 1 rfl g9 dX5_fallsWith_44 ?_
          refine lv_iconst (v := (5 : Int32)) hx hb dX5_fallsWith_45 (by decide) ?_
          refine lv_icmp_ne (tgt := 53) hx hb dX5_fallsWith_46 (by decide) (fun c10 => ?_) (fun c10 => ?_)
          · replace hf := (if_neg c10).symm.trans hf
            refine lv_iconst (v := (0 : Int32)) hx hb dX5_fallsWith_53 (by decide) ?_
            exact hJ54 v2 v3 (0 : Int32) (fX5_fallsWith_l23 S n) (ih) H locs ls hf (lv_sub hl [0, 1, 2] rfl) hh
          · replace hf := (if_pos c10).symm.trans hf
            exact hJ49 v2 v3 (fX5_fallsWith_l23 S n) (ih) H locs ls hf (lv_sub hl [0, 1, 2] rfl) hh
  unfold fX5_fallsWith at hf
  refine (fun (hmain : ∀ (H : Heap) (locs : List Loc), zW K A s H locs (cSt K a0 a1 a2 a3 a4 a5 a6 a7 S) → W p l e ({ frames := 2, cells := 0, slots := 0, locals := 42 } : Room) s m ([.ref a0, .int p1] : List Value).toArray below meth c H locs 0 0 Q (F0 m 0 ls [])) => hmain s.heap [] hh) (fun H locs hh => ?_)
  refine lv_aload_n hx hb dX5_fallsWith_0 rfl (lv_at hl 0 rfl) ?_
  refine lv_iload_n hx hb dX5_fallsWith_1 rfl (lv_at hl 1 rfl) ?_
  refine zcallV (ci := 5) (q0 := 0) (As := [.int p1]) (rest := []) (wr := []) (ws' := cSt K a0 a1 a2 a3 a4 a5 a6 a7 S) (ov := some (.int (fX5_stands S p1))) X hh hl (kX5_stands l K a0 a1 a2 a3 a4 a5 a6 a7 S p1 (fX5_stands S p1) rfl) (fun ht => cwV 1 ht gX5_fallsWith_X5_stands rfl rfl rfl ⟨rfl, hdX5_stands⟩ ⟨Nat.le_of_ble_eq_true rfl, Nat.le_of_ble_eq_true rfl⟩) [0, 1, 2, 3, 4, 5, 6, 7] [] [0, 1, 2, 3, 4, 5, 6, 7] rfl rfl rfl rfl (by decide) rfl rfl rfl rfl rfl rfl (Nat.le_of_ble_eq_true rfl) dX5_fallsWith_2 ⟨Nat.zero_le _, Nat.zero_le _⟩ (fun H locs hh => ?_)
  refine lv_if_ne (tgt := 10) hx hb dX5_fallsWith_5 (by decide) (fun c12 => ?_) (fun c12 => ?_)
  · replace hf := (if_neg c12).symm.trans hf
    refine lv_aload_n hx hb dX5_fallsWith_10 rfl (lv_at hl 0 rfl) ?_
    refine zget (v := .int (st_standing S)) (ref := "SumOfTwoThatStand$Street") (C := RX5) (T := TX5) (N := 11) (index := 40) X hh inX5_fallsWith_X5 0 rfl rfl 8 (by decide) mmX5_fallsWith_3 rfl rfl dX5_fallsWith_11 ?_
    refine lv_iconst (v := (1 : Int32)) hx hb dX5_fallsWith_14 (by decide) ?_
    refine lv_iload_n hx hb dX5_fallsWith_15 rfl (lv_at hl 1 rfl) ?_
    refine lv_ishl hx hb dX5_fallsWith_16 ?_
    refine lv_iconst (v := (-1 : Int32)) hx hb dX5_fallsWith_17 (by decide) ?_
    refine lv_ixor hx hb dX5_fallsWith_18 ?_
    refine lv_iand hx hb dX5_fallsWith_19 ?_
    refine lv_istore_n (lv' := [(2, .int ((st_standing S) &&& (((1 : Int32) <<< (p1 &&& 31)) ^^^ (-1 : Int32)))), (0, .ref a0), (1, .int p1)]) hx hb dX5_fallsWith_20 rfl hl (by decide) rfl (fun ls hl => ?_)
    refine lv_iconst (v := (1 : Int32)) hx hb dX5_fallsWith_21 (by decide) ?_
    refine lv_istore_n (lv' := [(3, .int (1 : Int32)), (2, .int ((st_standing S) &&& (((1 : Int32) <<< (p1 &&& 31)) ^^^ (-1 : Int32)))), (0, .ref a0), (1, .int p1)]) hx hb dX5_fallsWith_22 rfl hl (by decide) rfl (fun ls hl => ?_)
    exact hL23 FU ((st_standing S) &&& (((1 : Int32) <<< (p1 &&& 31)) ^^^ (-1 : Int32))) (1 : Int32) H locs ls hf (lv_sub hl [2, 1, 0] rfl) hh
  · replace hf := (if_pos c12).symm.trans hf
    refine lv_iconst (v := (0 : Int32)) hx hb dX5_fallsWith_8 (by decide) ?_
    exact hr2 9 ls H locs (0 : Int32) hf dX5_fallsWith_9 hh
def fX5_fire (S : zSt) (p1 : Int32) : Option (Int32 × zSt) :=
  (fX5_fallsWith S p1).bind fun u1 =>
  some ((fJ6_bitCount_0f7a4 u1), (st_set_standing S ((st_standing S) &&& (u1 ^^^ (-1 : Int32)))))
theorem inX5_fire_X5 : ∀ w ∈ wsX50, w ∈ wsX5_fire := by decide +kernel
theorem mmX5_fire_0 : Cond.fieldLink RX5 40 "SumOfTwoThatStand$Street" "standing" "I" ∈ wsX5_fire := by decide +kernel
theorem hdX5_fire : yX5_fire.cls ≠ "java/lang/invoke/MethodHandle" ∧ yX5_fire.cls ≠ "java/lang/invoke/VarHandle" ∧ (parseMethodDescriptor yX5_fire.desc).map (fun d => d.parameters.length) = some 1 := by decide +kernel
set_option maxHeartbeats 4000000 in
set_option maxRecDepth 100000 in
theorem kX5_fire (l : Launch) (K : zK) (a0 a1 a2 a3 a4 a5 a6 a7 : Nat) (S : zSt) (p1 : Int32) (R : Int32 × zSt) (hf : fX5_fire S p1 = some R) : zC l yX5_fire wsX5_fire ({ frames := 3, cells := 0, slots := 0, locals := 66 } : Room) K [.ref a0, .int p1] (cSt K a0 a1 a2 a3 a4 a5 a6 a7 S) (some (.int R.1)) (cSt K a0 a1 a2 a3 a4 a5 a6 a7 R.2) := by
  refine zC_i R.1 (cc := cX5_fire) (maxL := 3) (by decide +kernel) rfl (Nat.le_of_ble_eq_true rfl) rfl rfl ?_
  intro p e s m below meth c Q A X hret ls hl hh
  have X : zX p m c cX5_fire 3 s ([.ref a0, .int p1] : List Value).toArray wsX5_fire RX5 K A := X
  have hx := X.1.1
  have hb := X.1.2.1
  have hr2 : ∀ (pc : Nat) (ls : Array Slot) (H : Heap) (locs : List Loc) (v : Int32) (S : zSt), some (v, S) = some R → decode cX5_fire pc = .ok (.ireturn, 1) → zW K A s H locs (cSt K a0 a1 a2 a3 a4 a5 a6 a7 S) → W p l e ({ frames := 3, cells := 0, slots := 0, locals := 66 } : Room) s m ([.ref a0, .int p1] : List Value).toArray below meth c H locs 0 0 Q (F0 m pc ls [.int v]) := by
    intro pc ls H locs v S h hd hh
    cases h; exact hret pc ls H locs _ rfl hd hh
  have hl : lv_has ls 3 [(0, .ref a0), (1, .int p1)] := hl
  unfold fX5_fire at hf
  refine (fun (hmain : ∀ (H : Heap) (locs : List Loc), zW K A s H locs (cSt K a0 a1 a2 a3 a4 a5 a6 a7 S) → W p l e ({ frames := 3, cells := 0, slots := 0, locals := 66 } : Room) s m ([.ref a0, .int p1] : List Value).toArray below meth c H locs 0 0 Q (F0 m 0 ls [])) => hmain s.heap [] hh) (fun H locs hh => ?_)
  refine lv_aload_n hx hb dX5_fire_0 rfl (lv_at hl 0 rfl) ?_
  refine lv_iload_n hx hb dX5_fire_1 rfl (lv_at hl 1 rfl) ?_
  obtain ⟨u1, hu1, hf⟩ := ob_bind hf
  refine zcallV (ci := 5) (q0 := 0) (As := [.int p1]) (rest := []) (wr := []) (ws' := cSt K a0 a1 a2 a3 a4 a5 a6 a7 S) (ov := some (.int u1)) X hh hl (kX5_fallsWith l K a0 a1 a2 a3 a4 a5 a6 a7 S p1 u1 hu1) (fun ht => cwV 1 ht gX5_fire_X5_fallsWith rfl rfl rfl ⟨rfl, hdX5_fallsWith⟩ ⟨Nat.le_of_ble_eq_true rfl, Nat.le_of_ble_eq_true rfl⟩) [0, 1, 2, 3, 4, 5, 6, 7] [] [0, 1, 2, 3, 4, 5, 6, 7] rfl rfl rfl rfl (by decide) rfl rfl rfl rfl rfl rfl (Nat.le_of_ble_eq_true rfl) dX5_fire_2 ⟨Nat.zero_le _, Nat.zero_le _⟩ (fun H locs hh => ?_)
  refine lv_istore_n (lv' := [(2, .int u1), (0, .ref a0), (1, .int p1)]) hx hb dX5_fire_5 rfl hl (by decide) rfl (fun ls hl => ?_)
  refine lv_aload_n hx hb dX5_fire_6 rfl (lv_at hl 1 rfl) ?_
  refine lv_dup hx hb dX5_fire_7 rfl ?_
  refine zget (v := .int (st_standing S)) (ref := "SumOfTwoThatStand$Street") (C := RX5) (T := TX5) (N := 11) (index := 40) X hh inX5_fire_X5 0 rfl rfl 8 (by decide) mmX5_fire_0 rfl rfl dX5_fire_8 ?_
  refine lv_iload_n hx hb dX5_fire_11 rfl (lv_at hl 0 rfl) ?_
  refine lv_iconst (v := (-1 : Int32)) hx hb dX5_fire_12 (by decide) ?_
  refine lv_ixor hx hb dX5_fire_13 ?_
  refine lv_iand hx hb dX5_fire_14 ?_
  refine zput (v := .int ((st_standing S) &&& (u1 ^^^ (-1 : Int32)))) (ty := .int) (ref := "SumOfTwoThatStand$Street") (C := RX5) (T := TX5) (N := 11) (index := 40) X hh inX5_fire_X5 tyX5 tyX5_ok nmX5 0 rfl rfl 8 (by decide) mmX5_fire_0 rfl rfl (by decide +kernel) rfl rfl (Nat.le_of_ble_eq_true rfl) dX5_fire_15 (fun H locs hh => ?_)
  have hh : zW K A s H locs (cSt K a0 a1 a2 a3 a4 a5 a6 a7 (st_set_standing S ((st_standing S) &&& (u1 ^^^ (-1 : Int32))))) := hh
  refine lv_iload_n hx hb dX5_fire_18 rfl (lv_at hl 0 rfl) ?_
  refine zcallS (As := [.int u1]) (rest := []) (wr := cSt K a0 a1 a2 a3 a4 a5 a6 a7 (st_set_standing S ((st_standing S) &&& (u1 ^^^ (-1 : Int32))))) (ws' := cSt K a0 a1 a2 a3 a4 a5 a6 a7 (st_set_standing S ((st_standing S) &&& (u1 ^^^ (-1 : Int32))))) (ov := some (.int (fJ6_bitCount_0f7a4 u1))) X hh hl (kJ6_bitCount_0f7a4 l K u1 (fJ6_bitCount_0f7a4 u1) rfl) (fun ht => va_cwS 1 ht gX5_fire_J6_bitCount_0f7a4 rfl rfl rfl hdJ6_bitCount_0f7a4 ⟨Nat.le_of_ble_eq_true rfl, Nat.le_of_ble_eq_true rfl⟩) [] [0, 1, 2, 3, 4, 5, 6, 7] [0, 1, 2, 3, 4, 5, 6, 7] rfl rfl rfl rfl (by decide) rfl rfl rfl rfl (Nat.le_of_ble_eq_true rfl) dX5_fire_19 ⟨Nat.zero_le _, Nat.zero_le _⟩ (fun H locs hh => ?_)
  exact hr2 22 ls H locs (fJ6_bitCount_0f7a4 u1) (st_set_standing S ((st_standing S) &&& (u1 ^^^ (-1 : Int32)))) hf dX5_fire_22 hh
def fX5_bitOf (S : zSt) (p1 : Int32) : Int32 :=
  if (fX5_stands S p1) = (0 : Int32) then
  ((0 : Int32))
  else
  (((1 : Int32) <<< (p1 &&& 31)))
theorem hdX5_bitOf : yX5_bitOf.cls ≠ "java/lang/invoke/MethodHandle" ∧ yX5_bitOf.cls ≠ "java/lang/invoke/VarHandle" ∧ (parseMethodDescriptor yX5_bitOf.desc).map (fun d => d.parameters.length) = some 1 := by decide +kernel
set_option maxHeartbeats 4000000 in
set_option maxRecDepth 100000 in
theorem kX5_bitOf (l : Launch) (K : zK) (a0 a1 a2 a3 a4 a5 a6 a7 : Nat) (S : zSt) (p1 : Int32) (R : Int32) (hf : fX5_bitOf S p1 = R) : zC l yX5_bitOf wsX5_bitOf ({ frames := 2, cells := 0, slots := 0, locals := 42 } : Room) K [.ref a0, .int p1] (cSt K a0 a1 a2 a3 a4 a5 a6 a7 S) (some (.int R)) (cSt K a0 a1 a2 a3 a4 a5 a6 a7 S) := by
  refine zC_i R (cc := cX5_bitOf) (maxL := 2) (by decide +kernel) rfl (Nat.le_of_ble_eq_true rfl) rfl rfl ?_
  intro p e s m below meth c Q A X hret ls hl hh
  have X : zX p m c cX5_bitOf 2 s ([.ref a0, .int p1] : List Value).toArray wsX5_bitOf RX5 K A := X
  have hx := X.1.1
  have hb := X.1.2.1
  have hr2 : ∀ (pc : Nat) (ls : Array Slot) (H : Heap) (locs : List Loc) (v : Int32), v = R → decode cX5_bitOf pc = .ok (.ireturn, 1) → zW K A s H locs (cSt K a0 a1 a2 a3 a4 a5 a6 a7 S) → W p l e ({ frames := 2, cells := 0, slots := 0, locals := 42 } : Room) s m ([.ref a0, .int p1] : List Value).toArray below meth c H locs 0 0 Q (F0 m pc ls [.int v]) := by
    intro pc ls H locs v h hd hh
    cases h; exact hret pc ls H locs _ rfl hd hh
  have hl : lv_has ls 2 [(0, .ref a0), (1, .int p1)] := hl
  unfold fX5_bitOf at hf
  refine (fun (hmain : ∀ (H : Heap) (locs : List Loc), zW K A s H locs (cSt K a0 a1 a2 a3 a4 a5 a6 a7 S) → W p l e ({ frames := 2, cells := 0, slots := 0, locals := 42 } : Room) s m ([.ref a0, .int p1] : List Value).toArray below meth c H locs 0 0 Q (F0 m 0 ls [])) => hmain s.heap [] hh) (fun H locs hh => ?_)
  refine lv_aload_n hx hb dX5_bitOf_0 rfl (lv_at hl 0 rfl) ?_
  refine lv_iload_n hx hb dX5_bitOf_1 rfl (lv_at hl 1 rfl) ?_
  refine zcallV (ci := 5) (q0 := 0) (As := [.int p1]) (rest := []) (wr := []) (ws' := cSt K a0 a1 a2 a3 a4 a5 a6 a7 S) (ov := some (.int (fX5_stands S p1))) X hh hl (kX5_stands l K a0 a1 a2 a3 a4 a5 a6 a7 S p1 (fX5_stands S p1) rfl) (fun ht => cwV 1 ht gX5_bitOf_X5_stands rfl rfl rfl ⟨rfl, hdX5_stands⟩ ⟨Nat.le_of_ble_eq_true rfl, Nat.le_of_ble_eq_true rfl⟩) [0, 1, 2, 3, 4, 5, 6, 7] [] [0, 1, 2, 3, 4, 5, 6, 7] rfl rfl rfl rfl (by decide) rfl rfl rfl rfl rfl rfl (Nat.le_of_ble_eq_true rfl) dX5_bitOf_2 ⟨Nat.zero_le _, Nat.zero_le _⟩ (fun H locs hh => ?_)
  refine lv_if_eq (tgt := 14) hx hb dX5_bitOf_5 (by decide) (fun c2 => ?_) (fun c2 => ?_)
  · replace hf := (if_pos c2).symm.trans hf
    refine lv_iconst (v := (0 : Int32)) hx hb dX5_bitOf_14 (by decide) ?_
    exact hr2 15 ls H locs (0 : Int32) hf dX5_bitOf_15 hh
  · replace hf := (if_neg c2).symm.trans hf
    refine lv_iconst (v := (1 : Int32)) hx hb dX5_bitOf_8 (by decide) ?_
    refine lv_iload_n hx hb dX5_bitOf_9 rfl (lv_at hl 1 rfl) ?_
    refine lv_ishl hx hb dX5_bitOf_10 ?_
    refine lv_goto (tgt := 15) hx hb dX5_bitOf_11 (by decide) ?_
    exact hr2 15 ls H locs ((1 : Int32) <<< (p1 &&& 31)) hf dX5_bitOf_15 hh
def fX5_aheadOf (S : zSt) (p1 : Int32) : Option (Int32) :=
  if (fX5_has S p1) = (0 : Int32) then
  (some (0 : Int32))
  else
  (ix 12 p1 (some ((fX5_bitOf S ((st_firsts S) p1.toNatClampNeg)) ||| (fX5_bitOf S ((st_seconds S) p1.toNatClampNeg)))))
theorem inX5_aheadOf_X5 : ∀ w ∈ wsX50, w ∈ wsX5_aheadOf := by decide +kernel
theorem mmX5_aheadOf_0 : Cond.fieldLink RX5 21 "SumOfTwoThatStand$Street" "firsts" "[I" ∈ wsX5_aheadOf := by decide +kernel
theorem mmX5_aheadOf_1 : Cond.fieldLink RX5 24 "SumOfTwoThatStand$Street" "seconds" "[I" ∈ wsX5_aheadOf := by decide +kernel
theorem hdX5_aheadOf : yX5_aheadOf.cls ≠ "java/lang/invoke/MethodHandle" ∧ yX5_aheadOf.cls ≠ "java/lang/invoke/VarHandle" ∧ (parseMethodDescriptor yX5_aheadOf.desc).map (fun d => d.parameters.length) = some 1 := by decide +kernel
set_option maxHeartbeats 4000000 in
set_option maxRecDepth 100000 in
theorem kX5_aheadOf (l : Launch) (K : zK) (a0 a1 a2 a3 a4 a5 a6 a7 : Nat) (S : zSt) (p1 : Int32) (R : Int32) (hf : fX5_aheadOf S p1 = some R) : zC l yX5_aheadOf wsX5_aheadOf ({ frames := 3, cells := 0, slots := 0, locals := 63 } : Room) K [.ref a0, .int p1] (cSt K a0 a1 a2 a3 a4 a5 a6 a7 S) (some (.int R)) (cSt K a0 a1 a2 a3 a4 a5 a6 a7 S) := by
  refine zC_i R (cc := cX5_aheadOf) (maxL := 2) (by decide +kernel) rfl (Nat.le_of_ble_eq_true rfl) rfl rfl ?_
  intro p e s m below meth c Q A X hret ls hl hh
  have X : zX p m c cX5_aheadOf 2 s ([.ref a0, .int p1] : List Value).toArray wsX5_aheadOf RX5 K A := X
  have hx := X.1.1
  have hb := X.1.2.1
  have hr2 : ∀ (pc : Nat) (ls : Array Slot) (H : Heap) (locs : List Loc) (v : Int32), some v = some R → decode cX5_aheadOf pc = .ok (.ireturn, 1) → zW K A s H locs (cSt K a0 a1 a2 a3 a4 a5 a6 a7 S) → W p l e ({ frames := 3, cells := 0, slots := 0, locals := 63 } : Room) s m ([.ref a0, .int p1] : List Value).toArray below meth c H locs 0 0 Q (F0 m pc ls [.int v]) := by
    intro pc ls H locs v h hd hh
    cases h; exact hret pc ls H locs _ rfl hd hh
  have hl : lv_has ls 2 [(0, .ref a0), (1, .int p1)] := hl
  unfold fX5_aheadOf at hf
  refine (fun (hmain : ∀ (H : Heap) (locs : List Loc), zW K A s H locs (cSt K a0 a1 a2 a3 a4 a5 a6 a7 S) → W p l e ({ frames := 3, cells := 0, slots := 0, locals := 63 } : Room) s m ([.ref a0, .int p1] : List Value).toArray below meth c H locs 0 0 Q (F0 m 0 ls [])) => hmain s.heap [] hh) (fun H locs hh => ?_)
  refine lv_aload_n hx hb dX5_aheadOf_0 rfl (lv_at hl 0 rfl) ?_
  refine lv_iload_n hx hb dX5_aheadOf_1 rfl (lv_at hl 1 rfl) ?_
  refine zcallV (ci := 5) (q0 := 0) (As := [.int p1]) (rest := []) (wr := []) (ws' := cSt K a0 a1 a2 a3 a4 a5 a6 a7 S) (ov := some (.int (fX5_has S p1))) X hh hl (kX5_has l K a0 a1 a2 a3 a4 a5 a6 a7 S p1 (fX5_has S p1) rfl) (fun ht => cwV 1 ht gX5_aheadOf_X5_has rfl rfl rfl ⟨rfl, hdX5_has⟩ ⟨Nat.le_of_ble_eq_true rfl, Nat.le_of_ble_eq_true rfl⟩) [0, 1, 2, 3, 4, 5, 6, 7] [] [0, 1, 2, 3, 4, 5, 6, 7] rfl rfl rfl rfl (by decide) rfl rfl rfl rfl rfl rfl (Nat.le_of_ble_eq_true rfl) dX5_aheadOf_2 ⟨Nat.zero_le _, Nat.zero_le _⟩ (fun H locs hh => ?_)
  refine lv_if_ne (tgt := 10) hx hb dX5_aheadOf_5 (by decide) (fun c2 => ?_) (fun c2 => ?_)
  · replace hf := (if_neg c2).symm.trans hf
    refine lv_aload_n hx hb dX5_aheadOf_10 rfl (lv_at hl 0 rfl) ?_
    refine lv_aload_n hx hb dX5_aheadOf_11 rfl (lv_at hl 0 rfl) ?_
    refine zget (v := .ref a4) (ref := "SumOfTwoThatStand$Street") (C := RX5) (T := TX5) (N := 11) (index := 21) X hh inX5_aheadOf_X5 0 rfl rfl 3 (by decide) mmX5_aheadOf_0 rfl rfl dX5_aheadOf_12 ?_
    refine lv_iload_n hx hb dX5_aheadOf_15 rfl (lv_at hl 1 rfl) ?_
    obtain ⟨g3, hf⟩ := ob_ix hf
    refine ziald (f := (st_firsts S)) X hh 4 rfl g3 dX5_aheadOf_16 ?_
    refine zcallV (ci := 5) (q0 := 0) (As := [.int ((st_firsts S) p1.toNatClampNeg)]) (rest := []) (wr := []) (ws' := cSt K a0 a1 a2 a3 a4 a5 a6 a7 S) (ov := some (.int (fX5_bitOf S ((st_firsts S) p1.toNatClampNeg)))) X hh hl (kX5_bitOf l K a0 a1 a2 a3 a4 a5 a6 a7 S ((st_firsts S) p1.toNatClampNeg) (fX5_bitOf S ((st_firsts S) p1.toNatClampNeg)) rfl) (fun ht => cwV 1 ht gX5_aheadOf_X5_bitOf rfl rfl rfl ⟨rfl, hdX5_bitOf⟩ ⟨Nat.le_of_ble_eq_true rfl, Nat.le_of_ble_eq_true rfl⟩) [0, 1, 2, 3, 4, 5, 6, 7] [] [0, 1, 2, 3, 4, 5, 6, 7] rfl rfl rfl rfl (by decide) rfl rfl rfl rfl rfl rfl (Nat.le_of_ble_eq_true rfl) dX5_aheadOf_17 ⟨Nat.zero_le _, Nat.zero_le _⟩ (fun H locs hh => ?_)
    refine lv_aload_n hx hb dX5_aheadOf_20 rfl (lv_at hl 0 rfl) ?_
    refine lv_aload_n hx hb dX5_aheadOf_21 rfl (lv_at hl 0 rfl) ?_
    refine zget (v := .ref a5) (ref := "SumOfTwoThatStand$Street") (C := RX5) (T := TX5) (N := 11) (index := 24) X hh inX5_aheadOf_X5 0 rfl rfl 4 (by decide) mmX5_aheadOf_1 rfl rfl dX5_aheadOf_22 ?_
    refine lv_iload_n hx hb dX5_aheadOf_25 rfl (lv_at hl 1 rfl) ?_
    refine ziald (f := (st_seconds S)) X hh 5 rfl g3 dX5_aheadOf_26 ?_
    refine zcallV (ci := 5) (q0 := 0) (As := [.int ((st_seconds S) p1.toNatClampNeg)]) (rest := [.int (fX5_bitOf S ((st_firsts S) p1.toNatClampNeg))]) (wr := []) (ws' := cSt K a0 a1 a2 a3 a4 a5 a6 a7 S) (ov := some (.int (fX5_bitOf S ((st_seconds S) p1.toNatClampNeg)))) X hh hl (kX5_bitOf l K a0 a1 a2 a3 a4 a5 a6 a7 S ((st_seconds S) p1.toNatClampNeg) (fX5_bitOf S ((st_seconds S) p1.toNatClampNeg)) rfl) (fun ht => cwV 1 ht gX5_aheadOf_X5_bitOf rfl rfl rfl ⟨rfl, hdX5_bitOf⟩ ⟨Nat.le_of_ble_eq_true rfl, Nat.le_of_ble_eq_true rfl⟩) [0, 1, 2, 3, 4, 5, 6, 7] [] [0, 1, 2, 3, 4, 5, 6, 7] rfl rfl rfl rfl (by decide) rfl rfl rfl rfl rfl rfl (Nat.le_of_ble_eq_true rfl) dX5_aheadOf_27 ⟨Nat.zero_le _, Nat.zero_le _⟩ (fun H locs hh => ?_)
    refine lv_ior hx hb dX5_aheadOf_30 ?_
    exact hr2 31 ls H locs ((fX5_bitOf S ((st_firsts S) p1.toNatClampNeg)) ||| (fX5_bitOf S ((st_seconds S) p1.toNatClampNeg))) hf dX5_aheadOf_31 hh
  · replace hf := (if_pos c2).symm.trans hf
    refine lv_iconst (v := (0 : Int32)) hx hb dX5_aheadOf_8 (by decide) ?_
    exact hr2 9 ls H locs (0 : Int32) hf dX5_aheadOf_9 hh
def fX5_comesNext_j57 (S : zSt) (v1 : Int32) (v2 : Int32) (v3 : Int32) (k21 : (Int32) → Option (Int32)) : Option (Int32) :=
  k21 (v3 + (1 : Int32))
def fX5_comesNext_l21 (S : zSt) (v1 : Int32) (v2 : Int32) (k11 : (Int32) → Option (Int32)) : Nat → (Int32) → Option (Int32)
  | 0, _ => none
  | n + 1, v3 =>
  if (st_came S) ≤ v3 then
  (k11 (v2 + (1 : Int32)))
  else
  (ix 12 v2 (ix 12 v3 (if (((st_numbers S) v2.toNatClampNeg) + ((st_numbers S) v3.toNatClampNeg)) = v1 then
  ((fX5_mayBe S v2 v3).bind fun u5 =>
  if u5 = (0 : Int32) then
  (fX5_comesNext_j57 S v1 v2 v3 (fX5_comesNext_l21 S v1 v2 k11 n))
  else
  (some (1 : Int32)))
  else
  (fX5_comesNext_j57 S v1 v2 v3 (fX5_comesNext_l21 S v1 v2 k11 n)))))
def fX5_comesNext_l11 (S : zSt) (v1 : Int32) : Nat → (Int32) → Option (Int32)
  | 0, _ => none
  | n + 1, v2 =>
  if (st_came S) ≤ v2 then
  (some (0 : Int32))
  else
  (fX5_comesNext_l21 S v1 v2 (fX5_comesNext_l11 S v1 n) FU v2)
def fX5_comesNext (S : zSt) (p1 : Int32) : Option (Int32) :=
  if (fX5_hasRoom S) = (0 : Int32) then
  (some (0 : Int32))
  else
  (fX5_comesNext_l11 S p1 FU (0 : Int32))
theorem inX5_comesNext_X5 : ∀ w ∈ wsX50, w ∈ wsX5_comesNext := by decide +kernel
theorem mmX5_comesNext_0 : Cond.fieldLink RX5 36 "SumOfTwoThatStand$Street" "came" "I" ∈ wsX5_comesNext := by decide +kernel
theorem mmX5_comesNext_1 : Cond.fieldLink RX5 18 "SumOfTwoThatStand$Street" "numbers" "[I" ∈ wsX5_comesNext := by decide +kernel
theorem hdX5_comesNext : yX5_comesNext.cls ≠ "java/lang/invoke/MethodHandle" ∧ yX5_comesNext.cls ≠ "java/lang/invoke/VarHandle" ∧ (parseMethodDescriptor yX5_comesNext.desc).map (fun d => d.parameters.length) = some 1 := by decide +kernel
set_option maxHeartbeats 4000000 in
set_option maxRecDepth 100000 in
theorem kX5_comesNext (l : Launch) (K : zK) (a0 a1 a2 a3 a4 a5 a6 a7 : Nat) (S : zSt) (p1 : Int32) (R : Int32) (hf : fX5_comesNext S p1 = some R) : zC l yX5_comesNext wsX5_comesNext ({ frames := 3, cells := 0, slots := 0, locals := 67 } : Room) K [.ref a0, .int p1] (cSt K a0 a1 a2 a3 a4 a5 a6 a7 S) (some (.int R)) (cSt K a0 a1 a2 a3 a4 a5 a6 a7 S) := by
  refine zC_z .boolean R (cc := cX5_comesNext) (maxL := 4) (by decide +kernel) rfl (Nat.le_of_ble_eq_true rfl) rfl rfl ?_
  intro p e s m below meth c Q A X hret ls hl hh
  have X : zX p m c cX5_comesNext 4 s ([.ref a0, .int p1] : List Value).toArray wsX5_comesNext RX5 K A := X
  have hx := X.1.1
  have hb := X.1.2.1
  have hr2 : ∀ (pc : Nat) (ls : Array Slot) (H : Heap) (locs : List Loc) (v : Int32), some v = some R → narrow .boolean (.int v) = .int v → decode cX5_comesNext pc = .ok (.ireturn, 1) → zW K A s H locs (cSt K a0 a1 a2 a3 a4 a5 a6 a7 S) → W p l e ({ frames := 3, cells := 0, slots := 0, locals := 67 } : Room) s m ([.ref a0, .int p1] : List Value).toArray below meth c H locs 0 0 Q (F0 m pc ls [.int v]) := by
    intro pc ls H locs v h hn hd hh
    cases h; exact hret pc ls H locs _ rfl hn hd hh
  have hl : lv_has ls 4 [(0, .ref a0), (1, .int p1)] := hl
  have hJ57 : ∀ (v1 : Int32) (v2 : Int32) (v3 : Int32) (k21 : (Int32) → Option (Int32)), (∀ (v3 : Int32) (H : Heap) (locs : List Loc) (ls : Array Slot), k21 v3 = some R → lv_has ls 4 [(0, .ref a0), (1, .int v1), (2, .int v2), (3, .int v3)] → zW K A s H locs (cSt K a0 a1 a2 a3 a4 a5 a6 a7 S) → W p l e ({ frames := 3, cells := 0, slots := 0, locals := 67 } : Room) s m ([.ref a0, .int p1] : List Value).toArray below meth c H locs 0 0 Q (F0 m 21 ls [])) → ∀ (H : Heap) (locs : List Loc) (ls : Array Slot), fX5_comesNext_j57 S v1 v2 v3 k21 = some R → lv_has ls 4 [(0, .ref a0), (1, .int v1), (2, .int v2), (3, .int v3)] → zW K A s H locs (cSt K a0 a1 a2 a3 a4 a5 a6 a7 S) → W p l e ({ frames := 3, cells := 0, slots := 0, locals := 67 } : Room) s m ([.ref a0, .int p1] : List Value).toArray below meth c H locs 0 0 Q (F0 m 57 ls []) := by
    intro v1 v2 v3 k21 hk21 H locs ls hf hl hh
    unfold fX5_comesNext_j57 at hf
    refine lv_iinc (v := (v3 + (1 : Int32))) (lv' := [(3, .int (v3 + (1 : Int32))), (0, .ref a0), (1, .int v1), (2, .int v2)]) hx hb dX5_comesNext_57 hl (k := 3) rfl rfl (by decide) rfl (fun ls hl => ?_)
    refine lv_goto (tgt := 21) hx hb dX5_comesNext_60 (by decide) ?_
    exact hk21 (v3 + (1 : Int32)) H locs ls hf (lv_sub hl [1, 2, 3, 0] rfl) hh
  have hL21 : ∀ (v1 : Int32) (v2 : Int32) (k11 : (Int32) → Option (Int32)), (∀ (v2 : Int32) (H : Heap) (locs : List Loc) (ls : Array Slot), k11 v2 = some R → lv_has ls 4 [(0, .ref a0), (1, .int v1), (2, .int v2)] → zW K A s H locs (cSt K a0 a1 a2 a3 a4 a5 a6 a7 S) → W p l e ({ frames := 3, cells := 0, slots := 0, locals := 67 } : Room) s m ([.ref a0, .int p1] : List Value).toArray below meth c H locs 0 0 Q (F0 m 11 ls [])) → ∀ (n : Nat) (v3 : Int32), ∀ (H : Heap) (locs : List Loc) (ls : Array Slot), fX5_comesNext_l21 S v1 v2 k11 n v3 = some R → lv_has ls 4 [(0, .ref a0), (1, .int v1), (2, .int v2), (3, .int v3)] → zW K A s H locs (cSt K a0 a1 a2 a3 a4 a5 a6 a7 S) → W p l e ({ frames := 3, cells := 0, slots := 0, locals := 67 } : Room) s m ([.ref a0, .int p1] : List Value).toArray below meth c H locs 0 0 Q (F0 m 21 ls []) := by
    intro v1 v2 k11 hk11 n
    induction n with
    | zero =>
      intro v3 H locs ls hf hl hh
      rw [fX5_comesNext_l21] at hf; cases hf
    | succ n ih =>
      intro v3 H locs ls hf hl hh
      rw [fX5_comesNext_l21] at hf
      refine lv_iload_n hx hb dX5_comesNext_21 rfl (lv_at hl 3 rfl) ?_
      refine lv_aload_n hx hb dX5_comesNext_22 rfl (lv_at hl 0 rfl) ?_
      refine zget (v := .int (st_came S)) (ref := "SumOfTwoThatStand$Street") (C := RX5) (T := TX5) (N := 11) (index := 36) X hh inX5_comesNext_X5 0 rfl rfl 7 (by decide) mmX5_comesNext_0 rfl rfl dX5_comesNext_23 ?_
      refine lv_icmp_ge (tgt := 63) hx hb dX5_comesNext_26 (by decide) (fun c1 => ?_) (fun c1 => ?_)
      · replace hf := (if_pos c1).symm.trans hf
        refine lv_iinc (v := (v2 + (1 : Int32))) (lv' := [(2, .int (v2 + (1 : Int32))), (0, .ref a0), (1, .int v1), (3, .int v3)]) hx hb dX5_comesNext_63 hl (k := 2) rfl rfl (by decide) rfl (fun ls hl => ?_)
        refine lv_goto (tgt := 11) hx hb dX5_comesNext_66 (by decide) ?_
        exact hk11 (v2 + (1 : Int32)) H locs ls hf (lv_sub hl [1, 2, 0] rfl) hh
      · replace hf := (if_neg c1).symm.trans hf
        refine lv_aload_n hx hb dX5_comesNext_29 rfl (lv_at hl 0 rfl) ?_
        refine zget (v := .ref a3) (ref := "SumOfTwoThatStand$Street") (C := RX5) (T := TX5) (N := 11) (index := 18) X hh inX5_comesNext_X5 0 rfl rfl 2 (by decide) mmX5_comesNext_1 rfl rfl dX5_comesNext_30 ?_
        refine lv_iload_n hx hb dX5_comesNext_33 rfl (lv_at hl 2 rfl) ?_
        obtain ⟨g2, hf⟩ := ob_ix hf
        refine ziald (f := (st_numbers S)) X hh 3 rfl g2 dX5_comesNext_34 ?_
        refine lv_aload_n hx hb dX5_comesNext_35 rfl (lv_at hl 0 rfl) ?_
        refine zget (v := .ref a3) (ref := "SumOfTwoThatStand$Street") (C := RX5) (T := TX5) (N := 11) (index := 18) X hh inX5_comesNext_X5 0 rfl rfl 2 (by decide) mmX5_comesNext_1 rfl rfl dX5_comesNext_36 ?_
        refine lv_iload_n hx hb dX5_comesNext_39 rfl (lv_at hl 3 rfl) ?_
        obtain ⟨g3, hf⟩ := ob_ix hf
        refine ziald (f := (st_numbers S)) X hh 3 rfl g3 dX5_comesNext_40 ?_
        refine lv_iadd hx hb dX5_comesNext_41 ?_
        refine lv_iload_n hx hb dX5_comesNext_42 rfl (lv_at hl 1 rfl) ?_
        refine lv_icmp_ne (tgt := 57) hx hb dX5_comesNext_43 (by decide) (fun c4 => ?_) (fun c4 => ?_)
        · replace hf := (if_neg c4).symm.trans hf
          exact hJ57 v1 v2 v3 (fX5_comesNext_l21 S v1 v2 k11 n) (ih) H locs ls hf (lv_sub hl [0, 1, 2, 3] rfl) hh
        · replace hf := (if_pos c4).symm.trans hf
          refine lv_aload_n hx hb dX5_comesNext_46 rfl (lv_at hl 0 rfl) ?_
          refine lv_iload_n hx hb dX5_comesNext_47 rfl (lv_at hl 2 rfl) ?_
          refine lv_iload_n hx hb dX5_comesNext_48 rfl (lv_at hl 3 rfl) ?_
          obtain ⟨u5, hu5, hf⟩ := ob_bind hf
          refine zcallV (ci := 5) (q0 := 0) (As := [.int v2, .int v3]) (rest := []) (wr := []) (ws' := cSt K a0 a1 a2 a3 a4 a5 a6 a7 S) (ov := some (.int u5)) X hh hl (kX5_mayBe l K a0 a1 a2 a3 a4 a5 a6 a7 S v2 v3 u5 hu5) (fun ht => cwV 2 ht gX5_comesNext_X5_mayBe rfl rfl rfl ⟨rfl, hdX5_mayBe⟩ ⟨Nat.le_of_ble_eq_true rfl, Nat.le_of_ble_eq_true rfl⟩) [0, 1, 2, 3, 4, 5, 6, 7] [] [0, 1, 2, 3, 4, 5, 6, 7] rfl rfl rfl rfl (by decide) rfl rfl rfl rfl rfl rfl (Nat.le_of_ble_eq_true rfl) dX5_comesNext_49 ⟨Nat.zero_le _, Nat.zero_le _⟩ (fun H locs hh => ?_)
          refine lv_if_eq (tgt := 57) hx hb dX5_comesNext_52 (by decide) (fun c6 => ?_) (fun c6 => ?_)
          · replace hf := (if_pos c6).symm.trans hf
            exact hJ57 v1 v2 v3 (fX5_comesNext_l21 S v1 v2 k11 n) (ih) H locs ls hf (lv_sub hl [0, 1, 2, 3] rfl) hh
          · replace hf := (if_neg c6).symm.trans hf
            refine lv_iconst (v := (1 : Int32)) hx hb dX5_comesNext_55 (by decide) ?_
            exact hr2 56 ls H locs (1 : Int32) hf rfl dX5_comesNext_56 hh
  have hL11 : ∀ (v1 : Int32), ∀ (n : Nat) (v2 : Int32), ∀ (H : Heap) (locs : List Loc) (ls : Array Slot), fX5_comesNext_l11 S v1 n v2 = some R → lv_has ls 4 [(0, .ref a0), (1, .int v1), (2, .int v2)] → zW K A s H locs (cSt K a0 a1 a2 a3 a4 a5 a6 a7 S) → W p l e ({ frames := 3, cells := 0, slots := 0, locals := 67 } : Room) s m ([.ref a0, .int p1] : List Value).toArray below meth c H locs 0 0 Q (F0 m 11 ls []) := by
    intro v1 n
    induction n with
    | zero =>
      intro v2 H locs ls hf hl hh
      rw [fX5_comesNext_l11] at hf; cases hf
    | succ n ih =>
      intro v2 H locs ls hf hl hh
      rw [fX5_comesNext_l11] at hf
      refine lv_iload_n hx hb dX5_comesNext_11 rfl (lv_at hl 2 rfl) ?_
      refine lv_aload_n hx hb dX5_comesNext_12 rfl (lv_at hl 0 rfl) ?_
      refine zget (v := .int (st_came S)) (ref := "SumOfTwoThatStand$Street") (C := RX5) (T := TX5) (N := 11) (index := 36) X hh inX5_comesNext_X5 0 rfl rfl 7 (by decide) mmX5_comesNext_0 rfl rfl dX5_comesNext_13 ?_
      refine lv_icmp_ge (tgt := 69) hx hb dX5_comesNext_16 (by decide) (fun c7 => ?_) (fun c7 => ?_)
      · replace hf := (if_pos c7).symm.trans hf
        refine lv_iconst (v := (0 : Int32)) hx hb dX5_comesNext_69 (by decide) ?_
        exact hr2 70 ls H locs (0 : Int32) hf rfl dX5_comesNext_70 hh
      · replace hf := (if_neg c7).symm.trans hf
        refine lv_iload_n hx hb dX5_comesNext_19 rfl (lv_at hl 2 rfl) ?_
        refine lv_istore_n (lv' := [(3, .int v2), (0, .ref a0), (1, .int v1), (2, .int v2)]) hx hb dX5_comesNext_20 rfl hl (by decide) rfl (fun ls hl => ?_)
        exact hL21 v1 v2 (fX5_comesNext_l11 S v1 n) (ih) FU v2 H locs ls hf (lv_sub hl [1, 2, 3, 0] rfl) hh
  unfold fX5_comesNext at hf
  refine (fun (hmain : ∀ (H : Heap) (locs : List Loc), zW K A s H locs (cSt K a0 a1 a2 a3 a4 a5 a6 a7 S) → W p l e ({ frames := 3, cells := 0, slots := 0, locals := 67 } : Room) s m ([.ref a0, .int p1] : List Value).toArray below meth c H locs 0 0 Q (F0 m 0 ls [])) => hmain s.heap [] hh) (fun H locs hh => ?_)
  refine lv_aload_n hx hb dX5_comesNext_0 rfl (lv_at hl 0 rfl) ?_
  refine zcallV (ci := 5) (q0 := 0) (As := []) (rest := []) (wr := []) (ws' := cSt K a0 a1 a2 a3 a4 a5 a6 a7 S) (ov := some (.int (fX5_hasRoom S))) X hh hl (kX5_hasRoom l K a0 a1 a2 a3 a4 a5 a6 a7 S (fX5_hasRoom S) rfl) (fun ht => cwV 0 ht gX5_comesNext_X5_hasRoom rfl rfl rfl ⟨rfl, hdX5_hasRoom⟩ ⟨Nat.le_of_ble_eq_true rfl, Nat.le_of_ble_eq_true rfl⟩) [0, 1, 2, 3, 4, 5, 6, 7] [] [0, 1, 2, 3, 4, 5, 6, 7] rfl rfl rfl rfl (by decide) rfl rfl rfl rfl rfl rfl (Nat.le_of_ble_eq_true rfl) dX5_comesNext_1 ⟨Nat.zero_le _, Nat.zero_le _⟩ (fun H locs hh => ?_)
  refine lv_if_ne (tgt := 9) hx hb dX5_comesNext_4 (by decide) (fun c9 => ?_) (fun c9 => ?_)
  · replace hf := (if_neg c9).symm.trans hf
    refine lv_iconst (v := (0 : Int32)) hx hb dX5_comesNext_9 (by decide) ?_
    refine lv_istore_n (lv' := [(2, .int (0 : Int32)), (0, .ref a0), (1, .int p1)]) hx hb dX5_comesNext_10 rfl hl (by decide) rfl (fun ls hl => ?_)
    exact hL11 p1 FU (0 : Int32) H locs ls hf (lv_sub hl [1, 2, 0] rfl) hh
  · replace hf := (if_pos c9).symm.trans hf
    refine lv_iconst (v := (0 : Int32)) hx hb dX5_comesNext_7 (by decide) ?_
    exact hr2 8 ls H locs (0 : Int32) hf rfl dX5_comesNext_8 hh
def fX5_become (S : zSt) (T : zSt) : zSt :=
  (st_set_falls (st_set_sums (st_set_standing (st_set_came (st_set_earned (st_set_uses (st_set_seconds (st_set_firsts (st_set_numbers (st_set_figures (st_set_kinds S (va_cpy (st_kinds T) (st_kinds S) (0 : Int32).toNatClampNeg (0 : Int32).toNatClampNeg (12 : Int32).toNatClampNeg)) (va_cpy (st_figures T) (st_figures S) (0 : Int32).toNatClampNeg (0 : Int32).toNatClampNeg (12 : Int32).toNatClampNeg)) (va_cpy (st_numbers T) (st_numbers S) (0 : Int32).toNatClampNeg (0 : Int32).toNatClampNeg (12 : Int32).toNatClampNeg)) (va_cpy (st_firsts T) (st_firsts S) (0 : Int32).toNatClampNeg (0 : Int32).toNatClampNeg (12 : Int32).toNatClampNeg)) (va_cpy (st_seconds T) (st_seconds S) (0 : Int32).toNatClampNeg (0 : Int32).toNatClampNeg (12 : Int32).toNatClampNeg)) (va_cpy (st_uses T) (st_uses S) (0 : Int32).toNatClampNeg (0 : Int32).toNatClampNeg (12 : Int32).toNatClampNeg)) (va_cpy (st_earned T) (st_earned S) (0 : Int32).toNatClampNeg (0 : Int32).toNatClampNeg (12 : Int32).toNatClampNeg)) (st_came T)) (st_standing T)) (st_sums T)) (st_falls T))
theorem inX5_become_X5 : ∀ w ∈ wsX50, w ∈ wsX5_become := by decide +kernel
theorem mmX5_become_0 : Cond.fieldLink RX5 9 "SumOfTwoThatStand$Street" "kinds" "[I" ∈ wsX5_become := by decide +kernel
theorem mmX5_become_1 : Cond.methodLink RX5 47 arraycopyName ∈ wsX5_become := by decide +kernel
theorem mmX5_become_2 : Cond.native arraycopyName ∈ wsX5_become := by decide +kernel
theorem mmX5_become_3 : Cond.static arraycopyName ∈ wsX5_become := by decide +kernel
theorem mmX5_become_4 : Cond.initialized "java/lang/System" ∈ wsX5_become := by decide +kernel
theorem mmX5_become_5 : Cond.fieldLink RX5 15 "SumOfTwoThatStand$Street" "figures" "[I" ∈ wsX5_become := by decide +kernel
theorem mmX5_become_6 : Cond.fieldLink RX5 18 "SumOfTwoThatStand$Street" "numbers" "[I" ∈ wsX5_become := by decide +kernel
theorem mmX5_become_7 : Cond.fieldLink RX5 21 "SumOfTwoThatStand$Street" "firsts" "[I" ∈ wsX5_become := by decide +kernel
theorem mmX5_become_8 : Cond.fieldLink RX5 24 "SumOfTwoThatStand$Street" "seconds" "[I" ∈ wsX5_become := by decide +kernel
theorem mmX5_become_9 : Cond.fieldLink RX5 27 "SumOfTwoThatStand$Street" "uses" "[I" ∈ wsX5_become := by decide +kernel
theorem mmX5_become_10 : Cond.fieldLink RX5 30 "SumOfTwoThatStand$Street" "earned" "[I" ∈ wsX5_become := by decide +kernel
theorem mmX5_become_11 : Cond.fieldLink RX5 36 "SumOfTwoThatStand$Street" "came" "I" ∈ wsX5_become := by decide +kernel
theorem mmX5_become_12 : Cond.fieldLink RX5 40 "SumOfTwoThatStand$Street" "standing" "I" ∈ wsX5_become := by decide +kernel
theorem mmX5_become_13 : Cond.fieldLink RX5 53 "SumOfTwoThatStand$Street" "sums" "I" ∈ wsX5_become := by decide +kernel
theorem mmX5_become_14 : Cond.fieldLink RX5 56 "SumOfTwoThatStand$Street" "falls" "I" ∈ wsX5_become := by decide +kernel
theorem hdX5_become : yX5_become.cls ≠ "java/lang/invoke/MethodHandle" ∧ yX5_become.cls ≠ "java/lang/invoke/VarHandle" ∧ (parseMethodDescriptor yX5_become.desc).map (fun d => d.parameters.length) = some 1 := by decide +kernel
set_option maxHeartbeats 4000000 in
set_option maxRecDepth 100000 in
theorem kX5_become (l : Launch) (K : zK) (a0 a1 a2 a3 a4 a5 a6 a7 b0 b1 b2 b3 b4 b5 b6 b7 : Nat) (S : zSt) (T : zSt) (R : zSt) (hf : fX5_become S T = R) : zC l yX5_become wsX5_become ({ frames := 1, cells := 0, slots := 0, locals := 60 } : Room) K [.ref a0, .ref b0] (cSt K a0 a1 a2 a3 a4 a5 a6 a7 S ++ cSt K b0 b1 b2 b3 b4 b5 b6 b7 T) none (cSt K a0 a1 a2 a3 a4 a5 a6 a7 R ++ cSt K b0 b1 b2 b3 b4 b5 b6 b7 T) := by
  refine zC_v (cc := cX5_become) (maxL := 2) (by decide +kernel) rfl (Nat.le_of_ble_eq_true rfl) rfl rfl ?_
  intro p e s m below meth c Q A X hret ls hl hh
  have X : zX p m c cX5_become 2 s ([.ref a0, .ref b0] : List Value).toArray wsX5_become RX5 K A := X
  have hx := X.1.1
  have hb := X.1.2.1
  have hr2 : ∀ (pc : Nat) (ls : Array Slot) (H : Heap) (locs : List Loc) (S : zSt), S = R → decode cX5_become pc = .ok (.return_, 1) → zW K A s H locs (cSt K a0 a1 a2 a3 a4 a5 a6 a7 S ++ cSt K b0 b1 b2 b3 b4 b5 b6 b7 T) → W p l e ({ frames := 1, cells := 0, slots := 0, locals := 60 } : Room) s m ([.ref a0, .ref b0] : List Value).toArray below meth c H locs 0 0 Q (F0 m pc ls []) := by
    intro pc ls H locs S h hd hh
    cases h; exact hret pc ls H locs hd hh
  have hl : lv_has ls 2 [(0, .ref a0), (1, .ref b0)] := hl
  unfold fX5_become at hf
  refine (fun (hmain : ∀ (H : Heap) (locs : List Loc), zW K A s H locs (cSt K a0 a1 a2 a3 a4 a5 a6 a7 S ++ cSt K b0 b1 b2 b3 b4 b5 b6 b7 T) → W p l e ({ frames := 1, cells := 0, slots := 0, locals := 60 } : Room) s m ([.ref a0, .ref b0] : List Value).toArray below meth c H locs 0 0 Q (F0 m 0 ls [])) => hmain s.heap [] hh) (fun H locs hh => ?_)
  refine lv_aload_n hx hb dX5_become_0 rfl (lv_at hl 1 rfl) ?_
  refine zget (v := .ref b1) (ref := "SumOfTwoThatStand$Street") (C := RX5) (T := TX5) (N := 11) (index := 9) X hh inX5_become_X5 8 rfl rfl 0 (by decide) mmX5_become_0 rfl rfl dX5_become_1 ?_
  refine lv_iconst (v := (0 : Int32)) hx hb dX5_become_4 (by decide) ?_
  refine lv_aload_n hx hb dX5_become_5 rfl (lv_at hl 0 rfl) ?_
  refine zget (v := .ref a1) (ref := "SumOfTwoThatStand$Street") (C := RX5) (T := TX5) (N := 11) (index := 9) X hh inX5_become_X5 0 rfl rfl 0 (by decide) mmX5_become_0 rfl rfl dX5_become_6 ?_
  refine lv_iconst (v := (0 : Int32)) hx hb dX5_become_9 (by decide) ?_
  refine lv_bipush (v := (12 : Int32)) hx hb dX5_become_10 (by decide) ?_
  refine va_copyi hx hb (X.1.2.2.1.trans hl.1.symm) X.1.2.2.2.1 (X.1.2.2.2.2 _ mmX5_become_1) (X.1.2.2.2.2 _ mmX5_become_2) (X.1.2.2.2.2 _ mmX5_become_3) (X.1.2.2.2.2 _ mmX5_become_4) X.2.1 hh.1 hh.2.1 hh.2.2 9 1 0 0 rfl rfl rfl rfl rfl (by decide) (by decide) (by decide) (by decide) (by decide) (fun _ _ => rfl) (Nat.le_of_ble_eq_true rfl) (Nat.le_of_ble_eq_true rfl) dX5_become_12 (fun H locs h1 h2 h3 => ?_)
  have hh : zW K A s H locs (cSt K a0 a1 a2 a3 a4 a5 a6 a7 (st_set_kinds S (va_cpy (st_kinds T) (st_kinds S) (0 : Int32).toNatClampNeg (0 : Int32).toNatClampNeg (12 : Int32).toNatClampNeg)) ++ cSt K b0 b1 b2 b3 b4 b5 b6 b7 T) := ⟨h1, h2, h3⟩
  refine lv_aload_n hx hb dX5_become_15 rfl (lv_at hl 1 rfl) ?_
  refine zget (v := .ref b2) (ref := "SumOfTwoThatStand$Street") (C := RX5) (T := TX5) (N := 11) (index := 15) X hh inX5_become_X5 8 rfl rfl 1 (by decide) mmX5_become_5 rfl rfl dX5_become_16 ?_
  refine lv_iconst (v := (0 : Int32)) hx hb dX5_become_19 (by decide) ?_
  refine lv_aload_n hx hb dX5_become_20 rfl (lv_at hl 0 rfl) ?_
  refine zget (v := .ref a2) (ref := "SumOfTwoThatStand$Street") (C := RX5) (T := TX5) (N := 11) (index := 15) X hh inX5_become_X5 0 rfl rfl 1 (by decide) mmX5_become_5 rfl rfl dX5_become_21 ?_
  refine lv_iconst (v := (0 : Int32)) hx hb dX5_become_24 (by decide) ?_
  refine lv_bipush (v := (12 : Int32)) hx hb dX5_become_25 (by decide) ?_
  refine va_copyi hx hb (X.1.2.2.1.trans hl.1.symm) X.1.2.2.2.1 (X.1.2.2.2.2 _ mmX5_become_1) (X.1.2.2.2.2 _ mmX5_become_2) (X.1.2.2.2.2 _ mmX5_become_3) (X.1.2.2.2.2 _ mmX5_become_4) X.2.1 hh.1 hh.2.1 hh.2.2 10 2 0 0 rfl rfl rfl rfl rfl (by decide) (by decide) (by decide) (by decide) (by decide) (fun _ _ => rfl) (Nat.le_of_ble_eq_true rfl) (Nat.le_of_ble_eq_true rfl) dX5_become_27 (fun H locs h1 h2 h3 => ?_)
  have hh : zW K A s H locs (cSt K a0 a1 a2 a3 a4 a5 a6 a7 (st_set_figures (st_set_kinds S (va_cpy (st_kinds T) (st_kinds S) (0 : Int32).toNatClampNeg (0 : Int32).toNatClampNeg (12 : Int32).toNatClampNeg)) (va_cpy (st_figures T) (st_figures S) (0 : Int32).toNatClampNeg (0 : Int32).toNatClampNeg (12 : Int32).toNatClampNeg)) ++ cSt K b0 b1 b2 b3 b4 b5 b6 b7 T) := ⟨h1, h2, h3⟩
  refine lv_aload_n hx hb dX5_become_30 rfl (lv_at hl 1 rfl) ?_
  refine zget (v := .ref b3) (ref := "SumOfTwoThatStand$Street") (C := RX5) (T := TX5) (N := 11) (index := 18) X hh inX5_become_X5 8 rfl rfl 2 (by decide) mmX5_become_6 rfl rfl dX5_become_31 ?_
  refine lv_iconst (v := (0 : Int32)) hx hb dX5_become_34 (by decide) ?_
  refine lv_aload_n hx hb dX5_become_35 rfl (lv_at hl 0 rfl) ?_
  refine zget (v := .ref a3) (ref := "SumOfTwoThatStand$Street") (C := RX5) (T := TX5) (N := 11) (index := 18) X hh inX5_become_X5 0 rfl rfl 2 (by decide) mmX5_become_6 rfl rfl dX5_become_36 ?_
  refine lv_iconst (v := (0 : Int32)) hx hb dX5_become_39 (by decide) ?_
  refine lv_bipush (v := (12 : Int32)) hx hb dX5_become_40 (by decide) ?_
  refine va_copyi hx hb (X.1.2.2.1.trans hl.1.symm) X.1.2.2.2.1 (X.1.2.2.2.2 _ mmX5_become_1) (X.1.2.2.2.2 _ mmX5_become_2) (X.1.2.2.2.2 _ mmX5_become_3) (X.1.2.2.2.2 _ mmX5_become_4) X.2.1 hh.1 hh.2.1 hh.2.2 11 3 0 0 rfl rfl rfl rfl rfl (by decide) (by decide) (by decide) (by decide) (by decide) (fun _ _ => rfl) (Nat.le_of_ble_eq_true rfl) (Nat.le_of_ble_eq_true rfl) dX5_become_42 (fun H locs h1 h2 h3 => ?_)
  have hh : zW K A s H locs (cSt K a0 a1 a2 a3 a4 a5 a6 a7 (st_set_numbers (st_set_figures (st_set_kinds S (va_cpy (st_kinds T) (st_kinds S) (0 : Int32).toNatClampNeg (0 : Int32).toNatClampNeg (12 : Int32).toNatClampNeg)) (va_cpy (st_figures T) (st_figures S) (0 : Int32).toNatClampNeg (0 : Int32).toNatClampNeg (12 : Int32).toNatClampNeg)) (va_cpy (st_numbers T) (st_numbers S) (0 : Int32).toNatClampNeg (0 : Int32).toNatClampNeg (12 : Int32).toNatClampNeg)) ++ cSt K b0 b1 b2 b3 b4 b5 b6 b7 T) := ⟨h1, h2, h3⟩
  refine lv_aload_n hx hb dX5_become_45 rfl (lv_at hl 1 rfl) ?_
  refine zget (v := .ref b4) (ref := "SumOfTwoThatStand$Street") (C := RX5) (T := TX5) (N := 11) (index := 21) X hh inX5_become_X5 8 rfl rfl 3 (by decide) mmX5_become_7 rfl rfl dX5_become_46 ?_
  refine lv_iconst (v := (0 : Int32)) hx hb dX5_become_49 (by decide) ?_
  refine lv_aload_n hx hb dX5_become_50 rfl (lv_at hl 0 rfl) ?_
  refine zget (v := .ref a4) (ref := "SumOfTwoThatStand$Street") (C := RX5) (T := TX5) (N := 11) (index := 21) X hh inX5_become_X5 0 rfl rfl 3 (by decide) mmX5_become_7 rfl rfl dX5_become_51 ?_
  refine lv_iconst (v := (0 : Int32)) hx hb dX5_become_54 (by decide) ?_
  refine lv_bipush (v := (12 : Int32)) hx hb dX5_become_55 (by decide) ?_
  refine va_copyi hx hb (X.1.2.2.1.trans hl.1.symm) X.1.2.2.2.1 (X.1.2.2.2.2 _ mmX5_become_1) (X.1.2.2.2.2 _ mmX5_become_2) (X.1.2.2.2.2 _ mmX5_become_3) (X.1.2.2.2.2 _ mmX5_become_4) X.2.1 hh.1 hh.2.1 hh.2.2 12 4 0 0 rfl rfl rfl rfl rfl (by decide) (by decide) (by decide) (by decide) (by decide) (fun _ _ => rfl) (Nat.le_of_ble_eq_true rfl) (Nat.le_of_ble_eq_true rfl) dX5_become_57 (fun H locs h1 h2 h3 => ?_)
  have hh : zW K A s H locs (cSt K a0 a1 a2 a3 a4 a5 a6 a7 (st_set_firsts (st_set_numbers (st_set_figures (st_set_kinds S (va_cpy (st_kinds T) (st_kinds S) (0 : Int32).toNatClampNeg (0 : Int32).toNatClampNeg (12 : Int32).toNatClampNeg)) (va_cpy (st_figures T) (st_figures S) (0 : Int32).toNatClampNeg (0 : Int32).toNatClampNeg (12 : Int32).toNatClampNeg)) (va_cpy (st_numbers T) (st_numbers S) (0 : Int32).toNatClampNeg (0 : Int32).toNatClampNeg (12 : Int32).toNatClampNeg)) (va_cpy (st_firsts T) (st_firsts S) (0 : Int32).toNatClampNeg (0 : Int32).toNatClampNeg (12 : Int32).toNatClampNeg)) ++ cSt K b0 b1 b2 b3 b4 b5 b6 b7 T) := ⟨h1, h2, h3⟩
  refine lv_aload_n hx hb dX5_become_60 rfl (lv_at hl 1 rfl) ?_
  refine zget (v := .ref b5) (ref := "SumOfTwoThatStand$Street") (C := RX5) (T := TX5) (N := 11) (index := 24) X hh inX5_become_X5 8 rfl rfl 4 (by decide) mmX5_become_8 rfl rfl dX5_become_61 ?_
  refine lv_iconst (v := (0 : Int32)) hx hb dX5_become_64 (by decide) ?_
  refine lv_aload_n hx hb dX5_become_65 rfl (lv_at hl 0 rfl) ?_
  refine zget (v := .ref a5) (ref := "SumOfTwoThatStand$Street") (C := RX5) (T := TX5) (N := 11) (index := 24) X hh inX5_become_X5 0 rfl rfl 4 (by decide) mmX5_become_8 rfl rfl dX5_become_66 ?_
  refine lv_iconst (v := (0 : Int32)) hx hb dX5_become_69 (by decide) ?_
  refine lv_bipush (v := (12 : Int32)) hx hb dX5_become_70 (by decide) ?_
  refine va_copyi hx hb (X.1.2.2.1.trans hl.1.symm) X.1.2.2.2.1 (X.1.2.2.2.2 _ mmX5_become_1) (X.1.2.2.2.2 _ mmX5_become_2) (X.1.2.2.2.2 _ mmX5_become_3) (X.1.2.2.2.2 _ mmX5_become_4) X.2.1 hh.1 hh.2.1 hh.2.2 13 5 0 0 rfl rfl rfl rfl rfl (by decide) (by decide) (by decide) (by decide) (by decide) (fun _ _ => rfl) (Nat.le_of_ble_eq_true rfl) (Nat.le_of_ble_eq_true rfl) dX5_become_72 (fun H locs h1 h2 h3 => ?_)
  have hh : zW K A s H locs (cSt K a0 a1 a2 a3 a4 a5 a6 a7 (st_set_seconds (st_set_firsts (st_set_numbers (st_set_figures (st_set_kinds S (va_cpy (st_kinds T) (st_kinds S) (0 : Int32).toNatClampNeg (0 : Int32).toNatClampNeg (12 : Int32).toNatClampNeg)) (va_cpy (st_figures T) (st_figures S) (0 : Int32).toNatClampNeg (0 : Int32).toNatClampNeg (12 : Int32).toNatClampNeg)) (va_cpy (st_numbers T) (st_numbers S) (0 : Int32).toNatClampNeg (0 : Int32).toNatClampNeg (12 : Int32).toNatClampNeg)) (va_cpy (st_firsts T) (st_firsts S) (0 : Int32).toNatClampNeg (0 : Int32).toNatClampNeg (12 : Int32).toNatClampNeg)) (va_cpy (st_seconds T) (st_seconds S) (0 : Int32).toNatClampNeg (0 : Int32).toNatClampNeg (12 : Int32).toNatClampNeg)) ++ cSt K b0 b1 b2 b3 b4 b5 b6 b7 T) := ⟨h1, h2, h3⟩
  refine lv_aload_n hx hb dX5_become_75 rfl (lv_at hl 1 rfl) ?_
  refine zget (v := .ref b6) (ref := "SumOfTwoThatStand$Street") (C := RX5) (T := TX5) (N := 11) (index := 27) X hh inX5_become_X5 8 rfl rfl 5 (by decide) mmX5_become_9 rfl rfl dX5_become_76 ?_
  refine lv_iconst (v := (0 : Int32)) hx hb dX5_become_79 (by decide) ?_
  refine lv_aload_n hx hb dX5_become_80 rfl (lv_at hl 0 rfl) ?_
  refine zget (v := .ref a6) (ref := "SumOfTwoThatStand$Street") (C := RX5) (T := TX5) (N := 11) (index := 27) X hh inX5_become_X5 0 rfl rfl 5 (by decide) mmX5_become_9 rfl rfl dX5_become_81 ?_
  refine lv_iconst (v := (0 : Int32)) hx hb dX5_become_84 (by decide) ?_
  refine lv_bipush (v := (12 : Int32)) hx hb dX5_become_85 (by decide) ?_
  refine va_copyi hx hb (X.1.2.2.1.trans hl.1.symm) X.1.2.2.2.1 (X.1.2.2.2.2 _ mmX5_become_1) (X.1.2.2.2.2 _ mmX5_become_2) (X.1.2.2.2.2 _ mmX5_become_3) (X.1.2.2.2.2 _ mmX5_become_4) X.2.1 hh.1 hh.2.1 hh.2.2 14 6 0 0 rfl rfl rfl rfl rfl (by decide) (by decide) (by decide) (by decide) (by decide) (fun _ _ => rfl) (Nat.le_of_ble_eq_true rfl) (Nat.le_of_ble_eq_true rfl) dX5_become_87 (fun H locs h1 h2 h3 => ?_)
  have hh : zW K A s H locs (cSt K a0 a1 a2 a3 a4 a5 a6 a7 (st_set_uses (st_set_seconds (st_set_firsts (st_set_numbers (st_set_figures (st_set_kinds S (va_cpy (st_kinds T) (st_kinds S) (0 : Int32).toNatClampNeg (0 : Int32).toNatClampNeg (12 : Int32).toNatClampNeg)) (va_cpy (st_figures T) (st_figures S) (0 : Int32).toNatClampNeg (0 : Int32).toNatClampNeg (12 : Int32).toNatClampNeg)) (va_cpy (st_numbers T) (st_numbers S) (0 : Int32).toNatClampNeg (0 : Int32).toNatClampNeg (12 : Int32).toNatClampNeg)) (va_cpy (st_firsts T) (st_firsts S) (0 : Int32).toNatClampNeg (0 : Int32).toNatClampNeg (12 : Int32).toNatClampNeg)) (va_cpy (st_seconds T) (st_seconds S) (0 : Int32).toNatClampNeg (0 : Int32).toNatClampNeg (12 : Int32).toNatClampNeg)) (va_cpy (st_uses T) (st_uses S) (0 : Int32).toNatClampNeg (0 : Int32).toNatClampNeg (12 : Int32).toNatClampNeg)) ++ cSt K b0 b1 b2 b3 b4 b5 b6 b7 T) := ⟨h1, h2, h3⟩
  refine lv_aload_n hx hb dX5_become_90 rfl (lv_at hl 1 rfl) ?_
  refine zget (v := .ref b7) (ref := "SumOfTwoThatStand$Street") (C := RX5) (T := TX5) (N := 11) (index := 30) X hh inX5_become_X5 8 rfl rfl 6 (by decide) mmX5_become_10 rfl rfl dX5_become_91 ?_
  refine lv_iconst (v := (0 : Int32)) hx hb dX5_become_94 (by decide) ?_
  refine lv_aload_n hx hb dX5_become_95 rfl (lv_at hl 0 rfl) ?_
  refine zget (v := .ref a7) (ref := "SumOfTwoThatStand$Street") (C := RX5) (T := TX5) (N := 11) (index := 30) X hh inX5_become_X5 0 rfl rfl 6 (by decide) mmX5_become_10 rfl rfl dX5_become_96 ?_
  refine lv_iconst (v := (0 : Int32)) hx hb dX5_become_99 (by decide) ?_
  refine lv_bipush (v := (12 : Int32)) hx hb dX5_become_100 (by decide) ?_
  refine va_copyi hx hb (X.1.2.2.1.trans hl.1.symm) X.1.2.2.2.1 (X.1.2.2.2.2 _ mmX5_become_1) (X.1.2.2.2.2 _ mmX5_become_2) (X.1.2.2.2.2 _ mmX5_become_3) (X.1.2.2.2.2 _ mmX5_become_4) X.2.1 hh.1 hh.2.1 hh.2.2 15 7 0 0 rfl rfl rfl rfl rfl (by decide) (by decide) (by decide) (by decide) (by decide) (fun _ _ => rfl) (Nat.le_of_ble_eq_true rfl) (Nat.le_of_ble_eq_true rfl) dX5_become_102 (fun H locs h1 h2 h3 => ?_)
  have hh : zW K A s H locs (cSt K a0 a1 a2 a3 a4 a5 a6 a7 (st_set_earned (st_set_uses (st_set_seconds (st_set_firsts (st_set_numbers (st_set_figures (st_set_kinds S (va_cpy (st_kinds T) (st_kinds S) (0 : Int32).toNatClampNeg (0 : Int32).toNatClampNeg (12 : Int32).toNatClampNeg)) (va_cpy (st_figures T) (st_figures S) (0 : Int32).toNatClampNeg (0 : Int32).toNatClampNeg (12 : Int32).toNatClampNeg)) (va_cpy (st_numbers T) (st_numbers S) (0 : Int32).toNatClampNeg (0 : Int32).toNatClampNeg (12 : Int32).toNatClampNeg)) (va_cpy (st_firsts T) (st_firsts S) (0 : Int32).toNatClampNeg (0 : Int32).toNatClampNeg (12 : Int32).toNatClampNeg)) (va_cpy (st_seconds T) (st_seconds S) (0 : Int32).toNatClampNeg (0 : Int32).toNatClampNeg (12 : Int32).toNatClampNeg)) (va_cpy (st_uses T) (st_uses S) (0 : Int32).toNatClampNeg (0 : Int32).toNatClampNeg (12 : Int32).toNatClampNeg)) (va_cpy (st_earned T) (st_earned S) (0 : Int32).toNatClampNeg (0 : Int32).toNatClampNeg (12 : Int32).toNatClampNeg)) ++ cSt K b0 b1 b2 b3 b4 b5 b6 b7 T) := ⟨h1, h2, h3⟩
  refine lv_aload_n hx hb dX5_become_105 rfl (lv_at hl 0 rfl) ?_
  refine lv_aload_n hx hb dX5_become_106 rfl (lv_at hl 1 rfl) ?_
  refine zget (v := .int (st_came T)) (ref := "SumOfTwoThatStand$Street") (C := RX5) (T := TX5) (N := 11) (index := 36) X hh inX5_become_X5 8 rfl rfl 7 (by decide) mmX5_become_11 rfl rfl dX5_become_107 ?_
  refine zput (v := .int (st_came T)) (ty := .int) (ref := "SumOfTwoThatStand$Street") (C := RX5) (T := TX5) (N := 11) (index := 36) X hh inX5_become_X5 tyX5 tyX5_ok nmX5 0 rfl rfl 7 (by decide) mmX5_become_11 rfl rfl (by decide +kernel) rfl rfl (Nat.le_of_ble_eq_true rfl) dX5_become_110 (fun H locs hh => ?_)
  have hh : zW K A s H locs (cSt K a0 a1 a2 a3 a4 a5 a6 a7 (st_set_came (st_set_earned (st_set_uses (st_set_seconds (st_set_firsts (st_set_numbers (st_set_figures (st_set_kinds S (va_cpy (st_kinds T) (st_kinds S) (0 : Int32).toNatClampNeg (0 : Int32).toNatClampNeg (12 : Int32).toNatClampNeg)) (va_cpy (st_figures T) (st_figures S) (0 : Int32).toNatClampNeg (0 : Int32).toNatClampNeg (12 : Int32).toNatClampNeg)) (va_cpy (st_numbers T) (st_numbers S) (0 : Int32).toNatClampNeg (0 : Int32).toNatClampNeg (12 : Int32).toNatClampNeg)) (va_cpy (st_firsts T) (st_firsts S) (0 : Int32).toNatClampNeg (0 : Int32).toNatClampNeg (12 : Int32).toNatClampNeg)) (va_cpy (st_seconds T) (st_seconds S) (0 : Int32).toNatClampNeg (0 : Int32).toNatClampNeg (12 : Int32).toNatClampNeg)) (va_cpy (st_uses T) (st_uses S) (0 : Int32).toNatClampNeg (0 : Int32).toNatClampNeg (12 : Int32).toNatClampNeg)) (va_cpy (st_earned T) (st_earned S) (0 : Int32).toNatClampNeg (0 : Int32).toNatClampNeg (12 : Int32).toNatClampNeg)) (st_came T)) ++ cSt K b0 b1 b2 b3 b4 b5 b6 b7 T) := hh
  refine lv_aload_n hx hb dX5_become_113 rfl (lv_at hl 0 rfl) ?_
  refine lv_aload_n hx hb dX5_become_114 rfl (lv_at hl 1 rfl) ?_
  refine zget (v := .int (st_standing T)) (ref := "SumOfTwoThatStand$Street") (C := RX5) (T := TX5) (N := 11) (index := 40) X hh inX5_become_X5 8 rfl rfl 8 (by decide) mmX5_become_12 rfl rfl dX5_become_115 ?_
  refine zput (v := .int (st_standing T)) (ty := .int) (ref := "SumOfTwoThatStand$Street") (C := RX5) (T := TX5) (N := 11) (index := 40) X hh inX5_become_X5 tyX5 tyX5_ok nmX5 0 rfl rfl 8 (by decide) mmX5_become_12 rfl rfl (by decide +kernel) rfl rfl (Nat.le_of_ble_eq_true rfl) dX5_become_118 (fun H locs hh => ?_)
  have hh : zW K A s H locs (cSt K a0 a1 a2 a3 a4 a5 a6 a7 (st_set_standing (st_set_came (st_set_earned (st_set_uses (st_set_seconds (st_set_firsts (st_set_numbers (st_set_figures (st_set_kinds S (va_cpy (st_kinds T) (st_kinds S) (0 : Int32).toNatClampNeg (0 : Int32).toNatClampNeg (12 : Int32).toNatClampNeg)) (va_cpy (st_figures T) (st_figures S) (0 : Int32).toNatClampNeg (0 : Int32).toNatClampNeg (12 : Int32).toNatClampNeg)) (va_cpy (st_numbers T) (st_numbers S) (0 : Int32).toNatClampNeg (0 : Int32).toNatClampNeg (12 : Int32).toNatClampNeg)) (va_cpy (st_firsts T) (st_firsts S) (0 : Int32).toNatClampNeg (0 : Int32).toNatClampNeg (12 : Int32).toNatClampNeg)) (va_cpy (st_seconds T) (st_seconds S) (0 : Int32).toNatClampNeg (0 : Int32).toNatClampNeg (12 : Int32).toNatClampNeg)) (va_cpy (st_uses T) (st_uses S) (0 : Int32).toNatClampNeg (0 : Int32).toNatClampNeg (12 : Int32).toNatClampNeg)) (va_cpy (st_earned T) (st_earned S) (0 : Int32).toNatClampNeg (0 : Int32).toNatClampNeg (12 : Int32).toNatClampNeg)) (st_came T)) (st_standing T)) ++ cSt K b0 b1 b2 b3 b4 b5 b6 b7 T) := hh
  refine lv_aload_n hx hb dX5_become_121 rfl (lv_at hl 0 rfl) ?_
  refine lv_aload_n hx hb dX5_become_122 rfl (lv_at hl 1 rfl) ?_
  refine zget (v := .int (st_sums T)) (ref := "SumOfTwoThatStand$Street") (C := RX5) (T := TX5) (N := 11) (index := 53) X hh inX5_become_X5 8 rfl rfl 9 (by decide) mmX5_become_13 rfl rfl dX5_become_123 ?_
  refine zput (v := .int (st_sums T)) (ty := .int) (ref := "SumOfTwoThatStand$Street") (C := RX5) (T := TX5) (N := 11) (index := 53) X hh inX5_become_X5 tyX5 tyX5_ok nmX5 0 rfl rfl 9 (by decide) mmX5_become_13 rfl rfl (by decide +kernel) rfl rfl (Nat.le_of_ble_eq_true rfl) dX5_become_126 (fun H locs hh => ?_)
  have hh : zW K A s H locs (cSt K a0 a1 a2 a3 a4 a5 a6 a7 (st_set_sums (st_set_standing (st_set_came (st_set_earned (st_set_uses (st_set_seconds (st_set_firsts (st_set_numbers (st_set_figures (st_set_kinds S (va_cpy (st_kinds T) (st_kinds S) (0 : Int32).toNatClampNeg (0 : Int32).toNatClampNeg (12 : Int32).toNatClampNeg)) (va_cpy (st_figures T) (st_figures S) (0 : Int32).toNatClampNeg (0 : Int32).toNatClampNeg (12 : Int32).toNatClampNeg)) (va_cpy (st_numbers T) (st_numbers S) (0 : Int32).toNatClampNeg (0 : Int32).toNatClampNeg (12 : Int32).toNatClampNeg)) (va_cpy (st_firsts T) (st_firsts S) (0 : Int32).toNatClampNeg (0 : Int32).toNatClampNeg (12 : Int32).toNatClampNeg)) (va_cpy (st_seconds T) (st_seconds S) (0 : Int32).toNatClampNeg (0 : Int32).toNatClampNeg (12 : Int32).toNatClampNeg)) (va_cpy (st_uses T) (st_uses S) (0 : Int32).toNatClampNeg (0 : Int32).toNatClampNeg (12 : Int32).toNatClampNeg)) (va_cpy (st_earned T) (st_earned S) (0 : Int32).toNatClampNeg (0 : Int32).toNatClampNeg (12 : Int32).toNatClampNeg)) (st_came T)) (st_standing T)) (st_sums T)) ++ cSt K b0 b1 b2 b3 b4 b5 b6 b7 T) := hh
  refine lv_aload_n hx hb dX5_become_129 rfl (lv_at hl 0 rfl) ?_
  refine lv_aload_n hx hb dX5_become_130 rfl (lv_at hl 1 rfl) ?_
  refine zget (v := .int (st_falls T)) (ref := "SumOfTwoThatStand$Street") (C := RX5) (T := TX5) (N := 11) (index := 56) X hh inX5_become_X5 8 rfl rfl 10 (by decide) mmX5_become_14 rfl rfl dX5_become_131 ?_
  refine zput (v := .int (st_falls T)) (ty := .int) (ref := "SumOfTwoThatStand$Street") (C := RX5) (T := TX5) (N := 11) (index := 56) X hh inX5_become_X5 tyX5 tyX5_ok nmX5 0 rfl rfl 10 (by decide) mmX5_become_14 rfl rfl (by decide +kernel) rfl rfl (Nat.le_of_ble_eq_true rfl) dX5_become_134 (fun H locs hh => ?_)
  have hh : zW K A s H locs (cSt K a0 a1 a2 a3 a4 a5 a6 a7 (st_set_falls (st_set_sums (st_set_standing (st_set_came (st_set_earned (st_set_uses (st_set_seconds (st_set_firsts (st_set_numbers (st_set_figures (st_set_kinds S (va_cpy (st_kinds T) (st_kinds S) (0 : Int32).toNatClampNeg (0 : Int32).toNatClampNeg (12 : Int32).toNatClampNeg)) (va_cpy (st_figures T) (st_figures S) (0 : Int32).toNatClampNeg (0 : Int32).toNatClampNeg (12 : Int32).toNatClampNeg)) (va_cpy (st_numbers T) (st_numbers S) (0 : Int32).toNatClampNeg (0 : Int32).toNatClampNeg (12 : Int32).toNatClampNeg)) (va_cpy (st_firsts T) (st_firsts S) (0 : Int32).toNatClampNeg (0 : Int32).toNatClampNeg (12 : Int32).toNatClampNeg)) (va_cpy (st_seconds T) (st_seconds S) (0 : Int32).toNatClampNeg (0 : Int32).toNatClampNeg (12 : Int32).toNatClampNeg)) (va_cpy (st_uses T) (st_uses S) (0 : Int32).toNatClampNeg (0 : Int32).toNatClampNeg (12 : Int32).toNatClampNeg)) (va_cpy (st_earned T) (st_earned S) (0 : Int32).toNatClampNeg (0 : Int32).toNatClampNeg (12 : Int32).toNatClampNeg)) (st_came T)) (st_standing T)) (st_sums T)) (st_falls T)) ++ cSt K b0 b1 b2 b3 b4 b5 b6 b7 T) := hh
  exact hr2 137 ls H locs (st_set_falls (st_set_sums (st_set_standing (st_set_came (st_set_earned (st_set_uses (st_set_seconds (st_set_firsts (st_set_numbers (st_set_figures (st_set_kinds S (va_cpy (st_kinds T) (st_kinds S) (0 : Int32).toNatClampNeg (0 : Int32).toNatClampNeg (12 : Int32).toNatClampNeg)) (va_cpy (st_figures T) (st_figures S) (0 : Int32).toNatClampNeg (0 : Int32).toNatClampNeg (12 : Int32).toNatClampNeg)) (va_cpy (st_numbers T) (st_numbers S) (0 : Int32).toNatClampNeg (0 : Int32).toNatClampNeg (12 : Int32).toNatClampNeg)) (va_cpy (st_firsts T) (st_firsts S) (0 : Int32).toNatClampNeg (0 : Int32).toNatClampNeg (12 : Int32).toNatClampNeg)) (va_cpy (st_seconds T) (st_seconds S) (0 : Int32).toNatClampNeg (0 : Int32).toNatClampNeg (12 : Int32).toNatClampNeg)) (va_cpy (st_uses T) (st_uses S) (0 : Int32).toNatClampNeg (0 : Int32).toNatClampNeg (12 : Int32).toNatClampNeg)) (va_cpy (st_earned T) (st_earned S) (0 : Int32).toNatClampNeg (0 : Int32).toNatClampNeg (12 : Int32).toNatClampNeg)) (st_came T)) (st_standing T)) (st_sums T)) (st_falls T)) hf dX5_become_137 hh
end
section
theorem zz_end : True := trivial
end
