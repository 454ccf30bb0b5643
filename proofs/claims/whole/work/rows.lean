section
-- ===== PART A: goes FIRST, ahead of the names: the tables' words, and 'selects' of the private methods out of them =====
/-- a private method of a class that the tables say can be made, by its rows of tables_1 -/
def lw_okq (q : MethodName × Nat) : Prop := (q.1.cls ≠ "java/lang/invoke/MethodHandle" ∧ q.1.cls ≠ "java/lang/invoke/VarHandle") ∧ Cond.instantiable q.1.cls q.2 ∈ tables_1 ∧ Cond.privateMethod q.1 ∈ tables_1 ∧ Cond.instanceMethod q.1 ∈ tables_1
theorem lw_p0 : lw_okq (⟨"DatedJars$Reader", "skipBlanks", "()V"⟩, 6) := ⟨⟨by decide +kernel, by decide +kernel⟩, List.mem_of_getElem? (i := 135) (by decide +kernel), List.mem_of_getElem? (i := 322) (by decide +kernel), List.mem_of_getElem? (i := 323) (by decide +kernel)⟩
theorem lw_p1 : lw_okq (⟨"DatedJars$Reader", "readClause", "(LDatedJars$Land;)V"⟩, 6) := ⟨⟨by decide +kernel, by decide +kernel⟩, List.mem_of_getElem? (i := 135) (by decide +kernel), List.mem_of_getElem? (i := 326) (by decide +kernel), List.mem_of_getElem? (i := 327) (by decide +kernel)⟩
theorem lw_p2 : lw_okq (⟨"DatedJars$Reader", "skipLetters", "()V"⟩, 6) := ⟨⟨by decide +kernel, by decide +kernel⟩, List.mem_of_getElem? (i := 135) (by decide +kernel), List.mem_of_getElem? (i := 330) (by decide +kernel), List.mem_of_getElem? (i := 331) (by decide +kernel)⟩
theorem lw_p3 : lw_okq (⟨"DatedJars$Reader", "wordIs", "(ILjava/lang/String;)Z"⟩, 6) := ⟨⟨by decide +kernel, by decide +kernel⟩, List.mem_of_getElem? (i := 135) (by decide +kernel), List.mem_of_getElem? (i := 335) (by decide +kernel), List.mem_of_getElem? (i := 336) (by decide +kernel)⟩
theorem lw_p4 : lw_okq (⟨"DatedJars$Reader", "readHarvest", "(ILDatedJars$Land;)V"⟩, 6) := ⟨⟨by decide +kernel, by decide +kernel⟩, List.mem_of_getElem? (i := 135) (by decide +kernel), List.mem_of_getElem? (i := 387) (by decide +kernel), List.mem_of_getElem? (i := 388) (by decide +kernel)⟩
theorem lw_p5 : lw_okq (⟨"DatedJars$Reader", "fail", "(II)V"⟩, 6) := ⟨⟨by decide +kernel, by decide +kernel⟩, List.mem_of_getElem? (i := 135) (by decide +kernel), List.mem_of_getElem? (i := 391) (by decide +kernel), List.mem_of_getElem? (i := 392) (by decide +kernel)⟩
theorem lw_p6 : lw_okq (⟨"DatedJars$Reader", "readNumber", "(II)I"⟩, 6) := ⟨⟨by decide +kernel, by decide +kernel⟩, List.mem_of_getElem? (i := 135) (by decide +kernel), List.mem_of_getElem? (i := 395) (by decide +kernel), List.mem_of_getElem? (i := 396) (by decide +kernel)⟩
theorem lw_p7 : lw_okq (⟨"DatedJars$Reader", "nextIs", "(C)Z"⟩, 6) := ⟨⟨by decide +kernel, by decide +kernel⟩, List.mem_of_getElem? (i := 135) (by decide +kernel), List.mem_of_getElem? (i := 403) (by decide +kernel), List.mem_of_getElem? (i := 404) (by decide +kernel)⟩
theorem lw_p8 : lw_okq (⟨"DatedJars$Reader", "readEnd", "()V"⟩, 6) := ⟨⟨by decide +kernel, by decide +kernel⟩, List.mem_of_getElem? (i := 135) (by decide +kernel), List.mem_of_getElem? (i := 407) (by decide +kernel), List.mem_of_getElem? (i := 408) (by decide +kernel)⟩
theorem lw_p9 : lw_okq (⟨"DatedJars$Reader", "readHouse", "(ILDatedJars$Land;)V"⟩, 6) := ⟨⟨by decide +kernel, by decide +kernel⟩, List.mem_of_getElem? (i := 135) (by decide +kernel), List.mem_of_getElem? (i := 412) (by decide +kernel), List.mem_of_getElem? (i := 413) (by decide +kernel)⟩
theorem lw_p10 : lw_okq (⟨"DatedJars$Reader", "readJar", "(ILDatedJars$Land;)V"⟩, 6) := ⟨⟨by decide +kernel, by decide +kernel⟩, List.mem_of_getElem? (i := 135) (by decide +kernel), List.mem_of_getElem? (i := 421) (by decide +kernel), List.mem_of_getElem? (i := 422) (by decide +kernel)⟩
theorem lw_p11 : lw_okq (⟨"DatedJars$Reader", "readKind", "()I"⟩, 6) := ⟨⟨by decide +kernel, by decide +kernel⟩, List.mem_of_getElem? (i := 135) (by decide +kernel), List.mem_of_getElem? (i := 425) (by decide +kernel), List.mem_of_getElem? (i := 426) (by decide +kernel)⟩
theorem lw_p12 : lw_okq (⟨"DatedJars$Land", "burstJars", "()V"⟩, 12) := ⟨⟨by decide +kernel, by decide +kernel⟩, List.mem_of_getElem? (i := 26) (by decide +kernel), List.mem_of_getElem? (i := 548) (by decide +kernel), List.mem_of_getElem? (i := 549) (by decide +kernel)⟩
theorem lw_p13 : lw_okq (⟨"DatedJars$Land", "feedHouse", "(II)I"⟩, 12) := ⟨⟨by decide +kernel, by decide +kernel⟩, List.mem_of_getElem? (i := 26) (by decide +kernel), List.mem_of_getElem? (i := 563) (by decide +kernel), List.mem_of_getElem? (i := 564) (by decide +kernel)⟩
theorem lw_p14 : lw_okq (⟨"DatedJars$Planner", "lookAtYear", "(LDatedJars$Land;II)V"⟩, 8) := ⟨⟨by decide +kernel, by decide +kernel⟩, List.mem_of_getElem? (i := 165) (by decide +kernel), List.mem_of_getElem? (i := 596) (by decide +kernel), List.mem_of_getElem? (i := 597) (by decide +kernel)⟩
theorem lw_p15 : lw_okq (⟨"DatedJars$Planner", "leastHunger", "([II)I"⟩, 8) := ⟨⟨by decide +kernel, by decide +kernel⟩, List.mem_of_getElem? (i := 165) (by decide +kernel), List.mem_of_getElem? (i := 603) (by decide +kernel), List.mem_of_getElem? (i := 604) (by decide +kernel)⟩
def lw_privs_1 : List (MethodName × Nat) := [(⟨"DatedJars$Reader", "skipBlanks", "()V"⟩, 6), (⟨"DatedJars$Reader", "readClause", "(LDatedJars$Land;)V"⟩, 6), (⟨"DatedJars$Reader", "skipLetters", "()V"⟩, 6), (⟨"DatedJars$Reader", "wordIs", "(ILjava/lang/String;)Z"⟩, 6), (⟨"DatedJars$Reader", "readHarvest", "(ILDatedJars$Land;)V"⟩, 6), (⟨"DatedJars$Reader", "fail", "(II)V"⟩, 6), (⟨"DatedJars$Reader", "readNumber", "(II)I"⟩, 6), (⟨"DatedJars$Reader", "nextIs", "(C)Z"⟩, 6), (⟨"DatedJars$Reader", "readEnd", "()V"⟩, 6), (⟨"DatedJars$Reader", "readHouse", "(ILDatedJars$Land;)V"⟩, 6), (⟨"DatedJars$Reader", "readJar", "(ILDatedJars$Land;)V"⟩, 6), (⟨"DatedJars$Reader", "readKind", "()I"⟩, 6), (⟨"DatedJars$Land", "burstJars", "()V"⟩, 12), (⟨"DatedJars$Land", "feedHouse", "(II)I"⟩, 12), (⟨"DatedJars$Planner", "lookAtYear", "(LDatedJars$Land;II)V"⟩, 8), (⟨"DatedJars$Planner", "leastHunger", "([II)I"⟩, 8)]
theorem lw_r1 : ∀ q ∈ lw_privs_1, lw_okq q := List.forall_mem_cons.mpr ⟨lw_p0, List.forall_mem_cons.mpr ⟨lw_p1, List.forall_mem_cons.mpr ⟨lw_p2, List.forall_mem_cons.mpr ⟨lw_p3, List.forall_mem_cons.mpr ⟨lw_p4, List.forall_mem_cons.mpr ⟨lw_p5, List.forall_mem_cons.mpr ⟨lw_p6, List.forall_mem_cons.mpr ⟨lw_p7, List.forall_mem_cons.mpr ⟨lw_p8, List.forall_mem_cons.mpr ⟨lw_p9, List.forall_mem_cons.mpr ⟨lw_p10, List.forall_mem_cons.mpr ⟨lw_p11, List.forall_mem_cons.mpr ⟨lw_p12, List.forall_mem_cons.mpr ⟨lw_p13, List.forall_mem_cons.mpr ⟨lw_p14, List.forall_mem_cons.mpr ⟨lw_p15, fun _ h => absurd h List.not_mem_nil⟩⟩⟩⟩⟩⟩⟩⟩⟩⟩⟩⟩⟩⟩⟩⟩
theorem lw_p16 : lw_okq (⟨"DatedJars$Planner", "hungerWith", "(I[II)I"⟩, 8) := ⟨⟨by decide +kernel, by decide +kernel⟩, List.mem_of_getElem? (i := 165) (by decide +kernel), List.mem_of_getElem? (i := 607) (by decide +kernel), List.mem_of_getElem? (i := 608) (by decide +kernel)⟩
theorem lw_p17 : lw_okq (⟨"DatedJars$Planner", "chooseSets", "(LDatedJars$Land;II)V"⟩, 8) := ⟨⟨by decide +kernel, by decide +kernel⟩, List.mem_of_getElem? (i := 165) (by decide +kernel), List.mem_of_getElem? (i := 611) (by decide +kernel), List.mem_of_getElem? (i := 612) (by decide +kernel)⟩
theorem lw_p18 : lw_okq (⟨"DatedJars$Planner", "firstOf", "([III)I"⟩, 8) := ⟨⟨by decide +kernel, by decide +kernel⟩, List.mem_of_getElem? (i := 165) (by decide +kernel), List.mem_of_getElem? (i := 615) (by decide +kernel), List.mem_of_getElem? (i := 616) (by decide +kernel)⟩
theorem lw_p19 : lw_okq (⟨"DatedJars$Planner", "jarsOf", "(I)I"⟩, 8) := ⟨⟨by decide +kernel, by decide +kernel⟩, List.mem_of_getElem? (i := 165) (by decide +kernel), List.mem_of_getElem? (i := 619) (by decide +kernel), List.mem_of_getElem? (i := 620) (by decide +kernel)⟩
theorem lw_p20 : lw_okq (⟨"DatedJars", "doFirstChange", "(I)Z"⟩, 10) := ⟨⟨by decide +kernel, by decide +kernel⟩, List.mem_of_getElem? (i := 18) (by decide +kernel), List.mem_of_getElem? (i := 632) (by decide +kernel), List.mem_of_getElem? (i := 633) (by decide +kernel)⟩
theorem lw_p21 : lw_okq (⟨"DatedJars", "isBetterChanged", "(III)Z"⟩, 10) := ⟨⟨by decide +kernel, by decide +kernel⟩, List.mem_of_getElem? (i := 18) (by decide +kernel), List.mem_of_getElem? (i := 637) (by decide +kernel), List.mem_of_getElem? (i := 638) (by decide +kernel)⟩
theorem lw_p22 : lw_okq (⟨"DatedJars$Dealer", "countWays", "()I"⟩, 8) := ⟨⟨by decide +kernel, by decide +kernel⟩, List.mem_of_getElem? (i := 200) (by decide +kernel), List.mem_of_getElem? (i := 655) (by decide +kernel), List.mem_of_getElem? (i := 656) (by decide +kernel)⟩
theorem lw_p23 : lw_okq (⟨"DatedJars$Dealer", "differenceOf", "(LDatedJars$Cellar;)I"⟩, 8) := ⟨⟨by decide +kernel, by decide +kernel⟩, List.mem_of_getElem? (i := 200) (by decide +kernel), List.mem_of_getElem? (i := 659) (by decide +kernel), List.mem_of_getElem? (i := 660) (by decide +kernel)⟩
theorem lw_p24 : lw_okq (⟨"DatedJars$Dealer", "nextWay", "()V"⟩, 8) := ⟨⟨by decide +kernel, by decide +kernel⟩, List.mem_of_getElem? (i := 200) (by decide +kernel), List.mem_of_getElem? (i := 666) (by decide +kernel), List.mem_of_getElem? (i := 667) (by decide +kernel)⟩
theorem lw_p25 : lw_okq (⟨"DatedJars", "hungerOfSiege", "(II)I"⟩, 10) := ⟨⟨by decide +kernel, by decide +kernel⟩, List.mem_of_getElem? (i := 18) (by decide +kernel), List.mem_of_getElem? (i := 678) (by decide +kernel), List.mem_of_getElem? (i := 679) (by decide +kernel)⟩
theorem lw_p26 : lw_okq (⟨"DatedJars$Glass", "findContradicted", "(LDatedJars$Cellar;)I"⟩, 4) := ⟨⟨by decide +kernel, by decide +kernel⟩, List.mem_of_getElem? (i := 232) (by decide +kernel), List.mem_of_getElem? (i := 708) (by decide +kernel), List.mem_of_getElem? (i := 709) (by decide +kernel)⟩
theorem lw_p27 : lw_okq (⟨"DatedJarsModel", "here", "()I"⟩, 28) := ⟨⟨by decide +kernel, by decide +kernel⟩, List.mem_of_getElem? (i := 754) (by decide +kernel), List.mem_of_getElem? (i := 860) (by decide +kernel), List.mem_of_getElem? (i := 861) (by decide +kernel)⟩
theorem lw_p28 : lw_okq (⟨"DatedJarsModel", "takeClause", "()V"⟩, 28) := ⟨⟨by decide +kernel, by decide +kernel⟩, List.mem_of_getElem? (i := 754) (by decide +kernel), List.mem_of_getElem? (i := 864) (by decide +kernel), List.mem_of_getElem? (i := 865) (by decide +kernel)⟩
theorem lw_p29 : lw_okq (⟨"DatedJarsModel", "takeWord", "()V"⟩, 28) := ⟨⟨by decide +kernel, by decide +kernel⟩, List.mem_of_getElem? (i := 754) (by decide +kernel), List.mem_of_getElem? (i := 868) (by decide +kernel), List.mem_of_getElem? (i := 869) (by decide +kernel)⟩
theorem lw_p30 : lw_okq (⟨"DatedJarsModel", "isHarvestWord", "()Z"⟩, 28) := ⟨⟨by decide +kernel, by decide +kernel⟩, List.mem_of_getElem? (i := 754) (by decide +kernel), List.mem_of_getElem? (i := 874) (by decide +kernel), List.mem_of_getElem? (i := 875) (by decide +kernel)⟩
theorem lw_p31 : lw_okq (⟨"DatedJarsModel", "isWord", "(IIIIII)Z"⟩, 28) := ⟨⟨by decide +kernel, by decide +kernel⟩, List.mem_of_getElem? (i := 754) (by decide +kernel), List.mem_of_getElem? (i := 878) (by decide +kernel), List.mem_of_getElem? (i := 879) (by decide +kernel)⟩
def lw_privs_2 : List (MethodName × Nat) := [(⟨"DatedJars$Planner", "hungerWith", "(I[II)I"⟩, 8), (⟨"DatedJars$Planner", "chooseSets", "(LDatedJars$Land;II)V"⟩, 8), (⟨"DatedJars$Planner", "firstOf", "([III)I"⟩, 8), (⟨"DatedJars$Planner", "jarsOf", "(I)I"⟩, 8), (⟨"DatedJars", "doFirstChange", "(I)Z"⟩, 10), (⟨"DatedJars", "isBetterChanged", "(III)Z"⟩, 10), (⟨"DatedJars$Dealer", "countWays", "()I"⟩, 8), (⟨"DatedJars$Dealer", "differenceOf", "(LDatedJars$Cellar;)I"⟩, 8), (⟨"DatedJars$Dealer", "nextWay", "()V"⟩, 8), (⟨"DatedJars", "hungerOfSiege", "(II)I"⟩, 10), (⟨"DatedJars$Glass", "findContradicted", "(LDatedJars$Cellar;)I"⟩, 4), (⟨"DatedJarsModel", "here", "()I"⟩, 28), (⟨"DatedJarsModel", "takeClause", "()V"⟩, 28), (⟨"DatedJarsModel", "takeWord", "()V"⟩, 28), (⟨"DatedJarsModel", "isHarvestWord", "()Z"⟩, 28), (⟨"DatedJarsModel", "isWord", "(IIIIII)Z"⟩, 28)]
theorem lw_r2 : ∀ q ∈ lw_privs_2, lw_okq q := List.forall_mem_cons.mpr ⟨lw_p16, List.forall_mem_cons.mpr ⟨lw_p17, List.forall_mem_cons.mpr ⟨lw_p18, List.forall_mem_cons.mpr ⟨lw_p19, List.forall_mem_cons.mpr ⟨lw_p20, List.forall_mem_cons.mpr ⟨lw_p21, List.forall_mem_cons.mpr ⟨lw_p22, List.forall_mem_cons.mpr ⟨lw_p23, List.forall_mem_cons.mpr ⟨lw_p24, List.forall_mem_cons.mpr ⟨lw_p25, List.forall_mem_cons.mpr ⟨lw_p26, List.forall_mem_cons.mpr ⟨lw_p27, List.forall_mem_cons.mpr ⟨lw_p28, List.forall_mem_cons.mpr ⟨lw_p29, List.forall_mem_cons.mpr ⟨lw_p30, List.forall_mem_cons.mpr ⟨lw_p31, fun _ h => absurd h List.not_mem_nil⟩⟩⟩⟩⟩⟩⟩⟩⟩⟩⟩⟩⟩⟩⟩⟩
theorem lw_p32 : lw_okq (⟨"DatedJarsModel", "want", "(ZII)Z"⟩, 28) := ⟨⟨by decide +kernel, by decide +kernel⟩, List.mem_of_getElem? (i := 754) (by decide +kernel), List.mem_of_getElem? (i := 882) (by decide +kernel), List.mem_of_getElem? (i := 883) (by decide +kernel)⟩
theorem lw_p33 : lw_okq (⟨"DatedJarsModel", "takeHarvest", "()V"⟩, 28) := ⟨⟨by decide +kernel, by decide +kernel⟩, List.mem_of_getElem? (i := 754) (by decide +kernel), List.mem_of_getElem? (i := 886) (by decide +kernel), List.mem_of_getElem? (i := 887) (by decide +kernel)⟩
theorem lw_p34 : lw_okq (⟨"DatedJarsModel", "takeNumber", "(II)I"⟩, 28) := ⟨⟨by decide +kernel, by decide +kernel⟩, List.mem_of_getElem? (i := 754) (by decide +kernel), List.mem_of_getElem? (i := 890) (by decide +kernel), List.mem_of_getElem? (i := 891) (by decide +kernel)⟩
theorem lw_p35 : lw_okq (⟨"DatedJarsModel", "takeHouse", "()V"⟩, 28) := ⟨⟨by decide +kernel, by decide +kernel⟩, List.mem_of_getElem? (i := 754) (by decide +kernel), List.mem_of_getElem? (i := 897) (by decide +kernel), List.mem_of_getElem? (i := 898) (by decide +kernel)⟩
theorem lw_p36 : lw_okq (⟨"DatedJarsModel", "takeJar", "()V"⟩, 28) := ⟨⟨by decide +kernel, by decide +kernel⟩, List.mem_of_getElem? (i := 754) (by decide +kernel), List.mem_of_getElem? (i := 901) (by decide +kernel), List.mem_of_getElem? (i := 902) (by decide +kernel)⟩
theorem lw_p37 : lw_okq (⟨"DatedJarsModel", "add", "(IIIIIII)V"⟩, 28) := ⟨⟨by decide +kernel, by decide +kernel⟩, List.mem_of_getElem? (i := 754) (by decide +kernel), List.mem_of_getElem? (i := 905) (by decide +kernel), List.mem_of_getElem? (i := 906) (by decide +kernel)⟩
theorem lw_p38 : lw_okq (⟨"DatedJarsModel", "harvestOf", "(I)I"⟩, 28) := ⟨⟨by decide +kernel, by decide +kernel⟩, List.mem_of_getElem? (i := 754) (by decide +kernel), List.mem_of_getElem? (i := 917) (by decide +kernel), List.mem_of_getElem? (i := 918) (by decide +kernel)⟩
theorem lw_p39 : lw_okq (⟨"DatedJarsModel", "gone", "()I"⟩, 28) := ⟨⟨by decide +kernel, by decide +kernel⟩, List.mem_of_getElem? (i := 754) (by decide +kernel), List.mem_of_getElem? (i := 921) (by decide +kernel), List.mem_of_getElem? (i := 922) (by decide +kernel)⟩
theorem lw_p40 : lw_okq (⟨"DatedJarsModel", "isHouse", "(I)Z"⟩, 28) := ⟨⟨by decide +kernel, by decide +kernel⟩, List.mem_of_getElem? (i := 754) (by decide +kernel), List.mem_of_getElem? (i := 929) (by decide +kernel), List.mem_of_getElem? (i := 930) (by decide +kernel)⟩
theorem lw_p41 : lw_okq (⟨"DatedJarsModel", "jarsOf", "(IZ)I"⟩, 28) := ⟨⟨by decide +kernel, by decide +kernel⟩, List.mem_of_getElem? (i := 754) (by decide +kernel), List.mem_of_getElem? (i := 934) (by decide +kernel), List.mem_of_getElem? (i := 935) (by decide +kernel)⟩
theorem lw_p42 : lw_okq (⟨"DatedJarsModel", "may", "(III)Z"⟩, 28) := ⟨⟨by decide +kernel, by decide +kernel⟩, List.mem_of_getElem? (i := 754) (by decide +kernel), List.mem_of_getElem? (i := 938) (by decide +kernel), List.mem_of_getElem? (i := 939) (by decide +kernel)⟩
theorem lw_p43 : lw_okq (⟨"DatedJarsModel", "mayBe", "(III)Z"⟩, 28) := ⟨⟨by decide +kernel, by decide +kernel⟩, List.mem_of_getElem? (i := 754) (by decide +kernel), List.mem_of_getElem? (i := 942) (by decide +kernel), List.mem_of_getElem? (i := 943) (by decide +kernel)⟩
theorem lw_p44 : lw_okq (⟨"DatedJarsModel", "isJar", "(I)Z"⟩, 28) := ⟨⟨by decide +kernel, by decide +kernel⟩, List.mem_of_getElem? (i := 754) (by decide +kernel), List.mem_of_getElem? (i := 953) (by decide +kernel), List.mem_of_getElem? (i := 954) (by decide +kernel)⟩
theorem lw_p45 : lw_okq (⟨"DatedJarsModel", "filled", "(III)I"⟩, 28) := ⟨⟨by decide +kernel, by decide +kernel⟩, List.mem_of_getElem? (i := 754) (by decide +kernel), List.mem_of_getElem? (i := 957) (by decide +kernel), List.mem_of_getElem? (i := 958) (by decide +kernel)⟩
theorem lw_p46 : lw_okq (⟨"DatedJarsModel", "clearHungers", "()V"⟩, 28) := ⟨⟨by decide +kernel, by decide +kernel⟩, List.mem_of_getElem? (i := 754) (by decide +kernel), List.mem_of_getElem? (i := 990) (by decide +kernel), List.mem_of_getElem? (i := 991) (by decide +kernel)⟩
theorem lw_p47 : lw_okq (⟨"DatedJarsModel", "pass", "(I)V"⟩, 28) := ⟨⟨by decide +kernel, by decide +kernel⟩, List.mem_of_getElem? (i := 754) (by decide +kernel), List.mem_of_getElem? (i := 994) (by decide +kernel), List.mem_of_getElem? (i := 995) (by decide +kernel)⟩
def lw_privs_3 : List (MethodName × Nat) := [(⟨"DatedJarsModel", "want", "(ZII)Z"⟩, 28), (⟨"DatedJarsModel", "takeHarvest", "()V"⟩, 28), (⟨"DatedJarsModel", "takeNumber", "(II)I"⟩, 28), (⟨"DatedJarsModel", "takeHouse", "()V"⟩, 28), (⟨"DatedJarsModel", "takeJar", "()V"⟩, 28), (⟨"DatedJarsModel", "add", "(IIIIIII)V"⟩, 28), (⟨"DatedJarsModel", "harvestOf", "(I)I"⟩, 28), (⟨"DatedJarsModel", "gone", "()I"⟩, 28), (⟨"DatedJarsModel", "isHouse", "(I)Z"⟩, 28), (⟨"DatedJarsModel", "jarsOf", "(IZ)I"⟩, 28), (⟨"DatedJarsModel", "may", "(III)Z"⟩, 28), (⟨"DatedJarsModel", "mayBe", "(III)Z"⟩, 28), (⟨"DatedJarsModel", "isJar", "(I)Z"⟩, 28), (⟨"DatedJarsModel", "filled", "(III)I"⟩, 28), (⟨"DatedJarsModel", "clearHungers", "()V"⟩, 28), (⟨"DatedJarsModel", "pass", "(I)V"⟩, 28)]
theorem lw_r3 : ∀ q ∈ lw_privs_3, lw_okq q := List.forall_mem_cons.mpr ⟨lw_p32, List.forall_mem_cons.mpr ⟨lw_p33, List.forall_mem_cons.mpr ⟨lw_p34, List.forall_mem_cons.mpr ⟨lw_p35, List.forall_mem_cons.mpr ⟨lw_p36, List.forall_mem_cons.mpr ⟨lw_p37, List.forall_mem_cons.mpr ⟨lw_p38, List.forall_mem_cons.mpr ⟨lw_p39, List.forall_mem_cons.mpr ⟨lw_p40, List.forall_mem_cons.mpr ⟨lw_p41, List.forall_mem_cons.mpr ⟨lw_p42, List.forall_mem_cons.mpr ⟨lw_p43, List.forall_mem_cons.mpr ⟨lw_p44, List.forall_mem_cons.mpr ⟨lw_p45, List.forall_mem_cons.mpr ⟨lw_p46, List.forall_mem_cons.mpr ⟨lw_p47, fun _ h => absurd h List.not_mem_nil⟩⟩⟩⟩⟩⟩⟩⟩⟩⟩⟩⟩⟩⟩⟩⟩
theorem lw_p48 : lw_okq (⟨"DatedJarsModel", "eat", "(III)I"⟩, 28) := ⟨⟨by decide +kernel, by decide +kernel⟩, List.mem_of_getElem? (i := 754) (by decide +kernel), List.mem_of_getElem? (i := 998) (by decide +kernel), List.mem_of_getElem? (i := 999) (by decide +kernel)⟩
theorem lw_p49 : lw_okq (⟨"DatedJarsModel", "firstToOpen", "(II)I"⟩, 28) := ⟨⟨by decide +kernel, by decide +kernel⟩, List.mem_of_getElem? (i := 754) (by decide +kernel), List.mem_of_getElem? (i := 1002) (by decide +kernel), List.mem_of_getElem? (i := 1003) (by decide +kernel)⟩
theorem lw_p50 : lw_okq (⟨"DatedJarsModel", "hunger", "(III)V"⟩, 28) := ⟨⟨by decide +kernel, by decide +kernel⟩, List.mem_of_getElem? (i := 754) (by decide +kernel), List.mem_of_getElem? (i := 1006) (by decide +kernel), List.mem_of_getElem? (i := 1007) (by decide +kernel)⟩
theorem lw_p51 : lw_okq (⟨"DatedJarsModel", "allHungers", "()I"⟩, 28) := ⟨⟨by decide +kernel, by decide +kernel⟩, List.mem_of_getElem? (i := 754) (by decide +kernel), List.mem_of_getElem? (i := 1011) (by decide +kernel), List.mem_of_getElem? (i := 1012) (by decide +kernel)⟩
theorem lw_p52 : lw_okq (⟨"DatedJarsModel", "draw", "(I)I"⟩, 28) := ⟨⟨by decide +kernel, by decide +kernel⟩, List.mem_of_getElem? (i := 754) (by decide +kernel), List.mem_of_getElem? (i := 1019) (by decide +kernel), List.mem_of_getElem? (i := 1020) (by decide +kernel)⟩
theorem lw_p53 : lw_okq (⟨"DatedJarsModel", "findOwn", "(I)V"⟩, 28) := ⟨⟨by decide +kernel, by decide +kernel⟩, List.mem_of_getElem? (i := 754) (by decide +kernel), List.mem_of_getElem? (i := 1033) (by decide +kernel), List.mem_of_getElem? (i := 1034) (by decide +kernel)⟩
theorem lw_p54 : lw_okq (⟨"DatedJarsModel", "findPlan", "(II)V"⟩, 28) := ⟨⟨by decide +kernel, by decide +kernel⟩, List.mem_of_getElem? (i := 754) (by decide +kernel), List.mem_of_getElem? (i := 1037) (by decide +kernel), List.mem_of_getElem? (i := 1038) (by decide +kernel)⟩
theorem lw_p55 : lw_okq (⟨"DatedJarsModel", "inSet", "(II)I"⟩, 28) := ⟨⟨by decide +kernel, by decide +kernel⟩, List.mem_of_getElem? (i := 754) (by decide +kernel), List.mem_of_getElem? (i := 1042) (by decide +kernel), List.mem_of_getElem? (i := 1043) (by decide +kernel)⟩
theorem lw_p56 : lw_okq (⟨"DatedJarsModel", "hungerBy", "(III)I"⟩, 28) := ⟨⟨by decide +kernel, by decide +kernel⟩, List.mem_of_getElem? (i := 754) (by decide +kernel), List.mem_of_getElem? (i := 1049) (by decide +kernel), List.mem_of_getElem? (i := 1050) (by decide +kernel)⟩
theorem lw_p57 : lw_okq (⟨"DatedJarsModel", "copy", "(II)V"⟩, 28) := ⟨⟨by decide +kernel, by decide +kernel⟩, List.mem_of_getElem? (i := 754) (by decide +kernel), List.mem_of_getElem? (i := 1058) (by decide +kernel), List.mem_of_getElem? (i := 1059) (by decide +kernel)⟩
theorem lw_p58 : lw_okq (⟨"DatedJarsModel", "try_", "(I)V"⟩, 28) := ⟨⟨by decide +kernel, by decide +kernel⟩, List.mem_of_getElem? (i := 754) (by decide +kernel), List.mem_of_getElem? (i := 1062) (by decide +kernel), List.mem_of_getElem? (i := 1063) (by decide +kernel)⟩
theorem lw_p59 : lw_okq (⟨"DatedJarsModel", "changeFirst", "(I)Z"⟩, 28) := ⟨⟨by decide +kernel, by decide +kernel⟩, List.mem_of_getElem? (i := 754) (by decide +kernel), List.mem_of_getElem? (i := 1070) (by decide +kernel), List.mem_of_getElem? (i := 1071) (by decide +kernel)⟩
theorem lw_p60 : lw_okq (⟨"DatedJarsModel", "changes", "(III)Z"⟩, 28) := ⟨⟨by decide +kernel, by decide +kernel⟩, List.mem_of_getElem? (i := 754) (by decide +kernel), List.mem_of_getElem? (i := 1074) (by decide +kernel), List.mem_of_getElem? (i := 1075) (by decide +kernel)⟩
theorem lw_p61 : lw_okq (⟨"DatedJarsModel", "offBy", "(II)I"⟩, 28) := ⟨⟨by decide +kernel, by decide +kernel⟩, List.mem_of_getElem? (i := 754) (by decide +kernel), List.mem_of_getElem? (i := 1082) (by decide +kernel), List.mem_of_getElem? (i := 1083) (by decide +kernel)⟩
theorem lw_p62 : lw_okq (⟨"DatedJarsModel", "other", "(II)I"⟩, 28) := ⟨⟨by decide +kernel, by decide +kernel⟩, List.mem_of_getElem? (i := 754) (by decide +kernel), List.mem_of_getElem? (i := 1086) (by decide +kernel), List.mem_of_getElem? (i := 1087) (by decide +kernel)⟩
theorem lw_p63 : lw_okq (⟨"DatedJarsModel", "siegeOf", "(II)I"⟩, 28) := ⟨⟨by decide +kernel, by decide +kernel⟩, List.mem_of_getElem? (i := 754) (by decide +kernel), List.mem_of_getElem? (i := 1094) (by decide +kernel), List.mem_of_getElem? (i := 1095) (by decide +kernel)⟩
def lw_privs_4 : List (MethodName × Nat) := [(⟨"DatedJarsModel", "eat", "(III)I"⟩, 28), (⟨"DatedJarsModel", "firstToOpen", "(II)I"⟩, 28), (⟨"DatedJarsModel", "hunger", "(III)V"⟩, 28), (⟨"DatedJarsModel", "allHungers", "()I"⟩, 28), (⟨"DatedJarsModel", "draw", "(I)I"⟩, 28), (⟨"DatedJarsModel", "findOwn", "(I)V"⟩, 28), (⟨"DatedJarsModel", "findPlan", "(II)V"⟩, 28), (⟨"DatedJarsModel", "inSet", "(II)I"⟩, 28), (⟨"DatedJarsModel", "hungerBy", "(III)I"⟩, 28), (⟨"DatedJarsModel", "copy", "(II)V"⟩, 28), (⟨"DatedJarsModel", "try_", "(I)V"⟩, 28), (⟨"DatedJarsModel", "changeFirst", "(I)Z"⟩, 28), (⟨"DatedJarsModel", "changes", "(III)Z"⟩, 28), (⟨"DatedJarsModel", "offBy", "(II)I"⟩, 28), (⟨"DatedJarsModel", "other", "(II)I"⟩, 28), (⟨"DatedJarsModel", "siegeOf", "(II)I"⟩, 28)]
theorem lw_r4 : ∀ q ∈ lw_privs_4, lw_okq q := List.forall_mem_cons.mpr ⟨lw_p48, List.forall_mem_cons.mpr ⟨lw_p49, List.forall_mem_cons.mpr ⟨lw_p50, List.forall_mem_cons.mpr ⟨lw_p51, List.forall_mem_cons.mpr ⟨lw_p52, List.forall_mem_cons.mpr ⟨lw_p53, List.forall_mem_cons.mpr ⟨lw_p54, List.forall_mem_cons.mpr ⟨lw_p55, List.forall_mem_cons.mpr ⟨lw_p56, List.forall_mem_cons.mpr ⟨lw_p57, List.forall_mem_cons.mpr ⟨lw_p58, List.forall_mem_cons.mpr ⟨lw_p59, List.forall_mem_cons.mpr ⟨lw_p60, List.forall_mem_cons.mpr ⟨lw_p61, List.forall_mem_cons.mpr ⟨lw_p62, List.forall_mem_cons.mpr ⟨lw_p63, fun _ h => absurd h List.not_mem_nil⟩⟩⟩⟩⟩⟩⟩⟩⟩⟩⟩⟩⟩⟩⟩⟩
def lw_privs : List (MethodName × Nat) := lw_privs_1 ++ (lw_privs_2 ++ (lw_privs_3 ++ (lw_privs_4)))
def lw_tbl : List Cond := k2_sels lw_privs ++ tables_1
theorem lw_privs_ok : ∀ q ∈ lw_privs, lw_okq q := by
  show ∀ q ∈ lw_privs_1 ++ (lw_privs_2 ++ (lw_privs_3 ++ (lw_privs_4))), lw_okq q
  exact List.forall_mem_append.mpr ⟨lw_r1, List.forall_mem_append.mpr ⟨lw_r2, List.forall_mem_append.mpr ⟨lw_r3, lw_r4⟩⟩⟩
end
section
/-! ===== BEGIN words of one list among another's, by their places ===== -/
theorem goodIn_r {big : List Cond} (ws : List Cond) (ps : List Nat) (hp : ws = ps.filterMap (fun i => big[i]?)) (h : ws.all goodWord = true) : GoodIn big ws := by
  intro w hw
  have h1 := List.all_eq_true.mp h w hw
  rw [hp] at hw
  obtain ⟨i, -, hi⟩ := List.mem_filterMap.mp hw
  have hm : w ∈ big := by first | exact List.mem_of_getElem? hi | exact List.getElem?_mem hi
  exact ⟨hm, good_of_word h1⟩
theorem goodIn_app {big a b : List Cond} (ha : GoodIn big a) (hb : GoodIn big b) : GoodIn big (a ++ b) := fun w h => (List.mem_append.mp h).elim (ha w) (hb w)
theorem goodIn_ca {big a b : List Cond} {c : Cond} (ha : GoodIn big (c :: a)) (hb : GoodIn big b) : GoodIn big (c :: (a ++ b)) := fun w h => (List.mem_cons.mp h).elim (fun e => ha w (List.mem_cons.mpr (Or.inl e))) (fun h => (List.mem_append.mp h).elim (fun h => ha w (List.mem_cons.mpr (Or.inr h))) (hb w))
theorem goodIn_sub {big ws : List Cond} (hm : ∀ w ∈ ws, w ∈ big) (h : ws.all goodWord = true) : GoodIn big ws := fun w hw => ⟨hm w hw, good_of_word (List.all_eq_true.mp h w hw)⟩
/-! ===== END ===== -/
/-! ===== BEGIN printed: names, fields, word lists, decode rows ===== -/
def RX0 : String := "DatedJars$Book"
def TX0 : u_T := fun k => match k with
  | 0 => ("DatedJars$Book", "count", "I", false)
  | 1 => ("DatedJars$Book", "years", "[I", true)
  | _ => ("DatedJars$Book", "jars", "[I", true)
def tyX0 : Nat → FieldType := fun k => match k with
  | 0 => .int
  | 1 => .array .int
  | _ => .array .int
abbrev wsX00 : List Cond := u_ws RX0 TX0 3
theorem nmX0 : ∀ a, a < 3 → ∀ b, b < 3 → a ≠ b → (TX0 a).2.1 ≠ (TX0 b).2.1 := by decide +kernel
theorem tyX0_ok : ∀ k, k < 3 → parseFieldDescriptor (TX0 k).2.2.1 = some (tyX0 k) := by decide +kernel
abbrev cX0_init : ByteArray := prog_2_method_1_code
def yX0_init : MethodName := ⟨RX0, "<init>", "()V"⟩
abbrev cX0_add : ByteArray := prog_2_method_2_code
def yX0_add : MethodName := ⟨RX0, "add", "(II)I"⟩
abbrev cX0_firstWrong : ByteArray := prog_2_method_3_code
def yX0_firstWrong : MethodName := ⟨RX0, "firstWrong", "(LDatedJars$Cellar;I)I"⟩
def RX1 : String := "DatedJars$Cellar"
def TX1 : u_T := fun k => match k with
  | 0 => ("DatedJars$Cellar", "count", "I", false)
  | 1 => ("DatedJars$Cellar", "kind", "[I", true)
  | 2 => ("DatedJars$Cellar", "owner", "[I", true)
  | 3 => ("DatedJars$Cellar", "date", "[I", true)
  | 4 => ("DatedJars$Cellar", "quantity", "[I", true)
  | 5 => ("DatedJars$Cellar", "keeps", "[I", true)
  | 6 => ("DatedJars$Cellar", "sealedIn", "[I", true)
  | _ => ("DatedJars$Cellar", "gone", "I", false)
def tyX1 : Nat → FieldType := fun k => match k with
  | 0 => .int
  | 1 => .array .int
  | 2 => .array .int
  | 3 => .array .int
  | 4 => .array .int
  | 5 => .array .int
  | 6 => .array .int
  | _ => .int
abbrev wsX10 : List Cond := u_ws RX1 TX1 8
theorem nmX1 : ∀ a, a < 8 → ∀ b, b < 8 → a ≠ b → (TX1 a).2.1 ≠ (TX1 b).2.1 := by decide +kernel
theorem tyX1_ok : ∀ k, k < 8 → parseFieldDescriptor (TX1 k).2.2.1 = some (tyX1 k) := by decide +kernel
abbrev cX1_init : ByteArray := prog_3_method_1_code
def yX1_init : MethodName := ⟨RX1, "<init>", "()V"⟩
abbrev cX1_copyFrom : ByteArray := prog_3_method_2_code
def yX1_copyFrom : MethodName := ⟨RX1, "copyFrom", "(LDatedJars$Cellar;)V"⟩
abbrev cX1_has : ByteArray := prog_3_method_3_code
def yX1_has : MethodName := ⟨RX1, "has", "(I)Z"⟩
abbrev cX1_isFull : ByteArray := prog_3_method_4_code
def yX1_isFull : MethodName := ⟨RX1, "isFull", "()Z"⟩
abbrev cX1_add : ByteArray := prog_3_method_5_code
def yX1_add : MethodName := ⟨RX1, "add", "(IIIIII)V"⟩
abbrev cX1_ageOf : ByteArray := prog_3_method_6_code
def yX1_ageOf : MethodName := ⟨RX1, "ageOf", "(II)I"⟩
abbrev cX1_filledIn : ByteArray := prog_3_method_7_code
def yX1_filledIn : MethodName := ⟨RX1, "filledIn", "(II)I"⟩
abbrev cX1_mayBeOpened : ByteArray := prog_3_method_8_code
def yX1_mayBeOpened : MethodName := ⟨RX1, "mayBeOpened", "(III)Z"⟩
abbrev cX1_isGone : ByteArray := prog_3_method_9_code
def yX1_isGone : MethodName := ⟨RX1, "isGone", "(I)Z"⟩
abbrev cX1_isOf : ByteArray := prog_3_method_10_code
def yX1_isOf : MethodName := ⟨RX1, "isOf", "(II)Z"⟩
abbrev cX1_takeOut : ByteArray := prog_3_method_11_code
def yX1_takeOut : MethodName := ⟨RX1, "takeOut", "(II)I"⟩
abbrev cX1_firstToOpen : ByteArray := prog_3_method_12_code
def yX1_firstToOpen : MethodName := ⟨RX1, "firstToOpen", "(III)I"⟩
abbrev cX1_swapOwners : ByteArray := prog_3_method_13_code
def yX1_swapOwners : MethodName := ⟨RX1, "swapOwners", "(II)V"⟩
abbrev cX1_setOf : ByteArray := prog_3_method_14_code
def yX1_setOf : MethodName := ⟨RX1, "setOf", "(I)I"⟩
abbrev cX1_setToOpen : ByteArray := prog_3_method_15_code
def yX1_setToOpen : MethodName := ⟨RX1, "setToOpen", "(III)I"⟩
abbrev cX1_lookAt : ByteArray := prog_3_method_16_code
def yX1_lookAt : MethodName := ⟨RX1, "lookAt", "(I[I)I"⟩
def RX2 : String := "DatedJars$Dealer"
def TX2 : u_T := fun k => match k with
  | 0 => ("DatedJars$Dealer", "looked", "[I", true)
  | 1 => ("DatedJars$Dealer", "count", "I", false)
  | 2 => ("DatedJars$Dealer", "heirs", "[I", true)
  | 3 => ("DatedJars$Dealer", "heirCount", "I", false)
  | 4 => ("DatedJars$Dealer", "tried", "[I", true)
  | 5 => ("DatedJars$Dealer", "best", "[I", true)
  | 6 => ("DatedJars$Dealer", "sums", "[I", true)
  | _ => ("DatedJars$Dealer", "leastDifference", "I", false)
def tyX2 : Nat → FieldType := fun k => match k with
  | 0 => .array .int
  | 1 => .int
  | 2 => .array .int
  | 3 => .int
  | 4 => .array .int
  | 5 => .array .int
  | 6 => .array .int
  | _ => .int
abbrev wsX20 : List Cond := u_ws RX2 TX2 8
theorem nmX2 : ∀ a, a < 8 → ∀ b, b < 8 → a ≠ b → (TX2 a).2.1 ≠ (TX2 b).2.1 := by decide +kernel
theorem tyX2_ok : ∀ k, k < 8 → parseFieldDescriptor (TX2 k).2.2.1 = some (tyX2 k) := by decide +kernel
abbrev cX2_init : ByteArray := prog_4_method_1_code
def yX2_init : MethodName := ⟨RX2, "<init>", "()V"⟩
abbrev cX2_deal : ByteArray := prog_4_method_2_code
def yX2_deal : MethodName := ⟨RX2, "deal", "(LDatedJars$Land;I)V"⟩
abbrev cX2_heirOf : ByteArray := prog_4_method_3_code
def yX2_heirOf : MethodName := ⟨RX2, "heirOf", "(I)I"⟩
abbrev cX2_countWays : ByteArray := prog_4_method_4_code
def yX2_countWays : MethodName := ⟨RX2, "countWays", "()I"⟩
abbrev cX2_nextWay : ByteArray := prog_4_method_5_code
def yX2_nextWay : MethodName := ⟨RX2, "nextWay", "()V"⟩
abbrev cX2_differenceOf : ByteArray := prog_4_method_6_code
def yX2_differenceOf : MethodName := ⟨RX2, "differenceOf", "(LDatedJars$Cellar;)I"⟩
def RX3 : String := "DatedJars$Glass"
def TX3 : u_T := fun k => match k with
  | 0 => ("DatedJars$Glass", "count", "I", false)
  | 1 => ("DatedJars$Glass", "elder", "[I", true)
  | 2 => ("DatedJars$Glass", "younger", "[I", true)
  | _ => ("DatedJars$Glass", "contradicted", "[I", true)
def tyX3 : Nat → FieldType := fun k => match k with
  | 0 => .int
  | 1 => .array .int
  | 2 => .array .int
  | _ => .array .int
abbrev wsX30 : List Cond := u_ws RX3 TX3 4
theorem nmX3 : ∀ a, a < 4 → ∀ b, b < 4 → a ≠ b → (TX3 a).2.1 ≠ (TX3 b).2.1 := by decide +kernel
theorem tyX3_ok : ∀ k, k < 4 → parseFieldDescriptor (TX3 k).2.2.1 = some (tyX3 k) := by decide +kernel
abbrev cX3_init : ByteArray := prog_5_method_1_code
def yX3_init : MethodName := ⟨RX3, "<init>", "()V"⟩
abbrev cX3_add : ByteArray := prog_5_method_2_code
def yX3_add : MethodName := ⟨RX3, "add", "(II)I"⟩
abbrev cX3_fewestForged : ByteArray := prog_5_method_3_code
def yX3_fewestForged : MethodName := ⟨RX3, "fewestForged", "(LDatedJars$Cellar;)I"⟩
abbrev cX3_findContradicted : ByteArray := prog_5_method_4_code
def yX3_findContradicted : MethodName := ⟨RX3, "findContradicted", "(LDatedJars$Cellar;)I"⟩
def RX4 : String := "DatedJars$Land"
def TX4 : u_T := fun k => match k with
  | 0 => ("DatedJars$Land", "houses", "I", false)
  | 1 => ("DatedJars$Land", "want", "[I", true)
  | 2 => ("DatedJars$Land", "seals", "[I", true)
  | 3 => ("DatedJars$Land", "stock", "[I", true)
  | 4 => ("DatedJars$Land", "missed", "[I", true)
  | 5 => ("DatedJars$Land", "harvests", "I", false)
  | 6 => ("DatedJars$Land", "harvest", "[I", true)
  | 7 => ("DatedJars$Land", "year", "I", false)
  | 8 => ("DatedJars$Land", "hunger", "I", false)
  | 9 => ("DatedJars$Land", "law", "I", false)
  | 10 => ("DatedJars$Land", "seed", "I", false)
  | _ => ("DatedJars$Land", "cellar", "LDatedJars$Cellar;", true)
def tyX4 : Nat → FieldType := fun k => match k with
  | 0 => .int
  | 1 => .array .int
  | 2 => .array .int
  | 3 => .array .int
  | 4 => .array .int
  | 5 => .int
  | 6 => .array .int
  | 7 => .int
  | 8 => .int
  | 9 => .int
  | 10 => .int
  | _ => .object "DatedJars$Cellar"
abbrev wsX40 : List Cond := u_ws RX4 TX4 12
theorem nmX4 : ∀ a, a < 12 → ∀ b, b < 12 → a ≠ b → (TX4 a).2.1 ≠ (TX4 b).2.1 := by decide +kernel
theorem tyX4_ok : ∀ k, k < 12 → parseFieldDescriptor (TX4 k).2.2.1 = some (tyX4 k) := by decide +kernel
abbrev cX4_init : ByteArray := prog_6_method_1_code
def yX4_init : MethodName := ⟨RX4, "<init>", "()V"⟩
abbrev cX4_clear : ByteArray := prog_6_method_2_code
def yX4_clear : MethodName := ⟨RX4, "clear", "()V"⟩
abbrev cX4_copyFrom : ByteArray := prog_6_method_3_code
def yX4_copyFrom : MethodName := ⟨RX4, "copyFrom", "(LDatedJars$Land;)V"⟩
abbrev cX4_hasHouse : ByteArray := prog_6_method_4_code
def yX4_hasHouse : MethodName := ⟨RX4, "hasHouse", "(I)Z"⟩
abbrev cX4_addHouse : ByteArray := prog_6_method_5_code
def yX4_addHouse : MethodName := ⟨RX4, "addHouse", "(II)V"⟩
abbrev cX4_addHarvest : ByteArray := prog_6_method_6_code
def yX4_addHarvest : MethodName := ⟨RX4, "addHarvest", "(I)V"⟩
abbrev cX4_harvestOf : ByteArray := prog_6_method_7_code
def yX4_harvestOf : MethodName := ⟨RX4, "harvestOf", "(I)I"⟩
abbrev cX4_besiege : ByteArray := prog_6_method_8_code
def yX4_besiege : MethodName := ⟨RX4, "besiege", "()V"⟩
abbrev cX4_drawOf : ByteArray := prog_6_method_9_code
def yX4_drawOf : MethodName := ⟨RX4, "drawOf", "(I)I"⟩
abbrev cX4_passYears : ByteArray := prog_6_method_10_code
def yX4_passYears : MethodName := ⟨RX4, "passYears", "(IZ)I"⟩
abbrev cX4_burstJars : ByteArray := prog_6_method_11_code
def yX4_burstJars : MethodName := ⟨RX4, "burstJars", "()V"⟩
abbrev cX4_feedHouse : ByteArray := prog_6_method_12_code
def yX4_feedHouse : MethodName := ⟨RX4, "feedHouse", "(II)I"⟩
def RX5 : String := "DatedJars$Planner"
def TX5 : u_T := fun k => match k with
  | 0 => ("DatedJars$Planner", "looked", "[I", true)
  | 1 => ("DatedJars$Planner", "count", "I", false)
  | 2 => ("DatedJars$Planner", "leastFrom", "[[I", true)
  | 3 => ("DatedJars$Planner", "filled", "[I", true)
  | 4 => ("DatedJars$Planner", "mayOpen", "I", false)
  | 5 => ("DatedJars$Planner", "missing", "I", false)
  | 6 => ("DatedJars$Planner", "opened", "[I", true)
  | _ => ("DatedJars$Planner", "hunger", "I", false)
def tyX5 : Nat → FieldType := fun k => match k with
  | 0 => .array .int
  | 1 => .int
  | 2 => .array (.array .int)
  | 3 => .array .int
  | 4 => .int
  | 5 => .int
  | 6 => .array .int
  | _ => .int
abbrev wsX50 : List Cond := u_ws RX5 TX5 8
theorem nmX5 : ∀ a, a < 8 → ∀ b, b < 8 → a ≠ b → (TX5 a).2.1 ≠ (TX5 b).2.1 := by decide +kernel
theorem tyX5_ok : ∀ k, k < 8 → parseFieldDescriptor (TX5 k).2.2.1 = some (tyX5 k) := by decide +kernel
abbrev cX5_init : ByteArray := prog_7_method_1_code
def yX5_init : MethodName := ⟨RX5, "<init>", "()V"⟩
abbrev cX5_find : ByteArray := prog_7_method_2_code
def yX5_find : MethodName := ⟨RX5, "find", "(LDatedJars$Land;II)V"⟩
abbrev cX5_chooseSets : ByteArray := prog_7_method_3_code
def yX5_chooseSets : MethodName := ⟨RX5, "chooseSets", "(LDatedJars$Land;II)V"⟩
abbrev cX5_lookAtYear : ByteArray := prog_7_method_4_code
def yX5_lookAtYear : MethodName := ⟨RX5, "lookAtYear", "(LDatedJars$Land;II)V"⟩
abbrev cX5_hungerWith : ByteArray := prog_7_method_5_code
def yX5_hungerWith : MethodName := ⟨RX5, "hungerWith", "(I[II)I"⟩
abbrev cX5_leastHunger : ByteArray := prog_7_method_6_code
def yX5_leastHunger : MethodName := ⟨RX5, "leastHunger", "([II)I"⟩
abbrev cX5_firstOf : ByteArray := prog_7_method_7_code
def yX5_firstOf : MethodName := ⟨RX5, "firstOf", "([III)I"⟩
abbrev cX5_jarsOf : ByteArray := prog_7_method_8_code
def yX5_jarsOf : MethodName := ⟨RX5, "jarsOf", "(I)I"⟩
def RX6 : String := "DatedJars$Reader"
def TX6 : u_T := fun k => match k with
  | 0 => ("DatedJars$Reader", "text", "[B", true)
  | 1 => ("DatedJars$Reader", "length", "I", false)
  | 2 => ("DatedJars$Reader", "at", "I", false)
  | 3 => ("DatedJars$Reader", "faultNumber", "I", false)
  | 4 => ("DatedJars$Reader", "faultByte", "I", false)
  | _ => ("DatedJars$Reader", "harvestTold", "Z", false)
def tyX6 : Nat → FieldType := fun k => match k with
  | 0 => .array .byte
  | 1 => .int
  | 2 => .int
  | 3 => .int
  | 4 => .int
  | _ => .boolean
abbrev wsX60 : List Cond := u_ws RX6 TX6 6
theorem nmX6 : ∀ a, a < 6 → ∀ b, b < 6 → a ≠ b → (TX6 a).2.1 ≠ (TX6 b).2.1 := by decide +kernel
theorem tyX6_ok : ∀ k, k < 6 → parseFieldDescriptor (TX6 k).2.2.1 = some (tyX6 k) := by decide +kernel
abbrev cX6_init : ByteArray := prog_8_method_1_code
def yX6_init : MethodName := ⟨RX6, "<init>", "()V"⟩
abbrev cX6_addBytes : ByteArray := prog_8_method_2_code
def yX6_addBytes : MethodName := ⟨RX6, "addBytes", "(IJ)I"⟩
abbrev cX6_readText : ByteArray := prog_8_method_3_code
def yX6_readText : MethodName := ⟨RX6, "readText", "(LDatedJars$Land;)Z"⟩
abbrev cX6_readClause : ByteArray := prog_8_method_4_code
def yX6_readClause : MethodName := ⟨RX6, "readClause", "(LDatedJars$Land;)V"⟩
abbrev cX6_readHarvest : ByteArray := prog_8_method_5_code
def yX6_readHarvest : MethodName := ⟨RX6, "readHarvest", "(ILDatedJars$Land;)V"⟩
abbrev cX6_readHouse : ByteArray := prog_8_method_6_code
def yX6_readHouse : MethodName := ⟨RX6, "readHouse", "(ILDatedJars$Land;)V"⟩
abbrev cX6_readJar : ByteArray := prog_8_method_7_code
def yX6_readJar : MethodName := ⟨RX6, "readJar", "(ILDatedJars$Land;)V"⟩
abbrev cX6_readKind : ByteArray := prog_8_method_8_code
def yX6_readKind : MethodName := ⟨RX6, "readKind", "()I"⟩
abbrev cX6_readNumber : ByteArray := prog_8_method_9_code
def yX6_readNumber : MethodName := ⟨RX6, "readNumber", "(II)I"⟩
abbrev cX6_readEnd : ByteArray := prog_8_method_10_code
def yX6_readEnd : MethodName := ⟨RX6, "readEnd", "()V"⟩
abbrev cX6_nextIs : ByteArray := prog_8_method_11_code
def yX6_nextIs : MethodName := ⟨RX6, "nextIs", "(C)Z"⟩
abbrev cX6_skipBlanks : ByteArray := prog_8_method_12_code
def yX6_skipBlanks : MethodName := ⟨RX6, "skipBlanks", "()V"⟩
abbrev cX6_skipLetters : ByteArray := prog_8_method_13_code
def yX6_skipLetters : MethodName := ⟨RX6, "skipLetters", "()V"⟩
abbrev cX6_wordIs : ByteArray := prog_8_method_14_code
def yX6_wordIs : MethodName := ⟨RX6, "wordIs", "(ILjava/lang/String;)Z"⟩
abbrev cX6_fail : ByteArray := prog_8_method_15_code
def yX6_fail : MethodName := ⟨RX6, "fail", "(II)V"⟩
def RX7 : String := "DatedJars"
def TX7 : u_T := fun k => match k with
  | 0 => ("DatedJars", "now", "LDatedJars$Land;", true)
  | 1 => ("DatedJars", "trial", "LDatedJars$Land;", true)
  | 2 => ("DatedJars", "images", "[LDatedJars$Land;", true)
  | 3 => ("DatedJars", "kept", "[Z", true)
  | 4 => ("DatedJars", "reader", "LDatedJars$Reader;", true)
  | 5 => ("DatedJars", "planner", "LDatedJars$Planner;", true)
  | 6 => ("DatedJars", "dealer", "LDatedJars$Dealer;", true)
  | 7 => ("DatedJars", "glass", "LDatedJars$Glass;", true)
  | 8 => ("DatedJars", "book", "LDatedJars$Book;", true)
  | _ => ("DatedJars", "hungerBefore", "[I", true)
def tyX7 : Nat → FieldType := fun k => match k with
  | 0 => .object "DatedJars$Land"
  | 1 => .object "DatedJars$Land"
  | 2 => .array (.object "DatedJars$Land")
  | 3 => .array .boolean
  | 4 => .object "DatedJars$Reader"
  | 5 => .object "DatedJars$Planner"
  | 6 => .object "DatedJars$Dealer"
  | 7 => .object "DatedJars$Glass"
  | 8 => .object "DatedJars$Book"
  | _ => .array .int
abbrev wsX70 : List Cond := u_ws RX7 TX7 10
theorem nmX7 : ∀ a, a < 10 → ∀ b, b < 10 → a ≠ b → (TX7 a).2.1 ≠ (TX7 b).2.1 := by decide +kernel
theorem tyX7_ok : ∀ k, k < 10 → parseFieldDescriptor (TX7 k).2.2.1 = some (tyX7 k) := by decide +kernel
abbrev cX7_init : ByteArray := prog_1_method_1_code
def yX7_init : MethodName := ⟨RX7, "<init>", "()V"⟩
abbrev cX7_feed : ByteArray := prog_1_method_2_code
def yX7_feed : MethodName := ⟨RX7, "feed", "(IJ)I"⟩
abbrev cX7_land : ByteArray := prog_1_method_3_code
def yX7_land : MethodName := ⟨RX7, "land", "()I"⟩
abbrev cX7_fault : ByteArray := prog_1_method_4_code
def yX7_fault : MethodName := ⟨RX7, "fault", "()I"⟩
abbrev cX7_told : ByteArray := prog_1_method_5_code
def yX7_told : MethodName := ⟨RX7, "told", "(I)I"⟩
abbrev cX7_house : ByteArray := prog_1_method_6_code
def yX7_house : MethodName := ⟨RX7, "house", "(II)I"⟩
abbrev cX7_jar : ByteArray := prog_1_method_7_code
def yX7_jar : MethodName := ⟨RX7, "jar", "(II)I"⟩
abbrev cX7_law : ByteArray := prog_1_method_8_code
def yX7_law : MethodName := ⟨RX7, "law", "(I)I"⟩
abbrev cX7_seals : ByteArray := prog_1_method_9_code
def yX7_seals : MethodName := ⟨RX7, "seals", "(II)I"⟩
abbrev cX7_give : ByteArray := prog_1_method_10_code
def yX7_give : MethodName := ⟨RX7, "give", "(II)I"⟩
abbrev cX7_label : ByteArray := prog_1_method_11_code
def yX7_label : MethodName := ⟨RX7, "label", "(II)I"⟩
abbrev cX7_open : ByteArray := prog_1_method_12_code
def yX7_open : MethodName := ⟨RX7, "open", "(I)I"⟩
abbrev cX7_year : ByteArray := prog_1_method_13_code
def yX7_year : MethodName := ⟨RX7, "year", "(I)I"⟩
abbrev cX7_drift : ByteArray := prog_1_method_14_code
def yX7_drift : MethodName := ⟨RX7, "drift", "(I)I"⟩
abbrev cX7_plan : ByteArray := prog_1_method_15_code
def yX7_plan : MethodName := ⟨RX7, "plan", "(III)I"⟩
abbrev cX7_sealing : ByteArray := prog_1_method_16_code
def yX7_sealing : MethodName := ⟨RX7, "sealing", "(II)I"⟩
abbrev cX7_change : ByteArray := prog_1_method_17_code
def yX7_change : MethodName := ⟨RX7, "change", "(I)I"⟩
abbrev cX7_bequest : ByteArray := prog_1_method_18_code
def yX7_bequest : MethodName := ⟨RX7, "bequest", "(II)I"⟩
abbrev cX7_siege : ByteArray := prog_1_method_19_code
def yX7_siege : MethodName := ⟨RX7, "siege", "(II)I"⟩
abbrev cX7_when : ByteArray := prog_1_method_20_code
def yX7_when : MethodName := ⟨RX7, "when", "(II)I"⟩
abbrev cX7_older : ByteArray := prog_1_method_21_code
def yX7_older : MethodName := ⟨RX7, "older", "(II)I"⟩
abbrev cX7_forged : ByteArray := prog_1_method_22_code
def yX7_forged : MethodName := ⟨RX7, "forged", "()I"⟩
abbrev cX7_write : ByteArray := prog_1_method_23_code
def yX7_write : MethodName := ⟨RX7, "write", "(II)I"⟩
abbrev cX7_tear : ByteArray := prog_1_method_24_code
def yX7_tear : MethodName := ⟨RX7, "tear", "()I"⟩
abbrev cX7_judge : ByteArray := prog_1_method_25_code
def yX7_judge : MethodName := ⟨RX7, "judge", "()I"⟩
abbrev cX7_seed : ByteArray := prog_1_method_26_code
def yX7_seed : MethodName := ⟨RX7, "seed", "(I)I"⟩
abbrev cX7_keep : ByteArray := prog_1_method_27_code
def yX7_keep : MethodName := ⟨RX7, "keep", "(I)I"⟩
abbrev cX7_goBack : ByteArray := prog_1_method_28_code
def yX7_goBack : MethodName := ⟨RX7, "goBack", "(I)I"⟩
abbrev cX7_hungerOfSiege : ByteArray := prog_1_method_29_code
def yX7_hungerOfSiege : MethodName := ⟨RX7, "hungerOfSiege", "(II)I"⟩
abbrev cX7_doFirstChange : ByteArray := prog_1_method_30_code
def yX7_doFirstChange : MethodName := ⟨RX7, "doFirstChange", "(I)Z"⟩
abbrev cX7_isBetterChanged : ByteArray := prog_1_method_31_code
def yX7_isBetterChanged : MethodName := ⟨RX7, "isBetterChanged", "(III)Z"⟩
def RX8 : String := "DatedJarsModel"
def TX8 : u_T := fun k => match k with
  | 0 => ("DatedJarsModel", "w", "[I", true)
  | 1 => ("DatedJarsModel", "isKept", "[Z", true)
  | 2 => ("DatedJarsModel", "harvests", "[I", true)
  | 3 => ("DatedJarsModel", "harvestMany", "I", false)
  | 4 => ("DatedJarsModel", "wants", "[I", true)
  | 5 => ("DatedJarsModel", "sealing", "[I", true)
  | 6 => ("DatedJarsModel", "told", "[I", true)
  | 7 => ("DatedJarsModel", "houseMany", "I", false)
  | 8 => ("DatedJarsModel", "newHarvests", "I", false)
  | 9 => ("DatedJarsModel", "newHouses", "I", false)
  | 10 => ("DatedJarsModel", "newJars", "I", false)
  | 11 => ("DatedJarsModel", "text", "[I", true)
  | 12 => ("DatedJarsModel", "textSize", "I", false)
  | 13 => ("DatedJarsModel", "at", "I", false)
  | 14 => ("DatedJarsModel", "first", "I", false)
  | 15 => ("DatedJarsModel", "length", "I", false)
  | 16 => ("DatedJarsModel", "faultOf", "I", false)
  | 17 => ("DatedJarsModel", "fault", "I", false)
  | 18 => ("DatedJarsModel", "hungers", "[I", true)
  | 19 => ("DatedJarsModel", "own", "[I", true)
  | 20 => ("DatedJarsModel", "ownMany", "I", false)
  | 21 => ("DatedJarsModel", "least", "[I", true)
  | 22 => ("DatedJarsModel", "glassOne", "[I", true)
  | 23 => ("DatedJarsModel", "glassTwo", "[I", true)
  | 24 => ("DatedJarsModel", "glassMany", "I", false)
  | 25 => ("DatedJarsModel", "bookYear", "[I", true)
  | 26 => ("DatedJarsModel", "bookJar", "[I", true)
  | _ => ("DatedJarsModel", "written", "I", false)
def tyX8 : Nat → FieldType := fun k => match k with
  | 0 => .array .int
  | 1 => .array .boolean
  | 2 => .array .int
  | 3 => .int
  | 4 => .array .int
  | 5 => .array .int
  | 6 => .array .int
  | 7 => .int
  | 8 => .int
  | 9 => .int
  | 10 => .int
  | 11 => .array .int
  | 12 => .int
  | 13 => .int
  | 14 => .int
  | 15 => .int
  | 16 => .int
  | 17 => .int
  | 18 => .array .int
  | 19 => .array .int
  | 20 => .int
  | 21 => .array .int
  | 22 => .array .int
  | 23 => .array .int
  | 24 => .int
  | 25 => .array .int
  | 26 => .array .int
  | _ => .int
abbrev wsX80 : List Cond := u_ws RX8 TX8 28
theorem nmX8 : ∀ a, a < 28 → ∀ b, b < 28 → a ≠ b → (TX8 a).2.1 ≠ (TX8 b).2.1 := by decide +kernel
theorem tyX8_ok : ∀ k, k < 28 → parseFieldDescriptor (TX8 k).2.2.1 = some (tyX8 k) := by decide +kernel
abbrev cX8_init : ByteArray := prog_10_method_1_code
def yX8_init : MethodName := ⟨RX8, "<init>", "()V"⟩
abbrev cX8_in : ByteArray := prog_10_method_3_code
def yX8_in : MethodName := ⟨RX8, "in", "(JJJ)Z"⟩
abbrev cX8_one : ByteArray := prog_10_method_4_code
def yX8_one : MethodName := ⟨RX8, "one", "(Z)I"⟩
abbrev cX8_has : ByteArray := prog_10_method_5_code
def yX8_has : MethodName := ⟨RX8, "has", "(II)Z"⟩
abbrev cX8_feed : ByteArray := prog_10_method_6_code
def yX8_feed : MethodName := ⟨RX8, "feed", "(IJ)I"⟩
abbrev cX8_here : ByteArray := prog_10_method_7_code
def yX8_here : MethodName := ⟨RX8, "here", "()I"⟩
abbrev cX8_want : ByteArray := prog_10_method_8_code
def yX8_want : MethodName := ⟨RX8, "want", "(ZII)Z"⟩
abbrev cX8_takeWord : ByteArray := prog_10_method_9_code
def yX8_takeWord : MethodName := ⟨RX8, "takeWord", "()V"⟩
abbrev cX8_isWord : ByteArray := prog_10_method_10_code
def yX8_isWord : MethodName := ⟨RX8, "isWord", "(IIIIII)Z"⟩
abbrev cX8_takeNumber : ByteArray := prog_10_method_11_code
def yX8_takeNumber : MethodName := ⟨RX8, "takeNumber", "(II)I"⟩
abbrev cX8_takeHarvest : ByteArray := prog_10_method_12_code
def yX8_takeHarvest : MethodName := ⟨RX8, "takeHarvest", "()V"⟩
abbrev cX8_takeHouse : ByteArray := prog_10_method_13_code
def yX8_takeHouse : MethodName := ⟨RX8, "takeHouse", "()V"⟩
abbrev cX8_takeJar : ByteArray := prog_10_method_14_code
def yX8_takeJar : MethodName := ⟨RX8, "takeJar", "()V"⟩
abbrev cX8_isHarvestWord : ByteArray := prog_10_method_15_code
def yX8_isHarvestWord : MethodName := ⟨RX8, "isHarvestWord", "()Z"⟩
abbrev cX8_takeClause : ByteArray := prog_10_method_16_code
def yX8_takeClause : MethodName := ⟨RX8, "takeClause", "()V"⟩
abbrev cX8_land : ByteArray := prog_10_method_17_code
def yX8_land : MethodName := ⟨RX8, "land", "()I"⟩
abbrev cX8_fault : ByteArray := prog_10_method_18_code
def yX8_fault : MethodName := ⟨RX8, "fault", "()I"⟩
abbrev cX8_add : ByteArray := prog_10_method_19_code
def yX8_add : MethodName := ⟨RX8, "add", "(IIIIIII)V"⟩
abbrev cX8_isHouse : ByteArray := prog_10_method_20_code
def yX8_isHouse : MethodName := ⟨RX8, "isHouse", "(I)Z"⟩
abbrev cX8_isJar : ByteArray := prog_10_method_21_code
def yX8_isJar : MethodName := ⟨RX8, "isJar", "(I)Z"⟩
abbrev cX8_harvestOf : ByteArray := prog_10_method_22_code
def yX8_harvestOf : MethodName := ⟨RX8, "harvestOf", "(I)I"⟩
abbrev cX8_filled : ByteArray := prog_10_method_23_code
def yX8_filled : MethodName := ⟨RX8, "filled", "(III)I"⟩
abbrev cX8_mayBe : ByteArray := prog_10_method_24_code
def yX8_mayBe : MethodName := ⟨RX8, "mayBe", "(III)Z"⟩
abbrev cX8_may : ByteArray := prog_10_method_25_code
def yX8_may : MethodName := ⟨RX8, "may", "(III)Z"⟩
abbrev cX8_gone : ByteArray := prog_10_method_26_code
def yX8_gone : MethodName := ⟨RX8, "gone", "()I"⟩
abbrev cX8_told : ByteArray := prog_10_method_27_code
def yX8_told : MethodName := ⟨RX8, "told", "(I)I"⟩
abbrev cX8_jarsOf : ByteArray := prog_10_method_28_code
def yX8_jarsOf : MethodName := ⟨RX8, "jarsOf", "(IZ)I"⟩
abbrev cX8_house : ByteArray := prog_10_method_29_code
def yX8_house : MethodName := ⟨RX8, "house", "(II)I"⟩
abbrev cX8_jar : ByteArray := prog_10_method_30_code
def yX8_jar : MethodName := ⟨RX8, "jar", "(II)I"⟩
abbrev cX8_law : ByteArray := prog_10_method_31_code
def yX8_law : MethodName := ⟨RX8, "law", "(I)I"⟩
abbrev cX8_seals : ByteArray := prog_10_method_32_code
def yX8_seals : MethodName := ⟨RX8, "seals", "(II)I"⟩
abbrev cX8_give : ByteArray := prog_10_method_33_code
def yX8_give : MethodName := ⟨RX8, "give", "(II)I"⟩
abbrev cX8_label : ByteArray := prog_10_method_34_code
def yX8_label : MethodName := ⟨RX8, "label", "(II)I"⟩
abbrev cX8_open : ByteArray := prog_10_method_35_code
def yX8_open : MethodName := ⟨RX8, "open", "(I)I"⟩
abbrev cX8_firstToOpen : ByteArray := prog_10_method_36_code
def yX8_firstToOpen : MethodName := ⟨RX8, "firstToOpen", "(II)I"⟩
abbrev cX8_eat : ByteArray := prog_10_method_37_code
def yX8_eat : MethodName := ⟨RX8, "eat", "(III)I"⟩
abbrev cX8_hunger : ByteArray := prog_10_method_38_code
def yX8_hunger : MethodName := ⟨RX8, "hunger", "(III)V"⟩
abbrev cX8_clearHungers : ByteArray := prog_10_method_39_code
def yX8_clearHungers : MethodName := ⟨RX8, "clearHungers", "()V"⟩
abbrev cX8_pass : ByteArray := prog_10_method_40_code
def yX8_pass : MethodName := ⟨RX8, "pass", "(I)V"⟩
abbrev cX8_allHungers : ByteArray := prog_10_method_41_code
def yX8_allHungers : MethodName := ⟨RX8, "allHungers", "()I"⟩
abbrev cX8_year : ByteArray := prog_10_method_42_code
def yX8_year : MethodName := ⟨RX8, "year", "(I)I"⟩
abbrev cX8_draw : ByteArray := prog_10_method_43_code
def yX8_draw : MethodName := ⟨RX8, "draw", "(I)I"⟩
abbrev cX8_drift : ByteArray := prog_10_method_44_code
def yX8_drift : MethodName := ⟨RX8, "drift", "(I)I"⟩
abbrev cX8_copy : ByteArray := prog_10_method_45_code
def yX8_copy : MethodName := ⟨RX8, "copy", "(II)V"⟩
abbrev cX8_findOwn : ByteArray := prog_10_method_46_code
def yX8_findOwn : MethodName := ⟨RX8, "findOwn", "(I)V"⟩
abbrev cX8_inSet : ByteArray := prog_10_method_47_code
def yX8_inSet : MethodName := ⟨RX8, "inSet", "(II)I"⟩
abbrev cX8_hungerBy : ByteArray := prog_10_method_48_code
def yX8_hungerBy : MethodName := ⟨RX8, "hungerBy", "(III)I"⟩
abbrev cX8_findPlan : ByteArray := prog_10_method_49_code
def yX8_findPlan : MethodName := ⟨RX8, "findPlan", "(II)V"⟩
abbrev cX8_plan : ByteArray := prog_10_method_50_code
def yX8_plan : MethodName := ⟨RX8, "plan", "(III)I"⟩
abbrev cX8_try_ : ByteArray := prog_10_method_51_code
def yX8_try_ : MethodName := ⟨RX8, "try_", "(I)V"⟩
abbrev cX8_sealing : ByteArray := prog_10_method_52_code
def yX8_sealing : MethodName := ⟨RX8, "sealing", "(II)I"⟩
abbrev cX8_changes : ByteArray := prog_10_method_53_code
def yX8_changes : MethodName := ⟨RX8, "changes", "(III)Z"⟩
abbrev cX8_changeFirst : ByteArray := prog_10_method_54_code
def yX8_changeFirst : MethodName := ⟨RX8, "changeFirst", "(I)Z"⟩
abbrev cX8_change : ByteArray := prog_10_method_55_code
def yX8_change : MethodName := ⟨RX8, "change", "(I)I"⟩
abbrev cX8_other : ByteArray := prog_10_method_56_code
def yX8_other : MethodName := ⟨RX8, "other", "(II)I"⟩
abbrev cX8_offBy : ByteArray := prog_10_method_57_code
def yX8_offBy : MethodName := ⟨RX8, "offBy", "(II)I"⟩
abbrev cX8_bequest : ByteArray := prog_10_method_58_code
def yX8_bequest : MethodName := ⟨RX8, "bequest", "(II)I"⟩
abbrev cX8_siegeOf : ByteArray := prog_10_method_59_code
def yX8_siegeOf : MethodName := ⟨RX8, "siegeOf", "(II)I"⟩
abbrev cX8_siege : ByteArray := prog_10_method_60_code
def yX8_siege : MethodName := ⟨RX8, "siege", "(II)I"⟩
abbrev cX8_when : ByteArray := prog_10_method_61_code
def yX8_when : MethodName := ⟨RX8, "when", "(II)I"⟩
abbrev cX8_older : ByteArray := prog_10_method_62_code
def yX8_older : MethodName := ⟨RX8, "older", "(II)I"⟩
abbrev cX8_ones : ByteArray := prog_10_method_63_code
def yX8_ones : MethodName := ⟨RX8, "ones", "(I)I"⟩
abbrev cX8_forged : ByteArray := prog_10_method_64_code
def yX8_forged : MethodName := ⟨RX8, "forged", "()I"⟩
abbrev cX8_write : ByteArray := prog_10_method_65_code
def yX8_write : MethodName := ⟨RX8, "write", "(II)I"⟩
abbrev cX8_tear : ByteArray := prog_10_method_66_code
def yX8_tear : MethodName := ⟨RX8, "tear", "()I"⟩
abbrev cX8_judge : ByteArray := prog_10_method_67_code
def yX8_judge : MethodName := ⟨RX8, "judge", "()I"⟩
abbrev cX8_seed : ByteArray := prog_10_method_68_code
def yX8_seed : MethodName := ⟨RX8, "seed", "(I)I"⟩
abbrev cX8_keep : ByteArray := prog_10_method_69_code
def yX8_keep : MethodName := ⟨RX8, "keep", "(I)I"⟩
abbrev cX8_goBack : ByteArray := prog_10_method_70_code
def yX8_goBack : MethodName := ⟨RX8, "goBack", "(I)I"⟩
def RJ6 : String := "java/lang/Integer"
def TJ6 : u_T := fun k => match k with
  | _ => ("", "", "", false)
def tyJ6 : Nat → FieldType := fun k => match k with
  | _ => .int
abbrev wsJ60 : List Cond := u_ws RJ6 TJ6 0
theorem nmJ6 : ∀ a, a < 0 → ∀ b, b < 0 → a ≠ b → (TJ6 a).2.1 ≠ (TJ6 b).2.1 := by decide +kernel
theorem tyJ6_ok : ∀ k, k < 0 → parseFieldDescriptor (TJ6 k).2.2.1 = some (tyJ6 k) := by decide +kernel
abbrev cJ6_bitCount_0f7a4 : ByteArray := prog_11_method_49_code
def yJ6_bitCount_0f7a4 : MethodName := ⟨RJ6, "bitCount", "(I)I"⟩
def RJ9 : String := "java/lang/Math"
def TJ9 : u_T := fun k => match k with
  | _ => ("", "", "", false)
def tyJ9 : Nat → FieldType := fun k => match k with
  | _ => .int
abbrev wsJ90 : List Cond := u_ws RJ9 TJ9 0
theorem nmJ9 : ∀ a, a < 0 → ∀ b, b < 0 → a ≠ b → (TJ9 a).2.1 ≠ (TJ9 b).2.1 := by decide +kernel
theorem tyJ9_ok : ∀ k, k < 0 → parseFieldDescriptor (TJ9 k).2.2.1 = some (tyJ9 k) := by decide +kernel
abbrev cJ9_max_7cf53 : ByteArray := prog_12_method_65_code
def yJ9_max_7cf53 : MethodName := ⟨RJ9, "max", "(II)I"⟩
abbrev cJ9_min_7cf53 : ByteArray := prog_12_method_69_code
def yJ9_min_7cf53 : MethodName := ⟨RJ9, "min", "(II)I"⟩
def RJ0 : String := "java/lang/String"
def TJ0 : u_T := fun k => match k with
  | _ => ("", "", "", false)
def tyJ0 : Nat → FieldType := fun k => match k with
  | _ => .int
abbrev wsJ00 : List Cond := u_ws RJ0 TJ0 0
theorem nmJ0 : ∀ a, a < 0 → ∀ b, b < 0 → a ≠ b → (TJ0 a).2.1 ≠ (TJ0 b).2.1 := by decide +kernel
theorem tyJ0_ok : ∀ k, k < 0 → parseFieldDescriptor (TJ0 k).2.2.1 = some (tyJ0 k) := by decide +kernel
abbrev cJ0_length_8abf5 : ByteArray := prog_13_method_54_code
def yJ0_length_8abf5 : MethodName := ⟨RJ0, "length", "()I"⟩
abbrev cJ0_charAt_5068e : ByteArray := prog_13_method_56_code
def yJ0_charAt_5068e : MethodName := ⟨RJ0, "charAt", "(I)C"⟩
abbrev cJ0_coder_7d493 : ByteArray := prog_13_method_152_code
def yJ0_coder_7d493 : MethodName := ⟨RJ0, "coder", "()B"⟩
abbrev cJ0_isLatin1_aae02 : ByteArray := prog_13_method_154_code
def yJ0_isLatin1_aae02 : MethodName := ⟨RJ0, "isLatin1", "()Z"⟩
abbrev cJ0_checkIndex_df160 : ByteArray := prog_13_method_155_code
def yJ0_checkIndex_df160 : MethodName := ⟨RJ0, "checkIndex", "(II)V"⟩
def RJ1 : String := "java/lang/StringLatin1"
def TJ1 : u_T := fun k => match k with
  | _ => ("", "", "", false)
def tyJ1 : Nat → FieldType := fun k => match k with
  | _ => .int
abbrev wsJ10 : List Cond := u_ws RJ1 TJ1 0
theorem nmJ1 : ∀ a, a < 0 → ∀ b, b < 0 → a ≠ b → (TJ1 a).2.1 ≠ (TJ1 b).2.1 := by decide +kernel
theorem tyJ1_ok : ∀ k, k < 0 → parseFieldDescriptor (TJ1 k).2.2.1 = some (tyJ1 k) := by decide +kernel
abbrev cJ1_charAt_3b067 : ByteArray := prog_14_method_2_code
def yJ1_charAt_3b067 : MethodName := ⟨RJ1, "charAt", "([BI)C"⟩
def RJ2 : String := "java/lang/StringUTF16"
def TJ2 : u_T := fun k => match k with
  | _ => ("", "", "", false)
def tyJ2 : Nat → FieldType := fun k => match k with
  | _ => .int
abbrev wsJ20 : List Cond := u_ws RJ2 TJ2 0
theorem nmJ2 : ∀ a, a < 0 → ∀ b, b < 0 → a ≠ b → (TJ2 a).2.1 ≠ (TJ2 b).2.1 := by decide +kernel
theorem tyJ2_ok : ∀ k, k < 0 → parseFieldDescriptor (TJ2 k).2.2.1 = some (tyJ2 k) := by decide +kernel
abbrev cJ2_getChar_3b067 : ByteArray := prog_15_method_5_code
def yJ2_getChar_3b067 : MethodName := ⟨RJ2, "getChar", "([BI)C"⟩
abbrev cJ2_length_9d52b : ByteArray := prog_15_method_6_code
def yJ2_length_9d52b : MethodName := ⟨RJ2, "length", "([B)I"⟩
abbrev cJ2_charAt_3b067 : ByteArray := prog_15_method_83_code
def yJ2_charAt_3b067 : MethodName := ⟨RJ2, "charAt", "([BI)C"⟩
abbrev cJ2_checkIndex_2214a : ByteArray := prog_15_method_91_code
def yJ2_checkIndex_2214a : MethodName := ⟨RJ2, "checkIndex", "(I[B)V"⟩
def RJ10 : String := "java/lang/System"
def TJ10 : u_T := fun k => match k with
  | _ => ("", "", "", false)
def tyJ10 : Nat → FieldType := fun k => match k with
  | _ => .int
abbrev wsJ100 : List Cond := u_ws RJ10 TJ10 0
theorem nmJ10 : ∀ a, a < 0 → ∀ b, b < 0 → a ≠ b → (TJ10 a).2.1 ≠ (TJ10 b).2.1 := by decide +kernel
theorem tyJ10_ok : ∀ k, k < 0 → parseFieldDescriptor (TJ10 k).2.2.1 = some (tyJ10 k) := by decide +kernel
def RJ3 : String := "jdk/internal/util/Preconditions"
def TJ3 : u_T := fun k => match k with
  | _ => ("", "", "", false)
def tyJ3 : Nat → FieldType := fun k => match k with
  | _ => .int
abbrev wsJ30 : List Cond := u_ws RJ3 TJ3 0
theorem nmJ3 : ∀ a, a < 0 → ∀ b, b < 0 → a ≠ b → (TJ3 a).2.1 ≠ (TJ3 b).2.1 := by decide +kernel
theorem tyJ3_ok : ∀ k, k < 0 → parseFieldDescriptor (TJ3 k).2.2.1 = some (tyJ3 k) := by decide +kernel
abbrev cJ3_checkIndex_8e157 : ByteArray := prog_17_method_11_code
def yJ3_checkIndex_8e157 : MethodName := ⟨RJ3, "checkIndex", "(IILjava/util/function/BiFunction;)I"⟩
def RL : String := "DatedJarsLaw"
abbrev cL_law : ByteArray := code
def yL_law : MethodName := ⟨RL, "law", "([I)Z"⟩
abbrev vwCl : List vw_C := [(RX0, TX0, 3), (RX1, TX1, 8), (RX2, TX2, 8), (RX3, TX3, 4), (RX4, TX4, 12), (RX5, TX5, 8), (RX6, TX6, 6), (RX7, TX7, 10), (RX8, TX8, 28)]
end
section
/-! ENGINE 1: abstract worlds, the judgement V -/
abbrev NC : Nat := 104
def shp (k : Nat) : Nat × Nat × List (Option Nat) := (bif Nat.ble 52 k then (bif Nat.ble 78 k then (bif Nat.ble 91 k then (bif Nat.ble 98 k then (bif Nat.ble 101 k then (bif Nat.ble 103 k then (bif Nat.ble 104 k then (9, 0, []) else (1, 30, [])) else (bif Nat.ble 102 k then (1, 30, []) else (1, 12, []))) else (bif Nat.ble 99 k then (bif Nat.ble 100 k then (1, 12, []) else (1, 3400, [])) else (1, 8, []))) else (bif Nat.ble 94 k then (bif Nat.ble 96 k then (bif Nat.ble 97 k then (1, 4, []) else (1, 400, [])) else (bif Nat.ble 95 k then (1, 60, []) else (1, 8, []))) else (bif Nat.ble 92 k then (bif Nat.ble 93 k then (1, 8, []) else (1, 16, [])) else (3, 2, [])))) else (bif Nat.ble 84 k then (bif Nat.ble 87 k then (bif Nat.ble 89 k then (bif Nat.ble 90 k then (1, 800, []) else (0, 8, [some 90, some 91, some 92, none, some 93, some 94, some 95, none, none, none, none, some 96, none, none, none, none, none, none, some 97, some 98, none, some 99, some 100, some 101, none, some 102, some 103, none])) else (bif Nat.ble 88 k then (1, 4, []) else (1, 30, []))) else (bif Nat.ble 85 k then (bif Nat.ble 86 k then (1, 30, []) else (0, 0, [none, some 86, some 87])) else (1, 12, []))) else (bif Nat.ble 81 k then (bif Nat.ble 82 k then (bif Nat.ble 83 k then (1, 12, []) else (1, 12, [])) else (0, 3, [none, some 82, some 83, some 84])) else (bif Nat.ble 79 k then (bif Nat.ble 80 k then (1, 4, []) else (1, 8, [])) else (1, 8, []))))) else (bif Nat.ble 65 k then (bif Nat.ble 71 k then (bif Nat.ble 74 k then (bif Nat.ble 76 k then (bif Nat.ble 77 k then (1, 4, []) else (1, 8, [])) else (bif Nat.ble 75 k then (0, 2, [some 76, none, some 77, none, some 78, some 79, some 80, none]) else (1, 12, []))) else (bif Nat.ble 72 k then (bif Nat.ble 73 k then (1, 256, []) else (1, 256, [])) else (1, 256, []))) else (bif Nat.ble 68 k then (bif Nat.ble 69 k then (bif Nat.ble 70 k then (1, 256, []) else (1, 256, [])) else (1, 256, [])) else (bif Nat.ble 66 k then (bif Nat.ble 67 k then (1, 256, []) else (1, 256, [])) else (1, 256, [])))) else (bif Nat.ble 58 k then (bif Nat.ble 61 k then (bif Nat.ble 63 k then (bif Nat.ble 64 k then (1, 256, []) else (1, 256, [])) else (bif Nat.ble 62 k then (1, 256, []) else (1, 256, []))) else (bif Nat.ble 59 k then (bif Nat.ble 60 k then (1, 256, []) else (5, 13, [some 60, some 1])) else (1, 8, []))) else (bif Nat.ble 55 k then (bif Nat.ble 56 k then (bif Nat.ble 57 k then (0, 5, [some 58, none, some 59, some 73, none, none, some 74, none]) else (2, 400, [])) else (0, 6, [some 56, none, none, none, none, none])) else (bif Nat.ble 53 k then (bif Nat.ble 54 k then (3, 2, []) else (1, 24, [])) else (1, 24, [])))))) else (bif Nat.ble 26 k then (bif Nat.ble 39 k then (bif Nat.ble 45 k then (bif Nat.ble 48 k then (bif Nat.ble 50 k then (bif Nat.ble 51 k then (1, 24, []) else (1, 24, [])) else (bif Nat.ble 49 k then (1, 24, []) else (1, 24, []))) else (bif Nat.ble 46 k then (bif Nat.ble 47 k then (0, 1, [none, some 48, some 49, some 50, some 51, some 52, some 53, none]) else (1, 8, [])) else (1, 4, []))) else (bif Nat.ble 42 k then (bif Nat.ble 43 k then (bif Nat.ble 44 k then (1, 4, []) else (1, 4, [])) else (1, 4, [])) else (bif Nat.ble 40 k then (bif Nat.ble 41 k then (0, 4, [none, some 42, some 43, some 44, some 45, none, some 46, none, none, none, none, some 47]) else (1, 24, [])) else (1, 24, [])))) else (bif Nat.ble 32 k then (bif Nat.ble 35 k then (bif Nat.ble 37 k then (bif Nat.ble 38 k then (1, 24, []) else (1, 24, [])) else (bif Nat.ble 36 k then (1, 24, []) else (1, 24, []))) else (bif Nat.ble 33 k then (bif Nat.ble 34 k then (0, 1, [none, some 35, some 36, some 37, some 38, some 39, some 40, none]) else (1, 8, [])) else (1, 4, []))) else (bif Nat.ble 29 k then (bif Nat.ble 30 k then (bif Nat.ble 31 k then (1, 4, []) else (1, 4, [])) else (1, 4, [])) else (bif Nat.ble 27 k then (bif Nat.ble 28 k then (0, 4, [none, some 29, some 30, some 31, some 32, none, some 33, none, none, none, none, some 34]) else (4, 2, [some 28, some 13])) else (1, 24, []))))) else (bif Nat.ble 13 k then (bif Nat.ble 19 k then (bif Nat.ble 22 k then (bif Nat.ble 24 k then (bif Nat.ble 25 k then (1, 24, []) else (1, 24, [])) else (bif Nat.ble 23 k then (1, 24, []) else (1, 24, []))) else (bif Nat.ble 20 k then (bif Nat.ble 21 k then (1, 24, []) else (0, 1, [none, some 21, some 22, some 23, some 24, some 25, some 26, none])) else (1, 8, []))) else (bif Nat.ble 16 k then (bif Nat.ble 17 k then (bif Nat.ble 18 k then (1, 4, []) else (1, 4, [])) else (1, 4, [])) else (bif Nat.ble 14 k then (bif Nat.ble 15 k then (1, 4, []) else (0, 4, [none, some 15, some 16, some 17, some 18, none, some 19, none, none, none, none, some 20])) else (1, 24, [])))) else (bif Nat.ble 6 k then (bif Nat.ble 9 k then (bif Nat.ble 11 k then (bif Nat.ble 12 k then (1, 24, []) else (1, 24, [])) else (bif Nat.ble 10 k then (1, 24, []) else (1, 24, []))) else (bif Nat.ble 7 k then (bif Nat.ble 8 k then (1, 24, []) else (0, 1, [none, some 8, some 9, some 10, some 11, some 12, some 13, none])) else (1, 8, []))) else (bif Nat.ble 3 k then (bif Nat.ble 4 k then (bif Nat.ble 5 k then (1, 4, []) else (1, 4, [])) else (1, 4, [])) else (bif Nat.ble 1 k then (bif Nat.ble 2 k then (1, 4, []) else (0, 4, [none, some 2, some 3, some 4, some 5, none, some 6, none, none, none, none, some 7])) else (0, 7, [some 1, some 14, some 27, some 54, some 55, some 57, some 75, some 81, some 85, some 88])))))))
abbrev Sg : Type := Nat → Nat → Int32
def sgc (σ : Sg) (c : Nat) (f : Nat → Int32) : Sg := fun d => if d = c then f else σ d
def sgu (σ : Sg) (c k : Nat) (v : Int32) : Sg := sgc σ c (upd (σ c) k v)
abbrev Lv : Type := List (Nat × Value)
abbrev MS : Type := MethodName × ByteArray × Nat × Option FieldType × Room
abbrev En : Type := Instr × Nat × Nat × Nat × Nat × Int32 × Int64 × MS
abbrev Cd : Type := List (Nat × List (Nat × En))
def eg_nth {α : Type} : List α → Nat → Option α
  | [], _ => none
  | a :: _, 0 => some a
  | _ :: t, n + 1 => eg_nth t n
theorem eg_nth_eq {α : Type} : ∀ (l : List α) (n : Nat), eg_nth l n = l[n]?
  | [], n => by simp [eg_nth]
  | a :: t, 0 => by simp [eg_nth]
  | a :: t, n + 1 => by simp [eg_nth, eg_nth_eq t n]
def eg_cv (ad : Nat → Nat) : Value → Value
  | .ref k => .ref (ad k)
  | v => v
theorem eg_cv_cat (ad : Nat → Nat) (v : Value) : (eg_cv ad v).category = v.category := by cases v <;> rfl
def eg_sl (ad : Nat → Nat) (f : Nat → Int32) : Nat → List (Option Nat) → List Value
  | _, [] => []
  | i, none :: t => .int (f i) :: eg_sl ad f (i + 1) t
  | i, some r :: t => .ref (ad r) :: eg_sl ad f (i + 1) t
theorem eg_sl_len (ad : Nat → Nat) (f : Nat → Int32) : ∀ (l : List (Option Nat)) (i : Nat), (eg_sl ad f i l).length = l.length
  | [], _ => rfl
  | none :: t, i => by simp [eg_sl, eg_sl_len ad f t (i + 1)]
  | some r :: t, i => by simp [eg_sl, eg_sl_len ad f t (i + 1)]
theorem eg_sl_at (ad : Nat → Nat) (f : Nat → Int32) : ∀ (l : List (Option Nat)) (i k : Nat), (eg_sl ad f i l)[k]? = (l[k]?).map (fun o => match o with | none => .int (f (i + k)) | some r => .ref (ad r))
  | [], i, k => by simp [eg_sl]
  | none :: t, i, 0 => by simp [eg_sl]
  | some r :: t, i, 0 => by simp [eg_sl]
  | none :: t, i, k + 1 => by
    simp only [eg_sl, List.getElem?_cons_succ, eg_sl_at ad f t (i + 1) k]
    congr 1
    funext o
    cases o <;> simp [Nat.add_comm, Nat.add_left_comm]
  | some r :: t, i, k + 1 => by
    simp only [eg_sl, List.getElem?_cons_succ, eg_sl_at ad f t (i + 1) k]
    congr 1
    funext o
    cases o <;> simp [Nat.add_comm, Nat.add_left_comm]
theorem eg_sl_set (ad : Nat → Nat) (f : Nat → Int32) (v : Int32) : ∀ (l : List (Option Nat)) (i k : Nat), l[k]? = some none → (eg_sl ad f i l).set k (.int v) = eg_sl ad (upd f (i + k) v) i l
  | [], i, k, h => by simp at h
  | none :: t, i, 0, h => by
    have e : ∀ (l : List (Option Nat)) (j : Nat), i < j → eg_sl ad f j l = eg_sl ad (upd f i v) j l := by
      intro l
      induction l with
      | nil => intro j _; rfl
      | cons o l ih =>
        intro j hj
        cases o with
        | none => simp only [eg_sl, ih (j + 1) (by omega)]; simp [upd, show ¬ j = i by omega]
        | some r => simp only [eg_sl, ih (j + 1) (by omega)]
    simp only [eg_sl, List.set_cons_zero, Nat.add_zero, e t (i + 1) (by omega)]
    simp [upd]
  | some r :: t, i, 0, h => by simp at h
  | none :: t, i, k + 1, h => by
    simp only [eg_sl, List.set_cons_succ, eg_sl_set ad f v t (i + 1) k (by simpa using h), Nat.add_assoc, Nat.add_comm 1 k]
    simp [upd]
  | some r :: t, i, k + 1, h => by
    simp only [eg_sl, List.set_cons_succ, eg_sl_set ad f v t (i + 1) k (by simpa using h), Nat.add_assoc, Nat.add_comm 1 k]
def eg_rb (sl : List (Option Nat)) : Nat := match sl with
  | some b :: _ => b
  | _ => 0
def eg_rs (sl : List (Option Nat)) : Nat := match sl with
  | _ :: some b :: _ => b
  | _ => 0
def cellE (ad : Nat → Nat) (cy : Nat → ClassId) (σ : Sg) (k : Nat) : va_E :=
  if (shp k).1 = 0 then .inr ((shp k).2.1, eg_sl ad (σ k) 0 (shp k).2.2)
  else if (shp k).1 ≤ 3 then .inl (cy (shp k).1, (shp k).2.1, .inl (σ k))
  else .inl (cy (shp k).1, (shp k).2.1, .inr (.inr (.inr (.inr (fun i => some (ad (eg_rb (shp k).2.2 + eg_rs (shp k).2.2 * i)))))))
def cellsA (ad : Nat → Nat) (cy : Nat → ClassId) (σ : Sg) : va_W := (List.range NC).map fun k => (ad k, cellE ad cy σ k)
theorem cells_at {ad : Nat → Nat} {cy : Nat → ClassId} {σ : Sg} {k : Nat} (h : k < NC) : (cellsA ad cy σ)[k]? = some (ad k, cellE ad cy σ k) := by
  simp [cellsA, h]
theorem cells_inv {ad : Nat → Nat} {cy : Nat → ClassId} {σ : Sg} {k : Nat} {q : Nat × va_E} (h : (cellsA ad cy σ)[k]? = some q) : k < NC ∧ q = (ad k, cellE ad cy σ k) := by
  have hk : k < NC := by
    have := (List.getElem?_eq_some_iff.mp h).1
    simpa [cellsA] using this
  rw [cells_at hk] at h
  exact ⟨hk, (Option.some.inj h).symm⟩
theorem cellE_congr {ad : Nat → Nat} {cy : Nat → ClassId} {σ σ' : Sg} {k : Nat} (h : σ' k = σ k) : cellE ad cy σ' k = cellE ad cy σ k := by
  unfold cellE; rw [h]
theorem cells_set {ad : Nat → Nat} {cy : Nat → ClassId} {σ σ' : Sg} {c : Nat} {e : va_E} (hc : c < NC) (he : e = cellE ad cy σ' c) (h : ∀ d, d ≠ c → σ' d = σ d) : (cellsA ad cy σ).set c (ad c, e) = cellsA ad cy σ' := by
  subst he
  apply List.ext_getElem?
  intro i
  by_cases hi : i = c
  · subst hi
    rw [List.getElem?_set_self (by simpa [cellsA] using hc), cells_at hc]
  · rw [List.getElem?_set_ne (fun q => hi q.symm)]
    by_cases hn : i < NC
    · rw [cells_at hn, cells_at hn, cellE_congr (h i hi)]
    · rw [List.getElem?_eq_none (by simp [cellsA]; omega), List.getElem?_eq_none (by simp [cellsA]; omega)]
def AA (ad : Nat → Nat) : Nat → Prop := fun q => ∃ k, k < NC ∧ q = ad k
def InjA (ad : Nat → Nat) : Prop := ∀ i j, i < NC → j < NC → ad i = ad j → i = j
theorem cells_D {ad : Nat → Nat} (h : InjA ad) (cy : Nat → ClassId) (σ : Sg) : va_D (AA ad) (cellsA ad cy σ) := by
  refine ⟨fun i j p q hi hj e => ?_, fun k q hk => ?_⟩
  · obtain ⟨a, rfl⟩ := cells_inv hi
    obtain ⟨b, rfl⟩ := cells_inv hj
    exact h i j a b e
  · obtain ⟨a, rfl⟩ := cells_inv hk
    exact ⟨k, a, rfl⟩
abbrev tysA (cy : Nat → ClassId) : List (ClassId × FieldType) := [(cy 1, .int), (cy 2, .byte), (cy 3, .boolean), (cy 4, .object "DatedJars$Land"), (cy 5, .array .int)]
/-- the six String constants: their lengths and bytes -/
def eg_len : List Nat := [7, 5, 3, 5, 4, 5]
def eg_byt : List (List Int32) := [[104, 97, 114, 118, 101, 115, 116], [104, 111, 117, 115, 101], [106, 97, 114], [112, 108, 97, 105, 110], [112, 108, 117, 109], [103, 108, 97, 115, 115]]
def eg_idx : List Nat := [48, 58, 63, 110, 112, 114]
def eg_txt : List String := ["harvest", "house", "jar", "plain", "plum", "glass"]
def StrU (ad : Nat → Nat) (U : State) (H : Heap) : Prop := (∃ adV : Nat → Nat, vk_S 6 eg_len eg_byt (fun i => ad (1000 + i)) adV (AA ad) U H) ∧ va_Z "java/lang/String" "COMPACT_STRINGS" "Z" (.int 1) (AA ad) U H ∧ ∀ i : Nat, i < 6 → vk_R "DatedJars$Reader" (eg_idx.getD i 0) (eg_txt.getD i "") (ad (1000 + i)) U
def GdU (D : va_G) (ad : Nat → Nat) (cy : Nat → ClassId) (U : State) : Prop := va_K D vwCl (tysA cy) U ∧ StrU ad U U.heap ∧ InjA ad
def QQ (D : va_G) (ad : Nat → Nat) (cy : Nat → ClassId) (R : Option Value → Sg → Prop) : Array Value → State → Outcome → State → Prop := fun _ st oc t =>
  (∃ (v : Option Value) (σ' : Sg), oc = .returned (v.map (eg_cv ad)) ∧ R v σ' ∧ va_P D vwCl (cellsA ad cy σ') t.heap) ∧ va_F (AA ad) st t
def Gd : List Cond := lw_tbl.filter goodWord
theorem Gd_in {w : Cond} {i : Nat} (h : lw_tbl[i]? = some w) (hg : goodWord w = true) : w ∈ Gd := List.mem_filter.mpr ⟨List.mem_of_getElem? h, hg⟩
theorem Gd_good : GoodIn Gd Gd := fun w h => ⟨h, good_of_word (List.mem_filter.mp h).2⟩
def wsM (ms : MS) : List Cond := Cond.code ms.1 ms.2.1 ms.2.2.1 ms.2.2.2.1 :: Gd
def stB (y : MethodName) : Bool := decide (y.cls = "java/lang/Math") || decide (y.cls = "java/lang/Integer") || (decide (y.cls = "DatedJarsModel") && (decide (y.name = "in") || decide (y.desc = "(Z)I") || decide (y.name = "has") || decide (y.name = "ones")))
/-- what the tables say of a method -/
def OkM (ms : MS) : Prop := Cond.code ms.1 ms.2.1 ms.2.2.1 ms.2.2.2.1 ∈ Gd ∧ Cond.initialized ms.1.cls ∈ Gd ∧ ((stB ms.1 = false → Cond.instanceMethod ms.1 ∈ Gd ∧ Cond.selects ms.1.cls ms.1 ms.1 ∈ Gd) ∧ (stB ms.1 = true → Cond.static ms.1 ∈ Gd)) ∧ plainName ms.1.cls = true ∧ (ms.1.cls ≠ "java/lang/invoke/MethodHandle" ∧ ms.1.cls ≠ "java/lang/invoke/VarHandle") ∧ ms.2.2.2.2.cells = 0 ∧ ms.2.2.2.2.slots = 0
def MetA (ms : MS) (av : List Value) (σ : Sg) (R : Option Value → Sg → Prop) : Prop := OkM ms ∧ ∀ (l : Launch) (D : va_G) (ad : Nat → Nat) (cy : Nat → ClassId),
  Met l ms.1 (wsM ms) ms.2.2.2.2 (va_Pc (av.map (eg_cv ad)) (fun U => GdU D ad cy U ∧ va_P D vwCl (cellsA ad cy σ) U.heap)) (QQ D ad cy R) 0 0 (AA ad)
def Cx (ms : MS) (p : Program) (s : State) (m : MethodId) (args : Array Value) (meth : Method) (c : Code) (D : va_G) (ad : Nat → Nat) (cy : Nat → ClassId) : Prop :=
  p.tables.exec = Jvm.exec ∧ c.code = ms.2.1 ∧ meth.sig.returnType = ms.2.2.2.1 ∧ c.maxLocals = ms.2.2.1 ∧ s.vm.findClass ms.1.cls = some m.cls ∧ (∀ w ∈ Gd, w.before args s = true) ∧ meth.locks = false ∧ va_K D vwCl (tysA cy) s ∧ StrU ad s s.heap ∧ InjA ad
def eg_lc (ad : Nat → Nat) (lv : Lv) : Lv := lv.map fun q => (q.1, eg_cv ad q.2)
/-- from this abstract state the method comes to its end with R -/
def V (ms : MS) (pc : Nat) (lv : Lv) (st : List Value) (σ : Sg) (R : Option Value → Sg → Prop) : Prop :=
  ∀ (p : Program) (l : Launch) (e : Env) (s : State) (m : MethodId) (args : Array Value) (below : List Frame) (meth : Method) (c : Code) (D : va_G) (ad : Nat → Nat) (cy : Nat → ClassId), Cx ms p s m args meth c D ad cy →
  ∀ (H : Heap) (locs : List Loc) (ls : Array Slot), va_P D vwCl (cellsA ad cy σ) H → va_S (AA ad) s.heap H locs → lv_has ls ms.2.2.1 (eg_lc ad lv) →
  W p l e ms.2.2.2.2 s m args below meth c H locs 0 0 (MQ below (QQ D ad cy R) args s 0 0 (AA ad)) (F0 m pc ls (st.map (eg_cv ad)))
/-- locals -/
def lget : Lv → Nat → Option Value
  | [], _ => none
  | (j, v) :: t, i => bif Nat.beq j i then some v else lget t i
def lset : Lv → Nat → Value → Lv
  | [], i, v => [(i, v)]
  | (j, u) :: t, i, v => bif Nat.beq j i then (i, v) :: t.filter (fun q => !(q.1 == i) && !(q.1 + 1 == i && q.2.category == 2)) else bif Nat.beq (j + 1) i && Nat.beq u.category 2 then lset t i v else (j, u) :: lset t i v
def lset2 : Lv → Nat → Value → Lv
  | [], i, v => [(i, v)]
  | (j, u) :: t, i, v => bif Nat.beq j i then (i, v) :: t.filter (fun q => !(q.1 == i) && (!(q.1 == i + 1) && !(q.1 + 1 == i && q.2.category == 2))) else bif Nat.beq j (i + 1) || (Nat.beq (j + 1) i && Nat.beq u.category 2) then lset2 t i v else (j, u) :: lset2 t i v
theorem lget_mem : ∀ {lv : Lv} {i : Nat} {v : Value}, lget lv i = some v → (i, v) ∈ lv
  | [], i, v, h => by simp [lget] at h
  | (j, u) :: t, i, v, h => by
    unfold lget at h
    cases hb : Nat.beq j i with
    | true =>
      rw [hb] at h
      have e : j = i := Nat.eq_of_beq_eq_true hb
      have h2 : u = v := by simpa using h
      subst e; subst h2
      exact List.mem_cons_self
    | false =>
      rw [hb] at h
      exact List.mem_cons_of_mem _ (lget_mem (by simpa using h))
theorem lset_mem : ∀ {lv : Lv} {i : Nat} {v : Value} {q : Nat × Value}, q ∈ lset lv i v → q ∈ (i, v) :: lv.filter (fun q => !(q.1 == i) && !(q.1 + 1 == i && q.2.category == 2))
  | [], i, v, q, h => by simpa [lset] using h
  | (j, u) :: t, i, v, q, h => by
    unfold lset at h
    cases hb : Nat.beq j i with
    | true =>
      rw [hb] at h
      have e : j = i := Nat.eq_of_beq_eq_true hb
      subst e
      simpa using h
    | false =>
      have e : ¬ j = i := Nat.ne_of_beq_eq_false hb
      rw [hb] at h
      cases hc : (Nat.beq (j + 1) i && Nat.beq u.category 2) with
      | true =>
        rw [hc] at h
        have := lset_mem (by simpa using h : q ∈ lset t i v)
        rcases List.mem_cons.mp this with r | r
        · exact List.mem_cons.mpr (Or.inl r)
        · refine List.mem_cons.mpr (Or.inr ?_)
          obtain ⟨r1, r2⟩ := List.mem_filter.mp r
          exact List.mem_filter.mpr ⟨List.mem_cons_of_mem _ r1, r2⟩
      | false =>
        rw [hc] at h
        rcases List.mem_cons.mp (by simpa using h : q ∈ (j, u) :: lset t i v) with r | r
        · subst r
          refine List.mem_cons.mpr (Or.inr (List.mem_filter.mpr ⟨List.mem_cons_self, ?_⟩))
          simp only [Bool.and_eq_false_iff] at hc
          simp only [Bool.and_eq_true, Bool.not_eq_true', beq_eq_false_iff_ne, ne_eq, Bool.and_eq_false_iff]
          refine ⟨e, ?_⟩
          rcases hc with k | k
          · exact Or.inl (Nat.ne_of_beq_eq_false k)
          · exact Or.inr (Nat.ne_of_beq_eq_false k)
        · have := lset_mem r
          rcases List.mem_cons.mp this with r | r
          · exact List.mem_cons.mpr (Or.inl r)
          · refine List.mem_cons.mpr (Or.inr ?_)
            obtain ⟨r1, r2⟩ := List.mem_filter.mp r
            exact List.mem_filter.mpr ⟨List.mem_cons_of_mem _ r1, r2⟩
theorem lset2_mem : ∀ {lv : Lv} {i : Nat} {v : Value} {q : Nat × Value}, q ∈ lset2 lv i v → q ∈ (i, v) :: lv.filter (fun q => !(q.1 == i) && (!(q.1 == i + 1) && !(q.1 + 1 == i && q.2.category == 2)))
  | [], i, v, q, h => by simpa [lset2] using h
  | (j, u) :: t, i, v, q, h => by
    unfold lset2 at h
    cases hb : Nat.beq j i with
    | true =>
      rw [hb] at h
      have e : j = i := Nat.eq_of_beq_eq_true hb
      subst e
      simpa using h
    | false =>
      have e : ¬ j = i := Nat.ne_of_beq_eq_false hb
      rw [hb] at h
      cases hc : (Nat.beq j (i + 1) || (Nat.beq (j + 1) i && Nat.beq u.category 2)) with
      | true =>
        rw [hc] at h
        have := lset2_mem (by simpa using h : q ∈ lset2 t i v)
        rcases List.mem_cons.mp this with r | r
        · exact List.mem_cons.mpr (Or.inl r)
        · refine List.mem_cons.mpr (Or.inr ?_)
          obtain ⟨r1, r2⟩ := List.mem_filter.mp r
          exact List.mem_filter.mpr ⟨List.mem_cons_of_mem _ r1, r2⟩
      | false =>
        rw [hc] at h
        rcases List.mem_cons.mp (by simpa using h : q ∈ (j, u) :: lset2 t i v) with r | r
        · subst r
          refine List.mem_cons.mpr (Or.inr (List.mem_filter.mpr ⟨List.mem_cons_self, ?_⟩))
          simp only [Bool.or_eq_false_iff, Bool.and_eq_false_iff] at hc
          simp only [Bool.and_eq_true, Bool.not_eq_true', beq_eq_false_iff_ne, ne_eq, Bool.and_eq_false_iff]
          refine ⟨e, Nat.ne_of_beq_eq_false hc.1, ?_⟩
          rcases hc.2 with k | k
          · exact Or.inl (Nat.ne_of_beq_eq_false k)
          · exact Or.inr (Nat.ne_of_beq_eq_false k)
        · have := lset2_mem r
          rcases List.mem_cons.mp this with r | r
          · exact List.mem_cons.mpr (Or.inl r)
          · refine List.mem_cons.mpr (Or.inr ?_)
            obtain ⟨r1, r2⟩ := List.mem_filter.mp r
            exact List.mem_filter.mpr ⟨List.mem_cons_of_mem _ r1, r2⟩
theorem lc_filter (ad : Nat → Nat) (lv : Lv) (P : Nat → Nat → Bool) : eg_lc ad (lv.filter fun q => P q.1 q.2.category) = (eg_lc ad lv).filter fun q => P q.1 q.2.category := by
  unfold eg_lc
  rw [List.filter_map]
  congr 1
  apply List.filter_congr
  intro q _
  simp [eg_cv_cat]
theorem lv_has.of {ls : Array Slot} {n : Nat} {l l' : Lv} (h : lv_has ls n l) (hs : ∀ q ∈ l', q ∈ l) : lv_has ls n l' := ⟨h.1, h.2.1, fun q hq => h.2.2 q (hs q hq)⟩
theorem lset_has {ls : Array Slot} {n i : Nat} {lv : Lv} {v : Value} {ad : Nat → Nat} (h : lv_has ls n ((i, eg_cv ad v) :: (eg_lc ad lv).filter (fun q => !(q.1 == i) && !(q.1 + 1 == i && q.2.category == 2)))) : lv_has ls n (eg_lc ad (lset lv i v)) := by
  refine h.of fun q hq => ?_
  obtain ⟨q0, h0, rfl⟩ := List.mem_map.mp hq
  have := lset_mem h0
  rw [← lc_filter ad lv (fun a b => !(a == i) && !(a + 1 == i && b == 2))]
  rcases List.mem_cons.mp this with r | r
  · subst r; exact List.mem_cons_self
  · exact List.mem_cons_of_mem _ (List.mem_map.mpr ⟨q0, r, rfl⟩)
theorem lset2_has {ls : Array Slot} {n i : Nat} {lv : Lv} {v : Value} {ad : Nat → Nat} (h : lv_has ls n ((i, eg_cv ad v) :: (eg_lc ad lv).filter (fun q => !(q.1 == i) && (!(q.1 == i + 1) && !(q.1 + 1 == i && q.2.category == 2))))) : lv_has ls n (eg_lc ad (lset2 lv i v)) := by
  refine h.of fun q hq => ?_
  obtain ⟨q0, h0, rfl⟩ := List.mem_map.mp hq
  have := lset2_mem h0
  rw [← lc_filter ad lv (fun a b => !(a == i) && (!(a == i + 1) && !(a + 1 == i && b == 2)))]
  rcases List.mem_cons.mp this with r | r
  · subst r; exact List.mem_cons_self
  · exact List.mem_cons_of_mem _ (List.mem_map.mpr ⟨q0, r, rfl⟩)
theorem lget_has {ls : Array Slot} {n i : Nat} {lv : Lv} {v : Value} {ad : Nat → Nat} (h : lv_has ls n (eg_lc ad lv)) (hg : lget lv i = some v) : ls[i]? = some (.val (eg_cv ad v)) :=
  h.2.2 (i, eg_cv ad v) (List.mem_map.mpr ⟨(i, v), lget_mem hg, rfl⟩)
end
section
/-! ENGINE 2: what a program checks of the code tables -/
def ilen (ins : Instr) (w : Nat) : Nat := match ins with
  | .iload _ => 2 | .aload _ => 2 | .lload _ => 2 | .istore _ => 2 | .astore _ => 2 | .bipush _ => 2 | .ldc _ => 2
  | .sipush _ => 3 | .iinc _ _ => 3 | .ldc_w _ => 3 | .ldc2_w _ => 3 | .goto _ => 3 | .ifCond _ _ => 3 | .if_icmp _ _ => 3 | .getfield _ => 3 | .putfield _ => 3 | .invokevirtual _ => 3 | .invokestatic _ => 3
  | .tableswitch _ _ _ _ => w
  | .lookupswitch _ _ => w
  | _ => 1
def TTx (w : Nat) : u_T := match w with
  | 0 => TX0 | 1 => TX1 | 2 => TX2 | 3 => TX3 | 4 => TX4 | 5 => TX5 | 6 => TX6 | 7 => TX7 | _ => TX8
def TYx (w : Nat) : Nat → FieldType := match w with
  | 0 => tyX0 | 1 => tyX1 | 2 => tyX2 | 3 => tyX3 | 4 => tyX4 | 5 => tyX5 | 6 => tyX6 | 7 => tyX7 | _ => tyX8
def NNx (w : Nat) : Nat := match w with
  | 0 => 3 | 1 => 8 | 2 => 8 | 3 => 4 | 4 => 12 | 5 => 8 | 6 => 6 | 7 => 10 | _ => 28
def RRx (w : Nat) : String := match w with
  | 0 => RX0 | 1 => RX1 | 2 => RX2 | 3 => RX3 | 4 => RX4 | 5 => RX5 | 6 => RX6 | 7 => RX7 | _ => RX8
theorem cl_at {w : Nat} (h : w < 9) : vwCl[w]? = some (RRx w, TTx w, NNx w) := by
  match w, h with
  | 0, _ => rfl | 1, _ => rfl | 2, _ => rfl | 3, _ => rfl | 4, _ => rfl | 5, _ => rfl | 6, _ => rfl | 7, _ => rfl | 8, _ => rfl
theorem ty_at {w : Nat} (h : w < 9) : ∀ k, k < NNx w → parseFieldDescriptor (TTx w k).2.2.1 = some (TYx w k) := by
  match w, h with
  | 0, _ => exact tyX0_ok | 1, _ => exact tyX1_ok | 2, _ => exact tyX2_ok | 3, _ => exact tyX3_ok | 4, _ => exact tyX4_ok | 5, _ => exact tyX5_ok | 6, _ => exact tyX6_ok | 7, _ => exact tyX7_ok | 8, _ => exact tyX8_ok
theorem nm_at {w : Nat} (h : w < 9) : ∀ a, a < NNx w → ∀ b, b < NNx w → a ≠ b → (TTx w a).2.1 ≠ (TTx w b).2.1 := by
  match w, h with
  | 0, _ => exact nmX0 | 1, _ => exact nmX1 | 2, _ => exact nmX2 | 3, _ => exact nmX3 | 4, _ => exact nmX4 | 5, _ => exact nmX5 | 6, _ => exact nmX6 | 7, _ => exact nmX7 | 8, _ => exact nmX8
def roomB (ms cm : MS) : Bool := Nat.ble (cm.2.2.2.2.frames + 1) ms.2.2.2.2.frames && Nat.ble (8 + (cm.2.2.1 + 11) + cm.2.2.2.2.locals) ms.2.2.2.2.locals
def parB (cm : MS) (n : Nat) : Bool := decide ((parseMethodDescriptor cm.1.desc).map (fun d => d.parameters.length) = some n)
def chkX (ms : MS) (ins : Instr) (x y w : Nat) (z : Int32) (zl : Int64) (cm : MS) (pc : Nat) : Bool := match ins with
  | .iload_n k => Nat.beq k.val y
  | .iload k => Nat.beq k y
  | .aload_n k => Nat.beq k.val y
  | .aload k => Nat.beq k y
  | .lload_n k => Nat.beq k.val y
  | .lload k => Nat.beq k y
  | .istore_n k => Nat.beq k.val y && Nat.ble (y + 1) ms.2.2.1
  | .istore k => Nat.beq k y && Nat.ble (y + 1) ms.2.2.1
  | .astore_n k => Nat.beq k.val y && Nat.ble (y + 1) ms.2.2.1
  | .astore k => Nat.beq k y && Nat.ble (y + 1) ms.2.2.1
  | .lstore_n k => Nat.beq k.val y && Nat.ble (y + 2) ms.2.2.1
  | .iinc k n => Nat.beq k y && Nat.ble (y + 1) ms.2.2.1 && decide (Int32.ofInt n = z)
  | .iconst n => decide (Int32.ofInt n = z)
  | .bipush n => decide ((Int8.ofInt n).toInt32 = z)
  | .sipush n => decide ((Int16.ofInt n).toInt32 = z)
  | .lconst n => decide (Int64.ofNat (n : Nat) = zl)
  | .ldc idx => bif Nat.beq w 97 then decide (ms.1.cls = "DatedJars$Reader") && Nat.ble (y + 1) 6 && Nat.beq (eg_idx.getD y 0) idx else decide (lw_tbl[x]? = some (.constant ms.1.cls idx z))
  | .ldc_w idx => decide (lw_tbl[x]? = some (.constant ms.1.cls idx z))
  | .ldc2_w idx => decide (lw_tbl[x]? = some (.constantLong ms.1.cls idx zl))
  | .goto off => decide ((pc : Int) + off = (x : Int))
  | .ifCond _ off => decide ((pc : Int) + off = (x : Int))
  | .if_icmp _ off => decide ((pc : Int) + off = (x : Int))
  | .tableswitch d lo hi offs => decide (0 ≤ (pc : Int) + d) && offs.toList.all (fun o => decide (0 ≤ (pc : Int) + o)) && decide (lo + offs.size = hi + 1)
  | .lookupswitch d ps => decide (0 ≤ (pc : Int) + d) && ps.toList.all (fun o => decide (0 ≤ (pc : Int) + o.2)) && (ps.toList.zip (ps.toList.drop 1)).all (fun (a, next) => a.1 < next.1)
  | .getfield idx => Nat.ble (w + 1) 9 && Nat.ble (y + 1) (NNx w) && decide (lw_tbl[x]? = some (.fieldLink ms.1.cls idx (TTx w y).1 (TTx w y).2.1 (TTx w y).2.2.1))
  | .putfield idx => Nat.ble (w + 1) 9 && Nat.ble (y + 1) (NNx w) && decide (lw_tbl[x]? = some (.fieldLink ms.1.cls idx (TTx w y).1 (TTx w y).2.1 (TTx w y).2.2.1)) && !(TTx w y).2.2.2 && decide (TYx w y = bif Nat.beq w 6 && Nat.beq y 5 then .boolean else .int)
  | .invokevirtual idx => decide (lw_tbl[x]? = some (.methodLink ms.1.cls idx cm.1)) && Nat.ble 1 y && parB cm (y - 1) && roomB ms cm && !stB cm.1 && (bif Nat.beq w 99 then decide (cm.1.cls = "java/lang/String") else Nat.ble (w + 1) 9 && decide (RRx w = cm.1.cls))
  | .invokestatic idx => bif Nat.beq w 98 then decide (lw_tbl[x]? = some (.methodLink ms.1.cls idx arraycopyName)) && Nat.ble 1 ms.2.2.2.2.frames && Nat.ble 26 ms.2.2.2.2.locals else bif Nat.beq w 96 then decide (lw_tbl[x]? = some (.methodLink ms.1.cls idx Lib.Math.min.name)) && Nat.ble 1 ms.2.2.2.2.frames && Nat.ble 21 ms.2.2.2.2.locals else bif Nat.beq w 95 then decide (lw_tbl[x]? = some (.methodLink ms.1.cls idx Lib.Math.max.name)) && Nat.ble 1 ms.2.2.2.2.frames && Nat.ble 21 ms.2.2.2.2.locals else decide (lw_tbl[x]? = some (.methodLink ms.1.cls idx cm.1)) && parB cm y && roomB ms cm && stB cm.1
  | _ => true
def chkE (ms : MS) (pc : Nat) (e : En) : Bool := match e with
  | (ins, npc, x, y, w, z, zl, cm) => decide (decode ms.2.1 pc = .ok (ins, ilen ins w)) && Nat.beq npc (pc + ilen ins w) && chkX ms ins x y w z zl cm pc
def chkC (ms : MS) (cd : Cd) : Bool := cd.all fun q => q.2.all fun r => chkE ms r.1 r.2
end
section
/-! methods: static records, code, checks -/
def m0 : MS := (⟨"", "", ""⟩, ⟨#[]⟩, 0, none, { frames := 0, cells := 0, slots := 0, locals := 0 })
def mX0_add : MS := (yX0_add, cX0_add, 3, (some .int), { frames := 0, cells := 0, slots := 0, locals := 0 })
def mX0_firstWrong : MS := (yX0_firstWrong, cX0_firstWrong, 9, (some .int), { frames := 2, cells := 0, slots := 0, locals := 44 })
def mX1_copyFrom : MS := (yX1_copyFrom, cX1_copyFrom, 2, none, { frames := 1, cells := 0, slots := 0, locals := 26 })
def mX1_has : MS := (yX1_has, cX1_has, 2, (some .boolean), { frames := 0, cells := 0, slots := 0, locals := 0 })
def mX1_isFull : MS := (yX1_isFull, cX1_isFull, 1, (some .boolean), { frames := 0, cells := 0, slots := 0, locals := 0 })
def mX1_add : MS := (yX1_add, cX1_add, 7, none, { frames := 1, cells := 0, slots := 0, locals := 20 })
def mX1_ageOf : MS := (yX1_ageOf, cX1_ageOf, 3, (some .int), { frames := 1, cells := 0, slots := 0, locals := 21 })
def mX1_filledIn : MS := (yX1_filledIn, cX1_filledIn, 4, (some .int), { frames := 1, cells := 0, slots := 0, locals := 21 })
def mX1_mayBeOpened : MS := (yX1_mayBeOpened, cX1_mayBeOpened, 4, (some .boolean), { frames := 1, cells := 0, slots := 0, locals := 21 })
def mX1_isGone : MS := (yX1_isGone, cX1_isGone, 2, (some .boolean), { frames := 1, cells := 0, slots := 0, locals := 21 })
def mX1_isOf : MS := (yX1_isOf, cX1_isOf, 3, (some .boolean), { frames := 1, cells := 0, slots := 0, locals := 21 })
def mX1_takeOut : MS := (yX1_takeOut, cX1_takeOut, 3, (some .int), { frames := 2, cells := 0, slots := 0, locals := 44 })
def mX1_firstToOpen : MS := (yX1_firstToOpen, cX1_firstToOpen, 6, (some .int), { frames := 2, cells := 0, slots := 0, locals := 44 })
def mX1_swapOwners : MS := (yX1_swapOwners, cX1_swapOwners, 4, none, { frames := 1, cells := 0, slots := 0, locals := 21 })
def mX1_setOf : MS := (yX1_setOf, cX1_setOf, 4, (some .int), { frames := 2, cells := 0, slots := 0, locals := 43 })
def mX1_setToOpen : MS := (yX1_setToOpen, cX1_setToOpen, 6, (some .int), { frames := 2, cells := 0, slots := 0, locals := 44 })
def mX1_lookAt : MS := (yX1_lookAt, cX1_lookAt, 5, (some .int), { frames := 2, cells := 0, slots := 0, locals := 43 })
def mX2_deal : MS := (yX2_deal, cX2_deal, 6, none, { frames := 3, cells := 0, slots := 0, locals := 67 })
def mX2_heirOf : MS := (yX2_heirOf, cX2_heirOf, 3, (some .int), { frames := 0, cells := 0, slots := 0, locals := 0 })
def mX2_countWays : MS := (yX2_countWays, cX2_countWays, 3, (some .int), { frames := 0, cells := 0, slots := 0, locals := 0 })
def mX2_nextWay : MS := (yX2_nextWay, cX2_nextWay, 2, none, { frames := 0, cells := 0, slots := 0, locals := 0 })
def mX2_differenceOf : MS := (yX2_differenceOf, cX2_differenceOf, 5, (some .int), { frames := 1, cells := 0, slots := 0, locals := 21 })
def mX3_add : MS := (yX3_add, cX3_add, 3, (some .int), { frames := 0, cells := 0, slots := 0, locals := 0 })
def mX3_fewestForged : MS := (yX3_fewestForged, cX3_fewestForged, 9, (some .int), { frames := 2, cells := 0, slots := 0, locals := 46 })
def mX3_findContradicted : MS := (yX3_findContradicted, cX3_findContradicted, 6, (some .int), { frames := 1, cells := 0, slots := 0, locals := 21 })
def mX4_clear : MS := (yX4_clear, cX4_clear, 1, none, { frames := 0, cells := 0, slots := 0, locals := 0 })
def mX4_copyFrom : MS := (yX4_copyFrom, cX4_copyFrom, 2, none, { frames := 2, cells := 0, slots := 0, locals := 47 })
def mX4_hasHouse : MS := (yX4_hasHouse, cX4_hasHouse, 2, (some .boolean), { frames := 0, cells := 0, slots := 0, locals := 0 })
def mX4_addHouse : MS := (yX4_addHouse, cX4_addHouse, 3, none, { frames := 0, cells := 0, slots := 0, locals := 0 })
def mX4_addHarvest : MS := (yX4_addHarvest, cX4_addHarvest, 2, none, { frames := 0, cells := 0, slots := 0, locals := 0 })
def mX4_harvestOf : MS := (yX4_harvestOf, cX4_harvestOf, 2, (some .int), { frames := 0, cells := 0, slots := 0, locals := 0 })
def mX4_besiege : MS := (yX4_besiege, cX4_besiege, 2, none, { frames := 1, cells := 0, slots := 0, locals := 21 })
def mX4_drawOf : MS := (yX4_drawOf, cX4_drawOf, 4, (some .int), { frames := 0, cells := 0, slots := 0, locals := 0 })
def mX4_passYears : MS := (yX4_passYears, cX4_passYears, 7, (some .int), { frames := 4, cells := 0, slots := 0, locals := 95 })
def mX4_burstJars : MS := (yX4_burstJars, cX4_burstJars, 3, none, { frames := 2, cells := 0, slots := 0, locals := 43 })
def mX4_feedHouse : MS := (yX4_feedHouse, cX4_feedHouse, 7, (some .int), { frames := 3, cells := 0, slots := 0, locals := 69 })
def mX5_find : MS := (yX5_find, cX5_find, 7, none, { frames := 4, cells := 0, slots := 0, locals := 98 })
def mX5_chooseSets : MS := (yX5_chooseSets, cX5_chooseSets, 7, none, { frames := 3, cells := 0, slots := 0, locals := 72 })
def mX5_lookAtYear : MS := (yX5_lookAtYear, cX5_lookAtYear, 9, none, { frames := 2, cells := 0, slots := 0, locals := 44 })
def mX5_hungerWith : MS := (yX5_hungerWith, cX5_hungerWith, 5, (some .int), { frames := 0, cells := 0, slots := 0, locals := 0 })
def mX5_leastHunger : MS := (yX5_leastHunger, cX5_leastHunger, 7, (some .int), { frames := 1, cells := 0, slots := 0, locals := 24 })
def mX5_firstOf : MS := (yX5_firstOf, cX5_firstOf, 6, (some .int), { frames := 1, cells := 0, slots := 0, locals := 24 })
def mX5_jarsOf : MS := (yX5_jarsOf, cX5_jarsOf, 4, (some .int), { frames := 0, cells := 0, slots := 0, locals := 0 })
def mX6_addBytes : MS := (yX6_addBytes, cX6_addBytes, 5, (some .int), { frames := 0, cells := 0, slots := 0, locals := 0 })
def mX6_readText : MS := (yX6_readText, cX6_readText, 3, (some .boolean), { frames := 6, cells := 0, slots := 0, locals := 135 })
def mX6_readClause : MS := (yX6_readClause, cX6_readClause, 3, none, { frames := 5, cells := 0, slots := 0, locals := 113 })
def mX6_readHarvest : MS := (yX6_readHarvest, cX6_readHarvest, 4, none, { frames := 3, cells := 0, slots := 0, locals := 61 })
def mX6_readHouse : MS := (yX6_readHouse, cX6_readHouse, 5, none, { frames := 3, cells := 0, slots := 0, locals := 61 })
def mX6_readJar : MS := (yX6_readJar, cX6_readJar, 8, none, { frames := 4, cells := 0, slots := 0, locals := 86 })
def mX6_readKind : MS := (yX6_readKind, cX6_readKind, 2, (some .int), { frames := 3, cells := 0, slots := 0, locals := 65 })
def mX6_readNumber : MS := (yX6_readNumber, cX6_readNumber, 5, (some .int), { frames := 1, cells := 0, slots := 0, locals := 22 })
def mX6_readEnd : MS := (yX6_readEnd, cX6_readEnd, 1, none, { frames := 2, cells := 0, slots := 0, locals := 41 })
def mX6_nextIs : MS := (yX6_nextIs, cX6_nextIs, 2, (some .boolean), { frames := 1, cells := 0, slots := 0, locals := 20 })
def mX6_skipBlanks : MS := (yX6_skipBlanks, cX6_skipBlanks, 1, none, { frames := 0, cells := 0, slots := 0, locals := 0 })
def mX6_skipLetters : MS := (yX6_skipLetters, cX6_skipLetters, 1, none, { frames := 0, cells := 0, slots := 0, locals := 0 })
def mX6_wordIs : MS := (yX6_wordIs, cX6_wordIs, 4, (some .boolean), { frames := 2, cells := 0, slots := 0, locals := 42 })
def mX6_fail : MS := (yX6_fail, cX6_fail, 3, none, { frames := 0, cells := 0, slots := 0, locals := 0 })
def mX7_feed : MS := (yX7_feed, cX7_feed, 4, (some .int), { frames := 1, cells := 0, slots := 0, locals := 24 })
def mX7_land : MS := (yX7_land, cX7_land, 1, (some .int), { frames := 7, cells := 0, slots := 0, locals := 157 })
def mX7_fault : MS := (yX7_fault, cX7_fault, 1, (some .int), { frames := 0, cells := 0, slots := 0, locals := 0 })
def mX7_told : MS := (yX7_told, cX7_told, 2, (some .int), { frames := 1, cells := 0, slots := 0, locals := 21 })
def mX7_house : MS := (yX7_house, cX7_house, 3, (some .int), { frames := 3, cells := 0, slots := 0, locals := 69 })
def mX7_jar : MS := (yX7_jar, cX7_jar, 4, (some .int), { frames := 2, cells := 0, slots := 0, locals := 44 })
def mX7_law : MS := (yX7_law, cX7_law, 3, (some .int), { frames := 0, cells := 0, slots := 0, locals := 0 })
def mX7_seals : MS := (yX7_seals, cX7_seals, 4, (some .int), { frames := 1, cells := 0, slots := 0, locals := 21 })
def mX7_give : MS := (yX7_give, cX7_give, 5, (some .int), { frames := 2, cells := 0, slots := 0, locals := 42 })
def mX7_label : MS := (yX7_label, cX7_label, 5, (some .int), { frames := 2, cells := 0, slots := 0, locals := 42 })
def mX7_open : MS := (yX7_open, cX7_open, 5, (some .int), { frames := 3, cells := 0, slots := 0, locals := 66 })
def mX7_year : MS := (yX7_year, cX7_year, 2, (some .int), { frames := 5, cells := 0, slots := 0, locals := 121 })
def mX7_drift : MS := (yX7_drift, cX7_drift, 2, (some .int), { frames := 5, cells := 0, slots := 0, locals := 121 })
def mX7_plan : MS := (yX7_plan, cX7_plan, 4, (some .int), { frames := 5, cells := 0, slots := 0, locals := 124 })
def mX7_sealing : MS := (yX7_sealing, cX7_sealing, 6, (some .int), { frames := 5, cells := 0, slots := 0, locals := 121 })
def mX7_change : MS := (yX7_change, cX7_change, 3, (some .int), { frames := 7, cells := 0, slots := 0, locals := 171 })
def mX7_bequest : MS := (yX7_bequest, cX7_bequest, 3, (some .int), { frames := 4, cells := 0, slots := 0, locals := 92 })
def mX7_siege : MS := (yX7_siege, cX7_siege, 3, (some .int), { frames := 6, cells := 0, slots := 0, locals := 144 })
def mX7_when : MS := (yX7_when, cX7_when, 7, (some .int), { frames := 6, cells := 0, slots := 0, locals := 144 })
def mX7_older : MS := (yX7_older, cX7_older, 3, (some .int), { frames := 1, cells := 0, slots := 0, locals := 22 })
def mX7_forged : MS := (yX7_forged, cX7_forged, 1, (some .int), { frames := 3, cells := 0, slots := 0, locals := 74 })
def mX7_write : MS := (yX7_write, cX7_write, 3, (some .int), { frames := 1, cells := 0, slots := 0, locals := 22 })
def mX7_tear : MS := (yX7_tear, cX7_tear, 2, (some .int), { frames := 0, cells := 0, slots := 0, locals := 0 })
def mX7_judge : MS := (yX7_judge, cX7_judge, 1, (some .int), { frames := 3, cells := 0, slots := 0, locals := 72 })
def mX7_seed : MS := (yX7_seed, cX7_seed, 3, (some .int), { frames := 0, cells := 0, slots := 0, locals := 0 })
def mX7_keep : MS := (yX7_keep, cX7_keep, 2, (some .int), { frames := 3, cells := 0, slots := 0, locals := 68 })
def mX7_goBack : MS := (yX7_goBack, cX7_goBack, 2, (some .int), { frames := 3, cells := 0, slots := 0, locals := 68 })
def mX7_hungerOfSiege : MS := (yX7_hungerOfSiege, cX7_hungerOfSiege, 4, (some .int), { frames := 5, cells := 0, slots := 0, locals := 121 })
def mX7_doFirstChange : MS := (yX7_doFirstChange, cX7_doFirstChange, 5, (some .boolean), { frames := 6, cells := 0, slots := 0, locals := 147 })
def mX7_isBetterChanged : MS := (yX7_isBetterChanged, cX7_isBetterChanged, 7, (some .boolean), { frames := 5, cells := 0, slots := 0, locals := 121 })
def mX8_in : MS := (yX8_in, cX8_in, 6, (some .boolean), { frames := 0, cells := 0, slots := 0, locals := 0 })
def mX8_one : MS := (yX8_one, cX8_one, 1, (some .int), { frames := 0, cells := 0, slots := 0, locals := 0 })
def mX8_has : MS := (yX8_has, cX8_has, 2, (some .boolean), { frames := 0, cells := 0, slots := 0, locals := 0 })
def mX8_feed : MS := (yX8_feed, cX8_feed, 5, (some .int), { frames := 1, cells := 0, slots := 0, locals := 25 })
def mX8_here : MS := (yX8_here, cX8_here, 1, (some .int), { frames := 0, cells := 0, slots := 0, locals := 0 })
def mX8_want : MS := (yX8_want, cX8_want, 4, (some .boolean), { frames := 0, cells := 0, slots := 0, locals := 0 })
def mX8_takeWord : MS := (yX8_takeWord, cX8_takeWord, 2, none, { frames := 1, cells := 0, slots := 0, locals := 25 })
def mX8_isWord : MS := (yX8_isWord, cX8_isWord, 9, (some .boolean), { frames := 0, cells := 0, slots := 0, locals := 0 })
def mX8_takeNumber : MS := (yX8_takeNumber, cX8_takeNumber, 6, (some .int), { frames := 1, cells := 0, slots := 0, locals := 25 })
def mX8_takeHarvest : MS := (yX8_takeHarvest, cX8_takeHarvest, 2, none, { frames := 2, cells := 0, slots := 0, locals := 50 })
def mX8_takeHouse : MS := (yX8_takeHouse, cX8_takeHouse, 1, none, { frames := 2, cells := 0, slots := 0, locals := 50 })
def mX8_takeJar : MS := (yX8_takeJar, cX8_takeJar, 4, none, { frames := 2, cells := 0, slots := 0, locals := 50 })
def mX8_isHarvestWord : MS := (yX8_isHarvestWord, cX8_isHarvestWord, 1, (some .boolean), { frames := 1, cells := 0, slots := 0, locals := 28 })
def mX8_takeClause : MS := (yX8_takeClause, cX8_takeClause, 2, none, { frames := 3, cells := 0, slots := 0, locals := 73 })
def mX8_land : MS := (yX8_land, cX8_land, 3, (some .int), { frames := 4, cells := 0, slots := 0, locals := 94 })
def mX8_fault : MS := (yX8_fault, cX8_fault, 1, (some .int), { frames := 0, cells := 0, slots := 0, locals := 0 })
def mX8_add : MS := (yX8_add, cX8_add, 9, none, { frames := 0, cells := 0, slots := 0, locals := 0 })
def mX8_isHouse : MS := (yX8_isHouse, cX8_isHouse, 2, (some .boolean), { frames := 1, cells := 0, slots := 0, locals := 25 })
def mX8_isJar : MS := (yX8_isJar, cX8_isJar, 2, (some .boolean), { frames := 1, cells := 0, slots := 0, locals := 25 })
def mX8_harvestOf : MS := (yX8_harvestOf, cX8_harvestOf, 2, (some .int), { frames := 0, cells := 0, slots := 0, locals := 0 })
def mX8_filled : MS := (yX8_filled, cX8_filled, 7, (some .int), { frames := 0, cells := 0, slots := 0, locals := 0 })
def mX8_mayBe : MS := (yX8_mayBe, cX8_mayBe, 5, (some .boolean), { frames := 0, cells := 0, slots := 0, locals := 0 })
def mX8_may : MS := (yX8_may, cX8_may, 4, (some .boolean), { frames := 1, cells := 0, slots := 0, locals := 24 })
def mX8_gone : MS := (yX8_gone, cX8_gone, 3, (some .int), { frames := 0, cells := 0, slots := 0, locals := 0 })
def mX8_told : MS := (yX8_told, cX8_told, 2, (some .int), { frames := 1, cells := 0, slots := 0, locals := 22 })
def mX8_jarsOf : MS := (yX8_jarsOf, cX8_jarsOf, 6, (some .int), { frames := 2, cells := 0, slots := 0, locals := 47 })
def mX8_house : MS := (yX8_house, cX8_house, 3, (some .int), { frames := 3, cells := 0, slots := 0, locals := 72 })
def mX8_jar : MS := (yX8_jar, cX8_jar, 3, (some .int), { frames := 2, cells := 0, slots := 0, locals := 46 })
def mX8_law : MS := (yX8_law, cX8_law, 3, (some .int), { frames := 1, cells := 0, slots := 0, locals := 25 })
def mX8_seals : MS := (yX8_seals, cX8_seals, 4, (some .int), { frames := 2, cells := 0, slots := 0, locals := 46 })
def mX8_give : MS := (yX8_give, cX8_give, 4, (some .int), { frames := 2, cells := 0, slots := 0, locals := 46 })
def mX8_label : MS := (yX8_label, cX8_label, 4, (some .int), { frames := 2, cells := 0, slots := 0, locals := 46 })
def mX8_open : MS := (yX8_open, cX8_open, 3, (some .int), { frames := 2, cells := 0, slots := 0, locals := 47 })
def mX8_firstToOpen : MS := (yX8_firstToOpen, cX8_firstToOpen, 6, (some .int), { frames := 2, cells := 0, slots := 0, locals := 47 })
def mX8_eat : MS := (yX8_eat, cX8_eat, 8, (some .int), { frames := 3, cells := 0, slots := 0, locals := 72 })
def mX8_hunger : MS := (yX8_hunger, cX8_hunger, 4, none, { frames := 0, cells := 0, slots := 0, locals := 0 })
def mX8_clearHungers : MS := (yX8_clearHungers, cX8_clearHungers, 2, none, { frames := 0, cells := 0, slots := 0, locals := 0 })
def mX8_pass : MS := (yX8_pass, cX8_pass, 3, none, { frames := 4, cells := 0, slots := 0, locals := 99 })
def mX8_allHungers : MS := (yX8_allHungers, cX8_allHungers, 1, (some .int), { frames := 0, cells := 0, slots := 0, locals := 0 })
def mX8_year : MS := (yX8_year, cX8_year, 3, (some .int), { frames := 5, cells := 0, slots := 0, locals := 121 })
def mX8_draw : MS := (yX8_draw, cX8_draw, 2, (some .int), { frames := 0, cells := 0, slots := 0, locals := 0 })
def mX8_drift : MS := (yX8_drift, cX8_drift, 5, (some .int), { frames := 4, cells := 0, slots := 0, locals := 99 })
def mX8_copy : MS := (yX8_copy, cX8_copy, 4, none, { frames := 0, cells := 0, slots := 0, locals := 0 })
def mX8_findOwn : MS := (yX8_findOwn, cX8_findOwn, 3, none, { frames := 0, cells := 0, slots := 0, locals := 0 })
def mX8_inSet : MS := (yX8_inSet, cX8_inSet, 5, (some .int), { frames := 2, cells := 0, slots := 0, locals := 47 })
def mX8_hungerBy : MS := (yX8_hungerBy, cX8_hungerBy, 5, (some .int), { frames := 1, cells := 0, slots := 0, locals := 21 })
def mX8_findPlan : MS := (yX8_findPlan, cX8_findPlan, 9, none, { frames := 3, cells := 0, slots := 0, locals := 71 })
def mX8_plan : MS := (yX8_plan, cX8_plan, 9, (some .int), { frames := 4, cells := 0, slots := 0, locals := 99 })
def mX8_try_ : MS := (yX8_try_, cX8_try_, 3, none, { frames := 5, cells := 0, slots := 0, locals := 121 })
def mX8_sealing : MS := (yX8_sealing, cX8_sealing, 6, (some .int), { frames := 6, cells := 0, slots := 0, locals := 143 })
def mX8_changes : MS := (yX8_changes, cX8_changes, 9, (some .boolean), { frames := 6, cells := 0, slots := 0, locals := 143 })
def mX8_changeFirst : MS := (yX8_changeFirst, cX8_changeFirst, 4, (some .boolean), { frames := 7, cells := 0, slots := 0, locals := 171 })
def mX8_change : MS := (yX8_change, cX8_change, 3, (some .int), { frames := 8, cells := 0, slots := 0, locals := 194 })
def mX8_other : MS := (yX8_other, cX8_other, 3, (some .int), { frames := 0, cells := 0, slots := 0, locals := 0 })
def mX8_offBy : MS := (yX8_offBy, cX8_offBy, 7, (some .int), { frames := 1, cells := 0, slots := 0, locals := 22 })
def mX8_bequest : MS := (yX8_bequest, cX8_bequest, 8, (some .int), { frames := 2, cells := 0, slots := 0, locals := 48 })
def mX8_siegeOf : MS := (yX8_siegeOf, cX8_siegeOf, 5, (some .int), { frames := 4, cells := 0, slots := 0, locals := 99 })
def mX8_siege : MS := (yX8_siege, cX8_siege, 3, (some .int), { frames := 5, cells := 0, slots := 0, locals := 123 })
def mX8_when : MS := (yX8_when, cX8_when, 7, (some .int), { frames := 5, cells := 0, slots := 0, locals := 123 })
def mX8_older : MS := (yX8_older, cX8_older, 3, (some .int), { frames := 2, cells := 0, slots := 0, locals := 46 })
def mX8_ones : MS := (yX8_ones, cX8_ones, 3, (some .int), { frames := 0, cells := 0, slots := 0, locals := 0 })
def mX8_forged : MS := (yX8_forged, cX8_forged, 9, (some .int), { frames := 2, cells := 0, slots := 0, locals := 46 })
def mX8_write : MS := (yX8_write, cX8_write, 3, (some .int), { frames := 2, cells := 0, slots := 0, locals := 46 })
def mX8_tear : MS := (yX8_tear, cX8_tear, 2, (some .int), { frames := 0, cells := 0, slots := 0, locals := 0 })
def mX8_judge : MS := (yX8_judge, cX8_judge, 5, (some .int), { frames := 2, cells := 0, slots := 0, locals := 46 })
def mX8_seed : MS := (yX8_seed, cX8_seed, 3, (some .int), { frames := 0, cells := 0, slots := 0, locals := 0 })
def mX8_keep : MS := (yX8_keep, cX8_keep, 2, (some .int), { frames := 1, cells := 0, slots := 0, locals := 25 })
def mX8_goBack : MS := (yX8_goBack, cX8_goBack, 2, (some .int), { frames := 1, cells := 0, slots := 0, locals := 25 })
def mJ6_bitCount : MS := (yJ6_bitCount_0f7a4, cJ6_bitCount_0f7a4, 1, (some .int), { frames := 0, cells := 0, slots := 0, locals := 0 })
def mJ0_length : MS := (yJ0_length_8abf5, cJ0_length_8abf5, 1, (some .int), { frames := 1, cells := 0, slots := 0, locals := 20 })
def mJ0_charAt : MS := (yJ0_charAt_5068e, cJ0_charAt_5068e, 2, (some .char), { frames := 1, cells := 0, slots := 0, locals := 21 })
theorem qX0_add : OkM mX0_add := ⟨Gd_in (i := 790) (by decide +kernel) (by decide +kernel), Gd_in (i := 72) (by decide +kernel) (by decide +kernel), ⟨fun _ => ⟨Gd_in (i := 788) (by decide +kernel) (by decide +kernel), Gd_in (i := 789) (by decide +kernel) (by decide +kernel)⟩, fun h => absurd h (by decide +kernel)⟩, by decide +kernel, ⟨by decide +kernel, by decide +kernel⟩, rfl, rfl⟩
def oX0_add : Cd := [(13, [(0, (.aload_n 0, 1, 0, 0, 0, 0, 0, m0)), (1, (.getfield 18, 4, 321, 0, 0, 0, 0, m0)), (4, (.bipush 30, 6, 0, 0, 0, 30, 0, m0)), (6, (.if_icmp .lt 6, 9, 12, 0, 0, 0, 0, m0)), (9, (.ldc 22, 11, 791, 0, 0, (-1000000004), 0, m0)), (11, (.ireturn, 12, 0, 0, 0, 0, 0, m0)), (12, (.aload_n 0, 13, 0, 0, 0, 0, 0, m0)), (13, (.getfield 9, 16, 323, 1, 0, 0, 0, m0))]),
  (27, [(16, (.aload_n 0, 17, 0, 0, 0, 0, 0, m0)), (17, (.getfield 18, 20, 321, 0, 0, 0, 0, m0)), (20, (.iload_n 1, 21, 0, 1, 0, 0, 0, m0)), (21, (.iastore, 22, 0, 0, 0, 0, 0, m0)), (22, (.aload_n 0, 23, 0, 0, 0, 0, 0, m0)), (23, (.getfield 15, 26, 324, 2, 0, 0, 0, m0)), (26, (.aload_n 0, 27, 0, 0, 0, 0, 0, m0)), (27, (.getfield 18, 30, 321, 0, 0, 0, 0, m0))]),
  (39, [(30, (.iload_n 2, 31, 0, 2, 0, 0, 0, m0)), (31, (.iastore, 32, 0, 0, 0, 0, 0, m0)), (32, (.aload_n 0, 33, 0, 0, 0, 0, 0, m0)), (33, (.dup, 34, 0, 0, 0, 0, 0, m0)), (34, (.getfield 18, 37, 321, 0, 0, 0, 0, m0)), (37, (.iconst 1, 38, 0, 0, 0, 1, 0, m0)), (38, (.iadd, 39, 0, 0, 0, 0, 0, m0)), (39, (.putfield 18, 42, 321, 0, 0, 0, 0, m0))]),
  (46, [(42, (.aload_n 0, 43, 0, 0, 0, 0, 0, m0)), (43, (.getfield 18, 46, 321, 0, 0, 0, 0, m0)), (46, (.ireturn, 47, 0, 0, 0, 0, 0, m0))])]
theorem kX0_add : chkC mX0_add oX0_add = true := by decide +kernel
theorem qX0_firstWrong : OkM mX0_firstWrong := ⟨Gd_in (i := 803) (by decide +kernel) (by decide +kernel), Gd_in (i := 72) (by decide +kernel) (by decide +kernel), ⟨fun _ => ⟨Gd_in (i := 801) (by decide +kernel) (by decide +kernel), Gd_in (i := 802) (by decide +kernel) (by decide +kernel)⟩, fun h => absurd h (by decide +kernel)⟩, by decide +kernel, ⟨by decide +kernel, by decide +kernel⟩, rfl, rfl⟩
def oX0_firstWrong : Cd := [(11, [(0, (.iconst 0, 1, 0, 0, 0, 0, 0, m0)), (1, (.istore_n 3, 2, 0, 3, 0, 0, 0, m0)), (2, (.iconst 0, 3, 0, 0, 0, 0, 0, m0)), (3, (.istore 4, 5, 0, 4, 0, 0, 0, m0)), (5, (.iload 4, 7, 0, 4, 0, 0, 0, m0)), (7, (.aload_n 0, 8, 0, 0, 0, 0, 0, m0)), (8, (.getfield 18, 11, 321, 0, 0, 0, 0, m0)), (11, (.if_icmp .ge 107, 14, 118, 0, 0, 0, 0, m0))]),
  (26, [(14, (.aload_n 0, 15, 0, 0, 0, 0, 0, m0)), (15, (.getfield 15, 18, 324, 2, 0, 0, 0, m0)), (18, (.iload 4, 20, 0, 4, 0, 0, 0, m0)), (20, (.iaload, 21, 0, 0, 0, 0, 0, m0)), (21, (.istore 5, 23, 0, 5, 0, 0, 0, m0)), (23, (.aload_n 1, 24, 0, 1, 0, 0, 0, m0)), (24, (.iload 5, 26, 0, 5, 0, 0, 0, m0)), (26, (.iload_n 2, 27, 0, 2, 0, 0, 0, m0))]),
  (40, [(27, (.aload_n 0, 28, 0, 0, 0, 0, 0, m0)), (28, (.getfield 9, 31, 323, 1, 0, 0, 0, m0)), (31, (.iload 4, 33, 0, 4, 0, 0, 0, m0)), (33, (.iaload, 34, 0, 0, 0, 0, 0, m0)), (34, (.invokevirtual 23, 37, 804, 4, 1, 0, 0, mX1_mayBeOpened)), (37, (.istore 6, 39, 0, 6, 0, 0, 0, m0)), (39, (.iload_n 3, 40, 0, 3, 0, 0, 0, m0)), (40, (.iload 5, 42, 0, 5, 0, 0, 0, m0))]),
  (53, [(42, (.ishr, 43, 0, 0, 0, 0, 0, m0)), (43, (.iconst 1, 44, 0, 0, 0, 1, 0, m0)), (44, (.iand, 45, 0, 0, 0, 0, 0, m0)), (45, (.iconst 1, 46, 0, 0, 0, 1, 0, m0)), (46, (.if_icmp .ne 7, 49, 53, 0, 0, 0, 0, m0)), (49, (.iconst 1, 50, 0, 0, 0, 1, 0, m0)), (50, (.goto 4, 53, 54, 0, 0, 0, 0, m0)), (53, (.iconst 0, 54, 0, 0, 0, 0, 0, m0))]),
  (68, [(54, (.istore 7, 56, 0, 7, 0, 0, 0, m0)), (56, (.iload 4, 58, 0, 4, 0, 0, 0, m0)), (58, (.ifCond .le 26, 61, 84, 0, 0, 0, 0, m0)), (61, (.aload_n 0, 62, 0, 0, 0, 0, 0, m0)), (62, (.getfield 9, 65, 323, 1, 0, 0, 0, m0)), (65, (.iload 4, 67, 0, 4, 0, 0, 0, m0)), (67, (.iaload, 68, 0, 0, 0, 0, 0, m0)), (68, (.aload_n 0, 69, 0, 0, 0, 0, 0, m0))]),
  (81, [(69, (.getfield 9, 72, 323, 1, 0, 0, 0, m0)), (72, (.iload 4, 74, 0, 4, 0, 0, 0, m0)), (74, (.iconst 1, 75, 0, 0, 0, 1, 0, m0)), (75, (.isub, 76, 0, 0, 0, 0, 0, m0)), (76, (.iaload, 77, 0, 0, 0, 0, 0, m0)), (77, (.if_icmp .ge 7, 80, 84, 0, 0, 0, 0, m0)), (80, (.iconst 1, 81, 0, 0, 0, 1, 0, m0)), (81, (.goto 4, 84, 85, 0, 0, 0, 0, m0))]),
  (99, [(84, (.iconst 0, 85, 0, 0, 0, 0, 0, m0)), (85, (.istore 8, 87, 0, 8, 0, 0, 0, m0)), (87, (.iload 6, 89, 0, 6, 0, 0, 0, m0)), (89, (.ifCond .eq 13, 92, 102, 0, 0, 0, 0, m0)), (92, (.iload 7, 94, 0, 7, 0, 0, 0, m0)), (94, (.ifCond .ne 8, 97, 102, 0, 0, 0, 0, m0)), (97, (.iload 8, 99, 0, 8, 0, 0, 0, m0)), (99, (.ifCond .eq 6, 102, 105, 0, 0, 0, 0, m0))]),
  (111, [(102, (.iload 4, 104, 0, 4, 0, 0, 0, m0)), (104, (.ireturn, 105, 0, 0, 0, 0, 0, m0)), (105, (.iload_n 3, 106, 0, 3, 0, 0, 0, m0)), (106, (.iconst 1, 107, 0, 0, 0, 1, 0, m0)), (107, (.iload 5, 109, 0, 5, 0, 0, 0, m0)), (109, (.ishl, 110, 0, 0, 0, 0, 0, m0)), (110, (.ior, 111, 0, 0, 0, 0, 0, m0)), (111, (.istore_n 3, 112, 0, 3, 0, 0, 0, m0))]),
  (119, [(112, (.iinc 4 1, 115, 0, 4, 0, 1, 0, m0)), (115, (.goto (-110), 118, 5, 0, 0, 0, 0, m0)), (118, (.iconst (-1), 119, 0, 0, 0, (-1), 0, m0)), (119, (.ireturn, 120, 0, 0, 0, 0, 0, m0))])]
theorem kX0_firstWrong : chkC mX0_firstWrong oX0_firstWrong = true := by decide +kernel
theorem qX1_copyFrom : OkM mX1_copyFrom := ⟨Gd_in (i := 513) (by decide +kernel) (by decide +kernel), Gd_in (i := 67) (by decide +kernel) (by decide +kernel), ⟨fun _ => ⟨Gd_in (i := 511) (by decide +kernel) (by decide +kernel), Gd_in (i := 512) (by decide +kernel) (by decide +kernel)⟩, fun h => absurd h (by decide +kernel)⟩, by decide +kernel, ⟨by decide +kernel, by decide +kernel⟩, rfl, rfl⟩
def oX1_copyFrom : Cd := [(13, [(0, (.aload_n 0, 1, 0, 0, 0, 0, 0, m0)), (1, (.aload_n 1, 2, 0, 1, 0, 0, 0, m0)), (2, (.getfield 30, 5, 101, 0, 1, 0, 0, m0)), (5, (.putfield 30, 8, 101, 0, 1, 0, 0, m0)), (8, (.aload_n 1, 9, 0, 1, 0, 0, 0, m0)), (9, (.getfield 9, 12, 105, 1, 1, 0, 0, m0)), (12, (.iconst 0, 13, 0, 0, 0, 0, 0, m0)), (13, (.aload_n 0, 14, 0, 0, 0, 0, 0, m0))]),
  (28, [(14, (.getfield 9, 17, 105, 1, 1, 0, 0, m0)), (17, (.iconst 0, 18, 0, 0, 0, 0, 0, m0)), (18, (.bipush 24, 20, 0, 0, 0, 24, 0, m0)), (20, (.invokestatic 34, 23, 514, 0, 98, 0, 0, m0)), (23, (.aload_n 1, 24, 0, 1, 0, 0, 0, m0)), (24, (.getfield 15, 27, 108, 2, 1, 0, 0, m0)), (27, (.iconst 0, 28, 0, 0, 0, 0, 0, m0)), (28, (.aload_n 0, 29, 0, 0, 0, 0, 0, m0))]),
  (43, [(29, (.getfield 15, 32, 108, 2, 1, 0, 0, m0)), (32, (.iconst 0, 33, 0, 0, 0, 0, 0, m0)), (33, (.bipush 24, 35, 0, 0, 0, 24, 0, m0)), (35, (.invokestatic 34, 38, 514, 0, 98, 0, 0, m0)), (38, (.aload_n 1, 39, 0, 1, 0, 0, 0, m0)), (39, (.getfield 18, 42, 110, 3, 1, 0, 0, m0)), (42, (.iconst 0, 43, 0, 0, 0, 0, 0, m0)), (43, (.aload_n 0, 44, 0, 0, 0, 0, 0, m0))]),
  (58, [(44, (.getfield 18, 47, 110, 3, 1, 0, 0, m0)), (47, (.iconst 0, 48, 0, 0, 0, 0, 0, m0)), (48, (.bipush 24, 50, 0, 0, 0, 24, 0, m0)), (50, (.invokestatic 34, 53, 514, 0, 98, 0, 0, m0)), (53, (.aload_n 1, 54, 0, 1, 0, 0, 0, m0)), (54, (.getfield 21, 57, 113, 4, 1, 0, 0, m0)), (57, (.iconst 0, 58, 0, 0, 0, 0, 0, m0)), (58, (.aload_n 0, 59, 0, 0, 0, 0, 0, m0))]),
  (73, [(59, (.getfield 21, 62, 113, 4, 1, 0, 0, m0)), (62, (.iconst 0, 63, 0, 0, 0, 0, 0, m0)), (63, (.bipush 24, 65, 0, 0, 0, 24, 0, m0)), (65, (.invokestatic 34, 68, 514, 0, 98, 0, 0, m0)), (68, (.aload_n 1, 69, 0, 1, 0, 0, 0, m0)), (69, (.getfield 24, 72, 116, 5, 1, 0, 0, m0)), (72, (.iconst 0, 73, 0, 0, 0, 0, 0, m0)), (73, (.aload_n 0, 74, 0, 0, 0, 0, 0, m0))]),
  (88, [(74, (.getfield 24, 77, 116, 5, 1, 0, 0, m0)), (77, (.iconst 0, 78, 0, 0, 0, 0, 0, m0)), (78, (.bipush 24, 80, 0, 0, 0, 24, 0, m0)), (80, (.invokestatic 34, 83, 514, 0, 98, 0, 0, m0)), (83, (.aload_n 1, 84, 0, 1, 0, 0, 0, m0)), (84, (.getfield 27, 87, 119, 6, 1, 0, 0, m0)), (87, (.iconst 0, 88, 0, 0, 0, 0, 0, m0)), (88, (.aload_n 0, 89, 0, 0, 0, 0, 0, m0))]),
  (103, [(89, (.getfield 27, 92, 119, 6, 1, 0, 0, m0)), (92, (.iconst 0, 93, 0, 0, 0, 0, 0, m0)), (93, (.bipush 24, 95, 0, 0, 0, 24, 0, m0)), (95, (.invokestatic 34, 98, 514, 0, 98, 0, 0, m0)), (98, (.aload_n 0, 99, 0, 0, 0, 0, 0, m0)), (99, (.aload_n 1, 100, 0, 1, 0, 0, 0, m0)), (100, (.getfield 40, 103, 121, 7, 1, 0, 0, m0)), (103, (.putfield 40, 106, 121, 7, 1, 0, 0, m0))]),
  (106, [(106, (.return_, 107, 0, 0, 0, 0, 0, m0))])]
theorem kX1_copyFrom : chkC mX1_copyFrom oX1_copyFrom = true := by decide +kernel
theorem qX1_has : OkM mX1_has := ⟨Gd_in (i := 547) (by decide +kernel) (by decide +kernel), Gd_in (i := 67) (by decide +kernel) (by decide +kernel), ⟨fun _ => ⟨Gd_in (i := 545) (by decide +kernel) (by decide +kernel), Gd_in (i := 546) (by decide +kernel) (by decide +kernel)⟩, fun h => absurd h (by decide +kernel)⟩, by decide +kernel, ⟨by decide +kernel, by decide +kernel⟩, rfl, rfl⟩
def oX1_has : Cd := [(13, [(0, (.iload_n 1, 1, 0, 1, 0, 0, 0, m0)), (1, (.ifCond .lt 15, 4, 16, 0, 0, 0, 0, m0)), (4, (.iload_n 1, 5, 0, 1, 0, 0, 0, m0)), (5, (.aload_n 0, 6, 0, 0, 0, 0, 0, m0)), (6, (.getfield 30, 9, 101, 0, 1, 0, 0, m0)), (9, (.if_icmp .ge 7, 12, 16, 0, 0, 0, 0, m0)), (12, (.iconst 1, 13, 0, 0, 0, 1, 0, m0)), (13, (.goto 4, 16, 17, 0, 0, 0, 0, m0))]),
  (17, [(16, (.iconst 0, 17, 0, 0, 0, 0, 0, m0)), (17, (.ireturn, 18, 0, 0, 0, 0, 0, m0))])]
theorem kX1_has : chkC mX1_has oX1_has = true := by decide +kernel
theorem qX1_isFull : OkM mX1_isFull := ⟨Gd_in (i := 502) (by decide +kernel) (by decide +kernel), Gd_in (i := 67) (by decide +kernel) (by decide +kernel), ⟨fun _ => ⟨Gd_in (i := 500) (by decide +kernel) (by decide +kernel), Gd_in (i := 501) (by decide +kernel) (by decide +kernel)⟩, fun h => absurd h (by decide +kernel)⟩, by decide +kernel, ⟨by decide +kernel, by decide +kernel⟩, rfl, rfl⟩
def oX1_isFull : Cd := [(14, [(0, (.aload_n 0, 1, 0, 0, 0, 0, 0, m0)), (1, (.getfield 30, 4, 101, 0, 1, 0, 0, m0)), (4, (.bipush 24, 6, 0, 0, 0, 24, 0, m0)), (6, (.if_icmp .lt 7, 9, 13, 0, 0, 0, 0, m0)), (9, (.iconst 1, 10, 0, 0, 0, 1, 0, m0)), (10, (.goto 4, 13, 14, 0, 0, 0, 0, m0)), (13, (.iconst 0, 14, 0, 0, 0, 0, 0, m0)), (14, (.ireturn, 15, 0, 0, 0, 0, 0, m0))])]
theorem kX1_isFull : chkC mX1_isFull oX1_isFull = true := by decide +kernel
theorem qX1_add : OkM mX1_add := ⟨Gd_in (i := 498) (by decide +kernel) (by decide +kernel), Gd_in (i := 67) (by decide +kernel) (by decide +kernel), ⟨fun _ => ⟨Gd_in (i := 496) (by decide +kernel) (by decide +kernel), Gd_in (i := 497) (by decide +kernel) (by decide +kernel)⟩, fun h => absurd h (by decide +kernel)⟩, by decide +kernel, ⟨by decide +kernel, by decide +kernel⟩, rfl, rfl⟩
def oX1_add : Cd := [(13, [(0, (.aload_n 0, 1, 0, 0, 0, 0, 0, m0)), (1, (.invokevirtual 43, 4, 499, 1, 1, 0, 0, mX1_isFull)), (4, (.ifCond .eq 4, 7, 8, 0, 0, 0, 0, m0)), (7, (.return_, 8, 0, 0, 0, 0, 0, m0)), (8, (.aload_n 0, 9, 0, 0, 0, 0, 0, m0)), (9, (.getfield 9, 12, 105, 1, 1, 0, 0, m0)), (12, (.aload_n 0, 13, 0, 0, 0, 0, 0, m0)), (13, (.getfield 30, 16, 101, 0, 1, 0, 0, m0))]),
  (27, [(16, (.iload_n 1, 17, 0, 1, 0, 0, 0, m0)), (17, (.iastore, 18, 0, 0, 0, 0, 0, m0)), (18, (.aload_n 0, 19, 0, 0, 0, 0, 0, m0)), (19, (.getfield 15, 22, 108, 2, 1, 0, 0, m0)), (22, (.aload_n 0, 23, 0, 0, 0, 0, 0, m0)), (23, (.getfield 30, 26, 101, 0, 1, 0, 0, m0)), (26, (.iload_n 2, 27, 0, 2, 0, 0, 0, m0)), (27, (.iastore, 28, 0, 0, 0, 0, 0, m0))]),
  (39, [(28, (.aload_n 0, 29, 0, 0, 0, 0, 0, m0)), (29, (.getfield 18, 32, 110, 3, 1, 0, 0, m0)), (32, (.aload_n 0, 33, 0, 0, 0, 0, 0, m0)), (33, (.getfield 30, 36, 101, 0, 1, 0, 0, m0)), (36, (.iload_n 3, 37, 0, 3, 0, 0, 0, m0)), (37, (.iastore, 38, 0, 0, 0, 0, 0, m0)), (38, (.aload_n 0, 39, 0, 0, 0, 0, 0, m0)), (39, (.getfield 21, 42, 113, 4, 1, 0, 0, m0))]),
  (54, [(42, (.aload_n 0, 43, 0, 0, 0, 0, 0, m0)), (43, (.getfield 30, 46, 101, 0, 1, 0, 0, m0)), (46, (.iload 4, 48, 0, 4, 0, 0, 0, m0)), (48, (.iastore, 49, 0, 0, 0, 0, 0, m0)), (49, (.aload_n 0, 50, 0, 0, 0, 0, 0, m0)), (50, (.getfield 24, 53, 116, 5, 1, 0, 0, m0)), (53, (.aload_n 0, 54, 0, 0, 0, 0, 0, m0)), (54, (.getfield 30, 57, 101, 0, 1, 0, 0, m0))]),
  (70, [(57, (.iload 5, 59, 0, 5, 0, 0, 0, m0)), (59, (.iastore, 60, 0, 0, 0, 0, 0, m0)), (60, (.aload_n 0, 61, 0, 0, 0, 0, 0, m0)), (61, (.getfield 27, 64, 119, 6, 1, 0, 0, m0)), (64, (.aload_n 0, 65, 0, 0, 0, 0, 0, m0)), (65, (.getfield 30, 68, 101, 0, 1, 0, 0, m0)), (68, (.iload 6, 70, 0, 6, 0, 0, 0, m0)), (70, (.iastore, 71, 0, 0, 0, 0, 0, m0))]),
  (82, [(71, (.aload_n 0, 72, 0, 0, 0, 0, 0, m0)), (72, (.dup, 73, 0, 0, 0, 0, 0, m0)), (73, (.getfield 40, 76, 121, 7, 1, 0, 0, m0)), (76, (.iconst 1, 77, 0, 0, 0, 1, 0, m0)), (77, (.aload_n 0, 78, 0, 0, 0, 0, 0, m0)), (78, (.getfield 30, 81, 101, 0, 1, 0, 0, m0)), (81, (.ishl, 82, 0, 0, 0, 0, 0, m0)), (82, (.iconst (-1), 83, 0, 0, 0, (-1), 0, m0))]),
  (94, [(83, (.ixor, 84, 0, 0, 0, 0, 0, m0)), (84, (.iand, 85, 0, 0, 0, 0, 0, m0)), (85, (.putfield 40, 88, 121, 7, 1, 0, 0, m0)), (88, (.aload_n 0, 89, 0, 0, 0, 0, 0, m0)), (89, (.dup, 90, 0, 0, 0, 0, 0, m0)), (90, (.getfield 30, 93, 101, 0, 1, 0, 0, m0)), (93, (.iconst 1, 94, 0, 0, 0, 1, 0, m0)), (94, (.iadd, 95, 0, 0, 0, 0, 0, m0))]),
  (98, [(95, (.putfield 30, 98, 101, 0, 1, 0, 0, m0)), (98, (.return_, 99, 0, 0, 0, 0, 0, m0))])]
theorem kX1_add : chkC mX1_add oX1_add = true := by decide +kernel
theorem qX1_ageOf : OkM mX1_ageOf := ⟨Gd_in (i := 564) (by decide +kernel) (by decide +kernel), Gd_in (i := 67) (by decide +kernel) (by decide +kernel), ⟨fun _ => ⟨Gd_in (i := 562) (by decide +kernel) (by decide +kernel), Gd_in (i := 563) (by decide +kernel) (by decide +kernel)⟩, fun h => absurd h (by decide +kernel)⟩, by decide +kernel, ⟨by decide +kernel, by decide +kernel⟩, rfl, rfl⟩
def oX1_ageOf : Cd := [(13, [(0, (.aload_n 0, 1, 0, 0, 0, 0, 0, m0)), (1, (.iload_n 1, 2, 0, 1, 0, 0, 0, m0)), (2, (.invokevirtual 47, 5, 544, 2, 1, 0, 0, mX1_has)), (5, (.ifCond .eq 14, 8, 19, 0, 0, 0, 0, m0)), (8, (.iload_n 2, 9, 0, 2, 0, 0, 0, m0)), (9, (.aload_n 0, 10, 0, 0, 0, 0, 0, m0)), (10, (.getfield 27, 13, 119, 6, 1, 0, 0, m0)), (13, (.iload_n 1, 14, 0, 1, 0, 0, 0, m0))]),
  (20, [(14, (.iaload, 15, 0, 0, 0, 0, 0, m0)), (15, (.isub, 16, 0, 0, 0, 0, 0, m0)), (16, (.goto 4, 19, 20, 0, 0, 0, 0, m0)), (19, (.iconst 0, 20, 0, 0, 0, 0, 0, m0)), (20, (.ireturn, 21, 0, 0, 0, 0, 0, m0))])]
theorem kX1_ageOf : chkC mX1_ageOf oX1_ageOf = true := by decide +kernel
theorem qX1_filledIn : OkM mX1_filledIn := ⟨Gd_in (i := 568) (by decide +kernel) (by decide +kernel), Gd_in (i := 67) (by decide +kernel) (by decide +kernel), ⟨fun _ => ⟨Gd_in (i := 566) (by decide +kernel) (by decide +kernel), Gd_in (i := 567) (by decide +kernel) (by decide +kernel)⟩, fun h => absurd h (by decide +kernel)⟩, by decide +kernel, ⟨by decide +kernel, by decide +kernel⟩, rfl, rfl⟩
def oX1_filledIn : Cd := [(11, [(0, (.aload_n 0, 1, 0, 0, 0, 0, 0, m0)), (1, (.iload_n 1, 2, 0, 1, 0, 0, 0, m0)), (2, (.invokevirtual 47, 5, 544, 2, 1, 0, 0, mX1_has)), (5, (.ifCond .ne 5, 8, 10, 0, 0, 0, 0, m0)), (8, (.iconst 0, 9, 0, 0, 0, 0, 0, m0)), (9, (.ireturn, 10, 0, 0, 0, 0, 0, m0)), (10, (.iload_n 2, 11, 0, 2, 0, 0, 0, m0)), (11, (.aload_n 0, 12, 0, 0, 0, 0, 0, m0))]),
  (23, [(12, (.getfield 27, 15, 119, 6, 1, 0, 0, m0)), (15, (.iload_n 1, 16, 0, 1, 0, 0, 0, m0)), (16, (.iaload, 17, 0, 0, 0, 0, 0, m0)), (17, (.isub, 18, 0, 0, 0, 0, 0, m0)), (18, (.istore_n 3, 19, 0, 3, 0, 0, 0, m0)), (19, (.aload_n 0, 20, 0, 0, 0, 0, 0, m0)), (20, (.getfield 9, 23, 105, 1, 1, 0, 0, m0)), (23, (.iload_n 1, 24, 0, 1, 0, 0, 0, m0))]),
  (59, [(24, (.iaload, 25, 0, 0, 0, 0, 0, m0)), (25, (.lookupswitch 73 #[(0, 27), (1, 55)], 52, 0, 0, 27, 0, 0, m0)), (52, (.iload_n 3, 53, 0, 3, 0, 0, 0, m0)), (53, (.aload_n 0, 54, 0, 0, 0, 0, 0, m0)), (54, (.getfield 24, 57, 116, 5, 1, 0, 0, m0)), (57, (.iload_n 1, 58, 0, 1, 0, 0, 0, m0)), (58, (.iaload, 59, 0, 0, 0, 0, 0, m0)), (59, (.if_icmp .le 14, 62, 73, 0, 0, 0, 0, m0))]),
  (73, [(62, (.aload_n 0, 63, 0, 0, 0, 0, 0, m0)), (63, (.getfield 21, 66, 113, 4, 1, 0, 0, m0)), (66, (.iload_n 1, 67, 0, 1, 0, 0, 0, m0)), (67, (.iaload, 68, 0, 0, 0, 0, 0, m0)), (68, (.iconst 2, 69, 0, 0, 0, 2, 0, m0)), (69, (.idiv, 70, 0, 0, 0, 0, 0, m0)), (70, (.goto 9, 73, 79, 0, 0, 0, 0, m0)), (73, (.aload_n 0, 74, 0, 0, 0, 0, 0, m0))]),
  (85, [(74, (.getfield 21, 77, 113, 4, 1, 0, 0, m0)), (77, (.iload_n 1, 78, 0, 1, 0, 0, 0, m0)), (78, (.iaload, 79, 0, 0, 0, 0, 0, m0)), (79, (.ireturn, 80, 0, 0, 0, 0, 0, m0)), (80, (.aload_n 0, 81, 0, 0, 0, 0, 0, m0)), (81, (.getfield 21, 84, 113, 4, 1, 0, 0, m0)), (84, (.iload_n 1, 85, 0, 1, 0, 0, 0, m0)), (85, (.iaload, 86, 0, 0, 0, 0, 0, m0))]),
  (97, [(86, (.iload_n 3, 87, 0, 3, 0, 0, 0, m0)), (87, (.aload_n 0, 88, 0, 0, 0, 0, 0, m0)), (88, (.getfield 24, 91, 116, 5, 1, 0, 0, m0)), (91, (.iload_n 1, 92, 0, 1, 0, 0, 0, m0)), (92, (.iaload, 93, 0, 0, 0, 0, 0, m0)), (93, (.invokestatic 51, 96, 569, 0, 96, 0, 0, m0)), (96, (.iadd, 97, 0, 0, 0, 0, 0, m0)), (97, (.ireturn, 98, 0, 0, 0, 0, 0, m0))]),
  (104, [(98, (.aload_n 0, 99, 0, 0, 0, 0, 0, m0)), (99, (.getfield 21, 102, 113, 4, 1, 0, 0, m0)), (102, (.iload_n 1, 103, 0, 1, 0, 0, 0, m0)), (103, (.iaload, 104, 0, 0, 0, 0, 0, m0)), (104, (.ireturn, 105, 0, 0, 0, 0, 0, m0))])]
theorem kX1_filledIn : chkC mX1_filledIn oX1_filledIn = true := by decide +kernel
theorem qX1_mayBeOpened : OkM mX1_mayBeOpened := ⟨Gd_in (i := 555) (by decide +kernel) (by decide +kernel), Gd_in (i := 67) (by decide +kernel) (by decide +kernel), ⟨fun _ => ⟨Gd_in (i := 553) (by decide +kernel) (by decide +kernel), Gd_in (i := 554) (by decide +kernel) (by decide +kernel)⟩, fun h => absurd h (by decide +kernel)⟩, by decide +kernel, ⟨by decide +kernel, by decide +kernel⟩, rfl, rfl⟩
def oX1_mayBeOpened : Cd := [(11, [(0, (.aload_n 0, 1, 0, 0, 0, 0, 0, m0)), (1, (.iload_n 1, 2, 0, 1, 0, 0, 0, m0)), (2, (.invokevirtual 47, 5, 544, 2, 1, 0, 0, mX1_has)), (5, (.ifCond .ne 5, 8, 10, 0, 0, 0, 0, m0)), (8, (.iconst 0, 9, 0, 0, 0, 0, 0, m0)), (9, (.ireturn, 10, 0, 0, 0, 0, 0, m0)), (10, (.iload_n 2, 11, 0, 2, 0, 0, 0, m0)), (11, (.lookupswitch 57 #[(0, 25), (1, 41)], 36, 0, 0, 25, 0, 0, m0))]),
  (47, [(36, (.iload_n 3, 37, 0, 3, 0, 0, 0, m0)), (37, (.aload_n 0, 38, 0, 0, 0, 0, 0, m0)), (38, (.getfield 18, 41, 110, 3, 1, 0, 0, m0)), (41, (.iload_n 1, 42, 0, 1, 0, 0, 0, m0)), (42, (.iaload, 43, 0, 0, 0, 0, 0, m0)), (43, (.if_icmp .lt 7, 46, 50, 0, 0, 0, 0, m0)), (46, (.iconst 1, 47, 0, 0, 0, 1, 0, m0)), (47, (.goto 4, 50, 51, 0, 0, 0, 0, m0))]),
  (59, [(50, (.iconst 0, 51, 0, 0, 0, 0, 0, m0)), (51, (.ireturn, 52, 0, 0, 0, 0, 0, m0)), (52, (.iload_n 3, 53, 0, 3, 0, 0, 0, m0)), (53, (.aload_n 0, 54, 0, 0, 0, 0, 0, m0)), (54, (.getfield 18, 57, 110, 3, 1, 0, 0, m0)), (57, (.iload_n 1, 58, 0, 1, 0, 0, 0, m0)), (58, (.iaload, 59, 0, 0, 0, 0, 0, m0)), (59, (.if_icmp .ne 7, 62, 66, 0, 0, 0, 0, m0))]),
  (69, [(62, (.iconst 1, 63, 0, 0, 0, 1, 0, m0)), (63, (.goto 4, 66, 67, 0, 0, 0, 0, m0)), (66, (.iconst 0, 67, 0, 0, 0, 0, 0, m0)), (67, (.ireturn, 68, 0, 0, 0, 0, 0, m0)), (68, (.iconst 1, 69, 0, 0, 0, 1, 0, m0)), (69, (.ireturn, 70, 0, 0, 0, 0, 0, m0))])]
theorem kX1_mayBeOpened : chkC mX1_mayBeOpened oX1_mayBeOpened = true := by decide +kernel
theorem qX1_isGone : OkM mX1_isGone := ⟨Gd_in (i := 575) (by decide +kernel) (by decide +kernel), Gd_in (i := 67) (by decide +kernel) (by decide +kernel), ⟨fun _ => ⟨Gd_in (i := 573) (by decide +kernel) (by decide +kernel), Gd_in (i := 574) (by decide +kernel) (by decide +kernel)⟩, fun h => absurd h (by decide +kernel)⟩, by decide +kernel, ⟨by decide +kernel, by decide +kernel⟩, rfl, rfl⟩
def oX1_isGone : Cd := [(13, [(0, (.aload_n 0, 1, 0, 0, 0, 0, 0, m0)), (1, (.iload_n 1, 2, 0, 1, 0, 0, 0, m0)), (2, (.invokevirtual 47, 5, 544, 2, 1, 0, 0, mX1_has)), (5, (.ifCond .eq 19, 8, 24, 0, 0, 0, 0, m0)), (8, (.aload_n 0, 9, 0, 0, 0, 0, 0, m0)), (9, (.getfield 40, 12, 121, 7, 1, 0, 0, m0)), (12, (.iload_n 1, 13, 0, 1, 0, 0, 0, m0)), (13, (.ishr, 14, 0, 0, 0, 0, 0, m0))]),
  (25, [(14, (.iconst 1, 15, 0, 0, 0, 1, 0, m0)), (15, (.iand, 16, 0, 0, 0, 0, 0, m0)), (16, (.iconst 1, 17, 0, 0, 0, 1, 0, m0)), (17, (.if_icmp .ne 7, 20, 24, 0, 0, 0, 0, m0)), (20, (.iconst 1, 21, 0, 0, 0, 1, 0, m0)), (21, (.goto 4, 24, 25, 0, 0, 0, 0, m0)), (24, (.iconst 0, 25, 0, 0, 0, 0, 0, m0)), (25, (.ireturn, 26, 0, 0, 0, 0, 0, m0))])]
theorem kX1_isGone : chkC mX1_isGone oX1_isGone = true := by decide +kernel
theorem qX1_isOf : OkM mX1_isOf := ⟨Gd_in (i := 543) (by decide +kernel) (by decide +kernel), Gd_in (i := 67) (by decide +kernel) (by decide +kernel), ⟨fun _ => ⟨Gd_in (i := 541) (by decide +kernel) (by decide +kernel), Gd_in (i := 542) (by decide +kernel) (by decide +kernel)⟩, fun h => absurd h (by decide +kernel)⟩, by decide +kernel, ⟨by decide +kernel, by decide +kernel⟩, rfl, rfl⟩
def oX1_isOf : Cd := [(13, [(0, (.aload_n 0, 1, 0, 0, 0, 0, 0, m0)), (1, (.iload_n 1, 2, 0, 1, 0, 0, 0, m0)), (2, (.invokevirtual 47, 5, 544, 2, 1, 0, 0, mX1_has)), (5, (.ifCond .eq 28, 8, 33, 0, 0, 0, 0, m0)), (8, (.aload_n 0, 9, 0, 0, 0, 0, 0, m0)), (9, (.getfield 15, 12, 108, 2, 1, 0, 0, m0)), (12, (.iload_n 1, 13, 0, 1, 0, 0, 0, m0)), (13, (.iaload, 14, 0, 0, 0, 0, 0, m0))]),
  (25, [(14, (.iload_n 2, 15, 0, 2, 0, 0, 0, m0)), (15, (.if_icmp .ne 18, 18, 33, 0, 0, 0, 0, m0)), (18, (.aload_n 0, 19, 0, 0, 0, 0, 0, m0)), (19, (.getfield 40, 22, 121, 7, 1, 0, 0, m0)), (22, (.iload_n 1, 23, 0, 1, 0, 0, 0, m0)), (23, (.ishr, 24, 0, 0, 0, 0, 0, m0)), (24, (.iconst 1, 25, 0, 0, 0, 1, 0, m0)), (25, (.iand, 26, 0, 0, 0, 0, 0, m0))]),
  (34, [(26, (.ifCond .ne 7, 29, 33, 0, 0, 0, 0, m0)), (29, (.iconst 1, 30, 0, 0, 0, 1, 0, m0)), (30, (.goto 4, 33, 34, 0, 0, 0, 0, m0)), (33, (.iconst 0, 34, 0, 0, 0, 0, 0, m0)), (34, (.ireturn, 35, 0, 0, 0, 0, 0, m0))])]
theorem kX1_isOf : chkC mX1_isOf oX1_isOf = true := by decide +kernel
theorem qX1_takeOut : OkM mX1_takeOut := ⟨Gd_in (i := 601) (by decide +kernel) (by decide +kernel), Gd_in (i := 67) (by decide +kernel) (by decide +kernel), ⟨fun _ => ⟨Gd_in (i := 599) (by decide +kernel) (by decide +kernel), Gd_in (i := 600) (by decide +kernel) (by decide +kernel)⟩, fun h => absurd h (by decide +kernel)⟩, by decide +kernel, ⟨by decide +kernel, by decide +kernel⟩, rfl, rfl⟩
def oX1_takeOut : Cd := [(11, [(0, (.aload_n 0, 1, 0, 0, 0, 0, 0, m0)), (1, (.iload_n 1, 2, 0, 1, 0, 0, 0, m0)), (2, (.invokevirtual 47, 5, 544, 2, 1, 0, 0, mX1_has)), (5, (.ifCond .ne 5, 8, 10, 0, 0, 0, 0, m0)), (8, (.iconst 0, 9, 0, 0, 0, 0, 0, m0)), (9, (.ireturn, 10, 0, 0, 0, 0, 0, m0)), (10, (.aload_n 0, 11, 0, 0, 0, 0, 0, m0)), (11, (.dup, 12, 0, 0, 0, 0, 0, m0))]),
  (23, [(12, (.getfield 40, 15, 121, 7, 1, 0, 0, m0)), (15, (.iconst 1, 16, 0, 0, 0, 1, 0, m0)), (16, (.iload_n 1, 17, 0, 1, 0, 0, 0, m0)), (17, (.ishl, 18, 0, 0, 0, 0, 0, m0)), (18, (.ior, 19, 0, 0, 0, 0, 0, m0)), (19, (.putfield 40, 22, 121, 7, 1, 0, 0, m0)), (22, (.aload_n 0, 23, 0, 0, 0, 0, 0, m0)), (23, (.iload_n 1, 24, 0, 1, 0, 0, 0, m0))]),
  (28, [(24, (.iload_n 2, 25, 0, 2, 0, 0, 0, m0)), (25, (.invokevirtual 57, 28, 602, 3, 1, 0, 0, mX1_filledIn)), (28, (.ireturn, 29, 0, 0, 0, 0, 0, m0))])]
theorem kX1_takeOut : chkC mX1_takeOut oX1_takeOut = true := by decide +kernel
theorem qX1_firstToOpen : OkM mX1_firstToOpen := ⟨Gd_in (i := 633) (by decide +kernel) (by decide +kernel), Gd_in (i := 67) (by decide +kernel) (by decide +kernel), ⟨fun _ => ⟨Gd_in (i := 631) (by decide +kernel) (by decide +kernel), Gd_in (i := 632) (by decide +kernel) (by decide +kernel)⟩, fun h => absurd h (by decide +kernel)⟩, by decide +kernel, ⟨by decide +kernel, by decide +kernel⟩, rfl, rfl⟩
def oX1_firstToOpen : Cd := [(12, [(0, (.iconst (-1), 1, 0, 0, 0, (-1), 0, m0)), (1, (.istore 4, 3, 0, 4, 0, 0, 0, m0)), (3, (.iconst 0, 4, 0, 0, 0, 0, 0, m0)), (4, (.istore 5, 6, 0, 5, 0, 0, 0, m0)), (6, (.iload 5, 8, 0, 5, 0, 0, 0, m0)), (8, (.aload_n 0, 9, 0, 0, 0, 0, 0, m0)), (9, (.getfield 30, 12, 101, 0, 1, 0, 0, m0)), (12, (.if_icmp .ge 74, 15, 86, 0, 0, 0, 0, m0))]),
  (27, [(15, (.aload_n 0, 16, 0, 0, 0, 0, 0, m0)), (16, (.getfield 15, 19, 108, 2, 1, 0, 0, m0)), (19, (.iload 5, 21, 0, 5, 0, 0, 0, m0)), (21, (.iaload, 22, 0, 0, 0, 0, 0, m0)), (22, (.iload_n 1, 23, 0, 1, 0, 0, 0, m0)), (23, (.if_icmp .ne 57, 26, 80, 0, 0, 0, 0, m0)), (26, (.aload_n 0, 27, 0, 0, 0, 0, 0, m0)), (27, (.getfield 40, 30, 121, 7, 1, 0, 0, m0))]),
  (40, [(30, (.iload 5, 32, 0, 5, 0, 0, 0, m0)), (32, (.ishr, 33, 0, 0, 0, 0, 0, m0)), (33, (.iconst 1, 34, 0, 0, 0, 1, 0, m0)), (34, (.iand, 35, 0, 0, 0, 0, 0, m0)), (35, (.iconst 1, 36, 0, 0, 0, 1, 0, m0)), (36, (.if_icmp .eq 44, 39, 80, 0, 0, 0, 0, m0)), (39, (.aload_n 0, 40, 0, 0, 0, 0, 0, m0)), (40, (.iload 5, 42, 0, 5, 0, 0, 0, m0))]),
  (56, [(42, (.iload_n 2, 43, 0, 2, 0, 0, 0, m0)), (43, (.iload_n 3, 44, 0, 3, 0, 0, 0, m0)), (44, (.invokevirtual 60, 47, 552, 4, 1, 0, 0, mX1_mayBeOpened)), (47, (.ifCond .ne 6, 50, 53, 0, 0, 0, 0, m0)), (50, (.goto 30, 53, 80, 0, 0, 0, 0, m0)), (53, (.iload 4, 55, 0, 4, 0, 0, 0, m0)), (55, (.iconst (-1), 56, 0, 0, 0, (-1), 0, m0)), (56, (.if_icmp .eq 20, 59, 76, 0, 0, 0, 0, m0))]),
  (72, [(59, (.aload_n 0, 60, 0, 0, 0, 0, 0, m0)), (60, (.getfield 18, 63, 110, 3, 1, 0, 0, m0)), (63, (.iload 5, 65, 0, 5, 0, 0, 0, m0)), (65, (.iaload, 66, 0, 0, 0, 0, 0, m0)), (66, (.aload_n 0, 67, 0, 0, 0, 0, 0, m0)), (67, (.getfield 18, 70, 110, 3, 1, 0, 0, m0)), (70, (.iload 4, 72, 0, 4, 0, 0, 0, m0)), (72, (.iaload, 73, 0, 0, 0, 0, 0, m0))]),
  (88, [(73, (.if_icmp .ge 7, 76, 80, 0, 0, 0, 0, m0)), (76, (.iload 5, 78, 0, 5, 0, 0, 0, m0)), (78, (.istore 4, 80, 0, 4, 0, 0, 0, m0)), (80, (.iinc 5 1, 83, 0, 5, 0, 1, 0, m0)), (83, (.goto (-77), 86, 6, 0, 0, 0, 0, m0)), (86, (.iload 4, 88, 0, 4, 0, 0, 0, m0)), (88, (.ireturn, 89, 0, 0, 0, 0, 0, m0))])]
theorem kX1_firstToOpen : chkC mX1_firstToOpen oX1_firstToOpen = true := by decide +kernel
theorem qX1_swapOwners : OkM mX1_swapOwners := ⟨Gd_in (i := 707) (by decide +kernel) (by decide +kernel), Gd_in (i := 67) (by decide +kernel) (by decide +kernel), ⟨fun _ => ⟨Gd_in (i := 705) (by decide +kernel) (by decide +kernel), Gd_in (i := 706) (by decide +kernel) (by decide +kernel)⟩, fun h => absurd h (by decide +kernel)⟩, by decide +kernel, ⟨by decide +kernel, by decide +kernel⟩, rfl, rfl⟩
def oX1_swapOwners : Cd := [(13, [(0, (.aload_n 0, 1, 0, 0, 0, 0, 0, m0)), (1, (.iload_n 1, 2, 0, 1, 0, 0, 0, m0)), (2, (.invokevirtual 47, 5, 544, 2, 1, 0, 0, mX1_has)), (5, (.ifCond .eq 11, 8, 16, 0, 0, 0, 0, m0)), (8, (.aload_n 0, 9, 0, 0, 0, 0, 0, m0)), (9, (.iload_n 2, 10, 0, 2, 0, 0, 0, m0)), (10, (.invokevirtual 47, 13, 544, 2, 1, 0, 0, mX1_has)), (13, (.ifCond .ne 4, 16, 17, 0, 0, 0, 0, m0))]),
  (25, [(16, (.return_, 17, 0, 0, 0, 0, 0, m0)), (17, (.aload_n 0, 18, 0, 0, 0, 0, 0, m0)), (18, (.getfield 15, 21, 108, 2, 1, 0, 0, m0)), (21, (.iload_n 1, 22, 0, 1, 0, 0, 0, m0)), (22, (.iaload, 23, 0, 0, 0, 0, 0, m0)), (23, (.istore_n 3, 24, 0, 3, 0, 0, 0, m0)), (24, (.aload_n 0, 25, 0, 0, 0, 0, 0, m0)), (25, (.getfield 15, 28, 108, 2, 1, 0, 0, m0))]),
  (37, [(28, (.iload_n 1, 29, 0, 1, 0, 0, 0, m0)), (29, (.aload_n 0, 30, 0, 0, 0, 0, 0, m0)), (30, (.getfield 15, 33, 108, 2, 1, 0, 0, m0)), (33, (.iload_n 2, 34, 0, 2, 0, 0, 0, m0)), (34, (.iaload, 35, 0, 0, 0, 0, 0, m0)), (35, (.iastore, 36, 0, 0, 0, 0, 0, m0)), (36, (.aload_n 0, 37, 0, 0, 0, 0, 0, m0)), (37, (.getfield 15, 40, 108, 2, 1, 0, 0, m0))]),
  (43, [(40, (.iload_n 2, 41, 0, 2, 0, 0, 0, m0)), (41, (.iload_n 3, 42, 0, 3, 0, 0, 0, m0)), (42, (.iastore, 43, 0, 0, 0, 0, 0, m0)), (43, (.return_, 44, 0, 0, 0, 0, 0, m0))])]
theorem kX1_swapOwners : chkC mX1_swapOwners oX1_swapOwners = true := by decide +kernel
theorem qX1_setOf : OkM mX1_setOf := ⟨Gd_in (i := 539) (by decide +kernel) (by decide +kernel), Gd_in (i := 67) (by decide +kernel) (by decide +kernel), ⟨fun _ => ⟨Gd_in (i := 537) (by decide +kernel) (by decide +kernel), Gd_in (i := 538) (by decide +kernel) (by decide +kernel)⟩, fun h => absurd h (by decide +kernel)⟩, by decide +kernel, ⟨by decide +kernel, by decide +kernel⟩, rfl, rfl⟩
def oX1_setOf : Cd := [(9, [(0, (.iconst 0, 1, 0, 0, 0, 0, 0, m0)), (1, (.istore_n 2, 2, 0, 2, 0, 0, 0, m0)), (2, (.iconst 0, 3, 0, 0, 0, 0, 0, m0)), (3, (.istore_n 3, 4, 0, 3, 0, 0, 0, m0)), (4, (.iload_n 3, 5, 0, 3, 0, 0, 0, m0)), (5, (.aload_n 0, 6, 0, 0, 0, 0, 0, m0)), (6, (.getfield 30, 9, 101, 0, 1, 0, 0, m0)), (9, (.if_icmp .ge 24, 12, 33, 0, 0, 0, 0, m0))]),
  (23, [(12, (.aload_n 0, 13, 0, 0, 0, 0, 0, m0)), (13, (.iload_n 3, 14, 0, 3, 0, 0, 0, m0)), (14, (.iload_n 1, 15, 0, 1, 0, 0, 0, m0)), (15, (.invokevirtual 64, 18, 540, 3, 1, 0, 0, mX1_isOf)), (18, (.ifCond .eq 9, 21, 27, 0, 0, 0, 0, m0)), (21, (.iload_n 2, 22, 0, 2, 0, 0, 0, m0)), (22, (.iconst 1, 23, 0, 0, 0, 1, 0, m0)), (23, (.iload_n 3, 24, 0, 3, 0, 0, 0, m0))]),
  (34, [(24, (.ishl, 25, 0, 0, 0, 0, 0, m0)), (25, (.ior, 26, 0, 0, 0, 0, 0, m0)), (26, (.istore_n 2, 27, 0, 2, 0, 0, 0, m0)), (27, (.iinc 3 1, 30, 0, 3, 0, 1, 0, m0)), (30, (.goto (-26), 33, 4, 0, 0, 0, 0, m0)), (33, (.iload_n 2, 34, 0, 2, 0, 0, 0, m0)), (34, (.ireturn, 35, 0, 0, 0, 0, 0, m0))])]
theorem kX1_setOf : chkC mX1_setOf oX1_setOf = true := by decide +kernel
theorem qX1_setToOpen : OkM mX1_setToOpen := ⟨Gd_in (i := 551) (by decide +kernel) (by decide +kernel), Gd_in (i := 67) (by decide +kernel) (by decide +kernel), ⟨fun _ => ⟨Gd_in (i := 549) (by decide +kernel) (by decide +kernel), Gd_in (i := 550) (by decide +kernel) (by decide +kernel)⟩, fun h => absurd h (by decide +kernel)⟩, by decide +kernel, ⟨by decide +kernel, by decide +kernel⟩, rfl, rfl⟩
def oX1_setToOpen : Cd := [(12, [(0, (.iconst 0, 1, 0, 0, 0, 0, 0, m0)), (1, (.istore 4, 3, 0, 4, 0, 0, 0, m0)), (3, (.iconst 0, 4, 0, 0, 0, 0, 0, m0)), (4, (.istore 5, 6, 0, 5, 0, 0, 0, m0)), (6, (.iload 5, 8, 0, 5, 0, 0, 0, m0)), (8, (.aload_n 0, 9, 0, 0, 0, 0, 0, m0)), (9, (.getfield 30, 12, 101, 0, 1, 0, 0, m0)), (12, (.if_icmp .ge 39, 15, 51, 0, 0, 0, 0, m0))]),
  (28, [(15, (.aload_n 0, 16, 0, 0, 0, 0, 0, m0)), (16, (.iload 5, 18, 0, 5, 0, 0, 0, m0)), (18, (.iload_n 1, 19, 0, 1, 0, 0, 0, m0)), (19, (.invokevirtual 64, 22, 540, 3, 1, 0, 0, mX1_isOf)), (22, (.ifCond .eq 23, 25, 45, 0, 0, 0, 0, m0)), (25, (.aload_n 0, 26, 0, 0, 0, 0, 0, m0)), (26, (.iload 5, 28, 0, 5, 0, 0, 0, m0)), (28, (.iload_n 2, 29, 0, 2, 0, 0, 0, m0))]),
  (42, [(29, (.iload_n 3, 30, 0, 3, 0, 0, 0, m0)), (30, (.invokevirtual 60, 33, 552, 4, 1, 0, 0, mX1_mayBeOpened)), (33, (.ifCond .eq 12, 36, 45, 0, 0, 0, 0, m0)), (36, (.iload 4, 38, 0, 4, 0, 0, 0, m0)), (38, (.iconst 1, 39, 0, 0, 0, 1, 0, m0)), (39, (.iload 5, 41, 0, 5, 0, 0, 0, m0)), (41, (.ishl, 42, 0, 0, 0, 0, 0, m0)), (42, (.ior, 43, 0, 0, 0, 0, 0, m0))]),
  (53, [(43, (.istore 4, 45, 0, 4, 0, 0, 0, m0)), (45, (.iinc 5 1, 48, 0, 5, 0, 1, 0, m0)), (48, (.goto (-42), 51, 6, 0, 0, 0, 0, m0)), (51, (.iload 4, 53, 0, 4, 0, 0, 0, m0)), (53, (.ireturn, 54, 0, 0, 0, 0, 0, m0))])]
theorem kX1_setToOpen : chkC mX1_setToOpen oX1_setToOpen = true := by decide +kernel
theorem qX1_lookAt : OkM mX1_lookAt := ⟨Gd_in (i := 658) (by decide +kernel) (by decide +kernel), Gd_in (i := 67) (by decide +kernel) (by decide +kernel), ⟨fun _ => ⟨Gd_in (i := 656) (by decide +kernel) (by decide +kernel), Gd_in (i := 657) (by decide +kernel) (by decide +kernel)⟩, fun h => absurd h (by decide +kernel)⟩, by decide +kernel, ⟨by decide +kernel, by decide +kernel⟩, rfl, rfl⟩
def oX1_lookAt : Cd := [(11, [(0, (.iconst 0, 1, 0, 0, 0, 0, 0, m0)), (1, (.istore_n 3, 2, 0, 3, 0, 0, 0, m0)), (2, (.iconst 0, 3, 0, 0, 0, 0, 0, m0)), (3, (.istore 4, 5, 0, 4, 0, 0, 0, m0)), (5, (.iload 4, 7, 0, 4, 0, 0, 0, m0)), (7, (.aload_n 0, 8, 0, 0, 0, 0, 0, m0)), (8, (.getfield 30, 11, 101, 0, 1, 0, 0, m0)), (11, (.if_icmp .ge 33, 14, 44, 0, 0, 0, 0, m0))]),
  (24, [(14, (.iload_n 3, 15, 0, 3, 0, 0, 0, m0)), (15, (.aload_n 2, 16, 0, 2, 0, 0, 0, m0)), (16, (.arraylength, 17, 0, 0, 0, 0, 0, m0)), (17, (.if_icmp .ge 27, 20, 44, 0, 0, 0, 0, m0)), (20, (.aload_n 0, 21, 0, 0, 0, 0, 0, m0)), (21, (.iload 4, 23, 0, 4, 0, 0, 0, m0)), (23, (.iload_n 1, 24, 0, 1, 0, 0, 0, m0)), (24, (.invokevirtual 64, 27, 540, 3, 1, 0, 0, mX1_isOf))]),
  (41, [(27, (.ifCond .eq 11, 30, 38, 0, 0, 0, 0, m0)), (30, (.aload_n 2, 31, 0, 2, 0, 0, 0, m0)), (31, (.iload_n 3, 32, 0, 3, 0, 0, 0, m0)), (32, (.iload 4, 34, 0, 4, 0, 0, 0, m0)), (34, (.iastore, 35, 0, 0, 0, 0, 0, m0)), (35, (.iinc 3 1, 38, 0, 3, 0, 1, 0, m0)), (38, (.iinc 4 1, 41, 0, 4, 0, 1, 0, m0)), (41, (.goto (-36), 44, 5, 0, 0, 0, 0, m0))]),
  (45, [(44, (.iload_n 3, 45, 0, 3, 0, 0, 0, m0)), (45, (.ireturn, 46, 0, 0, 0, 0, 0, m0))])]
theorem kX1_lookAt : chkC mX1_lookAt oX1_lookAt = true := by decide +kernel
theorem qX2_deal : OkM mX2_deal := ⟨Gd_in (i := 715) (by decide +kernel) (by decide +kernel), Gd_in (i := 70) (by decide +kernel) (by decide +kernel), ⟨fun _ => ⟨Gd_in (i := 713) (by decide +kernel) (by decide +kernel), Gd_in (i := 714) (by decide +kernel) (by decide +kernel)⟩, fun h => absurd h (by decide +kernel)⟩, by decide +kernel, ⟨by decide +kernel, by decide +kernel⟩, rfl, rfl⟩
def oX2_deal : Cd := [(13, [(0, (.aload_n 0, 1, 0, 0, 0, 0, 0, m0)), (1, (.aload_n 1, 2, 0, 1, 0, 0, 0, m0)), (2, (.getfield 27, 5, 168, 11, 4, 0, 0, m0)), (5, (.iload_n 2, 6, 0, 2, 0, 0, 0, m0)), (6, (.aload_n 0, 7, 0, 0, 0, 0, 0, m0)), (7, (.getfield 9, 10, 269, 0, 2, 0, 0, m0)), (10, (.invokevirtual 33, 13, 716, 3, 1, 0, 0, mX1_lookAt)), (13, (.putfield 39, 16, 270, 1, 2, 0, 0, m0))]),
  (25, [(16, (.aload_n 0, 17, 0, 0, 0, 0, 0, m0)), (17, (.iconst 0, 18, 0, 0, 0, 0, 0, m0)), (18, (.putfield 43, 21, 272, 3, 2, 0, 0, m0)), (21, (.iconst 0, 22, 0, 0, 0, 0, 0, m0)), (22, (.istore_n 3, 23, 0, 3, 0, 0, 0, m0)), (23, (.iload_n 3, 24, 0, 3, 0, 0, 0, m0)), (24, (.aload_n 1, 25, 0, 1, 0, 0, 0, m0)), (25, (.getfield 46, 28, 142, 0, 4, 0, 0, m0))]),
  (41, [(28, (.if_icmp .ge 34, 31, 62, 0, 0, 0, 0, m0)), (31, (.iload_n 3, 32, 0, 3, 0, 0, 0, m0)), (32, (.iload_n 2, 33, 0, 2, 0, 0, 0, m0)), (33, (.if_icmp .eq 23, 36, 56, 0, 0, 0, 0, m0)), (36, (.aload_n 0, 37, 0, 0, 0, 0, 0, m0)), (37, (.getfield 15, 40, 271, 2, 2, 0, 0, m0)), (40, (.aload_n 0, 41, 0, 0, 0, 0, 0, m0)), (41, (.getfield 43, 44, 272, 3, 2, 0, 0, m0))]),
  (53, [(44, (.iload_n 3, 45, 0, 3, 0, 0, 0, m0)), (45, (.iastore, 46, 0, 0, 0, 0, 0, m0)), (46, (.aload_n 0, 47, 0, 0, 0, 0, 0, m0)), (47, (.dup, 48, 0, 0, 0, 0, 0, m0)), (48, (.getfield 43, 51, 272, 3, 2, 0, 0, m0)), (51, (.iconst 1, 52, 0, 0, 0, 1, 0, m0)), (52, (.iadd, 53, 0, 0, 0, 0, 0, m0)), (53, (.putfield 43, 56, 272, 3, 2, 0, 0, m0))]),
  (69, [(56, (.iinc 3 1, 59, 0, 3, 0, 1, 0, m0)), (59, (.goto (-36), 62, 23, 0, 0, 0, 0, m0)), (62, (.iconst 0, 63, 0, 0, 0, 0, 0, m0)), (63, (.istore_n 3, 64, 0, 3, 0, 0, 0, m0)), (64, (.iload_n 3, 65, 0, 3, 0, 0, 0, m0)), (65, (.aload_n 0, 66, 0, 0, 0, 0, 0, m0)), (66, (.getfield 39, 69, 270, 1, 2, 0, 0, m0)), (69, (.if_icmp .ge 16, 72, 85, 0, 0, 0, 0, m0))]),
  (85, [(72, (.aload_n 0, 73, 0, 0, 0, 0, 0, m0)), (73, (.getfield 18, 76, 273, 4, 2, 0, 0, m0)), (76, (.iload_n 3, 77, 0, 3, 0, 0, 0, m0)), (77, (.iconst 0, 78, 0, 0, 0, 0, 0, m0)), (78, (.iastore, 79, 0, 0, 0, 0, 0, m0)), (79, (.iinc 3 1, 82, 0, 3, 0, 1, 0, m0)), (82, (.goto (-18), 85, 64, 0, 0, 0, 0, m0)), (85, (.aload_n 0, 86, 0, 0, 0, 0, 0, m0))]),
  (99, [(86, (.ldc 49, 88, 717, 0, 0, 1000000000, 0, m0)), (88, (.putfield 50, 91, 276, 7, 2, 0, 0, m0)), (91, (.aload_n 0, 92, 0, 0, 0, 0, 0, m0)), (92, (.invokevirtual 53, 95, 718, 1, 2, 0, 0, mX2_countWays)), (95, (.istore_n 3, 96, 0, 3, 0, 0, 0, m0)), (96, (.iconst 0, 97, 0, 0, 0, 0, 0, m0)), (97, (.istore 4, 99, 0, 4, 0, 0, 0, m0)), (99, (.iload 4, 101, 0, 4, 0, 0, 0, m0))]),
  (115, [(101, (.iload_n 3, 102, 0, 3, 0, 0, 0, m0)), (102, (.if_icmp .ge 55, 105, 157, 0, 0, 0, 0, m0)), (105, (.aload_n 0, 106, 0, 0, 0, 0, 0, m0)), (106, (.aload_n 1, 107, 0, 1, 0, 0, 0, m0)), (107, (.getfield 27, 110, 168, 11, 4, 0, 0, m0)), (110, (.invokevirtual 57, 113, 722, 2, 2, 0, 0, mX2_differenceOf)), (113, (.istore 5, 115, 0, 5, 0, 0, 0, m0)), (115, (.iload 5, 117, 0, 5, 0, 0, 0, m0))]),
  (131, [(117, (.aload_n 0, 118, 0, 0, 0, 0, 0, m0)), (118, (.getfield 50, 121, 276, 7, 2, 0, 0, m0)), (121, (.if_icmp .ge 26, 124, 147, 0, 0, 0, 0, m0)), (124, (.aload_n 0, 125, 0, 0, 0, 0, 0, m0)), (125, (.iload 5, 127, 0, 5, 0, 0, 0, m0)), (127, (.putfield 50, 130, 276, 7, 2, 0, 0, m0)), (130, (.aload_n 0, 131, 0, 0, 0, 0, 0, m0)), (131, (.getfield 18, 134, 273, 4, 2, 0, 0, m0))]),
  (147, [(134, (.iconst 0, 135, 0, 0, 0, 0, 0, m0)), (135, (.aload_n 0, 136, 0, 0, 0, 0, 0, m0)), (136, (.getfield 21, 139, 274, 5, 2, 0, 0, m0)), (139, (.iconst 0, 140, 0, 0, 0, 0, 0, m0)), (140, (.aload_n 0, 141, 0, 0, 0, 0, 0, m0)), (141, (.getfield 39, 144, 270, 1, 2, 0, 0, m0)), (144, (.invokestatic 61, 147, 728, 0, 98, 0, 0, m0)), (147, (.aload_n 0, 148, 0, 0, 0, 0, 0, m0))]),
  (157, [(148, (.invokevirtual 67, 151, 729, 1, 2, 0, 0, mX2_nextWay)), (151, (.iinc 4 1, 154, 0, 4, 0, 1, 0, m0)), (154, (.goto (-55), 157, 99, 0, 0, 0, 0, m0)), (157, (.return_, 158, 0, 0, 0, 0, 0, m0))])]
theorem kX2_deal : chkC mX2_deal oX2_deal = true := by decide +kernel
theorem qX2_heirOf : OkM mX2_heirOf := ⟨Gd_in (i := 736) (by decide +kernel) (by decide +kernel), Gd_in (i := 70) (by decide +kernel) (by decide +kernel), ⟨fun _ => ⟨Gd_in (i := 734) (by decide +kernel) (by decide +kernel), Gd_in (i := 735) (by decide +kernel) (by decide +kernel)⟩, fun h => absurd h (by decide +kernel)⟩, by decide +kernel, ⟨by decide +kernel, by decide +kernel⟩, rfl, rfl⟩
def oX2_heirOf : Cd := [(11, [(0, (.iconst 0, 1, 0, 0, 0, 0, 0, m0)), (1, (.istore_n 2, 2, 0, 2, 0, 0, 0, m0)), (2, (.iload_n 2, 3, 0, 2, 0, 0, 0, m0)), (3, (.aload_n 0, 4, 0, 0, 0, 0, 0, m0)), (4, (.getfield 39, 7, 270, 1, 2, 0, 0, m0)), (7, (.if_icmp .ge 31, 10, 38, 0, 0, 0, 0, m0)), (10, (.aload_n 0, 11, 0, 0, 0, 0, 0, m0)), (11, (.getfield 9, 14, 269, 0, 2, 0, 0, m0))]),
  (25, [(14, (.iload_n 2, 15, 0, 2, 0, 0, 0, m0)), (15, (.iaload, 16, 0, 0, 0, 0, 0, m0)), (16, (.iload_n 1, 17, 0, 1, 0, 0, 0, m0)), (17, (.if_icmp .ne 15, 20, 32, 0, 0, 0, 0, m0)), (20, (.aload_n 0, 21, 0, 0, 0, 0, 0, m0)), (21, (.getfield 15, 24, 271, 2, 2, 0, 0, m0)), (24, (.aload_n 0, 25, 0, 0, 0, 0, 0, m0)), (25, (.getfield 21, 28, 274, 5, 2, 0, 0, m0))]),
  (39, [(28, (.iload_n 2, 29, 0, 2, 0, 0, 0, m0)), (29, (.iaload, 30, 0, 0, 0, 0, 0, m0)), (30, (.iaload, 31, 0, 0, 0, 0, 0, m0)), (31, (.ireturn, 32, 0, 0, 0, 0, 0, m0)), (32, (.iinc 2 1, 35, 0, 2, 0, 1, 0, m0)), (35, (.goto (-33), 38, 2, 0, 0, 0, 0, m0)), (38, (.iconst (-1), 39, 0, 0, 0, (-1), 0, m0)), (39, (.ireturn, 40, 0, 0, 0, 0, 0, m0))])]
theorem kX2_heirOf : chkC mX2_heirOf oX2_heirOf = true := by decide +kernel
theorem qX2_countWays : OkM mX2_countWays := ⟨Gd_in (i := 721) (by decide +kernel) (by decide +kernel), Gd_in (i := 70) (by decide +kernel) (by decide +kernel), ⟨fun _ => ⟨Gd_in (i := 720) (by decide +kernel) (by decide +kernel), Gd_in (i := 22) (by decide +kernel) (by decide +kernel)⟩, fun h => absurd h (by decide +kernel)⟩, by decide +kernel, ⟨by decide +kernel, by decide +kernel⟩, rfl, rfl⟩
def oX2_countWays : Cd := [(9, [(0, (.iconst 1, 1, 0, 0, 0, 1, 0, m0)), (1, (.istore_n 1, 2, 0, 1, 0, 0, 0, m0)), (2, (.iconst 0, 3, 0, 0, 0, 0, 0, m0)), (3, (.istore_n 2, 4, 0, 2, 0, 0, 0, m0)), (4, (.iload_n 2, 5, 0, 2, 0, 0, 0, m0)), (5, (.aload_n 0, 6, 0, 0, 0, 0, 0, m0)), (6, (.getfield 39, 9, 270, 1, 2, 0, 0, m0)), (9, (.if_icmp .ge 16, 12, 25, 0, 0, 0, 0, m0))]),
  (25, [(12, (.iload_n 1, 13, 0, 1, 0, 0, 0, m0)), (13, (.aload_n 0, 14, 0, 0, 0, 0, 0, m0)), (14, (.getfield 43, 17, 272, 3, 2, 0, 0, m0)), (17, (.imul, 18, 0, 0, 0, 0, 0, m0)), (18, (.istore_n 1, 19, 0, 1, 0, 0, 0, m0)), (19, (.iinc 2 1, 22, 0, 2, 0, 1, 0, m0)), (22, (.goto (-18), 25, 4, 0, 0, 0, 0, m0)), (25, (.iload_n 1, 26, 0, 1, 0, 0, 0, m0))]),
  (26, [(26, (.ireturn, 27, 0, 0, 0, 0, 0, m0))])]
theorem kX2_countWays : chkC mX2_countWays oX2_countWays = true := by decide +kernel
theorem qX2_nextWay : OkM mX2_nextWay := ⟨Gd_in (i := 732) (by decide +kernel) (by decide +kernel), Gd_in (i := 70) (by decide +kernel) (by decide +kernel), ⟨fun _ => ⟨Gd_in (i := 731) (by decide +kernel) (by decide +kernel), Gd_in (i := 24) (by decide +kernel) (by decide +kernel)⟩, fun h => absurd h (by decide +kernel)⟩, by decide +kernel, ⟨by decide +kernel, by decide +kernel⟩, rfl, rfl⟩
def oX2_nextWay : Cd := [(11, [(0, (.aload_n 0, 1, 0, 0, 0, 0, 0, m0)), (1, (.getfield 39, 4, 270, 1, 2, 0, 0, m0)), (4, (.iconst 1, 5, 0, 0, 0, 1, 0, m0)), (5, (.isub, 6, 0, 0, 0, 0, 0, m0)), (6, (.istore_n 1, 7, 0, 1, 0, 0, 0, m0)), (7, (.iload_n 1, 8, 0, 1, 0, 0, 0, m0)), (8, (.ifCond .lt 40, 11, 48, 0, 0, 0, 0, m0)), (11, (.aload_n 0, 12, 0, 0, 0, 0, 0, m0))]),
  (21, [(12, (.getfield 18, 15, 273, 4, 2, 0, 0, m0)), (15, (.iload_n 1, 16, 0, 1, 0, 0, 0, m0)), (16, (.dup2, 17, 0, 0, 0, 0, 0, m0)), (17, (.iaload, 18, 0, 0, 0, 0, 0, m0)), (18, (.iconst 1, 19, 0, 0, 0, 1, 0, m0)), (19, (.iadd, 20, 0, 0, 0, 0, 0, m0)), (20, (.iastore, 21, 0, 0, 0, 0, 0, m0)), (21, (.aload_n 0, 22, 0, 0, 0, 0, 0, m0))]),
  (35, [(22, (.getfield 18, 25, 273, 4, 2, 0, 0, m0)), (25, (.iload_n 1, 26, 0, 1, 0, 0, 0, m0)), (26, (.iaload, 27, 0, 0, 0, 0, 0, m0)), (27, (.aload_n 0, 28, 0, 0, 0, 0, 0, m0)), (28, (.getfield 43, 31, 272, 3, 2, 0, 0, m0)), (31, (.if_icmp .ge 4, 34, 35, 0, 0, 0, 0, m0)), (34, (.return_, 35, 0, 0, 0, 0, 0, m0)), (35, (.aload_n 0, 36, 0, 0, 0, 0, 0, m0))]),
  (48, [(36, (.getfield 18, 39, 273, 4, 2, 0, 0, m0)), (39, (.iload_n 1, 40, 0, 1, 0, 0, 0, m0)), (40, (.iconst 0, 41, 0, 0, 0, 0, 0, m0)), (41, (.iastore, 42, 0, 0, 0, 0, 0, m0)), (42, (.iinc 1 (-1), 45, 0, 1, 0, (-1), 0, m0)), (45, (.goto (-38), 48, 7, 0, 0, 0, 0, m0)), (48, (.return_, 49, 0, 0, 0, 0, 0, m0))])]
theorem kX2_nextWay : chkC mX2_nextWay oX2_nextWay = true := by decide +kernel
theorem qX2_differenceOf : OkM mX2_differenceOf := ⟨Gd_in (i := 725) (by decide +kernel) (by decide +kernel), Gd_in (i := 70) (by decide +kernel) (by decide +kernel), ⟨fun _ => ⟨Gd_in (i := 724) (by decide +kernel) (by decide +kernel), Gd_in (i := 23) (by decide +kernel) (by decide +kernel)⟩, fun h => absurd h (by decide +kernel)⟩, by decide +kernel, ⟨by decide +kernel, by decide +kernel⟩, rfl, rfl⟩
def oX2_differenceOf : Cd := [(11, [(0, (.iconst 0, 1, 0, 0, 0, 0, 0, m0)), (1, (.istore_n 2, 2, 0, 2, 0, 0, 0, m0)), (2, (.iload_n 2, 3, 0, 2, 0, 0, 0, m0)), (3, (.aload_n 0, 4, 0, 0, 0, 0, 0, m0)), (4, (.getfield 43, 7, 272, 3, 2, 0, 0, m0)), (7, (.if_icmp .ge 16, 10, 23, 0, 0, 0, 0, m0)), (10, (.aload_n 0, 11, 0, 0, 0, 0, 0, m0)), (11, (.getfield 24, 14, 275, 6, 2, 0, 0, m0))]),
  (25, [(14, (.iload_n 2, 15, 0, 2, 0, 0, 0, m0)), (15, (.iconst 0, 16, 0, 0, 0, 0, 0, m0)), (16, (.iastore, 17, 0, 0, 0, 0, 0, m0)), (17, (.iinc 2 1, 20, 0, 2, 0, 1, 0, m0)), (20, (.goto (-18), 23, 2, 0, 0, 0, 0, m0)), (23, (.iconst 0, 24, 0, 0, 0, 0, 0, m0)), (24, (.istore_n 2, 25, 0, 2, 0, 0, 0, m0)), (25, (.iload_n 2, 26, 0, 2, 0, 0, 0, m0))]),
  (41, [(26, (.aload_n 0, 27, 0, 0, 0, 0, 0, m0)), (27, (.getfield 39, 30, 270, 1, 2, 0, 0, m0)), (30, (.if_icmp .ge 34, 33, 64, 0, 0, 0, 0, m0)), (33, (.aload_n 0, 34, 0, 0, 0, 0, 0, m0)), (34, (.getfield 24, 37, 275, 6, 2, 0, 0, m0)), (37, (.aload_n 0, 38, 0, 0, 0, 0, 0, m0)), (38, (.getfield 18, 41, 273, 4, 2, 0, 0, m0)), (41, (.iload_n 2, 42, 0, 2, 0, 0, 0, m0))]),
  (53, [(42, (.iaload, 43, 0, 0, 0, 0, 0, m0)), (43, (.dup2, 44, 0, 0, 0, 0, 0, m0)), (44, (.iaload, 45, 0, 0, 0, 0, 0, m0)), (45, (.aload_n 1, 46, 0, 1, 0, 0, 0, m0)), (46, (.getfield 70, 49, 114, 4, 1, 0, 0, m0)), (49, (.aload_n 0, 50, 0, 0, 0, 0, 0, m0)), (50, (.getfield 9, 53, 269, 0, 2, 0, 0, m0)), (53, (.iload_n 2, 54, 0, 2, 0, 0, 0, m0))]),
  (65, [(54, (.iaload, 55, 0, 0, 0, 0, 0, m0)), (55, (.iaload, 56, 0, 0, 0, 0, 0, m0)), (56, (.iadd, 57, 0, 0, 0, 0, 0, m0)), (57, (.iastore, 58, 0, 0, 0, 0, 0, m0)), (58, (.iinc 2 1, 61, 0, 2, 0, 1, 0, m0)), (61, (.goto (-36), 64, 25, 0, 0, 0, 0, m0)), (64, (.aload_n 0, 65, 0, 0, 0, 0, 0, m0)), (65, (.getfield 24, 68, 275, 6, 2, 0, 0, m0))]),
  (77, [(68, (.iconst 0, 69, 0, 0, 0, 0, 0, m0)), (69, (.iaload, 70, 0, 0, 0, 0, 0, m0)), (70, (.istore_n 2, 71, 0, 2, 0, 0, 0, m0)), (71, (.aload_n 0, 72, 0, 0, 0, 0, 0, m0)), (72, (.getfield 24, 75, 275, 6, 2, 0, 0, m0)), (75, (.iconst 0, 76, 0, 0, 0, 0, 0, m0)), (76, (.iaload, 77, 0, 0, 0, 0, 0, m0)), (77, (.istore_n 3, 78, 0, 3, 0, 0, 0, m0))]),
  (91, [(78, (.iconst 1, 79, 0, 0, 0, 1, 0, m0)), (79, (.istore 4, 81, 0, 4, 0, 0, 0, m0)), (81, (.iload 4, 83, 0, 4, 0, 0, 0, m0)), (83, (.aload_n 0, 84, 0, 0, 0, 0, 0, m0)), (84, (.getfield 43, 87, 272, 3, 2, 0, 0, m0)), (87, (.if_icmp .ge 33, 90, 120, 0, 0, 0, 0, m0)), (90, (.iload_n 2, 91, 0, 2, 0, 0, 0, m0)), (91, (.aload_n 0, 92, 0, 0, 0, 0, 0, m0))]),
  (104, [(92, (.getfield 24, 95, 275, 6, 2, 0, 0, m0)), (95, (.iload 4, 97, 0, 4, 0, 0, 0, m0)), (97, (.iaload, 98, 0, 0, 0, 0, 0, m0)), (98, (.invokestatic 73, 101, 726, 0, 96, 0, 0, m0)), (101, (.istore_n 2, 102, 0, 2, 0, 0, 0, m0)), (102, (.iload_n 3, 103, 0, 3, 0, 0, 0, m0)), (103, (.aload_n 0, 104, 0, 0, 0, 0, 0, m0)), (104, (.getfield 24, 107, 275, 6, 2, 0, 0, m0))]),
  (121, [(107, (.iload 4, 109, 0, 4, 0, 0, 0, m0)), (109, (.iaload, 110, 0, 0, 0, 0, 0, m0)), (110, (.invokestatic 79, 113, 727, 0, 95, 0, 0, m0)), (113, (.istore_n 3, 114, 0, 3, 0, 0, 0, m0)), (114, (.iinc 4 1, 117, 0, 4, 0, 1, 0, m0)), (117, (.goto (-36), 120, 81, 0, 0, 0, 0, m0)), (120, (.iload_n 3, 121, 0, 3, 0, 0, 0, m0)), (121, (.iload_n 2, 122, 0, 2, 0, 0, 0, m0))]),
  (123, [(122, (.isub, 123, 0, 0, 0, 0, 0, m0)), (123, (.ireturn, 124, 0, 0, 0, 0, 0, m0))])]
theorem kX2_differenceOf : chkC mX2_differenceOf oX2_differenceOf = true := by decide +kernel
theorem qX3_add : OkM mX3_add := ⟨Gd_in (i := 761) (by decide +kernel) (by decide +kernel), Gd_in (i := 71) (by decide +kernel) (by decide +kernel), ⟨fun _ => ⟨Gd_in (i := 759) (by decide +kernel) (by decide +kernel), Gd_in (i := 760) (by decide +kernel) (by decide +kernel)⟩, fun h => absurd h (by decide +kernel)⟩, by decide +kernel, ⟨by decide +kernel, by decide +kernel⟩, rfl, rfl⟩
def oX3_add : Cd := [(13, [(0, (.aload_n 0, 1, 0, 0, 0, 0, 0, m0)), (1, (.getfield 21, 4, 301, 0, 3, 0, 0, m0)), (4, (.bipush 12, 6, 0, 0, 0, 12, 0, m0)), (6, (.if_icmp .lt 6, 9, 12, 0, 0, 0, 0, m0)), (9, (.ldc 25, 11, 762, 0, 0, (-1000000004), 0, m0)), (11, (.ireturn, 12, 0, 0, 0, 0, 0, m0)), (12, (.aload_n 0, 13, 0, 0, 0, 0, 0, m0)), (13, (.getfield 9, 16, 303, 1, 3, 0, 0, m0))]),
  (27, [(16, (.aload_n 0, 17, 0, 0, 0, 0, 0, m0)), (17, (.getfield 21, 20, 301, 0, 3, 0, 0, m0)), (20, (.iload_n 1, 21, 0, 1, 0, 0, 0, m0)), (21, (.iastore, 22, 0, 0, 0, 0, 0, m0)), (22, (.aload_n 0, 23, 0, 0, 0, 0, 0, m0)), (23, (.getfield 15, 26, 304, 2, 3, 0, 0, m0)), (26, (.aload_n 0, 27, 0, 0, 0, 0, 0, m0)), (27, (.getfield 21, 30, 301, 0, 3, 0, 0, m0))]),
  (39, [(30, (.iload_n 2, 31, 0, 2, 0, 0, 0, m0)), (31, (.iastore, 32, 0, 0, 0, 0, 0, m0)), (32, (.aload_n 0, 33, 0, 0, 0, 0, 0, m0)), (33, (.dup, 34, 0, 0, 0, 0, 0, m0)), (34, (.getfield 21, 37, 301, 0, 3, 0, 0, m0)), (37, (.iconst 1, 38, 0, 0, 0, 1, 0, m0)), (38, (.iadd, 39, 0, 0, 0, 0, 0, m0)), (39, (.putfield 21, 42, 301, 0, 3, 0, 0, m0))]),
  (46, [(42, (.aload_n 0, 43, 0, 0, 0, 0, 0, m0)), (43, (.getfield 21, 46, 301, 0, 3, 0, 0, m0)), (46, (.ireturn, 47, 0, 0, 0, 0, 0, m0))])]
theorem kX3_add : chkC mX3_add oX3_add = true := by decide +kernel
theorem qX3_fewestForged : OkM mX3_fewestForged := ⟨Gd_in (i := 770) (by decide +kernel) (by decide +kernel), Gd_in (i := 71) (by decide +kernel) (by decide +kernel), ⟨fun _ => ⟨Gd_in (i := 768) (by decide +kernel) (by decide +kernel), Gd_in (i := 769) (by decide +kernel) (by decide +kernel)⟩, fun h => absurd h (by decide +kernel)⟩, by decide +kernel, ⟨by decide +kernel, by decide +kernel⟩, rfl, rfl⟩
def oX3_fewestForged : Cd := [(10, [(0, (.aload_n 0, 1, 0, 0, 0, 0, 0, m0)), (1, (.aload_n 1, 2, 0, 1, 0, 0, 0, m0)), (2, (.invokevirtual 26, 5, 771, 2, 3, 0, 0, mX3_findContradicted)), (5, (.istore_n 2, 6, 0, 2, 0, 0, 0, m0)), (6, (.iconst 0, 7, 0, 0, 0, 0, 0, m0)), (7, (.istore_n 3, 8, 0, 3, 0, 0, 0, m0)), (8, (.ldc 30, 10, 776, 0, 0, 1000000000, 0, m0)), (10, (.istore 4, 12, 0, 4, 0, 0, 0, m0))]),
  (23, [(12, (.iconst 0, 13, 0, 0, 0, 0, 0, m0)), (13, (.istore 5, 15, 0, 5, 0, 0, 0, m0)), (15, (.iload 5, 17, 0, 5, 0, 0, 0, m0)), (17, (.iconst 1, 18, 0, 0, 0, 1, 0, m0)), (18, (.iload_n 2, 19, 0, 2, 0, 0, 0, m0)), (19, (.ishl, 20, 0, 0, 0, 0, 0, m0)), (20, (.if_icmp .ge 104, 23, 124, 0, 0, 0, 0, m0)), (23, (.iconst 0, 24, 0, 0, 0, 0, 0, m0))]),
  (36, [(24, (.istore 6, 26, 0, 6, 0, 0, 0, m0)), (26, (.iconst 0, 27, 0, 0, 0, 0, 0, m0)), (27, (.istore 7, 29, 0, 7, 0, 0, 0, m0)), (29, (.iload 7, 31, 0, 7, 0, 0, 0, m0)), (31, (.iload_n 2, 32, 0, 2, 0, 0, 0, m0)), (32, (.if_icmp .ge 52, 35, 84, 0, 0, 0, 0, m0)), (35, (.aload_n 0, 36, 0, 0, 0, 0, 0, m0)), (36, (.getfield 18, 39, 305, 3, 3, 0, 0, m0))]),
  (51, [(39, (.iload 7, 41, 0, 7, 0, 0, 0, m0)), (41, (.iaload, 42, 0, 0, 0, 0, 0, m0)), (42, (.istore 8, 44, 0, 8, 0, 0, 0, m0)), (44, (.iload 6, 46, 0, 6, 0, 0, 0, m0)), (46, (.iconst 1, 47, 0, 0, 0, 1, 0, m0)), (47, (.iload 5, 49, 0, 5, 0, 0, 0, m0)), (49, (.iload 7, 51, 0, 7, 0, 0, 0, m0)), (51, (.ishr, 52, 0, 0, 0, 0, 0, m0))]),
  (64, [(52, (.iconst 1, 53, 0, 0, 0, 1, 0, m0)), (53, (.iand, 54, 0, 0, 0, 0, 0, m0)), (54, (.ifCond .ne 13, 57, 67, 0, 0, 0, 0, m0)), (57, (.aload_n 0, 58, 0, 0, 0, 0, 0, m0)), (58, (.getfield 9, 61, 303, 1, 3, 0, 0, m0)), (61, (.iload 8, 63, 0, 8, 0, 0, 0, m0)), (63, (.iaload, 64, 0, 0, 0, 0, 0, m0)), (64, (.goto 10, 67, 74, 0, 0, 0, 0, m0))]),
  (78, [(67, (.aload_n 0, 68, 0, 0, 0, 0, 0, m0)), (68, (.getfield 15, 71, 304, 2, 3, 0, 0, m0)), (71, (.iload 8, 73, 0, 8, 0, 0, 0, m0)), (73, (.iaload, 74, 0, 0, 0, 0, 0, m0)), (74, (.ishl, 75, 0, 0, 0, 0, 0, m0)), (75, (.ior, 76, 0, 0, 0, 0, 0, m0)), (76, (.istore 6, 78, 0, 6, 0, 0, 0, m0)), (78, (.iinc 7 1, 81, 0, 7, 0, 1, 0, m0))]),
  (98, [(81, (.goto (-52), 84, 29, 0, 0, 0, 0, m0)), (84, (.iload 6, 86, 0, 6, 0, 0, 0, m0)), (86, (.invokestatic 31, 89, 777, 1, 0, 0, 0, mJ6_bitCount)), (89, (.istore 7, 91, 0, 7, 0, 0, 0, m0)), (91, (.iload 7, 93, 0, 7, 0, 0, 0, m0)), (93, (.iload 4, 95, 0, 4, 0, 0, 0, m0)), (95, (.if_icmp .lt 16, 98, 111, 0, 0, 0, 0, m0)), (98, (.iload 7, 100, 0, 7, 0, 0, 0, m0))]),
  (115, [(100, (.iload 4, 102, 0, 4, 0, 0, 0, m0)), (102, (.if_icmp .ne 16, 105, 118, 0, 0, 0, 0, m0)), (105, (.iload 6, 107, 0, 6, 0, 0, 0, m0)), (107, (.iload_n 3, 108, 0, 3, 0, 0, 0, m0)), (108, (.if_icmp .ge 10, 111, 118, 0, 0, 0, 0, m0)), (111, (.iload 7, 113, 0, 7, 0, 0, 0, m0)), (113, (.istore 4, 115, 0, 4, 0, 0, 0, m0)), (115, (.iload 6, 117, 0, 6, 0, 0, 0, m0))]),
  (125, [(117, (.istore_n 3, 118, 0, 3, 0, 0, 0, m0)), (118, (.iinc 5 1, 121, 0, 5, 0, 1, 0, m0)), (121, (.goto (-106), 124, 15, 0, 0, 0, 0, m0)), (124, (.iload_n 3, 125, 0, 3, 0, 0, 0, m0)), (125, (.ireturn, 126, 0, 0, 0, 0, 0, m0))])]
theorem kX3_fewestForged : chkC mX3_fewestForged oX3_fewestForged = true := by decide +kernel
theorem qX3_findContradicted : OkM mX3_findContradicted := ⟨Gd_in (i := 774) (by decide +kernel) (by decide +kernel), Gd_in (i := 71) (by decide +kernel) (by decide +kernel), ⟨fun _ => ⟨Gd_in (i := 773) (by decide +kernel) (by decide +kernel), Gd_in (i := 26) (by decide +kernel) (by decide +kernel)⟩, fun h => absurd h (by decide +kernel)⟩, by decide +kernel, ⟨by decide +kernel, by decide +kernel⟩, rfl, rfl⟩
def oX3_findContradicted : Cd := [(9, [(0, (.iconst 0, 1, 0, 0, 0, 0, 0, m0)), (1, (.istore_n 2, 2, 0, 2, 0, 0, 0, m0)), (2, (.iconst 0, 3, 0, 0, 0, 0, 0, m0)), (3, (.istore_n 3, 4, 0, 3, 0, 0, 0, m0)), (4, (.iload_n 3, 5, 0, 3, 0, 0, 0, m0)), (5, (.aload_n 0, 6, 0, 0, 0, 0, 0, m0)), (6, (.getfield 21, 9, 301, 0, 3, 0, 0, m0)), (9, (.if_icmp .ge 70, 12, 79, 0, 0, 0, 0, m0))]),
  (24, [(12, (.aload_n 0, 13, 0, 0, 0, 0, 0, m0)), (13, (.getfield 9, 16, 303, 1, 3, 0, 0, m0)), (16, (.iload_n 3, 17, 0, 3, 0, 0, 0, m0)), (17, (.iaload, 18, 0, 0, 0, 0, 0, m0)), (18, (.istore 4, 20, 0, 4, 0, 0, 0, m0)), (20, (.aload_n 0, 21, 0, 0, 0, 0, 0, m0)), (21, (.getfield 15, 24, 304, 2, 3, 0, 0, m0)), (24, (.iload_n 3, 25, 0, 3, 0, 0, 0, m0))]),
  (38, [(25, (.iaload, 26, 0, 0, 0, 0, 0, m0)), (26, (.istore 5, 28, 0, 5, 0, 0, 0, m0)), (28, (.aload_n 1, 29, 0, 1, 0, 0, 0, m0)), (29, (.iload 4, 31, 0, 4, 0, 0, 0, m0)), (31, (.invokevirtual 37, 34, 775, 2, 1, 0, 0, mX1_has)), (34, (.ifCond .eq 39, 37, 73, 0, 0, 0, 0, m0)), (37, (.aload_n 1, 38, 0, 1, 0, 0, 0, m0)), (38, (.iload 5, 40, 0, 5, 0, 0, 0, m0))]),
  (54, [(40, (.invokevirtual 37, 43, 775, 2, 1, 0, 0, mX1_has)), (43, (.ifCond .eq 30, 46, 73, 0, 0, 0, 0, m0)), (46, (.aload_n 1, 47, 0, 1, 0, 0, 0, m0)), (47, (.getfield 43, 50, 111, 3, 1, 0, 0, m0)), (50, (.iload 4, 52, 0, 4, 0, 0, 0, m0)), (52, (.iaload, 53, 0, 0, 0, 0, 0, m0)), (53, (.aload_n 1, 54, 0, 1, 0, 0, 0, m0)), (54, (.getfield 43, 57, 111, 3, 1, 0, 0, m0))]),
  (69, [(57, (.iload 5, 59, 0, 5, 0, 0, 0, m0)), (59, (.iaload, 60, 0, 0, 0, 0, 0, m0)), (60, (.if_icmp .lt 13, 63, 73, 0, 0, 0, 0, m0)), (63, (.aload_n 0, 64, 0, 0, 0, 0, 0, m0)), (64, (.getfield 18, 67, 305, 3, 3, 0, 0, m0)), (67, (.iload_n 2, 68, 0, 2, 0, 0, 0, m0)), (68, (.iload_n 3, 69, 0, 3, 0, 0, 0, m0)), (69, (.iastore, 70, 0, 0, 0, 0, 0, m0))]),
  (80, [(70, (.iinc 2 1, 73, 0, 2, 0, 1, 0, m0)), (73, (.iinc 3 1, 76, 0, 3, 0, 1, 0, m0)), (76, (.goto (-72), 79, 4, 0, 0, 0, 0, m0)), (79, (.iload_n 2, 80, 0, 2, 0, 0, 0, m0)), (80, (.ireturn, 81, 0, 0, 0, 0, 0, m0))])]
theorem kX3_findContradicted : chkC mX3_findContradicted oX3_findContradicted = true := by decide +kernel
theorem qX4_clear : OkM mX4_clear := ⟨Gd_in (i := 384) (by decide +kernel) (by decide +kernel), Gd_in (i := 66) (by decide +kernel) (by decide +kernel), ⟨fun _ => ⟨Gd_in (i := 382) (by decide +kernel) (by decide +kernel), Gd_in (i := 383) (by decide +kernel) (by decide +kernel)⟩, fun h => absurd h (by decide +kernel)⟩, by decide +kernel, ⟨by decide +kernel, by decide +kernel⟩, rfl, rfl⟩
def oX4_clear : Cd := [(11, [(0, (.aload_n 0, 1, 0, 0, 0, 0, 0, m0)), (1, (.iconst 0, 2, 0, 0, 0, 0, 0, m0)), (2, (.putfield 34, 5, 141, 0, 4, 0, 0, m0)), (5, (.aload_n 0, 6, 0, 0, 0, 0, 0, m0)), (6, (.iconst 0, 7, 0, 0, 0, 0, 0, m0)), (7, (.putfield 38, 10, 155, 5, 4, 0, 0, m0)), (10, (.aload_n 0, 11, 0, 0, 0, 0, 0, m0)), (11, (.iconst 0, 12, 0, 0, 0, 0, 0, m0))]),
  (25, [(12, (.putfield 41, 15, 157, 7, 4, 0, 0, m0)), (15, (.aload_n 0, 16, 0, 0, 0, 0, 0, m0)), (16, (.iconst 0, 17, 0, 0, 0, 0, 0, m0)), (17, (.putfield 44, 20, 160, 8, 4, 0, 0, m0)), (20, (.aload_n 0, 21, 0, 0, 0, 0, 0, m0)), (21, (.getfield 30, 24, 167, 11, 4, 0, 0, m0)), (24, (.iconst 0, 25, 0, 0, 0, 0, 0, m0)), (25, (.putfield 47, 28, 102, 0, 1, 0, 0, m0))]),
  (36, [(28, (.aload_n 0, 29, 0, 0, 0, 0, 0, m0)), (29, (.getfield 30, 32, 167, 11, 4, 0, 0, m0)), (32, (.iconst 0, 33, 0, 0, 0, 0, 0, m0)), (33, (.putfield 50, 36, 120, 7, 1, 0, 0, m0)), (36, (.return_, 37, 0, 0, 0, 0, 0, m0))])]
theorem kX4_clear : chkC mX4_clear oX4_clear = true := by decide +kernel
theorem qX4_copyFrom : OkM mX4_copyFrom := ⟨Gd_in (i := 506) (by decide +kernel) (by decide +kernel), Gd_in (i := 66) (by decide +kernel) (by decide +kernel), ⟨fun _ => ⟨Gd_in (i := 504) (by decide +kernel) (by decide +kernel), Gd_in (i := 505) (by decide +kernel) (by decide +kernel)⟩, fun h => absurd h (by decide +kernel)⟩, by decide +kernel, ⟨by decide +kernel, by decide +kernel⟩, rfl, rfl⟩
def oX4_copyFrom : Cd := [(13, [(0, (.aload_n 0, 1, 0, 0, 0, 0, 0, m0)), (1, (.aload_n 1, 2, 0, 1, 0, 0, 0, m0)), (2, (.getfield 34, 5, 141, 0, 4, 0, 0, m0)), (5, (.putfield 34, 8, 141, 0, 4, 0, 0, m0)), (8, (.aload_n 1, 9, 0, 1, 0, 0, 0, m0)), (9, (.getfield 9, 12, 145, 1, 4, 0, 0, m0)), (12, (.iconst 0, 13, 0, 0, 0, 0, 0, m0)), (13, (.aload_n 0, 14, 0, 0, 0, 0, 0, m0))]),
  (27, [(14, (.getfield 9, 17, 145, 1, 4, 0, 0, m0)), (17, (.iconst 0, 18, 0, 0, 0, 0, 0, m0)), (18, (.iconst 4, 19, 0, 0, 0, 4, 0, m0)), (19, (.invokestatic 53, 22, 507, 0, 98, 0, 0, m0)), (22, (.aload_n 1, 23, 0, 1, 0, 0, 0, m0)), (23, (.getfield 15, 26, 148, 2, 4, 0, 0, m0)), (26, (.iconst 0, 27, 0, 0, 0, 0, 0, m0)), (27, (.aload_n 0, 28, 0, 0, 0, 0, 0, m0))]),
  (41, [(28, (.getfield 15, 31, 148, 2, 4, 0, 0, m0)), (31, (.iconst 0, 32, 0, 0, 0, 0, 0, m0)), (32, (.iconst 4, 33, 0, 0, 0, 4, 0, m0)), (33, (.invokestatic 53, 36, 507, 0, 98, 0, 0, m0)), (36, (.aload_n 1, 37, 0, 1, 0, 0, 0, m0)), (37, (.getfield 18, 40, 150, 3, 4, 0, 0, m0)), (40, (.iconst 0, 41, 0, 0, 0, 0, 0, m0)), (41, (.aload_n 0, 42, 0, 0, 0, 0, 0, m0))]),
  (55, [(42, (.getfield 18, 45, 150, 3, 4, 0, 0, m0)), (45, (.iconst 0, 46, 0, 0, 0, 0, 0, m0)), (46, (.iconst 4, 47, 0, 0, 0, 4, 0, m0)), (47, (.invokestatic 53, 50, 507, 0, 98, 0, 0, m0)), (50, (.aload_n 0, 51, 0, 0, 0, 0, 0, m0)), (51, (.aload_n 1, 52, 0, 1, 0, 0, 0, m0)), (52, (.getfield 38, 55, 155, 5, 4, 0, 0, m0)), (55, (.putfield 38, 58, 155, 5, 4, 0, 0, m0))]),
  (70, [(58, (.aload_n 1, 59, 0, 1, 0, 0, 0, m0)), (59, (.getfield 24, 62, 156, 6, 4, 0, 0, m0)), (62, (.iconst 0, 63, 0, 0, 0, 0, 0, m0)), (63, (.aload_n 0, 64, 0, 0, 0, 0, 0, m0)), (64, (.getfield 24, 67, 156, 6, 4, 0, 0, m0)), (67, (.iconst 0, 68, 0, 0, 0, 0, 0, m0)), (68, (.bipush 8, 70, 0, 0, 0, 8, 0, m0)), (70, (.invokestatic 53, 73, 507, 0, 98, 0, 0, m0))]),
  (86, [(73, (.aload_n 0, 74, 0, 0, 0, 0, 0, m0)), (74, (.aload_n 1, 75, 0, 1, 0, 0, 0, m0)), (75, (.getfield 41, 78, 157, 7, 4, 0, 0, m0)), (78, (.putfield 41, 81, 157, 7, 4, 0, 0, m0)), (81, (.aload_n 0, 82, 0, 0, 0, 0, 0, m0)), (82, (.aload_n 1, 83, 0, 1, 0, 0, 0, m0)), (83, (.getfield 44, 86, 160, 8, 4, 0, 0, m0)), (86, (.putfield 44, 89, 160, 8, 4, 0, 0, m0))]),
  (102, [(89, (.aload_n 0, 90, 0, 0, 0, 0, 0, m0)), (90, (.aload_n 1, 91, 0, 1, 0, 0, 0, m0)), (91, (.getfield 59, 94, 163, 9, 4, 0, 0, m0)), (94, (.putfield 59, 97, 163, 9, 4, 0, 0, m0)), (97, (.aload_n 0, 98, 0, 0, 0, 0, 0, m0)), (98, (.aload_n 1, 99, 0, 1, 0, 0, 0, m0)), (99, (.getfield 62, 102, 166, 10, 4, 0, 0, m0)), (102, (.putfield 62, 105, 166, 10, 4, 0, 0, m0))]),
  (116, [(105, (.aload_n 0, 106, 0, 0, 0, 0, 0, m0)), (106, (.getfield 30, 109, 167, 11, 4, 0, 0, m0)), (109, (.aload_n 1, 110, 0, 1, 0, 0, 0, m0)), (110, (.getfield 30, 113, 167, 11, 4, 0, 0, m0)), (113, (.invokevirtual 65, 116, 510, 2, 1, 0, 0, mX1_copyFrom)), (116, (.return_, 117, 0, 0, 0, 0, 0, m0))])]
theorem kX4_copyFrom : chkC mX4_copyFrom oX4_copyFrom = true := by decide +kernel
theorem qX4_hasHouse : OkM mX4_hasHouse := ⟨Gd_in (i := 534) (by decide +kernel) (by decide +kernel), Gd_in (i := 66) (by decide +kernel) (by decide +kernel), ⟨fun _ => ⟨Gd_in (i := 532) (by decide +kernel) (by decide +kernel), Gd_in (i := 533) (by decide +kernel) (by decide +kernel)⟩, fun h => absurd h (by decide +kernel)⟩, by decide +kernel, ⟨by decide +kernel, by decide +kernel⟩, rfl, rfl⟩
def oX4_hasHouse : Cd := [(13, [(0, (.iload_n 1, 1, 0, 1, 0, 0, 0, m0)), (1, (.ifCond .lt 15, 4, 16, 0, 0, 0, 0, m0)), (4, (.iload_n 1, 5, 0, 1, 0, 0, 0, m0)), (5, (.aload_n 0, 6, 0, 0, 0, 0, 0, m0)), (6, (.getfield 34, 9, 141, 0, 4, 0, 0, m0)), (9, (.if_icmp .ge 7, 12, 16, 0, 0, 0, 0, m0)), (12, (.iconst 1, 13, 0, 0, 0, 1, 0, m0)), (13, (.goto 4, 16, 17, 0, 0, 0, 0, m0))]),
  (17, [(16, (.iconst 0, 17, 0, 0, 0, 0, 0, m0)), (17, (.ireturn, 18, 0, 0, 0, 0, 0, m0))])]
theorem kX4_hasHouse : chkC mX4_hasHouse oX4_hasHouse = true := by decide +kernel
theorem qX4_addHouse : OkM mX4_addHouse := ⟨Gd_in (i := 482) (by decide +kernel) (by decide +kernel), Gd_in (i := 66) (by decide +kernel) (by decide +kernel), ⟨fun _ => ⟨Gd_in (i := 480) (by decide +kernel) (by decide +kernel), Gd_in (i := 481) (by decide +kernel) (by decide +kernel)⟩, fun h => absurd h (by decide +kernel)⟩, by decide +kernel, ⟨by decide +kernel, by decide +kernel⟩, rfl, rfl⟩
def oX4_addHouse : Cd := [(13, [(0, (.aload_n 0, 1, 0, 0, 0, 0, 0, m0)), (1, (.getfield 34, 4, 141, 0, 4, 0, 0, m0)), (4, (.iconst 4, 5, 0, 0, 0, 4, 0, m0)), (5, (.if_icmp .lt 4, 8, 9, 0, 0, 0, 0, m0)), (8, (.return_, 9, 0, 0, 0, 0, 0, m0)), (9, (.aload_n 0, 10, 0, 0, 0, 0, 0, m0)), (10, (.getfield 9, 13, 145, 1, 4, 0, 0, m0)), (13, (.aload_n 0, 14, 0, 0, 0, 0, 0, m0))]),
  (27, [(14, (.getfield 34, 17, 141, 0, 4, 0, 0, m0)), (17, (.iload_n 1, 18, 0, 1, 0, 0, 0, m0)), (18, (.iastore, 19, 0, 0, 0, 0, 0, m0)), (19, (.aload_n 0, 20, 0, 0, 0, 0, 0, m0)), (20, (.getfield 15, 23, 148, 2, 4, 0, 0, m0)), (23, (.aload_n 0, 24, 0, 0, 0, 0, 0, m0)), (24, (.getfield 34, 27, 141, 0, 4, 0, 0, m0)), (27, (.iload_n 2, 28, 0, 2, 0, 0, 0, m0))]),
  (39, [(28, (.iastore, 29, 0, 0, 0, 0, 0, m0)), (29, (.aload_n 0, 30, 0, 0, 0, 0, 0, m0)), (30, (.getfield 18, 33, 150, 3, 4, 0, 0, m0)), (33, (.aload_n 0, 34, 0, 0, 0, 0, 0, m0)), (34, (.getfield 34, 37, 141, 0, 4, 0, 0, m0)), (37, (.iconst 0, 38, 0, 0, 0, 0, 0, m0)), (38, (.iastore, 39, 0, 0, 0, 0, 0, m0)), (39, (.aload_n 0, 40, 0, 0, 0, 0, 0, m0))]),
  (49, [(40, (.dup, 41, 0, 0, 0, 0, 0, m0)), (41, (.getfield 34, 44, 141, 0, 4, 0, 0, m0)), (44, (.iconst 1, 45, 0, 0, 0, 1, 0, m0)), (45, (.iadd, 46, 0, 0, 0, 0, 0, m0)), (46, (.putfield 34, 49, 141, 0, 4, 0, 0, m0)), (49, (.return_, 50, 0, 0, 0, 0, 0, m0))])]
theorem kX4_addHouse : chkC mX4_addHouse oX4_addHouse = true := by decide +kernel
theorem qX4_addHarvest : OkM mX4_addHarvest := ⟨Gd_in (i := 465) (by decide +kernel) (by decide +kernel), Gd_in (i := 66) (by decide +kernel) (by decide +kernel), ⟨fun _ => ⟨Gd_in (i := 463) (by decide +kernel) (by decide +kernel), Gd_in (i := 464) (by decide +kernel) (by decide +kernel)⟩, fun h => absurd h (by decide +kernel)⟩, by decide +kernel, ⟨by decide +kernel, by decide +kernel⟩, rfl, rfl⟩
def oX4_addHarvest : Cd := [(14, [(0, (.aload_n 0, 1, 0, 0, 0, 0, 0, m0)), (1, (.getfield 38, 4, 155, 5, 4, 0, 0, m0)), (4, (.bipush 8, 6, 0, 0, 0, 8, 0, m0)), (6, (.if_icmp .lt 4, 9, 10, 0, 0, 0, 0, m0)), (9, (.return_, 10, 0, 0, 0, 0, 0, m0)), (10, (.aload_n 0, 11, 0, 0, 0, 0, 0, m0)), (11, (.getfield 24, 14, 156, 6, 4, 0, 0, m0)), (14, (.aload_n 0, 15, 0, 0, 0, 0, 0, m0))]),
  (26, [(15, (.getfield 38, 18, 155, 5, 4, 0, 0, m0)), (18, (.iload_n 1, 19, 0, 1, 0, 0, 0, m0)), (19, (.iastore, 20, 0, 0, 0, 0, 0, m0)), (20, (.aload_n 0, 21, 0, 0, 0, 0, 0, m0)), (21, (.dup, 22, 0, 0, 0, 0, 0, m0)), (22, (.getfield 38, 25, 155, 5, 4, 0, 0, m0)), (25, (.iconst 1, 26, 0, 0, 0, 1, 0, m0)), (26, (.iadd, 27, 0, 0, 0, 0, 0, m0))]),
  (30, [(27, (.putfield 38, 30, 155, 5, 4, 0, 0, m0)), (30, (.return_, 31, 0, 0, 0, 0, 0, m0))])]
theorem kX4_addHarvest : chkC mX4_addHarvest oX4_addHarvest = true := by decide +kernel
theorem qX4_harvestOf : OkM mX4_harvestOf := ⟨Gd_in (i := 526) (by decide +kernel) (by decide +kernel), Gd_in (i := 66) (by decide +kernel) (by decide +kernel), ⟨fun _ => ⟨Gd_in (i := 524) (by decide +kernel) (by decide +kernel), Gd_in (i := 525) (by decide +kernel) (by decide +kernel)⟩, fun h => absurd h (by decide +kernel)⟩, by decide +kernel, ⟨by decide +kernel, by decide +kernel⟩, rfl, rfl⟩
def oX4_harvestOf : Cd := [(14, [(0, (.aload_n 0, 1, 0, 0, 0, 0, 0, m0)), (1, (.getfield 38, 4, 155, 5, 4, 0, 0, m0)), (4, (.iconst 1, 5, 0, 0, 0, 1, 0, m0)), (5, (.if_icmp .lt 7, 8, 12, 0, 0, 0, 0, m0)), (8, (.iload_n 1, 9, 0, 1, 0, 0, 0, m0)), (9, (.ifCond .ge 6, 12, 15, 0, 0, 0, 0, m0)), (12, (.bipush 10, 14, 0, 0, 0, 10, 0, m0)), (14, (.ireturn, 15, 0, 0, 0, 0, 0, m0))]),
  (26, [(15, (.aload_n 0, 16, 0, 0, 0, 0, 0, m0)), (16, (.getfield 24, 19, 156, 6, 4, 0, 0, m0)), (19, (.iload_n 1, 20, 0, 1, 0, 0, 0, m0)), (20, (.aload_n 0, 21, 0, 0, 0, 0, 0, m0)), (21, (.getfield 38, 24, 155, 5, 4, 0, 0, m0)), (24, (.irem, 25, 0, 0, 0, 0, 0, m0)), (25, (.iaload, 26, 0, 0, 0, 0, 0, m0)), (26, (.ireturn, 27, 0, 0, 0, 0, 0, m0))])]
theorem kX4_harvestOf : chkC mX4_harvestOf oX4_harvestOf = true := by decide +kernel
theorem qX4_besiege : OkM mX4_besiege := ⟨Gd_in (i := 748) (by decide +kernel) (by decide +kernel), Gd_in (i := 66) (by decide +kernel) (by decide +kernel), ⟨fun _ => ⟨Gd_in (i := 746) (by decide +kernel) (by decide +kernel), Gd_in (i := 747) (by decide +kernel) (by decide +kernel)⟩, fun h => absurd h (by decide +kernel)⟩, by decide +kernel, ⟨by decide +kernel, by decide +kernel⟩, rfl, rfl⟩
def oX4_besiege : Cd := [(11, [(0, (.aload_n 0, 1, 0, 0, 0, 0, 0, m0)), (1, (.iconst 0, 2, 0, 0, 0, 0, 0, m0)), (2, (.putfield 38, 5, 155, 5, 4, 0, 0, m0)), (5, (.aload_n 0, 6, 0, 0, 0, 0, 0, m0)), (6, (.iconst 0, 7, 0, 0, 0, 0, 0, m0)), (7, (.invokevirtual 69, 10, 749, 2, 4, 0, 0, mX4_addHarvest)), (10, (.iconst 0, 11, 0, 0, 0, 0, 0, m0)), (11, (.istore_n 1, 12, 0, 1, 0, 0, 0, m0))]),
  (25, [(12, (.iload_n 1, 13, 0, 1, 0, 0, 0, m0)), (13, (.aload_n 0, 14, 0, 0, 0, 0, 0, m0)), (14, (.getfield 34, 17, 141, 0, 4, 0, 0, m0)), (17, (.if_icmp .ge 16, 20, 33, 0, 0, 0, 0, m0)), (20, (.aload_n 0, 21, 0, 0, 0, 0, 0, m0)), (21, (.getfield 15, 24, 148, 2, 4, 0, 0, m0)), (24, (.iload_n 1, 25, 0, 1, 0, 0, 0, m0)), (25, (.iconst 0, 26, 0, 0, 0, 0, 0, m0))]),
  (33, [(26, (.iastore, 27, 0, 0, 0, 0, 0, m0)), (27, (.iinc 1 1, 30, 0, 1, 0, 1, 0, m0)), (30, (.goto (-18), 33, 12, 0, 0, 0, 0, m0)), (33, (.return_, 34, 0, 0, 0, 0, 0, m0))])]
theorem kX4_besiege : chkC mX4_besiege oX4_besiege = true := by decide +kernel
theorem qX4_drawOf : OkM mX4_drawOf := ⟨Gd_in (i := 620) (by decide +kernel) (by decide +kernel), Gd_in (i := 66) (by decide +kernel) (by decide +kernel), ⟨fun _ => ⟨Gd_in (i := 618) (by decide +kernel) (by decide +kernel), Gd_in (i := 619) (by decide +kernel) (by decide +kernel)⟩, fun h => absurd h (by decide +kernel)⟩, by decide +kernel, ⟨by decide +kernel, by decide +kernel⟩, rfl, rfl⟩
def oX4_drawOf : Cd := [(13, [(0, (.aload_n 0, 1, 0, 0, 0, 0, 0, m0)), (1, (.getfield 62, 4, 166, 10, 4, 0, 0, m0)), (4, (.i2l, 5, 0, 0, 0, 0, 0, m0)), (5, (.ldc2_w 73, 8, 621, 0, 0, 0, 1103515245, m0)), (8, (.lmul, 9, 0, 0, 0, 0, 0, m0)), (9, (.ldc2_w 75, 12, 622, 0, 0, 0, 12345, m0)), (12, (.ladd, 13, 0, 0, 0, 0, 0, m0)), (13, (.ldc2_w 77, 16, 623, 0, 0, 0, 2147483647, m0))]),
  (25, [(16, (.land, 17, 0, 0, 0, 0, 0, m0)), (17, (.lstore_n 2, 18, 0, 2, 0, 0, 0, m0)), (18, (.aload_n 0, 19, 0, 0, 0, 0, 0, m0)), (19, (.lload_n 2, 20, 0, 2, 0, 0, 0, m0)), (20, (.l2i, 21, 0, 0, 0, 0, 0, m0)), (21, (.putfield 62, 24, 166, 10, 4, 0, 0, m0)), (24, (.iload_n 1, 25, 0, 1, 0, 0, 0, m0)), (25, (.iconst 1, 26, 0, 0, 0, 1, 0, m0))]),
  (40, [(26, (.if_icmp .ge 7, 29, 33, 0, 0, 0, 0, m0)), (29, (.iconst 0, 30, 0, 0, 0, 0, 0, m0)), (30, (.goto 12, 33, 42, 0, 0, 0, 0, m0)), (33, (.aload_n 0, 34, 0, 0, 0, 0, 0, m0)), (34, (.getfield 62, 37, 166, 10, 4, 0, 0, m0)), (37, (.ldc 79, 39, 624, 0, 0, 65536, 0, m0)), (39, (.idiv, 40, 0, 0, 0, 0, 0, m0)), (40, (.iload_n 1, 41, 0, 1, 0, 0, 0, m0))]),
  (42, [(41, (.irem, 42, 0, 0, 0, 0, 0, m0)), (42, (.ireturn, 43, 0, 0, 0, 0, 0, m0))])]
theorem kX4_drawOf : chkC mX4_drawOf oX4_drawOf = true := by decide +kernel
theorem qX4_passYears : OkM mX4_passYears := ⟨Gd_in (i := 610) (by decide +kernel) (by decide +kernel), Gd_in (i := 66) (by decide +kernel) (by decide +kernel), ⟨fun _ => ⟨Gd_in (i := 608) (by decide +kernel) (by decide +kernel), Gd_in (i := 609) (by decide +kernel) (by decide +kernel)⟩, fun h => absurd h (by decide +kernel)⟩, by decide +kernel, ⟨by decide +kernel, by decide +kernel⟩, rfl, rfl⟩
def oX4_passYears : Cd := [(11, [(0, (.iconst 0, 1, 0, 0, 0, 0, 0, m0)), (1, (.istore_n 3, 2, 0, 3, 0, 0, 0, m0)), (2, (.iload_n 3, 3, 0, 3, 0, 0, 0, m0)), (3, (.aload_n 0, 4, 0, 0, 0, 0, 0, m0)), (4, (.getfield 34, 7, 141, 0, 4, 0, 0, m0)), (7, (.if_icmp .ge 16, 10, 23, 0, 0, 0, 0, m0)), (10, (.aload_n 0, 11, 0, 0, 0, 0, 0, m0)), (11, (.getfield 21, 14, 153, 4, 4, 0, 0, m0))]),
  (25, [(14, (.iload_n 3, 15, 0, 3, 0, 0, 0, m0)), (15, (.iconst 0, 16, 0, 0, 0, 0, 0, m0)), (16, (.iastore, 17, 0, 0, 0, 0, 0, m0)), (17, (.iinc 3 1, 20, 0, 3, 0, 1, 0, m0)), (20, (.goto (-18), 23, 2, 0, 0, 0, 0, m0)), (23, (.iconst 0, 24, 0, 0, 0, 0, 0, m0)), (24, (.istore_n 3, 25, 0, 3, 0, 0, 0, m0)), (25, (.iconst 0, 26, 0, 0, 0, 0, 0, m0))]),
  (39, [(26, (.istore 4, 28, 0, 4, 0, 0, 0, m0)), (28, (.iload 4, 30, 0, 4, 0, 0, 0, m0)), (30, (.iload_n 1, 31, 0, 1, 0, 0, 0, m0)), (31, (.if_icmp .ge 91, 34, 122, 0, 0, 0, 0, m0)), (34, (.iload_n 2, 35, 0, 2, 0, 0, 0, m0)), (35, (.ifCond .eq 7, 38, 42, 0, 0, 0, 0, m0)), (38, (.aload_n 0, 39, 0, 0, 0, 0, 0, m0)), (39, (.invokevirtual 80, 42, 611, 1, 4, 0, 0, mX4_burstJars))]),
  (55, [(42, (.iconst 0, 43, 0, 0, 0, 0, 0, m0)), (43, (.istore 5, 45, 0, 5, 0, 0, 0, m0)), (45, (.iload 5, 47, 0, 5, 0, 0, 0, m0)), (47, (.aload_n 0, 48, 0, 0, 0, 0, 0, m0)), (48, (.getfield 34, 51, 141, 0, 4, 0, 0, m0)), (51, (.if_icmp .ge 55, 54, 106, 0, 0, 0, 0, m0)), (54, (.aload_n 0, 55, 0, 0, 0, 0, 0, m0)), (55, (.iload 5, 57, 0, 5, 0, 0, 0, m0))]),
  (71, [(57, (.iload_n 2, 58, 0, 2, 0, 0, 0, m0)), (58, (.ifCond .eq 12, 61, 70, 0, 0, 0, 0, m0)), (61, (.aload_n 0, 62, 0, 0, 0, 0, 0, m0)), (62, (.bipush 30, 64, 0, 0, 0, 30, 0, m0)), (64, (.invokevirtual 83, 67, 617, 2, 4, 0, 0, mX4_drawOf)), (67, (.goto 11, 70, 78, 0, 0, 0, 0, m0)), (70, (.aload_n 0, 71, 0, 0, 0, 0, 0, m0)), (71, (.aload_n 0, 72, 0, 0, 0, 0, 0, m0))]),
  (89, [(72, (.getfield 41, 75, 157, 7, 4, 0, 0, m0)), (75, (.invokevirtual 87, 78, 625, 2, 4, 0, 0, mX4_harvestOf)), (78, (.invokevirtual 90, 81, 626, 3, 4, 0, 0, mX4_feedHouse)), (81, (.istore 6, 83, 0, 6, 0, 0, 0, m0)), (83, (.aload_n 0, 84, 0, 0, 0, 0, 0, m0)), (84, (.getfield 21, 87, 153, 4, 4, 0, 0, m0)), (87, (.iload 5, 89, 0, 5, 0, 0, 0, m0)), (89, (.dup2, 90, 0, 0, 0, 0, 0, m0))]),
  (99, [(90, (.iaload, 91, 0, 0, 0, 0, 0, m0)), (91, (.iload 6, 93, 0, 6, 0, 0, 0, m0)), (93, (.iadd, 94, 0, 0, 0, 0, 0, m0)), (94, (.iastore, 95, 0, 0, 0, 0, 0, m0)), (95, (.iload_n 3, 96, 0, 3, 0, 0, 0, m0)), (96, (.iload 6, 98, 0, 6, 0, 0, 0, m0)), (98, (.iadd, 99, 0, 0, 0, 0, 0, m0)), (99, (.istore_n 3, 100, 0, 3, 0, 0, 0, m0))]),
  (113, [(100, (.iinc 5 1, 103, 0, 5, 0, 1, 0, m0)), (103, (.goto (-58), 106, 45, 0, 0, 0, 0, m0)), (106, (.aload_n 0, 107, 0, 0, 0, 0, 0, m0)), (107, (.dup, 108, 0, 0, 0, 0, 0, m0)), (108, (.getfield 41, 111, 157, 7, 4, 0, 0, m0)), (111, (.iconst 1, 112, 0, 0, 0, 1, 0, m0)), (112, (.iadd, 113, 0, 0, 0, 0, 0, m0)), (113, (.putfield 41, 116, 157, 7, 4, 0, 0, m0))]),
  (129, [(116, (.iinc 4 1, 119, 0, 4, 0, 1, 0, m0)), (119, (.goto (-91), 122, 28, 0, 0, 0, 0, m0)), (122, (.aload_n 0, 123, 0, 0, 0, 0, 0, m0)), (123, (.aload_n 0, 124, 0, 0, 0, 0, 0, m0)), (124, (.getfield 44, 127, 160, 8, 4, 0, 0, m0)), (127, (.iload_n 3, 128, 0, 3, 0, 0, 0, m0)), (128, (.iadd, 129, 0, 0, 0, 0, 0, m0)), (129, (.ldc 94, 131, 641, 0, 0, 999999999, 0, m0))]),
  (138, [(131, (.invokestatic 95, 134, 636, 0, 96, 0, 0, m0)), (134, (.putfield 44, 137, 160, 8, 4, 0, 0, m0)), (137, (.iload_n 3, 138, 0, 3, 0, 0, 0, m0)), (138, (.ireturn, 139, 0, 0, 0, 0, 0, m0))])]
theorem kX4_passYears : chkC mX4_passYears oX4_passYears = true := by decide +kernel
theorem qX4_burstJars : OkM mX4_burstJars := ⟨Gd_in (i := 614) (by decide +kernel) (by decide +kernel), Gd_in (i := 66) (by decide +kernel) (by decide +kernel), ⟨fun _ => ⟨Gd_in (i := 613) (by decide +kernel) (by decide +kernel), Gd_in (i := 12) (by decide +kernel) (by decide +kernel)⟩, fun h => absurd h (by decide +kernel)⟩, by decide +kernel, ⟨by decide +kernel, by decide +kernel⟩, rfl, rfl⟩
def oX4_burstJars : Cd := [(13, [(0, (.iconst 0, 1, 0, 0, 0, 0, 0, m0)), (1, (.istore_n 1, 2, 0, 1, 0, 0, 0, m0)), (2, (.iload_n 1, 3, 0, 1, 0, 0, 0, m0)), (3, (.aload_n 0, 4, 0, 0, 0, 0, 0, m0)), (4, (.getfield 30, 7, 167, 11, 4, 0, 0, m0)), (7, (.getfield 47, 10, 102, 0, 1, 0, 0, m0)), (10, (.if_icmp .ge 91, 13, 101, 0, 0, 0, 0, m0)), (13, (.aload_n 0, 14, 0, 0, 0, 0, 0, m0))]),
  (31, [(14, (.getfield 30, 17, 167, 11, 4, 0, 0, m0)), (17, (.iload_n 1, 18, 0, 1, 0, 0, 0, m0)), (18, (.invokevirtual 100, 21, 615, 2, 1, 0, 0, mX1_isGone)), (21, (.ifCond .ne 44, 24, 65, 0, 0, 0, 0, m0)), (24, (.aload_n 0, 25, 0, 0, 0, 0, 0, m0)), (25, (.getfield 30, 28, 167, 11, 4, 0, 0, m0)), (28, (.getfield 104, 31, 107, 1, 1, 0, 0, m0)), (31, (.iload_n 1, 32, 0, 1, 0, 0, 0, m0))]),
  (43, [(32, (.iaload, 33, 0, 0, 0, 0, 0, m0)), (33, (.iconst 2, 34, 0, 0, 0, 2, 0, m0)), (34, (.if_icmp .eq 31, 37, 65, 0, 0, 0, 0, m0)), (37, (.aload_n 0, 38, 0, 0, 0, 0, 0, m0)), (38, (.getfield 30, 41, 167, 11, 4, 0, 0, m0)), (41, (.iload_n 1, 42, 0, 1, 0, 0, 0, m0)), (42, (.aload_n 0, 43, 0, 0, 0, 0, 0, m0)), (43, (.getfield 41, 46, 157, 7, 4, 0, 0, m0))]),
  (61, [(46, (.invokevirtual 107, 49, 616, 3, 1, 0, 0, mX1_ageOf)), (49, (.aload_n 0, 50, 0, 0, 0, 0, 0, m0)), (50, (.getfield 30, 53, 167, 11, 4, 0, 0, m0)), (53, (.getfield 110, 56, 118, 5, 1, 0, 0, m0)), (56, (.iload_n 1, 57, 0, 1, 0, 0, 0, m0)), (57, (.iaload, 58, 0, 0, 0, 0, 0, m0)), (58, (.if_icmp .le 7, 61, 65, 0, 0, 0, 0, m0)), (61, (.iconst 1, 62, 0, 0, 0, 1, 0, m0))]),
  (74, [(62, (.goto 4, 65, 66, 0, 0, 0, 0, m0)), (65, (.iconst 0, 66, 0, 0, 0, 0, 0, m0)), (66, (.istore_n 2, 67, 0, 2, 0, 0, 0, m0)), (67, (.iload_n 2, 68, 0, 2, 0, 0, 0, m0)), (68, (.ifCond .eq 27, 71, 95, 0, 0, 0, 0, m0)), (71, (.aload_n 0, 72, 0, 0, 0, 0, 0, m0)), (72, (.bipush 10, 74, 0, 0, 0, 10, 0, m0)), (74, (.invokevirtual 83, 77, 617, 2, 4, 0, 0, mX4_drawOf))]),
  (90, [(77, (.ifCond .ne 18, 80, 95, 0, 0, 0, 0, m0)), (80, (.aload_n 0, 81, 0, 0, 0, 0, 0, m0)), (81, (.getfield 30, 84, 167, 11, 4, 0, 0, m0)), (84, (.dup, 85, 0, 0, 0, 0, 0, m0)), (85, (.getfield 50, 88, 120, 7, 1, 0, 0, m0)), (88, (.iconst 1, 89, 0, 0, 0, 1, 0, m0)), (89, (.iload_n 1, 90, 0, 1, 0, 0, 0, m0)), (90, (.ishl, 91, 0, 0, 0, 0, 0, m0))]),
  (101, [(91, (.ior, 92, 0, 0, 0, 0, 0, m0)), (92, (.putfield 50, 95, 120, 7, 1, 0, 0, m0)), (95, (.iinc 1 1, 98, 0, 1, 0, 1, 0, m0)), (98, (.goto (-96), 101, 2, 0, 0, 0, 0, m0)), (101, (.return_, 102, 0, 0, 0, 0, 0, m0))])]
theorem kX4_burstJars : chkC mX4_burstJars oX4_burstJars = true := by decide +kernel
theorem qX4_feedHouse : OkM mX4_feedHouse := ⟨Gd_in (i := 629) (by decide +kernel) (by decide +kernel), Gd_in (i := 66) (by decide +kernel) (by decide +kernel), ⟨fun _ => ⟨Gd_in (i := 628) (by decide +kernel) (by decide +kernel), Gd_in (i := 13) (by decide +kernel) (by decide +kernel)⟩, fun h => absurd h (by decide +kernel)⟩, by decide +kernel, ⟨by decide +kernel, by decide +kernel⟩, rfl, rfl⟩
def oX4_feedHouse : Cd := [(9, [(0, (.iload_n 2, 1, 0, 2, 0, 0, 0, m0)), (1, (.aload_n 0, 2, 0, 0, 0, 0, 0, m0)), (2, (.getfield 18, 5, 150, 3, 4, 0, 0, m0)), (5, (.iload_n 1, 6, 0, 1, 0, 0, 0, m0)), (6, (.iaload, 7, 0, 0, 0, 0, 0, m0)), (7, (.iadd, 8, 0, 0, 0, 0, 0, m0)), (8, (.istore_n 3, 9, 0, 3, 0, 0, 0, m0)), (9, (.iload_n 3, 10, 0, 3, 0, 0, 0, m0))]),
  (23, [(10, (.aload_n 0, 11, 0, 0, 0, 0, 0, m0)), (11, (.getfield 9, 14, 145, 1, 4, 0, 0, m0)), (14, (.iload_n 1, 15, 0, 1, 0, 0, 0, m0)), (15, (.iaload, 16, 0, 0, 0, 0, 0, m0)), (16, (.if_icmp .ge 22, 19, 38, 0, 0, 0, 0, m0)), (19, (.aload_n 0, 20, 0, 0, 0, 0, 0, m0)), (20, (.getfield 30, 23, 167, 11, 4, 0, 0, m0)), (23, (.iload_n 1, 24, 0, 1, 0, 0, 0, m0))]),
  (39, [(24, (.aload_n 0, 25, 0, 0, 0, 0, 0, m0)), (25, (.getfield 59, 28, 163, 9, 4, 0, 0, m0)), (28, (.aload_n 0, 29, 0, 0, 0, 0, 0, m0)), (29, (.getfield 41, 32, 157, 7, 4, 0, 0, m0)), (32, (.invokevirtual 113, 35, 630, 4, 1, 0, 0, mX1_firstToOpen)), (35, (.goto 4, 38, 39, 0, 0, 0, 0, m0)), (38, (.iconst (-1), 39, 0, 0, 0, (-1), 0, m0)), (39, (.istore 4, 41, 0, 4, 0, 0, 0, m0))]),
  (54, [(41, (.iload 4, 43, 0, 4, 0, 0, 0, m0)), (43, (.iconst (-1), 44, 0, 0, 0, (-1), 0, m0)), (44, (.if_icmp .eq 7, 47, 51, 0, 0, 0, 0, m0)), (47, (.iconst 1, 48, 0, 0, 0, 1, 0, m0)), (48, (.goto 4, 51, 52, 0, 0, 0, 0, m0)), (51, (.iconst 0, 52, 0, 0, 0, 0, 0, m0)), (52, (.istore 5, 54, 0, 5, 0, 0, 0, m0)), (54, (.iconst 0, 55, 0, 0, 0, 0, 0, m0))]),
  (70, [(55, (.istore 6, 57, 0, 6, 0, 0, 0, m0)), (57, (.iload 6, 59, 0, 6, 0, 0, 0, m0)), (59, (.bipush 24, 61, 0, 0, 0, 24, 0, m0)), (61, (.if_icmp .ge 63, 64, 124, 0, 0, 0, 0, m0)), (64, (.iload 4, 66, 0, 4, 0, 0, 0, m0)), (66, (.iconst (-1), 67, 0, 0, 0, (-1), 0, m0)), (67, (.if_icmp .eq 57, 70, 124, 0, 0, 0, 0, m0)), (70, (.iload_n 3, 71, 0, 3, 0, 0, 0, m0))]),
  (85, [(71, (.aload_n 0, 72, 0, 0, 0, 0, 0, m0)), (72, (.getfield 30, 75, 167, 11, 4, 0, 0, m0)), (75, (.iload 4, 77, 0, 4, 0, 0, 0, m0)), (77, (.aload_n 0, 78, 0, 0, 0, 0, 0, m0)), (78, (.getfield 41, 81, 157, 7, 4, 0, 0, m0)), (81, (.invokevirtual 117, 84, 634, 3, 1, 0, 0, mX1_takeOut)), (84, (.iadd, 85, 0, 0, 0, 0, 0, m0)), (85, (.istore_n 3, 86, 0, 3, 0, 0, 0, m0))]),
  (97, [(86, (.iload_n 3, 87, 0, 3, 0, 0, 0, m0)), (87, (.aload_n 0, 88, 0, 0, 0, 0, 0, m0)), (88, (.getfield 9, 91, 145, 1, 4, 0, 0, m0)), (91, (.iload_n 1, 92, 0, 1, 0, 0, 0, m0)), (92, (.iaload, 93, 0, 0, 0, 0, 0, m0)), (93, (.if_icmp .ge 22, 96, 115, 0, 0, 0, 0, m0)), (96, (.aload_n 0, 97, 0, 0, 0, 0, 0, m0)), (97, (.getfield 30, 100, 167, 11, 4, 0, 0, m0))]),
  (115, [(100, (.iload_n 1, 101, 0, 1, 0, 0, 0, m0)), (101, (.aload_n 0, 102, 0, 0, 0, 0, 0, m0)), (102, (.getfield 59, 105, 163, 9, 4, 0, 0, m0)), (105, (.aload_n 0, 106, 0, 0, 0, 0, 0, m0)), (106, (.getfield 41, 109, 157, 7, 4, 0, 0, m0)), (109, (.invokevirtual 113, 112, 630, 4, 1, 0, 0, mX1_firstToOpen)), (112, (.goto 4, 115, 116, 0, 0, 0, 0, m0)), (115, (.iconst (-1), 116, 0, 0, 0, (-1), 0, m0))]),
  (130, [(116, (.istore 4, 118, 0, 4, 0, 0, 0, m0)), (118, (.iinc 6 1, 121, 0, 6, 0, 1, 0, m0)), (121, (.goto (-64), 124, 57, 0, 0, 0, 0, m0)), (124, (.aload_n 0, 125, 0, 0, 0, 0, 0, m0)), (125, (.getfield 18, 128, 150, 3, 4, 0, 0, m0)), (128, (.iload_n 1, 129, 0, 1, 0, 0, 0, m0)), (129, (.iconst 0, 130, 0, 0, 0, 0, 0, m0)), (130, (.iastore, 131, 0, 0, 0, 0, 0, m0))]),
  (143, [(131, (.iload 5, 133, 0, 5, 0, 0, 0, m0)), (133, (.ifCond .ne 70, 136, 203, 0, 0, 0, 0, m0)), (136, (.iload_n 3, 137, 0, 3, 0, 0, 0, m0)), (137, (.aload_n 0, 138, 0, 0, 0, 0, 0, m0)), (138, (.getfield 9, 141, 145, 1, 4, 0, 0, m0)), (141, (.iload_n 1, 142, 0, 1, 0, 0, 0, m0)), (142, (.iaload, 143, 0, 0, 0, 0, 0, m0)), (143, (.if_icmp .le 60, 146, 203, 0, 0, 0, 0, m0))]),
  (159, [(146, (.aload_n 0, 147, 0, 0, 0, 0, 0, m0)), (147, (.getfield 15, 150, 148, 2, 4, 0, 0, m0)), (150, (.iload_n 1, 151, 0, 1, 0, 0, 0, m0)), (151, (.iaload, 152, 0, 0, 0, 0, 0, m0)), (152, (.ifCond .le 51, 155, 203, 0, 0, 0, 0, m0)), (155, (.aload_n 0, 156, 0, 0, 0, 0, 0, m0)), (156, (.getfield 30, 159, 167, 11, 4, 0, 0, m0)), (159, (.invokevirtual 120, 162, 635, 1, 1, 0, 0, mX1_isFull))]),
  (175, [(162, (.ifCond .ne 41, 165, 203, 0, 0, 0, 0, m0)), (165, (.aload_n 0, 166, 0, 0, 0, 0, 0, m0)), (166, (.getfield 30, 169, 167, 11, 4, 0, 0, m0)), (169, (.iconst 0, 170, 0, 0, 0, 0, 0, m0)), (170, (.iload_n 1, 171, 0, 1, 0, 0, 0, m0)), (171, (.aload_n 0, 172, 0, 0, 0, 0, 0, m0)), (172, (.getfield 41, 175, 157, 7, 4, 0, 0, m0)), (175, (.aload_n 0, 176, 0, 0, 0, 0, 0, m0))]),
  (187, [(176, (.getfield 15, 179, 148, 2, 4, 0, 0, m0)), (179, (.iload_n 1, 180, 0, 1, 0, 0, 0, m0)), (180, (.iaload, 181, 0, 0, 0, 0, 0, m0)), (181, (.iadd, 182, 0, 0, 0, 0, 0, m0)), (182, (.iload_n 3, 183, 0, 3, 0, 0, 0, m0)), (183, (.aload_n 0, 184, 0, 0, 0, 0, 0, m0)), (184, (.getfield 9, 187, 145, 1, 4, 0, 0, m0)), (187, (.iload_n 1, 188, 0, 1, 0, 0, 0, m0))]),
  (200, [(188, (.iaload, 189, 0, 0, 0, 0, 0, m0)), (189, (.isub, 190, 0, 0, 0, 0, 0, m0)), (190, (.bipush 99, 192, 0, 0, 0, 99, 0, m0)), (192, (.invokestatic 95, 195, 636, 0, 96, 0, 0, m0)), (195, (.iconst 5, 196, 0, 0, 0, 5, 0, m0)), (196, (.aload_n 0, 197, 0, 0, 0, 0, 0, m0)), (197, (.getfield 41, 200, 157, 7, 4, 0, 0, m0)), (200, (.invokevirtual 124, 203, 637, 7, 1, 0, 0, mX1_add))]),
  (212, [(203, (.aload_n 0, 204, 0, 0, 0, 0, 0, m0)), (204, (.getfield 9, 207, 145, 1, 4, 0, 0, m0)), (207, (.iload_n 1, 208, 0, 1, 0, 0, 0, m0)), (208, (.iaload, 209, 0, 0, 0, 0, 0, m0)), (209, (.iload_n 3, 210, 0, 3, 0, 0, 0, m0)), (210, (.isub, 211, 0, 0, 0, 0, 0, m0)), (211, (.iconst 0, 212, 0, 0, 0, 0, 0, m0)), (212, (.invokestatic 128, 215, 638, 0, 95, 0, 0, m0))]),
  (215, [(215, (.ireturn, 216, 0, 0, 0, 0, 0, m0))])]
theorem kX4_feedHouse : chkC mX4_feedHouse oX4_feedHouse = true := by decide +kernel
theorem qX5_find : OkM mX5_find := ⟨Gd_in (i := 653) (by decide +kernel) (by decide +kernel), Gd_in (i := 69) (by decide +kernel) (by decide +kernel), ⟨fun _ => ⟨Gd_in (i := 651) (by decide +kernel) (by decide +kernel), Gd_in (i := 652) (by decide +kernel) (by decide +kernel)⟩, fun h => absurd h (by decide +kernel)⟩, by decide +kernel, ⟨by decide +kernel, by decide +kernel⟩, rfl, rfl⟩
def oX5_find : Cd := [(13, [(0, (.aload_n 1, 1, 0, 1, 0, 0, 0, m0)), (1, (.iload_n 2, 2, 0, 2, 0, 0, 0, m0)), (2, (.invokevirtual 26, 5, 654, 2, 4, 0, 0, mX4_hasHouse)), (5, (.ifCond .eq 14, 8, 19, 0, 0, 0, 0, m0)), (8, (.iload_n 3, 9, 0, 3, 0, 0, 0, m0)), (9, (.iconst 1, 10, 0, 0, 0, 1, 0, m0)), (10, (.if_icmp .lt 9, 13, 19, 0, 0, 0, 0, m0)), (13, (.iload_n 3, 14, 0, 3, 0, 0, 0, m0))]),
  (26, [(14, (.bipush 12, 16, 0, 0, 0, 12, 0, m0)), (16, (.if_icmp .le 4, 19, 20, 0, 0, 0, 0, m0)), (19, (.return_, 20, 0, 0, 0, 0, 0, m0)), (20, (.aload_n 0, 21, 0, 0, 0, 0, 0, m0)), (21, (.aload_n 1, 22, 0, 1, 0, 0, 0, m0)), (22, (.getfield 32, 25, 169, 11, 4, 0, 0, m0)), (25, (.iload_n 2, 26, 0, 2, 0, 0, 0, m0)), (26, (.aload_n 0, 27, 0, 0, 0, 0, 0, m0))]),
  (42, [(27, (.getfield 9, 30, 236, 0, 5, 0, 0, m0)), (30, (.invokevirtual 36, 33, 655, 3, 1, 0, 0, mX1_lookAt)), (33, (.putfield 42, 36, 237, 1, 5, 0, 0, m0)), (36, (.iconst 0, 37, 0, 0, 0, 0, 0, m0)), (37, (.istore 4, 39, 0, 4, 0, 0, 0, m0)), (39, (.iload 4, 41, 0, 4, 0, 0, 0, m0)), (41, (.iconst 1, 42, 0, 0, 0, 1, 0, m0)), (42, (.aload_n 0, 43, 0, 0, 0, 0, 0, m0))]),
  (56, [(43, (.getfield 42, 46, 237, 1, 5, 0, 0, m0)), (46, (.ishl, 47, 0, 0, 0, 0, 0, m0)), (47, (.if_icmp .ge 19, 50, 66, 0, 0, 0, 0, m0)), (50, (.aload_n 0, 51, 0, 0, 0, 0, 0, m0)), (51, (.getfield 17, 54, 238, 2, 5, 0, 0, m0)), (54, (.iload_n 3, 55, 0, 3, 0, 0, 0, m0)), (55, (.aaload, 56, 0, 0, 0, 0, 0, m0)), (56, (.iload 4, 58, 0, 4, 0, 0, 0, m0))]),
  (69, [(58, (.iconst 0, 59, 0, 0, 0, 0, 0, m0)), (59, (.iastore, 60, 0, 0, 0, 0, 0, m0)), (60, (.iinc 4 1, 63, 0, 4, 0, 1, 0, m0)), (63, (.goto (-24), 66, 39, 0, 0, 0, 0, m0)), (66, (.iload_n 3, 67, 0, 3, 0, 0, 0, m0)), (67, (.iconst 1, 68, 0, 0, 0, 1, 0, m0)), (68, (.isub, 69, 0, 0, 0, 0, 0, m0)), (69, (.istore 4, 71, 0, 4, 0, 0, 0, m0))]),
  (84, [(71, (.iload 4, 73, 0, 4, 0, 0, 0, m0)), (73, (.ifCond .lt 75, 76, 148, 0, 0, 0, 0, m0)), (76, (.aload_n 0, 77, 0, 0, 0, 0, 0, m0)), (77, (.aload_n 1, 78, 0, 1, 0, 0, 0, m0)), (78, (.iload_n 2, 79, 0, 2, 0, 0, 0, m0)), (79, (.iload 4, 81, 0, 4, 0, 0, 0, m0)), (81, (.invokevirtual 46, 84, 659, 4, 5, 0, 0, mX5_lookAtYear)), (84, (.iload 4, 86, 0, 4, 0, 0, 0, m0))]),
  (99, [(86, (.ifCond .ne 7, 89, 93, 0, 0, 0, 0, m0)), (89, (.iconst 1, 90, 0, 0, 0, 1, 0, m0)), (90, (.goto 9, 93, 99, 0, 0, 0, 0, m0)), (93, (.iconst 1, 94, 0, 0, 0, 1, 0, m0)), (94, (.aload_n 0, 95, 0, 0, 0, 0, 0, m0)), (95, (.getfield 42, 98, 237, 1, 5, 0, 0, m0)), (98, (.ishl, 99, 0, 0, 0, 0, 0, m0)), (99, (.istore 5, 101, 0, 5, 0, 0, 0, m0))]),
  (115, [(101, (.iconst 0, 102, 0, 0, 0, 0, 0, m0)), (102, (.istore 6, 104, 0, 6, 0, 0, 0, m0)), (104, (.iload 6, 106, 0, 6, 0, 0, 0, m0)), (106, (.iload 5, 108, 0, 5, 0, 0, 0, m0)), (108, (.if_icmp .ge 34, 111, 142, 0, 0, 0, 0, m0)), (111, (.aload_n 0, 112, 0, 0, 0, 0, 0, m0)), (112, (.getfield 17, 115, 238, 2, 5, 0, 0, m0)), (115, (.iload 4, 117, 0, 4, 0, 0, 0, m0))]),
  (128, [(117, (.aaload, 118, 0, 0, 0, 0, 0, m0)), (118, (.iload 6, 120, 0, 6, 0, 0, 0, m0)), (120, (.aload_n 0, 121, 0, 0, 0, 0, 0, m0)), (121, (.aload_n 0, 122, 0, 0, 0, 0, 0, m0)), (122, (.getfield 17, 125, 238, 2, 5, 0, 0, m0)), (125, (.iload 4, 127, 0, 4, 0, 0, 0, m0)), (127, (.iconst 1, 128, 0, 0, 0, 1, 0, m0)), (128, (.iadd, 129, 0, 0, 0, 0, 0, m0))]),
  (145, [(129, (.aaload, 130, 0, 0, 0, 0, 0, m0)), (130, (.iload 6, 132, 0, 6, 0, 0, 0, m0)), (132, (.invokevirtual 50, 135, 666, 3, 5, 0, 0, mX5_leastHunger)), (135, (.iastore, 136, 0, 0, 0, 0, 0, m0)), (136, (.iinc 6 1, 139, 0, 6, 0, 1, 0, m0)), (139, (.goto (-35), 142, 104, 0, 0, 0, 0, m0)), (142, (.iinc 4 (-1), 145, 0, 4, 0, (-1), 0, m0)), (145, (.goto (-74), 148, 71, 0, 0, 0, 0, m0))]),
  (157, [(148, (.aload_n 0, 149, 0, 0, 0, 0, 0, m0)), (149, (.aload_n 0, 150, 0, 0, 0, 0, 0, m0)), (150, (.getfield 17, 153, 238, 2, 5, 0, 0, m0)), (153, (.iconst 0, 154, 0, 0, 0, 0, 0, m0)), (154, (.aaload, 155, 0, 0, 0, 0, 0, m0)), (155, (.iconst 0, 156, 0, 0, 0, 0, 0, m0)), (156, (.iaload, 157, 0, 0, 0, 0, 0, m0)), (157, (.putfield 54, 160, 244, 7, 5, 0, 0, m0))]),
  (167, [(160, (.aload_n 0, 161, 0, 0, 0, 0, 0, m0)), (161, (.aload_n 1, 162, 0, 1, 0, 0, 0, m0)), (162, (.iload_n 2, 163, 0, 2, 0, 0, 0, m0)), (163, (.iload_n 3, 164, 0, 3, 0, 0, 0, m0)), (164, (.invokevirtual 57, 167, 674, 4, 5, 0, 0, mX5_chooseSets)), (167, (.return_, 168, 0, 0, 0, 0, 0, m0))])]
theorem kX5_find : chkC mX5_find oX5_find = true := by decide +kernel
theorem qX5_chooseSets : OkM mX5_chooseSets := ⟨Gd_in (i := 677) (by decide +kernel) (by decide +kernel), Gd_in (i := 69) (by decide +kernel) (by decide +kernel), ⟨fun _ => ⟨Gd_in (i := 676) (by decide +kernel) (by decide +kernel), Gd_in (i := 17) (by decide +kernel) (by decide +kernel)⟩, fun h => absurd h (by decide +kernel)⟩, by decide +kernel, ⟨by decide +kernel, by decide +kernel⟩, rfl, rfl⟩
def oX5_chooseSets : Cd := [(12, [(0, (.iconst 0, 1, 0, 0, 0, 0, 0, m0)), (1, (.istore 4, 3, 0, 4, 0, 0, 0, m0)), (3, (.iconst 0, 4, 0, 0, 0, 0, 0, m0)), (4, (.istore 5, 6, 0, 5, 0, 0, 0, m0)), (6, (.iload 5, 8, 0, 5, 0, 0, 0, m0)), (8, (.iload_n 3, 9, 0, 3, 0, 0, 0, m0)), (9, (.if_icmp .ge 64, 12, 73, 0, 0, 0, 0, m0)), (12, (.aload_n 0, 13, 0, 0, 0, 0, 0, m0))]),
  (25, [(13, (.aload_n 1, 14, 0, 1, 0, 0, 0, m0)), (14, (.iload_n 2, 15, 0, 2, 0, 0, 0, m0)), (15, (.iload 5, 17, 0, 5, 0, 0, 0, m0)), (17, (.invokevirtual 46, 20, 659, 4, 5, 0, 0, mX5_lookAtYear)), (20, (.aload_n 0, 21, 0, 0, 0, 0, 0, m0)), (21, (.aload_n 0, 22, 0, 0, 0, 0, 0, m0)), (22, (.getfield 17, 25, 238, 2, 5, 0, 0, m0)), (25, (.iload 5, 27, 0, 5, 0, 0, 0, m0))]),
  (38, [(27, (.iconst 1, 28, 0, 0, 0, 1, 0, m0)), (28, (.iadd, 29, 0, 0, 0, 0, 0, m0)), (29, (.aaload, 30, 0, 0, 0, 0, 0, m0)), (30, (.iload 4, 32, 0, 4, 0, 0, 0, m0)), (32, (.aload_n 0, 33, 0, 0, 0, 0, 0, m0)), (33, (.getfield 17, 36, 238, 2, 5, 0, 0, m0)), (36, (.iload 5, 38, 0, 5, 0, 0, 0, m0)), (38, (.aaload, 39, 0, 0, 0, 0, 0, m0))]),
  (53, [(39, (.iload 4, 41, 0, 4, 0, 0, 0, m0)), (41, (.iaload, 42, 0, 0, 0, 0, 0, m0)), (42, (.invokevirtual 60, 45, 678, 4, 5, 0, 0, mX5_firstOf)), (45, (.istore 6, 47, 0, 6, 0, 0, 0, m0)), (47, (.aload_n 0, 48, 0, 0, 0, 0, 0, m0)), (48, (.getfield 23, 51, 242, 6, 5, 0, 0, m0)), (51, (.iload 5, 53, 0, 5, 0, 0, 0, m0)), (53, (.aload_n 0, 54, 0, 0, 0, 0, 0, m0))]),
  (67, [(54, (.iload 6, 56, 0, 6, 0, 0, 0, m0)), (56, (.invokevirtual 64, 59, 682, 2, 5, 0, 0, mX5_jarsOf)), (59, (.iastore, 60, 0, 0, 0, 0, 0, m0)), (60, (.iload 4, 62, 0, 4, 0, 0, 0, m0)), (62, (.iload 6, 64, 0, 6, 0, 0, 0, m0)), (64, (.ior, 65, 0, 0, 0, 0, 0, m0)), (65, (.istore 4, 67, 0, 4, 0, 0, 0, m0)), (67, (.iinc 5 1, 70, 0, 5, 0, 1, 0, m0))]),
  (73, [(70, (.goto (-64), 73, 6, 0, 0, 0, 0, m0)), (73, (.return_, 74, 0, 0, 0, 0, 0, m0))])]
theorem kX5_chooseSets : chkC mX5_chooseSets oX5_chooseSets = true := by decide +kernel
theorem qX5_lookAtYear : OkM mX5_lookAtYear := ⟨Gd_in (i := 662) (by decide +kernel) (by decide +kernel), Gd_in (i := 69) (by decide +kernel) (by decide +kernel), ⟨fun _ => ⟨Gd_in (i := 661) (by decide +kernel) (by decide +kernel), Gd_in (i := 14) (by decide +kernel) (by decide +kernel)⟩, fun h => absurd h (by decide +kernel)⟩, by decide +kernel, ⟨by decide +kernel, by decide +kernel⟩, rfl, rfl⟩
def oX5_lookAtYear : Cd := [(10, [(0, (.aload_n 1, 1, 0, 1, 0, 0, 0, m0)), (1, (.getfield 68, 4, 158, 7, 4, 0, 0, m0)), (4, (.iload_n 3, 5, 0, 3, 0, 0, 0, m0)), (5, (.iadd, 6, 0, 0, 0, 0, 0, m0)), (6, (.istore 4, 8, 0, 4, 0, 0, 0, m0)), (8, (.aload_n 0, 9, 0, 0, 0, 0, 0, m0)), (9, (.aload_n 1, 10, 0, 1, 0, 0, 0, m0)), (10, (.getfield 71, 13, 146, 1, 4, 0, 0, m0))]),
  (23, [(13, (.iload_n 2, 14, 0, 2, 0, 0, 0, m0)), (14, (.iaload, 15, 0, 0, 0, 0, 0, m0)), (15, (.aload_n 1, 16, 0, 1, 0, 0, 0, m0)), (16, (.iload 4, 18, 0, 4, 0, 0, 0, m0)), (18, (.invokevirtual 74, 21, 663, 2, 4, 0, 0, mX4_harvestOf)), (21, (.isub, 22, 0, 0, 0, 0, 0, m0)), (22, (.iload_n 3, 23, 0, 3, 0, 0, 0, m0)), (23, (.ifCond .ne 12, 26, 35, 0, 0, 0, 0, m0))]),
  (37, [(26, (.aload_n 1, 27, 0, 1, 0, 0, 0, m0)), (27, (.getfield 77, 30, 151, 3, 4, 0, 0, m0)), (30, (.iload_n 2, 31, 0, 2, 0, 0, 0, m0)), (31, (.iaload, 32, 0, 0, 0, 0, 0, m0)), (32, (.goto 4, 35, 36, 0, 0, 0, 0, m0)), (35, (.iconst 0, 36, 0, 0, 0, 0, 0, m0)), (36, (.isub, 37, 0, 0, 0, 0, 0, m0)), (37, (.putfield 80, 40, 241, 5, 5, 0, 0, m0))]),
  (51, [(40, (.aload_n 0, 41, 0, 0, 0, 0, 0, m0)), (41, (.iconst 0, 42, 0, 0, 0, 0, 0, m0)), (42, (.putfield 83, 45, 240, 4, 5, 0, 0, m0)), (45, (.aload_n 0, 46, 0, 0, 0, 0, 0, m0)), (46, (.getfield 20, 49, 239, 3, 5, 0, 0, m0)), (49, (.iconst 0, 50, 0, 0, 0, 0, 0, m0)), (50, (.iconst 0, 51, 0, 0, 0, 0, 0, m0)), (51, (.iastore, 52, 0, 0, 0, 0, 0, m0))]),
  (65, [(52, (.iconst 0, 53, 0, 0, 0, 0, 0, m0)), (53, (.istore 5, 55, 0, 5, 0, 0, 0, m0)), (55, (.iload 5, 57, 0, 5, 0, 0, 0, m0)), (57, (.aload_n 0, 58, 0, 0, 0, 0, 0, m0)), (58, (.getfield 42, 61, 237, 1, 5, 0, 0, m0)), (61, (.if_icmp .ge 103, 64, 164, 0, 0, 0, 0, m0)), (64, (.iconst 1, 65, 0, 0, 0, 1, 0, m0)), (65, (.iload 5, 67, 0, 5, 0, 0, 0, m0))]),
  (80, [(67, (.ishl, 68, 0, 0, 0, 0, 0, m0)), (68, (.istore 6, 70, 0, 6, 0, 0, 0, m0)), (70, (.aload_n 1, 71, 0, 1, 0, 0, 0, m0)), (71, (.getfield 32, 74, 169, 11, 4, 0, 0, m0)), (74, (.aload_n 0, 75, 0, 0, 0, 0, 0, m0)), (75, (.getfield 9, 78, 236, 0, 5, 0, 0, m0)), (78, (.iload 5, 80, 0, 5, 0, 0, 0, m0)), (80, (.iaload, 81, 0, 0, 0, 0, 0, m0))]),
  (95, [(81, (.iload 4, 83, 0, 4, 0, 0, 0, m0)), (83, (.invokevirtual 86, 86, 664, 3, 1, 0, 0, mX1_filledIn)), (86, (.istore 7, 88, 0, 7, 0, 0, 0, m0)), (88, (.iconst 0, 89, 0, 0, 0, 0, 0, m0)), (89, (.istore 8, 91, 0, 8, 0, 0, 0, m0)), (91, (.iload 8, 93, 0, 8, 0, 0, 0, m0)), (93, (.iload 6, 95, 0, 6, 0, 0, 0, m0)), (95, (.if_icmp .ge 29, 98, 124, 0, 0, 0, 0, m0))]),
  (111, [(98, (.aload_n 0, 99, 0, 0, 0, 0, 0, m0)), (99, (.getfield 20, 102, 239, 3, 5, 0, 0, m0)), (102, (.iload 8, 104, 0, 8, 0, 0, 0, m0)), (104, (.iload 6, 106, 0, 6, 0, 0, 0, m0)), (106, (.ior, 107, 0, 0, 0, 0, 0, m0)), (107, (.aload_n 0, 108, 0, 0, 0, 0, 0, m0)), (108, (.getfield 20, 111, 239, 3, 5, 0, 0, m0)), (111, (.iload 8, 113, 0, 8, 0, 0, 0, m0))]),
  (125, [(113, (.iaload, 114, 0, 0, 0, 0, 0, m0)), (114, (.iload 7, 116, 0, 7, 0, 0, 0, m0)), (116, (.iadd, 117, 0, 0, 0, 0, 0, m0)), (117, (.iastore, 118, 0, 0, 0, 0, 0, m0)), (118, (.iinc 8 1, 121, 0, 8, 0, 1, 0, m0)), (121, (.goto (-30), 124, 91, 0, 0, 0, 0, m0)), (124, (.aload_n 1, 125, 0, 1, 0, 0, 0, m0)), (125, (.getfield 32, 128, 169, 11, 4, 0, 0, m0))]),
  (141, [(128, (.aload_n 0, 129, 0, 0, 0, 0, 0, m0)), (129, (.getfield 9, 132, 236, 0, 5, 0, 0, m0)), (132, (.iload 5, 134, 0, 5, 0, 0, 0, m0)), (134, (.iaload, 135, 0, 0, 0, 0, 0, m0)), (135, (.aload_n 1, 136, 0, 1, 0, 0, 0, m0)), (136, (.getfield 90, 139, 164, 9, 4, 0, 0, m0)), (139, (.iload 4, 141, 0, 4, 0, 0, 0, m0)), (141, (.invokevirtual 93, 144, 665, 4, 1, 0, 0, mX1_mayBeOpened))]),
  (158, [(144, (.ifCond .eq 14, 147, 158, 0, 0, 0, 0, m0)), (147, (.aload_n 0, 148, 0, 0, 0, 0, 0, m0)), (148, (.dup, 149, 0, 0, 0, 0, 0, m0)), (149, (.getfield 83, 152, 240, 4, 5, 0, 0, m0)), (152, (.iload 6, 154, 0, 6, 0, 0, 0, m0)), (154, (.ior, 155, 0, 0, 0, 0, 0, m0)), (155, (.putfield 83, 158, 240, 4, 5, 0, 0, m0)), (158, (.iinc 5 1, 161, 0, 5, 0, 1, 0, m0))]),
  (164, [(161, (.goto (-106), 164, 55, 0, 0, 0, 0, m0)), (164, (.return_, 165, 0, 0, 0, 0, 0, m0))])]
theorem kX5_lookAtYear : chkC mX5_lookAtYear oX5_lookAtYear = true := by decide +kernel
theorem qX5_hungerWith : OkM mX5_hungerWith := ⟨Gd_in (i := 673) (by decide +kernel) (by decide +kernel), Gd_in (i := 69) (by decide +kernel) (by decide +kernel), ⟨fun _ => ⟨Gd_in (i := 672) (by decide +kernel) (by decide +kernel), Gd_in (i := 16) (by decide +kernel) (by decide +kernel)⟩, fun h => absurd h (by decide +kernel)⟩, by decide +kernel, ⟨by decide +kernel, by decide +kernel⟩, rfl, rfl⟩
def oX5_hungerWith : Cd := [(11, [(0, (.aload_n 0, 1, 0, 0, 0, 0, 0, m0)), (1, (.getfield 80, 4, 241, 5, 5, 0, 0, m0)), (4, (.aload_n 0, 5, 0, 0, 0, 0, 0, m0)), (5, (.getfield 20, 8, 239, 3, 5, 0, 0, m0)), (8, (.iload_n 1, 9, 0, 1, 0, 0, 0, m0)), (9, (.iaload, 10, 0, 0, 0, 0, 0, m0)), (10, (.isub, 11, 0, 0, 0, 0, 0, m0)), (11, (.istore 4, 13, 0, 4, 0, 0, 0, m0))]),
  (26, [(13, (.iload 4, 15, 0, 4, 0, 0, 0, m0)), (15, (.ifCond .le 8, 18, 23, 0, 0, 0, 0, m0)), (18, (.iload 4, 20, 0, 4, 0, 0, 0, m0)), (20, (.goto 4, 23, 24, 0, 0, 0, 0, m0)), (23, (.iconst 0, 24, 0, 0, 0, 0, 0, m0)), (24, (.aload_n 2, 25, 0, 2, 0, 0, 0, m0)), (25, (.iload_n 3, 26, 0, 3, 0, 0, 0, m0)), (26, (.iload_n 1, 27, 0, 1, 0, 0, 0, m0))]),
  (30, [(27, (.ior, 28, 0, 0, 0, 0, 0, m0)), (28, (.iaload, 29, 0, 0, 0, 0, 0, m0)), (29, (.iadd, 30, 0, 0, 0, 0, 0, m0)), (30, (.ireturn, 31, 0, 0, 0, 0, 0, m0))])]
theorem kX5_hungerWith : chkC mX5_hungerWith oX5_hungerWith = true := by decide +kernel
theorem qX5_leastHunger : OkM mX5_leastHunger := ⟨Gd_in (i := 669) (by decide +kernel) (by decide +kernel), Gd_in (i := 69) (by decide +kernel) (by decide +kernel), ⟨fun _ => ⟨Gd_in (i := 668) (by decide +kernel) (by decide +kernel), Gd_in (i := 15) (by decide +kernel) (by decide +kernel)⟩, fun h => absurd h (by decide +kernel)⟩, by decide +kernel, ⟨by decide +kernel, by decide +kernel⟩, rfl, rfl⟩
def oX5_leastHunger : Cd := [(9, [(0, (.aload_n 0, 1, 0, 0, 0, 0, 0, m0)), (1, (.getfield 83, 4, 240, 4, 5, 0, 0, m0)), (4, (.iload_n 2, 5, 0, 2, 0, 0, 0, m0)), (5, (.iconst (-1), 6, 0, 0, 0, (-1), 0, m0)), (6, (.ixor, 7, 0, 0, 0, 0, 0, m0)), (7, (.iand, 8, 0, 0, 0, 0, 0, m0)), (8, (.istore_n 3, 9, 0, 3, 0, 0, 0, m0)), (9, (.aload_n 0, 10, 0, 0, 0, 0, 0, m0))]),
  (22, [(10, (.iconst 0, 11, 0, 0, 0, 0, 0, m0)), (11, (.aload_n 1, 12, 0, 1, 0, 0, 0, m0)), (12, (.iload_n 2, 13, 0, 2, 0, 0, 0, m0)), (13, (.invokevirtual 97, 16, 670, 4, 5, 0, 0, mX5_hungerWith)), (16, (.istore 4, 18, 0, 4, 0, 0, 0, m0)), (18, (.aload_n 0, 19, 0, 0, 0, 0, 0, m0)), (19, (.getfield 80, 22, 241, 5, 5, 0, 0, m0)), (22, (.ifCond .le 7, 25, 29, 0, 0, 0, 0, m0))]),
  (38, [(25, (.iload_n 3, 26, 0, 3, 0, 0, 0, m0)), (26, (.goto 4, 29, 30, 0, 0, 0, 0, m0)), (29, (.iconst 0, 30, 0, 0, 0, 0, 0, m0)), (30, (.istore 5, 32, 0, 5, 0, 0, 0, m0)), (32, (.iload 5, 34, 0, 5, 0, 0, 0, m0)), (34, (.ifCond .le 35, 37, 69, 0, 0, 0, 0, m0)), (37, (.aload_n 0, 38, 0, 0, 0, 0, 0, m0)), (38, (.iload 5, 40, 0, 5, 0, 0, 0, m0))]),
  (54, [(40, (.aload_n 1, 41, 0, 1, 0, 0, 0, m0)), (41, (.iload_n 2, 42, 0, 2, 0, 0, 0, m0)), (42, (.invokevirtual 97, 45, 670, 4, 5, 0, 0, mX5_hungerWith)), (45, (.istore 6, 47, 0, 6, 0, 0, 0, m0)), (47, (.iload 6, 49, 0, 6, 0, 0, 0, m0)), (49, (.iload 4, 51, 0, 4, 0, 0, 0, m0)), (51, (.if_icmp .ge 7, 54, 58, 0, 0, 0, 0, m0)), (54, (.iload 6, 56, 0, 6, 0, 0, 0, m0))]),
  (66, [(56, (.istore 4, 58, 0, 4, 0, 0, 0, m0)), (58, (.iload 5, 60, 0, 5, 0, 0, 0, m0)), (60, (.iconst 1, 61, 0, 0, 0, 1, 0, m0)), (61, (.isub, 62, 0, 0, 0, 0, 0, m0)), (62, (.iload_n 3, 63, 0, 3, 0, 0, 0, m0)), (63, (.iand, 64, 0, 0, 0, 0, 0, m0)), (64, (.istore 5, 66, 0, 5, 0, 0, 0, m0)), (66, (.goto (-34), 69, 32, 0, 0, 0, 0, m0))]),
  (71, [(69, (.iload 4, 71, 0, 4, 0, 0, 0, m0)), (71, (.ireturn, 72, 0, 0, 0, 0, 0, m0))])]
theorem kX5_leastHunger : chkC mX5_leastHunger oX5_leastHunger = true := by decide +kernel
theorem qX5_firstOf : OkM mX5_firstOf := ⟨Gd_in (i := 681) (by decide +kernel) (by decide +kernel), Gd_in (i := 69) (by decide +kernel) (by decide +kernel), ⟨fun _ => ⟨Gd_in (i := 680) (by decide +kernel) (by decide +kernel), Gd_in (i := 18) (by decide +kernel) (by decide +kernel)⟩, fun h => absurd h (by decide +kernel)⟩, by decide +kernel, ⟨by decide +kernel, by decide +kernel⟩, rfl, rfl⟩
def oX5_firstOf : Cd := [(10, [(0, (.aload_n 0, 1, 0, 0, 0, 0, 0, m0)), (1, (.getfield 83, 4, 240, 4, 5, 0, 0, m0)), (4, (.iload_n 2, 5, 0, 2, 0, 0, 0, m0)), (5, (.iconst (-1), 6, 0, 0, 0, (-1), 0, m0)), (6, (.ixor, 7, 0, 0, 0, 0, 0, m0)), (7, (.iand, 8, 0, 0, 0, 0, 0, m0)), (8, (.istore 4, 10, 0, 4, 0, 0, 0, m0)), (10, (.iconst 0, 11, 0, 0, 0, 0, 0, m0))]),
  (25, [(11, (.istore 5, 13, 0, 5, 0, 0, 0, m0)), (13, (.iload 5, 15, 0, 5, 0, 0, 0, m0)), (15, (.iload 4, 17, 0, 4, 0, 0, 0, m0)), (17, (.if_icmp .gt 34, 20, 51, 0, 0, 0, 0, m0)), (20, (.iload 5, 22, 0, 5, 0, 0, 0, m0)), (22, (.iload 4, 24, 0, 4, 0, 0, 0, m0)), (24, (.iconst (-1), 25, 0, 0, 0, (-1), 0, m0)), (25, (.ixor, 26, 0, 0, 0, 0, 0, m0))]),
  (38, [(26, (.iand, 27, 0, 0, 0, 0, 0, m0)), (27, (.ifCond .ne 18, 30, 45, 0, 0, 0, 0, m0)), (30, (.aload_n 0, 31, 0, 0, 0, 0, 0, m0)), (31, (.iload 5, 33, 0, 5, 0, 0, 0, m0)), (33, (.aload_n 1, 34, 0, 1, 0, 0, 0, m0)), (34, (.iload_n 2, 35, 0, 2, 0, 0, 0, m0)), (35, (.invokevirtual 97, 38, 670, 4, 5, 0, 0, mX5_hungerWith)), (38, (.iload_n 3, 39, 0, 3, 0, 0, 0, m0))]),
  (52, [(39, (.if_icmp .ne 6, 42, 45, 0, 0, 0, 0, m0)), (42, (.iload 5, 44, 0, 5, 0, 0, 0, m0)), (44, (.ireturn, 45, 0, 0, 0, 0, 0, m0)), (45, (.iinc 5 1, 48, 0, 5, 0, 1, 0, m0)), (48, (.goto (-35), 51, 13, 0, 0, 0, 0, m0)), (51, (.iconst 0, 52, 0, 0, 0, 0, 0, m0)), (52, (.ireturn, 53, 0, 0, 0, 0, 0, m0))])]
theorem kX5_firstOf : chkC mX5_firstOf oX5_firstOf = true := by decide +kernel
theorem qX5_jarsOf : OkM mX5_jarsOf := ⟨Gd_in (i := 685) (by decide +kernel) (by decide +kernel), Gd_in (i := 69) (by decide +kernel) (by decide +kernel), ⟨fun _ => ⟨Gd_in (i := 684) (by decide +kernel) (by decide +kernel), Gd_in (i := 19) (by decide +kernel) (by decide +kernel)⟩, fun h => absurd h (by decide +kernel)⟩, by decide +kernel, ⟨by decide +kernel, by decide +kernel⟩, rfl, rfl⟩
def oX5_jarsOf : Cd := [(9, [(0, (.iconst 0, 1, 0, 0, 0, 0, 0, m0)), (1, (.istore_n 2, 2, 0, 2, 0, 0, 0, m0)), (2, (.iconst 0, 3, 0, 0, 0, 0, 0, m0)), (3, (.istore_n 3, 4, 0, 3, 0, 0, 0, m0)), (4, (.iload_n 3, 5, 0, 3, 0, 0, 0, m0)), (5, (.aload_n 0, 6, 0, 0, 0, 0, 0, m0)), (6, (.getfield 42, 9, 237, 1, 5, 0, 0, m0)), (9, (.if_icmp .ge 29, 12, 38, 0, 0, 0, 0, m0))]),
  (21, [(12, (.iload_n 1, 13, 0, 1, 0, 0, 0, m0)), (13, (.iload_n 3, 14, 0, 3, 0, 0, 0, m0)), (14, (.ishr, 15, 0, 0, 0, 0, 0, m0)), (15, (.iconst 1, 16, 0, 0, 0, 1, 0, m0)), (16, (.iand, 17, 0, 0, 0, 0, 0, m0)), (17, (.iconst 1, 18, 0, 0, 0, 1, 0, m0)), (18, (.if_icmp .ne 14, 21, 32, 0, 0, 0, 0, m0)), (21, (.iload_n 2, 22, 0, 2, 0, 0, 0, m0))]),
  (31, [(22, (.iconst 1, 23, 0, 0, 0, 1, 0, m0)), (23, (.aload_n 0, 24, 0, 0, 0, 0, 0, m0)), (24, (.getfield 9, 27, 236, 0, 5, 0, 0, m0)), (27, (.iload_n 3, 28, 0, 3, 0, 0, 0, m0)), (28, (.iaload, 29, 0, 0, 0, 0, 0, m0)), (29, (.ishl, 30, 0, 0, 0, 0, 0, m0)), (30, (.ior, 31, 0, 0, 0, 0, 0, m0)), (31, (.istore_n 2, 32, 0, 2, 0, 0, 0, m0))]),
  (39, [(32, (.iinc 3 1, 35, 0, 3, 0, 1, 0, m0)), (35, (.goto (-31), 38, 4, 0, 0, 0, 0, m0)), (38, (.iload_n 2, 39, 0, 2, 0, 0, 0, m0)), (39, (.ireturn, 40, 0, 0, 0, 0, 0, m0))])]
theorem kX5_jarsOf : chkC mX5_jarsOf oX5_jarsOf = true := by decide +kernel
theorem qX6_addBytes : OkM mX6_addBytes := ⟨Gd_in (i := 371) (by decide +kernel) (by decide +kernel), Gd_in (i := 68) (by decide +kernel) (by decide +kernel), ⟨fun _ => ⟨Gd_in (i := 369) (by decide +kernel) (by decide +kernel), Gd_in (i := 370) (by decide +kernel) (by decide +kernel)⟩, fun h => absurd h (by decide +kernel)⟩, by decide +kernel, ⟨by decide +kernel, by decide +kernel⟩, rfl, rfl⟩
def oX6_addBytes : Cd := [(14, [(0, (.aload_n 0, 1, 0, 0, 0, 0, 0, m0)), (1, (.getfield 19, 4, 205, 1, 6, 0, 0, m0)), (4, (.iload_n 1, 5, 0, 1, 0, 0, 0, m0)), (5, (.iadd, 6, 0, 0, 0, 0, 0, m0)), (6, (.sipush 400, 9, 0, 0, 0, 400, 0, m0)), (9, (.if_icmp .le 6, 12, 15, 0, 0, 0, 0, m0)), (12, (.ldc 22, 14, 372, 0, 0, (-1000000004), 0, m0)), (14, (.ireturn, 15, 0, 0, 0, 0, 0, m0))]),
  (26, [(15, (.iload_n 1, 16, 0, 1, 0, 0, 0, m0)), (16, (.iconst 1, 17, 0, 0, 0, 1, 0, m0)), (17, (.isub, 18, 0, 0, 0, 0, 0, m0)), (18, (.istore 4, 20, 0, 4, 0, 0, 0, m0)), (20, (.iload 4, 22, 0, 4, 0, 0, 0, m0)), (22, (.ifCond .lt 37, 25, 59, 0, 0, 0, 0, m0)), (25, (.aload_n 0, 26, 0, 0, 0, 0, 0, m0)), (26, (.getfield 9, 29, 204, 0, 6, 0, 0, m0))]),
  (40, [(29, (.aload_n 0, 30, 0, 0, 0, 0, 0, m0)), (30, (.getfield 19, 33, 205, 1, 6, 0, 0, m0)), (33, (.lload_n 2, 34, 0, 2, 0, 0, 0, m0)), (34, (.bipush 8, 36, 0, 0, 0, 8, 0, m0)), (36, (.iload 4, 38, 0, 4, 0, 0, 0, m0)), (38, (.imul, 39, 0, 0, 0, 0, 0, m0)), (39, (.lushr, 40, 0, 0, 0, 0, 0, m0)), (40, (.l2i, 41, 0, 0, 0, 0, 0, m0))]),
  (50, [(41, (.i2b, 42, 0, 0, 0, 0, 0, m0)), (42, (.bastore, 43, 0, 0, 0, 0, 0, m0)), (43, (.aload_n 0, 44, 0, 0, 0, 0, 0, m0)), (44, (.dup, 45, 0, 0, 0, 0, 0, m0)), (45, (.getfield 19, 48, 205, 1, 6, 0, 0, m0)), (48, (.iconst 1, 49, 0, 0, 0, 1, 0, m0)), (49, (.iadd, 50, 0, 0, 0, 0, 0, m0)), (50, (.putfield 19, 53, 205, 1, 6, 0, 0, m0))]),
  (63, [(53, (.iinc 4 (-1), 56, 0, 4, 0, (-1), 0, m0)), (56, (.goto (-36), 59, 20, 0, 0, 0, 0, m0)), (59, (.aload_n 0, 60, 0, 0, 0, 0, 0, m0)), (60, (.getfield 19, 63, 205, 1, 6, 0, 0, m0)), (63, (.ireturn, 64, 0, 0, 0, 0, 0, m0))])]
theorem kX6_addBytes : chkC mX6_addBytes oX6_addBytes = true := by decide +kernel
theorem qX6_readText : OkM mX6_readText := ⟨Gd_in (i := 380) (by decide +kernel) (by decide +kernel), Gd_in (i := 68) (by decide +kernel) (by decide +kernel), ⟨fun _ => ⟨Gd_in (i := 378) (by decide +kernel) (by decide +kernel), Gd_in (i := 379) (by decide +kernel) (by decide +kernel)⟩, fun h => absurd h (by decide +kernel)⟩, by decide +kernel, ⟨by decide +kernel, by decide +kernel⟩, rfl, rfl⟩
def oX6_readText : Cd := [(11, [(0, (.aload_n 1, 1, 0, 1, 0, 0, 0, m0)), (1, (.invokevirtual 23, 4, 381, 1, 4, 0, 0, mX4_clear)), (4, (.aload_n 0, 5, 0, 0, 0, 0, 0, m0)), (5, (.iconst 0, 6, 0, 0, 0, 0, 0, m0)), (6, (.putfield 28, 9, 207, 2, 6, 0, 0, m0)), (9, (.aload_n 0, 10, 0, 0, 0, 0, 0, m0)), (10, (.iconst 0, 11, 0, 0, 0, 0, 0, m0)), (11, (.putfield 31, 14, 208, 3, 6, 0, 0, m0))]),
  (25, [(14, (.aload_n 0, 15, 0, 0, 0, 0, 0, m0)), (15, (.iconst (-1), 16, 0, 0, 0, (-1), 0, m0)), (16, (.putfield 15, 19, 210, 4, 6, 0, 0, m0)), (19, (.aload_n 0, 20, 0, 0, 0, 0, 0, m0)), (20, (.iconst 0, 21, 0, 0, 0, 0, 0, m0)), (21, (.putfield 34, 24, 212, 5, 6, 0, 0, m0)), (24, (.aload_n 0, 25, 0, 0, 0, 0, 0, m0)), (25, (.invokevirtual 38, 28, 385, 1, 6, 0, 0, mX6_skipBlanks))]),
  (41, [(28, (.iconst 0, 29, 0, 0, 0, 0, 0, m0)), (29, (.istore_n 2, 30, 0, 2, 0, 0, 0, m0)), (30, (.iload_n 2, 31, 0, 2, 0, 0, 0, m0)), (31, (.sipush 400, 34, 0, 0, 0, 400, 0, m0)), (34, (.if_icmp .ge 36, 37, 70, 0, 0, 0, 0, m0)), (37, (.aload_n 0, 38, 0, 0, 0, 0, 0, m0)), (38, (.getfield 28, 41, 207, 2, 6, 0, 0, m0)), (41, (.aload_n 0, 42, 0, 0, 0, 0, 0, m0))]),
  (57, [(42, (.getfield 19, 45, 205, 1, 6, 0, 0, m0)), (45, (.if_icmp .ge 25, 48, 70, 0, 0, 0, 0, m0)), (48, (.aload_n 0, 49, 0, 0, 0, 0, 0, m0)), (49, (.getfield 31, 52, 208, 3, 6, 0, 0, m0)), (52, (.ifCond .ne 18, 55, 70, 0, 0, 0, 0, m0)), (55, (.aload_n 0, 56, 0, 0, 0, 0, 0, m0)), (56, (.aload_n 1, 57, 0, 1, 0, 0, 0, m0)), (57, (.invokevirtual 41, 60, 389, 2, 6, 0, 0, mX6_readClause))]),
  (75, [(60, (.aload_n 0, 61, 0, 0, 0, 0, 0, m0)), (61, (.invokevirtual 38, 64, 385, 1, 6, 0, 0, mX6_skipBlanks)), (64, (.iinc 2 1, 67, 0, 2, 0, 1, 0, m0)), (67, (.goto (-37), 70, 30, 0, 0, 0, 0, m0)), (70, (.aload_n 0, 71, 0, 0, 0, 0, 0, m0)), (71, (.iconst 0, 72, 0, 0, 0, 0, 0, m0)), (72, (.putfield 19, 75, 205, 1, 6, 0, 0, m0)), (75, (.aload_n 0, 76, 0, 0, 0, 0, 0, m0))]),
  (87, [(76, (.getfield 31, 79, 208, 3, 6, 0, 0, m0)), (79, (.ifCond .ne 7, 82, 86, 0, 0, 0, 0, m0)), (82, (.iconst 1, 83, 0, 0, 0, 1, 0, m0)), (83, (.goto 4, 86, 87, 0, 0, 0, 0, m0)), (86, (.iconst 0, 87, 0, 0, 0, 0, 0, m0)), (87, (.ireturn, 88, 0, 0, 0, 0, 0, m0))])]
theorem kX6_readText : chkC mX6_readText oX6_readText = true := by decide +kernel
theorem qX6_readClause : OkM mX6_readClause := ⟨Gd_in (i := 392) (by decide +kernel) (by decide +kernel), Gd_in (i := 68) (by decide +kernel) (by decide +kernel), ⟨fun _ => ⟨Gd_in (i := 391) (by decide +kernel) (by decide +kernel), Gd_in (i := 1) (by decide +kernel) (by decide +kernel)⟩, fun h => absurd h (by decide +kernel)⟩, by decide +kernel, ⟨by decide +kernel, by decide +kernel⟩, rfl, rfl⟩
def oX6_readClause : Cd := [(11, [(0, (.aload_n 0, 1, 0, 0, 0, 0, 0, m0)), (1, (.getfield 28, 4, 207, 2, 6, 0, 0, m0)), (4, (.istore_n 2, 5, 0, 2, 0, 0, 0, m0)), (5, (.aload_n 0, 6, 0, 0, 0, 0, 0, m0)), (6, (.invokevirtual 45, 9, 393, 1, 6, 0, 0, mX6_skipLetters)), (9, (.aload_n 0, 10, 0, 0, 0, 0, 0, m0)), (10, (.iload_n 2, 11, 0, 2, 0, 0, 0, m0)), (11, (.ldc 48, 13, 0, 0, 97, 0, 0, m0))]),
  (28, [(13, (.invokevirtual 50, 16, 398, 3, 6, 0, 0, mX6_wordIs)), (16, (.ifCond .eq 12, 19, 28, 0, 0, 0, 0, m0)), (19, (.aload_n 0, 20, 0, 0, 0, 0, 0, m0)), (20, (.iload_n 2, 21, 0, 2, 0, 0, 0, m0)), (21, (.aload_n 1, 22, 0, 1, 0, 0, 0, m0)), (22, (.invokevirtual 54, 25, 450, 3, 6, 0, 0, mX6_readHarvest)), (25, (.goto 47, 28, 72, 0, 0, 0, 0, m0)), (28, (.aload_n 0, 29, 0, 0, 0, 0, 0, m0))]),
  (41, [(29, (.iload_n 2, 30, 0, 2, 0, 0, 0, m0)), (30, (.ldc 58, 32, 0, 1, 97, 0, 0, m0)), (32, (.invokevirtual 50, 35, 398, 3, 6, 0, 0, mX6_wordIs)), (35, (.ifCond .eq 12, 38, 47, 0, 0, 0, 0, m0)), (38, (.aload_n 0, 39, 0, 0, 0, 0, 0, m0)), (39, (.iload_n 2, 40, 0, 2, 0, 0, 0, m0)), (40, (.aload_n 1, 41, 0, 1, 0, 0, 0, m0)), (41, (.invokevirtual 60, 44, 475, 3, 6, 0, 0, mX6_readHouse))]),
  (58, [(44, (.goto 28, 47, 72, 0, 0, 0, 0, m0)), (47, (.aload_n 0, 48, 0, 0, 0, 0, 0, m0)), (48, (.iload_n 2, 49, 0, 2, 0, 0, 0, m0)), (49, (.ldc 63, 51, 0, 2, 97, 0, 0, m0)), (51, (.invokevirtual 50, 54, 398, 3, 6, 0, 0, mX6_wordIs)), (54, (.ifCond .eq 12, 57, 66, 0, 0, 0, 0, m0)), (57, (.aload_n 0, 58, 0, 0, 0, 0, 0, m0)), (58, (.iload_n 2, 59, 0, 2, 0, 0, 0, m0))]),
  (72, [(59, (.aload_n 1, 60, 0, 1, 0, 0, 0, m0)), (60, (.invokevirtual 65, 63, 484, 3, 6, 0, 0, mX6_readJar)), (63, (.goto 9, 66, 72, 0, 0, 0, 0, m0)), (66, (.aload_n 0, 67, 0, 0, 0, 0, 0, m0)), (67, (.iconst 1, 68, 0, 0, 0, 1, 0, m0)), (68, (.iload_n 2, 69, 0, 2, 0, 0, 0, m0)), (69, (.invokevirtual 68, 72, 454, 3, 6, 0, 0, mX6_fail)), (72, (.return_, 73, 0, 0, 0, 0, 0, m0))])]
theorem kX6_readClause : chkC mX6_readClause oX6_readClause = true := by decide +kernel
theorem qX6_readHarvest : OkM mX6_readHarvest := ⟨Gd_in (i := 453) (by decide +kernel) (by decide +kernel), Gd_in (i := 68) (by decide +kernel) (by decide +kernel), ⟨fun _ => ⟨Gd_in (i := 452) (by decide +kernel) (by decide +kernel), Gd_in (i := 4) (by decide +kernel) (by decide +kernel)⟩, fun h => absurd h (by decide +kernel)⟩, by decide +kernel, ⟨by decide +kernel, by decide +kernel⟩, rfl, rfl⟩
def oX6_readHarvest : Cd := [(13, [(0, (.aload_n 0, 1, 0, 0, 0, 0, 0, m0)), (1, (.getfield 34, 4, 212, 5, 6, 0, 0, m0)), (4, (.ifCond .eq 10, 7, 14, 0, 0, 0, 0, m0)), (7, (.aload_n 0, 8, 0, 0, 0, 0, 0, m0)), (8, (.iconst 3, 9, 0, 0, 0, 3, 0, m0)), (9, (.iload_n 1, 10, 0, 1, 0, 0, 0, m0)), (10, (.invokevirtual 68, 13, 454, 3, 6, 0, 0, mX6_fail)), (13, (.return_, 14, 0, 0, 0, 0, 0, m0))]),
  (24, [(14, (.aload_n 0, 15, 0, 0, 0, 0, 0, m0)), (15, (.iconst 1, 16, 0, 0, 0, 1, 0, m0)), (16, (.putfield 34, 19, 212, 5, 6, 0, 0, m0)), (19, (.aload_n 2, 20, 0, 2, 0, 0, 0, m0)), (20, (.aload_n 0, 21, 0, 0, 0, 0, 0, m0)), (21, (.iconst 0, 22, 0, 0, 0, 0, 0, m0)), (22, (.bipush 99, 24, 0, 0, 0, 99, 0, m0)), (24, (.invokevirtual 72, 27, 458, 3, 6, 0, 0, mX6_readNumber))]),
  (39, [(27, (.invokevirtual 76, 30, 462, 2, 4, 0, 0, mX4_addHarvest)), (30, (.iconst 1, 31, 0, 0, 0, 1, 0, m0)), (31, (.istore_n 3, 32, 0, 3, 0, 0, 0, m0)), (32, (.iload_n 3, 33, 0, 3, 0, 0, 0, m0)), (33, (.bipush 8, 35, 0, 0, 0, 8, 0, m0)), (35, (.if_icmp .ge 46, 38, 81, 0, 0, 0, 0, m0)), (38, (.aload_n 0, 39, 0, 0, 0, 0, 0, m0)), (39, (.getfield 31, 42, 208, 3, 6, 0, 0, m0))]),
  (56, [(42, (.ifCond .ne 39, 45, 81, 0, 0, 0, 0, m0)), (45, (.aload_n 0, 46, 0, 0, 0, 0, 0, m0)), (46, (.bipush 44, 48, 0, 0, 0, 44, 0, m0)), (48, (.invokevirtual 80, 51, 466, 2, 6, 0, 0, mX6_nextIs)), (51, (.ifCond .eq 30, 54, 81, 0, 0, 0, 0, m0)), (54, (.aload_n 0, 55, 0, 0, 0, 0, 0, m0)), (55, (.dup, 56, 0, 0, 0, 0, 0, m0)), (56, (.getfield 28, 59, 207, 2, 6, 0, 0, m0))]),
  (69, [(59, (.iconst 1, 60, 0, 0, 0, 1, 0, m0)), (60, (.iadd, 61, 0, 0, 0, 0, 0, m0)), (61, (.putfield 28, 64, 207, 2, 6, 0, 0, m0)), (64, (.aload_n 2, 65, 0, 2, 0, 0, 0, m0)), (65, (.aload_n 0, 66, 0, 0, 0, 0, 0, m0)), (66, (.iconst 0, 67, 0, 0, 0, 0, 0, m0)), (67, (.bipush 99, 69, 0, 0, 0, 99, 0, m0)), (69, (.invokevirtual 72, 72, 458, 3, 6, 0, 0, mX6_readNumber))]),
  (85, [(72, (.invokevirtual 76, 75, 462, 2, 4, 0, 0, mX4_addHarvest)), (75, (.iinc 3 1, 78, 0, 3, 0, 1, 0, m0)), (78, (.goto (-46), 81, 32, 0, 0, 0, 0, m0)), (81, (.aload_n 0, 82, 0, 0, 0, 0, 0, m0)), (82, (.invokevirtual 84, 85, 470, 1, 6, 0, 0, mX6_readEnd)), (85, (.return_, 86, 0, 0, 0, 0, 0, m0))])]
theorem kX6_readHarvest : chkC mX6_readHarvest oX6_readHarvest = true := by decide +kernel
theorem qX6_readHouse : OkM mX6_readHouse := ⟨Gd_in (i := 478) (by decide +kernel) (by decide +kernel), Gd_in (i := 68) (by decide +kernel) (by decide +kernel), ⟨fun _ => ⟨Gd_in (i := 477) (by decide +kernel) (by decide +kernel), Gd_in (i := 9) (by decide +kernel) (by decide +kernel)⟩, fun h => absurd h (by decide +kernel)⟩, by decide +kernel, ⟨by decide +kernel, by decide +kernel⟩, rfl, rfl⟩
def oX6_readHouse : Cd := [(11, [(0, (.aload_n 2, 1, 0, 2, 0, 0, 0, m0)), (1, (.getfield 87, 4, 144, 0, 4, 0, 0, m0)), (4, (.iconst 4, 5, 0, 0, 0, 4, 0, m0)), (5, (.if_icmp .lt 10, 8, 15, 0, 0, 0, 0, m0)), (8, (.aload_n 0, 9, 0, 0, 0, 0, 0, m0)), (9, (.iconst 3, 10, 0, 0, 0, 3, 0, m0)), (10, (.iload_n 1, 11, 0, 1, 0, 0, 0, m0)), (11, (.invokevirtual 68, 14, 454, 3, 6, 0, 0, mX6_fail))]),
  (24, [(14, (.return_, 15, 0, 0, 0, 0, 0, m0)), (15, (.aload_n 0, 16, 0, 0, 0, 0, 0, m0)), (16, (.iconst 0, 17, 0, 0, 0, 0, 0, m0)), (17, (.bipush 99, 19, 0, 0, 0, 99, 0, m0)), (19, (.invokevirtual 72, 22, 458, 3, 6, 0, 0, mX6_readNumber)), (22, (.istore_n 3, 23, 0, 3, 0, 0, 0, m0)), (23, (.aload_n 0, 24, 0, 0, 0, 0, 0, m0)), (24, (.iconst 0, 25, 0, 0, 0, 0, 0, m0))]),
  (38, [(25, (.bipush 20, 27, 0, 0, 0, 20, 0, m0)), (27, (.invokevirtual 72, 30, 458, 3, 6, 0, 0, mX6_readNumber)), (30, (.istore 4, 32, 0, 4, 0, 0, 0, m0)), (32, (.aload_n 0, 33, 0, 0, 0, 0, 0, m0)), (33, (.invokevirtual 84, 36, 470, 1, 6, 0, 0, mX6_readEnd)), (36, (.aload_n 2, 37, 0, 2, 0, 0, 0, m0)), (37, (.iload_n 3, 38, 0, 3, 0, 0, 0, m0)), (38, (.iload 4, 40, 0, 4, 0, 0, 0, m0))]),
  (43, [(40, (.invokevirtual 90, 43, 479, 3, 4, 0, 0, mX4_addHouse)), (43, (.return_, 44, 0, 0, 0, 0, 0, m0))])]
theorem kX6_readHouse : chkC mX6_readHouse oX6_readHouse = true := by decide +kernel
theorem qX6_readJar : OkM mX6_readJar := ⟨Gd_in (i := 487) (by decide +kernel) (by decide +kernel), Gd_in (i := 68) (by decide +kernel) (by decide +kernel), ⟨fun _ => ⟨Gd_in (i := 486) (by decide +kernel) (by decide +kernel), Gd_in (i := 10) (by decide +kernel) (by decide +kernel)⟩, fun h => absurd h (by decide +kernel)⟩, by decide +kernel, ⟨by decide +kernel, by decide +kernel⟩, rfl, rfl⟩
def oX6_readJar : Cd := [(14, [(0, (.aload_n 2, 1, 0, 2, 0, 0, 0, m0)), (1, (.getfield 93, 4, 171, 11, 4, 0, 0, m0)), (4, (.getfield 97, 7, 104, 0, 1, 0, 0, m0)), (7, (.bipush 12, 9, 0, 0, 0, 12, 0, m0)), (9, (.if_icmp .lt 10, 12, 19, 0, 0, 0, 0, m0)), (12, (.aload_n 0, 13, 0, 0, 0, 0, 0, m0)), (13, (.iconst 3, 14, 0, 0, 0, 3, 0, m0)), (14, (.iload_n 1, 15, 0, 1, 0, 0, 0, m0))]),
  (26, [(15, (.invokevirtual 68, 18, 454, 3, 6, 0, 0, mX6_fail)), (18, (.return_, 19, 0, 0, 0, 0, 0, m0)), (19, (.aload_n 0, 20, 0, 0, 0, 0, 0, m0)), (20, (.invokevirtual 102, 23, 488, 1, 6, 0, 0, mX6_readKind)), (23, (.istore_n 3, 24, 0, 3, 0, 0, 0, m0)), (24, (.aload_n 0, 25, 0, 0, 0, 0, 0, m0)), (25, (.iconst 0, 26, 0, 0, 0, 0, 0, m0)), (26, (.aload_n 2, 27, 0, 2, 0, 0, 0, m0))]),
  (39, [(27, (.getfield 87, 30, 144, 0, 4, 0, 0, m0)), (30, (.iconst 1, 31, 0, 0, 0, 1, 0, m0)), (31, (.isub, 32, 0, 0, 0, 0, 0, m0)), (32, (.invokevirtual 72, 35, 458, 3, 6, 0, 0, mX6_readNumber)), (35, (.istore 4, 37, 0, 4, 0, 0, 0, m0)), (37, (.aload_n 0, 38, 0, 0, 0, 0, 0, m0)), (38, (.iconst 0, 39, 0, 0, 0, 0, 0, m0)), (39, (.bipush 99, 41, 0, 0, 0, 99, 0, m0))]),
  (55, [(41, (.invokevirtual 72, 44, 458, 3, 6, 0, 0, mX6_readNumber)), (44, (.istore 5, 46, 0, 5, 0, 0, 0, m0)), (46, (.aload_n 0, 47, 0, 0, 0, 0, 0, m0)), (47, (.iconst 1, 48, 0, 0, 0, 1, 0, m0)), (48, (.bipush 99, 50, 0, 0, 0, 99, 0, m0)), (50, (.invokevirtual 72, 53, 458, 3, 6, 0, 0, mX6_readNumber)), (53, (.istore 6, 55, 0, 6, 0, 0, 0, m0)), (55, (.aload_n 0, 56, 0, 0, 0, 0, 0, m0))]),
  (69, [(56, (.iconst 0, 57, 0, 0, 0, 0, 0, m0)), (57, (.bipush 99, 59, 0, 0, 0, 99, 0, m0)), (59, (.invokevirtual 72, 62, 458, 3, 6, 0, 0, mX6_readNumber)), (62, (.istore 7, 64, 0, 7, 0, 0, 0, m0)), (64, (.aload_n 0, 65, 0, 0, 0, 0, 0, m0)), (65, (.invokevirtual 84, 68, 470, 1, 6, 0, 0, mX6_readEnd)), (68, (.aload_n 2, 69, 0, 2, 0, 0, 0, m0)), (69, (.getfield 93, 72, 171, 11, 4, 0, 0, m0))]),
  (85, [(72, (.iload_n 3, 73, 0, 3, 0, 0, 0, m0)), (73, (.iload 4, 75, 0, 4, 0, 0, 0, m0)), (75, (.iload 5, 77, 0, 5, 0, 0, 0, m0)), (77, (.iload 6, 79, 0, 6, 0, 0, 0, m0)), (79, (.iload 7, 81, 0, 7, 0, 0, 0, m0)), (81, (.iconst 0, 82, 0, 0, 0, 0, 0, m0)), (82, (.invokevirtual 106, 85, 495, 7, 1, 0, 0, mX1_add)), (85, (.return_, 86, 0, 0, 0, 0, 0, m0))])]
theorem kX6_readJar : chkC mX6_readJar oX6_readJar = true := by decide +kernel
theorem qX6_readKind : OkM mX6_readKind := ⟨Gd_in (i := 491) (by decide +kernel) (by decide +kernel), Gd_in (i := 68) (by decide +kernel) (by decide +kernel), ⟨fun _ => ⟨Gd_in (i := 490) (by decide +kernel) (by decide +kernel), Gd_in (i := 11) (by decide +kernel) (by decide +kernel)⟩, fun h => absurd h (by decide +kernel)⟩, by decide +kernel, ⟨by decide +kernel, by decide +kernel⟩, rfl, rfl⟩
def oX6_readKind : Cd := [(13, [(0, (.aload_n 0, 1, 0, 0, 0, 0, 0, m0)), (1, (.invokevirtual 38, 4, 385, 1, 6, 0, 0, mX6_skipBlanks)), (4, (.aload_n 0, 5, 0, 0, 0, 0, 0, m0)), (5, (.getfield 28, 8, 207, 2, 6, 0, 0, m0)), (8, (.istore_n 1, 9, 0, 1, 0, 0, 0, m0)), (9, (.aload_n 0, 10, 0, 0, 0, 0, 0, m0)), (10, (.invokevirtual 45, 13, 393, 1, 6, 0, 0, mX6_skipLetters)), (13, (.aload_n 0, 14, 0, 0, 0, 0, 0, m0))]),
  (26, [(14, (.iload_n 1, 15, 0, 1, 0, 0, 0, m0)), (15, (.ldc 110, 17, 0, 3, 97, 0, 0, m0)), (17, (.invokevirtual 50, 20, 398, 3, 6, 0, 0, mX6_wordIs)), (20, (.ifCond .eq 5, 23, 25, 0, 0, 0, 0, m0)), (23, (.iconst 0, 24, 0, 0, 0, 0, 0, m0)), (24, (.ireturn, 25, 0, 0, 0, 0, 0, m0)), (25, (.aload_n 0, 26, 0, 0, 0, 0, 0, m0)), (26, (.iload_n 1, 27, 0, 1, 0, 0, 0, m0))]),
  (39, [(27, (.ldc 112, 29, 0, 4, 97, 0, 0, m0)), (29, (.invokevirtual 50, 32, 398, 3, 6, 0, 0, mX6_wordIs)), (32, (.ifCond .eq 5, 35, 37, 0, 0, 0, 0, m0)), (35, (.iconst 1, 36, 0, 0, 0, 1, 0, m0)), (36, (.ireturn, 37, 0, 0, 0, 0, 0, m0)), (37, (.aload_n 0, 38, 0, 0, 0, 0, 0, m0)), (38, (.iload_n 1, 39, 0, 1, 0, 0, 0, m0)), (39, (.ldc 114, 41, 0, 5, 97, 0, 0, m0))]),
  (52, [(41, (.invokevirtual 50, 44, 398, 3, 6, 0, 0, mX6_wordIs)), (44, (.ifCond .eq 5, 47, 49, 0, 0, 0, 0, m0)), (47, (.iconst 2, 48, 0, 0, 0, 2, 0, m0)), (48, (.ireturn, 49, 0, 0, 0, 0, 0, m0)), (49, (.aload_n 0, 50, 0, 0, 0, 0, 0, m0)), (50, (.iconst 1, 51, 0, 0, 0, 1, 0, m0)), (51, (.iload_n 1, 52, 0, 1, 0, 0, 0, m0)), (52, (.invokevirtual 68, 55, 454, 3, 6, 0, 0, mX6_fail))]),
  (56, [(55, (.iconst 0, 56, 0, 0, 0, 0, 0, m0)), (56, (.ireturn, 57, 0, 0, 0, 0, 0, m0))])]
theorem kX6_readKind : chkC mX6_readKind oX6_readKind = true := by decide +kernel
theorem qX6_readNumber : OkM mX6_readNumber := ⟨Gd_in (i := 461) (by decide +kernel) (by decide +kernel), Gd_in (i := 68) (by decide +kernel) (by decide +kernel), ⟨fun _ => ⟨Gd_in (i := 460) (by decide +kernel) (by decide +kernel), Gd_in (i := 6) (by decide +kernel) (by decide +kernel)⟩, fun h => absurd h (by decide +kernel)⟩, by decide +kernel, ⟨by decide +kernel, by decide +kernel⟩, rfl, rfl⟩
def oX6_readNumber : Cd := [(12, [(0, (.aload_n 0, 1, 0, 0, 0, 0, 0, m0)), (1, (.invokevirtual 38, 4, 385, 1, 6, 0, 0, mX6_skipBlanks)), (4, (.aload_n 0, 5, 0, 0, 0, 0, 0, m0)), (5, (.getfield 28, 8, 207, 2, 6, 0, 0, m0)), (8, (.istore_n 3, 9, 0, 3, 0, 0, 0, m0)), (9, (.iconst 0, 10, 0, 0, 0, 0, 0, m0)), (10, (.istore 4, 12, 0, 4, 0, 0, 0, m0)), (12, (.aload_n 0, 13, 0, 0, 0, 0, 0, m0))]),
  (28, [(13, (.getfield 28, 16, 207, 2, 6, 0, 0, m0)), (16, (.aload_n 0, 17, 0, 0, 0, 0, 0, m0)), (17, (.getfield 19, 20, 205, 1, 6, 0, 0, m0)), (20, (.if_icmp .ge 74, 23, 94, 0, 0, 0, 0, m0)), (23, (.aload_n 0, 24, 0, 0, 0, 0, 0, m0)), (24, (.getfield 9, 27, 204, 0, 6, 0, 0, m0)), (27, (.aload_n 0, 28, 0, 0, 0, 0, 0, m0)), (28, (.getfield 28, 31, 207, 2, 6, 0, 0, m0))]),
  (45, [(31, (.baload, 32, 0, 0, 0, 0, 0, m0)), (32, (.bipush 48, 34, 0, 0, 0, 48, 0, m0)), (34, (.if_icmp .lt 60, 37, 94, 0, 0, 0, 0, m0)), (37, (.aload_n 0, 38, 0, 0, 0, 0, 0, m0)), (38, (.getfield 9, 41, 204, 0, 6, 0, 0, m0)), (41, (.aload_n 0, 42, 0, 0, 0, 0, 0, m0)), (42, (.getfield 28, 45, 207, 2, 6, 0, 0, m0)), (45, (.baload, 46, 0, 0, 0, 0, 0, m0))]),
  (58, [(46, (.bipush 57, 48, 0, 0, 0, 57, 0, m0)), (48, (.if_icmp .gt 46, 51, 94, 0, 0, 0, 0, m0)), (51, (.aload_n 0, 52, 0, 0, 0, 0, 0, m0)), (52, (.getfield 28, 55, 207, 2, 6, 0, 0, m0)), (55, (.iload_n 3, 56, 0, 3, 0, 0, 0, m0)), (56, (.isub, 57, 0, 0, 0, 0, 0, m0)), (57, (.iconst 3, 58, 0, 0, 0, 3, 0, m0)), (58, (.if_icmp .ge 23, 61, 81, 0, 0, 0, 0, m0))]),
  (74, [(61, (.iload 4, 63, 0, 4, 0, 0, 0, m0)), (63, (.bipush 10, 65, 0, 0, 0, 10, 0, m0)), (65, (.imul, 66, 0, 0, 0, 0, 0, m0)), (66, (.aload_n 0, 67, 0, 0, 0, 0, 0, m0)), (67, (.getfield 9, 70, 204, 0, 6, 0, 0, m0)), (70, (.aload_n 0, 71, 0, 0, 0, 0, 0, m0)), (71, (.getfield 28, 74, 207, 2, 6, 0, 0, m0)), (74, (.baload, 75, 0, 0, 0, 0, 0, m0))]),
  (86, [(75, (.iadd, 76, 0, 0, 0, 0, 0, m0)), (76, (.bipush 48, 78, 0, 0, 0, 48, 0, m0)), (78, (.isub, 79, 0, 0, 0, 0, 0, m0)), (79, (.istore 4, 81, 0, 4, 0, 0, 0, m0)), (81, (.aload_n 0, 82, 0, 0, 0, 0, 0, m0)), (82, (.dup, 83, 0, 0, 0, 0, 0, m0)), (83, (.getfield 28, 86, 207, 2, 6, 0, 0, m0)), (86, (.iconst 1, 87, 0, 0, 0, 1, 0, m0))]),
  (102, [(87, (.iadd, 88, 0, 0, 0, 0, 0, m0)), (88, (.putfield 28, 91, 207, 2, 6, 0, 0, m0)), (91, (.goto (-79), 94, 12, 0, 0, 0, 0, m0)), (94, (.aload_n 0, 95, 0, 0, 0, 0, 0, m0)), (95, (.getfield 28, 98, 207, 2, 6, 0, 0, m0)), (98, (.iload_n 3, 99, 0, 3, 0, 0, 0, m0)), (99, (.if_icmp .ne 12, 102, 111, 0, 0, 0, 0, m0)), (102, (.aload_n 0, 103, 0, 0, 0, 0, 0, m0))]),
  (116, [(103, (.iconst 1, 104, 0, 0, 0, 1, 0, m0)), (104, (.iload_n 3, 105, 0, 3, 0, 0, 0, m0)), (105, (.invokevirtual 68, 108, 454, 3, 6, 0, 0, mX6_fail)), (108, (.goto 31, 111, 139, 0, 0, 0, 0, m0)), (111, (.aload_n 0, 112, 0, 0, 0, 0, 0, m0)), (112, (.getfield 28, 115, 207, 2, 6, 0, 0, m0)), (115, (.iload_n 3, 116, 0, 3, 0, 0, 0, m0)), (116, (.isub, 117, 0, 0, 0, 0, 0, m0))]),
  (130, [(117, (.iconst 3, 118, 0, 0, 0, 3, 0, m0)), (118, (.if_icmp .gt 15, 121, 133, 0, 0, 0, 0, m0)), (121, (.iload 4, 123, 0, 4, 0, 0, 0, m0)), (123, (.iload_n 1, 124, 0, 1, 0, 0, 0, m0)), (124, (.if_icmp .lt 9, 127, 133, 0, 0, 0, 0, m0)), (127, (.iload 4, 129, 0, 4, 0, 0, 0, m0)), (129, (.iload_n 2, 130, 0, 2, 0, 0, 0, m0)), (130, (.if_icmp .le 9, 133, 139, 0, 0, 0, 0, m0))]),
  (141, [(133, (.aload_n 0, 134, 0, 0, 0, 0, 0, m0)), (134, (.iconst 2, 135, 0, 0, 0, 2, 0, m0)), (135, (.iload_n 3, 136, 0, 3, 0, 0, 0, m0)), (136, (.invokevirtual 68, 139, 454, 3, 6, 0, 0, mX6_fail)), (139, (.iload 4, 141, 0, 4, 0, 0, 0, m0)), (141, (.ireturn, 142, 0, 0, 0, 0, 0, m0))])]
theorem kX6_readNumber : chkC mX6_readNumber oX6_readNumber = true := by decide +kernel
theorem qX6_readEnd : OkM mX6_readEnd := ⟨Gd_in (i := 473) (by decide +kernel) (by decide +kernel), Gd_in (i := 68) (by decide +kernel) (by decide +kernel), ⟨fun _ => ⟨Gd_in (i := 472) (by decide +kernel) (by decide +kernel), Gd_in (i := 8) (by decide +kernel) (by decide +kernel)⟩, fun h => absurd h (by decide +kernel)⟩, by decide +kernel, ⟨by decide +kernel, by decide +kernel⟩, rfl, rfl⟩
def oX6_readEnd : Cd := [(14, [(0, (.aload_n 0, 1, 0, 0, 0, 0, 0, m0)), (1, (.bipush 59, 3, 0, 0, 0, 59, 0, m0)), (3, (.invokevirtual 80, 6, 466, 2, 6, 0, 0, mX6_nextIs)), (6, (.ifCond .eq 16, 9, 22, 0, 0, 0, 0, m0)), (9, (.aload_n 0, 10, 0, 0, 0, 0, 0, m0)), (10, (.dup, 11, 0, 0, 0, 0, 0, m0)), (11, (.getfield 28, 14, 207, 2, 6, 0, 0, m0)), (14, (.iconst 1, 15, 0, 0, 0, 1, 0, m0))]),
  (28, [(15, (.iadd, 16, 0, 0, 0, 0, 0, m0)), (16, (.putfield 28, 19, 207, 2, 6, 0, 0, m0)), (19, (.goto 12, 22, 31, 0, 0, 0, 0, m0)), (22, (.aload_n 0, 23, 0, 0, 0, 0, 0, m0)), (23, (.iconst 1, 24, 0, 0, 0, 1, 0, m0)), (24, (.aload_n 0, 25, 0, 0, 0, 0, 0, m0)), (25, (.getfield 28, 28, 207, 2, 6, 0, 0, m0)), (28, (.invokevirtual 68, 31, 454, 3, 6, 0, 0, mX6_fail))]),
  (31, [(31, (.return_, 32, 0, 0, 0, 0, 0, m0))])]
theorem kX6_readEnd : chkC mX6_readEnd oX6_readEnd = true := by decide +kernel
theorem qX6_nextIs : OkM mX6_nextIs := ⟨Gd_in (i := 469) (by decide +kernel) (by decide +kernel), Gd_in (i := 68) (by decide +kernel) (by decide +kernel), ⟨fun _ => ⟨Gd_in (i := 468) (by decide +kernel) (by decide +kernel), Gd_in (i := 7) (by decide +kernel) (by decide +kernel)⟩, fun h => absurd h (by decide +kernel)⟩, by decide +kernel, ⟨by decide +kernel, by decide +kernel⟩, rfl, rfl⟩
def oX6_nextIs : Cd := [(15, [(0, (.aload_n 0, 1, 0, 0, 0, 0, 0, m0)), (1, (.invokevirtual 38, 4, 385, 1, 6, 0, 0, mX6_skipBlanks)), (4, (.aload_n 0, 5, 0, 0, 0, 0, 0, m0)), (5, (.getfield 28, 8, 207, 2, 6, 0, 0, m0)), (8, (.aload_n 0, 9, 0, 0, 0, 0, 0, m0)), (9, (.getfield 19, 12, 205, 1, 6, 0, 0, m0)), (12, (.if_icmp .ge 20, 15, 32, 0, 0, 0, 0, m0)), (15, (.aload_n 0, 16, 0, 0, 0, 0, 0, m0))]),
  (29, [(16, (.getfield 9, 19, 204, 0, 6, 0, 0, m0)), (19, (.aload_n 0, 20, 0, 0, 0, 0, 0, m0)), (20, (.getfield 28, 23, 207, 2, 6, 0, 0, m0)), (23, (.baload, 24, 0, 0, 0, 0, 0, m0)), (24, (.iload_n 1, 25, 0, 1, 0, 0, 0, m0)), (25, (.if_icmp .ne 7, 28, 32, 0, 0, 0, 0, m0)), (28, (.iconst 1, 29, 0, 0, 0, 1, 0, m0)), (29, (.goto 4, 32, 33, 0, 0, 0, 0, m0))]),
  (33, [(32, (.iconst 0, 33, 0, 0, 0, 0, 0, m0)), (33, (.ireturn, 34, 0, 0, 0, 0, 0, m0))])]
theorem kX6_nextIs : chkC mX6_nextIs oX6_nextIs = true := by decide +kernel
theorem qX6_skipBlanks : OkM mX6_skipBlanks := ⟨Gd_in (i := 388) (by decide +kernel) (by decide +kernel), Gd_in (i := 68) (by decide +kernel) (by decide +kernel), ⟨fun _ => ⟨Gd_in (i := 387) (by decide +kernel) (by decide +kernel), Gd_in (i := 0) (by decide +kernel) (by decide +kernel)⟩, fun h => absurd h (by decide +kernel)⟩, by decide +kernel, ⟨by decide +kernel, by decide +kernel⟩, rfl, rfl⟩
def oX6_skipBlanks : Cd := [(15, [(0, (.aload_n 0, 1, 0, 0, 0, 0, 0, m0)), (1, (.getfield 28, 4, 207, 2, 6, 0, 0, m0)), (4, (.aload_n 0, 5, 0, 0, 0, 0, 0, m0)), (5, (.getfield 19, 8, 205, 1, 6, 0, 0, m0)), (8, (.if_icmp .ge 30, 11, 38, 0, 0, 0, 0, m0)), (11, (.aload_n 0, 12, 0, 0, 0, 0, 0, m0)), (12, (.getfield 9, 15, 204, 0, 6, 0, 0, m0)), (15, (.aload_n 0, 16, 0, 0, 0, 0, 0, m0))]),
  (30, [(16, (.getfield 28, 19, 207, 2, 6, 0, 0, m0)), (19, (.baload, 20, 0, 0, 0, 0, 0, m0)), (20, (.bipush 32, 22, 0, 0, 0, 32, 0, m0)), (22, (.if_icmp .ne 16, 25, 38, 0, 0, 0, 0, m0)), (25, (.aload_n 0, 26, 0, 0, 0, 0, 0, m0)), (26, (.dup, 27, 0, 0, 0, 0, 0, m0)), (27, (.getfield 28, 30, 207, 2, 6, 0, 0, m0)), (30, (.iconst 1, 31, 0, 0, 0, 1, 0, m0))]),
  (38, [(31, (.iadd, 32, 0, 0, 0, 0, 0, m0)), (32, (.putfield 28, 35, 207, 2, 6, 0, 0, m0)), (35, (.goto (-35), 38, 0, 0, 0, 0, 0, m0)), (38, (.return_, 39, 0, 0, 0, 0, 0, m0))])]
theorem kX6_skipBlanks : chkC mX6_skipBlanks oX6_skipBlanks = true := by decide +kernel
theorem qX6_skipLetters : OkM mX6_skipLetters := ⟨Gd_in (i := 396) (by decide +kernel) (by decide +kernel), Gd_in (i := 68) (by decide +kernel) (by decide +kernel), ⟨fun _ => ⟨Gd_in (i := 395) (by decide +kernel) (by decide +kernel), Gd_in (i := 2) (by decide +kernel) (by decide +kernel)⟩, fun h => absurd h (by decide +kernel)⟩, by decide +kernel, ⟨by decide +kernel, by decide +kernel⟩, rfl, rfl⟩
def oX6_skipLetters : Cd := [(15, [(0, (.aload_n 0, 1, 0, 0, 0, 0, 0, m0)), (1, (.getfield 28, 4, 207, 2, 6, 0, 0, m0)), (4, (.aload_n 0, 5, 0, 0, 0, 0, 0, m0)), (5, (.getfield 19, 8, 205, 1, 6, 0, 0, m0)), (8, (.if_icmp .ge 44, 11, 52, 0, 0, 0, 0, m0)), (11, (.aload_n 0, 12, 0, 0, 0, 0, 0, m0)), (12, (.getfield 9, 15, 204, 0, 6, 0, 0, m0)), (15, (.aload_n 0, 16, 0, 0, 0, 0, 0, m0))]),
  (30, [(16, (.getfield 28, 19, 207, 2, 6, 0, 0, m0)), (19, (.baload, 20, 0, 0, 0, 0, 0, m0)), (20, (.bipush 97, 22, 0, 0, 0, 97, 0, m0)), (22, (.if_icmp .lt 30, 25, 52, 0, 0, 0, 0, m0)), (25, (.aload_n 0, 26, 0, 0, 0, 0, 0, m0)), (26, (.getfield 9, 29, 204, 0, 6, 0, 0, m0)), (29, (.aload_n 0, 30, 0, 0, 0, 0, 0, m0)), (30, (.getfield 28, 33, 207, 2, 6, 0, 0, m0))]),
  (45, [(33, (.baload, 34, 0, 0, 0, 0, 0, m0)), (34, (.bipush 122, 36, 0, 0, 0, 122, 0, m0)), (36, (.if_icmp .gt 16, 39, 52, 0, 0, 0, 0, m0)), (39, (.aload_n 0, 40, 0, 0, 0, 0, 0, m0)), (40, (.dup, 41, 0, 0, 0, 0, 0, m0)), (41, (.getfield 28, 44, 207, 2, 6, 0, 0, m0)), (44, (.iconst 1, 45, 0, 0, 0, 1, 0, m0)), (45, (.iadd, 46, 0, 0, 0, 0, 0, m0))]),
  (52, [(46, (.putfield 28, 49, 207, 2, 6, 0, 0, m0)), (49, (.goto (-49), 52, 0, 0, 0, 0, 0, m0)), (52, (.return_, 53, 0, 0, 0, 0, 0, m0))])]
theorem kX6_skipLetters : chkC mX6_skipLetters oX6_skipLetters = true := by decide +kernel
theorem qX6_wordIs : OkM mX6_wordIs := ⟨Gd_in (i := 401) (by decide +kernel) (by decide +kernel), Gd_in (i := 68) (by decide +kernel) (by decide +kernel), ⟨fun _ => ⟨Gd_in (i := 400) (by decide +kernel) (by decide +kernel), Gd_in (i := 3) (by decide +kernel) (by decide +kernel)⟩, fun h => absurd h (by decide +kernel)⟩, by decide +kernel, ⟨by decide +kernel, by decide +kernel⟩, rfl, rfl⟩
def oX6_wordIs : Cd := [(11, [(0, (.iload_n 1, 1, 0, 1, 0, 0, 0, m0)), (1, (.ifCond .lt 16, 4, 17, 0, 0, 0, 0, m0)), (4, (.aload_n 0, 5, 0, 0, 0, 0, 0, m0)), (5, (.getfield 28, 8, 207, 2, 6, 0, 0, m0)), (8, (.iload_n 1, 9, 0, 1, 0, 0, 0, m0)), (9, (.isub, 10, 0, 0, 0, 0, 0, m0)), (10, (.aload_n 2, 11, 0, 2, 0, 0, 0, m0)), (11, (.invokevirtual 116, 14, 402, 1, 99, 0, 0, mJ0_length))]),
  (23, [(14, (.if_icmp .eq 5, 17, 19, 0, 0, 0, 0, m0)), (17, (.iconst 0, 18, 0, 0, 0, 0, 0, m0)), (18, (.ireturn, 19, 0, 0, 0, 0, 0, m0)), (19, (.iconst 0, 20, 0, 0, 0, 0, 0, m0)), (20, (.istore_n 3, 21, 0, 3, 0, 0, 0, m0)), (21, (.iload_n 3, 22, 0, 3, 0, 0, 0, m0)), (22, (.aload_n 2, 23, 0, 2, 0, 0, 0, m0)), (23, (.invokevirtual 116, 26, 402, 1, 99, 0, 0, mJ0_length))]),
  (37, [(26, (.if_icmp .ge 27, 29, 53, 0, 0, 0, 0, m0)), (29, (.aload_n 0, 30, 0, 0, 0, 0, 0, m0)), (30, (.getfield 9, 33, 204, 0, 6, 0, 0, m0)), (33, (.iload_n 1, 34, 0, 1, 0, 0, 0, m0)), (34, (.iload_n 3, 35, 0, 3, 0, 0, 0, m0)), (35, (.iadd, 36, 0, 0, 0, 0, 0, m0)), (36, (.baload, 37, 0, 0, 0, 0, 0, m0)), (37, (.aload_n 2, 38, 0, 2, 0, 0, 0, m0))]),
  (53, [(38, (.iload_n 3, 39, 0, 3, 0, 0, 0, m0)), (39, (.invokevirtual 120, 42, 412, 2, 99, 0, 0, mJ0_charAt)), (42, (.if_icmp .eq 5, 45, 47, 0, 0, 0, 0, m0)), (45, (.iconst 0, 46, 0, 0, 0, 0, 0, m0)), (46, (.ireturn, 47, 0, 0, 0, 0, 0, m0)), (47, (.iinc 3 1, 50, 0, 3, 0, 1, 0, m0)), (50, (.goto (-29), 53, 21, 0, 0, 0, 0, m0)), (53, (.iconst 1, 54, 0, 0, 0, 1, 0, m0))]),
  (54, [(54, (.ireturn, 55, 0, 0, 0, 0, 0, m0))])]
theorem kX6_wordIs : chkC mX6_wordIs oX6_wordIs = true := by decide +kernel
theorem qX6_fail : OkM mX6_fail := ⟨Gd_in (i := 457) (by decide +kernel) (by decide +kernel), Gd_in (i := 68) (by decide +kernel) (by decide +kernel), ⟨fun _ => ⟨Gd_in (i := 456) (by decide +kernel) (by decide +kernel), Gd_in (i := 5) (by decide +kernel) (by decide +kernel)⟩, fun h => absurd h (by decide +kernel)⟩, by decide +kernel, ⟨by decide +kernel, by decide +kernel⟩, rfl, rfl⟩
def oX6_fail : Cd := [(13, [(0, (.aload_n 0, 1, 0, 0, 0, 0, 0, m0)), (1, (.getfield 31, 4, 208, 3, 6, 0, 0, m0)), (4, (.ifCond .ne 13, 7, 17, 0, 0, 0, 0, m0)), (7, (.aload_n 0, 8, 0, 0, 0, 0, 0, m0)), (8, (.iload_n 1, 9, 0, 1, 0, 0, 0, m0)), (9, (.putfield 31, 12, 208, 3, 6, 0, 0, m0)), (12, (.aload_n 0, 13, 0, 0, 0, 0, 0, m0)), (13, (.iload_n 2, 14, 0, 2, 0, 0, 0, m0))]),
  (17, [(14, (.putfield 15, 17, 210, 4, 6, 0, 0, m0)), (17, (.return_, 18, 0, 0, 0, 0, 0, m0))])]
theorem kX6_fail : chkC mX6_fail oX6_fail = true := by decide +kernel
theorem qJ6_bitCount : OkM mJ6_bitCount := ⟨Gd_in (i := 779) (by decide +kernel) (by decide +kernel), Gd_in (i := 80) (by decide +kernel) (by decide +kernel), ⟨fun h => absurd h (by decide +kernel), fun _ => Gd_in (i := 778) (by decide +kernel) (by decide +kernel)⟩, by decide +kernel, ⟨by decide +kernel, by decide +kernel⟩, rfl, rfl⟩
def oJ6_bitCount : Cd := [(9, [(0, (.iload_n 0, 1, 0, 0, 0, 0, 0, m0)), (1, (.iload_n 0, 2, 0, 0, 0, 0, 0, m0)), (2, (.iconst 1, 3, 0, 0, 0, 1, 0, m0)), (3, (.iushr, 4, 0, 0, 0, 0, 0, m0)), (4, (.ldc_w 265, 7, 780, 0, 0, 1431655765, 0, m0)), (7, (.iand, 8, 0, 0, 0, 0, 0, m0)), (8, (.isub, 9, 0, 0, 0, 0, 0, m0)), (9, (.istore_n 0, 10, 0, 0, 0, 0, 0, m0))]),
  (21, [(10, (.iload_n 0, 11, 0, 0, 0, 0, 0, m0)), (11, (.ldc_w 266, 14, 781, 0, 0, 858993459, 0, m0)), (14, (.iand, 15, 0, 0, 0, 0, 0, m0)), (15, (.iload_n 0, 16, 0, 0, 0, 0, 0, m0)), (16, (.iconst 2, 17, 0, 0, 0, 2, 0, m0)), (17, (.iushr, 18, 0, 0, 0, 0, 0, m0)), (18, (.ldc_w 266, 21, 781, 0, 0, 858993459, 0, m0)), (21, (.iand, 22, 0, 0, 0, 0, 0, m0))]),
  (29, [(22, (.iadd, 23, 0, 0, 0, 0, 0, m0)), (23, (.istore_n 0, 24, 0, 0, 0, 0, 0, m0)), (24, (.iload_n 0, 25, 0, 0, 0, 0, 0, m0)), (25, (.iload_n 0, 26, 0, 0, 0, 0, 0, m0)), (26, (.iconst 4, 27, 0, 0, 0, 4, 0, m0)), (27, (.iushr, 28, 0, 0, 0, 0, 0, m0)), (28, (.iadd, 29, 0, 0, 0, 0, 0, m0)), (29, (.ldc_w 267, 32, 782, 0, 0, 252645135, 0, m0))]),
  (40, [(32, (.iand, 33, 0, 0, 0, 0, 0, m0)), (33, (.istore_n 0, 34, 0, 0, 0, 0, 0, m0)), (34, (.iload_n 0, 35, 0, 0, 0, 0, 0, m0)), (35, (.iload_n 0, 36, 0, 0, 0, 0, 0, m0)), (36, (.bipush 8, 38, 0, 0, 0, 8, 0, m0)), (38, (.iushr, 39, 0, 0, 0, 0, 0, m0)), (39, (.iadd, 40, 0, 0, 0, 0, 0, m0)), (40, (.istore_n 0, 41, 0, 0, 0, 0, 0, m0))]),
  (49, [(41, (.iload_n 0, 42, 0, 0, 0, 0, 0, m0)), (42, (.iload_n 0, 43, 0, 0, 0, 0, 0, m0)), (43, (.bipush 16, 45, 0, 0, 0, 16, 0, m0)), (45, (.iushr, 46, 0, 0, 0, 0, 0, m0)), (46, (.iadd, 47, 0, 0, 0, 0, 0, m0)), (47, (.istore_n 0, 48, 0, 0, 0, 0, 0, m0)), (48, (.iload_n 0, 49, 0, 0, 0, 0, 0, m0)), (49, (.bipush 63, 51, 0, 0, 0, 63, 0, m0))]),
  (52, [(51, (.iand, 52, 0, 0, 0, 0, 0, m0)), (52, (.ireturn, 53, 0, 0, 0, 0, 0, m0))])]
theorem kJ6_bitCount : chkC mJ6_bitCount oJ6_bitCount = true := by decide +kernel
theorem qJ0_length : OkM mJ0_length := ⟨Gd_in (i := 405) (by decide +kernel) (by decide +kernel), Gd_in (i := 74) (by decide +kernel) (by decide +kernel), ⟨fun _ => ⟨Gd_in (i := 403) (by decide +kernel) (by decide +kernel), Gd_in (i := 404) (by decide +kernel) (by decide +kernel)⟩, fun h => absurd h (by decide +kernel)⟩, by decide +kernel, ⟨by decide +kernel, by decide +kernel⟩, rfl, rfl⟩
theorem qJ0_charAt : OkM mJ0_charAt := ⟨Gd_in (i := 415) (by decide +kernel) (by decide +kernel), Gd_in (i := 74) (by decide +kernel) (by decide +kernel), ⟨fun _ => ⟨Gd_in (i := 413) (by decide +kernel) (by decide +kernel), Gd_in (i := 414) (by decide +kernel) (by decide +kernel)⟩, fun h => absurd h (by decide +kernel)⟩, by decide +kernel, ⟨by decide +kernel, by decide +kernel⟩, rfl, rfl⟩
end
section
theorem qX7_feed : OkM mX7_feed := ⟨Gd_in (i := 366) (by decide +kernel) (by decide +kernel), Gd_in (i := 65) (by decide +kernel) (by decide +kernel), ⟨fun _ => ⟨Gd_in (i := 364) (by decide +kernel) (by decide +kernel), Gd_in (i := 365) (by decide +kernel) (by decide +kernel)⟩, fun h => absurd h (by decide +kernel)⟩, by decide +kernel, ⟨by decide +kernel, by decide +kernel⟩, rfl, rfl⟩
def oX7_feed : Cd := [(13, [(0, (.iload_n 1, 1, 0, 1, 0, 0, 0, m0)), (1, (.iconst 1, 2, 0, 0, 0, 1, 0, m0)), (2, (.if_icmp .lt 9, 5, 11, 0, 0, 0, 0, m0)), (5, (.iload_n 1, 6, 0, 1, 0, 0, 0, m0)), (6, (.bipush 8, 8, 0, 0, 0, 8, 0, m0)), (8, (.if_icmp .le 6, 11, 14, 0, 0, 0, 0, m0)), (11, (.ldc 66, 13, 367, 0, 0, (-1000000002), 0, m0)), (13, (.ireturn, 14, 0, 0, 0, 0, 0, m0))]),
  (23, [(14, (.aload_n 0, 15, 0, 0, 0, 0, 0, m0)), (15, (.getfield 30, 18, 336, 4, 7, 0, 0, m0)), (18, (.iload_n 1, 19, 0, 1, 0, 0, 0, m0)), (19, (.lload_n 2, 20, 0, 2, 0, 0, 0, m0)), (20, (.invokevirtual 67, 23, 368, 3, 6, 0, 0, mX6_addBytes)), (23, (.ireturn, 24, 0, 0, 0, 0, 0, m0))])]
theorem kX7_feed : chkC mX7_feed oX7_feed = true := by decide +kernel
theorem qX7_land : OkM mX7_land := ⟨Gd_in (i := 376) (by decide +kernel) (by decide +kernel), Gd_in (i := 65) (by decide +kernel) (by decide +kernel), ⟨fun _ => ⟨Gd_in (i := 374) (by decide +kernel) (by decide +kernel), Gd_in (i := 375) (by decide +kernel) (by decide +kernel)⟩, fun h => absurd h (by decide +kernel)⟩, by decide +kernel, ⟨by decide +kernel, by decide +kernel⟩, rfl, rfl⟩
def oX7_land : Cd := [(16, [(0, (.aload_n 0, 1, 0, 0, 0, 0, 0, m0)), (1, (.getfield 30, 4, 336, 4, 7, 0, 0, m0)), (4, (.aload_n 0, 5, 0, 0, 0, 0, 0, m0)), (5, (.getfield 16, 8, 333, 1, 7, 0, 0, m0)), (8, (.invokevirtual 71, 11, 377, 2, 6, 0, 0, mX6_readText)), (11, (.ifCond .ne 14, 14, 25, 0, 0, 0, 0, m0)), (14, (.bipush (-10), 16, 0, 0, 0, (-10), 0, m0)), (16, (.aload_n 0, 17, 0, 0, 0, 0, 0, m0))]),
  (30, [(17, (.getfield 30, 20, 336, 4, 7, 0, 0, m0)), (20, (.getfield 75, 23, 209, 3, 6, 0, 0, m0)), (23, (.isub, 24, 0, 0, 0, 0, 0, m0)), (24, (.ireturn, 25, 0, 0, 0, 0, 0, m0)), (25, (.aload_n 0, 26, 0, 0, 0, 0, 0, m0)), (26, (.getfield 16, 29, 333, 1, 7, 0, 0, m0)), (29, (.aload_n 0, 30, 0, 0, 0, 0, 0, m0)), (30, (.getfield 10, 33, 332, 0, 7, 0, 0, m0))]),
  (50, [(33, (.getfield 79, 36, 162, 9, 4, 0, 0, m0)), (36, (.putfield 79, 39, 162, 9, 4, 0, 0, m0)), (39, (.aload_n 0, 40, 0, 0, 0, 0, 0, m0)), (40, (.getfield 16, 43, 333, 1, 7, 0, 0, m0)), (43, (.aload_n 0, 44, 0, 0, 0, 0, 0, m0)), (44, (.getfield 10, 47, 332, 0, 7, 0, 0, m0)), (47, (.getfield 82, 50, 165, 10, 4, 0, 0, m0)), (50, (.putfield 82, 53, 165, 10, 4, 0, 0, m0))]),
  (68, [(53, (.aload_n 0, 54, 0, 0, 0, 0, 0, m0)), (54, (.getfield 10, 57, 332, 0, 7, 0, 0, m0)), (57, (.aload_n 0, 58, 0, 0, 0, 0, 0, m0)), (58, (.getfield 16, 61, 333, 1, 7, 0, 0, m0)), (61, (.invokevirtual 85, 64, 503, 2, 4, 0, 0, mX4_copyFrom)), (64, (.aload_n 0, 65, 0, 0, 0, 0, 0, m0)), (65, (.getfield 23, 68, 335, 3, 7, 0, 0, m0)), (68, (.iconst 0, 69, 0, 0, 0, 0, 0, m0))]),
  (78, [(69, (.iconst 0, 70, 0, 0, 0, 0, 0, m0)), (70, (.bastore, 71, 0, 0, 0, 0, 0, m0)), (71, (.aload_n 0, 72, 0, 0, 0, 0, 0, m0)), (72, (.getfield 23, 75, 335, 3, 7, 0, 0, m0)), (75, (.iconst 1, 76, 0, 0, 0, 1, 0, m0)), (76, (.iconst 0, 77, 0, 0, 0, 0, 0, m0)), (77, (.bastore, 78, 0, 0, 0, 0, 0, m0)), (78, (.aload_n 0, 79, 0, 0, 0, 0, 0, m0))]),
  (94, [(79, (.getfield 51, 82, 339, 7, 7, 0, 0, m0)), (82, (.iconst 0, 83, 0, 0, 0, 0, 0, m0)), (83, (.putfield 89, 86, 302, 0, 3, 0, 0, m0)), (86, (.aload_n 0, 87, 0, 0, 0, 0, 0, m0)), (87, (.getfield 58, 90, 340, 8, 7, 0, 0, m0)), (90, (.iconst 0, 91, 0, 0, 0, 0, 0, m0)), (91, (.putfield 92, 94, 322, 0, 0, 0, 0, m0)), (94, (.aload_n 0, 95, 0, 0, 0, 0, 0, m0))]),
  (101, [(95, (.getfield 10, 98, 332, 0, 7, 0, 0, m0)), (98, (.getfield 93, 101, 143, 0, 4, 0, 0, m0)), (101, (.ireturn, 102, 0, 0, 0, 0, 0, m0))])]
theorem kX7_land : chkC mX7_land oX7_land = true := by decide +kernel
theorem qX7_fault : OkM mX7_fault := ⟨Gd_in (i := 518) (by decide +kernel) (by decide +kernel), Gd_in (i := 65) (by decide +kernel) (by decide +kernel), ⟨fun _ => ⟨Gd_in (i := 516) (by decide +kernel) (by decide +kernel), Gd_in (i := 517) (by decide +kernel) (by decide +kernel)⟩, fun h => absurd h (by decide +kernel)⟩, by decide +kernel, ⟨by decide +kernel, by decide +kernel⟩, rfl, rfl⟩
def oX7_fault : Cd := [(7, [(0, (.aload_n 0, 1, 0, 0, 0, 0, 0, m0)), (1, (.getfield 30, 4, 336, 4, 7, 0, 0, m0)), (4, (.getfield 96, 7, 211, 4, 6, 0, 0, m0)), (7, (.ireturn, 8, 0, 0, 0, 0, 0, m0))])]
theorem kX7_fault : chkC mX7_fault oX7_fault = true := by decide +kernel
theorem qX7_told : OkM mX7_told := ⟨Gd_in (i := 522) (by decide +kernel) (by decide +kernel), Gd_in (i := 65) (by decide +kernel) (by decide +kernel), ⟨fun _ => ⟨Gd_in (i := 520) (by decide +kernel) (by decide +kernel), Gd_in (i := 521) (by decide +kernel) (by decide +kernel)⟩, fun h => absurd h (by decide +kernel)⟩, by decide +kernel, ⟨by decide +kernel, by decide +kernel⟩, rfl, rfl⟩
def oX7_told : Cd := [(65, [(0, (.iload_n 1, 1, 0, 1, 0, 0, 0, m0)), (1, (.tableswitch 148 0 9 #[55, 63, 74, 82, 90, 98, 113, 121, 132, 140], 56, 0, 0, 55, 0, 0, m0)), (56, (.aload_n 0, 57, 0, 0, 0, 0, 0, m0)), (57, (.getfield 10, 60, 332, 0, 7, 0, 0, m0)), (60, (.getfield 93, 63, 143, 0, 4, 0, 0, m0)), (63, (.ireturn, 64, 0, 0, 0, 0, 0, m0)), (64, (.aload_n 0, 65, 0, 0, 0, 0, 0, m0)), (65, (.getfield 10, 68, 332, 0, 7, 0, 0, m0))]),
  (83, [(68, (.getfield 99, 71, 170, 11, 4, 0, 0, m0)), (71, (.getfield 103, 74, 103, 0, 1, 0, 0, m0)), (74, (.ireturn, 75, 0, 0, 0, 0, 0, m0)), (75, (.aload_n 0, 76, 0, 0, 0, 0, 0, m0)), (76, (.getfield 30, 79, 336, 4, 7, 0, 0, m0)), (79, (.getfield 106, 82, 206, 1, 6, 0, 0, m0)), (82, (.ireturn, 83, 0, 0, 0, 0, 0, m0)), (83, (.aload_n 0, 84, 0, 0, 0, 0, 0, m0))]),
  (99, [(84, (.getfield 10, 87, 332, 0, 7, 0, 0, m0)), (87, (.getfield 109, 90, 159, 7, 4, 0, 0, m0)), (90, (.ireturn, 91, 0, 0, 0, 0, 0, m0)), (91, (.aload_n 0, 92, 0, 0, 0, 0, 0, m0)), (92, (.getfield 10, 95, 332, 0, 7, 0, 0, m0)), (95, (.getfield 79, 98, 162, 9, 4, 0, 0, m0)), (98, (.ireturn, 99, 0, 0, 0, 0, 0, m0)), (99, (.aload_n 0, 100, 0, 0, 0, 0, 0, m0))]),
  (115, [(100, (.getfield 10, 103, 332, 0, 7, 0, 0, m0)), (103, (.aload_n 0, 104, 0, 0, 0, 0, 0, m0)), (104, (.getfield 10, 107, 332, 0, 7, 0, 0, m0)), (107, (.getfield 109, 110, 159, 7, 4, 0, 0, m0)), (110, (.invokevirtual 112, 113, 523, 2, 4, 0, 0, mX4_harvestOf)), (113, (.ireturn, 114, 0, 0, 0, 0, 0, m0)), (114, (.aload_n 0, 115, 0, 0, 0, 0, 0, m0)), (115, (.getfield 10, 118, 332, 0, 7, 0, 0, m0))]),
  (133, [(118, (.getfield 116, 121, 161, 8, 4, 0, 0, m0)), (121, (.ireturn, 122, 0, 0, 0, 0, 0, m0)), (122, (.aload_n 0, 123, 0, 0, 0, 0, 0, m0)), (123, (.getfield 10, 126, 332, 0, 7, 0, 0, m0)), (126, (.getfield 99, 129, 170, 11, 4, 0, 0, m0)), (129, (.getfield 119, 132, 122, 7, 1, 0, 0, m0)), (132, (.ireturn, 133, 0, 0, 0, 0, 0, m0)), (133, (.aload_n 0, 134, 0, 0, 0, 0, 0, m0))]),
  (149, [(134, (.getfield 51, 137, 339, 7, 7, 0, 0, m0)), (137, (.getfield 89, 140, 302, 0, 3, 0, 0, m0)), (140, (.ireturn, 141, 0, 0, 0, 0, 0, m0)), (141, (.aload_n 0, 142, 0, 0, 0, 0, 0, m0)), (142, (.getfield 58, 145, 340, 8, 7, 0, 0, m0)), (145, (.getfield 92, 148, 322, 0, 0, 0, 0, m0)), (148, (.ireturn, 149, 0, 0, 0, 0, 0, m0)), (149, (.ldc 66, 151, 367, 0, 0, (-1000000002), 0, m0))]),
  (151, [(151, (.ireturn, 152, 0, 0, 0, 0, 0, m0))])]
theorem kX7_told : chkC mX7_told oX7_told = true := by decide +kernel
theorem qX7_house : OkM mX7_house := ⟨Gd_in (i := 530) (by decide +kernel) (by decide +kernel), Gd_in (i := 65) (by decide +kernel) (by decide +kernel), ⟨fun _ => ⟨Gd_in (i := 528) (by decide +kernel) (by decide +kernel), Gd_in (i := 529) (by decide +kernel) (by decide +kernel)⟩, fun h => absurd h (by decide +kernel)⟩, by decide +kernel, ⟨by decide +kernel, by decide +kernel⟩, rfl, rfl⟩
def oX7_house : Cd := [(14, [(0, (.aload_n 0, 1, 0, 0, 0, 0, 0, m0)), (1, (.getfield 10, 4, 332, 0, 7, 0, 0, m0)), (4, (.iload_n 1, 5, 0, 1, 0, 0, 0, m0)), (5, (.invokevirtual 122, 8, 531, 2, 4, 0, 0, mX4_hasHouse)), (8, (.ifCond .ne 6, 11, 14, 0, 0, 0, 0, m0)), (11, (.ldc 126, 13, 535, 0, 0, (-1000000001), 0, m0)), (13, (.ireturn, 14, 0, 0, 0, 0, 0, m0)), (14, (.iload_n 2, 15, 0, 2, 0, 0, 0, m0))]),
  (58, [(15, (.tableswitch 101 0 4 #[33, 43, 53, 63, 75], 48, 0, 0, 33, 0, 0, m0)), (48, (.aload_n 0, 49, 0, 0, 0, 0, 0, m0)), (49, (.getfield 10, 52, 332, 0, 7, 0, 0, m0)), (52, (.getfield 127, 55, 147, 1, 4, 0, 0, m0)), (55, (.iload_n 1, 56, 0, 1, 0, 0, 0, m0)), (56, (.iaload, 57, 0, 0, 0, 0, 0, m0)), (57, (.ireturn, 58, 0, 0, 0, 0, 0, m0)), (58, (.aload_n 0, 59, 0, 0, 0, 0, 0, m0))]),
  (72, [(59, (.getfield 10, 62, 332, 0, 7, 0, 0, m0)), (62, (.getfield 130, 65, 149, 2, 4, 0, 0, m0)), (65, (.iload_n 1, 66, 0, 1, 0, 0, 0, m0)), (66, (.iaload, 67, 0, 0, 0, 0, 0, m0)), (67, (.ireturn, 68, 0, 0, 0, 0, 0, m0)), (68, (.aload_n 0, 69, 0, 0, 0, 0, 0, m0)), (69, (.getfield 10, 72, 332, 0, 7, 0, 0, m0)), (72, (.getfield 133, 75, 152, 3, 4, 0, 0, m0))]),
  (86, [(75, (.iload_n 1, 76, 0, 1, 0, 0, 0, m0)), (76, (.iaload, 77, 0, 0, 0, 0, 0, m0)), (77, (.ireturn, 78, 0, 0, 0, 0, 0, m0)), (78, (.aload_n 0, 79, 0, 0, 0, 0, 0, m0)), (79, (.getfield 10, 82, 332, 0, 7, 0, 0, m0)), (82, (.getfield 99, 85, 170, 11, 4, 0, 0, m0)), (85, (.iload_n 1, 86, 0, 1, 0, 0, 0, m0)), (86, (.invokevirtual 136, 89, 536, 2, 1, 0, 0, mX1_setOf))]),
  (102, [(89, (.ireturn, 90, 0, 0, 0, 0, 0, m0)), (90, (.aload_n 0, 91, 0, 0, 0, 0, 0, m0)), (91, (.getfield 10, 94, 332, 0, 7, 0, 0, m0)), (94, (.getfield 99, 97, 170, 11, 4, 0, 0, m0)), (97, (.iload_n 1, 98, 0, 1, 0, 0, 0, m0)), (98, (.aload_n 0, 99, 0, 0, 0, 0, 0, m0)), (99, (.getfield 10, 102, 332, 0, 7, 0, 0, m0)), (102, (.getfield 79, 105, 162, 9, 4, 0, 0, m0))]),
  (118, [(105, (.aload_n 0, 106, 0, 0, 0, 0, 0, m0)), (106, (.getfield 10, 109, 332, 0, 7, 0, 0, m0)), (109, (.getfield 109, 112, 159, 7, 4, 0, 0, m0)), (112, (.invokevirtual 139, 115, 548, 4, 1, 0, 0, mX1_setToOpen)), (115, (.ireturn, 116, 0, 0, 0, 0, 0, m0)), (116, (.ldc 66, 118, 367, 0, 0, (-1000000002), 0, m0)), (118, (.ireturn, 119, 0, 0, 0, 0, 0, m0))])]
theorem kX7_house : chkC mX7_house oX7_house = true := by decide +kernel
theorem qX7_jar : OkM mX7_jar := ⟨Gd_in (i := 559) (by decide +kernel) (by decide +kernel), Gd_in (i := 65) (by decide +kernel) (by decide +kernel), ⟨fun _ => ⟨Gd_in (i := 557) (by decide +kernel) (by decide +kernel), Gd_in (i := 558) (by decide +kernel) (by decide +kernel)⟩, fun h => absurd h (by decide +kernel)⟩, by decide +kernel, ⟨by decide +kernel, by decide +kernel⟩, rfl, rfl⟩
def oX7_jar : Cd := [(13, [(0, (.aload_n 0, 1, 0, 0, 0, 0, 0, m0)), (1, (.getfield 10, 4, 332, 0, 7, 0, 0, m0)), (4, (.getfield 99, 7, 170, 11, 4, 0, 0, m0)), (7, (.astore_n 3, 8, 0, 3, 0, 0, 0, m0)), (8, (.aload_n 3, 9, 0, 3, 0, 0, 0, m0)), (9, (.iload_n 1, 10, 0, 1, 0, 0, 0, m0)), (10, (.invokevirtual 143, 13, 560, 2, 1, 0, 0, mX1_has)), (13, (.ifCond .ne 6, 16, 19, 0, 0, 0, 0, m0))]),
  (73, [(16, (.ldc 126, 18, 535, 0, 0, (-1000000001), 0, m0)), (18, (.ireturn, 19, 0, 0, 0, 0, 0, m0)), (19, (.iload_n 2, 20, 0, 2, 0, 0, 0, m0)), (20, (.tableswitch 123 0 7 #[48, 55, 62, 69, 76, 83, 96, 109], 68, 0, 0, 48, 0, 0, m0)), (68, (.aload_n 3, 69, 0, 3, 0, 0, 0, m0)), (69, (.getfield 146, 72, 106, 1, 1, 0, 0, m0)), (72, (.iload_n 1, 73, 0, 1, 0, 0, 0, m0)), (73, (.iaload, 74, 0, 0, 0, 0, 0, m0))]),
  (83, [(74, (.ireturn, 75, 0, 0, 0, 0, 0, m0)), (75, (.aload_n 3, 76, 0, 3, 0, 0, 0, m0)), (76, (.getfield 149, 79, 109, 2, 1, 0, 0, m0)), (79, (.iload_n 1, 80, 0, 1, 0, 0, 0, m0)), (80, (.iaload, 81, 0, 0, 0, 0, 0, m0)), (81, (.ireturn, 82, 0, 0, 0, 0, 0, m0)), (82, (.aload_n 3, 83, 0, 3, 0, 0, 0, m0)), (83, (.getfield 152, 86, 112, 3, 1, 0, 0, m0))]),
  (95, [(86, (.iload_n 1, 87, 0, 1, 0, 0, 0, m0)), (87, (.iaload, 88, 0, 0, 0, 0, 0, m0)), (88, (.ireturn, 89, 0, 0, 0, 0, 0, m0)), (89, (.aload_n 3, 90, 0, 3, 0, 0, 0, m0)), (90, (.getfield 155, 93, 115, 4, 1, 0, 0, m0)), (93, (.iload_n 1, 94, 0, 1, 0, 0, 0, m0)), (94, (.iaload, 95, 0, 0, 0, 0, 0, m0)), (95, (.ireturn, 96, 0, 0, 0, 0, 0, m0))]),
  (105, [(96, (.aload_n 3, 97, 0, 3, 0, 0, 0, m0)), (97, (.getfield 158, 100, 117, 5, 1, 0, 0, m0)), (100, (.iload_n 1, 101, 0, 1, 0, 0, 0, m0)), (101, (.iaload, 102, 0, 0, 0, 0, 0, m0)), (102, (.ireturn, 103, 0, 0, 0, 0, 0, m0)), (103, (.aload_n 3, 104, 0, 3, 0, 0, 0, m0)), (104, (.iload_n 1, 105, 0, 1, 0, 0, 0, m0)), (105, (.aload_n 0, 106, 0, 0, 0, 0, 0, m0))]),
  (119, [(106, (.getfield 10, 109, 332, 0, 7, 0, 0, m0)), (109, (.getfield 109, 112, 159, 7, 4, 0, 0, m0)), (112, (.invokevirtual 161, 115, 561, 3, 1, 0, 0, mX1_ageOf)), (115, (.ireturn, 116, 0, 0, 0, 0, 0, m0)), (116, (.aload_n 3, 117, 0, 3, 0, 0, 0, m0)), (117, (.iload_n 1, 118, 0, 1, 0, 0, 0, m0)), (118, (.aload_n 0, 119, 0, 0, 0, 0, 0, m0)), (119, (.getfield 10, 122, 332, 0, 7, 0, 0, m0))]),
  (137, [(122, (.getfield 109, 125, 159, 7, 4, 0, 0, m0)), (125, (.invokevirtual 165, 128, 565, 3, 1, 0, 0, mX1_filledIn)), (128, (.ireturn, 129, 0, 0, 0, 0, 0, m0)), (129, (.aload_n 3, 130, 0, 3, 0, 0, 0, m0)), (130, (.iload_n 1, 131, 0, 1, 0, 0, 0, m0)), (131, (.invokevirtual 168, 134, 572, 2, 1, 0, 0, mX1_isGone)), (134, (.ifCond .eq 7, 137, 141, 0, 0, 0, 0, m0)), (137, (.iconst 1, 138, 0, 0, 0, 1, 0, m0))]),
  (145, [(138, (.goto 4, 141, 142, 0, 0, 0, 0, m0)), (141, (.iconst 0, 142, 0, 0, 0, 0, 0, m0)), (142, (.ireturn, 143, 0, 0, 0, 0, 0, m0)), (143, (.ldc 66, 145, 367, 0, 0, (-1000000002), 0, m0)), (145, (.ireturn, 146, 0, 0, 0, 0, 0, m0))])]
theorem kX7_jar : chkC mX7_jar oX7_jar = true := by decide +kernel
theorem qX7_law : OkM mX7_law := ⟨Gd_in (i := 579) (by decide +kernel) (by decide +kernel), Gd_in (i := 65) (by decide +kernel) (by decide +kernel), ⟨fun _ => ⟨Gd_in (i := 577) (by decide +kernel) (by decide +kernel), Gd_in (i := 578) (by decide +kernel) (by decide +kernel)⟩, fun h => absurd h (by decide +kernel)⟩, by decide +kernel, ⟨by decide +kernel, by decide +kernel⟩, rfl, rfl⟩
def oX7_law : Cd := [(12, [(0, (.iload_n 1, 1, 0, 1, 0, 0, 0, m0)), (1, (.ifCond .lt 8, 4, 9, 0, 0, 0, 0, m0)), (4, (.iload_n 1, 5, 0, 1, 0, 0, 0, m0)), (5, (.iconst 2, 6, 0, 0, 0, 2, 0, m0)), (6, (.if_icmp .le 6, 9, 12, 0, 0, 0, 0, m0)), (9, (.ldc 66, 11, 367, 0, 0, (-1000000002), 0, m0)), (11, (.ireturn, 12, 0, 0, 0, 0, 0, m0)), (12, (.aload_n 0, 13, 0, 0, 0, 0, 0, m0))]),
  (28, [(13, (.getfield 10, 16, 332, 0, 7, 0, 0, m0)), (16, (.getfield 79, 19, 162, 9, 4, 0, 0, m0)), (19, (.istore_n 2, 20, 0, 2, 0, 0, 0, m0)), (20, (.aload_n 0, 21, 0, 0, 0, 0, 0, m0)), (21, (.getfield 10, 24, 332, 0, 7, 0, 0, m0)), (24, (.iload_n 1, 25, 0, 1, 0, 0, 0, m0)), (25, (.putfield 79, 28, 162, 9, 4, 0, 0, m0)), (28, (.iload_n 2, 29, 0, 2, 0, 0, 0, m0))]),
  (29, [(29, (.ireturn, 30, 0, 0, 0, 0, 0, m0))])]
theorem kX7_law : chkC mX7_law oX7_law = true := by decide +kernel
theorem qX7_seals : OkM mX7_seals := ⟨Gd_in (i := 583) (by decide +kernel) (by decide +kernel), Gd_in (i := 65) (by decide +kernel) (by decide +kernel), ⟨fun _ => ⟨Gd_in (i := 581) (by decide +kernel) (by decide +kernel), Gd_in (i := 582) (by decide +kernel) (by decide +kernel)⟩, fun h => absurd h (by decide +kernel)⟩, by decide +kernel, ⟨by decide +kernel, by decide +kernel⟩, rfl, rfl⟩
def oX7_seals : Cd := [(14, [(0, (.aload_n 0, 1, 0, 0, 0, 0, 0, m0)), (1, (.getfield 10, 4, 332, 0, 7, 0, 0, m0)), (4, (.iload_n 1, 5, 0, 1, 0, 0, 0, m0)), (5, (.invokevirtual 122, 8, 531, 2, 4, 0, 0, mX4_hasHouse)), (8, (.ifCond .ne 6, 11, 14, 0, 0, 0, 0, m0)), (11, (.ldc 126, 13, 535, 0, 0, (-1000000001), 0, m0)), (13, (.ireturn, 14, 0, 0, 0, 0, 0, m0)), (14, (.iload_n 2, 15, 0, 2, 0, 0, 0, m0))]),
  (28, [(15, (.ifCond .lt 9, 18, 24, 0, 0, 0, 0, m0)), (18, (.iload_n 2, 19, 0, 2, 0, 0, 0, m0)), (19, (.bipush 20, 21, 0, 0, 0, 20, 0, m0)), (21, (.if_icmp .le 6, 24, 27, 0, 0, 0, 0, m0)), (24, (.ldc 66, 26, 367, 0, 0, (-1000000002), 0, m0)), (26, (.ireturn, 27, 0, 0, 0, 0, 0, m0)), (27, (.aload_n 0, 28, 0, 0, 0, 0, 0, m0)), (28, (.getfield 10, 31, 332, 0, 7, 0, 0, m0))]),
  (44, [(31, (.getfield 130, 34, 149, 2, 4, 0, 0, m0)), (34, (.iload_n 1, 35, 0, 1, 0, 0, 0, m0)), (35, (.iaload, 36, 0, 0, 0, 0, 0, m0)), (36, (.istore_n 3, 37, 0, 3, 0, 0, 0, m0)), (37, (.aload_n 0, 38, 0, 0, 0, 0, 0, m0)), (38, (.getfield 10, 41, 332, 0, 7, 0, 0, m0)), (41, (.getfield 130, 44, 149, 2, 4, 0, 0, m0)), (44, (.iload_n 1, 45, 0, 1, 0, 0, 0, m0))]),
  (48, [(45, (.iload_n 2, 46, 0, 2, 0, 0, 0, m0)), (46, (.iastore, 47, 0, 0, 0, 0, 0, m0)), (47, (.iload_n 3, 48, 0, 3, 0, 0, 0, m0)), (48, (.ireturn, 49, 0, 0, 0, 0, 0, m0))])]
theorem kX7_seals : chkC mX7_seals oX7_seals = true := by decide +kernel
theorem qX7_give : OkM mX7_give := ⟨Gd_in (i := 587) (by decide +kernel) (by decide +kernel), Gd_in (i := 65) (by decide +kernel) (by decide +kernel), ⟨fun _ => ⟨Gd_in (i := 585) (by decide +kernel) (by decide +kernel), Gd_in (i := 586) (by decide +kernel) (by decide +kernel)⟩, fun h => absurd h (by decide +kernel)⟩, by decide +kernel, ⟨by decide +kernel, by decide +kernel⟩, rfl, rfl⟩
def oX7_give : Cd := [(13, [(0, (.aload_n 0, 1, 0, 0, 0, 0, 0, m0)), (1, (.getfield 10, 4, 332, 0, 7, 0, 0, m0)), (4, (.getfield 99, 7, 170, 11, 4, 0, 0, m0)), (7, (.astore_n 3, 8, 0, 3, 0, 0, 0, m0)), (8, (.aload_n 3, 9, 0, 3, 0, 0, 0, m0)), (9, (.iload_n 1, 10, 0, 1, 0, 0, 0, m0)), (10, (.invokevirtual 143, 13, 560, 2, 1, 0, 0, mX1_has)), (13, (.ifCond .eq 14, 16, 27, 0, 0, 0, 0, m0))]),
  (30, [(16, (.aload_n 0, 17, 0, 0, 0, 0, 0, m0)), (17, (.getfield 10, 20, 332, 0, 7, 0, 0, m0)), (20, (.iload_n 2, 21, 0, 2, 0, 0, 0, m0)), (21, (.invokevirtual 122, 24, 531, 2, 4, 0, 0, mX4_hasHouse)), (24, (.ifCond .ne 6, 27, 30, 0, 0, 0, 0, m0)), (27, (.ldc 126, 29, 535, 0, 0, (-1000000001), 0, m0)), (29, (.ireturn, 30, 0, 0, 0, 0, 0, m0)), (30, (.aload_n 3, 31, 0, 3, 0, 0, 0, m0))]),
  (45, [(31, (.iload_n 1, 32, 0, 1, 0, 0, 0, m0)), (32, (.invokevirtual 168, 35, 572, 2, 1, 0, 0, mX1_isGone)), (35, (.ifCond .eq 6, 38, 41, 0, 0, 0, 0, m0)), (38, (.ldc 171, 40, 588, 0, 0, (-1000000003), 0, m0)), (40, (.ireturn, 41, 0, 0, 0, 0, 0, m0)), (41, (.aload_n 3, 42, 0, 3, 0, 0, 0, m0)), (42, (.getfield 149, 45, 109, 2, 1, 0, 0, m0)), (45, (.iload_n 1, 46, 0, 1, 0, 0, 0, m0))]),
  (56, [(46, (.iaload, 47, 0, 0, 0, 0, 0, m0)), (47, (.istore 4, 49, 0, 4, 0, 0, 0, m0)), (49, (.aload_n 3, 50, 0, 3, 0, 0, 0, m0)), (50, (.getfield 149, 53, 109, 2, 1, 0, 0, m0)), (53, (.iload_n 1, 54, 0, 1, 0, 0, 0, m0)), (54, (.iload_n 2, 55, 0, 2, 0, 0, 0, m0)), (55, (.iastore, 56, 0, 0, 0, 0, 0, m0)), (56, (.iload 4, 58, 0, 4, 0, 0, 0, m0))]),
  (58, [(58, (.ireturn, 59, 0, 0, 0, 0, 0, m0))])]
theorem kX7_give : chkC mX7_give oX7_give = true := by decide +kernel
theorem qX7_label : OkM mX7_label := ⟨Gd_in (i := 592) (by decide +kernel) (by decide +kernel), Gd_in (i := 65) (by decide +kernel) (by decide +kernel), ⟨fun _ => ⟨Gd_in (i := 590) (by decide +kernel) (by decide +kernel), Gd_in (i := 591) (by decide +kernel) (by decide +kernel)⟩, fun h => absurd h (by decide +kernel)⟩, by decide +kernel, ⟨by decide +kernel, by decide +kernel⟩, rfl, rfl⟩
def oX7_label : Cd := [(13, [(0, (.aload_n 0, 1, 0, 0, 0, 0, 0, m0)), (1, (.getfield 10, 4, 332, 0, 7, 0, 0, m0)), (4, (.getfield 99, 7, 170, 11, 4, 0, 0, m0)), (7, (.astore_n 3, 8, 0, 3, 0, 0, 0, m0)), (8, (.aload_n 3, 9, 0, 3, 0, 0, 0, m0)), (9, (.iload_n 1, 10, 0, 1, 0, 0, 0, m0)), (10, (.invokevirtual 143, 13, 560, 2, 1, 0, 0, mX1_has)), (13, (.ifCond .ne 6, 16, 19, 0, 0, 0, 0, m0))]),
  (30, [(16, (.ldc 126, 18, 535, 0, 0, (-1000000001), 0, m0)), (18, (.ireturn, 19, 0, 0, 0, 0, 0, m0)), (19, (.iload_n 2, 20, 0, 2, 0, 0, 0, m0)), (20, (.ifCond .lt 10, 23, 30, 0, 0, 0, 0, m0)), (23, (.iload_n 2, 24, 0, 2, 0, 0, 0, m0)), (24, (.sipush 9999, 27, 0, 0, 0, 9999, 0, m0)), (27, (.if_icmp .le 6, 30, 33, 0, 0, 0, 0, m0)), (30, (.ldc 66, 32, 367, 0, 0, (-1000000002), 0, m0))]),
  (44, [(32, (.ireturn, 33, 0, 0, 0, 0, 0, m0)), (33, (.aload_n 3, 34, 0, 3, 0, 0, 0, m0)), (34, (.iload_n 1, 35, 0, 1, 0, 0, 0, m0)), (35, (.invokevirtual 168, 38, 572, 2, 1, 0, 0, mX1_isGone)), (38, (.ifCond .eq 6, 41, 44, 0, 0, 0, 0, m0)), (41, (.ldc 171, 43, 588, 0, 0, (-1000000003), 0, m0)), (43, (.ireturn, 44, 0, 0, 0, 0, 0, m0)), (44, (.aload_n 3, 45, 0, 3, 0, 0, 0, m0))]),
  (57, [(45, (.getfield 152, 48, 112, 3, 1, 0, 0, m0)), (48, (.iload_n 1, 49, 0, 1, 0, 0, 0, m0)), (49, (.iaload, 50, 0, 0, 0, 0, 0, m0)), (50, (.istore 4, 52, 0, 4, 0, 0, 0, m0)), (52, (.aload_n 3, 53, 0, 3, 0, 0, 0, m0)), (53, (.getfield 152, 56, 112, 3, 1, 0, 0, m0)), (56, (.iload_n 1, 57, 0, 1, 0, 0, 0, m0)), (57, (.iload_n 2, 58, 0, 2, 0, 0, 0, m0))]),
  (61, [(58, (.iastore, 59, 0, 0, 0, 0, 0, m0)), (59, (.iload 4, 61, 0, 4, 0, 0, 0, m0)), (61, (.ireturn, 62, 0, 0, 0, 0, 0, m0))])]
theorem kX7_label : chkC mX7_label oX7_label = true := by decide +kernel
theorem qX7_open : OkM mX7_open := ⟨Gd_in (i := 596) (by decide +kernel) (by decide +kernel), Gd_in (i := 65) (by decide +kernel) (by decide +kernel), ⟨fun _ => ⟨Gd_in (i := 594) (by decide +kernel) (by decide +kernel), Gd_in (i := 595) (by decide +kernel) (by decide +kernel)⟩, fun h => absurd h (by decide +kernel)⟩, by decide +kernel, ⟨by decide +kernel, by decide +kernel⟩, rfl, rfl⟩
def oX7_open : Cd := [(13, [(0, (.aload_n 0, 1, 0, 0, 0, 0, 0, m0)), (1, (.getfield 10, 4, 332, 0, 7, 0, 0, m0)), (4, (.getfield 99, 7, 170, 11, 4, 0, 0, m0)), (7, (.astore_n 2, 8, 0, 2, 0, 0, 0, m0)), (8, (.aload_n 2, 9, 0, 2, 0, 0, 0, m0)), (9, (.iload_n 1, 10, 0, 1, 0, 0, 0, m0)), (10, (.invokevirtual 143, 13, 560, 2, 1, 0, 0, mX1_has)), (13, (.ifCond .ne 6, 16, 19, 0, 0, 0, 0, m0))]),
  (28, [(16, (.ldc 126, 18, 535, 0, 0, (-1000000001), 0, m0)), (18, (.ireturn, 19, 0, 0, 0, 0, 0, m0)), (19, (.aload_n 2, 20, 0, 2, 0, 0, 0, m0)), (20, (.iload_n 1, 21, 0, 1, 0, 0, 0, m0)), (21, (.invokevirtual 168, 24, 572, 2, 1, 0, 0, mX1_isGone)), (24, (.ifCond .ne 25, 27, 49, 0, 0, 0, 0, m0)), (27, (.aload_n 2, 28, 0, 2, 0, 0, 0, m0)), (28, (.iload_n 1, 29, 0, 1, 0, 0, 0, m0))]),
  (46, [(29, (.aload_n 0, 30, 0, 0, 0, 0, 0, m0)), (30, (.getfield 10, 33, 332, 0, 7, 0, 0, m0)), (33, (.getfield 79, 36, 162, 9, 4, 0, 0, m0)), (36, (.aload_n 0, 37, 0, 0, 0, 0, 0, m0)), (37, (.getfield 10, 40, 332, 0, 7, 0, 0, m0)), (40, (.getfield 109, 43, 159, 7, 4, 0, 0, m0)), (43, (.invokevirtual 172, 46, 597, 4, 1, 0, 0, mX1_mayBeOpened)), (46, (.ifCond .ne 6, 49, 52, 0, 0, 0, 0, m0))]),
  (59, [(49, (.ldc 171, 51, 588, 0, 0, (-1000000003), 0, m0)), (51, (.ireturn, 52, 0, 0, 0, 0, 0, m0)), (52, (.aload_n 2, 53, 0, 2, 0, 0, 0, m0)), (53, (.getfield 149, 56, 109, 2, 1, 0, 0, m0)), (56, (.iload_n 1, 57, 0, 1, 0, 0, 0, m0)), (57, (.iaload, 58, 0, 0, 0, 0, 0, m0)), (58, (.istore_n 3, 59, 0, 3, 0, 0, 0, m0)), (59, (.aload_n 2, 60, 0, 2, 0, 0, 0, m0))]),
  (74, [(60, (.iload_n 1, 61, 0, 1, 0, 0, 0, m0)), (61, (.aload_n 0, 62, 0, 0, 0, 0, 0, m0)), (62, (.getfield 10, 65, 332, 0, 7, 0, 0, m0)), (65, (.getfield 109, 68, 159, 7, 4, 0, 0, m0)), (68, (.invokevirtual 176, 71, 598, 3, 1, 0, 0, mX1_takeOut)), (71, (.istore 4, 73, 0, 4, 0, 0, 0, m0)), (73, (.aload_n 0, 74, 0, 0, 0, 0, 0, m0)), (74, (.getfield 10, 77, 332, 0, 7, 0, 0, m0))]),
  (92, [(77, (.iload_n 3, 78, 0, 3, 0, 0, 0, m0)), (78, (.invokevirtual 122, 81, 531, 2, 4, 0, 0, mX4_hasHouse)), (81, (.ifCond .eq 17, 84, 98, 0, 0, 0, 0, m0)), (84, (.aload_n 0, 85, 0, 0, 0, 0, 0, m0)), (85, (.getfield 10, 88, 332, 0, 7, 0, 0, m0)), (88, (.getfield 133, 91, 152, 3, 4, 0, 0, m0)), (91, (.iload_n 3, 92, 0, 3, 0, 0, 0, m0)), (92, (.dup2, 93, 0, 0, 0, 0, 0, m0))]),
  (100, [(93, (.iaload, 94, 0, 0, 0, 0, 0, m0)), (94, (.iload 4, 96, 0, 4, 0, 0, 0, m0)), (96, (.iadd, 97, 0, 0, 0, 0, 0, m0)), (97, (.iastore, 98, 0, 0, 0, 0, 0, m0)), (98, (.iload 4, 100, 0, 4, 0, 0, 0, m0)), (100, (.ireturn, 101, 0, 0, 0, 0, 0, m0))])]
theorem kX7_open : chkC mX7_open oX7_open = true := by decide +kernel
theorem qX7_year : OkM mX7_year := ⟨Gd_in (i := 606) (by decide +kernel) (by decide +kernel), Gd_in (i := 65) (by decide +kernel) (by decide +kernel), ⟨fun _ => ⟨Gd_in (i := 604) (by decide +kernel) (by decide +kernel), Gd_in (i := 605) (by decide +kernel) (by decide +kernel)⟩, fun h => absurd h (by decide +kernel)⟩, by decide +kernel, ⟨by decide +kernel, by decide +kernel⟩, rfl, rfl⟩
def oX7_year : Cd := [(13, [(0, (.iload_n 1, 1, 0, 1, 0, 0, 0, m0)), (1, (.iconst 1, 2, 0, 0, 0, 1, 0, m0)), (2, (.if_icmp .lt 9, 5, 11, 0, 0, 0, 0, m0)), (5, (.iload_n 1, 6, 0, 1, 0, 0, 0, m0)), (6, (.bipush 99, 8, 0, 0, 0, 99, 0, m0)), (8, (.if_icmp .le 6, 11, 14, 0, 0, 0, 0, m0)), (11, (.ldc 66, 13, 367, 0, 0, (-1000000002), 0, m0)), (13, (.ireturn, 14, 0, 0, 0, 0, 0, m0))]),
  (23, [(14, (.aload_n 0, 15, 0, 0, 0, 0, 0, m0)), (15, (.getfield 10, 18, 332, 0, 7, 0, 0, m0)), (18, (.iload_n 1, 19, 0, 1, 0, 0, 0, m0)), (19, (.iconst 0, 20, 0, 0, 0, 0, 0, m0)), (20, (.invokevirtual 179, 23, 607, 3, 4, 0, 0, mX4_passYears)), (23, (.ireturn, 24, 0, 0, 0, 0, 0, m0))])]
theorem kX7_year : chkC mX7_year oX7_year = true := by decide +kernel
theorem qX7_drift : OkM mX7_drift := ⟨Gd_in (i := 645) (by decide +kernel) (by decide +kernel), Gd_in (i := 65) (by decide +kernel) (by decide +kernel), ⟨fun _ => ⟨Gd_in (i := 643) (by decide +kernel) (by decide +kernel), Gd_in (i := 644) (by decide +kernel) (by decide +kernel)⟩, fun h => absurd h (by decide +kernel)⟩, by decide +kernel, ⟨by decide +kernel, by decide +kernel⟩, rfl, rfl⟩
def oX7_drift : Cd := [(13, [(0, (.iload_n 1, 1, 0, 1, 0, 0, 0, m0)), (1, (.iconst 1, 2, 0, 0, 0, 1, 0, m0)), (2, (.if_icmp .lt 9, 5, 11, 0, 0, 0, 0, m0)), (5, (.iload_n 1, 6, 0, 1, 0, 0, 0, m0)), (6, (.bipush 99, 8, 0, 0, 0, 99, 0, m0)), (8, (.if_icmp .le 6, 11, 14, 0, 0, 0, 0, m0)), (11, (.ldc 66, 13, 367, 0, 0, (-1000000002), 0, m0)), (13, (.ireturn, 14, 0, 0, 0, 0, 0, m0))]),
  (23, [(14, (.aload_n 0, 15, 0, 0, 0, 0, 0, m0)), (15, (.getfield 10, 18, 332, 0, 7, 0, 0, m0)), (18, (.iload_n 1, 19, 0, 1, 0, 0, 0, m0)), (19, (.iconst 1, 20, 0, 0, 0, 1, 0, m0)), (20, (.invokevirtual 179, 23, 607, 3, 4, 0, 0, mX4_passYears)), (23, (.ireturn, 24, 0, 0, 0, 0, 0, m0))])]
theorem kX7_drift : chkC mX7_drift oX7_drift = true := by decide +kernel
theorem qX7_plan : OkM mX7_plan := ⟨Gd_in (i := 649) (by decide +kernel) (by decide +kernel), Gd_in (i := 65) (by decide +kernel) (by decide +kernel), ⟨fun _ => ⟨Gd_in (i := 647) (by decide +kernel) (by decide +kernel), Gd_in (i := 648) (by decide +kernel) (by decide +kernel)⟩, fun h => absurd h (by decide +kernel)⟩, by decide +kernel, ⟨by decide +kernel, by decide +kernel⟩, rfl, rfl⟩
def oX7_plan : Cd := [(14, [(0, (.aload_n 0, 1, 0, 0, 0, 0, 0, m0)), (1, (.getfield 10, 4, 332, 0, 7, 0, 0, m0)), (4, (.iload_n 1, 5, 0, 1, 0, 0, 0, m0)), (5, (.invokevirtual 122, 8, 531, 2, 4, 0, 0, mX4_hasHouse)), (8, (.ifCond .ne 6, 11, 14, 0, 0, 0, 0, m0)), (11, (.ldc 126, 13, 535, 0, 0, (-1000000001), 0, m0)), (13, (.ireturn, 14, 0, 0, 0, 0, 0, m0)), (14, (.iload_n 2, 15, 0, 2, 0, 0, 0, m0))]),
  (27, [(15, (.iconst 1, 16, 0, 0, 0, 1, 0, m0)), (16, (.if_icmp .lt 19, 19, 35, 0, 0, 0, 0, m0)), (19, (.iload_n 2, 20, 0, 2, 0, 0, 0, m0)), (20, (.bipush 12, 22, 0, 0, 0, 12, 0, m0)), (22, (.if_icmp .gt 13, 25, 35, 0, 0, 0, 0, m0)), (25, (.iload_n 3, 26, 0, 3, 0, 0, 0, m0)), (26, (.iconst (-1), 27, 0, 0, 0, (-1), 0, m0)), (27, (.if_icmp .lt 8, 30, 35, 0, 0, 0, 0, m0))]),
  (42, [(30, (.iload_n 3, 31, 0, 3, 0, 0, 0, m0)), (31, (.iload_n 2, 32, 0, 2, 0, 0, 0, m0)), (32, (.if_icmp .lt 6, 35, 38, 0, 0, 0, 0, m0)), (35, (.ldc 66, 37, 367, 0, 0, (-1000000002), 0, m0)), (37, (.ireturn, 38, 0, 0, 0, 0, 0, m0)), (38, (.aload_n 0, 39, 0, 0, 0, 0, 0, m0)), (39, (.getfield 37, 42, 337, 5, 7, 0, 0, m0)), (42, (.aload_n 0, 43, 0, 0, 0, 0, 0, m0))]),
  (56, [(43, (.getfield 10, 46, 332, 0, 7, 0, 0, m0)), (46, (.iload_n 1, 47, 0, 1, 0, 0, 0, m0)), (47, (.iload_n 2, 48, 0, 2, 0, 0, 0, m0)), (48, (.invokevirtual 183, 51, 650, 4, 5, 0, 0, mX5_find)), (51, (.iload_n 3, 52, 0, 3, 0, 0, 0, m0)), (52, (.iconst (-1), 53, 0, 0, 0, (-1), 0, m0)), (53, (.if_icmp .ne 13, 56, 66, 0, 0, 0, 0, m0)), (56, (.aload_n 0, 57, 0, 0, 0, 0, 0, m0))]),
  (74, [(57, (.getfield 37, 60, 337, 5, 7, 0, 0, m0)), (60, (.getfield 187, 63, 245, 7, 5, 0, 0, m0)), (63, (.goto 12, 66, 75, 0, 0, 0, 0, m0)), (66, (.aload_n 0, 67, 0, 0, 0, 0, 0, m0)), (67, (.getfield 37, 70, 337, 5, 7, 0, 0, m0)), (70, (.getfield 188, 73, 243, 6, 5, 0, 0, m0)), (73, (.iload_n 3, 74, 0, 3, 0, 0, 0, m0)), (74, (.iaload, 75, 0, 0, 0, 0, 0, m0))]),
  (75, [(75, (.ireturn, 76, 0, 0, 0, 0, 0, m0))])]
theorem kX7_plan : chkC mX7_plan oX7_plan = true := by decide +kernel
theorem qX7_sealing : OkM mX7_sealing := ⟨Gd_in (i := 689) (by decide +kernel) (by decide +kernel), Gd_in (i := 65) (by decide +kernel) (by decide +kernel), ⟨fun _ => ⟨Gd_in (i := 687) (by decide +kernel) (by decide +kernel), Gd_in (i := 688) (by decide +kernel) (by decide +kernel)⟩, fun h => absurd h (by decide +kernel)⟩, by decide +kernel, ⟨by decide +kernel, by decide +kernel⟩, rfl, rfl⟩
def oX7_sealing : Cd := [(14, [(0, (.aload_n 0, 1, 0, 0, 0, 0, 0, m0)), (1, (.getfield 10, 4, 332, 0, 7, 0, 0, m0)), (4, (.iload_n 1, 5, 0, 1, 0, 0, 0, m0)), (5, (.invokevirtual 122, 8, 531, 2, 4, 0, 0, mX4_hasHouse)), (8, (.ifCond .ne 6, 11, 14, 0, 0, 0, 0, m0)), (11, (.ldc 126, 13, 535, 0, 0, (-1000000001), 0, m0)), (13, (.ireturn, 14, 0, 0, 0, 0, 0, m0)), (14, (.iload_n 2, 15, 0, 2, 0, 0, 0, m0))]),
  (28, [(15, (.iconst 1, 16, 0, 0, 0, 1, 0, m0)), (16, (.if_icmp .lt 9, 19, 25, 0, 0, 0, 0, m0)), (19, (.iload_n 2, 20, 0, 2, 0, 0, 0, m0)), (20, (.bipush 60, 22, 0, 0, 0, 60, 0, m0)), (22, (.if_icmp .le 6, 25, 28, 0, 0, 0, 0, m0)), (25, (.ldc 66, 27, 367, 0, 0, (-1000000002), 0, m0)), (27, (.ireturn, 28, 0, 0, 0, 0, 0, m0)), (28, (.iconst 0, 29, 0, 0, 0, 0, 0, m0))]),
  (41, [(29, (.istore_n 3, 30, 0, 3, 0, 0, 0, m0)), (30, (.ldc 191, 32, 690, 0, 0, 1000000000, 0, m0)), (32, (.istore 4, 34, 0, 4, 0, 0, 0, m0)), (34, (.iconst 0, 35, 0, 0, 0, 0, 0, m0)), (35, (.istore 5, 37, 0, 5, 0, 0, 0, m0)), (37, (.iload 5, 39, 0, 5, 0, 0, 0, m0)), (39, (.bipush 20, 41, 0, 0, 0, 20, 0, m0)), (41, (.if_icmp .gt 69, 44, 110, 0, 0, 0, 0, m0))]),
  (59, [(44, (.aload_n 0, 45, 0, 0, 0, 0, 0, m0)), (45, (.getfield 16, 48, 333, 1, 7, 0, 0, m0)), (48, (.aload_n 0, 49, 0, 0, 0, 0, 0, m0)), (49, (.getfield 10, 52, 332, 0, 7, 0, 0, m0)), (52, (.invokevirtual 85, 55, 503, 2, 4, 0, 0, mX4_copyFrom)), (55, (.aload_n 0, 56, 0, 0, 0, 0, 0, m0)), (56, (.getfield 16, 59, 333, 1, 7, 0, 0, m0)), (59, (.getfield 130, 62, 149, 2, 4, 0, 0, m0))]),
  (72, [(62, (.iload_n 1, 63, 0, 1, 0, 0, 0, m0)), (63, (.iload 5, 65, 0, 5, 0, 0, 0, m0)), (65, (.iastore, 66, 0, 0, 0, 0, 0, m0)), (66, (.aload_n 0, 67, 0, 0, 0, 0, 0, m0)), (67, (.getfield 16, 70, 333, 1, 7, 0, 0, m0)), (70, (.iload_n 2, 71, 0, 2, 0, 0, 0, m0)), (71, (.iconst 0, 72, 0, 0, 0, 0, 0, m0)), (72, (.invokevirtual 179, 75, 607, 3, 4, 0, 0, mX4_passYears))]),
  (87, [(75, (.pop, 76, 0, 0, 0, 0, 0, m0)), (76, (.aload_n 0, 77, 0, 0, 0, 0, 0, m0)), (77, (.getfield 16, 80, 333, 1, 7, 0, 0, m0)), (80, (.getfield 192, 83, 154, 4, 4, 0, 0, m0)), (83, (.iload_n 1, 84, 0, 1, 0, 0, 0, m0)), (84, (.iaload, 85, 0, 0, 0, 0, 0, m0)), (85, (.iload 4, 87, 0, 4, 0, 0, 0, m0)), (87, (.if_icmp .ge 17, 90, 104, 0, 0, 0, 0, m0))]),
  (103, [(90, (.aload_n 0, 91, 0, 0, 0, 0, 0, m0)), (91, (.getfield 16, 94, 333, 1, 7, 0, 0, m0)), (94, (.getfield 192, 97, 154, 4, 4, 0, 0, m0)), (97, (.iload_n 1, 98, 0, 1, 0, 0, 0, m0)), (98, (.iaload, 99, 0, 0, 0, 0, 0, m0)), (99, (.istore 4, 101, 0, 4, 0, 0, 0, m0)), (101, (.iload 5, 103, 0, 5, 0, 0, 0, m0)), (103, (.istore_n 3, 104, 0, 3, 0, 0, 0, m0))]),
  (111, [(104, (.iinc 5 1, 107, 0, 5, 0, 1, 0, m0)), (107, (.goto (-70), 110, 37, 0, 0, 0, 0, m0)), (110, (.iload_n 3, 111, 0, 3, 0, 0, 0, m0)), (111, (.ireturn, 112, 0, 0, 0, 0, 0, m0))])]
theorem kX7_sealing : chkC mX7_sealing oX7_sealing = true := by decide +kernel
theorem qX7_change : OkM mX7_change := ⟨Gd_in (i := 694) (by decide +kernel) (by decide +kernel), Gd_in (i := 65) (by decide +kernel) (by decide +kernel), ⟨fun _ => ⟨Gd_in (i := 692) (by decide +kernel) (by decide +kernel), Gd_in (i := 693) (by decide +kernel) (by decide +kernel)⟩, fun h => absurd h (by decide +kernel)⟩, by decide +kernel, ⟨by decide +kernel, by decide +kernel⟩, rfl, rfl⟩
def oX7_change : Cd := [(13, [(0, (.iload_n 1, 1, 0, 1, 0, 0, 0, m0)), (1, (.iconst 1, 2, 0, 0, 0, 1, 0, m0)), (2, (.if_icmp .lt 9, 5, 11, 0, 0, 0, 0, m0)), (5, (.iload_n 1, 6, 0, 1, 0, 0, 0, m0)), (6, (.bipush 20, 8, 0, 0, 0, 20, 0, m0)), (8, (.if_icmp .le 6, 11, 14, 0, 0, 0, 0, m0)), (11, (.ldc 66, 13, 367, 0, 0, (-1000000002), 0, m0)), (13, (.ireturn, 14, 0, 0, 0, 0, 0, m0))]),
  (24, [(14, (.iconst 0, 15, 0, 0, 0, 0, 0, m0)), (15, (.istore_n 2, 16, 0, 2, 0, 0, 0, m0)), (16, (.iload_n 2, 17, 0, 2, 0, 0, 0, m0)), (17, (.bipush 20, 19, 0, 0, 0, 20, 0, m0)), (19, (.if_icmp .ge 17, 22, 36, 0, 0, 0, 0, m0)), (22, (.aload_n 0, 23, 0, 0, 0, 0, 0, m0)), (23, (.iload_n 1, 24, 0, 1, 0, 0, 0, m0)), (24, (.invokevirtual 195, 27, 695, 2, 7, 0, 0, mX7_doFirstChange))]),
  (37, [(27, (.ifCond .eq 9, 30, 36, 0, 0, 0, 0, m0)), (30, (.iinc 2 1, 33, 0, 2, 0, 1, 0, m0)), (33, (.goto (-17), 36, 16, 0, 0, 0, 0, m0)), (36, (.iload_n 2, 37, 0, 2, 0, 0, 0, m0)), (37, (.ireturn, 38, 0, 0, 0, 0, 0, m0))])]
theorem kX7_change : chkC mX7_change oX7_change = true := by decide +kernel
theorem qX7_bequest : OkM mX7_bequest := ⟨Gd_in (i := 711) (by decide +kernel) (by decide +kernel), Gd_in (i := 65) (by decide +kernel) (by decide +kernel), ⟨fun _ => ⟨Gd_in (i := 709) (by decide +kernel) (by decide +kernel), Gd_in (i := 710) (by decide +kernel) (by decide +kernel)⟩, fun h => absurd h (by decide +kernel)⟩, by decide +kernel, ⟨by decide +kernel, by decide +kernel⟩, rfl, rfl⟩
def oX7_bequest : Cd := [(13, [(0, (.aload_n 0, 1, 0, 0, 0, 0, 0, m0)), (1, (.getfield 10, 4, 332, 0, 7, 0, 0, m0)), (4, (.iload_n 1, 5, 0, 1, 0, 0, 0, m0)), (5, (.invokevirtual 122, 8, 531, 2, 4, 0, 0, mX4_hasHouse)), (8, (.ifCond .eq 22, 11, 30, 0, 0, 0, 0, m0)), (11, (.iload_n 2, 12, 0, 2, 0, 0, 0, m0)), (12, (.iconst (-1), 13, 0, 0, 0, (-1), 0, m0)), (13, (.if_icmp .eq 20, 16, 33, 0, 0, 0, 0, m0))]),
  (32, [(16, (.aload_n 0, 17, 0, 0, 0, 0, 0, m0)), (17, (.getfield 10, 20, 332, 0, 7, 0, 0, m0)), (20, (.getfield 99, 23, 170, 11, 4, 0, 0, m0)), (23, (.iload_n 2, 24, 0, 2, 0, 0, 0, m0)), (24, (.invokevirtual 143, 27, 560, 2, 1, 0, 0, mX1_has)), (27, (.ifCond .ne 6, 30, 33, 0, 0, 0, 0, m0)), (30, (.ldc 126, 32, 535, 0, 0, (-1000000001), 0, m0)), (32, (.ireturn, 33, 0, 0, 0, 0, 0, m0))]),
  (46, [(33, (.aload_n 0, 34, 0, 0, 0, 0, 0, m0)), (34, (.getfield 10, 37, 332, 0, 7, 0, 0, m0)), (37, (.getfield 93, 40, 143, 0, 4, 0, 0, m0)), (40, (.iconst 2, 41, 0, 0, 0, 2, 0, m0)), (41, (.if_icmp .ge 5, 44, 46, 0, 0, 0, 0, m0)), (44, (.iconst (-1), 45, 0, 0, 0, (-1), 0, m0)), (45, (.ireturn, 46, 0, 0, 0, 0, 0, m0)), (46, (.aload_n 0, 47, 0, 0, 0, 0, 0, m0))]),
  (60, [(47, (.getfield 44, 50, 338, 6, 7, 0, 0, m0)), (50, (.aload_n 0, 51, 0, 0, 0, 0, 0, m0)), (51, (.getfield 10, 54, 332, 0, 7, 0, 0, m0)), (54, (.iload_n 1, 55, 0, 1, 0, 0, 0, m0)), (55, (.invokevirtual 198, 58, 712, 3, 2, 0, 0, mX2_deal)), (58, (.iload_n 2, 59, 0, 2, 0, 0, 0, m0)), (59, (.iconst (-1), 60, 0, 0, 0, (-1), 0, m0)), (60, (.if_icmp .ne 13, 63, 73, 0, 0, 0, 0, m0))]),
  (78, [(63, (.aload_n 0, 64, 0, 0, 0, 0, 0, m0)), (64, (.getfield 44, 67, 338, 6, 7, 0, 0, m0)), (67, (.getfield 202, 70, 277, 7, 2, 0, 0, m0)), (70, (.goto 11, 73, 81, 0, 0, 0, 0, m0)), (73, (.aload_n 0, 74, 0, 0, 0, 0, 0, m0)), (74, (.getfield 44, 77, 338, 6, 7, 0, 0, m0)), (77, (.iload_n 2, 78, 0, 2, 0, 0, 0, m0)), (78, (.invokevirtual 205, 81, 733, 2, 2, 0, 0, mX2_heirOf))]),
  (81, [(81, (.ireturn, 82, 0, 0, 0, 0, 0, m0))])]
theorem kX7_bequest : chkC mX7_bequest oX7_bequest = true := by decide +kernel
theorem qX7_siege : OkM mX7_siege := ⟨Gd_in (i := 740) (by decide +kernel) (by decide +kernel), Gd_in (i := 65) (by decide +kernel) (by decide +kernel), ⟨fun _ => ⟨Gd_in (i := 738) (by decide +kernel) (by decide +kernel), Gd_in (i := 739) (by decide +kernel) (by decide +kernel)⟩, fun h => absurd h (by decide +kernel)⟩, by decide +kernel, ⟨by decide +kernel, by decide +kernel⟩, rfl, rfl⟩
def oX7_siege : Cd := [(12, [(0, (.iload_n 1, 1, 0, 1, 0, 0, 0, m0)), (1, (.iconst 1, 2, 0, 0, 0, 1, 0, m0)), (2, (.if_icmp .lt 18, 5, 20, 0, 0, 0, 0, m0)), (5, (.iload_n 1, 6, 0, 1, 0, 0, 0, m0)), (6, (.bipush 20, 8, 0, 0, 0, 20, 0, m0)), (8, (.if_icmp .gt 12, 11, 20, 0, 0, 0, 0, m0)), (11, (.iload_n 2, 12, 0, 2, 0, 0, 0, m0)), (12, (.ifCond .lt 8, 15, 20, 0, 0, 0, 0, m0))]),
  (25, [(15, (.iload_n 2, 16, 0, 2, 0, 0, 0, m0)), (16, (.iload_n 1, 17, 0, 1, 0, 0, 0, m0)), (17, (.if_icmp .le 6, 20, 23, 0, 0, 0, 0, m0)), (20, (.ldc 66, 22, 367, 0, 0, (-1000000002), 0, m0)), (22, (.ireturn, 23, 0, 0, 0, 0, 0, m0)), (23, (.aload_n 0, 24, 0, 0, 0, 0, 0, m0)), (24, (.iload_n 1, 25, 0, 1, 0, 0, 0, m0)), (25, (.iload_n 2, 26, 0, 2, 0, 0, 0, m0))]),
  (29, [(26, (.invokevirtual 208, 29, 741, 3, 7, 0, 0, mX7_hungerOfSiege)), (29, (.ireturn, 30, 0, 0, 0, 0, 0, m0))])]
theorem kX7_siege : chkC mX7_siege oX7_siege = true := by decide +kernel
theorem qX7_when : OkM mX7_when := ⟨Gd_in (i := 753) (by decide +kernel) (by decide +kernel), Gd_in (i := 65) (by decide +kernel) (by decide +kernel), ⟨fun _ => ⟨Gd_in (i := 751) (by decide +kernel) (by decide +kernel), Gd_in (i := 752) (by decide +kernel) (by decide +kernel)⟩, fun h => absurd h (by decide +kernel)⟩, by decide +kernel, ⟨by decide +kernel, by decide +kernel⟩, rfl, rfl⟩
def oX7_when : Cd := [(12, [(0, (.iload_n 1, 1, 0, 1, 0, 0, 0, m0)), (1, (.iconst 1, 2, 0, 0, 0, 1, 0, m0)), (2, (.if_icmp .lt 20, 5, 22, 0, 0, 0, 0, m0)), (5, (.iload_n 1, 6, 0, 1, 0, 0, 0, m0)), (6, (.bipush 20, 8, 0, 0, 0, 20, 0, m0)), (8, (.if_icmp .gt 14, 11, 22, 0, 0, 0, 0, m0)), (11, (.iload_n 2, 12, 0, 2, 0, 0, 0, m0)), (12, (.ifCond .lt 10, 15, 22, 0, 0, 0, 0, m0))]),
  (27, [(15, (.iload_n 2, 16, 0, 2, 0, 0, 0, m0)), (16, (.sipush 999, 19, 0, 0, 0, 999, 0, m0)), (19, (.if_icmp .le 6, 22, 25, 0, 0, 0, 0, m0)), (22, (.ldc 66, 24, 367, 0, 0, (-1000000002), 0, m0)), (24, (.ireturn, 25, 0, 0, 0, 0, 0, m0)), (25, (.iload_n 1, 26, 0, 1, 0, 0, 0, m0)), (26, (.istore_n 3, 27, 0, 3, 0, 0, 0, m0)), (27, (.aload_n 0, 28, 0, 0, 0, 0, 0, m0))]),
  (38, [(28, (.iload_n 1, 29, 0, 1, 0, 0, 0, m0)), (29, (.iload_n 1, 30, 0, 1, 0, 0, 0, m0)), (30, (.invokevirtual 208, 33, 741, 3, 7, 0, 0, mX7_hungerOfSiege)), (33, (.istore 4, 35, 0, 4, 0, 0, 0, m0)), (35, (.iload_n 1, 36, 0, 1, 0, 0, 0, m0)), (36, (.iconst 1, 37, 0, 0, 0, 1, 0, m0)), (37, (.isub, 38, 0, 0, 0, 0, 0, m0)), (38, (.istore 5, 40, 0, 5, 0, 0, 0, m0))]),
  (53, [(40, (.iload 5, 42, 0, 5, 0, 0, 0, m0)), (42, (.ifCond .lt 34, 45, 76, 0, 0, 0, 0, m0)), (45, (.aload_n 0, 46, 0, 0, 0, 0, 0, m0)), (46, (.iload_n 1, 47, 0, 1, 0, 0, 0, m0)), (47, (.iload 5, 49, 0, 5, 0, 0, 0, m0)), (49, (.invokevirtual 208, 52, 741, 3, 7, 0, 0, mX7_hungerOfSiege)), (52, (.iload_n 2, 53, 0, 2, 0, 0, 0, m0)), (53, (.iadd, 54, 0, 0, 0, 0, 0, m0))]),
  (69, [(54, (.istore 6, 56, 0, 6, 0, 0, 0, m0)), (56, (.iload 6, 58, 0, 6, 0, 0, 0, m0)), (58, (.iload 4, 60, 0, 4, 0, 0, 0, m0)), (60, (.if_icmp .ge 10, 63, 70, 0, 0, 0, 0, m0)), (63, (.iload 6, 65, 0, 6, 0, 0, 0, m0)), (65, (.istore 4, 67, 0, 4, 0, 0, 0, m0)), (67, (.iload 5, 69, 0, 5, 0, 0, 0, m0)), (69, (.istore_n 3, 70, 0, 3, 0, 0, 0, m0))]),
  (77, [(70, (.iinc 5 (-1), 73, 0, 5, 0, (-1), 0, m0)), (73, (.goto (-33), 76, 40, 0, 0, 0, 0, m0)), (76, (.iload_n 3, 77, 0, 3, 0, 0, 0, m0)), (77, (.ireturn, 78, 0, 0, 0, 0, 0, m0))])]
theorem kX7_when : chkC mX7_when oX7_when = true := by decide +kernel
theorem qX7_older : OkM mX7_older := ⟨Gd_in (i := 757) (by decide +kernel) (by decide +kernel), Gd_in (i := 65) (by decide +kernel) (by decide +kernel), ⟨fun _ => ⟨Gd_in (i := 755) (by decide +kernel) (by decide +kernel), Gd_in (i := 756) (by decide +kernel) (by decide +kernel)⟩, fun h => absurd h (by decide +kernel)⟩, by decide +kernel, ⟨by decide +kernel, by decide +kernel⟩, rfl, rfl⟩
def oX7_older : Cd := [(15, [(0, (.aload_n 0, 1, 0, 0, 0, 0, 0, m0)), (1, (.getfield 10, 4, 332, 0, 7, 0, 0, m0)), (4, (.getfield 99, 7, 170, 11, 4, 0, 0, m0)), (7, (.iload_n 1, 8, 0, 1, 0, 0, 0, m0)), (8, (.invokevirtual 143, 11, 560, 2, 1, 0, 0, mX1_has)), (11, (.ifCond .eq 22, 14, 33, 0, 0, 0, 0, m0)), (14, (.aload_n 0, 15, 0, 0, 0, 0, 0, m0)), (15, (.getfield 10, 18, 332, 0, 7, 0, 0, m0))]),
  (33, [(18, (.getfield 99, 21, 170, 11, 4, 0, 0, m0)), (21, (.iload_n 2, 22, 0, 2, 0, 0, 0, m0)), (22, (.invokevirtual 143, 25, 560, 2, 1, 0, 0, mX1_has)), (25, (.ifCond .eq 8, 28, 33, 0, 0, 0, 0, m0)), (28, (.iload_n 1, 29, 0, 1, 0, 0, 0, m0)), (29, (.iload_n 2, 30, 0, 2, 0, 0, 0, m0)), (30, (.if_icmp .ne 6, 33, 36, 0, 0, 0, 0, m0)), (33, (.ldc 126, 35, 535, 0, 0, (-1000000001), 0, m0))]),
  (45, [(35, (.ireturn, 36, 0, 0, 0, 0, 0, m0)), (36, (.aload_n 0, 37, 0, 0, 0, 0, 0, m0)), (37, (.getfield 51, 40, 339, 7, 7, 0, 0, m0)), (40, (.iload_n 1, 41, 0, 1, 0, 0, 0, m0)), (41, (.iload_n 2, 42, 0, 2, 0, 0, 0, m0)), (42, (.invokevirtual 211, 45, 758, 3, 3, 0, 0, mX3_add)), (45, (.ireturn, 46, 0, 0, 0, 0, 0, m0))])]
theorem kX7_older : chkC mX7_older oX7_older = true := by decide +kernel
theorem qX7_forged : OkM mX7_forged := ⟨Gd_in (i := 766) (by decide +kernel) (by decide +kernel), Gd_in (i := 65) (by decide +kernel) (by decide +kernel), ⟨fun _ => ⟨Gd_in (i := 764) (by decide +kernel) (by decide +kernel), Gd_in (i := 765) (by decide +kernel) (by decide +kernel)⟩, fun h => absurd h (by decide +kernel)⟩, by decide +kernel, ⟨by decide +kernel, by decide +kernel⟩, rfl, rfl⟩
def oX7_forged : Cd := [(14, [(0, (.aload_n 0, 1, 0, 0, 0, 0, 0, m0)), (1, (.getfield 51, 4, 339, 7, 7, 0, 0, m0)), (4, (.aload_n 0, 5, 0, 0, 0, 0, 0, m0)), (5, (.getfield 10, 8, 332, 0, 7, 0, 0, m0)), (8, (.getfield 99, 11, 170, 11, 4, 0, 0, m0)), (11, (.invokevirtual 214, 14, 767, 2, 3, 0, 0, mX3_fewestForged)), (14, (.ireturn, 15, 0, 0, 0, 0, 0, m0))])]
theorem kX7_forged : chkC mX7_forged oX7_forged = true := by decide +kernel
theorem qX7_write : OkM mX7_write := ⟨Gd_in (i := 786) (by decide +kernel) (by decide +kernel), Gd_in (i := 65) (by decide +kernel) (by decide +kernel), ⟨fun _ => ⟨Gd_in (i := 784) (by decide +kernel) (by decide +kernel), Gd_in (i := 785) (by decide +kernel) (by decide +kernel)⟩, fun h => absurd h (by decide +kernel)⟩, by decide +kernel, ⟨by decide +kernel, by decide +kernel⟩, rfl, rfl⟩
def oX7_write : Cd := [(16, [(0, (.aload_n 0, 1, 0, 0, 0, 0, 0, m0)), (1, (.getfield 10, 4, 332, 0, 7, 0, 0, m0)), (4, (.getfield 99, 7, 170, 11, 4, 0, 0, m0)), (7, (.iload_n 2, 8, 0, 2, 0, 0, 0, m0)), (8, (.invokevirtual 143, 11, 560, 2, 1, 0, 0, mX1_has)), (11, (.ifCond .ne 6, 14, 17, 0, 0, 0, 0, m0)), (14, (.ldc 126, 16, 535, 0, 0, (-1000000001), 0, m0)), (16, (.ireturn, 17, 0, 0, 0, 0, 0, m0))]),
  (31, [(17, (.iload_n 1, 18, 0, 1, 0, 0, 0, m0)), (18, (.ifCond .lt 10, 21, 28, 0, 0, 0, 0, m0)), (21, (.iload_n 1, 22, 0, 1, 0, 0, 0, m0)), (22, (.sipush 9999, 25, 0, 0, 0, 9999, 0, m0)), (25, (.if_icmp .le 6, 28, 31, 0, 0, 0, 0, m0)), (28, (.ldc 66, 30, 367, 0, 0, (-1000000002), 0, m0)), (30, (.ireturn, 31, 0, 0, 0, 0, 0, m0)), (31, (.aload_n 0, 32, 0, 0, 0, 0, 0, m0))]),
  (40, [(32, (.getfield 58, 35, 340, 8, 7, 0, 0, m0)), (35, (.iload_n 1, 36, 0, 1, 0, 0, 0, m0)), (36, (.iload_n 2, 37, 0, 2, 0, 0, 0, m0)), (37, (.invokevirtual 218, 40, 787, 3, 0, 0, 0, mX0_add)), (40, (.ireturn, 41, 0, 0, 0, 0, 0, m0))])]
theorem kX7_write : chkC mX7_write oX7_write = true := by decide +kernel
theorem qX7_tear : OkM mX7_tear := ⟨Gd_in (i := 795) (by decide +kernel) (by decide +kernel), Gd_in (i := 65) (by decide +kernel) (by decide +kernel), ⟨fun _ => ⟨Gd_in (i := 793) (by decide +kernel) (by decide +kernel), Gd_in (i := 794) (by decide +kernel) (by decide +kernel)⟩, fun h => absurd h (by decide +kernel)⟩, by decide +kernel, ⟨by decide +kernel, by decide +kernel⟩, rfl, rfl⟩
def oX7_tear : Cd := [(15, [(0, (.aload_n 0, 1, 0, 0, 0, 0, 0, m0)), (1, (.getfield 58, 4, 340, 8, 7, 0, 0, m0)), (4, (.getfield 92, 7, 322, 0, 0, 0, 0, m0)), (7, (.aload_n 0, 8, 0, 0, 0, 0, 0, m0)), (8, (.getfield 51, 11, 339, 7, 7, 0, 0, m0)), (11, (.getfield 89, 14, 302, 0, 3, 0, 0, m0)), (14, (.iadd, 15, 0, 0, 0, 0, 0, m0)), (15, (.istore_n 1, 16, 0, 1, 0, 0, 0, m0))]),
  (29, [(16, (.aload_n 0, 17, 0, 0, 0, 0, 0, m0)), (17, (.getfield 58, 20, 340, 8, 7, 0, 0, m0)), (20, (.iconst 0, 21, 0, 0, 0, 0, 0, m0)), (21, (.putfield 92, 24, 322, 0, 0, 0, 0, m0)), (24, (.aload_n 0, 25, 0, 0, 0, 0, 0, m0)), (25, (.getfield 51, 28, 339, 7, 7, 0, 0, m0)), (28, (.iconst 0, 29, 0, 0, 0, 0, 0, m0)), (29, (.putfield 89, 32, 302, 0, 3, 0, 0, m0))]),
  (33, [(32, (.iload_n 1, 33, 0, 1, 0, 0, 0, m0)), (33, (.ireturn, 34, 0, 0, 0, 0, 0, m0))])]
theorem kX7_tear : chkC mX7_tear oX7_tear = true := by decide +kernel
theorem qX7_judge : OkM mX7_judge := ⟨Gd_in (i := 799) (by decide +kernel) (by decide +kernel), Gd_in (i := 65) (by decide +kernel) (by decide +kernel), ⟨fun _ => ⟨Gd_in (i := 797) (by decide +kernel) (by decide +kernel), Gd_in (i := 798) (by decide +kernel) (by decide +kernel)⟩, fun h => absurd h (by decide +kernel)⟩, by decide +kernel, ⟨by decide +kernel, by decide +kernel⟩, rfl, rfl⟩
def oX7_judge : Cd := [(15, [(0, (.aload_n 0, 1, 0, 0, 0, 0, 0, m0)), (1, (.getfield 58, 4, 340, 8, 7, 0, 0, m0)), (4, (.aload_n 0, 5, 0, 0, 0, 0, 0, m0)), (5, (.getfield 10, 8, 332, 0, 7, 0, 0, m0)), (8, (.getfield 99, 11, 170, 11, 4, 0, 0, m0)), (11, (.aload_n 0, 12, 0, 0, 0, 0, 0, m0)), (12, (.getfield 10, 15, 332, 0, 7, 0, 0, m0)), (15, (.getfield 79, 18, 162, 9, 4, 0, 0, m0))]),
  (21, [(18, (.invokevirtual 219, 21, 800, 3, 0, 0, 0, mX0_firstWrong)), (21, (.ireturn, 22, 0, 0, 0, 0, 0, m0))])]
theorem kX7_judge : chkC mX7_judge oX7_judge = true := by decide +kernel
theorem qX7_seed : OkM mX7_seed := ⟨Gd_in (i := 808) (by decide +kernel) (by decide +kernel), Gd_in (i := 65) (by decide +kernel) (by decide +kernel), ⟨fun _ => ⟨Gd_in (i := 806) (by decide +kernel) (by decide +kernel), Gd_in (i := 807) (by decide +kernel) (by decide +kernel)⟩, fun h => absurd h (by decide +kernel)⟩, by decide +kernel, ⟨by decide +kernel, by decide +kernel⟩, rfl, rfl⟩
def oX7_seed : Cd := [(14, [(0, (.iload_n 1, 1, 0, 1, 0, 0, 0, m0)), (1, (.ifCond .ge 6, 4, 7, 0, 0, 0, 0, m0)), (4, (.ldc 66, 6, 367, 0, 0, (-1000000002), 0, m0)), (6, (.ireturn, 7, 0, 0, 0, 0, 0, m0)), (7, (.aload_n 0, 8, 0, 0, 0, 0, 0, m0)), (8, (.getfield 10, 11, 332, 0, 7, 0, 0, m0)), (11, (.getfield 82, 14, 165, 10, 4, 0, 0, m0)), (14, (.istore_n 2, 15, 0, 2, 0, 0, 0, m0))]),
  (24, [(15, (.aload_n 0, 16, 0, 0, 0, 0, 0, m0)), (16, (.getfield 10, 19, 332, 0, 7, 0, 0, m0)), (19, (.iload_n 1, 20, 0, 1, 0, 0, 0, m0)), (20, (.putfield 82, 23, 165, 10, 4, 0, 0, m0)), (23, (.iload_n 2, 24, 0, 2, 0, 0, 0, m0)), (24, (.ireturn, 25, 0, 0, 0, 0, 0, m0))])]
theorem kX7_seed : chkC mX7_seed oX7_seed = true := by decide +kernel
theorem qX7_keep : OkM mX7_keep := ⟨Gd_in (i := 812) (by decide +kernel) (by decide +kernel), Gd_in (i := 65) (by decide +kernel) (by decide +kernel), ⟨fun _ => ⟨Gd_in (i := 810) (by decide +kernel) (by decide +kernel), Gd_in (i := 811) (by decide +kernel) (by decide +kernel)⟩, fun h => absurd h (by decide +kernel)⟩, by decide +kernel, ⟨by decide +kernel, by decide +kernel⟩, rfl, rfl⟩
def oX7_keep : Cd := [(12, [(0, (.iload_n 1, 1, 0, 1, 0, 0, 0, m0)), (1, (.ifCond .lt 8, 4, 9, 0, 0, 0, 0, m0)), (4, (.iload_n 1, 5, 0, 1, 0, 0, 0, m0)), (5, (.iconst 2, 6, 0, 0, 0, 2, 0, m0)), (6, (.if_icmp .lt 6, 9, 12, 0, 0, 0, 0, m0)), (9, (.ldc 126, 11, 535, 0, 0, (-1000000001), 0, m0)), (11, (.ireturn, 12, 0, 0, 0, 0, 0, m0)), (12, (.aload_n 0, 13, 0, 0, 0, 0, 0, m0))]),
  (26, [(13, (.getfield 19, 16, 334, 2, 7, 0, 0, m0)), (16, (.iload_n 1, 17, 0, 1, 0, 0, 0, m0)), (17, (.aaload, 18, 0, 0, 0, 0, 0, m0)), (18, (.aload_n 0, 19, 0, 0, 0, 0, 0, m0)), (19, (.getfield 10, 22, 332, 0, 7, 0, 0, m0)), (22, (.invokevirtual 85, 25, 503, 2, 4, 0, 0, mX4_copyFrom)), (25, (.aload_n 0, 26, 0, 0, 0, 0, 0, m0)), (26, (.getfield 23, 29, 335, 3, 7, 0, 0, m0))]),
  (33, [(29, (.iload_n 1, 30, 0, 1, 0, 0, 0, m0)), (30, (.iconst 1, 31, 0, 0, 0, 1, 0, m0)), (31, (.bastore, 32, 0, 0, 0, 0, 0, m0)), (32, (.iconst 1, 33, 0, 0, 0, 1, 0, m0)), (33, (.ireturn, 34, 0, 0, 0, 0, 0, m0))])]
theorem kX7_keep : chkC mX7_keep oX7_keep = true := by decide +kernel
theorem qX7_goBack : OkM mX7_goBack := ⟨Gd_in (i := 816) (by decide +kernel) (by decide +kernel), Gd_in (i := 65) (by decide +kernel) (by decide +kernel), ⟨fun _ => ⟨Gd_in (i := 814) (by decide +kernel) (by decide +kernel), Gd_in (i := 815) (by decide +kernel) (by decide +kernel)⟩, fun h => absurd h (by decide +kernel)⟩, by decide +kernel, ⟨by decide +kernel, by decide +kernel⟩, rfl, rfl⟩
def oX7_goBack : Cd := [(12, [(0, (.iload_n 1, 1, 0, 1, 0, 0, 0, m0)), (1, (.ifCond .lt 8, 4, 9, 0, 0, 0, 0, m0)), (4, (.iload_n 1, 5, 0, 1, 0, 0, 0, m0)), (5, (.iconst 2, 6, 0, 0, 0, 2, 0, m0)), (6, (.if_icmp .lt 6, 9, 12, 0, 0, 0, 0, m0)), (9, (.ldc 126, 11, 535, 0, 0, (-1000000001), 0, m0)), (11, (.ireturn, 12, 0, 0, 0, 0, 0, m0)), (12, (.aload_n 0, 13, 0, 0, 0, 0, 0, m0))]),
  (25, [(13, (.getfield 23, 16, 335, 3, 7, 0, 0, m0)), (16, (.iload_n 1, 17, 0, 1, 0, 0, 0, m0)), (17, (.baload, 18, 0, 0, 0, 0, 0, m0)), (18, (.ifCond .ne 6, 21, 24, 0, 0, 0, 0, m0)), (21, (.ldc 171, 23, 588, 0, 0, (-1000000003), 0, m0)), (23, (.ireturn, 24, 0, 0, 0, 0, 0, m0)), (24, (.aload_n 0, 25, 0, 0, 0, 0, 0, m0)), (25, (.getfield 10, 28, 332, 0, 7, 0, 0, m0))]),
  (38, [(28, (.aload_n 0, 29, 0, 0, 0, 0, 0, m0)), (29, (.getfield 19, 32, 334, 2, 7, 0, 0, m0)), (32, (.iload_n 1, 33, 0, 1, 0, 0, 0, m0)), (33, (.aaload, 34, 0, 0, 0, 0, 0, m0)), (34, (.invokevirtual 85, 37, 503, 2, 4, 0, 0, mX4_copyFrom)), (37, (.iconst 1, 38, 0, 0, 0, 1, 0, m0)), (38, (.ireturn, 39, 0, 0, 0, 0, 0, m0))])]
theorem kX7_goBack : chkC mX7_goBack oX7_goBack = true := by decide +kernel
theorem qX7_hungerOfSiege : OkM mX7_hungerOfSiege := ⟨Gd_in (i := 744) (by decide +kernel) (by decide +kernel), Gd_in (i := 65) (by decide +kernel) (by decide +kernel), ⟨fun _ => ⟨Gd_in (i := 743) (by decide +kernel) (by decide +kernel), Gd_in (i := 25) (by decide +kernel) (by decide +kernel)⟩, fun h => absurd h (by decide +kernel)⟩, by decide +kernel, ⟨by decide +kernel, by decide +kernel⟩, rfl, rfl⟩
def oX7_hungerOfSiege : Cd := [(15, [(0, (.aload_n 0, 1, 0, 0, 0, 0, 0, m0)), (1, (.getfield 16, 4, 333, 1, 7, 0, 0, m0)), (4, (.aload_n 0, 5, 0, 0, 0, 0, 0, m0)), (5, (.getfield 10, 8, 332, 0, 7, 0, 0, m0)), (8, (.invokevirtual 85, 11, 503, 2, 4, 0, 0, mX4_copyFrom)), (11, (.aload_n 0, 12, 0, 0, 0, 0, 0, m0)), (12, (.getfield 16, 15, 333, 1, 7, 0, 0, m0)), (15, (.invokevirtual 223, 18, 745, 1, 4, 0, 0, mX4_besiege))]),
  (29, [(18, (.aload_n 0, 19, 0, 0, 0, 0, 0, m0)), (19, (.getfield 16, 22, 333, 1, 7, 0, 0, m0)), (22, (.iload_n 2, 23, 0, 2, 0, 0, 0, m0)), (23, (.iconst 0, 24, 0, 0, 0, 0, 0, m0)), (24, (.invokevirtual 179, 27, 607, 3, 4, 0, 0, mX4_passYears)), (27, (.istore_n 3, 28, 0, 3, 0, 0, 0, m0)), (28, (.aload_n 0, 29, 0, 0, 0, 0, 0, m0)), (29, (.getfield 16, 32, 333, 1, 7, 0, 0, m0))]),
  (43, [(32, (.iconst 2, 33, 0, 0, 0, 2, 0, m0)), (33, (.putfield 79, 36, 162, 9, 4, 0, 0, m0)), (36, (.iload_n 3, 37, 0, 3, 0, 0, 0, m0)), (37, (.aload_n 0, 38, 0, 0, 0, 0, 0, m0)), (38, (.getfield 16, 41, 333, 1, 7, 0, 0, m0)), (41, (.iload_n 1, 42, 0, 1, 0, 0, 0, m0)), (42, (.iload_n 2, 43, 0, 2, 0, 0, 0, m0)), (43, (.isub, 44, 0, 0, 0, 0, 0, m0))]),
  (49, [(44, (.iconst 0, 45, 0, 0, 0, 0, 0, m0)), (45, (.invokevirtual 179, 48, 607, 3, 4, 0, 0, mX4_passYears)), (48, (.iadd, 49, 0, 0, 0, 0, 0, m0)), (49, (.ireturn, 50, 0, 0, 0, 0, 0, m0))])]
theorem kX7_hungerOfSiege : chkC mX7_hungerOfSiege oX7_hungerOfSiege = true := by decide +kernel
theorem qX7_doFirstChange : OkM mX7_doFirstChange := ⟨Gd_in (i := 698) (by decide +kernel) (by decide +kernel), Gd_in (i := 65) (by decide +kernel) (by decide +kernel), ⟨fun _ => ⟨Gd_in (i := 697) (by decide +kernel) (by decide +kernel), Gd_in (i := 20) (by decide +kernel) (by decide +kernel)⟩, fun h => absurd h (by decide +kernel)⟩, by decide +kernel, ⟨by decide +kernel, by decide +kernel⟩, rfl, rfl⟩
def oX7_doFirstChange : Cd := [(15, [(0, (.aload_n 0, 1, 0, 0, 0, 0, 0, m0)), (1, (.getfield 16, 4, 333, 1, 7, 0, 0, m0)), (4, (.aload_n 0, 5, 0, 0, 0, 0, 0, m0)), (5, (.getfield 10, 8, 332, 0, 7, 0, 0, m0)), (8, (.invokevirtual 85, 11, 503, 2, 4, 0, 0, mX4_copyFrom)), (11, (.aload_n 0, 12, 0, 0, 0, 0, 0, m0)), (12, (.getfield 16, 15, 333, 1, 7, 0, 0, m0)), (15, (.iload_n 1, 16, 0, 1, 0, 0, 0, m0))]),
  (29, [(16, (.iconst 0, 17, 0, 0, 0, 0, 0, m0)), (17, (.invokevirtual 179, 20, 607, 3, 4, 0, 0, mX4_passYears)), (20, (.pop, 21, 0, 0, 0, 0, 0, m0)), (21, (.aload_n 0, 22, 0, 0, 0, 0, 0, m0)), (22, (.getfield 16, 25, 333, 1, 7, 0, 0, m0)), (25, (.getfield 192, 28, 154, 4, 4, 0, 0, m0)), (28, (.iconst 0, 29, 0, 0, 0, 0, 0, m0)), (29, (.aload_n 0, 30, 0, 0, 0, 0, 0, m0))]),
  (45, [(30, (.getfield 62, 33, 341, 9, 7, 0, 0, m0)), (33, (.iconst 0, 34, 0, 0, 0, 0, 0, m0)), (34, (.iconst 4, 35, 0, 0, 0, 4, 0, m0)), (35, (.invokestatic 226, 38, 699, 0, 98, 0, 0, m0)), (38, (.aload_n 0, 39, 0, 0, 0, 0, 0, m0)), (39, (.getfield 10, 42, 332, 0, 7, 0, 0, m0)), (42, (.getfield 99, 45, 170, 11, 4, 0, 0, m0)), (45, (.getfield 103, 48, 103, 0, 1, 0, 0, m0))]),
  (57, [(48, (.istore_n 2, 49, 0, 2, 0, 0, 0, m0)), (49, (.iconst 0, 50, 0, 0, 0, 0, 0, m0)), (50, (.istore_n 3, 51, 0, 3, 0, 0, 0, m0)), (51, (.iload_n 3, 52, 0, 3, 0, 0, 0, m0)), (52, (.iload_n 2, 53, 0, 2, 0, 0, 0, m0)), (53, (.if_icmp .ge 52, 56, 105, 0, 0, 0, 0, m0)), (56, (.iload_n 3, 57, 0, 3, 0, 0, 0, m0)), (57, (.iconst 1, 58, 0, 0, 0, 1, 0, m0))]),
  (69, [(58, (.iadd, 59, 0, 0, 0, 0, 0, m0)), (59, (.istore 4, 61, 0, 4, 0, 0, 0, m0)), (61, (.iload 4, 63, 0, 4, 0, 0, 0, m0)), (63, (.iload_n 2, 64, 0, 2, 0, 0, 0, m0)), (64, (.if_icmp .ge 35, 67, 99, 0, 0, 0, 0, m0)), (67, (.aload_n 0, 68, 0, 0, 0, 0, 0, m0)), (68, (.iload_n 3, 69, 0, 3, 0, 0, 0, m0)), (69, (.iload 4, 71, 0, 4, 0, 0, 0, m0))]),
  (86, [(71, (.iload_n 1, 72, 0, 1, 0, 0, 0, m0)), (72, (.invokevirtual 232, 75, 700, 4, 7, 0, 0, mX7_isBetterChanged)), (75, (.ifCond .eq 18, 78, 93, 0, 0, 0, 0, m0)), (78, (.aload_n 0, 79, 0, 0, 0, 0, 0, m0)), (79, (.getfield 10, 82, 332, 0, 7, 0, 0, m0)), (82, (.getfield 99, 85, 170, 11, 4, 0, 0, m0)), (85, (.iload_n 3, 86, 0, 3, 0, 0, 0, m0)), (86, (.iload 4, 88, 0, 4, 0, 0, 0, m0))]),
  (105, [(88, (.invokevirtual 235, 91, 704, 3, 1, 0, 0, mX1_swapOwners)), (91, (.iconst 1, 92, 0, 0, 0, 1, 0, m0)), (92, (.ireturn, 93, 0, 0, 0, 0, 0, m0)), (93, (.iinc 4 1, 96, 0, 4, 0, 1, 0, m0)), (96, (.goto (-35), 99, 61, 0, 0, 0, 0, m0)), (99, (.iinc 3 1, 102, 0, 3, 0, 1, 0, m0)), (102, (.goto (-51), 105, 51, 0, 0, 0, 0, m0)), (105, (.iconst 0, 106, 0, 0, 0, 0, 0, m0))]),
  (106, [(106, (.ireturn, 107, 0, 0, 0, 0, 0, m0))])]
theorem kX7_doFirstChange : chkC mX7_doFirstChange oX7_doFirstChange = true := by decide +kernel
theorem qX7_isBetterChanged : OkM mX7_isBetterChanged := ⟨Gd_in (i := 703) (by decide +kernel) (by decide +kernel), Gd_in (i := 65) (by decide +kernel) (by decide +kernel), ⟨fun _ => ⟨Gd_in (i := 702) (by decide +kernel) (by decide +kernel), Gd_in (i := 21) (by decide +kernel) (by decide +kernel)⟩, fun h => absurd h (by decide +kernel)⟩, by decide +kernel, ⟨by decide +kernel, by decide +kernel⟩, rfl, rfl⟩
def oX7_isBetterChanged : Cd := [(15, [(0, (.aload_n 0, 1, 0, 0, 0, 0, 0, m0)), (1, (.getfield 10, 4, 332, 0, 7, 0, 0, m0)), (4, (.getfield 99, 7, 170, 11, 4, 0, 0, m0)), (7, (.astore 4, 9, 0, 4, 0, 0, 0, m0)), (9, (.aload 4, 11, 0, 4, 0, 0, 0, m0)), (11, (.iload_n 1, 12, 0, 1, 0, 0, 0, m0)), (12, (.invokevirtual 143, 15, 560, 2, 1, 0, 0, mX1_has)), (15, (.ifCond .eq 30, 18, 45, 0, 0, 0, 0, m0))]),
  (33, [(18, (.aload 4, 20, 0, 4, 0, 0, 0, m0)), (20, (.iload_n 2, 21, 0, 2, 0, 0, 0, m0)), (21, (.invokevirtual 143, 24, 560, 2, 1, 0, 0, mX1_has)), (24, (.ifCond .eq 21, 27, 45, 0, 0, 0, 0, m0)), (27, (.aload 4, 29, 0, 4, 0, 0, 0, m0)), (29, (.iload_n 1, 30, 0, 1, 0, 0, 0, m0)), (30, (.invokevirtual 168, 33, 572, 2, 1, 0, 0, mX1_isGone)), (33, (.ifCond .ne 12, 36, 45, 0, 0, 0, 0, m0))]),
  (49, [(36, (.aload 4, 38, 0, 4, 0, 0, 0, m0)), (38, (.iload_n 2, 39, 0, 2, 0, 0, 0, m0)), (39, (.invokevirtual 168, 42, 572, 2, 1, 0, 0, mX1_isGone)), (42, (.ifCond .eq 5, 45, 47, 0, 0, 0, 0, m0)), (45, (.iconst 0, 46, 0, 0, 0, 0, 0, m0)), (46, (.ireturn, 47, 0, 0, 0, 0, 0, m0)), (47, (.aload 4, 49, 0, 4, 0, 0, 0, m0)), (49, (.getfield 149, 52, 109, 2, 1, 0, 0, m0))]),
  (63, [(52, (.iload_n 1, 53, 0, 1, 0, 0, 0, m0)), (53, (.iaload, 54, 0, 0, 0, 0, 0, m0)), (54, (.istore 5, 56, 0, 5, 0, 0, 0, m0)), (56, (.aload 4, 58, 0, 4, 0, 0, 0, m0)), (58, (.getfield 149, 61, 109, 2, 1, 0, 0, m0)), (61, (.iload_n 2, 62, 0, 2, 0, 0, 0, m0)), (62, (.iaload, 63, 0, 0, 0, 0, 0, m0)), (63, (.istore 6, 65, 0, 6, 0, 0, 0, m0))]),
  (81, [(65, (.iload 5, 67, 0, 5, 0, 0, 0, m0)), (67, (.iload 6, 69, 0, 6, 0, 0, 0, m0)), (69, (.if_icmp .eq 27, 72, 96, 0, 0, 0, 0, m0)), (72, (.aload_n 0, 73, 0, 0, 0, 0, 0, m0)), (73, (.getfield 10, 76, 332, 0, 7, 0, 0, m0)), (76, (.iload 5, 78, 0, 5, 0, 0, 0, m0)), (78, (.invokevirtual 122, 81, 531, 2, 4, 0, 0, mX4_hasHouse)), (81, (.ifCond .eq 15, 84, 96, 0, 0, 0, 0, m0))]),
  (98, [(84, (.aload_n 0, 85, 0, 0, 0, 0, 0, m0)), (85, (.getfield 10, 88, 332, 0, 7, 0, 0, m0)), (88, (.iload 6, 90, 0, 6, 0, 0, 0, m0)), (90, (.invokevirtual 122, 93, 531, 2, 4, 0, 0, mX4_hasHouse)), (93, (.ifCond .ne 5, 96, 98, 0, 0, 0, 0, m0)), (96, (.iconst 0, 97, 0, 0, 0, 0, 0, m0)), (97, (.ireturn, 98, 0, 0, 0, 0, 0, m0)), (98, (.aload_n 0, 99, 0, 0, 0, 0, 0, m0))]),
  (114, [(99, (.getfield 62, 102, 341, 9, 7, 0, 0, m0)), (102, (.iload 5, 104, 0, 5, 0, 0, 0, m0)), (104, (.iaload, 105, 0, 0, 0, 0, 0, m0)), (105, (.ifCond .eq 13, 108, 118, 0, 0, 0, 0, m0)), (108, (.aload_n 0, 109, 0, 0, 0, 0, 0, m0)), (109, (.getfield 62, 112, 341, 9, 7, 0, 0, m0)), (112, (.iload 6, 114, 0, 6, 0, 0, 0, m0)), (114, (.iaload, 115, 0, 0, 0, 0, 0, m0))]),
  (128, [(115, (.ifCond .ne 5, 118, 120, 0, 0, 0, 0, m0)), (118, (.iconst 0, 119, 0, 0, 0, 0, 0, m0)), (119, (.ireturn, 120, 0, 0, 0, 0, 0, m0)), (120, (.aload_n 0, 121, 0, 0, 0, 0, 0, m0)), (121, (.getfield 16, 124, 333, 1, 7, 0, 0, m0)), (124, (.aload_n 0, 125, 0, 0, 0, 0, 0, m0)), (125, (.getfield 10, 128, 332, 0, 7, 0, 0, m0)), (128, (.invokevirtual 85, 131, 503, 2, 4, 0, 0, mX4_copyFrom))]),
  (144, [(131, (.aload_n 0, 132, 0, 0, 0, 0, 0, m0)), (132, (.getfield 16, 135, 333, 1, 7, 0, 0, m0)), (135, (.getfield 99, 138, 170, 11, 4, 0, 0, m0)), (138, (.iload_n 1, 139, 0, 1, 0, 0, 0, m0)), (139, (.iload_n 2, 140, 0, 2, 0, 0, 0, m0)), (140, (.invokevirtual 235, 143, 704, 3, 1, 0, 0, mX1_swapOwners)), (143, (.aload_n 0, 144, 0, 0, 0, 0, 0, m0)), (144, (.getfield 16, 147, 333, 1, 7, 0, 0, m0))]),
  (160, [(147, (.iload_n 3, 148, 0, 3, 0, 0, 0, m0)), (148, (.iconst 0, 149, 0, 0, 0, 0, 0, m0)), (149, (.invokevirtual 179, 152, 607, 3, 4, 0, 0, mX4_passYears)), (152, (.pop, 153, 0, 0, 0, 0, 0, m0)), (153, (.aload_n 0, 154, 0, 0, 0, 0, 0, m0)), (154, (.getfield 16, 157, 333, 1, 7, 0, 0, m0)), (157, (.getfield 192, 160, 154, 4, 4, 0, 0, m0)), (160, (.iload 5, 162, 0, 5, 0, 0, 0, m0))]),
  (174, [(162, (.iaload, 163, 0, 0, 0, 0, 0, m0)), (163, (.aload_n 0, 164, 0, 0, 0, 0, 0, m0)), (164, (.getfield 62, 167, 341, 9, 7, 0, 0, m0)), (167, (.iload 5, 169, 0, 5, 0, 0, 0, m0)), (169, (.iaload, 170, 0, 0, 0, 0, 0, m0)), (170, (.if_icmp .ge 27, 173, 197, 0, 0, 0, 0, m0)), (173, (.aload_n 0, 174, 0, 0, 0, 0, 0, m0)), (174, (.getfield 16, 177, 333, 1, 7, 0, 0, m0))]),
  (190, [(177, (.getfield 192, 180, 154, 4, 4, 0, 0, m0)), (180, (.iload 6, 182, 0, 6, 0, 0, 0, m0)), (182, (.iaload, 183, 0, 0, 0, 0, 0, m0)), (183, (.aload_n 0, 184, 0, 0, 0, 0, 0, m0)), (184, (.getfield 62, 187, 341, 9, 7, 0, 0, m0)), (187, (.iload 6, 189, 0, 6, 0, 0, 0, m0)), (189, (.iaload, 190, 0, 0, 0, 0, 0, m0)), (190, (.if_icmp .ge 7, 193, 197, 0, 0, 0, 0, m0))]),
  (198, [(193, (.iconst 1, 194, 0, 0, 0, 1, 0, m0)), (194, (.goto 4, 197, 198, 0, 0, 0, 0, m0)), (197, (.iconst 0, 198, 0, 0, 0, 0, 0, m0)), (198, (.ireturn, 199, 0, 0, 0, 0, 0, m0))])]
theorem kX7_isBetterChanged : chkC mX7_isBetterChanged oX7_isBetterChanged = true := by decide +kernel
end
section
theorem qX8_in : OkM mX8_in := ⟨Gd_in (i := 915) (by decide +kernel) (by decide +kernel), Gd_in (i := 73) (by decide +kernel) (by decide +kernel), ⟨fun h => absurd h (by decide +kernel), fun _ => Gd_in (i := 914) (by decide +kernel) (by decide +kernel)⟩, by decide +kernel, ⟨by decide +kernel, by decide +kernel⟩, rfl, rfl⟩
def oX8_in : Cd := [(10, [(0, (.lload_n 0, 1, 0, 0, 0, 0, 0, m0)), (1, (.lload_n 2, 2, 0, 2, 0, 0, 0, m0)), (2, (.lcmp, 3, 0, 0, 0, 0, 0, m0)), (3, (.ifCond .lt 14, 6, 17, 0, 0, 0, 0, m0)), (6, (.lload_n 0, 7, 0, 0, 0, 0, 0, m0)), (7, (.lload 4, 9, 0, 4, 0, 0, 0, m0)), (9, (.lcmp, 10, 0, 0, 0, 0, 0, m0)), (10, (.ifCond .gt 7, 13, 17, 0, 0, 0, 0, m0))]),
  (18, [(13, (.iconst 1, 14, 0, 0, 0, 1, 0, m0)), (14, (.goto 4, 17, 18, 0, 0, 0, 0, m0)), (17, (.iconst 0, 18, 0, 0, 0, 0, 0, m0)), (18, (.ireturn, 19, 0, 0, 0, 0, 0, m0))])]
theorem kX8_in : chkC mX8_in oX8_in = true := by decide +kernel
theorem qX8_one : OkM mX8_one := ⟨Gd_in (i := 1011) (by decide +kernel) (by decide +kernel), Gd_in (i := 73) (by decide +kernel) (by decide +kernel), ⟨fun h => absurd h (by decide +kernel), fun _ => Gd_in (i := 1010) (by decide +kernel) (by decide +kernel)⟩, by decide +kernel, ⟨by decide +kernel, by decide +kernel⟩, rfl, rfl⟩
def oX8_one : Cd := [(9, [(0, (.iload_n 0, 1, 0, 0, 0, 0, 0, m0)), (1, (.ifCond .eq 7, 4, 8, 0, 0, 0, 0, m0)), (4, (.iconst 1, 5, 0, 0, 0, 1, 0, m0)), (5, (.goto 4, 8, 9, 0, 0, 0, 0, m0)), (8, (.iconst 0, 9, 0, 0, 0, 0, 0, m0)), (9, (.ireturn, 10, 0, 0, 0, 0, 0, m0))])]
theorem kX8_one : chkC mX8_one oX8_one = true := by decide +kernel
theorem qX8_has : OkM mX8_has := ⟨Gd_in (i := 1111) (by decide +kernel) (by decide +kernel), Gd_in (i := 73) (by decide +kernel) (by decide +kernel), ⟨fun h => absurd h (by decide +kernel), fun _ => Gd_in (i := 1110) (by decide +kernel) (by decide +kernel)⟩, by decide +kernel, ⟨by decide +kernel, by decide +kernel⟩, rfl, rfl⟩
def oX8_has : Cd := [(9, [(0, (.iload_n 0, 1, 0, 0, 0, 0, 0, m0)), (1, (.iload_n 1, 2, 0, 1, 0, 0, 0, m0)), (2, (.ishr, 3, 0, 0, 0, 0, 0, m0)), (3, (.iconst 1, 4, 0, 0, 0, 1, 0, m0)), (4, (.iand, 5, 0, 0, 0, 0, 0, m0)), (5, (.iconst 1, 6, 0, 0, 0, 1, 0, m0)), (6, (.if_icmp .ne 7, 9, 13, 0, 0, 0, 0, m0)), (9, (.iconst 1, 10, 0, 0, 0, 1, 0, m0))]),
  (14, [(10, (.goto 4, 13, 14, 0, 0, 0, 0, m0)), (13, (.iconst 0, 14, 0, 0, 0, 0, 0, m0)), (14, (.ireturn, 15, 0, 0, 0, 0, 0, m0))])]
theorem kX8_has : chkC mX8_has oX8_has = true := by decide +kernel
theorem qX8_feed : OkM mX8_feed := ⟨Gd_in (i := 911) (by decide +kernel) (by decide +kernel), Gd_in (i := 73) (by decide +kernel) (by decide +kernel), ⟨fun _ => ⟨Gd_in (i := 909) (by decide +kernel) (by decide +kernel), Gd_in (i := 910) (by decide +kernel) (by decide +kernel)⟩, fun h => absurd h (by decide +kernel)⟩, by decide +kernel, ⟨by decide +kernel, by decide +kernel⟩, rfl, rfl⟩
def oX8_feed : Cd := [(14, [(0, (.iload_n 1, 1, 0, 1, 0, 0, 0, m0)), (1, (.i2l, 2, 0, 0, 0, 0, 0, m0)), (2, (.lconst 1, 3, 0, 0, 0, 0, 1, m0)), (3, (.ldc2_w 60, 6, 912, 0, 0, 0, 8, m0)), (6, (.invokestatic 62, 9, 913, 3, 0, 0, 0, mX8_in)), (9, (.ifCond .ne 6, 12, 15, 0, 0, 0, 0, m0)), (12, (.ldc 66, 14, 916, 0, 0, (-1000000002), 0, m0)), (14, (.ireturn, 15, 0, 0, 0, 0, 0, m0))]),
  (29, [(15, (.aload_n 0, 16, 0, 0, 0, 0, 0, m0)), (16, (.getfield 67, 19, 835, 12, 8, 0, 0, m0)), (19, (.iload_n 1, 20, 0, 1, 0, 0, 0, m0)), (20, (.iadd, 21, 0, 0, 0, 0, 0, m0)), (21, (.sipush 400, 24, 0, 0, 0, 400, 0, m0)), (24, (.if_icmp .le 6, 27, 30, 0, 0, 0, 0, m0)), (27, (.ldc 70, 29, 917, 0, 0, (-1000000004), 0, m0)), (29, (.ireturn, 30, 0, 0, 0, 0, 0, m0))]),
  (41, [(30, (.iload_n 1, 31, 0, 1, 0, 0, 0, m0)), (31, (.iconst 1, 32, 0, 0, 0, 1, 0, m0)), (32, (.isub, 33, 0, 0, 0, 0, 0, m0)), (33, (.istore 4, 35, 0, 4, 0, 0, 0, m0)), (35, (.iload 4, 37, 0, 4, 0, 0, 0, m0)), (37, (.ifCond .lt 40, 40, 77, 0, 0, 0, 0, m0)), (40, (.aload_n 0, 41, 0, 0, 0, 0, 0, m0)), (41, (.getfield 29, 44, 834, 11, 8, 0, 0, m0))]),
  (55, [(44, (.aload_n 0, 45, 0, 0, 0, 0, 0, m0)), (45, (.getfield 67, 48, 835, 12, 8, 0, 0, m0)), (48, (.lload_n 2, 49, 0, 2, 0, 0, 0, m0)), (49, (.bipush 8, 51, 0, 0, 0, 8, 0, m0)), (51, (.iload 4, 53, 0, 4, 0, 0, 0, m0)), (53, (.imul, 54, 0, 0, 0, 0, 0, m0)), (54, (.lshr, 55, 0, 0, 0, 0, 0, m0)), (55, (.ldc2_w 71, 58, 918, 0, 0, 0, 255, m0))]),
  (67, [(58, (.land, 59, 0, 0, 0, 0, 0, m0)), (59, (.l2i, 60, 0, 0, 0, 0, 0, m0)), (60, (.iastore, 61, 0, 0, 0, 0, 0, m0)), (61, (.aload_n 0, 62, 0, 0, 0, 0, 0, m0)), (62, (.dup, 63, 0, 0, 0, 0, 0, m0)), (63, (.getfield 67, 66, 835, 12, 8, 0, 0, m0)), (66, (.iconst 1, 67, 0, 0, 0, 1, 0, m0)), (67, (.iadd, 68, 0, 0, 0, 0, 0, m0))]),
  (81, [(68, (.putfield 67, 71, 835, 12, 8, 0, 0, m0)), (71, (.iinc 4 (-1), 74, 0, 4, 0, (-1), 0, m0)), (74, (.goto (-39), 77, 35, 0, 0, 0, 0, m0)), (77, (.aload_n 0, 78, 0, 0, 0, 0, 0, m0)), (78, (.getfield 67, 81, 835, 12, 8, 0, 0, m0)), (81, (.ireturn, 82, 0, 0, 0, 0, 0, m0))])]
theorem kX8_feed : chkC mX8_feed oX8_feed = true := by decide +kernel
theorem qX8_here : OkM mX8_here := ⟨Gd_in (i := 926) (by decide +kernel) (by decide +kernel), Gd_in (i := 73) (by decide +kernel) (by decide +kernel), ⟨fun _ => ⟨Gd_in (i := 925) (by decide +kernel) (by decide +kernel), Gd_in (i := 27) (by decide +kernel) (by decide +kernel)⟩, fun h => absurd h (by decide +kernel)⟩, by decide +kernel, ⟨by decide +kernel, by decide +kernel⟩, rfl, rfl⟩
def oX8_here : Cd := [(15, [(0, (.aload_n 0, 1, 0, 0, 0, 0, 0, m0)), (1, (.getfield 73, 4, 836, 13, 8, 0, 0, m0)), (4, (.aload_n 0, 5, 0, 0, 0, 0, 0, m0)), (5, (.getfield 67, 8, 835, 12, 8, 0, 0, m0)), (8, (.if_icmp .ge 30, 11, 38, 0, 0, 0, 0, m0)), (11, (.aload_n 0, 12, 0, 0, 0, 0, 0, m0)), (12, (.getfield 29, 15, 834, 11, 8, 0, 0, m0)), (15, (.aload_n 0, 16, 0, 0, 0, 0, 0, m0))]),
  (30, [(16, (.getfield 73, 19, 836, 13, 8, 0, 0, m0)), (19, (.iaload, 20, 0, 0, 0, 0, 0, m0)), (20, (.bipush 32, 22, 0, 0, 0, 32, 0, m0)), (22, (.if_icmp .ne 16, 25, 38, 0, 0, 0, 0, m0)), (25, (.aload_n 0, 26, 0, 0, 0, 0, 0, m0)), (26, (.dup, 27, 0, 0, 0, 0, 0, m0)), (27, (.getfield 73, 30, 836, 13, 8, 0, 0, m0)), (30, (.iconst 1, 31, 0, 0, 0, 1, 0, m0))]),
  (46, [(31, (.iadd, 32, 0, 0, 0, 0, 0, m0)), (32, (.putfield 73, 35, 836, 13, 8, 0, 0, m0)), (35, (.goto (-35), 38, 0, 0, 0, 0, 0, m0)), (38, (.aload_n 0, 39, 0, 0, 0, 0, 0, m0)), (39, (.getfield 73, 42, 836, 13, 8, 0, 0, m0)), (42, (.aload_n 0, 43, 0, 0, 0, 0, 0, m0)), (43, (.getfield 67, 46, 835, 12, 8, 0, 0, m0)), (46, (.if_icmp .ge 15, 49, 61, 0, 0, 0, 0, m0))]),
  (62, [(49, (.aload_n 0, 50, 0, 0, 0, 0, 0, m0)), (50, (.getfield 29, 53, 834, 11, 8, 0, 0, m0)), (53, (.aload_n 0, 54, 0, 0, 0, 0, 0, m0)), (54, (.getfield 73, 57, 836, 13, 8, 0, 0, m0)), (57, (.iaload, 58, 0, 0, 0, 0, 0, m0)), (58, (.goto 4, 61, 62, 0, 0, 0, 0, m0)), (61, (.iconst (-1), 62, 0, 0, 0, (-1), 0, m0)), (62, (.ireturn, 63, 0, 0, 0, 0, 0, m0))])]
theorem kX8_here : chkC mX8_here oX8_here = true := by decide +kernel
theorem qX8_want : OkM mX8_want := ⟨Gd_in (i := 948) (by decide +kernel) (by decide +kernel), Gd_in (i := 73) (by decide +kernel) (by decide +kernel), ⟨fun _ => ⟨Gd_in (i := 947) (by decide +kernel) (by decide +kernel), Gd_in (i := 32) (by decide +kernel) (by decide +kernel)⟩, fun h => absurd h (by decide +kernel)⟩, by decide +kernel, ⟨by decide +kernel, by decide +kernel⟩, rfl, rfl⟩
def oX8_want : Cd := [(13, [(0, (.iload_n 1, 1, 0, 1, 0, 0, 0, m0)), (1, (.ifCond .ne 20, 4, 21, 0, 0, 0, 0, m0)), (4, (.aload_n 0, 5, 0, 0, 0, 0, 0, m0)), (5, (.getfield 76, 8, 839, 16, 8, 0, 0, m0)), (8, (.ifCond .ne 13, 11, 21, 0, 0, 0, 0, m0)), (11, (.aload_n 0, 12, 0, 0, 0, 0, 0, m0)), (12, (.iload_n 2, 13, 0, 2, 0, 0, 0, m0)), (13, (.putfield 76, 16, 839, 16, 8, 0, 0, m0))]),
  (29, [(16, (.aload_n 0, 17, 0, 0, 0, 0, 0, m0)), (17, (.iload_n 3, 18, 0, 3, 0, 0, 0, m0)), (18, (.putfield 32, 21, 840, 17, 8, 0, 0, m0)), (21, (.aload_n 0, 22, 0, 0, 0, 0, 0, m0)), (22, (.getfield 76, 25, 839, 16, 8, 0, 0, m0)), (25, (.ifCond .ne 7, 28, 32, 0, 0, 0, 0, m0)), (28, (.iconst 1, 29, 0, 0, 0, 1, 0, m0)), (29, (.goto 4, 32, 33, 0, 0, 0, 0, m0))]),
  (33, [(32, (.iconst 0, 33, 0, 0, 0, 0, 0, m0)), (33, (.ireturn, 34, 0, 0, 0, 0, 0, m0))])]
theorem kX8_want : chkC mX8_want oX8_want = true := by decide +kernel
theorem qX8_takeWord : OkM mX8_takeWord := ⟨Gd_in (i := 934) (by decide +kernel) (by decide +kernel), Gd_in (i := 73) (by decide +kernel) (by decide +kernel), ⟨fun _ => ⟨Gd_in (i := 933) (by decide +kernel) (by decide +kernel), Gd_in (i := 29) (by decide +kernel) (by decide +kernel)⟩, fun h => absurd h (by decide +kernel)⟩, by decide +kernel, ⟨by decide +kernel, by decide +kernel⟩, rfl, rfl⟩
def oX8_takeWord : Cd := [(13, [(0, (.aload_n 0, 1, 0, 0, 0, 0, 0, m0)), (1, (.invokevirtual 79, 4, 923, 1, 8, 0, 0, mX8_here)), (4, (.istore_n 1, 5, 0, 1, 0, 0, 0, m0)), (5, (.aload_n 0, 6, 0, 0, 0, 0, 0, m0)), (6, (.aload_n 0, 7, 0, 0, 0, 0, 0, m0)), (7, (.getfield 73, 10, 836, 13, 8, 0, 0, m0)), (10, (.putfield 83, 13, 837, 14, 8, 0, 0, m0)), (13, (.aload_n 0, 14, 0, 0, 0, 0, 0, m0))]),
  (29, [(14, (.getfield 73, 17, 836, 13, 8, 0, 0, m0)), (17, (.aload_n 0, 18, 0, 0, 0, 0, 0, m0)), (18, (.getfield 67, 21, 835, 12, 8, 0, 0, m0)), (21, (.if_icmp .ge 38, 24, 59, 0, 0, 0, 0, m0)), (24, (.aload_n 0, 25, 0, 0, 0, 0, 0, m0)), (25, (.getfield 29, 28, 834, 11, 8, 0, 0, m0)), (28, (.aload_n 0, 29, 0, 0, 0, 0, 0, m0)), (29, (.getfield 73, 32, 836, 13, 8, 0, 0, m0))]),
  (47, [(32, (.iaload, 33, 0, 0, 0, 0, 0, m0)), (33, (.i2l, 34, 0, 0, 0, 0, 0, m0)), (34, (.ldc2_w 86, 37, 935, 0, 0, 0, 97, m0)), (37, (.ldc2_w 88, 40, 936, 0, 0, 0, 122, m0)), (40, (.invokestatic 62, 43, 913, 3, 0, 0, 0, mX8_in)), (43, (.ifCond .eq 16, 46, 59, 0, 0, 0, 0, m0)), (46, (.aload_n 0, 47, 0, 0, 0, 0, 0, m0)), (47, (.dup, 48, 0, 0, 0, 0, 0, m0))]),
  (61, [(48, (.getfield 73, 51, 836, 13, 8, 0, 0, m0)), (51, (.iconst 1, 52, 0, 0, 0, 1, 0, m0)), (52, (.iadd, 53, 0, 0, 0, 0, 0, m0)), (53, (.putfield 73, 56, 836, 13, 8, 0, 0, m0)), (56, (.goto (-43), 59, 13, 0, 0, 0, 0, m0)), (59, (.aload_n 0, 60, 0, 0, 0, 0, 0, m0)), (60, (.aload_n 0, 61, 0, 0, 0, 0, 0, m0)), (61, (.getfield 73, 64, 836, 13, 8, 0, 0, m0))]),
  (72, [(64, (.aload_n 0, 65, 0, 0, 0, 0, 0, m0)), (65, (.getfield 83, 68, 837, 14, 8, 0, 0, m0)), (68, (.isub, 69, 0, 0, 0, 0, 0, m0)), (69, (.putfield 90, 72, 838, 15, 8, 0, 0, m0)), (72, (.return_, 73, 0, 0, 0, 0, 0, m0))])]
theorem kX8_takeWord : chkC mX8_takeWord oX8_takeWord = true := by decide +kernel
theorem qX8_isWord : OkM mX8_isWord := ⟨Gd_in (i := 944) (by decide +kernel) (by decide +kernel), Gd_in (i := 73) (by decide +kernel) (by decide +kernel), ⟨fun _ => ⟨Gd_in (i := 943) (by decide +kernel) (by decide +kernel), Gd_in (i := 31) (by decide +kernel) (by decide +kernel)⟩, fun h => absurd h (by decide +kernel)⟩, by decide +kernel, ⟨by decide +kernel, by decide +kernel⟩, rfl, rfl⟩
def oX8_isWord : Cd := [(13, [(0, (.aload_n 0, 1, 0, 0, 0, 0, 0, m0)), (1, (.getfield 90, 4, 838, 15, 8, 0, 0, m0)), (4, (.iload_n 1, 5, 0, 1, 0, 0, 0, m0)), (5, (.if_icmp .ne 7, 8, 12, 0, 0, 0, 0, m0)), (8, (.iconst 1, 9, 0, 0, 0, 1, 0, m0)), (9, (.goto 4, 12, 13, 0, 0, 0, 0, m0)), (12, (.iconst 0, 13, 0, 0, 0, 0, 0, m0)), (13, (.istore 7, 15, 0, 7, 0, 0, 0, m0))]),
  (27, [(15, (.iconst 0, 16, 0, 0, 0, 0, 0, m0)), (16, (.istore 8, 18, 0, 8, 0, 0, 0, m0)), (18, (.iload 8, 20, 0, 8, 0, 0, 0, m0)), (20, (.iload_n 1, 21, 0, 1, 0, 0, 0, m0)), (21, (.if_icmp .ge 85, 24, 106, 0, 0, 0, 0, m0)), (24, (.iload 8, 26, 0, 8, 0, 0, 0, m0)), (26, (.iconst 5, 27, 0, 0, 0, 5, 0, m0)), (27, (.if_icmp .ge 79, 30, 106, 0, 0, 0, 0, m0))]),
  (45, [(30, (.iload 7, 32, 0, 7, 0, 0, 0, m0)), (32, (.ifCond .eq 74, 35, 106, 0, 0, 0, 0, m0)), (35, (.aload_n 0, 36, 0, 0, 0, 0, 0, m0)), (36, (.getfield 29, 39, 834, 11, 8, 0, 0, m0)), (39, (.aload_n 0, 40, 0, 0, 0, 0, 0, m0)), (40, (.getfield 83, 43, 837, 14, 8, 0, 0, m0)), (43, (.iload 8, 45, 0, 8, 0, 0, 0, m0)), (45, (.iadd, 46, 0, 0, 0, 0, 0, m0))]),
  (59, [(46, (.iaload, 47, 0, 0, 0, 0, 0, m0)), (47, (.iload 8, 49, 0, 8, 0, 0, 0, m0)), (49, (.ifCond .ne 7, 52, 56, 0, 0, 0, 0, m0)), (52, (.iload_n 2, 53, 0, 2, 0, 0, 0, m0)), (53, (.goto 37, 56, 90, 0, 0, 0, 0, m0)), (56, (.iload 8, 58, 0, 8, 0, 0, 0, m0)), (58, (.iconst 1, 59, 0, 0, 0, 1, 0, m0)), (59, (.if_icmp .ne 7, 62, 66, 0, 0, 0, 0, m0))]),
  (77, [(62, (.iload_n 3, 63, 0, 3, 0, 0, 0, m0)), (63, (.goto 27, 66, 90, 0, 0, 0, 0, m0)), (66, (.iload 8, 68, 0, 8, 0, 0, 0, m0)), (68, (.iconst 2, 69, 0, 0, 0, 2, 0, m0)), (69, (.if_icmp .ne 8, 72, 77, 0, 0, 0, 0, m0)), (72, (.iload 4, 74, 0, 4, 0, 0, 0, m0)), (74, (.goto 16, 77, 90, 0, 0, 0, 0, m0)), (77, (.iload 8, 79, 0, 8, 0, 0, 0, m0))]),
  (94, [(79, (.iconst 3, 80, 0, 0, 0, 3, 0, m0)), (80, (.if_icmp .ne 8, 83, 88, 0, 0, 0, 0, m0)), (83, (.iload 5, 85, 0, 5, 0, 0, 0, m0)), (85, (.goto 5, 88, 90, 0, 0, 0, 0, m0)), (88, (.iload 6, 90, 0, 6, 0, 0, 0, m0)), (90, (.if_icmp .ne 7, 93, 97, 0, 0, 0, 0, m0)), (93, (.iconst 1, 94, 0, 0, 0, 1, 0, m0)), (94, (.goto 4, 97, 98, 0, 0, 0, 0, m0))]),
  (108, [(97, (.iconst 0, 98, 0, 0, 0, 0, 0, m0)), (98, (.istore 7, 100, 0, 7, 0, 0, 0, m0)), (100, (.iinc 8 1, 103, 0, 8, 0, 1, 0, m0)), (103, (.goto (-85), 106, 18, 0, 0, 0, 0, m0)), (106, (.iload 7, 108, 0, 7, 0, 0, 0, m0)), (108, (.ireturn, 109, 0, 0, 0, 0, 0, m0))])]
theorem kX8_isWord : chkC mX8_isWord oX8_isWord = true := by decide +kernel
theorem qX8_takeNumber : OkM mX8_takeNumber := ⟨Gd_in (i := 956) (by decide +kernel) (by decide +kernel), Gd_in (i := 73) (by decide +kernel) (by decide +kernel), ⟨fun _ => ⟨Gd_in (i := 955) (by decide +kernel) (by decide +kernel), Gd_in (i := 34) (by decide +kernel) (by decide +kernel)⟩, fun h => absurd h (by decide +kernel)⟩, by decide +kernel, ⟨by decide +kernel, by decide +kernel⟩, rfl, rfl⟩
def oX8_takeNumber : Cd := [(13, [(0, (.aload_n 0, 1, 0, 0, 0, 0, 0, m0)), (1, (.getfield 76, 4, 839, 16, 8, 0, 0, m0)), (4, (.ifCond .le 5, 7, 9, 0, 0, 0, 0, m0)), (7, (.iconst 0, 8, 0, 0, 0, 0, 0, m0)), (8, (.ireturn, 9, 0, 0, 0, 0, 0, m0)), (9, (.aload_n 0, 10, 0, 0, 0, 0, 0, m0)), (10, (.invokevirtual 79, 13, 923, 1, 8, 0, 0, mX8_here)), (13, (.istore_n 3, 14, 0, 3, 0, 0, 0, m0))]),
  (25, [(14, (.aload_n 0, 15, 0, 0, 0, 0, 0, m0)), (15, (.aload_n 0, 16, 0, 0, 0, 0, 0, m0)), (16, (.getfield 73, 19, 836, 13, 8, 0, 0, m0)), (19, (.putfield 83, 22, 837, 14, 8, 0, 0, m0)), (22, (.aload_n 0, 23, 0, 0, 0, 0, 0, m0)), (23, (.iload_n 3, 24, 0, 3, 0, 0, 0, m0)), (24, (.i2l, 25, 0, 0, 0, 0, 0, m0)), (25, (.ldc2_w 93, 28, 957, 0, 0, 0, 48, m0))]),
  (45, [(28, (.ldc2_w 95, 31, 958, 0, 0, 0, 57, m0)), (31, (.invokestatic 62, 34, 913, 3, 0, 0, 0, mX8_in)), (34, (.iconst 1, 35, 0, 0, 0, 1, 0, m0)), (35, (.aload_n 0, 36, 0, 0, 0, 0, 0, m0)), (36, (.getfield 73, 39, 836, 13, 8, 0, 0, m0)), (39, (.invokevirtual 97, 42, 945, 4, 8, 0, 0, mX8_want)), (42, (.ifCond .ne 5, 45, 47, 0, 0, 0, 0, m0)), (45, (.iconst 0, 46, 0, 0, 0, 0, 0, m0))]),
  (58, [(46, (.ireturn, 47, 0, 0, 0, 0, 0, m0)), (47, (.iconst 0, 48, 0, 0, 0, 0, 0, m0)), (48, (.istore 4, 50, 0, 4, 0, 0, 0, m0)), (50, (.aload_n 0, 51, 0, 0, 0, 0, 0, m0)), (51, (.getfield 73, 54, 836, 13, 8, 0, 0, m0)), (54, (.aload_n 0, 55, 0, 0, 0, 0, 0, m0)), (55, (.getfield 67, 58, 835, 12, 8, 0, 0, m0)), (58, (.if_icmp .ge 70, 61, 128, 0, 0, 0, 0, m0))]),
  (74, [(61, (.aload_n 0, 62, 0, 0, 0, 0, 0, m0)), (62, (.getfield 29, 65, 834, 11, 8, 0, 0, m0)), (65, (.aload_n 0, 66, 0, 0, 0, 0, 0, m0)), (66, (.getfield 73, 69, 836, 13, 8, 0, 0, m0)), (69, (.iaload, 70, 0, 0, 0, 0, 0, m0)), (70, (.i2l, 71, 0, 0, 0, 0, 0, m0)), (71, (.ldc2_w 93, 74, 957, 0, 0, 0, 48, m0)), (74, (.ldc2_w 95, 77, 958, 0, 0, 0, 57, m0))]),
  (95, [(77, (.invokestatic 62, 80, 913, 3, 0, 0, 0, mX8_in)), (80, (.ifCond .eq 48, 83, 128, 0, 0, 0, 0, m0)), (83, (.iload 4, 85, 0, 4, 0, 0, 0, m0)), (85, (.ldc 101, 87, 959, 0, 0, 99999, 0, m0)), (87, (.if_icmp .le 8, 90, 95, 0, 0, 0, 0, m0)), (90, (.iload 4, 92, 0, 4, 0, 0, 0, m0)), (92, (.goto 21, 95, 113, 0, 0, 0, 0, m0)), (95, (.bipush 10, 97, 0, 0, 0, 10, 0, m0))]),
  (109, [(97, (.iload 4, 99, 0, 4, 0, 0, 0, m0)), (99, (.imul, 100, 0, 0, 0, 0, 0, m0)), (100, (.aload_n 0, 101, 0, 0, 0, 0, 0, m0)), (101, (.getfield 29, 104, 834, 11, 8, 0, 0, m0)), (104, (.aload_n 0, 105, 0, 0, 0, 0, 0, m0)), (105, (.getfield 73, 108, 836, 13, 8, 0, 0, m0)), (108, (.iaload, 109, 0, 0, 0, 0, 0, m0)), (109, (.iadd, 110, 0, 0, 0, 0, 0, m0))]),
  (121, [(110, (.bipush 48, 112, 0, 0, 0, 48, 0, m0)), (112, (.isub, 113, 0, 0, 0, 0, 0, m0)), (113, (.istore 4, 115, 0, 4, 0, 0, 0, m0)), (115, (.aload_n 0, 116, 0, 0, 0, 0, 0, m0)), (116, (.dup, 117, 0, 0, 0, 0, 0, m0)), (117, (.getfield 73, 120, 836, 13, 8, 0, 0, m0)), (120, (.iconst 1, 121, 0, 0, 0, 1, 0, m0)), (121, (.iadd, 122, 0, 0, 0, 0, 0, m0))]),
  (137, [(122, (.putfield 73, 125, 836, 13, 8, 0, 0, m0)), (125, (.goto (-75), 128, 50, 0, 0, 0, 0, m0)), (128, (.aload_n 0, 129, 0, 0, 0, 0, 0, m0)), (129, (.aload_n 0, 130, 0, 0, 0, 0, 0, m0)), (130, (.getfield 73, 133, 836, 13, 8, 0, 0, m0)), (133, (.aload_n 0, 134, 0, 0, 0, 0, 0, m0)), (134, (.getfield 83, 137, 837, 14, 8, 0, 0, m0)), (137, (.isub, 138, 0, 0, 0, 0, 0, m0))]),
  (148, [(138, (.iconst 4, 139, 0, 0, 0, 4, 0, m0)), (139, (.if_icmp .ge 20, 142, 159, 0, 0, 0, 0, m0)), (142, (.iload 4, 144, 0, 4, 0, 0, 0, m0)), (144, (.i2l, 145, 0, 0, 0, 0, 0, m0)), (145, (.iload_n 1, 146, 0, 1, 0, 0, 0, m0)), (146, (.i2l, 147, 0, 0, 0, 0, 0, m0)), (147, (.iload_n 2, 148, 0, 2, 0, 0, 0, m0)), (148, (.i2l, 149, 0, 0, 0, 0, 0, m0))]),
  (162, [(149, (.invokestatic 62, 152, 913, 3, 0, 0, 0, mX8_in)), (152, (.ifCond .eq 7, 155, 159, 0, 0, 0, 0, m0)), (155, (.iconst 1, 156, 0, 0, 0, 1, 0, m0)), (156, (.goto 4, 159, 160, 0, 0, 0, 0, m0)), (159, (.iconst 0, 160, 0, 0, 0, 0, 0, m0)), (160, (.iconst 2, 161, 0, 0, 0, 2, 0, m0)), (161, (.aload_n 0, 162, 0, 0, 0, 0, 0, m0)), (162, (.getfield 83, 165, 837, 14, 8, 0, 0, m0))]),
  (172, [(165, (.invokevirtual 97, 168, 945, 4, 8, 0, 0, mX8_want)), (168, (.istore 5, 170, 0, 5, 0, 0, 0, m0)), (170, (.iload 4, 172, 0, 4, 0, 0, 0, m0)), (172, (.ireturn, 173, 0, 0, 0, 0, 0, m0))])]
theorem kX8_takeNumber : chkC mX8_takeNumber oX8_takeNumber = true := by decide +kernel
theorem qX8_takeHarvest : OkM mX8_takeHarvest := ⟨Gd_in (i := 952) (by decide +kernel) (by decide +kernel), Gd_in (i := 73) (by decide +kernel) (by decide +kernel), ⟨fun _ => ⟨Gd_in (i := 951) (by decide +kernel) (by decide +kernel), Gd_in (i := 33) (by decide +kernel) (by decide +kernel)⟩, fun h => absurd h (by decide +kernel)⟩, by decide +kernel, ⟨by decide +kernel, by decide +kernel⟩, rfl, rfl⟩
def oX8_takeHarvest : Cd := [(12, [(0, (.iconst 1, 1, 0, 0, 0, 1, 0, m0)), (1, (.istore_n 1, 2, 0, 1, 0, 0, 0, m0)), (2, (.iload_n 1, 3, 0, 1, 0, 0, 0, m0)), (3, (.ifCond .eq 95, 6, 98, 0, 0, 0, 0, m0)), (6, (.aload_n 0, 7, 0, 0, 0, 0, 0, m0)), (7, (.getfield 17, 10, 825, 2, 8, 0, 0, m0)), (10, (.bipush 8, 12, 0, 0, 0, 8, 0, m0)), (12, (.aload_n 0, 13, 0, 0, 0, 0, 0, m0))]),
  (25, [(13, (.getfield 102, 16, 831, 8, 8, 0, 0, m0)), (16, (.iadd, 17, 0, 0, 0, 0, 0, m0)), (17, (.aload_n 0, 18, 0, 0, 0, 0, 0, m0)), (18, (.iconst 0, 19, 0, 0, 0, 0, 0, m0)), (19, (.bipush 99, 21, 0, 0, 0, 99, 0, m0)), (21, (.invokevirtual 105, 24, 953, 3, 8, 0, 0, mX8_takeNumber)), (24, (.iastore, 25, 0, 0, 0, 0, 0, m0)), (25, (.aload_n 0, 26, 0, 0, 0, 0, 0, m0))]),
  (39, [(26, (.dup, 27, 0, 0, 0, 0, 0, m0)), (27, (.getfield 102, 30, 831, 8, 8, 0, 0, m0)), (30, (.iconst 1, 31, 0, 0, 0, 1, 0, m0)), (31, (.iadd, 32, 0, 0, 0, 0, 0, m0)), (32, (.putfield 102, 35, 831, 8, 8, 0, 0, m0)), (35, (.aload_n 0, 36, 0, 0, 0, 0, 0, m0)), (36, (.getfield 76, 39, 839, 16, 8, 0, 0, m0)), (39, (.ifCond .ne 16, 42, 55, 0, 0, 0, 0, m0))]),
  (56, [(42, (.aload_n 0, 43, 0, 0, 0, 0, 0, m0)), (43, (.invokevirtual 79, 46, 923, 1, 8, 0, 0, mX8_here)), (46, (.bipush 44, 48, 0, 0, 0, 44, 0, m0)), (48, (.if_icmp .ne 7, 51, 55, 0, 0, 0, 0, m0)), (51, (.iconst 1, 52, 0, 0, 0, 1, 0, m0)), (52, (.goto 4, 55, 56, 0, 0, 0, 0, m0)), (55, (.iconst 0, 56, 0, 0, 0, 0, 0, m0)), (56, (.istore_n 1, 57, 0, 1, 0, 0, 0, m0))]),
  (71, [(57, (.iload_n 1, 58, 0, 1, 0, 0, 0, m0)), (58, (.ifCond .eq (-56), 61, 2, 0, 0, 0, 0, m0)), (61, (.aload_n 0, 62, 0, 0, 0, 0, 0, m0)), (62, (.aload_n 0, 63, 0, 0, 0, 0, 0, m0)), (63, (.getfield 102, 66, 831, 8, 8, 0, 0, m0)), (66, (.bipush 8, 68, 0, 0, 0, 8, 0, m0)), (68, (.if_icmp .ge 7, 71, 75, 0, 0, 0, 0, m0)), (71, (.iconst 1, 72, 0, 0, 0, 1, 0, m0))]),
  (85, [(72, (.goto 4, 75, 76, 0, 0, 0, 0, m0)), (75, (.iconst 0, 76, 0, 0, 0, 0, 0, m0)), (76, (.iconst 1, 77, 0, 0, 0, 1, 0, m0)), (77, (.aload_n 0, 78, 0, 0, 0, 0, 0, m0)), (78, (.getfield 73, 81, 836, 13, 8, 0, 0, m0)), (81, (.invokevirtual 97, 84, 945, 4, 8, 0, 0, mX8_want)), (84, (.istore_n 1, 85, 0, 1, 0, 0, 0, m0)), (85, (.aload_n 0, 86, 0, 0, 0, 0, 0, m0))]),
  (98, [(86, (.dup, 87, 0, 0, 0, 0, 0, m0)), (87, (.getfield 73, 90, 836, 13, 8, 0, 0, m0)), (90, (.iconst 1, 91, 0, 0, 0, 1, 0, m0)), (91, (.iadd, 92, 0, 0, 0, 0, 0, m0)), (92, (.putfield 73, 95, 836, 13, 8, 0, 0, m0)), (95, (.goto (-93), 98, 2, 0, 0, 0, 0, m0)), (98, (.return_, 99, 0, 0, 0, 0, 0, m0))])]
theorem kX8_takeHarvest : chkC mX8_takeHarvest oX8_takeHarvest = true := by decide +kernel
theorem qX8_takeHouse : OkM mX8_takeHouse := ⟨Gd_in (i := 963) (by decide +kernel) (by decide +kernel), Gd_in (i := 73) (by decide +kernel) (by decide +kernel), ⟨fun _ => ⟨Gd_in (i := 962) (by decide +kernel) (by decide +kernel), Gd_in (i := 35) (by decide +kernel) (by decide +kernel)⟩, fun h => absurd h (by decide +kernel)⟩, by decide +kernel, ⟨by decide +kernel, by decide +kernel⟩, rfl, rfl⟩
def oX8_takeHouse : Cd := [(11, [(0, (.aload_n 0, 1, 0, 0, 0, 0, 0, m0)), (1, (.getfield 20, 4, 827, 4, 8, 0, 0, m0)), (4, (.iconst 4, 5, 0, 0, 0, 4, 0, m0)), (5, (.aload_n 0, 6, 0, 0, 0, 0, 0, m0)), (6, (.getfield 109, 9, 832, 9, 8, 0, 0, m0)), (9, (.iadd, 10, 0, 0, 0, 0, 0, m0)), (10, (.aload_n 0, 11, 0, 0, 0, 0, 0, m0)), (11, (.iconst 0, 12, 0, 0, 0, 0, 0, m0))]),
  (24, [(12, (.bipush 99, 14, 0, 0, 0, 99, 0, m0)), (14, (.invokevirtual 105, 17, 953, 3, 8, 0, 0, mX8_takeNumber)), (17, (.iastore, 18, 0, 0, 0, 0, 0, m0)), (18, (.aload_n 0, 19, 0, 0, 0, 0, 0, m0)), (19, (.getfield 23, 22, 828, 5, 8, 0, 0, m0)), (22, (.iconst 4, 23, 0, 0, 0, 4, 0, m0)), (23, (.aload_n 0, 24, 0, 0, 0, 0, 0, m0)), (24, (.getfield 109, 27, 832, 9, 8, 0, 0, m0))]),
  (37, [(27, (.iadd, 28, 0, 0, 0, 0, 0, m0)), (28, (.aload_n 0, 29, 0, 0, 0, 0, 0, m0)), (29, (.iconst 0, 30, 0, 0, 0, 0, 0, m0)), (30, (.bipush 20, 32, 0, 0, 0, 20, 0, m0)), (32, (.invokevirtual 105, 35, 953, 3, 8, 0, 0, mX8_takeNumber)), (35, (.iastore, 36, 0, 0, 0, 0, 0, m0)), (36, (.aload_n 0, 37, 0, 0, 0, 0, 0, m0)), (37, (.dup, 38, 0, 0, 0, 0, 0, m0))]),
  (46, [(38, (.getfield 109, 41, 832, 9, 8, 0, 0, m0)), (41, (.iconst 1, 42, 0, 0, 0, 1, 0, m0)), (42, (.iadd, 43, 0, 0, 0, 0, 0, m0)), (43, (.putfield 109, 46, 832, 9, 8, 0, 0, m0)), (46, (.return_, 47, 0, 0, 0, 0, 0, m0))])]
theorem kX8_takeHouse : chkC mX8_takeHouse oX8_takeHouse = true := by decide +kernel
theorem qX8_takeJar : OkM mX8_takeJar := ⟨Gd_in (i := 967) (by decide +kernel) (by decide +kernel), Gd_in (i := 73) (by decide +kernel) (by decide +kernel), ⟨fun _ => ⟨Gd_in (i := 966) (by decide +kernel) (by decide +kernel), Gd_in (i := 36) (by decide +kernel) (by decide +kernel)⟩, fun h => absurd h (by decide +kernel)⟩, by decide +kernel, ⟨by decide +kernel, by decide +kernel⟩, rfl, rfl⟩
def oX8_takeJar : Cd := [(12, [(0, (.aload_n 0, 1, 0, 0, 0, 0, 0, m0)), (1, (.invokevirtual 112, 4, 931, 1, 8, 0, 0, mX8_takeWord)), (4, (.aload_n 0, 5, 0, 0, 0, 0, 0, m0)), (5, (.iconst 5, 6, 0, 0, 0, 5, 0, m0)), (6, (.bipush 112, 8, 0, 0, 0, 112, 0, m0)), (8, (.bipush 108, 10, 0, 0, 0, 108, 0, m0)), (10, (.bipush 97, 12, 0, 0, 0, 97, 0, m0)), (12, (.bipush 105, 14, 0, 0, 0, 105, 0, m0))]),
  (28, [(14, (.bipush 110, 16, 0, 0, 0, 110, 0, m0)), (16, (.invokevirtual 115, 19, 941, 7, 8, 0, 0, mX8_isWord)), (19, (.ifCond .eq 7, 22, 26, 0, 0, 0, 0, m0)), (22, (.iconst 0, 23, 0, 0, 0, 0, 0, m0)), (23, (.goto 47, 26, 70, 0, 0, 0, 0, m0)), (26, (.aload_n 0, 27, 0, 0, 0, 0, 0, m0)), (27, (.iconst 4, 28, 0, 0, 0, 4, 0, m0)), (28, (.bipush 112, 30, 0, 0, 0, 112, 0, m0))]),
  (44, [(30, (.bipush 108, 32, 0, 0, 0, 108, 0, m0)), (32, (.bipush 117, 34, 0, 0, 0, 117, 0, m0)), (34, (.bipush 109, 36, 0, 0, 0, 109, 0, m0)), (36, (.iconst 0, 37, 0, 0, 0, 0, 0, m0)), (37, (.invokevirtual 115, 40, 941, 7, 8, 0, 0, mX8_isWord)), (40, (.ifCond .eq 7, 43, 47, 0, 0, 0, 0, m0)), (43, (.iconst 1, 44, 0, 0, 0, 1, 0, m0)), (44, (.goto 26, 47, 70, 0, 0, 0, 0, m0))]),
  (59, [(47, (.aload_n 0, 48, 0, 0, 0, 0, 0, m0)), (48, (.iconst 5, 49, 0, 0, 0, 5, 0, m0)), (49, (.bipush 103, 51, 0, 0, 0, 103, 0, m0)), (51, (.bipush 108, 53, 0, 0, 0, 108, 0, m0)), (53, (.bipush 97, 55, 0, 0, 0, 97, 0, m0)), (55, (.bipush 115, 57, 0, 0, 0, 115, 0, m0)), (57, (.bipush 115, 59, 0, 0, 0, 115, 0, m0)), (59, (.invokevirtual 115, 62, 941, 7, 8, 0, 0, mX8_isWord))]),
  (73, [(62, (.ifCond .eq 7, 65, 69, 0, 0, 0, 0, m0)), (65, (.iconst 2, 66, 0, 0, 0, 2, 0, m0)), (66, (.goto 4, 69, 70, 0, 0, 0, 0, m0)), (69, (.iconst (-1), 70, 0, 0, 0, (-1), 0, m0)), (70, (.istore_n 1, 71, 0, 1, 0, 0, 0, m0)), (71, (.aload_n 0, 72, 0, 0, 0, 0, 0, m0)), (72, (.iload_n 1, 73, 0, 1, 0, 0, 0, m0)), (73, (.ifCond .lt 7, 76, 80, 0, 0, 0, 0, m0))]),
  (89, [(76, (.iconst 1, 77, 0, 0, 0, 1, 0, m0)), (77, (.goto 4, 80, 81, 0, 0, 0, 0, m0)), (80, (.iconst 0, 81, 0, 0, 0, 0, 0, m0)), (81, (.iconst 1, 82, 0, 0, 0, 1, 0, m0)), (82, (.aload_n 0, 83, 0, 0, 0, 0, 0, m0)), (83, (.getfield 83, 86, 837, 14, 8, 0, 0, m0)), (86, (.invokevirtual 97, 89, 945, 4, 8, 0, 0, mX8_want)), (89, (.istore_n 2, 90, 0, 2, 0, 0, 0, m0))]),
  (101, [(90, (.iconst 5, 91, 0, 0, 0, 5, 0, m0)), (91, (.aload_n 0, 92, 0, 0, 0, 0, 0, m0)), (92, (.getfield 119, 95, 833, 10, 8, 0, 0, m0)), (95, (.imul, 96, 0, 0, 0, 0, 0, m0)), (96, (.istore_n 3, 97, 0, 3, 0, 0, 0, m0)), (97, (.aload_n 0, 98, 0, 0, 0, 0, 0, m0)), (98, (.getfield 26, 101, 829, 6, 8, 0, 0, m0)), (101, (.iload_n 3, 102, 0, 3, 0, 0, 0, m0))]),
  (111, [(102, (.iload_n 1, 103, 0, 1, 0, 0, 0, m0)), (103, (.iastore, 104, 0, 0, 0, 0, 0, m0)), (104, (.aload_n 0, 105, 0, 0, 0, 0, 0, m0)), (105, (.getfield 26, 108, 829, 6, 8, 0, 0, m0)), (108, (.iload_n 3, 109, 0, 3, 0, 0, 0, m0)), (109, (.iconst 1, 110, 0, 0, 0, 1, 0, m0)), (110, (.iadd, 111, 0, 0, 0, 0, 0, m0)), (111, (.aload_n 0, 112, 0, 0, 0, 0, 0, m0))]),
  (123, [(112, (.iconst 0, 113, 0, 0, 0, 0, 0, m0)), (113, (.aload_n 0, 114, 0, 0, 0, 0, 0, m0)), (114, (.getfield 109, 117, 832, 9, 8, 0, 0, m0)), (117, (.iconst 1, 118, 0, 0, 0, 1, 0, m0)), (118, (.isub, 119, 0, 0, 0, 0, 0, m0)), (119, (.invokevirtual 105, 122, 953, 3, 8, 0, 0, mX8_takeNumber)), (122, (.iastore, 123, 0, 0, 0, 0, 0, m0)), (123, (.aload_n 0, 124, 0, 0, 0, 0, 0, m0))]),
  (134, [(124, (.getfield 26, 127, 829, 6, 8, 0, 0, m0)), (127, (.iload_n 3, 128, 0, 3, 0, 0, 0, m0)), (128, (.iconst 2, 129, 0, 0, 0, 2, 0, m0)), (129, (.iadd, 130, 0, 0, 0, 0, 0, m0)), (130, (.aload_n 0, 131, 0, 0, 0, 0, 0, m0)), (131, (.iconst 0, 132, 0, 0, 0, 0, 0, m0)), (132, (.bipush 99, 134, 0, 0, 0, 99, 0, m0)), (134, (.invokevirtual 105, 137, 953, 3, 8, 0, 0, mX8_takeNumber))]),
  (146, [(137, (.iastore, 138, 0, 0, 0, 0, 0, m0)), (138, (.aload_n 0, 139, 0, 0, 0, 0, 0, m0)), (139, (.getfield 26, 142, 829, 6, 8, 0, 0, m0)), (142, (.iload_n 3, 143, 0, 3, 0, 0, 0, m0)), (143, (.iconst 3, 144, 0, 0, 0, 3, 0, m0)), (144, (.iadd, 145, 0, 0, 0, 0, 0, m0)), (145, (.aload_n 0, 146, 0, 0, 0, 0, 0, m0)), (146, (.iconst 1, 147, 0, 0, 0, 1, 0, m0))]),
  (159, [(147, (.bipush 99, 149, 0, 0, 0, 99, 0, m0)), (149, (.invokevirtual 105, 152, 953, 3, 8, 0, 0, mX8_takeNumber)), (152, (.iastore, 153, 0, 0, 0, 0, 0, m0)), (153, (.aload_n 0, 154, 0, 0, 0, 0, 0, m0)), (154, (.getfield 26, 157, 829, 6, 8, 0, 0, m0)), (157, (.iload_n 3, 158, 0, 3, 0, 0, 0, m0)), (158, (.iconst 4, 159, 0, 0, 0, 4, 0, m0)), (159, (.iadd, 160, 0, 0, 0, 0, 0, m0))]),
  (170, [(160, (.aload_n 0, 161, 0, 0, 0, 0, 0, m0)), (161, (.iconst 0, 162, 0, 0, 0, 0, 0, m0)), (162, (.bipush 99, 164, 0, 0, 0, 99, 0, m0)), (164, (.invokevirtual 105, 167, 953, 3, 8, 0, 0, mX8_takeNumber)), (167, (.iastore, 168, 0, 0, 0, 0, 0, m0)), (168, (.aload_n 0, 169, 0, 0, 0, 0, 0, m0)), (169, (.dup, 170, 0, 0, 0, 0, 0, m0)), (170, (.getfield 119, 173, 833, 10, 8, 0, 0, m0))]),
  (178, [(173, (.iconst 1, 174, 0, 0, 0, 1, 0, m0)), (174, (.iadd, 175, 0, 0, 0, 0, 0, m0)), (175, (.putfield 119, 178, 833, 10, 8, 0, 0, m0)), (178, (.return_, 179, 0, 0, 0, 0, 0, m0))])]
theorem kX8_takeJar : chkC mX8_takeJar oX8_takeJar = true := by decide +kernel
theorem qX8_isHarvestWord : OkM mX8_isHarvestWord := ⟨Gd_in (i := 940) (by decide +kernel) (by decide +kernel), Gd_in (i := 73) (by decide +kernel) (by decide +kernel), ⟨fun _ => ⟨Gd_in (i := 939) (by decide +kernel) (by decide +kernel), Gd_in (i := 30) (by decide +kernel) (by decide +kernel)⟩, fun h => absurd h (by decide +kernel)⟩, by decide +kernel, ⟨by decide +kernel, by decide +kernel⟩, rfl, rfl⟩
def oX8_isHarvestWord : Cd := [(13, [(0, (.aload_n 0, 1, 0, 0, 0, 0, 0, m0)), (1, (.bipush 7, 3, 0, 0, 0, 7, 0, m0)), (3, (.bipush 104, 5, 0, 0, 0, 104, 0, m0)), (5, (.bipush 97, 7, 0, 0, 0, 97, 0, m0)), (7, (.bipush 114, 9, 0, 0, 0, 114, 0, m0)), (9, (.bipush 118, 11, 0, 0, 0, 118, 0, m0)), (11, (.bipush 101, 13, 0, 0, 0, 101, 0, m0)), (13, (.invokevirtual 115, 16, 941, 7, 8, 0, 0, mX8_isWord))]),
  (29, [(16, (.ifCond .eq 40, 19, 56, 0, 0, 0, 0, m0)), (19, (.aload_n 0, 20, 0, 0, 0, 0, 0, m0)), (20, (.getfield 29, 23, 834, 11, 8, 0, 0, m0)), (23, (.aload_n 0, 24, 0, 0, 0, 0, 0, m0)), (24, (.getfield 83, 27, 837, 14, 8, 0, 0, m0)), (27, (.iconst 5, 28, 0, 0, 0, 5, 0, m0)), (28, (.iadd, 29, 0, 0, 0, 0, 0, m0)), (29, (.iaload, 30, 0, 0, 0, 0, 0, m0))]),
  (45, [(30, (.bipush 115, 32, 0, 0, 0, 115, 0, m0)), (32, (.if_icmp .ne 24, 35, 56, 0, 0, 0, 0, m0)), (35, (.aload_n 0, 36, 0, 0, 0, 0, 0, m0)), (36, (.getfield 29, 39, 834, 11, 8, 0, 0, m0)), (39, (.aload_n 0, 40, 0, 0, 0, 0, 0, m0)), (40, (.getfield 83, 43, 837, 14, 8, 0, 0, m0)), (43, (.bipush 6, 45, 0, 0, 0, 6, 0, m0)), (45, (.iadd, 46, 0, 0, 0, 0, 0, m0))]),
  (57, [(46, (.iaload, 47, 0, 0, 0, 0, 0, m0)), (47, (.bipush 116, 49, 0, 0, 0, 116, 0, m0)), (49, (.if_icmp .ne 7, 52, 56, 0, 0, 0, 0, m0)), (52, (.iconst 1, 53, 0, 0, 0, 1, 0, m0)), (53, (.goto 4, 56, 57, 0, 0, 0, 0, m0)), (56, (.iconst 0, 57, 0, 0, 0, 0, 0, m0)), (57, (.ireturn, 58, 0, 0, 0, 0, 0, m0))])]
theorem kX8_isHarvestWord : chkC mX8_isHarvestWord oX8_isHarvestWord = true := by decide +kernel
theorem qX8_takeClause : OkM mX8_takeClause := ⟨Gd_in (i := 930) (by decide +kernel) (by decide +kernel), Gd_in (i := 73) (by decide +kernel) (by decide +kernel), ⟨fun _ => ⟨Gd_in (i := 929) (by decide +kernel) (by decide +kernel), Gd_in (i := 28) (by decide +kernel) (by decide +kernel)⟩, fun h => absurd h (by decide +kernel)⟩, by decide +kernel, ⟨by decide +kernel, by decide +kernel⟩, rfl, rfl⟩
def oX8_takeClause : Cd := [(13, [(0, (.aload_n 0, 1, 0, 0, 0, 0, 0, m0)), (1, (.invokevirtual 112, 4, 931, 1, 8, 0, 0, mX8_takeWord)), (4, (.aload_n 0, 5, 0, 0, 0, 0, 0, m0)), (5, (.getfield 83, 8, 837, 14, 8, 0, 0, m0)), (8, (.istore_n 1, 9, 0, 1, 0, 0, 0, m0)), (9, (.aload_n 0, 10, 0, 0, 0, 0, 0, m0)), (10, (.invokevirtual 122, 13, 937, 1, 8, 0, 0, mX8_isHarvestWord)), (13, (.ifCond .eq 31, 16, 44, 0, 0, 0, 0, m0))]),
  (29, [(16, (.aload_n 0, 17, 0, 0, 0, 0, 0, m0)), (17, (.aload_n 0, 18, 0, 0, 0, 0, 0, m0)), (18, (.getfield 102, 21, 831, 8, 8, 0, 0, m0)), (21, (.ifCond .ne 7, 24, 28, 0, 0, 0, 0, m0)), (24, (.iconst 1, 25, 0, 0, 0, 1, 0, m0)), (25, (.goto 4, 28, 29, 0, 0, 0, 0, m0)), (28, (.iconst 0, 29, 0, 0, 0, 0, 0, m0)), (29, (.iconst 3, 30, 0, 0, 0, 3, 0, m0))]),
  (45, [(30, (.iload_n 1, 31, 0, 1, 0, 0, 0, m0)), (31, (.invokevirtual 97, 34, 945, 4, 8, 0, 0, mX8_want)), (34, (.ifCond .eq 106, 37, 140, 0, 0, 0, 0, m0)), (37, (.aload_n 0, 38, 0, 0, 0, 0, 0, m0)), (38, (.invokevirtual 126, 41, 949, 1, 8, 0, 0, mX8_takeHarvest)), (41, (.goto 99, 44, 140, 0, 0, 0, 0, m0)), (44, (.aload_n 0, 45, 0, 0, 0, 0, 0, m0)), (45, (.iconst 5, 46, 0, 0, 0, 5, 0, m0))]),
  (62, [(46, (.bipush 104, 48, 0, 0, 0, 104, 0, m0)), (48, (.bipush 111, 50, 0, 0, 0, 111, 0, m0)), (50, (.bipush 117, 52, 0, 0, 0, 117, 0, m0)), (52, (.bipush 115, 54, 0, 0, 0, 115, 0, m0)), (54, (.bipush 101, 56, 0, 0, 0, 101, 0, m0)), (56, (.invokevirtual 115, 59, 941, 7, 8, 0, 0, mX8_isWord)), (59, (.ifCond .eq 32, 62, 91, 0, 0, 0, 0, m0)), (62, (.aload_n 0, 63, 0, 0, 0, 0, 0, m0))]),
  (76, [(63, (.aload_n 0, 64, 0, 0, 0, 0, 0, m0)), (64, (.getfield 109, 67, 832, 9, 8, 0, 0, m0)), (67, (.iconst 4, 68, 0, 0, 0, 4, 0, m0)), (68, (.if_icmp .ge 7, 71, 75, 0, 0, 0, 0, m0)), (71, (.iconst 1, 72, 0, 0, 0, 1, 0, m0)), (72, (.goto 4, 75, 76, 0, 0, 0, 0, m0)), (75, (.iconst 0, 76, 0, 0, 0, 0, 0, m0)), (76, (.iconst 3, 77, 0, 0, 0, 3, 0, m0))]),
  (92, [(77, (.iload_n 1, 78, 0, 1, 0, 0, 0, m0)), (78, (.invokevirtual 97, 81, 945, 4, 8, 0, 0, mX8_want)), (81, (.ifCond .eq 59, 84, 140, 0, 0, 0, 0, m0)), (84, (.aload_n 0, 85, 0, 0, 0, 0, 0, m0)), (85, (.invokevirtual 129, 88, 960, 1, 8, 0, 0, mX8_takeHouse)), (88, (.goto 52, 91, 140, 0, 0, 0, 0, m0)), (91, (.aload_n 0, 92, 0, 0, 0, 0, 0, m0)), (92, (.aload_n 0, 93, 0, 0, 0, 0, 0, m0))]),
  (105, [(93, (.iconst 3, 94, 0, 0, 0, 3, 0, m0)), (94, (.bipush 106, 96, 0, 0, 0, 106, 0, m0)), (96, (.bipush 97, 98, 0, 0, 0, 97, 0, m0)), (98, (.bipush 114, 100, 0, 0, 0, 114, 0, m0)), (100, (.iconst 0, 101, 0, 0, 0, 0, 0, m0)), (101, (.iconst 0, 102, 0, 0, 0, 0, 0, m0)), (102, (.invokevirtual 115, 105, 941, 7, 8, 0, 0, mX8_isWord)), (105, (.iconst 1, 106, 0, 0, 0, 1, 0, m0))]),
  (120, [(106, (.iload_n 1, 107, 0, 1, 0, 0, 0, m0)), (107, (.invokevirtual 97, 110, 945, 4, 8, 0, 0, mX8_want)), (110, (.ifCond .eq 30, 113, 140, 0, 0, 0, 0, m0)), (113, (.aload_n 0, 114, 0, 0, 0, 0, 0, m0)), (114, (.aload_n 0, 115, 0, 0, 0, 0, 0, m0)), (115, (.getfield 119, 118, 833, 10, 8, 0, 0, m0)), (118, (.bipush 12, 120, 0, 0, 0, 12, 0, m0)), (120, (.if_icmp .ge 7, 123, 127, 0, 0, 0, 0, m0))]),
  (136, [(123, (.iconst 1, 124, 0, 0, 0, 1, 0, m0)), (124, (.goto 4, 127, 128, 0, 0, 0, 0, m0)), (127, (.iconst 0, 128, 0, 0, 0, 0, 0, m0)), (128, (.iconst 3, 129, 0, 0, 0, 3, 0, m0)), (129, (.iload_n 1, 130, 0, 1, 0, 0, 0, m0)), (130, (.invokevirtual 97, 133, 945, 4, 8, 0, 0, mX8_want)), (133, (.ifCond .eq 7, 136, 140, 0, 0, 0, 0, m0)), (136, (.aload_n 0, 137, 0, 0, 0, 0, 0, m0))]),
  (140, [(137, (.invokevirtual 132, 140, 964, 1, 8, 0, 0, mX8_takeJar)), (140, (.return_, 141, 0, 0, 0, 0, 0, m0))])]
theorem kX8_takeClause : chkC mX8_takeClause oX8_takeClause = true := by decide +kernel
theorem qX8_land : OkM mX8_land := ⟨Gd_in (i := 922) (by decide +kernel) (by decide +kernel), Gd_in (i := 73) (by decide +kernel) (by decide +kernel), ⟨fun _ => ⟨Gd_in (i := 920) (by decide +kernel) (by decide +kernel), Gd_in (i := 921) (by decide +kernel) (by decide +kernel)⟩, fun h => absurd h (by decide +kernel)⟩, by decide +kernel, ⟨by decide +kernel, by decide +kernel⟩, rfl, rfl⟩
def oX8_land : Cd := [(11, [(0, (.aload_n 0, 1, 0, 0, 0, 0, 0, m0)), (1, (.iconst 0, 2, 0, 0, 0, 0, 0, m0)), (2, (.putfield 73, 5, 836, 13, 8, 0, 0, m0)), (5, (.aload_n 0, 6, 0, 0, 0, 0, 0, m0)), (6, (.iconst 0, 7, 0, 0, 0, 0, 0, m0)), (7, (.putfield 76, 10, 839, 16, 8, 0, 0, m0)), (10, (.aload_n 0, 11, 0, 0, 0, 0, 0, m0)), (11, (.iconst (-1), 12, 0, 0, 0, (-1), 0, m0))]),
  (25, [(12, (.putfield 32, 15, 840, 17, 8, 0, 0, m0)), (15, (.aload_n 0, 16, 0, 0, 0, 0, 0, m0)), (16, (.iconst 0, 17, 0, 0, 0, 0, 0, m0)), (17, (.putfield 102, 20, 831, 8, 8, 0, 0, m0)), (20, (.aload_n 0, 21, 0, 0, 0, 0, 0, m0)), (21, (.iconst 0, 22, 0, 0, 0, 0, 0, m0)), (22, (.putfield 109, 25, 832, 9, 8, 0, 0, m0)), (25, (.aload_n 0, 26, 0, 0, 0, 0, 0, m0))]),
  (41, [(26, (.iconst 0, 27, 0, 0, 0, 0, 0, m0)), (27, (.putfield 119, 30, 833, 10, 8, 0, 0, m0)), (30, (.aload_n 0, 31, 0, 0, 0, 0, 0, m0)), (31, (.getfield 76, 34, 839, 16, 8, 0, 0, m0)), (34, (.ifCond .ne 60, 37, 94, 0, 0, 0, 0, m0)), (37, (.aload_n 0, 38, 0, 0, 0, 0, 0, m0)), (38, (.invokevirtual 79, 41, 923, 1, 8, 0, 0, mX8_here)), (41, (.ifCond .lt 53, 44, 94, 0, 0, 0, 0, m0))]),
  (57, [(44, (.aload_n 0, 45, 0, 0, 0, 0, 0, m0)), (45, (.invokevirtual 135, 48, 927, 1, 8, 0, 0, mX8_takeClause)), (48, (.aload_n 0, 49, 0, 0, 0, 0, 0, m0)), (49, (.getfield 76, 52, 839, 16, 8, 0, 0, m0)), (52, (.ifCond .ne (-22), 55, 30, 0, 0, 0, 0, m0)), (55, (.aload_n 0, 56, 0, 0, 0, 0, 0, m0)), (56, (.aload_n 0, 57, 0, 0, 0, 0, 0, m0)), (57, (.invokevirtual 79, 60, 923, 1, 8, 0, 0, mX8_here))]),
  (72, [(60, (.bipush 59, 62, 0, 0, 0, 59, 0, m0)), (62, (.if_icmp .ne 7, 65, 69, 0, 0, 0, 0, m0)), (65, (.iconst 1, 66, 0, 0, 0, 1, 0, m0)), (66, (.goto 4, 69, 70, 0, 0, 0, 0, m0)), (69, (.iconst 0, 70, 0, 0, 0, 0, 0, m0)), (70, (.iconst 1, 71, 0, 0, 0, 1, 0, m0)), (71, (.aload_n 0, 72, 0, 0, 0, 0, 0, m0)), (72, (.getfield 73, 75, 836, 13, 8, 0, 0, m0))]),
  (88, [(75, (.invokevirtual 97, 78, 945, 4, 8, 0, 0, mX8_want)), (78, (.ifCond .eq (-48), 81, 30, 0, 0, 0, 0, m0)), (81, (.aload_n 0, 82, 0, 0, 0, 0, 0, m0)), (82, (.dup, 83, 0, 0, 0, 0, 0, m0)), (83, (.getfield 73, 86, 836, 13, 8, 0, 0, m0)), (86, (.iconst 1, 87, 0, 0, 0, 1, 0, m0)), (87, (.iadd, 88, 0, 0, 0, 0, 0, m0)), (88, (.putfield 73, 91, 836, 13, 8, 0, 0, m0))]),
  (106, [(91, (.goto (-61), 94, 30, 0, 0, 0, 0, m0)), (94, (.aload_n 0, 95, 0, 0, 0, 0, 0, m0)), (95, (.iconst 0, 96, 0, 0, 0, 0, 0, m0)), (96, (.putfield 67, 99, 835, 12, 8, 0, 0, m0)), (99, (.aload_n 0, 100, 0, 0, 0, 0, 0, m0)), (100, (.getfield 76, 103, 839, 16, 8, 0, 0, m0)), (103, (.ifCond .le 11, 106, 114, 0, 0, 0, 0, m0)), (106, (.bipush (-10), 108, 0, 0, 0, (-10), 0, m0))]),
  (119, [(108, (.aload_n 0, 109, 0, 0, 0, 0, 0, m0)), (109, (.getfield 76, 112, 839, 16, 8, 0, 0, m0)), (112, (.isub, 113, 0, 0, 0, 0, 0, m0)), (113, (.ireturn, 114, 0, 0, 0, 0, 0, m0)), (114, (.aload_n 0, 115, 0, 0, 0, 0, 0, m0)), (115, (.aload_n 0, 116, 0, 0, 0, 0, 0, m0)), (116, (.getfield 102, 119, 831, 8, 8, 0, 0, m0)), (119, (.putfield 57, 122, 826, 3, 8, 0, 0, m0))]),
  (133, [(122, (.iconst 0, 123, 0, 0, 0, 0, 0, m0)), (123, (.istore_n 1, 124, 0, 1, 0, 0, 0, m0)), (124, (.iload_n 1, 125, 0, 1, 0, 0, 0, m0)), (125, (.aload_n 0, 126, 0, 0, 0, 0, 0, m0)), (126, (.getfield 102, 129, 831, 8, 8, 0, 0, m0)), (129, (.if_icmp .ge 24, 132, 153, 0, 0, 0, 0, m0)), (132, (.aload_n 0, 133, 0, 0, 0, 0, 0, m0)), (133, (.getfield 17, 136, 825, 2, 8, 0, 0, m0))]),
  (146, [(136, (.iload_n 1, 137, 0, 1, 0, 0, 0, m0)), (137, (.aload_n 0, 138, 0, 0, 0, 0, 0, m0)), (138, (.getfield 17, 141, 825, 2, 8, 0, 0, m0)), (141, (.bipush 8, 143, 0, 0, 0, 8, 0, m0)), (143, (.iload_n 1, 144, 0, 1, 0, 0, 0, m0)), (144, (.iadd, 145, 0, 0, 0, 0, 0, m0)), (145, (.iaload, 146, 0, 0, 0, 0, 0, m0)), (146, (.iastore, 147, 0, 0, 0, 0, 0, m0))]),
  (162, [(147, (.iinc 1 1, 150, 0, 1, 0, 1, 0, m0)), (150, (.goto (-26), 153, 124, 0, 0, 0, 0, m0)), (153, (.aload_n 0, 154, 0, 0, 0, 0, 0, m0)), (154, (.getfield 102, 157, 831, 8, 8, 0, 0, m0)), (157, (.ifCond .ne 16, 160, 173, 0, 0, 0, 0, m0)), (160, (.aload_n 0, 161, 0, 0, 0, 0, 0, m0)), (161, (.iconst 1, 162, 0, 0, 0, 1, 0, m0)), (162, (.putfield 57, 165, 826, 3, 8, 0, 0, m0))]),
  (175, [(165, (.aload_n 0, 166, 0, 0, 0, 0, 0, m0)), (166, (.getfield 17, 169, 825, 2, 8, 0, 0, m0)), (169, (.iconst 0, 170, 0, 0, 0, 0, 0, m0)), (170, (.bipush 10, 172, 0, 0, 0, 10, 0, m0)), (172, (.iastore, 173, 0, 0, 0, 0, 0, m0)), (173, (.aload_n 0, 174, 0, 0, 0, 0, 0, m0)), (174, (.aload_n 0, 175, 0, 0, 0, 0, 0, m0)), (175, (.getfield 109, 178, 832, 9, 8, 0, 0, m0))]),
  (189, [(178, (.putfield 138, 181, 830, 7, 8, 0, 0, m0)), (181, (.iconst 0, 182, 0, 0, 0, 0, 0, m0)), (182, (.istore_n 1, 183, 0, 1, 0, 0, 0, m0)), (183, (.iload_n 1, 184, 0, 1, 0, 0, 0, m0)), (184, (.iconst 4, 185, 0, 0, 0, 4, 0, m0)), (185, (.if_icmp .ge 52, 188, 237, 0, 0, 0, 0, m0)), (188, (.aload_n 0, 189, 0, 0, 0, 0, 0, m0)), (189, (.getfield 20, 192, 827, 4, 8, 0, 0, m0))]),
  (201, [(192, (.iload_n 1, 193, 0, 1, 0, 0, 0, m0)), (193, (.aload_n 0, 194, 0, 0, 0, 0, 0, m0)), (194, (.getfield 20, 197, 827, 4, 8, 0, 0, m0)), (197, (.iconst 4, 198, 0, 0, 0, 4, 0, m0)), (198, (.iload_n 1, 199, 0, 1, 0, 0, 0, m0)), (199, (.iadd, 200, 0, 0, 0, 0, 0, m0)), (200, (.iaload, 201, 0, 0, 0, 0, 0, m0)), (201, (.iastore, 202, 0, 0, 0, 0, 0, m0))]),
  (215, [(202, (.aload_n 0, 203, 0, 0, 0, 0, 0, m0)), (203, (.getfield 7, 206, 823, 0, 8, 0, 0, m0)), (206, (.sipush 168, 209, 0, 0, 0, 168, 0, m0)), (209, (.iload_n 1, 210, 0, 1, 0, 0, 0, m0)), (210, (.iadd, 211, 0, 0, 0, 0, 0, m0)), (211, (.aload_n 0, 212, 0, 0, 0, 0, 0, m0)), (212, (.getfield 23, 215, 828, 5, 8, 0, 0, m0)), (215, (.iconst 4, 216, 0, 0, 0, 4, 0, m0))]),
  (227, [(216, (.iload_n 1, 217, 0, 1, 0, 0, 0, m0)), (217, (.iadd, 218, 0, 0, 0, 0, 0, m0)), (218, (.iaload, 219, 0, 0, 0, 0, 0, m0)), (219, (.iastore, 220, 0, 0, 0, 0, 0, m0)), (220, (.aload_n 0, 221, 0, 0, 0, 0, 0, m0)), (221, (.getfield 7, 224, 823, 0, 8, 0, 0, m0)), (224, (.sipush 172, 227, 0, 0, 0, 172, 0, m0)), (227, (.iload_n 1, 228, 0, 1, 0, 0, 0, m0))]),
  (241, [(228, (.iadd, 229, 0, 0, 0, 0, 0, m0)), (229, (.iconst 0, 230, 0, 0, 0, 0, 0, m0)), (230, (.iastore, 231, 0, 0, 0, 0, 0, m0)), (231, (.iinc 1 1, 234, 0, 1, 0, 1, 0, m0)), (234, (.goto (-51), 237, 183, 0, 0, 0, 0, m0)), (237, (.aload_n 0, 238, 0, 0, 0, 0, 0, m0)), (238, (.getfield 7, 241, 823, 0, 8, 0, 0, m0)), (241, (.sipush 176, 244, 0, 0, 0, 176, 0, m0))]),
  (253, [(244, (.iconst 0, 245, 0, 0, 0, 0, 0, m0)), (245, (.iastore, 246, 0, 0, 0, 0, 0, m0)), (246, (.iconst 0, 247, 0, 0, 0, 0, 0, m0)), (247, (.istore_n 1, 248, 0, 1, 0, 0, 0, m0)), (248, (.iload_n 1, 249, 0, 1, 0, 0, 0, m0)), (249, (.aload_n 0, 250, 0, 0, 0, 0, 0, m0)), (250, (.getfield 119, 253, 833, 10, 8, 0, 0, m0)), (253, (.if_icmp .ge 57, 256, 310, 0, 0, 0, 0, m0))]),
  (263, [(256, (.iconst 5, 257, 0, 0, 0, 5, 0, m0)), (257, (.iload_n 1, 258, 0, 1, 0, 0, 0, m0)), (258, (.imul, 259, 0, 0, 0, 0, 0, m0)), (259, (.istore_n 2, 260, 0, 2, 0, 0, 0, m0)), (260, (.aload_n 0, 261, 0, 0, 0, 0, 0, m0)), (261, (.iconst 0, 262, 0, 0, 0, 0, 0, m0)), (262, (.aload_n 0, 263, 0, 0, 0, 0, 0, m0)), (263, (.getfield 26, 266, 829, 6, 8, 0, 0, m0))]),
  (275, [(266, (.iload_n 2, 267, 0, 2, 0, 0, 0, m0)), (267, (.iaload, 268, 0, 0, 0, 0, 0, m0)), (268, (.aload_n 0, 269, 0, 0, 0, 0, 0, m0)), (269, (.getfield 26, 272, 829, 6, 8, 0, 0, m0)), (272, (.iload_n 2, 273, 0, 2, 0, 0, 0, m0)), (273, (.iconst 1, 274, 0, 0, 0, 1, 0, m0)), (274, (.iadd, 275, 0, 0, 0, 0, 0, m0)), (275, (.iaload, 276, 0, 0, 0, 0, 0, m0))]),
  (285, [(276, (.aload_n 0, 277, 0, 0, 0, 0, 0, m0)), (277, (.getfield 26, 280, 829, 6, 8, 0, 0, m0)), (280, (.iload_n 2, 281, 0, 2, 0, 0, 0, m0)), (281, (.iconst 2, 282, 0, 0, 0, 2, 0, m0)), (282, (.iadd, 283, 0, 0, 0, 0, 0, m0)), (283, (.iaload, 284, 0, 0, 0, 0, 0, m0)), (284, (.aload_n 0, 285, 0, 0, 0, 0, 0, m0)), (285, (.getfield 26, 288, 829, 6, 8, 0, 0, m0))]),
  (297, [(288, (.iload_n 2, 289, 0, 2, 0, 0, 0, m0)), (289, (.iconst 3, 290, 0, 0, 0, 3, 0, m0)), (290, (.iadd, 291, 0, 0, 0, 0, 0, m0)), (291, (.iaload, 292, 0, 0, 0, 0, 0, m0)), (292, (.aload_n 0, 293, 0, 0, 0, 0, 0, m0)), (293, (.getfield 26, 296, 829, 6, 8, 0, 0, m0)), (296, (.iload_n 2, 297, 0, 2, 0, 0, 0, m0)), (297, (.iconst 4, 298, 0, 0, 0, 4, 0, m0))]),
  (311, [(298, (.iadd, 299, 0, 0, 0, 0, 0, m0)), (299, (.iaload, 300, 0, 0, 0, 0, 0, m0)), (300, (.iconst 0, 301, 0, 0, 0, 0, 0, m0)), (301, (.invokevirtual 141, 304, 968, 8, 8, 0, 0, mX8_add)), (304, (.iinc 1 1, 307, 0, 1, 0, 1, 0, m0)), (307, (.goto (-59), 310, 248, 0, 0, 0, 0, m0)), (310, (.aload_n 0, 311, 0, 0, 0, 0, 0, m0)), (311, (.getfield 7, 314, 823, 0, 8, 0, 0, m0))]),
  (327, [(314, (.sipush 177, 317, 0, 0, 0, 177, 0, m0)), (317, (.iconst 0, 318, 0, 0, 0, 0, 0, m0)), (318, (.iastore, 319, 0, 0, 0, 0, 0, m0)), (319, (.aload_n 0, 320, 0, 0, 0, 0, 0, m0)), (320, (.getfield 7, 323, 823, 0, 8, 0, 0, m0)), (323, (.sipush 178, 326, 0, 0, 0, 178, 0, m0)), (326, (.iconst 0, 327, 0, 0, 0, 0, 0, m0)), (327, (.iastore, 328, 0, 0, 0, 0, 0, m0))]),
  (339, [(328, (.aload_n 0, 329, 0, 0, 0, 0, 0, m0)), (329, (.iconst 0, 330, 0, 0, 0, 0, 0, m0)), (330, (.putfield 145, 333, 847, 24, 8, 0, 0, m0)), (333, (.aload_n 0, 334, 0, 0, 0, 0, 0, m0)), (334, (.iconst 0, 335, 0, 0, 0, 0, 0, m0)), (335, (.putfield 148, 338, 850, 27, 8, 0, 0, m0)), (338, (.aload_n 0, 339, 0, 0, 0, 0, 0, m0)), (339, (.getfield 13, 342, 824, 1, 8, 0, 0, m0))]),
  (351, [(342, (.iconst 0, 343, 0, 0, 0, 0, 0, m0)), (343, (.iconst 0, 344, 0, 0, 0, 0, 0, m0)), (344, (.bastore, 345, 0, 0, 0, 0, 0, m0)), (345, (.aload_n 0, 346, 0, 0, 0, 0, 0, m0)), (346, (.getfield 13, 349, 824, 1, 8, 0, 0, m0)), (349, (.iconst 1, 350, 0, 0, 0, 1, 0, m0)), (350, (.iconst 0, 351, 0, 0, 0, 0, 0, m0)), (351, (.bastore, 352, 0, 0, 0, 0, 0, m0))]),
  (356, [(352, (.aload_n 0, 353, 0, 0, 0, 0, 0, m0)), (353, (.getfield 138, 356, 830, 7, 8, 0, 0, m0)), (356, (.ireturn, 357, 0, 0, 0, 0, 0, m0))])]
theorem kX8_land : chkC mX8_land oX8_land = true := by decide +kernel
theorem qX8_fault : OkM mX8_fault := ⟨Gd_in (i := 975) (by decide +kernel) (by decide +kernel), Gd_in (i := 73) (by decide +kernel) (by decide +kernel), ⟨fun _ => ⟨Gd_in (i := 973) (by decide +kernel) (by decide +kernel), Gd_in (i := 974) (by decide +kernel) (by decide +kernel)⟩, fun h => absurd h (by decide +kernel)⟩, by decide +kernel, ⟨by decide +kernel, by decide +kernel⟩, rfl, rfl⟩
def oX8_fault : Cd := [(4, [(0, (.aload_n 0, 1, 0, 0, 0, 0, 0, m0)), (1, (.getfield 32, 4, 840, 17, 8, 0, 0, m0)), (4, (.ireturn, 5, 0, 0, 0, 0, 0, m0))])]
theorem kX8_fault : chkC mX8_fault oX8_fault = true := by decide +kernel
theorem qX8_add : OkM mX8_add := ⟨Gd_in (i := 971) (by decide +kernel) (by decide +kernel), Gd_in (i := 73) (by decide +kernel) (by decide +kernel), ⟨fun _ => ⟨Gd_in (i := 970) (by decide +kernel) (by decide +kernel), Gd_in (i := 37) (by decide +kernel) (by decide +kernel)⟩, fun h => absurd h (by decide +kernel)⟩, by decide +kernel, ⟨by decide +kernel, by decide +kernel⟩, rfl, rfl⟩
def oX8_add : Cd := [(11, [(0, (.iload_n 1, 1, 0, 1, 0, 0, 0, m0)), (1, (.aload_n 0, 2, 0, 0, 0, 0, 0, m0)), (2, (.getfield 7, 5, 823, 0, 8, 0, 0, m0)), (5, (.iload_n 1, 6, 0, 1, 0, 0, 0, m0)), (6, (.sipush 176, 9, 0, 0, 0, 176, 0, m0)), (9, (.iadd, 10, 0, 0, 0, 0, 0, m0)), (10, (.iaload, 11, 0, 0, 0, 0, 0, m0)), (11, (.iadd, 12, 0, 0, 0, 0, 0, m0))]),
  (23, [(12, (.istore 8, 14, 0, 8, 0, 0, 0, m0)), (14, (.aload_n 0, 15, 0, 0, 0, 0, 0, m0)), (15, (.getfield 7, 18, 823, 0, 8, 0, 0, m0)), (18, (.iload 8, 20, 0, 8, 0, 0, 0, m0)), (20, (.iload_n 2, 21, 0, 2, 0, 0, 0, m0)), (21, (.iastore, 22, 0, 0, 0, 0, 0, m0)), (22, (.aload_n 0, 23, 0, 0, 0, 0, 0, m0)), (23, (.getfield 7, 26, 823, 0, 8, 0, 0, m0))]),
  (37, [(26, (.iload 8, 28, 0, 8, 0, 0, 0, m0)), (28, (.bipush 24, 30, 0, 0, 0, 24, 0, m0)), (30, (.iadd, 31, 0, 0, 0, 0, 0, m0)), (31, (.iload_n 3, 32, 0, 3, 0, 0, 0, m0)), (32, (.iastore, 33, 0, 0, 0, 0, 0, m0)), (33, (.aload_n 0, 34, 0, 0, 0, 0, 0, m0)), (34, (.getfield 7, 37, 823, 0, 8, 0, 0, m0)), (37, (.iload 8, 39, 0, 8, 0, 0, 0, m0))]),
  (51, [(39, (.bipush 48, 41, 0, 0, 0, 48, 0, m0)), (41, (.iadd, 42, 0, 0, 0, 0, 0, m0)), (42, (.iload 4, 44, 0, 4, 0, 0, 0, m0)), (44, (.iastore, 45, 0, 0, 0, 0, 0, m0)), (45, (.aload_n 0, 46, 0, 0, 0, 0, 0, m0)), (46, (.getfield 7, 49, 823, 0, 8, 0, 0, m0)), (49, (.iload 8, 51, 0, 8, 0, 0, 0, m0)), (51, (.bipush 72, 53, 0, 0, 0, 72, 0, m0))]),
  (65, [(53, (.iadd, 54, 0, 0, 0, 0, 0, m0)), (54, (.iload 5, 56, 0, 5, 0, 0, 0, m0)), (56, (.iastore, 57, 0, 0, 0, 0, 0, m0)), (57, (.aload_n 0, 58, 0, 0, 0, 0, 0, m0)), (58, (.getfield 7, 61, 823, 0, 8, 0, 0, m0)), (61, (.iload 8, 63, 0, 8, 0, 0, 0, m0)), (63, (.bipush 96, 65, 0, 0, 0, 96, 0, m0)), (65, (.iadd, 66, 0, 0, 0, 0, 0, m0))]),
  (78, [(66, (.iload 6, 68, 0, 6, 0, 0, 0, m0)), (68, (.iastore, 69, 0, 0, 0, 0, 0, m0)), (69, (.aload_n 0, 70, 0, 0, 0, 0, 0, m0)), (70, (.getfield 7, 73, 823, 0, 8, 0, 0, m0)), (73, (.iload 8, 75, 0, 8, 0, 0, 0, m0)), (75, (.bipush 120, 77, 0, 0, 0, 120, 0, m0)), (77, (.iadd, 78, 0, 0, 0, 0, 0, m0)), (78, (.iload 7, 80, 0, 7, 0, 0, 0, m0))]),
  (92, [(80, (.iastore, 81, 0, 0, 0, 0, 0, m0)), (81, (.aload_n 0, 82, 0, 0, 0, 0, 0, m0)), (82, (.getfield 7, 85, 823, 0, 8, 0, 0, m0)), (85, (.iload 8, 87, 0, 8, 0, 0, 0, m0)), (87, (.sipush 144, 90, 0, 0, 0, 144, 0, m0)), (90, (.iadd, 91, 0, 0, 0, 0, 0, m0)), (91, (.iconst 0, 92, 0, 0, 0, 0, 0, m0)), (92, (.iastore, 93, 0, 0, 0, 0, 0, m0))]),
  (104, [(93, (.aload_n 0, 94, 0, 0, 0, 0, 0, m0)), (94, (.getfield 7, 97, 823, 0, 8, 0, 0, m0)), (97, (.iload_n 1, 98, 0, 1, 0, 0, 0, m0)), (98, (.sipush 176, 101, 0, 0, 0, 176, 0, m0)), (101, (.iadd, 102, 0, 0, 0, 0, 0, m0)), (102, (.dup2, 103, 0, 0, 0, 0, 0, m0)), (103, (.iaload, 104, 0, 0, 0, 0, 0, m0)), (104, (.iconst 1, 105, 0, 0, 0, 1, 0, m0))]),
  (107, [(105, (.iadd, 106, 0, 0, 0, 0, 0, m0)), (106, (.iastore, 107, 0, 0, 0, 0, 0, m0)), (107, (.return_, 108, 0, 0, 0, 0, 0, m0))])]
theorem kX8_add : chkC mX8_add oX8_add = true := by decide +kernel
theorem qX8_isHouse : OkM mX8_isHouse := ⟨Gd_in (i := 995) (by decide +kernel) (by decide +kernel), Gd_in (i := 73) (by decide +kernel) (by decide +kernel), ⟨fun _ => ⟨Gd_in (i := 994) (by decide +kernel) (by decide +kernel), Gd_in (i := 40) (by decide +kernel) (by decide +kernel)⟩, fun h => absurd h (by decide +kernel)⟩, by decide +kernel, ⟨by decide +kernel, by decide +kernel⟩, rfl, rfl⟩
def oX8_isHouse : Cd := [(9, [(0, (.iload_n 1, 1, 0, 1, 0, 0, 0, m0)), (1, (.i2l, 2, 0, 0, 0, 0, 0, m0)), (2, (.lconst 0, 3, 0, 0, 0, 0, 0, m0)), (3, (.aload_n 0, 4, 0, 0, 0, 0, 0, m0)), (4, (.getfield 138, 7, 830, 7, 8, 0, 0, m0)), (7, (.iconst 1, 8, 0, 0, 0, 1, 0, m0)), (8, (.isub, 9, 0, 0, 0, 0, 0, m0)), (9, (.i2l, 10, 0, 0, 0, 0, 0, m0))]),
  (13, [(10, (.invokestatic 62, 13, 913, 3, 0, 0, 0, mX8_in)), (13, (.ireturn, 14, 0, 0, 0, 0, 0, m0))])]
theorem kX8_isHouse : chkC mX8_isHouse oX8_isHouse = true := by decide +kernel
theorem qX8_isJar : OkM mX8_isJar := ⟨Gd_in (i := 1019) (by decide +kernel) (by decide +kernel), Gd_in (i := 73) (by decide +kernel) (by decide +kernel), ⟨fun _ => ⟨Gd_in (i := 1018) (by decide +kernel) (by decide +kernel), Gd_in (i := 44) (by decide +kernel) (by decide +kernel)⟩, fun h => absurd h (by decide +kernel)⟩, by decide +kernel, ⟨by decide +kernel, by decide +kernel⟩, rfl, rfl⟩
def oX8_isJar : Cd := [(11, [(0, (.iload_n 1, 1, 0, 1, 0, 0, 0, m0)), (1, (.i2l, 2, 0, 0, 0, 0, 0, m0)), (2, (.lconst 0, 3, 0, 0, 0, 0, 0, m0)), (3, (.aload_n 0, 4, 0, 0, 0, 0, 0, m0)), (4, (.getfield 7, 7, 823, 0, 8, 0, 0, m0)), (7, (.sipush 176, 10, 0, 0, 0, 176, 0, m0)), (10, (.iaload, 11, 0, 0, 0, 0, 0, m0)), (11, (.iconst 1, 12, 0, 0, 0, 1, 0, m0))]),
  (17, [(12, (.isub, 13, 0, 0, 0, 0, 0, m0)), (13, (.i2l, 14, 0, 0, 0, 0, 0, m0)), (14, (.invokestatic 62, 17, 913, 3, 0, 0, 0, mX8_in)), (17, (.ireturn, 18, 0, 0, 0, 0, 0, m0))])]
theorem kX8_isJar : chkC mX8_isJar oX8_isJar = true := by decide +kernel
theorem qX8_harvestOf : OkM mX8_harvestOf := ⟨Gd_in (i := 983) (by decide +kernel) (by decide +kernel), Gd_in (i := 73) (by decide +kernel) (by decide +kernel), ⟨fun _ => ⟨Gd_in (i := 982) (by decide +kernel) (by decide +kernel), Gd_in (i := 38) (by decide +kernel) (by decide +kernel)⟩, fun h => absurd h (by decide +kernel)⟩, by decide +kernel, ⟨by decide +kernel, by decide +kernel⟩, rfl, rfl⟩
def oX8_harvestOf : Cd := [(11, [(0, (.aload_n 0, 1, 0, 0, 0, 0, 0, m0)), (1, (.getfield 17, 4, 825, 2, 8, 0, 0, m0)), (4, (.iload_n 1, 5, 0, 1, 0, 0, 0, m0)), (5, (.aload_n 0, 6, 0, 0, 0, 0, 0, m0)), (6, (.getfield 57, 9, 826, 3, 8, 0, 0, m0)), (9, (.irem, 10, 0, 0, 0, 0, 0, m0)), (10, (.iaload, 11, 0, 0, 0, 0, 0, m0)), (11, (.ireturn, 12, 0, 0, 0, 0, 0, m0))])]
theorem kX8_harvestOf : chkC mX8_harvestOf oX8_harvestOf = true := by decide +kernel
theorem qX8_filled : OkM mX8_filled := ⟨Gd_in (i := 1023) (by decide +kernel) (by decide +kernel), Gd_in (i := 73) (by decide +kernel) (by decide +kernel), ⟨fun _ => ⟨Gd_in (i := 1022) (by decide +kernel) (by decide +kernel), Gd_in (i := 45) (by decide +kernel) (by decide +kernel)⟩, fun h => absurd h (by decide +kernel)⟩, by decide +kernel, ⟨by decide +kernel, by decide +kernel⟩, rfl, rfl⟩
def oX8_filled : Cd := [(10, [(0, (.iload_n 3, 1, 0, 3, 0, 0, 0, m0)), (1, (.aload_n 0, 2, 0, 0, 0, 0, 0, m0)), (2, (.getfield 7, 5, 823, 0, 8, 0, 0, m0)), (5, (.iload_n 1, 6, 0, 1, 0, 0, 0, m0)), (6, (.bipush 120, 8, 0, 0, 0, 120, 0, m0)), (8, (.iadd, 9, 0, 0, 0, 0, 0, m0)), (9, (.iload_n 2, 10, 0, 2, 0, 0, 0, m0)), (10, (.iadd, 11, 0, 0, 0, 0, 0, m0))]),
  (22, [(11, (.iaload, 12, 0, 0, 0, 0, 0, m0)), (12, (.isub, 13, 0, 0, 0, 0, 0, m0)), (13, (.istore 4, 15, 0, 4, 0, 0, 0, m0)), (15, (.aload_n 0, 16, 0, 0, 0, 0, 0, m0)), (16, (.getfield 7, 19, 823, 0, 8, 0, 0, m0)), (19, (.iload_n 1, 20, 0, 1, 0, 0, 0, m0)), (20, (.bipush 96, 22, 0, 0, 0, 96, 0, m0)), (22, (.iadd, 23, 0, 0, 0, 0, 0, m0))]),
  (33, [(23, (.iload_n 2, 24, 0, 2, 0, 0, 0, m0)), (24, (.iadd, 25, 0, 0, 0, 0, 0, m0)), (25, (.iaload, 26, 0, 0, 0, 0, 0, m0)), (26, (.istore 5, 28, 0, 5, 0, 0, 0, m0)), (28, (.aload_n 0, 29, 0, 0, 0, 0, 0, m0)), (29, (.getfield 7, 32, 823, 0, 8, 0, 0, m0)), (32, (.iload_n 1, 33, 0, 1, 0, 0, 0, m0)), (33, (.bipush 72, 35, 0, 0, 0, 72, 0, m0))]),
  (45, [(35, (.iadd, 36, 0, 0, 0, 0, 0, m0)), (36, (.iload_n 2, 37, 0, 2, 0, 0, 0, m0)), (37, (.iadd, 38, 0, 0, 0, 0, 0, m0)), (38, (.iaload, 39, 0, 0, 0, 0, 0, m0)), (39, (.istore 6, 41, 0, 6, 0, 0, 0, m0)), (41, (.aload_n 0, 42, 0, 0, 0, 0, 0, m0)), (42, (.getfield 7, 45, 823, 0, 8, 0, 0, m0)), (45, (.iload_n 1, 46, 0, 1, 0, 0, 0, m0))]),
  (59, [(46, (.iload_n 2, 47, 0, 2, 0, 0, 0, m0)), (47, (.iadd, 48, 0, 0, 0, 0, 0, m0)), (48, (.iaload, 49, 0, 0, 0, 0, 0, m0)), (49, (.ifCond .ne 22, 52, 71, 0, 0, 0, 0, m0)), (52, (.iload 4, 54, 0, 4, 0, 0, 0, m0)), (54, (.iload 5, 56, 0, 5, 0, 0, 0, m0)), (56, (.if_icmp .le 10, 59, 66, 0, 0, 0, 0, m0)), (59, (.iload 6, 61, 0, 6, 0, 0, 0, m0))]),
  (75, [(61, (.iconst 2, 62, 0, 0, 0, 2, 0, m0)), (62, (.idiv, 63, 0, 0, 0, 0, 0, m0)), (63, (.goto 42, 66, 105, 0, 0, 0, 0, m0)), (66, (.iload 6, 68, 0, 6, 0, 0, 0, m0)), (68, (.goto 37, 71, 105, 0, 0, 0, 0, m0)), (71, (.aload_n 0, 72, 0, 0, 0, 0, 0, m0)), (72, (.getfield 7, 75, 823, 0, 8, 0, 0, m0)), (75, (.iload_n 1, 76, 0, 1, 0, 0, 0, m0))]),
  (87, [(76, (.iload_n 2, 77, 0, 2, 0, 0, 0, m0)), (77, (.iadd, 78, 0, 0, 0, 0, 0, m0)), (78, (.iaload, 79, 0, 0, 0, 0, 0, m0)), (79, (.iconst 1, 80, 0, 0, 0, 1, 0, m0)), (80, (.if_icmp .ne 23, 83, 103, 0, 0, 0, 0, m0)), (83, (.iload 6, 85, 0, 6, 0, 0, 0, m0)), (85, (.iload 4, 87, 0, 4, 0, 0, 0, m0)), (87, (.iload 5, 89, 0, 5, 0, 0, 0, m0))]),
  (105, [(89, (.if_icmp .ge 8, 92, 97, 0, 0, 0, 0, m0)), (92, (.iload 4, 94, 0, 4, 0, 0, 0, m0)), (94, (.goto 5, 97, 99, 0, 0, 0, 0, m0)), (97, (.iload 5, 99, 0, 5, 0, 0, 0, m0)), (99, (.iadd, 100, 0, 0, 0, 0, 0, m0)), (100, (.goto 5, 103, 105, 0, 0, 0, 0, m0)), (103, (.iload 6, 105, 0, 6, 0, 0, 0, m0)), (105, (.ireturn, 106, 0, 0, 0, 0, 0, m0))])]
theorem kX8_filled : chkC mX8_filled oX8_filled = true := by decide +kernel
theorem qX8_mayBe : OkM mX8_mayBe := ⟨Gd_in (i := 1008) (by decide +kernel) (by decide +kernel), Gd_in (i := 73) (by decide +kernel) (by decide +kernel), ⟨fun _ => ⟨Gd_in (i := 1007) (by decide +kernel) (by decide +kernel), Gd_in (i := 43) (by decide +kernel) (by decide +kernel)⟩, fun h => absurd h (by decide +kernel)⟩, by decide +kernel, ⟨by decide +kernel, by decide +kernel⟩, rfl, rfl⟩
def oX8_mayBe : Cd := [(12, [(0, (.aload_n 0, 1, 0, 0, 0, 0, 0, m0)), (1, (.getfield 7, 4, 823, 0, 8, 0, 0, m0)), (4, (.iload_n 1, 5, 0, 1, 0, 0, 0, m0)), (5, (.sipush 179, 8, 0, 0, 0, 179, 0, m0)), (8, (.iadd, 9, 0, 0, 0, 0, 0, m0)), (9, (.iaload, 10, 0, 0, 0, 0, 0, m0)), (10, (.istore 4, 12, 0, 4, 0, 0, 0, m0)), (12, (.iload 4, 14, 0, 4, 0, 0, 0, m0))]),
  (28, [(14, (.iconst 2, 15, 0, 0, 0, 2, 0, m0)), (15, (.if_icmp .eq 41, 18, 56, 0, 0, 0, 0, m0)), (18, (.iload 4, 20, 0, 4, 0, 0, 0, m0)), (20, (.ifCond .ne 21, 23, 41, 0, 0, 0, 0, m0)), (23, (.iload_n 3, 24, 0, 3, 0, 0, 0, m0)), (24, (.aload_n 0, 25, 0, 0, 0, 0, 0, m0)), (25, (.getfield 7, 28, 823, 0, 8, 0, 0, m0)), (28, (.iload_n 1, 29, 0, 1, 0, 0, 0, m0))]),
  (41, [(29, (.bipush 48, 31, 0, 0, 0, 48, 0, m0)), (31, (.iadd, 32, 0, 0, 0, 0, 0, m0)), (32, (.iload_n 2, 33, 0, 2, 0, 0, 0, m0)), (33, (.iadd, 34, 0, 0, 0, 0, 0, m0)), (34, (.iaload, 35, 0, 0, 0, 0, 0, m0)), (35, (.if_icmp .lt 25, 38, 60, 0, 0, 0, 0, m0)), (38, (.goto 18, 41, 56, 0, 0, 0, 0, m0)), (41, (.iload_n 3, 42, 0, 3, 0, 0, 0, m0))]),
  (52, [(42, (.aload_n 0, 43, 0, 0, 0, 0, 0, m0)), (43, (.getfield 7, 46, 823, 0, 8, 0, 0, m0)), (46, (.iload_n 1, 47, 0, 1, 0, 0, 0, m0)), (47, (.bipush 48, 49, 0, 0, 0, 48, 0, m0)), (49, (.iadd, 50, 0, 0, 0, 0, 0, m0)), (50, (.iload_n 2, 51, 0, 2, 0, 0, 0, m0)), (51, (.iadd, 52, 0, 0, 0, 0, 0, m0)), (52, (.iaload, 53, 0, 0, 0, 0, 0, m0))]),
  (61, [(53, (.if_icmp .ne 7, 56, 60, 0, 0, 0, 0, m0)), (56, (.iconst 1, 57, 0, 0, 0, 1, 0, m0)), (57, (.goto 4, 60, 61, 0, 0, 0, 0, m0)), (60, (.iconst 0, 61, 0, 0, 0, 0, 0, m0)), (61, (.ireturn, 62, 0, 0, 0, 0, 0, m0))])]
theorem kX8_mayBe : chkC mX8_mayBe oX8_mayBe = true := by decide +kernel
theorem qX8_may : OkM mX8_may := ⟨Gd_in (i := 1004) (by decide +kernel) (by decide +kernel), Gd_in (i := 73) (by decide +kernel) (by decide +kernel), ⟨fun _ => ⟨Gd_in (i := 1003) (by decide +kernel) (by decide +kernel), Gd_in (i := 42) (by decide +kernel) (by decide +kernel)⟩, fun h => absurd h (by decide +kernel)⟩, by decide +kernel, ⟨by decide +kernel, by decide +kernel⟩, rfl, rfl⟩
def oX8_may : Cd := [(11, [(0, (.aload_n 0, 1, 0, 0, 0, 0, 0, m0)), (1, (.getfield 7, 4, 823, 0, 8, 0, 0, m0)), (4, (.iload_n 1, 5, 0, 1, 0, 0, 0, m0)), (5, (.sipush 144, 8, 0, 0, 0, 144, 0, m0)), (8, (.iadd, 9, 0, 0, 0, 0, 0, m0)), (9, (.iload_n 2, 10, 0, 2, 0, 0, 0, m0)), (10, (.iadd, 11, 0, 0, 0, 0, 0, m0)), (11, (.iaload, 12, 0, 0, 0, 0, 0, m0))]),
  (25, [(12, (.ifCond .ne 17, 15, 29, 0, 0, 0, 0, m0)), (15, (.aload_n 0, 16, 0, 0, 0, 0, 0, m0)), (16, (.iload_n 1, 17, 0, 1, 0, 0, 0, m0)), (17, (.iload_n 2, 18, 0, 2, 0, 0, 0, m0)), (18, (.iload_n 3, 19, 0, 3, 0, 0, 0, m0)), (19, (.invokevirtual 151, 22, 1005, 4, 8, 0, 0, mX8_mayBe)), (22, (.ifCond .eq 7, 25, 29, 0, 0, 0, 0, m0)), (25, (.iconst 1, 26, 0, 0, 0, 1, 0, m0))]),
  (30, [(26, (.goto 4, 29, 30, 0, 0, 0, 0, m0)), (29, (.iconst 0, 30, 0, 0, 0, 0, 0, m0)), (30, (.ireturn, 31, 0, 0, 0, 0, 0, m0))])]
theorem kX8_may : chkC mX8_may oX8_may = true := by decide +kernel
theorem qX8_gone : OkM mX8_gone := ⟨Gd_in (i := 987) (by decide +kernel) (by decide +kernel), Gd_in (i := 73) (by decide +kernel) (by decide +kernel), ⟨fun _ => ⟨Gd_in (i := 986) (by decide +kernel) (by decide +kernel), Gd_in (i := 39) (by decide +kernel) (by decide +kernel)⟩, fun h => absurd h (by decide +kernel)⟩, by decide +kernel, ⟨by decide +kernel, by decide +kernel⟩, rfl, rfl⟩
def oX8_gone : Cd := [(9, [(0, (.iconst 0, 1, 0, 0, 0, 0, 0, m0)), (1, (.istore_n 1, 2, 0, 1, 0, 0, 0, m0)), (2, (.iconst 0, 3, 0, 0, 0, 0, 0, m0)), (3, (.istore_n 2, 4, 0, 2, 0, 0, 0, m0)), (4, (.iload_n 2, 5, 0, 2, 0, 0, 0, m0)), (5, (.aload_n 0, 6, 0, 0, 0, 0, 0, m0)), (6, (.getfield 7, 9, 823, 0, 8, 0, 0, m0)), (9, (.sipush 176, 12, 0, 0, 0, 176, 0, m0))]),
  (25, [(12, (.iaload, 13, 0, 0, 0, 0, 0, m0)), (13, (.if_icmp .ge 24, 16, 37, 0, 0, 0, 0, m0)), (16, (.iload_n 1, 17, 0, 1, 0, 0, 0, m0)), (17, (.aload_n 0, 18, 0, 0, 0, 0, 0, m0)), (18, (.getfield 7, 21, 823, 0, 8, 0, 0, m0)), (21, (.sipush 144, 24, 0, 0, 0, 144, 0, m0)), (24, (.iload_n 2, 25, 0, 2, 0, 0, 0, m0)), (25, (.iadd, 26, 0, 0, 0, 0, 0, m0))]),
  (37, [(26, (.iaload, 27, 0, 0, 0, 0, 0, m0)), (27, (.iload_n 2, 28, 0, 2, 0, 0, 0, m0)), (28, (.ishl, 29, 0, 0, 0, 0, 0, m0)), (29, (.ior, 30, 0, 0, 0, 0, 0, m0)), (30, (.istore_n 1, 31, 0, 1, 0, 0, 0, m0)), (31, (.iinc 2 1, 34, 0, 2, 0, 1, 0, m0)), (34, (.goto (-30), 37, 4, 0, 0, 0, 0, m0)), (37, (.iload_n 1, 38, 0, 1, 0, 0, 0, m0))]),
  (38, [(38, (.ireturn, 39, 0, 0, 0, 0, 0, m0))])]
theorem kX8_gone : chkC mX8_gone oX8_gone = true := by decide +kernel
theorem qX8_told : OkM mX8_told := ⟨Gd_in (i := 979) (by decide +kernel) (by decide +kernel), Gd_in (i := 73) (by decide +kernel) (by decide +kernel), ⟨fun _ => ⟨Gd_in (i := 977) (by decide +kernel) (by decide +kernel), Gd_in (i := 978) (by decide +kernel) (by decide +kernel)⟩, fun h => absurd h (by decide +kernel)⟩, by decide +kernel, ⟨by decide +kernel, by decide +kernel⟩, rfl, rfl⟩
def oX8_told : Cd := [(65, [(0, (.iload_n 1, 1, 0, 1, 0, 0, 0, m0)), (1, (.tableswitch 129 0 9 #[55, 60, 69, 74, 83, 92, 105, 114, 119, 124], 56, 0, 0, 55, 0, 0, m0)), (56, (.aload_n 0, 57, 0, 0, 0, 0, 0, m0)), (57, (.getfield 138, 60, 830, 7, 8, 0, 0, m0)), (60, (.ireturn, 61, 0, 0, 0, 0, 0, m0)), (61, (.aload_n 0, 62, 0, 0, 0, 0, 0, m0)), (62, (.getfield 7, 65, 823, 0, 8, 0, 0, m0)), (65, (.sipush 176, 68, 0, 0, 0, 176, 0, m0))]),
  (79, [(68, (.iaload, 69, 0, 0, 0, 0, 0, m0)), (69, (.ireturn, 70, 0, 0, 0, 0, 0, m0)), (70, (.aload_n 0, 71, 0, 0, 0, 0, 0, m0)), (71, (.getfield 67, 74, 835, 12, 8, 0, 0, m0)), (74, (.ireturn, 75, 0, 0, 0, 0, 0, m0)), (75, (.aload_n 0, 76, 0, 0, 0, 0, 0, m0)), (76, (.getfield 7, 79, 823, 0, 8, 0, 0, m0)), (79, (.sipush 177, 82, 0, 0, 0, 177, 0, m0))]),
  (93, [(82, (.iaload, 83, 0, 0, 0, 0, 0, m0)), (83, (.ireturn, 84, 0, 0, 0, 0, 0, m0)), (84, (.aload_n 0, 85, 0, 0, 0, 0, 0, m0)), (85, (.getfield 7, 88, 823, 0, 8, 0, 0, m0)), (88, (.sipush 179, 91, 0, 0, 0, 179, 0, m0)), (91, (.iaload, 92, 0, 0, 0, 0, 0, m0)), (92, (.ireturn, 93, 0, 0, 0, 0, 0, m0)), (93, (.aload_n 0, 94, 0, 0, 0, 0, 0, m0))]),
  (107, [(94, (.aload_n 0, 95, 0, 0, 0, 0, 0, m0)), (95, (.getfield 7, 98, 823, 0, 8, 0, 0, m0)), (98, (.sipush 177, 101, 0, 0, 0, 177, 0, m0)), (101, (.iaload, 102, 0, 0, 0, 0, 0, m0)), (102, (.invokevirtual 155, 105, 980, 2, 8, 0, 0, mX8_harvestOf)), (105, (.ireturn, 106, 0, 0, 0, 0, 0, m0)), (106, (.aload_n 0, 107, 0, 0, 0, 0, 0, m0)), (107, (.getfield 7, 110, 823, 0, 8, 0, 0, m0))]),
  (121, [(110, (.sipush 178, 113, 0, 0, 0, 178, 0, m0)), (113, (.iaload, 114, 0, 0, 0, 0, 0, m0)), (114, (.ireturn, 115, 0, 0, 0, 0, 0, m0)), (115, (.aload_n 0, 116, 0, 0, 0, 0, 0, m0)), (116, (.invokevirtual 159, 119, 984, 1, 8, 0, 0, mX8_gone)), (119, (.ireturn, 120, 0, 0, 0, 0, 0, m0)), (120, (.aload_n 0, 121, 0, 0, 0, 0, 0, m0)), (121, (.getfield 145, 124, 847, 24, 8, 0, 0, m0))]),
  (132, [(124, (.ireturn, 125, 0, 0, 0, 0, 0, m0)), (125, (.aload_n 0, 126, 0, 0, 0, 0, 0, m0)), (126, (.getfield 148, 129, 850, 27, 8, 0, 0, m0)), (129, (.ireturn, 130, 0, 0, 0, 0, 0, m0)), (130, (.ldc 66, 132, 916, 0, 0, (-1000000002), 0, m0)), (132, (.ireturn, 133, 0, 0, 0, 0, 0, m0))])]
theorem kX8_told : chkC mX8_told oX8_told = true := by decide +kernel
theorem qX8_jarsOf : OkM mX8_jarsOf := ⟨Gd_in (i := 1000) (by decide +kernel) (by decide +kernel), Gd_in (i := 73) (by decide +kernel) (by decide +kernel), ⟨fun _ => ⟨Gd_in (i := 999) (by decide +kernel) (by decide +kernel), Gd_in (i := 41) (by decide +kernel) (by decide +kernel)⟩, fun h => absurd h (by decide +kernel)⟩, by decide +kernel, ⟨by decide +kernel, by decide +kernel⟩, rfl, rfl⟩
def oX8_jarsOf : Cd := [(11, [(0, (.iconst 0, 1, 0, 0, 0, 0, 0, m0)), (1, (.istore_n 3, 2, 0, 3, 0, 0, 0, m0)), (2, (.iconst 0, 3, 0, 0, 0, 0, 0, m0)), (3, (.istore 4, 5, 0, 4, 0, 0, 0, m0)), (5, (.iload 4, 7, 0, 4, 0, 0, 0, m0)), (7, (.aload_n 0, 8, 0, 0, 0, 0, 0, m0)), (8, (.getfield 7, 11, 823, 0, 8, 0, 0, m0)), (11, (.sipush 176, 14, 0, 0, 0, 176, 0, m0))]),
  (27, [(14, (.iaload, 15, 0, 0, 0, 0, 0, m0)), (15, (.if_icmp .ge 77, 18, 92, 0, 0, 0, 0, m0)), (18, (.aload_n 0, 19, 0, 0, 0, 0, 0, m0)), (19, (.getfield 7, 22, 823, 0, 8, 0, 0, m0)), (22, (.bipush 24, 24, 0, 0, 0, 24, 0, m0)), (24, (.iload 4, 26, 0, 4, 0, 0, 0, m0)), (26, (.iadd, 27, 0, 0, 0, 0, 0, m0)), (27, (.iaload, 28, 0, 0, 0, 0, 0, m0))]),
  (42, [(28, (.iload_n 1, 29, 0, 1, 0, 0, 0, m0)), (29, (.if_icmp .ne 43, 32, 72, 0, 0, 0, 0, m0)), (32, (.aload_n 0, 33, 0, 0, 0, 0, 0, m0)), (33, (.getfield 7, 36, 823, 0, 8, 0, 0, m0)), (36, (.sipush 144, 39, 0, 0, 0, 144, 0, m0)), (39, (.iload 4, 41, 0, 4, 0, 0, 0, m0)), (41, (.iadd, 42, 0, 0, 0, 0, 0, m0)), (42, (.iaload, 43, 0, 0, 0, 0, 0, m0))]),
  (55, [(43, (.ifCond .ne 29, 46, 72, 0, 0, 0, 0, m0)), (46, (.iload_n 2, 47, 0, 2, 0, 0, 0, m0)), (47, (.ifCond .eq 21, 50, 68, 0, 0, 0, 0, m0)), (50, (.aload_n 0, 51, 0, 0, 0, 0, 0, m0)), (51, (.iconst 0, 52, 0, 0, 0, 0, 0, m0)), (52, (.iload 4, 54, 0, 4, 0, 0, 0, m0)), (54, (.aload_n 0, 55, 0, 0, 0, 0, 0, m0)), (55, (.getfield 7, 58, 823, 0, 8, 0, 0, m0))]),
  (73, [(58, (.sipush 177, 61, 0, 0, 0, 177, 0, m0)), (61, (.iaload, 62, 0, 0, 0, 0, 0, m0)), (62, (.invokevirtual 162, 65, 1001, 4, 8, 0, 0, mX8_may)), (65, (.ifCond .eq 7, 68, 72, 0, 0, 0, 0, m0)), (68, (.iconst 1, 69, 0, 0, 0, 1, 0, m0)), (69, (.goto 4, 72, 73, 0, 0, 0, 0, m0)), (72, (.iconst 0, 73, 0, 0, 0, 0, 0, m0)), (73, (.istore 5, 75, 0, 5, 0, 0, 0, m0))]),
  (86, [(75, (.iload_n 3, 76, 0, 3, 0, 0, 0, m0)), (76, (.iload 5, 78, 0, 5, 0, 0, 0, m0)), (78, (.invokestatic 165, 81, 1009, 1, 0, 0, 0, mX8_one)), (81, (.iload 4, 83, 0, 4, 0, 0, 0, m0)), (83, (.ishl, 84, 0, 0, 0, 0, 0, m0)), (84, (.ior, 85, 0, 0, 0, 0, 0, m0)), (85, (.istore_n 3, 86, 0, 3, 0, 0, 0, m0)), (86, (.iinc 4 1, 89, 0, 4, 0, 1, 0, m0))]),
  (93, [(89, (.goto (-84), 92, 5, 0, 0, 0, 0, m0)), (92, (.iload_n 3, 93, 0, 3, 0, 0, 0, m0)), (93, (.ireturn, 94, 0, 0, 0, 0, 0, m0))])]
theorem kX8_jarsOf : chkC mX8_jarsOf oX8_jarsOf = true := by decide +kernel
theorem qX8_house : OkM mX8_house := ⟨Gd_in (i := 991) (by decide +kernel) (by decide +kernel), Gd_in (i := 73) (by decide +kernel) (by decide +kernel), ⟨fun _ => ⟨Gd_in (i := 989) (by decide +kernel) (by decide +kernel), Gd_in (i := 990) (by decide +kernel) (by decide +kernel)⟩, fun h => absurd h (by decide +kernel)⟩, by decide +kernel, ⟨by decide +kernel, by decide +kernel⟩, rfl, rfl⟩
def oX8_house : Cd := [(12, [(0, (.aload_n 0, 1, 0, 0, 0, 0, 0, m0)), (1, (.iload_n 1, 2, 0, 1, 0, 0, 0, m0)), (2, (.invokevirtual 169, 5, 992, 2, 8, 0, 0, mX8_isHouse)), (5, (.ifCond .ne 6, 8, 11, 0, 0, 0, 0, m0)), (8, (.ldc 173, 10, 996, 0, 0, (-1000000001), 0, m0)), (10, (.ireturn, 11, 0, 0, 0, 0, 0, m0)), (11, (.iload_n 2, 12, 0, 2, 0, 0, 0, m0)), (12, (.tableswitch 79 0 4 #[36, 43, 54, 65, 72], 48, 0, 0, 36, 0, 0, m0))]),
  (59, [(48, (.aload_n 0, 49, 0, 0, 0, 0, 0, m0)), (49, (.getfield 20, 52, 827, 4, 8, 0, 0, m0)), (52, (.iload_n 1, 53, 0, 1, 0, 0, 0, m0)), (53, (.iaload, 54, 0, 0, 0, 0, 0, m0)), (54, (.ireturn, 55, 0, 0, 0, 0, 0, m0)), (55, (.aload_n 0, 56, 0, 0, 0, 0, 0, m0)), (56, (.getfield 7, 59, 823, 0, 8, 0, 0, m0)), (59, (.sipush 168, 62, 0, 0, 0, 168, 0, m0))]),
  (73, [(62, (.iload_n 1, 63, 0, 1, 0, 0, 0, m0)), (63, (.iadd, 64, 0, 0, 0, 0, 0, m0)), (64, (.iaload, 65, 0, 0, 0, 0, 0, m0)), (65, (.ireturn, 66, 0, 0, 0, 0, 0, m0)), (66, (.aload_n 0, 67, 0, 0, 0, 0, 0, m0)), (67, (.getfield 7, 70, 823, 0, 8, 0, 0, m0)), (70, (.sipush 172, 73, 0, 0, 0, 172, 0, m0)), (73, (.iload_n 1, 74, 0, 1, 0, 0, 0, m0))]),
  (83, [(74, (.iadd, 75, 0, 0, 0, 0, 0, m0)), (75, (.iaload, 76, 0, 0, 0, 0, 0, m0)), (76, (.ireturn, 77, 0, 0, 0, 0, 0, m0)), (77, (.aload_n 0, 78, 0, 0, 0, 0, 0, m0)), (78, (.iload_n 1, 79, 0, 1, 0, 0, 0, m0)), (79, (.iconst 0, 80, 0, 0, 0, 0, 0, m0)), (80, (.invokevirtual 174, 83, 997, 3, 8, 0, 0, mX8_jarsOf)), (83, (.ireturn, 84, 0, 0, 0, 0, 0, m0))]),
  (93, [(84, (.aload_n 0, 85, 0, 0, 0, 0, 0, m0)), (85, (.iload_n 1, 86, 0, 1, 0, 0, 0, m0)), (86, (.iconst 1, 87, 0, 0, 0, 1, 0, m0)), (87, (.invokevirtual 174, 90, 997, 3, 8, 0, 0, mX8_jarsOf)), (90, (.ireturn, 91, 0, 0, 0, 0, 0, m0)), (91, (.ldc 66, 93, 916, 0, 0, (-1000000002), 0, m0)), (93, (.ireturn, 94, 0, 0, 0, 0, 0, m0))])]
theorem kX8_house : chkC mX8_house oX8_house = true := by decide +kernel
theorem qX8_jar : OkM mX8_jar := ⟨Gd_in (i := 1015) (by decide +kernel) (by decide +kernel), Gd_in (i := 73) (by decide +kernel) (by decide +kernel), ⟨fun _ => ⟨Gd_in (i := 1013) (by decide +kernel) (by decide +kernel), Gd_in (i := 1014) (by decide +kernel) (by decide +kernel)⟩, fun h => absurd h (by decide +kernel)⟩, by decide +kernel, ⟨by decide +kernel, by decide +kernel⟩, rfl, rfl⟩
def oX8_jar : Cd := [(12, [(0, (.aload_n 0, 1, 0, 0, 0, 0, 0, m0)), (1, (.iload_n 1, 2, 0, 1, 0, 0, 0, m0)), (2, (.invokevirtual 178, 5, 1016, 2, 8, 0, 0, mX8_isJar)), (5, (.ifCond .ne 6, 8, 11, 0, 0, 0, 0, m0)), (8, (.ldc 173, 10, 996, 0, 0, (-1000000001), 0, m0)), (10, (.ireturn, 11, 0, 0, 0, 0, 0, m0)), (11, (.iload_n 2, 12, 0, 2, 0, 0, 0, m0)), (12, (.tableswitch 140 0 7 #[48, 55, 65, 75, 85, 95, 114, 129], 60, 0, 0, 48, 0, 0, m0))]),
  (71, [(60, (.aload_n 0, 61, 0, 0, 0, 0, 0, m0)), (61, (.getfield 7, 64, 823, 0, 8, 0, 0, m0)), (64, (.iload_n 1, 65, 0, 1, 0, 0, 0, m0)), (65, (.iaload, 66, 0, 0, 0, 0, 0, m0)), (66, (.ireturn, 67, 0, 0, 0, 0, 0, m0)), (67, (.aload_n 0, 68, 0, 0, 0, 0, 0, m0)), (68, (.getfield 7, 71, 823, 0, 8, 0, 0, m0)), (71, (.bipush 24, 73, 0, 0, 0, 24, 0, m0))]),
  (83, [(73, (.iload_n 1, 74, 0, 1, 0, 0, 0, m0)), (74, (.iadd, 75, 0, 0, 0, 0, 0, m0)), (75, (.iaload, 76, 0, 0, 0, 0, 0, m0)), (76, (.ireturn, 77, 0, 0, 0, 0, 0, m0)), (77, (.aload_n 0, 78, 0, 0, 0, 0, 0, m0)), (78, (.getfield 7, 81, 823, 0, 8, 0, 0, m0)), (81, (.bipush 48, 83, 0, 0, 0, 48, 0, m0)), (83, (.iload_n 1, 84, 0, 1, 0, 0, 0, m0))]),
  (94, [(84, (.iadd, 85, 0, 0, 0, 0, 0, m0)), (85, (.iaload, 86, 0, 0, 0, 0, 0, m0)), (86, (.ireturn, 87, 0, 0, 0, 0, 0, m0)), (87, (.aload_n 0, 88, 0, 0, 0, 0, 0, m0)), (88, (.getfield 7, 91, 823, 0, 8, 0, 0, m0)), (91, (.bipush 72, 93, 0, 0, 0, 72, 0, m0)), (93, (.iload_n 1, 94, 0, 1, 0, 0, 0, m0)), (94, (.iadd, 95, 0, 0, 0, 0, 0, m0))]),
  (105, [(95, (.iaload, 96, 0, 0, 0, 0, 0, m0)), (96, (.ireturn, 97, 0, 0, 0, 0, 0, m0)), (97, (.aload_n 0, 98, 0, 0, 0, 0, 0, m0)), (98, (.getfield 7, 101, 823, 0, 8, 0, 0, m0)), (101, (.bipush 96, 103, 0, 0, 0, 96, 0, m0)), (103, (.iload_n 1, 104, 0, 1, 0, 0, 0, m0)), (104, (.iadd, 105, 0, 0, 0, 0, 0, m0)), (105, (.iaload, 106, 0, 0, 0, 0, 0, m0))]),
  (119, [(106, (.ireturn, 107, 0, 0, 0, 0, 0, m0)), (107, (.aload_n 0, 108, 0, 0, 0, 0, 0, m0)), (108, (.getfield 7, 111, 823, 0, 8, 0, 0, m0)), (111, (.sipush 177, 114, 0, 0, 0, 177, 0, m0)), (114, (.iaload, 115, 0, 0, 0, 0, 0, m0)), (115, (.aload_n 0, 116, 0, 0, 0, 0, 0, m0)), (116, (.getfield 7, 119, 823, 0, 8, 0, 0, m0)), (119, (.bipush 120, 121, 0, 0, 0, 120, 0, m0))]),
  (128, [(121, (.iload_n 1, 122, 0, 1, 0, 0, 0, m0)), (122, (.iadd, 123, 0, 0, 0, 0, 0, m0)), (123, (.iaload, 124, 0, 0, 0, 0, 0, m0)), (124, (.isub, 125, 0, 0, 0, 0, 0, m0)), (125, (.ireturn, 126, 0, 0, 0, 0, 0, m0)), (126, (.aload_n 0, 127, 0, 0, 0, 0, 0, m0)), (127, (.iconst 0, 128, 0, 0, 0, 0, 0, m0)), (128, (.iload_n 1, 129, 0, 1, 0, 0, 0, m0))]),
  (142, [(129, (.aload_n 0, 130, 0, 0, 0, 0, 0, m0)), (130, (.getfield 7, 133, 823, 0, 8, 0, 0, m0)), (133, (.sipush 177, 136, 0, 0, 0, 177, 0, m0)), (136, (.iaload, 137, 0, 0, 0, 0, 0, m0)), (137, (.invokevirtual 181, 140, 1020, 4, 8, 0, 0, mX8_filled)), (140, (.ireturn, 141, 0, 0, 0, 0, 0, m0)), (141, (.aload_n 0, 142, 0, 0, 0, 0, 0, m0)), (142, (.getfield 7, 145, 823, 0, 8, 0, 0, m0))]),
  (154, [(145, (.sipush 144, 148, 0, 0, 0, 144, 0, m0)), (148, (.iload_n 1, 149, 0, 1, 0, 0, 0, m0)), (149, (.iadd, 150, 0, 0, 0, 0, 0, m0)), (150, (.iaload, 151, 0, 0, 0, 0, 0, m0)), (151, (.ireturn, 152, 0, 0, 0, 0, 0, m0)), (152, (.ldc 66, 154, 916, 0, 0, (-1000000002), 0, m0)), (154, (.ireturn, 155, 0, 0, 0, 0, 0, m0))])]
theorem kX8_jar : chkC mX8_jar oX8_jar = true := by decide +kernel
theorem qX8_law : OkM mX8_law := ⟨Gd_in (i := 1027) (by decide +kernel) (by decide +kernel), Gd_in (i := 73) (by decide +kernel) (by decide +kernel), ⟨fun _ => ⟨Gd_in (i := 1025) (by decide +kernel) (by decide +kernel), Gd_in (i := 1026) (by decide +kernel) (by decide +kernel)⟩, fun h => absurd h (by decide +kernel)⟩, by decide +kernel, ⟨by decide +kernel, by decide +kernel⟩, rfl, rfl⟩
def oX8_law : Cd := [(14, [(0, (.iload_n 1, 1, 0, 1, 0, 0, 0, m0)), (1, (.i2l, 2, 0, 0, 0, 0, 0, m0)), (2, (.lconst 0, 3, 0, 0, 0, 0, 0, m0)), (3, (.ldc2_w 185, 6, 1028, 0, 0, 0, 2, m0)), (6, (.invokestatic 62, 9, 913, 3, 0, 0, 0, mX8_in)), (9, (.ifCond .ne 6, 12, 15, 0, 0, 0, 0, m0)), (12, (.ldc 66, 14, 916, 0, 0, (-1000000002), 0, m0)), (14, (.ireturn, 15, 0, 0, 0, 0, 0, m0))]),
  (28, [(15, (.aload_n 0, 16, 0, 0, 0, 0, 0, m0)), (16, (.getfield 7, 19, 823, 0, 8, 0, 0, m0)), (19, (.sipush 179, 22, 0, 0, 0, 179, 0, m0)), (22, (.iaload, 23, 0, 0, 0, 0, 0, m0)), (23, (.istore_n 2, 24, 0, 2, 0, 0, 0, m0)), (24, (.aload_n 0, 25, 0, 0, 0, 0, 0, m0)), (25, (.getfield 7, 28, 823, 0, 8, 0, 0, m0)), (28, (.sipush 179, 31, 0, 0, 0, 179, 0, m0))]),
  (34, [(31, (.iload_n 1, 32, 0, 1, 0, 0, 0, m0)), (32, (.iastore, 33, 0, 0, 0, 0, 0, m0)), (33, (.iload_n 2, 34, 0, 2, 0, 0, 0, m0)), (34, (.ireturn, 35, 0, 0, 0, 0, 0, m0))])]
theorem kX8_law : chkC mX8_law oX8_law = true := by decide +kernel
theorem qX8_seals : OkM mX8_seals := ⟨Gd_in (i := 1032) (by decide +kernel) (by decide +kernel), Gd_in (i := 73) (by decide +kernel) (by decide +kernel), ⟨fun _ => ⟨Gd_in (i := 1030) (by decide +kernel) (by decide +kernel), Gd_in (i := 1031) (by decide +kernel) (by decide +kernel)⟩, fun h => absurd h (by decide +kernel)⟩, by decide +kernel, ⟨by decide +kernel, by decide +kernel⟩, rfl, rfl⟩
def oX8_seals : Cd := [(12, [(0, (.aload_n 0, 1, 0, 0, 0, 0, 0, m0)), (1, (.iload_n 1, 2, 0, 1, 0, 0, 0, m0)), (2, (.invokevirtual 169, 5, 992, 2, 8, 0, 0, mX8_isHouse)), (5, (.ifCond .ne 6, 8, 11, 0, 0, 0, 0, m0)), (8, (.ldc 173, 10, 996, 0, 0, (-1000000001), 0, m0)), (10, (.ireturn, 11, 0, 0, 0, 0, 0, m0)), (11, (.iload_n 2, 12, 0, 2, 0, 0, 0, m0)), (12, (.i2l, 13, 0, 0, 0, 0, 0, m0))]),
  (27, [(13, (.lconst 0, 14, 0, 0, 0, 0, 0, m0)), (14, (.ldc2_w 187, 17, 1033, 0, 0, 0, 20, m0)), (17, (.invokestatic 62, 20, 913, 3, 0, 0, 0, mX8_in)), (20, (.ifCond .ne 6, 23, 26, 0, 0, 0, 0, m0)), (23, (.ldc 66, 25, 916, 0, 0, (-1000000002), 0, m0)), (25, (.ireturn, 26, 0, 0, 0, 0, 0, m0)), (26, (.aload_n 0, 27, 0, 0, 0, 0, 0, m0)), (27, (.getfield 7, 30, 823, 0, 8, 0, 0, m0))]),
  (41, [(30, (.sipush 168, 33, 0, 0, 0, 168, 0, m0)), (33, (.iload_n 1, 34, 0, 1, 0, 0, 0, m0)), (34, (.iadd, 35, 0, 0, 0, 0, 0, m0)), (35, (.iaload, 36, 0, 0, 0, 0, 0, m0)), (36, (.istore_n 3, 37, 0, 3, 0, 0, 0, m0)), (37, (.aload_n 0, 38, 0, 0, 0, 0, 0, m0)), (38, (.getfield 7, 41, 823, 0, 8, 0, 0, m0)), (41, (.sipush 168, 44, 0, 0, 0, 168, 0, m0))]),
  (49, [(44, (.iload_n 1, 45, 0, 1, 0, 0, 0, m0)), (45, (.iadd, 46, 0, 0, 0, 0, 0, m0)), (46, (.iload_n 2, 47, 0, 2, 0, 0, 0, m0)), (47, (.iastore, 48, 0, 0, 0, 0, 0, m0)), (48, (.iload_n 3, 49, 0, 3, 0, 0, 0, m0)), (49, (.ireturn, 50, 0, 0, 0, 0, 0, m0))])]
theorem kX8_seals : chkC mX8_seals oX8_seals = true := by decide +kernel
theorem qX8_give : OkM mX8_give := ⟨Gd_in (i := 1037) (by decide +kernel) (by decide +kernel), Gd_in (i := 73) (by decide +kernel) (by decide +kernel), ⟨fun _ => ⟨Gd_in (i := 1035) (by decide +kernel) (by decide +kernel), Gd_in (i := 1036) (by decide +kernel) (by decide +kernel)⟩, fun h => absurd h (by decide +kernel)⟩, by decide +kernel, ⟨by decide +kernel, by decide +kernel⟩, rfl, rfl⟩
def oX8_give : Cd := [(13, [(0, (.aload_n 0, 1, 0, 0, 0, 0, 0, m0)), (1, (.iload_n 1, 2, 0, 1, 0, 0, 0, m0)), (2, (.invokevirtual 178, 5, 1016, 2, 8, 0, 0, mX8_isJar)), (5, (.ifCond .eq 11, 8, 16, 0, 0, 0, 0, m0)), (8, (.aload_n 0, 9, 0, 0, 0, 0, 0, m0)), (9, (.iload_n 2, 10, 0, 2, 0, 0, 0, m0)), (10, (.invokevirtual 169, 13, 992, 2, 8, 0, 0, mX8_isHouse)), (13, (.ifCond .ne 6, 16, 19, 0, 0, 0, 0, m0))]),
  (28, [(16, (.ldc 173, 18, 996, 0, 0, (-1000000001), 0, m0)), (18, (.ireturn, 19, 0, 0, 0, 0, 0, m0)), (19, (.aload_n 0, 20, 0, 0, 0, 0, 0, m0)), (20, (.getfield 7, 23, 823, 0, 8, 0, 0, m0)), (23, (.sipush 144, 26, 0, 0, 0, 144, 0, m0)), (26, (.iload_n 1, 27, 0, 1, 0, 0, 0, m0)), (27, (.iadd, 28, 0, 0, 0, 0, 0, m0)), (28, (.iaload, 29, 0, 0, 0, 0, 0, m0))]),
  (42, [(29, (.iconst 1, 30, 0, 0, 0, 1, 0, m0)), (30, (.if_icmp .ne 6, 33, 36, 0, 0, 0, 0, m0)), (33, (.ldc 189, 35, 1038, 0, 0, (-1000000003), 0, m0)), (35, (.ireturn, 36, 0, 0, 0, 0, 0, m0)), (36, (.aload_n 0, 37, 0, 0, 0, 0, 0, m0)), (37, (.getfield 7, 40, 823, 0, 8, 0, 0, m0)), (40, (.bipush 24, 42, 0, 0, 0, 24, 0, m0)), (42, (.iload_n 1, 43, 0, 1, 0, 0, 0, m0))]),
  (53, [(43, (.iadd, 44, 0, 0, 0, 0, 0, m0)), (44, (.iaload, 45, 0, 0, 0, 0, 0, m0)), (45, (.istore_n 3, 46, 0, 3, 0, 0, 0, m0)), (46, (.aload_n 0, 47, 0, 0, 0, 0, 0, m0)), (47, (.getfield 7, 50, 823, 0, 8, 0, 0, m0)), (50, (.bipush 24, 52, 0, 0, 0, 24, 0, m0)), (52, (.iload_n 1, 53, 0, 1, 0, 0, 0, m0)), (53, (.iadd, 54, 0, 0, 0, 0, 0, m0))]),
  (57, [(54, (.iload_n 2, 55, 0, 2, 0, 0, 0, m0)), (55, (.iastore, 56, 0, 0, 0, 0, 0, m0)), (56, (.iload_n 3, 57, 0, 3, 0, 0, 0, m0)), (57, (.ireturn, 58, 0, 0, 0, 0, 0, m0))])]
theorem kX8_give : chkC mX8_give oX8_give = true := by decide +kernel
theorem qX8_label : OkM mX8_label := ⟨Gd_in (i := 1042) (by decide +kernel) (by decide +kernel), Gd_in (i := 73) (by decide +kernel) (by decide +kernel), ⟨fun _ => ⟨Gd_in (i := 1040) (by decide +kernel) (by decide +kernel), Gd_in (i := 1041) (by decide +kernel) (by decide +kernel)⟩, fun h => absurd h (by decide +kernel)⟩, by decide +kernel, ⟨by decide +kernel, by decide +kernel⟩, rfl, rfl⟩
def oX8_label : Cd := [(12, [(0, (.aload_n 0, 1, 0, 0, 0, 0, 0, m0)), (1, (.iload_n 1, 2, 0, 1, 0, 0, 0, m0)), (2, (.invokevirtual 178, 5, 1016, 2, 8, 0, 0, mX8_isJar)), (5, (.ifCond .ne 6, 8, 11, 0, 0, 0, 0, m0)), (8, (.ldc 173, 10, 996, 0, 0, (-1000000001), 0, m0)), (10, (.ireturn, 11, 0, 0, 0, 0, 0, m0)), (11, (.iload_n 2, 12, 0, 2, 0, 0, 0, m0)), (12, (.i2l, 13, 0, 0, 0, 0, 0, m0))]),
  (27, [(13, (.lconst 0, 14, 0, 0, 0, 0, 0, m0)), (14, (.ldc2_w 190, 17, 1043, 0, 0, 0, 9999, m0)), (17, (.invokestatic 62, 20, 913, 3, 0, 0, 0, mX8_in)), (20, (.ifCond .ne 6, 23, 26, 0, 0, 0, 0, m0)), (23, (.ldc 66, 25, 916, 0, 0, (-1000000002), 0, m0)), (25, (.ireturn, 26, 0, 0, 0, 0, 0, m0)), (26, (.aload_n 0, 27, 0, 0, 0, 0, 0, m0)), (27, (.getfield 7, 30, 823, 0, 8, 0, 0, m0))]),
  (42, [(30, (.sipush 144, 33, 0, 0, 0, 144, 0, m0)), (33, (.iload_n 1, 34, 0, 1, 0, 0, 0, m0)), (34, (.iadd, 35, 0, 0, 0, 0, 0, m0)), (35, (.iaload, 36, 0, 0, 0, 0, 0, m0)), (36, (.iconst 1, 37, 0, 0, 0, 1, 0, m0)), (37, (.if_icmp .ne 6, 40, 43, 0, 0, 0, 0, m0)), (40, (.ldc 189, 42, 1038, 0, 0, (-1000000003), 0, m0)), (42, (.ireturn, 43, 0, 0, 0, 0, 0, m0))]),
  (53, [(43, (.aload_n 0, 44, 0, 0, 0, 0, 0, m0)), (44, (.getfield 7, 47, 823, 0, 8, 0, 0, m0)), (47, (.bipush 48, 49, 0, 0, 0, 48, 0, m0)), (49, (.iload_n 1, 50, 0, 1, 0, 0, 0, m0)), (50, (.iadd, 51, 0, 0, 0, 0, 0, m0)), (51, (.iaload, 52, 0, 0, 0, 0, 0, m0)), (52, (.istore_n 3, 53, 0, 3, 0, 0, 0, m0)), (53, (.aload_n 0, 54, 0, 0, 0, 0, 0, m0))]),
  (64, [(54, (.getfield 7, 57, 823, 0, 8, 0, 0, m0)), (57, (.bipush 48, 59, 0, 0, 0, 48, 0, m0)), (59, (.iload_n 1, 60, 0, 1, 0, 0, 0, m0)), (60, (.iadd, 61, 0, 0, 0, 0, 0, m0)), (61, (.iload_n 2, 62, 0, 2, 0, 0, 0, m0)), (62, (.iastore, 63, 0, 0, 0, 0, 0, m0)), (63, (.iload_n 3, 64, 0, 3, 0, 0, 0, m0)), (64, (.ireturn, 65, 0, 0, 0, 0, 0, m0))])]
theorem kX8_label : chkC mX8_label oX8_label = true := by decide +kernel
theorem qX8_open : OkM mX8_open := ⟨Gd_in (i := 1047) (by decide +kernel) (by decide +kernel), Gd_in (i := 73) (by decide +kernel) (by decide +kernel), ⟨fun _ => ⟨Gd_in (i := 1045) (by decide +kernel) (by decide +kernel), Gd_in (i := 1046) (by decide +kernel) (by decide +kernel)⟩, fun h => absurd h (by decide +kernel)⟩, by decide +kernel, ⟨by decide +kernel, by decide +kernel⟩, rfl, rfl⟩
def oX8_open : Cd := [(12, [(0, (.aload_n 0, 1, 0, 0, 0, 0, 0, m0)), (1, (.iload_n 1, 2, 0, 1, 0, 0, 0, m0)), (2, (.invokevirtual 178, 5, 1016, 2, 8, 0, 0, mX8_isJar)), (5, (.ifCond .ne 6, 8, 11, 0, 0, 0, 0, m0)), (8, (.ldc 173, 10, 996, 0, 0, (-1000000001), 0, m0)), (10, (.ireturn, 11, 0, 0, 0, 0, 0, m0)), (11, (.aload_n 0, 12, 0, 0, 0, 0, 0, m0)), (12, (.iconst 0, 13, 0, 0, 0, 0, 0, m0))]),
  (28, [(13, (.iload_n 1, 14, 0, 1, 0, 0, 0, m0)), (14, (.aload_n 0, 15, 0, 0, 0, 0, 0, m0)), (15, (.getfield 7, 18, 823, 0, 8, 0, 0, m0)), (18, (.sipush 177, 21, 0, 0, 0, 177, 0, m0)), (21, (.iaload, 22, 0, 0, 0, 0, 0, m0)), (22, (.invokevirtual 162, 25, 1001, 4, 8, 0, 0, mX8_may)), (25, (.ifCond .ne 6, 28, 31, 0, 0, 0, 0, m0)), (28, (.ldc 189, 30, 1038, 0, 0, (-1000000003), 0, m0))]),
  (41, [(30, (.ireturn, 31, 0, 0, 0, 0, 0, m0)), (31, (.aload_n 0, 32, 0, 0, 0, 0, 0, m0)), (32, (.iconst 0, 33, 0, 0, 0, 0, 0, m0)), (33, (.iload_n 1, 34, 0, 1, 0, 0, 0, m0)), (34, (.aload_n 0, 35, 0, 0, 0, 0, 0, m0)), (35, (.getfield 7, 38, 823, 0, 8, 0, 0, m0)), (38, (.sipush 177, 41, 0, 0, 0, 177, 0, m0)), (41, (.iaload, 42, 0, 0, 0, 0, 0, m0))]),
  (55, [(42, (.invokevirtual 181, 45, 1020, 4, 8, 0, 0, mX8_filled)), (45, (.istore_n 2, 46, 0, 2, 0, 0, 0, m0)), (46, (.aload_n 0, 47, 0, 0, 0, 0, 0, m0)), (47, (.getfield 7, 50, 823, 0, 8, 0, 0, m0)), (50, (.sipush 144, 53, 0, 0, 0, 144, 0, m0)), (53, (.iload_n 1, 54, 0, 1, 0, 0, 0, m0)), (54, (.iadd, 55, 0, 0, 0, 0, 0, m0)), (55, (.iconst 1, 56, 0, 0, 0, 1, 0, m0))]),
  (70, [(56, (.iastore, 57, 0, 0, 0, 0, 0, m0)), (57, (.aload_n 0, 58, 0, 0, 0, 0, 0, m0)), (58, (.getfield 7, 61, 823, 0, 8, 0, 0, m0)), (61, (.sipush 172, 64, 0, 0, 0, 172, 0, m0)), (64, (.aload_n 0, 65, 0, 0, 0, 0, 0, m0)), (65, (.getfield 7, 68, 823, 0, 8, 0, 0, m0)), (68, (.bipush 24, 70, 0, 0, 0, 24, 0, m0)), (70, (.iload_n 1, 71, 0, 1, 0, 0, 0, m0))]),
  (78, [(71, (.iadd, 72, 0, 0, 0, 0, 0, m0)), (72, (.iaload, 73, 0, 0, 0, 0, 0, m0)), (73, (.iadd, 74, 0, 0, 0, 0, 0, m0)), (74, (.dup2, 75, 0, 0, 0, 0, 0, m0)), (75, (.iaload, 76, 0, 0, 0, 0, 0, m0)), (76, (.iload_n 2, 77, 0, 2, 0, 0, 0, m0)), (77, (.iadd, 78, 0, 0, 0, 0, 0, m0)), (78, (.iastore, 79, 0, 0, 0, 0, 0, m0))]),
  (80, [(79, (.iload_n 2, 80, 0, 2, 0, 0, 0, m0)), (80, (.ireturn, 81, 0, 0, 0, 0, 0, m0))])]
theorem kX8_open : chkC mX8_open oX8_open = true := by decide +kernel
theorem qX8_firstToOpen : OkM mX8_firstToOpen := ⟨Gd_in (i := 1068) (by decide +kernel) (by decide +kernel), Gd_in (i := 73) (by decide +kernel) (by decide +kernel), ⟨fun _ => ⟨Gd_in (i := 1067) (by decide +kernel) (by decide +kernel), Gd_in (i := 49) (by decide +kernel) (by decide +kernel)⟩, fun h => absurd h (by decide +kernel)⟩, by decide +kernel, ⟨by decide +kernel, by decide +kernel⟩, rfl, rfl⟩
def oX8_firstToOpen : Cd := [(11, [(0, (.iconst (-1), 1, 0, 0, 0, (-1), 0, m0)), (1, (.istore_n 3, 2, 0, 3, 0, 0, 0, m0)), (2, (.iconst 0, 3, 0, 0, 0, 0, 0, m0)), (3, (.istore 4, 5, 0, 4, 0, 0, 0, m0)), (5, (.iload 4, 7, 0, 4, 0, 0, 0, m0)), (7, (.aload_n 0, 8, 0, 0, 0, 0, 0, m0)), (8, (.getfield 7, 11, 823, 0, 8, 0, 0, m0)), (11, (.iload_n 1, 12, 0, 1, 0, 0, 0, m0))]),
  (25, [(12, (.sipush 176, 15, 0, 0, 0, 176, 0, m0)), (15, (.iadd, 16, 0, 0, 0, 0, 0, m0)), (16, (.iaload, 17, 0, 0, 0, 0, 0, m0)), (17, (.if_icmp .ge 94, 20, 111, 0, 0, 0, 0, m0)), (20, (.aload_n 0, 21, 0, 0, 0, 0, 0, m0)), (21, (.getfield 7, 24, 823, 0, 8, 0, 0, m0)), (24, (.iload_n 1, 25, 0, 1, 0, 0, 0, m0)), (25, (.bipush 24, 27, 0, 0, 0, 24, 0, m0))]),
  (37, [(27, (.iadd, 28, 0, 0, 0, 0, 0, m0)), (28, (.iload 4, 30, 0, 4, 0, 0, 0, m0)), (30, (.iadd, 31, 0, 0, 0, 0, 0, m0)), (31, (.iaload, 32, 0, 0, 0, 0, 0, m0)), (32, (.iload_n 2, 33, 0, 2, 0, 0, 0, m0)), (33, (.if_icmp .ne 27, 36, 60, 0, 0, 0, 0, m0)), (36, (.aload_n 0, 37, 0, 0, 0, 0, 0, m0)), (37, (.iload_n 1, 38, 0, 1, 0, 0, 0, m0))]),
  (50, [(38, (.iload 4, 40, 0, 4, 0, 0, 0, m0)), (40, (.aload_n 0, 41, 0, 0, 0, 0, 0, m0)), (41, (.getfield 7, 44, 823, 0, 8, 0, 0, m0)), (44, (.iload_n 1, 45, 0, 1, 0, 0, 0, m0)), (45, (.sipush 177, 48, 0, 0, 0, 177, 0, m0)), (48, (.iadd, 49, 0, 0, 0, 0, 0, m0)), (49, (.iaload, 50, 0, 0, 0, 0, 0, m0)), (50, (.invokevirtual 162, 53, 1001, 4, 8, 0, 0, mX8_may))]),
  (68, [(53, (.ifCond .eq 7, 56, 60, 0, 0, 0, 0, m0)), (56, (.iconst 1, 57, 0, 0, 0, 1, 0, m0)), (57, (.goto 4, 60, 61, 0, 0, 0, 0, m0)), (60, (.iconst 0, 61, 0, 0, 0, 0, 0, m0)), (61, (.istore 5, 63, 0, 5, 0, 0, 0, m0)), (63, (.iload 5, 65, 0, 5, 0, 0, 0, m0)), (65, (.ifCond .eq 38, 68, 103, 0, 0, 0, 0, m0)), (68, (.iload_n 3, 69, 0, 3, 0, 0, 0, m0))]),
  (82, [(69, (.ifCond .lt 29, 72, 98, 0, 0, 0, 0, m0)), (72, (.aload_n 0, 73, 0, 0, 0, 0, 0, m0)), (73, (.getfield 7, 76, 823, 0, 8, 0, 0, m0)), (76, (.iload_n 1, 77, 0, 1, 0, 0, 0, m0)), (77, (.bipush 48, 79, 0, 0, 0, 48, 0, m0)), (79, (.iadd, 80, 0, 0, 0, 0, 0, m0)), (80, (.iload 4, 82, 0, 4, 0, 0, 0, m0)), (82, (.iadd, 83, 0, 0, 0, 0, 0, m0))]),
  (93, [(83, (.iaload, 84, 0, 0, 0, 0, 0, m0)), (84, (.aload_n 0, 85, 0, 0, 0, 0, 0, m0)), (85, (.getfield 7, 88, 823, 0, 8, 0, 0, m0)), (88, (.iload_n 1, 89, 0, 1, 0, 0, 0, m0)), (89, (.bipush 48, 91, 0, 0, 0, 48, 0, m0)), (91, (.iadd, 92, 0, 0, 0, 0, 0, m0)), (92, (.iload_n 3, 93, 0, 3, 0, 0, 0, m0)), (93, (.iadd, 94, 0, 0, 0, 0, 0, m0))]),
  (108, [(94, (.iaload, 95, 0, 0, 0, 0, 0, m0)), (95, (.if_icmp .ge 8, 98, 103, 0, 0, 0, 0, m0)), (98, (.iload 4, 100, 0, 4, 0, 0, 0, m0)), (100, (.goto 4, 103, 104, 0, 0, 0, 0, m0)), (103, (.iload_n 3, 104, 0, 3, 0, 0, 0, m0)), (104, (.istore_n 3, 105, 0, 3, 0, 0, 0, m0)), (105, (.iinc 4 1, 108, 0, 4, 0, 1, 0, m0)), (108, (.goto (-103), 111, 5, 0, 0, 0, 0, m0))]),
  (112, [(111, (.iload_n 3, 112, 0, 3, 0, 0, 0, m0)), (112, (.ireturn, 113, 0, 0, 0, 0, 0, m0))])]
theorem kX8_firstToOpen : chkC mX8_firstToOpen oX8_firstToOpen = true := by decide +kernel
theorem qX8_eat : OkM mX8_eat := ⟨Gd_in (i := 1064) (by decide +kernel) (by decide +kernel), Gd_in (i := 73) (by decide +kernel) (by decide +kernel), ⟨fun _ => ⟨Gd_in (i := 1063) (by decide +kernel) (by decide +kernel), Gd_in (i := 48) (by decide +kernel) (by decide +kernel)⟩, fun h => absurd h (by decide +kernel)⟩, by decide +kernel, ⟨by decide +kernel, by decide +kernel⟩, rfl, rfl⟩
def oX8_eat : Cd := [(11, [(0, (.iload_n 3, 1, 0, 3, 0, 0, 0, m0)), (1, (.aload_n 0, 2, 0, 0, 0, 0, 0, m0)), (2, (.getfield 7, 5, 823, 0, 8, 0, 0, m0)), (5, (.iload_n 1, 6, 0, 1, 0, 0, 0, m0)), (6, (.sipush 172, 9, 0, 0, 0, 172, 0, m0)), (9, (.iadd, 10, 0, 0, 0, 0, 0, m0)), (10, (.iload_n 2, 11, 0, 2, 0, 0, 0, m0)), (11, (.iadd, 12, 0, 0, 0, 0, 0, m0))]),
  (22, [(12, (.iaload, 13, 0, 0, 0, 0, 0, m0)), (13, (.iadd, 14, 0, 0, 0, 0, 0, m0)), (14, (.istore 4, 16, 0, 4, 0, 0, 0, m0)), (16, (.iconst 0, 17, 0, 0, 0, 0, 0, m0)), (17, (.istore 5, 19, 0, 5, 0, 0, 0, m0)), (19, (.iload 4, 21, 0, 4, 0, 0, 0, m0)), (21, (.aload_n 0, 22, 0, 0, 0, 0, 0, m0)), (22, (.getfield 20, 25, 827, 4, 8, 0, 0, m0))]),
  (36, [(25, (.iload_n 2, 26, 0, 2, 0, 0, 0, m0)), (26, (.iaload, 27, 0, 0, 0, 0, 0, m0)), (27, (.if_icmp .ge 12, 30, 39, 0, 0, 0, 0, m0)), (30, (.aload_n 0, 31, 0, 0, 0, 0, 0, m0)), (31, (.iload_n 1, 32, 0, 1, 0, 0, 0, m0)), (32, (.iload_n 2, 33, 0, 2, 0, 0, 0, m0)), (33, (.invokevirtual 192, 36, 1065, 3, 8, 0, 0, mX8_firstToOpen)), (36, (.goto 4, 39, 40, 0, 0, 0, 0, m0))]),
  (51, [(39, (.iconst (-1), 40, 0, 0, 0, (-1), 0, m0)), (40, (.istore 6, 42, 0, 6, 0, 0, 0, m0)), (42, (.iload 6, 44, 0, 6, 0, 0, 0, m0)), (44, (.ifCond .lt 68, 47, 112, 0, 0, 0, 0, m0)), (47, (.iload 4, 49, 0, 4, 0, 0, 0, m0)), (49, (.aload_n 0, 50, 0, 0, 0, 0, 0, m0)), (50, (.iload_n 1, 51, 0, 1, 0, 0, 0, m0)), (51, (.iload 6, 53, 0, 6, 0, 0, 0, m0))]),
  (66, [(53, (.aload_n 0, 54, 0, 0, 0, 0, 0, m0)), (54, (.getfield 7, 57, 823, 0, 8, 0, 0, m0)), (57, (.iload_n 1, 58, 0, 1, 0, 0, 0, m0)), (58, (.sipush 177, 61, 0, 0, 0, 177, 0, m0)), (61, (.iadd, 62, 0, 0, 0, 0, 0, m0)), (62, (.iaload, 63, 0, 0, 0, 0, 0, m0)), (63, (.invokevirtual 181, 66, 1020, 4, 8, 0, 0, mX8_filled)), (66, (.iadd, 67, 0, 0, 0, 0, 0, m0))]),
  (80, [(67, (.istore 4, 69, 0, 4, 0, 0, 0, m0)), (69, (.aload_n 0, 70, 0, 0, 0, 0, 0, m0)), (70, (.getfield 7, 73, 823, 0, 8, 0, 0, m0)), (73, (.iload_n 1, 74, 0, 1, 0, 0, 0, m0)), (74, (.sipush 144, 77, 0, 0, 0, 144, 0, m0)), (77, (.iadd, 78, 0, 0, 0, 0, 0, m0)), (78, (.iload 6, 80, 0, 6, 0, 0, 0, m0)), (80, (.iadd, 81, 0, 0, 0, 0, 0, m0))]),
  (92, [(81, (.iconst 1, 82, 0, 0, 0, 1, 0, m0)), (82, (.iastore, 83, 0, 0, 0, 0, 0, m0)), (83, (.iconst 1, 84, 0, 0, 0, 1, 0, m0)), (84, (.istore 5, 86, 0, 5, 0, 0, 0, m0)), (86, (.iload 4, 88, 0, 4, 0, 0, 0, m0)), (88, (.aload_n 0, 89, 0, 0, 0, 0, 0, m0)), (89, (.getfield 20, 92, 827, 4, 8, 0, 0, m0)), (92, (.iload_n 2, 93, 0, 2, 0, 0, 0, m0))]),
  (106, [(93, (.iaload, 94, 0, 0, 0, 0, 0, m0)), (94, (.if_icmp .ge 12, 97, 106, 0, 0, 0, 0, m0)), (97, (.aload_n 0, 98, 0, 0, 0, 0, 0, m0)), (98, (.iload_n 1, 99, 0, 1, 0, 0, 0, m0)), (99, (.iload_n 2, 100, 0, 2, 0, 0, 0, m0)), (100, (.invokevirtual 192, 103, 1065, 3, 8, 0, 0, mX8_firstToOpen)), (103, (.goto 4, 106, 107, 0, 0, 0, 0, m0)), (106, (.iconst (-1), 107, 0, 0, 0, (-1), 0, m0))]),
  (120, [(107, (.istore 6, 109, 0, 6, 0, 0, 0, m0)), (109, (.goto (-67), 112, 42, 0, 0, 0, 0, m0)), (112, (.iload 4, 114, 0, 4, 0, 0, 0, m0)), (114, (.aload_n 0, 115, 0, 0, 0, 0, 0, m0)), (115, (.getfield 20, 118, 827, 4, 8, 0, 0, m0)), (118, (.iload_n 2, 119, 0, 2, 0, 0, 0, m0)), (119, (.iaload, 120, 0, 0, 0, 0, 0, m0)), (120, (.isub, 121, 0, 0, 0, 0, 0, m0))]),
  (137, [(121, (.istore 7, 123, 0, 7, 0, 0, 0, m0)), (123, (.iload 7, 125, 0, 7, 0, 0, 0, m0)), (125, (.ifCond .le 93, 128, 218, 0, 0, 0, 0, m0)), (128, (.iload 5, 130, 0, 5, 0, 0, 0, m0)), (130, (.ifCond .ne 88, 133, 218, 0, 0, 0, 0, m0)), (133, (.aload_n 0, 134, 0, 0, 0, 0, 0, m0)), (134, (.getfield 7, 137, 823, 0, 8, 0, 0, m0)), (137, (.iload_n 1, 138, 0, 1, 0, 0, 0, m0))]),
  (149, [(138, (.sipush 168, 141, 0, 0, 0, 168, 0, m0)), (141, (.iadd, 142, 0, 0, 0, 0, 0, m0)), (142, (.iload_n 2, 143, 0, 2, 0, 0, 0, m0)), (143, (.iadd, 144, 0, 0, 0, 0, 0, m0)), (144, (.iaload, 145, 0, 0, 0, 0, 0, m0)), (145, (.ifCond .le 73, 148, 218, 0, 0, 0, 0, m0)), (148, (.aload_n 0, 149, 0, 0, 0, 0, 0, m0)), (149, (.getfield 7, 152, 823, 0, 8, 0, 0, m0))]),
  (164, [(152, (.iload_n 1, 153, 0, 1, 0, 0, 0, m0)), (153, (.sipush 176, 156, 0, 0, 0, 176, 0, m0)), (156, (.iadd, 157, 0, 0, 0, 0, 0, m0)), (157, (.iaload, 158, 0, 0, 0, 0, 0, m0)), (158, (.bipush 24, 160, 0, 0, 0, 24, 0, m0)), (160, (.if_icmp .ge 58, 163, 218, 0, 0, 0, 0, m0)), (163, (.aload_n 0, 164, 0, 0, 0, 0, 0, m0)), (164, (.iload_n 1, 165, 0, 1, 0, 0, 0, m0))]),
  (176, [(165, (.iconst 0, 166, 0, 0, 0, 0, 0, m0)), (166, (.iload_n 2, 167, 0, 2, 0, 0, 0, m0)), (167, (.aload_n 0, 168, 0, 0, 0, 0, 0, m0)), (168, (.getfield 7, 171, 823, 0, 8, 0, 0, m0)), (171, (.iload_n 1, 172, 0, 1, 0, 0, 0, m0)), (172, (.sipush 177, 175, 0, 0, 0, 177, 0, m0)), (175, (.iadd, 176, 0, 0, 0, 0, 0, m0)), (176, (.iaload, 177, 0, 0, 0, 0, 0, m0))]),
  (188, [(177, (.aload_n 0, 178, 0, 0, 0, 0, 0, m0)), (178, (.getfield 7, 181, 823, 0, 8, 0, 0, m0)), (181, (.iload_n 1, 182, 0, 1, 0, 0, 0, m0)), (182, (.sipush 168, 185, 0, 0, 0, 168, 0, m0)), (185, (.iadd, 186, 0, 0, 0, 0, 0, m0)), (186, (.iload_n 2, 187, 0, 2, 0, 0, 0, m0)), (187, (.iadd, 188, 0, 0, 0, 0, 0, m0)), (188, (.iaload, 189, 0, 0, 0, 0, 0, m0))]),
  (204, [(189, (.iadd, 190, 0, 0, 0, 0, 0, m0)), (190, (.iload 7, 192, 0, 7, 0, 0, 0, m0)), (192, (.bipush 99, 194, 0, 0, 0, 99, 0, m0)), (194, (.if_icmp .le 8, 197, 202, 0, 0, 0, 0, m0)), (197, (.bipush 99, 199, 0, 0, 0, 99, 0, m0)), (199, (.goto 5, 202, 204, 0, 0, 0, 0, m0)), (202, (.iload 7, 204, 0, 7, 0, 0, 0, m0)), (204, (.iconst 5, 205, 0, 0, 0, 5, 0, m0))]),
  (218, [(205, (.aload_n 0, 206, 0, 0, 0, 0, 0, m0)), (206, (.getfield 7, 209, 823, 0, 8, 0, 0, m0)), (209, (.iload_n 1, 210, 0, 1, 0, 0, 0, m0)), (210, (.sipush 177, 213, 0, 0, 0, 177, 0, m0)), (213, (.iadd, 214, 0, 0, 0, 0, 0, m0)), (214, (.iaload, 215, 0, 0, 0, 0, 0, m0)), (215, (.invokevirtual 141, 218, 968, 8, 8, 0, 0, mX8_add)), (218, (.aload_n 0, 219, 0, 0, 0, 0, 0, m0))]),
  (230, [(219, (.getfield 7, 222, 823, 0, 8, 0, 0, m0)), (222, (.iload_n 1, 223, 0, 1, 0, 0, 0, m0)), (223, (.sipush 172, 226, 0, 0, 0, 172, 0, m0)), (226, (.iadd, 227, 0, 0, 0, 0, 0, m0)), (227, (.iload_n 2, 228, 0, 2, 0, 0, 0, m0)), (228, (.iadd, 229, 0, 0, 0, 0, 0, m0)), (229, (.iconst 0, 230, 0, 0, 0, 0, 0, m0)), (230, (.iastore, 231, 0, 0, 0, 0, 0, m0))]),
  (243, [(231, (.iload 7, 233, 0, 7, 0, 0, 0, m0)), (233, (.ifCond .ge 9, 236, 242, 0, 0, 0, 0, m0)), (236, (.iload 7, 238, 0, 7, 0, 0, 0, m0)), (238, (.ineg, 239, 0, 0, 0, 0, 0, m0)), (239, (.goto 4, 242, 243, 0, 0, 0, 0, m0)), (242, (.iconst 0, 243, 0, 0, 0, 0, 0, m0)), (243, (.ireturn, 244, 0, 0, 0, 0, 0, m0))])]
theorem kX8_eat : chkC mX8_eat oX8_eat = true := by decide +kernel
theorem qX8_hunger : OkM mX8_hunger := ⟨Gd_in (i := 1072) (by decide +kernel) (by decide +kernel), Gd_in (i := 73) (by decide +kernel) (by decide +kernel), ⟨fun _ => ⟨Gd_in (i := 1071) (by decide +kernel) (by decide +kernel), Gd_in (i := 50) (by decide +kernel) (by decide +kernel)⟩, fun h => absurd h (by decide +kernel)⟩, by decide +kernel, ⟨by decide +kernel, by decide +kernel⟩, rfl, rfl⟩
def oX8_hunger : Cd := [(9, [(0, (.aload_n 0, 1, 0, 0, 0, 0, 0, m0)), (1, (.getfield 36, 4, 841, 18, 8, 0, 0, m0)), (4, (.iload_n 2, 5, 0, 2, 0, 0, 0, m0)), (5, (.dup2, 6, 0, 0, 0, 0, 0, m0)), (6, (.iaload, 7, 0, 0, 0, 0, 0, m0)), (7, (.iload_n 3, 8, 0, 3, 0, 0, 0, m0)), (8, (.iadd, 9, 0, 0, 0, 0, 0, m0)), (9, (.iastore, 10, 0, 0, 0, 0, 0, m0))]),
  (23, [(10, (.aload_n 0, 11, 0, 0, 0, 0, 0, m0)), (11, (.getfield 7, 14, 823, 0, 8, 0, 0, m0)), (14, (.iload_n 1, 15, 0, 1, 0, 0, 0, m0)), (15, (.sipush 178, 18, 0, 0, 0, 178, 0, m0)), (18, (.iadd, 19, 0, 0, 0, 0, 0, m0)), (19, (.aload_n 0, 20, 0, 0, 0, 0, 0, m0)), (20, (.getfield 7, 23, 823, 0, 8, 0, 0, m0)), (23, (.iload_n 1, 24, 0, 1, 0, 0, 0, m0))]),
  (36, [(24, (.sipush 178, 27, 0, 0, 0, 178, 0, m0)), (27, (.iadd, 28, 0, 0, 0, 0, 0, m0)), (28, (.iaload, 29, 0, 0, 0, 0, 0, m0)), (29, (.iload_n 3, 30, 0, 3, 0, 0, 0, m0)), (30, (.iadd, 31, 0, 0, 0, 0, 0, m0)), (31, (.ldc 195, 33, 1073, 0, 0, 999999999, 0, m0)), (33, (.if_icmp .le 8, 36, 41, 0, 0, 0, 0, m0)), (36, (.ldc 195, 38, 1073, 0, 0, 999999999, 0, m0))]),
  (51, [(38, (.goto 15, 41, 53, 0, 0, 0, 0, m0)), (41, (.aload_n 0, 42, 0, 0, 0, 0, 0, m0)), (42, (.getfield 7, 45, 823, 0, 8, 0, 0, m0)), (45, (.iload_n 1, 46, 0, 1, 0, 0, 0, m0)), (46, (.sipush 178, 49, 0, 0, 0, 178, 0, m0)), (49, (.iadd, 50, 0, 0, 0, 0, 0, m0)), (50, (.iaload, 51, 0, 0, 0, 0, 0, m0)), (51, (.iload_n 3, 52, 0, 3, 0, 0, 0, m0))]),
  (54, [(52, (.iadd, 53, 0, 0, 0, 0, 0, m0)), (53, (.iastore, 54, 0, 0, 0, 0, 0, m0)), (54, (.return_, 55, 0, 0, 0, 0, 0, m0))])]
theorem kX8_hunger : chkC mX8_hunger oX8_hunger = true := by decide +kernel
theorem qX8_clearHungers : OkM mX8_clearHungers := ⟨Gd_in (i := 1056) (by decide +kernel) (by decide +kernel), Gd_in (i := 73) (by decide +kernel) (by decide +kernel), ⟨fun _ => ⟨Gd_in (i := 1055) (by decide +kernel) (by decide +kernel), Gd_in (i := 46) (by decide +kernel) (by decide +kernel)⟩, fun h => absurd h (by decide +kernel)⟩, by decide +kernel, ⟨by decide +kernel, by decide +kernel⟩, rfl, rfl⟩
def oX8_clearHungers : Cd := [(11, [(0, (.iconst 0, 1, 0, 0, 0, 0, 0, m0)), (1, (.istore_n 1, 2, 0, 1, 0, 0, 0, m0)), (2, (.iload_n 1, 3, 0, 1, 0, 0, 0, m0)), (3, (.iconst 4, 4, 0, 0, 0, 4, 0, m0)), (4, (.if_icmp .ge 16, 7, 20, 0, 0, 0, 0, m0)), (7, (.aload_n 0, 8, 0, 0, 0, 0, 0, m0)), (8, (.getfield 36, 11, 841, 18, 8, 0, 0, m0)), (11, (.iload_n 1, 12, 0, 1, 0, 0, 0, m0))]),
  (20, [(12, (.iconst 0, 13, 0, 0, 0, 0, 0, m0)), (13, (.iastore, 14, 0, 0, 0, 0, 0, m0)), (14, (.iinc 1 1, 17, 0, 1, 0, 1, 0, m0)), (17, (.goto (-15), 20, 2, 0, 0, 0, 0, m0)), (20, (.return_, 21, 0, 0, 0, 0, 0, m0))])]
theorem kX8_clearHungers : chkC mX8_clearHungers oX8_clearHungers = true := by decide +kernel
theorem qX8_pass : OkM mX8_pass := ⟨Gd_in (i := 1060) (by decide +kernel) (by decide +kernel), Gd_in (i := 73) (by decide +kernel) (by decide +kernel), ⟨fun _ => ⟨Gd_in (i := 1059) (by decide +kernel) (by decide +kernel), Gd_in (i := 47) (by decide +kernel) (by decide +kernel)⟩, fun h => absurd h (by decide +kernel)⟩, by decide +kernel, ⟨by decide +kernel, by decide +kernel⟩, rfl, rfl⟩
def oX8_pass : Cd := [(11, [(0, (.iconst 0, 1, 0, 0, 0, 0, 0, m0)), (1, (.istore_n 2, 2, 0, 2, 0, 0, 0, m0)), (2, (.iload_n 2, 3, 0, 2, 0, 0, 0, m0)), (3, (.aload_n 0, 4, 0, 0, 0, 0, 0, m0)), (4, (.getfield 138, 7, 830, 7, 8, 0, 0, m0)), (7, (.if_icmp .ge 35, 10, 42, 0, 0, 0, 0, m0)), (10, (.aload_n 0, 11, 0, 0, 0, 0, 0, m0)), (11, (.iload_n 1, 12, 0, 1, 0, 0, 0, m0))]),
  (21, [(12, (.iload_n 2, 13, 0, 2, 0, 0, 0, m0)), (13, (.aload_n 0, 14, 0, 0, 0, 0, 0, m0)), (14, (.iload_n 1, 15, 0, 1, 0, 0, 0, m0)), (15, (.iload_n 2, 16, 0, 2, 0, 0, 0, m0)), (16, (.aload_n 0, 17, 0, 0, 0, 0, 0, m0)), (17, (.aload_n 0, 18, 0, 0, 0, 0, 0, m0)), (18, (.getfield 7, 21, 823, 0, 8, 0, 0, m0)), (21, (.iload_n 1, 22, 0, 1, 0, 0, 0, m0))]),
  (39, [(22, (.sipush 177, 25, 0, 0, 0, 177, 0, m0)), (25, (.iadd, 26, 0, 0, 0, 0, 0, m0)), (26, (.iaload, 27, 0, 0, 0, 0, 0, m0)), (27, (.invokevirtual 155, 30, 980, 2, 8, 0, 0, mX8_harvestOf)), (30, (.invokevirtual 196, 33, 1061, 4, 8, 0, 0, mX8_eat)), (33, (.invokevirtual 199, 36, 1069, 4, 8, 0, 0, mX8_hunger)), (36, (.iinc 2 1, 39, 0, 2, 0, 1, 0, m0)), (39, (.goto (-37), 42, 2, 0, 0, 0, 0, m0))]),
  (53, [(42, (.aload_n 0, 43, 0, 0, 0, 0, 0, m0)), (43, (.getfield 7, 46, 823, 0, 8, 0, 0, m0)), (46, (.iload_n 1, 47, 0, 1, 0, 0, 0, m0)), (47, (.sipush 177, 50, 0, 0, 0, 177, 0, m0)), (50, (.iadd, 51, 0, 0, 0, 0, 0, m0)), (51, (.dup2, 52, 0, 0, 0, 0, 0, m0)), (52, (.iaload, 53, 0, 0, 0, 0, 0, m0)), (53, (.iconst 1, 54, 0, 0, 0, 1, 0, m0))]),
  (56, [(54, (.iadd, 55, 0, 0, 0, 0, 0, m0)), (55, (.iastore, 56, 0, 0, 0, 0, 0, m0)), (56, (.return_, 57, 0, 0, 0, 0, 0, m0))])]
theorem kX8_pass : chkC mX8_pass oX8_pass = true := by decide +kernel
theorem qX8_allHungers : OkM mX8_allHungers := ⟨Gd_in (i := 1077) (by decide +kernel) (by decide +kernel), Gd_in (i := 73) (by decide +kernel) (by decide +kernel), ⟨fun _ => ⟨Gd_in (i := 1076) (by decide +kernel) (by decide +kernel), Gd_in (i := 51) (by decide +kernel) (by decide +kernel)⟩, fun h => absurd h (by decide +kernel)⟩, by decide +kernel, ⟨by decide +kernel, by decide +kernel⟩, rfl, rfl⟩
def oX8_allHungers : Cd := [(11, [(0, (.aload_n 0, 1, 0, 0, 0, 0, 0, m0)), (1, (.getfield 36, 4, 841, 18, 8, 0, 0, m0)), (4, (.iconst 0, 5, 0, 0, 0, 0, 0, m0)), (5, (.iaload, 6, 0, 0, 0, 0, 0, m0)), (6, (.aload_n 0, 7, 0, 0, 0, 0, 0, m0)), (7, (.getfield 36, 10, 841, 18, 8, 0, 0, m0)), (10, (.iconst 1, 11, 0, 0, 0, 1, 0, m0)), (11, (.iaload, 12, 0, 0, 0, 0, 0, m0))]),
  (21, [(12, (.iadd, 13, 0, 0, 0, 0, 0, m0)), (13, (.aload_n 0, 14, 0, 0, 0, 0, 0, m0)), (14, (.getfield 36, 17, 841, 18, 8, 0, 0, m0)), (17, (.iconst 2, 18, 0, 0, 0, 2, 0, m0)), (18, (.iaload, 19, 0, 0, 0, 0, 0, m0)), (19, (.iadd, 20, 0, 0, 0, 0, 0, m0)), (20, (.aload_n 0, 21, 0, 0, 0, 0, 0, m0)), (21, (.getfield 36, 24, 841, 18, 8, 0, 0, m0))]),
  (27, [(24, (.iconst 3, 25, 0, 0, 0, 3, 0, m0)), (25, (.iaload, 26, 0, 0, 0, 0, 0, m0)), (26, (.iadd, 27, 0, 0, 0, 0, 0, m0)), (27, (.ireturn, 28, 0, 0, 0, 0, 0, m0))])]
theorem kX8_allHungers : chkC mX8_allHungers oX8_allHungers = true := by decide +kernel
theorem qX8_year : OkM mX8_year := ⟨Gd_in (i := 1051) (by decide +kernel) (by decide +kernel), Gd_in (i := 73) (by decide +kernel) (by decide +kernel), ⟨fun _ => ⟨Gd_in (i := 1049) (by decide +kernel) (by decide +kernel), Gd_in (i := 1050) (by decide +kernel) (by decide +kernel)⟩, fun h => absurd h (by decide +kernel)⟩, by decide +kernel, ⟨by decide +kernel, by decide +kernel⟩, rfl, rfl⟩
def oX8_year : Cd := [(14, [(0, (.iload_n 1, 1, 0, 1, 0, 0, 0, m0)), (1, (.i2l, 2, 0, 0, 0, 0, 0, m0)), (2, (.lconst 1, 3, 0, 0, 0, 0, 1, m0)), (3, (.ldc2_w 203, 6, 1052, 0, 0, 0, 99, m0)), (6, (.invokestatic 62, 9, 913, 3, 0, 0, 0, mX8_in)), (9, (.ifCond .ne 6, 12, 15, 0, 0, 0, 0, m0)), (12, (.ldc 66, 14, 916, 0, 0, (-1000000002), 0, m0)), (14, (.ireturn, 15, 0, 0, 0, 0, 0, m0))]),
  (26, [(15, (.aload_n 0, 16, 0, 0, 0, 0, 0, m0)), (16, (.invokevirtual 205, 19, 1053, 1, 8, 0, 0, mX8_clearHungers)), (19, (.iconst 0, 20, 0, 0, 0, 0, 0, m0)), (20, (.istore_n 2, 21, 0, 2, 0, 0, 0, m0)), (21, (.iload_n 2, 22, 0, 2, 0, 0, 0, m0)), (22, (.iload_n 1, 23, 0, 1, 0, 0, 0, m0)), (23, (.if_icmp .ge 14, 26, 37, 0, 0, 0, 0, m0)), (26, (.aload_n 0, 27, 0, 0, 0, 0, 0, m0))]),
  (41, [(27, (.iconst 0, 28, 0, 0, 0, 0, 0, m0)), (28, (.invokevirtual 208, 31, 1057, 2, 8, 0, 0, mX8_pass)), (31, (.iinc 2 1, 34, 0, 2, 0, 1, 0, m0)), (34, (.goto (-13), 37, 21, 0, 0, 0, 0, m0)), (37, (.aload_n 0, 38, 0, 0, 0, 0, 0, m0)), (38, (.invokevirtual 212, 41, 1074, 1, 8, 0, 0, mX8_allHungers)), (41, (.ireturn, 42, 0, 0, 0, 0, 0, m0))])]
theorem kX8_year : chkC mX8_year oX8_year = true := by decide +kernel
theorem qX8_draw : OkM mX8_draw := ⟨Gd_in (i := 1085) (by decide +kernel) (by decide +kernel), Gd_in (i := 73) (by decide +kernel) (by decide +kernel), ⟨fun _ => ⟨Gd_in (i := 1084) (by decide +kernel) (by decide +kernel), Gd_in (i := 52) (by decide +kernel) (by decide +kernel)⟩, fun h => absurd h (by decide +kernel)⟩, by decide +kernel, ⟨by decide +kernel, by decide +kernel⟩, rfl, rfl⟩
def oX8_draw : Cd := [(15, [(0, (.aload_n 0, 1, 0, 0, 0, 0, 0, m0)), (1, (.getfield 7, 4, 823, 0, 8, 0, 0, m0)), (4, (.sipush 180, 7, 0, 0, 0, 180, 0, m0)), (7, (.aload_n 0, 8, 0, 0, 0, 0, 0, m0)), (8, (.getfield 7, 11, 823, 0, 8, 0, 0, m0)), (11, (.sipush 180, 14, 0, 0, 0, 180, 0, m0)), (14, (.iaload, 15, 0, 0, 0, 0, 0, m0)), (15, (.i2l, 16, 0, 0, 0, 0, 0, m0))]),
  (29, [(16, (.ldc2_w 215, 19, 1086, 0, 0, 0, 1103515245, m0)), (19, (.lmul, 20, 0, 0, 0, 0, 0, m0)), (20, (.ldc2_w 217, 23, 1087, 0, 0, 0, 12345, m0)), (23, (.ladd, 24, 0, 0, 0, 0, 0, m0)), (24, (.ldc2_w 219, 27, 1088, 0, 0, 0, 2147483648, m0)), (27, (.lrem, 28, 0, 0, 0, 0, 0, m0)), (28, (.l2i, 29, 0, 0, 0, 0, 0, m0)), (29, (.iastore, 30, 0, 0, 0, 0, 0, m0))]),
  (42, [(30, (.aload_n 0, 31, 0, 0, 0, 0, 0, m0)), (31, (.getfield 7, 34, 823, 0, 8, 0, 0, m0)), (34, (.sipush 180, 37, 0, 0, 0, 180, 0, m0)), (37, (.iaload, 38, 0, 0, 0, 0, 0, m0)), (38, (.ldc 221, 40, 1089, 0, 0, 65536, 0, m0)), (40, (.idiv, 41, 0, 0, 0, 0, 0, m0)), (41, (.iload_n 1, 42, 0, 1, 0, 0, 0, m0)), (42, (.irem, 43, 0, 0, 0, 0, 0, m0))]),
  (43, [(43, (.ireturn, 44, 0, 0, 0, 0, 0, m0))])]
theorem kX8_draw : chkC mX8_draw oX8_draw = true := by decide +kernel
theorem qX8_drift : OkM mX8_drift := ⟨Gd_in (i := 1081) (by decide +kernel) (by decide +kernel), Gd_in (i := 73) (by decide +kernel) (by decide +kernel), ⟨fun _ => ⟨Gd_in (i := 1079) (by decide +kernel) (by decide +kernel), Gd_in (i := 1080) (by decide +kernel) (by decide +kernel)⟩, fun h => absurd h (by decide +kernel)⟩, by decide +kernel, ⟨by decide +kernel, by decide +kernel⟩, rfl, rfl⟩
def oX8_drift : Cd := [(14, [(0, (.iload_n 1, 1, 0, 1, 0, 0, 0, m0)), (1, (.i2l, 2, 0, 0, 0, 0, 0, m0)), (2, (.lconst 1, 3, 0, 0, 0, 0, 1, m0)), (3, (.ldc2_w 203, 6, 1052, 0, 0, 0, 99, m0)), (6, (.invokestatic 62, 9, 913, 3, 0, 0, 0, mX8_in)), (9, (.ifCond .ne 6, 12, 15, 0, 0, 0, 0, m0)), (12, (.ldc 66, 14, 916, 0, 0, (-1000000002), 0, m0)), (14, (.ireturn, 15, 0, 0, 0, 0, 0, m0))]),
  (26, [(15, (.aload_n 0, 16, 0, 0, 0, 0, 0, m0)), (16, (.invokevirtual 205, 19, 1053, 1, 8, 0, 0, mX8_clearHungers)), (19, (.iconst 0, 20, 0, 0, 0, 0, 0, m0)), (20, (.istore_n 2, 21, 0, 2, 0, 0, 0, m0)), (21, (.iload_n 2, 22, 0, 2, 0, 0, 0, m0)), (22, (.iload_n 1, 23, 0, 1, 0, 0, 0, m0)), (23, (.if_icmp .ge 177, 26, 200, 0, 0, 0, 0, m0)), (26, (.iconst 0, 27, 0, 0, 0, 0, 0, m0))]),
  (40, [(27, (.istore_n 3, 28, 0, 3, 0, 0, 0, m0)), (28, (.iload_n 3, 29, 0, 3, 0, 0, 0, m0)), (29, (.aload_n 0, 30, 0, 0, 0, 0, 0, m0)), (30, (.getfield 7, 33, 823, 0, 8, 0, 0, m0)), (33, (.sipush 176, 36, 0, 0, 0, 176, 0, m0)), (36, (.iaload, 37, 0, 0, 0, 0, 0, m0)), (37, (.if_icmp .ge 107, 40, 144, 0, 0, 0, 0, m0)), (40, (.aload_n 0, 41, 0, 0, 0, 0, 0, m0))]),
  (54, [(41, (.getfield 7, 44, 823, 0, 8, 0, 0, m0)), (44, (.sipush 144, 47, 0, 0, 0, 144, 0, m0)), (47, (.iload_n 3, 48, 0, 3, 0, 0, 0, m0)), (48, (.iadd, 49, 0, 0, 0, 0, 0, m0)), (49, (.iaload, 50, 0, 0, 0, 0, 0, m0)), (50, (.ifCond .ne 47, 53, 97, 0, 0, 0, 0, m0)), (53, (.aload_n 0, 54, 0, 0, 0, 0, 0, m0)), (54, (.getfield 7, 57, 823, 0, 8, 0, 0, m0))]),
  (70, [(57, (.iload_n 3, 58, 0, 3, 0, 0, 0, m0)), (58, (.iaload, 59, 0, 0, 0, 0, 0, m0)), (59, (.iconst 2, 60, 0, 0, 0, 2, 0, m0)), (60, (.if_icmp .eq 37, 63, 97, 0, 0, 0, 0, m0)), (63, (.aload_n 0, 64, 0, 0, 0, 0, 0, m0)), (64, (.getfield 7, 67, 823, 0, 8, 0, 0, m0)), (67, (.sipush 177, 70, 0, 0, 0, 177, 0, m0)), (70, (.iaload, 71, 0, 0, 0, 0, 0, m0))]),
  (81, [(71, (.aload_n 0, 72, 0, 0, 0, 0, 0, m0)), (72, (.getfield 7, 75, 823, 0, 8, 0, 0, m0)), (75, (.bipush 120, 77, 0, 0, 0, 120, 0, m0)), (77, (.iload_n 3, 78, 0, 3, 0, 0, 0, m0)), (78, (.iadd, 79, 0, 0, 0, 0, 0, m0)), (79, (.iaload, 80, 0, 0, 0, 0, 0, m0)), (80, (.isub, 81, 0, 0, 0, 0, 0, m0)), (81, (.aload_n 0, 82, 0, 0, 0, 0, 0, m0))]),
  (94, [(82, (.getfield 7, 85, 823, 0, 8, 0, 0, m0)), (85, (.bipush 96, 87, 0, 0, 0, 96, 0, m0)), (87, (.iload_n 3, 88, 0, 3, 0, 0, 0, m0)), (88, (.iadd, 89, 0, 0, 0, 0, 0, m0)), (89, (.iaload, 90, 0, 0, 0, 0, 0, m0)), (90, (.if_icmp .le 7, 93, 97, 0, 0, 0, 0, m0)), (93, (.iconst 1, 94, 0, 0, 0, 1, 0, m0)), (94, (.goto 4, 97, 98, 0, 0, 0, 0, m0))]),
  (109, [(97, (.iconst 0, 98, 0, 0, 0, 0, 0, m0)), (98, (.istore 4, 100, 0, 4, 0, 0, 0, m0)), (100, (.aload_n 0, 101, 0, 0, 0, 0, 0, m0)), (101, (.getfield 7, 104, 823, 0, 8, 0, 0, m0)), (104, (.sipush 144, 107, 0, 0, 0, 144, 0, m0)), (107, (.iload_n 3, 108, 0, 3, 0, 0, 0, m0)), (108, (.iadd, 109, 0, 0, 0, 0, 0, m0)), (109, (.iload 4, 111, 0, 4, 0, 0, 0, m0))]),
  (127, [(111, (.ifCond .eq 16, 114, 127, 0, 0, 0, 0, m0)), (114, (.aload_n 0, 115, 0, 0, 0, 0, 0, m0)), (115, (.bipush 10, 117, 0, 0, 0, 10, 0, m0)), (117, (.invokevirtual 222, 120, 1082, 2, 8, 0, 0, mX8_draw)), (120, (.ifCond .ne 7, 123, 127, 0, 0, 0, 0, m0)), (123, (.iconst 1, 124, 0, 0, 0, 1, 0, m0)), (124, (.goto 13, 127, 137, 0, 0, 0, 0, m0)), (127, (.aload_n 0, 128, 0, 0, 0, 0, 0, m0))]),
  (141, [(128, (.getfield 7, 131, 823, 0, 8, 0, 0, m0)), (131, (.sipush 144, 134, 0, 0, 0, 144, 0, m0)), (134, (.iload_n 3, 135, 0, 3, 0, 0, 0, m0)), (135, (.iadd, 136, 0, 0, 0, 0, 0, m0)), (136, (.iaload, 137, 0, 0, 0, 0, 0, m0)), (137, (.iastore, 138, 0, 0, 0, 0, 0, m0)), (138, (.iinc 3 1, 141, 0, 3, 0, 1, 0, m0)), (141, (.goto (-113), 144, 28, 0, 0, 0, 0, m0))]),
  (155, [(144, (.iconst 0, 145, 0, 0, 0, 0, 0, m0)), (145, (.istore_n 3, 146, 0, 3, 0, 0, 0, m0)), (146, (.iload_n 3, 147, 0, 3, 0, 0, 0, m0)), (147, (.aload_n 0, 148, 0, 0, 0, 0, 0, m0)), (148, (.getfield 138, 151, 830, 7, 8, 0, 0, m0)), (151, (.if_icmp .ge 31, 154, 182, 0, 0, 0, 0, m0)), (154, (.aload_n 0, 155, 0, 0, 0, 0, 0, m0)), (155, (.bipush 30, 157, 0, 0, 0, 30, 0, m0))]),
  (167, [(157, (.invokevirtual 222, 160, 1082, 2, 8, 0, 0, mX8_draw)), (160, (.istore 4, 162, 0, 4, 0, 0, 0, m0)), (162, (.aload_n 0, 163, 0, 0, 0, 0, 0, m0)), (163, (.iconst 0, 164, 0, 0, 0, 0, 0, m0)), (164, (.iload_n 3, 165, 0, 3, 0, 0, 0, m0)), (165, (.aload_n 0, 166, 0, 0, 0, 0, 0, m0)), (166, (.iconst 0, 167, 0, 0, 0, 0, 0, m0)), (167, (.iload_n 3, 168, 0, 3, 0, 0, 0, m0))]),
  (186, [(168, (.iload 4, 170, 0, 4, 0, 0, 0, m0)), (170, (.invokevirtual 196, 173, 1061, 4, 8, 0, 0, mX8_eat)), (173, (.invokevirtual 199, 176, 1069, 4, 8, 0, 0, mX8_hunger)), (176, (.iinc 3 1, 179, 0, 3, 0, 1, 0, m0)), (179, (.goto (-33), 182, 146, 0, 0, 0, 0, m0)), (182, (.aload_n 0, 183, 0, 0, 0, 0, 0, m0)), (183, (.getfield 7, 186, 823, 0, 8, 0, 0, m0)), (186, (.sipush 177, 189, 0, 0, 0, 177, 0, m0))]),
  (200, [(189, (.dup2, 190, 0, 0, 0, 0, 0, m0)), (190, (.iaload, 191, 0, 0, 0, 0, 0, m0)), (191, (.iconst 1, 192, 0, 0, 0, 1, 0, m0)), (192, (.iadd, 193, 0, 0, 0, 0, 0, m0)), (193, (.iastore, 194, 0, 0, 0, 0, 0, m0)), (194, (.iinc 2 1, 197, 0, 2, 0, 1, 0, m0)), (197, (.goto (-176), 200, 21, 0, 0, 0, 0, m0)), (200, (.aload_n 0, 201, 0, 0, 0, 0, 0, m0))]),
  (204, [(201, (.invokevirtual 212, 204, 1074, 1, 8, 0, 0, mX8_allHungers)), (204, (.ireturn, 205, 0, 0, 0, 0, 0, m0))])]
theorem kX8_drift : chkC mX8_drift oX8_drift = true := by decide +kernel
theorem qX8_copy : OkM mX8_copy := ⟨Gd_in (i := 1124) (by decide +kernel) (by decide +kernel), Gd_in (i := 73) (by decide +kernel) (by decide +kernel), ⟨fun _ => ⟨Gd_in (i := 1123) (by decide +kernel) (by decide +kernel), Gd_in (i := 57) (by decide +kernel) (by decide +kernel)⟩, fun h => absurd h (by decide +kernel)⟩, by decide +kernel, ⟨by decide +kernel, by decide +kernel⟩, rfl, rfl⟩
def oX8_copy : Cd := [(13, [(0, (.iconst 0, 1, 0, 0, 0, 0, 0, m0)), (1, (.istore_n 3, 2, 0, 3, 0, 0, 0, m0)), (2, (.iload_n 3, 3, 0, 3, 0, 0, 0, m0)), (3, (.sipush 200, 6, 0, 0, 0, 200, 0, m0)), (6, (.if_icmp .ge 25, 9, 31, 0, 0, 0, 0, m0)), (9, (.aload_n 0, 10, 0, 0, 0, 0, 0, m0)), (10, (.getfield 7, 13, 823, 0, 8, 0, 0, m0)), (13, (.iload_n 2, 14, 0, 2, 0, 0, 0, m0))]),
  (23, [(14, (.iload_n 3, 15, 0, 3, 0, 0, 0, m0)), (15, (.iadd, 16, 0, 0, 0, 0, 0, m0)), (16, (.aload_n 0, 17, 0, 0, 0, 0, 0, m0)), (17, (.getfield 7, 20, 823, 0, 8, 0, 0, m0)), (20, (.iload_n 1, 21, 0, 1, 0, 0, 0, m0)), (21, (.iload_n 3, 22, 0, 3, 0, 0, 0, m0)), (22, (.iadd, 23, 0, 0, 0, 0, 0, m0)), (23, (.iaload, 24, 0, 0, 0, 0, 0, m0))]),
  (31, [(24, (.iastore, 25, 0, 0, 0, 0, 0, m0)), (25, (.iinc 3 1, 28, 0, 3, 0, 1, 0, m0)), (28, (.goto (-26), 31, 2, 0, 0, 0, 0, m0)), (31, (.return_, 32, 0, 0, 0, 0, 0, m0))])]
theorem kX8_copy : chkC mX8_copy oX8_copy = true := by decide +kernel
theorem qX8_findOwn : OkM mX8_findOwn := ⟨Gd_in (i := 1099) (by decide +kernel) (by decide +kernel), Gd_in (i := 73) (by decide +kernel) (by decide +kernel), ⟨fun _ => ⟨Gd_in (i := 1098) (by decide +kernel) (by decide +kernel), Gd_in (i := 53) (by decide +kernel) (by decide +kernel)⟩, fun h => absurd h (by decide +kernel)⟩, by decide +kernel, ⟨by decide +kernel, by decide +kernel⟩, rfl, rfl⟩
def oX8_findOwn : Cd := [(9, [(0, (.aload_n 0, 1, 0, 0, 0, 0, 0, m0)), (1, (.iconst 0, 2, 0, 0, 0, 0, 0, m0)), (2, (.putfield 225, 5, 843, 20, 8, 0, 0, m0)), (5, (.iconst 0, 6, 0, 0, 0, 0, 0, m0)), (6, (.istore_n 2, 7, 0, 2, 0, 0, 0, m0)), (7, (.iload_n 2, 8, 0, 2, 0, 0, 0, m0)), (8, (.aload_n 0, 9, 0, 0, 0, 0, 0, m0)), (9, (.getfield 7, 12, 823, 0, 8, 0, 0, m0))]),
  (28, [(12, (.sipush 176, 15, 0, 0, 0, 176, 0, m0)), (15, (.iaload, 16, 0, 0, 0, 0, 0, m0)), (16, (.if_icmp .ge 64, 19, 80, 0, 0, 0, 0, m0)), (19, (.aload_n 0, 20, 0, 0, 0, 0, 0, m0)), (20, (.getfield 225, 23, 843, 20, 8, 0, 0, m0)), (23, (.bipush 8, 25, 0, 0, 0, 8, 0, m0)), (25, (.if_icmp .ge 55, 28, 80, 0, 0, 0, 0, m0)), (28, (.aload_n 0, 29, 0, 0, 0, 0, 0, m0))]),
  (41, [(29, (.getfield 7, 32, 823, 0, 8, 0, 0, m0)), (32, (.bipush 24, 34, 0, 0, 0, 24, 0, m0)), (34, (.iload_n 2, 35, 0, 2, 0, 0, 0, m0)), (35, (.iadd, 36, 0, 0, 0, 0, 0, m0)), (36, (.iaload, 37, 0, 0, 0, 0, 0, m0)), (37, (.iload_n 1, 38, 0, 1, 0, 0, 0, m0)), (38, (.if_icmp .ne 36, 41, 74, 0, 0, 0, 0, m0)), (41, (.aload_n 0, 42, 0, 0, 0, 0, 0, m0))]),
  (55, [(42, (.getfield 7, 45, 823, 0, 8, 0, 0, m0)), (45, (.sipush 144, 48, 0, 0, 0, 144, 0, m0)), (48, (.iload_n 2, 49, 0, 2, 0, 0, 0, m0)), (49, (.iadd, 50, 0, 0, 0, 0, 0, m0)), (50, (.iaload, 51, 0, 0, 0, 0, 0, m0)), (51, (.ifCond .ne 23, 54, 74, 0, 0, 0, 0, m0)), (54, (.aload_n 0, 55, 0, 0, 0, 0, 0, m0)), (55, (.getfield 39, 58, 842, 19, 8, 0, 0, m0))]),
  (69, [(58, (.aload_n 0, 59, 0, 0, 0, 0, 0, m0)), (59, (.getfield 225, 62, 843, 20, 8, 0, 0, m0)), (62, (.iload_n 2, 63, 0, 2, 0, 0, 0, m0)), (63, (.iastore, 64, 0, 0, 0, 0, 0, m0)), (64, (.aload_n 0, 65, 0, 0, 0, 0, 0, m0)), (65, (.dup, 66, 0, 0, 0, 0, 0, m0)), (66, (.getfield 225, 69, 843, 20, 8, 0, 0, m0)), (69, (.iconst 1, 70, 0, 0, 0, 1, 0, m0))]),
  (80, [(70, (.iadd, 71, 0, 0, 0, 0, 0, m0)), (71, (.putfield 225, 74, 843, 20, 8, 0, 0, m0)), (74, (.iinc 2 1, 77, 0, 2, 0, 1, 0, m0)), (77, (.goto (-70), 80, 7, 0, 0, 0, 0, m0)), (80, (.return_, 81, 0, 0, 0, 0, 0, m0))])]
theorem kX8_findOwn : chkC mX8_findOwn oX8_findOwn = true := by decide +kernel
theorem qX8_inSet : OkM mX8_inSet := ⟨Gd_in (i := 1108) (by decide +kernel) (by decide +kernel), Gd_in (i := 73) (by decide +kernel) (by decide +kernel), ⟨fun _ => ⟨Gd_in (i := 1107) (by decide +kernel) (by decide +kernel), Gd_in (i := 55) (by decide +kernel) (by decide +kernel)⟩, fun h => absurd h (by decide +kernel)⟩, by decide +kernel, ⟨by decide +kernel, by decide +kernel⟩, rfl, rfl⟩
def oX8_inSet : Cd := [(11, [(0, (.iconst 0, 1, 0, 0, 0, 0, 0, m0)), (1, (.istore_n 3, 2, 0, 3, 0, 0, 0, m0)), (2, (.iconst 0, 3, 0, 0, 0, 0, 0, m0)), (3, (.istore 4, 5, 0, 4, 0, 0, 0, m0)), (5, (.iload 4, 7, 0, 4, 0, 0, 0, m0)), (7, (.aload_n 0, 8, 0, 0, 0, 0, 0, m0)), (8, (.getfield 225, 11, 843, 20, 8, 0, 0, m0)), (11, (.if_icmp .ge 62, 14, 73, 0, 0, 0, 0, m0))]),
  (28, [(14, (.iload_n 3, 15, 0, 3, 0, 0, 0, m0)), (15, (.ifCond .lt 58, 18, 73, 0, 0, 0, 0, m0)), (18, (.iload_n 1, 19, 0, 1, 0, 0, 0, m0)), (19, (.iload 4, 21, 0, 4, 0, 0, 0, m0)), (21, (.invokestatic 228, 24, 1109, 2, 0, 0, 0, mX8_has)), (24, (.ifCond .ne 7, 27, 31, 0, 0, 0, 0, m0)), (27, (.iload_n 3, 28, 0, 3, 0, 0, 0, m0)), (28, (.goto 38, 31, 66, 0, 0, 0, 0, m0))]),
  (41, [(31, (.aload_n 0, 32, 0, 0, 0, 0, 0, m0)), (32, (.iconst 0, 33, 0, 0, 0, 0, 0, m0)), (33, (.aload_n 0, 34, 0, 0, 0, 0, 0, m0)), (34, (.getfield 39, 37, 842, 19, 8, 0, 0, m0)), (37, (.iload 4, 39, 0, 4, 0, 0, 0, m0)), (39, (.iaload, 40, 0, 0, 0, 0, 0, m0)), (40, (.iload_n 2, 41, 0, 2, 0, 0, 0, m0)), (41, (.invokevirtual 162, 44, 1001, 4, 8, 0, 0, mX8_may))]),
  (56, [(44, (.ifCond .eq 21, 47, 65, 0, 0, 0, 0, m0)), (47, (.iload_n 3, 48, 0, 3, 0, 0, 0, m0)), (48, (.aload_n 0, 49, 0, 0, 0, 0, 0, m0)), (49, (.iconst 0, 50, 0, 0, 0, 0, 0, m0)), (50, (.aload_n 0, 51, 0, 0, 0, 0, 0, m0)), (51, (.getfield 39, 54, 842, 19, 8, 0, 0, m0)), (54, (.iload 4, 56, 0, 4, 0, 0, 0, m0)), (56, (.iaload, 57, 0, 0, 0, 0, 0, m0))]),
  (70, [(57, (.iload_n 2, 58, 0, 2, 0, 0, 0, m0)), (58, (.invokevirtual 181, 61, 1020, 4, 8, 0, 0, mX8_filled)), (61, (.iadd, 62, 0, 0, 0, 0, 0, m0)), (62, (.goto 4, 65, 66, 0, 0, 0, 0, m0)), (65, (.iconst (-1), 66, 0, 0, 0, (-1), 0, m0)), (66, (.istore_n 3, 67, 0, 3, 0, 0, 0, m0)), (67, (.iinc 4 1, 70, 0, 4, 0, 1, 0, m0)), (70, (.goto (-65), 73, 5, 0, 0, 0, 0, m0))]),
  (74, [(73, (.iload_n 3, 74, 0, 3, 0, 0, 0, m0)), (74, (.ireturn, 75, 0, 0, 0, 0, 0, m0))])]
theorem kX8_inSet : chkC mX8_inSet oX8_inSet = true := by decide +kernel
theorem qX8_hungerBy : OkM mX8_hungerBy := ⟨Gd_in (i := 1115) (by decide +kernel) (by decide +kernel), Gd_in (i := 73) (by decide +kernel) (by decide +kernel), ⟨fun _ => ⟨Gd_in (i := 1114) (by decide +kernel) (by decide +kernel), Gd_in (i := 56) (by decide +kernel) (by decide +kernel)⟩, fun h => absurd h (by decide +kernel)⟩, by decide +kernel, ⟨by decide +kernel, by decide +kernel⟩, rfl, rfl⟩
def oX8_hungerBy : Cd := [(11, [(0, (.aload_n 0, 1, 0, 0, 0, 0, 0, m0)), (1, (.getfield 20, 4, 827, 4, 8, 0, 0, m0)), (4, (.iload_n 1, 5, 0, 1, 0, 0, 0, m0)), (5, (.iaload, 6, 0, 0, 0, 0, 0, m0)), (6, (.aload_n 0, 7, 0, 0, 0, 0, 0, m0)), (7, (.aload_n 0, 8, 0, 0, 0, 0, 0, m0)), (8, (.getfield 7, 11, 823, 0, 8, 0, 0, m0)), (11, (.sipush 177, 14, 0, 0, 0, 177, 0, m0))]),
  (25, [(14, (.iaload, 15, 0, 0, 0, 0, 0, m0)), (15, (.iload_n 2, 16, 0, 2, 0, 0, 0, m0)), (16, (.iadd, 17, 0, 0, 0, 0, 0, m0)), (17, (.invokevirtual 155, 20, 980, 2, 8, 0, 0, mX8_harvestOf)), (20, (.isub, 21, 0, 0, 0, 0, 0, m0)), (21, (.iload_n 2, 22, 0, 2, 0, 0, 0, m0)), (22, (.ifCond .ne 16, 25, 38, 0, 0, 0, 0, m0)), (25, (.aload_n 0, 26, 0, 0, 0, 0, 0, m0))]),
  (39, [(26, (.getfield 7, 29, 823, 0, 8, 0, 0, m0)), (29, (.sipush 172, 32, 0, 0, 0, 172, 0, m0)), (32, (.iload_n 1, 33, 0, 1, 0, 0, 0, m0)), (33, (.iadd, 34, 0, 0, 0, 0, 0, m0)), (34, (.iaload, 35, 0, 0, 0, 0, 0, m0)), (35, (.goto 4, 38, 39, 0, 0, 0, 0, m0)), (38, (.iconst 0, 39, 0, 0, 0, 0, 0, m0)), (39, (.isub, 40, 0, 0, 0, 0, 0, m0))]),
  (54, [(40, (.iload_n 3, 41, 0, 3, 0, 0, 0, m0)), (41, (.isub, 42, 0, 0, 0, 0, 0, m0)), (42, (.istore 4, 44, 0, 4, 0, 0, 0, m0)), (44, (.iload 4, 46, 0, 4, 0, 0, 0, m0)), (46, (.ifCond .le 8, 49, 54, 0, 0, 0, 0, m0)), (49, (.iload 4, 51, 0, 4, 0, 0, 0, m0)), (51, (.goto 4, 54, 55, 0, 0, 0, 0, m0)), (54, (.iconst 0, 55, 0, 0, 0, 0, 0, m0))]),
  (55, [(55, (.ireturn, 56, 0, 0, 0, 0, 0, m0))])]
theorem kX8_hungerBy : chkC mX8_hungerBy oX8_hungerBy = true := by decide +kernel
theorem qX8_findPlan : OkM mX8_findPlan := ⟨Gd_in (i := 1103) (by decide +kernel) (by decide +kernel), Gd_in (i := 73) (by decide +kernel) (by decide +kernel), ⟨fun _ => ⟨Gd_in (i := 1102) (by decide +kernel) (by decide +kernel), Gd_in (i := 54) (by decide +kernel) (by decide +kernel)⟩, fun h => absurd h (by decide +kernel)⟩, by decide +kernel, ⟨by decide +kernel, by decide +kernel⟩, rfl, rfl⟩
def oX8_findPlan : Cd := [(13, [(0, (.iconst 0, 1, 0, 0, 0, 0, 0, m0)), (1, (.istore_n 3, 2, 0, 3, 0, 0, 0, m0)), (2, (.iload_n 3, 3, 0, 3, 0, 0, 0, m0)), (3, (.sipush 256, 6, 0, 0, 0, 256, 0, m0)), (6, (.if_icmp .ge 22, 9, 28, 0, 0, 0, 0, m0)), (9, (.aload_n 0, 10, 0, 0, 0, 0, 0, m0)), (10, (.getfield 42, 13, 844, 21, 8, 0, 0, m0)), (13, (.sipush 256, 16, 0, 0, 0, 256, 0, m0))]),
  (25, [(16, (.iload_n 2, 17, 0, 2, 0, 0, 0, m0)), (17, (.imul, 18, 0, 0, 0, 0, 0, m0)), (18, (.iload_n 3, 19, 0, 3, 0, 0, 0, m0)), (19, (.iadd, 20, 0, 0, 0, 0, 0, m0)), (20, (.iconst 0, 21, 0, 0, 0, 0, 0, m0)), (21, (.iastore, 22, 0, 0, 0, 0, 0, m0)), (22, (.iinc 3 1, 25, 0, 3, 0, 1, 0, m0)), (25, (.goto (-23), 28, 2, 0, 0, 0, 0, m0))]),
  (37, [(28, (.iload_n 2, 29, 0, 2, 0, 0, 0, m0)), (29, (.iconst 1, 30, 0, 0, 0, 1, 0, m0)), (30, (.isub, 31, 0, 0, 0, 0, 0, m0)), (31, (.istore_n 3, 32, 0, 3, 0, 0, 0, m0)), (32, (.iload_n 3, 33, 0, 3, 0, 0, 0, m0)), (33, (.ifCond .lt 153, 36, 186, 0, 0, 0, 0, m0)), (36, (.iconst 0, 37, 0, 0, 0, 0, 0, m0)), (37, (.istore 4, 39, 0, 4, 0, 0, 0, m0))]),
  (52, [(39, (.iload 4, 41, 0, 4, 0, 0, 0, m0)), (41, (.iconst 1, 42, 0, 0, 0, 1, 0, m0)), (42, (.aload_n 0, 43, 0, 0, 0, 0, 0, m0)), (43, (.getfield 225, 46, 843, 20, 8, 0, 0, m0)), (46, (.ishl, 47, 0, 0, 0, 0, 0, m0)), (47, (.if_icmp .ge 133, 50, 180, 0, 0, 0, 0, m0)), (50, (.ldc 232, 52, 1104, 0, 0, 99999999, 0, m0)), (52, (.istore 5, 54, 0, 5, 0, 0, 0, m0))]),
  (67, [(54, (.iload 4, 56, 0, 4, 0, 0, 0, m0)), (56, (.istore 6, 58, 0, 6, 0, 0, 0, m0)), (58, (.iload 6, 60, 0, 6, 0, 0, 0, m0)), (60, (.ifCond .lt 99, 63, 159, 0, 0, 0, 0, m0)), (63, (.aload_n 0, 64, 0, 0, 0, 0, 0, m0)), (64, (.iload 6, 66, 0, 6, 0, 0, 0, m0)), (66, (.aload_n 0, 67, 0, 0, 0, 0, 0, m0)), (67, (.getfield 7, 70, 823, 0, 8, 0, 0, m0))]),
  (83, [(70, (.sipush 177, 73, 0, 0, 0, 177, 0, m0)), (73, (.iaload, 74, 0, 0, 0, 0, 0, m0)), (74, (.iload_n 3, 75, 0, 3, 0, 0, 0, m0)), (75, (.iadd, 76, 0, 0, 0, 0, 0, m0)), (76, (.invokevirtual 233, 79, 1105, 3, 8, 0, 0, mX8_inSet)), (79, (.istore 7, 81, 0, 7, 0, 0, 0, m0)), (81, (.iload 7, 83, 0, 7, 0, 0, 0, m0)), (83, (.ifCond .ge 8, 86, 91, 0, 0, 0, 0, m0))]),
  (99, [(86, (.ldc 232, 88, 1104, 0, 0, 99999999, 0, m0)), (88, (.goto 32, 91, 120, 0, 0, 0, 0, m0)), (91, (.aload_n 0, 92, 0, 0, 0, 0, 0, m0)), (92, (.iload_n 1, 93, 0, 1, 0, 0, 0, m0)), (93, (.iload_n 3, 94, 0, 3, 0, 0, 0, m0)), (94, (.iload 7, 96, 0, 7, 0, 0, 0, m0)), (96, (.invokevirtual 236, 99, 1112, 4, 8, 0, 0, mX8_hungerBy)), (99, (.aload_n 0, 100, 0, 0, 0, 0, 0, m0))]),
  (112, [(100, (.getfield 42, 103, 844, 21, 8, 0, 0, m0)), (103, (.sipush 256, 106, 0, 0, 0, 256, 0, m0)), (106, (.iload_n 3, 107, 0, 3, 0, 0, 0, m0)), (107, (.iconst 1, 108, 0, 0, 0, 1, 0, m0)), (108, (.iadd, 109, 0, 0, 0, 0, 0, m0)), (109, (.imul, 110, 0, 0, 0, 0, 0, m0)), (110, (.iload 4, 112, 0, 4, 0, 0, 0, m0)), (112, (.iload 6, 114, 0, 6, 0, 0, 0, m0))]),
  (122, [(114, (.iconst (-1), 115, 0, 0, 0, (-1), 0, m0)), (115, (.ixor, 116, 0, 0, 0, 0, 0, m0)), (116, (.iand, 117, 0, 0, 0, 0, 0, m0)), (117, (.iadd, 118, 0, 0, 0, 0, 0, m0)), (118, (.iaload, 119, 0, 0, 0, 0, 0, m0)), (119, (.iadd, 120, 0, 0, 0, 0, 0, m0)), (120, (.istore 8, 122, 0, 8, 0, 0, 0, m0)), (122, (.iload 8, 124, 0, 8, 0, 0, 0, m0))]),
  (140, [(124, (.iload 5, 126, 0, 5, 0, 0, 0, m0)), (126, (.if_icmp .ge 8, 129, 134, 0, 0, 0, 0, m0)), (129, (.iload 8, 131, 0, 8, 0, 0, 0, m0)), (131, (.goto 5, 134, 136, 0, 0, 0, 0, m0)), (134, (.iload 5, 136, 0, 5, 0, 0, 0, m0)), (136, (.istore 5, 138, 0, 5, 0, 0, 0, m0)), (138, (.iload 6, 140, 0, 6, 0, 0, 0, m0)), (140, (.ifCond .ne 7, 143, 147, 0, 0, 0, 0, m0))]),
  (154, [(143, (.iconst (-1), 144, 0, 0, 0, (-1), 0, m0)), (144, (.goto 10, 147, 154, 0, 0, 0, 0, m0)), (147, (.iload 6, 149, 0, 6, 0, 0, 0, m0)), (149, (.iconst 1, 150, 0, 0, 0, 1, 0, m0)), (150, (.isub, 151, 0, 0, 0, 0, 0, m0)), (151, (.iload 4, 153, 0, 4, 0, 0, 0, m0)), (153, (.iand, 154, 0, 0, 0, 0, 0, m0)), (154, (.istore 6, 156, 0, 6, 0, 0, 0, m0))]),
  (170, [(156, (.goto (-98), 159, 58, 0, 0, 0, 0, m0)), (159, (.aload_n 0, 160, 0, 0, 0, 0, 0, m0)), (160, (.getfield 42, 163, 844, 21, 8, 0, 0, m0)), (163, (.sipush 256, 166, 0, 0, 0, 256, 0, m0)), (166, (.iload_n 3, 167, 0, 3, 0, 0, 0, m0)), (167, (.imul, 168, 0, 0, 0, 0, 0, m0)), (168, (.iload 4, 170, 0, 4, 0, 0, 0, m0)), (170, (.iadd, 171, 0, 0, 0, 0, 0, m0))]),
  (186, [(171, (.iload 5, 173, 0, 5, 0, 0, 0, m0)), (173, (.iastore, 174, 0, 0, 0, 0, 0, m0)), (174, (.iinc 4 1, 177, 0, 4, 0, 1, 0, m0)), (177, (.goto (-138), 180, 39, 0, 0, 0, 0, m0)), (180, (.iinc 3 (-1), 183, 0, 3, 0, (-1), 0, m0)), (183, (.goto (-151), 186, 32, 0, 0, 0, 0, m0)), (186, (.return_, 187, 0, 0, 0, 0, 0, m0))])]
theorem kX8_findPlan : chkC mX8_findPlan oX8_findPlan = true := by decide +kernel
theorem qX8_plan : OkM mX8_plan := ⟨Gd_in (i := 1093) (by decide +kernel) (by decide +kernel), Gd_in (i := 73) (by decide +kernel) (by decide +kernel), ⟨fun _ => ⟨Gd_in (i := 1091) (by decide +kernel) (by decide +kernel), Gd_in (i := 1092) (by decide +kernel) (by decide +kernel)⟩, fun h => absurd h (by decide +kernel)⟩, by decide +kernel, ⟨by decide +kernel, by decide +kernel⟩, rfl, rfl⟩
def oX8_plan : Cd := [(12, [(0, (.aload_n 0, 1, 0, 0, 0, 0, 0, m0)), (1, (.iload_n 1, 2, 0, 1, 0, 0, 0, m0)), (2, (.invokevirtual 169, 5, 992, 2, 8, 0, 0, mX8_isHouse)), (5, (.ifCond .ne 6, 8, 11, 0, 0, 0, 0, m0)), (8, (.ldc 173, 10, 996, 0, 0, (-1000000001), 0, m0)), (10, (.ireturn, 11, 0, 0, 0, 0, 0, m0)), (11, (.iload_n 2, 12, 0, 2, 0, 0, 0, m0)), (12, (.i2l, 13, 0, 0, 0, 0, 0, m0))]),
  (28, [(13, (.lconst 1, 14, 0, 0, 0, 0, 1, m0)), (14, (.ldc2_w 239, 17, 1094, 0, 0, 0, 12, m0)), (17, (.invokestatic 62, 20, 913, 3, 0, 0, 0, mX8_in)), (20, (.ifCond .eq 18, 23, 38, 0, 0, 0, 0, m0)), (23, (.iload_n 3, 24, 0, 3, 0, 0, 0, m0)), (24, (.i2l, 25, 0, 0, 0, 0, 0, m0)), (25, (.ldc2_w 241, 28, 1095, 0, 0, 0, (-1), m0)), (28, (.iload_n 2, 29, 0, 2, 0, 0, 0, m0))]),
  (41, [(29, (.iconst 1, 30, 0, 0, 0, 1, 0, m0)), (30, (.isub, 31, 0, 0, 0, 0, 0, m0)), (31, (.i2l, 32, 0, 0, 0, 0, 0, m0)), (32, (.invokestatic 62, 35, 913, 3, 0, 0, 0, mX8_in)), (35, (.ifCond .ne 6, 38, 41, 0, 0, 0, 0, m0)), (38, (.ldc 66, 40, 916, 0, 0, (-1000000002), 0, m0)), (40, (.ireturn, 41, 0, 0, 0, 0, 0, m0)), (41, (.aload_n 0, 42, 0, 0, 0, 0, 0, m0))]),
  (53, [(42, (.iload_n 1, 43, 0, 1, 0, 0, 0, m0)), (43, (.invokevirtual 243, 46, 1096, 2, 8, 0, 0, mX8_findOwn)), (46, (.aload_n 0, 47, 0, 0, 0, 0, 0, m0)), (47, (.iload_n 1, 48, 0, 1, 0, 0, 0, m0)), (48, (.iload_n 2, 49, 0, 2, 0, 0, 0, m0)), (49, (.invokevirtual 246, 52, 1100, 3, 8, 0, 0, mX8_findPlan)), (52, (.iconst 1, 53, 0, 0, 0, 1, 0, m0)), (53, (.aload_n 0, 54, 0, 0, 0, 0, 0, m0))]),
  (66, [(54, (.getfield 225, 57, 843, 20, 8, 0, 0, m0)), (57, (.ishl, 58, 0, 0, 0, 0, 0, m0)), (58, (.iconst 1, 59, 0, 0, 0, 1, 0, m0)), (59, (.isub, 60, 0, 0, 0, 0, 0, m0)), (60, (.istore 4, 62, 0, 4, 0, 0, 0, m0)), (62, (.iload_n 3, 63, 0, 3, 0, 0, 0, m0)), (63, (.ifCond .ge 11, 66, 74, 0, 0, 0, 0, m0)), (66, (.aload_n 0, 67, 0, 0, 0, 0, 0, m0))]),
  (78, [(67, (.getfield 42, 70, 844, 21, 8, 0, 0, m0)), (70, (.iload 4, 72, 0, 4, 0, 0, 0, m0)), (72, (.iaload, 73, 0, 0, 0, 0, 0, m0)), (73, (.ireturn, 74, 0, 0, 0, 0, 0, m0)), (74, (.iconst 0, 75, 0, 0, 0, 0, 0, m0)), (75, (.istore 5, 77, 0, 5, 0, 0, 0, m0)), (77, (.iconst 0, 78, 0, 0, 0, 0, 0, m0)), (78, (.istore 6, 80, 0, 6, 0, 0, 0, m0))]),
  (92, [(80, (.iload 6, 82, 0, 6, 0, 0, 0, m0)), (82, (.iload_n 3, 83, 0, 3, 0, 0, 0, m0)), (83, (.if_icmp .gt 143, 86, 226, 0, 0, 0, 0, m0)), (86, (.iconst 0, 87, 0, 0, 0, 0, 0, m0)), (87, (.istore 5, 89, 0, 5, 0, 0, 0, m0)), (89, (.iconst 0, 90, 0, 0, 0, 0, 0, m0)), (90, (.istore 7, 92, 0, 7, 0, 0, 0, m0)), (92, (.iload 7, 94, 0, 7, 0, 0, 0, m0))]),
  (107, [(94, (.ifCond .ne 117, 97, 211, 0, 0, 0, 0, m0)), (97, (.iload 5, 99, 0, 5, 0, 0, 0, m0)), (99, (.iload 4, 101, 0, 4, 0, 0, 0, m0)), (101, (.iconst (-1), 102, 0, 0, 0, (-1), 0, m0)), (102, (.ixor, 103, 0, 0, 0, 0, 0, m0)), (103, (.iand, 104, 0, 0, 0, 0, 0, m0)), (104, (.ifCond .eq 7, 107, 111, 0, 0, 0, 0, m0)), (107, (.iconst (-1), 108, 0, 0, 0, (-1), 0, m0))]),
  (122, [(108, (.goto 20, 111, 128, 0, 0, 0, 0, m0)), (111, (.aload_n 0, 112, 0, 0, 0, 0, 0, m0)), (112, (.iload 5, 114, 0, 5, 0, 0, 0, m0)), (114, (.aload_n 0, 115, 0, 0, 0, 0, 0, m0)), (115, (.getfield 7, 118, 823, 0, 8, 0, 0, m0)), (118, (.sipush 177, 121, 0, 0, 0, 177, 0, m0)), (121, (.iaload, 122, 0, 0, 0, 0, 0, m0)), (122, (.iload 6, 124, 0, 6, 0, 0, 0, m0))]),
  (137, [(124, (.iadd, 125, 0, 0, 0, 0, 0, m0)), (125, (.invokevirtual 233, 128, 1105, 3, 8, 0, 0, mX8_inSet)), (128, (.istore 8, 130, 0, 8, 0, 0, 0, m0)), (130, (.iload 8, 132, 0, 8, 0, 0, 0, m0)), (132, (.ifCond .lt 55, 135, 187, 0, 0, 0, 0, m0)), (135, (.aload_n 0, 136, 0, 0, 0, 0, 0, m0)), (136, (.iload_n 1, 137, 0, 1, 0, 0, 0, m0)), (137, (.iload 6, 139, 0, 6, 0, 0, 0, m0))]),
  (154, [(139, (.iload 8, 141, 0, 8, 0, 0, 0, m0)), (141, (.invokevirtual 236, 144, 1112, 4, 8, 0, 0, mX8_hungerBy)), (144, (.aload_n 0, 145, 0, 0, 0, 0, 0, m0)), (145, (.getfield 42, 148, 844, 21, 8, 0, 0, m0)), (148, (.sipush 256, 151, 0, 0, 0, 256, 0, m0)), (151, (.iload 6, 153, 0, 6, 0, 0, 0, m0)), (153, (.iconst 1, 154, 0, 0, 0, 1, 0, m0)), (154, (.iadd, 155, 0, 0, 0, 0, 0, m0))]),
  (164, [(155, (.imul, 156, 0, 0, 0, 0, 0, m0)), (156, (.iload 4, 158, 0, 4, 0, 0, 0, m0)), (158, (.iload 5, 160, 0, 5, 0, 0, 0, m0)), (160, (.iconst (-1), 161, 0, 0, 0, (-1), 0, m0)), (161, (.ixor, 162, 0, 0, 0, 0, 0, m0)), (162, (.iand, 163, 0, 0, 0, 0, 0, m0)), (163, (.iadd, 164, 0, 0, 0, 0, 0, m0)), (164, (.iaload, 165, 0, 0, 0, 0, 0, m0))]),
  (178, [(165, (.iadd, 166, 0, 0, 0, 0, 0, m0)), (166, (.aload_n 0, 167, 0, 0, 0, 0, 0, m0)), (167, (.getfield 42, 170, 844, 21, 8, 0, 0, m0)), (170, (.sipush 256, 173, 0, 0, 0, 256, 0, m0)), (173, (.iload 6, 175, 0, 6, 0, 0, 0, m0)), (175, (.imul, 176, 0, 0, 0, 0, 0, m0)), (176, (.iload 4, 178, 0, 4, 0, 0, 0, m0)), (178, (.iadd, 179, 0, 0, 0, 0, 0, m0))]),
  (192, [(179, (.iaload, 180, 0, 0, 0, 0, 0, m0)), (180, (.if_icmp .ne 7, 183, 187, 0, 0, 0, 0, m0)), (183, (.iconst 1, 184, 0, 0, 0, 1, 0, m0)), (184, (.goto 4, 187, 188, 0, 0, 0, 0, m0)), (187, (.iconst 0, 188, 0, 0, 0, 0, 0, m0)), (188, (.istore 7, 190, 0, 7, 0, 0, 0, m0)), (190, (.iload 5, 192, 0, 5, 0, 0, 0, m0)), (192, (.iload 7, 194, 0, 7, 0, 0, 0, m0))]),
  (208, [(194, (.ifCond .ne 7, 197, 201, 0, 0, 0, 0, m0)), (197, (.iconst 1, 198, 0, 0, 0, 1, 0, m0)), (198, (.goto 4, 201, 202, 0, 0, 0, 0, m0)), (201, (.iconst 0, 202, 0, 0, 0, 0, 0, m0)), (202, (.invokestatic 165, 205, 1009, 1, 0, 0, 0, mX8_one)), (205, (.iadd, 206, 0, 0, 0, 0, 0, m0)), (206, (.istore 5, 208, 0, 5, 0, 0, 0, m0)), (208, (.goto (-116), 211, 92, 0, 0, 0, 0, m0))]),
  (223, [(211, (.iload 4, 213, 0, 4, 0, 0, 0, m0)), (213, (.iload 5, 215, 0, 5, 0, 0, 0, m0)), (215, (.iconst (-1), 216, 0, 0, 0, (-1), 0, m0)), (216, (.ixor, 217, 0, 0, 0, 0, 0, m0)), (217, (.iand, 218, 0, 0, 0, 0, 0, m0)), (218, (.istore 4, 220, 0, 4, 0, 0, 0, m0)), (220, (.iinc 6 1, 223, 0, 6, 0, 1, 0, m0)), (223, (.goto (-143), 226, 80, 0, 0, 0, 0, m0))]),
  (238, [(226, (.iconst 0, 227, 0, 0, 0, 0, 0, m0)), (227, (.istore 6, 229, 0, 6, 0, 0, 0, m0)), (229, (.iconst 0, 230, 0, 0, 0, 0, 0, m0)), (230, (.istore 7, 232, 0, 7, 0, 0, 0, m0)), (232, (.iload 7, 234, 0, 7, 0, 0, 0, m0)), (234, (.aload_n 0, 235, 0, 0, 0, 0, 0, m0)), (235, (.getfield 225, 238, 843, 20, 8, 0, 0, m0)), (238, (.if_icmp .ge 32, 241, 270, 0, 0, 0, 0, m0))]),
  (257, [(241, (.iload 6, 243, 0, 6, 0, 0, 0, m0)), (243, (.iload 5, 245, 0, 5, 0, 0, 0, m0)), (245, (.iload 7, 247, 0, 7, 0, 0, 0, m0)), (247, (.invokestatic 228, 250, 1109, 2, 0, 0, 0, mX8_has)), (250, (.invokestatic 165, 253, 1009, 1, 0, 0, 0, mX8_one)), (253, (.aload_n 0, 254, 0, 0, 0, 0, 0, m0)), (254, (.getfield 39, 257, 842, 19, 8, 0, 0, m0)), (257, (.iload 7, 259, 0, 7, 0, 0, 0, m0))]),
  (272, [(259, (.iaload, 260, 0, 0, 0, 0, 0, m0)), (260, (.ishl, 261, 0, 0, 0, 0, 0, m0)), (261, (.ior, 262, 0, 0, 0, 0, 0, m0)), (262, (.istore 6, 264, 0, 6, 0, 0, 0, m0)), (264, (.iinc 7 1, 267, 0, 7, 0, 1, 0, m0)), (267, (.goto (-35), 270, 232, 0, 0, 0, 0, m0)), (270, (.iload 6, 272, 0, 6, 0, 0, 0, m0)), (272, (.ireturn, 273, 0, 0, 0, 0, 0, m0))])]
theorem kX8_plan : chkC mX8_plan oX8_plan = true := by decide +kernel
theorem qX8_try_ : OkM mX8_try_ := ⟨Gd_in (i := 1128) (by decide +kernel) (by decide +kernel), Gd_in (i := 73) (by decide +kernel) (by decide +kernel), ⟨fun _ => ⟨Gd_in (i := 1127) (by decide +kernel) (by decide +kernel), Gd_in (i := 58) (by decide +kernel) (by decide +kernel)⟩, fun h => absurd h (by decide +kernel)⟩, by decide +kernel, ⟨by decide +kernel, by decide +kernel⟩, rfl, rfl⟩
def oX8_try_ : Cd := [(11, [(0, (.aload_n 0, 1, 0, 0, 0, 0, 0, m0)), (1, (.invokevirtual 205, 4, 1053, 1, 8, 0, 0, mX8_clearHungers)), (4, (.iconst 0, 5, 0, 0, 0, 0, 0, m0)), (5, (.istore_n 2, 6, 0, 2, 0, 0, 0, m0)), (6, (.iload_n 2, 7, 0, 2, 0, 0, 0, m0)), (7, (.iload_n 1, 8, 0, 1, 0, 0, 0, m0)), (8, (.if_icmp .ge 16, 11, 24, 0, 0, 0, 0, m0)), (11, (.aload_n 0, 12, 0, 0, 0, 0, 0, m0))]),
  (24, [(12, (.sipush 200, 15, 0, 0, 0, 200, 0, m0)), (15, (.invokevirtual 208, 18, 1057, 2, 8, 0, 0, mX8_pass)), (18, (.iinc 2 1, 21, 0, 2, 0, 1, 0, m0)), (21, (.goto (-15), 24, 6, 0, 0, 0, 0, m0)), (24, (.return_, 25, 0, 0, 0, 0, 0, m0))])]
theorem kX8_try_ : chkC mX8_try_ oX8_try_ = true := by decide +kernel
theorem qX8_sealing : OkM mX8_sealing := ⟨Gd_in (i := 1119) (by decide +kernel) (by decide +kernel), Gd_in (i := 73) (by decide +kernel) (by decide +kernel), ⟨fun _ => ⟨Gd_in (i := 1117) (by decide +kernel) (by decide +kernel), Gd_in (i := 1118) (by decide +kernel) (by decide +kernel)⟩, fun h => absurd h (by decide +kernel)⟩, by decide +kernel, ⟨by decide +kernel, by decide +kernel⟩, rfl, rfl⟩
def oX8_sealing : Cd := [(12, [(0, (.aload_n 0, 1, 0, 0, 0, 0, 0, m0)), (1, (.iload_n 1, 2, 0, 1, 0, 0, 0, m0)), (2, (.invokevirtual 169, 5, 992, 2, 8, 0, 0, mX8_isHouse)), (5, (.ifCond .ne 6, 8, 11, 0, 0, 0, 0, m0)), (8, (.ldc 173, 10, 996, 0, 0, (-1000000001), 0, m0)), (10, (.ireturn, 11, 0, 0, 0, 0, 0, m0)), (11, (.iload_n 2, 12, 0, 2, 0, 0, 0, m0)), (12, (.i2l, 13, 0, 0, 0, 0, 0, m0))]),
  (27, [(13, (.lconst 1, 14, 0, 0, 0, 0, 1, m0)), (14, (.ldc2_w 250, 17, 1120, 0, 0, 0, 60, m0)), (17, (.invokestatic 62, 20, 913, 3, 0, 0, 0, mX8_in)), (20, (.ifCond .ne 6, 23, 26, 0, 0, 0, 0, m0)), (23, (.ldc 66, 25, 916, 0, 0, (-1000000002), 0, m0)), (25, (.ireturn, 26, 0, 0, 0, 0, 0, m0)), (26, (.iconst 0, 27, 0, 0, 0, 0, 0, m0)), (27, (.istore_n 3, 28, 0, 3, 0, 0, 0, m0))]),
  (42, [(28, (.ldc 232, 30, 1104, 0, 0, 99999999, 0, m0)), (30, (.istore 4, 32, 0, 4, 0, 0, 0, m0)), (32, (.iconst 0, 33, 0, 0, 0, 0, 0, m0)), (33, (.istore 5, 35, 0, 5, 0, 0, 0, m0)), (35, (.iload 5, 37, 0, 5, 0, 0, 0, m0)), (37, (.bipush 20, 39, 0, 0, 0, 20, 0, m0)), (39, (.if_icmp .gt 56, 42, 95, 0, 0, 0, 0, m0)), (42, (.aload_n 0, 43, 0, 0, 0, 0, 0, m0))]),
  (58, [(43, (.iconst 0, 44, 0, 0, 0, 0, 0, m0)), (44, (.sipush 200, 47, 0, 0, 0, 200, 0, m0)), (47, (.invokevirtual 252, 50, 1121, 3, 8, 0, 0, mX8_copy)), (50, (.aload_n 0, 51, 0, 0, 0, 0, 0, m0)), (51, (.getfield 7, 54, 823, 0, 8, 0, 0, m0)), (54, (.sipush 368, 57, 0, 0, 0, 368, 0, m0)), (57, (.iload_n 1, 58, 0, 1, 0, 0, 0, m0)), (58, (.iadd, 59, 0, 0, 0, 0, 0, m0))]),
  (71, [(59, (.iload 5, 61, 0, 5, 0, 0, 0, m0)), (61, (.iastore, 62, 0, 0, 0, 0, 0, m0)), (62, (.aload_n 0, 63, 0, 0, 0, 0, 0, m0)), (63, (.iload_n 2, 64, 0, 2, 0, 0, 0, m0)), (64, (.invokevirtual 255, 67, 1125, 2, 8, 0, 0, mX8_try_)), (67, (.aload_n 0, 68, 0, 0, 0, 0, 0, m0)), (68, (.getfield 36, 71, 841, 18, 8, 0, 0, m0)), (71, (.iload_n 1, 72, 0, 1, 0, 0, 0, m0))]),
  (85, [(72, (.iaload, 73, 0, 0, 0, 0, 0, m0)), (73, (.iload 4, 75, 0, 4, 0, 0, 0, m0)), (75, (.if_icmp .ge 14, 78, 89, 0, 0, 0, 0, m0)), (78, (.iload 5, 80, 0, 5, 0, 0, 0, m0)), (80, (.istore_n 3, 81, 0, 3, 0, 0, 0, m0)), (81, (.aload_n 0, 82, 0, 0, 0, 0, 0, m0)), (82, (.getfield 36, 85, 841, 18, 8, 0, 0, m0)), (85, (.iload_n 1, 86, 0, 1, 0, 0, 0, m0))]),
  (96, [(86, (.iaload, 87, 0, 0, 0, 0, 0, m0)), (87, (.istore 4, 89, 0, 4, 0, 0, 0, m0)), (89, (.iinc 5 1, 92, 0, 5, 0, 1, 0, m0)), (92, (.goto (-57), 95, 35, 0, 0, 0, 0, m0)), (95, (.iload_n 3, 96, 0, 3, 0, 0, 0, m0)), (96, (.ireturn, 97, 0, 0, 0, 0, 0, m0))])]
theorem kX8_sealing : chkC mX8_sealing oX8_sealing = true := by decide +kernel
theorem qX8_changes : OkM mX8_changes := ⟨Gd_in (i := 1140) (by decide +kernel) (by decide +kernel), Gd_in (i := 73) (by decide +kernel) (by decide +kernel), ⟨fun _ => ⟨Gd_in (i := 1139) (by decide +kernel) (by decide +kernel), Gd_in (i := 60) (by decide +kernel) (by decide +kernel)⟩, fun h => absurd h (by decide +kernel)⟩, by decide +kernel, ⟨by decide +kernel, by decide +kernel⟩, rfl, rfl⟩
def oX8_changes : Cd := [(11, [(0, (.aload_n 0, 1, 0, 0, 0, 0, 0, m0)), (1, (.getfield 7, 4, 823, 0, 8, 0, 0, m0)), (4, (.bipush 24, 6, 0, 0, 0, 24, 0, m0)), (6, (.iload_n 1, 7, 0, 1, 0, 0, 0, m0)), (7, (.iadd, 8, 0, 0, 0, 0, 0, m0)), (8, (.iaload, 9, 0, 0, 0, 0, 0, m0)), (9, (.istore 4, 11, 0, 4, 0, 0, 0, m0)), (11, (.aload_n 0, 12, 0, 0, 0, 0, 0, m0))]),
  (24, [(12, (.getfield 7, 15, 823, 0, 8, 0, 0, m0)), (15, (.bipush 24, 17, 0, 0, 0, 24, 0, m0)), (17, (.iload_n 2, 18, 0, 2, 0, 0, 0, m0)), (18, (.iadd, 19, 0, 0, 0, 0, 0, m0)), (19, (.iaload, 20, 0, 0, 0, 0, 0, m0)), (20, (.istore 5, 22, 0, 5, 0, 0, 0, m0)), (22, (.iload 4, 24, 0, 4, 0, 0, 0, m0)), (24, (.iload 5, 26, 0, 5, 0, 0, 0, m0))]),
  (39, [(26, (.if_icmp .eq 31, 29, 57, 0, 0, 0, 0, m0)), (29, (.aload_n 0, 30, 0, 0, 0, 0, 0, m0)), (30, (.getfield 7, 33, 823, 0, 8, 0, 0, m0)), (33, (.sipush 144, 36, 0, 0, 0, 144, 0, m0)), (36, (.iload_n 1, 37, 0, 1, 0, 0, 0, m0)), (37, (.iadd, 38, 0, 0, 0, 0, 0, m0)), (38, (.iaload, 39, 0, 0, 0, 0, 0, m0)), (39, (.iconst 1, 40, 0, 0, 0, 1, 0, m0))]),
  (53, [(40, (.if_icmp .eq 17, 43, 57, 0, 0, 0, 0, m0)), (43, (.aload_n 0, 44, 0, 0, 0, 0, 0, m0)), (44, (.getfield 7, 47, 823, 0, 8, 0, 0, m0)), (47, (.sipush 144, 50, 0, 0, 0, 144, 0, m0)), (50, (.iload_n 2, 51, 0, 2, 0, 0, 0, m0)), (51, (.iadd, 52, 0, 0, 0, 0, 0, m0)), (52, (.iaload, 53, 0, 0, 0, 0, 0, m0)), (53, (.iconst 1, 54, 0, 0, 0, 1, 0, m0))]),
  (67, [(54, (.if_icmp .ne 5, 57, 59, 0, 0, 0, 0, m0)), (57, (.iconst 0, 58, 0, 0, 0, 0, 0, m0)), (58, (.ireturn, 59, 0, 0, 0, 0, 0, m0)), (59, (.aload_n 0, 60, 0, 0, 0, 0, 0, m0)), (60, (.iconst 0, 61, 0, 0, 0, 0, 0, m0)), (61, (.sipush 200, 64, 0, 0, 0, 200, 0, m0)), (64, (.invokevirtual 252, 67, 1121, 3, 8, 0, 0, mX8_copy)), (67, (.aload_n 0, 68, 0, 0, 0, 0, 0, m0))]),
  (81, [(68, (.iload_n 3, 69, 0, 3, 0, 0, 0, m0)), (69, (.invokevirtual 255, 72, 1125, 2, 8, 0, 0, mX8_try_)), (72, (.aload_n 0, 73, 0, 0, 0, 0, 0, m0)), (73, (.getfield 36, 76, 841, 18, 8, 0, 0, m0)), (76, (.iload 4, 78, 0, 4, 0, 0, 0, m0)), (78, (.iaload, 79, 0, 0, 0, 0, 0, m0)), (79, (.istore 6, 81, 0, 6, 0, 0, 0, m0)), (81, (.aload_n 0, 82, 0, 0, 0, 0, 0, m0))]),
  (95, [(82, (.getfield 36, 85, 841, 18, 8, 0, 0, m0)), (85, (.iload 5, 87, 0, 5, 0, 0, 0, m0)), (87, (.iaload, 88, 0, 0, 0, 0, 0, m0)), (88, (.istore 7, 90, 0, 7, 0, 0, 0, m0)), (90, (.aload_n 0, 91, 0, 0, 0, 0, 0, m0)), (91, (.iconst 0, 92, 0, 0, 0, 0, 0, m0)), (92, (.sipush 200, 95, 0, 0, 0, 200, 0, m0)), (95, (.invokevirtual 252, 98, 1121, 3, 8, 0, 0, mX8_copy))]),
  (110, [(98, (.aload_n 0, 99, 0, 0, 0, 0, 0, m0)), (99, (.getfield 7, 102, 823, 0, 8, 0, 0, m0)), (102, (.sipush 224, 105, 0, 0, 0, 224, 0, m0)), (105, (.iload_n 1, 106, 0, 1, 0, 0, 0, m0)), (106, (.iadd, 107, 0, 0, 0, 0, 0, m0)), (107, (.iload 5, 109, 0, 5, 0, 0, 0, m0)), (109, (.iastore, 110, 0, 0, 0, 0, 0, m0)), (110, (.aload_n 0, 111, 0, 0, 0, 0, 0, m0))]),
  (123, [(111, (.getfield 7, 114, 823, 0, 8, 0, 0, m0)), (114, (.sipush 224, 117, 0, 0, 0, 224, 0, m0)), (117, (.iload_n 2, 118, 0, 2, 0, 0, 0, m0)), (118, (.iadd, 119, 0, 0, 0, 0, 0, m0)), (119, (.iload 4, 121, 0, 4, 0, 0, 0, m0)), (121, (.iastore, 122, 0, 0, 0, 0, 0, m0)), (122, (.aload_n 0, 123, 0, 0, 0, 0, 0, m0)), (123, (.iload_n 3, 124, 0, 3, 0, 0, 0, m0))]),
  (139, [(124, (.invokevirtual 255, 127, 1125, 2, 8, 0, 0, mX8_try_)), (127, (.aload_n 0, 128, 0, 0, 0, 0, 0, m0)), (128, (.getfield 36, 131, 841, 18, 8, 0, 0, m0)), (131, (.iload 4, 133, 0, 4, 0, 0, 0, m0)), (133, (.iaload, 134, 0, 0, 0, 0, 0, m0)), (134, (.iload 6, 136, 0, 6, 0, 0, 0, m0)), (136, (.if_icmp .ge 19, 139, 155, 0, 0, 0, 0, m0)), (139, (.aload_n 0, 140, 0, 0, 0, 0, 0, m0))]),
  (155, [(140, (.getfield 36, 143, 841, 18, 8, 0, 0, m0)), (143, (.iload 5, 145, 0, 5, 0, 0, 0, m0)), (145, (.iaload, 146, 0, 0, 0, 0, 0, m0)), (146, (.iload 7, 148, 0, 7, 0, 0, 0, m0)), (148, (.if_icmp .ge 7, 151, 155, 0, 0, 0, 0, m0)), (151, (.iconst 1, 152, 0, 0, 0, 1, 0, m0)), (152, (.goto 4, 155, 156, 0, 0, 0, 0, m0)), (155, (.iconst 0, 156, 0, 0, 0, 0, 0, m0))]),
  (168, [(156, (.istore 8, 158, 0, 8, 0, 0, 0, m0)), (158, (.aload_n 0, 159, 0, 0, 0, 0, 0, m0)), (159, (.getfield 7, 162, 823, 0, 8, 0, 0, m0)), (162, (.bipush 24, 164, 0, 0, 0, 24, 0, m0)), (164, (.iload_n 1, 165, 0, 1, 0, 0, 0, m0)), (165, (.iadd, 166, 0, 0, 0, 0, 0, m0)), (166, (.iload 8, 168, 0, 8, 0, 0, 0, m0)), (168, (.ifCond .eq 8, 171, 176, 0, 0, 0, 0, m0))]),
  (185, [(171, (.iload 5, 173, 0, 5, 0, 0, 0, m0)), (173, (.goto 5, 176, 178, 0, 0, 0, 0, m0)), (176, (.iload 4, 178, 0, 4, 0, 0, 0, m0)), (178, (.iastore, 179, 0, 0, 0, 0, 0, m0)), (179, (.aload_n 0, 180, 0, 0, 0, 0, 0, m0)), (180, (.getfield 7, 183, 823, 0, 8, 0, 0, m0)), (183, (.bipush 24, 185, 0, 0, 0, 24, 0, m0)), (185, (.iload_n 2, 186, 0, 2, 0, 0, 0, m0))]),
  (200, [(186, (.iadd, 187, 0, 0, 0, 0, 0, m0)), (187, (.iload 8, 189, 0, 8, 0, 0, 0, m0)), (189, (.ifCond .eq 8, 192, 197, 0, 0, 0, 0, m0)), (192, (.iload 4, 194, 0, 4, 0, 0, 0, m0)), (194, (.goto 5, 197, 199, 0, 0, 0, 0, m0)), (197, (.iload 5, 199, 0, 5, 0, 0, 0, m0)), (199, (.iastore, 200, 0, 0, 0, 0, 0, m0)), (200, (.iload 8, 202, 0, 8, 0, 0, 0, m0))]),
  (202, [(202, (.ireturn, 203, 0, 0, 0, 0, 0, m0))])]
theorem kX8_changes : chkC mX8_changes oX8_changes = true := by decide +kernel
theorem qX8_changeFirst : OkM mX8_changeFirst := ⟨Gd_in (i := 1136) (by decide +kernel) (by decide +kernel), Gd_in (i := 73) (by decide +kernel) (by decide +kernel), ⟨fun _ => ⟨Gd_in (i := 1135) (by decide +kernel) (by decide +kernel), Gd_in (i := 59) (by decide +kernel) (by decide +kernel)⟩, fun h => absurd h (by decide +kernel)⟩, by decide +kernel, ⟨by decide +kernel, by decide +kernel⟩, rfl, rfl⟩
def oX8_changeFirst : Cd := [(11, [(0, (.iconst 0, 1, 0, 0, 0, 0, 0, m0)), (1, (.istore_n 2, 2, 0, 2, 0, 0, 0, m0)), (2, (.iload_n 2, 3, 0, 2, 0, 0, 0, m0)), (3, (.aload_n 0, 4, 0, 0, 0, 0, 0, m0)), (4, (.getfield 7, 7, 823, 0, 8, 0, 0, m0)), (7, (.sipush 176, 10, 0, 0, 0, 176, 0, m0)), (10, (.iaload, 11, 0, 0, 0, 0, 0, m0)), (11, (.if_icmp .ge 43, 14, 54, 0, 0, 0, 0, m0))]),
  (23, [(14, (.iload_n 2, 15, 0, 2, 0, 0, 0, m0)), (15, (.iconst 1, 16, 0, 0, 0, 1, 0, m0)), (16, (.iadd, 17, 0, 0, 0, 0, 0, m0)), (17, (.istore_n 3, 18, 0, 3, 0, 0, 0, m0)), (18, (.iload_n 3, 19, 0, 3, 0, 0, 0, m0)), (19, (.aload_n 0, 20, 0, 0, 0, 0, 0, m0)), (20, (.getfield 7, 23, 823, 0, 8, 0, 0, m0)), (23, (.sipush 176, 26, 0, 0, 0, 176, 0, m0))]),
  (37, [(26, (.iaload, 27, 0, 0, 0, 0, 0, m0)), (27, (.if_icmp .ge 21, 30, 48, 0, 0, 0, 0, m0)), (30, (.aload_n 0, 31, 0, 0, 0, 0, 0, m0)), (31, (.iload_n 2, 32, 0, 2, 0, 0, 0, m0)), (32, (.iload_n 3, 33, 0, 3, 0, 0, 0, m0)), (33, (.iload_n 1, 34, 0, 1, 0, 0, 0, m0)), (34, (.invokevirtual 258, 37, 1137, 4, 8, 0, 0, mX8_changes)), (37, (.ifCond .eq 5, 40, 42, 0, 0, 0, 0, m0))]),
  (55, [(40, (.iconst 1, 41, 0, 0, 0, 1, 0, m0)), (41, (.ireturn, 42, 0, 0, 0, 0, 0, m0)), (42, (.iinc 3 1, 45, 0, 3, 0, 1, 0, m0)), (45, (.goto (-27), 48, 18, 0, 0, 0, 0, m0)), (48, (.iinc 2 1, 51, 0, 2, 0, 1, 0, m0)), (51, (.goto (-49), 54, 2, 0, 0, 0, 0, m0)), (54, (.iconst 0, 55, 0, 0, 0, 0, 0, m0)), (55, (.ireturn, 56, 0, 0, 0, 0, 0, m0))])]
theorem kX8_changeFirst : chkC mX8_changeFirst oX8_changeFirst = true := by decide +kernel
theorem qX8_change : OkM mX8_change := ⟨Gd_in (i := 1132) (by decide +kernel) (by decide +kernel), Gd_in (i := 73) (by decide +kernel) (by decide +kernel), ⟨fun _ => ⟨Gd_in (i := 1130) (by decide +kernel) (by decide +kernel), Gd_in (i := 1131) (by decide +kernel) (by decide +kernel)⟩, fun h => absurd h (by decide +kernel)⟩, by decide +kernel, ⟨by decide +kernel, by decide +kernel⟩, rfl, rfl⟩
def oX8_change : Cd := [(14, [(0, (.iload_n 1, 1, 0, 1, 0, 0, 0, m0)), (1, (.i2l, 2, 0, 0, 0, 0, 0, m0)), (2, (.lconst 1, 3, 0, 0, 0, 0, 1, m0)), (3, (.ldc2_w 187, 6, 1033, 0, 0, 0, 20, m0)), (6, (.invokestatic 62, 9, 913, 3, 0, 0, 0, mX8_in)), (9, (.ifCond .ne 6, 12, 15, 0, 0, 0, 0, m0)), (12, (.ldc 66, 14, 916, 0, 0, (-1000000002), 0, m0)), (14, (.ireturn, 15, 0, 0, 0, 0, 0, m0))]),
  (25, [(15, (.iconst 0, 16, 0, 0, 0, 0, 0, m0)), (16, (.istore_n 2, 17, 0, 2, 0, 0, 0, m0)), (17, (.iload_n 2, 18, 0, 2, 0, 0, 0, m0)), (18, (.bipush 20, 20, 0, 0, 0, 20, 0, m0)), (20, (.if_icmp .ge 17, 23, 37, 0, 0, 0, 0, m0)), (23, (.aload_n 0, 24, 0, 0, 0, 0, 0, m0)), (24, (.iload_n 1, 25, 0, 1, 0, 0, 0, m0)), (25, (.invokevirtual 261, 28, 1133, 2, 8, 0, 0, mX8_changeFirst))]),
  (38, [(28, (.ifCond .eq 9, 31, 37, 0, 0, 0, 0, m0)), (31, (.iinc 2 1, 34, 0, 2, 0, 1, 0, m0)), (34, (.goto (-17), 37, 17, 0, 0, 0, 0, m0)), (37, (.iload_n 2, 38, 0, 2, 0, 0, 0, m0)), (38, (.ireturn, 39, 0, 0, 0, 0, 0, m0))])]
theorem kX8_change : chkC mX8_change oX8_change = true := by decide +kernel
theorem qX8_other : OkM mX8_other := ⟨Gd_in (i := 1152) (by decide +kernel) (by decide +kernel), Gd_in (i := 73) (by decide +kernel) (by decide +kernel), ⟨fun _ => ⟨Gd_in (i := 1151) (by decide +kernel) (by decide +kernel), Gd_in (i := 62) (by decide +kernel) (by decide +kernel)⟩, fun h => absurd h (by decide +kernel)⟩, by decide +kernel, ⟨by decide +kernel, by decide +kernel⟩, rfl, rfl⟩
def oX8_other : Cd := [(11, [(0, (.iload_n 2, 1, 0, 2, 0, 0, 0, m0)), (1, (.iload_n 1, 2, 0, 1, 0, 0, 0, m0)), (2, (.if_icmp .ge 7, 5, 9, 0, 0, 0, 0, m0)), (5, (.iload_n 2, 6, 0, 2, 0, 0, 0, m0)), (6, (.goto 6, 9, 12, 0, 0, 0, 0, m0)), (9, (.iload_n 2, 10, 0, 2, 0, 0, 0, m0)), (10, (.iconst 1, 11, 0, 0, 0, 1, 0, m0)), (11, (.iadd, 12, 0, 0, 0, 0, 0, m0))]),
  (12, [(12, (.ireturn, 13, 0, 0, 0, 0, 0, m0))])]
theorem kX8_other : chkC mX8_other oX8_other = true := by decide +kernel
theorem qX8_offBy : OkM mX8_offBy := ⟨Gd_in (i := 1148) (by decide +kernel) (by decide +kernel), Gd_in (i := 73) (by decide +kernel) (by decide +kernel), ⟨fun _ => ⟨Gd_in (i := 1147) (by decide +kernel) (by decide +kernel), Gd_in (i := 61) (by decide +kernel) (by decide +kernel)⟩, fun h => absurd h (by decide +kernel)⟩, by decide +kernel, ⟨by decide +kernel, by decide +kernel⟩, rfl, rfl⟩
def oX8_offBy : Cd := [(11, [(0, (.iconst 0, 1, 0, 0, 0, 0, 0, m0)), (1, (.istore_n 3, 2, 0, 3, 0, 0, 0, m0)), (2, (.iload_n 3, 3, 0, 3, 0, 0, 0, m0)), (3, (.iconst 4, 4, 0, 0, 0, 4, 0, m0)), (4, (.if_icmp .ge 16, 7, 20, 0, 0, 0, 0, m0)), (7, (.aload_n 0, 8, 0, 0, 0, 0, 0, m0)), (8, (.getfield 36, 11, 841, 18, 8, 0, 0, m0)), (11, (.iload_n 3, 12, 0, 3, 0, 0, 0, m0))]),
  (23, [(12, (.iconst 0, 13, 0, 0, 0, 0, 0, m0)), (13, (.iastore, 14, 0, 0, 0, 0, 0, m0)), (14, (.iinc 3 1, 17, 0, 3, 0, 1, 0, m0)), (17, (.goto (-15), 20, 2, 0, 0, 0, 0, m0)), (20, (.iload_n 2, 21, 0, 2, 0, 0, 0, m0)), (21, (.istore_n 3, 22, 0, 3, 0, 0, 0, m0)), (22, (.aload_n 0, 23, 0, 0, 0, 0, 0, m0)), (23, (.getfield 225, 26, 843, 20, 8, 0, 0, m0))]),
  (39, [(26, (.iconst 1, 27, 0, 0, 0, 1, 0, m0)), (27, (.isub, 28, 0, 0, 0, 0, 0, m0)), (28, (.istore 4, 30, 0, 4, 0, 0, 0, m0)), (30, (.iload 4, 32, 0, 4, 0, 0, 0, m0)), (32, (.ifCond .lt 54, 35, 86, 0, 0, 0, 0, m0)), (35, (.aload_n 0, 36, 0, 0, 0, 0, 0, m0)), (36, (.getfield 36, 39, 841, 18, 8, 0, 0, m0)), (39, (.aload_n 0, 40, 0, 0, 0, 0, 0, m0))]),
  (49, [(40, (.iload_n 1, 41, 0, 1, 0, 0, 0, m0)), (41, (.iload_n 3, 42, 0, 3, 0, 0, 0, m0)), (42, (.aload_n 0, 43, 0, 0, 0, 0, 0, m0)), (43, (.getfield 138, 46, 830, 7, 8, 0, 0, m0)), (46, (.iconst 1, 47, 0, 0, 0, 1, 0, m0)), (47, (.isub, 48, 0, 0, 0, 0, 0, m0)), (48, (.irem, 49, 0, 0, 0, 0, 0, m0)), (49, (.invokevirtual 264, 52, 1149, 3, 8, 0, 0, mX8_other))]),
  (64, [(52, (.dup2, 53, 0, 0, 0, 0, 0, m0)), (53, (.iaload, 54, 0, 0, 0, 0, 0, m0)), (54, (.aload_n 0, 55, 0, 0, 0, 0, 0, m0)), (55, (.getfield 7, 58, 823, 0, 8, 0, 0, m0)), (58, (.bipush 72, 60, 0, 0, 0, 72, 0, m0)), (60, (.aload_n 0, 61, 0, 0, 0, 0, 0, m0)), (61, (.getfield 39, 64, 842, 19, 8, 0, 0, m0)), (64, (.iload 4, 66, 0, 4, 0, 0, 0, m0))]),
  (73, [(66, (.iaload, 67, 0, 0, 0, 0, 0, m0)), (67, (.iadd, 68, 0, 0, 0, 0, 0, m0)), (68, (.iaload, 69, 0, 0, 0, 0, 0, m0)), (69, (.iadd, 70, 0, 0, 0, 0, 0, m0)), (70, (.iastore, 71, 0, 0, 0, 0, 0, m0)), (71, (.iload_n 3, 72, 0, 3, 0, 0, 0, m0)), (72, (.aload_n 0, 73, 0, 0, 0, 0, 0, m0)), (73, (.getfield 138, 76, 830, 7, 8, 0, 0, m0))]),
  (88, [(76, (.iconst 1, 77, 0, 0, 0, 1, 0, m0)), (77, (.isub, 78, 0, 0, 0, 0, 0, m0)), (78, (.idiv, 79, 0, 0, 0, 0, 0, m0)), (79, (.istore_n 3, 80, 0, 3, 0, 0, 0, m0)), (80, (.iinc 4 (-1), 83, 0, 4, 0, (-1), 0, m0)), (83, (.goto (-53), 86, 30, 0, 0, 0, 0, m0)), (86, (.ldc 232, 88, 1104, 0, 0, 99999999, 0, m0)), (88, (.istore 4, 90, 0, 4, 0, 0, 0, m0))]),
  (102, [(90, (.iconst 0, 91, 0, 0, 0, 0, 0, m0)), (91, (.istore 5, 93, 0, 5, 0, 0, 0, m0)), (93, (.iconst 0, 94, 0, 0, 0, 0, 0, m0)), (94, (.istore 6, 96, 0, 6, 0, 0, 0, m0)), (96, (.iload 6, 98, 0, 6, 0, 0, 0, m0)), (98, (.aload_n 0, 99, 0, 0, 0, 0, 0, m0)), (99, (.getfield 138, 102, 830, 7, 8, 0, 0, m0)), (102, (.if_icmp .ge 73, 105, 175, 0, 0, 0, 0, m0))]),
  (118, [(105, (.iload 6, 107, 0, 6, 0, 0, 0, m0)), (107, (.iload_n 1, 108, 0, 1, 0, 0, 0, m0)), (108, (.if_icmp .eq 25, 111, 133, 0, 0, 0, 0, m0)), (111, (.aload_n 0, 112, 0, 0, 0, 0, 0, m0)), (112, (.getfield 36, 115, 841, 18, 8, 0, 0, m0)), (115, (.iload 6, 117, 0, 6, 0, 0, 0, m0)), (117, (.iaload, 118, 0, 0, 0, 0, 0, m0)), (118, (.iload 4, 120, 0, 4, 0, 0, 0, m0))]),
  (135, [(120, (.if_icmp .ge 13, 123, 133, 0, 0, 0, 0, m0)), (123, (.aload_n 0, 124, 0, 0, 0, 0, 0, m0)), (124, (.getfield 36, 127, 841, 18, 8, 0, 0, m0)), (127, (.iload 6, 129, 0, 6, 0, 0, 0, m0)), (129, (.iaload, 130, 0, 0, 0, 0, 0, m0)), (130, (.goto 5, 133, 135, 0, 0, 0, 0, m0)), (133, (.iload 4, 135, 0, 4, 0, 0, 0, m0)), (135, (.istore 4, 137, 0, 4, 0, 0, 0, m0))]),
  (150, [(137, (.iload 6, 139, 0, 6, 0, 0, 0, m0)), (139, (.iload_n 1, 140, 0, 1, 0, 0, 0, m0)), (140, (.if_icmp .eq 25, 143, 165, 0, 0, 0, 0, m0)), (143, (.aload_n 0, 144, 0, 0, 0, 0, 0, m0)), (144, (.getfield 36, 147, 841, 18, 8, 0, 0, m0)), (147, (.iload 6, 149, 0, 6, 0, 0, 0, m0)), (149, (.iaload, 150, 0, 0, 0, 0, 0, m0)), (150, (.iload 5, 152, 0, 5, 0, 0, 0, m0))]),
  (167, [(152, (.if_icmp .le 13, 155, 165, 0, 0, 0, 0, m0)), (155, (.aload_n 0, 156, 0, 0, 0, 0, 0, m0)), (156, (.getfield 36, 159, 841, 18, 8, 0, 0, m0)), (159, (.iload 6, 161, 0, 6, 0, 0, 0, m0)), (161, (.iaload, 162, 0, 0, 0, 0, 0, m0)), (162, (.goto 5, 165, 167, 0, 0, 0, 0, m0)), (165, (.iload 5, 167, 0, 5, 0, 0, 0, m0)), (167, (.istore 5, 169, 0, 5, 0, 0, 0, m0))]),
  (180, [(169, (.iinc 6 1, 172, 0, 6, 0, 1, 0, m0)), (172, (.goto (-76), 175, 96, 0, 0, 0, 0, m0)), (175, (.iload 5, 177, 0, 5, 0, 0, 0, m0)), (177, (.iload 4, 179, 0, 4, 0, 0, 0, m0)), (179, (.isub, 180, 0, 0, 0, 0, 0, m0)), (180, (.ireturn, 181, 0, 0, 0, 0, 0, m0))])]
theorem kX8_offBy : chkC mX8_offBy oX8_offBy = true := by decide +kernel
theorem qX8_bequest : OkM mX8_bequest := ⟨Gd_in (i := 1144) (by decide +kernel) (by decide +kernel), Gd_in (i := 73) (by decide +kernel) (by decide +kernel), ⟨fun _ => ⟨Gd_in (i := 1142) (by decide +kernel) (by decide +kernel), Gd_in (i := 1143) (by decide +kernel) (by decide +kernel)⟩, fun h => absurd h (by decide +kernel)⟩, by decide +kernel, ⟨by decide +kernel, by decide +kernel⟩, rfl, rfl⟩
def oX8_bequest : Cd := [(13, [(0, (.aload_n 0, 1, 0, 0, 0, 0, 0, m0)), (1, (.iload_n 1, 2, 0, 1, 0, 0, 0, m0)), (2, (.invokevirtual 169, 5, 992, 2, 8, 0, 0, mX8_isHouse)), (5, (.ifCond .eq 16, 8, 21, 0, 0, 0, 0, m0)), (8, (.iload_n 2, 9, 0, 2, 0, 0, 0, m0)), (9, (.iconst (-1), 10, 0, 0, 0, (-1), 0, m0)), (10, (.if_icmp .eq 14, 13, 24, 0, 0, 0, 0, m0)), (13, (.aload_n 0, 14, 0, 0, 0, 0, 0, m0))]),
  (28, [(14, (.iload_n 2, 15, 0, 2, 0, 0, 0, m0)), (15, (.invokevirtual 178, 18, 1016, 2, 8, 0, 0, mX8_isJar)), (18, (.ifCond .ne 6, 21, 24, 0, 0, 0, 0, m0)), (21, (.ldc 173, 23, 996, 0, 0, (-1000000001), 0, m0)), (23, (.ireturn, 24, 0, 0, 0, 0, 0, m0)), (24, (.aload_n 0, 25, 0, 0, 0, 0, 0, m0)), (25, (.getfield 138, 28, 830, 7, 8, 0, 0, m0)), (28, (.iconst 1, 29, 0, 0, 0, 1, 0, m0))]),
  (40, [(29, (.if_icmp .ne 5, 32, 34, 0, 0, 0, 0, m0)), (32, (.iconst (-1), 33, 0, 0, 0, (-1), 0, m0)), (33, (.ireturn, 34, 0, 0, 0, 0, 0, m0)), (34, (.aload_n 0, 35, 0, 0, 0, 0, 0, m0)), (35, (.iload_n 1, 36, 0, 1, 0, 0, 0, m0)), (36, (.invokevirtual 243, 39, 1096, 2, 8, 0, 0, mX8_findOwn)), (39, (.iconst 1, 40, 0, 0, 0, 1, 0, m0)), (40, (.istore_n 3, 41, 0, 3, 0, 0, 0, m0))]),
  (54, [(41, (.iconst 0, 42, 0, 0, 0, 0, 0, m0)), (42, (.istore 4, 44, 0, 4, 0, 0, 0, m0)), (44, (.iload 4, 46, 0, 4, 0, 0, 0, m0)), (46, (.aload_n 0, 47, 0, 0, 0, 0, 0, m0)), (47, (.getfield 225, 50, 843, 20, 8, 0, 0, m0)), (50, (.if_icmp .ge 18, 53, 68, 0, 0, 0, 0, m0)), (53, (.iload_n 3, 54, 0, 3, 0, 0, 0, m0)), (54, (.aload_n 0, 55, 0, 0, 0, 0, 0, m0))]),
  (68, [(55, (.getfield 138, 58, 830, 7, 8, 0, 0, m0)), (58, (.iconst 1, 59, 0, 0, 0, 1, 0, m0)), (59, (.isub, 60, 0, 0, 0, 0, 0, m0)), (60, (.imul, 61, 0, 0, 0, 0, 0, m0)), (61, (.istore_n 3, 62, 0, 3, 0, 0, 0, m0)), (62, (.iinc 4 1, 65, 0, 4, 0, 1, 0, m0)), (65, (.goto (-21), 68, 44, 0, 0, 0, 0, m0)), (68, (.iconst 0, 69, 0, 0, 0, 0, 0, m0))]),
  (81, [(69, (.istore 4, 71, 0, 4, 0, 0, 0, m0)), (71, (.ldc 232, 73, 1104, 0, 0, 99999999, 0, m0)), (73, (.istore 5, 75, 0, 5, 0, 0, 0, m0)), (75, (.iconst 0, 76, 0, 0, 0, 0, 0, m0)), (76, (.istore 6, 78, 0, 6, 0, 0, 0, m0)), (78, (.iload 6, 80, 0, 6, 0, 0, 0, m0)), (80, (.iload_n 3, 81, 0, 3, 0, 0, 0, m0)), (81, (.if_icmp .ge 33, 84, 114, 0, 0, 0, 0, m0))]),
  (97, [(84, (.aload_n 0, 85, 0, 0, 0, 0, 0, m0)), (85, (.iload_n 1, 86, 0, 1, 0, 0, 0, m0)), (86, (.iload 6, 88, 0, 6, 0, 0, 0, m0)), (88, (.invokevirtual 267, 91, 1145, 3, 8, 0, 0, mX8_offBy)), (91, (.istore 7, 93, 0, 7, 0, 0, 0, m0)), (93, (.iload 7, 95, 0, 7, 0, 0, 0, m0)), (95, (.iload 5, 97, 0, 5, 0, 0, 0, m0)), (97, (.if_icmp .ge 11, 100, 108, 0, 0, 0, 0, m0))]),
  (115, [(100, (.iload 6, 102, 0, 6, 0, 0, 0, m0)), (102, (.istore 4, 104, 0, 4, 0, 0, 0, m0)), (104, (.iload 7, 106, 0, 7, 0, 0, 0, m0)), (106, (.istore 5, 108, 0, 5, 0, 0, 0, m0)), (108, (.iinc 6 1, 111, 0, 6, 0, 1, 0, m0)), (111, (.goto (-33), 114, 78, 0, 0, 0, 0, m0)), (114, (.iload_n 2, 115, 0, 2, 0, 0, 0, m0)), (115, (.ifCond .ge 6, 118, 121, 0, 0, 0, 0, m0))]),
  (130, [(118, (.iload 5, 120, 0, 5, 0, 0, 0, m0)), (120, (.ireturn, 121, 0, 0, 0, 0, 0, m0)), (121, (.iload 4, 123, 0, 4, 0, 0, 0, m0)), (123, (.istore 6, 125, 0, 6, 0, 0, 0, m0)), (125, (.aload_n 0, 126, 0, 0, 0, 0, 0, m0)), (126, (.getfield 225, 129, 843, 20, 8, 0, 0, m0)), (129, (.iconst 1, 130, 0, 0, 0, 1, 0, m0)), (130, (.isub, 131, 0, 0, 0, 0, 0, m0))]),
  (145, [(131, (.istore 7, 133, 0, 7, 0, 0, 0, m0)), (133, (.iload 7, 135, 0, 7, 0, 0, 0, m0)), (135, (.ifCond .lt 46, 138, 181, 0, 0, 0, 0, m0)), (138, (.aload_n 0, 139, 0, 0, 0, 0, 0, m0)), (139, (.getfield 39, 142, 842, 19, 8, 0, 0, m0)), (142, (.iload 7, 144, 0, 7, 0, 0, 0, m0)), (144, (.iaload, 145, 0, 0, 0, 0, 0, m0)), (145, (.iload_n 2, 146, 0, 2, 0, 0, 0, m0))]),
  (158, [(146, (.if_icmp .ne 18, 149, 164, 0, 0, 0, 0, m0)), (149, (.aload_n 0, 150, 0, 0, 0, 0, 0, m0)), (150, (.iload_n 1, 151, 0, 1, 0, 0, 0, m0)), (151, (.iload 6, 153, 0, 6, 0, 0, 0, m0)), (153, (.aload_n 0, 154, 0, 0, 0, 0, 0, m0)), (154, (.getfield 138, 157, 830, 7, 8, 0, 0, m0)), (157, (.iconst 1, 158, 0, 0, 0, 1, 0, m0)), (158, (.isub, 159, 0, 0, 0, 0, 0, m0))]),
  (171, [(159, (.irem, 160, 0, 0, 0, 0, 0, m0)), (160, (.invokevirtual 264, 163, 1149, 3, 8, 0, 0, mX8_other)), (163, (.ireturn, 164, 0, 0, 0, 0, 0, m0)), (164, (.iload 6, 166, 0, 6, 0, 0, 0, m0)), (166, (.aload_n 0, 167, 0, 0, 0, 0, 0, m0)), (167, (.getfield 138, 170, 830, 7, 8, 0, 0, m0)), (170, (.iconst 1, 171, 0, 0, 0, 1, 0, m0)), (171, (.isub, 172, 0, 0, 0, 0, 0, m0))]),
  (182, [(172, (.idiv, 173, 0, 0, 0, 0, 0, m0)), (173, (.istore 6, 175, 0, 6, 0, 0, 0, m0)), (175, (.iinc 7 (-1), 178, 0, 7, 0, (-1), 0, m0)), (178, (.goto (-45), 181, 133, 0, 0, 0, 0, m0)), (181, (.iconst (-1), 182, 0, 0, 0, (-1), 0, m0)), (182, (.ireturn, 183, 0, 0, 0, 0, 0, m0))])]
theorem kX8_bequest : chkC mX8_bequest oX8_bequest = true := by decide +kernel
theorem qX8_siegeOf : OkM mX8_siegeOf := ⟨Gd_in (i := 1160) (by decide +kernel) (by decide +kernel), Gd_in (i := 73) (by decide +kernel) (by decide +kernel), ⟨fun _ => ⟨Gd_in (i := 1159) (by decide +kernel) (by decide +kernel), Gd_in (i := 63) (by decide +kernel) (by decide +kernel)⟩, fun h => absurd h (by decide +kernel)⟩, by decide +kernel, ⟨by decide +kernel, by decide +kernel⟩, rfl, rfl⟩
def oX8_siegeOf : Cd := [(13, [(0, (.aload_n 0, 1, 0, 0, 0, 0, 0, m0)), (1, (.iconst 0, 2, 0, 0, 0, 0, 0, m0)), (2, (.sipush 200, 5, 0, 0, 0, 200, 0, m0)), (5, (.invokevirtual 252, 8, 1121, 3, 8, 0, 0, mX8_copy)), (8, (.aload_n 0, 9, 0, 0, 0, 0, 0, m0)), (9, (.invokevirtual 205, 12, 1053, 1, 8, 0, 0, mX8_clearHungers)), (12, (.iconst 0, 13, 0, 0, 0, 0, 0, m0)), (13, (.istore_n 3, 14, 0, 3, 0, 0, 0, m0))]),
  (27, [(14, (.iload_n 3, 15, 0, 3, 0, 0, 0, m0)), (15, (.iload_n 1, 16, 0, 1, 0, 0, 0, m0)), (16, (.if_icmp .ge 95, 19, 111, 0, 0, 0, 0, m0)), (19, (.aload_n 0, 20, 0, 0, 0, 0, 0, m0)), (20, (.getfield 7, 23, 823, 0, 8, 0, 0, m0)), (23, (.sipush 379, 26, 0, 0, 0, 379, 0, m0)), (26, (.iload_n 3, 27, 0, 3, 0, 0, 0, m0)), (27, (.iload_n 2, 28, 0, 2, 0, 0, 0, m0))]),
  (43, [(28, (.if_icmp .lt 7, 31, 35, 0, 0, 0, 0, m0)), (31, (.iconst 2, 32, 0, 0, 0, 2, 0, m0)), (32, (.goto 11, 35, 43, 0, 0, 0, 0, m0)), (35, (.aload_n 0, 36, 0, 0, 0, 0, 0, m0)), (36, (.getfield 7, 39, 823, 0, 8, 0, 0, m0)), (39, (.sipush 179, 42, 0, 0, 0, 179, 0, m0)), (42, (.iaload, 43, 0, 0, 0, 0, 0, m0)), (43, (.iastore, 44, 0, 0, 0, 0, 0, m0))]),
  (57, [(44, (.iconst 0, 45, 0, 0, 0, 0, 0, m0)), (45, (.istore 4, 47, 0, 4, 0, 0, 0, m0)), (47, (.iload 4, 49, 0, 4, 0, 0, 0, m0)), (49, (.aload_n 0, 50, 0, 0, 0, 0, 0, m0)), (50, (.getfield 138, 53, 830, 7, 8, 0, 0, m0)), (53, (.if_icmp .ge 40, 56, 93, 0, 0, 0, 0, m0)), (56, (.aload_n 0, 57, 0, 0, 0, 0, 0, m0)), (57, (.getfield 7, 60, 823, 0, 8, 0, 0, m0))]),
  (72, [(60, (.sipush 368, 63, 0, 0, 0, 368, 0, m0)), (63, (.iload 4, 65, 0, 4, 0, 0, 0, m0)), (65, (.iadd, 66, 0, 0, 0, 0, 0, m0)), (66, (.iconst 0, 67, 0, 0, 0, 0, 0, m0)), (67, (.iastore, 68, 0, 0, 0, 0, 0, m0)), (68, (.aload_n 0, 69, 0, 0, 0, 0, 0, m0)), (69, (.sipush 200, 72, 0, 0, 0, 200, 0, m0)), (72, (.iload 4, 74, 0, 4, 0, 0, 0, m0))]),
  (90, [(74, (.aload_n 0, 75, 0, 0, 0, 0, 0, m0)), (75, (.sipush 200, 78, 0, 0, 0, 200, 0, m0)), (78, (.iload 4, 80, 0, 4, 0, 0, 0, m0)), (80, (.iconst 0, 81, 0, 0, 0, 0, 0, m0)), (81, (.invokevirtual 196, 84, 1061, 4, 8, 0, 0, mX8_eat)), (84, (.invokevirtual 199, 87, 1069, 4, 8, 0, 0, mX8_hunger)), (87, (.iinc 4 1, 90, 0, 4, 0, 1, 0, m0)), (90, (.goto (-43), 93, 47, 0, 0, 0, 0, m0))]),
  (104, [(93, (.aload_n 0, 94, 0, 0, 0, 0, 0, m0)), (94, (.getfield 7, 97, 823, 0, 8, 0, 0, m0)), (97, (.sipush 377, 100, 0, 0, 0, 377, 0, m0)), (100, (.dup2, 101, 0, 0, 0, 0, 0, m0)), (101, (.iaload, 102, 0, 0, 0, 0, 0, m0)), (102, (.iconst 1, 103, 0, 0, 0, 1, 0, m0)), (103, (.iadd, 104, 0, 0, 0, 0, 0, m0)), (104, (.iastore, 105, 0, 0, 0, 0, 0, m0))]),
  (115, [(105, (.iinc 3 1, 108, 0, 3, 0, 1, 0, m0)), (108, (.goto (-94), 111, 14, 0, 0, 0, 0, m0)), (111, (.aload_n 0, 112, 0, 0, 0, 0, 0, m0)), (112, (.invokevirtual 212, 115, 1074, 1, 8, 0, 0, mX8_allHungers)), (115, (.ireturn, 116, 0, 0, 0, 0, 0, m0))])]
theorem kX8_siegeOf : chkC mX8_siegeOf oX8_siegeOf = true := by decide +kernel
theorem qX8_siege : OkM mX8_siege := ⟨Gd_in (i := 1156) (by decide +kernel) (by decide +kernel), Gd_in (i := 73) (by decide +kernel) (by decide +kernel), ⟨fun _ => ⟨Gd_in (i := 1154) (by decide +kernel) (by decide +kernel), Gd_in (i := 1155) (by decide +kernel) (by decide +kernel)⟩, fun h => absurd h (by decide +kernel)⟩, by decide +kernel, ⟨by decide +kernel, by decide +kernel⟩, rfl, rfl⟩
def oX8_siege : Cd := [(13, [(0, (.iload_n 1, 1, 0, 1, 0, 0, 0, m0)), (1, (.i2l, 2, 0, 0, 0, 0, 0, m0)), (2, (.lconst 1, 3, 0, 0, 0, 0, 1, m0)), (3, (.ldc2_w 187, 6, 1033, 0, 0, 0, 20, m0)), (6, (.invokestatic 62, 9, 913, 3, 0, 0, 0, mX8_in)), (9, (.ifCond .eq 23, 12, 32, 0, 0, 0, 0, m0)), (12, (.iload_n 2, 13, 0, 2, 0, 0, 0, m0)), (13, (.i2l, 14, 0, 0, 0, 0, 0, m0))]),
  (25, [(14, (.lconst 0, 15, 0, 0, 0, 0, 0, m0)), (15, (.iload_n 1, 16, 0, 1, 0, 0, 0, m0)), (16, (.i2l, 17, 0, 0, 0, 0, 0, m0)), (17, (.invokestatic 62, 20, 913, 3, 0, 0, 0, mX8_in)), (20, (.ifCond .eq 12, 23, 32, 0, 0, 0, 0, m0)), (23, (.aload_n 0, 24, 0, 0, 0, 0, 0, m0)), (24, (.iload_n 1, 25, 0, 1, 0, 0, 0, m0)), (25, (.iload_n 2, 26, 0, 2, 0, 0, 0, m0))]),
  (34, [(26, (.invokevirtual 270, 29, 1157, 3, 8, 0, 0, mX8_siegeOf)), (29, (.goto 5, 32, 34, 0, 0, 0, 0, m0)), (32, (.ldc 66, 34, 916, 0, 0, (-1000000002), 0, m0)), (34, (.ireturn, 35, 0, 0, 0, 0, 0, m0))])]
theorem kX8_siege : chkC mX8_siege oX8_siege = true := by decide +kernel
theorem qX8_when : OkM mX8_when := ⟨Gd_in (i := 1164) (by decide +kernel) (by decide +kernel), Gd_in (i := 73) (by decide +kernel) (by decide +kernel), ⟨fun _ => ⟨Gd_in (i := 1162) (by decide +kernel) (by decide +kernel), Gd_in (i := 1163) (by decide +kernel) (by decide +kernel)⟩, fun h => absurd h (by decide +kernel)⟩, by decide +kernel, ⟨by decide +kernel, by decide +kernel⟩, rfl, rfl⟩
def oX8_when : Cd := [(13, [(0, (.iload_n 1, 1, 0, 1, 0, 0, 0, m0)), (1, (.i2l, 2, 0, 0, 0, 0, 0, m0)), (2, (.lconst 1, 3, 0, 0, 0, 0, 1, m0)), (3, (.ldc2_w 187, 6, 1033, 0, 0, 0, 20, m0)), (6, (.invokestatic 62, 9, 913, 3, 0, 0, 0, mX8_in)), (9, (.ifCond .eq 15, 12, 24, 0, 0, 0, 0, m0)), (12, (.iload_n 2, 13, 0, 2, 0, 0, 0, m0)), (13, (.i2l, 14, 0, 0, 0, 0, 0, m0))]),
  (28, [(14, (.lconst 0, 15, 0, 0, 0, 0, 0, m0)), (15, (.ldc2_w 273, 18, 1165, 0, 0, 0, 999, m0)), (18, (.invokestatic 62, 21, 913, 3, 0, 0, 0, mX8_in)), (21, (.ifCond .ne 6, 24, 27, 0, 0, 0, 0, m0)), (24, (.ldc 66, 26, 916, 0, 0, (-1000000002), 0, m0)), (26, (.ireturn, 27, 0, 0, 0, 0, 0, m0)), (27, (.iconst 0, 28, 0, 0, 0, 0, 0, m0)), (28, (.istore_n 3, 29, 0, 3, 0, 0, 0, m0))]),
  (42, [(29, (.ldc 232, 31, 1104, 0, 0, 99999999, 0, m0)), (31, (.istore 4, 33, 0, 4, 0, 0, 0, m0)), (33, (.iconst 0, 34, 0, 0, 0, 0, 0, m0)), (34, (.istore 5, 36, 0, 5, 0, 0, 0, m0)), (36, (.iload 5, 38, 0, 5, 0, 0, 0, m0)), (38, (.iload_n 1, 39, 0, 1, 0, 0, 0, m0)), (39, (.if_icmp .gt 44, 42, 83, 0, 0, 0, 0, m0)), (42, (.aload_n 0, 43, 0, 0, 0, 0, 0, m0))]),
  (56, [(43, (.iload_n 1, 44, 0, 1, 0, 0, 0, m0)), (44, (.iload 5, 46, 0, 5, 0, 0, 0, m0)), (46, (.invokevirtual 270, 49, 1157, 3, 8, 0, 0, mX8_siegeOf)), (49, (.iload 5, 51, 0, 5, 0, 0, 0, m0)), (51, (.iload_n 1, 52, 0, 1, 0, 0, 0, m0)), (52, (.if_icmp .ge 7, 55, 59, 0, 0, 0, 0, m0)), (55, (.iload_n 2, 56, 0, 2, 0, 0, 0, m0)), (56, (.goto 4, 59, 60, 0, 0, 0, 0, m0))]),
  (72, [(59, (.iconst 0, 60, 0, 0, 0, 0, 0, m0)), (60, (.iadd, 61, 0, 0, 0, 0, 0, m0)), (61, (.istore 6, 63, 0, 6, 0, 0, 0, m0)), (63, (.iload 6, 65, 0, 6, 0, 0, 0, m0)), (65, (.iload 4, 67, 0, 4, 0, 0, 0, m0)), (67, (.if_icmp .gt 10, 70, 77, 0, 0, 0, 0, m0)), (70, (.iload 5, 72, 0, 5, 0, 0, 0, m0)), (72, (.istore_n 3, 73, 0, 3, 0, 0, 0, m0))]),
  (84, [(73, (.iload 6, 75, 0, 6, 0, 0, 0, m0)), (75, (.istore 4, 77, 0, 4, 0, 0, 0, m0)), (77, (.iinc 5 1, 80, 0, 5, 0, 1, 0, m0)), (80, (.goto (-44), 83, 36, 0, 0, 0, 0, m0)), (83, (.iload_n 3, 84, 0, 3, 0, 0, 0, m0)), (84, (.ireturn, 85, 0, 0, 0, 0, 0, m0))])]
theorem kX8_when : chkC mX8_when oX8_when = true := by decide +kernel
theorem qX8_older : OkM mX8_older := ⟨Gd_in (i := 1169) (by decide +kernel) (by decide +kernel), Gd_in (i := 73) (by decide +kernel) (by decide +kernel), ⟨fun _ => ⟨Gd_in (i := 1167) (by decide +kernel) (by decide +kernel), Gd_in (i := 1168) (by decide +kernel) (by decide +kernel)⟩, fun h => absurd h (by decide +kernel)⟩, by decide +kernel, ⟨by decide +kernel, by decide +kernel⟩, rfl, rfl⟩
def oX8_older : Cd := [(13, [(0, (.aload_n 0, 1, 0, 0, 0, 0, 0, m0)), (1, (.iload_n 1, 2, 0, 1, 0, 0, 0, m0)), (2, (.invokevirtual 178, 5, 1016, 2, 8, 0, 0, mX8_isJar)), (5, (.ifCond .eq 16, 8, 21, 0, 0, 0, 0, m0)), (8, (.aload_n 0, 9, 0, 0, 0, 0, 0, m0)), (9, (.iload_n 2, 10, 0, 2, 0, 0, 0, m0)), (10, (.invokevirtual 178, 13, 1016, 2, 8, 0, 0, mX8_isJar)), (13, (.ifCond .eq 8, 16, 21, 0, 0, 0, 0, m0))]),
  (28, [(16, (.iload_n 1, 17, 0, 1, 0, 0, 0, m0)), (17, (.iload_n 2, 18, 0, 2, 0, 0, 0, m0)), (18, (.if_icmp .ne 6, 21, 24, 0, 0, 0, 0, m0)), (21, (.ldc 173, 23, 996, 0, 0, (-1000000001), 0, m0)), (23, (.ireturn, 24, 0, 0, 0, 0, 0, m0)), (24, (.aload_n 0, 25, 0, 0, 0, 0, 0, m0)), (25, (.getfield 145, 28, 847, 24, 8, 0, 0, m0)), (28, (.bipush 12, 30, 0, 0, 0, 12, 0, m0))]),
  (44, [(30, (.if_icmp .ne 6, 33, 36, 0, 0, 0, 0, m0)), (33, (.ldc 70, 35, 917, 0, 0, (-1000000004), 0, m0)), (35, (.ireturn, 36, 0, 0, 0, 0, 0, m0)), (36, (.aload_n 0, 37, 0, 0, 0, 0, 0, m0)), (37, (.getfield 45, 40, 845, 22, 8, 0, 0, m0)), (40, (.aload_n 0, 41, 0, 0, 0, 0, 0, m0)), (41, (.getfield 145, 44, 847, 24, 8, 0, 0, m0)), (44, (.iload_n 1, 45, 0, 1, 0, 0, 0, m0))]),
  (56, [(45, (.iastore, 46, 0, 0, 0, 0, 0, m0)), (46, (.aload_n 0, 47, 0, 0, 0, 0, 0, m0)), (47, (.getfield 48, 50, 846, 23, 8, 0, 0, m0)), (50, (.aload_n 0, 51, 0, 0, 0, 0, 0, m0)), (51, (.getfield 145, 54, 847, 24, 8, 0, 0, m0)), (54, (.iload_n 2, 55, 0, 2, 0, 0, 0, m0)), (55, (.iastore, 56, 0, 0, 0, 0, 0, m0)), (56, (.aload_n 0, 57, 0, 0, 0, 0, 0, m0))]),
  (70, [(57, (.dup, 58, 0, 0, 0, 0, 0, m0)), (58, (.getfield 145, 61, 847, 24, 8, 0, 0, m0)), (61, (.iconst 1, 62, 0, 0, 0, 1, 0, m0)), (62, (.iadd, 63, 0, 0, 0, 0, 0, m0)), (63, (.putfield 145, 66, 847, 24, 8, 0, 0, m0)), (66, (.aload_n 0, 67, 0, 0, 0, 0, 0, m0)), (67, (.getfield 145, 70, 847, 24, 8, 0, 0, m0)), (70, (.ireturn, 71, 0, 0, 0, 0, 0, m0))])]
theorem kX8_older : chkC mX8_older oX8_older = true := by decide +kernel
theorem qX8_ones : OkM mX8_ones := ⟨Gd_in (i := 1176) (by decide +kernel) (by decide +kernel), Gd_in (i := 73) (by decide +kernel) (by decide +kernel), ⟨fun h => absurd h (by decide +kernel), fun _ => Gd_in (i := 1175) (by decide +kernel) (by decide +kernel)⟩, by decide +kernel, ⟨by decide +kernel, by decide +kernel⟩, rfl, rfl⟩
def oX8_ones : Cd := [(10, [(0, (.iconst 0, 1, 0, 0, 0, 0, 0, m0)), (1, (.istore_n 1, 2, 0, 1, 0, 0, 0, m0)), (2, (.iconst 0, 3, 0, 0, 0, 0, 0, m0)), (3, (.istore_n 2, 4, 0, 2, 0, 0, 0, m0)), (4, (.iload_n 2, 5, 0, 2, 0, 0, 0, m0)), (5, (.bipush 24, 7, 0, 0, 0, 24, 0, m0)), (7, (.if_icmp .ge 17, 10, 24, 0, 0, 0, 0, m0)), (10, (.iload_n 1, 11, 0, 1, 0, 0, 0, m0))]),
  (18, [(11, (.iload_n 0, 12, 0, 0, 0, 0, 0, m0)), (12, (.iload_n 2, 13, 0, 2, 0, 0, 0, m0)), (13, (.ishr, 14, 0, 0, 0, 0, 0, m0)), (14, (.iconst 1, 15, 0, 0, 0, 1, 0, m0)), (15, (.iand, 16, 0, 0, 0, 0, 0, m0)), (16, (.iadd, 17, 0, 0, 0, 0, 0, m0)), (17, (.istore_n 1, 18, 0, 1, 0, 0, 0, m0)), (18, (.iinc 2 1, 21, 0, 2, 0, 1, 0, m0))]),
  (25, [(21, (.goto (-17), 24, 4, 0, 0, 0, 0, m0)), (24, (.iload_n 1, 25, 0, 1, 0, 0, 0, m0)), (25, (.ireturn, 26, 0, 0, 0, 0, 0, m0))])]
theorem kX8_ones : chkC mX8_ones oX8_ones = true := by decide +kernel
theorem qX8_forged : OkM mX8_forged := ⟨Gd_in (i := 1173) (by decide +kernel) (by decide +kernel), Gd_in (i := 73) (by decide +kernel) (by decide +kernel), ⟨fun _ => ⟨Gd_in (i := 1171) (by decide +kernel) (by decide +kernel), Gd_in (i := 1172) (by decide +kernel) (by decide +kernel)⟩, fun h => absurd h (by decide +kernel)⟩, by decide +kernel, ⟨by decide +kernel, by decide +kernel⟩, rfl, rfl⟩
def oX8_forged : Cd := [(8, [(0, (.iconst (-1), 1, 0, 0, 0, (-1), 0, m0)), (1, (.istore_n 1, 2, 0, 1, 0, 0, 0, m0)), (2, (.ldc 232, 4, 1104, 0, 0, 99999999, 0, m0)), (4, (.istore_n 2, 5, 0, 2, 0, 0, 0, m0)), (5, (.iconst 0, 6, 0, 0, 0, 0, 0, m0)), (6, (.istore_n 3, 7, 0, 3, 0, 0, 0, m0)), (7, (.iload_n 3, 8, 0, 3, 0, 0, 0, m0)), (8, (.iconst 1, 9, 0, 0, 0, 1, 0, m0))]),
  (21, [(9, (.aload_n 0, 10, 0, 0, 0, 0, 0, m0)), (10, (.getfield 145, 13, 847, 24, 8, 0, 0, m0)), (13, (.ishl, 14, 0, 0, 0, 0, 0, m0)), (14, (.if_icmp .ge 179, 17, 193, 0, 0, 0, 0, m0)), (17, (.iconst 0, 18, 0, 0, 0, 0, 0, m0)), (18, (.istore 4, 20, 0, 4, 0, 0, 0, m0)), (20, (.iconst 0, 21, 0, 0, 0, 0, 0, m0)), (21, (.istore 5, 23, 0, 5, 0, 0, 0, m0))]),
  (38, [(23, (.iload 5, 25, 0, 5, 0, 0, 0, m0)), (25, (.aload_n 0, 26, 0, 0, 0, 0, 0, m0)), (26, (.getfield 145, 29, 847, 24, 8, 0, 0, m0)), (29, (.if_icmp .ge 127, 32, 156, 0, 0, 0, 0, m0)), (32, (.aload_n 0, 33, 0, 0, 0, 0, 0, m0)), (33, (.getfield 45, 36, 845, 22, 8, 0, 0, m0)), (36, (.iload 5, 38, 0, 5, 0, 0, 0, m0)), (38, (.iaload, 39, 0, 0, 0, 0, 0, m0))]),
  (51, [(39, (.istore 6, 41, 0, 6, 0, 0, 0, m0)), (41, (.aload_n 0, 42, 0, 0, 0, 0, 0, m0)), (42, (.getfield 48, 45, 846, 23, 8, 0, 0, m0)), (45, (.iload 5, 47, 0, 5, 0, 0, 0, m0)), (47, (.iaload, 48, 0, 0, 0, 0, 0, m0)), (48, (.istore 7, 50, 0, 7, 0, 0, 0, m0)), (50, (.aload_n 0, 51, 0, 0, 0, 0, 0, m0)), (51, (.iload 6, 53, 0, 6, 0, 0, 0, m0))]),
  (69, [(53, (.invokevirtual 178, 56, 1016, 2, 8, 0, 0, mX8_isJar)), (56, (.ifCond .eq 39, 59, 95, 0, 0, 0, 0, m0)), (59, (.aload_n 0, 60, 0, 0, 0, 0, 0, m0)), (60, (.iload 7, 62, 0, 7, 0, 0, 0, m0)), (62, (.invokevirtual 178, 65, 1016, 2, 8, 0, 0, mX8_isJar)), (65, (.ifCond .eq 30, 68, 95, 0, 0, 0, 0, m0)), (68, (.aload_n 0, 69, 0, 0, 0, 0, 0, m0)), (69, (.getfield 7, 72, 823, 0, 8, 0, 0, m0))]),
  (84, [(72, (.bipush 48, 74, 0, 0, 0, 48, 0, m0)), (74, (.iload 6, 76, 0, 6, 0, 0, 0, m0)), (76, (.iadd, 77, 0, 0, 0, 0, 0, m0)), (77, (.iaload, 78, 0, 0, 0, 0, 0, m0)), (78, (.aload_n 0, 79, 0, 0, 0, 0, 0, m0)), (79, (.getfield 7, 82, 823, 0, 8, 0, 0, m0)), (82, (.bipush 48, 84, 0, 0, 0, 48, 0, m0)), (84, (.iload 7, 86, 0, 7, 0, 0, 0, m0))]),
  (98, [(86, (.iadd, 87, 0, 0, 0, 0, 0, m0)), (87, (.iaload, 88, 0, 0, 0, 0, 0, m0)), (88, (.if_icmp .lt 7, 91, 95, 0, 0, 0, 0, m0)), (91, (.iconst 1, 92, 0, 0, 0, 1, 0, m0)), (92, (.goto 4, 95, 96, 0, 0, 0, 0, m0)), (95, (.iconst 0, 96, 0, 0, 0, 0, 0, m0)), (96, (.istore 8, 98, 0, 8, 0, 0, 0, m0)), (98, (.iload 4, 100, 0, 4, 0, 0, 0, m0))]),
  (117, [(100, (.iload 8, 102, 0, 8, 0, 0, 0, m0)), (102, (.ifCond .eq 44, 105, 146, 0, 0, 0, 0, m0)), (105, (.iload 4, 107, 0, 4, 0, 0, 0, m0)), (107, (.iload 6, 109, 0, 6, 0, 0, 0, m0)), (109, (.invokestatic 228, 112, 1109, 2, 0, 0, 0, mX8_has)), (112, (.ifCond .ne 34, 115, 146, 0, 0, 0, 0, m0)), (115, (.iload 4, 117, 0, 4, 0, 0, 0, m0)), (117, (.iload 7, 119, 0, 7, 0, 0, 0, m0))]),
  (135, [(119, (.invokestatic 228, 122, 1109, 2, 0, 0, 0, mX8_has)), (122, (.ifCond .ne 24, 125, 146, 0, 0, 0, 0, m0)), (125, (.iconst 1, 126, 0, 0, 0, 1, 0, m0)), (126, (.iload_n 3, 127, 0, 3, 0, 0, 0, m0)), (127, (.iload 5, 129, 0, 5, 0, 0, 0, m0)), (129, (.invokestatic 228, 132, 1109, 2, 0, 0, 0, mX8_has)), (132, (.ifCond .eq 8, 135, 140, 0, 0, 0, 0, m0)), (135, (.iload 7, 137, 0, 7, 0, 0, 0, m0))]),
  (150, [(137, (.goto 5, 140, 142, 0, 0, 0, 0, m0)), (140, (.iload 6, 142, 0, 6, 0, 0, 0, m0)), (142, (.ishl, 143, 0, 0, 0, 0, 0, m0)), (143, (.goto 4, 146, 147, 0, 0, 0, 0, m0)), (146, (.iconst 0, 147, 0, 0, 0, 0, 0, m0)), (147, (.ior, 148, 0, 0, 0, 0, 0, m0)), (148, (.istore 4, 150, 0, 4, 0, 0, 0, m0)), (150, (.iinc 5 1, 153, 0, 5, 0, 1, 0, m0))]),
  (169, [(153, (.goto (-130), 156, 23, 0, 0, 0, 0, m0)), (156, (.iload 4, 158, 0, 4, 0, 0, 0, m0)), (158, (.invokestatic 275, 161, 1174, 1, 0, 0, 0, mX8_ones)), (161, (.istore 5, 163, 0, 5, 0, 0, 0, m0)), (163, (.iload 5, 165, 0, 5, 0, 0, 0, m0)), (165, (.iload_n 2, 166, 0, 2, 0, 0, 0, m0)), (166, (.if_icmp .lt 15, 169, 181, 0, 0, 0, 0, m0)), (169, (.iload 5, 171, 0, 5, 0, 0, 0, m0))]),
  (184, [(171, (.iload_n 2, 172, 0, 2, 0, 0, 0, m0)), (172, (.if_icmp .ne 15, 175, 187, 0, 0, 0, 0, m0)), (175, (.iload 4, 177, 0, 4, 0, 0, 0, m0)), (177, (.iload_n 1, 178, 0, 1, 0, 0, 0, m0)), (178, (.if_icmp .ge 9, 181, 187, 0, 0, 0, 0, m0)), (181, (.iload 4, 183, 0, 4, 0, 0, 0, m0)), (183, (.istore_n 1, 184, 0, 1, 0, 0, 0, m0)), (184, (.iload 5, 186, 0, 5, 0, 0, 0, m0))]),
  (194, [(186, (.istore_n 2, 187, 0, 2, 0, 0, 0, m0)), (187, (.iinc 3 1, 190, 0, 3, 0, 1, 0, m0)), (190, (.goto (-183), 193, 7, 0, 0, 0, 0, m0)), (193, (.iload_n 1, 194, 0, 1, 0, 0, 0, m0)), (194, (.ireturn, 195, 0, 0, 0, 0, 0, m0))])]
theorem kX8_forged : chkC mX8_forged oX8_forged = true := by decide +kernel
theorem qX8_write : OkM mX8_write := ⟨Gd_in (i := 1180) (by decide +kernel) (by decide +kernel), Gd_in (i := 73) (by decide +kernel) (by decide +kernel), ⟨fun _ => ⟨Gd_in (i := 1178) (by decide +kernel) (by decide +kernel), Gd_in (i := 1179) (by decide +kernel) (by decide +kernel)⟩, fun h => absurd h (by decide +kernel)⟩, by decide +kernel, ⟨by decide +kernel, by decide +kernel⟩, rfl, rfl⟩
def oX8_write : Cd := [(12, [(0, (.aload_n 0, 1, 0, 0, 0, 0, 0, m0)), (1, (.iload_n 2, 2, 0, 2, 0, 0, 0, m0)), (2, (.invokevirtual 178, 5, 1016, 2, 8, 0, 0, mX8_isJar)), (5, (.ifCond .ne 6, 8, 11, 0, 0, 0, 0, m0)), (8, (.ldc 173, 10, 996, 0, 0, (-1000000001), 0, m0)), (10, (.ireturn, 11, 0, 0, 0, 0, 0, m0)), (11, (.iload_n 1, 12, 0, 1, 0, 0, 0, m0)), (12, (.i2l, 13, 0, 0, 0, 0, 0, m0))]),
  (27, [(13, (.lconst 0, 14, 0, 0, 0, 0, 0, m0)), (14, (.ldc2_w 190, 17, 1043, 0, 0, 0, 9999, m0)), (17, (.invokestatic 62, 20, 913, 3, 0, 0, 0, mX8_in)), (20, (.ifCond .ne 6, 23, 26, 0, 0, 0, 0, m0)), (23, (.ldc 66, 25, 916, 0, 0, (-1000000002), 0, m0)), (25, (.ireturn, 26, 0, 0, 0, 0, 0, m0)), (26, (.aload_n 0, 27, 0, 0, 0, 0, 0, m0)), (27, (.getfield 148, 30, 850, 27, 8, 0, 0, m0))]),
  (43, [(30, (.bipush 30, 32, 0, 0, 0, 30, 0, m0)), (32, (.if_icmp .ne 6, 35, 38, 0, 0, 0, 0, m0)), (35, (.ldc 70, 37, 917, 0, 0, (-1000000004), 0, m0)), (37, (.ireturn, 38, 0, 0, 0, 0, 0, m0)), (38, (.aload_n 0, 39, 0, 0, 0, 0, 0, m0)), (39, (.getfield 51, 42, 848, 25, 8, 0, 0, m0)), (42, (.aload_n 0, 43, 0, 0, 0, 0, 0, m0)), (43, (.getfield 148, 46, 850, 27, 8, 0, 0, m0))]),
  (57, [(46, (.iload_n 1, 47, 0, 1, 0, 0, 0, m0)), (47, (.iastore, 48, 0, 0, 0, 0, 0, m0)), (48, (.aload_n 0, 49, 0, 0, 0, 0, 0, m0)), (49, (.getfield 54, 52, 849, 26, 8, 0, 0, m0)), (52, (.aload_n 0, 53, 0, 0, 0, 0, 0, m0)), (53, (.getfield 148, 56, 850, 27, 8, 0, 0, m0)), (56, (.iload_n 2, 57, 0, 2, 0, 0, 0, m0)), (57, (.iastore, 58, 0, 0, 0, 0, 0, m0))]),
  (69, [(58, (.aload_n 0, 59, 0, 0, 0, 0, 0, m0)), (59, (.dup, 60, 0, 0, 0, 0, 0, m0)), (60, (.getfield 148, 63, 850, 27, 8, 0, 0, m0)), (63, (.iconst 1, 64, 0, 0, 0, 1, 0, m0)), (64, (.iadd, 65, 0, 0, 0, 0, 0, m0)), (65, (.putfield 148, 68, 850, 27, 8, 0, 0, m0)), (68, (.aload_n 0, 69, 0, 0, 0, 0, 0, m0)), (69, (.getfield 148, 72, 850, 27, 8, 0, 0, m0))]),
  (72, [(72, (.ireturn, 73, 0, 0, 0, 0, 0, m0))])]
theorem kX8_write : chkC mX8_write oX8_write = true := by decide +kernel
theorem qX8_tear : OkM mX8_tear := ⟨Gd_in (i := 1184) (by decide +kernel) (by decide +kernel), Gd_in (i := 73) (by decide +kernel) (by decide +kernel), ⟨fun _ => ⟨Gd_in (i := 1182) (by decide +kernel) (by decide +kernel), Gd_in (i := 1183) (by decide +kernel) (by decide +kernel)⟩, fun h => absurd h (by decide +kernel)⟩, by decide +kernel, ⟨by decide +kernel, by decide +kernel⟩, rfl, rfl⟩
def oX8_tear : Cd := [(11, [(0, (.aload_n 0, 1, 0, 0, 0, 0, 0, m0)), (1, (.getfield 148, 4, 850, 27, 8, 0, 0, m0)), (4, (.aload_n 0, 5, 0, 0, 0, 0, 0, m0)), (5, (.getfield 145, 8, 847, 24, 8, 0, 0, m0)), (8, (.iadd, 9, 0, 0, 0, 0, 0, m0)), (9, (.istore_n 1, 10, 0, 1, 0, 0, 0, m0)), (10, (.aload_n 0, 11, 0, 0, 0, 0, 0, m0)), (11, (.iconst 0, 12, 0, 0, 0, 0, 0, m0))]),
  (21, [(12, (.putfield 148, 15, 850, 27, 8, 0, 0, m0)), (15, (.aload_n 0, 16, 0, 0, 0, 0, 0, m0)), (16, (.iconst 0, 17, 0, 0, 0, 0, 0, m0)), (17, (.putfield 145, 20, 847, 24, 8, 0, 0, m0)), (20, (.iload_n 1, 21, 0, 1, 0, 0, 0, m0)), (21, (.ireturn, 22, 0, 0, 0, 0, 0, m0))])]
theorem kX8_tear : chkC mX8_tear oX8_tear = true := by decide +kernel
theorem qX8_judge : OkM mX8_judge := ⟨Gd_in (i := 1188) (by decide +kernel) (by decide +kernel), Gd_in (i := 73) (by decide +kernel) (by decide +kernel), ⟨fun _ => ⟨Gd_in (i := 1186) (by decide +kernel) (by decide +kernel), Gd_in (i := 1187) (by decide +kernel) (by decide +kernel)⟩, fun h => absurd h (by decide +kernel)⟩, by decide +kernel, ⟨by decide +kernel, by decide +kernel⟩, rfl, rfl⟩
def oX8_judge : Cd := [(11, [(0, (.iconst 0, 1, 0, 0, 0, 0, 0, m0)), (1, (.istore_n 1, 2, 0, 1, 0, 0, 0, m0)), (2, (.iload_n 1, 3, 0, 1, 0, 0, 0, m0)), (3, (.aload_n 0, 4, 0, 0, 0, 0, 0, m0)), (4, (.getfield 148, 7, 850, 27, 8, 0, 0, m0)), (7, (.if_icmp .ge 108, 10, 115, 0, 0, 0, 0, m0)), (10, (.aload_n 0, 11, 0, 0, 0, 0, 0, m0)), (11, (.getfield 54, 14, 849, 26, 8, 0, 0, m0))]),
  (25, [(14, (.iload_n 1, 15, 0, 1, 0, 0, 0, m0)), (15, (.iaload, 16, 0, 0, 0, 0, 0, m0)), (16, (.istore_n 2, 17, 0, 2, 0, 0, 0, m0)), (17, (.aload_n 0, 18, 0, 0, 0, 0, 0, m0)), (18, (.iload_n 2, 19, 0, 2, 0, 0, 0, m0)), (19, (.invokevirtual 178, 22, 1016, 2, 8, 0, 0, mX8_isJar)), (22, (.ifCond .eq 39, 25, 61, 0, 0, 0, 0, m0)), (25, (.aload_n 0, 26, 0, 0, 0, 0, 0, m0))]),
  (37, [(26, (.iconst 0, 27, 0, 0, 0, 0, 0, m0)), (27, (.iload_n 2, 28, 0, 2, 0, 0, 0, m0)), (28, (.aload_n 0, 29, 0, 0, 0, 0, 0, m0)), (29, (.getfield 51, 32, 848, 25, 8, 0, 0, m0)), (32, (.iload_n 1, 33, 0, 1, 0, 0, 0, m0)), (33, (.iaload, 34, 0, 0, 0, 0, 0, m0)), (34, (.invokevirtual 151, 37, 1005, 4, 8, 0, 0, mX8_mayBe)), (37, (.ifCond .eq 24, 40, 61, 0, 0, 0, 0, m0))]),
  (51, [(40, (.iload_n 1, 41, 0, 1, 0, 0, 0, m0)), (41, (.ifCond .le 24, 44, 65, 0, 0, 0, 0, m0)), (44, (.aload_n 0, 45, 0, 0, 0, 0, 0, m0)), (45, (.getfield 51, 48, 848, 25, 8, 0, 0, m0)), (48, (.iload_n 1, 49, 0, 1, 0, 0, 0, m0)), (49, (.iaload, 50, 0, 0, 0, 0, 0, m0)), (50, (.aload_n 0, 51, 0, 0, 0, 0, 0, m0)), (51, (.getfield 51, 54, 848, 25, 8, 0, 0, m0))]),
  (65, [(54, (.iload_n 1, 55, 0, 1, 0, 0, 0, m0)), (55, (.iconst 1, 56, 0, 0, 0, 1, 0, m0)), (56, (.isub, 57, 0, 0, 0, 0, 0, m0)), (57, (.iaload, 58, 0, 0, 0, 0, 0, m0)), (58, (.if_icmp .ge 7, 61, 65, 0, 0, 0, 0, m0)), (61, (.iconst 1, 62, 0, 0, 0, 1, 0, m0)), (62, (.goto 4, 65, 66, 0, 0, 0, 0, m0)), (65, (.iconst 0, 66, 0, 0, 0, 0, 0, m0))]),
  (77, [(66, (.istore_n 3, 67, 0, 3, 0, 0, 0, m0)), (67, (.iconst 0, 68, 0, 0, 0, 0, 0, m0)), (68, (.istore 4, 70, 0, 4, 0, 0, 0, m0)), (70, (.iload 4, 72, 0, 4, 0, 0, 0, m0)), (72, (.iload_n 1, 73, 0, 1, 0, 0, 0, m0)), (73, (.if_icmp .ge 30, 76, 103, 0, 0, 0, 0, m0)), (76, (.iload_n 3, 77, 0, 3, 0, 0, 0, m0)), (77, (.ifCond .ne 14, 80, 91, 0, 0, 0, 0, m0))]),
  (92, [(80, (.aload_n 0, 81, 0, 0, 0, 0, 0, m0)), (81, (.getfield 54, 84, 849, 26, 8, 0, 0, m0)), (84, (.iload 4, 86, 0, 4, 0, 0, 0, m0)), (86, (.iaload, 87, 0, 0, 0, 0, 0, m0)), (87, (.iload_n 2, 88, 0, 2, 0, 0, 0, m0)), (88, (.if_icmp .ne 7, 91, 95, 0, 0, 0, 0, m0)), (91, (.iconst 1, 92, 0, 0, 0, 1, 0, m0)), (92, (.goto 4, 95, 96, 0, 0, 0, 0, m0))]),
  (108, [(95, (.iconst 0, 96, 0, 0, 0, 0, 0, m0)), (96, (.istore_n 3, 97, 0, 3, 0, 0, 0, m0)), (97, (.iinc 4 1, 100, 0, 4, 0, 1, 0, m0)), (100, (.goto (-30), 103, 70, 0, 0, 0, 0, m0)), (103, (.iload_n 3, 104, 0, 3, 0, 0, 0, m0)), (104, (.ifCond .eq 5, 107, 109, 0, 0, 0, 0, m0)), (107, (.iload_n 1, 108, 0, 1, 0, 0, 0, m0)), (108, (.ireturn, 109, 0, 0, 0, 0, 0, m0))]),
  (116, [(109, (.iinc 1 1, 112, 0, 1, 0, 1, 0, m0)), (112, (.goto (-110), 115, 2, 0, 0, 0, 0, m0)), (115, (.iconst (-1), 116, 0, 0, 0, (-1), 0, m0)), (116, (.ireturn, 117, 0, 0, 0, 0, 0, m0))])]
theorem kX8_judge : chkC mX8_judge oX8_judge = true := by decide +kernel
theorem qX8_seed : OkM mX8_seed := ⟨Gd_in (i := 1192) (by decide +kernel) (by decide +kernel), Gd_in (i := 73) (by decide +kernel) (by decide +kernel), ⟨fun _ => ⟨Gd_in (i := 1190) (by decide +kernel) (by decide +kernel), Gd_in (i := 1191) (by decide +kernel) (by decide +kernel)⟩, fun h => absurd h (by decide +kernel)⟩, by decide +kernel, ⟨by decide +kernel, by decide +kernel⟩, rfl, rfl⟩
def oX8_seed : Cd := [(14, [(0, (.iload_n 1, 1, 0, 1, 0, 0, 0, m0)), (1, (.ifCond .ge 6, 4, 7, 0, 0, 0, 0, m0)), (4, (.ldc 66, 6, 916, 0, 0, (-1000000002), 0, m0)), (6, (.ireturn, 7, 0, 0, 0, 0, 0, m0)), (7, (.aload_n 0, 8, 0, 0, 0, 0, 0, m0)), (8, (.getfield 7, 11, 823, 0, 8, 0, 0, m0)), (11, (.sipush 180, 14, 0, 0, 0, 180, 0, m0)), (14, (.iaload, 15, 0, 0, 0, 0, 0, m0))]),
  (26, [(15, (.istore_n 2, 16, 0, 2, 0, 0, 0, m0)), (16, (.aload_n 0, 17, 0, 0, 0, 0, 0, m0)), (17, (.getfield 7, 20, 823, 0, 8, 0, 0, m0)), (20, (.sipush 180, 23, 0, 0, 0, 180, 0, m0)), (23, (.iload_n 1, 24, 0, 1, 0, 0, 0, m0)), (24, (.iastore, 25, 0, 0, 0, 0, 0, m0)), (25, (.iload_n 2, 26, 0, 2, 0, 0, 0, m0)), (26, (.ireturn, 27, 0, 0, 0, 0, 0, m0))])]
theorem kX8_seed : chkC mX8_seed oX8_seed = true := by decide +kernel
theorem qX8_keep : OkM mX8_keep := ⟨Gd_in (i := 1196) (by decide +kernel) (by decide +kernel), Gd_in (i := 73) (by decide +kernel) (by decide +kernel), ⟨fun _ => ⟨Gd_in (i := 1194) (by decide +kernel) (by decide +kernel), Gd_in (i := 1195) (by decide +kernel) (by decide +kernel)⟩, fun h => absurd h (by decide +kernel)⟩, by decide +kernel, ⟨by decide +kernel, by decide +kernel⟩, rfl, rfl⟩
def oX8_keep : Cd := [(12, [(0, (.iload_n 1, 1, 0, 1, 0, 0, 0, m0)), (1, (.i2l, 2, 0, 0, 0, 0, 0, m0)), (2, (.lconst 0, 3, 0, 0, 0, 0, 0, m0)), (3, (.lconst 1, 4, 0, 0, 0, 0, 1, m0)), (4, (.invokestatic 62, 7, 913, 3, 0, 0, 0, mX8_in)), (7, (.ifCond .ne 6, 10, 13, 0, 0, 0, 0, m0)), (10, (.ldc 173, 12, 996, 0, 0, (-1000000001), 0, m0)), (12, (.ireturn, 13, 0, 0, 0, 0, 0, m0))]),
  (24, [(13, (.aload_n 0, 14, 0, 0, 0, 0, 0, m0)), (14, (.iconst 0, 15, 0, 0, 0, 0, 0, m0)), (15, (.sipush 400, 18, 0, 0, 0, 400, 0, m0)), (18, (.sipush 200, 21, 0, 0, 0, 200, 0, m0)), (21, (.iload_n 1, 22, 0, 1, 0, 0, 0, m0)), (22, (.imul, 23, 0, 0, 0, 0, 0, m0)), (23, (.iadd, 24, 0, 0, 0, 0, 0, m0)), (24, (.invokevirtual 252, 27, 1121, 3, 8, 0, 0, mX8_copy))]),
  (35, [(27, (.aload_n 0, 28, 0, 0, 0, 0, 0, m0)), (28, (.getfield 13, 31, 824, 1, 8, 0, 0, m0)), (31, (.iload_n 1, 32, 0, 1, 0, 0, 0, m0)), (32, (.iconst 1, 33, 0, 0, 0, 1, 0, m0)), (33, (.bastore, 34, 0, 0, 0, 0, 0, m0)), (34, (.iconst 1, 35, 0, 0, 0, 1, 0, m0)), (35, (.ireturn, 36, 0, 0, 0, 0, 0, m0))])]
theorem kX8_keep : chkC mX8_keep oX8_keep = true := by decide +kernel
theorem qX8_goBack : OkM mX8_goBack := ⟨Gd_in (i := 1200) (by decide +kernel) (by decide +kernel), Gd_in (i := 73) (by decide +kernel) (by decide +kernel), ⟨fun _ => ⟨Gd_in (i := 1198) (by decide +kernel) (by decide +kernel), Gd_in (i := 1199) (by decide +kernel) (by decide +kernel)⟩, fun h => absurd h (by decide +kernel)⟩, by decide +kernel, ⟨by decide +kernel, by decide +kernel⟩, rfl, rfl⟩
def oX8_goBack : Cd := [(12, [(0, (.iload_n 1, 1, 0, 1, 0, 0, 0, m0)), (1, (.i2l, 2, 0, 0, 0, 0, 0, m0)), (2, (.lconst 0, 3, 0, 0, 0, 0, 0, m0)), (3, (.lconst 1, 4, 0, 0, 0, 0, 1, m0)), (4, (.invokestatic 62, 7, 913, 3, 0, 0, 0, mX8_in)), (7, (.ifCond .ne 6, 10, 13, 0, 0, 0, 0, m0)), (10, (.ldc 173, 12, 996, 0, 0, (-1000000001), 0, m0)), (12, (.ireturn, 13, 0, 0, 0, 0, 0, m0))]),
  (25, [(13, (.aload_n 0, 14, 0, 0, 0, 0, 0, m0)), (14, (.getfield 13, 17, 824, 1, 8, 0, 0, m0)), (17, (.iload_n 1, 18, 0, 1, 0, 0, 0, m0)), (18, (.baload, 19, 0, 0, 0, 0, 0, m0)), (19, (.ifCond .ne 6, 22, 25, 0, 0, 0, 0, m0)), (22, (.ldc 189, 24, 1038, 0, 0, (-1000000003), 0, m0)), (24, (.ireturn, 25, 0, 0, 0, 0, 0, m0)), (25, (.aload_n 0, 26, 0, 0, 0, 0, 0, m0))]),
  (39, [(26, (.sipush 400, 29, 0, 0, 0, 400, 0, m0)), (29, (.sipush 200, 32, 0, 0, 0, 200, 0, m0)), (32, (.iload_n 1, 33, 0, 1, 0, 0, 0, m0)), (33, (.imul, 34, 0, 0, 0, 0, 0, m0)), (34, (.iadd, 35, 0, 0, 0, 0, 0, m0)), (35, (.iconst 0, 36, 0, 0, 0, 0, 0, m0)), (36, (.invokevirtual 252, 39, 1121, 3, 8, 0, 0, mX8_copy)), (39, (.iconst 1, 40, 0, 0, 0, 1, 0, m0))]),
  (40, [(40, (.ireturn, 41, 0, 0, 0, 0, 0, m0))])]
theorem kX8_goBack : chkC mX8_goBack oX8_goBack = true := by decide +kernel
end
section
/-! plain facts on numbers and arrays, to paste: each family by itself; over the kit's rows on nI and upd -/
/-! ===== order of ints, in all its forms, and through longs ===== -/
theorem fa_lt (a b : Int32) : a < b ↔ a.toInt < b.toInt := Int32.lt_iff_toInt_lt
theorem fa_le (a b : Int32) : a ≤ b ↔ a.toInt ≤ b.toInt := Int32.le_iff_toInt_le
theorem fa_eq (a b : Int32) : a = b ↔ a.toInt = b.toInt := Int32.toInt_inj.symm
theorem fa_lt64 (a b : Int64) : a < b ↔ a.toInt < b.toInt := Int64.lt_iff_toInt_lt
theorem fa_le64 (a b : Int64) : a ≤ b ↔ a.toInt ≤ b.toInt := Int64.le_iff_toInt_le
theorem fa_eq64 (a b : Int64) : a = b ↔ a.toInt = b.toInt := Int64.toInt_inj.symm
/-- a comparison of two ints taken as longs -/
theorem fa_wide_lt (a b : Int32) : a.toInt64 < b.toInt64 ↔ a < b := by rw [fa_lt64, fa_lt, Int32.toInt_toInt64, Int32.toInt_toInt64]
theorem fa_wide_le (a b : Int32) : a.toInt64 ≤ b.toInt64 ↔ a ≤ b := by rw [fa_le64, fa_le, Int32.toInt_toInt64, Int32.toInt_toInt64]
theorem fa_wide_eq (a b : Int32) : a.toInt64 = b.toInt64 ↔ a = b := by rw [fa_eq64, fa_eq, Int32.toInt_toInt64, Int32.toInt_toInt64]
/-- one strict comparison gives all the others -/
theorem fa_of_lt {a b : Int32} (h : a < b) : a ≤ b ∧ ¬ b ≤ a ∧ ¬ b < a ∧ a ≠ b ∧ b ≠ a := by
  rw [fa_lt] at h
  refine ⟨?_, ?_, ?_, ?_, ?_⟩
  · rw [fa_le]; omega
  · rw [fa_le]; omega
  · rw [fa_lt]; omega
  · intro e; rw [fa_eq] at e; omega
  · intro e; rw [fa_eq] at e; omega
theorem fa_of_nlt {a b : Int32} (h : ¬ a < b) : b ≤ a := by
  rw [fa_lt] at h
  rw [fa_le]
  omega
theorem fa_of_nle {a b : Int32} (h : ¬ a ≤ b) : b < a := by
  rw [fa_le] at h
  rw [fa_lt]
  omega
theorem fa_le_ne {a b : Int32} (h : a ≤ b) (h2 : a ≠ b) : a < b := by
  rw [fa_le] at h
  rw [fa_lt]
  have h3 : a.toInt ≠ b.toInt := fun e => h2 ((fa_eq a b).mpr e)
  omega
theorem fa_three (a b : Int32) : a < b ∨ a = b ∨ b < a := by
  rw [fa_lt, fa_lt, fa_eq]
  omega
theorem fa_trans {a b c : Int32} (h : a < b) (h2 : b ≤ c) : a < c := by
  rw [fa_lt] at *
  rw [fa_le] at h2
  omega
/-! ===== small literals as numbers ===== -/
theorem fa_lit (n : Nat) : (OfNat.ofNat n : Int32) = nI n := rfl
theorem fa_litL (n : Nat) : (OfNat.ofNat n : Int64) = lN n := rfl
/-! ===== bits of a number: 'or', masks, one bit ===== -/
theorem fa_and (a b : Nat) : nI a &&& nI b = nI (a &&& b) := by
  apply Int32.toBitVec_inj.1
  show BitVec.ofNat 32 a &&& BitVec.ofNat 32 b = BitVec.ofNat 32 (a &&& b)
  apply BitVec.eq_of_getLsbD_eq
  intro i hi
  simp [hi]
theorem fa_or (a b : Nat) : nI a ||| nI b = nI (a ||| b) := by
  apply Int32.toBitVec_inj.1
  show BitVec.ofNat 32 a ||| BitVec.ofNat 32 b = BitVec.ofNat 32 (a ||| b)
  apply BitVec.eq_of_getLsbD_eq
  intro i hi
  simp [hi]
/-- a remainder by a power of two, as a mask -/
theorem fa_mask (n k : Nat) : nI n &&& nI (2 ^ k - 1) = nI (n % 2 ^ k) := by rw [fa_and, Nat.and_two_pow_sub_one_eq_mod]
/-- 'or' of a high part and a low one that don't meet is their sum -/
theorem fa_or_sum {a k : Nat} (b : Nat) (h : a < 2 ^ k) : nI (2 ^ k * b) ||| nI a = nI (2 ^ k * b + a) := by rw [fa_or, Nat.two_pow_add_eq_or_of_lt h]
/-- one bit, by 'and' with a power of two -/
theorem fa_bit {n j : Nat} (hj : j < 31) : nI n &&& nI (2 ^ j) = 0 ↔ n.testBit j = false := by
  have h2 : (2 : Nat) ^ j < 2 ^ 31 := Nat.pow_lt_pow_right (by decide) hj
  have hle : n &&& 2 ^ j ≤ 2 ^ j := Nat.and_le_right
  have e : n &&& 2 ^ j = 0 ↔ n.testBit j = false := by
    constructor
    · intro h
      have h1 : (n &&& 2 ^ j).testBit j = false := by rw [h]; simp
      rw [Nat.testBit_and] at h1
      first | simpa using h1 | simpa [Nat.testBit_two_pow_self] using h1 | simpa [Nat.testBit_two_pow] using h1
    · intro h
      apply Nat.eq_of_testBit_eq
      intro i
      rw [Nat.testBit_and]
      by_cases hi : j = i
      · subst hi; simp [h]
      · first | (simp [Nat.testBit_two_pow, hi]; done) | (simp [Nat.testBit_two_pow_of_ne hi]; done)
  rw [fa_and]
  constructor
  · intro h
    apply e.mp
    rcases Nat.eq_zero_or_pos (n &&& 2 ^ j) with z | z
    · exact z
    · exact absurd h (nI_ne0 z (Nat.lt_of_le_of_lt hle h2))
  · intro h
    rw [e.mpr h]; exact nI_0
/-- a remainder by a power of two of a number that isn't negative, as Java divides -/
theorem fa_rem {a k : Nat} (ha : a < 2 ^ 31) (hk : k < 31) : nI a - nI a / nI (2 ^ k) * nI (2 ^ k) = nI (a % 2 ^ k) := pk_rem ha (Nat.two_pow_pos k) (Nat.pow_lt_pow_right (by decide) hk)
/-! ===== cuts to a byte, a short ===== -/
theorem fa_byte_xor (x y : Int32) : (x ^^^ y).toInt8 = x.toInt8 ^^^ y.toInt8 := by
  apply Int8.toBitVec_inj.1
  apply BitVec.eq_of_getLsbD_eq
  intro i hi
  first | (simp [hi]; done) | (simp [hi, BitVec.getLsbD_setWidth, BitVec.getLsbD_signExtend]; done)
theorem fa_short_xor (x y : Int32) : (x ^^^ y).toInt16 = x.toInt16 ^^^ y.toInt16 := by
  apply Int16.toBitVec_inj.1
  apply BitVec.eq_of_getLsbD_eq
  intro i hi
  first | (simp [hi]; done) | (simp [hi, BitVec.getLsbD_setWidth, BitVec.getLsbD_signExtend]; done)
/-- the cut to a byte sees the low byte alone -/
theorem fa_byte_low (x : Int32) : (x &&& 255).toInt8 = x.toInt8 := by
  apply Int8.toBitVec_inj.1
  apply BitVec.eq_of_getLsbD_eq
  intro i hi
  have h2 : (255 : Int32).toBitVec.getLsbD i = true := by
    have : ∀ j : Fin 8, (255 : Int32).toBitVec.getLsbD j.val = true := by decide +kernel
    exact this ⟨i, hi⟩
  have h4 : (x &&& 255).toBitVec.getLsbD i = x.toBitVec.getLsbD i := by
    show (x.toBitVec &&& (255 : Int32).toBitVec).getLsbD i = _
    rw [BitVec.getLsbD_and, h2, Bool.and_true]
  have h3 : i < 32 := by omega
  first
    | (show (((x &&& 255).toBitVec).signExtend 8).getLsbD i = (x.toBitVec.signExtend 8).getLsbD i; rw [BitVec.getLsbD_signExtend, BitVec.getLsbD_signExtend, if_pos h3, if_pos h3, h4])
    | (show (((x &&& 255).toBitVec).setWidth 8).getLsbD i = (x.toBitVec.setWidth 8).getLsbD i; rw [BitVec.getLsbD_setWidth, BitVec.getLsbD_setWidth, h4])
    | (simp [hi, h3, h4]; done)
theorem fa_short_low (x : Int32) : (x &&& 65535).toInt16 = x.toInt16 := by
  apply Int16.toBitVec_inj.1
  apply BitVec.eq_of_getLsbD_eq
  intro i hi
  have h2 : (65535 : Int32).toBitVec.getLsbD i = true := by
    have : ∀ j : Fin 16, (65535 : Int32).toBitVec.getLsbD j.val = true := by decide +kernel
    exact this ⟨i, hi⟩
  have h4 : (x &&& 65535).toBitVec.getLsbD i = x.toBitVec.getLsbD i := by
    show (x.toBitVec &&& (65535 : Int32).toBitVec).getLsbD i = _
    rw [BitVec.getLsbD_and, h2, Bool.and_true]
  have h3 : i < 32 := by omega
  first
    | (show (((x &&& 65535).toBitVec).signExtend 16).getLsbD i = (x.toBitVec.signExtend 16).getLsbD i; rw [BitVec.getLsbD_signExtend, BitVec.getLsbD_signExtend, if_pos h3, if_pos h3, h4])
    | (show (((x &&& 65535).toBitVec).setWidth 16).getLsbD i = (x.toBitVec.setWidth 16).getLsbD i; rw [BitVec.getLsbD_setWidth, BitVec.getLsbD_setWidth, h4])
    | (simp [hi, h3, h4]; done)
/-- a small number is its own byte, its own short -/
theorem fa_byte_small {n : Nat} (h : n < 128) : (nI n).toInt8.toInt32 = nI n := by
  have : ∀ j : Fin 128, (nI j.val).toInt8.toInt32 = nI j.val := by decide +kernel
  exact this ⟨n, h⟩
/-! ===== absolute difference ===== -/
theorem fa_absdiff {a b : Nat} (ha : a < 2 ^ 31) (hb : b < 2 ^ 31) : (if nI a < nI b then nI b - nI a else nI a - nI b) = nI (if a < b then b - a else a - b) := by
  by_cases h : a < b
  · rw [if_pos (nI_lt h hb), if_pos h]
    exact pk_sub (Nat.le_of_lt h)
  · rw [if_neg (nI_nlt (Nat.le_of_not_lt h) ha), if_neg h]
    exact pk_sub (Nat.le_of_not_lt h)
/-! ===== an array behind i stores, a conditional store, a row copied ===== -/
/-- f where k < i, what stood there else -/
def fa_fill {α : Type} (f g : Nat → α) (i : Nat) : Nat → α := fun k => if k < i then f k else g k
theorem fa_fill_0 {α : Type} (f g : Nat → α) : fa_fill f g 0 = g := funext fun k => if_neg (Nat.not_lt_zero k)
theorem fa_fill_in {α : Type} {f g : Nat → α} {i k : Nat} (h : k < i) : fa_fill f g i k = f k := if_pos h
theorem fa_fill_out {α : Type} {f g : Nat → α} {i k : Nat} (h : i ≤ k) : fa_fill f g i k = g k := if_neg (Nat.not_lt.mpr h)
theorem fa_fill_succ (f g : Nat → Int32) (i : Nat) : upd (fa_fill f g i) i (f i) = fa_fill f g (i + 1) := by
  funext k
  by_cases e : k = i
  · subst e
    rw [pk_us]
    exact (if_pos (Nat.lt_succ_self k)).symm
  · rw [pk_un e]
    by_cases h : k < i
    · rw [fa_fill_in h, fa_fill_in (Nat.lt_succ_of_lt h)]
    · rw [fa_fill_out (Nat.le_of_not_lt h), fa_fill_out (by omega)]
/-- a store that changes nothing -/
theorem fa_upd_same {f : Nat → Int32} {i : Nat} {x : Int32} (h : f i = x) : upd f i x = f := by
  funext k
  by_cases e : k = i
  · subst e
    rw [pk_us, h]
  · rw [pk_un e]
/-- a store under a condition, told as one -/
theorem fa_upd_if (c : Prop) [Decidable c] (f : Nat → Int32) (i : Nat) (x : Int32) : (if c then upd f i x else f) = upd f i (if c then x else f i) := by
  by_cases h : c
  · rw [if_pos h, if_pos h]
  · rw [if_neg h, if_neg h, fa_upd_same rfl]
/-- two stores at one place, at two -/
theorem fa_upd_twice (f : Nat → Int32) (i : Nat) (x y : Int32) : upd (upd f i x) i y = upd f i y := by
  funext k
  by_cases e : k = i
  · subst e
    rw [pk_us, pk_us]
  · rw [pk_un e, pk_un e, pk_un e]
theorem fa_upd_swap (f : Nat → Int32) {i j : Nat} (h : i ≠ j) (x y : Int32) : upd (upd f i x) j y = upd (upd f j y) i x := by
  funext k
  by_cases e : k = i
  · subst e
    rw [pk_un h, pk_us, pk_us]
  · by_cases e2 : k = j
    · subst e2
      rw [pk_us, pk_un e, pk_us]
    · rw [pk_un e2, pk_un e, pk_un e, pk_un e2]
/-! ===== the first index with a property; a count ===== -/
/-- the first k < n with p k, n if there is none -/
def fa_first (p : Nat → Bool) : Nat → Nat
  | 0 => 0
  | n + 1 => if fa_first p n < n then fa_first p n else if p n then n else n + 1
theorem fa_first_le (p : Nat → Bool) : ∀ n, fa_first p n ≤ n
  | 0 => Nat.le_refl 0
  | n + 1 => by
    have ih := fa_first_le p n
    unfold fa_first
    split
    · omega
    · split
      · omega
      · omega
theorem fa_first_no (p : Nat → Bool) : ∀ n k, k < fa_first p n → p k = false
  | 0, k, h => absurd h (Nat.not_lt_zero k)
  | n + 1, k, h => by
    have ih := fa_first_no p n
    have hl := fa_first_le p n
    unfold fa_first at h
    split at h
    · exact ih k h
    · rename_i h1
      split at h
      · exact ih k (by omega)
      · rename_i h2
        by_cases e : k = n
        · subst e
          exact Bool.eq_false_iff.mpr h2
        · exact ih k (by omega)
theorem fa_first_yes (p : Nat → Bool) : ∀ n, fa_first p n < n → p (fa_first p n) = true
  | 0, h => absurd h (Nat.not_lt_zero _)
  | n + 1, h => by
    have ih := fa_first_yes p n
    have hl := fa_first_le p n
    unfold fa_first at h ⊢
    split at h
    · rename_i h1
      rw [if_pos h1]
      exact ih h1
    · rename_i h1
      rw [if_neg h1]
      split at h
      · rename_i h2
        rw [if_pos h2]
        exact h2
      · omega
/-- how many k < n have p k -/
def fa_cnt (p : Nat → Bool) : Nat → Nat
  | 0 => 0
  | n + 1 => fa_cnt p n + if p n then 1 else 0
theorem fa_cnt_le (p : Nat → Bool) : ∀ n, fa_cnt p n ≤ n
  | 0 => Nat.le_refl 0
  | n + 1 => by
    have ih := fa_cnt_le p n
    unfold fa_cnt
    split
    · omega
    · omega
theorem fa_cnt_yes {p : Nat → Bool} {n : Nat} (h : p n = true) : fa_cnt p (n + 1) = fa_cnt p n + 1 := by rw [fa_cnt, if_pos h]
theorem fa_cnt_no {p : Nat → Bool} {n : Nat} (h : p n = false) : fa_cnt p (n + 1) = fa_cnt p n := by rw [fa_cnt, if_neg (by rw [h]; decide)]; rfl
theorem fa_cnt_cong {p q : Nat → Bool} : ∀ {n : Nat}, (∀ k, k < n → p k = q k) → fa_cnt p n = fa_cnt q n
  | 0, _ => rfl
  | n + 1, h => by rw [fa_cnt, fa_cnt, fa_cnt_cong (fun k hk => h k (Nat.lt_succ_of_lt hk)), h n (Nat.lt_succ_self n)]
/-! ===== an answer carried into a post; a branch on a boolean answer ===== -/
theorem fa_post {α : Type} {P : α → Prop} {x y : α} (h : x = y) (hp : P y) : P x := h ▸ hp
theorem fa_post2 {α β : Type} {P : α → β → Prop} {x y : α} {u v : β} (h : x = y) (h2 : u = v) (hp : P y v) : P x u := h ▸ h2 ▸ hp
theorem fa_bool {r : Int32} {b : Bool} (h : r = if b then 1 else 0) : (r = 0 ↔ b = false) ∧ (¬ r = 0 ↔ b = true) := by
  subst h
  cases b
  · exact ⟨⟨fun _ => rfl, fun _ => rfl⟩, ⟨fun h => absurd rfl h, fun h => absurd h (by decide)⟩⟩
  · exact ⟨⟨fun h => absurd h (by decide), fun h => absurd h (by decide)⟩, ⟨fun _ => rfl, fun _ => by decide⟩⟩
/-- a boolean's narrowing changes nothing -/
theorem fa_bool_and {r : Int32} (h : r = 0 ∨ r = 1) : r &&& 1 = r := by
  rcases h with rfl | rfl
  · decide
  · decide
theorem fa_bool_prop {c : Prop} [Decidable c] {r : Int32} (h : r = if c then 1 else 0) : (r = 0 ↔ ¬ c) ∧ (¬ r = 0 ↔ c) := by
  subst h
  by_cases hc : c
  · rw [if_pos hc]
    exact ⟨⟨fun h => absurd h (by decide), fun h => absurd hc h⟩, ⟨fun _ => hc, fun _ => by decide⟩⟩
  · rw [if_neg hc]
    exact ⟨⟨fun _ => hc, fun _ => rfl⟩, ⟨fun h => absurd rfl h, fun h => absurd h hc⟩⟩
end
section
/-! plain facts to paste, each family by itself; over the kit's nI, lN and upd -/
/-! ===== drawers: more things than places ===== -/
theorem fb_holes : ∀ (m n : Nat) (f : Nat → Nat), (∀ i, i < n → f i < m) → (∀ i j, i < j → j < n → f i ≠ f j) → n ≤ m := by
  intro m
  induction m with
  | zero =>
    intro n f h1 _
    rcases Nat.eq_zero_or_pos n with h | h
    · omega
    · exact absurd (h1 0 h) (Nat.not_lt_zero _)
  | succ m ih =>
    intro n f h1 h2
    by_cases hx : ∃ i, i < n ∧ f i = m
    · obtain ⟨a, ha, hfa⟩ := hx
      have hg := ih (n - 1) (fun i => if i < a then f i else f (i + 1)) (by
        intro i hi
        by_cases q : i < a
        · simp only [if_pos q]
          have b1 := h1 i (by omega)
          have b2 := h2 i a q ha
          omega
        · simp only [if_neg q]
          have b1 := h1 (i + 1) (by omega)
          have b2 := h2 a (i + 1) (by omega) (by omega)
          omega) (by
        intro i j hij hj
        by_cases q : i < a
        · by_cases r : j < a
          · simp only [if_pos q, if_pos r]
            exact h2 i j hij (by omega)
          · simp only [if_pos q, if_neg r]
            exact h2 i (j + 1) (by omega) (by omega)
        · have r : ¬ j < a := by omega
          simp only [if_neg q, if_neg r]
          exact h2 (i + 1) (j + 1) (by omega) (by omega))
      omega
    · have hg := ih n f (fun i hi => by
        have b1 := h1 i hi
        have b2 : f i ≠ m := fun e => hx ⟨i, hi, e⟩
        omega) h2
      omega
/-- two of them in one place -/
theorem fb_twice {m n : Nat} {f : Nat → Nat} (h : ∀ i, i < n → f i < m) (hm : m < n) : ∃ i j, i < j ∧ j < n ∧ f i = f j := by
  refine Classical.byContradiction fun hx => ?_
  have := fb_holes m n f h (fun i j hij hj e => hx ⟨i, j, hij, hj, e⟩)
  omega
/-- as many as places, none twice: each place is taken -/
theorem fb_onto {n : Nat} {f : Nat → Nat} (h : ∀ i, i < n → f i < n) (h2 : ∀ i j, i < j → j < n → f i ≠ f j) {y : Nat} (hy : y < n) : ∃ i, i < n ∧ f i = y := by
  refine Classical.byContradiction fun hx => ?_
  have hne : ∀ i, i < n → f i ≠ y := fun i hi e => hx ⟨i, hi, e⟩
  have := fb_holes (n - 1) n (fun i => if f i < y then f i else f i - 1) (by
    intro i hi
    have b1 := h i hi
    have b2 := hne i hi
    by_cases q : f i < y
    · simp only [if_pos q]; omega
    · simp only [if_neg q]; omega) (by
    intro i j hij hj
    have b1 := hne i (by omega)
    have b2 := hne j hj
    have b3 := h2 i j hij hj
    by_cases q : f i < y
    · by_cases r : f j < y
      · simp only [if_pos q, if_pos r]; exact b3
      · simp only [if_pos q, if_neg r]; omega
    · by_cases r : f j < y
      · simp only [if_neg q, if_pos r]; omega
      · simp only [if_neg q, if_neg r]; omega)
  omega
/-! ===== how many places have a property ===== -/
def fb_ct (p : Nat → Bool) : Nat → Nat
  | 0 => 0
  | n + 1 => fb_ct p n + (if p n then 1 else 0)
theorem fb_ct_succ (p : Nat → Bool) (n : Nat) : fb_ct p (n + 1) = fb_ct p n + (if p n then 1 else 0) := rfl
theorem fb_ct_le (p : Nat → Bool) : ∀ n, fb_ct p n ≤ n
  | 0 => Nat.le_refl _
  | n + 1 => by
    have h := fb_ct_le p n
    rw [fb_ct_succ]
    split <;> omega
theorem fb_ct_step (p : Nat → Bool) (m : Nat) : ∀ n, fb_ct p m ≤ fb_ct p (m + n)
  | 0 => Nat.le_refl _
  | n + 1 => by
    have h := fb_ct_step p m n
    show fb_ct p m ≤ fb_ct p (m + n + 1)
    rw [fb_ct_succ]
    omega
theorem fb_ct_mono (p : Nat → Bool) {m n : Nat} (h : m ≤ n) : fb_ct p m ≤ fb_ct p n := by
  have := fb_ct_step p m (n - m)
  rwa [Nat.add_sub_cancel' h] at this
theorem fb_ct_cong {p q : Nat → Bool} : ∀ {n : Nat}, (∀ k, k < n → p k = q k) → fb_ct p n = fb_ct q n
  | 0, _ => rfl
  | n + 1, h => by
    rw [fb_ct_succ, fb_ct_succ, fb_ct_cong (fun k hk => h k (by omega)), h n (by omega)]
/-- one place changed -/
theorem fb_ct_out (p : Nat → Bool) (b : Bool) {i n : Nat} (h : n ≤ i) : fb_ct (fun k => if k = i then b else p k) n = fb_ct p n :=
  fb_ct_cong fun k hk => if_neg (by omega)
theorem fb_ct_upd (p : Nat → Bool) (b : Bool) {i : Nat} : ∀ {n : Nat}, i < n → fb_ct (fun k => if k = i then b else p k) n + (if p i then 1 else 0) = fb_ct p n + (if b then 1 else 0)
  | 0, h => absurd h (Nat.not_lt_zero i)
  | n + 1, h => by
    rw [fb_ct_succ, fb_ct_succ]
    rcases Nat.lt_or_ge i n with q | q
    · have := fb_ct_upd p b q
      have e : (if n = i then b else p n) = p n := if_neg (by omega)
      rw [e]
      omega
    · have e : i = n := by omega
      subst e
      rw [fb_ct_out p b (Nat.le_refl _)]
      simp only [if_true]
      omega
theorem fb_ct_sub {p q : Nat → Bool} : ∀ {n : Nat}, (∀ k, k < n → p k = true → q k = true) → fb_ct p n ≤ fb_ct q n
  | 0, _ => Nat.le_refl _
  | n + 1, h => by
    have h1 := fb_ct_sub (n := n) (p := p) (q := q) (fun k hk => h k (by omega))
    have h2 := h n (by omega)
    rw [fb_ct_succ, fb_ct_succ]
    cases hp : p n <;> cases hq : q n <;> simp_all <;> omega
theorem fb_ct_or {p q : Nat → Bool} : ∀ {n : Nat}, (∀ k, k < n → ¬ (p k = true ∧ q k = true)) → fb_ct (fun k => p k || q k) n = fb_ct p n + fb_ct q n
  | 0, _ => rfl
  | n + 1, h => by
    have h1 := fb_ct_or (n := n) (p := p) (q := q) (fun k hk => h k (by omega))
    have h2 := h n (by omega)
    rw [fb_ct_succ, fb_ct_succ, fb_ct_succ, h1]
    cases hp : p n <;> cases hq : q n <;> simp_all <;> omega
theorem fb_ct_not (p : Nat → Bool) : ∀ n, fb_ct p n + fb_ct (fun k => !p k) n = n
  | 0 => rfl
  | n + 1 => by
    have h := fb_ct_not p n
    rw [fb_ct_succ, fb_ct_succ]
    cases p n <;> simp <;> omega
theorem fb_ct_split (p : Nat → Bool) (m : Nat) : ∀ n, fb_ct p (m + n) = fb_ct p m + fb_ct (fun k => p (m + k)) n
  | 0 => rfl
  | n + 1 => by
    have h := fb_ct_split p m n
    show fb_ct p (m + n + 1) = _
    rw [fb_ct_succ, fb_ct_succ, h, Nat.add_assoc]
theorem fb_ct_zero {p : Nat → Bool} : ∀ {n : Nat}, fb_ct p n = 0 ↔ ∀ k, k < n → p k = false
  | 0 => ⟨fun _ k hk => absurd hk (Nat.not_lt_zero k), fun _ => rfl⟩
  | n + 1 => by
    have h := fb_ct_zero (p := p) (n := n)
    rw [fb_ct_succ]
    constructor
    · intro e k hk
      have e1 : fb_ct p n = 0 := by omega
      rcases Nat.lt_or_ge k n with q | q
      · exact h.mp e1 k q
      · have ek : k = n := by omega
        subst ek
        cases hp : p k
        · rfl
        · simp [hp] at e
    · intro a
      rw [h.mpr (fun k hk => a k (by omega)), a n (by omega)]
      rfl
theorem fb_ct_pos {p : Nat → Bool} {n : Nat} : 0 < fb_ct p n ↔ ∃ k, k < n ∧ p k = true := by
  constructor
  · intro h
    refine Classical.byContradiction fun hx => ?_
    have := fb_ct_zero.mpr (fun k hk => by
      cases hp : p k
      · rfl
      · exact absurd ⟨k, hk, hp⟩ hx : ∀ k, k < n → p k = false)
    omega
  · rintro ⟨k, hk, hp⟩
    rcases Nat.eq_zero_or_pos (fb_ct p n) with e | e
    · have := fb_ct_zero.mp e k hk
      rw [this] at hp
      cases hp
    · exact e
theorem fb_ct_all {p : Nat → Bool} {n : Nat} : fb_ct p n = n ↔ ∀ k, k < n → p k = true := by
  have h := fb_ct_not p n
  constructor
  · intro e k hk
    have z : fb_ct (fun k => !p k) n = 0 := by omega
    have := fb_ct_zero.mp z k hk
    cases hp : p k
    · simp [hp] at this
    · rfl
  · intro a
    have z : fb_ct (fun k => !p k) n = 0 := fb_ct_zero.mpr (fun k hk => by simp [a k hk])
    omega
/-- the k-th place with the property -/
theorem fb_ct_kth {p : Nat → Bool} {k : Nat} : ∀ {n : Nat}, k < fb_ct p n → ∃ i, i < n ∧ p i = true ∧ fb_ct p i = k
  | 0, h => absurd h (Nat.not_lt_zero k)
  | n + 1, h => by
    rcases Nat.lt_or_ge k (fb_ct p n) with q | q
    · obtain ⟨i, h1, h2⟩ := fb_ct_kth q
      exact ⟨i, by omega, h2⟩
    · rw [fb_ct_succ] at h
      cases hp : p n
      · simp [hp] at h; omega
      · simp [hp] at h
        exact ⟨n, by omega, hp, by omega⟩
theorem fb_ct_kth_one {p : Nat → Bool} {i j : Nat} (hi : p i = true) (hj : p j = true) (e : fb_ct p i = fb_ct p j) : i = j := by
  have key : ∀ a b : Nat, a < b → p a = true → fb_ct p a < fb_ct p b := by
    intro a b hab ha
    have h := fb_ct_mono p (show a + 1 ≤ b from hab)
    rw [fb_ct_succ, ha] at h
    simp at h
    omega
  rcases Nat.lt_trichotomy i j with q | q | q
  · have := key i j q hi; omega
  · exact q
  · have := key j i q hj; omega
/-! ===== sums over a range: one place changed, parts, bounds ===== -/
def fb_sm (f : Nat → Nat) : Nat → Nat
  | 0 => 0
  | n + 1 => fb_sm f n + f n
theorem fb_sm_succ (f : Nat → Nat) (n : Nat) : fb_sm f (n + 1) = fb_sm f n + f n := rfl
theorem fb_sm_cong {f g : Nat → Nat} : ∀ {n : Nat}, (∀ k, k < n → f k = g k) → fb_sm f n = fb_sm g n
  | 0, _ => rfl
  | n + 1, h => by rw [fb_sm_succ, fb_sm_succ, fb_sm_cong (fun k hk => h k (by omega)), h n (by omega)]
theorem fb_sm_out (f : Nat → Nat) (v : Nat) {i n : Nat} (h : n ≤ i) : fb_sm (fun k => if k = i then v else f k) n = fb_sm f n :=
  fb_sm_cong fun k hk => if_neg (by omega)
theorem fb_sm_upd (f : Nat → Nat) (v : Nat) {i : Nat} : ∀ {n : Nat}, i < n → fb_sm (fun k => if k = i then v else f k) n + f i = fb_sm f n + v
  | 0, h => absurd h (Nat.not_lt_zero i)
  | n + 1, h => by
    rw [fb_sm_succ, fb_sm_succ]
    rcases Nat.lt_or_ge i n with q | q
    · have := fb_sm_upd f v q
      have e : (if n = i then v else f n) = f n := if_neg (by omega)
      rw [e]
      omega
    · have e : i = n := by omega
      subst e
      rw [fb_sm_out f v (Nat.le_refl _)]
      simp only [if_true]
      omega
theorem fb_sm_add (f g : Nat → Nat) : ∀ n, fb_sm (fun k => f k + g k) n = fb_sm f n + fb_sm g n
  | 0 => rfl
  | n + 1 => by
    have h := fb_sm_add f g n
    rw [fb_sm_succ, fb_sm_succ, fb_sm_succ, h]
    omega
theorem fb_sm_le {f g : Nat → Nat} : ∀ {n : Nat}, (∀ k, k < n → f k ≤ g k) → fb_sm f n ≤ fb_sm g n
  | 0, _ => Nat.le_refl _
  | n + 1, h => by
    have h1 := fb_sm_le (n := n) (f := f) (g := g) (fun k hk => h k (by omega))
    have h2 := h n (by omega)
    rw [fb_sm_succ, fb_sm_succ]
    omega
theorem fb_sm_const (c : Nat) : ∀ n, fb_sm (fun _ => c) n = n * c
  | 0 => by rw [Nat.zero_mul]; rfl
  | n + 1 => by rw [fb_sm_succ, fb_sm_const c n, Nat.succ_mul]
theorem fb_sm_bound {f : Nat → Nat} {c n : Nat} (h : ∀ k, k < n → f k ≤ c) : fb_sm f n ≤ n * c := by
  rw [← fb_sm_const c n]
  exact fb_sm_le h
theorem fb_sm_mono (f : Nat → Nat) (m : Nat) : ∀ n, fb_sm f m ≤ fb_sm f (m + n)
  | 0 => Nat.le_refl _
  | n + 1 => by
    have h := fb_sm_mono f m n
    show fb_sm f m ≤ fb_sm f (m + n + 1)
    rw [fb_sm_succ]
    omega
theorem fb_sm_part (f : Nat → Nat) {i n : Nat} (h : i < n) : fb_sm f i + f i ≤ fb_sm f n := by
  have := fb_sm_mono f (i + 1) (n - (i + 1))
  rw [fb_sm_succ, show i + 1 + (n - (i + 1)) = n by omega] at this
  exact this
theorem fb_sm_split (f : Nat → Nat) (m : Nat) : ∀ n, fb_sm f (m + n) = fb_sm f m + fb_sm (fun k => f (m + k)) n
  | 0 => rfl
  | n + 1 => by
    have h := fb_sm_split f m n
    show fb_sm f (m + n + 1) = _
    rw [fb_sm_succ, fb_sm_succ, h, Nat.add_assoc]
theorem fb_sm_zero {f : Nat → Nat} {n : Nat} (h : fb_sm f n = 0) : ∀ k, k < n → f k = 0 := fun k hk => by
  have := fb_sm_part f hk
  omega
/-- the same over whole numbers -/
def fb_si (f : Nat → Int) : Nat → Int
  | 0 => 0
  | n + 1 => fb_si f n + f n
theorem fb_si_succ (f : Nat → Int) (n : Nat) : fb_si f (n + 1) = fb_si f n + f n := rfl
theorem fb_si_cong {f g : Nat → Int} : ∀ {n : Nat}, (∀ k, k < n → f k = g k) → fb_si f n = fb_si g n
  | 0, _ => rfl
  | n + 1, h => by rw [fb_si_succ, fb_si_succ, fb_si_cong (fun k hk => h k (by omega)), h n (by omega)]
theorem fb_si_out (f : Nat → Int) (v : Int) {i n : Nat} (h : n ≤ i) : fb_si (fun k => if k = i then v else f k) n = fb_si f n :=
  fb_si_cong fun k hk => if_neg (by omega)
theorem fb_si_upd (f : Nat → Int) (v : Int) {i : Nat} : ∀ {n : Nat}, i < n → fb_si (fun k => if k = i then v else f k) n = fb_si f n - f i + v
  | 0, h => absurd h (Nat.not_lt_zero i)
  | n + 1, h => by
    rw [fb_si_succ, fb_si_succ]
    rcases Nat.lt_or_ge i n with q | q
    · have := fb_si_upd f v q
      have e : (if n = i then v else f n) = f n := if_neg (by omega)
      rw [e]
      omega
    · have e : i = n := by omega
      subst e
      rw [fb_si_out f v (Nat.le_refl _)]
      simp only [if_true]
      omega
theorem fb_si_add (f g : Nat → Int) : ∀ n, fb_si (fun k => f k + g k) n = fb_si f n + fb_si g n
  | 0 => rfl
  | n + 1 => by
    have h := fb_si_add f g n
    rw [fb_si_succ, fb_si_succ, fb_si_succ, h]
    omega
theorem fb_si_sub (f g : Nat → Int) : ∀ n, fb_si (fun k => f k - g k) n = fb_si f n - fb_si g n
  | 0 => rfl
  | n + 1 => by
    have h := fb_si_sub f g n
    rw [fb_si_succ, fb_si_succ, fb_si_succ, h]
    omega
theorem fb_si_mul (c : Int) (f : Nat → Int) : ∀ n, fb_si (fun k => c * f k) n = c * fb_si f n
  | 0 => (Int.mul_zero c).symm
  | n + 1 => by
    have h := fb_si_mul c f n
    rw [fb_si_succ, fb_si_succ, h, Int.mul_add]
theorem fb_si_split (f : Nat → Int) (m : Nat) : ∀ n, fb_si f (m + n) = fb_si f m + fb_si (fun k => f (m + k)) n
  | 0 => (Int.add_zero _).symm
  | n + 1 => by
    have h := fb_si_split f m n
    show fb_si f (m + n + 1) = _
    rw [fb_si_succ, fb_si_succ, h, Int.add_assoc]
theorem fb_si_nat (f : Nat → Nat) : ∀ n, fb_si (fun k => (f k : Int)) n = (fb_sm f n : Int)
  | 0 => rfl
  | n + 1 => by
    have h := fb_si_nat f n
    rw [fb_si_succ, fb_sm_succ, h]
    omega
theorem fb_si_bound {f : Nat → Int} {c : Int} (hc : 0 ≤ c) : ∀ {n : Nat}, (∀ k, k < n → -c ≤ f k ∧ f k ≤ c) → -(n * c) ≤ fb_si f n ∧ fb_si f n ≤ n * c
  | 0, _ => by simp [fb_si]
  | n + 1, h => by
    have h1 := fb_si_bound (n := n) (f := f) hc (fun k hk => h k (by omega))
    have h2 := h n (by omega)
    have e : ((n + 1 : Nat) : Int) * c = n * c + c := by rw [Int.natCast_add, Int.add_mul]; simp
    rw [fb_si_succ, e]
    omega
/-! ===== bits of a long that isn't negative ===== -/
theorem fb_andL (a b : Nat) : lN a &&& lN b = lN (a &&& b) := by
  apply Int64.toBitVec_inj.1
  show BitVec.ofNat 64 a &&& BitVec.ofNat 64 b = BitVec.ofNat 64 (a &&& b)
  apply BitVec.eq_of_getLsbD_eq
  intro i hi
  simp [hi]
theorem fb_orL (a b : Nat) : lN a ||| lN b = lN (a ||| b) := by
  apply Int64.toBitVec_inj.1
  show BitVec.ofNat 64 a ||| BitVec.ofNat 64 b = BitVec.ofNat 64 (a ||| b)
  apply BitVec.eq_of_getLsbD_eq
  intro i hi
  simp [hi]
theorem fb_xorL (a b : Nat) : lN a ^^^ lN b = lN (a ^^^ b) := by
  apply Int64.toBitVec_inj.1
  show BitVec.ofNat 64 a ^^^ BitVec.ofNat 64 b = BitVec.ofNat 64 (a ^^^ b)
  apply BitVec.eq_of_getLsbD_eq
  intro i hi
  simp [hi]
theorem fb_xorI (a b : Nat) : nI a ^^^ nI b = nI (a ^^^ b) := by
  apply Int32.toBitVec_inj.1
  show BitVec.ofNat 32 a ^^^ BitVec.ofNat 32 b = BitVec.ofNat 32 (a ^^^ b)
  apply BitVec.eq_of_getLsbD_eq
  intro i hi
  simp [hi]
theorem fb_maskL (n k : Nat) : lN n &&& lN (2 ^ k - 1) = lN (n % 2 ^ k) := by rw [fb_andL, Nat.and_two_pow_sub_one_eq_mod]
theorem fb_or_sumL {a k : Nat} (b : Nat) (h : a < 2 ^ k) : lN (2 ^ k * b) ||| lN a = lN (2 ^ k * b + a) := by rw [fb_orL, Nat.two_pow_add_eq_or_of_lt h]
theorem fb_lN_inj {a b : Nat} (ha : a < 2 ^ 63) (hb : b < 2 ^ 63) : lN a = lN b ↔ a = b := by
  constructor
  · intro h
    have h1 : (BitVec.ofNat 64 a).toNat = (BitVec.ofNat 64 b).toNat := congrArg (fun x : Int64 => x.toBitVec.toNat) h
    rw [BitVec.toNat_ofNat, BitVec.toNat_ofNat, Nat.mod_eq_of_lt (by omega), Nat.mod_eq_of_lt (by omega)] at h1
    exact h1
  · rintro rfl; rfl
theorem fb_bit_nat (n j : Nat) : n &&& 2 ^ j = 0 ↔ n.testBit j = false := by
  constructor
  · intro h
    have h1 : (n &&& 2 ^ j).testBit j = false := by rw [h]; simp
    rw [Nat.testBit_and] at h1
    simpa using h1
  · intro h
    apply Nat.eq_of_testBit_eq
    intro i
    rw [Nat.testBit_and]
    by_cases hi : j = i
    · subst hi; simp [h]
    · first | (simp [Nat.testBit_two_pow, hi]; done) | (simp [Nat.testBit_two_pow_of_ne hi]; done)
/-- one bit of a long -/
theorem fb_bitL {n j : Nat} (hj : j < 63) : lN n &&& lN (2 ^ j) = 0 ↔ n.testBit j = false := by
  have h2 : (2 : Nat) ^ j < 2 ^ 63 := Nat.pow_lt_pow_right (by decide) hj
  have hle : n &&& 2 ^ j ≤ 2 ^ j := Nat.and_le_right
  rw [fb_andL, ← fb_bit_nat, show (0 : Int64) = lN 0 from rfl]
  exact fb_lN_inj (by omega) (by decide)
/-- a bit set, a bit taken off -/
theorem fb_bit_set (n j i : Nat) : (n ||| 2 ^ j).testBit i = (n.testBit i || decide (i = j)) := by
  rw [Nat.testBit_or]
  by_cases h : j = i
  · subst h; simp
  · have h2 : ¬ i = j := fun e => h e.symm
    first | (simp [Nat.testBit_two_pow, h, h2]; done) | (simp [Nat.testBit_two_pow_of_ne h, h2]; done)
theorem fb_bit_flip (n j i : Nat) : (n ^^^ 2 ^ j).testBit i = (n.testBit i ^^ decide (i = j)) := by
  rw [Nat.testBit_xor]
  by_cases h : j = i
  · subst h; simp
  · have h2 : ¬ i = j := fun e => h e.symm
    first | (simp [Nat.testBit_two_pow, h, h2]; done) | (simp [Nat.testBit_two_pow_of_ne h, h2]; done)
/-! ===== a stretch of an array written over by a function ===== -/
def fb_put {α : Type} (f g : Nat → α) (a n : Nat) : Nat → α := fun k => if a ≤ k ∧ k < a + n then g (k - a) else f k
theorem fb_put_0 {α : Type} (f g : Nat → α) (a : Nat) : fb_put f g a 0 = f := funext fun k => if_neg (by omega)
theorem fb_put_in {α : Type} {f g : Nat → α} {a n k : Nat} (h1 : a ≤ k) (h2 : k < a + n) : fb_put f g a n k = g (k - a) := if_pos ⟨h1, h2⟩
theorem fb_put_out {α : Type} {f g : Nat → α} {a n k : Nat} (h : k < a ∨ a + n ≤ k) : fb_put f g a n k = f k := if_neg (by omega)
theorem fb_put_succ (f g : Nat → Int32) (a n : Nat) : upd (fb_put f g a n) (a + n) (g n) = fb_put f g a (n + 1) := by
  funext k
  by_cases h : k = a + n
  · subst h
    simp [upd, fb_put]
  · by_cases h1 : a ≤ k ∧ k < a + n
    · have h2 : a ≤ k ∧ k < a + (n + 1) := by omega
      simp only [upd, fb_put, if_neg h, if_pos h1, if_pos h2]
    · have h2 : ¬ (a ≤ k ∧ k < a + (n + 1)) := by omega
      simp only [upd, fb_put, if_neg h, if_neg h1, if_neg h2]
/-- .. from the far end down -/
theorem fb_put_down (f g : Nat → Int32) {a n m : Nat} (h : m < n) : upd (fb_put f (fun k => g (k + (m + 1))) (a + (m + 1)) (n - (m + 1))) (a + m) (g m) = fb_put f (fun k => g (k + m)) (a + m) (n - m) := by
  funext k
  by_cases h0 : k = a + m
  · subst h0
    simp only [upd, if_true]
    rw [fb_put_in (by omega) (by omega)]
    exact congrArg g (by omega)
  · simp only [upd, if_neg h0]
    by_cases h1 : a + (m + 1) ≤ k ∧ k < a + (m + 1) + (n - (m + 1))
    · rw [fb_put_in h1.1 h1.2, fb_put_in (by omega) (by omega)]
      exact congrArg g (by omega)
    · rw [fb_put_out (by omega), fb_put_out (by omega)]
theorem fb_put_cong {α : Type} {f f2 g g2 : Nat → α} {a n : Nat} (hf : ∀ k, (k < a ∨ a + n ≤ k) → f k = f2 k) (hg : ∀ k, k < n → g k = g2 k) : fb_put f g a n = fb_put f2 g2 a n := by
  funext k
  by_cases h : a ≤ k ∧ k < a + n
  · rw [fb_put_in h.1 h.2, fb_put_in h.1 h.2, hg _ (by omega)]
  · rw [fb_put_out (by omega), fb_put_out (by omega), hf _ (by omega)]
/-! ===== the least, the first, the best so far; that there is one alone ===== -/
theorem fb_first {p : Nat → Prop} [DecidablePred p] : ∀ {n : Nat}, (∃ i, i < n ∧ p i) → ∃ i, i < n ∧ p i ∧ ∀ j, j < i → ¬ p j
  | 0, h => by obtain ⟨i, hi, -⟩ := h; exact absurd hi (Nat.not_lt_zero i)
  | n + 1, h => by
    by_cases q : ∃ i, i < n ∧ p i
    · obtain ⟨i, h1, h2⟩ := fb_first q
      exact ⟨i, by omega, h2⟩
    · obtain ⟨i, h1, h2⟩ := h
      have e : i = n := by
        rcases Nat.lt_or_ge i n with r | r
        · exact absurd ⟨i, r, h2⟩ q
        · omega
      subst e
      exact ⟨i, by omega, h2, fun j hj hp => q ⟨j, hj, hp⟩⟩
theorem fb_first_one {p : Nat → Prop} {i j : Nat} (hi : p i) (hi2 : ∀ k, k < i → ¬ p k) (hj : p j) (hj2 : ∀ k, k < j → ¬ p k) : i = j := by
  rcases Nat.lt_trichotomy i j with q | q | q
  · exact absurd hi (hj2 i q)
  · exact q
  · exact absurd hj (hi2 j q)
theorem fb_last {p : Nat → Prop} [DecidablePred p] : ∀ {n : Nat}, (∃ i, i < n ∧ p i) → ∃ i, i < n ∧ p i ∧ ∀ j, i < j → j < n → ¬ p j
  | 0, h => by obtain ⟨i, hi, -⟩ := h; exact absurd hi (Nat.not_lt_zero i)
  | n + 1, h => by
    by_cases q : p n
    · exact ⟨n, by omega, q, fun j h1 h2 => by omega⟩
    · obtain ⟨i, h1, h2⟩ := h
      have hi : i < n := by
        rcases Nat.lt_or_ge i n with r | r
        · exact r
        · have e : i = n := by omega
          subst e
          exact absurd h2 q
      obtain ⟨i2, a1, a2, a3⟩ := fb_last (n := n) ⟨i, hi, h2⟩
      refine ⟨i2, by omega, a2, fun j b1 b2 => ?_⟩
      rcases Nat.lt_or_ge j n with r | r
      · exact a3 j b1 r
      · have e : j = n := by omega
        subst e
        exact q
/-- the first greatest -/
theorem fb_best (f : Nat → Int) : ∀ {n : Nat}, 0 < n → ∃ i, i < n ∧ (∀ j, j < n → f j ≤ f i) ∧ ∀ j, j < i → f j < f i
  | 0, h => absurd h (Nat.lt_irrefl 0)
  | 1, _ => ⟨0, by omega, fun j hj => by have e : j = 0 := by omega
                                         subst e; exact Int.le_refl _, fun j hj => absurd hj (Nat.not_lt_zero j)⟩
  | n + 2, _ => by
    obtain ⟨i, h1, h2, h3⟩ := fb_best f (n := n + 1) (by omega)
    by_cases q : f i < f (n + 1)
    · refine ⟨n + 1, by omega, fun j hj => ?_, fun j hj => ?_⟩
      · rcases Nat.lt_or_ge j (n + 1) with r | r
        · have := h2 j r; omega
        · have e : j = n + 1 := by omega
          subst e; exact Int.le_refl _
      · have := h2 j hj; omega
    · refine ⟨i, by omega, fun j hj => ?_, h3⟩
      rcases Nat.lt_or_ge j (n + 1) with r | r
      · exact h2 j r
      · have e : j = n + 1 := by omega
        subst e; omega
theorem fb_best_one {f : Nat → Int} {n i j : Nat} (hi : i < n) (hi2 : ∀ k, k < n → f k ≤ f i) (hi3 : ∀ k, k < i → f k < f i) (hj : j < n) (hj2 : ∀ k, k < n → f k ≤ f j) (hj3 : ∀ k, k < j → f k < f j) : i = j := by
  rcases Nat.lt_trichotomy i j with q | q | q
  · have a := hj3 i q
    have b := hi2 j hj
    omega
  · exact q
  · have a := hi3 j q
    have b := hj2 i hi
    omega
/-- the first least -/
theorem fb_low (f : Nat → Int) {n : Nat} (h : 0 < n) : ∃ i, i < n ∧ (∀ j, j < n → f i ≤ f j) ∧ ∀ j, j < i → f i < f j := by
  obtain ⟨i, h1, h2, h3⟩ := fb_best (fun k => -f k) h
  exact ⟨i, h1, fun j hj => by have := h2 j hj; omega, fun j hj => by have := h3 j hj; omega⟩
/-! ===== signed ints as whole numbers, within bounds ===== -/
theorem fb_rng (x : Int32) : -2147483648 ≤ x.toInt ∧ x.toInt < 2147483648 := by
  have h1 := Int32.le_toInt x
  have h2 := Int32.toInt_lt x
  omega
theorem fb_bmod {z : Int} (h1 : -2147483648 ≤ z) (h2 : z < 2147483648) : z.bmod (2 ^ 32) = z := by
  rw [Int.bmod_eq_of_le (by omega) (by omega)]
theorem fb_addI {x y : Int32} (h1 : -2147483648 ≤ x.toInt + y.toInt) (h2 : x.toInt + y.toInt < 2147483648) : (x + y).toInt = x.toInt + y.toInt := by
  rw [Int32.toInt_add, fb_bmod h1 h2]
theorem fb_subI {x y : Int32} (h1 : -2147483648 ≤ x.toInt - y.toInt) (h2 : x.toInt - y.toInt < 2147483648) : (x - y).toInt = x.toInt - y.toInt := by
  rw [Int32.toInt_sub, fb_bmod h1 h2]
theorem fb_mulI {x y : Int32} (h1 : -2147483648 ≤ x.toInt * y.toInt) (h2 : x.toInt * y.toInt < 2147483648) : (x * y).toInt = x.toInt * y.toInt := by
  rw [Int32.toInt_mul, fb_bmod h1 h2]
theorem fb_negI {x : Int32} (h : x.toInt ≠ -2147483648) : (-x).toInt = -x.toInt := by
  have := fb_rng x
  rw [Int32.toInt_neg, fb_bmod (by omega) (by omega)]
theorem fb_ofI {z : Int} (h1 : -2147483648 ≤ z) (h2 : z < 2147483648) : (Int32.ofInt z).toInt = z := by
  rw [Int32.toInt_ofInt, fb_bmod h1 h2]
theorem fb_asI (x : Int32) : Int32.ofInt x.toInt = x := Int32.ofInt_toInt x
theorem fb_rngL (x : Int64) : -9223372036854775808 ≤ x.toInt ∧ x.toInt < 9223372036854775808 := by
  have h1 := Int64.le_toInt x
  have h2 := Int64.toInt_lt x
  omega
theorem fb_bmodL {z : Int} (h1 : -9223372036854775808 ≤ z) (h2 : z < 9223372036854775808) : z.bmod (2 ^ 64) = z := by
  rw [Int.bmod_eq_of_le (by omega) (by omega)]
theorem fb_addL {x y : Int64} (h1 : -9223372036854775808 ≤ x.toInt + y.toInt) (h2 : x.toInt + y.toInt < 9223372036854775808) : (x + y).toInt = x.toInt + y.toInt := by
  rw [Int64.toInt_add, fb_bmodL h1 h2]
theorem fb_subL {x y : Int64} (h1 : -9223372036854775808 ≤ x.toInt - y.toInt) (h2 : x.toInt - y.toInt < 9223372036854775808) : (x - y).toInt = x.toInt - y.toInt := by
  rw [Int64.toInt_sub, fb_bmodL h1 h2]
theorem fb_mulL {x y : Int64} (h1 : -9223372036854775808 ≤ x.toInt * y.toInt) (h2 : x.toInt * y.toInt < 9223372036854775808) : (x * y).toInt = x.toInt * y.toInt := by
  rw [Int64.toInt_mul, fb_bmodL h1 h2]
/-! ===== cuts of what is narrow already ===== -/
theorem fb_byte {x : Int32} (h1 : -128 ≤ x.toInt) (h2 : x.toInt < 128) : x.toInt8.toInt32 = x := by
  apply Int32.toInt_inj.1
  rw [Int8.toInt_toInt32, Int32.toInt_toInt8, Int.bmod_eq_of_le (by omega) (by omega)]
theorem fb_short {x : Int32} (h1 : -32768 ≤ x.toInt) (h2 : x.toInt < 32768) : x.toInt16.toInt32 = x := by
  apply Int32.toInt_inj.1
  rw [Int16.toInt_toInt32, Int32.toInt_toInt16, Int.bmod_eq_of_le (by omega) (by omega)]
theorem fb_byte_rng (x : Int32) : -128 ≤ x.toInt8.toInt32.toInt ∧ x.toInt8.toInt32.toInt < 128 := by
  rw [Int8.toInt_toInt32]
  have h1 := Int8.le_toInt x.toInt8
  have h2 := Int8.toInt_lt x.toInt8
  omega
theorem fb_short_rng (x : Int32) : -32768 ≤ x.toInt16.toInt32.toInt ∧ x.toInt16.toInt32.toInt < 32768 := by
  rw [Int16.toInt_toInt32]
  have h1 := Int16.le_toInt x.toInt16
  have h2 := Int16.toInt_lt x.toInt16
  omega
theorem fb_byte_twice (x : Int32) : x.toInt8.toInt32.toInt8.toInt32 = x.toInt8.toInt32 := fb_byte (fb_byte_rng x).1 (fb_byte_rng x).2
theorem fb_short_twice (x : Int32) : x.toInt16.toInt32.toInt16.toInt32 = x.toInt16.toInt32 := fb_short (fb_short_rng x).1 (fb_short_rng x).2
theorem fb_char {n : Nat} (h : n < 65536) : (nI n).toUInt32.toUInt16.toUInt32.toInt32 = nI n := by
  apply Int32.toBitVec_inj.1
  apply BitVec.eq_of_toNat_eq
  have e1 : (nI n).toBitVec.toNat = n := by
    show (BitVec.ofNat 32 n).toNat = n
    rw [BitVec.toNat_ofNat, Nat.mod_eq_of_lt (by omega)]
  have e2 : ((nI n).toUInt32.toUInt16.toUInt32).toNat = n := by
    rw [UInt16.toNat_toUInt32, UInt32.toNat_toUInt16]
    show (nI n).toBitVec.toNat % 2 ^ 16 = n
    rw [e1, Nat.mod_eq_of_lt (by omega)]
  rw [e1]
  exact e2
end
section
/-! rows on bits, shifts and unsigned numbers, to paste: each family out of a closed proof of our own, whole with what it rests on; each by itself clean at Lean in its own claim (generation 39, form 5). Take a family whole -/
/-! ===== Int32 by its bits: bt x i ===== -/
def bt (x : Int32) (i : Nat) : Bool := x.toBitVec.getLsbD i
theorem b_ext {x y : Int32} (h : ∀ i, i < 32 → bt x i = bt y i) : x = y := Int32.toBitVec_inj.mp (BitVec.eq_of_getLsbD_eq (fun i hi => h i hi))
theorem b_or (x y : Int32) (i : Nat) : bt (x ||| y) i = (bt x i || bt y i) := by unfold bt; rw [Int32.toBitVec_or, BitVec.getLsbD_or]
theorem b_and (x y : Int32) (i : Nat) : bt (x &&& y) i = (bt x i && bt y i) := by unfold bt; rw [Int32.toBitVec_and, BitVec.getLsbD_and]
theorem b_xor (x y : Int32) (i : Nat) : bt (x ^^^ y) i = (bt x i ^^ bt y i) := by unfold bt; rw [Int32.toBitVec_xor, BitVec.getLsbD_xor]
theorem b_big {x : Int32} {i : Nat} (h : 32 ≤ i) : bt x i = false := BitVec.getLsbD_of_ge _ _ h
theorem b_255 (i : Nat) : bt 255 i = decide (i < 8) := by
  rcases Nat.lt_or_ge i 32 with h | h
  · exact (by decide +kernel : ∀ i, i < 32 → bt 255 i = decide (i < 8)) i h
  · rw [b_big h, decide_eq_false (by omega)]
theorem b_65535 (i : Nat) : bt 65535 i = decide (i < 16) := by
  rcases Nat.lt_or_ge i 32 with h | h
  · exact (by decide +kernel : ∀ i, i < 32 → bt 65535 i = decide (i < 16)) i h
  · rw [b_big h, decide_eq_false (by omega)]
theorem b_m1 : ∀ i, i < 32 → bt (-1) i = true := by decide +kernel
theorem b_0 (i : Nat) : bt 0 i = false := BitVec.getLsbD_zero
theorem s_l : ∀ n, n < 32 → ((nI n &&& 31).toBitVec.smod 32).toNat = n := by decide +kernel
theorem s_u : ∀ n, n < 32 → (((nI n).toUInt32 &&& Int32.toUInt32 31).toBitVec % 32).toNat = n := by decide +kernel
theorem b_shl (n : Nat) (hn : n < 32) (x : Int32) {i : Nat} (hi : i < 32) : bt (x <<< (nI n &&& 31)) i = (decide (n ≤ i) && bt x (i - n)) := by
  unfold bt
  rw [Int32.toBitVec_shiftLeft]
  show (x.toBitVec <<< ((nI n &&& 31).toBitVec.smod 32).toNat).getLsbD i = _
  rw [s_l n hn, BitVec.getLsbD_shiftLeft]
  rcases Nat.lt_or_ge i n with h | h
  · simp [h, Nat.not_le.mpr h]
  · simp [hi, h, Nat.not_lt.mpr h]
theorem b_ushr (n : Nat) (hn : n < 32) (x : Int32) (i : Nat) : bt ((x.toUInt32 >>> ((nI n).toUInt32 &&& Int32.toUInt32 31)).toInt32) i = bt x (n + i) := by
  show (x.toUInt32 >>> ((nI n).toUInt32 &&& Int32.toUInt32 31)).toBitVec.getLsbD i = x.toUInt32.toBitVec.getLsbD (n + i)
  rw [UInt32.toBitVec_shiftRight]
  show (x.toUInt32.toBitVec >>> (((nI n).toUInt32 &&& Int32.toUInt32 31).toBitVec % 32).toNat).getLsbD i = _
  rw [s_u n hn, BitVec.getLsbD_ushiftRight]
theorem b_sshr (n : Nat) (hn : n < 32) (x : Int32) {i : Nat} (hi : i < 32) : bt (x >>> (nI n &&& 31)) i = if n + i < 32 then bt x (n + i) else bt x 31 := by
  unfold bt
  rw [Int32.toBitVec_shiftRight]
  show (x.toBitVec.sshiftRight ((nI n &&& 31).toBitVec.smod 32).toNat).getLsbD i = _
  rw [s_l n hn, BitVec.getLsbD_sshiftRight, BitVec.msb_eq_getLsbD_last]
  simp [hi]
theorem b_shl8 (x : Int32) {i : Nat} (hi : i < 32) : bt (x <<< ((8 : Int32) &&& 31)) i = (decide (8 ≤ i) && bt x (i - 8)) := b_shl 8 (by omega) x hi
theorem b_shl16 (x : Int32) {i : Nat} (hi : i < 32) : bt (x <<< ((16 : Int32) &&& 31)) i = (decide (16 ≤ i) && bt x (i - 16)) := b_shl 16 (by omega) x hi
theorem b_shl24 (x : Int32) {i : Nat} (hi : i < 32) : bt (x <<< ((24 : Int32) &&& 31)) i = (decide (24 ≤ i) && bt x (i - 24)) := b_shl 24 (by omega) x hi
theorem b_sshr8 (x : Int32) {i : Nat} (hi : i < 32) : bt (x >>> ((8 : Int32) &&& 31)) i = if 8 + i < 32 then bt x (8 + i) else bt x 31 := b_sshr 8 (by omega) x hi
/-! ===== nI under and, xor, >>>, one bit, 65535 ===== -/
theorem nx_and (a b : Nat) : nI a &&& nI b = nI (a &&& b) := by
  apply Int32.toBitVec_inj.1
  show BitVec.ofNat 32 a &&& BitVec.ofNat 32 b = BitVec.ofNat 32 (a &&& b)
  apply BitVec.eq_of_getLsbD_eq
  intro i hi
  simp [hi]
theorem nx_xor (a b : Nat) : nI a ^^^ nI b = nI (a ^^^ b) := by
  apply Int32.toBitVec_inj.1
  show BitVec.ofNat 32 a ^^^ BitVec.ofNat 32 b = BitVec.ofNat 32 (a ^^^ b)
  apply BitVec.eq_of_getLsbD_eq
  intro i hi
  simp [hi]
theorem nx_cnt : ∀ j : Fin 32, (UInt32.ofNat j.val &&& Int32.toUInt32 31).toNat % 32 = j.val := by decide +kernel
theorem nx_ush {k j : Nat} (hk : k < 65536) (hj : j < 32) : ((nI k).toUInt32 >>> ((nI j).toUInt32 &&& Int32.toUInt32 31)).toInt32 = nI (k >>> j) := by
  have hs : k >>> j ≤ k := by
    rw [Nat.shiftRight_eq_div_pow]
    exact Nat.div_le_self _ _
  have e2 : UInt32.ofNat k >>> (UInt32.ofNat j &&& Int32.toUInt32 31) = UInt32.ofNat (k >>> j) := by
    apply UInt32.toNat_inj.1
    have h1 : (UInt32.ofNat k).toNat = k := Nat.mod_eq_of_lt (by omega)
    have h2 : (UInt32.ofNat (k >>> j)).toNat = k >>> j := Nat.mod_eq_of_lt (by omega)
    rw [UInt32.toNat_shiftRight, nx_cnt ⟨j, hj⟩, h1, h2]
  show (UInt32.ofNat k >>> (UInt32.ofNat j &&& Int32.toUInt32 31)).toInt32 = _
  rw [e2]
  rfl
theorem nx_bit {k j : Nat} (hk : k < 65536) (hj : j < 16) : (((nI k).toUInt32 >>> ((nI j).toUInt32 &&& Int32.toUInt32 31)).toInt32 &&& 1) = 0 ↔ k.testBit j = false := by
  rw [nx_ush hk (by omega)]
  show nI (k >>> j) &&& nI 1 = 0 ↔ _
  rw [nx_and, Nat.and_one_is_mod, ← nI_0, nI_eq (by omega) (by omega), Nat.testBit_eq_decide_div_mod_eq, Nat.shiftRight_eq_div_pow, decide_eq_false_iff_not]
  generalize k / 2 ^ j = z
  omega
theorem nx_mod (k : Nat) : nI k &&& 65535 = nI (k % 65536) := by
  show nI k &&& nI 65535 = _
  rw [nx_and, show (65535 : Nat) = 2 ^ 16 - 1 from rfl, Nat.and_two_pow_sub_one_eq_mod]
theorem nx_m16 {k : Nat} (h : k < 65536) : nI k &&& 65535 = nI k := by rw [nx_mod, Nat.mod_eq_of_lt h]
theorem nx_mask (x : Int32) : ∃ k, k < 65536 ∧ x &&& 65535 = nI k := by
  have e : x = nI x.toBitVec.toNat := by
    apply Int32.toBitVec_inj.1
    show x.toBitVec = BitVec.ofNat 32 x.toBitVec.toNat
    simp
  refine ⟨x.toBitVec.toNat % 65536, Nat.mod_lt _ (by omega), ?_⟩
  rw [← nx_mod, ← e]
/-! ===== Int32 as a set of bits: test, set ===== -/
def nf_M (m : Int32) : Nat := 4294967296 - m.toBitVec.toNat
theorem nf_sh : ∀ l, l < 32 → ((1 : Int32) <<< (nI l &&& 31)).toBitVec = BitVec.twoPow 32 l := by decide +kernel
theorem nf_sl : ∀ l, l < 32 → (((nI l).toUInt32 &&& Int32.toUInt32 31).toBitVec % 32).toNat = l := by decide +kernel
theorem nf_tp : ∀ l, l < 32 → BitVec.twoPow 32 l ≠ 0#32 := by decide +kernel
theorem nf_bit (m : Int32) (l : Nat) (hl : l < 32) : ((m.toUInt32 >>> ((nI l).toUInt32 &&& Int32.toUInt32 31)).toInt32 &&& 1) = 0 ↔ (m &&& ((1 : Int32) <<< (nI l &&& 31))) = 0 := by
  have e : ((m.toUInt32 >>> ((nI l).toUInt32 &&& Int32.toUInt32 31)).toInt32).toBitVec = m.toBitVec >>> l := by
    show m.toBitVec >>> (((nI l).toUInt32 &&& Int32.toUInt32 31).toBitVec % 32) = m.toBitVec >>> l
    rw [BitVec.ushiftRight_eq', nf_sl l hl]
  rw [← Int32.toBitVec_inj, ← Int32.toBitVec_inj, Int32.toBitVec_and, Int32.toBitVec_and, nf_sh l hl, e, BitVec.and_twoPow]
  show (m.toBitVec >>> l &&& 1#32) = 0#32 ↔ _ = 0#32
  rw [BitVec.and_one_eq_setWidth_ofBool_getLsbD, BitVec.getLsbD_ushiftRight, Nat.add_zero]
  cases hb : m.toBitVec.getLsbD l
  · exact ⟨fun _ => by simp, fun _ => by decide⟩
  · exact ⟨fun z => absurd z (by decide), fun z => absurd ((if_pos rfl).symm.trans z) (nf_tp l hl)⟩
theorem nf_gr (m k : Int32) (h : m &&& k = 0) (hk : k ≠ 0) : nf_M (m ||| k) < nf_M m := by
  have hm := m.toBitVec.isLt
  have hm' := (m ||| k).toBitVec.isLt
  have h1 : m.toBitVec.toNat ≤ (m ||| k).toBitVec.toNat := by
    rw [Int32.toBitVec_or, BitVec.toNat_or]
    exact Nat.left_le_or
  have h2 : m.toBitVec.toNat ≠ (m ||| k).toBitVec.toNat := by
    intro e
    have e2 : m = m ||| k := Int32.toBitVec_inj.mp (BitVec.eq_of_toNat_eq e)
    apply hk
    apply Int32.toBitVec_inj.mp
    show k.toBitVec = 0#32
    apply BitVec.eq_of_getLsbD_eq
    intro i hi
    have a : m.toBitVec.getLsbD i = (m.toBitVec.getLsbD i || k.toBitVec.getLsbD i) := by rw [← BitVec.getLsbD_or, ← Int32.toBitVec_or, ← e2]
    have b : (m.toBitVec.getLsbD i && k.toBitVec.getLsbD i) = false := by
      rw [← BitVec.getLsbD_and, ← Int32.toBitVec_and, h]
      exact BitVec.getLsbD_zero
    rw [BitVec.getLsbD_zero]
    revert a b
    cases m.toBitVec.getLsbD i <;> cases k.toBitVec.getLsbD i <;> simp
  unfold nf_M
  omega
/-! ===== a byte read unsigned ===== -/
theorem bp_b (x : Int32) : x.toInt8.toInt32 &&& 255 = x &&& 255 := by
  apply Int32.toBitVec_inj.mp
  rw [Int32.toBitVec_and, Int32.toBitVec_and, Int8.toBitVec_toInt32, Int32.toBitVec_toInt8]
  apply BitVec.eq_of_getLsbD_eq
  intro i hi
  rw [BitVec.getLsbD_and, BitVec.getLsbD_and]
  have hm : ∀ i < 32, 8 ≤ i → (255 : Int32).toBitVec.getLsbD i = false := by decide
  rcases Nat.lt_or_ge i 8 with z | z
  · rw [BitVec.getLsbD_signExtend, BitVec.getLsbD_signExtend, if_pos z, if_pos hi]
    simp only [z, hi, decide_true, Bool.true_and]
  · rw [hm i hi z]; simp
/-! ===== the char cast and 65535 ===== -/
theorem ts_nf {x : Bool} (h : ¬ x = false) : x = true := by cases x <;> first | rfl | exact absurd rfl h
theorem ts_nt {x : Bool} (h : ¬ x = true) : x = false := by cases x <;> first | rfl | exact absurd rfl h
theorem ts_bit {w : Int64} {s : UInt64} {j : Nat} (hj : j < 64) (hs : s.toNat = j) : ((w.toUInt64 >>> s).toInt64 &&& 1) = 0 ↔ w.toBitVec.getLsbD j = false := by
  have e : (w.toUInt64 >>> s).toInt64.toBitVec = w.toBitVec >>> j := by
    apply BitVec.eq_of_toNat_eq
    show (w.toUInt64 >>> s).toNat = _
    rw [UInt64.toNat_shiftRight, hs, Nat.mod_eq_of_lt hj, BitVec.toNat_ushiftRight]
    rfl
  rw [← Int64.toBitVec_inj, Int64.toBitVec_and, e]
  show w.toBitVec >>> j &&& 1#64 = 0#64 ↔ _
  constructor
  · intro h
    have t := congrArg (fun x => x.getLsbD 0) h
    simpa using t
  · intro h
    apply BitVec.eq_of_getLsbD_eq
    intro i hi
    cases i with
    | zero => simp [h]
    | succ i => simp
theorem ts_or {w m : Int64} {j : Nat} (hj : j < 64) (hm : m.toBitVec = BitVec.twoPow 64 j) : (w ||| m) = w ↔ w.toBitVec.getLsbD j = true := by
  rw [← Int64.toBitVec_inj, Int64.toBitVec_or, hm]
  constructor
  · intro h
    have t := congrArg (fun x => x.getLsbD j) h
    simp only [BitVec.getLsbD_or, BitVec.getLsbD_twoPow] at t
    simpa [hj] using t.symm
  · intro h
    apply BitVec.eq_of_getLsbD_eq
    intro i hi
    rw [BitVec.getLsbD_or, BitVec.getLsbD_twoPow]
    by_cases e : j = i
    · subst e; rw [h, Bool.true_or]
    · simp [e]
theorem ts_and {w m : Int64} {j : Nat} (hj : j < 64) (hm : m.toBitVec = BitVec.twoPow 64 j) : (w &&& (m ^^^ (-1))) = w ↔ w.toBitVec.getLsbD j = false := by
  have ha : (-1 : Int64).toBitVec = BitVec.allOnes 64 := by decide
  rw [← Int64.toBitVec_inj, Int64.toBitVec_and, Int64.toBitVec_xor, hm, ha]
  constructor
  · intro h
    have t := congrArg (fun x => x.getLsbD j) h
    simp only [BitVec.getLsbD_and, BitVec.getLsbD_xor, BitVec.getLsbD_twoPow, BitVec.getLsbD_allOnes] at t
    simpa [hj] using t.symm
  · intro h
    apply BitVec.eq_of_getLsbD_eq
    intro i hi
    rw [BitVec.getLsbD_and, BitVec.getLsbD_xor, BitVec.getLsbD_twoPow, BitVec.getLsbD_allOnes]
    by_cases e : j = i
    · subst e; rw [h, Bool.false_and]
    · simp [e, hi]
/-! ===== lN n to 2^64: shifts, and, or, masks, one bit ===== -/
theorem wb_tb (n : Nat) : (lN n).toBitVec = BitVec.ofNat 64 n := rfl
theorem wb_inj {a b : Int64} (h : a.toBitVec = b.toBitVec) : a = b := Int64.toBitVec_inj.mp h
theorem wb_tn {n : Nat} (h : n < 2 ^ 64) : (lN n).toBitVec.toNat = n := by rw [wb_tb, BitVec.toNat_ofNat, Nat.mod_eq_of_lt h]
theorem wb_of (x : Int64) : ∃ n, n < 2 ^ 64 ∧ x = lN n := ⟨x.toBitVec.toNat, x.toBitVec.isLt, wb_inj (by rw [wb_tb]; simp)⟩
theorem wb_of32 (x : Int32) : ∃ n, n < 2 ^ 32 ∧ x = nI n := ⟨x.toBitVec.toNat, x.toBitVec.isLt, Int32.toBitVec_inj.mp (by show _ = BitVec.ofNat 32 _; simp)⟩
theorem wb_c : ∀ k, k < 64 → ((nI k).toInt64 &&& 63) = lN k := by decide +kernel
theorem wb_cu : ∀ k, k < 64 → ((nI k).toInt64.toUInt64 &&& Int64.toUInt64 63) = UInt64.ofNat k := by decide +kernel
theorem wb_sm : ∀ k, k < 64 → (BitVec.ofNat 64 k).smod 64 = BitVec.ofNat 64 k := by decide +kernel
theorem wb_pw {a b : Nat} (h : a ≤ b) : 2 ^ b = 2 ^ a * 2 ^ (b - a) := by rw [← Nat.pow_add]; congr 1; omega
theorem wb_lt2 {a b : Nat} (h : a < b) : 2 ^ a < 2 ^ b := Nat.pow_lt_pow_right (by decide) h
theorem wb_mod (n : Nat) : lN n = lN (n % 2 ^ 64) := wb_inj (by rw [wb_tb, wb_tb]; apply BitVec.eq_of_toNat_eq; rw [BitVec.toNat_ofNat, BitVec.toNat_ofNat, Nat.mod_mod])
theorem wb_shr {n k : Nat} (hn : n < 2 ^ 64) (hk : k < 64) : ((lN n).toUInt64 >>> ((nI k).toInt64.toUInt64 &&& Int64.toUInt64 63)).toInt64 = lN (n / 2 ^ k) := by
  rw [wb_cu k hk]
  apply wb_inj
  apply BitVec.eq_of_toNat_eq
  show ((lN n).toUInt64 >>> UInt64.ofNat k).toNat = (BitVec.ofNat 64 _).toNat
  have h1 : (UInt64.ofNat k).toNat = k := by
    show (BitVec.ofNat 64 k).toNat = k
    rw [BitVec.toNat_ofNat, Nat.mod_eq_of_lt (by omega)]
  have h2 : (lN n).toUInt64.toNat = n := wb_tn hn
  rw [UInt64.toNat_shiftRight, h1, h2, Nat.mod_eq_of_lt hk, Nat.shiftRight_eq_div_pow, BitVec.toNat_ofNat, Nat.mod_eq_of_lt (Nat.lt_of_le_of_lt (Nat.div_le_self _ _) hn)]
theorem wb_shl (n : Nat) {k : Nat} (hk : k < 64) : lN n <<< ((nI k).toInt64 &&& 63) = lN (n * 2 ^ k) := by
  rw [wb_c k hk]
  apply wb_inj
  rw [Int64.toBitVec_shiftLeft, wb_tb, wb_tb, wb_tb, wb_sm k hk]
  apply BitVec.eq_of_toNat_eq
  rw [BitVec.shiftLeft_eq', BitVec.toNat_shiftLeft, BitVec.toNat_ofNat, BitVec.toNat_ofNat, BitVec.toNat_ofNat, Nat.mod_eq_of_lt (show k < 2 ^ 64 by omega), Nat.shiftLeft_eq, Nat.mul_mod, Nat.mod_mod, ← Nat.mul_mod]
theorem wb_and {a b : Nat} (ha : a < 2 ^ 64) (hb : b < 2 ^ 64) : lN a &&& lN b = lN (a &&& b) := by
  apply wb_inj
  rw [Int64.toBitVec_and, wb_tb, wb_tb, wb_tb]
  apply BitVec.eq_of_toNat_eq
  rw [BitVec.toNat_and, BitVec.toNat_ofNat, BitVec.toNat_ofNat, BitVec.toNat_ofNat, Nat.mod_eq_of_lt ha, Nat.mod_eq_of_lt hb, Nat.mod_eq_of_lt (Nat.and_lt_two_pow _ hb)]
theorem wb_or {a b : Nat} (ha : a < 2 ^ 64) (hb : b < 2 ^ 64) : lN a ||| lN b = lN (a ||| b) := by
  apply wb_inj
  rw [Int64.toBitVec_or, wb_tb, wb_tb, wb_tb]
  apply BitVec.eq_of_toNat_eq
  rw [BitVec.toNat_or, BitVec.toNat_ofNat, BitVec.toNat_ofNat, BitVec.toNat_ofNat, Nat.mod_eq_of_lt ha, Nat.mod_eq_of_lt hb, Nat.mod_eq_of_lt (Nat.or_lt_two_pow ha hb)]
theorem wb_mask {n k : Nat} (hn : n < 2 ^ 64) (hk : k < 64) : lN n &&& lN (2 ^ k - 1) = lN (n % 2 ^ k) := by
  rw [wb_and hn (by have := wb_lt2 hk; omega), Nat.and_two_pow_sub_one_eq_mod]
theorem wb_a1 {n : Nat} (hn : n < 2 ^ 64) : lN n &&& 1 = lN (n % 2) := wb_mask (k := 1) hn (by decide)
theorem wb_bit {n k : Nat} (hn : n < 2 ^ 64) (hk : k < 64) : ((lN n).toUInt64 >>> ((nI k).toInt64.toUInt64 &&& Int64.toUInt64 63)).toInt64 &&& 1 = lN (n / 2 ^ k % 2) := by
  rw [wb_shr hn hk, wb_a1 (Nat.lt_of_le_of_lt (Nat.div_le_self _ _) hn)]
theorem wb_xor {q k : Nat} (hk : k < 63) (h : 2 ^ k ≤ q) (h2 : q < 2 ^ (k + 1)) : lN q ^^^ lN (2 ^ k) = lN (q - 2 ^ k) := by
  obtain ⟨r, rfl⟩ : ∃ r, q = 2 ^ k + r := ⟨q - 2 ^ k, by omega⟩
  have hr : r < 2 ^ k := by rw [Nat.pow_succ] at h2; omega
  have hx : (2 ^ k + r) ^^^ 2 ^ k = r := by
    apply Nat.eq_of_testBit_eq
    intro i
    rw [Nat.testBit_xor, Nat.testBit_two_pow]
    rcases Nat.lt_trichotomy i k with h | h | h
    · rw [Nat.testBit_two_pow_add_gt h]
      simp [show ¬ k = i by omega]
    · subst h
      rw [Nat.testBit_two_pow_add_eq]
      simp
    · have a1 : 2 ^ (k + 1) ≤ 2 ^ i := Nat.pow_le_pow_right (by decide) h
      rw [Nat.testBit_lt_two_pow (show 2 ^ k + r < 2 ^ i by omega), Nat.testBit_lt_two_pow (show r < 2 ^ i by omega)]
      simp [show ¬ k = i by omega]
  have b1 := wb_lt2 (show k + 1 < 64 by omega)
  have b2 := wb_lt2 (show k < 64 by omega)
  apply wb_inj
  rw [Int64.toBitVec_xor, wb_tb, wb_tb, wb_tb]
  apply BitVec.eq_of_toNat_eq
  rw [BitVec.toNat_xor, BitVec.toNat_ofNat, BitVec.toNat_ofNat, BitVec.toNat_ofNat, Nat.mod_eq_of_lt (by omega : 2 ^ k + r < 2 ^ 64), Nat.mod_eq_of_lt b2, hx, Nat.add_sub_cancel_left, Nat.mod_eq_of_lt (by omega)]
/-! ===== lN: masks, 'or' of parts that don't overlap is a sum ===== -/
theorem u_tn {n : Nat} (h : n < 2 ^ 64) : (UInt64.ofNat n).toNat = n := Nat.mod_eq_of_lt h
theorem g_and {a b c : Nat} (ha : a < 2 ^ 64) (hb : b < 2 ^ 64) (hc : a &&& b = c) : lN a &&& lN b = lN c := by
  subst hc
  have h : UInt64.ofNat a &&& UInt64.ofNat b = UInt64.ofNat (a &&& b) := UInt64.toNat_inj.mp (by rw [UInt64.toNat_and, u_tn ha, u_tn hb, u_tn (Nat.and_lt_two_pow a hb)])
  have h2 := congrArg UInt64.toInt64 h
  exact h2
theorem g_and1 {a : Nat} (ha : a < 2 ^ 64) : lN a &&& 1 = lN (a % 2) := g_and (b := 1) ha (by decide) (Nat.and_two_pow_sub_one_eq_mod a 1)
theorem g_mask {a s p : Nat} (hp : 2 ^ s = p) (hs : s < 64) (ha : a < 2 ^ 64) : lN a &&& lN (p - 1) = lN (a % p) := by
  subst hp
  have := Nat.pow_lt_pow_right (show 1 < 2 by decide) hs
  exact g_and ha (by omega) (Nat.and_two_pow_sub_one_eq_mod a s)
theorem g_or {k p a b : Nat} (hp : 2 ^ k = p) (ha : a < p) (h : b * p + a < 2 ^ 64) : lN (b * p) ||| lN a = lN (b * p + a) := by
  subst hp
  have h1 : b * 2 ^ k ||| a = b * 2 ^ k + a := by rw [← Nat.shiftLeft_eq, Nat.shiftLeft_add_eq_or_of_lt ha]
  have h3 : UInt64.ofNat (b * 2 ^ k) ||| UInt64.ofNat a = UInt64.ofNat (b * 2 ^ k + a) := UInt64.toNat_inj.mp (by rw [UInt64.toNat_or, u_tn (by omega), u_tn (by omega), u_tn h, h1])
  have h2 := congrArg UInt64.toInt64 h3
  exact h2
theorem g_or' {k p a b : Nat} (hp : 2 ^ k = p) (ha : a < p) (h : a + b * p < 2 ^ 64) : lN a ||| lN (b * p) = lN (a + b * p) := by
  rw [Int64.or_comm, g_or hp ha (by omega), Nat.add_comm]
theorem g_ushr {a k p : Nat} {y : UInt64} (hy : y = UInt64.ofNat k) (hk : k < 64) (hp : 2 ^ k = p) (ha : a < 2 ^ 64) : ((lN a).toUInt64 >>> y).toInt64 = lN (a / p) := by
  subst hy hp
  have h : UInt64.ofNat a >>> UInt64.ofNat k = UInt64.ofNat (a / 2 ^ k) := UInt64.toNat_inj.mp (by rw [UInt64.toNat_shiftRight, u_tn ha, u_tn (by omega), u_tn (Nat.lt_of_le_of_lt (Nat.div_le_self _ _) ha), Nat.mod_eq_of_lt hk, Nat.shiftRight_eq_div_pow])
  have h2 := congrArg UInt64.toInt64 h
  exact h2
theorem g_shl {a k p : Nat} {y : Int64} (hy : y.toBitVec.smod 64 = BitVec.ofNat 64 k) (hk : k < 64) (hp : 2 ^ k = p) (ha : a < 2 ^ 64) : lN a <<< y = lN (a * p) := by
  subst hp
  apply Int64.toBitVec_inj.mp
  rw [Int64.toBitVec_shiftLeft, hy]
  apply BitVec.eq_of_toNat_eq
  have hb : (lN a).toBitVec.toNat = a := Nat.mod_eq_of_lt ha
  have hk' : (BitVec.ofNat 64 k).toNat = k := Nat.mod_eq_of_lt (by omega)
  have h : ((lN a).toBitVec <<< BitVec.ofNat 64 k).toNat = (a * 2 ^ k) % 2 ^ 64 := by simp only [BitVec.shiftLeft_eq', BitVec.toNat_shiftLeft, hb, hk', Nat.shiftLeft_eq]
  exact h
/-! ===== lN to 2^62 under >> and >>> ===== -/
theorem pf_lI {a : Nat} (h : a < 2 ^ 63) : (lN a).toInt = (a : Int) := lg_ofNat_toInt h
theorem pf_shr {a d : Nat} {D : Int64} (hD : (D.toBitVec.smod 64).toNat = d) (h : a < 2 ^ 62) : lN a >>> D = lN (a / 2 ^ d) := by
  have hd : a / 2 ^ d ≤ a := Nat.div_le_self _ _
  apply Int64.toInt_inj.mp
  have e : (lN a >>> D).toInt = (lN a).toInt >>> d := by
    rw [← hD]
    exact BitVec.toInt_sshiftRight ..
  rw [e, Int.shiftRight_eq_div_pow, pf_lI (by omega), pf_lI (by omega)]
  rfl
theorem pf_ushr {a d : Nat} {D : UInt64} (hD : D.toNat % 64 = d) (h : a < 2 ^ 62) : ((lN a).toUInt64 >>> D).toInt64 = lN (a / 2 ^ d) := by
  have hd : a / 2 ^ d ≤ a := Nat.div_le_self _ _
  have e : (lN a).toUInt64 >>> D = UInt64.ofNat (a / 2 ^ d) := UInt64.toNat_inj.mp (by
    rw [UInt64.toNat_shiftRight, hD, Nat.shiftRight_eq_div_pow, UInt64.toNat_ofNat']
    show (UInt64.ofNat a).toNat / 2 ^ d = _
    rw [UInt64.toNat_ofNat', Nat.mod_eq_of_lt (by omega), Nat.mod_eq_of_lt (by omega)])
  rw [e]
  rfl
theorem pf_andw (x : Int64) : ∃ m, m < 2 ^ 32 ∧ x &&& 4294967295 = lN m := ⟨x.toBitVec.toNat % 2 ^ 32, Nat.mod_lt _ (by decide), Int64.toBitVec_inj.mp (BitVec.eq_of_toNat_eq (by
  show (x.toBitVec &&& 4294967295#64).toNat = (BitVec.ofNat 64 (x.toBitVec.toNat % 2 ^ 32)).toNat
  rw [BitVec.toNat_and, show (4294967295#64).toNat = 2 ^ 32 - 1 from by decide, Nat.and_two_pow_sub_one_eq_mod, BitVec.toNat_ofNat]
  omega))⟩
/-! ===== Int64 as an unsigned number: uN x ===== -/
def uN (x : Int64) : Nat := x.toUInt64.toNat
theorem uN_lt (x : Int64) : uN x < 18446744073709551616 := x.toUInt64.toNat_lt
theorem uN_inj {x y : Int64} (h : uN x = uN y) : x = y := congrArg UInt64.toInt64 (UInt64.toNat_inj.mp h)
theorem uN_add (x y : Int64) : uN (x + y) = (uN x + uN y) % 18446744073709551616 := by
  show (x.toUInt64 + y.toUInt64).toNat = _
  exact UInt64.toNat_add _ _
theorem uN_mul (x y : Int64) : uN (x * y) = (uN x * uN y) % 18446744073709551616 := by
  show (x.toUInt64 * y.toUInt64).toNat = _
  exact UInt64.toNat_mul _ _
theorem uN_shl (x : Int64) : uN (x <<< ((1 : Int32).toInt64 &&& 63)) = (2 * uN x) % 18446744073709551616 := by
  have h : (((1 : Int32).toInt64 &&& 63).toBitVec.smod 64).toNat = 1 := by decide
  show (x.toBitVec <<< (((1 : Int32).toInt64 &&& 63).toBitVec.smod 64).toNat).toNat = _
  rw [h, BitVec.toNat_shiftLeft, Nat.shiftLeft_eq, Nat.mul_comm]
  rfl
theorem uN_shr (x : Int64) (s : UInt64) : uN (x.toUInt64 >>> s).toInt64 = uN x / 2 ^ (s.toNat % 64) := by
  show (x.toUInt64 >>> s).toNat = _
  rw [UInt64.toNat_shiftRight, Nat.shiftRight_eq_div_pow]
  rfl
theorem uN_s32 (x : Int64) : uN (x.toUInt64 >>> ((32 : Int32).toInt64.toUInt64 &&& Int64.toUInt64 63)).toInt64 = uN x / 4294967296 := by
  have h : ((32 : Int32).toInt64.toUInt64 &&& Int64.toUInt64 63).toNat % 64 = 32 := by decide
  rw [uN_shr, h]
theorem uN_s63 (x : Int64) : uN (x.toUInt64 >>> ((63 : Int32).toInt64.toUInt64 &&& Int64.toUInt64 63)).toInt64 = uN x / 9223372036854775808 := by
  have h : ((63 : Int32).toInt64.toUInt64 &&& Int64.toUInt64 63).toNat % 64 = 63 := by decide
  rw [uN_shr, h]
theorem uN_lo (x : Int64) : uN (x &&& 4294967295) = uN x % 4294967296 := by
  show (x.toUInt64 &&& Int64.toUInt64 4294967295).toNat = _
  rw [UInt64.toNat_and]
  exact Nat.and_two_pow_sub_one_eq_mod _ 32
theorem uN_bit (x : Int64) : (x &&& 1) = 0 ↔ uN x % 2 = 0 := by
  have h : uN (x &&& 1) = uN x % 2 := by
    show (x.toUInt64 &&& Int64.toUInt64 1).toNat = _
    rw [UInt64.toNat_and]
    exact Nat.and_two_pow_sub_one_eq_mod _ 1
  rw [← h]
  exact ⟨fun z => by rw [z]; rfl, fun z => uN_inj (z.trans rfl)⟩
theorem uN_or {x y : Int64} (hy : uN y < 2) : uN ((x <<< ((1 : Int32).toInt64 &&& 63)) ||| y) = (2 * uN x) % 18446744073709551616 + uN y := by
  have h1 : uN ((x <<< ((1 : Int32).toInt64 &&& 63)) ||| y) = uN (x <<< ((1 : Int32).toInt64 &&& 63)) ||| uN y := UInt64.toNat_or _ _
  have h2 : (2 * uN x) % 18446744073709551616 = 2 ^ 1 * (uN x % 9223372036854775808) := by omega
  rw [h1, uN_shl, h2]
  exact (Nat.two_pow_add_eq_or_of_lt (i := 1) hy _).symm
theorem nat_xor {a : Nat} (h : a < 18446744073709551616) : a ^^^ 2 ^ 63 = (a + 9223372036854775808) % 18446744073709551616 := by
  have h1 : (a ^^^ 2 ^ 63) % 2 ^ 63 = a % 2 ^ 63 := by rw [Nat.xor_mod_two_pow, Nat.mod_self, Nat.xor_zero]
  have h2 : (a ^^^ 2 ^ 63) / 2 ^ 63 = (a / 2 ^ 63) ^^^ 1 := by rw [Nat.xor_div_two_pow, Nat.div_self (Nat.two_pow_pos 63)]
  have h3 : a / 2 ^ 63 = 0 ∨ a / 2 ^ 63 = 1 := by omega
  generalize a ^^^ 2 ^ 63 = t at h1 h2
  rcases h3 with h3 | h3
  · rw [h3] at h2
    have h2 : t / 2 ^ 63 = 1 := h2
    omega
  · rw [h3] at h2
    have h2 : t / 2 ^ 63 = 0 := h2
    omega
theorem uN_xor (x : Int64) : uN (x ^^^ (-9223372036854775808)) = (uN x + 9223372036854775808) % 18446744073709551616 := by
  rw [← nat_xor (uN_lt x)]
  exact UInt64.toNat_xor _ _
theorem uN_int (x : Int64) : x.toInt = if 2 * uN x < 18446744073709551616 then (uN x : Int) else (uN x : Int) - 18446744073709551616 := BitVec.toInt_eq_toNat_cond _
theorem uN_le (x y : Int64) : (x ^^^ (-9223372036854775808)) ≤ (y ^^^ (-9223372036854775808)) ↔ uN x ≤ uN y := by
  have hx := uN_lt x
  have hy := uN_lt y
  rw [Int64.le_iff_toInt_le, uN_int, uN_int, uN_xor, uN_xor]
  omega
theorem uN_sk (x : Int64) {k : Nat} (hk : k < 64) : uN (x.toUInt64 >>> ((nI k).toInt64.toUInt64 &&& Int64.toUInt64 63)).toInt64 = uN x / 2 ^ k := by
  have h : ((nI k).toInt64.toUInt64 &&& Int64.toUInt64 63).toNat % 64 = k := by
    rw [nI_l (by omega), UInt64.toNat_and]
    have e : (lN k).toUInt64.toNat = k % 2 ^ 64 := rfl
    have e2 : (Int64.toUInt64 63).toNat = 2 ^ 6 - 1 := by decide
    rw [e, e2, Nat.and_two_pow_sub_one_eq_mod]
    omega
  rw [uN_shr, h]
/-! ===== unsigned comparison by xor with the least ===== -/
theorem lN_bv (n : Nat) : (lN n).toBitVec = BitVec.ofNat 64 n := rfl
theorem lN_nat {n : Nat} (h : n < 2 ^ 64) : (lN n).toBitVec.toNat = n := by rw [lN_bv, BitVec.toNat_ofNat]; exact Nat.mod_eq_of_lt h
theorem lN_xor (a b : Nat) : lN a ^^^ lN b = lN (a ^^^ b) := by
  apply Int64.toBitVec_inj.mp; rw [Int64.toBitVec_xor, lN_bv, lN_bv, lN_bv]; apply BitVec.eq_of_getLsbD_eq; intro i hi; simp [BitVec.getLsbD_ofNat, Nat.testBit_xor, hi]
theorem lN_ti {m : Nat} (h : m < 2 ^ 64) : (lN m).toInt = if m < 2 ^ 63 then (m : Int) else (m : Int) - 2 ^ 64 := by
  have c := BitVec.toInt_eq_toNat_cond (lN m).toBitVec
  rw [lN_nat h] at c
  show (lN m).toBitVec.toInt = _
  rw [c]
  split <;> split <;> omega
theorem xor63 {x : Nat} (h : x < 2 ^ 63) : x ^^^ 2 ^ 63 = 2 ^ 63 + x := by
  apply Nat.eq_of_testBit_eq
  intro i
  rw [Nat.testBit_xor, Nat.testBit_two_pow]
  rcases Nat.lt_trichotomy i 63 with z | z | z
  · rw [Nat.testBit_two_pow_add_gt z, decide_eq_false (by omega)]; simp
  · subst z; rw [Nat.testBit_two_pow_add_eq]; simp
  · have hp : 2 ^ 64 ≤ 2 ^ i := Nat.pow_le_pow_right (by decide) z
    rw [Nat.testBit_lt_two_pow (show x < 2 ^ i by omega), Nat.testBit_lt_two_pow (show 2 ^ 63 + x < 2 ^ i by omega), decide_eq_false (by omega)]; rfl
theorem xorS {a : Nat} (h : a < 2 ^ 64) : (lN a ^^^ (-9223372036854775808)).toInt = (a : Int) - 2 ^ 63 := by
  rw [show (-9223372036854775808 : Int64) = lN (2 ^ 63) from by decide +kernel, lN_xor]
  rcases Nat.lt_or_ge a (2 ^ 63) with z | z
  · rw [xor63 z, lN_ti (by omega), if_neg (by omega)]; omega
  · obtain ⟨x, rfl⟩ : ∃ x, a = 2 ^ 63 + x := ⟨a - 2 ^ 63, by omega⟩
    rw [← xor63 (by omega), Nat.xor_assoc, Nat.xor_self, Nat.xor_zero, lN_ti (by omega), if_pos (by omega), xor63 (by omega)]; omega
theorem ultL {a b : Nat} (ha : a < 2 ^ 64) (hb : b < 2 ^ 64) : ((lN b ^^^ (-9223372036854775808)) ≤ (lN a ^^^ (-9223372036854775808))) ↔ b ≤ a := by
  rw [Int64.le_iff_toInt_le, xorS ha, xorS hb]; omega
/-! ===== Int64 masks of n low bits ===== -/
theorem cr_bits (W U M : BitVec 64) : ((W &&& U) &&& (U &&& (M ^^^ BitVec.allOnes 64))) = 0#64 ↔ (W &&& U) &&& M = W &&& U := by
  constructor
  · intro h
    apply BitVec.eq_of_getLsbD_eq
    intro i hi
    have e := congrArg (fun x => BitVec.getLsbD x i) h
    simp only [BitVec.getLsbD_and, BitVec.getLsbD_xor, BitVec.getLsbD_allOnes, BitVec.getLsbD_zero, hi, decide_true] at e ⊢
    revert e
    cases W.getLsbD i <;> cases U.getLsbD i <;> cases M.getLsbD i <;> decide
  · intro h
    apply BitVec.eq_of_getLsbD_eq
    intro i hi
    have e := congrArg (fun x => BitVec.getLsbD x i) h
    simp only [BitVec.getLsbD_and, BitVec.getLsbD_xor, BitVec.getLsbD_allOnes, BitVec.getLsbD_zero, hi, decide_true] at e ⊢
    revert e
    cases W.getLsbD i <;> cases U.getLsbD i <;> cases M.getLsbD i <;> decide
theorem cr_mask (w U m : Int64) (n : Nat) (hm : m.toBitVec.toNat = 2 ^ n - 1) : ((w &&& U) &&& (U &&& (m ^^^ (-1)))) = 0 ↔ (w &&& U).toBitVec.toNat < 2 ^ n := by
  have e0 : (-1 : Int64).toBitVec = BitVec.allOnes 64 := by decide
  have z0 : (0 : Int64).toBitVec = 0#64 := by decide
  rw [← Int64.toBitVec_inj, z0, Int64.toBitVec_and, Int64.toBitVec_and, Int64.toBitVec_and, Int64.toBitVec_xor, e0, cr_bits]
  generalize w.toBitVec &&& U.toBitVec = T
  rw [← BitVec.toNat_inj, BitVec.toNat_and, hm, Nat.and_two_pow_sub_one_eq_mod]
  constructor
  · intro h
    have t := Nat.mod_lt T.toNat (Nat.two_pow_pos n)
    rw [h] at t
    exact t
  · exact Nat.mod_eq_of_lt
theorem cr_shr (t : Int64) (x : UInt64) (n : Nat) (hx : x.toNat % 64 = n) : (t.toUInt64 >>> x).toInt64 = 0 ↔ t.toBitVec.toNat < 2 ^ n := by
  rw [← Int64.toBitVec_inj, ← BitVec.toNat_inj]
  show (t.toUInt64 >>> x).toNat = 0 ↔ t.toUInt64.toNat < 2 ^ n
  rw [UInt64.toNat_shiftRight, hx, Nat.shiftRight_eq_div_pow]
  constructor
  · intro h
    have d : t.toUInt64.toNat / 2 ^ n < 1 := by
      rw [h]
      decide
    have e := (Nat.div_lt_iff_lt_mul (Nat.two_pow_pos n)).mp d
    rw [Nat.one_mul] at e
    exact e
  · exact Nat.div_eq_of_lt
theorem cr_amt (s : Int64) : ∃ n, n < 64 ∧ s &&& 63 = lN n ∧ (s.toUInt64 &&& Int64.toUInt64 63).toNat % 64 = n := by
  have e : (s.toUInt64 &&& Int64.toUInt64 63).toNat = s.toUInt64.toNat % 2 ^ 6 := by
    rw [UInt64.toNat_and, show (Int64.toUInt64 63).toNat = 2 ^ 6 - 1 from by decide, Nat.and_two_pow_sub_one_eq_mod]
  refine ⟨s.toUInt64.toNat % 2 ^ 6, by omega, ?_, by omega⟩
  rw [← Int64.toBitVec_inj, ← BitVec.toNat_inj]
  show (s.toUInt64 &&& Int64.toUInt64 63).toNat = (BitVec.ofNat 64 (s.toUInt64.toNat % 2 ^ 6)).toNat
  rw [e, BitVec.toNat_ofNat]
  omega
end
section
/-! ENGINE 2: the condition of one instruction, and of a stretch -/
def gfV (σ : Sg) (a w y : Nat) : Option Value := bif Nat.ble NC a then none else match shp a with
  | (0, ci, sl) => bif Nat.beq ci w then (match eg_nth sl y with
    | some none => some (.int (σ a y))
    | some (some r) => some (.ref r)
    | none => none) else none
  | _ => none
/-- an int field of a cell -/
def pfB (a w y : Nat) : Bool := bif Nat.ble NC a then false else match shp a with
  | (0, ci, sl) => bif Nat.beq ci w then (match eg_nth sl y with
    | some none => true
    | _ => false) else false
  | _ => false
def aOK (a t : Nat) (i : Int32) : Prop := a < NC ∧ (shp a).1 = t ∧ vp_in i (shp a).2.1
def popA : Nat → List Value → List Value → Option (List Value × List Value)
  | 0, st, acc => some (acc, st)
  | n + 1, v :: st, acc => popA n st (v :: acc)
  | _ + 1, [], _ => none
def stkB : List Value → Nat
  | [] => 0
  | v :: t => v.category + stkB t
def rcvB (b w : Nat) : Bool := bif Nat.beq w 99 then (Nat.ble 1000 b && Nat.ble b 1005) else bif Nat.ble NC b then false else match shp b with
  | (0, ci, _) => Nat.beq ci w
  | _ => false
def vpush (v : Option Value) (r : List Value) : List Value := match v with
  | some u => u :: r
  | none => r
def acOK (a b : Nat) (sp dp n : Int32) : Prop := (a < NC ∧ (shp a).1 = 1) ∧ (b < NC ∧ (shp b).1 = 1) ∧ ¬ sp < 0 ∧ ¬ dp < 0 ∧ ¬ n < 0 ∧ sp.toNatClampNeg + n.toNatClampNeg ≤ (shp a).2.1 ∧ dp.toNatClampNeg + n.toNatClampNeg ≤ (shp b).2.1
def swAll (x : Int32) (pc : Nat) (K : Nat → Prop) : List Int → Int → Prop
  | [], _ => True
  | o :: os, v => (x.toInt = v → K ((pc : Int) + o).toNat) ∧ swAll x pc K os (v + 1)
def lkAll (x : Int32) (pc : Nat) (K : Nat → Prop) (d : Int) : List (Int × Int) → Prop
  | [] => K ((pc : Int) + d).toNat
  | (k, o) :: t => (x.toInt = k → K ((pc : Int) + o).toNat) ∧ (¬ x.toInt = k → lkAll x pc K d t)
def wpI (ins : Instr) (npc x y w : Nat) (z : Int32) (zl : Int64) (cm : MS) (ret : Option FieldType) (pc : Nat) (lv : Lv) (st : List Value) (σ : Sg) (K : Nat → Lv → List Value → Sg → Prop) (R : Option Value → Sg → Prop) : Prop :=
  match ins with
  | .iload_n _ => match lget lv y with | some (.int a) => K npc lv (.int a :: st) σ | _ => False
  | .iload _ => match lget lv y with | some (.int a) => K npc lv (.int a :: st) σ | _ => False
  | .aload_n _ => match lget lv y with | some (.ref a) => K npc lv (.ref a :: st) σ | _ => False
  | .aload _ => match lget lv y with | some (.ref a) => K npc lv (.ref a :: st) σ | _ => False
  | .lload_n _ => match lget lv y with | some (.long a) => K npc lv (.long a :: st) σ | _ => False
  | .lload _ => match lget lv y with | some (.long a) => K npc lv (.long a :: st) σ | _ => False
  | .istore_n _ => match st with | .int a :: r => K npc (lset lv y (.int a)) r σ | _ => False
  | .istore _ => match st with | .int a :: r => K npc (lset lv y (.int a)) r σ | _ => False
  | .astore_n _ => match st with | .ref a :: r => K npc (lset lv y (.ref a)) r σ | _ => False
  | .astore _ => match st with | .ref a :: r => K npc (lset lv y (.ref a)) r σ | _ => False
  | .lstore_n _ => match st with | .long a :: r => K npc (lset2 lv y (.long a)) r σ | _ => False
  | .iinc _ _ => match lget lv y with | some (.int a) => K npc (lset lv y (.int (a + z))) st σ | _ => False
  | .iconst _ => K npc lv (.int z :: st) σ
  | .bipush _ => K npc lv (.int z :: st) σ
  | .sipush _ => K npc lv (.int z :: st) σ
  | .lconst _ => K npc lv (.long zl :: st) σ
  | .ldc _ => bif Nat.beq w 97 then K npc lv (.ref (1000 + y) :: st) σ else K npc lv (.int z :: st) σ
  | .ldc_w _ => K npc lv (.int z :: st) σ
  | .ldc2_w _ => K npc lv (.long zl :: st) σ
  | .iadd => match st with | .int b :: .int a :: r => K npc lv (.int (a + b) :: r) σ | _ => False
  | .isub => match st with | .int b :: .int a :: r => K npc lv (.int (a - b) :: r) σ | _ => False
  | .imul => match st with | .int b :: .int a :: r => K npc lv (.int (a * b) :: r) σ | _ => False
  | .idiv => match st with | .int b :: .int a :: r => ¬ b = 0 ∧ K npc lv (.int (a / b) :: r) σ | _ => False
  | .irem => match st with | .int b :: .int a :: r => ¬ b = 0 ∧ K npc lv (.int (a - a / b * b) :: r) σ | _ => False
  | .ineg => match st with | .int a :: r => K npc lv (.int (-a) :: r) σ | _ => False
  | .iand => match st with | .int b :: .int a :: r => K npc lv (.int (a &&& b) :: r) σ | _ => False
  | .ior => match st with | .int b :: .int a :: r => K npc lv (.int (a ||| b) :: r) σ | _ => False
  | .ixor => match st with | .int b :: .int a :: r => K npc lv (.int (a ^^^ b) :: r) σ | _ => False
  | .ishl => match st with | .int b :: .int a :: r => K npc lv (.int (a <<< (b &&& 31)) :: r) σ | _ => False
  | .ishr => match st with | .int b :: .int a :: r => K npc lv (.int (a >>> (b &&& 31)) :: r) σ | _ => False
  | .iushr => match st with | .int b :: .int a :: r => K npc lv (.int (a.toUInt32 >>> (b.toUInt32 &&& Int32.toUInt32 31)).toInt32 :: r) σ | _ => False
  | .i2l => match st with | .int a :: r => K npc lv (.long a.toInt64 :: r) σ | _ => False
  | .l2i => match st with | .long a :: r => K npc lv (.int a.toInt32 :: r) σ | _ => False
  | .i2b => match st with | .int a :: r => K npc lv (.int a.toInt8.toInt32 :: r) σ | _ => False
  | .ladd => match st with | .long b :: .long a :: r => K npc lv (.long (a + b) :: r) σ | _ => False
  | .lmul => match st with | .long b :: .long a :: r => K npc lv (.long (a * b) :: r) σ | _ => False
  | .land => match st with | .long b :: .long a :: r => K npc lv (.long (a &&& b) :: r) σ | _ => False
  | .lor => match st with | .long b :: .long a :: r => K npc lv (.long (a ||| b) :: r) σ | _ => False
  | .lrem => match st with | .long b :: .long a :: r => ¬ b = 0 ∧ K npc lv (.long (a - a / b * b) :: r) σ | _ => False
  | .lshl => match st with | .int b :: .long a :: r => K npc lv (.long (a <<< (b.toInt64 &&& 63)) :: r) σ | _ => False
  | .lshr => match st with | .int b :: .long a :: r => K npc lv (.long (a >>> (b.toInt64 &&& 63)) :: r) σ | _ => False
  | .lushr => match st with | .int b :: .long a :: r => K npc lv (.long (a.toUInt64 >>> (b.toInt64.toUInt64 &&& Int64.toUInt64 63)).toInt64 :: r) σ | _ => False
  | .lcmp => match st with | .long b :: .long a :: r => K npc lv (.int (lg_cmp a b) :: r) σ | _ => False
  | .dup => match st with | a :: r => bif Nat.beq a.category 1 then K npc lv (a :: a :: r) σ else False | _ => False
  | .pop => match st with | a :: r => bif Nat.beq a.category 1 then K npc lv r σ else False | _ => False
  | .dup2 => match st with | a :: b :: r => bif Nat.beq a.category 1 && Nat.beq b.category 1 then K npc lv (a :: b :: a :: b :: r) σ else False | _ => False
  | .goto _ => K x lv st σ
  | .ifCond .eq _ => match st with | .int a :: r => (a = 0 → K x lv r σ) ∧ (¬ a = 0 → K npc lv r σ) | _ => False
  | .ifCond .ne _ => match st with | .int a :: r => (¬ a = 0 → K x lv r σ) ∧ (a = 0 → K npc lv r σ) | _ => False
  | .ifCond .lt _ => match st with | .int a :: r => (a < 0 → K x lv r σ) ∧ (¬ a < 0 → K npc lv r σ) | _ => False
  | .ifCond .ge _ => match st with | .int a :: r => (0 ≤ a → K x lv r σ) ∧ (¬ 0 ≤ a → K npc lv r σ) | _ => False
  | .ifCond .gt _ => match st with | .int a :: r => (0 < a → K x lv r σ) ∧ (¬ 0 < a → K npc lv r σ) | _ => False
  | .ifCond .le _ => match st with | .int a :: r => (a ≤ 0 → K x lv r σ) ∧ (¬ a ≤ 0 → K npc lv r σ) | _ => False
  | .if_icmp .eq _ => match st with | .int b :: .int a :: r => (a = b → K x lv r σ) ∧ (¬ a = b → K npc lv r σ) | _ => False
  | .if_icmp .ne _ => match st with | .int b :: .int a :: r => (¬ a = b → K x lv r σ) ∧ (a = b → K npc lv r σ) | _ => False
  | .if_icmp .lt _ => match st with | .int b :: .int a :: r => (a < b → K x lv r σ) ∧ (¬ a < b → K npc lv r σ) | _ => False
  | .if_icmp .ge _ => match st with | .int b :: .int a :: r => (b ≤ a → K x lv r σ) ∧ (¬ b ≤ a → K npc lv r σ) | _ => False
  | .if_icmp .gt _ => match st with | .int b :: .int a :: r => (b < a → K x lv r σ) ∧ (¬ b < a → K npc lv r σ) | _ => False
  | .if_icmp .le _ => match st with | .int b :: .int a :: r => (a ≤ b → K x lv r σ) ∧ (¬ a ≤ b → K npc lv r σ) | _ => False
  | .tableswitch d lo hi offs => match st with | .int a :: r => (a.toInt < lo ∨ hi < a.toInt → K ((pc : Int) + d).toNat lv r σ) ∧ swAll a pc (fun t => K t lv r σ) offs.toList lo | _ => False
  | .lookupswitch d ps => match st with | .int a :: r => lkAll a pc (fun t => K t lv r σ) d ps.toList | _ => False
  | .getfield _ => match st with
    | .ref a :: r => match gfV σ a w y with | some v => K npc lv (v :: r) σ | none => False
    | _ => False
  | .putfield _ => match st with
    | .int v :: .ref a :: r => bif pfB a w y then (bif Nat.beq w 6 && Nat.beq y 5 then ((v = 0 ∨ v = 1) ∧ K npc lv r (sgu σ a y v)) else K npc lv r (sgu σ a y v)) else False
    | _ => False
  | .iaload => match st with | .int i :: .ref a :: r => aOK a 1 i ∧ ∀ v : Int32, v = σ a i.toNatClampNeg → K npc lv (.int v :: r) σ | _ => False
  | .iastore => match st with | .int v :: .int i :: .ref a :: r => aOK a 1 i ∧ ∀ σ' : Sg, σ' = sgu σ a i.toNatClampNeg v → K npc lv r σ' | _ => False
  | .baload => match st with | .int i :: .ref a :: r => aOK a (bif Nat.beq (shp a).1 2 then 2 else 3) i ∧ ∀ v : Int32, v = σ a i.toNatClampNeg → K npc lv (.int v :: r) σ | _ => False
  | .bastore => match st with | .int v :: .int i :: .ref a :: r => aOK a (bif Nat.beq (shp a).1 2 then 2 else 3) i ∧ ∀ σ' : Sg, σ' = sgu σ a i.toNatClampNeg (vp_nar (bif Nat.beq (shp a).1 2 then .byte else .boolean) v) → K npc lv r σ' | _ => False
  | .aaload => match st with | .int i :: .ref a :: r => aOK a (bif Nat.beq (shp a).1 4 then 4 else 5) i ∧ K npc lv (.ref (eg_rb (shp a).2.2 + eg_rs (shp a).2.2 * i.toNatClampNeg) :: r) σ | _ => False
  | .arraylength => match st with | .ref a :: r => bif Nat.ble NC a then False else bif Nat.beq (shp a).1 1 then K npc lv (.int (Int32.ofNat (shp a).2.1) :: r) σ else False | _ => False
  | .invokevirtual _ => match popA y st [] with
    | some (.ref b :: as, r) => bif rcvB b w && Nat.ble (stkB r) 8 then MetA cm (.ref b :: as) σ (fun v σ' => K npc lv (vpush v r) σ') else False
    | _ => False
  | .invokestatic _ => bif Nat.beq w 98 then (match st with
      | .int n :: .int dp :: .ref b :: .int sp :: .ref a :: r => bif Nat.ble (stkB r) 8 then acOK a b sp dp n ∧ K npc lv r (sgc σ b (va_cpy (σ a) (σ b) sp.toNatClampNeg dp.toNatClampNeg n.toNatClampNeg)) else False
      | _ => False) else bif Nat.beq w 96 then (match st with
      | .int b :: .int a :: r => bif Nat.ble (stkB r) 8 then K npc lv (.int (if b < a then b else a) :: r) σ else False
      | _ => False) else bif Nat.beq w 95 then (match st with
      | .int b :: .int a :: r => bif Nat.ble (stkB r) 8 then K npc lv (.int (if a < b then b else a) :: r) σ else False
      | _ => False) else (match popA y st [] with
      | some (as, r) => bif Nat.ble (stkB r) 8 then MetA cm as σ (fun v σ' => K npc lv (vpush v r) σ') else False
      | _ => False)
  | .ireturn => match st with
    | [.int a] => match ret with
      | some .int => R (some (.int a)) σ
      | some .boolean => (a = 0 ∨ a = 1) ∧ R (some (.int a)) σ
      | _ => False
    | _ => False
  | .return_ => match st with
    | [] => match ret with
      | none => R none σ
      | _ => False
    | _ => False
  | _ => False
def fnd1 (pc : Nat) : List (Nat × En) → Option En
  | [] => none
  | (k, e) :: t => bif Nat.beq k pc then some e else fnd1 pc t
def fnd2 (pc : Nat) : Cd → Option En
  | [] => none
  | (u, l) :: t => bif Nat.ble pc u then fnd1 pc l else fnd2 pc t
/-- the condition of a stretch from pc to the stops -/
def wpB (ms : MS) (cd : Cd) (stops : List Nat) (R : Option Value → Sg → Prop) : Nat → Nat → Lv → List Value → Sg → Prop
  | 0, _, _, _, _ => False
  | n + 1, pc, lv, st, σ => match fnd2 pc cd with
    | none => False
    | some (ins, npc, x, y, w, z, zl, cm) => wpI ins npc x y w z zl cm ms.2.2.2.1 pc lv st σ (fun pc' lv' st' σ' => bif stops.elem pc' then V ms pc' lv' st' σ' R else wpB ms cd stops R n pc' lv' st' σ') R
end
section
/-! ENGINE 4: soundness -/
theorem fnd1_mem {pc : Nat} : ∀ {l : List (Nat × En)} {e : En}, fnd1 pc l = some e → (pc, e) ∈ l
  | [], e, h => by simp [fnd1] at h
  | (k, u) :: t, e, h => by
    unfold fnd1 at h
    cases hb : Nat.beq k pc with
    | true =>
      rw [hb] at h
      have e1 : k = pc := Nat.eq_of_beq_eq_true hb
      have e2 : u = e := by simpa using h
      subst e1; subst e2
      exact List.mem_cons_self
    | false =>
      rw [hb] at h
      exact List.mem_cons_of_mem _ (fnd1_mem (by simpa using h))
theorem fnd2_chk {ms : MS} {pc : Nat} : ∀ {cd : Cd} {e : En}, chkC ms cd = true → fnd2 pc cd = some e → chkE ms pc e = true
  | [], e, _, h => by simp [fnd2] at h
  | (u, l) :: t, e, hc, h => by
    unfold fnd2 at h
    have hc2 := List.all_eq_true.mp hc
    cases hb : Nat.ble pc u with
    | true =>
      rw [hb] at h
      exact List.all_eq_true.mp (hc2 (u, l) List.mem_cons_self) (pc, e) (fnd1_mem (by simpa using h))
    | false =>
      rw [hb] at h
      exact fnd2_chk (List.all_eq_true.mpr fun q hq => hc2 q (List.mem_cons_of_mem _ hq)) (by simpa using h)
theorem StrU.at {ad : Nat → Nat} {s U : State} {H : Heap} {locs : List Loc} (h : StrU ad s s.heap) (hS : va_S (AA ad) s.heap H locs) (hU : U.heap = H) (hW : s.WarmedH U.vm) : StrU ad U U.heap := by
  obtain ⟨⟨adV, h1⟩, h2, h3⟩ := h
  have hq : ∀ a : Nat, a < s.heap.size → ¬ AA ad a → U.heap[a]? = s.heap[a]? := fun a h4 h5 => by rw [hU]; exact hS.2.1 a h4 h5
  exact ⟨⟨adV, (h1.kept hq).moved hW.alike⟩, (h2.kept hq).moved hW.alike, fun i hi => (h3 i hi).warm hW⟩
theorem eg_blind {D : va_G} {ad : Nat → Nat} {cy : Nat → ClassId} {σ : Sg} {av : List Value} : FrameBlind (va_Pc av (fun U => GdU D ad cy U ∧ va_P D vwCl (cellsA ad cy σ) U.heap)) := by
  intro a U g mk q
  obtain ⟨q0, ⟨qK, ⟨⟨adV, q1⟩, q2, q3⟩, qI⟩, qP⟩ := q
  exact ⟨q0, ⟨va_K.moved (u := U) (U := U.calling g mk a) (Vm.Alike.refl U.vm) qK, ⟨⟨adV, vk_S.moved (u := U) (U := U.calling g mk a) (Vm.Alike.refl U.vm) q1⟩, va_Z.moved (u := U) (U := U.calling g mk a) (Vm.Alike.refl U.vm) q2, fun i hi => vk_R.same (u := U) (U := U.calling g mk a) rfl (q3 i hi)⟩, qI⟩, qP⟩
section EGC
variable {p : Program} {l : Launch} {e : Env} {R : Room} {s : State} {m : MethodId} {args : Array Value} {below : List Frame} {meth : Method} {c : Code} {H : Heap} {locs : List Loc} {Q : State → Prop}
theorem eg_call {pc : Nat} {ls : Array Slot} {rest st0 : List Value} {a : Array Value} {D : va_G} {ad : Nat → Nat} {cy : Nat → ClassId} {R1 : Option Value → Sg → Prop}
    (hr : va_Run p l e R s m args below meth c H locs 0 0 0 0 (F0 m pc ls st0) rest (QQ D ad cy R1 a) (AA ad)) (hS : va_S (AA ad) s.heap H locs)
    (kk : ∀ (v : Option Value) (σ' : Sg) (H1 : Heap) (locs1 : List Loc), R1 v σ' → va_P D vwCl (cellsA ad cy σ') H1 → va_S (AA ad) s.heap H1 locs1 → W p l e R s m args below meth c H1 locs1 0 0 Q (F0 m (pc + 3) ls ((v.map (eg_cv ad)).toList ++ rest))) : W p l e R s m args below meth c H locs 0 0 Q (F0 m pc ls st0) := by
  intro T hT X
  obtain ⟨v, st₀, t, T', L, h0, X', hL, e1, e2, ⟨⟨v1, σ', hv, hp, hb⟩, hz, hk⟩, st⟩ := hr T hT X
  cases hv
  rw [h0] at hz hk
  obtain ⟨t2, a1, b1⟩ := kk v1 σ' T'.heap (locs ++ L) hp (by rw [e1]; exact hb)
    ⟨Nat.le_trans hS.1 (by rw [e1]; exact hz), fun q h1 h2 => by rw [e1, hk q (Nat.lt_of_lt_of_le h1 hS.1) h2]; exact hS.2.1 q h1 h2, fun q hq => by
      rcases List.mem_append.mp hq with h | h
      · exact hS.2.2 q h
      · exact hL q h⟩ T' rfl X'
  exact ⟨t2, st t2 a1, b1⟩
end EGC
theorem lc_args (ad : Nat → Nat) : ∀ (av : List Value) (i : Nat), lv_args i (av.map (eg_cv ad)) = eg_lc ad (lv_args i av)
  | [], _ => rfl
  | v :: t, i => by
    simp only [List.map_cons, lv_args, eg_cv_cat, lc_args ad t, eg_lc]
theorem sl_len (ad : Nat → Nat) : ∀ (av : List Value), (lg_sl (av.map (eg_cv ad))).length = (lg_sl av).length
  | [] => rfl
  | v :: t => by
    have := sl_len ad t
    simp only [lg_sl] at this
    simp only [lg_sl, List.map_cons, List.flatMap_cons, eg_cv_cat, List.length_append, this]
    split <;> rfl
theorem MetA_of {ms : MS} {av : List Value} {σ : Sg} {R : Option Value → Sg → Prop} (hok : OkM ms) (hlen : (lg_sl av).length ≤ ms.2.2.1) (h : V ms 0 (lv_args 0 av) [] σ R) : MetA ms av σ R := by
  refine ⟨hok, fun l D ad cy => ?_⟩
  refine Met.ofW (cc := ms.2.1) (maxL := ms.2.2.1) (ret := ms.2.2.2.1) hok.2.2.2.1 rfl ?_
  intro p e s m args below meth c s₁ B hml hv
  obtain ⟨rfl, hG, hP⟩ := hv
  have hts := atoms_spec (ws := wsM ms) B.pre
  rw [lg_entry_eq]
  have hl := lv_entry (av.map (eg_cv ad)) (n := ms.2.2.1) (by rw [sl_len]; exact hlen)
  rw [lc_args] at hl
  exact h p l e s m _ below meth c D ad cy ⟨B.exec, B.bytes, B.returns, hml, findClass_of_methodNamed B.named, fun w hw => hts w (List.mem_cons_of_mem _ hw), B.notSynchronized, hG.1, hG.2.1, hG.2.2⟩ s.heap [] _ hP va_S.rf hl
theorem MetA.mono {ms : MS} {av : List Value} {σ : Sg} {R R' : Option Value → Sg → Prop} (h : MetA ms av σ R) (hR : ∀ v σ', R v σ' → R' v σ') : MetA ms av σ R' := by
  refine ⟨h.1, fun l D ad cy => ?_⟩
  have hM := h.2 l D ad cy
  intro p e ha hc hk s m args below hf happ hpre hcl
  obtain ⟨k, o, h1, h2, h3, ⟨⟨v, σ', hv, hr, hP⟩, hF⟩, hL⟩ := hM p e ha hc hk s m args below hf happ hpre hcl
  exact ⟨k, o, h1, h2, h3, ⟨⟨v, σ', hv, hR v σ' hr, hP⟩, hF⟩, hL⟩
theorem V.mono {ms : MS} {pc : Nat} {lv : Lv} {st : List Value} {σ : Sg} {R R' : Option Value → Sg → Prop} (h : V ms pc lv st σ R) (hR : ∀ v σ', R v σ' → R' v σ') : V ms pc lv st σ R' := by
  intro p l e s m args below meth c D ad cy C H locs ls hP hS hl T hT X
  obtain ⟨t, h1, o, h2, h3, ⟨⟨v, σ', hv, hr, hP2⟩, hF⟩, hL⟩ := h p l e s m args below meth c D ad cy C H locs ls hP hS hl T hT X
  exact ⟨t, h1, o, h2, h3, ⟨⟨v, σ', hv, hR v σ' hr, hP2⟩, hF⟩, hL⟩
theorem V.sub {ms : MS} {pc : Nat} {lv lv' : Lv} {st : List Value} {σ : Sg} {R : Option Value → Sg → Prop} (hs : ∀ q ∈ lv', q ∈ lv) (h : V ms pc lv' st σ R) : V ms pc lv st σ R := by
  intro p l e s m args below meth c D ad cy C H locs ls hP hS hl
  refine h p l e s m args below meth c D ad cy C H locs ls hP hS (hl.of fun q hq => ?_)
  obtain ⟨q0, h0, rfl⟩ := List.mem_map.mp hq
  exact List.mem_map.mpr ⟨q0, hs q0 h0, rfl⟩
end
section
/-! ENGINE 4: one instruction is sound -/
def KV (ms : MS) (K : Nat → Lv → List Value → Sg → Prop) (R : Option Value → Sg → Prop) : Prop := ∀ (a : Nat) (b : Lv) (c : List Value) (d : Sg), K a b c d → V ms a b c d R
theorem eg_kept {D : va_G} {ad : Nat → Nat} {cy : Nat → ClassId} {σ σ' : Sg} {H1 : Heap} {c : Nat} {e : va_E} (hc : c < NC) (he : e = cellE ad cy σ' c) (h : ∀ d, d ≠ c → σ' d = σ d) (hP : va_P D vwCl ((cellsA ad cy σ).set c (ad c, e)) H1) : va_P D vwCl (cellsA ad cy σ') H1 := by
  rw [cells_set hc he h] at hP; exact hP
theorem sgc_self {σ : Sg} {c : Nat} {f : Nat → Int32} : sgc σ c f c = f := if_pos rfl
theorem sgc_ne {σ : Sg} {c d : Nat} {f : Nat → Int32} (h : d ≠ c) : sgc σ c f d = σ d := if_neg h
theorem cellE_obj {ad : Nat → Nat} {cy : Nat → ClassId} {σ : Sg} {k : Nat} (h : (shp k).1 = 0) : cellE ad cy σ k = .inr ((shp k).2.1, eg_sl ad (σ k) 0 (shp k).2.2) := if_pos h
theorem cellE_arr {ad : Nat → Nat} {cy : Nat → ClassId} {σ : Sg} {k : Nat} (h0 : ¬ (shp k).1 = 0) (h : (shp k).1 ≤ 3) : cellE ad cy σ k = .inl (cy (shp k).1, (shp k).2.1, .inl (σ k)) := by
  unfold cellE; rw [if_neg h0, if_pos h]
theorem cellE_ref {ad : Nat → Nat} {cy : Nat → ClassId} {σ : Sg} {k : Nat} (h0 : ¬ (shp k).1 = 0) (h : ¬ (shp k).1 ≤ 3) : cellE ad cy σ k = .inl (cy (shp k).1, (shp k).2.1, .inr (.inr (.inr (.inr (fun i => some (ad (eg_rb (shp k).2.2 + eg_rs (shp k).2.2 * i))))))) := by
  unfold cellE; rw [if_neg h0, if_neg h]
theorem gfV_spec {σ : Sg} {a w y : Nat} {v : Value} (h : gfV σ a w y = some v) : a < NC ∧ (shp a).1 = 0 ∧ (shp a).2.1 = w ∧ ∀ ad : Nat → Nat, (eg_sl ad (σ a) 0 (shp a).2.2)[y]? = some (eg_cv ad v) := by
  unfold gfV at h
  cases hb : Nat.ble NC a with
  | true => rw [hb] at h; simp at h
  | false =>
    have ha : a < NC := by
      have : ¬ NC ≤ a := fun q => by rw [Nat.ble_eq_true_of_le q] at hb; cases hb
      omega
    rw [hb] at h
    simp only [cond_false] at h
    split at h
    · next ci sl he =>
      cases hw : Nat.beq ci w with
      | false => rw [hw] at h; simp at h
      | true =>
        rw [hw] at h
        simp only [cond_true] at h
        have hw2 : ci = w := Nat.eq_of_beq_eq_true hw
        refine ⟨ha, by rw [he], by rw [he]; exact hw2, fun ad => ?_⟩
        rw [he]
        show (eg_sl ad (σ a) 0 sl)[y]? = _
        rw [eg_sl_at, ← eg_nth_eq]
        cases hn : eg_nth sl y with
        | none => rw [hn] at h; cases h
        | some o =>
          rw [hn] at h
          cases o with
          | none => cases h; simp [eg_cv]
          | some r => cases h; simp [eg_cv]
    · cases h
theorem pfB_spec {a w y : Nat} (h : pfB a w y = true) : a < NC ∧ (shp a).1 = 0 ∧ (shp a).2.1 = w ∧ (shp a).2.2[y]? = some none := by
  unfold pfB at h
  cases hb : Nat.ble NC a with
  | true => rw [hb] at h; simp at h
  | false =>
    have ha : a < NC := by
      have : ¬ NC ≤ a := fun q => by rw [Nat.ble_eq_true_of_le q] at hb; cases hb
      omega
    rw [hb] at h
    simp only [cond_false] at h
    split at h
    · next ci sl he =>
      cases hw : Nat.beq ci w with
      | false => rw [hw] at h; simp at h
      | true =>
        rw [hw] at h
        simp only [cond_true] at h
        have hw2 : ci = w := Nat.eq_of_beq_eq_true hw
        refine ⟨ha, by rw [he], by rw [he]; exact hw2, ?_⟩
        rw [he]
        show sl[y]? = _
        rw [← eg_nth_eq]
        split at h
        · assumption
        · cases h
    · cases h
theorem rcvB_spec {b w : Nat} (hw : Nat.beq w 99 = false) (h : rcvB b w = true) : b < NC ∧ (shp b).1 = 0 ∧ (shp b).2.1 = w := by
  unfold rcvB at h
  rw [hw] at h
  simp only [cond_false] at h
  cases hb : Nat.ble NC b with
  | true => rw [hb] at h; simp at h
  | false =>
    have ha : b < NC := by
      have : ¬ NC ≤ b := fun q => by rw [Nat.ble_eq_true_of_le q] at hb; cases hb
      omega
    rw [hb] at h
    simp only [cond_false] at h
    split at h
    · next ci sl he => exact ⟨ha, by rw [he], by rw [he]; exact Nat.eq_of_beq_eq_true h⟩
    · cases h
theorem popA_spec : ∀ {n : Nat} {st acc as r : List Value}, popA n st acc = some (as, r) → ∃ ps : List Value, ps.length = n ∧ st = ps ++ r ∧ as = ps.reverse ++ acc
  | 0, st, acc, as, r, h => by
    simp only [popA, Option.some.injEq, Prod.mk.injEq] at h
    exact ⟨[], rfl, by simp [h.2], by simp [h.1]⟩
  | n + 1, v :: st, acc, as, r, h => by
    obtain ⟨ps, h1, h2, h3⟩ := popA_spec (by simpa only [popA] using h)
    exact ⟨v :: ps, by simp [h1], by simp [h2], by simp [h3]⟩
  | n + 1, [], acc, as, r, h => by simp [popA] at h
theorem stk_le {r : List Value} (ad : Nat → Nat) (h : Nat.ble (stkB r) 8 = true) : ((r.map (eg_cv ad)).map fun v => v.category).sum ≤ 8 := by
  have h2 : ∀ l : List Value, ((l.map (eg_cv ad)).map fun v => v.category).sum = stkB l := by
    intro l
    induction l with
    | nil => rfl
    | cons v t ih => simp only [List.map_cons, List.sum_cons, ih, stkB, eg_cv_cat]
  rw [h2]
  exact Nat.le_of_ble_eq_true h
theorem vpush_map (ad : Nat → Nat) (v : Option Value) (r : List Value) : (v.map (eg_cv ad)).toList ++ r.map (eg_cv ad) = (vpush v r).map (eg_cv ad) := by
  cases v <;> rfl
theorem cx_w {ms : MS} {p : Program} {s : State} {m : MethodId} {args : Array Value} {meth : Method} {c : Code} {D : va_G} {ad : Nat → Nat} {cy : Nat → ClassId} (C : Cx ms p s m args meth c D ad cy) {w : Cond} {i : Nat} (h : decide (lw_tbl[i]? = some w) = true) (hg : goodWord w = true) : w.before args s = true := C.2.2.2.2.2.1 w (Gd_in (of_decide_eq_true h) hg)

theorem uG_of (ws : List Cond) (ps : List Nat) (hp : ws = ps.filterMap (fun i => lw_tbl[i]?)) (h : ws.all goodWord = true) : ∀ w ∈ ws, w ∈ Gd := by
  intro w hw
  have h1 := List.all_eq_true.mp h w hw
  rw [hp] at hw
  obtain ⟨i, -, hi⟩ := List.mem_filterMap.mp hw
  exact Gd_in hi h1
theorem uGX0 : ∀ w ∈ u_ws RX0 TX0 3, w ∈ Gd := uG_of _ [325, 327, 329] (by decide +kernel) (by decide +kernel)
theorem uGX1 : ∀ w ∈ u_ws RX1 TX1 8, w ∈ Gd := uG_of _ [123, 125, 127, 129, 131, 133, 135, 137] (by decide +kernel) (by decide +kernel)
theorem uGX2 : ∀ w ∈ u_ws RX2 TX2 8, w ∈ Gd := uG_of _ [278, 280, 282, 284, 286, 288, 290, 292] (by decide +kernel) (by decide +kernel)
theorem uGX3 : ∀ w ∈ u_ws RX3 TX3 4, w ∈ Gd := uG_of _ [306, 308, 310, 312] (by decide +kernel) (by decide +kernel)
theorem uGX4 : ∀ w ∈ u_ws RX4 TX4 12, w ∈ Gd := uG_of _ [172, 174, 176, 178, 180, 182, 184, 186, 188, 190, 192, 194] (by decide +kernel) (by decide +kernel)
theorem uGX5 : ∀ w ∈ u_ws RX5 TX5 8, w ∈ Gd := uG_of _ [246, 248, 250, 252, 254, 256, 258, 260] (by decide +kernel) (by decide +kernel)
theorem uGX6 : ∀ w ∈ u_ws RX6 TX6 6, w ∈ Gd := uG_of _ [213, 215, 217, 219, 221, 223] (by decide +kernel) (by decide +kernel)
theorem uGX7 : ∀ w ∈ u_ws RX7 TX7 10, w ∈ Gd := uG_of _ [342, 344, 346, 348, 350, 352, 354, 356, 358, 360] (by decide +kernel) (by decide +kernel)
theorem uGX8 : ∀ w ∈ u_ws RX8 TX8 28, w ∈ Gd := uG_of _ [851, 853, 855, 857, 859, 861, 863, 865, 867, 869, 871, 873, 875, 877, 879, 881, 883, 885, 887, 889, 891, 893, 895, 897, 899, 901, 903, 905] (by decide +kernel) (by decide +kernel)
theorem uG_at {w : Nat} (h : w < 9) : ∀ x ∈ u_ws (RRx w) (TTx w) (NNx w), x ∈ Gd := by
  match w, h with
  | 0, _ => exact uGX0 | 1, _ => exact uGX1 | 2, _ => exact uGX2 | 3, _ => exact uGX3 | 4, _ => exact uGX4 | 5, _ => exact uGX5 | 6, _ => exact uGX6 | 7, _ => exact uGX7 | 8, _ => exact uGX8
theorem lk_nil (d v : Int) : Op.lookupswitch.offset [] d v = d := by first | rfl | simp [Op.lookupswitch.offset]
theorem lk_cons (k o : Int) (t : List (Int × Int)) (d v : Int) : Op.lookupswitch.offset ((k, o) :: t) d v = if k = v then o else Op.lookupswitch.offset t d v := rfl
theorem lkAll_get {x : Int32} {pc : Nat} {K : Nat → Prop} {d : Int} : ∀ {ps : List (Int × Int)}, lkAll x pc K d ps → K ((pc : Int) + Op.lookupswitch.offset ps d x.toInt).toNat
  | [], h => by rw [lk_nil]; exact h
  | (k, o) :: t, h => by
    rw [lk_cons]
    by_cases e : k = x.toInt
    · rw [if_pos e]; exact h.1 e.symm
    · rw [if_neg e]; exact lkAll_get (h.2 (fun q => e q.symm))
theorem lk_nonneg {pc : Nat} {d v : Int} (hd : 0 ≤ (pc : Int) + d) : ∀ {ps : List (Int × Int)}, (∀ o ∈ ps, 0 ≤ (pc : Int) + o.2) → 0 ≤ (pc : Int) + Op.lookupswitch.offset ps d v
  | [], _ => by rw [lk_nil]; exact hd
  | (k, o) :: t, h => by
    rw [lk_cons]
    by_cases e : k = v
    · rw [if_pos e]; exact h (k, o) List.mem_cons_self
    · rw [if_neg e]; exact lk_nonneg hd (fun q hq => h q (List.mem_cons_of_mem _ hq))
theorem swAll_get {x : Int32} {pc : Nat} {K : Nat → Prop} : ∀ {os : List Int} {v : Int} {j : Nat} {o : Int}, swAll x pc K os v → os[j]? = some o → x.toInt = v + j → K ((pc : Int) + o).toNat
  | [], v, j, o, _, hj, _ => by simp at hj
  | a :: t, v, 0, o, h, hj, hx => by
    have e : a = o := by simpa using hj
    subst e
    exact h.1 (by simpa using hx)
  | a :: t, v, j + 1, o, h, hj, hx => swAll_get h.2 (by simpa using hj) (by rw [hx]; push_cast; omega)
theorem eg_nar {v : Int32} (h : v = 0 ∨ v = 1) : narrow .boolean (.int v) = .int v ∧ fits .boolean (.int v) = true := by
  rcases h with rfl | rfl <;> exact ⟨by decide +kernel, by decide +kernel⟩
theorem stB_inst {cm : MS} (h : OkM cm) (hs : (!stB cm.1) = true) : Cond.instanceMethod cm.1 ∈ Gd ∧ Cond.selects cm.1.cls cm.1 cm.1 ∈ Gd := h.2.2.1.1 (by simpa using hs)
theorem eg_cb {R : Room} {s : State} {args : Array Value} {own : String} {index n : Nat} {cm : MS} {ms : MS} (hts : ∀ w ∈ Gd, w.before args s = true) (hok : OkM cm) (hl : (Cond.methodLink own index cm.1).before args s = true) (hpar : parB cm n = true) (hroom : roomB ms cm = true) (hR : R = ms.2.2.2.2) : CallB R s args own index cm.1 cm.2.1 cm.2.2.1 cm.2.2.2.1 (wsM cm) cm.2.2.2.2 0 0 n := by
  subst hR
  simp only [roomB, Bool.and_eq_true] at hroom
  refine callB_of n hts (fun w hw => ?_) rfl hok.2.2.2.2.2.1 hok.2.2.2.2.2.2 (hts _ hok.2.1) hl ⟨hok.2.2.2.2.1.1, hok.2.2.2.2.1.2, of_decide_eq_true hpar⟩ ⟨Nat.le_of_ble_eq_true hroom.1, Nat.le_of_ble_eq_true hroom.2⟩
  rcases List.mem_cons.mp hw with rfl | h
  · exact Gd_good _ hok.1
  · exact Gd_good _ h
theorem maG0 : Cond.initialized "java/lang/Math" ∈ Gd := Gd_in (i := 79) (by decide +kernel) (by decide +kernel)
theorem minG1 : Cond.static Lib.Math.min.name ∈ Gd := Gd_in (i := 570) (by decide +kernel) (by decide +kernel)
theorem minG2 : Cond.code Lib.Math.min.name Lib.Math.min.code 2 (some .int) ∈ Gd := Gd_in (i := 571) (by decide +kernel) (by decide +kernel)
theorem maxG1 : Cond.static Lib.Math.max.name ∈ Gd := Gd_in (i := 639) (by decide +kernel) (by decide +kernel)
theorem maxG2 : Cond.code Lib.Math.max.name Lib.Math.max.code 2 (some .int) ∈ Gd := Gd_in (i := 640) (by decide +kernel) (by decide +kernel)
theorem acG1 : Cond.native arraycopyName ∈ Gd := Gd_in (i := 509) (by decide +kernel) (by decide +kernel)
theorem acG2 : Cond.static arraycopyName ∈ Gd := Gd_in (i := 508) (by decide +kernel) (by decide +kernel)
theorem acG3 : Cond.initialized "java/lang/System" ∈ Gd := Gd_in (i := 78) (by decide +kernel) (by decide +kernel)
set_option maxHeartbeats 4000000 in
theorem wpI_sd {ms : MS} {ins : Instr} {npc x y w : Nat} {z : Int32} {zl : Int64} {cm : MS} {pc : Nat} {lv : Lv} {st : List Value} {σ : Sg} {K : Nat → Lv → List Value → Sg → Prop} {R : Option Value → Sg → Prop} (hch : chkE ms pc (ins, npc, x, y, w, z, zl, cm) = true) (hK : KV ms K R) (h : wpI ins npc x y w z zl cm ms.2.2.2.1 pc lv st σ K R) : V ms pc lv st σ R := by
  intro p l e s m args below meth c D ad cy C H locs ls hP hS hl
  simp only [chkE, Bool.and_eq_true] at hch
  obtain ⟨⟨hd0, hn⟩, hX⟩ := hch
  have hd := of_decide_eq_true hd0
  have hn := Nat.eq_of_beq_eq_true hn
  subst hn
  have hx := C.1
  have hb := C.2.1
  have go : ∀ {a : Nat} {b : Lv} {d : List Value} {σ2 : Sg} {H2 : Heap} {locs2 : List Loc} {ls2 : Array Slot}, K a b d σ2 → va_P D vwCl (cellsA ad cy σ2) H2 → va_S (AA ad) s.heap H2 locs2 → lv_has ls2 ms.2.2.1 (eg_lc ad b) → W p l e ms.2.2.2.2 s m args below meth c H2 locs2 0 0 (MQ below (QQ D ad cy R) args s 0 0 (AA ad)) (F0 m a ls2 (d.map (eg_cv ad))) := fun k a b c9 => hK _ _ _ _ k p l e s m args below meth c D ad cy C _ _ _ a b c9
  cases ins with
  | iload_n k =>
    simp only [wpI] at h
    have hy : (k : Nat) = y := Nat.eq_of_beq_eq_true hX
    split at h
    · next a he => exact lv_iload_n hx hb hd hy (lget_has hl he) (go h hP hS hl)
    · exact h.elim
  | iload k =>
    simp only [wpI] at h
    have hy : k = y := Nat.eq_of_beq_eq_true hX
    split at h
    · next a he => exact lv_iload hx hb hd (by rw [hy]; exact lget_has hl he) (go h hP hS hl)
    · exact h.elim
  | aload_n k =>
    simp only [wpI] at h
    have hy : (k : Nat) = y := Nat.eq_of_beq_eq_true hX
    split at h
    · next a he => exact lv_aload_n hx hb hd hy (lget_has hl he) (go h hP hS hl)
    · exact h.elim
  | aload k =>
    simp only [wpI] at h
    have hy : k = y := Nat.eq_of_beq_eq_true hX
    split at h
    · next a he => exact lv_aload hx hb hd (by rw [hy]; exact lget_has hl he) (go h hP hS hl)
    · exact h.elim
  | lload_n k =>
    simp only [wpI] at h
    have hy : (k : Nat) = y := Nat.eq_of_beq_eq_true hX
    split at h
    · next a he => exact lv_lload_n hx hb hd hy (lget_has hl he) (go h hP hS hl)
    · exact h.elim
  | lload k =>
    simp only [wpI] at h
    have hy : k = y := Nat.eq_of_beq_eq_true hX
    split at h
    · next a he => exact lv_lload hx hb hd (by rw [hy]; exact lget_has hl he) (go h hP hS hl)
    · exact h.elim
  | istore_n k =>
    simp only [wpI] at h
    simp only [chkX, Bool.and_eq_true] at hX
    have hy : (k : Nat) = y := Nat.eq_of_beq_eq_true hX.1
    have hy2 : y + 1 ≤ ms.2.2.1 := Nat.le_of_ble_eq_true hX.2
    split at h
    · exact lv_istore_n hx hb hd hy hl (by omega) rfl (fun ls2 hl2 => go h hP hS (lset_has hl2))
    · exact h.elim
  | istore k =>
    simp only [wpI] at h
    simp only [chkX, Bool.and_eq_true] at hX
    have hy : k = y := Nat.eq_of_beq_eq_true hX.1
    have hy2 : y + 1 ≤ ms.2.2.1 := Nat.le_of_ble_eq_true hX.2
    subst hy
    split at h
    · exact lv_istore hx hb hd hl (by omega) rfl (fun ls2 hl2 => go h hP hS (lset_has hl2))
    · exact h.elim
  | astore_n k =>
    simp only [wpI] at h
    simp only [chkX, Bool.and_eq_true] at hX
    have hy : (k : Nat) = y := Nat.eq_of_beq_eq_true hX.1
    have hy2 : y + 1 ≤ ms.2.2.1 := Nat.le_of_ble_eq_true hX.2
    split at h
    · exact lv_astore_n hx hb hd hy hl (by omega) rfl (fun ls2 hl2 => go h hP hS (lset_has hl2))
    · exact h.elim
  | astore k =>
    simp only [wpI] at h
    simp only [chkX, Bool.and_eq_true] at hX
    have hy : k = y := Nat.eq_of_beq_eq_true hX.1
    have hy2 : y + 1 ≤ ms.2.2.1 := Nat.le_of_ble_eq_true hX.2
    subst hy
    split at h
    · exact lv_astore hx hb hd hl (by omega) rfl (fun ls2 hl2 => go h hP hS (lset_has hl2))
    · exact h.elim
  | lstore_n k =>
    simp only [wpI] at h
    simp only [chkX, Bool.and_eq_true] at hX
    have hy : (k : Nat) = y := Nat.eq_of_beq_eq_true hX.1
    have hy2 : y + 2 ≤ ms.2.2.1 := Nat.le_of_ble_eq_true hX.2
    split at h
    · exact lv_lstore_n hx hb hd hy hl (by omega) rfl (fun ls2 hl2 => go h hP hS (lset2_has hl2))
    · exact h.elim
  | iinc k n =>
    simp only [wpI] at h
    simp only [chkX, Bool.and_eq_true] at hX
    have hy : k = y := Nat.eq_of_beq_eq_true hX.1.1
    have hy2 : y + 1 ≤ ms.2.2.1 := Nat.le_of_ble_eq_true hX.1.2
    have hz := of_decide_eq_true hX.2
    subst hy
    split at h
    · next a he =>
      obtain ⟨j, hj⟩ := List.getElem?_of_mem (show (k, eg_cv ad (.int a)) ∈ eg_lc ad lv from List.mem_map.mpr ⟨(k, .int a), lget_mem he, rfl⟩)
      exact lv_iinc (v := a + z) hx hb hd hl hj (by rw [hz]) (by omega) rfl (fun ls2 hl2 => go h hP hS (lset_has hl2))
    · exact h.elim
  | iconst n => exact lv_iconst hx hb hd (of_decide_eq_true hX) (go h hP hS hl)
  | bipush n => exact lv_bipush hx hb hd (of_decide_eq_true hX) (go h hP hS hl)
  | sipush n => exact lv_sipush hx hb hd (of_decide_eq_true hX) (go h hP hS hl)
  | lconst n => exact lv_lconst hx hb hd (of_decide_eq_true hX) (go h hP hS hl)
  | ldc idx =>
    simp only [wpI] at h
    simp only [chkX] at hX
    cases hw : Nat.beq w 97 with
    | true =>
      rw [hw] at h hX
      simp only [cond_true, Bool.and_eq_true] at h hX
      have hi := Nat.eq_of_beq_eq_true hX.2
      subst hi
      have hr := C.2.2.2.2.2.2.2.2.1.2.2 y (Nat.le_of_ble_eq_true hX.1.2)
      exact va_ldcS hx hb (own := "DatedJars$Reader") (by rw [← of_decide_eq_true hX.1.1]; exact C.2.2.2.2.1) hr hd (go h hP hS hl)
    | false =>
      rw [hw] at h hX
      exact lv_ldc hx hb C.2.2.2.2.1 (cx_w C hX rfl) hd (go h hP hS hl)
  | ldc_w idx => exact lv_ldcw hx hb C.2.2.2.2.1 (cx_w C hX rfl) hd (go h hP hS hl)
  | ldc2_w idx => exact lv_ldc2 hx hb C.2.2.2.2.1 (cx_w C hX rfl) hd (go h hP hS hl)
  | iadd =>
    simp only [wpI] at h
    split at h
    · exact lv_iadd hx hb hd (go h hP hS hl)
    · exact h.elim
  | isub =>
    simp only [wpI] at h
    split at h
    · exact lv_isub hx hb hd (go h hP hS hl)
    · exact h.elim
  | imul =>
    simp only [wpI] at h
    split at h
    · exact lv_imul hx hb hd (go h hP hS hl)
    · exact h.elim
  | iand =>
    simp only [wpI] at h
    split at h
    · exact lv_iand hx hb hd (go h hP hS hl)
    · exact h.elim
  | ior =>
    simp only [wpI] at h
    split at h
    · exact lv_ior hx hb hd (go h hP hS hl)
    · exact h.elim
  | ixor =>
    simp only [wpI] at h
    split at h
    · exact lv_ixor hx hb hd (go h hP hS hl)
    · exact h.elim
  | ishl =>
    simp only [wpI] at h
    split at h
    · exact lv_ishl hx hb hd (go h hP hS hl)
    · exact h.elim
  | ishr =>
    simp only [wpI] at h
    split at h
    · exact lv_ishr hx hb hd (go h hP hS hl)
    · exact h.elim
  | ineg =>
    simp only [wpI] at h
    split at h
    · exact lv_ineg hx hb hd (go h hP hS hl)
    · exact h.elim
  | ladd =>
    simp only [wpI] at h
    split at h
    · exact lv_ladd hx hb hd (go h hP hS hl)
    · exact h.elim
  | lmul =>
    simp only [wpI] at h
    split at h
    · exact lv_lmul hx hb hd (go h hP hS hl)
    · exact h.elim
  | land =>
    simp only [wpI] at h
    split at h
    · exact lv_land hx hb hd (go h hP hS hl)
    · exact h.elim
  | lor =>
    simp only [wpI] at h
    split at h
    · exact lv_lor hx hb hd (go h hP hS hl)
    · exact h.elim
  | lcmp =>
    simp only [wpI] at h
    split at h
    · exact W.lcmp hx hb hd (go h hP hS hl)
    · exact h.elim
  | iushr =>
    simp only [wpI] at h
    split at h
    · exact lv_iushr hx hb hd rfl (go h hP hS hl)
    · exact h.elim
  | i2l =>
    simp only [wpI] at h
    split at h
    · exact lv_i2l hx hb hd rfl (go h hP hS hl)
    · exact h.elim
  | l2i =>
    simp only [wpI] at h
    split at h
    · exact lv_l2i hx hb hd rfl (go h hP hS hl)
    · exact h.elim
  | i2b =>
    simp only [wpI] at h
    split at h
    · exact lv_i2b hx hb hd rfl (go h hP hS hl)
    · exact h.elim
  | lshl =>
    simp only [wpI] at h
    split at h
    · exact lv_lshl hx hb hd rfl (go h hP hS hl)
    · exact h.elim
  | lshr =>
    simp only [wpI] at h
    split at h
    · exact lv_lshr hx hb hd rfl (go h hP hS hl)
    · exact h.elim
  | lushr =>
    simp only [wpI] at h
    split at h
    · exact lv_lushr hx hb hd rfl (go h hP hS hl)
    · exact h.elim
  | idiv =>
    simp only [wpI] at h
    split at h
    · exact lv_idiv hx hb hd h.1 (go h.2 hP hS hl)
    · exact h.elim
  | irem =>
    simp only [wpI] at h
    split at h
    · exact lv_irem hx hb hd h.1 (go h.2 hP hS hl)
    · exact h.elim
  | lrem =>
    simp only [wpI] at h
    split at h
    · exact lv_lrem hx hb hd h.1 (go h.2 hP hS hl)
    · exact h.elim
  | dup =>
    simp only [wpI] at h
    split at h
    · next a r =>
      cases hc : Nat.beq a.category 1 with
      | true =>
        rw [hc] at h
        exact lv_dup hx hb hd (by rw [eg_cv_cat]; exact Nat.eq_of_beq_eq_true hc) (go h hP hS hl)
      | false => rw [hc] at h; exact h.elim
    · exact h.elim
  | pop =>
    simp only [wpI] at h
    split at h
    · next a r =>
      cases hc : Nat.beq a.category 1 with
      | true =>
        rw [hc] at h
        exact lv_pop hx hb hd (by rw [eg_cv_cat]; exact Nat.eq_of_beq_eq_true hc) (go h hP hS hl)
      | false => rw [hc] at h; exact h.elim
    · exact h.elim
  | dup2 =>
    simp only [wpI] at h
    split at h
    · next a b r =>
      cases hc : (Nat.beq a.category 1 && Nat.beq b.category 1) with
      | true =>
        rw [hc] at h
        simp only [Bool.and_eq_true] at hc
        exact lv_dup2_11 hx hb hd (by rw [eg_cv_cat]; exact Nat.eq_of_beq_eq_true hc.1) (by rw [eg_cv_cat]; exact Nat.eq_of_beq_eq_true hc.2) (go h hP hS hl)
      | false => rw [hc] at h; exact h.elim
    · exact h.elim
  | goto off => exact lv_goto hx hb hd (of_decide_eq_true hX) (go h hP hS hl)
  | ifCond cnd off =>
    have ht := of_decide_eq_true hX
    cases cnd <;> simp only [wpI] at h <;> split at h
    · exact lv_if_eq hx hb hd ht (fun q => go (h.1 q) hP hS hl) (fun q => go (h.2 q) hP hS hl)
    · exact h.elim
    · exact lv_if_ne hx hb hd ht (fun q => go (h.1 q) hP hS hl) (fun q => go (h.2 q) hP hS hl)
    · exact h.elim
    · exact lv_if_lt hx hb hd ht (fun q => go (h.1 q) hP hS hl) (fun q => go (h.2 q) hP hS hl)
    · exact h.elim
    · exact lv_if_ge hx hb hd ht (fun q => go (h.1 q) hP hS hl) (fun q => go (h.2 q) hP hS hl)
    · exact h.elim
    · exact lv_if_gt hx hb hd ht (fun q => go (h.1 q) hP hS hl) (fun q => go (h.2 q) hP hS hl)
    · exact h.elim
    · exact lv_if_le hx hb hd ht (fun q => go (h.1 q) hP hS hl) (fun q => go (h.2 q) hP hS hl)
    · exact h.elim
  | if_icmp cnd off =>
    have ht := of_decide_eq_true hX
    cases cnd <;> simp only [wpI] at h <;> split at h
    · exact lv_icmp_eq hx hb hd ht (fun q => go (h.1 q) hP hS hl) (fun q => go (h.2 q) hP hS hl)
    · exact h.elim
    · exact lv_icmp_ne hx hb hd ht (fun q => go (h.1 q) hP hS hl) (fun q => go (h.2 q) hP hS hl)
    · exact h.elim
    · exact lv_icmp_lt hx hb hd ht (fun q => go (h.1 q) hP hS hl) (fun q => go (h.2 q) hP hS hl)
    · exact h.elim
    · exact lv_icmp_ge hx hb hd ht (fun q => go (h.1 q) hP hS hl) (fun q => go (h.2 q) hP hS hl)
    · exact h.elim
    · exact lv_icmp_gt hx hb hd ht (fun q => go (h.1 q) hP hS hl) (fun q => go (h.2 q) hP hS hl)
    · exact h.elim
    · exact lv_icmp_le hx hb hd ht (fun q => go (h.1 q) hP hS hl) (fun q => go (h.2 q) hP hS hl)
    · exact h.elim
  | tableswitch d lo hi offs =>
    simp only [wpI] at h
    simp only [chkX, Bool.and_eq_true, decide_eq_true_eq] at hX
    obtain ⟨⟨hd1, ho1⟩, hsz⟩ := hX
    split at h
    · next a r =>
      by_cases hr : a.toInt < lo ∨ hi < a.toInt
      · exact lv_tableOut hx hb hd hr (Int.toNat_of_nonneg hd1).symm (go (h.1 hr) hP hS hl)
      · have h1 : ¬ a.toInt < lo := fun q => hr (Or.inl q)
        have h2 : ¬ hi < a.toInt := fun q => hr (Or.inr q)
        have hj : (a.toInt - lo).toNat < offs.size := by omega
        have ho : offs[(a.toInt - lo).toNat]? = some offs[(a.toInt - lo).toNat] := Array.getElem?_eq_getElem hj
        have ho2 : offs.toList[(a.toInt - lo).toNat]? = some offs[(a.toInt - lo).toNat] := by rw [Array.getElem?_toList]; exact ho
        have hk := swAll_get h.2 ho2 (by omega)
        have hnn := of_decide_eq_true (List.all_eq_true.mp ho1 _ (List.mem_of_getElem? ho2))
        exact lv_tableIn hx hb hd h1 h2 ho (Int.toNat_of_nonneg hnn).symm (go hk hP hS hl)
    · exact h.elim
  | lookupswitch d ps =>
    simp only [wpI] at h
    simp only [chkX, Bool.and_eq_true, decide_eq_true_eq] at hX
    obtain ⟨⟨hd1, ho1⟩, hsz⟩ := hX
    split at h
    · next a r =>
      have hk := lkAll_get h
      have hnn := lk_nonneg (v := a.toInt) hd1 (ps := ps.toList) (fun o ho => of_decide_eq_true (List.all_eq_true.mp ho1 o ho))
      exact lv_lookup hx hb hd hsz rfl (Int.toNat_of_nonneg hnn).symm (go hk hP hS hl)
    · exact h.elim
  | getfield idx =>
    simp only [wpI] at h
    simp only [chkX, Bool.and_eq_true] at hX
    obtain ⟨⟨hw, hy⟩, hlk⟩ := hX
    have hw : w < 9 := Nat.le_of_ble_eq_true hw
    have hy : y < NNx w := Nat.le_of_ble_eq_true hy
    split at h
    · next a r =>
      split at h
      · next v hv =>
        obtain ⟨ha, h0, h1, h2⟩ := gfV_spec hv
        have he := cells_at (ad := ad) (cy := cy) (σ := σ) ha
        rw [cellE_obj h0, h1] at he
        exact va_get hx hb C.2.2.2.2.2.1 (uG_at hw) C.2.2.2.2.1 C.2.2.2.2.2.2.2.1 hP a he (cl_at hw) y hy (cx_w C hlk rfl) (fun _ q => q) (h2 ad) hd (go h hP hS hl)
      · exact h.elim
    · exact h.elim
  | putfield idx =>
    simp only [wpI] at h
    simp only [chkX, Bool.and_eq_true] at hX
    obtain ⟨⟨⟨⟨hw, hy⟩, hlk⟩, hfin⟩, hty⟩ := hX
    have hw : w < 9 := Nat.le_of_ble_eq_true hw
    have hy : y < NNx w := Nat.le_of_ble_eq_true hy
    have hfin : (TTx w y).2.2.2 = false := by simpa using hfin
    have hty := of_decide_eq_true hty
    split at h
    · next v a r =>
      cases hpf : pfB a w y with
      | false => rw [hpf] at h; exact h.elim
      | true =>
        rw [hpf] at h
        simp only [cond_true] at h
        obtain ⟨ha, h0, h1, h2⟩ := pfB_spec hpf
        have he := cells_at (ad := ad) (cy := cy) (σ := σ) ha
        rw [cellE_obj h0, h1] at he
        have hlen : y < (eg_sl ad (σ a) 0 (shp a).2.2).length := by
          rw [eg_sl_len]; exact (List.getElem?_eq_some_iff.mp h2).1
        have fin : K (pc + 3) lv r (sgu σ a y v) ∧ (narrow (TYx w y) (.int v) = .int v ∧ fits (TYx w y) (.int v) = true) := by
          rw [hty]
          cases hq : (Nat.beq w 6 && Nat.beq y 5) with
          | true => rw [hq] at h; exact ⟨h.2, eg_nar h.1⟩
          | false => rw [hq] at h; exact ⟨h, rfl, rfl⟩
        refine va_put hx hb C.2.2.2.2.2.1 (uG_at hw) (TYx w) (ty_at hw) (nm_at hw) C.2.2.2.2.1 C.2.2.2.2.2.2.2.1 hP (cells_D C.2.2.2.2.2.2.2.2.2 cy σ) hS a he (cl_at hw) y hy (cx_w C hlk rfl) (fun _ q => q) hfin (ty_at hw y hy) fin.2.1 fin.2.2 hlen hd (fun H1 locs1 hP1 hD1 hS1 => ?_)
        refine go fin.1 (eg_kept ha ?_ (fun d hd9 => sgc_ne hd9) hP1) hS1 hl
        rw [cellE_obj h0, h1]
        show Sum.inr (w, (eg_sl ad (σ a) 0 (shp a).2.2).set y (.int v)) = Sum.inr (w, eg_sl ad (sgc σ a (upd (σ a) y v) a) 0 (shp a).2.2)
        rw [sgc_self, eg_sl_set ad (σ a) v _ 0 y h2, Nat.zero_add]
    · exact h.elim
  | iaload =>
    simp only [wpI] at h
    split at h
    · next i a r =>
      obtain ⟨⟨ha, ht, hi⟩, h⟩ := h
      have he := cells_at (ad := ad) (cy := cy) (σ := σ) ha
      rw [cellE_arr (by omega) (by omega), ht] at he
      exact va_iald hx hb C.2.2.2.2.2.2.2.1 hP a 0 he rfl hi hd (go (h _ rfl) hP hS hl)
    · exact h.elim
  | iastore =>
    simp only [wpI] at h
    split at h
    · next v i a r =>
      obtain ⟨⟨ha, ht, hi⟩, h⟩ := h
      have he := cells_at (ad := ad) (cy := cy) (σ := σ) ha
      rw [cellE_arr (by omega) (by omega), ht] at he
      refine va_iast hx hb C.2.2.2.2.2.2.2.1 hP (cells_D C.2.2.2.2.2.2.2.2.2 cy σ) hS a 0 he rfl hi hd (fun H1 locs1 hP1 hD1 hS1 => ?_)
      refine go (h _ rfl) (eg_kept ha ?_ (fun d hd9 => sgc_ne hd9) hP1) hS1 hl
      rw [cellE_arr (by omega) (by omega), ht]
      show _ = Sum.inl (cy 1, (shp a).2.1, Sum.inl (sgc σ a (upd (σ a) i.toNatClampNeg v) a))
      rw [sgc_self]
    · exact h.elim
  | baload =>
    simp only [wpI] at h
    split at h
    · next i a r =>
      obtain ⟨⟨ha, ht, hi⟩, h⟩ := h
      have he := cells_at (ad := ad) (cy := cy) (σ := σ) ha
      cases hq : Nat.beq (shp a).1 2 with
      | true =>
        rw [hq] at ht
        simp only [cond_true] at ht
        rw [cellE_arr (by omega) (by omega), ht] at he
        exact va_bald hx hb C.2.2.2.2.2.2.2.1 hP a 1 he rfl hi hd (go (h _ rfl) hP hS hl)
      | false =>
        rw [hq] at ht
        simp only [cond_false] at ht
        rw [cellE_arr (by omega) (by omega), ht] at he
        exact va_zald hx hb C.2.2.2.2.2.2.2.1 hP a 2 he rfl hi hd (go (h _ rfl) hP hS hl)
    · exact h.elim
  | bastore =>
    simp only [wpI] at h
    split at h
    · next v i a r =>
      obtain ⟨⟨ha, ht, hi⟩, h⟩ := h
      have he := cells_at (ad := ad) (cy := cy) (σ := σ) ha
      cases hq : Nat.beq (shp a).1 2 with
      | true =>
        rw [hq] at ht h
        simp only [cond_true] at ht h
        rw [cellE_arr (by omega) (by omega), ht] at he
        refine va_bast hx hb C.2.2.2.2.2.2.2.1 hP (cells_D C.2.2.2.2.2.2.2.2.2 cy σ) hS a 1 he rfl hi hd (fun H1 locs1 hP1 hD1 hS1 => ?_)
        refine go (h _ rfl) (eg_kept ha ?_ (fun d hd9 => sgc_ne hd9) hP1) hS1 hl
        rw [cellE_arr (by omega) (by omega), ht]
        show _ = Sum.inl (cy 2, (shp a).2.1, Sum.inl (sgc σ a (upd (σ a) i.toNatClampNeg (vp_nar .byte v)) a))
        rw [sgc_self]
      | false =>
        rw [hq] at ht h
        simp only [cond_false] at ht h
        rw [cellE_arr (by omega) (by omega), ht] at he
        refine va_zast hx hb C.2.2.2.2.2.2.2.1 hP (cells_D C.2.2.2.2.2.2.2.2.2 cy σ) hS a 2 he rfl hi hd (fun H1 locs1 hP1 hD1 hS1 => ?_)
        refine go (h _ rfl) (eg_kept ha ?_ (fun d hd9 => sgc_ne hd9) hP1) hS1 hl
        rw [cellE_arr (by omega) (by omega), ht]
        show _ = Sum.inl (cy 3, (shp a).2.1, Sum.inl (sgc σ a (upd (σ a) i.toNatClampNeg (vp_nar .boolean v)) a))
        rw [sgc_self]
    · exact h.elim
  | aaload =>
    simp only [wpI] at h
    split at h
    · next i a r =>
      obtain ⟨⟨ha, ht, hi⟩, h⟩ := h
      have he := cells_at (ad := ad) (cy := cy) (σ := σ) ha
      have hlt : i.toNatClampNeg < (shp a).2.1 := Nat.not_le.mp fun q => hi (Or.inr q)
      cases hq : Nat.beq (shp a).1 4 with
      | true =>
        rw [hq] at ht
        simp only [cond_true] at ht
        rw [cellE_ref (by omega) (by omega), ht] at he
        exact va_aldq (C := "DatedJars$Land") hx hb C.2.2.2.2.2.2.2.1 hP a 3 he rfl hi hd (go h hP hS hl)
      | false =>
        rw [hq] at ht
        simp only [cond_false] at ht
        rw [cellE_ref (by omega) (by omega), ht] at he
        exact W.aald (v := va_rf (some (ad (eg_rb (shp a).2.2 + eg_rs (shp a).2.2 * i.toNatClampNeg)))) (ty := .array .int) hx hb (hP a _ he) ((C.2.2.2.2.2.2.2.1.2 4 _ rfl).1 (shp a).2.1 (fun j => va_rf (some (ad (eg_rb (shp a).2.2 + eg_rs (shp a).2.2 * j))))) rfl (fun q => by cases q) (by show ¬ (i < 0 ∨ (arrV _ _ _).slots.size ≤ _); rw [arrV_size]; exact hi) (by show (arrV _ _ _).slots[_]? = _; rw [arrV_read _ _ hlt]) rfl rfl hd (go h hP hS hl)
    · exact h.elim
  | arraylength =>
    simp only [wpI] at h
    split at h
    · next a r =>
      cases hq : Nat.ble NC a with
      | true => rw [hq] at h; exact h.elim
      | false =>
        have ha : a < NC := Nat.lt_of_not_le (fun q => by rw [Nat.ble_eq_true_of_le q] at hq; cases hq)
        rw [hq] at h
        simp only [cond_false] at h
        cases ht : Nat.beq (shp a).1 1 with
        | false => rw [ht] at h; exact h.elim
        | true =>
          rw [ht] at h
          have ht := Nat.eq_of_beq_eq_true ht
          have he := cells_at (ad := ad) (cy := cy) (σ := σ) ha
          rw [cellE_arr (by omega) (by omega), ht] at he
          exact va_alen hx hb C.2.2.2.2.2.2.2.1 hP a 0 he (ty := .int) rfl rfl hd (go h hP hS hl)
    · exact h.elim
  | invokevirtual idx =>
    simp only [wpI] at h
    simp only [chkX, Bool.and_eq_true] at hX
    obtain ⟨⟨⟨⟨⟨hlk, hy1⟩, hpar⟩, hroom⟩, hst⟩, hcls⟩ := hX
    have hy1 : 1 ≤ y := Nat.le_of_ble_eq_true hy1
    split at h
    · next b as r hpop =>
      cases hc : (rcvB b w && Nat.ble (stkB r) 8) with
      | false => rw [hc] at h; exact h.elim
      | true =>
        rw [hc] at h
        simp only [Bool.and_eq_true] at hc
        simp only [cond_true] at h
        obtain ⟨ps, hp1, hp2, hp3⟩ := popA_spec hpop
        have e0 : ps.reverse = .ref b :: as := by simpa using hp3.symm
        have e1 : ps = as.reverse ++ [.ref b] := by
          rw [← List.reverse_reverse ps, e0]; simp
        have e2 : as.length = y - 1 := by rw [e1] at hp1; simp at hp1; omega
        obtain ⟨hok, hM⟩ := h
        have hin := stB_inst hok hst
        have hrec : ∃ cellB : Cell, H[ad b]? = some cellB ∧ cellB.vm.isStatics = false ∧ s.vm.findClass cm.1.cls = some cellB.cls := by
          cases hw : Nat.beq w 99 with
          | true =>
            rw [hw] at hcls
            have hcls := of_decide_eq_true hcls
            have hrb := hc.1
            unfold rcvB at hrb
            rw [hw] at hrb
            simp only [cond_true, Bool.and_eq_true] at hrb
            have g1 := Nat.le_of_ble_eq_true hrb.1
            have g2 := Nat.le_of_ble_eq_true hrb.2
            obtain ⟨adV, hstr⟩ := C.2.2.2.2.2.2.2.2.1.1
            have := vk_recv (i := b - 1000) hstr (by omega) hS
            rw [hcls]
            have e9 : 1000 + (b - 1000) = b := Nat.add_sub_cancel' g1
            rw [e9] at this
            exact this
          | false =>
            rw [hw] at hcls
            simp only [cond_false, Bool.and_eq_true] at hcls
            obtain ⟨g1, g2, g3⟩ := rcvB_spec hw hc.1
            have he := cells_at (ad := ad) (cy := cy) (σ := σ) g1
            rw [cellE_obj g2, g3] at he
            have := va_recv C.2.2.2.2.2.2.2.1 hP (cl_at (Nat.le_of_ble_eq_true hcls.1)) he
            rw [← of_decide_eq_true hcls.2]
            exact this
        refine eg_call (va_runV (As := as.map (eg_cv ad)) (rest := r.map (eg_cv ad)) (b := ad b) (C := cm.1.cls) (n := y - 1) (nL := ms.2.2.1) (Ts := Gd) (own := ms.1.cls) ⟨hx, hb, C.2.2.2.1, C.2.2.2.2.1, C.2.2.2.2.2.1⟩ (hM l D ad cy) ⟨eg_cb C.2.2.2.2.2.1 hok (cx_w C hlk rfl) hpar hroom rfl, C.2.2.2.2.2.1 _ hin.1, C.2.2.2.2.2.1 _ hin.2⟩ ⟨eg_blind, hrec, fun U hU hW => ⟨rfl, ⟨va_K.moved hW.alike C.2.2.2.2.2.2.2.1, C.2.2.2.2.2.2.2.2.1.at hS hU hW, C.2.2.2.2.2.2.2.2.2⟩, by rw [hU]; exact hP⟩⟩ rfl (by rw [List.length_map]; exact e2) hl.1 (by rw [hp2, e1]; simp [eg_cv]) (lv_room (stk_le ad hc.2)) hd ⟨Nat.zero_le _, Nat.zero_le _⟩) hS (fun v σ' H1 locs1 hR hP1 hS1 => ?_)
        rw [vpush_map]
        exact go hR hP1 hS1 hl
    · exact h.elim
  | invokestatic idx =>
    simp only [wpI] at h
    simp only [chkX] at hX
    cases hw : Nat.beq w 98 with
    | true =>
      rw [hw] at h hX
      simp only [cond_true, Bool.and_eq_true] at h hX
      obtain ⟨⟨hlk, hf1⟩, hl1⟩ := hX
      split at h
      · next n dp b sp a r =>
        cases hc : Nat.ble (stkB r) 8 with
        | false => rw [hc] at h; exact h.elim
        | true =>
          rw [hc] at h
          obtain ⟨⟨⟨ha, hta⟩, ⟨hbb, htb⟩, g1, g2, g3, g4, g5⟩, h⟩ := h
          have he := cells_at (ad := ad) (cy := cy) (σ := σ) ha
          rw [cellE_arr (by omega) (by omega), hta] at he
          have heb := cells_at (ad := ad) (cy := cy) (σ := σ) hbb
          rw [cellE_arr (by omega) (by omega), htb] at heb
          have h8 := stk_le ad hc
          refine va_copyi hx hb (by rw [C.2.2.2.1]; exact hl.1.symm) C.2.2.2.2.1 (cx_w C hlk rfl) (C.2.2.2.2.2.1 _ acG1) (C.2.2.2.2.2.1 _ acG2) (C.2.2.2.2.2.1 _ acG3) C.2.2.2.2.2.2.2.1 hP (cells_D C.2.2.2.2.2.2.2.2.2 cy σ) hS a b 0 0 (ty := .int) he heb rfl rfl rfl g1 g2 g3 g4 g5 (fun _ _ => rfl) (Nat.le_of_ble_eq_true hf1) ?_ hd (fun H1 locs1 hP1 hD1 hS1 => ?_)
          · have h9 := Nat.le_of_ble_eq_true hl1
            have e9 : nativeFrameWords "java/lang/System" "arraycopy" 5 = 7 := by decide +kernel
            omega
          · refine go h (eg_kept hbb ?_ (fun d hd9 => sgc_ne hd9) hP1) hS1 hl
            rw [cellE_arr (by omega) (by omega), htb, sgc_self]
      · exact h.elim
    | false =>
      rw [hw] at h hX
      simp only [cond_false] at h hX
      cases hw96 : Nat.beq w 96 with
      | true =>
        rw [hw96] at h hX
        simp only [cond_true, Bool.and_eq_true] at h hX
        obtain ⟨⟨hlk, hf1⟩, hl1⟩ := hX
        split at h
        · next b a r =>
          cases hc : Nat.ble (stkB r) 8 with
          | false => rw [hc] at h; exact h.elim
          | true =>
            rw [hc] at h
            have h8 := stk_le ad hc
            have h9 := Nat.le_of_ble_eq_true hl1
            exact va_mmin hx hb (by rw [C.2.2.2.1]; exact hl.1.symm) C.2.2.2.2.1 (cx_w C hlk rfl) (C.2.2.2.2.2.1 _ minG1) (C.2.2.2.2.2.1 _ maG0) (C.2.2.2.2.2.1 _ minG2) (Nat.le_of_ble_eq_true hf1) (by omega) (Nat.zero_le _) (Nat.zero_le _) hd (go h hP hS hl)
        · exact h.elim
      | false =>
      rw [hw96] at h hX
      simp only [cond_false] at h hX
      cases hw95 : Nat.beq w 95 with
      | true =>
        rw [hw95] at h hX
        simp only [cond_true, Bool.and_eq_true] at h hX
        obtain ⟨⟨hlk, hf1⟩, hl1⟩ := hX
        split at h
        · next b a r =>
          cases hc : Nat.ble (stkB r) 8 with
          | false => rw [hc] at h; exact h.elim
          | true =>
            rw [hc] at h
            have h8 := stk_le ad hc
            have h9 := Nat.le_of_ble_eq_true hl1
            exact va_mmax hx hb (by rw [C.2.2.2.1]; exact hl.1.symm) C.2.2.2.2.1 (cx_w C hlk rfl) (C.2.2.2.2.2.1 _ maxG1) (C.2.2.2.2.2.1 _ maG0) (C.2.2.2.2.2.1 _ maxG2) (Nat.le_of_ble_eq_true hf1) (by omega) (Nat.zero_le _) (Nat.zero_le _) hd (go h hP hS hl)
        · exact h.elim
      | false =>
      rw [hw95] at h hX
      simp only [cond_false] at h hX
      simp only [Bool.and_eq_true] at hX
      obtain ⟨⟨⟨hlk, hpar⟩, hroom⟩, hst⟩ := hX
      split at h
      · next as r hpop =>
        cases hc : Nat.ble (stkB r) 8 with
        | false => rw [hc] at h; exact h.elim
        | true =>
          rw [hc] at h
          simp only [cond_true] at h
          obtain ⟨ps, hp1, hp2, hp3⟩ := popA_spec hpop
          have e0 : ps.reverse = as := by simpa using hp3.symm
          have e1 : ps = as.reverse := by rw [← e0]; simp
          have e2 : as.length = y := by rw [e1] at hp1; simpa using hp1
          obtain ⟨hok, hM⟩ := h
          refine eg_call (va_runS (As := as.map (eg_cv ad)) (rest := r.map (eg_cv ad)) (n := y) (nL := ms.2.2.1) (Ts := Gd) (own := ms.1.cls) ⟨hx, hb, C.2.2.2.1, C.2.2.2.2.1, C.2.2.2.2.2.1⟩ (hM l D ad cy) ⟨eg_cb C.2.2.2.2.2.1 hok (cx_w C hlk rfl) hpar hroom rfl, C.2.2.2.2.2.1 _ (hok.2.2.1.2 hst)⟩ ⟨eg_blind, fun U hU hW => ⟨rfl, ⟨va_K.moved hW.alike C.2.2.2.2.2.2.2.1, C.2.2.2.2.2.2.2.2.1.at hS hU hW, C.2.2.2.2.2.2.2.2.2⟩, by rw [hU]; exact hP⟩⟩ rfl (by rw [List.length_map]; exact e2) hl.1 (by rw [hp2, e1]; simp) (lv_room (stk_le ad hc)) hd ⟨Nat.zero_le _, Nat.zero_le _⟩) hS (fun v σ' H1 locs1 hR hP1 hS1 => ?_)
          rw [vpush_map]
          exact go hR hP1 hS1 hl
      · exact h.elim
  | ireturn =>
    simp only [wpI] at h
    split at h
    · next a =>
      split at h
      · next hr => exact W.iret (v := a) hx hb (C.2.2.1.trans hr) (fun t ht hW => ⟨⟨some (.int a), σ, rfl, h, by rw [ht]; exact hP⟩, hS.F ht⟩) hS.2.2 hd (hlocks := C.2.2.2.2.2.2.1)
      · next hr => exact W.zret (v := a) (ty := .boolean) hx hb (C.2.2.1.trans hr) (eg_nar h.1).1 (fun t ht hW => ⟨⟨some (.int a), σ, rfl, h.2, by rw [ht]; exact hP⟩, hS.F ht⟩) hS.2.2 hd (hlocks := C.2.2.2.2.2.2.1)
      · exact h.elim
    · exact h.elim
  | return_ =>
    simp only [wpI] at h
    split at h
    · split at h
      · next hr => exact W.vret hx hb (C.2.2.1.trans hr) (fun t ht hW => ⟨⟨none, σ, rfl, h, by rw [ht]; exact hP⟩, hS.F ht⟩) hS.2.2 hd (hlocks := C.2.2.2.2.2.2.1)
      · exact h.elim
    · exact h.elim
  | _ => exact h.elim
theorem wpB_sd {ms : MS} {cd : Cd} {stops : List Nat} {R : Option Value → Sg → Prop} (hc : chkC ms cd = true) : ∀ (n pc : Nat) (lv : Lv) (st : List Value) (σ : Sg), wpB ms cd stops R n pc lv st σ → V ms pc lv st σ R
  | 0, _, _, _, _, h => h.elim
  | n + 1, pc, lv, st, σ, h => by
    unfold wpB at h
    split at h
    · exact h.elim
    · next ins npc x y w z zl cm he =>
      refine wpI_sd (fnd2_chk hc he) (fun a b c d k => ?_) h
      cases hs : stops.elem a with
      | true => rw [hs] at k; exact k
      | false => rw [hs] at k; exact wpB_sd hc n a b c d k
end
section
/-! BASE: numbers, bits, abstract lands -/
abbrev bI (c : Prop) [Decidable c] : Int32 := if c then 1 else 0
theorem bI_0 {c : Prop} [Decidable c] : bI c = 0 ↔ ¬ c := by unfold bI; split <;> simp_all
theorem bI_1 {c : Prop} [Decidable c] : bI c = 1 ↔ c := by unfold bI; split <;> simp_all
theorem bI_t {c : Prop} [Decidable c] (h : c) : bI c = 1 := if_pos h
theorem bI_f {c : Prop} [Decidable c] (h : ¬ c) : bI c = 0 := if_neg h
theorem bI_c {c d : Prop} [Decidable c] [Decidable d] (h : c ↔ d) : bI c = bI d := by
  by_cases hc : c
  · rw [bI_t hc, bI_t (h.mp hc)]
  · rw [bI_f hc, bI_f (fun q => hc (h.mpr q))]
theorem bI_or {c : Prop} [Decidable c] : bI c = 0 ∨ bI c = 1 := by unfold bI; split <;> simp
theorem bn_t {c A B : Prop} (h : c) (b : B) : (¬ c → A) ∧ (c → B) := ⟨fun q => absurd h q, fun _ => b⟩
theorem bn_f {c A B : Prop} (h : ¬ c) (a : A) : (¬ c → A) ∧ (c → B) := ⟨fun _ => a, fun q => absurd q h⟩
theorem fin_i {Q : Option Value → Sg → Prop} {v v' : Int32} {σ : Sg} (h : Q (some (.int v)) σ) (e : v' = v) : Q (some (.int v')) σ := e ▸ h
def aokB (a t n : Nat) : Bool := Nat.ble (a + 1) NC && Nat.beq (shp a).1 t && Nat.beq (shp a).2.1 n && Nat.ble n 2147483647
theorem aok {a t n j : Nat} {i : Int32} (h : aokB a t n = true) (hi : i = nI j) (hj : j < n) : aOK a t i := by
  simp only [aokB, Bool.and_eq_true] at h
  obtain ⟨⟨⟨h1, h2⟩, h3⟩, h4⟩ := h
  refine ⟨Nat.le_of_ble_eq_true h1, Nat.eq_of_beq_eq_true h2, ?_⟩
  rw [Nat.eq_of_beq_eq_true h3, hi]
  exact vp_in_nI hj (by have := Nat.le_of_ble_eq_true h4; omega)
theorem ald {σ : Sg} {a j n : Nat} {i v : Int32} {P : Int32 → Prop} (h : aokB a 1 n = true) (hi : i = nI j) (hj : j < n) (hv : σ a j = v) (k : P v) : aOK a 1 i ∧ ∀ u : Int32, u = σ a i.toNatClampNeg → P u := by
  have h9 := h
  simp only [aokB, Bool.and_eq_true] at h9
  have hn := Nat.le_of_ble_eq_true h9.2
  refine ⟨aok h hi hj, fun u hu => ?_⟩
  rw [hu, hi, nI_clamp (by omega), hv]; exact k
theorem ast {σ : Sg} {a j n : Nat} {i v : Int32} {P : Sg → Prop} (h : aokB a 1 n = true) (hi : i = nI j) (hj : j < n) (k : P (sgu σ a j v)) : aOK a 1 i ∧ ∀ σ' : Sg, σ' = sgu σ a i.toNatClampNeg v → P σ' := by
  have h9 := h
  simp only [aokB, Bool.and_eq_true] at h9
  have hn := Nat.le_of_ble_eq_true h9.2
  refine ⟨aok h hi hj, fun σ' e => ?_⟩
  rw [e, hi, nI_clamp (by omega)]; exact k
theorem rdn {f : Nat → Int32} {j : Nat} {v : Int32} (hj : j < 2 ^ 31) (h : f j = v) : f (nI j).toNatClampNeg = v := by rw [nI_clamp hj]; exact h
theorem sgu_s {σ : Sg} {c k : Nat} {v : Int32} : sgu σ c k v c k = v := by unfold sgu; rw [sgc_self]; exact pk_us
theorem sgu_k {σ : Sg} {c k k' : Nat} {v : Int32} (h : k' ≠ k) : sgu σ c k v c k' = σ c k' := by unfold sgu; rw [sgc_self]; exact pk_un h
theorem sgu_c {σ : Sg} {c c' k : Nat} {v : Int32} (h : c' ≠ c) : sgu σ c k v c' = σ c' := sgc_ne h
theorem sgu_at {σ : Sg} {c c' k k' : Nat} {v : Int32} : sgu σ c k v c' k' = if c' = c ∧ k' = k then v else σ c' k' := by
  by_cases h : c' = c
  · subst h
    by_cases h2 : k' = k
    · subst h2; rw [sgu_s, if_pos ⟨rfl, rfl⟩]
    · rw [sgu_k h2, if_neg (fun q => h2 q.2)]
  · rw [sgu_c h, if_neg (fun q => h q.1)]
abbrev St : Type := Nat → Nat → Nat
def stu (A : St) (f k v : Nat) : St := fun g j => if g = f ∧ j = k then v else A g j
theorem stu_s {A : St} {f k v : Nat} : stu A f k v f k = v := if_pos ⟨rfl, rfl⟩
theorem stu_f {A : St} {f k v g j : Nat} (h : g ≠ f) : stu A f k v g j = A g j := if_neg (fun q => h q.1)
theorem stu_k {A : St} {f k v g j : Nat} (h : j ≠ k) : stu A f k v g j = A g j := if_neg (fun q => h q.2)
def bset (p : Nat → Nat) : Nat → Nat
  | 0 => 0
  | n + 1 => bset p n + (if p n = 1 then 2 ^ n else 0)
theorem bset_lt (p : Nat → Nat) : ∀ n, bset p n < 2 ^ n
  | 0 => by simp [bset]
  | n + 1 => by
    have := bset_lt p n
    rw [bset, Nat.pow_succ]
    split <;> omega
theorem bset_bit (p : Nat → Nat) : ∀ n j, (bset p n).testBit j = decide (j < n ∧ p j = 1)
  | 0, j => by simp [bset]
  | n + 1, j => by
    have ih := bset_bit p n j
    have hl := bset_lt p n
    rw [bset]
    by_cases hp : p n = 1
    · rw [if_pos hp, Nat.add_comm]
      rcases Nat.lt_trichotomy j n with q | q | q
      · rw [Nat.testBit_two_pow_add_gt q, ih]
        simp [q, show j < n + 1 by omega]
      · subst q
        rw [Nat.testBit_two_pow_add_eq, ih]
        simp [hp]
      · have h2 : 2 ^ n + bset p n < 2 ^ j := by
          have : 2 ^ (n + 1) ≤ 2 ^ j := Nat.pow_le_pow_right (by omega) (by omega)
          rw [Nat.pow_succ] at this
          omega
        rw [Nat.testBit_lt_two_pow h2]
        simp [show ¬ j < n + 1 by omega]
    · rw [if_neg hp, Nat.add_zero, ih]
      by_cases hj : j = n
      · subst hj; simp [hp]
      · have : (j < n + 1) ↔ (j < n) := by omega
        simp [this]
theorem gbit {n j : Nat} (hn : n < 2 ^ 31) (hj : j < 31) : (nI n >>> (nI j &&& 31)) &&& 1 = nI (n / 2 ^ j % 2) := by
  rw [pk_shrN hn _ j (s_l j (by omega))]
  have h : n / 2 ^ j ≤ n := Nat.div_le_self _ _
  exact pk_andN (m := 1) (by omega) 1 (by decide)
theorem gbit1 {n j : Nat} (hn : n < 2 ^ 31) (hj : j < 31) : (nI n >>> (nI j &&& 31)) &&& 1 = 1 ↔ n.testBit j = true := by
  rw [gbit hn hj, Nat.testBit_eq_decide_div_mod_eq, decide_eq_true_eq]
  have : n / 2 ^ j % 2 < 2 := Nat.mod_lt _ (by omega)
  constructor
  · intro h; exact (nI_eq (b := 1) (by omega) (by omega)).mp h
  · intro h; rw [h]; rfl
theorem gbit0 {n j : Nat} (hn : n < 2 ^ 31) (hj : j < 31) : (nI n >>> (nI j &&& 31)) &&& 1 = 0 ↔ n.testBit j = false := by
  rw [gbit hn hj, Nat.testBit_eq_decide_div_mod_eq, decide_eq_false_iff_not]
  have : n / 2 ^ j % 2 < 2 := Nat.mod_lt _ (by omega)
  constructor
  · intro h
    have := (nI_eq (b := 0) (by omega) (by omega)).mp h
    omega
  · intro h
    have e : n / 2 ^ j % 2 = 0 := by omega
    rw [e]; rfl
theorem one_shl {j : Nat} (hj : j < 31) : (1 : Int32) <<< (nI j &&& 31) = nI (2 ^ j) := by
  have h2 : 2 ^ j < 2 ^ 31 := Nat.pow_lt_pow_right (by omega) hj
  have := pk_shlN (n := 1) (nI j &&& 31) j (s_l j (by omega)) (by omega)
  rw [Nat.one_mul] at this
  exact this
/-- the cellar at b holds the jars of A -/
def RCel (b : Nat) (σ : Sg) (A : St) : Prop := σ b 0 = nI (A 12 0) ∧ σ b 7 = nI (bset (A 6) (A 12 0)) ∧ ∀ j, j < A 12 0 → σ (b + 1) j = nI (A 0 j) ∧ σ (b + 2) j = nI (A 1 j) ∧ σ (b + 3) j = nI (A 2 j) ∧ σ (b + 4) j = nI (A 3 j) ∧ σ (b + 5) j = nI (A 4 j) ∧ σ (b + 6) j = nI (A 5 j)
/-- the jars are within their bounds -/
def WJ (A : St) : Prop := A 12 0 ≤ 24 ∧ A 12 1 < 2 ^ 20 ∧ ∀ j, j < A 12 0 → A 0 j ≤ 2 ∧ A 1 j < 4 ∧ A 2 j < 2 ^ 20 ∧ A 3 j ≤ 99 ∧ A 4 j ≤ 99 ∧ A 5 j ≤ A 12 1 ∧ A 6 j ≤ 1
def filA (A : St) (j y : Nat) : Nat := if A 0 j = 0 then (if A 4 j < y - A 5 j then A 3 j / 2 else A 3 j) else if A 0 j = 1 then A 3 j + (if A 4 j < y - A 5 j then A 4 j else y - A 5 j) else A 3 j
def mayB (l d y : Nat) : Bool := if l = 0 then decide (d ≤ y) else if l = 1 then decide (y = d) else true
/-- outside the cells lo .. hi nothing is changed -/
def FrC (lo hi : Nat) (σ σ' : Sg) : Prop := ∀ c, ¬ (lo ≤ c ∧ c ≤ hi) → σ' c = σ c
theorem gone_lt {A : St} (h : WJ A) : bset (A 6) (A 12 0) < 2 ^ 24 := Nat.lt_of_lt_of_le (bset_lt _ _) (Nat.pow_le_pow_right (by omega) h.1)
theorem bset_congr {p q : Nat → Nat} : ∀ {n : Nat}, (∀ k, k < n → (p k = 1 ↔ q k = 1)) → bset p n = bset q n
  | 0, _ => rfl
  | n + 1, h => by
    rw [bset, bset, bset_congr (fun k hk => h k (by omega))]
    have := h n (by omega)
    by_cases hp : p n = 1
    · rw [if_pos hp, if_pos (this.mp hp)]
    · rw [if_neg hp, if_neg (fun q => hp (this.mpr q))]
theorem bset_or {p : Nat → Nat} {n j : Nat} (hj : j < n) : bset p n ||| 2 ^ j = bset (fun k => if k = j then 1 else p k) n := by
  apply Nat.eq_of_testBit_eq
  intro i
  rw [Nat.testBit_or, bset_bit, bset_bit, Nat.testBit_two_pow]
  by_cases h : i = j
  · subst h; simp [hj]
  · have h2 : ¬ j = i := fun q => h q.symm
    simp [h, h2]
theorem bset_or' {p : Nat → Nat} {n : Nat} : bset p n ||| 2 ^ n = bset (fun k => if k = n then 1 else p k) (n + 1) := by
  apply Nat.eq_of_testBit_eq
  intro i
  rw [Nat.testBit_or, bset_bit, bset_bit, Nat.testBit_two_pow]
  by_cases h : i = n
  · subst h; simp
  · have h2 : ¬ n = i := fun q => h q.symm
    have h3 : i < n + 1 ↔ i < n := by omega
    simp [h, h2, h3]
/-- a bit taken out that is not there -/
theorem bit_off {a n : Nat} (ha : a < 2 ^ n) (hn : n < 31) : nI a &&& (((1 : Int32) <<< (nI n &&& 31)) ^^^ (-1)) = nI a := by
  apply b_ext
  intro i hi
  rw [b_and, b_xor, b_m1 i hi, one_shl hn]
  have e : ∀ m : Nat, bt (nI m) i = m.testBit i := by
    intro m
    unfold bt nI
    rw [show (Int32.ofNat m).toBitVec = BitVec.ofNat 32 m from rfl, BitVec.getLsbD_ofNat]
    simp [hi]
  rw [e, e, Nat.testBit_two_pow]
  by_cases h : n = i
  · subst h
    rw [Nat.testBit_lt_two_pow ha]; rfl
  · simp [h]
def optI (o : Option Nat) : Int32 := match o with
  | none => -1
  | some j => nI j
def ftoA (A : St) (hh l y : Nat) : Nat → Option Nat
  | 0 => none
  | n + 1 => if A 1 n = hh ∧ A 6 n = 0 ∧ mayB l (A 2 n) y = true then (match ftoA A hh l y n with
      | none => some n
      | some f => if A 2 n < A 2 f then some n else some f) else ftoA A hh l y n
theorem ftoA_lt (A : St) (hh l y : Nat) : ∀ n f, ftoA A hh l y n = some f → f < n ∧ A 1 f = hh ∧ A 6 f = 0 ∧ mayB l (A 2 f) y = true
  | 0, f, h => by simp [ftoA] at h
  | n + 1, f, h => by
    have ih := ftoA_lt A hh l y n
    rw [ftoA] at h
    split at h
    · next hc =>
      split at h
      · next hn => cases h; exact ⟨by omega, hc⟩
      · next g hg =>
        split at h
        · cases h; exact ⟨by omega, hc⟩
        · cases h; have := ih f hg; exact ⟨by omega, this.2⟩
    · have := ih f h; exact ⟨by omega, this.2⟩
def addA (A : St) (k h d q kp y : Nat) : St := fun f j => if f = 12 ∧ j = 0 then A 12 0 + 1 else if j = A 12 0 ∧ f ≤ 6 then (match f with | 0 => k | 1 => h | 2 => d | 3 => q | 4 => kp | 5 => y | _ => 0) else A f j
end
section
/-! the class's Cellar, at 7 (now) or 20 (trial) -/
set_option maxRecDepth 100000 in
theorem s_has {σ : Sg} {b : Nat} {j : Int32} {Q : Option Value → Sg → Prop} (hb : b = 7 ∨ b = 20) (h : Q (some (.int (bI (0 ≤ j ∧ j < σ b 0)))) σ) : MetA mX1_has [.ref b, .int j] σ Q := by
  refine MetA_of qX1_has (Nat.le_of_ble_eq_true rfl) ?_
  refine wpB_sd (stops := []) kX1_has 20 _ _ _ _ ?_
  rcases hb with rfl | rfl <;>
  · refine ⟨fun h1 => ⟨Or.inl rfl, ?_⟩, fun h1 => ⟨fun h2 => ⟨Or.inl rfl, ?_⟩, fun h2 => ⟨Or.inr rfl, ?_⟩⟩⟩
    · exact fin_i h (bI_f (fun q => absurd h1 (Int32.not_lt.mpr q.1))).symm
    · exact fin_i h (bI_f (fun q => absurd h2 (Int32.not_le.mpr q.2))).symm
    · exact fin_i h (bI_t ⟨Int32.not_lt.mp h1, Int32.not_le.mp h2⟩).symm
theorem s_hasY {σ : Sg} {A : St} {b j : Nat} {Q : Option Value → Sg → Prop} (hb : b = 7 ∨ b = 20) (hR : RCel b σ A) (hW : WJ A) (hj : j < A 12 0) (h : Q (some (.int 1)) σ) : MetA mX1_has [.ref b, .int (nI j)] σ Q := by
  refine s_has hb (fin_i h (bI_t ?_))
  have := hW.1
  rw [hR.1]
  exact ⟨nI_pos' (by omega), nI_lt hj (by omega)⟩
theorem s_isFull {σ : Sg} {A : St} {b : Nat} {Q : Option Value → Sg → Prop} (hb : b = 7 ∨ b = 20) (hR : RCel b σ A) (hW : WJ A) (h : Q (some (.int (bI (24 ≤ A 12 0)))) σ) : MetA mX1_isFull [.ref b] σ Q := by
  refine MetA_of qX1_isFull (Nat.le_of_ble_eq_true rfl) ?_
  refine wpB_sd (stops := []) kX1_isFull 20 _ _ _ _ ?_
  have h0 := hR.1
  have hm := hW.1
  rcases hb with rfl | rfl <;>
  · refine ⟨fun h1 => ⟨Or.inl rfl, fin_i h (bI_f ?_).symm⟩, fun h1 => ⟨Or.inr rfl, fin_i h (bI_t ?_).symm⟩⟩
    · rw [h0] at h1
      have := (nI_ltI (b := 24) (by omega) (by omega)).mp h1
      omega
    · rw [h0] at h1
      have : ¬ A 12 0 < 24 := fun q => h1 (nI_lt (b := 24) q (by omega))
      omega
set_option maxRecDepth 100000 in
theorem s_ageOf {σ : Sg} {A : St} {b j y : Nat} {Q : Option Value → Sg → Prop} (hb : b = 7 ∨ b = 20) (hR : RCel b σ A) (hW : WJ A) (hj : j < A 12 0) (hy : A 12 1 ≤ y) (h : Q (some (.int (nI (y - A 5 j)))) σ) : MetA mX1_ageOf [.ref b, .int (nI j), .int (nI y)] σ Q := by
  refine MetA_of qX1_ageOf (Nat.le_of_ble_eq_true rfl) ?_
  refine wpB_sd (stops := []) kX1_ageOf 30 _ _ _ _ ?_
  have h0 := hR.2.2 j hj
  have hm := hW.1
  have hs := (hW.2.2 j hj).2.2.2.2.2.1
  rcases hb with rfl | rfl <;>
  · refine s_hasY (by first | exact Or.inl rfl | exact Or.inr rfl) hR hW hj ?_
    refine br_f (by decide) ?_
    refine ⟨aok (n := 24) rfl rfl (by omega), nm_r (rdn (by omega) h0.2.2.2.2.2) ?_⟩
    exact fin_i h (pk_sub (by omega))
set_option maxRecDepth 100000 in
theorem s_filledIn {σ : Sg} {A : St} {b j y : Nat} {Q : Option Value → Sg → Prop} (hb : b = 7 ∨ b = 20) (hR : RCel b σ A) (hW : WJ A) (hj : j < A 12 0) (hy : A 12 1 ≤ y) (hy2 : y < 2 ^ 21) (h : Q (some (.int (nI (filA A j y)))) σ) : MetA mX1_filledIn [.ref b, .int (nI j), .int (nI y)] σ Q := by
  refine MetA_of qX1_filledIn (Nat.le_of_ble_eq_true rfl) ?_
  refine wpB_sd (stops := []) kX1_filledIn 60 _ _ _ _ ?_
  obtain ⟨e0, e1, e2, e3, e4, e5⟩ := hR.2.2 j hj
  have hm := hW.1
  obtain ⟨w0, w1, w2, w3, w4, w5, w6⟩ := hW.2.2 j hj
  have hk : (nI (A 0 j)).toInt = (A 0 j : Int) := nI_toInt (by omega)
  rcases hb with rfl | rfl <;>
  · refine s_hasY (by first | exact Or.inl rfl | exact Or.inr rfl) hR hW hj ?_
    refine bn_f (by decide) ?_
    refine ⟨aok (n := 24) rfl rfl (by omega), nm_r (rdn (by omega) e5) ?_⟩
    refine ⟨aok (n := 24) rfl rfl (by omega), nm_r (rdn (by omega) e0) ?_⟩
    refine ⟨fun k0 => ?_, fun k0 => ⟨fun k1 => ?_, fun k1 => ?_⟩⟩
    · have k0 : A 0 j = 0 := by rw [hk] at k0; omega
      refine ⟨aok (n := 24) rfl rfl (by omega), nm_r (rdn (by omega) e4) ?_⟩
      refine ⟨fun g => ?_, fun g => ?_⟩
      · refine ⟨aok (n := 24) rfl rfl (by omega), nm_r (rdn (by omega) e3) ?_⟩
        rw [pk_sub (show A 5 j ≤ y by omega)] at g
        have g := (nI_leI (by omega) (by omega)).mp g
        refine fin_i h ?_
        rw [filA, if_pos k0, if_neg (by omega)]
      · refine ⟨aok (n := 24) rfl rfl (by omega), nm_r (rdn (by omega) e3) ?_⟩
        rw [pk_sub (show A 5 j ≤ y by omega)] at g
        have g : ¬ (y - A 5 j ≤ A 4 j) := fun q => g (nI_le q (by omega))
        refine ⟨by decide, fin_i h ?_⟩
        rw [filA, if_pos k0, if_pos (by omega)]
        exact pk_div (d := 2) (by omega) (by omega) (by omega)
    · have k1 : A 0 j = 1 := by rw [hk] at k1; omega
      refine ⟨aok (n := 24) rfl rfl (by omega), nm_r (rdn (by omega) e3) ?_⟩
      refine ⟨aok (n := 24) rfl rfl (by omega), nm_r (rdn (by omega) e4) ?_⟩
      refine fin_i h ?_
      rw [filA, if_neg (show ¬ A 0 j = 0 by omega), if_pos k1, pk_sub (show A 5 j ≤ y by omega)]
      by_cases g : A 4 j < y - A 5 j
      · rw [if_pos g, if_pos (nI_lt g (by omega)), nI_add]
      · rw [if_neg g, if_neg (nI_nlt (by omega) (by omega)), nI_add]
    · have g0 : ¬ A 0 j = 0 := by rw [hk] at k0; omega
      have g1 : ¬ A 0 j = 1 := by rw [hk] at k1; omega
      refine ⟨aok (n := 24) rfl rfl (by omega), nm_r (rdn (by omega) e3) ?_⟩
      refine fin_i h ?_
      rw [filA, if_neg g0, if_neg g1]
set_option maxRecDepth 100000 in
theorem s_mayBe {σ : Sg} {A : St} {b j y l : Nat} {Q : Option Value → Sg → Prop} (hb : b = 7 ∨ b = 20) (hR : RCel b σ A) (hW : WJ A) (hj : j < A 12 0) (hy2 : y < 2 ^ 21) (hl : l ≤ 2) (h : Q (some (.int (bI (mayB l (A 2 j) y = true)))) σ) : MetA mX1_mayBeOpened [.ref b, .int (nI j), .int (nI l), .int (nI y)] σ Q := by
  refine MetA_of qX1_mayBeOpened (Nat.le_of_ble_eq_true rfl) ?_
  refine wpB_sd (stops := []) kX1_mayBeOpened 60 _ _ _ _ ?_
  obtain ⟨e0, e1, e2, e3, e4, e5⟩ := hR.2.2 j hj
  have hm := hW.1
  obtain ⟨w0, w1, w2, w3, w4, w5, w6⟩ := hW.2.2 j hj
  have hk : (nI l).toInt = (l : Int) := nI_toInt (by omega)
  rcases hb with rfl | rfl <;>
  · refine s_hasY (by first | exact Or.inl rfl | exact Or.inr rfl) hR hW hj ?_
    refine bn_f (by decide) ?_
    refine ⟨fun k0 => ?_, fun k0 => ⟨fun k1 => ?_, fun k1 => ?_⟩⟩
    · have k0 : l = 0 := by rw [hk] at k0; omega
      subst k0
      refine ⟨aok (n := 24) rfl rfl (by omega), nm_r (rdn (by omega) e2) ?_⟩
      refine ⟨fun g => ⟨Or.inl rfl, fin_i h (bI_f ?_).symm⟩, fun g => ⟨Or.inr rfl, fin_i h (bI_t ?_).symm⟩⟩
      · have g := (nI_ltI (by omega) (by omega)).mp g
        simp [mayB]; omega
      · have g : ¬ y < A 2 j := fun q => g (nI_lt q (by omega))
        simp [mayB]; omega
    · have k1 : l = 1 := by rw [hk] at k1; omega
      subst k1
      refine ⟨aok (n := 24) rfl rfl (by omega), nm_r (rdn (by omega) e2) ?_⟩
      refine ⟨fun g => ⟨Or.inl rfl, fin_i h (bI_f ?_).symm⟩, fun g => ⟨Or.inr rfl, fin_i h (bI_t ?_).symm⟩⟩
      · have g : ¬ y = A 2 j := fun q => g (by rw [q])
        simp [mayB]; omega
      · have g := (nI_eq (by omega) (by omega)).mp g
        simp [mayB]; omega
    · have g0 : ¬ l = 0 := by rw [hk] at k0; omega
      have g1 : ¬ l = 1 := by rw [hk] at k1; omega
      refine ⟨Or.inr rfl, fin_i h (bI_t ?_).symm⟩
      simp [mayB, g0, g1]
theorem gone_bit {A : St} (hW : WJ A) {j : Nat} (hj : j < A 12 0) : ((bset (A 6) (A 12 0)).testBit j = true ↔ A 6 j = 1) ∧ ((bset (A 6) (A 12 0)).testBit j = false ↔ A 6 j = 0) := by
  have := (hW.2.2 j hj).2.2.2.2.2.2
  rw [bset_bit]
  simp only [hj, true_and, decide_eq_true_eq, decide_eq_false_iff_not]
  omega
set_option maxRecDepth 100000 in
theorem s_isGone {σ : Sg} {A : St} {b j : Nat} {Q : Option Value → Sg → Prop} (hb : b = 7 ∨ b = 20) (hR : RCel b σ A) (hW : WJ A) (hj : j < A 12 0) (h : Q (some (.int (bI (A 6 j = 1)))) σ) : MetA mX1_isGone [.ref b, .int (nI j)] σ Q := by
  refine MetA_of qX1_isGone (Nat.le_of_ble_eq_true rfl) ?_
  refine wpB_sd (stops := []) kX1_isGone 60 _ _ _ _ ?_
  have hm := hW.1
  have hg := gone_lt hW
  have hgo := hR.2.1
  have hbt := gone_bit hW hj
  rcases hb with rfl | rfl <;>
  · refine s_hasY (by first | exact Or.inl rfl | exact Or.inr rfl) hR hW hj ?_
    refine br_f (by decide) ?_
    refine ⟨fun g => ⟨Or.inl rfl, fin_i h (bI_f ?_).symm⟩, fun g => ⟨Or.inr rfl, fin_i h (bI_t ?_).symm⟩⟩
    · intro q
      exact g (by rw [hgo]; exact (gbit1 (by omega) (by omega)).mpr (hbt.1.mpr q))
    · rw [hgo] at g
      exact hbt.1.mp ((gbit1 (by omega) (by omega)).mp g)
set_option maxRecDepth 100000 in
theorem s_isOf {σ : Sg} {A : St} {b j hh : Nat} {Q : Option Value → Sg → Prop} (hb : b = 7 ∨ b = 20) (hR : RCel b σ A) (hW : WJ A) (hj : j < A 12 0) (hh2 : hh < 4) (h : Q (some (.int (bI (A 1 j = hh ∧ A 6 j = 0)))) σ) : MetA mX1_isOf [.ref b, .int (nI j), .int (nI hh)] σ Q := by
  refine MetA_of qX1_isOf (Nat.le_of_ble_eq_true rfl) ?_
  refine wpB_sd (stops := []) kX1_isOf 60 _ _ _ _ ?_
  have hm := hW.1
  have hg := gone_lt hW
  have hgo := hR.2.1
  have hbt := gone_bit hW hj
  obtain ⟨e0, e1, e2, e3, e4, e5⟩ := hR.2.2 j hj
  obtain ⟨w0, w1, w2, w3, w4, w5, w6⟩ := hW.2.2 j hj
  rcases hb with rfl | rfl <;>
  · refine s_hasY (by first | exact Or.inl rfl | exact Or.inr rfl) hR hW hj ?_
    refine br_f (by decide) ?_
    refine ⟨aok (n := 24) rfl rfl (by omega), nm_r (rdn (by omega) e1) ?_⟩
    refine ⟨fun g => ⟨Or.inl rfl, fin_i h (bI_f ?_).symm⟩, fun g => ⟨fun g2 => ⟨Or.inl rfl, fin_i h (bI_f ?_).symm⟩, fun g2 => ⟨Or.inr rfl, fin_i h (bI_t ?_).symm⟩⟩⟩
    · exact fun q => g (by rw [q.1])
    · intro q
      exact g2 (by rw [hgo]; exact (gbit0 (by omega) (by omega)).mpr (hbt.2.mpr q.2))
    · rw [hgo] at g2
      exact ⟨(nI_eq (by omega) (by omega)).mp g, hbt.2.mp ((gbit0 (by omega) (by omega)).mp g2)⟩
theorem filA_g {A : St} {j i y v : Nat} : filA (stu A 6 i v) j y = filA A j y := by simp [filA, stu]
theorem WJ_g {A : St} {i v : Nat} (h : WJ A) (hv : v ≤ 1) : WJ (stu A 6 i v) := by
  refine ⟨by simpa [stu] using h.1, by simpa [stu] using h.2.1, fun j hj => ?_⟩
  have hj : j < A 12 0 := by simpa [stu] using hj
  have := h.2.2 j hj
  simp only [stu]
  refine ⟨by simpa using this.1, by simpa using this.2.1, by simpa using this.2.2.1, by simpa using this.2.2.2.1, by simpa using this.2.2.2.2.1, by simpa using this.2.2.2.2.2.1, ?_⟩
  split <;> omega
theorem RCel_take {b : Nat} {σ : Sg} {A : St} {j : Nat} (h : RCel b σ A) (hj : j < A 12 0) : RCel b (sgu σ b 7 (nI (bset (A 6) (A 12 0) ||| 2 ^ j))) (stu A 6 j 1) := by
  refine ⟨?_, ?_, fun i hi => ?_⟩
  · rw [sgu_k (by omega)]; simpa [stu] using h.1
  · rw [sgu_s, bset_or hj]
    congr 1
    apply bset_congr
    intro k _
    by_cases hk : k = j <;> simp [stu, hk]
  · have hi : i < A 12 0 := by simpa [stu] using hi
    have := h.2.2 i hi
    rw [sgu_c (by omega), sgu_c (by omega), sgu_c (by omega), sgu_c (by omega), sgu_c (by omega), sgu_c (by omega)]
    simpa [stu] using this
set_option maxRecDepth 100000 in
theorem s_takeOut {σ : Sg} {A : St} {b j y : Nat} {Q : Option Value → Sg → Prop} (hb : b = 7 ∨ b = 20) (hR : RCel b σ A) (hW : WJ A) (hj : j < A 12 0) (hy : A 12 1 ≤ y) (hy2 : y < 2 ^ 21) (h : ∀ σ', RCel b σ' (stu A 6 j 1) → FrC b b σ σ' → Q (some (.int (nI (filA A j y)))) σ') : MetA mX1_takeOut [.ref b, .int (nI j), .int (nI y)] σ Q := by
  refine MetA_of qX1_takeOut (Nat.le_of_ble_eq_true rfl) ?_
  refine wpB_sd (stops := []) kX1_takeOut 60 _ _ _ _ ?_
  have hm := hW.1
  have hg := gone_lt hW
  have hgo := hR.2.1
  have e : σ b 7 ||| (1 <<< (nI j &&& 31)) = nI (bset (A 6) (A 12 0) ||| 2 ^ j) := by rw [hgo, one_shl (by omega), fa_or]
  have hR2 := RCel_take hR hj
  rw [← e] at hR2
  rcases hb with rfl | rfl <;>
  · refine s_hasY (by first | exact Or.inl rfl | exact Or.inr rfl) hR hW hj ?_
    refine bn_f (by decide) ?_
    refine s_filledIn (A := stu A 6 j 1) (by first | exact Or.inl rfl | exact Or.inr rfl) hR2 (WJ_g hW (by omega)) (by simpa [stu] using hj) (by simpa [stu] using hy) hy2 ?_
    refine fin_i (h _ hR2 (fun c hc => sgu_c (by omega))) ?_
    rw [filA_g]
set_option maxRecDepth 100000 in
set_option maxHeartbeats 1000000 in
theorem s_firstToOpen {σ : Sg} {A : St} {b hh l y : Nat} {Q : Option Value → Sg → Prop} (hb : b = 7 ∨ b = 20) (hR : RCel b σ A) (hW : WJ A) (hh2 : hh < 4) (hl : l ≤ 2) (hy2 : y < 2 ^ 21) (h : Q (some (.int (optI (ftoA A hh l y (A 12 0))))) σ) : MetA mX1_firstToOpen [.ref b, .int (nI hh), .int (nI l), .int (nI y)] σ Q := by
  refine MetA_of qX1_firstToOpen (Nat.le_of_ble_eq_true rfl) ?_
  have hm := hW.1
  have hg := gone_lt hW
  have hgo := hR.2.1
  have h0 := hR.1
  have loop : ∀ n i, i + n = A 12 0 → V mX1_firstToOpen 6 [(0, .ref b), (1, .int (nI hh)), (2, .int (nI l)), (3, .int (nI y)), (4, .int (optI (ftoA A hh l y i))), (5, .int (nI i))] [] σ Q := by
    intro n
    induction n with
    | zero =>
      intro i hi
      have hi : i = A 12 0 := by omega
      subst hi
      refine wpB_sd (stops := [6]) kX1_firstToOpen 20 _ _ _ _ ?_
      rcases hb with rfl | rfl <;>
      · refine br_t (by rw [h0]; exact nI_le (by omega) (by omega)) ?_
        exact h
    | succ n ih =>
      intro i hi
      have hj : i < A 12 0 := by omega
      have ih := ih (i + 1) (by omega)
      obtain ⟨e0, e1, e2, e3, e4, e5⟩ := hR.2.2 i hj
      obtain ⟨w0, w1, w2, w3, w4, w5, w6⟩ := hW.2.2 i hj
      have hbt := gone_bit hW hj
      have hft := ftoA_lt A hh l y i
      have hin : nI i + 1 = nI (i + 1) := nI_1 i
      refine wpB_sd (stops := [6]) kX1_firstToOpen 60 _ _ _ _ ?_
      rcases hb with rfl | rfl <;>
      · refine br_f (by rw [h0]; exact nI_ge hj (by omega)) ?_
        refine ⟨aok (n := 24) rfl rfl (by omega), nm_r (rdn (by omega) e1) ?_⟩
        refine ⟨fun g => ?_, fun g => ?_⟩
        · have g : ¬ A 1 i = hh := fun q => g (by rw [q])
          rw [ftoA, if_neg (fun q => g q.1)] at ih
          rw [← hin] at ih
          exact ih
        · have g := (nI_eq (by omega) (by omega)).mp g
          refine ⟨fun g2 => ?_, fun g2 => ?_⟩
          · rw [hgo] at g2
            have g2 := hbt.1.mp ((gbit1 (by omega) (by omega)).mp g2)
            rw [ftoA, if_neg (fun q => by omega), ← hin] at ih
            exact ih
          · rw [hgo] at g2
            have g2 : A 6 i = 0 := by
              have : ¬ A 6 i = 1 := fun q => g2 ((gbit1 (by omega) (by omega)).mpr (hbt.1.mpr q))
              omega
            refine s_mayBe (by first | exact Or.inl rfl | exact Or.inr rfl) hR hW hj hy2 hl ?_
            refine ⟨fun g3 => ?_, fun g3 => ?_⟩
            · have g3 : mayB l (A 2 i) y = true := by
                by_cases q : mayB l (A 2 i) y = true
                · exact q
                · exact absurd (bI_f q) g3
              rw [ftoA, if_pos ⟨g, g2, g3⟩, ← hin] at ih
              cases hf : ftoA A hh l y i with
              | none =>
                rw [hf] at ih
                exact br_t rfl ih
              | some f =>
                rw [hf] at ih hft
                have hfl := (hft f rfl).1
                have hfw := (hW.2.2 f (by omega)).2.2.1
                refine br_f (fun q => ?_) ?_
                · have q2 : (nI f).toInt = (-1 : Int32).toInt := congrArg Int32.toInt q
                  rw [nI_toInt (by omega)] at q2
                  have : ((-1 : Int32)).toInt = -1 := by decide
                  omega
                · refine ⟨aok (n := 24) rfl rfl (by omega), nm_r (rdn (by omega) e2) ?_⟩
                  refine ⟨aok (n := 24) rfl rfl (by omega), nm_r (rdn (by omega) (hR.2.2 f (by omega)).2.2.1) ?_⟩
                  refine ⟨fun q => ?_, fun q => ?_⟩
                  · have q := (nI_leI (by omega) (by omega)).mp q
                    dsimp only at ih
                    rw [if_neg (by omega)] at ih
                    exact ih
                  · have q : ¬ A 2 f ≤ A 2 i := fun z => q (nI_le z (by omega))
                    dsimp only at ih
                    rw [if_pos (by omega)] at ih
                    exact ih
            · have g3 : ¬ mayB l (A 2 i) y = true := bI_0.mp g3
              rw [ftoA, if_neg (fun q => g3 q.2.2), ← hin] at ih
              exact ih
  refine wpB_sd (stops := [6]) kX1_firstToOpen 20 _ _ _ _ ?_
  exact loop (A 12 0) 0 (by omega)
end
section
/-! Cellar: sets, rows, copies -/
theorem RCel.fr {b : Nat} {σ σ' : Sg} {A : St} (h : RCel b σ A) (hf : ∀ c, b ≤ c → c ≤ b + 6 → σ' c = σ c) : RCel b σ' A := by
  obtain ⟨h1, h2, h3⟩ := h
  refine ⟨?_, ?_, fun j hj => ?_⟩
  · rw [hf b (by omega) (by omega)]; exact h1
  · rw [hf b (by omega) (by omega)]; exact h2
  · rw [hf (b + 1) (by omega) (by omega), hf (b + 2) (by omega) (by omega), hf (b + 3) (by omega) (by omega), hf (b + 4) (by omega) (by omega), hf (b + 5) (by omega) (by omega), hf (b + 6) (by omega) (by omega)]
    exact h3 j hj
def ofA (A : St) (hh : Nat) : Nat → Nat := fun j => if A 1 j = hh ∧ A 6 j = 0 then 1 else 0
def opA (A : St) (hh l y : Nat) : Nat → Nat := fun j => if (A 1 j = hh ∧ A 6 j = 0) ∧ mayB l (A 2 j) y = true then 1 else 0
theorem bset_s0 {p : Nat → Nat} {n : Nat} (h : ¬ p n = 1) : bset p (n + 1) = bset p n := by rw [bset, if_neg h, Nat.add_zero]
theorem bset_s1 {p : Nat → Nat} {n : Nat} (h : p n = 1) (hn : n < 31) : nI (bset p n) ||| (1 <<< (nI n &&& 31)) = nI (bset p (n + 1)) := by
  rw [one_shl hn, fa_or, bset_or']
  congr 1
  apply bset_congr
  intro k hk
  by_cases e : k = n <;> simp [e, h]
set_option maxRecDepth 100000 in
theorem s_setOf {σ : Sg} {A : St} {b hh : Nat} {Q : Option Value → Sg → Prop} (hb : b = 7 ∨ b = 20) (hR : RCel b σ A) (hW : WJ A) (hh2 : hh < 4) (h : Q (some (.int (nI (bset (ofA A hh) (A 12 0))))) σ) : MetA mX1_setOf [.ref b, .int (nI hh)] σ Q := by
  refine MetA_of qX1_setOf (Nat.le_of_ble_eq_true rfl) ?_
  have hm := hW.1
  have h0 := hR.1
  have loop : ∀ n i, i + n = A 12 0 → V mX1_setOf 4 [(0, .ref b), (1, .int (nI hh)), (2, .int (nI (bset (ofA A hh) i))), (3, .int (nI i))] [] σ Q := by
    intro n
    induction n with
    | zero =>
      intro i hi
      have hi : i = A 12 0 := by omega
      subst hi
      refine wpB_sd (stops := [4]) kX1_setOf 20 _ _ _ _ ?_
      rcases hb with rfl | rfl <;>
      · refine br_t (by rw [h0]; exact nI_le (by omega) (by omega)) ?_
        exact h
    | succ n ih =>
      intro i hi
      have hj : i < A 12 0 := by omega
      have ih := ih (i + 1) (by omega)
      have hin : nI i + 1 = nI (i + 1) := nI_1 i
      refine wpB_sd (stops := [4]) kX1_setOf 60 _ _ _ _ ?_
      rcases hb with rfl | rfl <;>
      · refine br_f (by rw [h0]; exact nI_ge hj (by omega)) ?_
        refine s_isOf (by first | exact Or.inl rfl | exact Or.inr rfl) hR hW hj hh2 ?_
        refine ⟨fun g => ?_, fun g => ?_⟩
        · rw [bset_s0 (by simp [ofA, bI_0.mp g]), ← hin] at ih
          exact ih
        · have g : A 1 i = hh ∧ A 6 i = 0 := by
            by_cases q : A 1 i = hh ∧ A 6 i = 0
            · exact q
            · exact absurd (bI_f q) g
          rw [← bset_s1 (by simp [ofA, g]) (by omega), ← hin] at ih
          exact ih
  refine wpB_sd (stops := [4]) kX1_setOf 20 _ _ _ _ ?_
  exact loop (A 12 0) 0 (by omega)
set_option maxRecDepth 100000 in
theorem s_setToOpen {σ : Sg} {A : St} {b hh l y : Nat} {Q : Option Value → Sg → Prop} (hb : b = 7 ∨ b = 20) (hR : RCel b σ A) (hW : WJ A) (hh2 : hh < 4) (hl : l ≤ 2) (hy2 : y < 2 ^ 21) (h : Q (some (.int (nI (bset (opA A hh l y) (A 12 0))))) σ) : MetA mX1_setToOpen [.ref b, .int (nI hh), .int (nI l), .int (nI y)] σ Q := by
  refine MetA_of qX1_setToOpen (Nat.le_of_ble_eq_true rfl) ?_
  have hm := hW.1
  have h0 := hR.1
  have loop : ∀ n i, i + n = A 12 0 → V mX1_setToOpen 6 [(0, .ref b), (1, .int (nI hh)), (2, .int (nI l)), (3, .int (nI y)), (4, .int (nI (bset (opA A hh l y) i))), (5, .int (nI i))] [] σ Q := by
    intro n
    induction n with
    | zero =>
      intro i hi
      have hi : i = A 12 0 := by omega
      subst hi
      refine wpB_sd (stops := [6]) kX1_setToOpen 20 _ _ _ _ ?_
      rcases hb with rfl | rfl <;>
      · refine br_t (by rw [h0]; exact nI_le (by omega) (by omega)) ?_
        exact h
    | succ n ih =>
      intro i hi
      have hj : i < A 12 0 := by omega
      have ih := ih (i + 1) (by omega)
      have hin : nI i + 1 = nI (i + 1) := nI_1 i
      refine wpB_sd (stops := [6]) kX1_setToOpen 60 _ _ _ _ ?_
      rcases hb with rfl | rfl <;>
      · refine br_f (by rw [h0]; exact nI_ge hj (by omega)) ?_
        refine s_isOf (by first | exact Or.inl rfl | exact Or.inr rfl) hR hW hj hh2 ?_
        refine ⟨fun g => ?_, fun g => ?_⟩
        · rw [bset_s0 (by simp [opA, bI_0.mp g]), ← hin] at ih
          exact ih
        · have g : A 1 i = hh ∧ A 6 i = 0 := by
            by_cases q : A 1 i = hh ∧ A 6 i = 0
            · exact q
            · exact absurd (bI_f q) g
          refine s_mayBe (by first | exact Or.inl rfl | exact Or.inr rfl) hR hW hj hy2 hl ?_
          refine ⟨fun g2 => ?_, fun g2 => ?_⟩
          · rw [bset_s0 (by simp [opA, bI_0.mp g2]), ← hin] at ih
            exact ih
          · have g2 : mayB l (A 2 i) y = true := by
              by_cases q : mayB l (A 2 i) y = true
              · exact q
              · exact absurd (bI_f q) g2
            rw [← bset_s1 (by simp [opA, g, g2]) (by omega), ← hin] at ih
            exact ih
  refine wpB_sd (stops := [6]) kX1_setToOpen 20 _ _ _ _ ?_
  exact loop (A 12 0) 0 (by omega)
def lkL (A : St) (hh : Nat) : Nat → List Nat
  | 0 => []
  | n + 1 => if (lkL A hh n).length < 8 ∧ (A 1 n = hh ∧ A 6 n = 0) then lkL A hh n ++ [n] else lkL A hh n
theorem lkL_len (A : St) (hh : Nat) : ∀ n, (lkL A hh n).length ≤ 8
  | 0 => by simp [lkL]
  | n + 1 => by
    have := lkL_len A hh n
    rw [lkL]
    split
    · next h => rw [List.length_append, List.length_singleton]; omega
    · exact this
theorem lkL_full {A : St} {hh i : Nat} (h : 8 ≤ (lkL A hh i).length) : ∀ n, lkL A hh (i + n) = lkL A hh i
  | 0 => rfl
  | n + 1 => by
    rw [← Nat.add_assoc, lkL, lkL_full h n, if_neg (fun q => by omega)]
theorem lkL_mem {A : St} {hh : Nat} : ∀ {n j : Nat}, j ∈ lkL A hh n → j < n ∧ A 1 j = hh ∧ A 6 j = 0
  | 0, j, h => by simp [lkL] at h
  | n + 1, j, h => by
    rw [lkL] at h
    split at h
    · next hc =>
      rcases List.mem_append.mp h with q | q
      · have := lkL_mem q; exact ⟨by omega, this.2⟩
      · have : j = n := by simpa using q
        subst this; exact ⟨by omega, hc.2⟩
    · have := lkL_mem h; exact ⟨by omega, this.2⟩
set_option maxRecDepth 100000 in
set_option maxHeartbeats 1000000 in
theorem s_lookAt {σ : Sg} {A : St} {hh r : Nat} {Q : Option Value → Sg → Prop} (hr : r = 58 ∨ r = 76) (hR : RCel 7 σ A) (hW : WJ A) (hh2 : hh < 4) (h : ∀ σ', (∀ k, k < (lkL A hh (A 12 0)).length → σ' r k = nI ((lkL A hh (A 12 0)).getD k 0)) → FrC r r σ σ' → Q (some (.int (nI (lkL A hh (A 12 0)).length))) σ') : MetA mX1_lookAt [.ref 7, .int (nI hh), .ref r] σ Q := by
  refine MetA_of qX1_lookAt (Nat.le_of_ble_eq_true rfl) ?_
  have hm := hW.1
  have loop : ∀ n i σi, i + n = A 12 0 → (∀ k, k < (lkL A hh i).length → σi r k = nI ((lkL A hh i).getD k 0)) → FrC r r σ σi → V mX1_lookAt 5 [(0, .ref 7), (1, .int (nI hh)), (2, .ref r), (3, .int (nI (lkL A hh i).length)), (4, .int (nI i))] [] σi Q := by
    intro n
    induction n with
    | zero =>
      intro i σi hi hrow hf
      have hi : i = A 12 0 := by omega
      subst hi
      have hRi : RCel 7 σi A := hR.fr (fun c h1 h2 => hf c (by omega))
      have h0 := hRi.1
      refine wpB_sd (stops := [5]) kX1_lookAt 20 _ _ _ _ ?_
      rcases hr with rfl | rfl <;>
      · refine br_t (by rw [h0]; exact nI_le (by omega) (by omega)) ?_
        exact h _ hrow hf
    | succ n ih =>
      intro i σi hi hrow hf
      have hj : i < A 12 0 := by omega
      have hRi : RCel 7 σi A := hR.fr (fun c h1 h2 => hf c (by omega))
      have h0 := hRi.1
      have hl8 := lkL_len A hh i
      have hin : nI i + 1 = nI (i + 1) := nI_1 i
      have key : (lkL A hh i).length < 8 → (A 1 i = hh ∧ A 6 i = 0) → V mX1_lookAt 5 [(0, .ref 7), (1, .int (nI hh)), (2, .ref r), (3, .int (nI (lkL A hh i).length + 1)), (4, .int (nI i + 1))] [] (sgu σi r (lkL A hh i).length (nI i)) Q := by
        intro g g2
        have e : lkL A hh (i + 1) = lkL A hh i ++ [i] := by rw [lkL, if_pos ⟨g, g2⟩]
        have := ih (i + 1) (sgu σi r (lkL A hh i).length (nI i)) (by omega) (fun k hk => ?_) (fun c hc => ?_)
        · rw [e, List.length_append, List.length_singleton, ← nI_1, ← hin] at this
          exact this
        · rw [e, List.length_append, List.length_singleton] at hk
          rw [e]
          by_cases q : k = (lkL A hh i).length
          · subst q; rw [sgu_s]; simp
          · rw [sgu_k q, hrow k (by omega)]
            simp [List.getElem?_append, show k < (lkL A hh i).length by omega]
        · rw [sgu_c (by omega)]; exact hf c hc
      refine wpB_sd (stops := [5]) kX1_lookAt 60 _ _ _ _ ?_
      rcases hr with rfl | rfl <;>
      · refine br_f (by rw [h0]; exact nI_ge hj (by omega)) ?_
        refine ⟨fun g => ?_, fun g => ?_⟩
        · have g : 8 ≤ (lkL A hh i).length := (nI_leI (a := 8) (by omega) (by omega)).mp g
          have e := lkL_full g (n + 1)
          rw [hi] at e
          rw [← e] at hrow
          have := h _ hrow hf
          rw [e] at this
          exact this
        · have g : (lkL A hh i).length < 8 := by
            have : ¬ 8 ≤ (lkL A hh i).length := fun q => g (nI_le (a := 8) q (by omega))
            omega
          refine s_isOf (Or.inl rfl) hRi hW hj hh2 ?_
          refine ⟨fun g2 => ?_, fun g2 => ?_⟩
          · have e : lkL A hh (i + 1) = lkL A hh i := by rw [lkL, if_neg (fun q => bI_0.mp g2 q.2)]
            have := ih (i + 1) σi (by omega) (by rw [e]; exact hrow) hf
            rw [e, ← hin] at this
            exact this
          · have g2 : A 1 i = hh ∧ A 6 i = 0 := by
              by_cases q : A 1 i = hh ∧ A 6 i = 0
              · exact q
              · exact absurd (bI_f q) g2
            exact ast (n := 8) rfl rfl g (key g g2)
  refine wpB_sd (stops := [5]) kX1_lookAt 20 _ _ _ _ ?_
  exact loop (A 12 0) 0 σ (by omega) (fun k hk => by simp [lkL] at hk) (fun c _ => rfl)

theorem addA_f {A : St} {k h d q kp y f j : Nat} (hf : 6 < f) (h2 : ¬ (f = 12 ∧ j = 0)) : addA A k h d q kp y f j = A f j := by
  unfold addA; rw [if_neg h2, if_neg (fun z => by omega)]
theorem addA_n {A : St} {k h d q kp y : Nat} : addA A k h d q kp y 12 0 = A 12 0 + 1 := by simp [addA]
theorem addA_j {A : St} {k h d q kp y f j : Nat} (hf : f ≤ 6) (hj : j ≠ A 12 0) : addA A k h d q kp y f j = A f j := by
  unfold addA; rw [if_neg (fun z => by omega), if_neg (fun z => hj z.1)]
theorem bit_off2 {a n : Nat} (ha : a < 2 ^ n) (hn : n < 31) : nI a &&& ~~~((1 : Int32) <<< (nI n &&& 31)) = nI a := by
  have := bit_off ha hn
  simpa using this
theorem RCel_add {b : Nat} {σ σ' : Sg} {A : St} {k h d q kp y : Nat} (hR : RCel b σ A)
    (e0 : σ' b 0 = nI (A 12 0 + 1)) (e7 : σ' b 7 = σ b 7)
    (g : ∀ f v, (f, v) ∈ [(0, k), (1, h), (2, d), (3, q), (4, kp), (5, y)] → σ' (b + 1 + f) (A 12 0) = nI v ∧ ∀ j, j ≠ A 12 0 → σ' (b + 1 + f) j = σ (b + 1 + f) j) : RCel b σ' (addA A k h d q kp y) := by
  refine ⟨by rw [e0, addA_n], ?_, fun j hj => ?_⟩
  · rw [e7, hR.2.1, addA_n]
    congr 1
    rw [bset_s0 (by simp [addA])]
    apply bset_congr
    intro i hi
    rw [addA_j (by omega) (by omega)]
  · rw [addA_n] at hj
    have g0 := g 0 k (by simp)
    have g1 := g 1 h (by simp)
    have g2 := g 2 d (by simp)
    have g3 := g 3 q (by simp)
    have g4 := g 4 kp (by simp)
    have g5 := g 5 y (by simp)
    by_cases hq : j = A 12 0
    · subst hq
      refine ⟨?_, ?_, ?_, ?_, ?_, ?_⟩
      · rw [show b + 1 = b + 1 + 0 from rfl, g0.1]; simp [addA]
      · rw [show b + 2 = b + 1 + 1 from rfl, g1.1]; simp [addA]
      · rw [show b + 3 = b + 1 + 2 from rfl, g2.1]; simp [addA]
      · rw [show b + 4 = b + 1 + 3 from rfl, g3.1]; simp [addA]
      · rw [show b + 5 = b + 1 + 4 from rfl, g4.1]; simp [addA]
      · rw [show b + 6 = b + 1 + 5 from rfl, g5.1]; simp [addA]
    · have hR3 := hR.2.2 j (by omega)
      rw [addA_j (by omega) hq, addA_j (by omega) hq, addA_j (by omega) hq, addA_j (by omega) hq, addA_j (by omega) hq, addA_j (by omega) hq]
      rw [← g0.2 j hq, ← show b + 1 + 1 = b + 2 from rfl, ← g1.2 j hq, ← show b + 1 + 2 = b + 3 from rfl, ← g2.2 j hq, ← show b + 1 + 3 = b + 4 from rfl, ← g3.2 j hq, ← show b + 1 + 4 = b + 5 from rfl, ← g4.2 j hq, ← show b + 1 + 5 = b + 6 from rfl, ← g5.2 j hq] at hR3
      exact hR3
set_option maxRecDepth 100000 in
set_option maxHeartbeats 1000000 in
theorem s_add {σ : Sg} {A : St} {b k hh d q kp y : Nat} {Q : Option Value → Sg → Prop} (hb : b = 7 ∨ b = 20) (hR : RCel b σ A) (hW : WJ A) (hn : A 12 0 < 24) (h : ∀ σ', RCel b σ' (addA A k hh d q kp y) → FrC b (b + 6) σ σ' → Q none σ') : MetA mX1_add [.ref b, .int (nI k), .int (nI hh), .int (nI d), .int (nI q), .int (nI kp), .int (nI y)] σ Q := by
  refine MetA_of qX1_add (Nat.le_of_ble_eq_true rfl) ?_
  refine wpB_sd (stops := []) kX1_add 100 _ _ _ _ ?_
  have h0 := hR.1
  have hg := hR.2.1
  have hbl := bset_lt (A 6) (A 12 0)
  rcases hb with rfl | rfl <;>
  · refine s_isFull (by first | exact Or.inl rfl | exact Or.inr rfl) hR hW ?_
    refine br_t (bI_f (by omega)) ?_
    refine ast (n := 24) (j := A 12 0) rfl h0 hn ?_
    refine ast (n := 24) (j := A 12 0) rfl h0 hn ?_
    refine ast (n := 24) (j := A 12 0) rfl h0 hn ?_
    refine ast (n := 24) (j := A 12 0) rfl h0 hn ?_
    refine ast (n := 24) (j := A 12 0) rfl h0 hn ?_
    refine ast (n := 24) (j := A 12 0) rfl h0 hn ?_
    refine h _ (RCel_add hR ?_ ?_ ?_) ?_
    · simp [sgu_at, h0, nI_1]
    · simp only [sgu_at]
      simp [h0, hg, bit_off2 hbl (show A 12 0 < 31 by omega)]
    · intro f v hfv
      simp only [List.mem_cons, Prod.mk.injEq, List.not_mem_nil, or_false] at hfv
      rcases hfv with ⟨rfl, rfl⟩ | ⟨rfl, rfl⟩ | ⟨rfl, rfl⟩ | ⟨rfl, rfl⟩ | ⟨rfl, rfl⟩ | ⟨rfl, rfl⟩ <;>
      · refine ⟨?_, fun j hj => ?_⟩
        · simp [sgu_at, h0, nI_clamp (show A 12 0 < 2 ^ 31 by omega)]
        · simp [sgu_at, h0, nI_clamp (show A 12 0 < 2 ^ 31 by omega), hj]
    · intro c hc
      funext i
      simp only [sgu_at]
      repeat rw [if_neg (by omega)]

def acB (a b n : Nat) : Bool := Nat.ble (a + 1) NC && Nat.beq (shp a).1 1 && Nat.ble (b + 1) NC && Nat.beq (shp b).1 1 && Nat.ble n (shp a).2.1 && Nat.ble n (shp b).2.1 && Nat.ble n 2147483647
theorem acok {a b n : Nat} {m : Int32} (h : acB a b n = true) (hm : m = nI n) : acOK a b 0 0 m := by
  simp only [acB, Bool.and_eq_true] at h
  obtain ⟨⟨⟨⟨⟨⟨h1, h2⟩, h3⟩, h4⟩, h5⟩, h6⟩, h7⟩ := h
  have h7 := Nat.le_of_ble_eq_true h7
  have e0 : (0 : Int32).toNatClampNeg = 0 := by decide
  rw [hm]
  refine ⟨⟨Nat.le_of_ble_eq_true h1, Nat.eq_of_beq_eq_true h2⟩, ⟨Nat.le_of_ble_eq_true h3, Nat.eq_of_beq_eq_true h4⟩, by decide, by decide, nI_pos (by omega), ?_, ?_⟩
  · rw [e0, nI_clamp (by omega)]; have := Nat.le_of_ble_eq_true h5; omega
  · rw [e0, nI_clamp (by omega)]; have := Nat.le_of_ble_eq_true h6; omega
theorem cp_in {f g : Nat → Int32} {m : Int32} {n j : Nat} (hm : m = nI n) (hn : n < 2 ^ 31) (hj : j < n) : va_cpy f g (0 : Int32).toNatClampNeg (0 : Int32).toNatClampNeg m.toNatClampNeg j = f j := by
  have e0 : (0 : Int32).toNatClampNeg = 0 := by decide
  rw [e0, hm, nI_clamp hn, pk_cpy_in (by omega) (by omega)]
  simp
set_option maxRecDepth 100000 in
set_option maxHeartbeats 1000000 in
theorem s_copyC {σ : Sg} {A : St} {d s : Nat} {Q : Option Value → Sg → Prop} (hb : (d = 20 ∧ s = 7) ∨ (d = 7 ∧ s = 20) ∨ (d = 34 ∧ s = 7) ∨ (d = 47 ∧ s = 7) ∨ (d = 7 ∧ s = 34) ∨ (d = 7 ∧ s = 47)) (hR : RCel s σ A) (hW : A 12 0 ≤ 24) (h : ∀ σ', RCel d σ' A → FrC d (d + 6) σ σ' → Q none σ') : MetA mX1_copyFrom [.ref d, .ref s] σ Q := by
  refine MetA_of qX1_copyFrom (Nat.le_of_ble_eq_true rfl) ?_
  refine wpB_sd (stops := []) kX1_copyFrom 100 _ _ _ _ ?_
  obtain ⟨h0, h7, h3⟩ := hR
  rcases hb with ⟨rfl, rfl⟩ | ⟨rfl, rfl⟩ | ⟨rfl, rfl⟩ | ⟨rfl, rfl⟩ | ⟨rfl, rfl⟩ | ⟨rfl, rfl⟩ <;>
  · refine ⟨acok (n := 24) rfl rfl, ?_⟩
    refine ⟨acok (n := 24) rfl rfl, ?_⟩
    refine ⟨acok (n := 24) rfl rfl, ?_⟩
    refine ⟨acok (n := 24) rfl rfl, ?_⟩
    refine ⟨acok (n := 24) rfl rfl, ?_⟩
    refine ⟨acok (n := 24) rfl rfl, ?_⟩
    refine h _ ⟨?_, ?_, fun j hj => ?_⟩ (fun c hc => ?_)
    · simp [sgu_at, sgc, h0]
    · simp [sgu_at, sgc, h7]
    · have h3 := h3 j hj
      have e : ∀ f g : Nat → Int32, va_cpy f g 0 0 24 j = f j := fun f g => by rw [pk_cpy_in (by omega) (by omega)]; simp
      refine ⟨?_, ?_, ?_, ?_, ?_, ?_⟩
      · simp [sgu_at, sgc, e]; exact h3.1
      · simp [sgu_at, sgc, e]; exact h3.2.1
      · simp [sgu_at, sgc, e]; exact h3.2.2.1
      · simp [sgu_at, sgc, e]; exact h3.2.2.2.1
      · simp [sgu_at, sgc, e]; exact h3.2.2.2.2.1
      · simp [sgu_at, sgc, e]; exact h3.2.2.2.2.2
    · rw [sgu_c (by omega)]
      repeat rw [sgc_ne (by omega)]
      rw [sgu_c (by omega)]
def swA (A : St) (a b : Nat) : St := stu (stu A 1 a (A 1 b)) 1 b (A 1 a)
set_option maxRecDepth 100000 in
theorem s_swap {σ : Sg} {A : St} {c a b : Nat} {Q : Option Value → Sg → Prop} (hb : c = 7 ∨ c = 20) (hR : RCel c σ A) (hW : WJ A) (ha : a < A 12 0) (hb2 : b < A 12 0) (hab : a < b) (h : ∀ σ', RCel c σ' (swA A a b) → FrC c (c + 6) σ σ' → Q none σ') : MetA mX1_swapOwners [.ref c, .int (nI a), .int (nI b)] σ Q := by
  refine MetA_of qX1_swapOwners (Nat.le_of_ble_eq_true rfl) ?_
  refine wpB_sd (stops := []) kX1_swapOwners 60 _ _ _ _ ?_
  have ea := (hR.2.2 a ha).2.1
  have eb := (hR.2.2 b hb2).2.1
  have hm := hW.1
  rcases hb with rfl | rfl <;>
  · refine s_hasY (by first | exact Or.inl rfl | exact Or.inr rfl) hR hW ha ?_
    refine br_f (by decide) ?_
    refine s_hasY (by first | exact Or.inl rfl | exact Or.inr rfl) hR hW hb2 ?_
    refine bn_f (by decide) ?_
    refine ⟨aok (n := 24) rfl rfl (by omega), nm_r (rdn (by omega) ea) ?_⟩
    refine ⟨aok (n := 24) rfl rfl (by omega), nm_r (rdn (by omega) eb) ?_⟩
    refine ast (n := 24) (j := a) rfl rfl (by omega) ?_
    refine ast (n := 24) (j := b) rfl rfl (by omega) ?_
    refine h _ ⟨?_, ?_, fun j hj => ?_⟩ (fun c hc => ?_)
    · rw [sgu_c (by omega), sgu_c (by omega)]; simpa [swA, stu] using hR.1
    · rw [sgu_c (by omega), sgu_c (by omega)]
      have e : (swA A a b) 6 = A 6 := by funext k; simp [swA, stu]
      rw [e]; simpa [swA, stu] using hR.2.1
    · have hj : j < A 12 0 := by simpa [swA, stu] using hj
      have h3 := hR.2.2 j hj
      refine ⟨?_, ?_, ?_, ?_, ?_, ?_⟩
      · rw [sgu_c (by omega), sgu_c (by omega)]; simpa [swA, stu] using h3.1
      · simp only [sgu_at, swA, stu]
        by_cases q : j = b
        · subst q; simp
        · by_cases q2 : j = a
          · subst q2; simp [q]
          · simp [q, q2]; exact h3.2.1
      · rw [sgu_c (by omega), sgu_c (by omega)]; simpa [swA, stu] using h3.2.2.1
      · rw [sgu_c (by omega), sgu_c (by omega)]; simpa [swA, stu] using h3.2.2.2.1
      · rw [sgu_c (by omega), sgu_c (by omega)]; simpa [swA, stu] using h3.2.2.2.2.1
      · rw [sgu_c (by omega), sgu_c (by omega)]; simpa [swA, stu] using h3.2.2.2.2.2
    · rw [sgu_c (by omega), sgu_c (by omega)]
end
section
/-! the class's Land, at 1 (now) or 14 (trial) -/
def RLd (L : Nat) (σ : Sg) (A : St) : Prop := RCel (L + 6) σ A ∧ σ L 0 = nI (A 12 5) ∧ σ L 5 = nI (A 12 6) ∧ σ L 7 = nI (A 12 1) ∧ σ L 9 = nI (A 12 3) ∧ σ L 10 = nI (A 12 4) ∧ (∀ h, h < A 12 5 → σ (L + 1) h = nI (A 9 h) ∧ σ (L + 2) h = nI (A 7 h) ∧ σ (L + 3) h = nI (A 8 h)) ∧ ∀ k, k < A 12 6 → σ (L + 5) k = nI (A 10 k)
def WL (A : St) : Prop := WJ A ∧ A 12 5 ≤ 4 ∧ A 12 6 ≤ 8 ∧ A 12 3 ≤ 2 ∧ A 12 4 < 2 ^ 31 ∧ (∀ h, h < A 12 5 → A 9 h ≤ 99 ∧ A 7 h ≤ 20 ∧ A 8 h < 2 ^ 20) ∧ (∀ k, k < A 12 6 → A 10 k ≤ 99) ∧ ∀ j, j < A 12 0 → A 1 j < A 12 5
def harvA (A : St) (t : Nat) : Nat := if A 12 6 = 0 then 10 else A 10 (t % A 12 6)
def drA (s : Nat) : Nat := (s * 1103515245 + 12345) % 2147483648
theorem drA_lt (s : Nat) : drA s < 2 ^ 31 := Nat.mod_lt _ (by omega)
theorem RLd.cel {L : Nat} {σ : Sg} {A : St} (h : RLd L σ A) : RCel (L + 6) σ A := h.1
theorem RLd.fr {L : Nat} {σ σ' : Sg} {A : St} (h : RLd L σ A) (hf : ∀ c, L ≤ c → c ≤ L + 12 → c ≠ L + 4 → σ' c = σ c) : RLd L σ' A := by
  obtain ⟨h1, h2, h3, h4, h5, h6, h7, h8⟩ := h
  refine ⟨h1.fr (fun c a b => hf c (by omega) (by omega) (by omega)), ?_, ?_, ?_, ?_, ?_, fun k hk => ?_, fun k hk => ?_⟩
  · rw [hf L (by omega) (by omega) (by omega)]; exact h2
  · rw [hf L (by omega) (by omega) (by omega)]; exact h3
  · rw [hf L (by omega) (by omega) (by omega)]; exact h4
  · rw [hf L (by omega) (by omega) (by omega)]; exact h5
  · rw [hf L (by omega) (by omega) (by omega)]; exact h6
  · rw [hf (L + 1) (by omega) (by omega) (by omega), hf (L + 2) (by omega) (by omega) (by omega), hf (L + 3) (by omega) (by omega) (by omega)]; exact h7 k hk
  · rw [hf (L + 5) (by omega) (by omega) (by omega)]; exact h8 k hk
set_option maxRecDepth 100000 in
theorem s_hasHouse {σ : Sg} {L : Nat} {j : Int32} {Q : Option Value → Sg → Prop} (hb : L = 1 ∨ L = 14) (h : Q (some (.int (bI (0 ≤ j ∧ j < σ L 0)))) σ) : MetA mX4_hasHouse [.ref L, .int j] σ Q := by
  refine MetA_of qX4_hasHouse (Nat.le_of_ble_eq_true rfl) ?_
  refine wpB_sd (stops := []) kX4_hasHouse 20 _ _ _ _ ?_
  rcases hb with rfl | rfl <;>
  · refine ⟨fun h1 => ⟨Or.inl rfl, ?_⟩, fun h1 => ⟨fun h2 => ⟨Or.inl rfl, ?_⟩, fun h2 => ⟨Or.inr rfl, ?_⟩⟩⟩
    · exact fin_i h (bI_f (fun q => absurd h1 (Int32.not_lt.mpr q.1))).symm
    · exact fin_i h (bI_f (fun q => absurd h2 (Int32.not_le.mpr q.2))).symm
    · exact fin_i h (bI_t ⟨Int32.not_lt.mp h1, Int32.not_le.mp h2⟩).symm
set_option maxRecDepth 100000 in
theorem s_harvestOf {σ : Sg} {A : St} {L t : Nat} {Q : Option Value → Sg → Prop} (hb : L = 1 ∨ L = 14) (hR : RLd L σ A) (hW : WL A) (ht : t < 2 ^ 21) (h : Q (some (.int (nI (harvA A t)))) σ) : MetA mX4_harvestOf [.ref L, .int (nI t)] σ Q := by
  refine MetA_of qX4_harvestOf (Nat.le_of_ble_eq_true rfl) ?_
  refine wpB_sd (stops := []) kX4_harvestOf 30 _ _ _ _ ?_
  have h5 := hR.2.2.1
  have h8 := hR.2.2.2.2.2.2.2
  have hm := hW.2.2.1
  have e : 0 < A 12 6 → nI t - nI t / σ L 5 * σ L 5 = nI (t % A 12 6) := fun q => by rw [h5]; exact pk_rem (by omega) (by omega) (by omega)
  rcases hb with rfl | rfl <;>
  · refine ⟨fun g => ?_, fun g => ?_⟩
    · rw [h5] at g
      have g := (nI_ltI (b := 1) (by omega) (by omega)).mp g
      refine fin_i h ?_
      rw [harvA, if_pos (by omega)]; rfl
    · have g : ¬ A 12 6 < 1 := fun q => g (by rw [h5]; exact nI_lt (b := 1) q (by omega))
      refine br_t (nI_pos' (by omega)) ?_
      have hlt : t % A 12 6 < A 12 6 := Nat.mod_lt _ (by omega)
      refine ⟨by rw [h5]; exact nI_ne0 (by omega) (by omega), ?_⟩
      rw [e (by omega)]
      refine ⟨aok (n := 8) rfl rfl (by omega), nm_r (rdn (by omega) (h8 _ hlt)) ?_⟩
      refine fin_i h ?_
      rw [harvA, if_neg (by omega)]
theorem RLd_seed {L : Nat} {σ σ' : Sg} {A : St} {v : Nat} (h : RLd L σ A) (hf : ∀ c, c ≠ L → σ' c = σ c) (hk : ∀ k, k ≠ 10 → σ' L k = σ L k) (hv : σ' L 10 = nI v) : RLd L σ' (stu A 12 4 v) := by
  obtain ⟨h1, h2, h3, h4, h5, h6, h7, h8⟩ := h
  refine ⟨RCel.fr (σ := σ) ?_ (fun c a b => hf c (by omega)), ?_, ?_, ?_, ?_, ?_, ?_, ?_⟩
  · exact h1
  · rw [hk 0 (by omega)]; exact h2
  · rw [hk 5 (by omega)]; exact h3
  · rw [hk 7 (by omega)]; exact h4
  · rw [hk 9 (by omega)]; exact h5
  · rw [hv, stu_s]
  · intro k hk
    rw [hf _ (by omega), hf _ (by omega), hf _ (by omega)]
    exact h7 k hk
  · intro k hk
    rw [hf _ (by omega)]
    exact h8 k hk
set_option maxRecDepth 100000 in
theorem s_drawOf {σ : Sg} {A : St} {L n : Nat} {Q : Option Value → Sg → Prop} (hb : L = 1 ∨ L = 14) (hR : RLd L σ A) (hW : WL A) (hn : 1 ≤ n) (hn2 : n < 2 ^ 20) (h : ∀ σ', RLd L σ' (stu A 12 4 (drA (A 12 4))) → (∀ c, c ≠ L → σ' c = σ c) → (∀ k, k ≠ 10 → σ' L k = σ L k) → Q (some (.int (nI (drA (A 12 4) / 65536 % n)))) σ') : MetA mX4_drawOf [.ref L, .int (nI n)] σ Q := by
  refine MetA_of qX4_drawOf (Nat.le_of_ble_eq_true rfl) ?_
  refine wpB_sd (stops := []) kX4_drawOf 40 _ _ _ _ ?_
  have hs := hW.2.2.2.2.1
  have h10 := hR.2.2.2.2.2.1
  have hd := drA_lt (A 12 4)
  have e : (((σ L 10).toInt64 * 1103515245 + 12345) &&& 2147483647).toInt32 = nI (drA (A 12 4)) := by
    rw [h10, nI_l hs, fa_litL, fa_litL, lN_mul, lN_add, show (2147483647 : Int64) = lN (2 ^ 31 - 1) from rfl, fb_maskL, lN_i, drA]
  rcases hb with rfl | rfl <;>
  · refine br_t (nI_le (a := 1) hn (by omega)) ?_
    rw [e]
    refine ⟨by decide, ?_⟩
    rw [sgu_s]
    have e2 : nI (drA (A 12 4)) / 65536 = nI (drA (A 12 4) / 65536) := pk_div (d := 65536) hd (by omega) (by omega)
    have e3 : drA (A 12 4) / 65536 ≤ drA (A 12 4) := Nat.div_le_self _ _
    rw [e2]
    refine ⟨nI_ne0 (by omega) (by omega), ?_⟩
    rw [pk_rem (by omega) (by omega) (by omega)]
    refine h _ ?_ (fun c hc => sgu_c hc) (fun k hk => sgu_k hk)
    exact RLd_seed hR (fun c hc => sgu_c hc) (fun k hk => sgu_k hk) sgu_s
/-- what the house does next: opens a jar, or not -/
def nxA (A : St) (hh has : Nat) : Option Nat := if has < A 9 hh then ftoA A hh (A 12 3) (A 12 1) (A 12 0) else none
def eatL (hh : Nat) : Nat → St → Nat → St × Nat
  | 0, A, has => (A, has)
  | n + 1, A, has => match nxA A hh has with
    | none => (A, has)
    | some j => eatL hh n (stu A 6 j 1) (has + filA A j (A 12 1))
def eatS (A1 : St) (hh has : Nat) (op : Bool) : St := if op = false ∧ A1 9 hh < has ∧ 0 < A1 7 hh ∧ A1 12 0 < 24 then addA (stu A1 8 hh 0) 0 hh (A1 12 1 + A1 7 hh) (if 99 < has - A1 9 hh then 99 else has - A1 9 hh) 5 (A1 12 1) else stu A1 8 hh 0
def eatA (A : St) (hh harv : Nat) : St × Nat :=
  (eatS (eatL hh 24 A (harv + A 8 hh)).1 hh (eatL hh 24 A (harv + A 8 hh)).2 (nxA A hh (harv + A 8 hh)).isSome, A 9 hh - (eatL hh 24 A (harv + A 8 hh)).2)
/-- fields that eating leaves -/
theorem eatL_f (hh : Nat) : ∀ (n : Nat) (A : St) (has f k : Nat), f ≠ 6 → (eatL hh n A has).1 f k = A f k
  | 0, A, has, f, k, _ => rfl
  | n + 1, A, has, f, k, hf => by
    rw [eatL]
    cases nxA A hh has with
    | none => rfl
    | some j => dsimp only; rw [eatL_f hh n _ _ f k hf, stu_f hf]
theorem nxA_lt {A : St} {hh has j : Nat} (h : nxA A hh has = some j) : j < A 12 0 ∧ A 1 j = hh ∧ A 6 j = 0 := by
  unfold nxA at h
  split at h
  · have := ftoA_lt A hh _ _ _ j h; exact ⟨this.1, this.2.1, this.2.2.1⟩
  · cases h
theorem filA_le {A : St} (hW : WJ A) {j y : Nat} (hj : j < A 12 0) : filA A j y ≤ 198 := by
  obtain ⟨w0, w1, w2, w3, w4, w5, w6⟩ := hW.2.2 j hj
  unfold filA
  split
  · split <;> omega
  · split
    · split <;> omega
    · omega
theorem eatL_w (hh : Nat) : ∀ (n : Nat) (A : St) (has : Nat), WJ A → WJ (eatL hh n A has).1 ∧ has ≤ (eatL hh n A has).2 ∧ (eatL hh n A has).2 ≤ has + 198 * n
  | 0, A, has, h => ⟨h, Nat.le_refl _, by simp [eatL]⟩
  | n + 1, A, has, h => by
    rw [eatL]
    cases hn : nxA A hh has with
    | none => exact ⟨h, Nat.le_refl _, by dsimp only; omega⟩
    | some j =>
      dsimp only
      have hj := nxA_lt hn
      have hf := filA_le h (y := A 12 1) hj.1
      have := eatL_w hh n (stu A 6 j 1) (has + filA A j (A 12 1)) (WJ_g h (by omega))
      exact ⟨this.1, by omega, by omega⟩
theorem RLd_g {L : Nat} {σ σ' : Sg} {A : St} {j v : Nat} (h : RLd L σ A) (hc : RCel (L + 6) σ' (stu A 6 j v)) (hf : ∀ c, c ≠ L + 6 → σ' c = σ c) : RLd L σ' (stu A 6 j v) := by
  obtain ⟨h1, h2, h3, h4, h5, h6, h7, h8⟩ := h
  have hL := hf L (by omega)
  refine ⟨hc, ?_, ?_, ?_, ?_, ?_, fun k hk => ?_, fun k hk => ?_⟩
  · rw [hL]; exact h2
  · rw [hL]; exact h3
  · rw [hL]; exact h4
  · rw [hL]; exact h5
  · rw [hL]; exact h6
  · rw [hf (L + 1) (by omega), hf (L + 2) (by omega), hf (L + 3) (by omega)]; exact h7 k hk
  · rw [hf (L + 5) (by omega)]; exact h8 k hk
end
section
/-! Land.feedHouse -/
def FrE (L : Nat) (σ σ' : Sg) : Prop := ∀ c, c ≠ L + 3 → ¬ (L + 6 ≤ c ∧ c ≤ L + 12) → σ' c = σ c
theorem RLd_stock {L : Nat} {σ : Sg} {A : St} {hh : Nat} (h : RLd L σ A) : RLd L (sgu σ (L + 3) hh 0) (stu A 8 hh 0) := by
  obtain ⟨h1, h2, h3, h4, h5, h6, h7, h8⟩ := h
  refine ⟨RCel.fr (σ := σ) ?_ (fun c a b => sgu_c (by omega)), ?_, ?_, ?_, ?_, ?_, ?_, ?_⟩
  · exact h1
  · rw [sgu_c (by omega)]; exact h2
  · rw [sgu_c (by omega)]; exact h3
  · rw [sgu_c (by omega)]; exact h4
  · rw [sgu_c (by omega)]; exact h5
  · rw [sgu_c (by omega)]; exact h6
  · intro k hk
    have := h7 k hk
    rw [sgu_c (by omega), sgu_c (by omega)]
    refine ⟨this.1, this.2.1, ?_⟩
    by_cases q : k = hh
    · subst q; rw [sgu_s, stu_s]; rfl
    · rw [sgu_k q, stu_k q]; exact this.2.2
  · intro k hk
    rw [sgu_c (by omega)]; exact h8 k hk
theorem RLd_add {L : Nat} {σ σ' : Sg} {A : St} {k h d q kp y : Nat} (hR : RLd L σ A) (hc : RCel (L + 6) σ' (addA A k h d q kp y)) (hf : ∀ c, ¬ (L + 6 ≤ c ∧ c ≤ L + 12) → σ' c = σ c) : RLd L σ' (addA A k h d q kp y) := by
  obtain ⟨h1, h2, h3, h4, h5, h6, h7, h8⟩ := hR
  have hL := hf L (by omega)
  refine ⟨hc, ?_, ?_, ?_, ?_, ?_, fun i hi => ?_, fun i hi => ?_⟩
  · rw [hL, addA_f (by omega) (by omega)]; exact h2
  · rw [hL, addA_f (by omega) (by omega)]; exact h3
  · rw [hL, addA_f (by omega) (by omega)]; exact h4
  · rw [hL, addA_f (by omega) (by omega)]; exact h5
  · rw [hL, addA_f (by omega) (by omega)]; exact h6
  · rw [addA_f (by omega) (by omega)] at hi
    rw [hf (L + 1) (by omega), hf (L + 2) (by omega), hf (L + 3) (by omega), addA_f (by omega) (by omega), addA_f (by omega) (by omega), addA_f (by omega) (by omega)]; exact h7 i hi
  · rw [addA_f (by omega) (by omega)] at hi
    rw [hf (L + 5) (by omega), addA_f (by omega) (by omega)]; exact h8 i hi
theorem max0 {a b : Nat} (ha : a < 2 ^ 30) (hb : b < 2 ^ 30) : (if nI a - nI b < 0 then 0 else nI a - nI b) = nI (a - b) := by
  by_cases h : a < b
  · rw [if_pos (pk_sneg hb h), show a - b = 0 by omega]; rfl
  · rw [pk_sub (by omega), if_neg (nI_pos (by omega))]
theorem mAr {ms : MS} {av av' : List Value} {σ : Sg} {Q : Option Value → Sg → Prop} (e : av = av') (h : MetA ms av' σ Q) : MetA ms av σ Q := e ▸ h
theorem min99 {a : Nat} (h : a < 2 ^ 31) : (if (99 : Int32) < nI a then 99 else nI a) = nI (if 99 < a then 99 else a) := by
  by_cases q : 99 < a
  · rw [if_pos q, if_pos (show (99 : Int32) < nI a from nI_lt (a := 99) q h)]; rfl
  · rw [if_neg q, if_neg (show ¬ (99 : Int32) < nI a from nI_nlt (a := 99) (by omega) (by omega))]
theorem optI_no {o : Option Nat} (h : ∀ j, o = some j → j < 2 ^ 31) : optI o = -1 ↔ o = none := by
  cases o with
  | none => simp [optI]
  | some j =>
    simp only [optI, reduceCtorEq, iff_false]
    intro q
    have q2 : (nI j).toInt = (-1 : Int32).toInt := congrArg Int32.toInt q
    rw [nI_toInt (h j rfl)] at q2
    have : ((-1 : Int32)).toInt = -1 := by decide
    omega
set_option maxRecDepth 100000 in
set_option maxHeartbeats 2000000 in
theorem s_feed {σ : Sg} {A : St} {L hh harv : Nat} {Q : Option Value → Sg → Prop} (hb : L = 1 ∨ L = 14) (hR : RLd L σ A) (hW : WL A) (hh2 : hh < A 12 5) (hv : harv ≤ 99) (hy : A 12 1 < 2 ^ 19)
    (h : ∀ σ', RLd L σ' (eatA A hh harv).1 → FrE L σ σ' → Q (some (.int (nI (eatA A hh harv).2))) σ') : MetA mX4_feedHouse [.ref L, .int (nI hh), .int (nI harv)] σ Q := by
  refine MetA_of qX4_feedHouse (Nat.le_of_ble_eq_true rfl) ?_
  have h4 := hW.2.1
  have hw := hW.2.2.2.2.2.1 hh hh2
  have hlw := hW.2.2.2.1
  have hb6 : L + 6 = 7 ∨ L + 6 = 20 := by omega
  -- the end
  have r203 : ∀ (σ' : Sg) (A' : St) (has : Nat) (o f i : Int32), RLd L σ' A' → A' 9 hh = A 9 hh → A' 12 5 = A 12 5 → has < 2 ^ 30 → Q (some (.int (nI (A 9 hh - has)))) σ' → V mX4_feedHouse 203 [(0, .ref L), (1, .int (nI hh)), (2, .int (nI harv)), (3, .int (nI has)), (4, .int f), (5, .int o), (6, .int i)] [] σ' Q := by
    intro σ' A' has o f i hR' e9 e5 hhas hQ
    have h7 := (hR'.2.2.2.2.2.2.1 hh (by omega)).1
    rw [e9] at h7
    refine wpB_sd (stops := []) kX4_feedHouse 20 _ _ _ _ ?_
    rcases hb with rfl | rfl <;>
    · refine ⟨aok (n := 4) rfl rfl (by omega), nm_r (rdn (by omega) h7) ?_⟩
      exact fin_i hQ (max0 (by omega) hhas)
  -- behind the loop
  have r124 : ∀ (σ' : Sg) (A' : St) (has : Nat) (op : Bool) (f i : Int32), RLd L σ' A' → WJ A' → (∀ g k, g ≠ 6 → A' g k = A g k) → FrE L σ σ' → has < 2 ^ 29 → (∀ σ'', RLd L σ'' (eatS A' hh has op) → FrE L σ σ'' → Q (some (.int (nI (A 9 hh - has)))) σ'') → V mX4_feedHouse 124 [(0, .ref L), (1, .int (nI hh)), (2, .int (nI harv)), (3, .int (nI has)), (4, .int f), (5, .int (bI (op = true))), (6, .int i)] [] σ' Q := by
    intro σ' A' has op f i hR' hW' hA' hF hhas hQ
    have hR1 : RLd L (sgu σ' (L + 3) hh 0) (stu A' 8 hh 0) := RLd_stock hR'
    have hF1 : FrE L σ (sgu σ' (L + 3) hh 0) := fun c a b => by rw [sgu_c a]; exact hF c a b
    have e9 : A' 9 hh = A 9 hh := hA' 9 hh (by omega)
    have e7 : A' 7 hh = A 7 hh := hA' 7 hh (by omega)
    have e5 : A' 12 5 = A 12 5 := hA' 12 5 (by omega)
    have e1 : A' 12 1 = A 12 1 := hA' 12 1 (by omega)
    have hr := hR1.2.2.2.2.2.2.1 hh (by show hh < stu A' 8 hh 0 12 5; rw [stu_f (by omega)]; omega)
    have hw9 : sgu σ' (L + 3) hh 0 (L + 1) hh = nI (A 9 hh) := by rw [hr.1, stu_f (by omega), e9]
    have hw7 : sgu σ' (L + 3) hh 0 (L + 2) hh = nI (A 7 hh) := by rw [hr.2.1, stu_f (by omega), e7]
    have hyr : sgu σ' (L + 3) hh 0 L 7 = nI (A 12 1) := by rw [hR1.2.2.2.1, stu_f (by omega), e1]
    have ea : sgu σ' (L + 3) hh 0 L 7 + nI (A 7 hh) = nI (A 12 1 + A 7 hh) := by rw [hyr, nI_add]
    have nos : ¬ (op = false ∧ A' 9 hh < has ∧ 0 < A' 7 hh ∧ A' 12 0 < 24) → V mX4_feedHouse 203 [(0, .ref L), (1, .int (nI hh)), (2, .int (nI harv)), (3, .int (nI has)), (4, .int f), (5, .int (bI (op = true))), (6, .int i)] [] (sgu σ' (L + 3) hh 0) Q := by
      intro hno
      refine r203 _ _ has _ f i hR1 (by rw [stu_f (by omega), e9]) (by rw [stu_f (by omega), e5]) (by omega) (hQ _ ?_ hF1)
      rw [eatS, if_neg hno]; exact hR1
    have hWs : WJ (stu A' 8 hh 0) := hW'
    have yes : (op = false ∧ A' 9 hh < has ∧ 0 < A' 7 hh ∧ A' 12 0 < 24) → ∀ σ2, RCel (L + 6) σ2 (addA (stu A' 8 hh 0) 0 hh (A 12 1 + A 7 hh) (if 99 < has - A 9 hh then 99 else has - A 9 hh) 5 (A 12 1)) → FrC (L + 6) (L + 6 + 6) (sgu σ' (L + 3) hh 0) σ2 → V mX4_feedHouse 203 [(0, .ref L), (1, .int (nI hh)), (2, .int (nI harv)), (3, .int (nI has)), (4, .int f), (5, .int (bI (op = true))), (6, .int i)] [] σ2 Q := by
      intro hyes σ2 hc2 hf2
      have hR2 := RLd_add hR1 hc2 (fun c hc => hf2 c (by omega))
      refine r203 _ _ has _ f i hR2 (by rw [addA_f (by omega) (by omega), stu_f (by omega), e9]) (by rw [addA_f (by omega) (by omega), stu_f (by omega), e5]) (by omega) (hQ _ ?_ (fun c a b => by rw [hf2 c (by omega)]; exact hF1 c a b))
      rw [eatS, if_pos hyes, e1, e7, e9]; exact hR2
    refine wpB_sd (stops := [203]) kX4_feedHouse 60 _ _ _ _ ?_
    rcases hb with rfl | rfl <;>
    · refine ast (n := 4) (j := hh) rfl rfl (by omega) ?_
      refine ⟨fun g => ?_, fun g => ?_⟩
      · have g : op = true := by
          by_cases q : op = true
          · exact q
          · exact absurd (bI_f q) g
        exact nos (fun q => by rw [g] at q; cases q.1)
      · have g : ¬ op = true := bI_0.mp g
        have g : op = false := by simpa using g
        refine ⟨aok (n := 4) rfl rfl (by omega), nm_r (rdn (by omega) hw9) ?_⟩
        refine ⟨fun g2 => ?_, fun g2 => ?_⟩
        · have g2 := (nI_leI (by omega) (by omega)).mp g2
          exact nos (fun q => by omega)
        · have g2 : ¬ has ≤ A 9 hh := fun q => g2 (nI_le q (by omega))
          refine ⟨aok (n := 4) rfl rfl (by omega), nm_r (rdn (by omega) hw7) ?_⟩
          refine ⟨fun g3 => ?_, fun g3 => ?_⟩
          · have g3 := (nI_leI (b := 0) (by omega) (by omega)).mp g3
            exact nos (fun q => by omega)
          · have g3 : ¬ A 7 hh ≤ 0 := fun q => g3 (nI_le (b := 0) q (by omega))
            refine s_isFull (A := stu A' 8 hh 0) (by first | exact Or.inl rfl | exact Or.inr rfl) hR1.1 hWs ?_
            refine ⟨fun g4 => ?_, fun g4 => ?_⟩
            · have g4 : 24 ≤ A' 12 0 := by
                by_cases q : 24 ≤ A' 12 0
                · exact q
                · exact absurd (bI_f q) g4
              exact nos (fun q => by omega)
            · have g4 : ¬ 24 ≤ A' 12 0 := bI_0.mp g4
              refine ⟨aok (n := 4) rfl rfl (by omega), nm_r (rdn (by omega) hw7) ?_⟩
              refine ⟨aok (n := 4) rfl rfl (by omega), nm_r (rdn (by omega) hw9) ?_⟩
              refine mAr ?_ (s_add (k := 0) (kp := 5) (hh := hh) (d := A 12 1 + A 7 hh) (q := if 99 < has - A 9 hh then 99 else has - A 9 hh) (y := A 12 1) (by first | exact Or.inl rfl | exact Or.inr rfl) hR1.1 hWs (by show A' 12 0 < 24; omega) (fun σ2 a b => ?_))
              · rw [ea, pk_sub (show A 9 hh ≤ has by omega), min99 (by omega), hyr]; rfl
              · exact yes ⟨g, by omega, by omega, by omega⟩ σ2 a b
  -- the loop
  have r57 : ∀ (op : Bool) (n : Nat) (A' : St) (has i : Nat) (σ' : Sg), i + n = 24 → RLd L σ' A' → WJ A' → (∀ g k, g ≠ 6 → A' g k = A g k) → FrE L σ σ' → has ≤ 2 ^ 28 + 198 * i → (∀ σ'' f' i', RLd L σ'' (eatL hh n A' has).1 → FrE L σ σ'' → V mX4_feedHouse 124 [(0, .ref L), (1, .int (nI hh)), (2, .int (nI harv)), (3, .int (nI (eatL hh n A' has).2)), (4, .int f'), (5, .int (bI (op = true))), (6, .int i')] [] σ'' Q) → V mX4_feedHouse 57 [(0, .ref L), (1, .int (nI hh)), (2, .int (nI harv)), (3, .int (nI has)), (4, .int (optI (nxA A' hh has))), (5, .int (bI (op = true))), (6, .int (nI i))] [] σ' Q := by
    intro op n
    induction n with
    | zero =>
      intro A' has i σ' hi hR' hW' hA' hF hhas hQ
      refine wpB_sd (stops := [124]) kX4_feedHouse 20 _ _ _ _ ?_
      refine br_t (nI_le (a := 24) (by omega) (by omega)) ?_
      exact hQ σ' _ _ hR' hF
    | succ n ih =>
      intro A' has i σ' hi hR' hW' hA' hF hhas hQ
      have e9 : A' 9 hh = A 9 hh := hA' 9 hh (by omega)
      have e5 : A' 12 5 = A 12 5 := hA' 12 5 (by omega)
      have e1 : A' 12 1 = A 12 1 := hA' 12 1 (by omega)
      have e3 : A' 12 3 = A 12 3 := hA' 12 3 (by omega)
      have e0 : A' 12 0 = A 12 0 := hA' 12 0 (by omega)
      have hj24 := hW'.1
      have hno := optI_no (o := nxA A' hh has) (fun j hj => by have := nxA_lt hj; omega)
      refine wpB_sd (stops := [57, 116, 124]) kX4_feedHouse 60 _ _ _ _ ?_
      refine br_f (nI_ge (b := 24) (by omega) (by omega)) ?_
      refine ⟨fun g => ?_, fun g => ?_⟩
      · have g := hno.mp g
        rw [eatL, g] at hQ
        exact hQ σ' _ _ hR' hF
      · cases hn : nxA A' hh has with
        | none => exact absurd (hno.mpr hn) g
        | some j =>
          rw [eatL, hn] at hQ
          have hj := nxA_lt hn
          have hfl := filA_le hW' (y := A' 12 1) hj.1
          have hyr : σ' L 7 = nI (A' 12 1) := hR'.2.2.2.1
          have mk : ∀ σ2, FrC (L + 6) (L + 6) σ' σ2 → FrE L σ σ2 := fun σ2 hf c a b => by rw [hf c (by omega)]; exact hF c a b
          have rr : ∀ σ2, RLd L σ2 (stu A' 6 j 1) → FrE L σ σ2 → V mX4_feedHouse 116 [(0, .ref L), (1, .int (nI hh)), (2, .int (nI harv)), (3, .int (nI (has + filA A' j (A' 12 1)))), (4, .int (optI (some j))), (5, .int (bI (op = true))), (6, .int (nI i))] [.int (optI (nxA (stu A' 6 j 1) hh (has + filA A' j (A' 12 1))))] σ2 Q := by
            intro σ2 hR2 hF2
            have := ih (stu A' 6 j 1) (has + filA A' j (A' 12 1)) (i + 1) σ2 (by omega) hR2 (WJ_g hW' (by omega)) (fun g k hg => by rw [stu_f hg]; exact hA' g k hg) hF2 (by omega) hQ
            rw [← nI_1] at this
            refine wpB_sd (stops := [57]) kX4_feedHouse 20 _ _ _ _ ?_
            exact this
          rcases hb with rfl | rfl <;>
          · refine mAr (by rw [hyr]; rfl) (s_takeOut (A := A') (j := j) (by first | exact Or.inl rfl | exact Or.inr rfl) hR'.1 hW' hj.1 (Nat.le_refl _) (by omega) (fun σ2 hc2 hf2 => ?_))
            have hR2 := RLd_g hR' hc2 (fun c hc => hf2 c (by omega))
            have hF2 := mk σ2 hf2
            have rr := rr σ2 hR2 hF2
            rw [← nI_add has] at rr
            have h9 := (hR2.2.2.2.2.2.2.1 hh (by show hh < A' 12 5; omega)).1
            have h9 : σ2 _ hh = nI (A' 9 hh) := h9
            refine ⟨aok (n := 4) rfl rfl (by omega), nm_r (rdn (by omega) h9) ?_⟩
            refine ⟨fun g2 => ?_, fun g2 => ?_⟩
            · rw [nI_add] at g2
              have g2 := (nI_leI (by omega) (by omega)).mp g2
              rw [nxA, if_neg (by show ¬ _ < A' 9 hh; omega)] at rr
              exact rr
            · rw [nI_add] at g2
              have g2 : ¬ A' 9 hh ≤ has + filA A' j (A' 12 1) := fun q => g2 (nI_le q (by omega))
              rw [nxA, if_pos (by show _ < A' 9 hh; omega)] at rr
              have q9 := hR2.2.2.2.2.1
              have q7 := hR2.2.2.2.1
              refine mAr (by rw [q9, q7]; rfl) (s_firstToOpen (A := stu A' 6 j 1) (hh := hh) (l := A' 12 3) (y := A' 12 1) (by first | exact Or.inl rfl | exact Or.inr rfl) hR2.1 (WJ_g hW' (by omega)) (by omega) (by omega) (by omega) ?_)
              exact rr
  have hys : σ L 7 = nI (A 12 1) := hR.2.2.2.1
  have hls : σ L 9 = nI (A 12 3) := hR.2.2.2.2.1
  have hrs := hR.2.2.2.2.2.2.1 hh hh2
  have hWJ := hW.1
  have he := eatL_w hh 24 A (harv + A 8 hh) hWJ
  have hno := optI_no (o := nxA A hh (harv + A 8 hh)) (fun j hj => by have := nxA_lt hj; have := hWJ.1; omega)
  have r39 : V mX4_feedHouse 39 [(0, .ref L), (1, .int (nI hh)), (2, .int (nI harv)), (3, .int (nI (harv + A 8 hh)))] [.int (optI (nxA A hh (harv + A 8 hh)))] σ Q := by
    have fin : ∀ op : Bool, op = (nxA A hh (harv + A 8 hh)).isSome → V mX4_feedHouse 57 [(0, .ref L), (1, .int (nI hh)), (2, .int (nI harv)), (3, .int (nI (harv + A 8 hh))), (4, .int (optI (nxA A hh (harv + A 8 hh)))), (5, .int (bI (op = true))), (6, .int (nI 0))] [] σ Q := by
      intro op hop
      refine r57 op 24 A (harv + A 8 hh) 0 σ (by omega) hR hWJ (fun _ _ _ => rfl) (fun _ _ _ => rfl) (by omega) (fun σ'' f' i' hR2 hF2 => ?_)
      refine r124 _ _ _ op f' i' hR2 he.1 (fun g k hg => eatL_f hh 24 A _ g k hg) hF2 (by omega) (fun σ3 hR3 hF3 => ?_)
      rw [hop] at hR3
      exact h σ3 hR3 hF3
    refine wpB_sd (stops := [57]) kX4_feedHouse 20 _ _ _ _ ?_
    refine ⟨fun g => ?_, fun g => ?_⟩
    · exact fin false (by rw [hno.mp g]; rfl)
    · refine fin true ?_
      cases hq : nxA A hh (harv + A 8 hh) with
      | none => exact absurd (hno.mpr hq) g
      | some j => rfl
  refine wpB_sd (stops := [39]) kX4_feedHouse 40 _ _ _ _ ?_
  rcases hb with rfl | rfl <;>
  · refine ⟨aok (n := 4) rfl rfl (by omega), nm_r (rdn (by omega) hrs.2.2) ?_⟩
    rw [← nI_add] at r39
    refine ⟨aok (n := 4) rfl rfl (by omega), nm_r (rdn (by omega) hrs.1) ?_⟩
    refine ⟨fun g2 => ?_, fun g2 => ?_⟩
    · rw [nI_add] at g2
      have g2 := (nI_leI (by omega) (by omega)).mp g2
      rw [nxA, if_neg (by omega)] at r39
      exact r39
    · rw [nI_add] at g2
      have g2 : ¬ A 9 hh ≤ harv + A 8 hh := fun q => g2 (nI_le q (by omega))
      rw [nxA, if_pos (by omega)] at r39
      refine mAr (by rw [hls, hys]) (s_firstToOpen (hh := hh) (l := A 12 3) (y := A 12 1) (by first | exact Or.inl rfl | exact Or.inr rfl) hR.1 hWJ (by omega) hlw (by omega) ?_)
      exact r39
end
section
/-! years: the specification, its bounds -/
def buC (A : St) (k : Nat) : Bool := decide (A 6 k = 0 ∧ ¬ A 0 k = 2 ∧ A 4 k < A 12 1 - A 5 k)
def buS (A : St) (k : Nat) : St := if buC A k = true then (if drA (A 12 4) / 65536 % 10 = 0 then stu (stu A 12 4 (drA (A 12 4))) 6 k 1 else stu A 12 4 (drA (A 12 4))) else A
def buR : Nat → St → St
  | 0, A => A
  | n + 1, A => buS (buR n A) n
abbrev Ys : Type := St × (Nat → Nat)
def hsA1 (dr : Bool) (A : St) : St := if dr = true then stu A 12 4 (drA (A 12 4)) else A
def hsV (dr : Bool) (A : St) : Nat := if dr = true then drA (A 12 4) / 65536 % 30 else harvA A (A 12 1)
def hsS (dr : Bool) (k : Nat) (s : Ys) : Ys := ((eatA (hsA1 dr s.1) k (hsV dr s.1)).1, fun i => if i = k then s.2 k + (eatA (hsA1 dr s.1) k (hsV dr s.1)).2 else s.2 i)
def hsR (dr : Bool) : Nat → Ys → Ys
  | 0, s => s
  | n + 1, s => hsS dr n (hsR dr n s)
def yrB (dr : Bool) (A : St) : St := if dr = true then buR (A 12 0) A else A
def yrS (dr : Bool) (s : Ys) : Ys := (stu (hsR dr (s.1 12 5) (yrB dr s.1, s.2)).1 12 1 (s.1 12 1 + 1), (hsR dr (s.1 12 5) (yrB dr s.1, s.2)).2)
def yrR (dr : Bool) : Nat → Ys → Ys
  | 0, s => s
  | n + 1, s => yrS dr (yrR dr n s)
theorem V.take {ms : MS} {pc : Nat} {lv : Lv} {st : List Value} {σ : Sg} {R : Option Value → Sg → Prop} (n : Nat) (h : V ms pc (lv.take n) st σ R) : V ms pc lv st σ R := V.sub (fun _ hq => List.mem_of_mem_take hq) h
/-- fields that eating leaves: all but the jars', the stocks and the number of jars -/
theorem eatA_f {A : St} {hh harv f k : Nat} (hf : 6 < f) (h8 : f ≠ 8) (h12 : ¬ (f = 12 ∧ k = 0)) : (eatA A hh harv).1 f k = A f k := by
  unfold eatA eatS
  dsimp only
  split
  · rw [addA_f hf h12, stu_f h8, eatL_f _ _ _ _ _ _ (by omega)]
  · rw [stu_f h8, eatL_f _ _ _ _ _ _ (by omega)]
theorem eatA_le {A : St} {hh harv : Nat} : (eatA A hh harv).2 ≤ A 9 hh := Nat.sub_le _ _
theorem WL.j {A : St} (h : WL A) : WJ A := h.1
theorem eatL_WL {A : St} (h : WL A) (hh n has : Nat) : WL (eatL hh n A has).1 := by
  obtain ⟨h0, h1, h2, h3, h4, h5, h6, h7⟩ := h
  have e := fun f k hf => eatL_f hh n A has f k hf
  refine ⟨(eatL_w hh n A has h0).1, ?_, ?_, ?_, ?_, fun k hk => ?_, fun k hk => ?_, fun k hk => ?_⟩
  · rw [e 12 5 (by omega)]; exact h1
  · rw [e 12 6 (by omega)]; exact h2
  · rw [e 12 3 (by omega)]; exact h3
  · rw [e 12 4 (by omega)]; exact h4
  · rw [e 12 5 (by omega)] at hk
    rw [e 9 k (by omega), e 7 k (by omega), e 8 k (by omega)]; exact h5 k hk
  · rw [e 12 6 (by omega)] at hk
    rw [e 10 k (by omega)]; exact h6 k hk
  · rw [e 12 0 (by omega)] at hk
    rw [e 12 5 (by omega), e 1 k (by omega)]; exact h7 k hk
theorem WL_stock {A : St} (h : WL A) (hh v : Nat) (hv : v < 2 ^ 20) : WL (stu A 8 hh v) := by
  obtain ⟨h0, h1, h2, h3, h4, h5, h6, h7⟩ := h
  refine ⟨h0, h1, h2, h3, h4, fun k hk => ?_, h6, h7⟩
  have := h5 k hk
  refine ⟨this.1, this.2.1, ?_⟩
  by_cases q : k = hh
  · subst q; rw [stu_s]; exact hv
  · rw [stu_k q]; exact this.2.2
theorem WL_add {A : St} (h : WL A) {hh d q : Nat} (hn : A 12 0 < 24) (hh2 : hh < A 12 5) (hd : d < 2 ^ 20) (hq : q ≤ 99) : WL (addA A 0 hh d q 5 (A 12 1)) := by
  obtain ⟨⟨g0, g1, g2⟩, h1, h2, h3, h4, h5, h6, h7⟩ := h
  have e := fun f k (hf : 6 < f) (h2 : ¬ (f = 12 ∧ k = 0)) => addA_f (A := A) (k := 0) (h := hh) (d := d) (q := q) (kp := 5) (y := A 12 1) hf h2
  refine ⟨⟨?_, ?_, fun j hj => ?_⟩, ?_, ?_, ?_, ?_, fun k hk => ?_, fun k hk => ?_, fun j hj => ?_⟩
  · rw [addA_n]; omega
  · rw [e 12 1 (by omega) (by omega)]; exact g1
  · rw [addA_n] at hj
    rw [e 12 1 (by omega) (by omega)]
    by_cases z : j = A 12 0
    · subst z
      simp [addA]
      omega
    · rw [addA_j (by omega) z, addA_j (by omega) z, addA_j (by omega) z, addA_j (by omega) z, addA_j (by omega) z, addA_j (by omega) z, addA_j (by omega) z]
      exact g2 j (by omega)
  · rw [e 12 5 (by omega) (by omega)]; exact h1
  · rw [e 12 6 (by omega) (by omega)]; exact h2
  · rw [e 12 3 (by omega) (by omega)]; exact h3
  · rw [e 12 4 (by omega) (by omega)]; exact h4
  · rw [e 12 5 (by omega) (by omega)] at hk
    rw [e 9 k (by omega) (by omega), e 7 k (by omega) (by omega), e 8 k (by omega) (by omega)]; exact h5 k hk
  · rw [e 12 6 (by omega) (by omega)] at hk
    rw [e 10 k (by omega) (by omega)]; exact h6 k hk
  · rw [addA_n] at hj
    rw [e 12 5 (by omega) (by omega)]
    by_cases z : j = A 12 0
    · subst z; simp [addA]; omega
    · rw [addA_j (by omega) z]; exact h7 j (by omega)
theorem eatA_WL {A : St} (h : WL A) {hh harv : Nat} (hh2 : hh < A 12 5) (hy : A 12 1 < 2 ^ 19) : WL (eatA A hh harv).1 := by
  unfold eatA eatS
  dsimp only
  have h1 := eatL_WL h hh 24 (harv + A 8 hh)
  have e := fun f k hf => eatL_f hh 24 A (harv + A 8 hh) f k hf
  split
  · next hc =>
    have h2 := WL_stock h1 hh 0 (by omega)
    have h7 := (h.2.2.2.2.2.1 hh hh2).2.1
    refine WL_add h2 (by show (eatL hh 24 A _).1 12 0 < 24; exact hc.2.2.2) (by show hh < (eatL hh 24 A _).1 12 5; rw [e 12 5 (by omega)]; exact hh2) (by rw [e 12 1 (by omega), e 7 hh (by omega)]; omega) (by split <;> omega)
  · exact WL_stock h1 hh 0 (by omega)
theorem WL_seed {A : St} (h : WL A) {v : Nat} (hv : v < 2 ^ 31) : WL (stu A 12 4 v) := by
  obtain ⟨h0, h1, h2, h3, h4, h5, h6, h7⟩ := h
  exact ⟨h0, h1, h2, h3, by rw [stu_s]; exact hv, h5, h6, h7⟩
theorem WL_gone {A : St} (h : WL A) {k : Nat} : WL (stu A 6 k 1) := by
  obtain ⟨h0, h1, h2, h3, h4, h5, h6, h7⟩ := h
  exact ⟨WJ_g h0 (by omega), h1, h2, h3, h4, h5, h6, h7⟩
theorem WL_year {A : St} (h : WL A) {v : Nat} (hv : A 12 1 ≤ v) (hv2 : v < 2 ^ 20) : WL (stu A 12 1 v) := by
  obtain ⟨⟨g0, g1, g2⟩, h1, h2, h3, h4, h5, h6, h7⟩ := h
  refine ⟨⟨g0, by rw [stu_s]; exact hv2, fun j hj => ?_⟩, h1, h2, h3, h4, h5, h6, h7⟩
  have := g2 j hj
  refine ⟨this.1, this.2.1, this.2.2.1, this.2.2.2.1, this.2.2.2.2.1, ?_, this.2.2.2.2.2.2⟩
  rw [stu_s]; exact Nat.le_trans this.2.2.2.2.2.1 hv
theorem buS_f {A : St} {k f i : Nat} (h6 : f ≠ 6) (h12 : ¬ (f = 12 ∧ i = 4)) : buS A k f i = A f i := by
  have e : ∀ v, stu A 12 4 v f i = A f i := fun v => if_neg (fun q => h12 ⟨q.1, q.2⟩)
  unfold buS
  split
  · split
    · rw [stu_f h6, e]
    · rw [e]
  · rfl
theorem buR_f {f i : Nat} (h6 : f ≠ 6) (h12 : ¬ (f = 12 ∧ i = 4)) : ∀ (n : Nat) (A : St), buR n A f i = A f i
  | 0, _ => rfl
  | n + 1, A => by rw [buR, buS_f h6 h12, buR_f h6 h12 n A]
theorem buS_WL {A : St} (h : WL A) {k : Nat} : WL (buS A k) := by
  have hd := drA_lt (A 12 4)
  unfold buS
  split
  · split
    · exact WL_gone (WL_seed h hd)
    · exact WL_seed h hd
  · exact h
theorem buR_WL : ∀ (n : Nat) {A : St}, WL A → WL (buR n A)
  | 0, _, h => h
  | n + 1, _, h => buS_WL (buR_WL n h)
theorem hsA1_WL {dr : Bool} {A : St} (h : WL A) : WL (hsA1 dr A) := by
  unfold hsA1; split
  · exact WL_seed h (drA_lt _)
  · exact h
theorem hsA1_f {dr : Bool} {A : St} {f k : Nat} (h12 : ¬ (f = 12 ∧ k = 4)) : hsA1 dr A f k = A f k := by
  unfold hsA1; split
  · exact if_neg (fun q => h12 ⟨q.1, q.2⟩)
  · rfl
theorem hsV_le {dr : Bool} {A : St} (h : WL A) : hsV dr A ≤ 99 := by
  unfold hsV; split
  · have : drA (A 12 4) / 65536 % 30 < 30 := Nat.mod_lt _ (by omega)
    omega
  · unfold harvA; split
    · omega
    · exact h.2.2.2.2.2.2.1 _ (Nat.mod_lt _ (by omega))
theorem hsS_f {dr : Bool} {n : Nat} {s : Ys} {f k : Nat} (hf : 6 < f) (h8 : f ≠ 8) (h12 : ¬ (f = 12 ∧ (k = 0 ∨ k = 4))) : (hsS dr n s).1 f k = s.1 f k := by
  unfold hsS; dsimp only
  rw [eatA_f hf h8 (by omega), hsA1_f (by omega)]
theorem hsR_f {dr : Bool} {f k : Nat} (hf : 6 < f) (h8 : f ≠ 8) (h12 : ¬ (f = 12 ∧ (k = 0 ∨ k = 4))) : ∀ (n : Nat) (s : Ys), (hsR dr n s).1 f k = s.1 f k
  | 0, _ => rfl
  | n + 1, s => by rw [hsR, hsS_f hf h8 h12, hsR_f hf h8 h12 n s]
theorem hsR_WL {dr : Bool} : ∀ (n : Nat) {s : Ys}, WL s.1 → n ≤ s.1 12 5 → s.1 12 1 < 2 ^ 19 → WL (hsR dr n s).1
  | 0, _, h, _, _ => h
  | n + 1, s, h, hn, hy => by
    have ih := hsR_WL (dr := dr) n h (by omega) hy
    rw [hsR]
    unfold hsS; dsimp only
    refine eatA_WL (hsA1_WL ih) ?_ ?_
    · rw [hsA1_f (by omega), hsR_f (by omega) (by omega) (by omega)]; omega
    · rw [hsA1_f (by omega), hsR_f (by omega) (by omega) (by omega)]; exact hy
theorem yrB_WL {dr : Bool} {A : St} (h : WL A) : WL (yrB dr A) := by
  unfold yrB; split
  · exact buR_WL _ h
  · exact h
theorem yrB_f {dr : Bool} {A : St} {f k : Nat} (h6 : f ≠ 6) (h12 : ¬ (f = 12 ∧ k = 4)) : yrB dr A f k = A f k := by
  unfold yrB; split
  · exact buR_f h6 h12 _ _
  · rfl
theorem yrS_f {dr : Bool} {s : Ys} {f k : Nat} (hf : 6 < f) (h8 : f ≠ 8) (h12 : ¬ (f = 12 ∧ (k = 0 ∨ k = 1 ∨ k = 4))) : (yrS dr s).1 f k = s.1 f k := by
  unfold yrS; dsimp only
  rw [show ∀ B : St, ∀ v, stu B 12 1 v f k = B f k from fun B v => if_neg (fun q => by omega), hsR_f hf h8 (by omega)]
  dsimp only; rw [yrB_f (by omega) (by omega)]
theorem yrR_f {dr : Bool} {f k : Nat} (hf : 6 < f) (h8 : f ≠ 8) (h12 : ¬ (f = 12 ∧ (k = 0 ∨ k = 1 ∨ k = 4))) : ∀ (n : Nat) (s : Ys), (yrR dr n s).1 f k = s.1 f k
  | 0, _ => rfl
  | n + 1, s => by rw [yrR, yrS_f hf h8 h12, yrR_f hf h8 h12 n s]
theorem yrS_y {dr : Bool} {s : Ys} : (yrS dr s).1 12 1 = s.1 12 1 + 1 := by unfold yrS; dsimp only; rw [stu_s]
theorem yrR_y {dr : Bool} : ∀ (n : Nat) (s : Ys), (yrR dr n s).1 12 1 = s.1 12 1 + n
  | 0, _ => rfl
  | n + 1, s => by rw [yrR, yrS_y, yrR_y n s, Nat.add_assoc]
theorem yrS_WL {dr : Bool} {s : Ys} (h : WL s.1) (hy : s.1 12 1 < 2 ^ 19) : WL (yrS dr s).1 := by
  unfold yrS; dsimp only
  have h1 : WL (hsR dr (s.1 12 5) (yrB dr s.1, s.2)).1 := hsR_WL _ (yrB_WL h) (by dsimp only; rw [yrB_f (by omega) (by omega)]; omega) (by dsimp only; rw [yrB_f (by omega) (by omega)]; exact hy)
  refine WL_year h1 ?_ (by omega)
  rw [hsR_f (by omega) (by omega) (by omega)]; dsimp only; rw [yrB_f (by omega) (by omega)]; omega
theorem yrR_WL {dr : Bool} : ∀ (n : Nat) {s : Ys}, WL s.1 → s.1 12 1 + n < 2 ^ 19 → WL (yrR dr n s).1
  | 0, _, h, _ => h
  | n + 1, s, h, hy => by
    rw [yrR]
    exact yrS_WL (yrR_WL n h (by omega)) (by rw [yrR_y]; omega)
theorem hsR_le {dr : Bool} {B : Nat} : ∀ (n : Nat) {s : Ys}, WL s.1 → n ≤ s.1 12 5 → (∀ i, s.2 i ≤ B) → ∀ i, (hsR dr n s).2 i ≤ B + 99 ∧ (n ≤ i → (hsR dr n s).2 i ≤ B)
  | 0, s, _, _, hB, i => ⟨by have := hB i; show s.2 i ≤ _; omega, fun _ => hB i⟩
  | n + 1, s, h, hn, hB, i => by
    have ih := hsR_le (dr := dr) n h (by omega) hB
    rw [hsR]
    unfold hsS; dsimp only
    by_cases q : i = n
    · subst q
      rw [if_pos rfl]
      have h1 := (ih i).2 (Nat.le_refl _)
      have h2 : (eatA (hsA1 dr (hsR dr i s).1) i (hsV dr (hsR dr i s).1)).2 ≤ 99 := by
        refine Nat.le_trans eatA_le ?_
        rw [hsA1_f (by omega), hsR_f (by omega) (by omega) (by omega)]
        exact (h.2.2.2.2.2.1 i (by omega)).1
      exact ⟨by omega, fun z => by omega⟩
    · rw [if_neg q]
      exact ⟨(ih i).1, fun z => (ih i).2 (by omega)⟩
theorem yrR_le {dr : Bool} : ∀ (n : Nat) {s : Ys}, WL s.1 → s.1 12 1 + n < 2 ^ 19 → (∀ i, s.2 i = 0) → ∀ i, (yrR dr n s).2 i ≤ 99 * n
  | 0, s, _, _, h0, i => by show s.2 i ≤ _; rw [h0]; omega
  | n + 1, s, h, hy, h0, i => by
    have ih := yrR_le (dr := dr) n h (by omega) h0
    have hw := yrR_WL (dr := dr) n h (by omega)
    rw [yrR]
    unfold yrS; dsimp only
    have := (hsR_le (dr := dr) (B := 99 * n) ((yrR dr n s).1 12 5) (s := (yrB dr (yrR dr n s).1, (yrR dr n s).2)) (yrB_WL hw) (by dsimp only; rw [yrB_f (by omega) (by omega)]; omega) ih i).1
    omega
end
section
/-! Land.burstJars, Land.passYears -/
theorem buS_no {A : St} {k : Nat} (h : ¬ buC A k = true) : buS A k = A := if_neg h
set_option maxRecDepth 100000 in
set_option maxHeartbeats 2000000 in
theorem s_burst {σ : Sg} {A : St} {L : Nat} {Q : Option Value → Sg → Prop} (hb : L = 1 ∨ L = 14) (hR : RLd L σ A) (hW : WL A)
    (h : ∀ σ', RLd L σ' (buR (A 12 0) A) → (∀ c, c ≠ L → c ≠ L + 6 → σ' c = σ c) → (∀ k, k ≠ 10 → σ' L k = σ L k) → Q none σ') : MetA mX4_burstJars [.ref L] σ Q := by
  refine MetA_of qX4_burstJars (Nat.le_of_ble_eq_true rfl) ?_
  have loop : ∀ n i σi, i + n = A 12 0 → RLd L σi (buR i A) → (∀ c, c ≠ L → c ≠ L + 6 → σi c = σ c) → (∀ k, k ≠ 10 → σi L k = σ L k) → V mX4_burstJars 2 [(0, .ref L), (1, .int (nI i))] [] σi Q := by
    intro n
    induction n with
    | zero =>
      intro i σi hi hRi hf hk
      have hi : i = A 12 0 := by omega
      subst hi
      have hWi := buR_WL (A 12 0) hW
      have h24 := hW.1.1
      have e0 : buR (A 12 0) A 12 0 = A 12 0 := buR_f (by omega) (by omega) _ _
      have h0 := hRi.1.1
      rw [e0] at h0
      refine wpB_sd (stops := [2]) kX4_burstJars 20 _ _ _ _ ?_
      rcases hb with rfl | rfl <;>
      · refine br_t (by rw [h0]; exact nI_le (by omega) (by omega)) ?_
        exact h _ hRi hf hk
    | succ n ih =>
      intro i σi hi hRi hf hk
      have hWi := buR_WL i hW
      have h24 := hW.1.1
      have e0 : buR i A 12 0 = A 12 0 := buR_f (by omega) (by omega) _ _
      have e1 : buR i A 12 1 = A 12 1 := buR_f (by omega) (by omega) _ _
      have hj : i < buR i A 12 0 := by omega
      have h0 := hRi.1.1
      rw [e0] at h0
      have hin : nI i + 1 = nI (i + 1) := nI_1 i
      have ihn : ∀ σ2, RLd L σ2 (buS (buR i A) i) → (∀ c, c ≠ L → c ≠ L + 6 → σ2 c = σ c) → (∀ k, k ≠ 10 → σ2 L k = σ L k) → V mX4_burstJars 2 [(0, .ref L), (1, .int (nI i + 1))] [] σ2 Q := by
        intro σ2 a b c
        rw [hin]
        exact ih (i + 1) σ2 (by omega) a b c
      obtain ⟨w0, w1, w2, w3, w4, w5, w6⟩ := hWi.1.2.2 i hj
      have hgl := gone_lt hWi.1
      have hy := hWi.1.2.1
      have hyr := hRi.2.2.2.1
      obtain ⟨r0, r1, r2, r3, r4, r5⟩ := hRi.1.2.2 i hj
      have c66 : ∀ cb : Int32, (cb = 1 → buC (buR i A) i = true) → (cb = 0 → ¬ buC (buR i A) i = true) → (cb = 0 ∨ cb = 1) → V mX4_burstJars 66 [(0, .ref L), (1, .int (nI i))] [.int cb] σi Q := by
        intro cb hc1 hc0 hor
        have hcut : ∀ σ2, RLd L σ2 (stu (buR i A) 12 4 (drA (buR i A 12 4))) → (∀ c, c ≠ L → σ2 c = σi c) → (∀ k, k ≠ 10 → σ2 L k = σi L k) → RLd L (sgu σ2 (L + 6) 7 (σ2 (L + 6) 7 ||| (1 <<< (nI i &&& 31)))) (stu (stu (buR i A) 12 4 (drA (buR i A 12 4))) 6 i 1) := by
          intro σ2 hR2 hc2 hk2
          have e : σ2 (L + 6) 7 ||| (1 <<< (nI i &&& 31)) = nI (bset (stu (buR i A) 12 4 (drA (buR i A 12 4)) 6) (stu (buR i A) 12 4 (drA (buR i A 12 4)) 12 0) ||| 2 ^ i) := by
            rw [hR2.1.2.1, one_shl (by omega), fa_or]
          rw [e]
          refine RLd_g hR2 (RCel_take hR2.1 ?_) (fun c hc => sgu_c hc)
          rw [show stu (buR i A) 12 4 (drA (buR i A 12 4)) 12 0 = buR i A 12 0 from stu_k (by omega)]
          exact hj
        refine wpB_sd (stops := [2]) kX4_burstJars 60 _ _ _ _ ?_
        refine ⟨fun g => ?_, fun g => ?_⟩
        · refine V.take 2 ?_
          have := ihn σi (by rw [buS_no (hc0 g)]; exact hRi) hf hk
          exact this
        · have hc := hc1 (by rcases hor with q | q; exact absurd q g; exact q)
          have eS : buS (buR i A) i = if drA (buR i A 12 4) / 65536 % 10 = 0 then stu (stu (buR i A) 12 4 (drA (buR i A 12 4))) 6 i 1 else stu (buR i A) 12 4 (drA (buR i A 12 4)) := by rw [buS, if_pos hc]
          have hmod : drA (buR i A 12 4) / 65536 % 10 < 10 := Nat.mod_lt _ (by omega)
          rcases hb with rfl | rfl <;>
          · refine mAr (by rfl) (s_drawOf (n := 10) (by first | exact Or.inl rfl | exact Or.inr rfl) hRi hWi (by omega) (by omega) (fun σ2 hR2 hc2 hk2 => ?_))
            have hcut := hcut σ2 hR2 hc2 hk2
            refine ⟨fun g2 => ?_, fun g2 => ?_⟩
            · refine V.take 2 ?_
              have g2 : ¬ drA (buR i A 12 4) / 65536 % 10 = 0 := fun q => g2 (by rw [q]; rfl)
              rw [eS, if_neg g2] at ihn
              exact ihn σ2 hR2 (fun c a b => by rw [hc2 c a]; exact hf c a b) (fun k a => by rw [hk2 k a]; exact hk k a)
            · refine V.take 2 ?_
              have g2 : drA (buR i A 12 4) / 65536 % 10 = 0 := (nI_eq (b := 0) (by omega) (by omega)).mp g2
              rw [eS, if_pos g2] at ihn
              exact ihn _ hcut (fun c a b => by rw [sgu_c b, hc2 c a]; exact hf c a b) (fun k a => by rw [sgu_c (by omega), hk2 k a]; exact hk k a)
      refine wpB_sd (stops := [66]) kX4_burstJars 60 _ _ _ _ ?_
      rcases hb with rfl | rfl <;>
      · refine br_f (by rw [h0]; exact nI_ge (by omega) (by omega)) ?_
        refine s_isGone (by first | exact Or.inl rfl | exact Or.inr rfl) hRi.1 hWi.1 hj ?_
        refine ⟨fun g => ?_, fun g => ?_⟩
        · have g : buR i A 6 i = 1 := by
            by_cases q : buR i A 6 i = 1
            · exact q
            · exact absurd (bI_f q) g
          exact V.take 2 (c66 0 (fun q => absurd q (by decide)) (fun _ => by simp [buC, g]) (Or.inl rfl))
        · have g : ¬ buR i A 6 i = 1 := bI_0.mp g
          refine ⟨aok (n := 24) rfl rfl (by omega), nm_r (rdn (by omega) r0) ?_⟩
          refine ⟨fun g2 => ?_, fun g2 => ?_⟩
          · have g2 : buR i A 0 i = 2 := (nI_eq (b := 2) (by omega) (by omega)).mp g2
            exact V.take 2 (c66 0 (fun q => absurd q (by decide)) (fun _ => by simp [buC, g2]) (Or.inl rfl))
          · have g2 : ¬ buR i A 0 i = 2 := fun q => g2 (by rw [q]; rfl)
            refine mAr (by rw [hyr]) (s_ageOf (by first | exact Or.inl rfl | exact Or.inr rfl) hRi.1 hWi.1 hj (Nat.le_refl _) ?_)
            refine ⟨aok (n := 24) rfl rfl (by omega), nm_r (rdn (by omega) r4) ?_⟩
            refine ⟨fun g3 => ?_, fun g3 => ?_⟩
            · have g3 := (nI_leI (by omega) (by omega)).mp g3
              exact V.take 2 (c66 0 (fun q => absurd q (by decide)) (fun _ => by simp only [buC, decide_eq_true_eq]; omega) (Or.inl rfl))
            · have g3 : ¬ buR i A 12 1 - buR i A 5 i ≤ buR i A 4 i := fun q => g3 (nI_le q (by omega))
              exact V.take 2 (c66 1 (fun _ => by simp only [buC, decide_eq_true_eq]; omega) (fun q => absurd q (by decide)) (Or.inr rfl))
  refine wpB_sd (stops := [2]) kX4_burstJars 20 _ _ _ _ ?_
  exact loop (A 12 0) 0 σ (by omega) hR (fun _ _ _ => rfl) (fun _ _ => rfl)
theorem RLd_year {L : Nat} {σ : Sg} {A : St} {v : Nat} (h : RLd L σ A) : RLd L (sgu σ L 7 (nI v)) (stu A 12 1 v) := by
  obtain ⟨h1, h2, h3, h4, h5, h6, h7, h8⟩ := h
  refine ⟨RCel.fr (σ := σ) ?_ (fun c a b => sgu_c (by omega)), ?_, ?_, ?_, ?_, ?_, ?_, ?_⟩
  · exact h1
  · rw [sgu_k (by omega)]; exact h2
  · rw [sgu_k (by omega)]; exact h3
  · rw [sgu_s, stu_s]
  · rw [sgu_k (by omega)]; exact h5
  · rw [sgu_k (by omega)]; exact h6
  · intro k hk
    rw [sgu_c (by omega), sgu_c (by omega), sgu_c (by omega)]; exact h7 k hk
  · intro k hk
    rw [sgu_c (by omega)]; exact h8 k hk
/-- the sum grows by what one house misses -/
theorem sm_hs {dr : Bool} {n N : Nat} {s : Ys} (hn : n < N) : fb_sm (hsS dr n s).2 N = fb_sm s.2 N + (eatA (hsA1 dr s.1) n (hsV dr s.1)).2 := by
  unfold hsS; dsimp only
  have := fb_sm_upd s.2 (s.2 n + (eatA (hsA1 dr s.1) n (hsV dr s.1)).2) hn
  omega
theorem sm_le {f : Nat → Nat} {B : Nat} (h : ∀ i, f i ≤ B) : ∀ n, fb_sm f n ≤ n * B
  | 0 => by simp [fb_sm]
  | n + 1 => by have := sm_le h n; have := h n; rw [fb_sm, Nat.succ_mul]; omega
def FrL (L : Nat) (σ σ' : Sg) : Prop := ∀ c, ¬ (L ≤ c ∧ c ≤ L + 12) → σ' c = σ c
def hgA (hg t : Nat) : Nat := if 999999999 < hg + t then 999999999 else hg + t
theorem hsV_t {A : St} : hsV true A = drA (A 12 4) / 65536 % 30 := by unfold hsV; rw [if_pos rfl]
theorem hsV_ff {A : St} : hsV false A = harvA A (A 12 1) := by unfold hsV; rw [if_neg (by decide)]
theorem hsA1_t {A : St} : hsA1 true A = stu A 12 4 (drA (A 12 4)) := by unfold hsA1; rw [if_pos rfl]
theorem hsA1_ff {A : St} : hsA1 false A = A := by unfold hsA1; rw [if_neg (by decide)]
theorem yrB_t {A : St} : yrB true A = buR (A 12 0) A := by unfold yrB; rw [if_pos rfl]
theorem yrB_ff {A : St} : yrB false A = A := by unfold yrB; rw [if_neg (by decide)]
theorem capI {a : Nat} (h : a < 2 ^ 31) : (if (999999999 : Int32) < nI a then 999999999 else nI a) = nI (if 999999999 < a then 999999999 else a) := by
  rw [fa_lit 999999999]
  by_cases q : 999999999 < a
  · rw [if_pos q, if_pos (nI_lt q h)]
  · rw [if_neg q, if_neg (nI_nlt (by omega) (by omega))]
theorem RLd_h {L : Nat} {σ : Sg} {A : St} {v : Int32} (h : RLd L σ A) : RLd L (sgu σ L 8 v) A := by
  obtain ⟨h1, h2, h3, h4, h5, h6, h7, h8⟩ := h
  refine ⟨RCel.fr (σ := σ) h1 (fun c a b => sgu_c (by omega)), ?_, ?_, ?_, ?_, ?_, ?_, ?_⟩
  · rw [sgu_k (by omega)]; exact h2
  · rw [sgu_k (by omega)]; exact h3
  · rw [sgu_k (by omega)]; exact h4
  · rw [sgu_k (by omega)]; exact h5
  · rw [sgu_k (by omega)]; exact h6
  · intro k hk
    rw [sgu_c (by omega), sgu_c (by omega), sgu_c (by omega)]; exact h7 k hk
  · intro k hk
    rw [sgu_c (by omega)]; exact h8 k hk
set_option maxRecDepth 100000 in
set_option maxHeartbeats 4000000 in
theorem s_pass {σ : Sg} {A : St} {L n hg : Nat} {dr : Bool} {Q : Option Value → Sg → Prop} (hb : L = 1 ∨ L = 14) (hR : RLd L σ A) (hW : WL A) (hn : n ≤ 99) (hy : A 12 1 + n < 2 ^ 19) (hhg : σ L 8 = nI hg) (hg9 : hg ≤ 999999999)
    (h : ∀ σ', RLd L σ' (yrR dr n (A, fun _ => 0)).1 → (∀ k, k < A 12 5 → σ' (L + 4) k = nI ((yrR dr n (A, fun _ => 0)).2 k)) → σ' L 8 = nI (hgA hg (fb_sm (yrR dr n (A, fun _ => 0)).2 (A 12 5))) → FrL L σ σ' → Q (some (.int (nI (fb_sm (yrR dr n (A, fun _ => 0)).2 (A 12 5))))) σ') : MetA mX4_passYears [.ref L, .int (nI n), .int (bI (dr = true))] σ Q := by
  refine MetA_of qX4_passYears (Nat.le_of_ble_eq_true rfl) ?_
  have h4 := hW.2.1
  -- the sums
  have hsum : ∀ k, k ≤ n → fb_sm (yrR dr k (A, fun _ => 0)).2 (A 12 5) ≤ 4 * (99 * 99) := by
    intro k hk
    have h1 := yrR_le (dr := dr) k (s := (A, fun _ => 0)) hW (by dsimp only; omega) (fun _ => rfl)
    have h2 := sm_le (B := 99 * 99) (fun i => Nat.le_trans (h1 i) (by omega)) (A 12 5)
    have : A 12 5 * (99 * 99) ≤ 4 * (99 * 99) := Nat.mul_le_mul_right _ h4
    omega
  -- the end
  have r122 : ∀ σ', RLd L σ' (yrR dr n (A, fun _ => 0)).1 → (∀ k, k < A 12 5 → σ' (L + 4) k = nI ((yrR dr n (A, fun _ => 0)).2 k)) → σ' L 8 = nI hg → FrL L σ σ' → V mX4_passYears 122 [(0, .ref L), (1, .int (nI n)), (2, .int (bI (dr = true))), (3, .int (nI (fb_sm (yrR dr n (A, fun _ => 0)).2 (A 12 5))))] [] σ' Q := by
    intro σ' hR' hm' hg' hF
    have hs := hsum n (Nat.le_refl _)
    have e : (if (999999999 : Int32) < σ' L 8 + nI (fb_sm (yrR dr n (A, fun _ => 0)).2 (A 12 5)) then 999999999 else σ' L 8 + nI (fb_sm (yrR dr n (A, fun _ => 0)).2 (A 12 5))) = nI (hgA hg (fb_sm (yrR dr n (A, fun _ => 0)).2 (A 12 5))) := by
      rw [hg', nI_add, hgA, capI (by omega)]
    have fin : ∀ v, v = nI (hgA hg (fb_sm (yrR dr n (A, fun _ => 0)).2 (A 12 5))) → Q (some (.int (nI (fb_sm (yrR dr n (A, fun _ => 0)).2 (A 12 5))))) (sgu σ' L 8 v) := by
      intro v hv
      subst hv
      exact h _ (RLd_h hR') (fun k hk => by rw [sgu_c (by omega)]; exact hm' k hk) sgu_s (fun c hc => by rw [sgu_c (by omega)]; exact hF c hc)
    refine wpB_sd (stops := []) kX4_passYears 20 _ _ _ _ ?_
    rcases hb with rfl | rfl <;>
    · exact fin _ e
  -- the houses of a year
  have r45 : ∀ (k : Nat), k < n → ∀ (m hh : Nat) (σ' : Sg) (s0 : Ys), s0 = (yrB dr (yrR dr k (A, fun _ => 0)).1, (yrR dr k (A, fun _ => 0)).2) → hh + m = A 12 5 → RLd L σ' (hsR dr hh s0).1 → (∀ i, i < A 12 5 → σ' (L + 4) i = nI ((hsR dr hh s0).2 i)) → σ' L 8 = nI hg → FrL L σ σ' →
      (∀ σ'', RLd L σ'' (hsR dr (A 12 5) s0).1 → (∀ i, i < A 12 5 → σ'' (L + 4) i = nI ((hsR dr (A 12 5) s0).2 i)) → σ'' L 8 = nI hg → FrL L σ σ'' → V mX4_passYears 106 [(0, .ref L), (1, .int (nI n)), (2, .int (bI (dr = true))), (3, .int (nI (fb_sm (hsR dr (A 12 5) s0).2 (A 12 5)))), (4, .int (nI k))] [] σ'' Q) →
      V mX4_passYears 45 [(0, .ref L), (1, .int (nI n)), (2, .int (bI (dr = true))), (3, .int (nI (fb_sm (hsR dr hh s0).2 (A 12 5)))), (4, .int (nI k)), (5, .int (nI hh))] [] σ' Q := by
    intro k hk m
    have hWk := yrR_WL (dr := dr) k (s := (A, fun _ => 0)) hW (by dsimp only; omega)
    have hyk : (yrR dr k (A, fun _ => 0)).1 12 1 = A 12 1 + k := yrR_y k _
    have h5k : (yrR dr k (A, fun _ => 0)).1 12 5 = A 12 5 := yrR_f (by omega) (by omega) (by omega) k _
    have hlek := yrR_le (dr := dr) k (s := (A, fun _ => 0)) hW (by dsimp only; omega) (fun _ => rfl)
    induction m with
    | zero =>
      intro hh σ' s0 hs0 hi hR' hm' hg' hF hQ
      have e5 : (hsR dr hh s0).1 12 5 = A 12 5 := by rw [hsR_f (by omega) (by omega) (by omega), hs0]; dsimp only; rw [yrB_f (by omega) (by omega), h5k]
      have h0 := hR'.2.1
      rw [e5] at h0
      have hi : hh = A 12 5 := by omega
      subst hi
      refine wpB_sd (stops := [45, 106]) kX4_passYears 20 _ _ _ _ ?_
      rcases hb with rfl | rfl <;>
      · refine br_t (by rw [h0]; exact nI_le (by omega) (by omega)) ?_
        refine V.take 5 ?_
        exact hQ σ' hR' hm' hg' hF
    | succ m ih =>
      intro hh σ' s0 hs0 hi hR' hm' hg' hF hQ
      have hWs : WL s0.1 := by rw [hs0]; exact yrB_WL hWk
      have e5s : s0.1 12 5 = A 12 5 := by rw [hs0]; dsimp only; rw [yrB_f (by omega) (by omega), h5k]
      have eys : s0.1 12 1 = A 12 1 + k := by rw [hs0]; dsimp only; rw [yrB_f (by omega) (by omega), hyk]
      have e5 : (hsR dr hh s0).1 12 5 = A 12 5 := by rw [hsR_f (by omega) (by omega) (by omega), e5s]
      have ey : (hsR dr hh s0).1 12 1 = A 12 1 + k := by rw [hsR_f (by omega) (by omega) (by omega), eys]
      have hWh : WL (hsR dr hh s0).1 := hsR_WL hh hWs (by omega) (by omega)
      have hle := hsR_le (dr := dr) (B := 99 * k) hh (s := s0) hWs (by omega) (by rw [hs0]; exact hlek)
      have hlv := hsV_le (dr := dr) hWh
      have hW1 : WL (hsA1 dr (hsR dr hh s0).1) := hsA1_WL hWh
      have e51 : hsA1 dr (hsR dr hh s0).1 12 5 = A 12 5 := by rw [hsA1_f (by omega), e5]
      have ey1 : hsA1 dr (hsR dr hh s0).1 12 1 = A 12 1 + k := by rw [hsA1_f (by omega), ey]
      have h0 := hR'.2.1
      rw [e5] at h0
      have hyr := hR'.2.2.2.1
      have hsT := sm_hs (dr := dr) (s := hsR dr hh s0) (show hh < A 12 5 by omega)
      have hms := hm' hh (by omega)
      have hw99 : hsA1 dr (hsR dr hh s0).1 9 hh ≤ 99 := (hW1.2.2.2.2.2.1 hh (by omega)).1
      have he := eatA_le (A := hsA1 dr (hsR dr hh s0).1) (hh := hh) (harv := hsV dr (hsR dr hh s0).1)
      have hin : nI hh + 1 = nI (hh + 1) := nI_1 hh
      -- behind feedHouse
      have r81 : ∀ σ2, RLd L σ2 (eatA (hsA1 dr (hsR dr hh s0).1) hh (hsV dr (hsR dr hh s0).1)).1 → (∀ i, i < A 12 5 → σ2 (L + 4) i = σ' (L + 4) i) → σ2 L 8 = nI hg → FrL L σ σ2 → V mX4_passYears 81 [(0, .ref L), (1, .int (nI n)), (2, .int (bI (dr = true))), (3, .int (nI (fb_sm (hsR dr hh s0).2 (A 12 5)))), (4, .int (nI k)), (5, .int (nI hh))] [.int (nI (eatA (hsA1 dr (hsR dr hh s0).1) hh (hsV dr (hsR dr hh s0).1)).2)] σ2 Q := by
        intro σ2 hR2 hm2 hg2 hF2
        have hv2 : σ2 (L + 4) hh = nI ((hsR dr hh s0).2 hh) := by rw [hm2 hh (by omega), hms]
        have nxt := ih (hh + 1) (sgu σ2 (L + 4) hh (nI ((hsR dr hh s0).2 hh) + nI (eatA (hsA1 dr (hsR dr hh s0).1) hh (hsV dr (hsR dr hh s0).1)).2)) s0 hs0 (by omega) (by
          rw [hsR]
          exact RLd.fr (σ := σ2) hR2 (fun c a b d => sgu_c d)) (fun i hi2 => by
          rw [hsR]
          unfold hsS; dsimp only
          by_cases q : i = hh
          · subst q; rw [if_pos rfl, sgu_s, nI_add]
          · rw [if_neg q, sgu_k q, hm2 i hi2, hm' i hi2]) (by rw [sgu_c (by omega)]; exact hg2) (fun c hc => by rw [sgu_c (by omega)]; exact hF2 c hc) hQ
        rw [hsR, hsT, ← nI_add, ← hin] at nxt
        refine wpB_sd (stops := [45]) kX4_passYears 40 _ _ _ _ ?_
        rcases hb with rfl | rfl <;>
        · refine ⟨aok (n := 4) rfl rfl (by omega), nm_r (rdn (by omega) hv2) ?_⟩
          refine ast (n := 4) (j := hh) rfl rfl (by omega) ?_
          refine V.take 6 ?_
          exact nxt
      have frE : ∀ σ1 σ2, FrE L σ1 σ2 → (∀ c, c ≠ L → σ1 c = σ' c) → (∀ k, k ≠ 10 → σ1 L k = σ' L k) → ((∀ i, i < A 12 5 → σ2 (L + 4) i = σ' (L + 4) i) ∧ σ2 L 8 = nI hg ∧ FrL L σ σ2) := by
        intro σ1 σ2 hE hc hk
        refine ⟨fun i _ => ?_, ?_, fun c hc2 => ?_⟩
        · rw [hE (L + 4) (by omega) (by omega), hc (L + 4) (by omega)]
        · rw [hE L (by omega) (by omega), hk 8 (by omega)]; exact hg'
        · rw [hE c (by omega) (by omega), hc c (by omega)]; exact hF c hc2
      refine wpB_sd (stops := [81]) kX4_passYears 40 _ _ _ _ ?_
      cases dr with
      | true =>
        have c1 : ¬ bI (true = true) = 0 := by decide
        rcases hb with rfl | rfl <;>
        · refine br_f (by rw [h0]; exact nI_ge (by omega) (by omega)) ?_
          refine br_f c1 ?_
          refine mAr (by rfl) (s_drawOf (n := 30) (by first | exact Or.inl rfl | exact Or.inr rfl) hR' hWh (by omega) (by omega) (fun σ1 hR1 hc1 hk1 => ?_))
          rw [← hsA1_t] at hR1
          refine mAr (by rw [hsV_t]) (s_feed (A := hsA1 true (hsR true hh s0).1) (hh := hh) (harv := hsV true (hsR true hh s0).1) (by first | exact Or.inl rfl | exact Or.inr rfl) hR1 hW1 (by omega) hlv (by omega) (fun σ2 hR2 hE2 => ?_))
          obtain ⟨a1, a2, a3⟩ := frE σ1 σ2 hE2 hc1 hk1
          exact r81 σ2 hR2 a1 a2 a3
      | false =>
        have c1 : bI (false = true) = 0 := by decide
        rcases hb with rfl | rfl <;>
        · refine br_f (by rw [h0]; exact nI_ge (by omega) (by omega)) ?_
          refine br_t c1 ?_
          refine mAr (by rw [hyr]) (s_harvestOf (t := (hsR false hh s0).1 12 1) (by first | exact Or.inl rfl | exact Or.inr rfl) hR' hWh (by omega) ?_)
          have hRf := hR'
          rw [← hsA1_ff (A := (hsR false hh s0).1)] at hRf
          refine mAr (by rw [hsV_ff]) (s_feed (A := hsA1 false (hsR false hh s0).1) (hh := hh) (harv := hsV false (hsR false hh s0).1) (by first | exact Or.inl rfl | exact Or.inr rfl) hRf hW1 (by omega) hlv (by omega) (fun σ2 hR2 hE2 => ?_))
          obtain ⟨a1, a2, a3⟩ := frE σ' σ2 hE2 (fun _ _ => rfl) (fun _ _ => rfl)
          exact r81 σ2 hR2 a1 a2 a3
  -- the years
  have r28 : ∀ (m k : Nat) (σ' : Sg), k + m = n → RLd L σ' (yrR dr k (A, fun _ => 0)).1 → (∀ i, i < A 12 5 → σ' (L + 4) i = nI ((yrR dr k (A, fun _ => 0)).2 i)) → σ' L 8 = nI hg → FrL L σ σ' → V mX4_passYears 28 [(0, .ref L), (1, .int (nI n)), (2, .int (bI (dr = true))), (3, .int (nI (fb_sm (yrR dr k (A, fun _ => 0)).2 (A 12 5)))), (4, .int (nI k))] [] σ' Q := by
    intro m
    induction m with
    | zero =>
      intro k σ' hi hR' hm' hg' hF
      have hi : k = n := by omega
      subst hi
      refine wpB_sd (stops := [122]) kX4_passYears 20 _ _ _ _ ?_
      refine br_t (nI_le (by omega) (by omega)) ?_
      refine V.take 4 ?_
      exact r122 σ' hR' hm' hg' hF
    | succ m ih =>
      intro k σ' hi hR' hm' hg' hF
      have hWk := yrR_WL (dr := dr) k (s := (A, fun _ => 0)) hW (by dsimp only; omega)
      have h5k : (yrR dr k (A, fun _ => 0)).1 12 5 = A 12 5 := yrR_f (by omega) (by omega) (by omega) k _
      have hyk : (yrR dr k (A, fun _ => 0)).1 12 1 = A 12 1 + k := yrR_y k _
      -- the end of a year
      have r106 : ∀ σ'', RLd L σ'' (hsR dr (A 12 5) (yrB dr (yrR dr k (A, fun _ => 0)).1, (yrR dr k (A, fun _ => 0)).2)).1 → (∀ i, i < A 12 5 → σ'' (L + 4) i = nI ((hsR dr (A 12 5) (yrB dr (yrR dr k (A, fun _ => 0)).1, (yrR dr k (A, fun _ => 0)).2)).2 i)) → σ'' L 8 = nI hg → FrL L σ σ'' → V mX4_passYears 106 [(0, .ref L), (1, .int (nI n)), (2, .int (bI (dr = true))), (3, .int (nI (fb_sm (hsR dr (A 12 5) (yrB dr (yrR dr k (A, fun _ => 0)).1, (yrR dr k (A, fun _ => 0)).2)).2 (A 12 5)))), (4, .int (nI k))] [] σ'' Q := by
        intro σ'' hR2 hm2 hg2 hF2
        have ey2 : (hsR dr (A 12 5) (yrB dr (yrR dr k (A, fun _ => 0)).1, (yrR dr k (A, fun _ => 0)).2)).1 12 1 = A 12 1 + k := by
          rw [hsR_f (by omega) (by omega) (by omega)]; dsimp only; rw [yrB_f (by omega) (by omega), hyk]
        have hyr := hR2.2.2.2.1
        rw [ey2] at hyr
        have ev : σ'' L 7 + 1 = nI ((yrR dr k (A, fun _ => 0)).1 12 1 + 1) := by rw [hyr, nI_1, hyk]
        have eS : yrR dr (k + 1) (A, fun _ => 0) = (stu (hsR dr (A 12 5) (yrB dr (yrR dr k (A, fun _ => 0)).1, (yrR dr k (A, fun _ => 0)).2)).1 12 1 ((yrR dr k (A, fun _ => 0)).1 12 1 + 1), (hsR dr (A 12 5) (yrB dr (yrR dr k (A, fun _ => 0)).1, (yrR dr k (A, fun _ => 0)).2)).2) := by rw [yrR, yrS, h5k]
        have nxt := ih (k + 1) (sgu σ'' L 7 (σ'' L 7 + 1)) (by omega) (by rw [eS, ev]; exact RLd_year hR2) (fun i hi2 => by rw [eS, sgu_c (by omega)]; exact hm2 i hi2) (by rw [sgu_k (by omega)]; exact hg2) (fun c hc => by rw [sgu_c (by omega)]; exact hF2 c hc)
        rw [eS, ← nI_1 k] at nxt
        refine wpB_sd (stops := [28]) kX4_passYears 40 _ _ _ _ ?_
        rcases hb with rfl | rfl <;> exact nxt
      have go45 : ∀ σ2, RLd L σ2 (yrB dr (yrR dr k (A, fun _ => 0)).1) → (∀ i, i < A 12 5 → σ2 (L + 4) i = nI ((yrR dr k (A, fun _ => 0)).2 i)) → σ2 L 8 = nI hg → FrL L σ σ2 → V mX4_passYears 45 [(0, .ref L), (1, .int (nI n)), (2, .int (bI (dr = true))), (3, .int (nI (fb_sm (yrR dr k (A, fun _ => 0)).2 (A 12 5)))), (4, .int (nI k)), (5, .int (nI 0))] [] σ2 Q := by
        intro σ2 a b c d
        exact r45 k (by omega) (A 12 5) 0 σ2 (yrB dr (yrR dr k (A, fun _ => 0)).1, (yrR dr k (A, fun _ => 0)).2) rfl (by omega) a b c d r106
      refine wpB_sd (stops := [45]) kX4_passYears 40 _ _ _ _ ?_
      cases dr with
      | true =>
        have c1 : ¬ bI (true = true) = 0 := by decide
        refine br_f (nI_ge (by omega) (by omega)) ?_
        refine br_f c1 ?_
        have key : ∀ σ2, RLd L σ2 (buR ((yrR true k (A, fun _ => 0)).1 12 0) (yrR true k (A, fun _ => 0)).1) → (∀ c, c ≠ L → c ≠ L + 6 → σ2 c = σ' c) → (∀ k, k ≠ 10 → σ2 L k = σ' L k) → V mX4_passYears 45 [(0, .ref L), (1, .int (nI n)), (2, .int (bI (true = true))), (3, .int (nI (fb_sm (yrR true k (A, fun _ => 0)).2 (A 12 5)))), (4, .int (nI k)), (5, .int (nI 0))] [] σ2 Q := fun σ2 hR2 hc2 hk2 =>
          go45 σ2 (by rw [yrB_t]; exact hR2) (fun i hi2 => by rw [hc2 (L + 4) (by omega) (by omega)]; exact hm' i hi2) (by rw [hk2 8 (by omega)]; exact hg') (fun c hc => by rw [hc2 c (by omega) (by omega)]; exact hF c hc)
        rcases hb with rfl | rfl <;>
        · refine s_burst (by first | exact Or.inl rfl | exact Or.inr rfl) hR' hWk (fun σ2 hR2 hc2 hk2 => ?_)
          refine V.take 6 ?_
          exact key σ2 hR2 hc2 hk2
      | false =>
        have c1 : bI (false = true) = 0 := by decide
        refine br_f (nI_ge (by omega) (by omega)) ?_
        refine br_t c1 ?_
        refine V.take 6 ?_
        exact go45 σ' (by rw [yrB_ff]; exact hR') hm' hg' hF
  -- the clearing
  have r2 : ∀ (m i : Nat) (σ' : Sg), i + m = A 12 5 → (∀ c, c ≠ L + 4 → σ' c = σ c) → (∀ k, k < i → σ' (L + 4) k = nI 0) → V mX4_passYears 2 [(0, .ref L), (1, .int (nI n)), (2, .int (bI (dr = true))), (3, .int (nI i))] [] σ' Q := by
    intro m
    induction m with
    | zero =>
      intro i σ' hi hc hz
      have hi : i = A 12 5 := by omega
      subst hi
      have h0 : σ' L 0 = nI (A 12 5) := by rw [hc L (by omega)]; exact hR.2.1
      have hz2 : fb_sm (fun _ => 0) (A 12 5) = 0 := by rw [fb_sm_const]; omega
      have nxt := r28 n 0 σ' (by omega) (hR.fr (fun c a b d => hc c d)) hz (by rw [hc L (by omega)]; exact hhg) (fun c hc2 => hc c (by omega))
      rw [show yrR dr 0 (A, fun _ => 0) = (A, fun _ => 0) from rfl] at nxt
      dsimp only at nxt
      rw [hz2] at nxt
      refine wpB_sd (stops := [28]) kX4_passYears 20 _ _ _ _ ?_
      rcases hb with rfl | rfl <;>
      · refine br_t (by rw [h0]; exact nI_le (by omega) (by omega)) ?_
        exact nxt
    | succ m ih =>
      intro i σ' hi hc hz
      have h0 : σ' L 0 = nI (A 12 5) := by rw [hc L (by omega)]; exact hR.2.1
      have nxt := ih (i + 1) (sgu σ' (L + 4) i 0) (by omega) (fun c a => by rw [sgu_c a]; exact hc c a) (fun k hk => by
        by_cases q : k = i
        · subst q; rw [sgu_s]; rfl
        · rw [sgu_k q]; exact hz k (by omega))
      rw [← nI_1] at nxt
      refine wpB_sd (stops := [2]) kX4_passYears 20 _ _ _ _ ?_
      rcases hb with rfl | rfl <;>
      · refine br_f (by rw [h0]; exact nI_ge (by omega) (by omega)) ?_
        refine ast (n := 4) (j := i) rfl rfl (by omega) ?_
        exact nxt
  refine wpB_sd (stops := [2]) kX4_passYears 20 _ _ _ _ ?_
  exact r2 (A 12 5) 0 σ (by omega) (fun _ _ => rfl) (fun k hk => absurd hk (by omega))
end
section
/-! Land: copies, sieges -/
set_option maxRecDepth 100000 in
set_option maxHeartbeats 4000000 in
theorem s_copyL {σ : Sg} {A : St} {d s : Nat} {Q : Option Value → Sg → Prop} (hb : (d = 14 ∧ s = 1) ∨ (d = 1 ∧ s = 14) ∨ (d = 28 ∧ s = 1) ∨ (d = 41 ∧ s = 1) ∨ (d = 1 ∧ s = 28) ∨ (d = 1 ∧ s = 41)) (hR : RLd s σ A) (h5 : A 12 5 ≤ 4) (h6 : A 12 6 ≤ 8) (h0 : A 12 0 ≤ 24) (h : ∀ σ', RLd d σ' A → σ' d 8 = σ s 8 → FrL d σ σ' → Q none σ') : MetA mX4_copyFrom [.ref d, .ref s] σ Q := by
  refine MetA_of qX4_copyFrom (Nat.le_of_ble_eq_true rfl) ?_
  obtain ⟨r1, r2, r3, r4, r5, r6, r7, r8⟩ := hR
  have fin : ∀ σ', RCel (d + 6) σ' A → σ' d 0 = σ s 0 → σ' d 5 = σ s 5 → σ' d 7 = σ s 7 → σ' d 8 = σ s 8 → σ' d 9 = σ s 9 → σ' d 10 = σ s 10 → (∀ k, k < 4 → σ' (d + 1) k = σ (s + 1) k ∧ σ' (d + 2) k = σ (s + 2) k ∧ σ' (d + 3) k = σ (s + 3) k) → (∀ k, k < 8 → σ' (d + 5) k = σ (s + 5) k) → FrL d σ σ' → Q none σ' := by
    intro σ' c0 c1 c2 c3 c4 c5 c6 c7 c8 hF
    refine h σ' ⟨c0, c1.trans r2, c2.trans r3, c3.trans r4, c5.trans r5, c6.trans r6, fun k hk => ?_, fun k hk => ?_⟩ c4 hF
    · have := c7 k (by omega)
      rw [this.1, this.2.1, this.2.2]; exact r7 k hk
    · rw [c8 k (by omega)]; exact r8 k hk
  refine wpB_sd (stops := []) kX4_copyFrom 100 _ _ _ _ ?_
  rcases hb with ⟨rfl, rfl⟩ | ⟨rfl, rfl⟩ | ⟨rfl, rfl⟩ | ⟨rfl, rfl⟩ | ⟨rfl, rfl⟩ | ⟨rfl, rfl⟩ <;>
  · refine ⟨acok (n := 4) rfl rfl, ?_⟩
    refine ⟨acok (n := 4) rfl rfl, ?_⟩
    refine ⟨acok (n := 4) rfl rfl, ?_⟩
    refine ⟨acok (n := 8) rfl rfl, ?_⟩
    refine s_copyC (A := A) (by simp) (RCel.fr r1 (fun c a b => ?_)) h0 (fun σ' hc hf => ?_)
    · repeat rw [sgu_c (by omega)]
      rw [sgc_ne (by omega), sgu_c (by omega)]
      repeat rw [sgc_ne (by omega)]
      rw [sgu_c (by omega)]
    · have e4 : ∀ (f g : Nat → Int32) (j : Nat), j < 4 → va_cpy f g 0 0 4 j = f j := fun f g j hj => by rw [pk_cpy_in (by omega) (by omega)]; simp
      have e8 : ∀ (f g : Nat → Int32) (j : Nat), j < 8 → va_cpy f g 0 0 8 j = f j := fun f g j hj => by rw [pk_cpy_in (by omega) (by omega)]; simp
      refine fin σ' hc ?_ ?_ ?_ ?_ ?_ ?_ (fun k hk => ⟨?_, ?_, ?_⟩) (fun k hk => ?_) (fun c hc2 => ?_)
      · rw [hf _ (by omega)]; simp [sgu_at, sgc]
      · rw [hf _ (by omega)]; simp [sgu_at, sgc]
      · rw [hf _ (by omega)]; simp [sgu_at, sgc]
      · rw [hf _ (by omega)]; simp [sgu_at, sgc]
      · rw [hf _ (by omega)]; simp [sgu_at, sgc]
      · rw [hf _ (by omega)]; simp [sgu_at, sgc]
      · rw [hf _ (by omega)]; simp [sgu_at, sgc, e4 _ _ k hk]
      · rw [hf _ (by omega)]; simp [sgu_at, sgc, e4 _ _ k hk]
      · rw [hf _ (by omega)]; simp [sgu_at, sgc, e4 _ _ k hk]
      · rw [hf _ (by omega)]; simp [sgu_at, sgc, e8 _ _ k hk]
      · rw [hf c (by omega)]
        repeat rw [sgu_c (by omega)]
        rw [sgc_ne (by omega), sgu_c (by omega)]
        repeat rw [sgc_ne (by omega)]
        rw [sgu_c (by omega)]
def besA (A : St) : St := fun f k => if f = 12 ∧ k = 6 then 1 else if f = 10 then 0 else if f = 7 then 0 else A f k
set_option maxRecDepth 100000 in
set_option maxHeartbeats 1000000 in
theorem s_besiege {σ : Sg} {A : St} {Q : Option Value → Sg → Prop} (hR : RLd 14 σ A) (h5 : A 12 5 ≤ 4) (h : ∀ σ', RLd 14 σ' (besA A) → σ' 14 8 = σ 14 8 → FrL 14 σ σ' → Q none σ') : MetA mX4_besiege [.ref 14] σ Q := by
  refine MetA_of qX4_besiege (Nat.le_of_ble_eq_true rfl) ?_
  obtain ⟨r1, r2, r3, r4, r5, r6, r7, r8⟩ := hR
  have loop : ∀ n i σi, i + n = A 12 5 → (∀ c, c ≠ 14 → c ≠ 16 → c ≠ 19 → σi c = σ c) → (∀ k, k ≠ 5 → σi 14 k = σ 14 k) → σi 14 5 = 1 → σi 19 0 = 0 → (∀ k, k < i → σi 16 k = 0) → V mX4_besiege 12 [(0, .ref 14), (1, .int (nI i))] [] σi Q := by
    intro n
    induction n with
    | zero =>
      intro i σi hi c1 c2 c3 c4 c5
      have hi : i = A 12 5 := by omega
      subst hi
      refine wpB_sd (stops := [12]) kX4_besiege 20 _ _ _ _ ?_
      refine br_t (by rw [c2 0 (by omega), r2]; exact nI_le (by omega) (by omega)) ?_
      refine h σi ⟨RCel.fr (σ := σ) ?_ (fun c a b => c1 c (by omega) (by omega) (by omega)), ?_, ?_, ?_, ?_, ?_, fun k hk => ?_, fun k hk => ?_⟩ (c2 8 (by omega)) (fun c hc => c1 c (by omega) (by omega) (by omega))
      · exact r1
      · rw [c2 0 (by omega)]; exact r2
      · rw [c3]; rfl
      · rw [c2 7 (by omega)]; exact r4
      · rw [c2 9 (by omega)]; exact r5
      · rw [c2 10 (by omega)]; exact r6
      · have hk : k < A 12 5 := hk
        have := r7 k hk
        refine ⟨?_, ?_, ?_⟩
        · rw [c1 _ (by omega) (by omega) (by omega)]; exact this.1
        · rw [c5 k hk]; rfl
        · rw [c1 _ (by omega) (by omega) (by omega)]; exact this.2.2
      · have hk : k < 1 := hk
        have : k = 0 := by omega
        subst this
        rw [c4]; rfl
    | succ n ih =>
      intro i σi hi c1 c2 c3 c4 c5
      refine wpB_sd (stops := [12]) kX4_besiege 20 _ _ _ _ ?_
      refine br_f (by rw [c2 0 (by omega), r2]; exact nI_ge (by omega) (by omega)) ?_
      refine ast (n := 4) (j := i) rfl rfl (by omega) ?_
      have := ih (i + 1) (sgu σi 16 i 0) (by omega) (fun c a b d => by rw [sgu_c b]; exact c1 c a b d) (fun k hk => by rw [sgu_c (by omega)]; exact c2 k hk) (by rw [sgu_c (by omega)]; exact c3) (by rw [sgu_c (by omega)]; exact c4) (fun k hk => by
        by_cases q : k = i
        · subst q; rw [sgu_s]
        · rw [sgu_k q]; exact c5 k (by omega))
      rw [← nI_1] at this
      exact this
  refine wpB_sd (stops := [12]) kX4_besiege 20 _ _ _ _ ?_
  refine MetA_of qX4_addHarvest (Nat.le_of_ble_eq_true rfl) ?_
  refine wpB_sd (stops := []) kX4_addHarvest 40 _ _ _ _ ?_
  refine br_t (by rw [sgu_s]; decide) ?_
  refine ast (n := 8) (j := 0) rfl (by rw [sgu_s]; rfl) (by omega) ?_
  refine loop (A 12 5) 0 _ (by omega) (fun c a b d => ?_) (fun k hk => ?_) ?_ ?_ (fun k hk => absurd hk (by omega))
  · rw [sgu_c a, sgu_c d, sgu_c a]
  · rw [sgu_k hk, sgu_c (by omega), sgu_k hk]
  · rw [sgu_s, sgu_c (by omega), sgu_s]; decide
  · rw [sgu_c (by omega)]; exact sgu_s
end
section
/-! the reference: its leaves -/
def RMg (σ : Sg) (A : St) : Prop := σ 89 7 = nI (A 12 5) ∧ (∀ h, h < A 12 5 → σ 93 h = nI (A 9 h)) ∧ (A 12 6 = 0 → σ 89 3 = nI 1 ∧ σ 92 0 = nI 10) ∧ (0 < A 12 6 → σ 89 3 = nI (A 12 6) ∧ ∀ k, k < A 12 6 → σ 92 k = nI (A 10 k))
def RMr (x : Nat) (σ : Sg) (A : St) : Prop := σ 90 (x + 176) = nI (A 12 0) ∧ σ 90 (x + 177) = nI (A 12 1) ∧ σ 90 (x + 179) = nI (A 12 3) ∧ σ 90 (x + 180) = nI (A 12 4) ∧ (∀ j, j < A 12 0 → σ 90 (x + j) = nI (A 0 j) ∧ σ 90 (x + 24 + j) = nI (A 1 j) ∧ σ 90 (x + 48 + j) = nI (A 2 j) ∧ σ 90 (x + 72 + j) = nI (A 3 j) ∧ σ 90 (x + 96 + j) = nI (A 4 j) ∧ σ 90 (x + 120 + j) = nI (A 5 j) ∧ σ 90 (x + 144 + j) = nI (A 6 j)) ∧ ∀ h, h < A 12 5 → σ 90 (x + 168 + h) = nI (A 7 h) ∧ σ 90 (x + 172 + h) = nI (A 8 h)
theorem lg_lt0 {a b : Int64} : lg_cmp a b < 0 ↔ a < b := by
  unfold lg_cmp
  by_cases h : a > b
  · rw [if_pos h]
    constructor
    · intro q; exact absurd q (by decide)
    · intro q; exact absurd h (Int64.not_lt.mpr (Int64.le_of_lt q))
  · rw [if_neg h]
    by_cases e : a = b
    · rw [if_pos e]; subst e
      constructor
      · intro q; exact absurd q (by decide)
      · intro q; exact absurd q (Int64.lt_irrefl)
    · rw [if_neg e]
      constructor
      · intro _
        have := Int64.not_lt.mp h
        exact Int64.lt_of_le_of_ne this e
      · intro _; decide
theorem lg_gt0 {a b : Int64} : 0 < lg_cmp a b ↔ b < a := by
  unfold lg_cmp
  by_cases h : a > b
  · rw [if_pos h]
    exact ⟨fun _ => h, fun _ => by decide⟩
  · rw [if_neg h]
    by_cases e : a = b
    · rw [if_pos e]
      exact ⟨fun q => absurd q (by decide), fun q => absurd q h⟩
    · rw [if_neg e]
      exact ⟨fun q => absurd q (by decide), fun q => absurd q h⟩
theorem m_in {σ : Sg} {v l h : Int64} {Q : Option Value → Sg → Prop} (hQ : Q (some (.int (bI (l ≤ v ∧ v ≤ h)))) σ) : MetA mX8_in [.long v, .long l, .long h] σ Q := by
  refine MetA_of qX8_in (Nat.le_of_ble_eq_true rfl) ?_
  refine wpB_sd (stops := []) kX8_in 30 _ _ _ _ ?_
  refine ⟨fun g => ⟨Or.inl rfl, fin_i hQ (bI_f ?_).symm⟩, fun g => ⟨fun g2 => ⟨Or.inl rfl, fin_i hQ (bI_f ?_).symm⟩, fun g2 => ⟨Or.inr rfl, fin_i hQ (bI_t ?_).symm⟩⟩⟩
  · exact fun q => absurd (lg_lt0.mp g) (Int64.not_lt.mpr q.1)
  · exact fun q => absurd (lg_gt0.mp g2) (Int64.not_lt.mpr q.2)
  · exact ⟨Int64.not_lt.mp (fun q => g (lg_lt0.mpr q)), Int64.not_lt.mp (fun q => g2 (lg_gt0.mpr q))⟩
theorem m_inI {σ : Sg} {a lo hi : Int32} {l h : Int64} {Q : Option Value → Sg → Prop} (hl : l = lo.toInt64) (hh : h = hi.toInt64) (hQ : Q (some (.int (bI (lo ≤ a ∧ a ≤ hi)))) σ) : MetA mX8_in [.long a.toInt64, .long l, .long h] σ Q := by
  refine m_in (fin_i hQ (bI_c ?_))
  rw [hl, hh, fa_wide_le, fa_wide_le]
theorem le_pred {h : Int32} {n : Nat} (hn : n < 2 ^ 31) : h ≤ nI n - 1 ↔ h < nI n := by
  rw [fa_le, fa_lt, fb_subI, nI_toInt hn]
  · have : (1 : Int32).toInt = 1 := by decide
    rw [this]; omega
  · have : (1 : Int32).toInt = 1 := by decide
    rw [this, nI_toInt hn]; omega
  · have : (1 : Int32).toInt = 1 := by decide
    rw [this, nI_toInt hn]; omega
theorem m_isHouse {σ : Sg} {A : St} {h : Int32} {Q : Option Value → Sg → Prop} (hR : RMg σ A) (h5 : A 12 5 ≤ 4) (hQ : Q (some (.int (bI (0 ≤ h ∧ h < nI (A 12 5))))) σ) : MetA mX8_isHouse [.ref 89, .int h] σ Q := by
  refine MetA_of qX8_isHouse (Nat.le_of_ble_eq_true rfl) ?_
  refine wpB_sd (stops := []) kX8_isHouse 30 _ _ _ _ ?_
  refine m_inI (lo := 0) (hi := σ 89 7 - 1) rfl rfl ?_
  refine ⟨bI_or, fin_i hQ (bI_c ?_)⟩
  rw [hR.1, le_pred (by omega)]
set_option maxRecDepth 100000 in
theorem m_isJar {σ : Sg} {A : St} {j : Int32} {Q : Option Value → Sg → Prop} (hR : RMr 0 σ A) (h24 : A 12 0 ≤ 24) (hQ : Q (some (.int (bI (0 ≤ j ∧ j < nI (A 12 0))))) σ) : MetA mX8_isJar [.ref 89, .int j] σ Q := by
  refine MetA_of qX8_isJar (Nat.le_of_ble_eq_true rfl) ?_
  refine wpB_sd (stops := []) kX8_isJar 30 _ _ _ _ ?_
  refine ald (n := 800) (j := 0 + 176) rfl rfl (by omega) hR.1 ?_
  refine m_inI (lo := 0) (hi := nI (A 12 0) - 1) rfl rfl ?_
  refine ⟨bI_or, fin_i hQ (bI_c ?_)⟩
  rw [le_pred (by omega)]
set_option maxRecDepth 100000 in
theorem m_harvestOf {σ : Sg} {A : St} {t : Nat} {Q : Option Value → Sg → Prop} (hR : RMg σ A) (h6 : A 12 6 ≤ 8) (ht : t < 2 ^ 21) (hQ : Q (some (.int (nI (harvA A t)))) σ) : MetA mX8_harvestOf [.ref 89, .int (nI t)] σ Q := by
  refine MetA_of qX8_harvestOf (Nat.le_of_ble_eq_true rfl) ?_
  refine wpB_sd (stops := []) kX8_harvestOf 30 _ _ _ _ ?_
  by_cases h0 : A 12 6 = 0
  · obtain ⟨e1, e2⟩ := hR.2.2.1 h0
    refine ⟨by rw [e1]; decide, ?_⟩
    refine ald (n := 16) (j := t % 1) rfl (by rw [e1]; exact pk_rem (by omega) (by omega) (by omega)) (by omega) (v := nI 10) (by rw [Nat.mod_one]; exact e2) ?_
    refine fin_i hQ ?_
    rw [harvA, if_pos h0]
  · obtain ⟨e1, e2⟩ := hR.2.2.2 (by omega)
    have hlt : t % A 12 6 < A 12 6 := Nat.mod_lt _ (by omega)
    refine ⟨by rw [e1]; exact nI_ne0 (by omega) (by omega), ?_⟩
    refine ald (n := 16) (j := t % A 12 6) rfl (by rw [e1]; exact pk_rem (by omega) (by omega) (by omega)) (by omega) (e2 _ hlt) ?_
    refine fin_i hQ ?_
    rw [harvA, if_neg h0]
set_option maxRecDepth 100000 in
set_option maxHeartbeats 1000000 in
theorem m_filled {σ : Sg} {A : St} {x j y : Nat} {Q : Option Value → Sg → Prop} (hx : x ≤ 600) (hR : RMr x σ A) (hW : WJ A) (hj : j < A 12 0) (hy : A 12 1 ≤ y) (hy2 : y < 2 ^ 21) (hQ : Q (some (.int (nI (filA A j y)))) σ) : MetA mX8_filled [.ref 89, .int (nI x), .int (nI j), .int (nI y)] σ Q := by
  refine MetA_of qX8_filled (Nat.le_of_ble_eq_true rfl) ?_
  refine wpB_sd (stops := [105]) kX8_filled 60 _ _ _ _ ?_
  have hm := hW.1
  obtain ⟨e0, e1, e2, e3, e4, e5, e6⟩ := hR.2.2.2.2.1 j hj
  obtain ⟨w0, w1, w2, w3, w4, w5, w6⟩ := hW.2.2 j hj
  have fin : ∀ lv v, v = nI (filA A j y) → V mX8_filled 105 lv [.int v] σ Q := by
    intro lv v hv
    refine wpB_sd (stops := []) kX8_filled 60 _ _ _ _ ?_
    exact fin_i hQ hv
  refine ald (n := 800) (j := x + 120 + j) rfl (by simp only [fa_lit, nI_add]) (by omega) e5 ?_
  refine ald (n := 800) (j := x + 96 + j) rfl (by simp only [fa_lit, nI_add]) (by omega) e4 ?_
  refine ald (n := 800) (j := x + 72 + j) rfl (by simp only [fa_lit, nI_add]) (by omega) e3 ?_
  refine ald (n := 800) (j := x + j) rfl (by simp only [nI_add]) (by omega) e0 ?_
  refine ⟨fun g => ?_, fun g => ?_⟩
  · have g : ¬ A 0 j = 0 := fun q => g (by rw [q]; rfl)
    refine ald (n := 800) (j := x + j) rfl (by simp only [nI_add]) (by omega) e0 ?_
    refine ⟨fun g2 => ?_, fun g2 => ?_⟩
    · have g2 : ¬ A 0 j = 1 := fun q => g2 (by rw [q]; rfl)
      refine fin _ _ ?_
      rw [filA, if_neg g, if_neg g2]
    · have g2 : A 0 j = 1 := (nI_eq (b := 1) (by omega) (by omega)).mp g2
      refine ⟨fun g3 => ?_, fun g3 => ?_⟩
      · rw [pk_sub (show A 5 j ≤ y by omega)] at g3
        have g3 := (nI_leI (by omega) (by omega)).mp g3
        refine fin _ _ ?_
        rw [filA, if_neg g, if_pos g2, nI_add]
        by_cases q : A 4 j < y - A 5 j
        · rw [if_pos q]
        · rw [if_neg q]; congr 1; omega
      · rw [pk_sub (show A 5 j ≤ y by omega)] at g3
        have g3 : ¬ A 4 j ≤ y - A 5 j := fun q => g3 (nI_le q (by omega))
        refine fin _ _ ?_
        rw [filA, if_neg g, if_pos g2, if_neg (by omega), pk_sub (show A 5 j ≤ y by omega), nI_add]
  · have g : A 0 j = 0 := (nI_eq (b := 0) (by omega) (by omega)).mp g
    refine ⟨fun g3 => ?_, fun g3 => ?_⟩
    · rw [pk_sub (show A 5 j ≤ y by omega)] at g3
      have g3 := (nI_leI (by omega) (by omega)).mp g3
      refine fin _ _ ?_
      rw [filA, if_pos g, if_neg (by omega)]
    · rw [pk_sub (show A 5 j ≤ y by omega)] at g3
      have g3 : ¬ y - A 5 j ≤ A 4 j := fun q => g3 (nI_le q (by omega))
      refine ⟨by decide, fin _ _ ?_⟩
      rw [filA, if_pos g, if_pos (by omega)]
      exact pk_div (d := 2) (by omega) (by omega) (by omega)
set_option maxRecDepth 100000 in
theorem m_mayBe {σ : Sg} {A : St} {x j y : Nat} {Q : Option Value → Sg → Prop} (hx : x ≤ 600) (hR : RMr x σ A) (hW : WJ A) (hl : A 12 3 ≤ 2) (hj : j < A 12 0) (hy2 : y < 2 ^ 21) (hQ : Q (some (.int (bI (mayB (A 12 3) (A 2 j) y = true)))) σ) : MetA mX8_mayBe [.ref 89, .int (nI x), .int (nI j), .int (nI y)] σ Q := by
  refine MetA_of qX8_mayBe (Nat.le_of_ble_eq_true rfl) ?_
  refine wpB_sd (stops := []) kX8_mayBe 60 _ _ _ _ ?_
  have hm := hW.1
  obtain ⟨e0, e1, e2, e3, e4, e5, e6⟩ := hR.2.2.2.2.1 j hj
  obtain ⟨w0, w1, w2, w3, w4, w5, w6⟩ := hW.2.2 j hj
  refine ald (n := 800) (j := x + 179) rfl (by simp only [fa_lit, nI_add]) (by omega) hR.2.2.1 ?_
  refine ⟨fun g => ?_, fun g => ?_⟩
  · have g : A 12 3 = 2 := (nI_eq (b := 2) (by omega) (by omega)).mp g
    refine ⟨Or.inr rfl, fin_i hQ (bI_t ?_).symm⟩
    simp [mayB, g]
  · have g : ¬ A 12 3 = 2 := fun q => g (by rw [q]; rfl)
    refine ⟨fun g2 => ?_, fun g2 => ?_⟩
    · have g2 : ¬ A 12 3 = 0 := fun q => g2 (by rw [q]; rfl)
      have g1 : A 12 3 = 1 := by omega
      refine ald (n := 800) (j := x + 48 + j) rfl (by simp only [fa_lit, nI_add]) (by omega) e2 ?_
      refine ⟨fun g3 => ⟨Or.inl rfl, fin_i hQ (bI_f ?_).symm⟩, fun g3 => ⟨Or.inr rfl, fin_i hQ (bI_t ?_).symm⟩⟩
      · have g3 : ¬ y = A 2 j := fun q => g3 (by rw [q])
        simp [mayB, g1]; omega
      · have g3 := (nI_eq (by omega) (by omega)).mp g3
        simp [mayB, g1]; omega
    · have g2 : A 12 3 = 0 := (nI_eq (b := 0) (by omega) (by omega)).mp g2
      refine ald (n := 800) (j := x + 48 + j) rfl (by simp only [fa_lit, nI_add]) (by omega) e2 ?_
      refine ⟨fun g3 => ⟨Or.inl rfl, fin_i hQ (bI_f ?_).symm⟩, fun g3 => ⟨Or.inr rfl, fin_i hQ (bI_t ?_).symm⟩⟩
      · have g3 := (nI_ltI (by omega) (by omega)).mp g3
        simp [mayB, g2]; omega
      · have g3 : ¬ y < A 2 j := fun q => g3 (nI_lt q (by omega))
        simp [mayB, g2]; omega
set_option maxRecDepth 100000 in
theorem m_may {σ : Sg} {A : St} {x j y : Nat} {Q : Option Value → Sg → Prop} (hx : x ≤ 600) (hR : RMr x σ A) (hW : WJ A) (hl : A 12 3 ≤ 2) (hj : j < A 12 0) (hy2 : y < 2 ^ 21) (hQ : Q (some (.int (bI (A 6 j = 0 ∧ mayB (A 12 3) (A 2 j) y = true)))) σ) : MetA mX8_may [.ref 89, .int (nI x), .int (nI j), .int (nI y)] σ Q := by
  refine MetA_of qX8_may (Nat.le_of_ble_eq_true rfl) ?_
  refine wpB_sd (stops := []) kX8_may 60 _ _ _ _ ?_
  have hm := hW.1
  obtain ⟨e0, e1, e2, e3, e4, e5, e6⟩ := hR.2.2.2.2.1 j hj
  obtain ⟨w0, w1, w2, w3, w4, w5, w6⟩ := hW.2.2 j hj
  refine ald (n := 800) (j := x + 144 + j) rfl (by simp only [fa_lit, nI_add]) (by omega) e6 ?_
  refine ⟨fun g => ⟨Or.inl rfl, fin_i hQ (bI_f ?_).symm⟩, fun g => ?_⟩
  · exact fun q => g (by rw [q.1]; rfl)
  · have g : A 6 j = 0 := (nI_eq (b := 0) (by omega) (by omega)).mp g
    refine m_mayBe hx hR hW hl hj hy2 ?_
    refine ⟨fun g2 => ⟨Or.inl rfl, fin_i hQ (bI_f ?_).symm⟩, fun g2 => ⟨Or.inr rfl, fin_i hQ (bI_t ?_).symm⟩⟩
    · exact fun q => bI_0.mp g2 q.2
    · refine ⟨g, ?_⟩
      by_cases q : mayB (A 12 3) (A 2 j) y = true
      · exact q
      · exact absurd (bI_f q) g2
end
section
/-! the reference: eating -/
def FrW (x : Nat) (σ σ' : Sg) : Prop := (∀ c, c ≠ 90 → σ' c = σ c) ∧ ∀ k, k < x ∨ x + 177 ≤ k → σ' 90 k = σ 90 k
theorem FrW.rf {x : Nat} {σ : Sg} : FrW x σ σ := ⟨fun _ _ => rfl, fun _ _ => rfl⟩
theorem FrW.tr {x : Nat} {σ σ' σ'' : Sg} (h : FrW x σ σ') (h2 : FrW x σ' σ'') : FrW x σ σ'' := ⟨fun c hc => (h2.1 c hc).trans (h.1 c hc), fun k hk => (h2.2 k hk).trans (h.2 k hk)⟩
theorem FrW.put {x k : Nat} {v : Int32} {σ : Sg} (h : x ≤ k) (h2 : k < x + 177) : FrW x σ (sgu σ 90 k v) := ⟨fun c hc => sgu_c hc, fun i hi => sgu_k (by omega)⟩
theorem RMg.fr {σ σ' : Sg} {A : St} (h : RMg σ A) (hf : ∀ c, c = 89 ∨ c = 92 ∨ c = 93 → σ' c = σ c) : RMg σ' A := by
  unfold RMg
  rw [hf 89 (by omega), hf 92 (by omega), hf 93 (by omega)]; exact h
theorem RMg.eq {σ : Sg} {A B : St} (h : RMg σ A) (e5 : B 12 5 = A 12 5) (e6 : B 12 6 = A 12 6) (e9 : ∀ k, B 9 k = A 9 k) (e10 : ∀ k, B 10 k = A 10 k) : RMg σ B := by
  unfold RMg
  simp only [e5, e6, e9, e10]; exact h
set_option maxRecDepth 100000 in
set_option maxHeartbeats 1000000 in
theorem m_firstToOpen {σ : Sg} {A : St} {x hh : Nat} {Q : Option Value → Sg → Prop} (hx : x ≤ 600) (hR : RMr x σ A) (hW : WJ A) (hl : A 12 3 ≤ 2) (hh2 : hh < 4) (hQ : Q (some (.int (optI (ftoA A hh (A 12 3) (A 12 1) (A 12 0))))) σ) : MetA mX8_firstToOpen [.ref 89, .int (nI x), .int (nI hh)] σ Q := by
  refine MetA_of qX8_firstToOpen (Nat.le_of_ble_eq_true rfl) ?_
  have hm := hW.1
  have hy := hW.2.1
  have loop : ∀ n i, i + n = A 12 0 → V mX8_firstToOpen 5 [(0, .ref 89), (1, .int (nI x)), (2, .int (nI hh)), (3, .int (optI (ftoA A hh (A 12 3) (A 12 1) i))), (4, .int (nI i))] [] σ Q := by
    intro n
    induction n with
    | zero =>
      intro i hi
      have hi : i = A 12 0 := by omega
      subst hi
      refine wpB_sd (stops := [5]) kX8_firstToOpen 20 _ _ _ _ ?_
      refine ald (n := 800) (j := x + 176) rfl (by simp only [fa_lit, nI_add]) (by omega) hR.1 ?_
      exact br_t (nI_le (by omega) (by omega)) hQ
    | succ n ih =>
      intro i hi
      have hj : i < A 12 0 := by omega
      have ih := ih (i + 1) (by omega)
      obtain ⟨e0, e1, e2, e3, e4, e5, e6⟩ := hR.2.2.2.2.1 i hj
      obtain ⟨w0, w1, w2, w3, w4, w5, w6⟩ := hW.2.2 i hj
      have hft := ftoA_lt A hh (A 12 3) (A 12 1) i
      rw [← nI_1] at ih
      have no : ¬ (A 1 i = hh ∧ A 6 i = 0 ∧ mayB (A 12 3) (A 2 i) (A 12 1) = true) → V mX8_firstToOpen 61 [(0, .ref 89), (1, .int (nI x)), (2, .int (nI hh)), (3, .int (optI (ftoA A hh (A 12 3) (A 12 1) i))), (4, .int (nI i))] [.int 0] σ Q := by
        intro hc
        rw [ftoA, if_neg hc] at ih
        refine wpB_sd (stops := [5]) kX8_firstToOpen 20 _ _ _ _ ?_
        exact br_t rfl (V.take 5 ih)
      refine wpB_sd (stops := [5, 61]) kX8_firstToOpen 60 _ _ _ _ ?_
      refine ald (n := 800) (j := x + 176) rfl (by simp only [fa_lit, nI_add]) (by omega) hR.1 ?_
      refine br_f (nI_ge hj (by omega)) ?_
      refine ald (n := 800) (j := x + 24 + i) rfl (by simp only [fa_lit, nI_add]) (by omega) e1 ?_
      refine ⟨fun g => ?_, fun g => ?_⟩
      · have g : ¬ A 1 i = hh := fun q => g (by rw [q])
        exact V.take 5 (no (fun q => g q.1))
      · have g := (nI_eq (by omega) (by omega)).mp g
        refine ald (n := 800) (j := x + 177) rfl (by simp only [fa_lit, nI_add]) (by omega) hR.2.1 ?_
        refine m_may hx hR hW hl hj (by omega) ?_
        refine ⟨fun g2 => ?_, fun g2 => ?_⟩
        · exact V.take 5 (no (fun q => bI_0.mp g2 q.2))
        · have g2 : A 6 i = 0 ∧ mayB (A 12 3) (A 2 i) (A 12 1) = true := by
            by_cases q : A 6 i = 0 ∧ mayB (A 12 3) (A 2 i) (A 12 1) = true
            · exact q
            · exact absurd (bI_f q) g2
          rw [ftoA, if_pos ⟨g, g2⟩] at ih
          refine V.take 5 ?_
          refine wpB_sd (stops := [5]) kX8_firstToOpen 60 _ _ _ _ ?_
          refine br_f (by decide) ?_
          cases hf : ftoA A hh (A 12 3) (A 12 1) i with
          | none =>
            rw [hf] at ih
            exact br_t (show (-1 : Int32) < 0 by decide) (V.take 5 ih)
          | some f =>
            rw [hf] at ih hft
            have hfl := (hft f rfl).1
            have hfw := (hW.2.2 f (by omega)).2.2.1
            refine br_f (show ¬ nI f < 0 from nI_pos (by omega)) ?_
            refine ald (n := 800) (j := x + 48 + i) rfl (by simp only [fa_lit, nI_add]) (by omega) e2 ?_
            refine ald (n := 800) (j := x + 48 + f) rfl (by simp only [optI, fa_lit, nI_add]) (by omega) (hR.2.2.2.2.1 f (by omega)).2.2.1 ?_
            dsimp only at ih
            refine ⟨fun q => ?_, fun q => ?_⟩
            · have q := (nI_leI (by omega) (by omega)).mp q
              rw [if_neg (by omega)] at ih
              exact V.take 5 ih
            · have q : ¬ A 2 f ≤ A 2 i := fun z => q (nI_le z (by omega))
              rw [if_pos (by omega)] at ih
              exact V.take 5 ih
  refine wpB_sd (stops := [5]) kX8_firstToOpen 20 _ _ _ _ ?_
  exact loop (A 12 0) 0 (by omega)
set_option maxRecDepth 100000 in
set_option maxHeartbeats 1000000 in
theorem m_add {σ : Sg} {A : St} {x k hh d q kp y : Nat} {Q : Option Value → Sg → Prop} (hx : x ≤ 600) (hR : RMr x σ A) (hn : A 12 0 < 24) (h5 : A 12 5 ≤ 4) (h : ∀ σ', RMr x σ' (addA A k hh d q kp y) → FrW x σ σ' → Q none σ') : MetA mX8_add [.ref 89, .int (nI x), .int (nI k), .int (nI hh), .int (nI d), .int (nI q), .int (nI kp), .int (nI y)] σ Q := by
  refine MetA_of qX8_add (Nat.le_of_ble_eq_true rfl) ?_
  refine wpB_sd (stops := []) kX8_add 100 _ _ _ _ ?_
  refine ald (n := 800) (j := x + 176) rfl (by simp only [fa_lit, nI_add]) (by omega) hR.1 ?_
  refine ast (n := 800) (j := x + A 12 0) rfl (by simp only [nI_add]) (by omega) ?_
  refine ast (n := 800) (j := x + A 12 0 + 24) rfl (by simp only [fa_lit, nI_add]) (by omega) ?_
  refine ast (n := 800) (j := x + A 12 0 + 48) rfl (by simp only [fa_lit, nI_add]) (by omega) ?_
  refine ast (n := 800) (j := x + A 12 0 + 72) rfl (by simp only [fa_lit, nI_add]) (by omega) ?_
  refine ast (n := 800) (j := x + A 12 0 + 96) rfl (by simp only [fa_lit, nI_add]) (by omega) ?_
  refine ast (n := 800) (j := x + A 12 0 + 120) rfl (by simp only [fa_lit, nI_add]) (by omega) ?_
  refine ast (n := 800) (j := x + A 12 0 + 144) rfl (by simp only [fa_lit, nI_add]) (by omega) ?_
  refine ald (n := 800) (j := x + 176) rfl (by simp only [fa_lit, nI_add]) (by omega) (v := nI (A 12 0)) ?_ ?_
  · repeat rw [sgu_k (by omega)]
    exact hR.1
  refine ast (n := 800) (j := x + 176) rfl (by simp only [fa_lit, nI_add]) (by omega) ?_
  refine h _ ?_ ?_
  · obtain ⟨r0, r1, r2, r3, r4, r5⟩ := hR
    refine ⟨?_, ?_, ?_, ?_, fun j hj => ?_, fun i hi => ?_⟩
    · rw [sgu_s, addA_n, nI_1]
    · rw [addA_f (by omega) (by omega), ← r1]; simp only [sgu_at]; repeat rw [if_neg (by omega)]
    · rw [addA_f (by omega) (by omega), ← r2]; simp only [sgu_at]; repeat rw [if_neg (by omega)]
    · rw [addA_f (by omega) (by omega), ← r3]; simp only [sgu_at]; repeat rw [if_neg (by omega)]
    · rw [addA_n] at hj
      by_cases z : j = A 12 0
      · subst z
        refine ⟨?_, ?_, ?_, ?_, ?_, ?_, ?_⟩
        · rw [show addA A k hh d q kp y 0 (A 12 0) = k by simp [addA]]; repeat rw [sgu_k (by omega)]
          rw [sgu_s]
        · rw [show addA A k hh d q kp y 1 (A 12 0) = hh by simp [addA], show x + 24 + A 12 0 = x + A 12 0 + 24 by omega]; repeat rw [sgu_k (by omega)]
          rw [sgu_s]
        · rw [show addA A k hh d q kp y 2 (A 12 0) = d by simp [addA], show x + 48 + A 12 0 = x + A 12 0 + 48 by omega]; repeat rw [sgu_k (by omega)]
          rw [sgu_s]
        · rw [show addA A k hh d q kp y 3 (A 12 0) = q by simp [addA], show x + 72 + A 12 0 = x + A 12 0 + 72 by omega]; repeat rw [sgu_k (by omega)]
          rw [sgu_s]
        · rw [show addA A k hh d q kp y 4 (A 12 0) = kp by simp [addA], show x + 96 + A 12 0 = x + A 12 0 + 96 by omega]; repeat rw [sgu_k (by omega)]
          rw [sgu_s]
        · rw [show addA A k hh d q kp y 5 (A 12 0) = y by simp [addA], show x + 120 + A 12 0 = x + A 12 0 + 120 by omega]; repeat rw [sgu_k (by omega)]
          rw [sgu_s]
        · rw [show addA A k hh d q kp y 6 (A 12 0) = 0 by simp [addA], show x + 144 + A 12 0 = x + A 12 0 + 144 by omega]; repeat rw [sgu_k (by omega)]
          rw [sgu_s]; rfl
      · rw [addA_j (by omega) z, addA_j (by omega) z, addA_j (by omega) z, addA_j (by omega) z, addA_j (by omega) z, addA_j (by omega) z, addA_j (by omega) z]
        have := r4 j (by omega)
        simp only [sgu_at]
        repeat rw [if_neg (by omega)]
        exact this
    · rw [addA_f (by omega) (by omega)] at hi
      rw [addA_f (by omega) (by omega), addA_f (by omega) (by omega)]
      have := r5 i hi
      simp only [sgu_at]
      repeat rw [if_neg (by omega)]
      exact this
  · refine ⟨fun c hc => ?_, fun i hi => ?_⟩
    · repeat rw [sgu_c hc]
    · repeat rw [sgu_k (by omega)]

def ngA (A : St) : Nat := fb_ct (fun j => decide (A 6 j = 0)) (A 12 0)
theorem ng_take {A : St} {j : Nat} (hj : j < A 12 0) (h : A 6 j = 0) : ngA (stu A 6 j 1) + 1 = ngA A := by
  unfold ngA
  have e : fb_ct (fun i => decide (stu A 6 j 1 6 i = 0)) (A 12 0) = fb_ct (fun k => if k = j then false else decide (A 6 k = 0)) (A 12 0) := by
    apply fb_ct_cong
    intro k _
    by_cases q : k = j
    · subst q; simp [stu]
    · simp [stu, q]
  have := fb_ct_upd (fun k => decide (A 6 k = 0)) false hj
  rw [stu_f (by omega), e]
  simp [h] at this
  simp
  omega
theorem ng_le {A : St} : ngA A ≤ A 12 0 := fb_ct_le _ _
theorem ng_pos {A : St} {j : Nat} (hj : j < A 12 0) (h : A 6 j = 0) : 0 < ngA A := fb_ct_pos.mpr ⟨j, hj, by simp [h]⟩
theorem RMr_take {x : Nat} {σ : Sg} {A : St} {j : Nat} (hR : RMr x σ A) (hj : j < 24) (h24 : A 12 0 ≤ 24) (h5 : A 12 5 ≤ 4) : RMr x (sgu σ 90 (x + 144 + j) 1) (stu A 6 j 1) := by
  obtain ⟨r0, r1, r2, r3, r4, r5⟩ := hR
  refine ⟨?_, ?_, ?_, ?_, fun i hi => ?_, fun i hi => ?_⟩
  · rw [sgu_k (by omega)]; exact r0
  · rw [sgu_k (by omega)]; exact r1
  · rw [sgu_k (by omega)]; exact r2
  · rw [sgu_k (by omega)]; exact r3
  · have hi : i < A 12 0 := hi
    have := r4 i hi
    rw [sgu_k (by omega), sgu_k (by omega), sgu_k (by omega), sgu_k (by omega), sgu_k (by omega), sgu_k (by omega)]
    refine ⟨this.1, this.2.1, this.2.2.1, this.2.2.2.1, this.2.2.2.2.1, this.2.2.2.2.2.1, ?_⟩
    by_cases q : i = j
    · subst q; rw [sgu_s, stu_s]; rfl
    · rw [sgu_k (by omega), stu_k q]; exact this.2.2.2.2.2.2
  · have hi : i < A 12 5 := hi
    rw [sgu_k (by omega), sgu_k (by omega)]; exact r5 i hi
theorem RMr_stock {x : Nat} {σ : Sg} {A : St} {hh : Nat} (hR : RMr x σ A) (hh4 : hh < 4) (h24 : A 12 0 ≤ 24) (h5 : A 12 5 ≤ 4) : RMr x (sgu σ 90 (x + 172 + hh) 0) (stu A 8 hh 0) := by
  obtain ⟨r0, r1, r2, r3, r4, r5⟩ := hR
  refine ⟨?_, ?_, ?_, ?_, fun i hi => ?_, fun i hi => ?_⟩
  · rw [sgu_k (by omega)]; exact r0
  · rw [sgu_k (by omega)]; exact r1
  · rw [sgu_k (by omega)]; exact r2
  · rw [sgu_k (by omega)]; exact r3
  · have hi : i < A 12 0 := hi
    rw [sgu_k (by omega), sgu_k (by omega), sgu_k (by omega), sgu_k (by omega), sgu_k (by omega), sgu_k (by omega), sgu_k (by omega)]
    exact r4 i hi
  · have hi : i < A 12 5 := hi
    have := r5 i hi
    rw [sgu_k (by omega)]
    refine ⟨this.1, ?_⟩
    by_cases q : i = hh
    · subst q; rw [sgu_s, stu_s]; rfl
    · rw [sgu_k (by omega), stu_k q]; exact this.2
end
section
/-! the reference: eat -/
theorem addA_stock {A : St} {hh k h d q kp y : Nat} : addA (stu A 8 hh 0) k h d q kp y = stu (addA A k h d q kp y) 8 hh 0 := by
  funext f j
  by_cases e : f = 8 ∧ j = hh
  · obtain ⟨rfl, rfl⟩ := e
    rw [addA_f (by omega) (by omega), stu_s, stu_s]
  · have e1 : ∀ B : St, stu B 8 hh 0 f j = B f j := fun B => if_neg e
    rw [e1]
    unfold addA
    rw [e1]
    rw [show stu A 8 hh 0 12 0 = A 12 0 from stu_f (by omega)]
theorem lf_le {a b : Nat} (ha : a < 2 ^ 30) (hb : b < 2 ^ 30) : nI a - nI b ≤ 0 ↔ a ≤ b := by
  rw [fa_le, pk_sub_toInt ha hb]
  have : (0 : Int32).toInt = 0 := by decide
  rw [this]; omega
theorem lf_le99 {a b : Nat} (ha : a < 2 ^ 30) (hb : b < 2 ^ 30) : nI a - nI b ≤ 99 ↔ a ≤ b + 99 := by
  rw [fa_le, pk_sub_toInt ha hb]
  have : (99 : Int32).toInt = 99 := by decide
  rw [this]; omega
theorem lf_ge {a b : Nat} (ha : a < 2 ^ 30) (hb : b < 2 ^ 30) : 0 ≤ nI a - nI b ↔ b ≤ a := by
  rw [fa_le, pk_sub_toInt ha hb]
  have : (0 : Int32).toInt = 0 := by decide
  rw [this]; omega
theorem lf_neg {a b : Nat} (h : a ≤ b) : -(nI a - nI b) = nI (b - a) := by
  rw [← pk_sub h]
  exact Int32.neg_sub
set_option maxRecDepth 100000 in
set_option maxHeartbeats 2000000 in
theorem m_eat {σ : Sg} {A : St} {x hh harv : Nat} {Q : Option Value → Sg → Prop} (hx : x ≤ 600) (hR : RMr x σ A) (hG : RMg σ A) (hW : WL A) (hh2 : hh < A 12 5) (hv : harv ≤ 99) (hy : A 12 1 < 2 ^ 19)
    (h : ∀ σ', RMr x σ' (eatA A hh harv).1 → FrW x σ σ' → Q (some (.int (nI (eatA A hh harv).2))) σ') : MetA mX8_eat [.ref 89, .int (nI x), .int (nI hh), .int (nI harv)] σ Q := by
  refine MetA_of qX8_eat (Nat.le_of_ble_eq_true rfl) ?_
  have h4 := hW.2.1
  have h24 := hW.1.1
  have hw := hW.2.2.2.2.2.1 hh hh2
  have hlw := hW.2.2.2.1
  have hw9 := hG.2.1 hh hh2
  -- the end
  have r218 : ∀ (σ' : Sg) (A' : St) (has : Nat) (o f : Int32), RMr x σ' A' → A' 12 0 ≤ 24 → A' 12 5 = A 12 5 → has < 2 ^ 30 → FrW x σ σ' → (∀ σ'', RMr x σ'' (stu A' 8 hh 0) → FrW x σ σ'' → Q (some (.int (nI (A 9 hh - has)))) σ'') → V mX8_eat 218 [(0, .ref 89), (1, .int (nI x)), (2, .int (nI hh)), (3, .int (nI harv)), (4, .int (nI has)), (5, .int o), (6, .int f), (7, .int (nI has - nI (A 9 hh)))] [] σ' Q := by
    intro σ' A' has o f hR' h24' e5 hhas hF hQ
    have fin := hQ _ (RMr_stock hR' (show hh < 4 by omega) h24' (by omega)) (hF.tr (FrW.put (by omega) (by omega)))
    refine wpB_sd (stops := []) kX8_eat 20 _ _ _ _ ?_
    refine ast (n := 800) (j := x + 172 + hh) rfl (by simp only [fa_lit, nI_add]) (by omega) ?_
    refine ⟨fun g => ?_, fun g => ?_⟩
    · have g := (lf_ge hhas (by omega)).mp g
      refine fin_i fin ?_
      rw [show A 9 hh - has = 0 by omega]; rfl
    · have g : ¬ A 9 hh ≤ has := fun q => g ((lf_ge hhas (by omega)).mpr q)
      exact fin_i fin (lf_neg (by omega))
  -- behind the loop
  have r112 : ∀ (σ' : Sg) (A' : St) (has : Nat) (op : Bool) (f : Int32), RMr x σ' A' → WJ A' → (∀ g k, g ≠ 6 → A' g k = A g k) → FrW x σ σ' → has < 2 ^ 29 → (∀ σ'', RMr x σ'' (eatS A' hh has op) → FrW x σ σ'' → Q (some (.int (nI (A 9 hh - has)))) σ'') → V mX8_eat 112 [(0, .ref 89), (1, .int (nI x)), (2, .int (nI hh)), (3, .int (nI harv)), (4, .int (nI has)), (5, .int (bI (op = true))), (6, .int f)] [] σ' Q := by
    intro σ' A' has op f hR' hW' hA' hF hhas hQ
    have e9 : A' 9 hh = A 9 hh := hA' 9 hh (by omega)
    have e7 : A' 7 hh = A 7 hh := hA' 7 hh (by omega)
    have e5 : A' 12 5 = A 12 5 := hA' 12 5 (by omega)
    have e1 : A' 12 1 = A 12 1 := hA' 12 1 (by omega)
    have h24' := hW'.1
    have hw9' : σ' 93 hh = nI (A 9 hh) := by rw [hF.1 93 (by omega)]; exact hw9
    have hr7 : σ' 90 (x + 168 + hh) = nI (A 7 hh) := by rw [(hR'.2.2.2.2.2 hh (by omega)).1, e7]
    have hyr : σ' 90 (x + 177) = nI (A 12 1) := by rw [hR'.2.1, e1]
    have nos : ¬ (op = false ∧ A' 9 hh < has ∧ 0 < A' 7 hh ∧ A' 12 0 < 24) → V mX8_eat 218 [(0, .ref 89), (1, .int (nI x)), (2, .int (nI hh)), (3, .int (nI harv)), (4, .int (nI has)), (5, .int (bI (op = true))), (6, .int f), (7, .int (nI has - nI (A 9 hh)))] [] σ' Q := by
      intro hno
      refine r218 σ' A' has _ f hR' h24' e5 (by omega) hF (fun σ'' a b => hQ σ'' ?_ b)
      rw [eatS, if_neg hno]; exact a
    have yes : (op = false ∧ A' 9 hh < has ∧ 0 < A' 7 hh ∧ A' 12 0 < 24) → ∀ σ2, RMr x σ2 (addA A' 0 hh (A 12 1 + A 7 hh) (if 99 < has - A 9 hh then 99 else has - A 9 hh) 5 (A 12 1)) → FrW x σ' σ2 → V mX8_eat 218 [(0, .ref 89), (1, .int (nI x)), (2, .int (nI hh)), (3, .int (nI harv)), (4, .int (nI has)), (5, .int (bI (op = true))), (6, .int f), (7, .int (nI has - nI (A 9 hh)))] [] σ2 Q := by
      intro hyes σ2 hc2 hf2
      refine r218 σ2 _ has _ f hc2 (by rw [addA_n]; omega) (by rw [addA_f (by omega) (by omega), e5]) (by omega) (hF.tr hf2) (fun σ'' a b => hQ σ'' ?_ b)
      rw [eatS, if_pos hyes, addA_stock, e1, e7, e9]; exact a
    refine wpB_sd (stops := [218]) kX8_eat 60 _ _ _ _ ?_
    refine ald (n := 8) (j := hh) rfl rfl (by omega) hw9' ?_
    refine ⟨fun g => ?_, fun g => ?_⟩
    · have g := (lf_le (by omega) (by omega)).mp g
      exact nos (fun q => by omega)
    · have g : ¬ has ≤ A 9 hh := fun q => g ((lf_le (by omega) (by omega)).mpr q)
      refine ⟨fun g2 => ?_, fun g2 => ?_⟩
      · have g2 : op = true := by
          by_cases q : op = true
          · exact q
          · exact absurd (bI_f q) g2
        exact nos (fun q => by rw [g2] at q; cases q.1)
      · have g2 : ¬ op = true := bI_0.mp g2
        have g2 : op = false := by simpa using g2
        refine ald (n := 800) (j := x + 168 + hh) rfl (by simp only [fa_lit, nI_add]) (by omega) hr7 ?_
        refine ⟨fun g3 => ?_, fun g3 => ?_⟩
        · have g3 := (nI_leI (b := 0) (by omega) (by omega)).mp g3
          exact nos (fun q => by omega)
        · have g3 : ¬ A 7 hh ≤ 0 := fun q => g3 (nI_le (b := 0) q (by omega))
          refine ald (n := 800) (j := x + 176) rfl (by simp only [fa_lit, nI_add]) (by omega) hR'.1 ?_
          refine ⟨fun g4 => ?_, fun g4 => ?_⟩
          · have g4 := (nI_leI (a := 24) (by omega) (by omega)).mp g4
            exact nos (fun q => by omega)
          · have g4 : ¬ 24 ≤ A' 12 0 := fun q => g4 (nI_le (a := 24) q (by omega))
            have yes := yes ⟨g2, by omega, by omega, by omega⟩
            refine ald (n := 800) (j := x + 177) rfl (by simp only [fa_lit, nI_add]) (by omega) hyr ?_
            refine ald (n := 800) (j := x + 168 + hh) rfl (by simp only [fa_lit, nI_add]) (by omega) hr7 ?_
            refine ⟨fun g5 => ?_, fun g5 => ?_⟩
            · have g5 := (lf_le99 (by omega) (by omega)).mp g5
              rw [if_neg (by omega)] at yes
              refine ald (n := 800) (j := x + 177) rfl (by simp only [fa_lit, nI_add]) (by omega) hyr ?_
              refine mAr (by rw [nI_add, pk_sub (show A 9 hh ≤ has by omega)]; rfl) (m_add (k := 0) (kp := 5) (hh := hh) (d := A 12 1 + A 7 hh) (q := has - A 9 hh) (y := A 12 1) hx hR' (by omega) (by omega) yes)
            · have g5 : ¬ has ≤ A 9 hh + 99 := fun q => g5 ((lf_le99 (by omega) (by omega)).mpr q)
              rw [if_pos (by omega)] at yes
              refine ald (n := 800) (j := x + 177) rfl (by simp only [fa_lit, nI_add]) (by omega) hyr ?_
              refine mAr (by rw [nI_add]; rfl) (m_add (k := 0) (kp := 5) (hh := hh) (d := A 12 1 + A 7 hh) (q := 99) (y := A 12 1) hx hR' (by omega) (by omega) yes)
  -- the loop
  have r42 : ∀ (n : Nat) (A' : St) (has : Nat) (op : Bool) (σ' : Sg), ngA A' ≤ n → n ≤ 24 → RMr x σ' A' → WJ A' → (∀ g k, g ≠ 6 → A' g k = A g k) → FrW x σ σ' → has ≤ 2 ^ 28 + 198 * (24 - n) → (∀ σ'' f', RMr x σ'' (eatL hh n A' has).1 → FrW x σ σ'' → V mX8_eat 112 [(0, .ref 89), (1, .int (nI x)), (2, .int (nI hh)), (3, .int (nI harv)), (4, .int (nI (eatL hh n A' has).2)), (5, .int (bI ((op || (nxA A' hh has).isSome) = true))), (6, .int f')] [] σ'' Q) → V mX8_eat 42 [(0, .ref 89), (1, .int (nI x)), (2, .int (nI hh)), (3, .int (nI harv)), (4, .int (nI has)), (5, .int (bI (op = true))), (6, .int (optI (nxA A' hh has)))] [] σ' Q := by
    intro n
    induction n with
    | zero =>
      intro A' has op σ' hng hn hR' hW' hA' hF hhas hQ
      have hno : nxA A' hh has = none := by
        cases hq : nxA A' hh has with
        | none => rfl
        | some j => have := nxA_lt hq; have := ng_pos this.1 this.2.2; omega
      rw [hno] at hQ ⊢
      refine wpB_sd (stops := [112]) kX8_eat 20 _ _ _ _ ?_
      refine br_t (show (-1 : Int32) < 0 by decide) ?_
      simp only [Option.isSome_none, Bool.or_false] at hQ
      exact hQ σ' _ hR' hF
    | succ n ih =>
      intro A' has op σ' hng hn hR' hW' hA' hF hhas hQ
      have e9 : A' 9 hh = A 9 hh := hA' 9 hh (by omega)
      have e5 : A' 12 5 = A 12 5 := hA' 12 5 (by omega)
      have e1 : A' 12 1 = A 12 1 := hA' 12 1 (by omega)
      have e3 : A' 12 3 = A 12 3 := hA' 12 3 (by omega)
      have e0 : A' 12 0 = A 12 0 := hA' 12 0 (by omega)
      refine wpB_sd (stops := [107, 112]) kX8_eat 60 _ _ _ _ ?_
      cases hnx : nxA A' hh has with
      | none =>
        rw [eatL, hnx] at hQ
        simp only [Option.isSome_none, Bool.or_false] at hQ
        refine br_t (show (-1 : Int32) < 0 by decide) ?_
        exact hQ σ' _ hR' hF
      | some j =>
        rw [eatL, hnx] at hQ
        simp only [Option.isSome_some, Bool.or_true] at hQ
        have hj := nxA_lt hnx
        have hfl := filA_le hW' (y := A' 12 1) hj.1
        refine br_f (show ¬ nI j < 0 from nI_pos (by omega)) ?_
        refine ald (n := 800) (j := x + 177) rfl (by simp only [fa_lit, nI_add]) (by omega) hR'.2.1 ?_
        refine m_filled (j := j) (y := A' 12 1) hx hR' hW' hj.1 (Nat.le_refl _) (by omega) ?_
        refine ast (n := 800) (j := x + 144 + j) rfl (by simp only [optI, fa_lit, nI_add]) (by omega) ?_
        have hR2 := RMr_take (j := j) hR' (by omega) (by omega) (by omega)
        have hF2 := hF.tr (FrW.put (σ := σ') (k := x + 144 + j) (v := 1) (by omega) (by omega))
        have hng2 := ng_take hj.1 hj.2.2
        have nxt := ih (stu A' 6 j 1) (has + filA A' j (A' 12 1)) true (sgu σ' 90 (x + 144 + j) 1) (by omega) (by omega) hR2 (WJ_g hW' (by omega)) (fun g k hg => by rw [stu_f hg]; exact hA' g k hg) hF2 (by omega) (by
          simp only [Bool.true_or]
          exact hQ)
        have r107 : V mX8_eat 107 [(0, .ref 89), (1, .int (nI x)), (2, .int (nI hh)), (3, .int (nI harv)), (4, .int (nI has + nI (filA A' j (A' 12 1)))), (5, .int (bI (true = true))), (6, .int (optI (some j)))] [.int (optI (nxA (stu A' 6 j 1) hh (has + filA A' j (A' 12 1))))] (sgu σ' 90 (x + 144 + j) 1) Q := by
          refine wpB_sd (stops := [42]) kX8_eat 20 _ _ _ _ ?_
          rw [← nI_add has] at nxt
          exact nxt
        have hw9' : sgu σ' 90 (x + 144 + j) 1 93 hh = nI (A' 9 hh) := by rw [hF2.1 93 (by omega), e9]; exact hw9
        refine ald (n := 8) (j := hh) rfl rfl (by omega) hw9' ?_
        refine ⟨fun g => ?_, fun g => ?_⟩
        · rw [nI_add] at g
          have g := (nI_leI (by omega) (by omega)).mp g
          rw [nxA, if_neg (by show ¬ _ < A' 9 hh; omega)] at r107
          exact r107
        · rw [nI_add] at g
          have g : ¬ A' 9 hh ≤ has + filA A' j (A' 12 1) := fun q => g (nI_le q (by omega))
          rw [nxA, if_pos (by show _ < A' 9 hh; omega)] at r107
          refine m_firstToOpen (A := stu A' 6 j 1) hx hR2 (WJ_g hW' (by omega)) (by show A' 12 3 ≤ 2; omega) (by omega) ?_
          exact r107
  have hrs := hR.2.2.2.2.2 hh hh2
  have he := eatL_w hh 24 A (harv + A 8 hh) hW.1
  have r40 : V mX8_eat 40 [(0, .ref 89), (1, .int (nI x)), (2, .int (nI hh)), (3, .int (nI harv)), (4, .int (nI harv + nI (A 8 hh))), (5, .int 0)] [.int (optI (nxA A hh (harv + A 8 hh)))] σ Q := by
    have := r42 24 A (harv + A 8 hh) false σ (Nat.le_trans ng_le h24) (by omega) hR hW.1 (fun _ _ _ => rfl) FrW.rf (by omega) (fun σ'' f' hR2 hF2 => by
      rw [Bool.false_or]
      exact r112 _ _ _ _ f' hR2 he.1 (fun g k hg => eatL_f hh 24 A _ g k hg) hF2 (by omega) h)
    rw [← nI_add] at this
    refine wpB_sd (stops := [42]) kX8_eat 20 _ _ _ _ ?_
    exact this
  refine wpB_sd (stops := [40]) kX8_eat 40 _ _ _ _ ?_
  refine ald (n := 800) (j := x + 172 + hh) rfl (by simp only [fa_lit, nI_add]) (by omega) hrs.2 ?_
  refine ald (n := 8) (j := hh) rfl rfl (by omega) hw9 ?_
  refine ⟨fun g => ?_, fun g => ?_⟩
  · rw [nI_add] at g
    have g := (nI_leI (by omega) (by omega)).mp g
    rw [nxA, if_neg (by omega)] at r40
    exact r40
  · rw [nI_add] at g
    have g : ¬ A 9 hh ≤ harv + A 8 hh := fun q => g (nI_le q (by omega))
    rw [nxA, if_pos (by omega)] at r40
    refine m_firstToOpen hx hR hW.1 hlw (by omega) ?_
    exact r40
end
section
/-! the reference: hunger, pass, try -/
def FrP (x : Nat) (σ σ' : Sg) : Prop := (∀ c, c ≠ 90 → c ≠ 97 → σ' c = σ c) ∧ ∀ k, k < x ∨ x + 200 ≤ k → σ' 90 k = σ 90 k
theorem FrP.rf {x : Nat} {σ : Sg} : FrP x σ σ := ⟨fun _ _ _ => rfl, fun _ _ => rfl⟩
theorem FrP.tr {x : Nat} {σ σ' σ'' : Sg} (h : FrP x σ σ') (h2 : FrP x σ' σ'') : FrP x σ σ'' := ⟨fun c hc hc2 => (h2.1 c hc hc2).trans (h.1 c hc hc2), fun k hk => (h2.2 k hk).trans (h.2 k hk)⟩
theorem FrW.p {x : Nat} {σ σ' : Sg} (h : FrW x σ σ') : FrP x σ σ' := ⟨fun c hc _ => h.1 c hc, fun k hk => h.2 k (by omega)⟩
theorem RMr.fr {x : Nat} {σ σ' : Sg} {A : St} (h : RMr x σ A) (h24 : A 12 0 ≤ 24) (h5 : A 12 5 ≤ 4) (hf : ∀ k, x ≤ k → k < x + 200 → k ≠ x + 178 → σ' 90 k = σ 90 k) : RMr x σ' A := by
  obtain ⟨r0, r1, r2, r3, r4, r5⟩ := h
  refine ⟨?_, ?_, ?_, ?_, fun i hi => ?_, fun i hi => ?_⟩
  · rw [hf _ (by omega) (by omega) (by omega)]; exact r0
  · rw [hf _ (by omega) (by omega) (by omega)]; exact r1
  · rw [hf _ (by omega) (by omega) (by omega)]; exact r2
  · rw [hf _ (by omega) (by omega) (by omega)]; exact r3
  · rw [hf (x + i) (by omega) (by omega) (by omega), hf (x + 24 + i) (by omega) (by omega) (by omega), hf (x + 48 + i) (by omega) (by omega) (by omega), hf (x + 72 + i) (by omega) (by omega) (by omega), hf (x + 96 + i) (by omega) (by omega) (by omega), hf (x + 120 + i) (by omega) (by omega) (by omega), hf (x + 144 + i) (by omega) (by omega) (by omega)]; exact r4 i hi
  · rw [hf (x + 168 + i) (by omega) (by omega) (by omega), hf (x + 172 + i) (by omega) (by omega) (by omega)]; exact r5 i hi
set_option maxRecDepth 100000 in
theorem m_hunger {σ : Sg} {x hh m a b : Nat} {Q : Option Value → Sg → Prop} (hx : x ≤ 600) (hh4 : hh < 4) (ha : σ 97 hh = nI a) (hb : σ 90 (x + 178) = nI b) (hbm : b + m < 2 ^ 31)
    (h : Q none (sgu (sgu σ 97 hh (nI (a + m))) 90 (x + 178) (nI (if 999999999 < b + m then 999999999 else b + m)))) : MetA mX8_hunger [.ref 89, .int (nI x), .int (nI hh), .int (nI m)] σ Q := by
  refine MetA_of qX8_hunger (Nat.le_of_ble_eq_true rfl) ?_
  refine wpB_sd (stops := []) kX8_hunger 60 _ _ _ _ ?_
  refine ald (n := 4) (j := hh) rfl rfl (by omega) ha ?_
  refine ast (n := 4) (j := hh) rfl rfl (by omega) ?_
  rw [nI_add]
  have hb2 : sgu σ 97 hh (nI (a + m)) 90 (x + 178) = nI b := by rw [sgu_c (by omega)]; exact hb
  refine ald (n := 800) (j := x + 178) rfl (by simp only [fa_lit, nI_add]) (by omega) hb2 ?_
  refine ⟨fun g => ?_, fun g => ?_⟩
  · rw [nI_add, fa_lit 999999999] at g
    have g := (nI_leI (by omega) (by omega)).mp g
    rw [if_neg (by omega)] at h
    refine ald (n := 800) (j := x + 178) rfl (by simp only [fa_lit, nI_add]) (by omega) hb2 ?_
    refine ast (n := 800) (j := x + 178) rfl (by simp only [fa_lit, nI_add]) (by omega) ?_
    rw [nI_add b m]
    exact h
  · have g : ¬ b + m ≤ 999999999 := fun q => g (by rw [nI_add, fa_lit 999999999]; exact nI_le q (by omega))
    rw [if_pos (by omega), ← fa_lit 999999999] at h
    exact ast (n := 800) (j := x + 178) rfl (by simp only [fa_lit, nI_add]) (by omega) h
theorem hgA_add {h0 t m : Nat} : (if 999999999 < hgA h0 t + m then 999999999 else hgA h0 t + m) = hgA h0 (t + m) := by
  unfold hgA
  split <;> split <;> split <;> omega
theorem hgA_0 {h0 : Nat} (h : h0 ≤ 999999999) : hgA h0 0 = h0 := by unfold hgA; rw [if_neg (by omega)]; rfl
theorem hgA_le {h0 t : Nat} : hgA h0 t ≤ 999999999 := by unfold hgA; split <;> omega
/-- the state of the tried or real years: land, hungers, hunger so far -/
def PS (x : Nat) (σ : Sg) (s : Ys) (h0 : Nat) : Prop := RMr x σ s.1 ∧ RMg σ s.1 ∧ (∀ k, k < 4 → σ 97 k = nI (s.2 k)) ∧ σ 90 (x + 178) = nI (hgA h0 (fb_sm s.2 4))
theorem PS.hs {x : Nat} {σ σ' σ'' : Sg} {s : Ys} {h0 k : Nat} {dr : Bool} (hx : x ≤ 600) (hP : PS x σ s h0) (hk : k < 4) (h24 : (hsS dr k s).1 12 0 ≤ 24) (h5 : s.1 12 5 ≤ 4)
    (hR : RMr x σ' (eatA (hsA1 dr s.1) k (hsV dr s.1)).1) (hF : FrP x σ σ') (hF97 : σ' 97 = σ 97) (h178 : σ' 90 (x + 178) = σ 90 (x + 178))
    (e : σ'' = sgu (sgu σ' 97 k (nI (s.2 k + (eatA (hsA1 dr s.1) k (hsV dr s.1)).2))) 90 (x + 178) (nI (hgA h0 (fb_sm (hsS dr k s).2 4)))) : PS x σ'' (hsS dr k s) h0 ∧ FrP x σ σ'' := by
  subst e
  refine ⟨⟨?_, ?_, fun i hi => ?_, sgu_s⟩, ⟨fun c hc hc2 => ?_, fun i hi => ?_⟩⟩
  · refine RMr.fr (σ := σ') hR h24 ?_ (fun i a b d => by rw [sgu_k d, sgu_c (by omega)])
    have : (hsS dr k s).1 12 5 = s.1 12 5 := hsS_f (by omega) (by omega) (by omega)
    show (hsS dr k s).1 12 5 ≤ 4
    omega
  · have hG : RMg (sgu (sgu σ' 97 k (nI (s.2 k + (eatA (hsA1 dr s.1) k (hsV dr s.1)).2))) 90 (x + 178) (nI (hgA h0 (fb_sm (hsS dr k s).2 4)))) s.1 := hP.2.1.fr (fun c hc => by rw [sgu_c (by omega), sgu_c (by omega)]; exact hF.1 c (by omega) (by omega))
    exact hG.eq (hsS_f (by omega) (by omega) (by omega)) (hsS_f (by omega) (by omega) (by omega)) (fun i => hsS_f (by omega) (by omega) (by omega)) (fun i => hsS_f (by omega) (by omega) (by omega))
  · rw [sgu_c (by omega)]
    unfold hsS; dsimp only
    by_cases q : i = k
    · subst q; rw [sgu_s, if_pos rfl]
    · rw [sgu_k q, if_neg q, hF97]; exact hP.2.2.1 i hi
  · rw [sgu_c hc, sgu_c hc2]; exact hF.1 c hc hc2
  · rw [sgu_k (by omega), sgu_c (by omega)]; exact hF.2 i hi
theorem PS.yr {x : Nat} {σ : Sg} {s : Ys} {h0 v : Nat} (hx : x ≤ 600) (hP : PS x σ s h0) (h24 : s.1 12 0 ≤ 24) (h5 : s.1 12 5 ≤ 4) : PS x (sgu σ 90 (x + 177) (nI v)) (stu s.1 12 1 v, s.2) h0 := by
  obtain ⟨⟨r0, r1, r2, r3, r4, r5⟩, g, h97, hh⟩ := hP
  refine ⟨⟨?_, ?_, ?_, ?_, fun i hi => ?_, fun i hi => ?_⟩, ?_, fun k hk => ?_, ?_⟩
  · rw [sgu_k (by omega)]; exact r0
  · rw [sgu_s]; dsimp only; rw [stu_s]
  · rw [sgu_k (by omega)]; exact r2
  · rw [sgu_k (by omega)]; exact r3
  · have hi : i < s.1 12 0 := hi
    rw [sgu_k (by omega), sgu_k (by omega), sgu_k (by omega), sgu_k (by omega), sgu_k (by omega), sgu_k (by omega), sgu_k (by omega)]; exact r4 i hi
  · have hi : i < s.1 12 5 := hi
    rw [sgu_k (by omega), sgu_k (by omega)]; exact r5 i hi
  · exact RMg.fr (σ := σ) g (fun c hc => sgu_c (by omega))
  · rw [sgu_c (by omega)]; exact h97 k hk
  · rw [sgu_k (by omega)]; exact hh
set_option maxRecDepth 100000 in
set_option maxHeartbeats 1000000 in
theorem m_pass {σ : Sg} {s : Ys} {x h0 : Nat} {Q : Option Value → Sg → Prop} (hx : x ≤ 600) (hP : PS x σ s h0) (hW : WL s.1) (hy : s.1 12 1 < 2 ^ 19) (h : ∀ σ', PS x σ' (yrS false s) h0 → FrP x σ σ' → Q none σ') : MetA mX8_pass [.ref 89, .int (nI x)] σ Q := by
  refine MetA_of qX8_pass (Nat.le_of_ble_eq_true rfl) ?_
  have h4 := hW.2.1
  have loop : ∀ n i σi, i + n = s.1 12 5 → PS x σi (hsR false i s) h0 → FrP x σ σi → V mX8_pass 2 [(0, .ref 89), (1, .int (nI x)), (2, .int (nI i))] [] σi Q := by
    intro n
    induction n with
    | zero =>
      intro i σi hi hPi hF
      have hi : i = s.1 12 5 := by omega
      subst hi
      have hWi := hsR_WL (dr := false) (s.1 12 5) hW (Nat.le_refl _) hy
      have e5 : (hsR false (s.1 12 5) s).1 12 5 = s.1 12 5 := hsR_f (by omega) (by omega) (by omega) _ _
      have ey : (hsR false (s.1 12 5) s).1 12 1 = s.1 12 1 := hsR_f (by omega) (by omega) (by omega) _ _
      have h0h := hPi.2.1.1
      rw [e5] at h0h
      refine wpB_sd (stops := [2]) kX8_pass 30 _ _ _ _ ?_
      refine br_t (by rw [h0h]; exact nI_le (by omega) (by omega)) ?_
      refine ald (n := 800) (j := x + 177) rfl (by simp only [fa_lit, nI_add]) (by omega) hPi.1.2.1 ?_
      refine ast (n := 800) (j := x + 177) rfl (by simp only [fa_lit, nI_add]) (by omega) ?_
      rw [nI_1, ey]
      refine h _ ?_ (hF.tr ⟨fun c hc _ => sgu_c hc, fun k hk => sgu_k (by omega)⟩)
      have := hPi.yr (v := s.1 12 1 + 1) hx hWi.1.1 hWi.2.1
      unfold yrS
      rw [yrB_ff]
      exact this
    | succ n ih =>
      intro i σi hi hPi hF
      have hWi := hsR_WL (dr := false) i hW (by omega) hy
      have e5 : (hsR false i s).1 12 5 = s.1 12 5 := hsR_f (by omega) (by omega) (by omega) _ _
      have ey : (hsR false i s).1 12 1 = s.1 12 1 := hsR_f (by omega) (by omega) (by omega) _ _
      have h0h := hPi.2.1.1
      rw [e5] at h0h
      have hWn := hsR_WL (dr := false) (i + 1) hW (by omega) hy
      have hlv := hsV_le (dr := false) hWi
      rw [hsV_ff] at hlv
      have hsm := sm_hs (dr := false) (s := hsR false i s) (show i < 4 by omega)
      rw [hsA1_ff, hsV_ff] at hsm
      have hle := eatA_le (A := (hsR false i s).1) (hh := i) (harv := harvA (hsR false i s).1 ((hsR false i s).1 12 1))
      have hw9 := (hWi.2.2.2.2.2.1 i (by omega)).1
      have hcap := hgA_le (h0 := h0) (t := fb_sm (hsR false i s).2 4)
      refine wpB_sd (stops := [2]) kX8_pass 30 _ _ _ _ ?_
      refine br_f (by rw [h0h]; exact nI_ge (by omega) (by omega)) ?_
      refine ald (n := 800) (j := x + 177) rfl (by simp only [fa_lit, nI_add]) (by omega) hPi.1.2.1 ?_
      refine m_harvestOf hPi.2.1 hWi.2.2.1 (by omega) ?_
      refine m_eat hx hPi.1 hPi.2.1 hWi (by omega) hlv (by omega) (fun σ2 hR2 hF2 => ?_)
      have h97 : σ2 97 = σi 97 := hF2.1 97 (by omega)
      have h178 : σ2 90 (x + 178) = σi 90 (x + 178) := hF2.2 _ (by omega)
      refine m_hunger (a := (hsR false i s).2 i) (b := hgA h0 (fb_sm (hsR false i s).2 4)) hx (by omega) (by rw [h97]; exact hPi.2.2.1 i (by omega)) (by rw [h178]; exact hPi.2.2.2) (by omega) ?_
      rw [hgA_add, ← hsm]
      have key := PS.hs (dr := false) (k := i) hx hPi (by omega) hWn.1.1 (by omega) (by rw [hsA1_ff, hsV_ff]; exact hR2) hF2.p h97 h178 rfl
      rw [hsA1_ff, hsV_ff] at key
      have nxt := ih (i + 1) _ (by omega) key.1 (hF.tr key.2)
      rw [← nI_1] at nxt
      exact nxt
  refine wpB_sd (stops := [2]) kX8_pass 30 _ _ _ _ ?_
  exact loop (s.1 12 5) 0 σ (by omega) hP FrP.rf
end
section
/-! the reference: clearing, drawing, copying, years -/
set_option maxRecDepth 100000 in
theorem m_clear {σ : Sg} {Q : Option Value → Sg → Prop} (h : ∀ σ', (∀ k, k < 4 → σ' 97 k = nI 0) → (∀ c, c ≠ 97 → σ' c = σ c) → Q none σ') : MetA mX8_clearHungers [.ref 89] σ Q := by
  refine MetA_of qX8_clearHungers (Nat.le_of_ble_eq_true rfl) ?_
  have loop : ∀ n i σi, i + n = 4 → (∀ k, k < i → σi 97 k = nI 0) → (∀ c, c ≠ 97 → σi c = σ c) → V mX8_clearHungers 2 [(0, .ref 89), (1, .int (nI i))] [] σi Q := by
    intro n
    induction n with
    | zero =>
      intro i σi hi h1 h2
      have hi : i = 4 := by omega
      subst hi
      refine wpB_sd (stops := [2]) kX8_clearHungers 30 _ _ _ _ ?_
      exact br_t (by decide) (h σi h1 h2)
    | succ n ih =>
      intro i σi hi h1 h2
      refine wpB_sd (stops := [2]) kX8_clearHungers 30 _ _ _ _ ?_
      refine br_f (nI_ge (b := 4) (by omega) (by omega)) ?_
      refine ast (n := 4) (j := i) rfl rfl (by omega) ?_
      have nxt := ih (i + 1) (sgu σi 97 i 0) (by omega) (fun k hk => by
        by_cases q : k = i
        · subst q; rw [sgu_s]; rfl
        · rw [sgu_k q]; exact h1 k (by omega)) (fun c hc => by rw [sgu_c hc]; exact h2 c hc)
      rw [← nI_1] at nxt
      exact nxt
  refine wpB_sd (stops := [2]) kX8_clearHungers 30 _ _ _ _ ?_
  exact loop 4 0 σ (by omega) (fun k hk => absurd hk (by omega)) (fun _ _ => rfl)
theorem sm4 (f : Nat → Nat) : fb_sm f 4 = f 0 + f 1 + f 2 + f 3 := by simp [fb_sm]
theorem m_all {σ : Sg} {f : Nat → Nat} {Q : Option Value → Sg → Prop} (hf : ∀ k, k < 4 → σ 97 k = nI (f k)) (h : Q (some (.int (nI (fb_sm f 4)))) σ) : MetA mX8_allHungers [.ref 89] σ Q := by
  refine MetA_of qX8_allHungers (Nat.le_of_ble_eq_true rfl) ?_
  refine wpB_sd (stops := []) kX8_allHungers 30 _ _ _ _ ?_
  refine ald (n := 4) (j := 0) rfl rfl (by omega) (hf 0 (by omega)) ?_
  refine ald (n := 4) (j := 1) rfl rfl (by omega) (hf 1 (by omega)) ?_
  refine ald (n := 4) (j := 2) rfl rfl (by omega) (hf 2 (by omega)) ?_
  refine ald (n := 4) (j := 3) rfl rfl (by omega) (hf 3 (by omega)) ?_
  refine fin_i h ?_
  rw [nI_add, nI_add, nI_add, sm4]
theorem PS_0 {x : Nat} {σ : Sg} {A : St} {h0 : Nat} (hR : RMr x σ A) (hG : RMg σ A) (h97 : ∀ k, k < 4 → σ 97 k = nI 0) (h178 : σ 90 (x + 178) = nI h0) (h9 : h0 ≤ 999999999) : PS x σ (A, fun _ => 0) h0 := by
  refine ⟨hR, hG, h97, ?_⟩
  rw [h178, fb_sm_const, Nat.mul_zero, hgA_0 h9]
set_option maxRecDepth 100000 in
theorem m_draw {σ : Sg} {A : St} {n : Nat} {Q : Option Value → Sg → Prop} (hs : σ 90 180 = nI (A 12 4)) (hs2 : A 12 4 < 2 ^ 31) (hn : 1 ≤ n) (hn2 : n < 2 ^ 20) (h : Q (some (.int (nI (drA (A 12 4) / 65536 % n)))) (sgu σ 90 180 (nI (drA (A 12 4))))) : MetA mX8_draw [.ref 89, .int (nI n)] σ Q := by
  refine MetA_of qX8_draw (Nat.le_of_ble_eq_true rfl) ?_
  refine wpB_sd (stops := []) kX8_draw 40 _ _ _ _ ?_
  have hd := drA_lt (A 12 4)
  have e3 : drA (A 12 4) / 65536 ≤ drA (A 12 4) := Nat.div_le_self _ _
  refine ald (n := 800) (j := 180) rfl rfl (by omega) hs ?_
  refine ⟨by decide, ?_⟩
  refine ast (n := 800) (j := 180) rfl rfl (by omega) ?_
  have e : ((nI (A 12 4)).toInt64 * 1103515245 + 12345 - ((nI (A 12 4)).toInt64 * 1103515245 + 12345) / 2147483648 * 2147483648).toInt32 = nI (drA (A 12 4)) := by
    rw [nI_l hs2, fa_litL 1103515245, fa_litL 12345, fa_litL 2147483648, lN_mul, lN_add, pk_lRem (by omega) (by omega) (by omega), lN_i, drA]
  rw [e]
  refine ald (n := 800) (j := 180) rfl rfl (by omega) sgu_s ?_
  refine ⟨by decide, ?_⟩
  have e2 : nI (drA (A 12 4)) / 65536 = nI (drA (A 12 4) / 65536) := by
    rw [fa_lit 65536]; exact pk_div hd (by omega) (by omega)
  rw [e2]
  refine ⟨nI_ne0 (by omega) (by omega), ?_⟩
  rw [pk_rem (by omega) (by omega) (by omega)]
  exact h
set_option maxRecDepth 100000 in
theorem m_copy {σ : Sg} {x y : Nat} {Q : Option Value → Sg → Prop} (hx : x ≤ 600) (hy : y ≤ 600) (hxy : x + 200 ≤ y ∨ y + 200 ≤ x) (h : ∀ σ', (∀ k, k < 200 → σ' 90 (y + k) = σ 90 (x + k)) → (∀ k, k < y ∨ y + 200 ≤ k → σ' 90 k = σ 90 k) → (∀ c, c ≠ 90 → σ' c = σ c) → Q none σ') : MetA mX8_copy [.ref 89, .int (nI x), .int (nI y)] σ Q := by
  refine MetA_of qX8_copy (Nat.le_of_ble_eq_true rfl) ?_
  have loop : ∀ n i σi, i + n = 200 → (∀ k, k < i → σi 90 (y + k) = σ 90 (x + k)) → (∀ k, k < y ∨ y + i ≤ k → σi 90 k = σ 90 k) → (∀ c, c ≠ 90 → σi c = σ c) → V mX8_copy 2 [(0, .ref 89), (1, .int (nI x)), (2, .int (nI y)), (3, .int (nI i))] [] σi Q := by
    intro n
    induction n with
    | zero =>
      intro i σi hi h1 h2 h3
      have hi : i = 200 := by omega
      subst hi
      refine wpB_sd (stops := [2]) kX8_copy 30 _ _ _ _ ?_
      exact br_t (by decide) (h σi h1 h2 h3)
    | succ n ih =>
      intro i σi hi h1 h2 h3
      refine wpB_sd (stops := [2]) kX8_copy 30 _ _ _ _ ?_
      refine br_f (nI_ge (b := 200) (by omega) (by omega)) ?_
      refine ald (n := 800) (j := x + i) rfl (by simp only [nI_add]) (by omega) (h2 (x + i) (by omega)) ?_
      refine ast (n := 800) (j := y + i) rfl (by simp only [nI_add]) (by omega) ?_
      have nxt := ih (i + 1) (sgu σi 90 (y + i) (σ 90 (x + i))) (by omega) (fun k hk => by
        by_cases q : k = i
        · subst q; rw [sgu_s]
        · rw [sgu_k (by omega)]; exact h1 k (by omega)) (fun k hk => by rw [sgu_k (by omega)]; exact h2 k (by omega)) (fun c hc => by rw [sgu_c hc]; exact h3 c hc)
      rw [← nI_1] at nxt
      exact nxt
  refine wpB_sd (stops := [2]) kX8_copy 30 _ _ _ _ ?_
  exact loop 200 0 σ (by omega) (fun k hk => absurd hk (by omega)) (fun _ _ => rfl) (fun _ _ => rfl)
theorem RMr_copy {x y : Nat} {σ σ' : Sg} {A : St} (hR : RMr x σ A) (h24 : A 12 0 ≤ 24) (h5 : A 12 5 ≤ 4) (h : ∀ k, k < 200 → σ' 90 (y + k) = σ 90 (x + k)) : RMr y σ' A := by
  obtain ⟨r0, r1, r2, r3, r4, r5⟩ := hR
  have h2 : ∀ a k, a + k < 200 → σ' 90 (y + a + k) = σ 90 (x + a + k) := fun a k hk => by rw [Nat.add_assoc, Nat.add_assoc]; exact h (a + k) hk
  refine ⟨?_, ?_, ?_, ?_, fun i hi => ?_, fun i hi => ?_⟩
  · rw [h 176 (by omega)]; exact r0
  · rw [h 177 (by omega)]; exact r1
  · rw [h 179 (by omega)]; exact r2
  · rw [h 180 (by omega)]; exact r3
  · rw [h i (by omega), h2 24 i (by omega), h2 48 i (by omega), h2 72 i (by omega), h2 96 i (by omega), h2 120 i (by omega), h2 144 i (by omega)]; exact r4 i hi
  · rw [h2 168 i (by omega), h2 172 i (by omega)]; exact r5 i hi
/-- n years from a cleared start -/
theorem m_passes {mm : MS} {x n h0 pc0 : Nat} {lv : Nat → Lv} {R : Option Value → Sg → Prop} {s0 : Ys} {σ : Sg} (hx : x ≤ 600) (hW : WL s0.1) (hy : s0.1 12 1 + n < 2 ^ 19)
    (hend : ∀ σ', PS x σ' (yrR false n s0) h0 → FrP x σ σ' → V mm pc0 (lv n) [] σ' R)
    (hstep : ∀ i σi, i < n → (∀ Q, (∀ σ', PS x σ' (yrR false (i + 1) s0) h0 → FrP x σ σ' → Q none σ') → MetA mX8_pass [.ref 89, .int (nI x)] σi Q) → (∀ σ', PS x σ' (yrR false (i + 1) s0) h0 → FrP x σ σ' → V mm pc0 (lv (i + 1)) [] σ' R) → V mm pc0 (lv i) [] σi R) :
    ∀ m i σi, i + m = n → PS x σi (yrR false i s0) h0 → FrP x σ σi → V mm pc0 (lv i) [] σi R := by
  intro m
  induction m with
  | zero =>
    intro i σi hi hP hF
    have hi : i = n := by omega
    subst hi
    exact hend σi hP hF
  | succ m ih =>
    intro i σi hi hP hF
    refine hstep i σi (by omega) (fun Q hQ => ?_) (fun σ' a b => ih (i + 1) σ' (by omega) a b)
    have hWi := yrR_WL (dr := false) i hW (by omega)
    refine m_pass hx hP hWi (by rw [yrR_y]; omega) (fun σ' a b => hQ σ' a (hF.tr b))
set_option maxRecDepth 100000 in
theorem m_try {σ : Sg} {A : St} {n h0 : Nat} {Q : Option Value → Sg → Prop} (hR : RMr 200 σ A) (hG : RMg σ A) (hW : WL A) (hn : n ≤ 99) (hy : A 12 1 + n < 2 ^ 19) (h178 : σ 90 378 = nI h0) (h9 : h0 ≤ 999999999) (h : ∀ σ', PS 200 σ' (yrR false n (A, fun _ => 0)) h0 → FrP 200 σ σ' → Q none σ') : MetA mX8_try_ [.ref 89, .int (nI n)] σ Q := by
  refine MetA_of qX8_try_ (Nat.le_of_ble_eq_true rfl) ?_
  have key : ∀ σ1, PS 200 σ1 (A, fun _ => 0) h0 → FrP 200 σ σ1 → V mX8_try_ 6 [(0, .ref 89), (1, .int (nI n)), (2, .int (nI 0))] [] σ1 Q := by
    intro σ1 hP hF
    refine m_passes (mm := mX8_try_) (pc0 := 6) (lv := fun i => [(0, .ref 89), (1, .int (nI n)), (2, .int (nI i))]) (s0 := (A, fun _ => 0)) (σ := σ1) (x := 200) (n := n) (h0 := h0) (by omega) hW hy (fun σ' a b => ?_) (fun i σi hi hp hk => ?_) n 0 σ1 (by omega) hP FrP.rf
    · refine wpB_sd (stops := [6]) kX8_try_ 30 _ _ _ _ ?_
      exact br_t (nI_le (by omega) (by omega)) (h σ' a (hF.tr b))
    · refine wpB_sd (stops := [6]) kX8_try_ 30 _ _ _ _ ?_
      refine br_f (nI_ge hi (by omega)) ?_
      refine hp _ (fun σ' a b => ?_)
      have := hk σ' a b
      rw [← nI_1] at this
      exact this
  refine wpB_sd (stops := [6]) kX8_try_ 30 _ _ _ _ ?_
  refine m_clear (fun σ1 h1 h2 => ?_)
  refine key σ1 (PS_0 (RMr.fr hR hW.1.1 hW.2.1 (fun k _ _ _ => by rw [h2 90 (by omega)])) (hG.fr (fun c hc => h2 c (by omega))) h1 (by rw [h2 90 (by omega)]; exact h178) h9) ⟨fun c _ hc => h2 c hc, fun k _ => by rw [h2 90 (by omega)]⟩
end
section
/-! the calls: common words -/
abbrev UNK : Int32 := -1000000001
abbrev OUT : Int32 := -1000000002
abbrev NOTT : Int32 := -1000000003
abbrev FUL : Int32 := -1000000004
def ix (x : Int32) (n : Nat) : Prop := ∃ k, k < n ∧ x = nI k
theorem ix_iff {x : Int32} {n : Nat} (hn : n < 2 ^ 31) : (0 ≤ x ∧ x < nI n) ↔ ix x n := by
  constructor
  · intro ⟨h1, h2⟩
    rcases pk_ix x hn with q | q | ⟨j, hj, e⟩
    · exact absurd q (Int32.not_lt.mpr h1)
    · exact absurd q (Int32.not_le.mpr h2)
    · exact ⟨j, hj, e⟩
  · rintro ⟨k, hk, rfl⟩
    exact ⟨nI_pos' (by omega), nI_lt hk hn⟩
def rg (x : Int32) (lo hi : Nat) : Prop := ∃ k, lo ≤ k ∧ k ≤ hi ∧ x = nI k
theorem rg_iff {x : Int32} {lo hi : Nat} (hh : hi < 2 ^ 30) (hl : lo < 2 ^ 30) : (nI lo ≤ x ∧ x ≤ nI hi) ↔ rg x lo hi := by
  constructor
  · intro ⟨h1, h2⟩
    rw [fa_le, nI_toInt (by omega)] at h1
    rw [fa_le, nI_toInt (by omega)] at h2
    obtain ⟨k, hk⟩ : ∃ k : Nat, x.toInt = k := ⟨x.toInt.toNat, by omega⟩
    refine ⟨k, by omega, by omega, ?_⟩
    rw [fa_eq, nI_toInt (by omega)]; exact hk
  · rintro ⟨k, h1, h2, rfl⟩
    exact ⟨nI_le h1 (by omega), nI_le h2 (by omega)⟩
theorem rg_lt {x : Int32} {lo hi : Nat} (hh : hi < 2 ^ 30) (hl : lo < 2 ^ 30) (h : x < nI lo) : ¬ rg x lo hi := fun q => absurd h (Int32.not_lt.mpr ((rg_iff hh hl).mpr q).1)
theorem rg_gt {x : Int32} {lo hi : Nat} (hh : hi < 2 ^ 30) (hl : lo < 2 ^ 30) (h : nI hi < x) : ¬ rg x lo hi := fun q => absurd h (Int32.not_lt.mpr ((rg_iff hh hl).mpr q).2)
theorem rg_of {x : Int32} {lo hi : Nat} (hh : hi < 2 ^ 30) (hl : lo < 2 ^ 30) (h : ¬ x < nI lo) (h2 : ¬ nI hi < x) : rg x lo hi := (rg_iff hh hl).mp ⟨Int32.not_lt.mp h, Int32.not_lt.mp h2⟩
theorem bI_n0 {c : Prop} [Decidable c] (h : ¬ bI c = 0) : c := by
  by_cases q : c
  · exact q
  · exact absurd (bI_f q) h
/-- the class's land, and what it hungered -/
def CS (σ : Sg) (A : St) (hg : Nat) : Prop := RLd 1 σ A ∧ σ 1 8 = nI hg
/-- the reference's -/
def MR (σ : Sg) (A : St) (hg : Nat) : Prop := RMr 0 σ A ∧ RMg σ A ∧ σ 90 178 = nI hg
def FrX (σ σ' : Sg) : Prop := ∀ c, ¬ (1 ≤ c ∧ c ≤ 26) → σ' c = σ c
def FrM (σ σ' : Sg) : Prop := (∀ c, c ≠ 90 → c ≠ 97 → σ' c = σ c) ∧ ∀ k, 400 ≤ k → σ' 90 k = σ 90 k
theorem FrX.rf {σ : Sg} : FrX σ σ := fun _ _ => rfl
theorem FrX.tr {σ σ' σ'' : Sg} (h : FrX σ σ') (h2 : FrX σ' σ'') : FrX σ σ'' := fun c hc => (h2 c hc).trans (h c hc)
theorem FrM.rf {σ : Sg} : FrM σ σ := ⟨fun _ _ _ => rfl, fun _ _ => rfl⟩
theorem FrM.tr {σ σ' σ'' : Sg} (h : FrM σ σ') (h2 : FrM σ' σ'') : FrM σ σ'' := ⟨fun c hc hc2 => (h2.1 c hc hc2).trans (h.1 c hc hc2), fun k hk => (h2.2 k hk).trans (h.2 k hk)⟩
theorem FrL.x {σ σ' : Sg} (h : FrL 1 σ σ') : FrX σ σ' := fun c hc => h c (by omega)
theorem FrL.x2 {σ σ' : Sg} (h : FrL 14 σ σ') : FrX σ σ' := fun c hc => h c (by omega)
theorem FrP.m {x : Nat} {σ σ' : Sg} (h : FrP x σ σ') (hx : x ≤ 200) : FrM σ σ' := ⟨h.1, fun k hk => h.2 k (by omega)⟩
theorem FrM.put {k : Nat} {v : Int32} {σ : Sg} (h : k < 400) : FrM σ (sgu σ 90 k v) := ⟨fun c hc _ => sgu_c hc, fun i hi => sgu_k (by omega)⟩
/-- one number of an abstract land is changed, on both sides -/
theorem RLd_one {L : Nat} {σ : Sg} {A : St} {f k v c i : Nat} (h : RLd L σ A) (hW : WL A)
    (hc : (f = 12 ∧ k = 3 ∧ c = L ∧ i = 9) ∨ (f = 12 ∧ k = 4 ∧ c = L ∧ i = 10) ∨ (f = 7 ∧ c = L + 2 ∧ i = k) ∨ (f = 8 ∧ c = L + 3 ∧ i = k) ∨ (f = 1 ∧ c = L + 8 ∧ i = k) ∨ (f = 2 ∧ c = L + 9 ∧ i = k)) : RLd L (sgu σ c i (nI v)) (stu A f k v) := by
  obtain ⟨⟨c0, c7, c3⟩, h2, h3, h4, h5, h6, h7, h8⟩ := h
  have hn : ∀ g j, ¬ (g = f ∧ j = k) → stu A f k v g j = A g j := fun g j q => if_neg q
  have e0 : stu A f k v 12 0 = A 12 0 := hn _ _ (by omega)
  have e5 : stu A f k v 12 5 = A 12 5 := hn _ _ (by omega)
  have e6 : stu A f k v 12 6 = A 12 6 := hn _ _ (by omega)
  have eg : stu A f k v 6 = A 6 := funext fun j => hn _ _ (by omega)
  have at_ : ∀ c' i' g j, σ c' i' = nI (A g j) → ((c' = c ∧ i' = i) ↔ (g = f ∧ j = k)) → sgu σ c i (nI v) c' i' = nI (stu A f k v g j) := by
    intro c' i' g j hv hiff
    rw [sgu_at]
    by_cases q : c' = c ∧ i' = i
    · rw [if_pos q]
      obtain ⟨rfl, rfl⟩ := hiff.mp q
      rw [stu_s]
    · rw [if_neg q, hn _ _ (fun z => q (hiff.mpr z))]; exact hv
  refine ⟨⟨?_, ?_, fun j hj => ?_⟩, ?_, ?_, ?_, ?_, ?_, fun j hj => ?_, fun j hj => ?_⟩
  · exact at_ _ _ _ _ c0 (by omega)
  · rw [sgu_at, if_neg (by omega), eg, e0]; exact c7
  · rw [e0] at hj
    have c3 := c3 j hj
    exact ⟨at_ _ _ _ _ c3.1 (by omega), at_ _ _ _ _ c3.2.1 (by omega), at_ _ _ _ _ c3.2.2.1 (by omega), at_ _ _ _ _ c3.2.2.2.1 (by omega), at_ _ _ _ _ c3.2.2.2.2.1 (by omega), at_ _ _ _ _ c3.2.2.2.2.2 (by omega)⟩
  · exact at_ _ _ _ _ h2 (by omega)
  · exact at_ _ _ _ _ h3 (by omega)
  · exact at_ _ _ _ _ h4 (by omega)
  · exact at_ _ _ _ _ h5 (by omega)
  · exact at_ _ _ _ _ h6 (by omega)
  · rw [e5] at hj
    have h7 := h7 j hj
    exact ⟨at_ _ _ _ _ h7.1 (by omega), at_ _ _ _ _ h7.2.1 (by omega), at_ _ _ _ _ h7.2.2 (by omega)⟩
  · rw [e6] at hj
    exact at_ _ _ _ _ (h8 j hj) (by omega)
theorem RMr_one {x : Nat} {σ : Sg} {A : St} {f k v i : Nat} (h : RMr x σ A) (hW : WL A)
    (hc : (f = 12 ∧ k = 3 ∧ i = x + 179) ∨ (f = 12 ∧ k = 4 ∧ i = x + 180) ∨ (f = 7 ∧ k < 4 ∧ i = x + 168 + k) ∨ (f = 8 ∧ k < 4 ∧ i = x + 172 + k) ∨ (f = 1 ∧ k < 24 ∧ i = x + 24 + k) ∨ (f = 2 ∧ k < 24 ∧ i = x + 48 + k) ∨ (f = 6 ∧ k < 24 ∧ i = x + 144 + k)) : RMr x (sgu σ 90 i (nI v)) (stu A f k v) := by
  obtain ⟨r0, r1, r2, r3, r4, r5⟩ := h
  have h24 := hW.1.1
  have h4 := hW.2.1
  have hn : ∀ g j, ¬ (g = f ∧ j = k) → stu A f k v g j = A g j := fun g j q => if_neg q
  have e0 : stu A f k v 12 0 = A 12 0 := hn _ _ (by omega)
  have e5 : stu A f k v 12 5 = A 12 5 := hn _ _ (by omega)
  have at_ : ∀ i' g j, σ 90 i' = nI (A g j) → ((i' = i) ↔ (g = f ∧ j = k)) → sgu σ 90 i (nI v) 90 i' = nI (stu A f k v g j) := by
    intro i' g j hv hiff
    by_cases q : i' = i
    · subst q
      obtain ⟨rfl, rfl⟩ := hiff.mp rfl
      rw [sgu_s, stu_s]
    · rw [sgu_k q, hn _ _ (fun z => q (hiff.mpr z))]; exact hv
  refine ⟨at_ _ _ _ r0 (by omega), at_ _ _ _ r1 (by omega), at_ _ _ _ r2 (by omega), at_ _ _ _ r3 (by omega), fun j hj => ?_, fun j hj => ?_⟩
  · rw [e0] at hj
    have r4 := r4 j hj
    exact ⟨at_ _ _ _ r4.1 (by omega), at_ _ _ _ r4.2.1 (by omega), at_ _ _ _ r4.2.2.1 (by omega), at_ _ _ _ r4.2.2.2.1 (by omega), at_ _ _ _ r4.2.2.2.2.1 (by omega), at_ _ _ _ r4.2.2.2.2.2.1 (by omega), at_ _ _ _ r4.2.2.2.2.2.2 (by omega)⟩
  · rw [e5] at hj
    have r5 := r5 j hj
    exact ⟨at_ _ _ _ r5.1 (by omega), at_ _ _ _ r5.2 (by omega)⟩
theorem RMg_one {σ σ' : Sg} {A : St} {f k v : Nat} (h : RMg σ A) (hf : ∀ c, c = 89 ∨ c = 92 ∨ c = 93 → σ' c = σ c) (h9 : f ≠ 9) (h10 : f ≠ 10) (h12 : f = 12 → k ≠ 5 ∧ k ≠ 6) : RMg σ' (stu A f k v) :=
  (h.fr hf).eq (if_neg (by omega)) (if_neg (by omega)) (fun i => if_neg (by omega)) (fun i => if_neg (by omega))
theorem MR_one {σ : Sg} {A : St} {hg f k v i : Nat} (h : MR σ A hg) (hW : WL A) (hc : (f = 12 ∧ k = 3 ∧ i = 0 + 179) ∨ (f = 12 ∧ k = 4 ∧ i = 0 + 180) ∨ (f = 7 ∧ k < 4 ∧ i = 0 + 168 + k) ∨ (f = 8 ∧ k < 4 ∧ i = 0 + 172 + k) ∨ (f = 1 ∧ k < 24 ∧ i = 0 + 24 + k) ∨ (f = 2 ∧ k < 24 ∧ i = 0 + 48 + k) ∨ (f = 6 ∧ k < 24 ∧ i = 0 + 144 + k)) : MR (sgu σ 90 i (nI v)) (stu A f k v) hg :=
  ⟨RMr_one h.1 hW hc, RMg_one h.2.1 (fun c hc => sgu_c (by omega)) (by omega) (by omega) (by omega), by rw [sgu_k (by omega)]; exact h.2.2⟩
theorem CS_one {σ : Sg} {A : St} {hg f k v c i : Nat} (h : CS σ A hg) (hW : WL A) (hc : (f = 12 ∧ k = 3 ∧ c = 1 ∧ i = 9) ∨ (f = 12 ∧ k = 4 ∧ c = 1 ∧ i = 10) ∨ (f = 7 ∧ c = 1 + 2 ∧ i = k) ∨ (f = 8 ∧ c = 1 + 3 ∧ i = k) ∨ (f = 1 ∧ c = 1 + 8 ∧ i = k) ∨ (f = 2 ∧ c = 1 + 9 ∧ i = k)) : CS (sgu σ c i (nI v)) (stu A f k v) hg :=
  ⟨RLd_one h.1 hW hc, by rw [sgu_at, if_neg (by omega)]; exact h.2⟩
end
section
/-! law, seals, give, label, open, seed: class (t_) and reference (u_) -/
set_option maxRecDepth 100000 in
theorem t_law {σ : Sg} {A : St} {hg : Nat} {v : Int32} {Q : Option Value → Sg → Prop} (hC : CS σ A hg) (hW : WL A) (ho : ¬ rg v 0 2 → Q (some (.int OUT)) σ) (hi : ∀ k, k ≤ 2 → v = nI k → ∀ σ', CS σ' (stu A 12 3 k) hg → FrX σ σ' → Q (some (.int (nI (A 12 3)))) σ') : MetA mX7_law [.ref 0, .int v] σ Q := by
  refine MetA_of qX7_law (Nat.le_of_ble_eq_true rfl) ?_
  refine wpB_sd (stops := []) kX7_law 40 _ _ _ _ ?_
  refine ⟨fun g => ho (rg_lt (lo := 0) (by omega) (by omega) g), fun g => ⟨fun g2 => ?_, fun g2 => ho (rg_gt (hi := 2) (by omega) (by omega) (Int32.not_le.mp g2))⟩⟩
  obtain ⟨k, -, h2, rfl⟩ := rg_of (lo := 0) (hi := 2) (by omega) (by omega) g (Int32.not_lt.mpr g2)
  refine fin_i (hi k h2 rfl _ (CS_one hC hW (by omega)) (fun c hc => sgu_c (by omega))) ?_
  exact hC.1.2.2.2.2.1
set_option maxRecDepth 100000 in
theorem u_law {σ : Sg} {A : St} {hg : Nat} {v : Int32} {Q : Option Value → Sg → Prop} (hC : MR σ A hg) (hW : WL A) (ho : ¬ rg v 0 2 → Q (some (.int OUT)) σ) (hi : ∀ k, k ≤ 2 → v = nI k → ∀ σ', MR σ' (stu A 12 3 k) hg → FrM σ σ' → Q (some (.int (nI (A 12 3)))) σ') : MetA mX8_law [.ref 89, .int v] σ Q := by
  refine MetA_of qX8_law (Nat.le_of_ble_eq_true rfl) ?_
  refine wpB_sd (stops := []) kX8_law 40 _ _ _ _ ?_
  refine m_inI (lo := nI 0) (hi := nI 2) rfl rfl ?_
  refine ⟨fun g => ?_, fun g => ho (fun q => bI_0.mp g ((rg_iff (by omega) (by omega)).mpr q))⟩
  obtain ⟨k, -, h2, rfl⟩ := (rg_iff (by omega) (by omega)).mp (bI_n0 g)
  refine ald (n := 800) (j := 0 + 179) rfl rfl (by omega) hC.1.2.2.1 ?_
  refine ast (n := 800) (j := 0 + 179) rfl rfl (by omega) ?_
  exact hi k h2 rfl _ (MR_one hC hW (by omega)) (FrM.put (by omega))
set_option maxRecDepth 100000 in
theorem t_seals {σ : Sg} {A : St} {hg : Nat} {h v : Int32} {Q : Option Value → Sg → Prop} (hC : CS σ A hg) (hW : WL A) (hu : ¬ ix h (A 12 5) → Q (some (.int UNK)) σ) (ho : ix h (A 12 5) → ¬ rg v 0 20 → Q (some (.int OUT)) σ) (hi : ∀ a k, a < A 12 5 → k ≤ 20 → h = nI a → v = nI k → ∀ σ', CS σ' (stu A 7 a k) hg → FrX σ σ' → Q (some (.int (nI (A 7 a)))) σ') : MetA mX7_seals [.ref 0, .int h, .int v] σ Q := by
  refine MetA_of qX7_seals (Nat.le_of_ble_eq_true rfl) ?_
  refine wpB_sd (stops := []) kX7_seals 40 _ _ _ _ ?_
  have h4 := hW.2.1
  have h0 := hC.1.2.1
  refine s_hasHouse (Or.inl rfl) ?_
  refine ⟨fun g => ?_, fun g => hu (fun q => bI_0.mp g (by rw [h0]; exact (ix_iff (by omega)).mpr q))⟩
  have hix : ix h (A 12 5) := (ix_iff (by omega)).mp (by have := bI_n0 g; rw [h0] at this; exact this)
  refine ⟨fun g2 => ho hix (rg_lt (lo := 0) (by omega) (by omega) g2), fun g2 => ⟨fun g3 => ?_, fun g3 => ho hix (rg_gt (hi := 20) (by omega) (by omega) (Int32.not_le.mp g3))⟩⟩
  obtain ⟨k, -, hk, rfl⟩ := rg_of (lo := 0) (hi := 20) (by omega) (by omega) g2 (Int32.not_lt.mpr g3)
  obtain ⟨a, ha, rfl⟩ := hix
  refine ald (n := 4) (j := a) rfl rfl (by omega) (hC.1.2.2.2.2.2.2.1 a ha).2.1 ?_
  refine ast (n := 4) (j := a) rfl rfl (by omega) ?_
  exact hi a k ha hk rfl rfl _ (CS_one hC hW (by omega)) (fun c hc => sgu_c (by omega))
set_option maxRecDepth 100000 in
theorem u_seals {σ : Sg} {A : St} {hg : Nat} {h v : Int32} {Q : Option Value → Sg → Prop} (hC : MR σ A hg) (hW : WL A) (hu : ¬ ix h (A 12 5) → Q (some (.int UNK)) σ) (ho : ix h (A 12 5) → ¬ rg v 0 20 → Q (some (.int OUT)) σ) (hi : ∀ a k, a < A 12 5 → k ≤ 20 → h = nI a → v = nI k → ∀ σ', MR σ' (stu A 7 a k) hg → FrM σ σ' → Q (some (.int (nI (A 7 a)))) σ') : MetA mX8_seals [.ref 89, .int h, .int v] σ Q := by
  refine MetA_of qX8_seals (Nat.le_of_ble_eq_true rfl) ?_
  refine wpB_sd (stops := []) kX8_seals 40 _ _ _ _ ?_
  have h4 := hW.2.1
  refine m_isHouse hC.2.1 h4 ?_
  refine ⟨fun g => ?_, fun g => hu (fun q => bI_0.mp g ((ix_iff (by omega)).mpr q))⟩
  have hix : ix h (A 12 5) := (ix_iff (by omega)).mp (bI_n0 g)
  refine m_inI (lo := nI 0) (hi := nI 20) rfl rfl ?_
  refine ⟨fun g => ?_, fun g => ho hix (fun q => bI_0.mp g ((rg_iff (by omega) (by omega)).mpr q))⟩
  obtain ⟨k, -, h2, rfl⟩ := (rg_iff (by omega) (by omega)).mp (bI_n0 g)
  obtain ⟨a, ha, rfl⟩ := hix
  refine ald (n := 800) (j := 0 + 168 + a) rfl (by simp only [fa_lit, nI_add]) (by omega) (hC.1.2.2.2.2.2 a ha).1 ?_
  refine ast (n := 800) (j := 0 + 168 + a) rfl (by simp only [fa_lit, nI_add]) (by omega) ?_
  exact hi a k ha h2 rfl rfl _ (MR_one hC hW (by omega)) (FrM.put (by omega))
set_option maxRecDepth 100000 in
theorem t_seed {σ : Sg} {A : St} {hg : Nat} {v : Int32} {Q : Option Value → Sg → Prop} (hC : CS σ A hg) (hW : WL A) (ho : v < 0 → Q (some (.int OUT)) σ) (hi : ∀ k, k < 2 ^ 31 → v = nI k → ∀ σ', CS σ' (stu A 12 4 k) hg → FrX σ σ' → Q (some (.int (nI (A 12 4)))) σ') : MetA mX7_seed [.ref 0, .int v] σ Q := by
  refine MetA_of qX7_seed (Nat.le_of_ble_eq_true rfl) ?_
  refine wpB_sd (stops := []) kX7_seed 40 _ _ _ _ ?_
  refine ⟨fun g => ?_, fun g => ho (Int32.not_le.mp g)⟩
  obtain ⟨k, hk, rfl⟩ := nI_of (Int32.not_lt.mpr g)
  refine fin_i (hi k hk rfl _ (CS_one hC hW (by omega)) (fun c hc => sgu_c (by omega))) ?_
  exact hC.1.2.2.2.2.2.1
set_option maxRecDepth 100000 in
theorem u_seed {σ : Sg} {A : St} {hg : Nat} {v : Int32} {Q : Option Value → Sg → Prop} (hC : MR σ A hg) (hW : WL A) (ho : v < 0 → Q (some (.int OUT)) σ) (hi : ∀ k, k < 2 ^ 31 → v = nI k → ∀ σ', MR σ' (stu A 12 4 k) hg → FrM σ σ' → Q (some (.int (nI (A 12 4)))) σ') : MetA mX8_seed [.ref 89, .int v] σ Q := by
  refine MetA_of qX8_seed (Nat.le_of_ble_eq_true rfl) ?_
  refine wpB_sd (stops := []) kX8_seed 40 _ _ _ _ ?_
  refine ⟨fun g => ?_, fun g => ho (Int32.not_le.mp g)⟩
  obtain ⟨k, hk, rfl⟩ := nI_of (Int32.not_lt.mpr g)
  refine ald (n := 800) (j := 0 + 180) rfl rfl (by omega) hC.1.2.2.2.1 ?_
  refine ast (n := 800) (j := 0 + 180) rfl rfl (by omega) ?_
  exact hi k hk rfl _ (MR_one hC hW (by omega)) (FrM.put (by omega))
set_option maxRecDepth 100000 in
theorem t_give {σ : Sg} {A : St} {hg : Nat} {j h : Int32} {Q : Option Value → Sg → Prop} (hC : CS σ A hg) (hW : WL A) (hu : ¬ (ix j (A 12 0) ∧ ix h (A 12 5)) → Q (some (.int UNK)) σ) (hn : ∀ a b, a < A 12 0 → b < A 12 5 → j = nI a → h = nI b → A 6 a = 1 → Q (some (.int NOTT)) σ) (hi : ∀ a b, a < A 12 0 → b < A 12 5 → j = nI a → h = nI b → A 6 a = 0 → ∀ σ', CS σ' (stu A 1 a b) hg → FrX σ σ' → Q (some (.int (nI (A 1 a)))) σ') : MetA mX7_give [.ref 0, .int j, .int h] σ Q := by
  refine MetA_of qX7_give (Nat.le_of_ble_eq_true rfl) ?_
  refine wpB_sd (stops := []) kX7_give 60 _ _ _ _ ?_
  have h4 := hW.2.1
  have h24 := hW.1.1
  have h0 := hC.1.2.1
  have hj0 := hC.1.1.1
  refine s_has (Or.inl rfl) ?_
  refine ⟨fun g => hu (fun q => bI_0.mp g (by rw [hj0]; exact (ix_iff (by omega)).mpr q.1)), fun g => ?_⟩
  have hixj : ix j (A 12 0) := (ix_iff (by omega)).mp (by have := bI_n0 g; rw [hj0] at this; exact this)
  refine s_hasHouse (Or.inl rfl) ?_
  refine ⟨fun g => ?_, fun g => hu (fun q => bI_0.mp g (by rw [h0]; exact (ix_iff (by omega)).mpr q.2))⟩
  have hix : ix h (A 12 5) := (ix_iff (by omega)).mp (by have := bI_n0 g; rw [h0] at this; exact this)
  obtain ⟨a, ha, rfl⟩ := hixj
  obtain ⟨b, hb, rfl⟩ := hix
  have h6 := (hW.1.2.2 a ha).2.2.2.2.2.2
  refine s_isGone (Or.inl rfl) hC.1.1 hW.1 ha ?_
  refine ⟨fun g => ?_, fun g => hn a b ha hb rfl rfl (bI_n0 g)⟩
  have g := bI_0.mp g
  refine ald (n := 24) (j := a) rfl rfl (by omega) (hC.1.1.2.2 a ha).2.1 ?_
  refine ast (n := 24) (j := a) rfl rfl (by omega) ?_
  exact hi a b ha hb rfl rfl (by omega) _ (CS_one hC hW (by omega)) (fun c hc => sgu_c (by omega))
set_option maxRecDepth 100000 in
theorem u_give {σ : Sg} {A : St} {hg : Nat} {j h : Int32} {Q : Option Value → Sg → Prop} (hC : MR σ A hg) (hW : WL A) (hu : ¬ (ix j (A 12 0) ∧ ix h (A 12 5)) → Q (some (.int UNK)) σ) (hn : ∀ a b, a < A 12 0 → b < A 12 5 → j = nI a → h = nI b → A 6 a = 1 → Q (some (.int NOTT)) σ) (hi : ∀ a b, a < A 12 0 → b < A 12 5 → j = nI a → h = nI b → A 6 a = 0 → ∀ σ', MR σ' (stu A 1 a b) hg → FrM σ σ' → Q (some (.int (nI (A 1 a)))) σ') : MetA mX8_give [.ref 89, .int j, .int h] σ Q := by
  refine MetA_of qX8_give (Nat.le_of_ble_eq_true rfl) ?_
  refine wpB_sd (stops := []) kX8_give 60 _ _ _ _ ?_
  have h4 := hW.2.1
  have h24 := hW.1.1
  refine m_isJar hC.1 h24 ?_
  refine ⟨fun g => hu (fun q => bI_0.mp g ((ix_iff (by omega)).mpr q.1)), fun g => ?_⟩
  have hixj : ix j (A 12 0) := (ix_iff (by omega)).mp (bI_n0 g)
  refine m_isHouse hC.2.1 h4 ?_
  refine ⟨fun g => ?_, fun g => hu (fun q => bI_0.mp g ((ix_iff (by omega)).mpr q.2))⟩
  have hix : ix h (A 12 5) := (ix_iff (by omega)).mp (bI_n0 g)
  obtain ⟨a, ha, rfl⟩ := hixj
  obtain ⟨b, hb, rfl⟩ := hix
  have h6 := (hW.1.2.2 a ha).2.2.2.2.2.2
  have r := hC.1.2.2.2.2.1 a ha
  refine ald (n := 800) (j := 0 + 144 + a) rfl (by simp only [fa_lit, nI_add]) (by omega) r.2.2.2.2.2.2 ?_
  refine ⟨fun g => ?_, fun g => hn a b ha hb rfl rfl ((nI_eq (b := 1) (by omega) (by omega)).mp g)⟩
  have g : ¬ A 6 a = 1 := fun q => g (by rw [q]; rfl)
  refine ald (n := 800) (j := 0 + 24 + a) rfl (by simp only [fa_lit, nI_add]) (by omega) r.2.1 ?_
  refine ast (n := 800) (j := 0 + 24 + a) rfl (by simp only [fa_lit, nI_add]) (by omega) ?_
  exact hi a b ha hb rfl rfl (by omega) _ (MR_one hC hW (by omega)) (FrM.put (by omega))
set_option maxRecDepth 100000 in
theorem t_label {σ : Sg} {A : St} {hg : Nat} {j v : Int32} {Q : Option Value → Sg → Prop} (hC : CS σ A hg) (hW : WL A) (hu : ¬ ix j (A 12 0) → Q (some (.int UNK)) σ) (ho : ix j (A 12 0) → ¬ rg v 0 9999 → Q (some (.int OUT)) σ) (hn : ∀ a b, a < A 12 0 → b ≤ 9999 → j = nI a → v = nI b → A 6 a = 1 → Q (some (.int NOTT)) σ) (hi : ∀ a b, a < A 12 0 → b ≤ 9999 → j = nI a → v = nI b → A 6 a = 0 → ∀ σ', CS σ' (stu A 2 a b) hg → FrX σ σ' → Q (some (.int (nI (A 2 a)))) σ') : MetA mX7_label [.ref 0, .int j, .int v] σ Q := by
  refine MetA_of qX7_label (Nat.le_of_ble_eq_true rfl) ?_
  refine wpB_sd (stops := []) kX7_label 60 _ _ _ _ ?_
  have h24 := hW.1.1
  have hj0 := hC.1.1.1
  refine s_has (Or.inl rfl) ?_
  refine ⟨fun g => ?_, fun g => hu (fun q => bI_0.mp g (by rw [hj0]; exact (ix_iff (by omega)).mpr q))⟩
  have hixj : ix j (A 12 0) := (ix_iff (by omega)).mp (by have := bI_n0 g; rw [hj0] at this; exact this)
  refine ⟨fun g2 => ho hixj (rg_lt (lo := 0) (by omega) (by omega) g2), fun g2 => ⟨fun g3 => ?_, fun g3 => ho hixj (rg_gt (hi := 9999) (by omega) (by omega) (Int32.not_le.mp g3))⟩⟩
  obtain ⟨k, -, hk, rfl⟩ := rg_of (lo := 0) (hi := 9999) (by omega) (by omega) g2 (Int32.not_lt.mpr g3)
  obtain ⟨a, ha, rfl⟩ := hixj
  have h6 := (hW.1.2.2 a ha).2.2.2.2.2.2
  refine s_isGone (Or.inl rfl) hC.1.1 hW.1 ha ?_
  refine ⟨fun g => ?_, fun g => hn a k ha hk rfl rfl (bI_n0 g)⟩
  have g := bI_0.mp g
  refine ald (n := 24) (j := a) rfl rfl (by omega) (hC.1.1.2.2 a ha).2.2.1 ?_
  refine ast (n := 24) (j := a) rfl rfl (by omega) ?_
  exact hi a k ha hk rfl rfl (by omega) _ (CS_one hC hW (by omega)) (fun c hc => sgu_c (by omega))
set_option maxRecDepth 100000 in
theorem u_label {σ : Sg} {A : St} {hg : Nat} {j v : Int32} {Q : Option Value → Sg → Prop} (hC : MR σ A hg) (hW : WL A) (hu : ¬ ix j (A 12 0) → Q (some (.int UNK)) σ) (ho : ix j (A 12 0) → ¬ rg v 0 9999 → Q (some (.int OUT)) σ) (hn : ∀ a b, a < A 12 0 → b ≤ 9999 → j = nI a → v = nI b → A 6 a = 1 → Q (some (.int NOTT)) σ) (hi : ∀ a b, a < A 12 0 → b ≤ 9999 → j = nI a → v = nI b → A 6 a = 0 → ∀ σ', MR σ' (stu A 2 a b) hg → FrM σ σ' → Q (some (.int (nI (A 2 a)))) σ') : MetA mX8_label [.ref 89, .int j, .int v] σ Q := by
  refine MetA_of qX8_label (Nat.le_of_ble_eq_true rfl) ?_
  refine wpB_sd (stops := []) kX8_label 60 _ _ _ _ ?_
  have h24 := hW.1.1
  refine m_isJar hC.1 h24 ?_
  refine ⟨fun g => ?_, fun g => hu (fun q => bI_0.mp g ((ix_iff (by omega)).mpr q))⟩
  have hixj : ix j (A 12 0) := (ix_iff (by omega)).mp (bI_n0 g)
  refine m_inI (lo := nI 0) (hi := nI 9999) rfl rfl ?_
  refine ⟨fun g => ?_, fun g => ho hixj (fun q => bI_0.mp g ((rg_iff (by omega) (by omega)).mpr q))⟩
  obtain ⟨k, -, hk, rfl⟩ := (rg_iff (by omega) (by omega)).mp (bI_n0 g)
  obtain ⟨a, ha, rfl⟩ := hixj
  have h6 := (hW.1.2.2 a ha).2.2.2.2.2.2
  have r := hC.1.2.2.2.2.1 a ha
  refine ald (n := 800) (j := 0 + 144 + a) rfl (by simp only [fa_lit, nI_add]) (by omega) r.2.2.2.2.2.2 ?_
  refine ⟨fun g => ?_, fun g => hn a k ha hk rfl rfl ((nI_eq (b := 1) (by omega) (by omega)).mp g)⟩
  have g : ¬ A 6 a = 1 := fun q => g (by rw [q]; rfl)
  refine ald (n := 800) (j := 0 + 48 + a) rfl (by simp only [fa_lit, nI_add]) (by omega) r.2.2.1 ?_
  refine ast (n := 800) (j := 0 + 48 + a) rfl (by simp only [fa_lit, nI_add]) (by omega) ?_
  exact hi a k ha hk rfl rfl (by omega) _ (MR_one hC hW (by omega)) (FrM.put (by omega))
end
section
/-! open, year: class (t_) and reference (u_) -/
def opnA (A : St) (a : Nat) : St := stu (stu A 6 a 1) 8 (A 1 a) (A 8 (A 1 a) + filA A a (A 12 1))
set_option maxRecDepth 100000 in
theorem t_open {σ : Sg} {A : St} {hg : Nat} {j : Int32} {Q : Option Value → Sg → Prop} (hC : CS σ A hg) (hW : WL A) (hu : ¬ ix j (A 12 0) → Q (some (.int UNK)) σ) (hn : ∀ a, a < A 12 0 → j = nI a → ¬ (A 6 a = 0 ∧ mayB (A 12 3) (A 2 a) (A 12 1) = true) → Q (some (.int NOTT)) σ) (hi : ∀ a, a < A 12 0 → j = nI a → (A 6 a = 0 ∧ mayB (A 12 3) (A 2 a) (A 12 1) = true) → ∀ σ', CS σ' (opnA A a) hg → FrX σ σ' → Q (some (.int (nI (filA A a (A 12 1))))) σ') : MetA mX7_open [.ref 0, .int j] σ Q := by
  refine MetA_of qX7_open (Nat.le_of_ble_eq_true rfl) ?_
  refine wpB_sd (stops := []) kX7_open 80 _ _ _ _ ?_
  have h4 := hW.2.1
  have h24 := hW.1.1
  have hy := hW.1.2.1
  have hj0 := hC.1.1.1
  refine s_has (Or.inl rfl) ?_
  refine ⟨fun g => ?_, fun g => hu (fun q => bI_0.mp g (by rw [hj0]; exact (ix_iff (by omega)).mpr q))⟩
  have hixj : ix j (A 12 0) := (ix_iff (by omega)).mp (by have := bI_n0 g; rw [hj0] at this; exact this)
  obtain ⟨a, ha, rfl⟩ := hixj
  have h6 := (hW.1.2.2 a ha).2.2.2.2.2.2
  have ho := hW.2.2.2.2.2.2.2 a ha
  refine s_isGone (Or.inl rfl) hC.1.1 hW.1 ha ?_
  refine ⟨fun g => ?_, fun g => ?_⟩
  · have g := bI_n0 g
    exact hn a ha rfl (fun q => by omega)
  have g := bI_0.mp g
  refine mAr (by rw [show σ 1 9 = nI (A 12 3) from hC.1.2.2.2.2.1, show σ 1 7 = nI (A 12 1) from hC.1.2.2.2.1]) (s_mayBe (l := A 12 3) (y := A 12 1) (Or.inl rfl) hC.1.1 hW.1 ha (by omega) hW.2.2.2.1 ?_)
  refine ⟨fun g2 => ?_, fun g2 => hn a ha rfl (fun q => bI_0.mp g2 q.2)⟩
  have g2 := bI_n0 g2
  have hi := hi a ha rfl ⟨by omega, g2⟩
  refine ald (n := 24) (j := a) rfl rfl (by omega) (hC.1.1.2.2 a ha).2.1 ?_
  refine mAr (by rw [show σ 1 7 = nI (A 12 1) from hC.1.2.2.2.1]) (s_takeOut (y := A 12 1) (Or.inl rfl) hC.1.1 hW.1 ha (Nat.le_refl _) (by omega) (fun σ2 hc2 hf2 => ?_))
  have hR2 := RLd_g (L := 1) hC.1 hc2 (fun c hc => hf2 c (by omega))
  have hW2 := WL_gone (k := a) hW
  have hst := (hR2.2.2.2.2.2.2.1 (A 1 a) ho).2.2
  refine s_hasHouse (Or.inl rfl) ?_
  refine br_f (fun q => bI_0.mp q ?_) ?_
  · rw [show σ2 1 0 = nI (A 12 5) from hR2.2.1]; exact (ix_iff (by omega)).mpr ⟨_, ho, rfl⟩
  refine ald (n := 4) (j := A 1 a) rfl rfl (by omega) hst ?_
  refine ast (n := 4) (j := A 1 a) rfl rfl (by omega) ?_
  rw [nI_add]
  refine hi _ ⟨RLd_one hR2 hW2 (f := 8) (k := A 1 a) (c := 4) (i := A 1 a) (by omega), ?_⟩ (fun c hc => by rw [sgu_c (by omega)]; exact hf2 c (by omega))
  rw [sgu_c (by omega), hf2 1 (by omega)]; exact hC.2
set_option maxRecDepth 100000 in
theorem u_open {σ : Sg} {A : St} {hg : Nat} {j : Int32} {Q : Option Value → Sg → Prop} (hC : MR σ A hg) (hW : WL A) (hu : ¬ ix j (A 12 0) → Q (some (.int UNK)) σ) (hn : ∀ a, a < A 12 0 → j = nI a → ¬ (A 6 a = 0 ∧ mayB (A 12 3) (A 2 a) (A 12 1) = true) → Q (some (.int NOTT)) σ) (hi : ∀ a, a < A 12 0 → j = nI a → (A 6 a = 0 ∧ mayB (A 12 3) (A 2 a) (A 12 1) = true) → ∀ σ', MR σ' (opnA A a) hg → FrM σ σ' → Q (some (.int (nI (filA A a (A 12 1))))) σ') : MetA mX8_open [.ref 89, .int j] σ Q := by
  refine MetA_of qX8_open (Nat.le_of_ble_eq_true rfl) ?_
  refine wpB_sd (stops := []) kX8_open 80 _ _ _ _ ?_
  have h4 := hW.2.1
  have h24 := hW.1.1
  have hy := hW.1.2.1
  refine m_isJar hC.1 h24 ?_
  refine ⟨fun g => ?_, fun g => hu (fun q => bI_0.mp g ((ix_iff (by omega)).mpr q))⟩
  obtain ⟨a, ha, rfl⟩ := (ix_iff (by omega)).mp (bI_n0 g)
  have ho := hW.2.2.2.2.2.2.2 a ha
  refine ald (n := 800) (j := 0 + 177) rfl rfl (by omega) hC.1.2.1 ?_
  refine m_may (x := 0) (by omega) hC.1 hW.1 hW.2.2.2.1 ha (by omega) ?_
  refine ⟨fun g2 => ?_, fun g2 => hn a ha rfl (fun q => bI_0.mp g2 q)⟩
  have g2 := bI_n0 g2
  have hi := hi a ha rfl g2
  refine ald (n := 800) (j := 0 + 177) rfl rfl (by omega) hC.1.2.1 ?_
  refine m_filled (x := 0) (by omega) hC.1 hW.1 ha (Nat.le_refl _) (by omega) ?_
  refine ast (n := 800) (j := 0 + 144 + a) rfl (by simp only [fa_lit, nI_add]) (by omega) ?_
  have hM2 : MR (sgu σ 90 (0 + 144 + a) 1) (stu A 6 a 1) hg := MR_one (v := 1) hC hW (by omega)
  have r := hM2.1.2.2.2.2.1 a ha
  have hst := (hM2.1.2.2.2.2.2 (A 1 a) ho).2
  refine ald (n := 800) (j := 0 + 24 + a) rfl (by simp only [fa_lit, nI_add]) (by omega) r.2.1 ?_
  refine ald (n := 800) (j := 0 + 172 + A 1 a) rfl (by rw [show stu A 6 a 1 1 a = A 1 a from stu_f (by omega)]; simp only [fa_lit, nI_add]) (by omega) hst ?_
  refine ast (n := 800) (j := 0 + 172 + A 1 a) rfl (by rw [show stu A 6 a 1 1 a = A 1 a from stu_f (by omega)]; simp only [fa_lit, nI_add]) (by omega) ?_
  rw [nI_add]
  exact hi _ (MR_one hM2 (WL_gone hW) (by omega)) ((FrM.put (by omega)).tr (FrM.put (by omega)))
theorem yr_ms0 {dr : Bool} : ∀ (n : Nat) (s : Ys) (k : Nat), s.1 12 5 ≤ k → (yrR dr n s).2 k = s.2 k
  | 0, _, _, _ => rfl
  | n + 1, s, k, hk => by
    have e5 : (yrR dr n s).1 12 5 = s.1 12 5 := yrR_f (by omega) (by omega) (by omega) n s
    have hs : ∀ (m : Nat) (t : Ys), m ≤ k → (hsR dr m t).2 k = t.2 k := by
      intro m
      induction m with
      | zero => intro t _; rfl
      | succ m ih =>
        intro t hm
        rw [hsR]
        unfold hsS; dsimp only
        rw [if_neg (by omega), ih t (by omega)]
    rw [yrR]
    unfold yrS; dsimp only
    rw [hs _ _ (by omega)]; dsimp only
    exact yr_ms0 n s k hk
theorem yr_sm {dr : Bool} {n : Nat} {A : St} (h5 : A 12 5 ≤ 4) : fb_sm (yrR dr n (A, fun _ => 0)).2 4 = fb_sm (yrR dr n (A, fun _ => 0)).2 (A 12 5) := by
  obtain ⟨m, hm⟩ : ∃ m, 4 = A 12 5 + m := ⟨4 - A 12 5, by omega⟩
  rw [hm, fb_sm_split]
  have : fb_sm (fun k => (yrR dr n (A, fun _ => 0)).2 (A 12 5 + k)) m = 0 := by
    have e : (fun k => (yrR dr n (A, fun _ => 0)).2 (A 12 5 + k)) = fun _ => 0 := funext fun k => by rw [yr_ms0 n _ _ (by dsimp only; omega)]
    rw [e, fb_sm_const, Nat.mul_zero]
  omega
set_option maxRecDepth 100000 in
theorem t_year {σ : Sg} {A : St} {hg : Nat} {v : Int32} {Q : Option Value → Sg → Prop} (hC : CS σ A hg) (hW : WL A) (hy : A 12 1 + 99 < 2 ^ 19) (h9 : hg ≤ 999999999) (ho : ¬ rg v 1 99 → Q (some (.int OUT)) σ) (hi : ∀ k, 1 ≤ k → k ≤ 99 → v = nI k → ∀ σ', CS σ' (yrR false k (A, fun _ => 0)).1 (hgA hg (fb_sm (yrR false k (A, fun _ => 0)).2 4)) → FrX σ σ' → Q (some (.int (nI (fb_sm (yrR false k (A, fun _ => 0)).2 4)))) σ') : MetA mX7_year [.ref 0, .int v] σ Q := by
  refine MetA_of qX7_year (Nat.le_of_ble_eq_true rfl) ?_
  refine wpB_sd (stops := []) kX7_year 40 _ _ _ _ ?_
  refine ⟨fun g => ho (rg_lt (lo := 1) (by omega) (by omega) g), fun g => ⟨fun g2 => ?_, fun g2 => ho (rg_gt (hi := 99) (by omega) (by omega) (Int32.not_le.mp g2))⟩⟩
  obtain ⟨k, h1, h2, rfl⟩ := rg_of (lo := 1) (hi := 99) (by omega) (by omega) g (Int32.not_lt.mpr g2)
  refine mAr (by rfl) (s_pass (dr := false) (Or.inl rfl) hC.1 hW h2 (by omega) hC.2 h9 (fun σ' a b c d => ?_))
  rw [← yr_sm hW.2.1] at c ⊢
  exact hi k h1 h2 rfl σ' ⟨a, c⟩ d.x
set_option maxRecDepth 100000 in
theorem t_drift {σ : Sg} {A : St} {hg : Nat} {v : Int32} {Q : Option Value → Sg → Prop} (hC : CS σ A hg) (hW : WL A) (hy : A 12 1 + 99 < 2 ^ 19) (h9 : hg ≤ 999999999) (ho : ¬ rg v 1 99 → Q (some (.int OUT)) σ) (hi : ∀ k, 1 ≤ k → k ≤ 99 → v = nI k → ∀ σ', CS σ' (yrR true k (A, fun _ => 0)).1 (hgA hg (fb_sm (yrR true k (A, fun _ => 0)).2 4)) → FrX σ σ' → Q (some (.int (nI (fb_sm (yrR true k (A, fun _ => 0)).2 4)))) σ') : MetA mX7_drift [.ref 0, .int v] σ Q := by
  refine MetA_of qX7_drift (Nat.le_of_ble_eq_true rfl) ?_
  refine wpB_sd (stops := []) kX7_drift 40 _ _ _ _ ?_
  refine ⟨fun g => ho (rg_lt (lo := 1) (by omega) (by omega) g), fun g => ⟨fun g2 => ?_, fun g2 => ho (rg_gt (hi := 99) (by omega) (by omega) (Int32.not_le.mp g2))⟩⟩
  obtain ⟨k, h1, h2, rfl⟩ := rg_of (lo := 1) (hi := 99) (by omega) (by omega) g (Int32.not_lt.mpr g2)
  refine mAr (by rfl) (s_pass (dr := true) (Or.inl rfl) hC.1 hW h2 (by omega) hC.2 h9 (fun σ' a b c d => ?_))
  rw [← yr_sm hW.2.1] at c ⊢
  exact hi k h1 h2 rfl σ' ⟨a, c⟩ d.x
set_option maxRecDepth 100000 in
theorem u_year {σ : Sg} {A : St} {hg : Nat} {v : Int32} {Q : Option Value → Sg → Prop} (hC : MR σ A hg) (hW : WL A) (hy : A 12 1 + 99 < 2 ^ 19) (h9 : hg ≤ 999999999) (ho : ¬ rg v 1 99 → Q (some (.int OUT)) σ) (hi : ∀ k, 1 ≤ k → k ≤ 99 → v = nI k → ∀ σ', MR σ' (yrR false k (A, fun _ => 0)).1 (hgA hg (fb_sm (yrR false k (A, fun _ => 0)).2 4)) → FrM σ σ' → Q (some (.int (nI (fb_sm (yrR false k (A, fun _ => 0)).2 4)))) σ') : MetA mX8_year [.ref 89, .int v] σ Q := by
  refine MetA_of qX8_year (Nat.le_of_ble_eq_true rfl) ?_
  have key : ∀ k, 1 ≤ k → k ≤ 99 → v = nI k → ∀ σ1, PS 0 σ1 (A, fun _ => 0) hg → FrM σ σ1 → V mX8_year 21 [(0, .ref 89), (1, .int (nI k)), (2, .int (nI 0))] [] σ1 Q := by
    intro k h1 h2 hv σ1 hP hF
    refine m_passes (mm := mX8_year) (pc0 := 21) (lv := fun i => [(0, .ref 89), (1, .int (nI k)), (2, .int (nI i))]) (s0 := (A, fun _ => 0)) (σ := σ1) (x := 0) (n := k) (h0 := hg) (by omega) hW (by dsimp only; omega) (fun σ' a b => ?_) (fun i σi hi hp hk => ?_) k 0 σ1 (by omega) hP FrP.rf
    · refine wpB_sd (stops := [21]) kX8_year 30 _ _ _ _ ?_
      refine br_t (nI_le (by omega) (by omega)) ?_
      refine m_all a.2.2.1 ?_
      exact hi k h1 h2 hv σ' ⟨a.1, a.2.1, a.2.2.2⟩ (hF.tr (b.m (by omega)))
    · refine wpB_sd (stops := [21]) kX8_year 30 _ _ _ _ ?_
      refine br_f (nI_ge hi (by omega)) ?_
      refine hp _ (fun σ' a b => ?_)
      have := hk σ' a b
      rw [← nI_1] at this
      exact this
  refine wpB_sd (stops := [21]) kX8_year 40 _ _ _ _ ?_
  refine m_inI (lo := nI 1) (hi := nI 99) rfl rfl ?_
  refine ⟨fun g => ?_, fun g => ho (fun q => bI_0.mp g ((rg_iff (by omega) (by omega)).mpr q))⟩
  obtain ⟨k, h1, h2, rfl⟩ := (rg_iff (by omega) (by omega)).mp (bI_n0 g)
  refine m_clear (fun σ1 c1 c2 => ?_)
  exact key k h1 h2 rfl σ1 (PS_0 (RMr.fr hC.1 hW.1.1 hW.2.1 (fun k _ _ _ => by rw [c2 90 (by omega)])) (hC.2.1.fr (fun c hc => c2 c (by omega))) c1 (by rw [c2 90 (by omega)]; exact hC.2.2) h9) ⟨fun c _ hc => c2 c hc, fun k _ => by rw [c2 90 (by omega)]⟩
end
section
/-! the reference's drift -/
theorem MR_seed {σ : Sg} {A : St} {hg v : Nat} (h : MR σ A hg) (hW : WL A) : MR (sgu σ 90 180 (nI v)) (stu A 12 4 v) hg := MR_one h hW (by omega)
theorem PS_draw {σ : Sg} {s : Ys} {h0 v : Nat} (hP : PS 0 σ s h0) (hW : WL s.1) : PS 0 (sgu σ 90 180 (nI v)) (stu s.1 12 4 v, s.2) h0 :=
  ⟨RMr_one hP.1 hW (by omega), RMg_one hP.2.1 (fun c hc => sgu_c (by omega)) (by omega) (by omega) (by omega), fun k hk => by rw [sgu_c (by omega)]; exact hP.2.2.1 k hk, by rw [sgu_k (by omega)]; exact hP.2.2.2⟩
theorem PS_gone {σ : Sg} {s : Ys} {h0 k v : Nat} (hP : PS 0 σ s h0) (hW : WL s.1) (hk : k < 24) : PS 0 (sgu σ 90 (0 + 144 + k) (nI v)) (stu s.1 6 k v, s.2) h0 :=
  ⟨RMr_one hP.1 hW (by omega), RMg_one hP.2.1 (fun c hc => sgu_c (by omega)) (by omega) (by omega) (by omega), fun k hk => by rw [sgu_c (by omega)]; exact hP.2.2.1 k hk, by rw [sgu_k (by omega)]; exact hP.2.2.2⟩
theorem stu_id {A : St} {f k v : Nat} (h : A f k = v) : stu A f k v = A := by
  funext g j
  by_cases q : g = f ∧ j = k
  · obtain ⟨rfl, rfl⟩ := q; rw [stu_s, h]
  · exact if_neg q
theorem FrP.put {x k : Nat} {v : Int32} {σ : Sg} (h : x ≤ k) (h2 : k < x + 200) : FrP x σ (sgu σ 90 k v) := ⟨fun c hc _ => sgu_c hc, fun i hi => sgu_k (by omega)⟩
set_option maxRecDepth 100000 in
set_option maxHeartbeats 2000000 in
theorem u_drift {σ : Sg} {A : St} {hg : Nat} {v : Int32} {Q : Option Value → Sg → Prop} (hC : MR σ A hg) (hW : WL A) (hy : A 12 1 + 99 < 2 ^ 19) (h9 : hg ≤ 999999999) (ho : ¬ rg v 1 99 → Q (some (.int OUT)) σ) (hi : ∀ k, 1 ≤ k → k ≤ 99 → v = nI k → ∀ σ', MR σ' (yrR true k (A, fun _ => 0)).1 (hgA hg (fb_sm (yrR true k (A, fun _ => 0)).2 4)) → FrM σ σ' → Q (some (.int (nI (fb_sm (yrR true k (A, fun _ => 0)).2 4)))) σ') : MetA mX8_drift [.ref 89, .int v] σ Q := by
  refine MetA_of qX8_drift (Nat.le_of_ble_eq_true rfl) ?_
  -- the houses of a year by draws
  have r146 : ∀ (n k : Nat) (m hh : Nat) (σ' : Sg) (s0 : Ys), WL s0.1 → s0.1 12 1 < 2 ^ 19 → hh + m = s0.1 12 5 → PS 0 σ' (hsR true hh s0) hg → FrP 0 σ σ' →
      (∀ σ'', PS 0 σ'' (hsR true (s0.1 12 5) s0) hg → FrP 0 σ σ'' → V mX8_drift 182 [(0, .ref 89), (1, .int (nI n)), (2, .int (nI k))] [] σ'' Q) →
      V mX8_drift 146 [(0, .ref 89), (1, .int (nI n)), (2, .int (nI k)), (3, .int (nI hh))] [] σ' Q := by
    intro n k m
    induction m with
    | zero =>
      intro hh σ' s0 hW0 hy0 hi hP hF hQ
      have h4 := hW0.2.1
      have e5 : (hsR true hh s0).1 12 5 = s0.1 12 5 := hsR_f (by omega) (by omega) (by omega) _ _
      have h0h := hP.2.1.1
      rw [e5] at h0h
      have hi : hh = s0.1 12 5 := by omega
      subst hi
      refine wpB_sd (stops := [146, 182]) kX8_drift 30 _ _ _ _ ?_
      refine br_t (by rw [h0h]; exact nI_le (by omega) (by omega)) ?_
      exact V.take 3 (hQ σ' hP hF)
    | succ m ih =>
      intro hh σ' s0 hW0 hy0 hi hP hF hQ
      have h4 := hW0.2.1
      have hWh := hsR_WL (dr := true) hh hW0 (by omega) hy0
      have hWn := hsR_WL (dr := true) (hh + 1) hW0 (by omega) hy0
      have e5 : (hsR true hh s0).1 12 5 = s0.1 12 5 := hsR_f (by omega) (by omega) (by omega) _ _
      have ey : (hsR true hh s0).1 12 1 = s0.1 12 1 := hsR_f (by omega) (by omega) (by omega) _ _
      have h0h := hP.2.1.1
      rw [e5] at h0h
      have hlv := hsV_le (dr := true) hWh
      have hW1 := hsA1_WL (dr := true) hWh
      have e51 : hsA1 true (hsR true hh s0).1 12 5 = s0.1 12 5 := by rw [hsA1_f (by omega), e5]
      have ey1 : hsA1 true (hsR true hh s0).1 12 1 = s0.1 12 1 := by rw [hsA1_f (by omega), ey]
      have hsm := sm_hs (dr := true) (s := hsR true hh s0) (show hh < 4 by omega)
      have hle := eatA_le (A := hsA1 true (hsR true hh s0).1) (hh := hh) (harv := hsV true (hsR true hh s0).1)
      have hw9 := (hW1.2.2.2.2.2.1 hh (by omega)).1
      have hcap := hgA_le (h0 := hg) (t := fb_sm (hsR true hh s0).2 4)
      refine wpB_sd (stops := [146, 182]) kX8_drift 30 _ _ _ _ ?_
      refine br_f (by rw [h0h]; exact nI_ge (by omega) (by omega)) ?_
      refine mAr (by rfl) (m_draw (n := 30) hP.1.2.2.2.1 hWh.2.2.2.2.1 (by omega) (by omega) ?_)
      have hP1 := PS_draw (v := drA ((hsR true hh s0).1 12 4)) hP hWh
      rw [← hsA1_t] at hP1
      refine mAr (by rw [hsV_t]; rfl) (m_eat (x := 0) (A := hsA1 true (hsR true hh s0).1) (hh := hh) (harv := hsV true (hsR true hh s0).1) (by omega) hP1.1 hP1.2.1 hW1 (by omega) hlv (by omega) (fun σ2 hR2 hF2 => ?_))
      have hF1 : FrP 0 σ' (sgu σ' 90 180 (nI (drA ((hsR true hh s0).1 12 4)))) := FrP.put (by omega) (by omega)
      have h97 : σ2 97 = σ' 97 := by rw [hF2.1 97 (by omega), sgu_c (by omega)]
      have h178 : σ2 90 (0 + 178) = σ' 90 (0 + 178) := by rw [hF2.2 _ (by omega), sgu_k (by omega)]
      refine mAr (by rfl) (m_hunger (x := 0) (hh := hh) (m := (eatA (hsA1 true (hsR true hh s0).1) hh (hsV true (hsR true hh s0).1)).2) (a := (hsR true hh s0).2 hh) (b := hgA hg (fb_sm (hsR true hh s0).2 4)) (by omega) (by omega) (by rw [h97]; exact hP.2.2.1 hh (by omega)) (by rw [h178]; exact hP.2.2.2) (by omega) ?_)
      rw [hgA_add, ← hsm]
      have key := PS.hs (dr := true) (k := hh) (by omega) hP (by omega) hWn.1.1 (by omega) hR2 (hF1.tr hF2.p) h97 h178 rfl
      have nxt := ih (hh + 1) _ s0 hW0 hy0 (by omega) key.1 (hF.tr key.2) hQ
      rw [← nI_1] at nxt
      exact V.take 4 nxt
  -- the bursting
  have r28 : ∀ (n k : Nat) (m j : Nat) (σ' : Sg) (s0 : Ys), WL s0.1 → j + m = s0.1 12 0 → PS 0 σ' (buR j s0.1, s0.2) hg → FrP 0 σ σ' →
      (∀ σ'', PS 0 σ'' (buR (s0.1 12 0) s0.1, s0.2) hg → FrP 0 σ σ'' → V mX8_drift 144 [(0, .ref 89), (1, .int (nI n)), (2, .int (nI k))] [] σ'' Q) →
      V mX8_drift 28 [(0, .ref 89), (1, .int (nI n)), (2, .int (nI k)), (3, .int (nI j))] [] σ' Q := by
    intro n k m
    induction m with
    | zero =>
      intro j σ' s0 hW0 hi hP hF hQ
      have h24 := hW0.1.1
      have e0 : buR j s0.1 12 0 = s0.1 12 0 := buR_f (by omega) (by omega) _ _
      have h0h := hP.1.1
      dsimp only at h0h
      rw [e0] at h0h
      have hi : j = s0.1 12 0 := by omega
      subst hi
      refine wpB_sd (stops := [28, 144]) kX8_drift 30 _ _ _ _ ?_
      refine ald (n := 800) (j := 0 + 176) rfl rfl (by omega) h0h ?_
      refine br_t (nI_le (by omega) (by omega)) ?_
      exact V.take 3 (hQ σ' hP hF)
    | succ m ih =>
      intro j σ' s0 hW0 hi hP hF hQ
      have h24 := hW0.1.1
      have hWj := buR_WL j hW0
      have e0 : buR j s0.1 12 0 = s0.1 12 0 := buR_f (by omega) (by omega) _ _
      have h0h := hP.1.1
      dsimp only at h0h
      rw [e0] at h0h
      have hj : j < buR j s0.1 12 0 := by omega
      have r := hP.1.2.2.2.2.1 j hj
      dsimp only at r
      obtain ⟨r0, r1, r2, r3, r4, r5, r6⟩ := r
      obtain ⟨w0, w1, w2, w3, w4, w5, w6⟩ := hWj.1.2.2 j hj
      have hyy := hWj.1.2.1
      have nx : ∀ σ2, PS 0 σ2 (buS (buR j s0.1) j, s0.2) hg → FrP 0 σ σ2 → V mX8_drift 28 [(0, .ref 89), (1, .int (nI n)), (2, .int (nI k)), (3, .int (nI j + 1))] [] σ2 Q := by
        intro σ2 a b
        have := ih (j + 1) σ2 s0 hW0 (by omega) a b hQ
        rw [← nI_1] at this
        exact this
      have c98 : ∀ cb : Int32, (cb = 1 → buC (buR j s0.1) j = true) → (cb = 0 → ¬ buC (buR j s0.1) j = true) → (cb = 0 ∨ cb = 1) → V mX8_drift 98 [(0, .ref 89), (1, .int (nI n)), (2, .int (nI k)), (3, .int (nI j))] [.int cb] σ' Q := by
        intro cb hc1 hc0 hor
        refine wpB_sd (stops := [28]) kX8_drift 60 _ _ _ _ ?_
        refine ⟨fun g => ?_, fun g => ?_⟩
        · refine ald (n := 800) (j := 0 + 144 + j) rfl (by simp only [fa_lit, nI_add]) (by omega) r6 ?_
          refine ast (n := 800) (j := 0 + 144 + j) rfl (by simp only [fa_lit, nI_add]) (by omega) ?_
          refine V.take 4 ?_
          have hPg := PS_gone (k := j) (v := buR j s0.1 6 j) hP hWj (by omega)
          dsimp only at hPg
          rw [stu_id rfl] at hPg
          rw [buS_no (hc0 g)] at nx
          exact nx _ hPg (hF.tr (FrP.put (by omega) (by omega)))
        · have hc := hc1 (by rcases hor with q | q; exact absurd q g; exact q)
          have eS : buS (buR j s0.1) j = if drA (buR j s0.1 12 4) / 65536 % 10 = 0 then stu (stu (buR j s0.1) 12 4 (drA (buR j s0.1 12 4))) 6 j 1 else stu (buR j s0.1) 12 4 (drA (buR j s0.1 12 4)) := by rw [buS, if_pos hc]
          have hmod : drA (buR j s0.1 12 4) / 65536 % 10 < 10 := Nat.mod_lt _ (by omega)
          refine mAr (by rfl) (m_draw (A := buR j s0.1) (n := 10) hP.1.2.2.2.1 hWj.2.2.2.2.1 (by omega) (by omega) ?_)
          have hP1 := PS_draw (v := drA (buR j s0.1 12 4)) hP hWj
          dsimp only at hP1
          have hW1 := WL_seed hWj (drA_lt (buR j s0.1 12 4))
          have hF1 := hF.tr (FrP.put (σ := σ') (x := 0) (k := 180) (v := nI (drA (buR j s0.1 12 4))) (by omega) (by omega))
          refine ⟨fun g2 => ?_, fun g2 => ?_⟩
          · have g2 : ¬ drA (buR j s0.1 12 4) / 65536 % 10 = 0 := fun q => g2 (by rw [q]; rfl)
            rw [eS, if_neg g2] at nx
            have r6' : sgu σ' 90 180 (nI (drA (buR j s0.1 12 4))) 90 (0 + 144 + j) = nI (buR j s0.1 6 j) := by rw [sgu_k (by omega)]; exact r6
            refine ald (n := 800) (j := 0 + 144 + j) rfl (by simp only [fa_lit, nI_add]) (by omega) r6' ?_
            refine ast (n := 800) (j := 0 + 144 + j) rfl (by simp only [fa_lit, nI_add]) (by omega) ?_
            refine V.take 4 ?_
            have hPg := PS_gone (k := j) (v := buR j s0.1 6 j) hP1 hW1 (by omega)
            dsimp only at hPg
            rw [stu_id (A := stu (buR j s0.1) 12 4 (drA (buR j s0.1 12 4))) (stu_f (by omega))] at hPg
            exact nx _ hPg (hF1.tr (FrP.put (by omega) (by omega)))
          · have g2 : drA (buR j s0.1 12 4) / 65536 % 10 = 0 := (nI_eq (b := 0) (by omega) (by omega)).mp g2
            rw [eS, if_pos g2] at nx
            refine ast (n := 800) (j := 0 + 144 + j) rfl (by simp only [fa_lit, nI_add]) (by omega) ?_
            refine V.take 4 ?_
            exact nx _ (PS_gone (k := j) (v := 1) hP1 hW1 (by omega)) (hF1.tr (FrP.put (by omega) (by omega)))
      refine wpB_sd (stops := [98]) kX8_drift 60 _ _ _ _ ?_
      refine ald (n := 800) (j := 0 + 176) rfl rfl (by omega) h0h ?_
      refine br_f (nI_ge (by omega) (by omega)) ?_
      refine ald (n := 800) (j := 0 + 144 + j) rfl (by simp only [fa_lit, nI_add]) (by omega) r6 ?_
      refine ⟨fun g => ?_, fun g => ?_⟩
      · have g : ¬ buR j s0.1 6 j = 0 := fun q => g (by rw [q]; rfl)
        exact V.take 4 (c98 0 (fun q => absurd q (by decide)) (fun _ => by simp [buC, g]) (Or.inl rfl))
      · have g : buR j s0.1 6 j = 0 := (nI_eq (b := 0) (by omega) (by omega)).mp g
        refine ald (n := 800) (j := 0 + j) rfl (by rw [Nat.zero_add]) (by omega) r0 ?_
        refine ⟨fun g2 => ?_, fun g2 => ?_⟩
        · have g2 : buR j s0.1 0 j = 2 := (nI_eq (b := 2) (by omega) (by omega)).mp g2
          exact V.take 4 (c98 0 (fun q => absurd q (by decide)) (fun _ => by simp [buC, g2]) (Or.inl rfl))
        · have g2 : ¬ buR j s0.1 0 j = 2 := fun q => g2 (by rw [q]; rfl)
          refine ald (n := 800) (j := 0 + 177) rfl rfl (by omega) hP.1.2.1 ?_
          refine ald (n := 800) (j := 0 + 120 + j) rfl (by simp only [fa_lit, nI_add]) (by omega) r5 ?_
          refine ald (n := 800) (j := 0 + 96 + j) rfl (by simp only [fa_lit, nI_add]) (by omega) r4 ?_
          refine ⟨fun g3 => ?_, fun g3 => ?_⟩
          · rw [pk_sub w5] at g3
            have g3 := (nI_leI (by omega) (by omega)).mp g3
            exact V.take 4 (c98 0 (fun q => absurd q (by decide)) (fun _ => by simp only [buC, decide_eq_true_eq]; omega) (Or.inl rfl))
          · have g3 : ¬ buR j s0.1 12 1 - buR j s0.1 5 j ≤ buR j s0.1 4 j := fun q => g3 (by rw [pk_sub w5]; exact nI_le q (by omega))
            exact V.take 4 (c98 1 (fun _ => by simp only [buC, decide_eq_true_eq]; omega) (fun q => absurd q (by decide)) (Or.inr rfl))
  -- the years
  have r21 : ∀ (n : Nat), 1 ≤ n → n ≤ 99 → v = nI n → ∀ (m k : Nat) (σ' : Sg), k + m = n → PS 0 σ' (yrR true k (A, fun _ => 0)) hg → FrP 0 σ σ' → V mX8_drift 21 [(0, .ref 89), (1, .int (nI n)), (2, .int (nI k))] [] σ' Q := by
    intro n h1 h2 hv m
    induction m with
    | zero =>
      intro k σ' hi2 hP hF
      have hi2 : k = n := by omega
      subst hi2
      refine wpB_sd (stops := [21]) kX8_drift 30 _ _ _ _ ?_
      refine br_t (nI_le (by omega) (by omega)) ?_
      refine m_all hP.2.2.1 ?_
      exact hi k h1 h2 hv σ' ⟨hP.1, hP.2.1, hP.2.2.2⟩ (hF.m (by omega))
    | succ m ih =>
      intro k σ' hi2 hP hF
      have hWk := yrR_WL (dr := true) k (s := (A, fun _ => 0)) hW (by dsimp only; omega)
      have hyk : (yrR true k (A, fun _ => 0)).1 12 1 = A 12 1 + k := yrR_y k _
      have hWb := buR_WL ((yrR true k (A, fun _ => 0)).1 12 0) hWk
      have e5b : buR ((yrR true k (A, fun _ => 0)).1 12 0) (yrR true k (A, fun _ => 0)).1 12 5 = (yrR true k (A, fun _ => 0)).1 12 5 := buR_f (by omega) (by omega) _ _
      have eyb : buR ((yrR true k (A, fun _ => 0)).1 12 0) (yrR true k (A, fun _ => 0)).1 12 1 = A 12 1 + k := by rw [buR_f (by omega) (by omega), hyk]
      have r182 : ∀ σ'', PS 0 σ'' (hsR true (buR ((yrR true k (A, fun _ => 0)).1 12 0) (yrR true k (A, fun _ => 0)).1 12 5) (buR ((yrR true k (A, fun _ => 0)).1 12 0) (yrR true k (A, fun _ => 0)).1, (yrR true k (A, fun _ => 0)).2)) hg → FrP 0 σ σ'' → V mX8_drift 182 [(0, .ref 89), (1, .int (nI n)), (2, .int (nI k))] [] σ'' Q := by
        intro σ'' hP2 hF2
        have hW2 := hsR_WL (dr := true) (buR ((yrR true k (A, fun _ => 0)).1 12 0) (yrR true k (A, fun _ => 0)).1 12 5) (s := (buR ((yrR true k (A, fun _ => 0)).1 12 0) (yrR true k (A, fun _ => 0)).1, (yrR true k (A, fun _ => 0)).2)) hWb (Nat.le_refl _) (by dsimp only; omega)
        have ey2 : (hsR true (buR ((yrR true k (A, fun _ => 0)).1 12 0) (yrR true k (A, fun _ => 0)).1 12 5) (buR ((yrR true k (A, fun _ => 0)).1 12 0) (yrR true k (A, fun _ => 0)).1, (yrR true k (A, fun _ => 0)).2)).1 12 1 = A 12 1 + k := by
          rw [hsR_f (by omega) (by omega) (by omega)]; exact eyb
        have hyr := hP2.1.2.1
        rw [ey2] at hyr
        refine wpB_sd (stops := [21]) kX8_drift 30 _ _ _ _ ?_
        refine ald (n := 800) (j := 0 + 177) rfl rfl (by omega) hyr ?_
        refine ast (n := 800) (j := 0 + 177) rfl rfl (by omega) ?_
        rw [nI_1]
        have hPy := hP2.yr (v := A 12 1 + k + 1) (by omega) hW2.1.1 hW2.2.1
        have nxt := ih (k + 1) _ (by omega) (by
          rw [yrR]
          unfold yrS
          rw [yrB_t, hyk, ← e5b]
          exact hPy) (hF2.tr (FrP.put (by omega) (by omega)))
        rw [← nI_1] at nxt
        exact nxt
      have r144 : ∀ σ'', PS 0 σ'' (buR ((yrR true k (A, fun _ => 0)).1 12 0) (yrR true k (A, fun _ => 0)).1, (yrR true k (A, fun _ => 0)).2) hg → FrP 0 σ σ'' → V mX8_drift 144 [(0, .ref 89), (1, .int (nI n)), (2, .int (nI k))] [] σ'' Q := by
        intro σ'' hP2 hF2
        refine wpB_sd (stops := [146]) kX8_drift 30 _ _ _ _ ?_
        exact r146 n k _ 0 σ'' (buR ((yrR true k (A, fun _ => 0)).1 12 0) (yrR true k (A, fun _ => 0)).1, (yrR true k (A, fun _ => 0)).2) hWb (by dsimp only; omega) (Nat.zero_add _) hP2 hF2 r182
      refine wpB_sd (stops := [28]) kX8_drift 30 _ _ _ _ ?_
      refine br_f (nI_ge (by omega) (by omega)) ?_
      refine V.take 4 ?_
      exact r28 n k _ 0 σ' (yrR true k (A, fun _ => 0)) hWk (Nat.zero_add _) hP hF r144
  refine wpB_sd (stops := [21]) kX8_drift 40 _ _ _ _ ?_
  refine m_inI (lo := nI 1) (hi := nI 99) rfl rfl ?_
  refine ⟨fun g => ?_, fun g => ho (fun q => bI_0.mp g ((rg_iff (by omega) (by omega)).mpr q))⟩
  obtain ⟨k, h1, h2, rfl⟩ := (rg_iff (by omega) (by omega)).mp (bI_n0 g)
  refine m_clear (fun σ1 c1 c2 => ?_)
  exact r21 k h1 h2 rfl k 0 σ1 (Nat.zero_add _) (PS_0 (RMr.fr hC.1 hW.1.1 hW.2.1 (fun k _ _ _ => by rw [c2 90 (by omega)])) (hC.2.1.fr (fun c hc => c2 c (by omega))) c1 (by rw [c2 90 (by omega)]; exact hC.2.2) h9) ⟨fun c _ hc => c2 c hc, fun k _ => by rw [c2 90 (by omega)]⟩
end
section
/-! told, house, jar, fault, older, write, tear -/
/-- glass and book: fields 0 elder, 1 younger, 2 years, 3 jars; 4: how many of both -/
def RCb (σ : Sg) (B : St) : Prop := σ 81 0 = nI (B 4 0) ∧ (∀ k, k < B 4 0 → σ 82 k = nI (B 0 k) ∧ σ 83 k = nI (B 1 k)) ∧ σ 85 0 = nI (B 4 1) ∧ ∀ k, k < B 4 1 → σ 86 k = nI (B 2 k) ∧ σ 87 k = nI (B 3 k)
def RMb (σ : Sg) (B : St) : Prop := σ 89 24 = nI (B 4 0) ∧ (∀ k, k < B 4 0 → σ 100 k = nI (B 0 k) ∧ σ 101 k = nI (B 1 k)) ∧ σ 89 27 = nI (B 4 1) ∧ ∀ k, k < B 4 1 → σ 102 k = nI (B 2 k) ∧ σ 103 k = nI (B 3 k)
def WB (B : St) : Prop := B 4 0 ≤ 12 ∧ B 4 1 ≤ 30 ∧ (∀ k, k < B 4 0 → B 0 k < 24 ∧ B 1 k < 24) ∧ ∀ k, k < B 4 1 → B 2 k ≤ 9999 ∧ B 3 k < 24
def tldI (A B : St) (hg : Nat) (tl w : Int32) : Int32 :=
  if w.toInt = 0 then nI (A 12 5) else if w.toInt = 1 then nI (A 12 0) else if w.toInt = 2 then tl else if w.toInt = 3 then nI (A 12 1) else if w.toInt = 4 then nI (A 12 3) else if w.toInt = 5 then nI (harvA A (A 12 1)) else if w.toInt = 6 then nI hg else if w.toInt = 7 then nI (bset (A 6) (A 12 0)) else if w.toInt = 8 then nI (B 4 0) else if w.toInt = 9 then nI (B 4 1) else OUT
set_option maxRecDepth 100000 in
theorem t_told {σ : Sg} {A B : St} {hg : Nat} {w : Int32} {Q : Option Value → Sg → Prop} (hC : CS σ A hg) (hW : WL A) (hB : RCb σ B) (h : Q (some (.int (tldI A B hg (σ 55 1) w))) σ) : MetA mX7_told [.ref 0, .int w] σ Q := by
  refine MetA_of qX7_told (Nat.le_of_ble_eq_true rfl) ?_
  refine wpB_sd (stops := []) kX7_told 40 _ _ _ _ ?_
  have hR := hC.1
  have hy := hW.1.2.1
  refine ⟨fun g => ?_, fun g => ?_, fun g => ?_, fun g => ?_, fun g => ?_, fun g => ?_, fun g => ?_, fun g => ?_, fun g => ?_, fun g => ?_, fun g => ?_, trivial⟩
  · refine fin_i h ?_
    unfold tldI
    repeat rw [if_neg (by omega)]
  · exact fin_i h (by rw [tldI, if_pos g]; exact hR.2.1)
  · exact fin_i h (by unfold tldI; repeat rw [if_neg (by omega)]
                      rw [if_pos (by omega)]; exact hR.1.1)
  · exact fin_i h (by unfold tldI; repeat rw [if_neg (by omega)]
                      rw [if_pos (by omega)])
  · exact fin_i h (by unfold tldI; repeat rw [if_neg (by omega)]
                      rw [if_pos (by omega)]; exact hR.2.2.2.1)
  · exact fin_i h (by unfold tldI; repeat rw [if_neg (by omega)]
                      rw [if_pos (by omega)]; exact hR.2.2.2.2.1)
  · refine mAr (by rw [show σ 1 7 = nI (A 12 1) from hR.2.2.2.1]) (s_harvestOf (t := A 12 1) (Or.inl rfl) hR hW (by omega) ?_)
    exact fin_i h (by unfold tldI; repeat rw [if_neg (by omega)]
                      rw [if_pos (by omega)])
  · exact fin_i h (by unfold tldI; repeat rw [if_neg (by omega)]
                      rw [if_pos (by omega)]; exact hC.2)
  · exact fin_i h (by unfold tldI; repeat rw [if_neg (by omega)]
                      rw [if_pos (by omega)]; exact hR.1.2.1)
  · exact fin_i h (by unfold tldI; repeat rw [if_neg (by omega)]
                      rw [if_pos (by omega)]; exact hB.1)
  · exact fin_i h (by unfold tldI; repeat rw [if_neg (by omega)]
                      rw [if_pos (by omega)]; exact hB.2.2.1)
set_option maxRecDepth 100000 in
theorem m_gone {σ : Sg} {A : St} {Q : Option Value → Sg → Prop} (hR : RMr 0 σ A) (hW : WJ A) (h : Q (some (.int (nI (bset (A 6) (A 12 0))))) σ) : MetA mX8_gone [.ref 89] σ Q := by
  refine MetA_of qX8_gone (Nat.le_of_ble_eq_true rfl) ?_
  have hm := hW.1
  have loop : ∀ n i, i + n = A 12 0 → V mX8_gone 4 [(0, .ref 89), (1, .int (nI (bset (A 6) i))), (2, .int (nI i))] [] σ Q := by
    intro n
    induction n with
    | zero =>
      intro i hi
      have hi : i = A 12 0 := by omega
      subst hi
      refine wpB_sd (stops := [4]) kX8_gone 20 _ _ _ _ ?_
      refine ald (n := 800) (j := 0 + 176) rfl rfl (by omega) hR.1 ?_
      exact br_t (nI_le (by omega) (by omega)) h
    | succ n ih =>
      intro i hi
      have ih := ih (i + 1) (by omega)
      have hw6 := (hW.2.2 i (by omega)).2.2.2.2.2.2
      refine wpB_sd (stops := [4]) kX8_gone 60 _ _ _ _ ?_
      refine ald (n := 800) (j := 0 + 176) rfl rfl (by omega) hR.1 ?_
      refine br_f (nI_ge (by omega) (by omega)) ?_
      refine ald (n := 800) (j := 0 + 144 + i) rfl (by simp only [fa_lit, nI_add]) (by omega) (hR.2.2.2.2.1 i (by omega)).2.2.2.2.2.2 ?_
      have e : nI (bset (A 6) i) ||| (nI (A 6 i) <<< (nI i &&& 31)) = nI (bset (A 6) (i + 1)) := by
        by_cases q : A 6 i = 1
        · rw [q]; exact bset_s1 q (by omega)
        · have q0 : A 6 i = 0 := by omega
          rw [q0, bset_s0 q, pk_shlN (n := 0) (nI i &&& 31) i (s_l i (by omega)) (by omega), fa_or]
          simp
      rw [← e, ← nI_1] at ih
      exact ih
  refine wpB_sd (stops := [4]) kX8_gone 20 _ _ _ _ ?_
  exact loop (A 12 0) 0 (by omega)
set_option maxRecDepth 100000 in
theorem u_told {σ : Sg} {A B : St} {hg : Nat} {w : Int32} {Q : Option Value → Sg → Prop} (hC : MR σ A hg) (hW : WL A) (hB : RMb σ B) (h : Q (some (.int (tldI A B hg (σ 89 12) w))) σ) : MetA mX8_told [.ref 89, .int w] σ Q := by
  refine MetA_of qX8_told (Nat.le_of_ble_eq_true rfl) ?_
  refine wpB_sd (stops := []) kX8_told 40 _ _ _ _ ?_
  have hR := hC.1
  have hy := hW.1.2.1
  refine ⟨fun g => ?_, fun g => ?_, fun g => ?_, fun g => ?_, fun g => ?_, fun g => ?_, fun g => ?_, fun g => ?_, fun g => ?_, fun g => ?_, fun g => ?_, trivial⟩
  · refine fin_i h ?_
    unfold tldI
    repeat rw [if_neg (by omega)]
  · exact fin_i h (by rw [tldI, if_pos g]; exact hC.2.1.1)
  · refine ald (n := 800) (j := 0 + 176) rfl rfl (by omega) hR.1 ?_
    exact fin_i h (by unfold tldI; repeat rw [if_neg (by omega)]
                      rw [if_pos (by omega)])
  · exact fin_i h (by unfold tldI; repeat rw [if_neg (by omega)]
                      rw [if_pos (by omega)])
  · refine ald (n := 800) (j := 0 + 177) rfl rfl (by omega) hR.2.1 ?_
    exact fin_i h (by unfold tldI; repeat rw [if_neg (by omega)]
                      rw [if_pos (by omega)])
  · refine ald (n := 800) (j := 0 + 179) rfl rfl (by omega) hR.2.2.1 ?_
    exact fin_i h (by unfold tldI; repeat rw [if_neg (by omega)]
                      rw [if_pos (by omega)])
  · refine ald (n := 800) (j := 0 + 177) rfl rfl (by omega) hR.2.1 ?_
    refine m_harvestOf hC.2.1 hW.2.2.1 (by omega) ?_
    exact fin_i h (by unfold tldI; repeat rw [if_neg (by omega)]
                      rw [if_pos (by omega)])
  · refine ald (n := 800) (j := 178) rfl rfl (by omega) hC.2.2 ?_
    exact fin_i h (by unfold tldI; repeat rw [if_neg (by omega)]
                      rw [if_pos (by omega)])
  · refine m_gone hR hW.1 ?_
    exact fin_i h (by unfold tldI; repeat rw [if_neg (by omega)]
                      rw [if_pos (by omega)])
  · exact fin_i h (by unfold tldI; repeat rw [if_neg (by omega)]
                      rw [if_pos (by omega)]; exact hB.1)
  · exact fin_i h (by unfold tldI; repeat rw [if_neg (by omega)]
                      rw [if_pos (by omega)]; exact hB.2.2.1)
def hseI (A : St) (a : Nat) (w : Int32) : Int32 :=
  if w.toInt = 0 then nI (A 9 a) else if w.toInt = 1 then nI (A 7 a) else if w.toInt = 2 then nI (A 8 a) else if w.toInt = 3 then nI (bset (ofA A a) (A 12 0)) else if w.toInt = 4 then nI (bset (opA A a (A 12 3) (A 12 1)) (A 12 0)) else OUT
set_option maxRecDepth 100000 in
theorem t_house {σ : Sg} {A : St} {hg : Nat} {x w : Int32} {Q : Option Value → Sg → Prop} (hC : CS σ A hg) (hW : WL A) (hu : ¬ ix x (A 12 5) → Q (some (.int UNK)) σ) (h : ∀ a, a < A 12 5 → x = nI a → Q (some (.int (hseI A a w))) σ) : MetA mX7_house [.ref 0, .int x, .int w] σ Q := by
  refine MetA_of qX7_house (Nat.le_of_ble_eq_true rfl) ?_
  refine wpB_sd (stops := []) kX7_house 40 _ _ _ _ ?_
  have hR := hC.1
  have h4 := hW.2.1
  have hy := hW.1.2.1
  refine s_hasHouse (Or.inl rfl) ?_
  refine ⟨fun g => ?_, fun g => hu (fun q => bI_0.mp g (by rw [show σ 1 0 = nI (A 12 5) from hR.2.1]; exact (ix_iff (by omega)).mpr q))⟩
  have hix : ix x (A 12 5) := (ix_iff (by omega)).mp (by have := bI_n0 g; rw [show σ 1 0 = nI (A 12 5) from hR.2.1] at this; exact this)
  obtain ⟨a, ha, rfl⟩ := hix
  have h := h a ha rfl
  have r := hR.2.2.2.2.2.2.1 a ha
  refine ⟨fun g => ?_, fun g => ?_, fun g => ?_, fun g => ?_, fun g => ?_, fun g => ?_, trivial⟩
  · refine fin_i h ?_
    unfold hseI
    repeat rw [if_neg (by omega)]
  · refine ald (n := 4) (j := a) rfl rfl (by omega) r.1 ?_
    exact fin_i h (by rw [hseI, if_pos g])
  · refine ald (n := 4) (j := a) rfl rfl (by omega) r.2.1 ?_
    exact fin_i h (by unfold hseI; repeat rw [if_neg (by omega)]
                      rw [if_pos (by omega)])
  · refine ald (n := 4) (j := a) rfl rfl (by omega) r.2.2 ?_
    exact fin_i h (by unfold hseI; repeat rw [if_neg (by omega)]
                      rw [if_pos (by omega)])
  · refine s_setOf (Or.inl rfl) hR.1 hW.1 (by omega) ?_
    exact fin_i h (by unfold hseI; repeat rw [if_neg (by omega)]
                      rw [if_pos (by omega)])
  · refine mAr (by rw [show σ 1 9 = nI (A 12 3) from hR.2.2.2.2.1, show σ 1 7 = nI (A 12 1) from hR.2.2.2.1]) (s_setToOpen (hh := a) (l := A 12 3) (y := A 12 1) (Or.inl rfl) hR.1 hW.1 (by omega) hW.2.2.2.1 (by omega) ?_)
    exact fin_i h (by unfold hseI; repeat rw [if_neg (by omega)]
                      rw [if_pos (by omega)])
set_option maxRecDepth 100000 in
theorem m_one {σ : Sg} {c : Prop} [Decidable c] {Q : Option Value → Sg → Prop} (h : Q (some (.int (bI c))) σ) : MetA mX8_one [.int (bI c)] σ Q := by
  refine MetA_of qX8_one (Nat.le_of_ble_eq_true rfl) ?_
  refine wpB_sd (stops := []) kX8_one 20 _ _ _ _ ?_
  exact ⟨fun g => fin_i h g.symm, fun g => fin_i h (bI_t (bI_n0 g)).symm⟩
theorem bset_sb {p : Nat → Nat} {i : Nat} {c : Prop} [Decidable c] (hi : i < 31) (h : c ↔ p i = 1) : nI (bset p i) ||| (bI c <<< (nI i &&& 31)) = nI (bset p (i + 1)) := by
  by_cases q : c
  · rw [bI_t q]; exact bset_s1 (h.mp q) hi
  · rw [bI_f q, bset_s0 (fun z => q (h.mpr z)), show (0 : Int32) = nI 0 from rfl, pk_shlN (n := 0) (nI i &&& 31) i (s_l i (by omega)) (by omega), fa_or]
    simp
def joA (A : St) (hh : Nat) (o : Bool) : Nat → Nat := fun j => if (A 1 j = hh ∧ A 6 j = 0) ∧ (o = false ∨ mayB (A 12 3) (A 2 j) (A 12 1) = true) then 1 else 0
set_option maxRecDepth 100000 in
theorem m_jarsOf {σ : Sg} {A : St} {hh : Nat} {o : Bool} {Q : Option Value → Sg → Prop} (hR : RMr 0 σ A) (hW : WJ A) (hl : A 12 3 ≤ 2) (hh4 : hh < 4) (h : Q (some (.int (nI (bset (joA A hh o) (A 12 0))))) σ) : MetA mX8_jarsOf [.ref 89, .int (nI hh), .int (bI (o = true))] σ Q := by
  refine MetA_of qX8_jarsOf (Nat.le_of_ble_eq_true rfl) ?_
  have hm := hW.1
  have hy := hW.2.1
  have loop : ∀ n i, i + n = A 12 0 → V mX8_jarsOf 5 [(0, .ref 89), (1, .int (nI hh)), (2, .int (bI (o = true))), (3, .int (nI (bset (joA A hh o) i))), (4, .int (nI i))] [] σ Q := by
    intro n
    induction n with
    | zero =>
      intro i hi
      have hi : i = A 12 0 := by omega
      subst hi
      refine wpB_sd (stops := [5]) kX8_jarsOf 20 _ _ _ _ ?_
      refine ald (n := 800) (j := 0 + 176) rfl rfl (by omega) hR.1 ?_
      exact br_t (nI_le (by omega) (by omega)) h
    | succ n ih =>
      intro i hi
      have hj : i < A 12 0 := by omega
      have ih := ih (i + 1) (by omega)
      have r := hR.2.2.2.2.1 i hj
      obtain ⟨w0, w1, w2, w3, w4, w5, w6⟩ := hW.2.2 i hj
      have c73 : ∀ (c : Prop) [Decidable c], (c ↔ joA A hh o i = 1) → V mX8_jarsOf 73 [(0, .ref 89), (1, .int (nI hh)), (2, .int (bI (o = true))), (3, .int (nI (bset (joA A hh o) i))), (4, .int (nI i))] [.int (bI c)] σ Q := by
        intro c _ hc
        refine wpB_sd (stops := [5]) kX8_jarsOf 20 _ _ _ _ ?_
        refine m_one ?_
        rw [← bset_sb (by omega) hc, ← nI_1] at ih
        exact V.take 5 ih
      have no : ¬ joA A hh o i = 1 → V mX8_jarsOf 73 [(0, .ref 89), (1, .int (nI hh)), (2, .int (bI (o = true))), (3, .int (nI (bset (joA A hh o) i))), (4, .int (nI i))] [.int 0] σ Q := fun q => c73 False ⟨fun z => z.elim, fun z => absurd z q⟩
      have yes : joA A hh o i = 1 → V mX8_jarsOf 73 [(0, .ref 89), (1, .int (nI hh)), (2, .int (bI (o = true))), (3, .int (nI (bset (joA A hh o) i))), (4, .int (nI i))] [.int 1] σ Q := fun q => c73 True ⟨fun _ => q, fun _ => trivial⟩
      refine wpB_sd (stops := [73]) kX8_jarsOf 60 _ _ _ _ ?_
      refine ald (n := 800) (j := 0 + 176) rfl rfl (by omega) hR.1 ?_
      refine br_f (nI_ge (by omega) (by omega)) ?_
      refine ald (n := 800) (j := 0 + 24 + i) rfl (by simp only [fa_lit, nI_add]) (by omega) r.2.1 ?_
      refine ⟨fun g => ?_, fun g => ?_⟩
      · have g : ¬ A 1 i = hh := fun q => g (by rw [q])
        exact V.take 5 (no (by simp [joA, g]))
      · have g := (nI_eq (by omega) (by omega)).mp g
        refine ald (n := 800) (j := 0 + 144 + i) rfl (by simp only [fa_lit, nI_add]) (by omega) r.2.2.2.2.2.2 ?_
        refine ⟨fun g2 => ?_, fun g2 => ?_⟩
        · have g2 : ¬ A 6 i = 0 := fun q => g2 (by rw [q]; rfl)
          exact V.take 5 (no (by simp [joA, g2]))
        · have g2 : A 6 i = 0 := (nI_eq (b := 0) (by omega) (by omega)).mp g2
          refine ⟨fun g3 => ?_, fun g3 => ?_⟩
          · have g3 := bI_0.mp g3
            exact V.take 5 (yes (by simp [joA, g, g2]; exact fun z => absurd z g3))
          · have g3 := bI_n0 g3
            refine ald (n := 800) (j := 0 + 177) rfl rfl (by omega) hR.2.1 ?_
            refine m_may (x := 0) (by omega) hR hW hl hj (by omega) ?_
            refine ⟨fun g4 => ?_, fun g4 => ?_⟩
            · have g4 := bI_0.mp g4
              exact V.take 5 (no (by simp only [joA, g3]; intro z; apply g4; by_cases q : mayB (A 12 3) (A 2 i) (A 12 1) = true
                                     · exact ⟨g2, q⟩
                                     · simp [q] at z))
            · have g4 := bI_n0 g4
              exact V.take 5 (yes (by simp [joA, g, g2, g4.2]))
  refine wpB_sd (stops := [5]) kX8_jarsOf 20 _ _ _ _ ?_
  exact loop (A 12 0) 0 (by omega)
set_option maxRecDepth 100000 in
theorem u_house {σ : Sg} {A : St} {hg : Nat} {x w : Int32} {Q : Option Value → Sg → Prop} (hC : MR σ A hg) (hW : WL A) (hu : ¬ ix x (A 12 5) → Q (some (.int UNK)) σ) (h : ∀ a, a < A 12 5 → x = nI a → Q (some (.int (hseI A a w))) σ) : MetA mX8_house [.ref 89, .int x, .int w] σ Q := by
  refine MetA_of qX8_house (Nat.le_of_ble_eq_true rfl) ?_
  refine wpB_sd (stops := []) kX8_house 40 _ _ _ _ ?_
  have hR := hC.1
  have h4 := hW.2.1
  refine m_isHouse hC.2.1 h4 ?_
  refine ⟨fun g => ?_, fun g => hu (fun q => bI_0.mp g ((ix_iff (by omega)).mpr q))⟩
  obtain ⟨a, ha, rfl⟩ := (ix_iff (by omega)).mp (bI_n0 g)
  have h := h a ha rfl
  have r := hR.2.2.2.2.2 a ha
  refine ⟨fun g => ?_, fun g => ?_, fun g => ?_, fun g => ?_, fun g => ?_, fun g => ?_, trivial⟩
  · refine fin_i h ?_
    unfold hseI
    repeat rw [if_neg (by omega)]
  · refine ald (n := 8) (j := a) rfl rfl (by omega) (hC.2.1.2.1 a ha) ?_
    exact fin_i h (by rw [hseI, if_pos g])
  · refine ald (n := 800) (j := 0 + 168 + a) rfl (by simp only [fa_lit, nI_add]) (by omega) r.1 ?_
    exact fin_i h (by unfold hseI; repeat rw [if_neg (by omega)]
                      rw [if_pos (by omega)])
  · refine ald (n := 800) (j := 0 + 172 + a) rfl (by simp only [fa_lit, nI_add]) (by omega) r.2 ?_
    exact fin_i h (by unfold hseI; repeat rw [if_neg (by omega)]
                      rw [if_pos (by omega)])
  · refine mAr (by rfl) (m_jarsOf (hh := a) (o := false) hR hW.1 hW.2.2.2.1 (by omega) ?_)
    refine fin_i h (by unfold hseI; repeat rw [if_neg (by omega)]
                       rw [if_pos (by omega)]; congr 1; apply bset_congr; intro k _; simp [joA, ofA])
  · refine mAr (by rfl) (m_jarsOf (hh := a) (o := true) hR hW.1 hW.2.2.2.1 (by omega) ?_)
    refine fin_i h (by unfold hseI; repeat rw [if_neg (by omega)]
                       rw [if_pos (by omega)]; congr 1; apply bset_congr; intro k _; simp [joA, opA])
end
section
/-! jar, fault, older, write, tear, keep, goBack -/
def jarI (A : St) (a : Nat) (w : Int32) : Int32 :=
  if w.toInt = 0 then nI (A 0 a) else if w.toInt = 1 then nI (A 1 a) else if w.toInt = 2 then nI (A 2 a) else if w.toInt = 3 then nI (A 3 a) else if w.toInt = 4 then nI (A 4 a) else if w.toInt = 5 then nI (A 12 1 - A 5 a) else if w.toInt = 6 then nI (filA A a (A 12 1)) else if w.toInt = 7 then nI (A 6 a) else OUT
set_option maxRecDepth 100000 in
theorem t_jar {σ : Sg} {A : St} {hg : Nat} {x w : Int32} {Q : Option Value → Sg → Prop} (hC : CS σ A hg) (hW : WL A) (hu : ¬ ix x (A 12 0) → Q (some (.int UNK)) σ) (h : ∀ a, a < A 12 0 → x = nI a → Q (some (.int (jarI A a w))) σ) : MetA mX7_jar [.ref 0, .int x, .int w] σ Q := by
  refine MetA_of qX7_jar (Nat.le_of_ble_eq_true rfl) ?_
  refine wpB_sd (stops := []) kX7_jar 40 _ _ _ _ ?_
  have hR := hC.1
  have h24 := hW.1.1
  have hy := hW.1.2.1
  have hj0 : σ 7 0 = nI (A 12 0) := hR.1.1
  refine s_has (Or.inl rfl) ?_
  refine ⟨fun g => ?_, fun g => hu (fun q => bI_0.mp g (by rw [hj0]; exact (ix_iff (by omega)).mpr q))⟩
  have hix : ix x (A 12 0) := (ix_iff (by omega)).mp (by have := bI_n0 g; rw [hj0] at this; exact this)
  obtain ⟨a, ha, rfl⟩ := hix
  have h := h a ha rfl
  have r := hR.1.2.2 a ha
  have w6 := (hW.1.2.2 a ha).2.2.2.2.2.2
  refine ⟨fun g => ?_, fun g => ?_, fun g => ?_, fun g => ?_, fun g => ?_, fun g => ?_, fun g => ?_, fun g => ?_, fun g => ?_, trivial⟩
  · refine fin_i h ?_
    unfold jarI
    repeat rw [if_neg (by omega)]
  · refine ald (n := 24) (j := a) rfl rfl (by omega) r.1 ?_
    exact fin_i h (by rw [jarI, if_pos g])
  · refine ald (n := 24) (j := a) rfl rfl (by omega) r.2.1 ?_
    exact fin_i h (by unfold jarI; repeat rw [if_neg (by omega)]
                      rw [if_pos (by omega)])
  · refine ald (n := 24) (j := a) rfl rfl (by omega) r.2.2.1 ?_
    exact fin_i h (by unfold jarI; repeat rw [if_neg (by omega)]
                      rw [if_pos (by omega)])
  · refine ald (n := 24) (j := a) rfl rfl (by omega) r.2.2.2.1 ?_
    exact fin_i h (by unfold jarI; repeat rw [if_neg (by omega)]
                      rw [if_pos (by omega)])
  · refine ald (n := 24) (j := a) rfl rfl (by omega) r.2.2.2.2.1 ?_
    exact fin_i h (by unfold jarI; repeat rw [if_neg (by omega)]
                      rw [if_pos (by omega)])
  · refine mAr (by rw [show σ 1 7 = nI (A 12 1) from hR.2.2.2.1]) (s_ageOf (y := A 12 1) (Or.inl rfl) hR.1 hW.1 ha (Nat.le_refl _) ?_)
    exact fin_i h (by unfold jarI; repeat rw [if_neg (by omega)]
                      rw [if_pos (by omega)])
  · refine mAr (by rw [show σ 1 7 = nI (A 12 1) from hR.2.2.2.1]) (s_filledIn (y := A 12 1) (Or.inl rfl) hR.1 hW.1 ha (Nat.le_refl _) (by omega) ?_)
    exact fin_i h (by unfold jarI; repeat rw [if_neg (by omega)]
                      rw [if_pos (by omega)])
  · refine s_isGone (Or.inl rfl) hR.1 hW.1 ha ?_
    have e7 : jarI A a w = nI (A 6 a) := by
      unfold jarI; repeat rw [if_neg (by omega)]
      rw [if_pos (by omega)]
    refine ⟨fun g2 => fin_i h ?_, fun g2 => fin_i h ?_⟩
    · have := bI_0.mp g2
      rw [e7, show A 6 a = 0 by omega]; rfl
    · have := bI_n0 g2
      rw [e7, this]; rfl
set_option maxRecDepth 100000 in
theorem u_jar {σ : Sg} {A : St} {hg : Nat} {x w : Int32} {Q : Option Value → Sg → Prop} (hC : MR σ A hg) (hW : WL A) (hu : ¬ ix x (A 12 0) → Q (some (.int UNK)) σ) (h : ∀ a, a < A 12 0 → x = nI a → Q (some (.int (jarI A a w))) σ) : MetA mX8_jar [.ref 89, .int x, .int w] σ Q := by
  refine MetA_of qX8_jar (Nat.le_of_ble_eq_true rfl) ?_
  refine wpB_sd (stops := []) kX8_jar 40 _ _ _ _ ?_
  have hR := hC.1
  have h24 := hW.1.1
  have hy := hW.1.2.1
  refine m_isJar hR h24 ?_
  refine ⟨fun g => ?_, fun g => hu (fun q => bI_0.mp g ((ix_iff (by omega)).mpr q))⟩
  obtain ⟨a, ha, rfl⟩ := (ix_iff (by omega)).mp (bI_n0 g)
  have h := h a ha rfl
  obtain ⟨r0, r1, r2, r3, r4, r5, r6⟩ := hR.2.2.2.2.1 a ha
  have w5 := (hW.1.2.2 a ha).2.2.2.2.2.1
  refine ⟨fun g => ?_, fun g => ?_, fun g => ?_, fun g => ?_, fun g => ?_, fun g => ?_, fun g => ?_, fun g => ?_, fun g => ?_, trivial⟩
  · refine fin_i h ?_
    unfold jarI
    repeat rw [if_neg (by omega)]
  · refine ald (n := 800) (j := 0 + a) rfl (by rw [Nat.zero_add]) (by omega) r0 ?_
    exact fin_i h (by rw [jarI, if_pos g])
  · refine ald (n := 800) (j := 0 + 24 + a) rfl (by simp only [fa_lit, nI_add]) (by omega) r1 ?_
    exact fin_i h (by unfold jarI; repeat rw [if_neg (by omega)]
                      rw [if_pos (by omega)])
  · refine ald (n := 800) (j := 0 + 48 + a) rfl (by simp only [fa_lit, nI_add]) (by omega) r2 ?_
    exact fin_i h (by unfold jarI; repeat rw [if_neg (by omega)]
                      rw [if_pos (by omega)])
  · refine ald (n := 800) (j := 0 + 72 + a) rfl (by simp only [fa_lit, nI_add]) (by omega) r3 ?_
    exact fin_i h (by unfold jarI; repeat rw [if_neg (by omega)]
                      rw [if_pos (by omega)])
  · refine ald (n := 800) (j := 0 + 96 + a) rfl (by simp only [fa_lit, nI_add]) (by omega) r4 ?_
    exact fin_i h (by unfold jarI; repeat rw [if_neg (by omega)]
                      rw [if_pos (by omega)])
  · refine ald (n := 800) (j := 0 + 177) rfl rfl (by omega) hR.2.1 ?_
    refine ald (n := 800) (j := 0 + 120 + a) rfl (by simp only [fa_lit, nI_add]) (by omega) r5 ?_
    exact fin_i h (by unfold jarI; repeat rw [if_neg (by omega)]
                      rw [if_pos (by omega), pk_sub w5])
  · refine ald (n := 800) (j := 0 + 177) rfl rfl (by omega) hR.2.1 ?_
    refine m_filled (x := 0) (by omega) hR hW.1 ha (Nat.le_refl _) (by omega) ?_
    exact fin_i h (by unfold jarI; repeat rw [if_neg (by omega)]
                      rw [if_pos (by omega)])
  · refine ald (n := 800) (j := 0 + 144 + a) rfl (by simp only [fa_lit, nI_add]) (by omega) r6 ?_
    exact fin_i h (by unfold jarI; repeat rw [if_neg (by omega)]
                      rw [if_pos (by omega)])
theorem t_fault {σ : Sg} {Q : Option Value → Sg → Prop} (h : Q (some (.int (σ 55 4))) σ) : MetA mX7_fault [.ref 0] σ Q := by
  refine MetA_of qX7_fault (Nat.le_of_ble_eq_true rfl) ?_
  refine wpB_sd (stops := []) kX7_fault 20 _ _ _ _ ?_
  exact h
theorem u_fault {σ : Sg} {Q : Option Value → Sg → Prop} (h : Q (some (.int (σ 89 17))) σ) : MetA mX8_fault [.ref 89] σ Q := by
  refine MetA_of qX8_fault (Nat.le_of_ble_eq_true rfl) ?_
  refine wpB_sd (stops := []) kX8_fault 20 _ _ _ _ ?_
  exact h
def FrB (σ σ' : Sg) : Prop := ∀ c, ¬ (81 ≤ c ∧ c ≤ 87) → σ' c = σ c
def FrN (σ σ' : Sg) : Prop := (∀ c, c ≠ 89 → ¬ (100 ≤ c ∧ c ≤ 103) → σ' c = σ c) ∧ ∀ k, k ≠ 24 → k ≠ 27 → σ' 89 k = σ 89 k
def glsA (B : St) (a b : Nat) : St := stu (stu (stu B 0 (B 4 0) a) 1 (B 4 0) b) 4 0 (B 4 0 + 1)
def bokA (B : St) (y j : Nat) : St := stu (stu (stu B 2 (B 4 1) y) 3 (B 4 1) j) 4 1 (B 4 1 + 1)
theorem glsA_c {B : St} {a b : Nat} : glsA B a b 4 0 = B 4 0 + 1 := stu_s
theorem glsA_c1 {B : St} {a b : Nat} : glsA B a b 4 1 = B 4 1 := by unfold glsA; rw [stu_k (by omega), stu_f (by omega), stu_f (by omega)]
theorem bokA_c {B : St} {a b : Nat} : bokA B a b 4 1 = B 4 1 + 1 := stu_s
theorem bokA_c0 {B : St} {a b : Nat} : bokA B a b 4 0 = B 4 0 := by unfold bokA; rw [stu_k (by omega), stu_f (by omega), stu_f (by omega)]
set_option maxRecDepth 100000 in
theorem t_older {σ : Sg} {A B : St} {hg : Nat} {x y : Int32} {Q : Option Value → Sg → Prop} (hC : CS σ A hg) (hW : WL A) (hB : RCb σ B) (hWB : WB B) (hu : ¬ (ix x (A 12 0) ∧ ix y (A 12 0) ∧ x ≠ y) → Q (some (.int UNK)) σ) (hf : (ix x (A 12 0) ∧ ix y (A 12 0) ∧ x ≠ y) → B 4 0 = 12 → Q (some (.int FUL)) σ) (h : ∀ a b, a < A 12 0 → b < A 12 0 → x = nI a → y = nI b → x ≠ y → B 4 0 < 12 → ∀ σ', RCb σ' (glsA B a b) → FrB σ σ' → Q (some (.int (nI (B 4 0 + 1)))) σ') : MetA mX7_older [.ref 0, .int x, .int y] σ Q := by
  refine MetA_of qX7_older (Nat.le_of_ble_eq_true rfl) ?_
  refine wpB_sd (stops := []) kX7_older 40 _ _ _ _ ?_
  have h24 := hW.1.1
  have hj0 : σ 7 0 = nI (A 12 0) := hC.1.1.1
  have h12 := hWB.1
  refine s_has (Or.inl rfl) ?_
  refine ⟨fun g => hu (fun q => bI_0.mp g (by rw [hj0]; exact (ix_iff (by omega)).mpr q.1)), fun g => ?_⟩
  have hix : ix x (A 12 0) := (ix_iff (by omega)).mp (by have := bI_n0 g; rw [hj0] at this; exact this)
  refine s_has (Or.inl rfl) ?_
  refine ⟨fun g => hu (fun q => bI_0.mp g (by rw [hj0]; exact (ix_iff (by omega)).mpr q.2.1)), fun g => ?_⟩
  have hiy : ix y (A 12 0) := (ix_iff (by omega)).mp (by have := bI_n0 g; rw [hj0] at this; exact this)
  refine ⟨fun g => ?_, fun g => hu (fun q => q.2.2 g)⟩
  refine MetA_of qX3_add (Nat.le_of_ble_eq_true rfl) ?_
  refine wpB_sd (stops := []) kX3_add 40 _ _ _ _ ?_
  have hb0 := hB.1
  refine ⟨fun g2 => ?_, fun g2 => ?_⟩
  · rw [hb0] at g2
    have g2 := (nI_ltI (b := 12) (by omega) (by omega)).mp g2
    obtain ⟨a, ha, rfl⟩ := hix
    obtain ⟨b, hb, rfl⟩ := hiy
    refine ast (n := 12) (j := B 4 0) rfl hb0 g2 ?_
    refine ast (n := 12) (j := B 4 0) rfl hb0 g2 ?_
    have e : sgu (sgu σ 82 (B 4 0) (nI a)) 83 (B 4 0) (nI b) 81 0 + 1 = nI (B 4 0 + 1) := by rw [sgu_c (by omega), sgu_c (by omega), hb0, nI_1]
    refine fin_i (h a b ha hb rfl rfl g g2 _ ⟨?_, fun k hk => ?_, ?_, fun k hk => ?_⟩ (fun c hc => ?_)) ?_
    · rw [sgu_s, e, glsA_c]
    · rw [glsA_c] at hk
      rw [sgu_c (by omega), sgu_c (by omega)]
      by_cases q : k = B 4 0
      · subst q
        refine ⟨?_, ?_⟩
        · rw [sgu_s]; simp [glsA, stu]
        · rw [sgu_c (by omega), sgu_s]; simp [glsA, stu]
      · have := hB.2.1 k (by omega)
        refine ⟨?_, ?_⟩
        · rw [sgu_k q]; simpa [glsA, stu, q] using this.1
        · rw [sgu_c (by omega), sgu_k q, sgu_c (by omega)]; simpa [glsA, stu, q] using this.2
    · rw [sgu_c (by omega), sgu_c (by omega), sgu_c (by omega), glsA_c1]; exact hB.2.2.1
    · rw [glsA_c1] at hk
      have := hB.2.2.2 k hk
      rw [sgu_c (by omega), sgu_c (by omega), sgu_c (by omega), sgu_c (by omega), sgu_c (by omega), sgu_c (by omega)]
      simpa [glsA, stu] using this
    · rw [sgu_c (by omega), sgu_c (by omega), sgu_c (by omega)]
    · rw [sgu_s, e]
  · have g2 : ¬ B 4 0 < 12 := fun q => g2 (by rw [hb0]; exact nI_lt (b := 12) q (by omega))
    exact hf ⟨hix, hiy, g⟩ (by omega)
set_option maxRecDepth 100000 in
theorem u_older {σ : Sg} {A B : St} {hg : Nat} {x y : Int32} {Q : Option Value → Sg → Prop} (hC : MR σ A hg) (hW : WL A) (hB : RMb σ B) (hWB : WB B) (hu : ¬ (ix x (A 12 0) ∧ ix y (A 12 0) ∧ x ≠ y) → Q (some (.int UNK)) σ) (hf : (ix x (A 12 0) ∧ ix y (A 12 0) ∧ x ≠ y) → B 4 0 = 12 → Q (some (.int FUL)) σ) (h : ∀ a b, a < A 12 0 → b < A 12 0 → x = nI a → y = nI b → x ≠ y → B 4 0 < 12 → ∀ σ', RMb σ' (glsA B a b) → FrN σ σ' → Q (some (.int (nI (B 4 0 + 1)))) σ') : MetA mX8_older [.ref 89, .int x, .int y] σ Q := by
  refine MetA_of qX8_older (Nat.le_of_ble_eq_true rfl) ?_
  refine wpB_sd (stops := []) kX8_older 40 _ _ _ _ ?_
  have h24 := hW.1.1
  have h12 := hWB.1
  refine m_isJar hC.1 h24 ?_
  refine ⟨fun g => hu (fun q => bI_0.mp g ((ix_iff (by omega)).mpr q.1)), fun g => ?_⟩
  have hix : ix x (A 12 0) := (ix_iff (by omega)).mp (bI_n0 g)
  refine m_isJar hC.1 h24 ?_
  refine ⟨fun g => hu (fun q => bI_0.mp g ((ix_iff (by omega)).mpr q.2.1)), fun g => ?_⟩
  have hiy : ix y (A 12 0) := (ix_iff (by omega)).mp (bI_n0 g)
  refine ⟨fun g => ?_, fun g => hu (fun q => q.2.2 g)⟩
  have hb0 := hB.1
  refine ⟨fun g2 => ?_, fun g2 => ?_⟩
  · have g2 : B 4 0 < 12 := by
      have : ¬ B 4 0 = 12 := fun q => g2 (by rw [hb0, q]; rfl)
      omega
    obtain ⟨a, ha, rfl⟩ := hix
    obtain ⟨b, hb, rfl⟩ := hiy
    refine ast (n := 12) (j := B 4 0) rfl hb0 g2 ?_
    refine ast (n := 12) (j := B 4 0) rfl hb0 g2 ?_
    have e : sgu (sgu σ 100 (B 4 0) (nI a)) 101 (B 4 0) (nI b) 89 24 + 1 = nI (B 4 0 + 1) := by rw [sgu_c (by omega), sgu_c (by omega), hb0, nI_1]
    refine fin_i (h a b ha hb rfl rfl g g2 _ ⟨?_, fun k hk => ?_, ?_, fun k hk => ?_⟩ ⟨fun c hc hc2 => ?_, fun k hk hk2 => ?_⟩) ?_
    · rw [sgu_s, e, glsA_c]
    · rw [glsA_c] at hk
      rw [sgu_c (by omega), sgu_c (by omega)]
      by_cases q : k = B 4 0
      · subst q
        refine ⟨?_, ?_⟩
        · rw [sgu_s]; simp [glsA, stu]
        · rw [sgu_c (by omega), sgu_s]; simp [glsA, stu]
      · have := hB.2.1 k (by omega)
        refine ⟨?_, ?_⟩
        · rw [sgu_k q]; simpa [glsA, stu, q] using this.1
        · rw [sgu_c (by omega), sgu_k q, sgu_c (by omega)]; simpa [glsA, stu, q] using this.2
    · rw [sgu_k (by omega), sgu_c (by omega), sgu_c (by omega), glsA_c1]; exact hB.2.2.1
    · rw [glsA_c1] at hk
      have := hB.2.2.2 k hk
      rw [sgu_c (by omega), sgu_c (by omega), sgu_c (by omega), sgu_c (by omega), sgu_c (by omega), sgu_c (by omega)]
      simpa [glsA, stu] using this
    · rw [sgu_c (by omega), sgu_c (by omega), sgu_c (by omega)]
    · rw [sgu_k (by omega), sgu_c (by omega), sgu_c (by omega)]
    · rw [sgu_s, e]
  · rw [hb0] at g2
    exact hf ⟨hix, hiy, g⟩ ((nI_eq (b := 12) (by omega) (by omega)).mp g2)
set_option maxRecDepth 100000 in
theorem t_write {σ : Sg} {A B : St} {hg : Nat} {x y : Int32} {Q : Option Value → Sg → Prop} (hC : CS σ A hg) (hW : WL A) (hB : RCb σ B) (hWB : WB B) (hu : ¬ ix y (A 12 0) → Q (some (.int UNK)) σ) (ho : ix y (A 12 0) → ¬ rg x 0 9999 → Q (some (.int OUT)) σ) (hf : ix y (A 12 0) → rg x 0 9999 → B 4 1 = 30 → Q (some (.int FUL)) σ) (h : ∀ a b, a ≤ 9999 → b < A 12 0 → x = nI a → y = nI b → B 4 1 < 30 → ∀ σ', RCb σ' (bokA B a b) → FrB σ σ' → Q (some (.int (nI (B 4 1 + 1)))) σ') : MetA mX7_write [.ref 0, .int x, .int y] σ Q := by
  refine MetA_of qX7_write (Nat.le_of_ble_eq_true rfl) ?_
  refine wpB_sd (stops := []) kX7_write 40 _ _ _ _ ?_
  have h24 := hW.1.1
  have hj0 : σ 7 0 = nI (A 12 0) := hC.1.1.1
  have h30 := hWB.2.1
  refine s_has (Or.inl rfl) ?_
  refine ⟨fun g => ?_, fun g => hu (fun q => bI_0.mp g (by rw [hj0]; exact (ix_iff (by omega)).mpr q))⟩
  have hiy : ix y (A 12 0) := (ix_iff (by omega)).mp (by have := bI_n0 g; rw [hj0] at this; exact this)
  refine ⟨fun g2 => ho hiy (rg_lt (lo := 0) (by omega) (by omega) g2), fun g2 => ⟨fun g3 => ?_, fun g3 => ho hiy (rg_gt (hi := 9999) (by omega) (by omega) (Int32.not_le.mp g3))⟩⟩
  have hrg := rg_of (lo := 0) (hi := 9999) (by omega) (by omega) g2 (Int32.not_lt.mpr g3)
  refine MetA_of qX0_add (Nat.le_of_ble_eq_true rfl) ?_
  refine wpB_sd (stops := []) kX0_add 40 _ _ _ _ ?_
  have hb0 := hB.2.2.1
  refine ⟨fun g5 => ?_, fun g5 => ?_⟩
  · rw [hb0] at g5
    have g5 := (nI_ltI (b := 30) (by omega) (by omega)).mp g5
    obtain ⟨a, -, ha, rfl⟩ := hrg
    obtain ⟨b, hb, rfl⟩ := hiy
    refine ast (n := 30) (j := B 4 1) rfl hb0 g5 ?_
    refine ast (n := 30) (j := B 4 1) rfl hb0 g5 ?_
    have e : sgu (sgu σ 86 (B 4 1) (nI a)) 87 (B 4 1) (nI b) 85 0 + 1 = nI (B 4 1 + 1) := by rw [sgu_c (by omega), sgu_c (by omega), hb0, nI_1]
    refine fin_i (h a b ha hb rfl rfl g5 _ ⟨?_, fun k hk => ?_, ?_, fun k hk => ?_⟩ (fun c hc => ?_)) ?_
    · rw [sgu_c (by omega), sgu_c (by omega), sgu_c (by omega), bokA_c0]; exact hB.1
    · rw [bokA_c0] at hk
      have := hB.2.1 k hk
      rw [sgu_c (by omega), sgu_c (by omega), sgu_c (by omega), sgu_c (by omega), sgu_c (by omega), sgu_c (by omega)]
      simpa [bokA, stu] using this
    · rw [sgu_s, e, bokA_c]
    · rw [bokA_c] at hk
      rw [sgu_c (by omega), sgu_c (by omega)]
      by_cases q : k = B 4 1
      · subst q
        refine ⟨?_, ?_⟩
        · rw [sgu_s]; simp [bokA, stu]
        · rw [sgu_c (by omega), sgu_s]; simp [bokA, stu]
      · have := hB.2.2.2 k (by omega)
        refine ⟨?_, ?_⟩
        · rw [sgu_k q]; simpa [bokA, stu, q] using this.1
        · rw [sgu_c (by omega), sgu_k q, sgu_c (by omega)]; simpa [bokA, stu, q] using this.2
    · rw [sgu_c (by omega), sgu_c (by omega), sgu_c (by omega)]
    · rw [sgu_s, e]
  · have g5 : ¬ B 4 1 < 30 := fun q => g5 (by rw [hb0]; exact nI_lt (b := 30) q (by omega))
    exact hf hiy hrg (by omega)
set_option maxRecDepth 100000 in
theorem u_write {σ : Sg} {A B : St} {hg : Nat} {x y : Int32} {Q : Option Value → Sg → Prop} (hC : MR σ A hg) (hW : WL A) (hB : RMb σ B) (hWB : WB B) (hu : ¬ ix y (A 12 0) → Q (some (.int UNK)) σ) (ho : ix y (A 12 0) → ¬ rg x 0 9999 → Q (some (.int OUT)) σ) (hf : ix y (A 12 0) → rg x 0 9999 → B 4 1 = 30 → Q (some (.int FUL)) σ) (h : ∀ a b, a ≤ 9999 → b < A 12 0 → x = nI a → y = nI b → B 4 1 < 30 → ∀ σ', RMb σ' (bokA B a b) → FrN σ σ' → Q (some (.int (nI (B 4 1 + 1)))) σ') : MetA mX8_write [.ref 89, .int x, .int y] σ Q := by
  refine MetA_of qX8_write (Nat.le_of_ble_eq_true rfl) ?_
  refine wpB_sd (stops := []) kX8_write 40 _ _ _ _ ?_
  have h24 := hW.1.1
  have h30 := hWB.2.1
  refine m_isJar hC.1 h24 ?_
  refine ⟨fun g => ?_, fun g => hu (fun q => bI_0.mp g ((ix_iff (by omega)).mpr q))⟩
  have hiy : ix y (A 12 0) := (ix_iff (by omega)).mp (bI_n0 g)
  refine m_inI (lo := nI 0) (hi := nI 9999) rfl rfl ?_
  refine ⟨fun g => ?_, fun g => ho hiy (fun q => bI_0.mp g ((rg_iff (by omega) (by omega)).mpr q))⟩
  have hrg : rg x 0 9999 := (rg_iff (by omega) (by omega)).mp (bI_n0 g)
  have hb0 := hB.2.2.1
  refine ⟨fun g2 => ?_, fun g2 => ?_⟩
  · have g2 : B 4 1 < 30 := by
      have : ¬ B 4 1 = 30 := fun q => g2 (by rw [hb0, q]; rfl)
      omega
    obtain ⟨a, -, ha, rfl⟩ := hrg
    obtain ⟨b, hb, rfl⟩ := hiy
    refine ast (n := 30) (j := B 4 1) rfl hb0 g2 ?_
    refine ast (n := 30) (j := B 4 1) rfl hb0 g2 ?_
    have e : sgu (sgu σ 102 (B 4 1) (nI a)) 103 (B 4 1) (nI b) 89 27 + 1 = nI (B 4 1 + 1) := by rw [sgu_c (by omega), sgu_c (by omega), hb0, nI_1]
    refine fin_i (h a b ha hb rfl rfl g2 _ ⟨?_, fun k hk => ?_, ?_, fun k hk => ?_⟩ ⟨fun c hc hc2 => ?_, fun k hk hk2 => ?_⟩) ?_
    · rw [sgu_k (by omega), sgu_c (by omega), sgu_c (by omega), bokA_c0]; exact hB.1
    · rw [bokA_c0] at hk
      have := hB.2.1 k hk
      rw [sgu_c (by omega), sgu_c (by omega), sgu_c (by omega), sgu_c (by omega), sgu_c (by omega), sgu_c (by omega)]
      simpa [bokA, stu] using this
    · rw [sgu_s, e, bokA_c]
    · rw [bokA_c] at hk
      rw [sgu_c (by omega), sgu_c (by omega)]
      by_cases q : k = B 4 1
      · subst q
        refine ⟨?_, ?_⟩
        · rw [sgu_s]; simp [bokA, stu]
        · rw [sgu_c (by omega), sgu_s]; simp [bokA, stu]
      · have := hB.2.2.2 k (by omega)
        refine ⟨?_, ?_⟩
        · rw [sgu_k q]; simpa [bokA, stu, q] using this.1
        · rw [sgu_c (by omega), sgu_k q, sgu_c (by omega)]; simpa [bokA, stu, q] using this.2
    · rw [sgu_c (by omega), sgu_c (by omega), sgu_c (by omega)]
    · rw [sgu_k (by omega), sgu_c (by omega), sgu_c (by omega)]
    · rw [sgu_s, e]
  · rw [hb0] at g2
    exact hf hiy hrg ((nI_eq (b := 30) (by omega) (by omega)).mp g2)
def terA (B : St) : St := stu (stu B 4 0 0) 4 1 0
set_option maxRecDepth 100000 in
theorem t_tear {σ : Sg} {B : St} {Q : Option Value → Sg → Prop} (hB : RCb σ B) (h : ∀ σ', RCb σ' (terA B) → FrB σ σ' → Q (some (.int (nI (B 4 1 + B 4 0)))) σ') : MetA mX7_tear [.ref 0] σ Q := by
  refine MetA_of qX7_tear (Nat.le_of_ble_eq_true rfl) ?_
  refine wpB_sd (stops := []) kX7_tear 40 _ _ _ _ ?_
  refine fin_i (h _ ⟨?_, fun k hk => ?_, ?_, fun k hk => ?_⟩ (fun c hc => ?_)) ?_
  · rw [sgu_s]; simp [terA, stu]; rfl
  · simp [terA, stu] at hk
  · rw [sgu_c (by omega), sgu_s]; simp [terA, stu]; rfl
  · simp [terA, stu] at hk
  · rw [sgu_c (by omega), sgu_c (by omega)]
  · rw [hB.1, hB.2.2.1, nI_add]
set_option maxRecDepth 100000 in
theorem u_tear {σ : Sg} {B : St} {Q : Option Value → Sg → Prop} (hB : RMb σ B) (h : ∀ σ', RMb σ' (terA B) → FrN σ σ' → Q (some (.int (nI (B 4 1 + B 4 0)))) σ') : MetA mX8_tear [.ref 89] σ Q := by
  refine MetA_of qX8_tear (Nat.le_of_ble_eq_true rfl) ?_
  refine wpB_sd (stops := []) kX8_tear 40 _ _ _ _ ?_
  refine fin_i (h _ ⟨?_, fun k hk => ?_, ?_, fun k hk => ?_⟩ ⟨fun c hc hc2 => ?_, fun k hk hk2 => ?_⟩) ?_
  · rw [sgu_s]; simp [terA, stu]; rfl
  · simp [terA, stu] at hk
  · rw [sgu_k (by omega), sgu_s]; simp [terA, stu]; rfl
  · simp [terA, stu] at hk
  · rw [sgu_c (by omega), sgu_c (by omega)]
  · rw [sgu_k (by omega), sgu_k (by omega)]
  · rw [hB.1, hB.2.2.1, nI_add]
end
section
/-! keep, goBack -/
theorem nar1 : vp_nar .boolean 1 = 1 := by decide +kernel
set_option maxRecDepth 100000 in
theorem t_keep {σ : Sg} {A : St} {hg : Nat} {i : Int32} {Q : Option Value → Sg → Prop} (hC : CS σ A hg) (hW : WL A) (hu : ¬ rg i 0 1 → Q (some (.int UNK)) σ) (h : ∀ k, k ≤ 1 → i = nI k → ∀ σ', RLd (28 + 13 * k) σ' A → σ' (28 + 13 * k) 8 = nI hg → σ' 54 k = 1 → (∀ j, j ≠ k → σ' 54 j = σ 54 j) → (∀ c, c ≠ 54 → ¬ (28 + 13 * k ≤ c ∧ c ≤ 28 + 13 * k + 12) → σ' c = σ c) → Q (some (.int 1)) σ') : MetA mX7_keep [.ref 0, .int i] σ Q := by
  refine MetA_of qX7_keep (Nat.le_of_ble_eq_true rfl) ?_
  refine wpB_sd (stops := []) kX7_keep 40 _ _ _ _ ?_
  refine ⟨fun g => hu (rg_lt (lo := 0) (by omega) (by omega) g), fun g => ⟨fun g2 => ?_, fun g2 => hu (fun q => ?_)⟩⟩
  · obtain ⟨k, hk, rfl⟩ : ix i 2 := (ix_iff (by omega)).mp ⟨Int32.not_lt.mp g, g2⟩
    refine ⟨aok (n := 2) rfl rfl hk, ?_⟩
    rw [nI_clamp (by omega)]
    have h := h k (by omega) rfl
    have cl : (nI k).toNatClampNeg = k := nI_clamp (by omega)
    rcases (show k = 0 ∨ k = 1 by omega) with rfl | rfl
    · refine mAr (by rfl) (s_copyL (d := 28) (s := 1) (by simp) hC.1 hW.2.1 hW.2.2.1 hW.1.1 (fun σ' hR he hF => ?_))
      refine ⟨aok (n := 2) (j := 0) rfl rfl (by omega), fun σ2 e2 => ?_⟩
      have e2 : σ2 = sgu σ' 54 0 1 := by rw [e2, cl]; exact congrArg _ nar1
      subst e2
      exact h _ (hR.fr (fun c a b d => sgu_c (by omega))) (by rw [sgu_c (by omega)]; exact he.trans hC.2) sgu_s (fun j hj => by rw [sgu_k hj, hF 54 (by omega)]) (fun c hc hc2 => by rw [sgu_c hc]; exact hF c (by omega))
    · refine mAr (by rfl) (s_copyL (d := 41) (s := 1) (by simp) hC.1 hW.2.1 hW.2.2.1 hW.1.1 (fun σ' hR he hF => ?_))
      refine ⟨aok (n := 2) (j := 1) rfl rfl (by omega), fun σ2 e2 => ?_⟩
      have e2 : σ2 = sgu σ' 54 1 1 := by rw [e2, cl]; exact congrArg _ nar1
      subst e2
      exact h _ (hR.fr (fun c a b d => sgu_c (by omega))) (by rw [sgu_c (by omega)]; exact he.trans hC.2) sgu_s (fun j hj => by rw [sgu_k hj, hF 54 (by omega)]) (fun c hc hc2 => by rw [sgu_c hc]; exact hF c (by omega))
  · obtain ⟨k, -, hk, rfl⟩ := q
    exact g2 (nI_lt (b := 2) (by omega) (by omega))
set_option maxRecDepth 100000 in
theorem t_goBack {σ : Sg} {I : St} {hg : Nat} {i : Int32} {Q : Option Value → Sg → Prop} (hu : ¬ rg i 0 1 → Q (some (.int UNK)) σ) (hn : ∀ k, k ≤ 1 → i = nI k → σ 54 k = 0 → Q (some (.int NOTT)) σ) (hI : ∀ k, k ≤ 1 → i = nI k → ¬ σ 54 k = 0 → RLd (28 + 13 * k) σ I ∧ WL I ∧ σ (28 + 13 * k) 8 = nI hg) (h : ∀ k, k ≤ 1 → i = nI k → ¬ σ 54 k = 0 → ∀ σ', CS σ' I hg → FrX σ σ' → Q (some (.int 1)) σ') : MetA mX7_goBack [.ref 0, .int i] σ Q := by
  refine MetA_of qX7_goBack (Nat.le_of_ble_eq_true rfl) ?_
  refine wpB_sd (stops := []) kX7_goBack 40 _ _ _ _ ?_
  refine ⟨fun g => hu (rg_lt (lo := 0) (by omega) (by omega) g), fun g => ⟨fun g2 => ?_, fun g2 => hu (fun q => ?_)⟩⟩
  · obtain ⟨k, hk, rfl⟩ : ix i 2 := (ix_iff (by omega)).mp ⟨Int32.not_lt.mp g, g2⟩
    have hn := hn k (by omega) rfl
    have hI := hI k (by omega) rfl
    have h := h k (by omega) rfl
    have cl : (nI k).toNatClampNeg = k := nI_clamp (by omega)
    refine ⟨aok (n := 2) rfl rfl hk, nm_r (e' := σ 54 k) (by rw [cl]) ?_⟩
    refine ⟨fun g3 => ?_, hn⟩
    obtain ⟨h1, h2, h3⟩ := hI g3
    refine ⟨aok (n := 2) rfl rfl hk, ?_⟩
    rw [cl]
    rcases (show k = 0 ∨ k = 1 by omega) with rfl | rfl
    · refine mAr (by rfl) (s_copyL (d := 1) (s := 28) (by simp) h1 h2.2.1 h2.2.2.1 h2.1.1 (fun σ' hR he hF => ?_))
      exact h g3 σ' ⟨hR, he.trans h3⟩ hF.x
    · refine mAr (by rfl) (s_copyL (d := 1) (s := 41) (by simp) h1 h2.2.1 h2.2.2.1 h2.1.1 (fun σ' hR he hF => ?_))
      exact h g3 σ' ⟨hR, he.trans h3⟩ hF.x
  · obtain ⟨k, -, hk, rfl⟩ := q
    exact g2 (nI_lt (b := 2) (by omega) (by omega))
set_option maxRecDepth 100000 in
theorem u_keep {σ : Sg} {A : St} {hg : Nat} {i : Int32} {Q : Option Value → Sg → Prop} (hC : MR σ A hg) (hW : WL A) (hu : ¬ rg i 0 1 → Q (some (.int UNK)) σ) (h : ∀ k, k ≤ 1 → i = nI k → ∀ σ', RMr (400 + 200 * k) σ' A → σ' 90 (400 + 200 * k + 178) = nI hg → σ' 91 k = 1 → (∀ j, j ≠ k → σ' 91 j = σ 91 j) → (∀ c, c ≠ 90 → c ≠ 91 → σ' c = σ c) → (∀ j, ¬ (400 + 200 * k ≤ j ∧ j < 400 + 200 * k + 200) → σ' 90 j = σ 90 j) → Q (some (.int 1)) σ') : MetA mX8_keep [.ref 89, .int i] σ Q := by
  refine MetA_of qX8_keep (Nat.le_of_ble_eq_true rfl) ?_
  refine wpB_sd (stops := []) kX8_keep 40 _ _ _ _ ?_
  refine mAr (by rfl) (m_inI (a := i) (lo := nI 0) (hi := nI 1) (l := 0) (h := 1) rfl rfl ?_)
  refine ⟨fun g => ?_, fun g => hu (fun q => bI_0.mp g ((rg_iff (by omega) (by omega)).mpr q))⟩
  obtain ⟨k, -, hk, rfl⟩ := (rg_iff (by omega) (by omega)).mp (bI_n0 g)
  have h := h k hk rfl
  have cl : (nI k).toNatClampNeg = k := nI_clamp (by omega)
  refine mAr (by simp only [fa_lit, pk_mul, nI_add]) (m_copy (x := 0) (y := 400 + 200 * k) (by omega) (by omega) (by omega) (fun σ' h1 h2 h3 => ?_))
  refine ⟨aok (n := 2) (j := k) rfl rfl (by omega), fun σ2 e2 => ?_⟩
  have e2 : σ2 = sgu σ' 91 k 1 := by rw [e2, cl]; exact congrArg _ nar1
  subst e2
  have hR : RMr (400 + 200 * k) σ' A := RMr_copy hC.1 hW.1.1 hW.2.1 h1
  refine h _ (RMr.fr hR hW.1.1 hW.2.1 (fun j _ _ _ => by rw [sgu_c (by omega)])) ?_ sgu_s (fun j hj => by rw [sgu_k hj, h3 91 (by omega)]) (fun c hc hc2 => by rw [sgu_c hc2]; exact h3 c hc) (fun j hj => by rw [sgu_c (by omega)]; exact h2 j (by omega))
  rw [sgu_c (by omega), h1 178 (by omega)]; exact hC.2.2
set_option maxRecDepth 100000 in
theorem u_goBack {σ : Sg} {I : St} {hg : Nat} {i : Int32} {Q : Option Value → Sg → Prop} (hu : ¬ rg i 0 1 → Q (some (.int UNK)) σ) (hn : ∀ k, k ≤ 1 → i = nI k → σ 91 k = 0 → Q (some (.int NOTT)) σ) (hI : ∀ k, k ≤ 1 → i = nI k → ¬ σ 91 k = 0 → RMr (400 + 200 * k) σ I ∧ RMg σ I ∧ WL I ∧ σ 90 (400 + 200 * k + 178) = nI hg) (h : ∀ k, k ≤ 1 → i = nI k → ¬ σ 91 k = 0 → ∀ σ', MR σ' I hg → FrM σ σ' → Q (some (.int 1)) σ') : MetA mX8_goBack [.ref 89, .int i] σ Q := by
  refine MetA_of qX8_goBack (Nat.le_of_ble_eq_true rfl) ?_
  refine wpB_sd (stops := []) kX8_goBack 40 _ _ _ _ ?_
  refine mAr (by rfl) (m_inI (a := i) (lo := nI 0) (hi := nI 1) (l := 0) (h := 1) rfl rfl ?_)
  refine ⟨fun g => ?_, fun g => hu (fun q => bI_0.mp g ((rg_iff (by omega) (by omega)).mpr q))⟩
  obtain ⟨k, -, hk, rfl⟩ := (rg_iff (by omega) (by omega)).mp (bI_n0 g)
  have hn := hn k hk rfl
  have hI := hI k hk rfl
  have h := h k hk rfl
  have cl : (nI k).toNatClampNeg = k := nI_clamp (by omega)
  refine ⟨aok (n := 2) (j := k) rfl rfl (by omega), nm_r (e' := σ 91 k) (by rw [cl]) ?_⟩
  refine ⟨fun g3 => ?_, hn⟩
  obtain ⟨h1, h2, h3, h4⟩ := hI g3
  refine mAr (by simp only [fa_lit, pk_mul, nI_add]) (m_copy (x := 400 + 200 * k) (y := 0) (by omega) (by omega) (by omega) (fun σ' c1 c2 c3 => ?_))
  refine h g3 σ' ⟨RMr_copy h1 h3.1.1 h3.2.1 c1, h2.fr (fun c hc => c3 c (by omega)), ?_⟩ ⟨fun c hc _ => c3 c hc, fun j hj => c2 j (by omega)⟩
  have := c1 178 (by omega)
  rw [Nat.zero_add] at this
  rw [this]; exact h4
end
section
/-! sealing -/
/-- the first of the least of g 0 .. g (n - 1) -/
def amF (g : Nat → Nat) : Nat → Nat
  | 0 => 0
  | n + 1 => if n = 0 then 0 else if g n < g (amF g n) then n else amF g n
theorem amF_lt (g : Nat → Nat) : ∀ n, 0 < n → amF g n < n
  | 0, h => absurd h (by omega)
  | n + 1, _ => by
    rw [amF]
    split
    · omega
    · split
      · omega
      · have := amF_lt g n (by omega); omega
def slG (A : St) (hh n : Nat) : Nat → Nat := fun s => (yrR false n (stu A 7 hh s, fun _ => 0)).2 hh
theorem slG_le {A : St} {hh n s : Nat} (hW : WL A) (hs : s ≤ 20) (hy : A 12 1 + n < 2 ^ 19) : slG A hh n s ≤ 99 * n := by
  refine yrR_le n (s := (stu A 7 hh s, fun _ => 0)) ?_ hy (fun _ => rfl) hh
  obtain ⟨h0, h1, h2, h3, h4, h5, h6, h7⟩ := hW
  refine ⟨h0, h1, h2, h3, h4, fun k hk => ?_, h6, h7⟩
  have := h5 k hk
  refine ⟨this.1, ?_, this.2.2⟩
  by_cases q : k = hh
  · subst q; show stu A 7 k s 7 k ≤ 20; rw [stu_s]; exact hs
  · show stu A 7 hh s 7 k ≤ 20; rw [stu_k q]; exact this.2.1
theorem WL_seals {A : St} {hh s : Nat} (hW : WL A) (hs : s ≤ 20) : WL (stu A 7 hh s) := by
  obtain ⟨h0, h1, h2, h3, h4, h5, h6, h7⟩ := hW
  refine ⟨h0, h1, h2, h3, h4, fun k hk => ?_, h6, h7⟩
  have := h5 k hk
  refine ⟨this.1, ?_, this.2.2⟩
  by_cases q : k = hh
  · subst q; show stu A 7 k s 7 k ≤ 20; rw [stu_s]; exact hs
  · show stu A 7 hh s 7 k ≤ 20; rw [stu_k q]; exact this.2.1
set_option maxRecDepth 100000 in
set_option maxHeartbeats 1000000 in
theorem t_sealing {σ : Sg} {A : St} {hg : Nat} {x v : Int32} {Q : Option Value → Sg → Prop} (hC : CS σ A hg) (hW : WL A) (hy : A 12 1 + 99 < 2 ^ 19) (h9 : hg ≤ 999999999) (hu : ¬ ix x (A 12 5) → Q (some (.int UNK)) σ) (ho : ix x (A 12 5) → ¬ rg v 1 60 → Q (some (.int OUT)) σ) (hi : ∀ a k, a < A 12 5 → 1 ≤ k → k ≤ 60 → x = nI a → v = nI k → ∀ σ', CS σ' A hg → FrX σ σ' → Q (some (.int (nI (amF (slG A a k) 21)))) σ') : MetA mX7_sealing [.ref 0, .int x, .int v] σ Q := by
  refine MetA_of qX7_sealing (Nat.le_of_ble_eq_true rfl) ?_
  have h4 := hW.2.1
  have h0 : σ 1 0 = nI (A 12 5) := hC.1.2.1
  have loop : ∀ a k, a < A 12 5 → 1 ≤ k → k ≤ 60 → x = nI a → v = nI k → ∀ n i σi, i + n = 21 → CS σi A hg → FrL 14 σ σi → ∀ L : Int32, (i = 0 → L = 1000000000) → (0 < i → L = nI (slG A a k (amF (slG A a k) i))) → V mX7_sealing 37 [(0, .ref 0), (1, .int (nI a)), (2, .int (nI k)), (3, .int (nI (amF (slG A a k) i))), (4, .int L), (5, .int (nI i))] [] σi Q := by
    intro a k ha h1 h2 hx hv n
    induction n with
    | zero =>
      intro i σi hi2 hCi hF L hL0 hL
      have hi2 : i = 21 := by omega
      subst hi2
      refine wpB_sd (stops := [37]) kX7_sealing 30 _ _ _ _ ?_
      refine br_t (by decide) ?_
      exact hi a k ha h1 h2 hx hv σi hCi hF.x2
    | succ n ih =>
      intro i σi hi2 hCi hF L hL0 hL
      have hWs := WL_seals (hh := a) (s := i) hW (by omega)
      have hle := slG_le (hh := a) (n := k) (s := i) hW (by omega) (by omega)
      refine wpB_sd (stops := [37]) kX7_sealing 60 _ _ _ _ ?_
      refine br_f (nI_nlt (a := 20) (b := i) (by omega) (by omega)) ?_
      refine s_copyL (d := 14) (s := 1) (by simp) hCi.1 hW.2.1 hW.2.2.1 hW.1.1 (fun σ1 hR1 he1 hF1 => ?_)
      refine ast (n := 4) (j := a) rfl rfl (by omega) ?_
      have hR2 : RLd 14 (sgu σ1 16 a (nI i)) (stu A 7 a i) := RLd_one hR1 hW (by omega)
      have hg2 : sgu σ1 16 a (nI i) 14 8 = nI hg := by rw [sgu_c (by omega), he1]; exact hCi.2
      refine mAr (by rfl) (s_pass (dr := false) (n := k) (Or.inr rfl) hR2 hWs (by omega) (by show A 12 1 + k < _; omega) hg2 h9 (fun σ3 hR3 hm3 hg3 hF3 => ?_))
      have hm3 := hm3 a ha
      have hC3 : CS σ3 A hg := by
        refine ⟨hCi.1.fr (fun c c1 c2 c3 => ?_), ?_⟩
        · rw [hF3 c (by omega), sgu_c (by omega), hF1 c (by omega)]
        · rw [hF3 1 (by omega), sgu_c (by omega), hF1 1 (by omega)]; exact hCi.2
      have hF' : FrL 14 σ σ3 := fun c hc => by rw [hF3 c (by omega), sgu_c (by omega), hF1 c (by omega)]; exact hF c hc
      refine ald (n := 4) (j := a) rfl rfl (by omega) hm3 ?_
      have cmp : (L ≤ nI (slG A a k i) ↔ (0 < i ∧ slG A a k (amF (slG A a k) i) ≤ slG A a k i)) := by
        by_cases q : i = 0
        · rw [hL0 q, fa_lit 1000000000]
          constructor
          · intro z; have := (nI_leI (by omega) (by omega)).mp z; omega
          · intro z; omega
        · have hlt := amF_lt (slG A a k) i (by omega)
          have hle2 := slG_le (hh := a) (n := k) (s := amF (slG A a k) i) hW (by omega) (by omega)
          rw [hL (by omega)]
          constructor
          · intro z; exact ⟨by omega, (nI_leI (by omega) (by omega)).mp z⟩
          · intro z; exact nI_le z.2 (by omega)
      refine ⟨fun g => ?_, fun g => ?_⟩
      · have g := cmp.mp g
        have e : amF (slG A a k) (i + 1) = amF (slG A a k) i := by rw [amF, if_neg (by omega), if_neg (by omega)]
        have nxt := ih (i + 1) σ3 (by omega) hC3 hF' L (fun q => by omega) (fun _ => by rw [e]; exact hL g.1)
        rw [e, ← nI_1] at nxt
        exact nxt
      · have g : ¬ (0 < i ∧ slG A a k (amF (slG A a k) i) ≤ slG A a k i) := fun q => g (cmp.mpr q)
        have e : amF (slG A a k) (i + 1) = i := by
          rw [amF]
          by_cases q : i = 0
          · rw [if_pos q]; exact q.symm
          · rw [if_neg q, if_pos (by omega)]
        refine ald (n := 4) (j := a) rfl rfl (by omega) hm3 ?_
        have nxt := ih (i + 1) σ3 (by omega) hC3 hF' (nI (slG A a k i)) (fun q => by omega) (fun _ => by rw [e])
        rw [e, ← nI_1] at nxt
        exact nxt
  refine wpB_sd (stops := [37]) kX7_sealing 60 _ _ _ _ ?_
  refine s_hasHouse (Or.inl rfl) ?_
  refine ⟨fun g => ?_, fun g => hu (fun q => bI_0.mp g (by rw [h0]; exact (ix_iff (by omega)).mpr q))⟩
  have hix : ix x (A 12 5) := (ix_iff (by omega)).mp (by have := bI_n0 g; rw [h0] at this; exact this)
  refine ⟨fun g2 => ho hix (rg_lt (lo := 1) (by omega) (by omega) g2), fun g2 => ⟨fun g3 => ?_, fun g3 => ho hix (rg_gt (hi := 60) (by omega) (by omega) (Int32.not_le.mp g3))⟩⟩
  obtain ⟨k, h1, h2, rfl⟩ := rg_of (lo := 1) (hi := 60) (by omega) (by omega) g2 (Int32.not_lt.mpr g3)
  obtain ⟨a, ha, rfl⟩ := hix
  exact loop a k ha h1 h2 rfl rfl 21 0 σ (by omega) hC (fun _ _ => rfl) 1000000000 (fun _ => rfl) (fun q => by omega)
set_option maxRecDepth 100000 in
set_option maxHeartbeats 1000000 in
theorem u_sealing {σ : Sg} {A : St} {hg : Nat} {x v : Int32} {Q : Option Value → Sg → Prop} (hC : MR σ A hg) (hW : WL A) (hy : A 12 1 + 99 < 2 ^ 19) (h9 : hg ≤ 999999999) (hu : ¬ ix x (A 12 5) → Q (some (.int UNK)) σ) (ho : ix x (A 12 5) → ¬ rg v 1 60 → Q (some (.int OUT)) σ) (hi : ∀ a k, a < A 12 5 → 1 ≤ k → k ≤ 60 → x = nI a → v = nI k → ∀ σ', MR σ' A hg → FrM σ σ' → Q (some (.int (nI (amF (slG A a k) 21)))) σ') : MetA mX8_sealing [.ref 89, .int x, .int v] σ Q := by
  refine MetA_of qX8_sealing (Nat.le_of_ble_eq_true rfl) ?_
  have h4 := hW.2.1
  have h24 := hW.1.1
  have loop : ∀ a k, a < A 12 5 → 1 ≤ k → k ≤ 60 → x = nI a → v = nI k → ∀ n i σi, i + n = 21 → MR σi A hg → FrM σ σi → ∀ L : Int32, (i = 0 → L = 99999999) → (0 < i → L = nI (slG A a k (amF (slG A a k) i))) → V mX8_sealing 35 [(0, .ref 89), (1, .int (nI a)), (2, .int (nI k)), (3, .int (nI (amF (slG A a k) i))), (4, .int L), (5, .int (nI i))] [] σi Q := by
    intro a k ha h1 h2 hx hv n
    induction n with
    | zero =>
      intro i σi hi2 hCi hF L hL0 hL
      have hi2 : i = 21 := by omega
      subst hi2
      refine wpB_sd (stops := [35]) kX8_sealing 30 _ _ _ _ ?_
      refine br_t (by decide) ?_
      exact hi a k ha h1 h2 hx hv σi hCi hF
    | succ n ih =>
      intro i σi hi2 hCi hF L hL0 hL
      have hWs := WL_seals (hh := a) (s := i) hW (by omega)
      have hle := slG_le (hh := a) (n := k) (s := i) hW (by omega) (by omega)
      refine wpB_sd (stops := [35]) kX8_sealing 60 _ _ _ _ ?_
      refine br_f (nI_nlt (a := 20) (b := i) (by omega) (by omega)) ?_
      refine mAr (by rfl) (m_copy (x := 0) (y := 200) (by omega) (by omega) (by omega) (fun σ1 c1 c2 c3 => ?_))
      refine ast (n := 800) (j := 200 + 168 + a) rfl (by simp only [fa_lit, nI_add]) (by omega) ?_
      have hR1 : RMr 200 σ1 A := RMr_copy hCi.1 h24 h4 c1
      have hR2 : RMr 200 (sgu σ1 90 (200 + 168 + a) (nI i)) (stu A 7 a i) := RMr_one hR1 hW (by omega)
      have hG2 : RMg (sgu σ1 90 (200 + 168 + a) (nI i)) (stu A 7 a i) := RMg_one hCi.2.1 (fun c hc => by rw [sgu_c (by omega)]; exact c3 c (by omega)) (by omega) (by omega) (by omega)
      have hg2 : sgu σ1 90 (200 + 168 + a) (nI i) 90 378 = nI hg := by
        rw [sgu_k (by omega)]
        have := c1 178 (by omega)
        rw [Nat.zero_add] at this
        rw [this]; exact hCi.2.2
      refine m_try (h0 := hg) hR2 hG2 hWs (by omega) (by show A 12 1 + k < _; omega) hg2 h9 (fun σ3 hP3 hF3 => ?_)
      have hm3 : σ3 97 a = nI (slG A a k i) := hP3.2.2.1 a (by omega)
      have hC3 : MR σ3 A hg := by
        have e90 : ∀ j, j < 200 → σ3 90 j = σi 90 j := fun j hj => by rw [hF3.2 j (by omega), sgu_k (by omega), c2 j (by omega)]
        refine ⟨RMr.fr hCi.1 h24 h4 (fun j _ q _ => e90 j (by omega)), hCi.2.1.fr (fun c hc => by rw [hF3.1 c (by omega) (by omega), sgu_c (by omega), c3 c (by omega)]), ?_⟩
        rw [e90 178 (by omega)]; exact hCi.2.2
      have hF' : FrM σ σ3 := hF.tr ⟨fun c hc hc2 => by rw [hF3.1 c hc hc2, sgu_c hc, c3 c hc], fun j hj => by rw [hF3.2 j (by omega), sgu_k (by omega), c2 j (by omega)]⟩
      refine ald (n := 4) (j := a) rfl rfl (by omega) hm3 ?_
      have cmp : (L ≤ nI (slG A a k i) ↔ (0 < i ∧ slG A a k (amF (slG A a k) i) ≤ slG A a k i)) := by
        by_cases q : i = 0
        · rw [hL0 q, fa_lit 99999999]
          constructor
          · intro z; have := (nI_leI (by omega) (by omega)).mp z; omega
          · intro z; omega
        · have hlt := amF_lt (slG A a k) i (by omega)
          have hle2 := slG_le (hh := a) (n := k) (s := amF (slG A a k) i) hW (by omega) (by omega)
          rw [hL (by omega)]
          constructor
          · intro z; exact ⟨by omega, (nI_leI (by omega) (by omega)).mp z⟩
          · intro z; exact nI_le z.2 (by omega)
      refine ⟨fun g => ?_, fun g => ?_⟩
      · have g := cmp.mp g
        have e : amF (slG A a k) (i + 1) = amF (slG A a k) i := by rw [amF, if_neg (by omega), if_neg (by omega)]
        have nxt := ih (i + 1) σ3 (by omega) hC3 hF' L (fun q => by omega) (fun _ => by rw [e]; exact hL g.1)
        rw [e, ← nI_1] at nxt
        exact nxt
      · have g : ¬ (0 < i ∧ slG A a k (amF (slG A a k) i) ≤ slG A a k i) := fun q => g (cmp.mpr q)
        have e : amF (slG A a k) (i + 1) = i := by
          rw [amF]
          by_cases q : i = 0
          · rw [if_pos q]; exact q.symm
          · rw [if_neg q, if_pos (by omega)]
        refine ald (n := 4) (j := a) rfl rfl (by omega) hm3 ?_
        have nxt := ih (i + 1) σ3 (by omega) hC3 hF' (nI (slG A a k i)) (fun q => by omega) (fun _ => by rw [e])
        rw [e, ← nI_1] at nxt
        exact nxt
  refine wpB_sd (stops := [35]) kX8_sealing 60 _ _ _ _ ?_
  refine m_isHouse hC.2.1 h4 ?_
  refine ⟨fun g => ?_, fun g => hu (fun q => bI_0.mp g ((ix_iff (by omega)).mpr q))⟩
  have hix : ix x (A 12 5) := (ix_iff (by omega)).mp (bI_n0 g)
  refine m_inI (lo := nI 1) (hi := nI 60) rfl rfl ?_
  refine ⟨fun g => ?_, fun g => ho hix (fun q => bI_0.mp g ((rg_iff (by omega) (by omega)).mpr q))⟩
  obtain ⟨k, h1, h2, rfl⟩ := (rg_iff (by omega) (by omega)).mp (bI_n0 g)
  obtain ⟨a, ha, rfl⟩ := hix
  exact loop a k ha h1 h2 rfl rfl 21 0 σ (by omega) hC FrM.rf 99999999 (fun _ => rfl) (fun q => by omega)
end
section
/-! siege: the two states agree but for seals, harvests, and the law between years -/
def Ag (C M : St) : Prop := ∀ f k, f ≠ 7 → f ≠ 10 → ¬ (f = 12 ∧ k = 6) → C f k = M f k
theorem Ag.f {C M : St} (h : Ag C M) {f k : Nat} (h7 : f ≠ 7) (h10 : f ≠ 10) (h12 : f = 12 → k ≠ 6) : C f k = M f k := h f k h7 h10 (fun q => h12 q.1 q.2)
theorem Ag_u {C M : St} (h : Ag C M) (f k v : Nat) : Ag (stu C f k v) (stu M f k v) := by
  intro g j h7 h10 h12
  unfold stu
  split
  · rfl
  · exact h g j h7 h10 h12
theorem Ag_7 {C M : St} (h : Ag C M) (k v : Nat) : Ag C (stu M 7 k v) := by
  intro g j h7 h10 h12
  rw [stu_f h7]; exact h g j h7 h10 h12
theorem Ag_fto {C M : St} (h : Ag C M) (hh l y : Nat) : ∀ n, ftoA C hh l y n = ftoA M hh l y n
  | 0 => rfl
  | n + 1 => by
    have e1 : C 1 n = M 1 n := h.f (by omega) (by omega) (by omega)
    have e6 : C 6 n = M 6 n := h.f (by omega) (by omega) (by omega)
    have e2 : ∀ j, C 2 j = M 2 j := fun j => h.f (by omega) (by omega) (by omega)
    rw [ftoA, ftoA, Ag_fto h hh l y n, e1, e6, e2 n]
    split
    · split
      · rfl
      · next f hf => rw [e2 f]
    · rfl
theorem Ag_nx {C M : St} (h : Ag C M) (hh has : Nat) : nxA C hh has = nxA M hh has := by
  unfold nxA
  rw [Ag_fto h, h.f (f := 9) (k := hh) (by omega) (by omega) (by omega), h.f (f := 12) (k := 3) (by omega) (by omega) (by omega), h.f (f := 12) (k := 1) (by omega) (by omega) (by omega), h.f (f := 12) (k := 0) (by omega) (by omega) (by omega)]
theorem Ag_fil {C M : St} (h : Ag C M) (j y : Nat) : filA C j y = filA M j y := by
  unfold filA
  rw [h.f (f := 0) (k := j) (by omega) (by omega) (by omega), h.f (f := 4) (k := j) (by omega) (by omega) (by omega), h.f (f := 5) (k := j) (by omega) (by omega) (by omega), h.f (f := 3) (k := j) (by omega) (by omega) (by omega)]
theorem Ag_eatL (hh : Nat) : ∀ (n : Nat) {C M : St} (has : Nat), Ag C M → (eatL hh n C has).2 = (eatL hh n M has).2 ∧ Ag (eatL hh n C has).1 (eatL hh n M has).1
  | 0, _, _, _, h => ⟨rfl, h⟩
  | n + 1, C, M, has, h => by
    rw [eatL, eatL, Ag_nx h]
    cases nxA M hh has with
    | none => exact ⟨rfl, h⟩
    | some j =>
      dsimp only
      rw [Ag_fil h, h.f (f := 12) (k := 1) (by omega) (by omega) (by omega)]
      exact Ag_eatL hh n _ (Ag_u h 6 j 1)
theorem Ag_add {C M : St} (h : Ag C M) (k hh d q kp y : Nat) : Ag (addA C k hh d q kp y) (addA M k hh d q kp y) := by
  intro f j h7 h10 h12
  unfold addA
  rw [h.f (f := 12) (k := 0) (by omega) (by omega) (by omega)]
  split
  · rfl
  · split
    · rfl
    · exact h f j h7 h10 h12
theorem Ag_eat {C M : St} (h : Ag C M) {hh v : Nat} (h7 : C 7 hh = M 7 hh) : (eatA C hh v).2 = (eatA M hh v).2 ∧ Ag (eatA C hh v).1 (eatA M hh v).1 := by
  have e8 : C 8 hh = M 8 hh := h.f (by omega) (by omega) (by omega)
  have e9 : C 9 hh = M 9 hh := h.f (by omega) (by omega) (by omega)
  obtain ⟨a, b⟩ := Ag_eatL hh 24 (v + M 8 hh) h
  unfold eatA
  dsimp only
  rw [e8, e9, Ag_nx h]
  refine ⟨by rw [a], ?_⟩
  rw [a]
  unfold eatS
  rw [b.f (f := 9) (k := hh) (by omega) (by omega) (by omega), b.f (f := 12) (k := 0) (by omega) (by omega) (by omega), b.f (f := 12) (k := 1) (by omega) (by omega) (by omega), eatL_f hh 24 C _ 7 hh (by omega), eatL_f hh 24 M _ 7 hh (by omega), h7]
  split
  · exact Ag_add (Ag_u b 8 hh 0) _ _ _ _ _ _
  · exact Ag_u b 8 hh 0
/-- a house, a year, in the reference's siege -/
def mhS (k : Nat) (s : Ys) : Ys := ((eatA (stu s.1 7 k 0) k 0).1, fun i => if i = k then s.2 k + (eatA (stu s.1 7 k 0) k 0).2 else s.2 i)
def mhR : Nat → Ys → Ys
  | 0, s => s
  | n + 1, s => mhS n (mhR n s)
def myS (lw : Nat) (s : Ys) : Ys := (stu (mhR (s.1 12 5) (stu s.1 12 3 lw, s.2)).1 12 1 (s.1 12 1 + 1), (mhR (s.1 12 5) (stu s.1 12 3 lw, s.2)).2)
def myR (l k : Nat) : Nat → Ys → Ys
  | 0, s => s
  | n + 1, s => myS (if k ≤ n then 2 else l) (myR l k n s)
def siA (A : St) (n k : Nat) : Nat := fb_sm (yrR false k (besA A, fun _ => 0)).2 4 + fb_sm (yrR false (n - k) (stu (yrR false k (besA A, fun _ => 0)).1 12 3 2, fun _ => 0)).2 4
theorem besA_WL {A : St} (h : WL A) : WL (besA A) := by
  obtain ⟨h0, h1, h2, h3, h4, h5, h6, h7⟩ := h
  refine ⟨h0, h1, by show (1 : Nat) ≤ 8; omega, h3, h4, fun k hk => ?_, fun k hk => ?_, h7⟩
  · have := h5 k hk
    exact ⟨this.1, by show (0 : Nat) ≤ 20; omega, this.2.2⟩
  · show (0 : Nat) ≤ 99; omega
/-- no harvest, no seals -/
def Bsg (C : St) : Prop := C 12 6 = 1 ∧ C 10 0 = 0 ∧ ∀ k, C 7 k = 0
theorem Bsg_bes (A : St) : Bsg (besA A) := ⟨rfl, rfl, fun _ => rfl⟩
theorem Bsg.harv {C : St} (h : Bsg C) (t : Nat) : harvA C t = 0 := by
  unfold harvA
  rw [if_neg (by rw [h.1]; omega), h.1, Nat.mod_one, h.2.1]
theorem Bsg.hs {k : Nat} {s : Ys} (h : Bsg s.1) : Bsg (hsS false k s).1 := ⟨by rw [hsS_f (by omega) (by omega) (by omega)]; exact h.1, by rw [hsS_f (by omega) (by omega) (by omega)]; exact h.2.1, fun i => by rw [hsS_f (by omega) (by omega) (by omega)]; exact h.2.2 i⟩
theorem Bsg.yr {n : Nat} {s : Ys} (h : Bsg s.1) : Bsg (yrR false n s).1 := ⟨by rw [yrR_f (by omega) (by omega) (by omega)]; exact h.1, by rw [yrR_f (by omega) (by omega) (by omega)]; exact h.2.1, fun i => by rw [yrR_f (by omega) (by omega) (by omega)]; exact h.2.2 i⟩
theorem Ag_hs {k : Nat} {s t : Ys} (h : Ag s.1 t.1) (hb : Bsg s.1) (h2 : s.2 = t.2) : Ag (hsS false k s).1 (mhS k t).1 ∧ (hsS false k s).2 = (mhS k t).2 := by
  unfold hsS mhS
  dsimp only
  rw [hsA1_ff, hsV_ff, hb.harv]
  obtain ⟨a, b⟩ := Ag_eat (hh := k) (v := 0) (Ag_7 h k 0) (by rw [stu_s]; exact hb.2.2 k)
  exact ⟨b, by rw [a, h2]⟩
theorem Bsg.hsR {s : Ys} (h : Bsg s.1) : ∀ n, Bsg (hsR false n s).1
  | 0 => h
  | n + 1 => (Bsg.hsR h n).hs
theorem Ag_hsR {s t : Ys} (h : Ag s.1 t.1) (hb : Bsg s.1) (h2 : s.2 = t.2) : ∀ n, Ag (hsR false n s).1 (mhR n t).1 ∧ (hsR false n s).2 = (mhR n t).2
  | 0 => ⟨h, h2⟩
  | n + 1 => by
    have ih := Ag_hsR h hb h2 n
    rw [hsR, mhR]
    exact Ag_hs ih.1 (hb.hsR n) ih.2
theorem Ag_yr {s t : Ys} {lw : Nat} (h : Ag s.1 (stu t.1 12 3 lw)) (hb : Bsg s.1) (h2 : s.2 = t.2) : Ag (yrS false s).1 (myS lw t).1 ∧ (yrS false s).2 = (myS lw t).2 := by
  have e5 : s.1 12 5 = t.1 12 5 := by rw [h.f (by omega) (by omega) (by omega), stu_k (by omega)]
  have e1 : s.1 12 1 = t.1 12 1 := by rw [h.f (by omega) (by omega) (by omega), stu_k (by omega)]
  unfold yrS myS
  rw [yrB_ff, e5, e1]
  obtain ⟨a, b⟩ := Ag_hsR (s := (s.1, s.2)) (t := (stu t.1 12 3 lw, t.2)) h hb h2 (t.1 12 5)
  exact ⟨Ag_u a 12 1 _, b⟩
theorem mhS_3 {k : Nat} {s : Ys} : (mhS k s).1 12 3 = s.1 12 3 := by
  unfold mhS; dsimp only; rw [eatA_f (by omega) (by omega) (by omega), stu_f (by omega)]
theorem mhR_f3 : ∀ (n : Nat) (s : Ys), (mhR n s).1 12 3 = s.1 12 3
  | 0, _ => rfl
  | n + 1, s => by rw [mhR, mhS_3, mhR_f3 n s]
theorem myS_3 {lw : Nat} {s : Ys} : (myS lw s).1 12 3 = lw := by
  unfold myS; dsimp only; rw [stu_k (by omega), mhR_f3]; dsimp only; rw [stu_s]
theorem yr_add {dr : Bool} (B : St) (ms : Nat → Nat) : ∀ n, (yrR dr n (B, ms)).1 = (yrR dr n (B, fun _ => 0)).1 ∧ ∀ i, (yrR dr n (B, ms)).2 i = ms i + (yrR dr n (B, fun _ => 0)).2 i
  | 0 => ⟨rfl, fun i => rfl⟩
  | n + 1 => by
    have ih := yr_add (dr := dr) B ms n
    have hs : ∀ (k : Nat) (C : St) (m1 m2 : Nat → Nat), (∀ i, m1 i = ms i + m2 i) → (hsR dr k (C, m1)).1 = (hsR dr k (C, m2)).1 ∧ ∀ i, (hsR dr k (C, m1)).2 i = ms i + (hsR dr k (C, m2)).2 i := by
      intro k
      induction k with
      | zero => intro C m1 m2 h; exact ⟨rfl, h⟩
      | succ k ihk =>
        intro C m1 m2 h
        have := ihk C m1 m2 h
        rw [hsR, hsR]
        unfold hsS
        dsimp only
        rw [this.1]
        refine ⟨rfl, fun i => ?_⟩
        by_cases q : i = k
        · rw [if_pos q, if_pos q, this.2 k, q, Nat.add_assoc]
        · rw [if_neg q, if_neg q, this.2 i]
    rw [yrR, yrR]
    unfold yrS
    rw [ih.1]
    have h2 := hs ((yrR dr n (B, fun _ => 0)).1 12 5) (yrB dr (yrR dr n (B, fun _ => 0)).1) (yrR dr n (B, ms)).2 (yrR dr n (B, fun _ => 0)).2 ih.2
    exact ⟨by rw [h2.1], h2.2⟩
theorem siege_1 {A : St} {k : Nat} : ∀ t, t ≤ k → Ag (yrR false t (besA A, fun _ => 0)).1 (myR (A 12 3) k t (A, fun _ => 0)).1 ∧ (yrR false t (besA A, fun _ => 0)).2 = (myR (A 12 3) k t (A, fun _ => 0)).2 ∧ (myR (A 12 3) k t (A, fun _ => 0)).1 12 3 = A 12 3
  | 0, _ => ⟨fun f j h7 h10 h12 => by show besA A f j = A f j; unfold besA; rw [if_neg h12, if_neg h10, if_neg h7], rfl, rfl⟩
  | t + 1, ht => by
    obtain ⟨a, b, c⟩ := siege_1 (A := A) (k := k) t (by omega)
    rw [yrR, myR, if_neg (by omega)]
    have hb : Bsg (yrR false t (besA A, fun _ => 0)).1 := Bsg.yr (s := (besA A, fun _ => 0)) (Bsg_bes A)
    have := Ag_yr (lw := A 12 3) (by rw [stu_id c]; exact a) hb b
    exact ⟨this.1, this.2, myS_3⟩
theorem siege_2 {A : St} {k : Nat} : ∀ t, Ag (yrR false t (stu (yrR false k (besA A, fun _ => 0)).1 12 3 2, (yrR false k (besA A, fun _ => 0)).2)).1 (stu (myR (A 12 3) k (k + t) (A, fun _ => 0)).1 12 3 2) ∧ (yrR false t (stu (yrR false k (besA A, fun _ => 0)).1 12 3 2, (yrR false k (besA A, fun _ => 0)).2)).2 = (myR (A 12 3) k (k + t) (A, fun _ => 0)).2
  | 0 => by
    obtain ⟨a, b, c⟩ := siege_1 (A := A) (k := k) k (Nat.le_refl _)
    exact ⟨Ag_u a 12 3 2, b⟩
  | t + 1 => by
    obtain ⟨a, b⟩ := siege_2 (A := A) (k := k) t
    rw [yrR, ← Nat.add_assoc, myR, if_pos (by omega)]
    have hb0 : Bsg (yrR false k (besA A, fun _ => 0)).1 := Bsg.yr (s := (besA A, fun _ => 0)) (Bsg_bes A)
    have hb1 : Bsg (stu (yrR false k (besA A, fun _ => 0)).1 12 3 2) := ⟨by rw [stu_k (by omega)]; exact hb0.1, by rw [stu_f (by omega)]; exact hb0.2.1, fun i => by rw [stu_f (by omega)]; exact hb0.2.2 i⟩
    have hb : Bsg (yrR false t (stu (yrR false k (besA A, fun _ => 0)).1 12 3 2, (yrR false k (besA A, fun _ => 0)).2)).1 := Bsg.yr (s := (stu (yrR false k (besA A, fun _ => 0)).1 12 3 2, _)) hb1
    have := Ag_yr (lw := 2) a hb b
    refine ⟨?_, this.2⟩
    rw [stu_id myS_3]; exact this.1
/-- the reference's sum is the class's two -/
theorem siege_eq {A : St} {n k : Nat} (hk : k ≤ n) : fb_sm (myR (A 12 3) k n (A, fun _ => 0)).2 4 = siA A n k := by
  obtain ⟨a, b⟩ := siege_2 (A := A) (k := k) (n - k)
  rw [show k + (n - k) = n by omega] at b
  rw [← b]
  have := (yr_add (dr := false) (stu (yrR false k (besA A, fun _ => 0)).1 12 3 2) (yrR false k (besA A, fun _ => 0)).2 (n - k)).2
  unfold siA
  rw [sm4, sm4, sm4, this 0, this 1, this 2, this 3]
  omega
theorem siA_le {A : St} {n k : Nat} (hW : WL A) (hn : n ≤ 20) (hk : k ≤ n) (hy : A 12 1 + 99 < 2 ^ 19) : siA A n k ≤ 4 * (99 * 20) := by
  have hWb := besA_WL hW
  have h1 := yrR_le (dr := false) k (s := (besA A, fun _ => 0)) hWb (by show A 12 1 + k < _; omega) (fun _ => rfl)
  have hW1 := yrR_WL (dr := false) k (s := (besA A, fun _ => 0)) hWb (by show A 12 1 + k < _; omega)
  have hy1 : (yrR false k (besA A, fun _ => 0)).1 12 1 = A 12 1 + k := yrR_y k _
  have hW2 : WL (stu (yrR false k (besA A, fun _ => 0)).1 12 3 2) := by
    obtain ⟨g0, g1, g2, g3, g4, g5, g6, g7⟩ := hW1
    exact ⟨g0, g1, g2, by rw [stu_s]; omega, g4, g5, g6, g7⟩
  have h2 := yrR_le (dr := false) (n - k) (s := (stu (yrR false k (besA A, fun _ => 0)).1 12 3 2, fun _ => 0)) hW2 (by dsimp only; rw [stu_k (by omega), hy1]; omega) (fun _ => rfl)
  unfold siA
  rw [sm4, sm4]
  have := h1 0; have := h1 1; have := h1 2; have := h1 3
  have := h2 0; have := h2 1; have := h2 2; have := h2 3
  omega
end
section
/-! siege, when: the calls -/
theorem CS_trial {σ σ' : Sg} {A : St} {hg : Nat} (h : CS σ A hg) (hF : FrL 14 σ σ') : CS σ' A hg := ⟨h.1.fr (fun c a b d => hF c (by omega)), by rw [hF 1 (by omega)]; exact h.2⟩
set_option maxRecDepth 100000 in
set_option maxHeartbeats 1000000 in
theorem s_hos {σ : Sg} {A : St} {hg n k : Nat} {Q : Option Value → Sg → Prop} (hC : CS σ A hg) (hW : WL A) (hy : A 12 1 + 99 < 2 ^ 19) (h9 : hg ≤ 999999999) (hn : n ≤ 20) (hk : k ≤ n) (h : ∀ σ', CS σ' A hg → FrL 14 σ σ' → Q (some (.int (nI (siA A n k)))) σ') : MetA mX7_hungerOfSiege [.ref 0, .int (nI n), .int (nI k)] σ Q := by
  refine MetA_of qX7_hungerOfSiege (Nat.le_of_ble_eq_true rfl) ?_
  refine wpB_sd (stops := []) kX7_hungerOfSiege 60 _ _ _ _ ?_
  have hWb := besA_WL hW
  have h5 := hW.2.1
  refine s_copyL (d := 14) (s := 1) (by simp) hC.1 hW.2.1 hW.2.2.1 hW.1.1 (fun σ1 hR1 he1 hF1 => ?_)
  refine s_besiege hR1 hW.2.1 (fun σ2 hR2 he2 hF2 => ?_)
  refine mAr (by rfl) (s_pass (dr := false) (n := k) (hg := hg) (Or.inr rfl) hR2 hWb (by omega) (by show A 12 1 + k < _; omega) (by rw [he2, he1]; exact hC.2) h9 (fun σ3 hR3 hm3 hg3 hF3 => ?_))
  have hW1 := yrR_WL (dr := false) k (s := (besA A, fun _ => 0)) hWb (by show A 12 1 + k < _; omega)
  have hy1 : (yrR false k (besA A, fun _ => 0)).1 12 1 = A 12 1 + k := yrR_y k _
  have e5 : (yrR false k (besA A, fun _ => 0)).1 12 5 = A 12 5 := yrR_f (s := (besA A, fun _ => 0)) (by omega) (by omega) (by omega) k
  have hW2 : WL (stu (yrR false k (besA A, fun _ => 0)).1 12 3 2) := by
    obtain ⟨g0, g1, g2, g3, g4, g5, g6, g7⟩ := hW1
    exact ⟨g0, g1, g2, by rw [stu_s]; omega, g4, g5, g6, g7⟩
  have hR4 : RLd 14 (sgu σ3 14 9 2) (stu (yrR false k (besA A, fun _ => 0)).1 12 3 2) := RLd_one (v := 2) hR3 hW1 (by omega)
  have hcap := hgA_le (h0 := hg) (t := fb_sm (yrR false k (besA A, fun _ => 0)).2 (besA A 12 5))
  have hg4 : sgu σ3 14 9 2 14 8 = nI (hgA hg (fb_sm (yrR false k (besA A, fun _ => 0)).2 (besA A 12 5))) := by rw [sgu_k (by omega)]; exact hg3
  refine mAr (by rw [pk_sub hk]; rfl) (s_pass (dr := false) (n := n - k) (Or.inr rfl) hR4 hW2 (by omega) (by rw [stu_k (by omega), hy1]; omega) hg4 hcap (fun σ5 hR5 hm5 hg5 hF5 => ?_))
  have fin := h σ5 (CS_trial hC (fun c hc => by rw [hF5 c hc, sgu_c (by omega), hF3 c hc, hF2 c hc, hF1 c hc])) (fun c hc => by rw [hF5 c hc, sgu_c (by omega), hF3 c hc, hF2 c hc, hF1 c hc])
  refine fin_i fin ?_
  have s1 : fb_sm (yrR false k (besA A, fun _ => 0)).2 (besA A 12 5) = fb_sm (yrR false k (besA A, fun _ => 0)).2 4 := (yr_sm (A := besA A) h5).symm
  have s2 : fb_sm (yrR false (n - k) (stu (yrR false k (besA A, fun _ => 0)).1 12 3 2, fun _ => 0)).2 (stu (yrR false k (besA A, fun _ => 0)).1 12 3 2 12 5) = fb_sm (yrR false (n - k) (stu (yrR false k (besA A, fun _ => 0)).1 12 3 2, fun _ => 0)).2 4 := (yr_sm (by rw [stu_k (by omega), e5]; exact h5)).symm
  rw [s1, s2, nI_add, siA]
set_option maxRecDepth 100000 in
theorem t_siege {σ : Sg} {A : St} {hg : Nat} {x y : Int32} {Q : Option Value → Sg → Prop} (hC : CS σ A hg) (hW : WL A) (hy : A 12 1 + 99 < 2 ^ 19) (h9 : hg ≤ 999999999) (ho : ¬ (∃ n k, 1 ≤ n ∧ n ≤ 20 ∧ k ≤ n ∧ x = nI n ∧ y = nI k) → Q (some (.int OUT)) σ) (hi : ∀ n k, 1 ≤ n → n ≤ 20 → k ≤ n → x = nI n → y = nI k → ∀ σ', CS σ' A hg → FrX σ σ' → Q (some (.int (nI (siA A n k)))) σ') : MetA mX7_siege [.ref 0, .int x, .int y] σ Q := by
  refine MetA_of qX7_siege (Nat.le_of_ble_eq_true rfl) ?_
  refine wpB_sd (stops := []) kX7_siege 60 _ _ _ _ ?_
  refine ⟨fun g => ho ?_, fun g => ⟨fun g2 => ho ?_, fun g2 => ⟨fun g3 => ho ?_, fun g3 => ⟨fun g4 => ?_, fun g4 => ho ?_⟩⟩⟩⟩
  · rintro ⟨n, k, h1, h2, h3, rfl, rfl⟩
    exact rg_lt (lo := 1) (hi := 20) (by omega) (by omega) g ⟨n, h1, h2, rfl⟩
  · rintro ⟨n, k, h1, h2, h3, rfl, rfl⟩
    exact rg_gt (lo := 1) (hi := 20) (by omega) (by omega) g2 ⟨n, h1, h2, rfl⟩
  · rintro ⟨n, k, h1, h2, h3, rfl, rfl⟩
    exact nI_pos (show k < 2 ^ 31 by omega) g3
  · obtain ⟨n, h1, h2, rfl⟩ := rg_of (lo := 1) (hi := 20) (by omega) (by omega) g g2
    obtain ⟨k, -, h3, rfl⟩ := rg_of (lo := 0) (hi := n) (by omega) (by omega) g3 (Int32.not_lt.mpr g4)
    exact s_hos hC hW hy h9 h2 h3 (fun σ' a b => hi n k h1 h2 h3 rfl rfl σ' a b.x2)
  · rintro ⟨n, k, h1, h2, h3, rfl, rfl⟩
    exact g4 (nI_le h3 (by omega))
theorem PS_eat {x : Nat} {σ σ' σ'' : Sg} {s : Ys} {A2 : St} {h0 k v : Nat} (hP : PS x σ s h0) (hk : k < 4) (h24 : A2 12 0 ≤ 24) (h5 : A2 12 5 ≤ 4) (hR : RMr x σ' A2) (hG : RMg σ A2) (hF : FrP x σ σ') (hF97 : σ' 97 = σ 97)
    (e : σ'' = sgu (sgu σ' 97 k (nI (s.2 k + v))) 90 (x + 178) (nI (hgA h0 (fb_sm (fun i => if i = k then s.2 k + v else s.2 i) 4)))) : PS x σ'' (A2, fun i => if i = k then s.2 k + v else s.2 i) h0 ∧ FrP x σ σ'' := by
  subst e
  refine ⟨⟨?_, ?_, fun i hi => ?_, sgu_s⟩, ⟨fun c hc hc2 => ?_, fun i hi => ?_⟩⟩
  · exact RMr.fr (σ := σ') hR h24 h5 (fun i a b d => by rw [sgu_k d, sgu_c (by omega)])
  · exact hG.fr (fun c hc => by rw [sgu_c (by omega), sgu_c (by omega)]; exact hF.1 c (by omega) (by omega))
  · rw [sgu_c (by omega)]
    dsimp only
    by_cases q : i = k
    · subst q; rw [sgu_s, if_pos rfl]
    · rw [sgu_k q, if_neg q, hF97]; exact hP.2.2.1 i hi
  · rw [sgu_c hc, sgu_c hc2]; exact hF.1 c hc hc2
  · rw [sgu_k (by omega), sgu_c (by omega)]; exact hF.2 i hi
theorem mhS_f {k f i : Nat} {s : Ys} (hf : 6 < f) (h7 : f ≠ 7) (h8 : f ≠ 8) (h12 : ¬ (f = 12 ∧ i = 0)) : (mhS k s).1 f i = s.1 f i := by
  unfold mhS; dsimp only; rw [eatA_f hf h8 h12, stu_f h7]
theorem mhR_f {f i : Nat} (hf : 6 < f) (h7 : f ≠ 7) (h8 : f ≠ 8) (h12 : ¬ (f = 12 ∧ i = 0)) : ∀ (n : Nat) (s : Ys), (mhR n s).1 f i = s.1 f i
  | 0, _ => rfl
  | n + 1, s => by rw [mhR, mhS_f hf h7 h8 h12, mhR_f hf h7 h8 h12 n s]
theorem mhR_WL : ∀ (n : Nat) {s : Ys}, WL s.1 → n ≤ s.1 12 5 → s.1 12 1 < 2 ^ 19 → WL (mhR n s).1
  | 0, _, h, _, _ => h
  | n + 1, s, h, hn, hy => by
    have ih := mhR_WL n h (by omega) hy
    rw [mhR]
    unfold mhS; dsimp only
    refine eatA_WL (WL_seals ih (by omega)) ?_ ?_
    · show n < (mhR n s).1 12 5
      rw [mhR_f (by omega) (by omega) (by omega) (by omega)]; omega
    · show (mhR n s).1 12 1 < _
      rw [mhR_f (by omega) (by omega) (by omega) (by omega)]; exact hy
theorem myS_f {lw f i : Nat} {s : Ys} (hf : 6 < f) (h7 : f ≠ 7) (h8 : f ≠ 8) (h12 : ¬ (f = 12 ∧ (i = 0 ∨ i = 1 ∨ i = 3))) : (myS lw s).1 f i = s.1 f i := by
  unfold myS; dsimp only
  rw [show ∀ B : St, ∀ v, stu B 12 1 v f i = B f i from fun B v => if_neg (fun q => by omega), mhR_f hf h7 h8 (by omega)]
  dsimp only
  exact if_neg (fun q => by omega)
theorem myR_f {l k f i : Nat} (hf : 6 < f) (h7 : f ≠ 7) (h8 : f ≠ 8) (h12 : ¬ (f = 12 ∧ (i = 0 ∨ i = 1 ∨ i = 3))) : ∀ (n : Nat) (s : Ys), (myR l k n s).1 f i = s.1 f i
  | 0, _ => rfl
  | n + 1, s => by rw [myR, myS_f hf h7 h8 h12, myR_f hf h7 h8 h12 n s]
theorem myS_y {lw : Nat} {s : Ys} : (myS lw s).1 12 1 = s.1 12 1 + 1 := by unfold myS; dsimp only; rw [stu_s]
theorem myR_y {l k : Nat} : ∀ (n : Nat) (s : Ys), (myR l k n s).1 12 1 = s.1 12 1 + n
  | 0, _ => rfl
  | n + 1, s => by rw [myR, myS_y, myR_y n s, Nat.add_assoc]
theorem WL_law {A : St} (h : WL A) {v : Nat} (hv : v ≤ 2) : WL (stu A 12 3 v) := by
  obtain ⟨h0, h1, h2, h3, h4, h5, h6, h7⟩ := h
  exact ⟨h0, h1, h2, by rw [stu_s]; exact hv, h4, h5, h6, h7⟩
theorem myS_WL {lw : Nat} {s : Ys} (hl : lw ≤ 2) (h : WL s.1) (hy : s.1 12 1 < 2 ^ 19) : WL (myS lw s).1 := by
  unfold myS; dsimp only
  have h1 : WL (mhR (s.1 12 5) (stu s.1 12 3 lw, s.2)).1 := mhR_WL _ (s := (stu s.1 12 3 lw, s.2)) (WL_law h hl) (by show s.1 12 5 ≤ s.1 12 5; omega) hy
  refine WL_year h1 ?_ (by omega)
  rw [mhR_f (by omega) (by omega) (by omega) (by omega)]
  show s.1 12 1 ≤ _; omega
theorem myR_WL {l k : Nat} (hl : l ≤ 2) : ∀ (n : Nat) {s : Ys}, WL s.1 → s.1 12 1 + n < 2 ^ 19 → WL (myR l k n s).1
  | 0, _, h, _ => h
  | n + 1, s, h, hy => by
    rw [myR]
    exact myS_WL (by split <;> omega) (myR_WL hl n h (by omega)) (by rw [myR_y]; omega)
set_option maxRecDepth 100000 in
set_option maxHeartbeats 1000000 in
theorem m_siegeOf {σ : Sg} {A : St} {hg n k : Nat} {Q : Option Value → Sg → Prop} (hC : MR σ A hg) (hW : WL A) (hy : A 12 1 + 99 < 2 ^ 19) (h9 : hg ≤ 999999999) (hn : n ≤ 20) (hk : k ≤ n) (h : ∀ σ', MR σ' A hg → FrM σ σ' → Q (some (.int (nI (siA A n k)))) σ') : MetA mX8_siegeOf [.ref 89, .int (nI n), .int (nI k)] σ Q := by
  refine MetA_of qX8_siegeOf (Nat.le_of_ble_eq_true rfl) ?_
  have h4 := hW.2.1
  have h24 := hW.1.1
  have hl2 := hW.2.2.2.1
  have back : ∀ σ', FrP 200 σ σ' → MR σ' A hg := fun σ' hF => ⟨RMr.fr hC.1 h24 h4 (fun j _ q _ => hF.2 j (by omega)), hC.2.1.fr (fun c hc => hF.1 c (by omega) (by omega)), by rw [hF.2 178 (by omega)]; exact hC.2.2⟩
  -- the houses
  have r47 : ∀ (t m hh : Nat) (σ' : Sg) (s0 : Ys), WL s0.1 → s0.1 12 1 < 2 ^ 19 → hh + m = s0.1 12 5 → PS 200 σ' (mhR hh s0) hg → FrP 200 σ σ' →
      (∀ σ'', PS 200 σ'' (mhR (s0.1 12 5) s0) hg → FrP 200 σ σ'' → V mX8_siegeOf 93 [(0, .ref 89), (1, .int (nI n)), (2, .int (nI k)), (3, .int (nI t))] [] σ'' Q) →
      V mX8_siegeOf 47 [(0, .ref 89), (1, .int (nI n)), (2, .int (nI k)), (3, .int (nI t)), (4, .int (nI hh))] [] σ' Q := by
    intro t m
    induction m with
    | zero =>
      intro hh σ' s0 hW0 hy0 hi hP hF hQ
      have h4 := hW0.2.1
      have e5 : (mhR hh s0).1 12 5 = s0.1 12 5 := mhR_f (by omega) (by omega) (by omega) (by omega) _ _
      have h0h := hP.2.1.1
      rw [e5] at h0h
      have hi : hh = s0.1 12 5 := by omega
      subst hi
      refine wpB_sd (stops := [47, 93]) kX8_siegeOf 30 _ _ _ _ ?_
      refine br_t (by rw [h0h]; exact nI_le (by omega) (by omega)) ?_
      exact V.take 4 (hQ σ' hP hF)
    | succ m ih =>
      intro hh σ' s0 hW0 hy0 hi hP hF hQ
      have h4 := hW0.2.1
      have hWh := mhR_WL hh hW0 (by omega) hy0
      have hWn := mhR_WL (hh + 1) hW0 (by omega) hy0
      have hWs := WL_seals (hh := hh) (s := 0) hWh (by omega)
      have e5 : (mhR hh s0).1 12 5 = s0.1 12 5 := mhR_f (by omega) (by omega) (by omega) (by omega) _ _
      have ey : (mhR hh s0).1 12 1 = s0.1 12 1 := mhR_f (by omega) (by omega) (by omega) (by omega) _ _
      have h0h := hP.2.1.1
      rw [e5] at h0h
      have hle := eatA_le (A := stu (mhR hh s0).1 7 hh 0) (hh := hh) (harv := 0)
      have hw9 := (hWs.2.2.2.2.2.1 hh (by show hh < (mhR hh s0).1 12 5; omega)).1
      have hcap := hgA_le (h0 := hg) (t := fb_sm (mhR hh s0).2 4)
      refine wpB_sd (stops := [47, 93]) kX8_siegeOf 30 _ _ _ _ ?_
      refine br_f (by rw [h0h]; exact nI_ge (by omega) (by omega)) ?_
      refine ast (n := 800) (j := 200 + 168 + hh) rfl (by simp only [fa_lit, nI_add]) (by omega) ?_
      have hR1 : RMr 200 (sgu σ' 90 (200 + 168 + hh) 0) (stu (mhR hh s0).1 7 hh 0) := RMr_one (v := 0) hP.1 hWh (by omega)
      have hG1 : RMg (sgu σ' 90 (200 + 168 + hh) 0) (stu (mhR hh s0).1 7 hh 0) := RMg_one hP.2.1 (fun c hc => sgu_c (by omega)) (by omega) (by omega) (by omega)
      have hF1 : FrP 200 σ' (sgu σ' 90 (200 + 168 + hh) 0) := FrP.put (by omega) (by omega)
      refine mAr (by rfl) (m_eat (x := 200) (A := stu (mhR hh s0).1 7 hh 0) (hh := hh) (harv := 0) (by omega) hR1 hG1 hWs (by show hh < (mhR hh s0).1 12 5; omega) (by omega) (by show (mhR hh s0).1 12 1 < _; omega) (fun σ2 hR2 hF2 => ?_))
      have h97 : σ2 97 = σ' 97 := by rw [hF2.1 97 (by omega), sgu_c (by omega)]
      have h178 : σ2 90 (200 + 178) = σ' 90 (200 + 178) := by rw [hF2.2 _ (by omega), sgu_k (by omega)]
      refine mAr (by rfl) (m_hunger (x := 200) (hh := hh) (m := (eatA (stu (mhR hh s0).1 7 hh 0) hh 0).2) (a := (mhR hh s0).2 hh) (b := hgA hg (fb_sm (mhR hh s0).2 4)) (by omega) (by omega) (by rw [h97]; exact hP.2.2.1 hh (by omega)) (by rw [h178]; exact hP.2.2.2) (by omega) ?_)
      have hsm : fb_sm (mhR hh s0).2 4 + (eatA (stu (mhR hh s0).1 7 hh 0) hh 0).2 = fb_sm (fun i => if i = hh then (mhR hh s0).2 hh + (eatA (stu (mhR hh s0).1 7 hh 0) hh 0).2 else (mhR hh s0).2 i) 4 := by
        have := fb_sm_upd (mhR hh s0).2 ((mhR hh s0).2 hh + (eatA (stu (mhR hh s0).1 7 hh 0) hh 0).2) (show hh < 4 by omega)
        omega
      rw [hgA_add, hsm]
      have hG2 : RMg σ' (eatA (stu (mhR hh s0).1 7 hh 0) hh 0).1 := hP.2.1.eq (mhS_f (by omega) (by omega) (by omega) (by omega)) (mhS_f (by omega) (by omega) (by omega) (by omega)) (fun i => mhS_f (by omega) (by omega) (by omega) (by omega)) (fun i => mhS_f (by omega) (by omega) (by omega) (by omega))
      have key := PS_eat (s := mhR hh s0) (k := hh) (v := (eatA (stu (mhR hh s0).1 7 hh 0) hh 0).2) hP (by omega) hWn.1.1 hWn.2.1 hR2 hG2 (hF1.tr hF2.p) h97 rfl
      have nxt := ih (hh + 1) _ s0 hW0 hy0 (by omega) key.1 (hF.tr key.2) hQ
      rw [← nI_1] at nxt
      exact nxt
  -- the years
  have r14 : ∀ (m t : Nat) (σ' : Sg), t + m = n → PS 200 σ' (myR (A 12 3) k t (A, fun _ => 0)) hg → FrP 200 σ σ' → V mX8_siegeOf 14 [(0, .ref 89), (1, .int (nI n)), (2, .int (nI k)), (3, .int (nI t))] [] σ' Q := by
    intro m
    induction m with
    | zero =>
      intro t σ' hi hP hF
      have hi : t = n := by omega
      subst hi
      refine wpB_sd (stops := [14]) kX8_siegeOf 30 _ _ _ _ ?_
      refine br_t (nI_le (by omega) (by omega)) ?_
      refine m_all hP.2.2.1 ?_
      rw [siege_eq hk]
      exact h σ' (back σ' hF) (hF.m (by omega))
    | succ m ih =>
      intro t σ' hi hP hF
      have hWt := myR_WL (k := k) hl2 t (s := (A, fun _ => 0)) hW (by dsimp only; omega)
      have hyt : (myR (A 12 3) k t (A, fun _ => 0)).1 12 1 = A 12 1 + t := myR_y t _
      have e5t : (myR (A 12 3) k t (A, fun _ => 0)).1 12 5 = A 12 5 := myR_f (by omega) (by omega) (by omega) (by omega) t _
      have go : ∀ lw, lw ≤ 2 → lw = (if k ≤ t then 2 else A 12 3) → V mX8_siegeOf 44 [(0, .ref 89), (1, .int (nI n)), (2, .int (nI k)), (3, .int (nI t))] [] (sgu σ' 90 (200 + 179) (nI lw)) Q := by
        intro lw hlw elw
        have hP1 : PS 200 (sgu σ' 90 (200 + 179) (nI lw)) (stu (myR (A 12 3) k t (A, fun _ => 0)).1 12 3 lw, (myR (A 12 3) k t (A, fun _ => 0)).2) hg := ⟨RMr_one hP.1 hWt (by omega), RMg_one hP.2.1 (fun c hc => sgu_c (by omega)) (by omega) (by omega) (by omega), fun j hj => by rw [sgu_c (by omega)]; exact hP.2.2.1 j hj, by rw [sgu_k (by omega)]; exact hP.2.2.2⟩
        have hWl := WL_law hWt hlw
        refine wpB_sd (stops := [47]) kX8_siegeOf 30 _ _ _ _ ?_
        refine r47 t _ 0 _ (stu (myR (A 12 3) k t (A, fun _ => 0)).1 12 3 lw, (myR (A 12 3) k t (A, fun _ => 0)).2) hWl (by show (myR (A 12 3) k t (A, fun _ => 0)).1 12 1 < _; omega) (Nat.zero_add _) hP1 (hF.tr (FrP.put (by omega) (by omega))) (fun σ2 hP2 hF2 => ?_)
        have hW2 := mhR_WL ((stu (myR (A 12 3) k t (A, fun _ => 0)).1 12 3 lw) 12 5) (s := (stu (myR (A 12 3) k t (A, fun _ => 0)).1 12 3 lw, (myR (A 12 3) k t (A, fun _ => 0)).2)) hWl (Nat.le_refl _) (by show (myR (A 12 3) k t (A, fun _ => 0)).1 12 1 < _; omega)
        have ey2 : (mhR ((stu (myR (A 12 3) k t (A, fun _ => 0)).1 12 3 lw) 12 5) (stu (myR (A 12 3) k t (A, fun _ => 0)).1 12 3 lw, (myR (A 12 3) k t (A, fun _ => 0)).2)).1 12 1 = A 12 1 + t := by
          rw [mhR_f (by omega) (by omega) (by omega) (by omega)]; exact hyt
        have hyr := hP2.1.2.1
        dsimp only at hyr
        rw [ey2] at hyr
        refine wpB_sd (stops := [14]) kX8_siegeOf 30 _ _ _ _ ?_
        refine ald (n := 800) (j := 200 + 177) rfl rfl (by omega) hyr ?_
        refine ast (n := 800) (j := 200 + 177) rfl rfl (by omega) ?_
        rw [nI_1]
        have hPy := hP2.yr (v := A 12 1 + t + 1) (by omega) hW2.1.1 hW2.2.1
        have nxt := ih (t + 1) _ (by omega) (by
          rw [myR, ← elw]
          unfold myS
          rw [hyt]
          exact hPy) (hF2.tr (FrP.put (by omega) (by omega)))
        rw [← nI_1] at nxt
        exact V.take 4 nxt
      have hlaw : σ' 90 179 = nI (A 12 3) := by rw [hF.2 179 (by omega)]; exact hC.1.2.2.1
      refine wpB_sd (stops := [44]) kX8_siegeOf 30 _ _ _ _ ?_
      refine br_f (nI_ge (by omega) (by omega)) ?_
      refine ⟨fun g => ?_, fun g => ?_⟩
      · have g := (nI_ltI (by omega) (by omega)).mp g
        refine ald (n := 800) (j := 179) rfl rfl (by omega) hlaw ?_
        refine ast (n := 800) (j := 200 + 179) rfl rfl (by omega) ?_
        exact V.take 4 (go (A 12 3) hl2 (by rw [if_neg (by omega)]))
      · have g : ¬ t < k := fun q => g (nI_lt q (by omega))
        refine ast (n := 800) (j := 200 + 179) rfl rfl (by omega) ?_
        exact V.take 4 (go 2 (by omega) (by rw [if_pos (by omega)]))
  refine wpB_sd (stops := [14]) kX8_siegeOf 40 _ _ _ _ ?_
  refine mAr (by rfl) (m_copy (x := 0) (y := 200) (by omega) (by omega) (by omega) (fun σ1 c1 c2 c3 => ?_))
  refine m_clear (fun σ2 d1 d2 => ?_)
  have hR1 : RMr 200 σ1 A := RMr_copy hC.1 h24 h4 c1
  have hh1 : σ1 90 (200 + 178) = nI hg := by
    rw [c1 178 (by omega), Nat.zero_add]; exact hC.2.2
  refine r14 n 0 σ2 (by omega) (PS_0 (RMr.fr hR1 h24 h4 (fun j _ _ _ => by rw [d2 90 (by omega)])) ((hC.2.1.fr (fun c hc => c3 c (by omega))).fr (fun c hc => d2 c (by omega))) d1 (by rw [d2 90 (by omega)]; exact hh1) h9) ⟨fun c hc hc2 => by rw [d2 c hc2, c3 c hc], fun j hj => by rw [d2 90 (by omega), c2 j (by omega)]⟩
set_option maxRecDepth 100000 in
theorem u_siege {σ : Sg} {A : St} {hg : Nat} {x y : Int32} {Q : Option Value → Sg → Prop} (hC : MR σ A hg) (hW : WL A) (hy : A 12 1 + 99 < 2 ^ 19) (h9 : hg ≤ 999999999) (ho : ¬ (∃ n k, 1 ≤ n ∧ n ≤ 20 ∧ k ≤ n ∧ x = nI n ∧ y = nI k) → Q (some (.int OUT)) σ) (hi : ∀ n k, 1 ≤ n → n ≤ 20 → k ≤ n → x = nI n → y = nI k → ∀ σ', MR σ' A hg → FrM σ σ' → Q (some (.int (nI (siA A n k)))) σ') : MetA mX8_siege [.ref 89, .int x, .int y] σ Q := by
  refine MetA_of qX8_siege (Nat.le_of_ble_eq_true rfl) ?_
  refine wpB_sd (stops := []) kX8_siege 60 _ _ _ _ ?_
  refine m_inI (lo := nI 1) (hi := nI 20) rfl rfl ?_
  refine ⟨fun g => ho ?_, fun g => ?_⟩
  · rintro ⟨n, k, h1, h2, h3, rfl, rfl⟩
    exact bI_0.mp g ((rg_iff (by omega) (by omega)).mpr ⟨n, h1, h2, rfl⟩)
  obtain ⟨n, h1, h2, rfl⟩ := (rg_iff (by omega) (by omega)).mp (bI_n0 g)
  refine m_inI (lo := nI 0) (hi := nI n) rfl rfl ?_
  refine ⟨fun g => ho ?_, fun g => ?_⟩
  · rintro ⟨n', k, h1', h2', h3, e, rfl⟩
    have e := (nI_eq (by omega) (by omega)).mp e
    subst e
    exact bI_0.mp g ((rg_iff (by omega) (by omega)).mpr ⟨k, by omega, h3, rfl⟩)
  obtain ⟨k, -, h3, rfl⟩ := (rg_iff (by omega) (by omega)).mp (bI_n0 g)
  exact m_siegeOf hC hW hy h9 h2 h3 (fun σ' a b => hi n k h1 h2 h3 rfl rfl σ' a b)
end
section
/-! when -/
def whF (A : St) (n c k : Nat) : Nat := siA A n k + if k < n then c else 0
def IsW (f : Nat → Nat) (n b : Nat) : Prop := b ≤ n ∧ (∀ k, k ≤ n → f b ≤ f k) ∧ ∀ k, k ≤ n → b < k → f b < f k
theorem IsW_one {f : Nat → Nat} {n a b : Nat} (ha : IsW f n a) (hb : IsW f n b) : a = b := by
  rcases Nat.lt_trichotomy a b with q | q | q
  · have := ha.2.2 b hb.1 q
    have := hb.2.1 a ha.1
    omega
  · exact q
  · have := hb.2.2 a ha.1 q
    have := ha.2.1 b hb.1
    omega
theorem whF_le {A : St} {n c k : Nat} (hW : WL A) (hn : n ≤ 20) (hk : k ≤ n) (hc : c ≤ 999) (hy : A 12 1 + 99 < 2 ^ 19) : whF A n c k ≤ 9000 := by
  have := siA_le hW hn hk hy
  unfold whF
  split <;> omega
theorem nI_s1 {m : Nat} {v : Int32} (h : v = nI (m + 1) - 1) : v = nI m := by
  rw [h, ← nI_1]; simp
theorem nI_d1 {m : Nat} : nI m + -1 = nI m - 1 := by rw [Int32.sub_eq_add_neg]
set_option maxRecDepth 100000 in
set_option maxHeartbeats 1000000 in
theorem t_when {σ : Sg} {A : St} {hg : Nat} {x y : Int32} {Q : Option Value → Sg → Prop} (hC : CS σ A hg) (hW : WL A) (hy : A 12 1 + 99 < 2 ^ 19) (h9 : hg ≤ 999999999) (ho : ¬ (rg x 1 20 ∧ rg y 0 999) → Q (some (.int OUT)) σ) (hi : ∀ n c b, 1 ≤ n → n ≤ 20 → c ≤ 999 → x = nI n → y = nI c → IsW (whF A n c) n b → ∀ σ', CS σ' A hg → FrX σ σ' → Q (some (.int (nI b))) σ') : MetA mX7_when [.ref 0, .int x, .int y] σ Q := by
  refine MetA_of qX7_when (Nat.le_of_ble_eq_true rfl) ?_
  have loop : ∀ n c, 1 ≤ n → n ≤ 20 → c ≤ 999 → x = nI n → y = nI c → ∀ m b σi, m ≤ b → b ≤ n → CS σi A hg → FrL 14 σ σi → (∀ k, m ≤ k → k ≤ n → whF A n c b ≤ whF A n c k) → (∀ k, k ≤ n → b < k → whF A n c b < whF A n c k) → ∀ v, v = nI m - 1 → V mX7_when 40 [(0, .ref 0), (1, .int (nI n)), (2, .int (nI c)), (3, .int (nI b)), (4, .int (nI (whF A n c b))), (5, .int v)] [] σi Q := by
    intro n c h1 h2 h3 hx hv m
    induction m with
    | zero =>
      intro b σi hmb hbn hCi hF hl hs v hv0
      subst hv0
      refine wpB_sd (stops := [40]) kX7_when 30 _ _ _ _ ?_
      refine br_t (by decide) ?_
      exact hi n c b h1 h2 h3 hx hv ⟨hbn, fun k hk => hl k (by omega) hk, hs⟩ σi hCi hF.x2
    | succ m ih =>
      intro b σi hmb hbn hCi hF hl hs v hv0
      have hv0 := nI_s1 hv0
      subst hv0
      have hle := whF_le (c := c) (k := m) hW h2 (by omega) h3 hy
      have hle2 := whF_le (c := c) (k := b) hW h2 hbn h3 hy
      refine wpB_sd (stops := [40]) kX7_when 40 _ _ _ _ ?_
      refine br_f (nI_pos (by omega)) ?_
      refine s_hos hCi hW hy h9 h2 (show m ≤ n by omega) (fun σ1 hC1 hF1 => ?_)
      have hF2 : FrL 14 σ σ1 := fun c hc => (hF1 c hc).trans (hF c hc)
      have e : siA A n m + c = whF A n c m := by unfold whF; rw [if_pos (by omega)]
      refine ⟨fun g => ?_, fun g => ?_⟩
      · rw [nI_add, e] at g
        have g := (nI_leI (by omega) (by omega)).mp g
        refine V.take 6 (ih b σ1 (by omega) hbn hC1 hF2 (fun k a d => ?_) hs _ nI_d1)
        by_cases q : k = m
        · subst q; exact g
        · exact hl k (by omega) d
      · rw [nI_add, e] at g
        have g : ¬ whF A n c b ≤ whF A n c m := fun q => g (nI_le q (by omega))
        have nxt := ih m σ1 (by omega) (by omega) hC1 hF2 (fun k a d => ?_) (fun k a d => ?_) _ nI_d1
        · rw [← e, ← nI_add] at nxt
          exact V.take 6 nxt
        · by_cases q : k = m
          · subst q; omega
          · have := hl k (by omega) d; omega
        · have := hl k (by omega) a; omega
  have out : ¬ (rg x 1 20 ∧ rg y 0 999) → V mX7_when 22 [(0, .ref 0), (1, .int x), (2, .int y)] [] σ Q := fun g => by
    refine wpB_sd (stops := []) kX7_when 10 _ _ _ _ ?_
    exact ho g
  refine wpB_sd (stops := [22, 40]) kX7_when 60 _ _ _ _ ?_
  refine ⟨fun g => out (fun q => rg_lt (lo := 1) (hi := 20) (by omega) (by omega) g q.1), fun g => ⟨fun g2 => out (fun q => rg_gt (lo := 1) (hi := 20) (by omega) (by omega) g2 q.1), fun g2 => ⟨fun g3 => out (fun q => rg_lt (lo := 0) (hi := 999) (by omega) (by omega) g3 q.2), fun g3 => ⟨fun g4 => ?_, fun g4 => out (fun q => rg_gt (lo := 0) (hi := 999) (by omega) (by omega) (Int32.not_le.mp g4) q.2)⟩⟩⟩⟩
  obtain ⟨n, h1, h2, rfl⟩ := rg_of (lo := 1) (hi := 20) (by omega) (by omega) g g2
  obtain ⟨c, -, h3, rfl⟩ := rg_of (lo := 0) (hi := 999) (by omega) (by omega) g3 (Int32.not_lt.mpr g4)
  refine s_hos hC hW hy h9 h2 (Nat.le_refl n) (fun σ1 hC1 hF1 => ?_)
  have e : siA A n n = whF A n c n := by unfold whF; rw [if_neg (by omega)]; rfl
  have nxt := loop n c h1 h2 h3 rfl rfl n n σ1 (Nat.le_refl n) (Nat.le_refl n) hC1 hF1 (fun k a b => by rw [Nat.le_antisymm b a]; exact Nat.le_refl _) (fun k a b => by omega) _ rfl
  rw [← e] at nxt
  exact nxt
set_option maxRecDepth 100000 in
set_option maxHeartbeats 1000000 in
theorem u_when {σ : Sg} {A : St} {hg : Nat} {x y : Int32} {Q : Option Value → Sg → Prop} (hC : MR σ A hg) (hW : WL A) (hy : A 12 1 + 99 < 2 ^ 19) (h9 : hg ≤ 999999999) (ho : ¬ (rg x 1 20 ∧ rg y 0 999) → Q (some (.int OUT)) σ) (hi : ∀ n c b, 1 ≤ n → n ≤ 20 → c ≤ 999 → x = nI n → y = nI c → IsW (whF A n c) n b → ∀ σ', MR σ' A hg → FrM σ σ' → Q (some (.int (nI b))) σ') : MetA mX8_when [.ref 89, .int x, .int y] σ Q := by
  refine MetA_of qX8_when (Nat.le_of_ble_eq_true rfl) ?_
  have loop : ∀ n c, 1 ≤ n → n ≤ 20 → c ≤ 999 → x = nI n → y = nI c → ∀ m k b w σi, k + m = n + 1 → MR σi A hg → FrM σ σi → (k = 0 → b = 0 ∧ w = 99999999) → (0 < k → b < k ∧ w = whF A n c b ∧ (∀ j, j < k → whF A n c b ≤ whF A n c j) ∧ ∀ j, j < k → b < j → whF A n c b < whF A n c j) → V mX8_when 36 [(0, .ref 89), (1, .int (nI n)), (2, .int (nI c)), (3, .int (nI b)), (4, .int (nI w)), (5, .int (nI k))] [] σi Q := by
    intro n c h1 h2 h3 hx hv m
    induction m with
    | zero =>
      intro k b w σi hk hCi hF h0 hs
      have hk : k = n + 1 := by omega
      subst hk
      obtain ⟨a1, a2, a3, a4⟩ := hs (by omega)
      refine wpB_sd (stops := [36]) kX8_when 30 _ _ _ _ ?_
      refine br_t (nI_lt (by omega) (by omega)) ?_
      exact hi n c b h1 h2 h3 hx hv ⟨by omega, fun k hk => a3 k (by omega), fun k hk => a4 k (by omega)⟩ σi hCi hF
    | succ m ih =>
      intro k b w σi hk hCi hF h0 hs
      have hle := whF_le (c := c) (k := k) hW h2 (by omega) h3 hy
      have hw : w < 2 ^ 31 := by
        by_cases q : k = 0
        · have := (h0 q).2; omega
        · obtain ⟨a1, a2, a3, a4⟩ := hs (by omega)
          have := whF_le (c := c) (k := b) hW h2 (by omega) h3 hy
          omega
      have go : ∀ σ1 v, MR σ1 A hg → FrM σi σ1 → v = nI (whF A n c k) → V mX8_when 63 [(0, .ref 89), (1, .int (nI n)), (2, .int (nI c)), (3, .int (nI b)), (4, .int (nI w)), (5, .int (nI k)), (6, .int v)] [] σ1 Q := by
        intro σ1 v hC1 hF1 hv
        subst hv
        refine wpB_sd (stops := [36]) kX8_when 40 _ _ _ _ ?_
        refine ⟨fun g => ?_, fun g => ?_⟩
        · have g := (nI_ltI (by omega) (by omega)).mp g
          have hk0 : 0 < k := by
            rcases Nat.eq_zero_or_pos k with q | q
            · have := (h0 q).2; omega
            · exact q
          obtain ⟨a1, a2, a3, a4⟩ := hs hk0
          have nxt := ih (k + 1) b w σ1 (by omega) hC1 (hF.tr hF1) (by omega) (fun _ => ⟨by omega, a2, fun j hj => ?_, fun j hj hb => ?_⟩)
          · rw [← nI_1] at nxt
            exact V.take 6 nxt
          · by_cases q : j = k
            · subst q; omega
            · exact a3 j (by omega)
          · by_cases q : j = k
            · subst q; omega
            · exact a4 j (by omega) hb
        · have g : ¬ w < whF A n c k := fun q => g (nI_lt q (by omega))
          have nxt := ih (k + 1) k (whF A n c k) σ1 (by omega) hC1 (hF.tr hF1) (by omega) (fun _ => ⟨by omega, rfl, fun j hj => ?_, fun j hj hb => by omega⟩)
          · rw [← nI_1] at nxt
            exact V.take 6 nxt
          · by_cases q : j = k
            · subst q; exact Nat.le_refl _
            · obtain ⟨a1, a2, a3, a4⟩ := hs (by omega)
              have := a3 j (by omega)
              omega
      refine wpB_sd (stops := [63]) kX8_when 40 _ _ _ _ ?_
      refine br_f (nI_nlt (by omega) (by omega)) ?_
      refine m_siegeOf hCi hW hy h9 h2 (show k ≤ n by omega) (fun σ1 hC1 hF1 => ?_)
      refine ⟨fun g => ?_, fun g => ?_⟩
      · have g := (nI_leI (by omega) (by omega)).mp g
        refine go σ1 _ hC1 hF1 ?_
        unfold whF
        rw [if_neg (by omega)]
        exact nI_add _ _
      · have g : k < n := Nat.lt_of_not_le (fun q => g (nI_le q (by omega)))
        refine go σ1 _ hC1 hF1 ?_
        unfold whF
        rw [if_pos g]
        exact nI_add _ _
  have out : ¬ (rg x 1 20 ∧ rg y 0 999) → V mX8_when 24 [(0, .ref 89), (1, .int x), (2, .int y)] [] σ Q := fun g => by
    refine wpB_sd (stops := []) kX8_when 10 _ _ _ _ ?_
    exact ho g
  refine wpB_sd (stops := [24, 36]) kX8_when 60 _ _ _ _ ?_
  refine m_inI (lo := nI 1) (hi := nI 20) rfl rfl ?_
  refine ⟨fun g => out (fun q => bI_0.mp g ((rg_iff (by omega) (by omega)).mpr q.1)), fun g => ?_⟩
  obtain ⟨n, h1, h2, rfl⟩ := (rg_iff (by omega) (by omega)).mp (bI_n0 g)
  refine m_inI (lo := nI 0) (hi := nI 999) rfl rfl ?_
  refine ⟨fun g => ?_, fun g => out (fun q => bI_0.mp g ((rg_iff (by omega) (by omega)).mpr q.2))⟩
  obtain ⟨c, -, h3, rfl⟩ := (rg_iff (by omega) (by omega)).mp (bI_n0 g)
  exact loop n c h1 h2 h3 rfl rfl (n + 1) 0 0 99999999 σ (by omega) hC FrM.rf (fun _ => ⟨rfl, rfl⟩) (fun q => by omega)
end
section
/-! change -/
def hbA (A : St) (n h : Nat) : Nat := (yrR false n (A, fun _ => 0)).2 h
abbrev BetP (A : St) (n a b : Nat) : Prop := (A 6 a = 0 ∧ A 6 b = 0 ∧ A 1 a ≠ A 1 b) ∧ hbA (swA A a b) n (A 1 a) < hbA A n (A 1 a) ∧ hbA (swA A a b) n (A 1 b) < hbA A n (A 1 b)
def ch1 (A : St) (n a : Nat) : Nat → Nat → Option St
  | 0, _ => none
  | m + 1, b => if BetP A n a b then some (swA A a b) else ch1 A n a m (b + 1)
def ch2 (A : St) (n : Nat) : Nat → Nat → Option St
  | 0, _ => none
  | m + 1, a => match ch1 A n a m (a + 1) with
    | some B => some B
    | none => ch2 A n m (a + 1)
def chR (n : Nat) : Nat → St → Nat → St × Nat
  | 0, A, d => (A, d)
  | f + 1, A, d => match ch2 A n (A 12 0) 0 with
    | none => (A, d)
    | some B => chR n f B (d + 1)
theorem WL_own {A : St} (h : WL A) {a v : Nat} (hv : v < A 12 5) : WL (stu A 1 a v) := by
  obtain ⟨⟨j1, j2, j3⟩, h1, h2, h3, h4, h5, h6, h7⟩ := h
  have e : ∀ j, stu A 1 a v 1 j = v ∨ stu A 1 a v 1 j = A 1 j := by
    intro j
    by_cases q : j = a
    · subst q; exact Or.inl stu_s
    · exact Or.inr (stu_k q)
  refine ⟨⟨j1, j2, fun j hj => ?_⟩, h1, h2, h3, h4, h5, h6, fun j hj => ?_⟩
  · have := j3 j hj
    refine ⟨this.1, ?_, this.2.2⟩
    rcases e j with q | q <;> rw [q]
    · omega
    · exact this.2.1
  · have := h7 j hj
    show stu A 1 a v 1 j < A 12 5
    rcases e j with q | q <;> rw [q]
    · exact hv
    · exact this
theorem WL_sw {A : St} (h : WL A) {a b : Nat} (ha : a < A 12 0) (hb : b < A 12 0) : WL (swA A a b) :=
  WL_own (WL_own h (h.2.2.2.2.2.2.2 b hb)) (h.2.2.2.2.2.2.2 a ha)
theorem swA_f {A : St} {a b f k : Nat} (h : f ≠ 1) : swA A a b f k = A f k := by
  unfold swA; rw [stu_f h, stu_f h]
theorem RLd_sw {L : Nat} {σ σ' : Sg} {A : St} {a b : Nat} (h : RLd L σ A) (hc : RCel (L + 6) σ' (swA A a b)) (hf : ∀ c, ¬ (L + 6 ≤ c ∧ c ≤ L + 12) → σ' c = σ c) : RLd L σ' (swA A a b) := by
  obtain ⟨g0, g1, g2, g3, g4, g5, g6, g7⟩ := h
  refine ⟨hc, ?_, ?_, ?_, ?_, ?_, fun k hk => ?_, fun k hk => ?_⟩
  · rw [hf L (by omega)]; exact g1
  · rw [hf L (by omega)]; exact g2
  · rw [hf L (by omega)]; exact g3
  · rw [hf L (by omega)]; exact g4
  · rw [hf L (by omega)]; exact g5
  · rw [hf (L + 1) (by omega), hf (L + 2) (by omega), hf (L + 3) (by omega)]; exact g6 k hk
  · rw [hf (L + 5) (by omega)]; exact g7 k hk
theorem hbA_le {A : St} {n h : Nat} (hW : WL A) (hy : A 12 1 + n < 2 ^ 19) : hbA A n h ≤ 99 * n := yrR_le n (s := (A, fun _ => 0)) hW hy (fun _ => rfl) h
set_option maxRecDepth 100000 in
set_option maxHeartbeats 1000000 in
theorem s_better {σ : Sg} {A : St} {hg n a b : Nat} {Q : Option Value → Sg → Prop} (hC : CS σ A hg) (hW : WL A) (hn : n ≤ 20) (hy : A 12 1 + 99 < 2 ^ 19) (h9 : hg ≤ 999999999) (ha : a < b) (hb : b < A 12 0) (h88 : ∀ k, k < A 12 5 → σ 88 k = nI (hbA A n k)) (h : ∀ σ', CS σ' A hg → FrL 14 σ σ' → Q (some (.int (bI (BetP A n a b)))) σ') : MetA mX7_isBetterChanged [.ref 0, .int (nI a), .int (nI b), .int (nI n)] σ Q := by
  refine MetA_of qX7_isBetterChanged (Nat.le_of_ble_eq_true rfl) ?_
  have hRc : RCel 7 σ A := hC.1.1
  have ha0 : a < A 12 0 := by omega
  have h4 := hW.2.1
  have h24 := hW.1.1
  have ho1 := hW.2.2.2.2.2.2.2 a ha0
  have ho2 := hW.2.2.2.2.2.2.2 b hb
  have hg1 := (hW.1.2.2 a ha0).2.2.2.2.2.2
  have hg2 := (hW.1.2.2 b hb).2.2.2.2.2.2
  have ea := (hRc.2.2 a ha0).2.1
  have eb := (hRc.2.2 b hb).2.1
  have hWs := WL_sw hW ha0 hb
  have e5 : swA A a b 12 5 = A 12 5 := swA_f (by omega)
  have e1 : swA A a b 12 1 = A 12 1 := swA_f (by omega)
  have l1 := hbA_le (n := n) (h := A 1 a) hW (by omega)
  have l2 := hbA_le (n := n) (h := A 1 b) hW (by omega)
  have l3 := hbA_le (n := n) (h := A 1 a) hWs (by omega)
  have l4 := hbA_le (n := n) (h := A 1 b) hWs (by omega)
  have no : ¬ BetP A n a b → ((0 : Int32) = 0 ∨ (0 : Int32) = 1) ∧ Q (some (.int 0)) σ := fun q => by
    have := h σ hC (fun _ _ => rfl)
    rw [bI_f q] at this
    exact ⟨Or.inl rfl, this⟩
  have hh1 : 0 ≤ nI (A 1 a) ∧ nI (A 1 a) < σ 1 0 := by rw [hC.1.2.1]; exact (ix_iff (by omega)).mpr ⟨_, ho1, rfl⟩
  have hh2 : 0 ≤ nI (A 1 b) ∧ nI (A 1 b) < σ 1 0 := by rw [hC.1.2.1]; exact (ix_iff (by omega)).mpr ⟨_, ho2, rfl⟩
  refine wpB_sd (stops := []) kX7_isBetterChanged 200 _ _ _ _ ?_
  refine s_hasY (Or.inl rfl) hRc hW.1 ha0 ?_
  refine br_f (by decide) ?_
  refine s_hasY (Or.inl rfl) hRc hW.1 hb ?_
  refine br_f (by decide) ?_
  refine s_isGone (Or.inl rfl) hRc hW.1 ha0 ?_
  refine ⟨fun g => no (by intro q; have := bI_n0 g; have := q.1.1; omega), fun g => ?_⟩
  have g1 : A 6 a = 0 := by have := bI_0.mp g; omega
  refine s_isGone (Or.inl rfl) hRc hW.1 hb ?_
  refine ⟨fun g => ?_, fun g => no (by intro q; have := bI_n0 g; have := q.1.2.1; omega)⟩
  have g2 : A 6 b = 0 := by have := bI_0.mp g; omega
  refine ald (n := 24) (j := a) rfl rfl (by omega) ea ?_
  refine ald (n := 24) (j := b) rfl rfl (by omega) eb ?_
  refine ⟨fun g => no (fun q => q.1.2.2 ((nI_eq (by omega) (by omega)).mp g)), fun g => ?_⟩
  have g3 : A 1 a ≠ A 1 b := fun q => g (by rw [q])
  refine s_hasHouse (Or.inl rfl) ?_
  rw [bI_t hh1]
  refine br_f (by decide) ?_
  refine s_hasHouse (Or.inl rfl) ?_
  rw [bI_t hh2]
  refine bn_f (by decide) ?_
  refine ald (n := 4) (j := A 1 a) rfl rfl (by omega) (h88 _ ho1) ?_
  refine ⟨fun g => no (by intro q; have g := (nI_eq (b := 0) (by omega) (by omega)).mp g; have := q.2.1; omega), fun g => ?_⟩
  refine ald (n := 4) (j := A 1 b) rfl rfl (by omega) (h88 _ ho2) ?_
  refine ⟨fun g => ?_, fun g => no (by intro q; have g := (nI_eq (b := 0) (by omega) (by omega)).mp g; have := q.2.2; omega)⟩
  refine s_copyL (d := 14) (s := 1) (by simp) hC.1 hW.2.1 hW.2.2.1 hW.1.1 (fun σ1 hR1 he1 hF1 => ?_)
  refine s_swap (c := 20) (Or.inr rfl) hR1.1 hW.1 ha0 hb ha (fun σ2 hR2 hF2 => ?_)
  have hR2L : RLd 14 σ2 (swA A a b) := RLd_sw hR1 hR2 hF2
  have hg2L : σ2 14 8 = nI hg := by rw [hF2 14 (by omega), he1]; exact hC.2
  refine mAr (by rfl) (s_pass (dr := false) (n := n) (Or.inr rfl) hR2L hWs (by omega) (by omega) hg2L h9 (fun σ3 hR3 hm3 hg3 hF3 => ?_))
  have hF : FrL 14 σ σ3 := fun c hc => by rw [hF3 c hc, hF2 c (by omega), hF1 c hc]
  have fin := h σ3 (CS_trial hC hF) hF
  have k88 : ∀ k, k < A 12 5 → σ3 88 k = nI (hbA A n k) := fun k hk => by rw [hF 88 (by omega)]; exact h88 k hk
  refine ald (n := 4) (j := A 1 a) rfl rfl (by omega) (hm3 _ (by omega)) ?_
  refine ald (n := 4) (j := A 1 a) rfl rfl (by omega) (k88 _ ho1) ?_
  refine ⟨fun g => ?_, fun g => ?_⟩
  · have g : hbA A n (A 1 a) ≤ hbA (swA A a b) n (A 1 a) := (nI_leI (by omega) (by omega)).mp g
    rw [bI_f (fun q => by have := q.2.1; omega)] at fin
    exact ⟨Or.inl rfl, fin⟩
  have g : ¬ hbA A n (A 1 a) ≤ hbA (swA A a b) n (A 1 a) := fun q => g (nI_le q (by unfold hbA at l3; omega))
  refine ald (n := 4) (j := A 1 b) rfl rfl (by omega) (hm3 _ (by omega)) ?_
  refine ald (n := 4) (j := A 1 b) rfl rfl (by omega) (k88 _ ho2) ?_
  refine ⟨fun g => ?_, fun g => ?_⟩
  · have g : hbA A n (A 1 b) ≤ hbA (swA A a b) n (A 1 b) := (nI_leI (by omega) (by omega)).mp g
    rw [bI_f (fun q => by have := q.2.2; omega)] at fin
    exact ⟨Or.inl rfl, fin⟩
  have g' : ¬ hbA A n (A 1 b) ≤ hbA (swA A a b) n (A 1 b) := fun q => g (nI_le q (by unfold hbA at l4; omega))
  rw [bI_t ⟨⟨g1, g2, g3⟩, by omega, by omega⟩] at fin
  exact ⟨Or.inr rfl, fin⟩
def FrY (σ σ' : Sg) : Prop := ∀ c, ¬ (1 ≤ c ∧ c ≤ 26) → c ≠ 88 → σ' c = σ c
theorem FrL.y {σ σ' : Sg} (h : FrL 14 σ σ') : FrY σ σ' := fun c hc _ => h c (by omega)
theorem FrY.rf {σ : Sg} : FrY σ σ := fun _ _ _ => rfl
theorem FrY.tr {σ σ' σ'' : Sg} (h : FrY σ σ') (h2 : FrY σ' σ'') : FrY σ σ'' := fun c hc hd => (h2 c hc hd).trans (h c hc hd)
set_option maxRecDepth 100000 in
set_option maxHeartbeats 1000000 in
theorem s_first {σ : Sg} {A : St} {hg n : Nat} {Q : Option Value → Sg → Prop} (hC : CS σ A hg) (hW : WL A) (hn : n ≤ 20) (hy : A 12 1 + 99 < 2 ^ 19) (h9 : hg ≤ 999999999) (h0 : ch2 A n (A 12 0) 0 = none → ∀ σ', CS σ' A hg → FrY σ σ' → Q (some (.int 0)) σ') (h1 : ∀ B, ch2 A n (A 12 0) 0 = some B → WL B → B 12 1 = A 12 1 → ∀ σ', CS σ' B hg → FrY σ σ' → Q (some (.int 1)) σ') : MetA mX7_doFirstChange [.ref 0, .int (nI n)] σ Q := by
  refine MetA_of qX7_doFirstChange (Nat.le_of_ble_eq_true rfl) ?_
  have h24 := hW.1.1
  have h4 := hW.2.1
  have inner : ∀ a, a < A 12 0 → (∀ σ', CS σ' A hg → FrY σ σ' → (∀ k, k < A 12 5 → σ' 88 k = nI (hbA A n k)) → ch1 A n a (A 12 0 - (a + 1)) (a + 1) = none → V mX7_doFirstChange 99 [(0, .ref 0), (1, .int (nI n)), (2, .int (nI (A 12 0))), (3, .int (nI a))] [] σ' Q) → (∀ B, ch1 A n a (A 12 0 - (a + 1)) (a + 1) = some B → ch2 A n (A 12 0) 0 = some B) → ∀ m b σ', a < b → b + m = A 12 0 → ch1 A n a (A 12 0 - (a + 1)) (a + 1) = ch1 A n a m b → CS σ' A hg → FrY σ σ' → (∀ k, k < A 12 5 → σ' 88 k = nI (hbA A n k)) → V mX7_doFirstChange 61 [(0, .ref 0), (1, .int (nI n)), (2, .int (nI (A 12 0))), (3, .int (nI a)), (4, .int (nI b))] [] σ' Q := by
    intro a ha hnx hso m
    induction m with
    | zero =>
      intro b σ' hab hbm he hC' hF' h88
      refine wpB_sd (stops := [61, 99]) kX7_doFirstChange 30 _ _ _ _ ?_
      refine br_t (nI_le (by omega) (by omega)) ?_
      exact V.take 4 (hnx σ' hC' hF' h88 he)
    | succ m ih =>
      intro b σ' hab hbm he hC' hF' h88
      refine wpB_sd (stops := [61, 99]) kX7_doFirstChange 40 _ _ _ _ ?_
      refine br_f (nI_ge (by omega) (by omega)) ?_
      refine s_better hC' hW hn hy h9 hab (by omega) h88 (fun σ1 hC1 hF1 => ?_)
      rw [ch1] at he
      refine ⟨fun g => ?_, fun g => ?_⟩
      · rw [if_neg (bI_0.mp g)] at he
        have nxt := ih (b + 1) σ1 (by omega) (by omega) he hC1 (hF'.tr hF1.y) (fun k hk => by rw [hF1 88 (by omega)]; exact h88 k hk)
        rw [← nI_1] at nxt
        exact nxt
      · rw [if_pos (bI_n0 g)] at he
        refine s_swap (c := 7) (Or.inl rfl) hC1.1.1 hW.1 (by omega) (by omega) hab (fun σ2 hR2 hF2 => ?_)
        refine ⟨Or.inr rfl, h1 _ (hso _ he) (WL_sw hW (by omega) (by omega)) (swA_f (by omega)) σ2 ⟨RLd_sw hC1.1 hR2 hF2, by rw [hF2 1 (by omega)]; exact hC1.2⟩ ((hF'.tr hF1.y).tr (fun c hc _ => hF2 c (by omega)))⟩
  have outer : ∀ m a σ', a + m = A 12 0 → ch2 A n (A 12 0) 0 = ch2 A n m a → CS σ' A hg → FrY σ σ' → (∀ k, k < A 12 5 → σ' 88 k = nI (hbA A n k)) → V mX7_doFirstChange 51 [(0, .ref 0), (1, .int (nI n)), (2, .int (nI (A 12 0))), (3, .int (nI a))] [] σ' Q := by
    intro m
    induction m with
    | zero =>
      intro a σ' ha he hC' hF' h88
      refine wpB_sd (stops := [51]) kX7_doFirstChange 30 _ _ _ _ ?_
      refine br_t (nI_le (by omega) (by omega)) ?_
      exact ⟨Or.inl rfl, h0 he σ' hC' hF'⟩
    | succ m ih =>
      intro a σ' ha he hC' hF' h88
      have em : A 12 0 - (a + 1) = m := by omega
      refine wpB_sd (stops := [51, 61]) kX7_doFirstChange 30 _ _ _ _ ?_
      refine br_f (nI_ge (by omega) (by omega)) ?_
      have nxt := inner a (by omega) (fun σ1 hC1 hF1 h881 hn1 => by
          refine wpB_sd (stops := [51]) kX7_doFirstChange 30 _ _ _ _ ?_
          rw [em] at hn1
          have nx := ih (a + 1) σ1 (by omega) (by rw [he, ch2, hn1]) hC1 hF1 h881
          rw [← nI_1] at nx
          exact nx) (fun B hB => by rw [em] at hB; rw [he, ch2, hB]) m (a + 1) σ' (by omega) (by omega) (by rw [em]) hC' hF' h88
      rw [← nI_1] at nxt
      exact nxt
  refine wpB_sd (stops := [51]) kX7_doFirstChange 60 _ _ _ _ ?_
  refine s_copyL (d := 14) (s := 1) (by simp) hC.1 hW.2.1 hW.2.2.1 hW.1.1 (fun σ1 hR1 he1 hF1 => ?_)
  refine mAr (by rfl) (s_pass (dr := false) (n := n) (Or.inr rfl) hR1 hW (by omega) (by omega) (by rw [he1]; exact hC.2) h9 (fun σ3 hR3 hm3 hg3 hF3 => ?_))
  have hF : FrL 14 σ σ3 := fun c hc => by rw [hF3 c hc, hF1 c hc]
  refine ⟨acok (n := 4) rfl rfl, ?_⟩
  have hC3 := CS_trial hC hF
  have key : ∀ f, CS (sgc σ3 88 f) A hg := fun f => ⟨hC3.1.fr (fun c a b d => sgc_ne (by omega)), by rw [sgc_ne (by omega)]; exact hC3.2⟩
  have hC4 := key (va_cpy (σ3 18) (σ3 88) (0 : Int32).toNatClampNeg (0 : Int32).toNatClampNeg (4 : Int32).toNatClampNeg)
  have nxt := outer (A 12 0) 0 _ (by omega) rfl hC4 (hF.y.tr (fun c hc hd => sgc_ne hd)) (fun k hk => by
    rw [sgc_self]; exact (cp_in (m := (4 : Int32)) (n := 4) rfl (by omega) (by omega)).trans (hm3 k hk))
  rw [← hC4.1.1.1] at nxt
  exact nxt
set_option maxRecDepth 100000 in
set_option maxHeartbeats 1000000 in
theorem t_change {σ : Sg} {A : St} {hg : Nat} {v : Int32} {Q : Option Value → Sg → Prop} (hC : CS σ A hg) (hW : WL A) (hy : A 12 1 + 99 < 2 ^ 19) (h9 : hg ≤ 999999999) (ho : ¬ rg v 1 20 → Q (some (.int OUT)) σ) (hi : ∀ n, 1 ≤ n → n ≤ 20 → v = nI n → WL (chR n 20 A 0).1 → (chR n 20 A 0).1 12 1 = A 12 1 → ∀ σ', CS σ' (chR n 20 A 0).1 hg → FrY σ σ' → Q (some (.int (nI (chR n 20 A 0).2))) σ') : MetA mX7_change [.ref 0, .int v] σ Q := by
  refine MetA_of qX7_change (Nat.le_of_ble_eq_true rfl) ?_
  have loop : ∀ n, 1 ≤ n → n ≤ 20 → v = nI n → ∀ m d B σ', d + m = 20 → chR n 20 A 0 = chR n m B d → CS σ' B hg → WL B → B 12 1 = A 12 1 → FrY σ σ' → V mX7_change 16 [(0, .ref 0), (1, .int (nI n)), (2, .int (nI d))] [] σ' Q := by
    intro n h1 h2 hv m
    have fin : ∀ d B σ', chR n 20 A 0 = (B, d) → CS σ' B hg → WL B → B 12 1 = A 12 1 → FrY σ σ' → Q (some (.int (nI d))) σ' := by
      intro d B σ' he hC' hW' hy' hF'
      have := hi n h1 h2 hv
      rw [he] at this
      exact this hW' hy' σ' hC' hF'
    induction m with
    | zero =>
      intro d B σ' hd he hC' hW' hy' hF'
      refine wpB_sd (stops := [16]) kX7_change 30 _ _ _ _ ?_
      refine br_t (nI_le (a := 20) (by omega) (by omega)) ?_
      exact fin d B σ' he hC' hW' hy' hF'
    | succ m ih =>
      intro d B σ' hd he hC' hW' hy' hF'
      refine wpB_sd (stops := [16]) kX7_change 30 _ _ _ _ ?_
      refine br_f (nI_ge (a := d) (b := 20) (by omega) (by omega)) ?_
      rw [show chR n (m + 1) B d = (match ch2 B n (B 12 0) 0 with | none => (B, d) | some B' => chR n m B' (d + 1)) from rfl] at he
      refine s_first hC' hW' h2 (by omega) h9 (fun hn σ1 hC1 hF1 => ?_) (fun B' hB hWB hyB σ1 hC1 hF1 => ?_)
      · rw [hn] at he
        refine br_t (by decide) ?_
        exact fin d B σ1 he hC1 hW' hy' (hF'.tr hF1)
      · rw [hB] at he
        refine br_f (by decide) ?_
        have nxt := ih (d + 1) B' σ1 (by omega) he hC1 hWB (by omega) (hF'.tr hF1)
        rw [← nI_1] at nxt
        exact nxt
  refine wpB_sd (stops := [16]) kX7_change 30 _ _ _ _ ?_
  refine ⟨fun g => ho (rg_lt (lo := 1) (hi := 20) (by omega) (by omega) g), fun g => ⟨fun g2 => ?_, fun g2 => ho (rg_gt (lo := 1) (hi := 20) (by omega) (by omega) (Int32.not_le.mp g2))⟩⟩
  obtain ⟨n, h1, h2, rfl⟩ := rg_of (lo := 1) (hi := 20) (by omega) (by omega) g (Int32.not_lt.mpr g2)
  exact loop n h1 h2 rfl 20 0 A σ (by omega) rfl hC hW rfl FrY.rf
end
section
/-! change: the reference -/
theorem MR_back {σ σ' : Sg} {A : St} {hg : Nat} (hC : MR σ A hg) (hW : WL A) (hF : FrP 200 σ σ') : MR σ' A hg := ⟨RMr.fr hC.1 hW.1.1 hW.2.1 (fun j _ q _ => hF.2 j (by omega)), hC.2.1.fr (fun c hc => hF.1 c (by omega) (by omega)), by rw [hF.2 178 (by omega)]; exact hC.2.2⟩
theorem FrP_copy {σ σ' : Sg} (h2 : ∀ k, k < 200 ∨ 200 + 200 ≤ k → σ' 90 k = σ 90 k) (h3 : ∀ c, c ≠ 90 → σ' c = σ c) : FrP 200 σ σ' := ⟨fun c hc _ => h3 c hc, h2⟩
set_option maxRecDepth 100000 in
set_option maxHeartbeats 2000000 in
theorem m_changes {σ : Sg} {A : St} {hg n a b : Nat} {Q : Option Value → Sg → Prop} (hC : MR σ A hg) (hW : WL A) (hn : n ≤ 20) (hy : A 12 1 + 99 < 2 ^ 19) (h9 : hg ≤ 999999999) (ha : a < b) (hb : b < A 12 0) (h0 : ¬ BetP A n a b → ∀ σ', MR σ' A hg → FrM σ σ' → Q (some (.int 0)) σ') (h1 : BetP A n a b → ∀ σ', MR σ' (swA A a b) hg → FrM σ σ' → Q (some (.int 1)) σ') : MetA mX8_changes [.ref 89, .int (nI a), .int (nI b), .int (nI n)] σ Q := by
  refine MetA_of qX8_changes (Nat.le_of_ble_eq_true rfl) ?_
  have ha0 : a < A 12 0 := by omega
  have h4 := hW.2.1
  have h24 := hW.1.1
  have ho1 := hW.2.2.2.2.2.2.2 a ha0
  have ho2 := hW.2.2.2.2.2.2.2 b hb
  have hg1 := (hW.1.2.2 a ha0).2.2.2.2.2.2
  have hg2 := (hW.1.2.2 b hb).2.2.2.2.2.2
  have hWo := WL_own (a := a) hW ho2
  have hWs := WL_sw hW ha0 hb
  have e5 : swA A a b 12 5 = A 12 5 := swA_f (by omega)
  have e1 : swA A a b 12 1 = A 12 1 := swA_f (by omega)
  have l1 := hbA_le (n := n) (h := A 1 a) hW (by omega)
  have l2 := hbA_le (n := n) (h := A 1 b) hW (by omega)
  have l3 := hbA_le (n := n) (h := A 1 a) hWs (by omega)
  have l4 := hbA_le (n := n) (h := A 1 b) hWs (by omega)
  have ra : ∀ f, f < 7 → σ 90 (24 * f + a) = nI (A f a) := by
    have := hC.1.2.2.2.2.1 a ha0
    simp only [Nat.zero_add] at this
    intro f hf
    match f with
    | 0 => exact (by simpa using this.1)
    | 1 => exact this.2.1
    | 2 => exact this.2.2.1
    | 3 => exact this.2.2.2.1
    | 4 => exact this.2.2.2.2.1
    | 5 => exact this.2.2.2.2.2.1
    | 6 => exact this.2.2.2.2.2.2
    | f + 7 => exact absurd hf (by omega)
  have rb : ∀ f, f < 7 → σ 90 (24 * f + b) = nI (A f b) := by
    have := hC.1.2.2.2.2.1 b hb
    simp only [Nat.zero_add] at this
    intro f hf
    match f with
    | 0 => exact (by simpa using this.1)
    | 1 => exact this.2.1
    | 2 => exact this.2.2.1
    | 3 => exact this.2.2.2.1
    | 4 => exact this.2.2.2.2.1
    | 5 => exact this.2.2.2.2.2.1
    | 6 => exact this.2.2.2.2.2.2
    | f + 7 => exact absurd hf (by omega)
  have no : ¬ BetP A n a b → ((0 : Int32) = 0 ∨ (0 : Int32) = 1) ∧ Q (some (.int 0)) σ := fun q => ⟨Or.inl rfl, h0 q σ hC FrM.rf⟩
  -- the end
  have fin : ∀ σ' u, (u = bI (BetP A n a b)) → MR σ' A hg → FrM σ σ' → V mX8_changes 156 [(0, .ref 89), (1, .int (nI a)), (2, .int (nI b)), (3, .int (nI n)), (4, .int (nI (A 1 a))), (5, .int (nI (A 1 b)))] [.int u] σ' Q := by
    intro σ' u hu hC' hF'
    by_cases q : BetP A n a b
    · rw [bI_t q] at hu
      subst hu
      refine wpB_sd (stops := []) kX8_changes 60 _ _ _ _ ?_
      refine br_f (by decide) ?_
      refine ast (n := 800) (j := 0 + 24 + a) rfl (by simp only [fa_lit, nI_add]) (by omega) ?_
      refine br_f (by decide) ?_
      refine ast (n := 800) (j := 0 + 24 + b) rfl (by simp only [fa_lit, nI_add]) (by omega) ?_
      refine ⟨Or.inr rfl, h1 q _ ?_ ?_⟩
      · exact MR_one (MR_one hC' hW (by omega)) hWo (by omega)
      · exact (hF'.tr (FrM.put (by omega))).tr (FrM.put (by omega))
    · rw [bI_f q] at hu
      subst hu
      refine wpB_sd (stops := []) kX8_changes 60 _ _ _ _ ?_
      refine br_t (by decide) ?_
      refine ast (n := 800) (j := 0 + 24 + a) rfl (by simp only [fa_lit, nI_add]) (by omega) ?_
      refine br_t (by decide) ?_
      refine ast (n := 800) (j := 0 + 24 + b) rfl (by simp only [fa_lit, nI_add]) (by omega) ?_
      refine ⟨Or.inl rfl, h0 q _ ?_ ?_⟩
      · have t1 : MR (sgu σ' 90 (0 + 24 + a) (nI (A 1 a))) (stu A 1 a (A 1 a)) hg := MR_one hC' hW (by omega)
        rw [stu_id rfl] at t1
        have t2 : MR (sgu (sgu σ' 90 (0 + 24 + a) (nI (A 1 a))) 90 (0 + 24 + b) (nI (A 1 b))) (stu A 1 b (A 1 b)) hg := MR_one t1 hW (by omega)
        rw [stu_id rfl] at t2
        exact t2
      · exact (hF'.tr (FrM.put (by omega))).tr (FrM.put (by omega))
  refine wpB_sd (stops := [156]) kX8_changes 200 _ _ _ _ ?_
  refine ald (n := 800) (j := 24 * 1 + a) rfl (by simp only [fa_lit, nI_add]) (by omega) (ra 1 (by omega)) ?_
  refine ald (n := 800) (j := 24 * 1 + b) rfl (by simp only [fa_lit, nI_add]) (by omega) (rb 1 (by omega)) ?_
  refine ⟨fun g => no (by intro q; exact q.1.2.2 ((nI_eq (by omega) (by omega)).mp g)), fun g => ?_⟩
  have g3 : A 1 a ≠ A 1 b := fun q => g (by rw [q])
  refine ald (n := 800) (j := 24 * 6 + a) rfl (by simp only [fa_lit, nI_add]) (by omega) (ra 6 (by omega)) ?_
  refine ⟨fun g => no (by intro q; have := (nI_eq (b := 1) (by omega) (by omega)).mp g; have := q.1.1; omega), fun g => ?_⟩
  have g1 : A 6 a = 0 := by
    have : A 6 a ≠ 1 := fun q => g (by rw [q]; rfl)
    omega
  refine ald (n := 800) (j := 24 * 6 + b) rfl (by simp only [fa_lit, nI_add]) (by omega) (rb 6 (by omega)) ?_
  refine ⟨fun g => ?_, fun g => no (by intro q; have := (nI_eq (b := 1) (by omega) (by omega)).mp g; have := q.1.2.1; omega)⟩
  have g2 : A 6 b = 0 := by
    have : A 6 b ≠ 1 := fun q => g (by rw [q]; rfl)
    omega
  refine mAr (by rfl) (m_copy (x := 0) (y := 200) (by omega) (by omega) (by omega) (fun σ1 c1 c2 c3 => ?_))
  have hR1 : RMr 200 σ1 A := RMr_copy hC.1 h24 h4 c1
  have hF1 := FrP_copy c2 c3
  have hC1 := MR_back hC hW hF1
  have hh1 : σ1 90 378 = nI hg := by
    have := c1 178 (by omega)
    simp only [Nat.zero_add] at this
    exact this.trans hC.2.2
  refine m_try hR1 hC1.2.1 hW (by omega) (by omega) hh1 h9 (fun σ2 hP2 hF2 => ?_)
  have hC2 := MR_back hC1 hW hF2
  refine ald (n := 4) (j := A 1 a) rfl rfl (by omega) (hP2.2.2.1 (A 1 a) (by omega)) ?_
  refine ald (n := 4) (j := A 1 b) rfl rfl (by omega) (hP2.2.2.1 (A 1 b) (by omega)) ?_
  refine mAr (by rfl) (m_copy (x := 0) (y := 200) (by omega) (by omega) (by omega) (fun σ3 d1 d2 d3 => ?_))
  have hR3 : RMr 200 σ3 A := RMr_copy hC2.1 h24 h4 d1
  have hF3 := FrP_copy d2 d3
  have hC3 := MR_back hC2 hW hF3
  have hh3 : σ3 90 378 = nI hg := by
    have := d1 178 (by omega)
    simp only [Nat.zero_add] at this
    exact this.trans hC2.2.2
  refine ast (n := 800) (j := 200 + 24 + a) rfl (by simp only [fa_lit, nI_add]) (by omega) ?_
  refine ast (n := 800) (j := 200 + 24 + b) rfl (by simp only [fa_lit, nI_add]) (by omega) ?_
  have hF4 : FrP 200 σ3 (sgu (sgu σ3 90 (200 + 24 + a) (nI (A 1 b))) 90 (200 + 24 + b) (nI (A 1 a))) := FrP.tr (FrP.put (by omega) (by omega)) (FrP.put (by omega) (by omega))
  have hR4 : RMr 200 (sgu (sgu σ3 90 (200 + 24 + a) (nI (A 1 b))) 90 (200 + 24 + b) (nI (A 1 a))) (swA A a b) := RMr_one (RMr_one hR3 hW (by omega)) hWo (by omega)
  have hC4 := MR_back hC3 hW hF4
  have hG4 : RMg (sgu (sgu σ3 90 (200 + 24 + a) (nI (A 1 b))) 90 (200 + 24 + b) (nI (A 1 a))) (swA A a b) := hC4.2.1.eq (swA_f (by omega)) (swA_f (by omega)) (fun i => swA_f (by omega)) (fun i => swA_f (by omega))
  have hh4 : sgu (sgu σ3 90 (200 + 24 + a) (nI (A 1 b))) 90 (200 + 24 + b) (nI (A 1 a)) 90 378 = nI hg := by rw [sgu_k (by omega), sgu_k (by omega)]; exact hh3
  refine m_try hR4 hG4 hWs (by omega) (by omega) hh4 h9 (fun σ5 hP5 hF5 => ?_)
  have hC5 := MR_back hC4 hW hF5
  have hFm : FrM σ σ5 := ((((hF1.tr hF2).tr hF3).tr hF4).tr hF5).m (by omega)
  refine ald (n := 4) (j := A 1 a) rfl rfl (by omega) (hP5.2.2.1 (A 1 a) (by omega)) ?_
  refine ⟨fun g => ?_, fun g => ?_⟩
  · have g : hbA A n (A 1 a) ≤ hbA (swA A a b) n (A 1 a) := (nI_leI (by omega) (by omega)).mp g
    exact V.take 6 (fin σ5 0 (bI_f (fun q => by have := q.2.1; omega)).symm hC5 hFm)
  have g : ¬ hbA A n (A 1 a) ≤ hbA (swA A a b) n (A 1 a) := fun q => g (nI_le q (by unfold hbA at l3; omega))
  refine ald (n := 4) (j := A 1 b) rfl rfl (by omega) (hP5.2.2.1 (A 1 b) (by omega)) ?_
  refine ⟨fun g => ?_, fun g => ?_⟩
  · have g : hbA A n (A 1 b) ≤ hbA (swA A a b) n (A 1 b) := (nI_leI (by omega) (by omega)).mp g
    exact V.take 6 (fin σ5 0 (bI_f (fun q => by have := q.2.2; omega)).symm hC5 hFm)
  have g' : ¬ hbA A n (A 1 b) ≤ hbA (swA A a b) n (A 1 b) := fun q => g (nI_le q (by unfold hbA at l4; omega))
  exact V.take 6 (fin σ5 1 (bI_t ⟨⟨g1, g2, g3⟩, by omega, by omega⟩).symm hC5 hFm)
set_option maxRecDepth 100000 in
set_option maxHeartbeats 1000000 in
theorem m_changeFirst {σ : Sg} {A : St} {hg n : Nat} {Q : Option Value → Sg → Prop} (hC : MR σ A hg) (hW : WL A) (hn : n ≤ 20) (hy : A 12 1 + 99 < 2 ^ 19) (h9 : hg ≤ 999999999) (h0 : ch2 A n (A 12 0) 0 = none → ∀ σ', MR σ' A hg → FrM σ σ' → Q (some (.int 0)) σ') (h1 : ∀ B, ch2 A n (A 12 0) 0 = some B → WL B → B 12 1 = A 12 1 → ∀ σ', MR σ' B hg → FrM σ σ' → Q (some (.int 1)) σ') : MetA mX8_changeFirst [.ref 89, .int (nI n)] σ Q := by
  refine MetA_of qX8_changeFirst (Nat.le_of_ble_eq_true rfl) ?_
  have h24 := hW.1.1
  have h4 := hW.2.1
  have inner : ∀ a, a < A 12 0 → (∀ σ', MR σ' A hg → FrM σ σ' → ch1 A n a (A 12 0 - (a + 1)) (a + 1) = none → V mX8_changeFirst 48 [(0, .ref 89), (1, .int (nI n)), (2, .int (nI a))] [] σ' Q) → (∀ B, ch1 A n a (A 12 0 - (a + 1)) (a + 1) = some B → ch2 A n (A 12 0) 0 = some B) → ∀ m b σ', a < b → b + m = A 12 0 → ch1 A n a (A 12 0 - (a + 1)) (a + 1) = ch1 A n a m b → MR σ' A hg → FrM σ σ' → V mX8_changeFirst 18 [(0, .ref 89), (1, .int (nI n)), (2, .int (nI a)), (3, .int (nI b))] [] σ' Q := by
    intro a ha hnx hso m
    induction m with
    | zero =>
      intro b σ' hab hbm he hC' hF'
      refine wpB_sd (stops := [18, 48]) kX8_changeFirst 30 _ _ _ _ ?_
      refine ald (n := 800) (j := 0 + 176) rfl rfl (by omega) hC'.1.1 ?_
      refine br_t (nI_le (by omega) (by omega)) ?_
      exact V.take 3 (hnx σ' hC' hF' he)
    | succ m ih =>
      intro b σ' hab hbm he hC' hF'
      refine wpB_sd (stops := [18, 48]) kX8_changeFirst 40 _ _ _ _ ?_
      refine ald (n := 800) (j := 0 + 176) rfl rfl (by omega) hC'.1.1 ?_
      refine br_f (nI_ge (by omega) (by omega)) ?_
      rw [ch1] at he
      refine m_changes hC' hW hn hy h9 hab (by omega) (fun q σ1 hC1 hF1 => ?_) (fun q σ1 hC1 hF1 => ?_)
      · rw [if_neg q] at he
        refine br_t (by decide) ?_
        have nxt := ih (b + 1) σ1 (by omega) (by omega) he hC1 (hF'.tr hF1)
        rw [← nI_1] at nxt
        exact nxt
      · rw [if_pos q] at he
        refine br_f (by decide) ?_
        exact ⟨Or.inr rfl, h1 _ (hso _ he) (WL_sw hW (by omega) (by omega)) (swA_f (by omega)) σ1 hC1 (hF'.tr hF1)⟩
  have outer : ∀ m a σ', a + m = A 12 0 → ch2 A n (A 12 0) 0 = ch2 A n m a → MR σ' A hg → FrM σ σ' → V mX8_changeFirst 2 [(0, .ref 89), (1, .int (nI n)), (2, .int (nI a))] [] σ' Q := by
    intro m
    induction m with
    | zero =>
      intro a σ' ha he hC' hF'
      refine wpB_sd (stops := [2]) kX8_changeFirst 30 _ _ _ _ ?_
      refine ald (n := 800) (j := 0 + 176) rfl rfl (by omega) hC'.1.1 ?_
      refine br_t (nI_le (by omega) (by omega)) ?_
      exact ⟨Or.inl rfl, h0 he σ' hC' hF'⟩
    | succ m ih =>
      intro a σ' ha he hC' hF'
      have em : A 12 0 - (a + 1) = m := by omega
      refine wpB_sd (stops := [2, 18]) kX8_changeFirst 30 _ _ _ _ ?_
      refine ald (n := 800) (j := 0 + 176) rfl rfl (by omega) hC'.1.1 ?_
      refine br_f (nI_ge (by omega) (by omega)) ?_
      have nxt := inner a (by omega) (fun σ1 hC1 hF1 hn1 => by
          refine wpB_sd (stops := [2]) kX8_changeFirst 30 _ _ _ _ ?_
          rw [em] at hn1
          have nx := ih (a + 1) σ1 (by omega) (by rw [he, ch2, hn1]) hC1 hF1
          rw [← nI_1] at nx
          exact nx) (fun B hB => by rw [em] at hB; rw [he, ch2, hB]) m (a + 1) σ' (by omega) (by omega) (by rw [em]) hC' hF'
      rw [← nI_1] at nxt
      exact nxt
  refine wpB_sd (stops := [2]) kX8_changeFirst 60 _ _ _ _ ?_
  exact outer (A 12 0) 0 _ (by omega) rfl hC FrM.rf
set_option maxRecDepth 100000 in
set_option maxHeartbeats 1000000 in
theorem u_change {σ : Sg} {A : St} {hg : Nat} {v : Int32} {Q : Option Value → Sg → Prop} (hC : MR σ A hg) (hW : WL A) (hy : A 12 1 + 99 < 2 ^ 19) (h9 : hg ≤ 999999999) (ho : ¬ rg v 1 20 → Q (some (.int OUT)) σ) (hi : ∀ n, 1 ≤ n → n ≤ 20 → v = nI n → WL (chR n 20 A 0).1 → (chR n 20 A 0).1 12 1 = A 12 1 → ∀ σ', MR σ' (chR n 20 A 0).1 hg → FrM σ σ' → Q (some (.int (nI (chR n 20 A 0).2))) σ') : MetA mX8_change [.ref 89, .int v] σ Q := by
  refine MetA_of qX8_change (Nat.le_of_ble_eq_true rfl) ?_
  have loop : ∀ n, 1 ≤ n → n ≤ 20 → v = nI n → ∀ m d B σ', d + m = 20 → chR n 20 A 0 = chR n m B d → MR σ' B hg → WL B → B 12 1 = A 12 1 → FrM σ σ' → V mX8_change 17 [(0, .ref 89), (1, .int (nI n)), (2, .int (nI d))] [] σ' Q := by
    intro n h1 h2 hv m
    have fin : ∀ d B σ', chR n 20 A 0 = (B, d) → MR σ' B hg → WL B → B 12 1 = A 12 1 → FrM σ σ' → Q (some (.int (nI d))) σ' := by
      intro d B σ' he hC' hW' hy' hF'
      have := hi n h1 h2 hv
      rw [he] at this
      exact this hW' hy' σ' hC' hF'
    induction m with
    | zero =>
      intro d B σ' hd he hC' hW' hy' hF'
      refine wpB_sd (stops := [17]) kX8_change 30 _ _ _ _ ?_
      refine br_t (nI_le (a := 20) (by omega) (by omega)) ?_
      exact fin d B σ' he hC' hW' hy' hF'
    | succ m ih =>
      intro d B σ' hd he hC' hW' hy' hF'
      refine wpB_sd (stops := [17]) kX8_change 30 _ _ _ _ ?_
      refine br_f (nI_ge (a := d) (b := 20) (by omega) (by omega)) ?_
      rw [show chR n (m + 1) B d = (match ch2 B n (B 12 0) 0 with | none => (B, d) | some B' => chR n m B' (d + 1)) from rfl] at he
      refine m_changeFirst hC' hW' h2 (by omega) h9 (fun hn σ1 hC1 hF1 => ?_) (fun B' hB hWB hyB σ1 hC1 hF1 => ?_)
      · rw [hn] at he
        refine br_t (by decide) ?_
        exact fin d B σ1 he hC1 hW' hy' (hF'.tr hF1)
      · rw [hB] at he
        refine br_f (by decide) ?_
        have nxt := ih (d + 1) B' σ1 (by omega) he hC1 hWB (by omega) (hF'.tr hF1)
        rw [← nI_1] at nxt
        exact nxt
  refine wpB_sd (stops := [17]) kX8_change 30 _ _ _ _ ?_
  refine m_inI (lo := nI 1) (hi := nI 20) rfl rfl ?_
  refine ⟨fun g => ?_, fun g => ho (fun q => bI_0.mp g ((rg_iff (by omega) (by omega)).mpr q))⟩
  obtain ⟨n, h1, h2, rfl⟩ := (rg_iff (by omega) (by omega)).mp (bI_n0 g)
  exact loop n h1 h2 rfl 20 0 A σ (by omega) rfl hC hW rfl FrM.rf
end
section
/-! judge -/
def JM (A B : St) (i : Nat) : Prop := B 3 i < A 12 0 ∧ mayB (A 12 3) (A 2 (B 3 i)) (B 2 i) = true
def JG (B : St) (i m : Nat) : Prop := ∃ k, k < m ∧ B 3 k = B 3 i
def JK (B : St) (i : Nat) : Prop := 0 < i ∧ B 2 i < B 2 (i - 1)
def JW (A B : St) (i : Nat) : Prop := ¬ JM A B i ∨ JG B i i ∨ JK B i
def IsJ (A B : St) (r : Int32) : Prop := (∃ i, i < B 4 1 ∧ JW A B i ∧ (∀ k, k < i → ¬ JW A B k) ∧ r = nI i) ∨ ((∀ i, i < B 4 1 → ¬ JW A B i) ∧ r = -1)
theorem IsJ_one {A B : St} {r s : Int32} (hr : IsJ A B r) (hs : IsJ A B s) : r = s := by
  rcases hr with ⟨i, h1, h2, h3, h4⟩ | ⟨h1, h2⟩ <;> rcases hs with ⟨j, g1, g2, g3, g4⟩ | ⟨g1, g2⟩
  · rcases Nat.lt_trichotomy i j with q | q | q
    · exact absurd h2 (g3 i q)
    · rw [h4, g4, q]
    · exact absurd g2 (h3 j q)
  · exact absurd h2 (g1 i h1)
  · exact absurd g2 (h1 j g1)
  · rw [h2, g2]
theorem s_mayBeN {σ : Sg} {A : St} {b j : Nat} {l y : Int32} {Q : Option Value → Sg → Prop} (hb : b = 7) (hR : RCel b σ A) (hW : WJ A) (hj : A 12 0 ≤ j) (hj2 : j < 2 ^ 31) (h : Q (some (.int 0)) σ) : MetA mX1_mayBeOpened [.ref b, .int (nI j), .int l, .int y] σ Q := by
  subst hb
  refine MetA_of qX1_mayBeOpened (Nat.le_of_ble_eq_true rfl) ?_
  refine wpB_sd (stops := []) kX1_mayBeOpened 60 _ _ _ _ ?_
  have hm := hW.1
  refine s_has (Or.inl rfl) ?_
  rw [hR.1, bI_f (fun q => nI_nlt hj (by omega) q.2)]
  refine bn_t (by decide) ?_
  exact ⟨Or.inl rfl, h⟩
theorem or_bit {s j : Nat} (hj : j < 31) : nI s ||| ((1 : Int32) <<< (nI j &&& 31)) = nI (s ||| 2 ^ j) := by rw [one_shl hj, fa_or]
set_option maxRecDepth 100000 in
set_option maxHeartbeats 1000000 in
theorem s_firstWrong {σ : Sg} {A B : St} {Q : Option Value → Sg → Prop} (hR : RCel 7 σ A) (hW : WL A) (hB : RCb σ B) (hWB : WB B) (h : ∀ r, IsJ A B r → Q (some (.int r)) σ) : MetA mX0_firstWrong [.ref 85, .ref 7, .int (nI (A 12 3))] σ Q := by
  refine MetA_of qX0_firstWrong (Nat.le_of_ble_eq_true rfl) ?_
  have hB1 := hWB.2.1
  have hl := hW.2.2.2.1
  have loop : ∀ m i s, i + m = B 4 1 → s < 2 ^ 24 → (∀ j, s.testBit j = true ↔ ∃ k, k < i ∧ B 3 k = j) → (∀ k, k < i → ¬ JW A B k) → V mX0_firstWrong 5 [(0, .ref 85), (1, .ref 7), (2, .int (nI (A 12 3))), (3, .int (nI s)), (4, .int (nI i))] [] σ Q := by
    intro m
    induction m with
    | zero =>
      intro i s hi hs hb hn
      have hi : i = B 4 1 := by omega
      subst hi
      refine wpB_sd (stops := [5]) kX0_firstWrong 30 _ _ _ _ ?_
      refine br_t (by rw [hB.2.2.1]; exact nI_le (by omega) (by omega)) ?_
      exact h _ (Or.inr ⟨hn, rfl⟩)
    | succ m ih =>
      intro i s hi hs hb hn
      have hw3 := (hWB.2.2.2 i (by omega)).2
      have hw2 := (hWB.2.2.2 i (by omega)).1
      have hy := (hB.2.2.2 i (by omega)).1
      have hj := (hB.2.2.2 i (by omega)).2
      have at87 : ∀ u6 u7 u8 : Int32, (u6 = 0 ↔ ¬ JM A B i) → (u7 = 0 ↔ ¬ JG B i i) → (u8 = 0 ↔ ¬ JK B i) → V mX0_firstWrong 85 [(0, .ref 85), (1, .ref 7), (2, .int (nI (A 12 3))), (3, .int (nI s)), (4, .int (nI i)), (5, .int (nI (B 3 i))), (6, .int u6), (7, .int u7)] [.int u8] σ Q := by
        intro u6 u7 u8 h6 h7 h8
        have bad : JW A B i → Q (some (.int (nI i))) σ := fun q => h _ (Or.inl ⟨i, by omega, q, hn, rfl⟩)
        refine wpB_sd (stops := [5]) kX0_firstWrong 40 _ _ _ _ ?_
        refine ⟨fun g => bad (Or.inl (h6.mp g)), fun g6 => ⟨fun g => bad ?_, fun g7 => ⟨fun g8 => ?_, fun g => bad ?_⟩⟩⟩
        · exact Or.inr (Or.inl (Classical.byContradiction fun q => g (h7.mpr q)))
        · have nxt := ih (i + 1) (s ||| 2 ^ (B 3 i)) (by omega) (Nat.or_lt_two_pow hs (Nat.pow_lt_pow_right (by omega) hw3)) (fun j => ?_) (fun k hk => ?_)
          · rw [← nI_1, ← or_bit (by omega)] at nxt
            exact V.take 5 nxt
          · rw [fb_bit_set, Bool.or_eq_true, decide_eq_true_eq, hb j]
            constructor
            · rintro (⟨k, a, b⟩ | q)
              · exact ⟨k, by omega, b⟩
              · exact ⟨i, by omega, q.symm⟩
            · rintro ⟨k, a, b⟩
              by_cases q : k = i
              · subst q; exact Or.inr b.symm
              · exact Or.inl ⟨k, by omega, b⟩
          · by_cases q : k = i
            · subst q
              rintro (z | z | z)
              · exact g6 (h6.mpr z)
              · exact h7.mp g7 z
              · exact h8.mp g8 z
            · exact hn k (by omega)
        · exact Or.inr (Or.inr (Classical.byContradiction fun q => g (h8.mpr q)))
      have at54 : ∀ u6 u7 : Int32, (u6 = 0 ↔ ¬ JM A B i) → (u7 = 0 ↔ ¬ JG B i i) → V mX0_firstWrong 54 [(0, .ref 85), (1, .ref 7), (2, .int (nI (A 12 3))), (3, .int (nI s)), (4, .int (nI i)), (5, .int (nI (B 3 i))), (6, .int u6)] [.int u7] σ Q := by
        intro u6 u7 h6 h7
        refine wpB_sd (stops := [85]) kX0_firstWrong 40 _ _ _ _ ?_
        refine ⟨fun g => ?_, fun g => ?_⟩
        · have g := (nI_leI (b := 0) (by omega) (by omega)).mp g
          exact at87 u6 u7 0 h6 h7 ⟨fun _ q => by have := q.1; omega, fun _ => rfl⟩
        · have g0 : 0 < i := Nat.pos_of_ne_zero (fun q => g (by rw [q]; decide))
          have hy1 := (hB.2.2.2 (i - 1) (by omega)).1
          have hw1 := (hWB.2.2.2 (i - 1) (by omega)).1
          refine ald (n := 30) (j := i) rfl rfl (by omega) hy ?_
          refine ald (n := 30) (j := i - 1) rfl (by rw [← pk_sub g0]; rfl) (by omega) hy1 ?_
          refine ⟨fun g => ?_, fun g => ?_⟩
          · have g := (nI_leI (by omega) (by omega)).mp g
            exact at87 u6 u7 0 h6 h7 ⟨fun _ q => by have := q.2; omega, fun _ => rfl⟩
          · have g : ¬ B 2 (i - 1) ≤ B 2 i := fun q => g (nI_le q (by omega))
            exact at87 u6 u7 1 h6 h7 ⟨fun q => absurd q (by decide), fun q => absurd ⟨g0, by omega⟩ q⟩
      have at39 : ∀ u6 : Int32, (u6 = 0 ↔ ¬ JM A B i) → V mX0_firstWrong 37 [(0, .ref 85), (1, .ref 7), (2, .int (nI (A 12 3))), (3, .int (nI s)), (4, .int (nI i)), (5, .int (nI (B 3 i)))] [.int u6] σ Q := by
        intro u6 h6
        have hbit := gbit1 (n := s) (j := B 3 i) (by omega) (by omega)
        refine wpB_sd (stops := [54]) kX0_firstWrong 40 _ _ _ _ ?_
        refine ⟨fun g => ?_, fun g => ?_⟩
        · exact at54 u6 0 h6 ⟨fun _ q => g (hbit.mpr ((hb _).mpr q)), fun _ => rfl⟩
        · exact at54 u6 1 h6 ⟨fun q => absurd q (by decide), fun q => absurd ((hb _).mp (hbit.mp g)) q⟩
      refine wpB_sd (stops := [37]) kX0_firstWrong 40 _ _ _ _ ?_
      refine br_f (by rw [hB.2.2.1]; exact nI_ge (by omega) (by omega)) ?_
      refine ald (n := 30) (j := i) rfl rfl (by omega) hj ?_
      refine ald (n := 30) (j := i) rfl rfl (by omega) hy ?_
      by_cases q : B 3 i < A 12 0
      · refine s_mayBe (Or.inl rfl) hR hW.1 q (by omega) hl ?_
        exact V.take 6 (at39 _ (by rw [bI_0]; exact ⟨fun z w => z w.2, fun z w => z ⟨q, w⟩⟩))
      · refine s_mayBeN rfl hR hW.1 (by omega) (by omega) ?_
        exact V.take 6 (at39 0 ⟨fun _ z => q z.1, fun _ => rfl⟩)
  refine wpB_sd (stops := [5]) kX0_firstWrong 40 _ _ _ _ ?_
  exact loop (B 4 1) 0 0 (by omega) (by omega) (fun j => by rw [Nat.zero_testBit]; exact ⟨fun q => absurd q (by decide), fun ⟨k, a, _⟩ => by omega⟩) (fun k hk => by omega)
set_option maxRecDepth 100000 in
theorem t_judge {σ : Sg} {A B : St} {hg : Nat} {Q : Option Value → Sg → Prop} (hC : CS σ A hg) (hW : WL A) (hB : RCb σ B) (hWB : WB B) (h : ∀ r, IsJ A B r → Q (some (.int r)) σ) : MetA mX7_judge [.ref 0] σ Q := by
  refine MetA_of qX7_judge (Nat.le_of_ble_eq_true rfl) ?_
  refine wpB_sd (stops := []) kX7_judge 40 _ _ _ _ ?_
  refine mAr (by rw [hC.1.2.2.2.2.1]) (s_firstWrong hC.1.1 hW hB hWB h)
set_option maxRecDepth 100000 in
set_option maxHeartbeats 1000000 in
theorem u_judge {σ : Sg} {A B : St} {hg : Nat} {Q : Option Value → Sg → Prop} (hC : MR σ A hg) (hW : WL A) (hB : RMb σ B) (hWB : WB B) (h : ∀ r, IsJ A B r → Q (some (.int r)) σ) : MetA mX8_judge [.ref 89] σ Q := by
  refine MetA_of qX8_judge (Nat.le_of_ble_eq_true rfl) ?_
  have hB1 := hWB.2.1
  have hl := hW.2.2.2.1
  have h24 := hW.1.1
  have loop : ∀ m i, i + m = B 4 1 → (∀ k, k < i → ¬ JW A B k) → V mX8_judge 2 [(0, .ref 89), (1, .int (nI i))] [] σ Q := by
    intro m
    induction m with
    | zero =>
      intro i hi hn
      have hi : i = B 4 1 := by omega
      subst hi
      refine wpB_sd (stops := [2]) kX8_judge 30 _ _ _ _ ?_
      refine br_t (by rw [hB.2.2.1]; exact nI_le (by omega) (by omega)) ?_
      exact h _ (Or.inr ⟨hn, rfl⟩)
    | succ m ih =>
      intro i hi hn
      have hw3 := (hWB.2.2.2 i (by omega)).2
      have hw2 := (hWB.2.2.2 i (by omega)).1
      have hy := (hB.2.2.2 i (by omega)).1
      have hj := (hB.2.2.2 i (by omega)).2
      have at103 : ∀ u : Int32, (u = 0 ↔ ¬ JW A B i) → V mX8_judge 103 [(0, .ref 89), (1, .int (nI i)), (2, .int (nI (B 3 i))), (3, .int u)] [] σ Q := by
        intro u hu
        refine wpB_sd (stops := [2]) kX8_judge 30 _ _ _ _ ?_
        refine ⟨fun g => ?_, fun g => ?_⟩
        · have nxt := ih (i + 1) (by omega) (fun k hk => by
            by_cases q : k = i
            · subst q; exact hu.mp g
            · exact hn k (by omega))
          rw [← nI_1] at nxt
          exact V.take 2 nxt
        · exact h _ (Or.inl ⟨i, by omega, Classical.byContradiction fun q => g (hu.mpr q), hn, rfl⟩)
      have inner : ∀ mm k (u : Int32), k + mm = i → (u = 0 ↔ ¬ (¬ JM A B i ∨ JG B i k ∨ JK B i)) → V mX8_judge 70 [(0, .ref 89), (1, .int (nI i)), (2, .int (nI (B 3 i))), (3, .int u), (4, .int (nI k))] [] σ Q := by
        intro mm
        induction mm with
        | zero =>
          intro k u hk hu
          have hk : k = i := by omega
          subst hk
          refine wpB_sd (stops := [70, 103]) kX8_judge 30 _ _ _ _ ?_
          refine br_t (nI_le (by omega) (by omega)) ?_
          exact V.take 4 (at103 u hu)
        | succ mm ih2 =>
          intro k u hk hu
          have hjk := (hB.2.2.2 k (by omega)).2
          have hwk := (hWB.2.2.2 k (by omega)).2
          have go : ∀ u' : Int32, (u' = 0 ↔ ¬ (¬ JM A B i ∨ JG B i (k + 1) ∨ JK B i)) → V mX8_judge 96 [(0, .ref 89), (1, .int (nI i)), (2, .int (nI (B 3 i))), (3, .int u), (4, .int (nI k))] [.int u'] σ Q := by
            intro u' hu'
            refine wpB_sd (stops := [70]) kX8_judge 30 _ _ _ _ ?_
            have nxt := ih2 (k + 1) u' (by omega) hu'
            rw [← nI_1] at nxt
            exact nxt
          refine wpB_sd (stops := [70, 96]) kX8_judge 30 _ _ _ _ ?_
          refine br_f (nI_ge (by omega) (by omega)) ?_
          refine ⟨fun g => go 1 ⟨fun q => absurd q (by decide), fun q => ?_⟩, fun g => ?_⟩
          · refine absurd (hu.mpr (fun z => q ?_)) g
            rcases z with z | ⟨k', a, b⟩ | z
            · exact Or.inl z
            · exact Or.inr (Or.inl ⟨k', by omega, b⟩)
            · exact Or.inr (Or.inr z)
          · refine ald (n := 30) (j := k) rfl rfl (by omega) hjk ?_
            refine ⟨fun g2 => go 0 ⟨fun _ z => hu.mp g ?_, fun _ => rfl⟩, fun g2 => go 1 ⟨fun q => absurd q (by decide), fun q => absurd (Or.inr (Or.inl ⟨k, by omega, (nI_eq (by omega) (by omega)).mp g2⟩)) q⟩⟩
            rcases z with z | ⟨k', a, b⟩ | z
            · exact Or.inl z
            · refine Or.inr (Or.inl ⟨k', ?_, b⟩)
              have : k' ≠ k := fun e => g2 (by rw [← e, b])
              omega
            · exact Or.inr (Or.inr z)
      have at66 : ∀ u : Int32, (u = 0 ↔ ¬ (¬ JM A B i ∨ JK B i)) → V mX8_judge 66 [(0, .ref 89), (1, .int (nI i)), (2, .int (nI (B 3 i)))] [.int u] σ Q := by
        intro u hu
        refine wpB_sd (stops := [70]) kX8_judge 30 _ _ _ _ ?_
        refine inner i 0 u (by omega) (hu.trans ⟨fun z w => z ?_, fun z w => z ?_⟩)
        · rcases w with w | ⟨k, a, _⟩ | w
          · exact Or.inl w
          · omega
          · exact Or.inr w
        · rcases w with w | w
          · exact Or.inl w
          · exact Or.inr (Or.inr w)
      have yes : (¬ JM A B i ∨ JK B i) → V mX8_judge 61 [(0, .ref 89), (1, .int (nI i)), (2, .int (nI (B 3 i)))] [] σ Q := fun q => by
        refine wpB_sd (stops := [66]) kX8_judge 30 _ _ _ _ ?_
        exact at66 1 ⟨fun z => absurd z (by decide), fun z => absurd q z⟩
      have no : ¬ (¬ JM A B i ∨ JK B i) → V mX8_judge 65 [(0, .ref 89), (1, .int (nI i)), (2, .int (nI (B 3 i)))] [] σ Q := fun q => by
        refine wpB_sd (stops := [66]) kX8_judge 30 _ _ _ _ ?_
        exact at66 0 ⟨fun _ => q, fun _ => rfl⟩
      refine wpB_sd (stops := [61, 65]) kX8_judge 40 _ _ _ _ ?_
      refine br_f (by rw [hB.2.2.1]; exact nI_ge (by omega) (by omega)) ?_
      refine ald (n := 30) (j := i) rfl rfl (by omega) hj ?_
      refine m_isJar hC.1 h24 ?_
      refine ⟨fun g => V.take 3 (yes (Or.inl (fun q => bI_0.mp g ((ix_iff (by omega)).mpr ⟨_, q.1, rfl⟩)))), fun g => ?_⟩
      have g1 : B 3 i < A 12 0 := (nI_ltI (by omega) (by omega)).mp (bI_n0 g).2
      refine ald (n := 30) (j := i) rfl rfl (by omega) hy ?_
      refine mAr (by rfl) (m_mayBe (x := 0) (by omega) hC.1 hW.1 hl g1 (by omega) ?_)
      refine ⟨fun g => V.take 3 (yes (Or.inl (fun q => bI_0.mp g q.2))), fun g => ?_⟩
      have hM : JM A B i := ⟨g1, bI_n0 g⟩
      refine ⟨fun g => ?_, fun g => ?_⟩
      · have g := (nI_leI (b := 0) (by omega) (by omega)).mp g
        exact V.take 3 (no (fun q => q.elim (fun z => z hM) (fun z => by have := z.1; omega)))
      · have g0 : 0 < i := Nat.pos_of_ne_zero (fun q => g (by rw [q]; decide))
        have hy1 := (hB.2.2.2 (i - 1) (by omega)).1
        have hw1 := (hWB.2.2.2 (i - 1) (by omega)).1
        refine ald (n := 30) (j := i) rfl rfl (by omega) hy ?_
        refine ald (n := 30) (j := i - 1) rfl (by rw [← pk_sub g0]; rfl) (by omega) hy1 ?_
        refine ⟨fun g => ?_, fun g => ?_⟩
        · have g := (nI_leI (by omega) (by omega)).mp g
          exact V.take 3 (no (fun q => q.elim (fun z => z hM) (fun z => by have := z.2; omega)))
        · have g : ¬ B 2 (i - 1) ≤ B 2 i := fun q => g (nI_le q (by omega))
          exact V.take 3 (yes (Or.inr ⟨g0, by omega⟩))
  refine wpB_sd (stops := [2]) kX8_judge 40 _ _ _ _ ?_
  exact loop (B 4 1) 0 (by omega) (fun k hk => by omega)
end
section
/-! Integer.bitCount, and the reference's ones -/
theorem ush {k j : Nat} (hk : k < 2 ^ 31) (hj : j < 32) : ((nI k).toUInt32 >>> ((nI j).toUInt32 &&& Int32.toUInt32 31)).toInt32 = nI (k / 2 ^ j) := by
  have hs : k / 2 ^ j ≤ k := Nat.div_le_self _ _
  have e2 : UInt32.ofNat k >>> (UInt32.ofNat j &&& Int32.toUInt32 31) = UInt32.ofNat (k / 2 ^ j) := by
    apply UInt32.toNat_inj.1
    have h1 : (UInt32.ofNat k).toNat = k := Nat.mod_eq_of_lt (by omega)
    have h2 : (UInt32.ofNat (k / 2 ^ j)).toNat = k / 2 ^ j := Nat.mod_eq_of_lt (by omega)
    rw [UInt32.toNat_shiftRight, nx_cnt ⟨j, hj⟩, h1, h2, Nat.shiftRight_eq_div_pow]
  show (UInt32.ofNat k >>> (UInt32.ofNat j &&& Int32.toUInt32 31)).toInt32 = _
  rw [e2]
  rfl
def pq1 (a : Nat) : Nat := a - ((a / 2) &&& 85)
def pq2 (a : Nat) : Nat := (pq1 a &&& 51) + ((pq1 a / 4) &&& 51)
def pq3 (a : Nat) : Nat := (pq2 a + pq2 a / 16) &&& 15
theorem pq_t1 : ∀ a : Fin 256, ∀ t : Fin 2, (a.val / 2 + 128 * t.val) &&& 85 = (a.val / 2) &&& 85 := by decide +kernel
theorem pq_t2 : ∀ a : Fin 256, ∀ t : Fin 4, (a.val / 4 + 64 * t.val) &&& 51 = (a.val / 4) &&& 51 := by decide +kernel
theorem pq_t3 : ∀ a : Fin 256, ((a.val / 2) &&& 85) ≤ a.val ∧ pq1 a.val < 256 ∧ pq2 a.val ≤ 68 ∧ pq2 a.val % 16 ≤ 4 ∧ pq3 a.val ≤ 8 ∧ pq3 a.val = fb_ct (fun k => a.val.testBit k) 8 := by decide +kernel
theorem pq_t4 : ∀ a : Fin 69, ∀ t : Fin 5, (a.val + a.val / 16 + 16 * t.val) &&& 15 = (a.val + a.val / 16) &&& 15 := by decide +kernel
/-- an and, byte by byte -/
theorem and8 (x m : Nat) : x &&& m = (x % 256 &&& m % 256) + 256 * (x / 256 &&& m / 256) := by
  have h1 : (x &&& m) % 256 = x % 256 &&& m % 256 := Nat.and_mod_two_pow (n := 8)
  have h2 : (x &&& m) / 256 = x / 256 &&& m / 256 := Nat.and_div_two_pow (n := 8)
  rw [← h1, ← h2]
  omega
theorem and24 {y a b c m M : Nat} (ha : a < 256) (hb : b < 256) (hc : c < 256) (hm : m < 256) (hy : y = a + 256 * b + 65536 * c) (hM : M = m + 256 * m + 65536 * m + 16777216 * m) : y &&& M = (a &&& m) + 256 * (b &&& m) + 65536 * (c &&& m) := by
  have e1 : y % 256 = a := by omega
  have e2 : y / 256 % 256 = b := by omega
  have e3 : y / 256 / 256 % 256 = c := by omega
  have e4 : y / 256 / 256 / 256 = 0 := by omega
  have f1 : M % 256 = m := by omega
  have f2 : M / 256 % 256 = m := by omega
  have f3 : M / 256 / 256 % 256 = m := by omega
  rw [and8 y M, and8 (y / 256) (M / 256), and8 (y / 256 / 256) (M / 256 / 256), e1, e2, e3, e4, f1, f2, f3, Nat.zero_and]
  omega
theorem pc_split {a b c : Nat} (ha : a < 256) (hb : b < 256) (hc : c < 256) : fb_ct (fun k => (a + 256 * b + 65536 * c).testBit k) 24 = fb_ct (fun k => a.testBit k) 8 + fb_ct (fun k => b.testBit k) 8 + fb_ct (fun k => c.testBit k) 8 := by
  have s1 := fb_ct_split (fun k => (a + 256 * b + 65536 * c).testBit k) 8 16
  have s2 := fb_ct_split (fun k => (a + 256 * b + 65536 * c).testBit (8 + k)) 8 8
  rw [s1, s2]
  have d1 : ∀ x n k : Nat, x.testBit (n + k) = (x / 2 ^ n).testBit k := fun x n k => by rw [Nat.testBit_div_two_pow, Nat.add_comm]
  have d2 : ∀ x k : Nat, k < 8 → x.testBit k = (x % 256).testBit k := fun x k hk => by
    have := Nat.testBit_mod_two_pow x 8 k
    rw [show (2 : Nat) ^ 8 = 256 from rfl] at this
    rw [this]
    simp [hk]
  have c1 : fb_ct (fun k => (a + 256 * b + 65536 * c).testBit k) 8 = fb_ct (fun k => a.testBit k) 8 := fb_ct_cong (fun k hk => by
    show (a + 256 * b + 65536 * c).testBit k = a.testBit k
    rw [d2 _ k hk, show (a + 256 * b + 65536 * c) % 256 = a by omega])
  have c2 : fb_ct (fun k => (a + 256 * b + 65536 * c).testBit (8 + k)) 8 = fb_ct (fun k => b.testBit k) 8 := fb_ct_cong (fun k hk => by
    show (a + 256 * b + 65536 * c).testBit (8 + k) = b.testBit k
    rw [d1, show (2 : Nat) ^ 8 = 256 from rfl, d2 _ k hk, show (a + 256 * b + 65536 * c) / 256 % 256 = b by omega])
  have c3 : fb_ct (fun k => (a + 256 * b + 65536 * c).testBit (8 + (8 + k))) 8 = fb_ct (fun k => c.testBit k) 8 := fb_ct_cong (fun k hk => by
    show (a + 256 * b + 65536 * c).testBit (8 + (8 + k)) = c.testBit k
    rw [d1, d1, show (2 : Nat) ^ 8 = 256 from rfl, d2 _ k hk, show (a + 256 * b + 65536 * c) / 256 / 256 % 256 = c by omega])
  rw [c1, c2, c3]
  omega
abbrev pcN (x : Nat) : Nat := fb_ct (fun k => x.testBit k) 24
set_option maxRecDepth 100000 in
theorem s_bitCount {σ : Sg} {x : Nat} {Q : Option Value → Sg → Prop} (hx : x < 2 ^ 24) (h : Q (some (.int (nI (pcN x)))) σ) : MetA mJ6_bitCount [.int (nI x)] σ Q := by
  refine MetA_of qJ6_bitCount (Nat.le_of_ble_eq_true rfl) ?_
  obtain ⟨a, b, c, ha, hb, hc, e⟩ : ∃ a b c, a < 256 ∧ b < 256 ∧ c < 256 ∧ x = a + 256 * b + 65536 * c := ⟨x % 256, x / 256 % 256, x / 65536, by omega, by omega, by omega, by omega⟩
  have ta := pq_t3 ⟨a, ha⟩
  have tb := pq_t3 ⟨b, hb⟩
  have tc := pq_t3 ⟨c, hc⟩
  dsimp only at ta tb tc
  have at41 : ∀ w : Int32, w = nI (pq3 a + pq3 b + 256 * (pq3 b + pq3 c) + 65536 * pq3 c) → V mJ6_bitCount 41 [(0, .int w)] [] σ Q := by
    intro w hw
    subst hw
    refine wpB_sd (stops := []) kJ6_bitCount 20 _ _ _ _ ?_
    refine fin_i h ?_
    have u := ush (k := pq3 a + pq3 b + 256 * (pq3 b + pq3 c) + 65536 * pq3 c) (j := 16) (by omega) (by omega)
    refine (congrArg (fun z => (nI (pq3 a + pq3 b + 256 * (pq3 b + pq3 c) + 65536 * pq3 c) + z) &&& 63) u).trans ?_
    show (nI _ + nI _) &&& nI 63 = _
    have q1 : (pq3 a + pq3 b + 256 * (pq3 b + pq3 c) + 65536 * pq3 c) / 2 ^ 16 = pq3 c := by omega
    rw [nI_add, show (63 : Nat) = 2 ^ 6 - 1 from rfl, fa_mask, q1]
    congr 1
    rw [e]
    unfold pcN
    rw [pc_split ha hb hc, ← ta.2.2.2.2.2, ← tb.2.2.2.2.2, ← tc.2.2.2.2.2]
    have := ta.2.2.2.2.1
    have := tb.2.2.2.2.1
    have := tc.2.2.2.2.1
    clear ta tb tc
    omega
  have at34 : ∀ w : Int32, w = nI (pq3 a + 256 * pq3 b + 65536 * pq3 c) → V mJ6_bitCount 34 [(0, .int w)] [] σ Q := by
    intro w hw
    subst hw
    refine wpB_sd (stops := [41]) kJ6_bitCount 20 _ _ _ _ ?_
    refine at41 _ ?_
    have u := ush (k := pq3 a + 256 * pq3 b + 65536 * pq3 c) (j := 8) (by omega) (by omega)
    refine (congrArg (fun z => nI (pq3 a + 256 * pq3 b + 65536 * pq3 c) + z) u).trans ?_
    rw [nI_add]
    congr 1
    omega
  have at24 : ∀ w : Int32, w = nI (pq2 a + 256 * pq2 b + 65536 * pq2 c) → V mJ6_bitCount 24 [(0, .int w)] [] σ Q := by
    intro w hw
    subst hw
    refine wpB_sd (stops := [34]) kJ6_bitCount 20 _ _ _ _ ?_
    refine at34 _ ?_
    have u := ush (k := pq2 a + 256 * pq2 b + 65536 * pq2 c) (j := 4) (by omega) (by omega)
    refine (congrArg (fun z => (nI (pq2 a + 256 * pq2 b + 65536 * pq2 c) + z) &&& 252645135) u).trans ?_
    show (nI _ + nI _) &&& nI 252645135 = _
    rw [nI_add, fa_and]
    congr 1
    have k1 := pq_t4 ⟨pq2 a, by omega⟩ ⟨pq2 b % 16, by omega⟩
    have k2 := pq_t4 ⟨pq2 b, by omega⟩ ⟨pq2 c % 16, by omega⟩
    dsimp only at k1 k2
    rw [and24 (a := pq2 a + pq2 a / 16 + 16 * (pq2 b % 16)) (b := pq2 b + pq2 b / 16 + 16 * (pq2 c % 16)) (c := pq2 c + pq2 c / 16) (m := 15) (by omega) (by omega) (by omega) (by omega) (by omega) rfl, k1, k2]
    rfl
  have at10 : ∀ w : Int32, w = nI (pq1 a + 256 * pq1 b + 65536 * pq1 c) → V mJ6_bitCount 10 [(0, .int w)] [] σ Q := by
    intro w hw
    subst hw
    refine wpB_sd (stops := [24]) kJ6_bitCount 20 _ _ _ _ ?_
    refine at24 _ ?_
    have u := ush (k := pq1 a + 256 * pq1 b + 65536 * pq1 c) (j := 2) (by omega) (by omega)
    refine (congrArg (fun z => (nI (pq1 a + 256 * pq1 b + 65536 * pq1 c) &&& 858993459) + (z &&& 858993459)) u).trans ?_
    show (nI _ &&& nI 858993459) + (nI _ &&& nI 858993459) = _
    rw [fa_and, fa_and, nI_add]
    congr 1
    have k1 := pq_t2 ⟨pq1 a, by omega⟩ ⟨pq1 b % 4, by omega⟩
    have k2 := pq_t2 ⟨pq1 b, by omega⟩ ⟨pq1 c % 4, by omega⟩
    dsimp only at k1 k2
    rw [and24 (a := pq1 a) (b := pq1 b) (c := pq1 c) (m := 51) (by omega) (by omega) (by omega) (by omega) rfl rfl, and24 (y := (pq1 a + 256 * pq1 b + 65536 * pq1 c) / 2 ^ 2) (a := pq1 a / 4 + 64 * (pq1 b % 4)) (b := pq1 b / 4 + 64 * (pq1 c % 4)) (c := pq1 c / 4) (m := 51) (by omega) (by omega) (by omega) (by omega) (by omega) rfl, k1, k2]
    unfold pq2
    omega
  refine wpB_sd (stops := [10]) kJ6_bitCount 20 _ _ _ _ ?_
  refine at10 _ ?_
  have u := ush (k := x) (j := 1) (by omega) (by omega)
  refine (congrArg (fun z => nI x - (z &&& 1431655765)) u).trans ?_
  show nI x - (nI _ &&& nI 1431655765) = _
  have k1 := pq_t1 ⟨a, ha⟩ ⟨b % 2, by omega⟩
  have k2 := pq_t1 ⟨b, hb⟩ ⟨c % 2, by omega⟩
  dsimp only at k1 k2
  rw [fa_and, and24 (y := x / 2 ^ 1) (a := a / 2 + 128 * (b % 2)) (b := b / 2 + 128 * (c % 2)) (c := c / 2) (m := 85) (by omega) (by omega) (by omega) (by omega) (by omega) rfl, k1, k2, pk_sub (by omega)]
  congr 1
  unfold pq1
  omega
set_option maxRecDepth 100000 in
theorem m_ones {σ : Sg} {x : Nat} {Q : Option Value → Sg → Prop} (hx : x < 2 ^ 24) (h : Q (some (.int (nI (pcN x)))) σ) : MetA mX8_ones [.int (nI x)] σ Q := by
  refine MetA_of qX8_ones (Nat.le_of_ble_eq_true rfl) ?_
  have loop : ∀ m k, k + m = 24 → V mX8_ones 4 [(0, .int (nI x)), (1, .int (nI (fb_ct (fun j => x.testBit j) k))), (2, .int (nI k))] [] σ Q := by
    intro m
    induction m with
    | zero =>
      intro k hk
      have hk : k = 24 := by omega
      subst hk
      refine wpB_sd (stops := [4]) kX8_ones 30 _ _ _ _ ?_
      refine br_t (by decide) ?_
      exact h
    | succ m ih =>
      intro k hk
      refine wpB_sd (stops := [4]) kX8_ones 30 _ _ _ _ ?_
      refine br_f (nI_ge (a := k) (b := 24) (by omega) (by omega)) ?_
      have nxt := ih (k + 1) (by omega)
      rw [fb_ct_succ, ← nI_1, ← nI_add] at nxt
      have e : nI (if x.testBit k = true then 1 else 0) = (nI x >>> (nI k &&& 31)) &&& 1 := by
        by_cases q : x.testBit k = true
        · rw [if_pos q, (gbit1 (by omega) (by omega)).mpr q]; rfl
        · rw [if_neg q, (gbit0 (by omega) (by omega)).mpr (by simpa using q)]; rfl
      rw [e] at nxt
      exact nxt
  refine wpB_sd (stops := [4]) kX8_ones 30 _ _ _ _ ?_
  exact loop 24 0 rfl
end
section
/-! forged -/
abbrev FP (A B : St) (i : Nat) : Prop := B 0 i < A 12 0 ∧ B 1 i < A 12 0 ∧ A 2 (B 1 i) ≤ A 2 (B 0 i)
def Hit (A B : St) (n S : Nat) : Prop := ∀ i, i < n → FP A B i → S.testBit (B 0 i) = true ∨ S.testBit (B 1 i) = true
def KL (S T : Nat) : Prop := pcN S < pcN T ∨ (pcN S = pcN T ∧ S ≤ T)
def IsF (A B : St) (S : Nat) : Prop := S < 2 ^ 24 ∧ Hit A B (B 4 0) S ∧ ∀ T, T < 2 ^ 24 → Hit A B (B 4 0) T → KL S T
theorem IsF_one {A B : St} {S T : Nat} (hS : IsF A B S) (hT : IsF A B T) : S = T := by
  have h1 := hS.2.2 T hT.1 hT.2.1
  have h2 := hT.2.2 S hS.1 hS.2.1
  unfold KL at h1 h2
  omega
theorem KL_sub {S T : Nat} (h : ∀ k, S.testBit k = true → T.testBit k = true) : KL S T := by
  have h1 : S &&& T = S := by
    apply Nat.eq_of_testBit_eq
    intro k
    rw [Nat.testBit_and]
    cases q : S.testBit k with
    | false => rfl
    | true => rw [h k q]; rfl
  have h2 : S ≤ T := by rw [← h1]; exact Nat.and_le_right
  have h3 : pcN S ≤ pcN T := fb_ct_sub (fun k _ q => h k q)
  unfold KL
  omega
theorem KL_tr {S T U : Nat} (h : KL S T) (h2 : KL T U) : KL S U := by
  unfold KL at *
  omega
theorem KL_rf {S : Nat} : KL S S := Or.inr ⟨rfl, Nat.le_refl _⟩
/-- the best of the first n codes so far -/
def BF (f : Nat → Nat) (n b w : Nat) : Prop := ∃ c, c < n ∧ b = f c ∧ w = pcN b ∧ ∀ c', c' < n → KL b (f c')
theorem BF_s0 {f : Nat → Nat} {n b w : Nat} (h : BF f n b w) (h2 : ¬ (pcN (f n) < w ∨ (pcN (f n) = w ∧ f n < b))) : BF f (n + 1) b w := by
  obtain ⟨c, h3, h4, h5, h6⟩ := h
  refine ⟨c, by omega, h4, h5, fun c' hc => ?_⟩
  by_cases q : c' = n
  · subst q; unfold KL; omega
  · exact h6 c' (by omega)
theorem BF_s1 {f : Nat → Nat} {n b w : Nat} (h : n = 0 ∨ BF f n b w) (h2 : pcN (f n) < w ∨ (pcN (f n) = w ∧ f n < b)) : BF f (n + 1) (f n) (pcN (f n)) := by
  refine ⟨n, by omega, rfl, rfl, fun c' hc => ?_⟩
  by_cases q : c' = n
  · subst q; exact KL_rf
  · rcases h with h | ⟨c, h3, h4, h5, h6⟩
    · omega
    · refine KL_tr ?_ (h6 c' (by omega))
      unfold KL; omega
def clS (B : St) (c : Nat → Nat) (code : Nat) : Nat → Nat
  | 0 => 0
  | n + 1 => clS B c code n ||| 2 ^ (if code.testBit n = true then B 1 (c n) else B 0 (c n))
theorem clS_lt {B : St} {c : Nat → Nat} {code : Nat} : ∀ {n : Nat}, (∀ k, k < n → B 0 (c k) < 24 ∧ B 1 (c k) < 24) → clS B c code n < 2 ^ 24
  | 0, _ => by simp [clS]
  | n + 1, h => by
    rw [clS]
    refine Nat.or_lt_two_pow (clS_lt (fun k hk => h k (by omega))) (Nat.pow_lt_pow_right (by omega) ?_)
    have := h n (by omega)
    split <;> omega
theorem clS_has {B : St} {c : Nat → Nat} {code : Nat} : ∀ {n k : Nat}, k < n → (clS B c code n).testBit (B 0 (c k)) = true ∨ (clS B c code n).testBit (B 1 (c k)) = true
  | 0, k, h => absurd h (by omega)
  | n + 1, k, h => by
    rw [clS, fb_bit_set, fb_bit_set]
    by_cases q : k = n
    · subst q
      split
      · exact Or.inr (by simp)
      · exact Or.inl (by simp)
    · rcases clS_has (B := B) (c := c) (code := code) (show k < n by omega) with z | z
      · exact Or.inl (by rw [z]; rfl)
      · exact Or.inr (by rw [z]; rfl)
theorem clS_in {B : St} {c : Nat → Nat} {code T : Nat} : ∀ {n : Nat}, (∀ k, k < n → T.testBit (if code.testBit k = true then B 1 (c k) else B 0 (c k)) = true) → ∀ j, (clS B c code n).testBit j = true → T.testBit j = true
  | 0, _, j, h => by simp [clS] at h
  | n + 1, hk, j, h => by
    rw [clS, fb_bit_set, Bool.or_eq_true, decide_eq_true_eq] at h
    rcases h with h | h
    · exact clS_in (fun k q => hk k (by omega)) j h
    · subst h; exact hk n (by omega)
theorem clS_IsF {A B : St} {c : Nat → Nat} {w b v : Nat} (hw : w ≤ 12) (hWB : WB B) (h1 : ∀ k, k < w → c k < B 4 0 ∧ FP A B (c k)) (h2 : ∀ i, i < B 4 0 → FP A B i → ∃ k, k < w ∧ c k = i) (hb : BF (fun code => clS B c code w) (2 ^ w) b v) : IsF A B b := by
  obtain ⟨c0, h3, h4, h5, h6⟩ := hb
  have hlt : ∀ k, k < w → B 0 (c k) < 24 ∧ B 1 (c k) < 24 := fun k hk => hWB.2.2.1 (c k) (h1 k hk).1
  refine ⟨by rw [h4]; exact clS_lt hlt, fun i hi hf => ?_, fun T hT hH => ?_⟩
  · obtain ⟨k, hk, e⟩ := h2 i hi hf
    have := clS_has (B := B) (c := c) (code := c0) hk
    rw [e] at this
    rw [h4]; exact this
  · have hc := h6 (bset (fun k => if T.testBit (B 0 (c k)) = true then 0 else 1) w) (bset_lt _ _)
    refine KL_tr hc (KL_sub (clS_in (fun k hk => ?_)))
    rw [bset_bit]
    by_cases q : T.testBit (B 0 (c k)) = true
    · simp [q]
    · have := (hH (c k) (h1 k hk).1 (h1 k hk).2).resolve_left q
      simp [q, hk, this]
def rfS (A B : St) (code : Nat) : Nat → Nat
  | 0 => 0
  | n + 1 => if FP A B n ∧ ¬ (rfS A B code n).testBit (B 0 n) = true ∧ ¬ (rfS A B code n).testBit (B 1 n) = true then rfS A B code n ||| 2 ^ (if code.testBit n = true then B 1 n else B 0 n) else rfS A B code n
theorem rfS_lt {A B : St} {code : Nat} : ∀ {n : Nat}, (∀ k, k < n → B 0 k < 24 ∧ B 1 k < 24) → rfS A B code n < 2 ^ 24
  | 0, _ => by simp [rfS]
  | n + 1, h => by
    rw [rfS]
    have ih := rfS_lt (A := A) (code := code) (fun k hk => h k (show k < n + 1 by omega) : ∀ k, k < n → B 0 k < 24 ∧ B 1 k < 24)
    split
    · refine Nat.or_lt_two_pow ih (Nat.pow_lt_pow_right (by omega) ?_)
      have := h n (by omega)
      split <;> omega
    · exact ih
theorem rfS_hit {A B : St} {code : Nat} : ∀ {n : Nat}, Hit A B n (rfS A B code n)
  | 0 => fun i hi => absurd hi (by omega)
  | n + 1 => fun i hi hf => by
    rw [rfS]
    by_cases q : i = n
    · subst q
      split
      · rw [fb_bit_set, fb_bit_set]
        split
        · exact Or.inr (by simp)
        · exact Or.inl (by simp)
      · next hc =>
        by_cases z : (rfS A B code i).testBit (B 0 i) = true
        · exact Or.inl z
        · by_cases y : (rfS A B code i).testBit (B 1 i) = true
          · exact Or.inr y
          · exact absurd ⟨hf, z, y⟩ hc
    · have := rfS_hit (A := A) (B := B) (code := code) (n := n) i (by omega) hf
      split
      · rw [fb_bit_set, fb_bit_set]
        rcases this with z | z
        · exact Or.inl (by rw [z]; rfl)
        · exact Or.inr (by rw [z]; rfl)
      · exact this
theorem rfS_in {A B : St} {code T : Nat} : ∀ {n : Nat}, (∀ k, k < n → FP A B k → T.testBit (if code.testBit k = true then B 1 k else B 0 k) = true) → ∀ j, (rfS A B code n).testBit j = true → T.testBit j = true
  | 0, _, j, h => by simp [rfS] at h
  | n + 1, hk, j, h => by
    rw [rfS] at h
    split at h
    · next hc =>
      rw [fb_bit_set, Bool.or_eq_true, decide_eq_true_eq] at h
      rcases h with h | h
      · exact rfS_in (fun k q => hk k (by omega)) j h
      · subst h; exact hk n (by omega) hc.1
    · exact rfS_in (fun k q => hk k (by omega)) j h
theorem rfS_IsF {A B : St} {b v : Nat} (hWB : WB B) (hb : BF (fun code => rfS A B code (B 4 0)) (2 ^ (B 4 0)) b v) : IsF A B b := by
  obtain ⟨c0, h3, h4, h5, h6⟩ := hb
  refine ⟨by rw [h4]; exact rfS_lt hWB.2.2.1, by rw [h4]; exact rfS_hit, fun T hT hH => ?_⟩
  have hc := h6 (bset (fun k => if T.testBit (B 0 k) = true then 0 else 1) (B 4 0)) (bset_lt _ _)
  refine KL_tr hc (KL_sub (rfS_in (fun k hk hf => ?_)))
  rw [bset_bit]
  by_cases q : T.testBit (B 0 k) = true
  · simp [q]
  · have := (hH k hk hf).resolve_left q
    simp [q, hk, this]
set_option maxRecDepth 100000 in
set_option maxHeartbeats 1000000 in
theorem s_contra {σ : Sg} {A B : St} {Q : Option Value → Sg → Prop} (hR : RCel 7 σ A) (hW : WJ A) (hB : RCb σ B) (hWB : WB B) (h : ∀ (σ' : Sg) (w : Nat) (c : Nat → Nat), w ≤ 12 → (∀ k, k < w → c k < B 4 0 ∧ FP A B (c k)) → (∀ i, i < B 4 0 → FP A B i → ∃ k, k < w ∧ c k = i) → (∀ k, k < w → σ' 84 k = nI (c k)) → FrC 84 84 σ σ' → Q (some (.int (nI w))) σ') : MetA mX3_findContradicted [.ref 81, .ref 7] σ Q := by
  refine MetA_of qX3_findContradicted (Nat.le_of_ble_eq_true rfl) ?_
  have hB0 := hWB.1
  have h24 := hW.1
  have loop : ∀ (m i w : Nat) (c : Nat → Nat) (σ' : Sg), i + m = B 4 0 → w ≤ i → (∀ k, k < w → c k < i ∧ FP A B (c k)) → (∀ j, j < i → FP A B j → ∃ k, k < w ∧ c k = j) → (∀ k, k < w → σ' 84 k = nI (c k)) → FrC 84 84 σ σ' → V mX3_findContradicted 4 [(0, .ref 81), (1, .ref 7), (2, .int (nI w)), (3, .int (nI i))] [] σ' Q := by
    intro m
    induction m with
    | zero =>
      intro i w c σ' hi hw h1 h2 h3 hF
      have hi : i = B 4 0 := by omega
      subst hi
      refine wpB_sd (stops := [4]) kX3_findContradicted 30 _ _ _ _ ?_
      refine br_t (by rw [hF 81 (by omega), hB.1]; exact nI_le (by omega) (by omega)) ?_
      exact h σ' w c (by omega) h1 h2 h3 hF
    | succ m ih =>
      intro i w c σ' hi hw h1 h2 h3 hF
      have hwb := hWB.2.2.1 i (by omega)
      have he : σ' 82 i = nI (B 0 i) := by rw [hF 82 (by omega)]; exact (hB.2.1 i (by omega)).1
      have hy : σ' 83 i = nI (B 1 i) := by rw [hF 83 (by omega)]; exact (hB.2.1 i (by omega)).2
      have hR' : RCel 7 σ' A := hR.fr (fun c a b => hF c (by omega))
      have adv : ∀ (w' : Nat) (c' : Nat → Nat) (σ'' : Sg), w' ≤ i + 1 → (∀ k, k < w' → c' k < i + 1 ∧ FP A B (c' k)) → (∀ j, j < i + 1 → FP A B j → ∃ k, k < w' ∧ c' k = j) → (∀ k, k < w' → σ'' 84 k = nI (c' k)) → FrC 84 84 σ σ'' → V mX3_findContradicted 73 [(0, .ref 81), (1, .ref 7), (2, .int (nI w')), (3, .int (nI i))] [] σ'' Q := by
        intro w' c' σ'' a1 a2 a3 a4 a5
        refine wpB_sd (stops := [4]) kX3_findContradicted 30 _ _ _ _ ?_
        have nxt := ih (i + 1) w' c' σ'' (by omega) a1 a2 a3 a4 a5
        rw [← nI_1] at nxt
        exact nxt
      have skip : ¬ FP A B i → V mX3_findContradicted 73 [(0, .ref 81), (1, .ref 7), (2, .int (nI w)), (3, .int (nI i))] [] σ' Q := by
        intro q
        exact adv w c σ' (by omega) (fun k hk => ⟨by have := (h1 k hk).1; omega, (h1 k hk).2⟩) (fun j hj hf => by
          by_cases z : j = i
          · subst z; exact absurd hf q
          · exact h2 j (by omega) hf) h3 hF
      refine wpB_sd (stops := [4, 73]) kX3_findContradicted 60 _ _ _ _ ?_
      refine br_f (by rw [hF 81 (by omega), hB.1]; exact nI_ge (by omega) (by omega)) ?_
      refine ald (n := 12) (j := i) rfl rfl (by omega) he ?_
      refine ald (n := 12) (j := i) rfl rfl (by omega) hy ?_
      refine s_has (Or.inl rfl) ?_
      rw [hR'.1]
      refine ⟨fun g => V.take 4 (skip (fun q => bI_0.mp g ((ix_iff (by omega)).mpr ⟨_, q.1, rfl⟩))), fun g => ?_⟩
      have g1 : B 0 i < A 12 0 := (nI_ltI (by omega) (by omega)).mp (bI_n0 g).2
      refine s_has (Or.inl rfl) ?_
      rw [hR'.1]
      refine ⟨fun g => V.take 4 (skip (fun q => bI_0.mp g ((ix_iff (by omega)).mpr ⟨_, q.2.1, rfl⟩))), fun g => ?_⟩
      have g2 : B 1 i < A 12 0 := (nI_ltI (by omega) (by omega)).mp (bI_n0 g).2
      have d1 := (hW.2.2 _ g1).2.2.1
      have d2 := (hW.2.2 _ g2).2.2.1
      refine ald (n := 24) (j := B 0 i) rfl rfl (by omega) (hR'.2.2 _ g1).2.2.1 ?_
      refine ald (n := 24) (j := B 1 i) rfl rfl (by omega) (hR'.2.2 _ g2).2.2.1 ?_
      refine ⟨fun g => V.take 4 (skip (fun q => by have := (nI_ltI (by omega) (by omega)).mp g; have := q.2.2; omega)), fun g => ?_⟩
      have g3 : ¬ A 2 (B 0 i) < A 2 (B 1 i) := fun q => g (nI_lt q (by omega))
      refine ast (n := 12) (j := w) rfl rfl (by omega) ?_
      have nxt := adv (w + 1) (fun k => if k = w then i else c k) (sgu σ' 84 w (nI i)) (by omega) (fun k hk => ?_) (fun j hj hf => ?_) (fun k hk => ?_) (fun c hc => by rw [sgu_c (by omega)]; exact hF c hc)
      · rw [← nI_1] at nxt
        exact V.take 4 nxt
      · by_cases z : k = w
        · simp only [z, if_pos]; exact ⟨by omega, g1, g2, by omega⟩
        · simp only [if_neg z]; have := h1 k (by omega); exact ⟨by omega, this.2⟩
      · by_cases z : j = i
        · exact ⟨w, by omega, by simp [z]⟩
        · obtain ⟨k, a, b⟩ := h2 j (by omega) hf
          exact ⟨k, by omega, by simp only [if_neg (show ¬ k = w by omega)]; exact b⟩
      · by_cases z : k = w
        · subst z; rw [sgu_s, if_pos rfl]
        · rw [sgu_k z, if_neg z]; exact h3 k (by omega)
  refine wpB_sd (stops := [4]) kX3_findContradicted 30 _ _ _ _ ?_
  exact loop (B 4 0) 0 0 (fun _ => 0) σ (by omega) (by omega) (fun k hk => by omega) (fun j hj => by omega) (fun k hk => by omega) (fun _ _ => rfl)
set_option maxRecDepth 100000 in
set_option maxHeartbeats 2000000 in
theorem s_fewest {σ : Sg} {A B : St} {Q : Option Value → Sg → Prop} (hR : RCel 7 σ A) (hW : WJ A) (hB : RCb σ B) (hWB : WB B) (h : ∀ σ' b, IsF A B b → FrC 84 84 σ σ' → Q (some (.int (nI b))) σ') : MetA mX3_fewestForged [.ref 81, .ref 7] σ Q := by
  refine MetA_of qX3_fewestForged (Nat.le_of_ble_eq_true rfl) ?_
  have h24 := hW.1
  refine wpB_sd (stops := [15]) kX3_fewestForged 30 _ _ _ _ ?_
  refine s_contra hR hW hB hWB (fun σ1 w c hw h1 h2 h3 hF => ?_)
  have hpw : (2 : Nat) ^ w ≤ 2 ^ 12 := Nat.pow_le_pow_right (by omega) hw
  have hlt : ∀ k, k < w → B 0 (c k) < 24 ∧ B 1 (c k) < 24 := fun k hk => hWB.2.2.1 (c k) (h1 k hk).1
  have hB0 := hWB.1
  -- the set of a choice
  have inner : ∀ code b v, code < 2 ^ w → (∀ S, S = clS B c code w → V mX3_fewestForged 84 [(0, .ref 81), (1, .ref 7), (2, .int (nI w)), (3, .int b), (4, .int v), (5, .int (nI code)), (6, .int (nI S))] [] σ1 Q) → ∀ m i, i + m = w → V mX3_fewestForged 29 [(0, .ref 81), (1, .ref 7), (2, .int (nI w)), (3, .int b), (4, .int v), (5, .int (nI code)), (6, .int (nI (clS B c code i))), (7, .int (nI i))] [] σ1 Q := by
    intro code b v hcode hnx m
    induction m with
    | zero =>
      intro i hi
      have hi : i = w := by omega
      subst hi
      refine wpB_sd (stops := [29, 84]) kX3_fewestForged 30 _ _ _ _ ?_
      refine br_t (nI_le (by omega) (by omega)) ?_
      exact V.take 7 (hnx _ rfl)
    | succ m ih =>
      intro i hi
      have hci := (h1 i (by omega)).1
      have hwb := hlt i (by omega)
      have he : σ1 82 (c i) = nI (B 0 (c i)) := by rw [hF 82 (by omega)]; exact (hB.2.1 _ hci).1
      have hy : σ1 83 (c i) = nI (B 1 (c i)) := by rw [hF 83 (by omega)]; exact (hB.2.1 _ hci).2
      have at74 : ∀ u : Int32, u = nI (if code.testBit i = true then B 1 (c i) else B 0 (c i)) → V mX3_fewestForged 74 [(0, .ref 81), (1, .ref 7), (2, .int (nI w)), (3, .int b), (4, .int v), (5, .int (nI code)), (6, .int (nI (clS B c code i))), (7, .int (nI i)), (8, .int (nI (c i)))] [.int u, .int 1, .int (nI (clS B c code i))] σ1 Q := by
        intro u hu
        subst hu
        refine wpB_sd (stops := [29]) kX3_fewestForged 30 _ _ _ _ ?_
        have nxt := ih (i + 1) (by omega)
        rw [clS, ← nI_1, ← or_bit (by split <;> omega)] at nxt
        exact V.take 8 nxt
      refine wpB_sd (stops := [29, 74]) kX3_fewestForged 30 _ _ _ _ ?_
      refine br_f (nI_ge (by omega) (by omega)) ?_
      refine ald (n := 12) (j := i) rfl rfl (by omega) (h3 i (by omega)) ?_
      refine ⟨fun g => ?_, fun g => ?_⟩
      · refine ald (n := 12) (j := c i) rfl rfl (by omega) hy ?_
        refine at74 _ ?_
        have q : code.testBit i = true := by
          cases z : code.testBit i with
          | true => rfl
          | false => exact absurd ((gbit0 (by omega) (by omega)).mpr z) g
        rw [if_pos q]
      · refine ald (n := 12) (j := c i) rfl rfl (by omega) he ?_
        refine at74 _ ?_
        have q := (gbit0 (by omega) (by omega)).mp g
        rw [if_neg (by rw [q]; decide)]
  have outer : ∀ m code b v, code + m = 2 ^ w → b < 2 ^ 24 → v < 2 ^ 31 → (code = 0 → v = 1000000000) → (0 < code → BF (fun cd => clS B c cd w) code b v) → V mX3_fewestForged 15 [(0, .ref 81), (1, .ref 7), (2, .int (nI w)), (3, .int (nI b)), (4, .int (nI v)), (5, .int (nI code))] [] σ1 Q := by
    intro m
    induction m with
    | zero =>
      intro code b v hc hb hv h0 hs
      have hc : code = 2 ^ w := by omega
      subst hc
      refine wpB_sd (stops := [15]) kX3_fewestForged 30 _ _ _ _ ?_
      refine br_t (by rw [one_shl (by omega)]; exact nI_le (by omega) (by omega)) ?_
      exact h σ1 b (clS_IsF hw hWB h1 h2 (hs (Nat.two_pow_pos w))) hF
    | succ m ih =>
      intro code b v hc hb hv h0 hs
      have hle := fb_ct_le (fun k => (clS B c code w).testBit k) 24
      have hSl := clS_lt (code := code) hlt
      have at118 : ∀ b' v', b' < 2 ^ 24 → v' < 2 ^ 31 → BF (fun cd => clS B c cd w) (code + 1) b' v' → ∀ l6 l7 : Value, V mX3_fewestForged 118 [(0, .ref 81), (1, .ref 7), (2, .int (nI w)), (3, .int (nI b')), (4, .int (nI v')), (5, .int (nI code)), (6, l6), (7, l7)] [] σ1 Q := by
        intro b' v' hb' hv' hB' l6 l7
        refine wpB_sd (stops := [15]) kX3_fewestForged 30 _ _ _ _ ?_
        have nxt := ih (code + 1) b' v' (by omega) hb' hv' (by omega) (fun _ => hB')
        rw [← nI_1] at nxt
        exact V.take 6 nxt
      refine wpB_sd (stops := [15, 29]) kX3_fewestForged 30 _ _ _ _ ?_
      refine br_f (by rw [one_shl (by omega)]; exact nI_ge (by omega) (by omega)) ?_
      refine inner code (nI b) (nI v) (by omega) (fun S hS => ?_) w 0 (by omega)
      subst hS
      have upd : (pcN (clS B c code w) < v ∨ (pcN (clS B c code w) = v ∧ clS B c code w < b)) → V mX3_fewestForged 111 [(0, .ref 81), (1, .ref 7), (2, .int (nI w)), (3, .int (nI b)), (4, .int (nI v)), (5, .int (nI code)), (6, .int (nI (clS B c code w))), (7, .int (nI (pcN (clS B c code w))))] [] σ1 Q := by
        intro q
        refine wpB_sd (stops := [118]) kX3_fewestForged 30 _ _ _ _ ?_
        refine at118 _ _ hSl (by unfold pcN; omega) (BF_s1 (f := fun cd => clS B c cd w) (b := b) (w := v) ?_ q) _ _
        rcases Nat.eq_zero_or_pos code with z | z
        · exact Or.inl z
        · exact Or.inr (hs z)
      have old : ¬ (pcN (clS B c code w) < v ∨ (pcN (clS B c code w) = v ∧ clS B c code w < b)) → V mX3_fewestForged 118 [(0, .ref 81), (1, .ref 7), (2, .int (nI w)), (3, .int (nI b)), (4, .int (nI v)), (5, .int (nI code)), (6, .int (nI (clS B c code w))), (7, .int (nI (pcN (clS B c code w))))] [] σ1 Q := by
        intro q
        refine at118 b v hb hv (BF_s0 (hs ?_) q) _ _
        rcases Nat.eq_zero_or_pos code with z | z
        · have := h0 z
          exact absurd (Or.inl (by unfold pcN; omega)) q
        · exact z
      refine wpB_sd (stops := [111, 118]) kX3_fewestForged 30 _ _ _ _ ?_
      refine s_bitCount hSl ?_
      refine ⟨fun g => upd (Or.inl ((nI_ltI (by unfold pcN; omega) (by omega)).mp g)), fun g => ?_⟩
      have g1 : ¬ pcN (clS B c code w) < v := fun q => g (nI_lt q (by omega))
      refine ⟨fun g => old ?_, fun g => ?_⟩
      · have g2 : ¬ pcN (clS B c code w) = v := fun q => g (by rw [q])
        omega
      · have g2 := (nI_eq (by unfold pcN; omega) (by omega)).mp g
        refine ⟨fun g => old ?_, fun g => upd ?_⟩
        · have g3 := (nI_leI (by omega) (by omega)).mp g
          omega
        · have g3 : ¬ b ≤ clS B c code w := fun q => g (nI_le q (by omega))
          omega
  exact outer (2 ^ w) 0 0 1000000000 (by omega) (by omega) (by omega) (fun _ => rfl) (fun q => by omega)
set_option maxRecDepth 100000 in
theorem t_forged {σ : Sg} {A B : St} {hg : Nat} {Q : Option Value → Sg → Prop} (hC : CS σ A hg) (hW : WL A) (hB : RCb σ B) (hWB : WB B) (h : ∀ σ' b, IsF A B b → FrC 84 84 σ σ' → Q (some (.int (nI b))) σ') : MetA mX7_forged [.ref 0] σ Q := by
  refine MetA_of qX7_forged (Nat.le_of_ble_eq_true rfl) ?_
  refine wpB_sd (stops := []) kX7_forged 40 _ _ _ _ ?_
  exact s_fewest hC.1.1 hW.1 hB hWB h
theorem m_hasB {σ : Sg} {s k : Nat} {Q : Option Value → Sg → Prop} (hs : s < 2 ^ 31) (hk : k < 31) (h : Q (some (.int (bI (s.testBit k = true)))) σ) : MetA mX8_has [.int (nI s), .int (nI k)] σ Q := by
  refine MetA_of qX8_has (Nat.le_of_ble_eq_true rfl) ?_
  refine wpB_sd (stops := []) kX8_has 40 _ _ _ _ ?_
  refine ⟨fun g => ⟨Or.inl rfl, fin_i h (bI_f (fun q => g ((gbit1 hs hk).mpr q))).symm⟩, fun g => ⟨Or.inr rfl, fin_i h (bI_t ((gbit1 hs hk).mp g)).symm⟩⟩
set_option maxRecDepth 100000 in
set_option maxHeartbeats 2000000 in
theorem u_forged {σ : Sg} {A B : St} {hg : Nat} {Q : Option Value → Sg → Prop} (hC : MR σ A hg) (hW : WL A) (hB : RMb σ B) (hWB : WB B) (h : ∀ b, IsF A B b → Q (some (.int (nI b))) σ) : MetA mX8_forged [.ref 89] σ Q := by
  refine MetA_of qX8_forged (Nat.le_of_ble_eq_true rfl) ?_
  have h24 := hW.1.1
  have hB0 := hWB.1
  have hpw : (2 : Nat) ^ B 4 0 ≤ 2 ^ 12 := Nat.pow_le_pow_right (by omega) hB0
  have inner : ∀ code b v, code < 2 ^ B 4 0 → (∀ S, S = rfS A B code (B 4 0) → V mX8_forged 156 [(0, .ref 89), (1, .int b), (2, .int v), (3, .int (nI code)), (4, .int (nI S))] [] σ Q) → ∀ m i, i + m = B 4 0 → V mX8_forged 23 [(0, .ref 89), (1, .int b), (2, .int v), (3, .int (nI code)), (4, .int (nI (rfS A B code i))), (5, .int (nI i))] [] σ Q := by
    intro code b v hcode hnx m
    induction m with
    | zero =>
      intro i hi
      have hi : i = B 4 0 := by omega
      subst hi
      refine wpB_sd (stops := [23, 156]) kX8_forged 30 _ _ _ _ ?_
      refine br_t (by rw [hB.1]; exact nI_le (by omega) (by omega)) ?_
      exact V.take 5 (hnx _ rfl)
    | succ m ih =>
      intro i hi
      have hwb := hWB.2.2.1 i (by omega)
      have hS := rfS_lt (A := A) (code := code) (n := i) (fun k hk => hWB.2.2.1 k (by omega))
      have he : σ 100 i = nI (B 0 i) := (hB.2.1 i (by omega)).1
      have hy : σ 101 i = nI (B 1 i) := (hB.2.1 i (by omega)).2
      have at147 : ∀ (u : Int32) (u8 : Int32), nI (rfS A B code i) ||| u = nI (rfS A B code (i + 1)) → V mX8_forged 147 [(0, .ref 89), (1, .int b), (2, .int v), (3, .int (nI code)), (4, .int (nI (rfS A B code i))), (5, .int (nI i)), (6, .int (nI (B 0 i))), (7, .int (nI (B 1 i))), (8, .int u8)] [.int u, .int (nI (rfS A B code i))] σ Q := by
        intro u u8 hu
        refine wpB_sd (stops := [23]) kX8_forged 30 _ _ _ _ ?_
        have nxt := ih (i + 1) (by omega)
        rw [← hu, ← nI_1] at nxt
        exact V.take 6 nxt
      have at146 : ∀ u8 : Int32, ¬ (FP A B i ∧ ¬ (rfS A B code i).testBit (B 0 i) = true ∧ ¬ (rfS A B code i).testBit (B 1 i) = true) → V mX8_forged 146 [(0, .ref 89), (1, .int b), (2, .int v), (3, .int (nI code)), (4, .int (nI (rfS A B code i))), (5, .int (nI i)), (6, .int (nI (B 0 i))), (7, .int (nI (B 1 i))), (8, .int u8)] [.int (nI (rfS A B code i))] σ Q := by
        intro u8 q
        refine wpB_sd (stops := [147]) kX8_forged 30 _ _ _ _ ?_
        refine at147 0 u8 ?_
        rw [rfS, if_neg q]
        show nI _ ||| nI 0 = _
        rw [fa_or, Nat.or_zero]
      have at142 : ∀ (u u8 : Int32), (FP A B i ∧ ¬ (rfS A B code i).testBit (B 0 i) = true ∧ ¬ (rfS A B code i).testBit (B 1 i) = true) → u = nI (if code.testBit i = true then B 1 i else B 0 i) → V mX8_forged 142 [(0, .ref 89), (1, .int b), (2, .int v), (3, .int (nI code)), (4, .int (nI (rfS A B code i))), (5, .int (nI i)), (6, .int (nI (B 0 i))), (7, .int (nI (B 1 i))), (8, .int u8)] [.int u, .int 1, .int (nI (rfS A B code i))] σ Q := by
        intro u u8 q hu
        subst hu
        refine wpB_sd (stops := [147]) kX8_forged 30 _ _ _ _ ?_
        refine at147 _ u8 ?_
        rw [rfS, if_pos q, or_bit (by split <;> omega)]
      have at96 : ∀ u : Int32, (u = 0 ↔ ¬ FP A B i) → V mX8_forged 96 [(0, .ref 89), (1, .int b), (2, .int v), (3, .int (nI code)), (4, .int (nI (rfS A B code i))), (5, .int (nI i)), (6, .int (nI (B 0 i))), (7, .int (nI (B 1 i)))] [.int u] σ Q := by
        intro u hu
        refine wpB_sd (stops := [142, 146]) kX8_forged 60 _ _ _ _ ?_
        refine ⟨fun g => at146 u (fun q => hu.mp g q.1), fun g => ?_⟩
        have hf : FP A B i := Classical.byContradiction fun q => g (hu.mpr q)
        refine m_hasB (by omega) (by omega) ?_
        refine ⟨fun g => at146 u (fun q => q.2.1 (bI_n0 g)), fun g => ?_⟩
        have g1 := bI_0.mp g
        refine m_hasB (by omega) (by omega) ?_
        refine ⟨fun g => at146 u (fun q => q.2.2 (bI_n0 g)), fun g => ?_⟩
        have g2 := bI_0.mp g
        refine m_hasB (by omega) (by omega) ?_
        refine ⟨fun g => at142 _ u ⟨hf, g1, g2⟩ (by rw [if_neg (bI_0.mp g)]), fun g => at142 _ u ⟨hf, g1, g2⟩ (by rw [if_pos (bI_n0 g)])⟩
      have no : ¬ FP A B i → V mX8_forged 95 [(0, .ref 89), (1, .int b), (2, .int v), (3, .int (nI code)), (4, .int (nI (rfS A B code i))), (5, .int (nI i)), (6, .int (nI (B 0 i))), (7, .int (nI (B 1 i)))] [] σ Q := fun q => by
        refine wpB_sd (stops := [96]) kX8_forged 30 _ _ _ _ ?_
        exact at96 0 ⟨fun _ => q, fun _ => rfl⟩
      refine wpB_sd (stops := [95, 96]) kX8_forged 60 _ _ _ _ ?_
      refine br_f (by rw [hB.1]; exact nI_ge (by omega) (by omega)) ?_
      refine ald (n := 12) (j := i) rfl rfl (by omega) he ?_
      refine ald (n := 12) (j := i) rfl rfl (by omega) hy ?_
      refine m_isJar hC.1 h24 ?_
      refine ⟨fun g => V.take 8 (no (fun q => bI_0.mp g ((ix_iff (by omega)).mpr ⟨_, q.1, rfl⟩))), fun g => ?_⟩
      have g1 : B 0 i < A 12 0 := (nI_ltI (by omega) (by omega)).mp (bI_n0 g).2
      refine m_isJar hC.1 h24 ?_
      refine ⟨fun g => V.take 8 (no (fun q => bI_0.mp g ((ix_iff (by omega)).mpr ⟨_, q.2.1, rfl⟩))), fun g => ?_⟩
      have g2 : B 1 i < A 12 0 := (nI_ltI (by omega) (by omega)).mp (bI_n0 g).2
      have d1 := (hW.1.2.2 _ g1).2.2.1
      have d2 := (hW.1.2.2 _ g2).2.2.1
      refine ald (n := 800) (j := 0 + 48 + B 0 i) rfl (by simp only [fa_lit, nI_add]) (by omega) (hC.1.2.2.2.2.1 _ g1).2.2.1 ?_
      refine ald (n := 800) (j := 0 + 48 + B 1 i) rfl (by simp only [fa_lit, nI_add]) (by omega) (hC.1.2.2.2.2.1 _ g2).2.2.1 ?_
      refine ⟨fun g => V.take 8 (no (fun q => by have := (nI_ltI (by omega) (by omega)).mp g; have := q.2.2; omega)), fun g => ?_⟩
      have g3 : ¬ A 2 (B 0 i) < A 2 (B 1 i) := fun q => g (nI_lt q (by omega))
      exact V.take 8 (at96 1 ⟨fun q => absurd q (by decide), fun q => absurd ⟨g1, g2, by omega⟩ q⟩)
  have outer : ∀ m code b v, code + m = 2 ^ B 4 0 → (0 < code → b < 2 ^ 24) → v < 2 ^ 31 → (code = 0 → v = 99999999) → (0 < code → BF (fun cd => rfS A B cd (B 4 0)) code b v) → ∀ bi : Int32, (code = 0 → bi = -1) → (0 < code → bi = nI b) → V mX8_forged 7 [(0, .ref 89), (1, .int bi), (2, .int (nI v)), (3, .int (nI code))] [] σ Q := by
    intro m
    induction m with
    | zero =>
      intro code b v hc hb hv h0 hs bi hb0 hbi
      have hc : code = 2 ^ B 4 0 := by omega
      subst hc
      have hp := Nat.two_pow_pos (B 4 0)
      refine wpB_sd (stops := [7]) kX8_forged 30 _ _ _ _ ?_
      refine br_t (by rw [hB.1, one_shl (by omega)]; exact nI_le (by omega) (by omega)) ?_
      have fin := h b (rfS_IsF hWB (hs hp))
      rw [← hbi hp] at fin
      exact fin
    | succ m ih =>
      intro code b v hc hb hv h0 hs bi hb0 hbi
      have hle := fb_ct_le (fun k => (rfS A B code (B 4 0)).testBit k) 24
      have hSl := rfS_lt (A := A) (code := code) hWB.2.2.1
      have at187 : ∀ b' v', b' < 2 ^ 24 → v' < 2 ^ 31 → BF (fun cd => rfS A B cd (B 4 0)) (code + 1) b' v' → ∀ bi' : Int32, bi' = nI b' → ∀ l4 l5 : Value, V mX8_forged 187 [(0, .ref 89), (1, .int bi'), (2, .int (nI v')), (3, .int (nI code)), (4, l4), (5, l5)] [] σ Q := by
        intro b' v' hb' hv' hB' bi' hbi' l4 l5
        refine wpB_sd (stops := [7]) kX8_forged 30 _ _ _ _ ?_
        have nxt := ih (code + 1) b' v' (by omega) (fun _ => hb') hv' (by omega) (fun _ => hB') bi' (by omega) (fun _ => hbi')
        rw [← nI_1] at nxt
        exact V.take 4 nxt
      refine wpB_sd (stops := [7, 23]) kX8_forged 30 _ _ _ _ ?_
      refine br_f (by rw [hB.1, one_shl (by omega)]; exact nI_ge (by omega) (by omega)) ?_
      refine inner code bi (nI v) (by omega) (fun S hS => ?_) (B 4 0) 0 (by omega)
      subst hS
      have upd : (pcN (rfS A B code (B 4 0)) < v ∨ (pcN (rfS A B code (B 4 0)) = v ∧ rfS A B code (B 4 0) < b)) → V mX8_forged 181 [(0, .ref 89), (1, .int bi), (2, .int (nI v)), (3, .int (nI code)), (4, .int (nI (rfS A B code (B 4 0)))), (5, .int (nI (pcN (rfS A B code (B 4 0)))))] [] σ Q := by
        intro q
        refine wpB_sd (stops := [187]) kX8_forged 30 _ _ _ _ ?_
        refine at187 _ _ hSl (by unfold pcN; omega) (BF_s1 (f := fun cd => rfS A B cd (B 4 0)) (b := b) (w := v) ?_ q) _ rfl _ _
        rcases Nat.eq_zero_or_pos code with z | z
        · exact Or.inl z
        · exact Or.inr (hs z)
      have c0 : ¬ pcN (rfS A B code (B 4 0)) < v → 0 < code := fun q => by
        rcases Nat.eq_zero_or_pos code with z | z
        · have := h0 z
          exact absurd (by unfold pcN; omega) q
        · exact z
      have old : ¬ (pcN (rfS A B code (B 4 0)) < v ∨ (pcN (rfS A B code (B 4 0)) = v ∧ rfS A B code (B 4 0) < b)) → V mX8_forged 187 [(0, .ref 89), (1, .int bi), (2, .int (nI v)), (3, .int (nI code)), (4, .int (nI (rfS A B code (B 4 0)))), (5, .int (nI (pcN (rfS A B code (B 4 0)))))] [] σ Q := by
        intro q
        have z := c0 (fun y => q (Or.inl y))
        exact at187 b v (hb z) hv (BF_s0 (hs z) q) bi (hbi z) _ _
      refine wpB_sd (stops := [181, 187]) kX8_forged 30 _ _ _ _ ?_
      refine m_ones hSl ?_
      refine ⟨fun g => upd (Or.inl ((nI_ltI (by unfold pcN; omega) (by omega)).mp g)), fun g => ?_⟩
      have g1 : ¬ pcN (rfS A B code (B 4 0)) < v := fun q => g (nI_lt q (by omega))
      have z := c0 g1
      have hb := hb z
      rw [hbi z] at *
      refine ⟨fun g => old ?_, fun g => ?_⟩
      · have g2 : ¬ pcN (rfS A B code (B 4 0)) = v := fun q => g (by rw [q])
        omega
      · have g2 := (nI_eq (by unfold pcN; omega) (by omega)).mp g
        refine ⟨fun g => old ?_, fun g => upd ?_⟩
        · have g3 := (nI_leI (by omega) (by omega)).mp g
          omega
        · have g3 : ¬ b ≤ rfS A B code (B 4 0) := fun q => g (nI_le q (by omega))
          omega
  refine wpB_sd (stops := [7]) kX8_forged 30 _ _ _ _ ?_
  exact outer (2 ^ B 4 0) 0 0 99999999 (by omega) (by omega) (by omega) (fun _ => rfl) (fun q => by omega) (-1) (fun _ => rfl) (fun q => by omega)
end
section
/-! bequest: the dealer -/
def dgB (d c code i : Nat) : Nat := code / d ^ (c - 1 - i) % d
def bqF (q : Nat → Nat) (d c code p : Nat) : Nat := fb_sm (fun k => if dgB d c code k = p then q k else 0) c
def mnF (f : Nat → Nat) : Nat → Nat
  | 0 => f 0
  | n + 1 => if f (n + 1) < mnF f n then f (n + 1) else mnF f n
def mxF (f : Nat → Nat) : Nat → Nat
  | 0 => f 0
  | n + 1 => if mxF f n < f (n + 1) then f (n + 1) else mxF f n
def bqO (q : Nat → Nat) (d c code : Nat) : Nat := mxF (bqF q d c code) (d - 1) - mnF (bqF q d c code) (d - 1)
def hrB (a p : Nat) : Nat := if p < a then p else p + 1
theorem mnF_le {f : Nat → Nat} {B : Nat} (h : ∀ p, f p ≤ B) : ∀ n, mnF f n ≤ B
  | 0 => h 0
  | n + 1 => by
    have := mnF_le h n
    have := h (n + 1)
    rw [mnF]; split <;> omega
theorem mxF_le {f : Nat → Nat} {B : Nat} (h : ∀ p, f p ≤ B) : ∀ n, mxF f n ≤ B
  | 0 => h 0
  | n + 1 => by
    have := mxF_le h n
    have := h (n + 1)
    rw [mxF]; split <;> omega
theorem mnx_le {f : Nat → Nat} : ∀ n, mnF f n ≤ mxF f n
  | 0 => Nat.le_refl _
  | n + 1 => by
    have := mnx_le (f := f) n
    rw [mnF, mxF]; split <;> split <;> omega
theorem bqF_le {q : Nat → Nat} {d c code p : Nat} (hq : ∀ k, k < c → q k ≤ 99) (hc : c ≤ 8) : ∀ {n}, n ≤ c → fb_sm (fun k => if dgB d c code k = p then q k else 0) n ≤ 99 * n := by
  intro n hn
  have := fb_sm_bound (f := fun k => if dgB d c code k = p then q k else 0) (c := 99) (n := n) (fun k hk => by
    have := hq k (by omega)
    show (if dgB d c code k = p then q k else 0) ≤ 99
    split <;> omega)
  omega
theorem dg_lt {d c code i : Nat} (hd : 1 ≤ d) : dgB d c code i < d := Nat.mod_lt _ (by omega)
theorem dg_step {d c code m : Nat} (hd : 1 ≤ d) (hd3 : d ≤ 3) (hm : m < c) (hdv : d ^ (c - (m + 1)) ∣ code + 1) :
    (dgB d c code m + 1 < d → dgB d c (code + 1) m = dgB d c code m + 1 ∧ ∀ j, j < m → dgB d c (code + 1) j = dgB d c code j) ∧
    (¬ dgB d c code m + 1 < d → dgB d c (code + 1) m = 0 ∧ d ^ (c - m) ∣ code + 1) := by
  have hD : 0 < d ^ (c - (m + 1)) := Nat.pow_pos (by omega)
  have em : c - 1 - m = c - (m + 1) := by omega
  have ec : c - m = c - (m + 1) + 1 := by omega
  have ej : ∀ j, j < m → c - 1 - j = (c - (m + 1)) + (1 + (m - 1 - j)) := fun j hj => by omega
  unfold dgB
  rw [em, ec]
  have key : ∃ s, code / d ^ (c - (m + 1)) = s ∧ (code + 1) / d ^ (c - (m + 1)) = s + 1 ∧ code + 1 = d ^ (c - (m + 1)) * (s + 1) := by
    obtain ⟨t, ht⟩ := hdv
    cases t with
    | zero => omega
    | succ s =>
      refine ⟨s, ?_, ?_, ht⟩
      · have e : code = d ^ (c - (m + 1)) * s + (d ^ (c - (m + 1)) - 1) := by
          rw [Nat.mul_succ] at ht; omega
        rw [e, Nat.mul_add_div hD, Nat.div_eq_of_lt (by omega), Nat.add_zero]
      · rw [ht, Nat.mul_div_cancel_left _ hD]
  obtain ⟨s, h1, h2, h3⟩ := key
  rw [h1, h2]
  refine ⟨fun hl => ⟨?_, fun j hj => ?_⟩, fun hl => ⟨?_, ?_⟩⟩
  · rcases (show d = 1 ∨ d = 2 ∨ d = 3 by omega) with rfl | rfl | rfl <;> omega
  · rw [ej j hj, Nat.pow_add, Nat.pow_add, Nat.pow_one, ← Nat.div_div_eq_div_mul, ← Nat.div_div_eq_div_mul, ← Nat.div_div_eq_div_mul, ← Nat.div_div_eq_div_mul, h1, h2]
    have : (s + 1) / d = s / d := by
      rcases (show d = 1 ∨ d = 2 ∨ d = 3 by omega) with rfl | rfl | rfl <;> omega
    rw [this]
  · rcases (show d = 1 ∨ d = 2 ∨ d = 3 by omega) with rfl | rfl | rfl <;> omega
  · rw [Nat.pow_succ, h3]
    refine Nat.mul_dvd_mul_left _ ?_
    apply Nat.dvd_of_mod_eq_zero
    rcases (show d = 1 ∨ d = 2 ∨ d = 3 by omega) with rfl | rfl | rfl <;> omega
set_option maxRecDepth 100000 in
set_option maxHeartbeats 1000000 in
theorem s_nextWay {σ : Sg} {d c code : Nat} {Q : Option Value → Sg → Prop} (hd : 1 ≤ d) (hd3 : d ≤ 3) (hc : c ≤ 8) (hcn : σ 75 1 = nI c) (hhn : σ 75 3 = nI d) (ht : ∀ i, i < c → σ 78 i = nI (dgB d c code i)) (h : ∀ σ', (∀ i, i < c → σ' 78 i = nI (dgB d c (code + 1) i)) → FrC 78 78 σ σ' → Q none σ') : MetA mX2_nextWay [.ref 75] σ Q := by
  refine MetA_of qX2_nextWay (Nat.le_of_ble_eq_true rfl) ?_
  have loop : ∀ m σ', m ≤ c → (∀ j, j < m → σ' 78 j = nI (dgB d c code j)) → (∀ j, m ≤ j → j < c → σ' 78 j = nI (dgB d c (code + 1) j)) → d ^ (c - m) ∣ code + 1 → FrC 78 78 σ σ' → ∀ v, v = nI m - 1 → V mX2_nextWay 7 [(0, .ref 75), (1, .int v)] [] σ' Q := by
    intro m
    induction m with
    | zero =>
      intro σ' hm h1 h2 h3 hF v hv
      subst hv
      refine wpB_sd (stops := [7]) kX2_nextWay 30 _ _ _ _ ?_
      refine br_t (by decide) ?_
      exact h σ' (fun i hi => h2 i (by omega) hi) hF
    | succ m ih =>
      intro σ' hm h1 h2 h3 hF v hv
      have hv := nI_s1 hv
      subst hv
      obtain ⟨k1, k2⟩ := dg_step hd hd3 (show m < c by omega) h3
      have hl := dg_lt (c := c) (code := code) (i := m) hd
      refine wpB_sd (stops := [7]) kX2_nextWay 30 _ _ _ _ ?_
      refine br_f (nI_pos (by omega)) ?_
      refine ald (n := 8) (j := m) rfl rfl (by omega) (h1 m (by omega)) ?_
      refine ast (n := 8) (j := m) rfl rfl (by omega) ?_
      refine ald (n := 8) (j := m) rfl rfl (by omega) (v := nI (dgB d c code m + 1)) (by rw [sgu_s]; exact nI_1 _) ?_
      refine ⟨fun g => ?_, fun g => ?_⟩
      · rw [sgu_c (by omega), hF 75 (by omega), hhn] at g
        have g := (nI_leI (by omega) (by omega)).mp g
        obtain ⟨k3, k4⟩ := k2 (by omega)
        refine ast (n := 8) (j := m) rfl rfl (by omega) ?_
        refine ih _ (by omega) (fun j hj => by rw [sgu_k (by omega), sgu_k (by omega)]; exact h1 j (by omega)) (fun j hj hj2 => ?_) k4 (fun c hc => by rw [sgu_c (by omega), sgu_c (by omega)]; exact hF c hc) _ nI_d1
        by_cases q : j = m
        · subst q; rw [sgu_s, k3]; rfl
        · rw [sgu_k q, sgu_k q]; exact h2 j (by omega) hj2
      · rw [sgu_c (by omega), hF 75 (by omega), hhn] at g
        have g : ¬ d ≤ dgB d c code m + 1 := fun q => g (nI_le q (by omega))
        obtain ⟨k3, k4⟩ := k1 (by omega)
        refine h _ (fun j hj => ?_) (fun c hc => by rw [sgu_c (by omega)]; exact hF c hc)
        rcases Nat.lt_trichotomy j m with q | q | q
        · rw [sgu_k (by omega), k4 j q]; exact h1 j (by omega)
        · subst q; rw [sgu_s, k3]; exact nI_1 _
        · rw [sgu_k (by omega)]; exact h2 j (by omega) hj
  refine wpB_sd (stops := [7]) kX2_nextWay 30 _ _ _ _ ?_
  refine loop c σ (Nat.le_refl _) ht (fun j a b => by omega) (by rw [Nat.sub_self, Nat.pow_zero]; exact Nat.one_dvd _) (fun _ _ => rfl) _ ?_
  rw [hcn]
set_option maxRecDepth 100000 in
theorem s_countWays {σ : Sg} {d c : Nat} {Q : Option Value → Sg → Prop} (hc : c ≤ 8) (hcn : σ 75 1 = nI c) (hhn : σ 75 3 = nI d) (h : Q (some (.int (nI (d ^ c)))) σ) : MetA mX2_countWays [.ref 75] σ Q := by
  refine MetA_of qX2_countWays (Nat.le_of_ble_eq_true rfl) ?_
  have loop : ∀ m i, i + m = c → V mX2_countWays 4 [(0, .ref 75), (1, .int (nI (d ^ i))), (2, .int (nI i))] [] σ Q := by
    intro m
    induction m with
    | zero =>
      intro i hi
      have hi : i = c := by omega
      subst hi
      refine wpB_sd (stops := [4]) kX2_countWays 30 _ _ _ _ ?_
      refine br_t (by rw [hcn]; exact nI_le (by omega) (by omega)) ?_
      exact h
    | succ m ih =>
      intro i hi
      refine wpB_sd (stops := [4]) kX2_countWays 30 _ _ _ _ ?_
      refine br_f (by rw [hcn]; exact nI_ge (by omega) (by omega)) ?_
      have nxt := ih (i + 1) (by omega)
      rw [Nat.pow_succ, ← pk_mul, ← nI_1, ← hhn] at nxt
      exact nxt
  refine wpB_sd (stops := [4]) kX2_countWays 30 _ _ _ _ ?_
  exact loop c 0 (by omega)
theorem minI {a b : Nat} (ha : a < 2 ^ 31) (hb : b < 2 ^ 31) : (if nI b < nI a then nI b else nI a) = nI (if b < a then b else a) := by
  by_cases q : b < a
  · rw [if_pos q, if_pos (nI_lt q (by omega))]
  · rw [if_neg q, if_neg (fun z => q ((nI_ltI (by omega) (by omega)).mp z))]
theorem maxI {a b : Nat} (ha : a < 2 ^ 31) (hb : b < 2 ^ 31) : (if nI a < nI b then nI b else nI a) = nI (if a < b then b else a) := by
  by_cases q : a < b
  · rw [if_pos q, if_pos (nI_lt q (by omega))]
  · rw [if_neg q, if_neg (fun z => q ((nI_ltI (by omega) (by omega)).mp z))]
set_option maxRecDepth 100000 in
set_option maxHeartbeats 1000000 in
theorem s_diffOf {σ : Sg} {q l : Nat → Nat} {d c code : Nat} {Q : Option Value → Sg → Prop} (hd : 1 ≤ d) (hd3 : d ≤ 3) (hc : c ≤ 8) (hq : ∀ k, k < c → q k ≤ 99) (hl : ∀ k, k < c → l k < 24) (hcn : σ 75 1 = nI c) (hhn : σ 75 3 = nI d) (hlk : ∀ k, k < c → σ 76 k = nI (l k)) (hqq : ∀ k, k < c → σ 11 (l k) = nI (q k)) (ht : ∀ i, i < c → σ 78 i = nI (dgB d c code i)) (h : ∀ σ', FrC 80 80 σ σ' → Q (some (.int (nI (bqO q d c code)))) σ') : MetA mX2_differenceOf [.ref 75, .ref 7] σ Q := by
  refine MetA_of qX2_differenceOf (Nat.le_of_ble_eq_true rfl) ?_
  have hle : ∀ p, bqF q d c code p ≤ 99 * c := fun p => bqF_le hq hc (Nat.le_refl c)
  -- least and greatest
  have r81 : ∀ m i σ', i + m = d → 1 ≤ i → (∀ p, p < d → σ' 80 p = nI (bqF q d c code p)) → FrC 80 80 σ σ' → V mX2_differenceOf 81 [(0, .ref 75), (1, .ref 7), (2, .int (nI (mnF (bqF q d c code) (i - 1)))), (3, .int (nI (mxF (bqF q d c code) (i - 1)))), (4, .int (nI i))] [] σ' Q := by
    intro m
    induction m with
    | zero =>
      intro i σ' hi h1 hs hF
      have hi : i = d := by omega
      subst hi
      refine wpB_sd (stops := [81]) kX2_differenceOf 30 _ _ _ _ ?_
      refine br_t (by rw [hF 75 (by omega), hhn]; exact nI_le (by omega) (by omega)) ?_
      refine fin_i (h σ' hF) ?_
      rw [pk_sub (mnx_le _)]
      rfl
    | succ m ih =>
      intro i σ' hi h1 hs hF
      have a1 := mnF_le hle (i - 1)
      have a2 := mxF_le hle (i - 1)
      have a3 := hle i
      refine wpB_sd (stops := [81]) kX2_differenceOf 30 _ _ _ _ ?_
      refine br_f (by rw [hF 75 (by omega), hhn]; exact nI_ge (by omega) (by omega)) ?_
      refine ald (n := 4) (j := i) rfl rfl (by omega) (hs i (by omega)) ?_
      refine ald (n := 4) (j := i) rfl rfl (by omega) (hs i (by omega)) ?_
      have nxt := ih (i + 1) σ' (by omega) (by omega) hs hF
      obtain ⟨i', rfl⟩ : ∃ i', i = i' + 1 := ⟨i - 1, by omega⟩
      have a1 := mnF_le hle i'
      have a2 := mxF_le hle i'
      rw [show i' + 1 + 1 - 1 = i' + 1 by omega, mnF, mxF, ← nI_1, ← minI (by omega) (by omega), ← maxI (by omega) (by omega)] at nxt
      exact nxt
  -- the sums
  have r25 : ∀ m i σ', i + m = c → (∀ p, p < d → σ' 80 p = nI (fb_sm (fun k => if dgB d c code k = p then q k else 0) i)) → FrC 80 80 σ σ' → V mX2_differenceOf 25 [(0, .ref 75), (1, .ref 7), (2, .int (nI i))] [] σ' Q := by
    intro m
    induction m with
    | zero =>
      intro i σ' hi hs hF
      have hi : i = c := by omega
      subst hi
      refine wpB_sd (stops := [25, 81]) kX2_differenceOf 30 _ _ _ _ ?_
      refine br_t (by rw [hF 75 (by omega), hcn]; exact nI_le (by omega) (by omega)) ?_
      refine ald (n := 4) (j := 0) rfl rfl (by omega) (hs 0 (by omega)) ?_
      refine ald (n := 4) (j := 0) rfl rfl (by omega) (hs 0 (by omega)) ?_
      exact r81 (d - 1) 1 σ' (by omega) (by omega) hs hF
    | succ m ih =>
      intro i σ' hi hs hF
      have hdl := dg_lt (c := c) (code := code) (i := i) hd
      have hb := bqF_le (d := d) (code := code) (p := dgB d c code i) hq hc (show i ≤ c by omega)
      have hqi := hq i (by omega)
      refine wpB_sd (stops := [25]) kX2_differenceOf 30 _ _ _ _ ?_
      refine br_f (by rw [hF 75 (by omega), hcn]; exact nI_ge (by omega) (by omega)) ?_
      refine ald (n := 8) (j := i) rfl rfl (by omega) (v := nI (dgB d c code i)) (by rw [hF 78 (by omega)]; exact ht i (by omega)) ?_
      refine ald (n := 4) (j := dgB d c code i) rfl rfl (by omega) (hs _ hdl) ?_
      refine ald (n := 8) (j := i) rfl rfl (by omega) (v := nI (l i)) (by rw [hF 76 (by omega)]; exact hlk i (by omega)) ?_
      refine ald (n := 24) (j := l i) rfl rfl (hl i (by omega)) (v := nI (q i)) (by rw [hF 11 (by omega)]; exact hqq i (by omega)) ?_
      refine ast (n := 4) (j := dgB d c code i) rfl rfl (by omega) ?_
      have nxt := ih (i + 1) (sgu σ' 80 (dgB d c code i) (nI (fb_sm (fun k => if dgB d c code k = dgB d c code i then q k else 0) i) + nI (q i))) (by omega) (fun p hp => ?_) (fun c hc => by rw [sgu_c (by omega)]; exact hF c hc)
      · rw [← nI_1] at nxt
        exact nxt
      · rw [fb_sm_succ]
        by_cases z : p = dgB d c code i
        · subst z; rw [sgu_s, if_pos rfl]; exact nI_add _ _
        · rw [sgu_k z, if_neg (fun y => z y.symm)]; exact hs p hp
  have r2 : ∀ m i σ', i + m = d → (∀ p, p < i → σ' 80 p = nI 0) → FrC 80 80 σ σ' → V mX2_differenceOf 2 [(0, .ref 75), (1, .ref 7), (2, .int (nI i))] [] σ' Q := by
    intro m
    induction m with
    | zero =>
      intro i σ' hi hs hF
      refine wpB_sd (stops := [2, 25]) kX2_differenceOf 30 _ _ _ _ ?_
      refine br_t (by rw [hF 75 (by omega), hhn]; exact nI_le (by omega) (by omega)) ?_
      exact r25 c 0 σ' (by omega) (fun p hp => hs p (by omega)) hF
    | succ m ih =>
      intro i σ' hi hs hF
      refine wpB_sd (stops := [2]) kX2_differenceOf 30 _ _ _ _ ?_
      refine br_f (by rw [hF 75 (by omega), hhn]; exact nI_ge (by omega) (by omega)) ?_
      refine ast (n := 4) (j := i) rfl rfl (by omega) ?_
      have nxt := ih (i + 1) (sgu σ' 80 i 0) (by omega) (fun p hp => ?_) (fun c hc => by rw [sgu_c (by omega)]; exact hF c hc)
      · rw [← nI_1] at nxt
        exact nxt
      · by_cases z : p = i
        · subst z; rw [sgu_s]; rfl
        · rw [sgu_k z]; exact hs p (by omega)
  refine wpB_sd (stops := [2]) kX2_differenceOf 30 _ _ _ _ ?_
  exact r2 d 0 σ (by omega) (fun p hp => by omega) (fun _ _ => rfl)
end
