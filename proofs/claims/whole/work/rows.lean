section
-- ===== PART A: goes FIRST, ahead of the names: the tables' words, and 'selects' of the private methods out of them =====
/-- a private method of a class that the tables say can be made, by its rows of tables_1 -/
def lw_okq (q : MethodName × Nat) : Prop := (q.1.cls ≠ "java/lang/invoke/MethodHandle" ∧ q.1.cls ≠ "java/lang/invoke/VarHandle") ∧ Cond.instantiable q.1.cls q.2 ∈ tables_1 ∧ Cond.privateMethod q.1 ∈ tables_1 ∧ Cond.instanceMethod q.1 ∈ tables_1
theorem lw_p0 : lw_okq (⟨"DatedJars$Reader", "skipBlanks", "()V"⟩, 6) := ⟨⟨by decide +kernel, by decide +kernel⟩, List.mem_of_getElem? (i := 135) (by decide +kernel), List.mem_of_getElem? (i := 322) (by decide +kernel), List.mem_of_getElem? (i := 323) (by decide +kernel)⟩
theorem lw_p1 : lw_okq (⟨"DatedJars$Reader", "readClause", "(LDatedJars$Land;)V"⟩, 6) := ⟨⟨by decide +kernel, by decide +kernel⟩, List.mem_of_getElem? (i := 135) (by decide +kernel), List.mem_of_getElem? (i := 326) (by decide +kernel), List.mem_of_getElem? (i := 327) (by decide +kernel)⟩
theorem lw_p2 : lw_okq (⟨"DatedJars$Reader", "skipLetters", "()V"⟩, 6) := ⟨⟨by decide +kernel, by decide +kernel⟩, List.mem_of_getElem? (i := 135) (by decide +kernel), List.mem_of_getElem? (i := 330) (by decide +kernel), List.mem_of_getElem? (i := 331) (by decide +kernel)⟩
theorem lw_p3 : lw_okq (⟨"DatedJars$Reader", "wordIs", "(ILjava/lang/String;)Z"⟩, 6) := ⟨⟨by decide +kernel, by decide +kernel⟩, List.mem_of_getElem? (i := 135) (by decide +kernel), List.mem_of_getElem? (i := 335) (by decide +kernel), List.mem_of_getElem? (i := 336) (by decide +kernel)⟩
theorem lw_p4 : lw_okq (⟨"DatedJars$Reader", "readHarvest", "(ILDatedJars$Land;)V"⟩, 6) := ⟨⟨by decide +kernel, by decide +kernel⟩, List.mem_of_getElem? (i := 135) (by decide +kernel), List.mem_of_getElem? (i := 387) (by decide +kernel), List.mem_of_getElem? (i := 388) (by decide +kernel)⟩
theorem lw_p5 : lw_okq (⟨"DatedJars$Reader", "fail", "(II)V"⟩, 6) := ⟨⟨by decide +kernel, by decide +kernel⟩, List.mem_of_getElem? (i := 135) (by decide +kernel), List.mem_of_getElem? (i := 391) (by decide +kernel), List.mem_of_getElem? (i := 392) (by decide +kernel)⟩
theorem lw_p6 : lw_okq (⟨"DatedJars$Reader", "readNumber", "(II)I"⟩, 6) := ⟨⟨by decide +kernel, by decide +kernel⟩, List.mem_of_getElem? (i := 135) (by decide +kernel), List.mem_of_getElem? (i := 395) (by decide +kernel), List.mem_of_getElem? (i := 396) (by decide +kernel)⟩
theorem lw_p7 : lw_okq (⟨"DatedJars$Reader", "nextIs", "(C)Z"⟩, 6) := ⟨⟨by decide +kernel, by decide +kernel⟩, List.mem_of_getElem? (i := 135) (by decide +kernel), List.mem_of_getElem? (i := 403) (by decide +kernel), List.mem_of_getElem? (i := 404) (by decide +kernel)⟩
theorem lw_p8 : lw_okq (⟨"DatedJars$Reader", "readEnd", "()V"⟩, 6) := ⟨⟨by decide +kernel, by decide +kernel⟩, List.mem_of_getElem? (i := 135) (by decide +kernel), List.mem_of_getElem? (i := 407) (by decide +kernel), List.mem_of_getElem? (i := 408) (by decide +kernel)⟩
theorem lw_p9 : lw_okq (⟨"DatedJars$Reader", "readHouse", "(ILDatedJars$Land;)V"⟩, 6) := ⟨⟨by decide +kernel, by decide +kernel⟩, List.mem_of_getElem? (i := 135) (by decide +kernel), List.mem_of_getElem? (i := 412) (by decide +kernel), List.mem_of_getElem? (i := 413) (by decide +kernel)⟩
theorem lw_p10 : lw_okq (⟨"DatedJars$Reader", "readJar", "(ILDatedJars$Land;)V"⟩, 6) := ⟨⟨by decide +kernel, by decide +kernel⟩, List.mem_of_getElem? (i := 135) (by decide +kernel), List.mem_of_getElem? (i := 421) (by decide +kernel), List.mem_of_getElem? (i := 422) (by decide +kernel)⟩
theorem lw_p11 : lw_okq (⟨"DatedJars$Reader", "readKind", "()I"⟩, 6) := ⟨⟨by decide +kernel, by decide +kernel⟩, List.mem_of_getElem? (i := 135) (by decide +kernel), List.mem_of_getElem? (i := 425) (by decide +kernel), List.mem_of_getElem? (i := 426) (by decide +kernel)⟩
theorem lw_p12 : lw_okq (⟨"DatedJars$Land", "burstJars", "()V"⟩, 12) := ⟨⟨by decide +kernel, by decide +kernel⟩, List.mem_of_getElem? (i := 26) (by decide +kernel), List.mem_of_getElem? (i := 548) (by decide +kernel), List.mem_of_getElem? (i := 549) (by decide +kernel)⟩
theorem lw_p13 : lw_okq (⟨"DatedJars$Land", "feedHouse", "(II)I"⟩, 12) := ⟨⟨by decide +kernel, by decide +kernel⟩, List.mem_of_getElem? (i := 26) (by decide +kernel), List.mem_of_getElem? (i := 563) (by decide +kernel), List.mem_of_getElem? (i := 564) (by decide +kernel)⟩
theorem lw_p14 : lw_okq (⟨"DatedJars$Planner", "lookAtYear", "(LDatedJars$Land;II)V"⟩, 8) := ⟨⟨by decide +kernel, by decide +kernel⟩, List.mem_of_getElem? (i := 165) (by decide +kernel), List.mem_of_getElem? (i := 596) (by decide +kernel), List.mem_of_getElem? (i := 597) (by decide +kernel)⟩
theorem lw_p15 : lw_okq (⟨"DatedJars$Planner", "leastHunger", "([II)I"⟩, 8) := ⟨⟨by decide +kernel, by decide +kernel⟩, List.mem_of_getElem? (i := 165) (by decide +kernel), List.mem_of_getElem? (i := 603) (by decide +kernel), List.mem_of_getElem? (i := 604) (by decide +kernel)⟩
def lw_privs_1 : List (MethodName × Nat) := [(⟨"DatedJars$Reader", "skipBlanks", "()V"⟩, 6), (⟨"DatedJars$Reader", "readClause", "(LDatedJars$Land;)V"⟩, 6), (⟨"DatedJars$Reader", "skipLetters", "()V"⟩, 6), (⟨"DatedJars$Reader", "wordIs", "(ILjava/lang/String;)Z"⟩, 6), (⟨"DatedJars$Reader", "readHarvest", "(ILDatedJars$Land;)V"⟩, 6), (⟨"DatedJars$Reader", "fail", "(II)V"⟩, 6), (⟨"DatedJars$Reader", "readNumber", "(II)I"⟩, 6), (⟨"DatedJars$Reader", "nextIs", "(C)Z"⟩, 6), (⟨"DatedJars$Reader", "readEnd", "()V"⟩, 6), (⟨"DatedJars$Reader", "readHouse", "(ILDatedJars$Land;)V"⟩, 6), (⟨"DatedJars$Reader", "readJar", "(ILDatedJars$Land;)V"⟩, 6), (⟨"DatedJars$Reader", "readKind", "()I"⟩, 6), (⟨"DatedJars$Land", "burstJars", "()V"⟩, 12), (⟨"DatedJars$Land", "feedHouse", "(II)I"⟩, 12), (⟨"DatedJars$Planner", "lookAtYear", "(LDatedJars$Land;II)V"⟩, 8), (⟨"DatedJars$Planner", "leastHunger", "([II)I"⟩, 8)]
theorem lw_r1 : ∀ q ∈ lw_privs_1, lw_okq q := List.forall_mem_cons.mpr ⟨lw_p0, List.forall_mem_cons.mpr ⟨lw_p1, List.forall_mem_cons.mpr ⟨lw_p2, List.forall_mem_cons.mpr ⟨lw_p3, List.forall_mem_cons.mpr ⟨lw_p4, List.forall_mem_cons.mpr ⟨lw_p5, List.forall_mem_cons.mpr ⟨lw_p6, List.forall_mem_cons.mpr ⟨lw_p7, List.forall_mem_cons.mpr ⟨lw_p8, List.forall_mem_cons.mpr ⟨lw_p9, List.forall_mem_cons.mpr ⟨lw_p10, List.forall_mem_cons.mpr ⟨lw_p11, List.forall_mem_cons.mpr ⟨lw_p12, List.forall_mem_cons.mpr ⟨lw_p13, List.forall_mem_cons.mpr ⟨lw_p14, List.forall_mem_cons.mpr ⟨lw_p15, fun _ h => absurd h List.not_mem_nil⟩⟩⟩⟩⟩⟩⟩⟩⟩⟩⟩⟩⟩⟩⟩⟩
theorem lw_p16 : lw_okq (⟨"DatedJars$Planner", "hungerWith", "(I[II)I"⟩, 8) := ⟨⟨by decide +kernel, by decide +kernel⟩, List.mem_of_getElem? (i := 165) (by decide +kernel), List.mem_of_getElem? (i := 607) (by decide +kernel), List.mem_of_getElem? (i := 608) (by decide +kernel)⟩
theorem lw_p17 : lw_okq (⟨"DatedJars$Planner", "chooseSets", "(LDatedJars$Land;II)V"⟩, 8) := ⟨⟨by decide +kernel, by decide +kernel⟩, List.mem_of_getElem? (i := 165) (by decide +kernel), List.mem_of_getElem? (i := 611) (by decide +kernel), List.mem_of_getElem? (i := 612) (by decide +kernel)⟩
theorem lw_p18 : lw_okq (⟨"DatedJars$Planner", "firstOf", "([III)I"⟩, 8) := ⟨⟨by decide +kernel, by decide +kernel⟩, List.mem_of_getElem? (i := 165) (by decide +kernel), List.mem_of_getElem? (i := 615) (by decide +kernel), List.mem_of_getElem? (i := 616) (by decide +kernel)⟩
theorem lw_p19 : lw_okq (⟨"DatedJars$Planner", "jarsOf", "(I)I"⟩, 8) := ⟨⟨by decide +kernel, by decide +kernel⟩, List.mem_of_getElem? (i := 165) (by decide +kernel), List.mem_of_getElem? (i := 619) (by decide +kernel), List.mem_of_getElem? (i := 620) (by decide +kernel)⟩
theorem lw_p20 : lw_okq (⟨"DatedJars", "doFirstChange", "(I)Z"⟩, 10) := ⟨⟨by decide +kernel, by decide +kernel⟩, List.mem_of_getElem? (i := 18) (by decide +kernel), List.mem_of_getElem? (i := 632) (by decide +kernel), List.mem_of_getElem? (i := 633) (by decide +kernel)⟩
theorem lw_p21 : lw_okq (⟨"DatedJars", "isBetterChanged", "(III)Z"⟩, 10) := ⟨⟨by decide +kernel, by decide +kernel⟩, List.mem_of_getElem? (i := 18) (by decide +kernel), List.mem_of_getElem? (i := 637) (by decide +kernel), List.mem_of_getElem? (i := 638) (by decide +kernel)⟩
theorem lw_p22 : lw_okq (⟨"DatedJars$Dealer", "countWays", "()I"⟩, 8) := ⟨⟨by decide +kernel, by decide +kernel⟩, List.mem_of_getElem? (i := 200) (by decide +kernel), List.mem_of_getElem? (i := 655) (by decide +kernel), List.mem_of_getElem? (i := 656) (by decide +kernel)⟩
theorem lw_p23 : lw_okq (⟨"DatedJars$Dealer", "differenceOf", "(LDatedJars$Cellar;)I"⟩, 8) := ⟨⟨by decide +kernel, by decide +kernel⟩, List.mem_of_getElem? (i := 200) (by decide +kernel), List.mem_of_getElem? (i := 659) (by decide +kernel), List.mem_of_getElem? (i := 660) (by decide +kernel)⟩
theorem lw_p24 : lw_okq (⟨"DatedJars$Dealer", "nextWay", "()V"⟩, 8) := ⟨⟨by decide +kernel, by decide +kernel⟩, List.mem_of_getElem? (i := 200) (by decide +kernel), List.mem_of_getElem? (i := 666) (by decide +kernel), List.mem_of_getElem? (i := 667) (by decide +kernel)⟩
theorem lw_p25 : lw_okq (⟨"DatedJars", "hungerOfSiege", "(II)I"⟩, 10) := ⟨⟨by decide +kernel, by decide +kernel⟩, List.mem_of_getElem? (i := 18) (by decide +kernel), List.mem_of_getElem? (i := 678) (by decide +kernel), List.mem_of_getElem? (i := 679) (by decide +kernel)⟩
theorem lw_p26 : lw_okq (⟨"DatedJars$Glass", "findContradicted", "(LDatedJars$Cellar;)I"⟩, 4) := ⟨⟨by decide +kernel, by decide +kernel⟩, List.mem_of_getElem? (i := 232) (by decide +kernel), List.mem_of_getElem? (i := 708) (by decide +kernel), List.mem_of_getElem? (i := 709) (by decide +kernel)⟩
theorem lw_p27 : lw_okq (⟨"DatedJarsModel", "here", "()I"⟩, 28) := ⟨⟨by decide +kernel, by decide +kernel⟩, List.mem_of_getElem? (i := 754) (by decide +kernel), List.mem_of_getElem? (i := 860) (by decide +kernel), List.mem_of_getElem? (i := 861) (by decide +kernel)⟩
theorem lw_p28 : lw_okq (⟨"DatedJarsModel", "takeClause", "()V"⟩, 28) := ⟨⟨by decide +kernel, by decide +kernel⟩, List.mem_of_getElem? (i := 754) (by decide +kernel), List.mem_of_getElem? (i := 864) (by decide +kernel), List.mem_of_getElem? (i := 865) (by decide +kernel)⟩
theorem lw_p29 : lw_okq (⟨"DatedJarsModel", "takeWord", "()V"⟩, 28) := ⟨⟨by decide +kernel, by decide +kernel⟩, List.mem_of_getElem? (i := 754) (by decide +kernel), List.mem_of_getElem? (i := 868) (by decide +kernel), List.mem_of_getElem? (i := 869) (by decide +kernel)⟩
theorem lw_p30 : lw_okq (⟨"DatedJarsModel", "isHarvestWord", "()Z"⟩, 28) := ⟨⟨by decide +kernel, by decide +kernel⟩, List.mem_of_getElem? (i := 754) (by decide +kernel), List.mem_of_getElem? (i := 874) (by decide +kernel), List.mem_of_getElem? (i := 875) (by decide +kernel)⟩
theorem lw_p31 : lw_okq (⟨"DatedJarsModel", "isWord", "(IIIIII)Z"⟩, 28) := ⟨⟨by decide +kernel, by decide +kernel⟩, List.mem_of_getElem? (i := 754) (by decide +kernel), List.mem_of_getElem? (i := 878) (by decide +kernel), List.mem_of_getElem? (i := 879) (by decide +kernel)⟩
def lw_privs_2 : List (MethodName × Nat) := [(⟨"DatedJars$Planner", "hungerWith", "(I[II)I"⟩, 8), (⟨"DatedJars$Planner", "chooseSets", "(LDatedJars$Land;II)V"⟩, 8), (⟨"DatedJars$Planner", "firstOf", "([III)I"⟩, 8), (⟨"DatedJars$Planner", "jarsOf", "(I)I"⟩, 8), (⟨"DatedJars", "doFirstChange", "(I)Z"⟩, 10), (⟨"DatedJars", "isBetterChanged", "(III)Z"⟩, 10), (⟨"DatedJars$Dealer", "countWays", "()I"⟩, 8), (⟨"DatedJars$Dealer", "differenceOf", "(LDatedJars$Cellar;)I"⟩, 8), (⟨"DatedJars$Dealer", "nextWay", "()V"⟩, 8), (⟨"DatedJars", "hungerOfSiege", "(II)I"⟩, 10), (⟨"DatedJars$Glass", "findContradicted", "(LDatedJars$Cellar;)I"⟩, 4), (⟨"DatedJarsModel", "here", "()I"⟩, 28), (⟨"DatedJarsModel", "takeClause", "()V"⟩, 28), (⟨"DatedJarsModel", "takeWord", "()V"⟩, 28), (⟨"DatedJarsModel", "isHarvestWord", "()Z"⟩, 28), (⟨"DatedJarsModel", "isWord", "(IIIIII)Z"⟩, 28)]
theorem lw_r2 : ∀ q ∈ lw_privs_2, lw_okq q := List.forall_mem_cons.mpr ⟨lw_p16, List.forall_mem_cons.mpr ⟨lw_p17, List.forall_mem_cons.mpr ⟨lw_p18, List.forall_mem_cons.mpr ⟨lw_p19, List.forall_mem_cons.mpr ⟨lw_p20, List.forall_mem_cons.mpr ⟨lw_p21, List.forall_mem_cons.mpr ⟨lw_p22, List.forall_mem_cons.mpr ⟨lw_p23, List.forall_mem_cons.mpr ⟨lw_p24, List.forall_mem_cons.mpr ⟨lw_p25, List.forall_mem_cons.mpr ⟨lw_p26, List.forall_mem_cons.mpr ⟨lw_p27, List.forall_mem_cons.mpr ⟨lw_p28, List.forall_mem_cons.mpr ⟨lw_p29, List.forall_mem_cons.mpr ⟨lw_p30, List.forall_mem_cons.mpr ⟨lw_p31, fun _ h => absurd h List.not_mem_nil⟩⟩⟩⟩⟩⟩⟩⟩⟩⟩⟩⟩⟩⟩⟩⟩
theorem lw_p32 : lw_okq (⟨"DatedJarsModel", "want", "(ZII)Z"⟩, 28) := ⟨⟨by decide +kernel, by decide +kernel⟩, List.mem_of_getElem? (i := 754) (by decide +kernel), List.mem_of_getElem? (i := 882) (by decide +kernel), List.mem_of_getElem? (i := 883) (by decide +kernel)⟩
theorem lw_p33 : lw_okq (⟨"DatedJarsModel", "takeHarvest", "()V"⟩, 28) := ⟨⟨by decide +kernel, by decide +kernel⟩, List.mem_of_getElem? (i := 754) (by decide +kernel), List.mem_of_getElem? (i := 886) (by decide +kernel), List.mem_of_getElem? (i := 887) (by decide +kernel)⟩
theorem lw_p34 : lw_okq (⟨"DatedJarsModel", "takeNumber", "(II)I"⟩, 28) := ⟨⟨by decide +kernel, by decide +kernel⟩, List.mem_of_getElem? (i := 754) (by decide +kernel), List.mem_of_getElem? (i := 890) (by decide +kernel), List.mem_of_getElem? (i := 891) (by decide +kernel)⟩
theorem lw_p35 : lw_okq (⟨"DatedJarsModel", "takeHouse", "()V"⟩, 28) := ⟨⟨by decide +kernel, by decide +kernel⟩, List.mem_of_getElem? (i := 754) (by decide +kernel), List.mem_of_getElem? (i := 897) (by decide +kernel), List.mem_of_getElem? (i := 898) (by decide +kernel)⟩
theorem lw_p36 : lw_okq (⟨"DatedJarsModel", "takeJar", "()V"⟩, 28) := ⟨⟨by decide +kernel, by decide +kernel⟩, List.mem_of_getElem? (i := 754) (by decide +kernel), List.mem_of_getElem? (i := 901) (by decide +kernel), List.mem_of_getElem? (i := 902) (by decide +kernel)⟩
theorem lw_p37 : lw_okq (⟨"DatedJarsModel", "add", "(IIIIIII)V"⟩, 28) := ⟨⟨by decide +kernel, by decide +kernel⟩, List.mem_of_getElem? (i := 754) (by decide +kernel), List.mem_of_getElem? (i := 905) (by decide +kernel), List.mem_of_getElem? (i := 906) (by decide +kernel)⟩
theorem lw_p38 : lw_okq (⟨"DatedJarsModel", "harvestOf", "(I)I"⟩, 28) := ⟨⟨by decide +kernel, by decide +kernel⟩, List.mem_of_getElem? (i := 754) (by decide +kernel), List.mem_of_getElem? (i := 917) (by decide +kernel), List.mem_of_getElem? (i := 918) (by decide +kernel)⟩
theorem lw_p39 : lw_okq (⟨"DatedJarsModel", "gone", "()I"⟩, 28) := ⟨⟨by decide +kernel, by decide +kernel⟩, List.mem_of_getElem? (i := 754) (by decide +kernel), List.mem_of_getElem? (i := 921) (by decide +kernel), List.mem_of_getElem? (i := 922) (by decide +kernel)⟩
theorem lw_p40 : lw_okq (⟨"DatedJarsModel", "isHouse", "(I)Z"⟩, 28) := ⟨⟨by decide +kernel, by decide +kernel⟩, List.mem_of_getElem? (i := 754) (by decide +kernel), List.mem_of_getElem? (i := 929) (by decide +kernel), List.mem_of_getElem? (i := 930) (by decide +kernel)⟩
theorem lw_p41 : lw_okq (⟨"DatedJarsModel", "jarsOf", "(IZ)I"⟩, 28) := ⟨⟨by decide +kernel, by decide +kernel⟩, List.mem_of_getElem? (i := 754) (by decide +kernel), List.mem_of_getElem? (i := 934) (by decide +kernel), List.mem_of_getElem? (i := 935) (by decide +kernel)⟩
theorem lw_p42 : lw_okq (⟨"DatedJarsModel", "may", "(III)Z"⟩, 28) := ⟨⟨by decide +kernel, by decide +kernel⟩, List.mem_of_getElem? (i := 754) (by decide +kernel), List.mem_of_getElem? (i := 938) (by decide +kernel), List.mem_of_getElem? (i := 939) (by decide +kernel)⟩
theorem lw_p43 : lw_okq (⟨"DatedJarsModel", "mayBe", "(III)Z"⟩, 28) := ⟨⟨by decide +kernel, by decide +kernel⟩, List.mem_of_getElem? (i := 754) (by decide +kernel), List.mem_of_getElem? (i := 942) (by decide +kernel), List.mem_of_getElem? (i := 943) (by decide +kernel)⟩
theorem lw_p44 : lw_okq (⟨"DatedJarsModel", "isJar", "(I)Z"⟩, 28) := ⟨⟨by decide +kernel, by decide +kernel⟩, List.mem_of_getElem? (i := 754) (by decide +kernel), List.mem_of_getElem? (i := 953) (by decide +kernel), List.mem_of_getElem? (i := 954) (by decide +kernel)⟩
theorem lw_p45 : lw_okq (⟨"DatedJarsModel", "filled", "(III)I"⟩, 28) := ⟨⟨by decide +kernel, by decide +kernel⟩, List.mem_of_getElem? (i := 754) (by decide +kernel), List.mem_of_getElem? (i := 957) (by decide +kernel), List.mem_of_getElem? (i := 958) (by decide +kernel)⟩
theorem lw_p46 : lw_okq (⟨"DatedJarsModel", "clearHungers", "()V"⟩, 28) := ⟨⟨by decide +kernel, by decide +kernel⟩, List.mem_of_getElem? (i := 754) (by decide +kernel), List.mem_of_getElem? (i := 990) (by decide +kernel), List.mem_of_getElem? (i := 991) (by decide +kernel)⟩
theorem lw_p47 : lw_okq (⟨"DatedJarsModel", "pass", "(I)V"⟩, 28) := ⟨⟨by decide +kernel, by decide +kernel⟩, List.mem_of_getElem? (i := 754) (by decide +kernel), List.mem_of_getElem? (i := 994) (by decide +kernel), List.mem_of_getElem? (i := 995) (by decide +kernel)⟩
def lw_privs_3 : List (MethodName × Nat) := [(⟨"DatedJarsModel", "want", "(ZII)Z"⟩, 28), (⟨"DatedJarsModel", "takeHarvest", "()V"⟩, 28), (⟨"DatedJarsModel", "takeNumber", "(II)I"⟩, 28), (⟨"DatedJarsModel", "takeHouse", "()V"⟩, 28), (⟨"DatedJarsModel", "takeJar", "()V"⟩, 28), (⟨"DatedJarsModel", "add", "(IIIIIII)V"⟩, 28), (⟨"DatedJarsModel", "harvestOf", "(I)I"⟩, 28), (⟨"DatedJarsModel", "gone", "()I"⟩, 28), (⟨"DatedJarsModel", "isHouse", "(I)Z"⟩, 28), (⟨"DatedJarsModel", "jarsOf", "(IZ)I"⟩, 28), (⟨"DatedJarsModel", "may", "(III)Z"⟩, 28), (⟨"DatedJarsModel", "mayBe", "(III)Z"⟩, 28), (⟨"DatedJarsModel", "isJar", "(I)Z"⟩, 28), (⟨"DatedJarsModel", "filled", "(III)I"⟩, 28), (⟨"DatedJarsModel", "clearHungers", "()V"⟩, 28), (⟨"DatedJarsModel", "pass", "(I)V"⟩, 28)]
theorem lw_r3 : ∀ q ∈ lw_privs_3, lw_okq q := List.forall_mem_cons.mpr ⟨lw_p32, List.forall_mem_cons.mpr ⟨lw_p33, List.forall_mem_cons.mpr ⟨lw_p34, List.forall_mem_cons.mpr ⟨lw_p35, List.forall_mem_cons.mpr ⟨lw_p36, List.forall_mem_cons.mpr ⟨lw_p37, List.forall_mem_cons.mpr ⟨lw_p38, List.forall_mem_cons.mpr ⟨lw_p39, List.forall_mem_cons.mpr ⟨lw_p40, List.forall_mem_cons.mpr ⟨lw_p41, List.forall_mem_cons.mpr ⟨lw_p42, List.forall_mem_cons.mpr ⟨lw_p43, List.forall_mem_cons.mpr ⟨lw_p44, List.forall_mem_cons.mpr ⟨lw_p45, List.forall_mem_cons.mpr ⟨lw_p46, List.forall_mem_cons.mpr ⟨lw_p47, fun _ h => absurd h List.not_mem_nil⟩⟩⟩⟩⟩⟩⟩⟩⟩⟩⟩⟩⟩⟩⟩⟩
theorem lw_p48 : lw_okq (⟨"DatedJarsModel", "eat", "(III)I"⟩, 28) := ⟨⟨by decide +kernel, by decide +kernel⟩, List.mem_of_getElem? (i := 754) (by decide +kernel), List.mem_of_getElem? (i := 998) (by decide +kernel), List.mem_of_getElem? (i := 999) (by decide +kernel)⟩
theorem lw_p49 : lw_okq (⟨"DatedJarsModel", "firstToOpen", "(II)I"⟩, 28) := ⟨⟨by decide +kernel, by decide +kernel⟩, List.mem_of_getElem? (i := 754) (by decide +kernel), List.mem_of_getElem? (i := 1002) (by decide +kernel), List.mem_of_getElem? (i := 1003) (by decide +kernel)⟩
theorem lw_p50 : lw_okq (⟨"DatedJarsModel", "hunger", "(III)V"⟩, 28) := ⟨⟨by decide +kernel, by decide +kernel⟩, List.mem_of_getElem? (i := 754) (by decide +kernel), List.mem_of_getElem? (i := 1006) (by decide +kernel), List.mem_of_getElem? (i := 1007) (by decide +kernel)⟩
theorem lw_p51 : lw_okq (⟨"DatedJarsModel", "allHungers", "()I"⟩, 28) := ⟨⟨by decide +kernel, by decide +kernel⟩, List.mem_of_getElem? (i := 754) (by decide +kernel), List.mem_of_getElem? (i := 1011) (by decide +kernel), List.mem_of_getElem? (i := 1012) (by decide +kernel)⟩
theorem lw_p52 : lw_okq (⟨"DatedJarsModel", "draw", "(I)I"⟩, 28) := ⟨⟨by decide +kernel, by decide +kernel⟩, List.mem_of_getElem? (i := 754) (by decide +kernel), List.mem_of_getElem? (i := 1019) (by decide +kernel), List.mem_of_getElem? (i := 1020) (by decide +kernel)⟩
theorem lw_p53 : lw_okq (⟨"DatedJarsModel", "findOwn", "(I)V"⟩, 28) := ⟨⟨by decide +kernel, by decide +kernel⟩, List.mem_of_getElem? (i := 754) (by decide +kernel), List.mem_of_getElem? (i := 1033) (by decide +kernel), List.mem_of_getElem? (i := 1034) (by decide +kernel)⟩
theorem lw_p54 : lw_okq (⟨"DatedJarsModel", "findPlan", "(II)V"⟩, 28) := ⟨⟨by decide +kernel, by decide +kernel⟩, List.mem_of_getElem? (i := 754) (by decide +kernel), List.mem_of_getElem? (i := 1037) (by decide +kernel), List.mem_of_getElem? (i := 1038) (by decide +kernel)⟩
theorem lw_p55 : lw_okq (⟨"DatedJarsModel", "inSet", "(II)I"⟩, 28) := ⟨⟨by decide +kernel, by decide +kernel⟩, List.mem_of_getElem? (i := 754) (by decide +kernel), List.mem_of_getElem? (i := 1042) (by decide +kernel), List.mem_of_getElem? (i := 1043) (by decide +kernel)⟩
theorem lw_p56 : lw_okq (⟨"DatedJarsModel", "hungerBy", "(III)I"⟩, 28) := ⟨⟨by decide +kernel, by decide +kernel⟩, List.mem_of_getElem? (i := 754) (by decide +kernel), List.mem_of_getElem? (i := 1049) (by decide +kernel), List.mem_of_getElem? (i := 1050) (by decide +kernel)⟩
theorem lw_p57 : lw_okq (⟨"DatedJarsModel", "copy", "(II)V"⟩, 28) := ⟨⟨by decide +kernel, by decide +kernel⟩, List.mem_of_getElem? (i := 754) (by decide +kernel), List.mem_of_getElem? (i := 1058) (by decide +kernel), List.mem_of_getElem? (i := 1059) (by decide +kernel)⟩
theorem lw_p58 : lw_okq (⟨"DatedJarsModel", "try_", "(I)V"⟩, 28) := ⟨⟨by decide +kernel, by decide +kernel⟩, List.mem_of_getElem? (i := 754) (by decide +kernel), List.mem_of_getElem? (i := 1062) (by decide +kernel), List.mem_of_getElem? (i := 1063) (by decide +kernel)⟩
theorem lw_p59 : lw_okq (⟨"DatedJarsModel", "changeFirst", "(I)Z"⟩, 28) := ⟨⟨by decide +kernel, by decide +kernel⟩, List.mem_of_getElem? (i := 754) (by decide +kernel), List.mem_of_getElem? (i := 1070) (by decide +kernel), List.mem_of_getElem? (i := 1071) (by decide +kernel)⟩
theorem lw_p60 : lw_okq (⟨"DatedJarsModel", "changes", "(III)Z"⟩, 28) := ⟨⟨by decide +kernel, by decide +kernel⟩, List.mem_of_getElem? (i := 754) (by decide +kernel), List.mem_of_getElem? (i := 1074) (by decide +kernel), List.mem_of_getElem? (i := 1075) (by decide +kernel)⟩
theorem lw_p61 : lw_okq (⟨"DatedJarsModel", "offBy", "(II)I"⟩, 28) := ⟨⟨by decide +kernel, by decide +kernel⟩, List.mem_of_getElem? (i := 754) (by decide +kernel), List.mem_of_getElem? (i := 1082) (by decide +kernel), List.mem_of_getElem? (i := 1083) (by decide +kernel)⟩
theorem lw_p62 : lw_okq (⟨"DatedJarsModel", "other", "(II)I"⟩, 28) := ⟨⟨by decide +kernel, by decide +kernel⟩, List.mem_of_getElem? (i := 754) (by decide +kernel), List.mem_of_getElem? (i := 1086) (by decide +kernel), List.mem_of_getElem? (i := 1087) (by decide +kernel)⟩
theorem lw_p63 : lw_okq (⟨"DatedJarsModel", "siegeOf", "(II)I"⟩, 28) := ⟨⟨by decide +kernel, by decide +kernel⟩, List.mem_of_getElem? (i := 754) (by decide +kernel), List.mem_of_getElem? (i := 1094) (by decide +kernel), List.mem_of_getElem? (i := 1095) (by decide +kernel)⟩
def lw_privs_4 : List (MethodName × Nat) := [(⟨"DatedJarsModel", "eat", "(III)I"⟩, 28), (⟨"DatedJarsModel", "firstToOpen", "(II)I"⟩, 28), (⟨"DatedJarsModel", "hunger", "(III)V"⟩, 28), (⟨"DatedJarsModel", "allHungers", "()I"⟩, 28), (⟨"DatedJarsModel", "draw", "(I)I"⟩, 28), (⟨"DatedJarsModel", "findOwn", "(I)V"⟩, 28), (⟨"DatedJarsModel", "findPlan", "(II)V"⟩, 28), (⟨"DatedJarsModel", "inSet", "(II)I"⟩, 28), (⟨"DatedJarsModel", "hungerBy", "(III)I"⟩, 28), (⟨"DatedJarsModel", "copy", "(II)V"⟩, 28), (⟨"DatedJarsModel", "try_", "(I)V"⟩, 28), (⟨"DatedJarsModel", "changeFirst", "(I)Z"⟩, 28), (⟨"DatedJarsModel", "changes", "(III)Z"⟩, 28), (⟨"DatedJarsModel", "offBy", "(II)I"⟩, 28), (⟨"DatedJarsModel", "other", "(II)I"⟩, 28), (⟨"DatedJarsModel", "siegeOf", "(II)I"⟩, 28)]
theorem lw_r4 : ∀ q ∈ lw_privs_4, lw_okq q := List.forall_mem_cons.mpr ⟨lw_p48, List.forall_mem_cons.mpr ⟨lw_p49, List.forall_mem_cons.mpr ⟨lw_p50, List.forall_mem_cons.mpr ⟨lw_p51, List.forall_mem_cons.mpr ⟨lw_p52, List.forall_mem_cons.mpr ⟨lw_p53, List.forall_mem_cons.mpr ⟨lw_p54, List.forall_mem_cons.mpr ⟨lw_p55, List.forall_mem_cons.mpr ⟨lw_p56, List.forall_mem_cons.mpr ⟨lw_p57, List.forall_mem_cons.mpr ⟨lw_p58, List.forall_mem_cons.mpr ⟨lw_p59, List.forall_mem_cons.mpr ⟨lw_p60, List.forall_mem_cons.mpr ⟨lw_p61, List.forall_mem_cons.mpr ⟨lw_p62, List.forall_mem_cons.mpr ⟨lw_p63, fun _ h => absurd h List.not_mem_nil⟩⟩⟩⟩⟩⟩⟩⟩⟩⟩⟩⟩⟩⟩⟩⟩
def lw_privs : List (MethodName × Nat) := lw_privs_1 ++ (lw_privs_2 ++ (lw_privs_3 ++ (lw_privs_4)))
def lw_tbl : List Cond := k2_sels lw_privs ++ tables_1
theorem lw_privs_ok : ∀ q ∈ lw_privs, lw_okq q := by
  show ∀ q ∈ lw_privs_1 ++ (lw_privs_2 ++ (lw_privs_3 ++ (lw_privs_4))), lw_okq q
  exact List.forall_mem_append.mpr ⟨lw_r1, List.forall_mem_append.mpr ⟨lw_r2, List.forall_mem_append.mpr ⟨lw_r3, lw_r4⟩⟩⟩
end
section
/-! ===== BEGIN words of one list among another's, by their places ===== -/
theorem goodIn_r {big : List Cond} (ws : List Cond) (ps : List Nat) (hp : ws = ps.filterMap (fun i => big[i]?)) (h : ws.all goodWord = true) : GoodIn big ws := by
  intro w hw
  have h1 := List.all_eq_true.mp h w hw
  rw [hp] at hw
  obtain ⟨i, -, hi⟩ := List.mem_filterMap.mp hw
  have hm : w ∈ big := by first | exact List.mem_of_getElem? hi | exact List.getElem?_mem hi
  exact ⟨hm, good_of_word h1⟩
theorem goodIn_app {big a b : List Cond} (ha : GoodIn big a) (hb : GoodIn big b) : GoodIn big (a ++ b) := fun w h => (List.mem_append.mp h).elim (ha w) (hb w)
theorem goodIn_ca {big a b : List Cond} {c : Cond} (ha : GoodIn big (c :: a)) (hb : GoodIn big b) : GoodIn big (c :: (a ++ b)) := fun w h => (List.mem_cons.mp h).elim (fun e => ha w (List.mem_cons.mpr (Or.inl e))) (fun h => (List.mem_append.mp h).elim (fun h => ha w (List.mem_cons.mpr (Or.inr h))) (hb w))
theorem goodIn_sub {big ws : List Cond} (hm : ∀ w ∈ ws, w ∈ big) (h : ws.all goodWord = true) : GoodIn big ws := fun w hw => ⟨hm w hw, good_of_word (List.all_eq_true.mp h w hw)⟩
/-! ===== END ===== -/
/-! ===== BEGIN printed: names, fields, word lists, decode rows ===== -/
def RX0 : String := "DatedJars$Book"
def TX0 : u_T := fun k => match k with
  | 0 => ("DatedJars$Book", "count", "I", false)
  | 1 => ("DatedJars$Book", "years", "[I", true)
  | _ => ("DatedJars$Book", "jars", "[I", true)
def tyX0 : Nat → FieldType := fun k => match k with
  | 0 => .int
  | 1 => .array .int
  | _ => .array .int
abbrev wsX00 : List Cond := u_ws RX0 TX0 3
theorem nmX0 : ∀ a, a < 3 → ∀ b, b < 3 → a ≠ b → (TX0 a).2.1 ≠ (TX0 b).2.1 := by decide +kernel
theorem tyX0_ok : ∀ k, k < 3 → parseFieldDescriptor (TX0 k).2.2.1 = some (tyX0 k) := by decide +kernel
abbrev cX0_init : ByteArray := prog_2_method_1_code
def yX0_init : MethodName := ⟨RX0, "<init>", "()V"⟩
abbrev cX0_add : ByteArray := prog_2_method_2_code
def yX0_add : MethodName := ⟨RX0, "add", "(II)I"⟩
abbrev cX0_firstWrong : ByteArray := prog_2_method_3_code
def yX0_firstWrong : MethodName := ⟨RX0, "firstWrong", "(LDatedJars$Cellar;I)I"⟩
def RX1 : String := "DatedJars$Cellar"
def TX1 : u_T := fun k => match k with
  | 0 => ("DatedJars$Cellar", "count", "I", false)
  | 1 => ("DatedJars$Cellar", "kind", "[I", true)
  | 2 => ("DatedJars$Cellar", "owner", "[I", true)
  | 3 => ("DatedJars$Cellar", "date", "[I", true)
  | 4 => ("DatedJars$Cellar", "quantity", "[I", true)
  | 5 => ("DatedJars$Cellar", "keeps", "[I", true)
  | 6 => ("DatedJars$Cellar", "sealedIn", "[I", true)
  | _ => ("DatedJars$Cellar", "gone", "I", false)
def tyX1 : Nat → FieldType := fun k => match k with
  | 0 => .int
  | 1 => .array .int
  | 2 => .array .int
  | 3 => .array .int
  | 4 => .array .int
  | 5 => .array .int
  | 6 => .array .int
  | _ => .int
abbrev wsX10 : List Cond := u_ws RX1 TX1 8
theorem nmX1 : ∀ a, a < 8 → ∀ b, b < 8 → a ≠ b → (TX1 a).2.1 ≠ (TX1 b).2.1 := by decide +kernel
theorem tyX1_ok : ∀ k, k < 8 → parseFieldDescriptor (TX1 k).2.2.1 = some (tyX1 k) := by decide +kernel
abbrev cX1_init : ByteArray := prog_3_method_1_code
def yX1_init : MethodName := ⟨RX1, "<init>", "()V"⟩
abbrev cX1_copyFrom : ByteArray := prog_3_method_2_code
def yX1_copyFrom : MethodName := ⟨RX1, "copyFrom", "(LDatedJars$Cellar;)V"⟩
abbrev cX1_has : ByteArray := prog_3_method_3_code
def yX1_has : MethodName := ⟨RX1, "has", "(I)Z"⟩
abbrev cX1_isFull : ByteArray := prog_3_method_4_code
def yX1_isFull : MethodName := ⟨RX1, "isFull", "()Z"⟩
abbrev cX1_add : ByteArray := prog_3_method_5_code
def yX1_add : MethodName := ⟨RX1, "add", "(IIIIII)V"⟩
abbrev cX1_ageOf : ByteArray := prog_3_method_6_code
def yX1_ageOf : MethodName := ⟨RX1, "ageOf", "(II)I"⟩
abbrev cX1_filledIn : ByteArray := prog_3_method_7_code
def yX1_filledIn : MethodName := ⟨RX1, "filledIn", "(II)I"⟩
abbrev cX1_mayBeOpened : ByteArray := prog_3_method_8_code
def yX1_mayBeOpened : MethodName := ⟨RX1, "mayBeOpened", "(III)Z"⟩
abbrev cX1_isGone : ByteArray := prog_3_method_9_code
def yX1_isGone : MethodName := ⟨RX1, "isGone", "(I)Z"⟩
abbrev cX1_isOf : ByteArray := prog_3_method_10_code
def yX1_isOf : MethodName := ⟨RX1, "isOf", "(II)Z"⟩
abbrev cX1_takeOut : ByteArray := prog_3_method_11_code
def yX1_takeOut : MethodName := ⟨RX1, "takeOut", "(II)I"⟩
abbrev cX1_firstToOpen : ByteArray := prog_3_method_12_code
def yX1_firstToOpen : MethodName := ⟨RX1, "firstToOpen", "(III)I"⟩
abbrev cX1_swapOwners : ByteArray := prog_3_method_13_code
def yX1_swapOwners : MethodName := ⟨RX1, "swapOwners", "(II)V"⟩
abbrev cX1_setOf : ByteArray := prog_3_method_14_code
def yX1_setOf : MethodName := ⟨RX1, "setOf", "(I)I"⟩
abbrev cX1_setToOpen : ByteArray := prog_3_method_15_code
def yX1_setToOpen : MethodName := ⟨RX1, "setToOpen", "(III)I"⟩
abbrev cX1_lookAt : ByteArray := prog_3_method_16_code
def yX1_lookAt : MethodName := ⟨RX1, "lookAt", "(I[I)I"⟩
def RX2 : String := "DatedJars$Dealer"
def TX2 : u_T := fun k => match k with
  | 0 => ("DatedJars$Dealer", "looked", "[I", true)
  | 1 => ("DatedJars$Dealer", "count", "I", false)
  | 2 => ("DatedJars$Dealer", "heirs", "[I", true)
  | 3 => ("DatedJars$Dealer", "heirCount", "I", false)
  | 4 => ("DatedJars$Dealer", "tried", "[I", true)
  | 5 => ("DatedJars$Dealer", "best", "[I", true)
  | 6 => ("DatedJars$Dealer", "sums", "[I", true)
  | _ => ("DatedJars$Dealer", "leastDifference", "I", false)
def tyX2 : Nat → FieldType := fun k => match k with
  | 0 => .array .int
  | 1 => .int
  | 2 => .array .int
  | 3 => .int
  | 4 => .array .int
  | 5 => .array .int
  | 6 => .array .int
  | _ => .int
abbrev wsX20 : List Cond := u_ws RX2 TX2 8
theorem nmX2 : ∀ a, a < 8 → ∀ b, b < 8 → a ≠ b → (TX2 a).2.1 ≠ (TX2 b).2.1 := by decide +kernel
theorem tyX2_ok : ∀ k, k < 8 → parseFieldDescriptor (TX2 k).2.2.1 = some (tyX2 k) := by decide +kernel
abbrev cX2_init : ByteArray := prog_4_method_1_code
def yX2_init : MethodName := ⟨RX2, "<init>", "()V"⟩
abbrev cX2_deal : ByteArray := prog_4_method_2_code
def yX2_deal : MethodName := ⟨RX2, "deal", "(LDatedJars$Land;I)V"⟩
abbrev cX2_heirOf : ByteArray := prog_4_method_3_code
def yX2_heirOf : MethodName := ⟨RX2, "heirOf", "(I)I"⟩
abbrev cX2_countWays : ByteArray := prog_4_method_4_code
def yX2_countWays : MethodName := ⟨RX2, "countWays", "()I"⟩
abbrev cX2_nextWay : ByteArray := prog_4_method_5_code
def yX2_nextWay : MethodName := ⟨RX2, "nextWay", "()V"⟩
abbrev cX2_differenceOf : ByteArray := prog_4_method_6_code
def yX2_differenceOf : MethodName := ⟨RX2, "differenceOf", "(LDatedJars$Cellar;)I"⟩
def RX3 : String := "DatedJars$Glass"
def TX3 : u_T := fun k => match k with
  | 0 => ("DatedJars$Glass", "count", "I", false)
  | 1 => ("DatedJars$Glass", "elder", "[I", true)
  | 2 => ("DatedJars$Glass", "younger", "[I", true)
  | _ => ("DatedJars$Glass", "contradicted", "[I", true)
def tyX3 : Nat → FieldType := fun k => match k with
  | 0 => .int
  | 1 => .array .int
  | 2 => .array .int
  | _ => .array .int
abbrev wsX30 : List Cond := u_ws RX3 TX3 4
theorem nmX3 : ∀ a, a < 4 → ∀ b, b < 4 → a ≠ b → (TX3 a).2.1 ≠ (TX3 b).2.1 := by decide +kernel
theorem tyX3_ok : ∀ k, k < 4 → parseFieldDescriptor (TX3 k).2.2.1 = some (tyX3 k) := by decide +kernel
abbrev cX3_init : ByteArray := prog_5_method_1_code
def yX3_init : MethodName := ⟨RX3, "<init>", "()V"⟩
abbrev cX3_add : ByteArray := prog_5_method_2_code
def yX3_add : MethodName := ⟨RX3, "add", "(II)I"⟩
abbrev cX3_fewestForged : ByteArray := prog_5_method_3_code
def yX3_fewestForged : MethodName := ⟨RX3, "fewestForged", "(LDatedJars$Cellar;)I"⟩
abbrev cX3_findContradicted : ByteArray := prog_5_method_4_code
def yX3_findContradicted : MethodName := ⟨RX3, "findContradicted", "(LDatedJars$Cellar;)I"⟩
def RX4 : String := "DatedJars$Land"
def TX4 : u_T := fun k => match k with
  | 0 => ("DatedJars$Land", "houses", "I", false)
  | 1 => ("DatedJars$Land", "want", "[I", true)
  | 2 => ("DatedJars$Land", "seals", "[I", true)
  | 3 => ("DatedJars$Land", "stock", "[I", true)
  | 4 => ("DatedJars$Land", "missed", "[I", true)
  | 5 => ("DatedJars$Land", "harvests", "I", false)
  | 6 => ("DatedJars$Land", "harvest", "[I", true)
  | 7 => ("DatedJars$Land", "year", "I", false)
  | 8 => ("DatedJars$Land", "hunger", "I", false)
  | 9 => ("DatedJars$Land", "law", "I", false)
  | 10 => ("DatedJars$Land", "seed", "I", false)
  | _ => ("DatedJars$Land", "cellar", "LDatedJars$Cellar;", true)
def tyX4 : Nat → FieldType := fun k => match k with
  | 0 => .int
  | 1 => .array .int
  | 2 => .array .int
  | 3 => .array .int
  | 4 => .array .int
  | 5 => .int
  | 6 => .array .int
  | 7 => .int
  | 8 => .int
  | 9 => .int
  | 10 => .int
  | _ => .object "DatedJars$Cellar"
abbrev wsX40 : List Cond := u_ws RX4 TX4 12
theorem nmX4 : ∀ a, a < 12 → ∀ b, b < 12 → a ≠ b → (TX4 a).2.1 ≠ (TX4 b).2.1 := by decide +kernel
theorem tyX4_ok : ∀ k, k < 12 → parseFieldDescriptor (TX4 k).2.2.1 = some (tyX4 k) := by decide +kernel
abbrev cX4_init : ByteArray := prog_6_method_1_code
def yX4_init : MethodName := ⟨RX4, "<init>", "()V"⟩
abbrev cX4_clear : ByteArray := prog_6_method_2_code
def yX4_clear : MethodName := ⟨RX4, "clear", "()V"⟩
abbrev cX4_copyFrom : ByteArray := prog_6_method_3_code
def yX4_copyFrom : MethodName := ⟨RX4, "copyFrom", "(LDatedJars$Land;)V"⟩
abbrev cX4_hasHouse : ByteArray := prog_6_method_4_code
def yX4_hasHouse : MethodName := ⟨RX4, "hasHouse", "(I)Z"⟩
abbrev cX4_addHouse : ByteArray := prog_6_method_5_code
def yX4_addHouse : MethodName := ⟨RX4, "addHouse", "(II)V"⟩
abbrev cX4_addHarvest : ByteArray := prog_6_method_6_code
def yX4_addHarvest : MethodName := ⟨RX4, "addHarvest", "(I)V"⟩
abbrev cX4_harvestOf : ByteArray := prog_6_method_7_code
def yX4_harvestOf : MethodName := ⟨RX4, "harvestOf", "(I)I"⟩
abbrev cX4_besiege : ByteArray := prog_6_method_8_code
def yX4_besiege : MethodName := ⟨RX4, "besiege", "()V"⟩
abbrev cX4_drawOf : ByteArray := prog_6_method_9_code
def yX4_drawOf : MethodName := ⟨RX4, "drawOf", "(I)I"⟩
abbrev cX4_passYears : ByteArray := prog_6_method_10_code
def yX4_passYears : MethodName := ⟨RX4, "passYears", "(IZ)I"⟩
abbrev cX4_burstJars : ByteArray := prog_6_method_11_code
def yX4_burstJars : MethodName := ⟨RX4, "burstJars", "()V"⟩
abbrev cX4_feedHouse : ByteArray := prog_6_method_12_code
def yX4_feedHouse : MethodName := ⟨RX4, "feedHouse", "(II)I"⟩
def RX5 : String := "DatedJars$Planner"
def TX5 : u_T := fun k => match k with
  | 0 => ("DatedJars$Planner", "looked", "[I", true)
  | 1 => ("DatedJars$Planner", "count", "I", false)
  | 2 => ("DatedJars$Planner", "leastFrom", "[[I", true)
  | 3 => ("DatedJars$Planner", "filled", "[I", true)
  | 4 => ("DatedJars$Planner", "mayOpen", "I", false)
  | 5 => ("DatedJars$Planner", "missing", "I", false)
  | 6 => ("DatedJars$Planner", "opened", "[I", true)
  | _ => ("DatedJars$Planner", "hunger", "I", false)
def tyX5 : Nat → FieldType := fun k => match k with
  | 0 => .array .int
  | 1 => .int
  | 2 => .array (.array .int)
  | 3 => .array .int
  | 4 => .int
  | 5 => .int
  | 6 => .array .int
  | _ => .int
abbrev wsX50 : List Cond := u_ws RX5 TX5 8
theorem nmX5 : ∀ a, a < 8 → ∀ b, b < 8 → a ≠ b → (TX5 a).2.1 ≠ (TX5 b).2.1 := by decide +kernel
theorem tyX5_ok : ∀ k, k < 8 → parseFieldDescriptor (TX5 k).2.2.1 = some (tyX5 k) := by decide +kernel
abbrev cX5_init : ByteArray := prog_7_method_1_code
def yX5_init : MethodName := ⟨RX5, "<init>", "()V"⟩
abbrev cX5_find : ByteArray := prog_7_method_2_code
def yX5_find : MethodName := ⟨RX5, "find", "(LDatedJars$Land;II)V"⟩
abbrev cX5_chooseSets : ByteArray := prog_7_method_3_code
def yX5_chooseSets : MethodName := ⟨RX5, "chooseSets", "(LDatedJars$Land;II)V"⟩
abbrev cX5_lookAtYear : ByteArray := prog_7_method_4_code
def yX5_lookAtYear : MethodName := ⟨RX5, "lookAtYear", "(LDatedJars$Land;II)V"⟩
abbrev cX5_hungerWith : ByteArray := prog_7_method_5_code
def yX5_hungerWith : MethodName := ⟨RX5, "hungerWith", "(I[II)I"⟩
abbrev cX5_leastHunger : ByteArray := prog_7_method_6_code
def yX5_leastHunger : MethodName := ⟨RX5, "leastHunger", "([II)I"⟩
abbrev cX5_firstOf : ByteArray := prog_7_method_7_code
def yX5_firstOf : MethodName := ⟨RX5, "firstOf", "([III)I"⟩
abbrev cX5_jarsOf : ByteArray := prog_7_method_8_code
def yX5_jarsOf : MethodName := ⟨RX5, "jarsOf", "(I)I"⟩
def RX6 : String := "DatedJars$Reader"
def TX6 : u_T := fun k => match k with
  | 0 => ("DatedJars$Reader", "text", "[B", true)
  | 1 => ("DatedJars$Reader", "length", "I", false)
  | 2 => ("DatedJars$Reader", "at", "I", false)
  | 3 => ("DatedJars$Reader", "faultNumber", "I", false)
  | 4 => ("DatedJars$Reader", "faultByte", "I", false)
  | _ => ("DatedJars$Reader", "harvestTold", "Z", false)
def tyX6 : Nat → FieldType := fun k => match k with
  | 0 => .array .byte
  | 1 => .int
  | 2 => .int
  | 3 => .int
  | 4 => .int
  | _ => .boolean
abbrev wsX60 : List Cond := u_ws RX6 TX6 6
theorem nmX6 : ∀ a, a < 6 → ∀ b, b < 6 → a ≠ b → (TX6 a).2.1 ≠ (TX6 b).2.1 := by decide +kernel
theorem tyX6_ok : ∀ k, k < 6 → parseFieldDescriptor (TX6 k).2.2.1 = some (tyX6 k) := by decide +kernel
abbrev cX6_init : ByteArray := prog_8_method_1_code
def yX6_init : MethodName := ⟨RX6, "<init>", "()V"⟩
abbrev cX6_addBytes : ByteArray := prog_8_method_2_code
def yX6_addBytes : MethodName := ⟨RX6, "addBytes", "(IJ)I"⟩
abbrev cX6_readText : ByteArray := prog_8_method_3_code
def yX6_readText : MethodName := ⟨RX6, "readText", "(LDatedJars$Land;)Z"⟩
abbrev cX6_readClause : ByteArray := prog_8_method_4_code
def yX6_readClause : MethodName := ⟨RX6, "readClause", "(LDatedJars$Land;)V"⟩
abbrev cX6_readHarvest : ByteArray := prog_8_method_5_code
def yX6_readHarvest : MethodName := ⟨RX6, "readHarvest", "(ILDatedJars$Land;)V"⟩
abbrev cX6_readHouse : ByteArray := prog_8_method_6_code
def yX6_readHouse : MethodName := ⟨RX6, "readHouse", "(ILDatedJars$Land;)V"⟩
abbrev cX6_readJar : ByteArray := prog_8_method_7_code
def yX6_readJar : MethodName := ⟨RX6, "readJar", "(ILDatedJars$Land;)V"⟩
abbrev cX6_readKind : ByteArray := prog_8_method_8_code
def yX6_readKind : MethodName := ⟨RX6, "readKind", "()I"⟩
abbrev cX6_readNumber : ByteArray := prog_8_method_9_code
def yX6_readNumber : MethodName := ⟨RX6, "readNumber", "(II)I"⟩
abbrev cX6_readEnd : ByteArray := prog_8_method_10_code
def yX6_readEnd : MethodName := ⟨RX6, "readEnd", "()V"⟩
abbrev cX6_nextIs : ByteArray := prog_8_method_11_code
def yX6_nextIs : MethodName := ⟨RX6, "nextIs", "(C)Z"⟩
abbrev cX6_skipBlanks : ByteArray := prog_8_method_12_code
def yX6_skipBlanks : MethodName := ⟨RX6, "skipBlanks", "()V"⟩
abbrev cX6_skipLetters : ByteArray := prog_8_method_13_code
def yX6_skipLetters : MethodName := ⟨RX6, "skipLetters", "()V"⟩
abbrev cX6_wordIs : ByteArray := prog_8_method_14_code
def yX6_wordIs : MethodName := ⟨RX6, "wordIs", "(ILjava/lang/String;)Z"⟩
abbrev cX6_fail : ByteArray := prog_8_method_15_code
def yX6_fail : MethodName := ⟨RX6, "fail", "(II)V"⟩
def RX7 : String := "DatedJars"
def TX7 : u_T := fun k => match k with
  | 0 => ("DatedJars", "now", "LDatedJars$Land;", true)
  | 1 => ("DatedJars", "trial", "LDatedJars$Land;", true)
  | 2 => ("DatedJars", "images", "[LDatedJars$Land;", true)
  | 3 => ("DatedJars", "kept", "[Z", true)
  | 4 => ("DatedJars", "reader", "LDatedJars$Reader;", true)
  | 5 => ("DatedJars", "planner", "LDatedJars$Planner;", true)
  | 6 => ("DatedJars", "dealer", "LDatedJars$Dealer;", true)
  | 7 => ("DatedJars", "glass", "LDatedJars$Glass;", true)
  | 8 => ("DatedJars", "book", "LDatedJars$Book;", true)
  | _ => ("DatedJars", "hungerBefore", "[I", true)
def tyX7 : Nat → FieldType := fun k => match k with
  | 0 => .object "DatedJars$Land"
  | 1 => .object "DatedJars$Land"
  | 2 => .array (.object "DatedJars$Land")
  | 3 => .array .boolean
  | 4 => .object "DatedJars$Reader"
  | 5 => .object "DatedJars$Planner"
  | 6 => .object "DatedJars$Dealer"
  | 7 => .object "DatedJars$Glass"
  | 8 => .object "DatedJars$Book"
  | _ => .array .int
abbrev wsX70 : List Cond := u_ws RX7 TX7 10
theorem nmX7 : ∀ a, a < 10 → ∀ b, b < 10 → a ≠ b → (TX7 a).2.1 ≠ (TX7 b).2.1 := by decide +kernel
theorem tyX7_ok : ∀ k, k < 10 → parseFieldDescriptor (TX7 k).2.2.1 = some (tyX7 k) := by decide +kernel
abbrev cX7_init : ByteArray := prog_1_method_1_code
def yX7_init : MethodName := ⟨RX7, "<init>", "()V"⟩
abbrev cX7_feed : ByteArray := prog_1_method_2_code
def yX7_feed : MethodName := ⟨RX7, "feed", "(IJ)I"⟩
abbrev cX7_land : ByteArray := prog_1_method_3_code
def yX7_land : MethodName := ⟨RX7, "land", "()I"⟩
abbrev cX7_fault : ByteArray := prog_1_method_4_code
def yX7_fault : MethodName := ⟨RX7, "fault", "()I"⟩
abbrev cX7_told : ByteArray := prog_1_method_5_code
def yX7_told : MethodName := ⟨RX7, "told", "(I)I"⟩
abbrev cX7_house : ByteArray := prog_1_method_6_code
def yX7_house : MethodName := ⟨RX7, "house", "(II)I"⟩
abbrev cX7_jar : ByteArray := prog_1_method_7_code
def yX7_jar : MethodName := ⟨RX7, "jar", "(II)I"⟩
abbrev cX7_law : ByteArray := prog_1_method_8_code
def yX7_law : MethodName := ⟨RX7, "law", "(I)I"⟩
abbrev cX7_seals : ByteArray := prog_1_method_9_code
def yX7_seals : MethodName := ⟨RX7, "seals", "(II)I"⟩
abbrev cX7_give : ByteArray := prog_1_method_10_code
def yX7_give : MethodName := ⟨RX7, "give", "(II)I"⟩
abbrev cX7_label : ByteArray := prog_1_method_11_code
def yX7_label : MethodName := ⟨RX7, "label", "(II)I"⟩
abbrev cX7_open : ByteArray := prog_1_method_12_code
def yX7_open : MethodName := ⟨RX7, "open", "(I)I"⟩
abbrev cX7_year : ByteArray := prog_1_method_13_code
def yX7_year : MethodName := ⟨RX7, "year", "(I)I"⟩
abbrev cX7_drift : ByteArray := prog_1_method_14_code
def yX7_drift : MethodName := ⟨RX7, "drift", "(I)I"⟩
abbrev cX7_plan : ByteArray := prog_1_method_15_code
def yX7_plan : MethodName := ⟨RX7, "plan", "(III)I"⟩
abbrev cX7_sealing : ByteArray := prog_1_method_16_code
def yX7_sealing : MethodName := ⟨RX7, "sealing", "(II)I"⟩
abbrev cX7_change : ByteArray := prog_1_method_17_code
def yX7_change : MethodName := ⟨RX7, "change", "(I)I"⟩
abbrev cX7_bequest : ByteArray := prog_1_method_18_code
def yX7_bequest : MethodName := ⟨RX7, "bequest", "(II)I"⟩
abbrev cX7_siege : ByteArray := prog_1_method_19_code
def yX7_siege : MethodName := ⟨RX7, "siege", "(II)I"⟩
abbrev cX7_when : ByteArray := prog_1_method_20_code
def yX7_when : MethodName := ⟨RX7, "when", "(II)I"⟩
abbrev cX7_older : ByteArray := prog_1_method_21_code
def yX7_older : MethodName := ⟨RX7, "older", "(II)I"⟩
abbrev cX7_forged : ByteArray := prog_1_method_22_code
def yX7_forged : MethodName := ⟨RX7, "forged", "()I"⟩
abbrev cX7_write : ByteArray := prog_1_method_23_code
def yX7_write : MethodName := ⟨RX7, "write", "(II)I"⟩
abbrev cX7_tear : ByteArray := prog_1_method_24_code
def yX7_tear : MethodName := ⟨RX7, "tear", "()I"⟩
abbrev cX7_judge : ByteArray := prog_1_method_25_code
def yX7_judge : MethodName := ⟨RX7, "judge", "()I"⟩
abbrev cX7_seed : ByteArray := prog_1_method_26_code
def yX7_seed : MethodName := ⟨RX7, "seed", "(I)I"⟩
abbrev cX7_keep : ByteArray := prog_1_method_27_code
def yX7_keep : MethodName := ⟨RX7, "keep", "(I)I"⟩
abbrev cX7_goBack : ByteArray := prog_1_method_28_code
def yX7_goBack : MethodName := ⟨RX7, "goBack", "(I)I"⟩
abbrev cX7_hungerOfSiege : ByteArray := prog_1_method_29_code
def yX7_hungerOfSiege : MethodName := ⟨RX7, "hungerOfSiege", "(II)I"⟩
abbrev cX7_doFirstChange : ByteArray := prog_1_method_30_code
def yX7_doFirstChange : MethodName := ⟨RX7, "doFirstChange", "(I)Z"⟩
abbrev cX7_isBetterChanged : ByteArray := prog_1_method_31_code
def yX7_isBetterChanged : MethodName := ⟨RX7, "isBetterChanged", "(III)Z"⟩
def RX8 : String := "DatedJarsModel"
def TX8 : u_T := fun k => match k with
  | 0 => ("DatedJarsModel", "w", "[I", true)
  | 1 => ("DatedJarsModel", "isKept", "[Z", true)
  | 2 => ("DatedJarsModel", "harvests", "[I", true)
  | 3 => ("DatedJarsModel", "harvestMany", "I", false)
  | 4 => ("DatedJarsModel", "wants", "[I", true)
  | 5 => ("DatedJarsModel", "sealing", "[I", true)
  | 6 => ("DatedJarsModel", "told", "[I", true)
  | 7 => ("DatedJarsModel", "houseMany", "I", false)
  | 8 => ("DatedJarsModel", "newHarvests", "I", false)
  | 9 => ("DatedJarsModel", "newHouses", "I", false)
  | 10 => ("DatedJarsModel", "newJars", "I", false)
  | 11 => ("DatedJarsModel", "text", "[I", true)
  | 12 => ("DatedJarsModel", "textSize", "I", false)
  | 13 => ("DatedJarsModel", "at", "I", false)
  | 14 => ("DatedJarsModel", "first", "I", false)
  | 15 => ("DatedJarsModel", "length", "I", false)
  | 16 => ("DatedJarsModel", "faultOf", "I", false)
  | 17 => ("DatedJarsModel", "fault", "I", false)
  | 18 => ("DatedJarsModel", "hungers", "[I", true)
  | 19 => ("DatedJarsModel", "own", "[I", true)
  | 20 => ("DatedJarsModel", "ownMany", "I", false)
  | 21 => ("DatedJarsModel", "least", "[I", true)
  | 22 => ("DatedJarsModel", "glassOne", "[I", true)
  | 23 => ("DatedJarsModel", "glassTwo", "[I", true)
  | 24 => ("DatedJarsModel", "glassMany", "I", false)
  | 25 => ("DatedJarsModel", "bookYear", "[I", true)
  | 26 => ("DatedJarsModel", "bookJar", "[I", true)
  | _ => ("DatedJarsModel", "written", "I", false)
def tyX8 : Nat → FieldType := fun k => match k with
  | 0 => .array .int
  | 1 => .array .boolean
  | 2 => .array .int
  | 3 => .int
  | 4 => .array .int
  | 5 => .array .int
  | 6 => .array .int
  | 7 => .int
  | 8 => .int
  | 9 => .int
  | 10 => .int
  | 11 => .array .int
  | 12 => .int
  | 13 => .int
  | 14 => .int
  | 15 => .int
  | 16 => .int
  | 17 => .int
  | 18 => .array .int
  | 19 => .array .int
  | 20 => .int
  | 21 => .array .int
  | 22 => .array .int
  | 23 => .array .int
  | 24 => .int
  | 25 => .array .int
  | 26 => .array .int
  | _ => .int
abbrev wsX80 : List Cond := u_ws RX8 TX8 28
theorem nmX8 : ∀ a, a < 28 → ∀ b, b < 28 → a ≠ b → (TX8 a).2.1 ≠ (TX8 b).2.1 := by decide +kernel
theorem tyX8_ok : ∀ k, k < 28 → parseFieldDescriptor (TX8 k).2.2.1 = some (tyX8 k) := by decide +kernel
abbrev cX8_init : ByteArray := prog_10_method_1_code
def yX8_init : MethodName := ⟨RX8, "<init>", "()V"⟩
abbrev cX8_in : ByteArray := prog_10_method_3_code
def yX8_in : MethodName := ⟨RX8, "in", "(JJJ)Z"⟩
abbrev cX8_one : ByteArray := prog_10_method_4_code
def yX8_one : MethodName := ⟨RX8, "one", "(Z)I"⟩
abbrev cX8_has : ByteArray := prog_10_method_5_code
def yX8_has : MethodName := ⟨RX8, "has", "(II)Z"⟩
abbrev cX8_feed : ByteArray := prog_10_method_6_code
def yX8_feed : MethodName := ⟨RX8, "feed", "(IJ)I"⟩
abbrev cX8_here : ByteArray := prog_10_method_7_code
def yX8_here : MethodName := ⟨RX8, "here", "()I"⟩
abbrev cX8_want : ByteArray := prog_10_method_8_code
def yX8_want : MethodName := ⟨RX8, "want", "(ZII)Z"⟩
abbrev cX8_takeWord : ByteArray := prog_10_method_9_code
def yX8_takeWord : MethodName := ⟨RX8, "takeWord", "()V"⟩
abbrev cX8_isWord : ByteArray := prog_10_method_10_code
def yX8_isWord : MethodName := ⟨RX8, "isWord", "(IIIIII)Z"⟩
abbrev cX8_takeNumber : ByteArray := prog_10_method_11_code
def yX8_takeNumber : MethodName := ⟨RX8, "takeNumber", "(II)I"⟩
abbrev cX8_takeHarvest : ByteArray := prog_10_method_12_code
def yX8_takeHarvest : MethodName := ⟨RX8, "takeHarvest", "()V"⟩
abbrev cX8_takeHouse : ByteArray := prog_10_method_13_code
def yX8_takeHouse : MethodName := ⟨RX8, "takeHouse", "()V"⟩
abbrev cX8_takeJar : ByteArray := prog_10_method_14_code
def yX8_takeJar : MethodName := ⟨RX8, "takeJar", "()V"⟩
abbrev cX8_isHarvestWord : ByteArray := prog_10_method_15_code
def yX8_isHarvestWord : MethodName := ⟨RX8, "isHarvestWord", "()Z"⟩
abbrev cX8_takeClause : ByteArray := prog_10_method_16_code
def yX8_takeClause : MethodName := ⟨RX8, "takeClause", "()V"⟩
abbrev cX8_land : ByteArray := prog_10_method_17_code
def yX8_land : MethodName := ⟨RX8, "land", "()I"⟩
abbrev cX8_fault : ByteArray := prog_10_method_18_code
def yX8_fault : MethodName := ⟨RX8, "fault", "()I"⟩
abbrev cX8_add : ByteArray := prog_10_method_19_code
def yX8_add : MethodName := ⟨RX8, "add", "(IIIIIII)V"⟩
abbrev cX8_isHouse : ByteArray := prog_10_method_20_code
def yX8_isHouse : MethodName := ⟨RX8, "isHouse", "(I)Z"⟩
abbrev cX8_isJar : ByteArray := prog_10_method_21_code
def yX8_isJar : MethodName := ⟨RX8, "isJar", "(I)Z"⟩
abbrev cX8_harvestOf : ByteArray := prog_10_method_22_code
def yX8_harvestOf : MethodName := ⟨RX8, "harvestOf", "(I)I"⟩
abbrev cX8_filled : ByteArray := prog_10_method_23_code
def yX8_filled : MethodName := ⟨RX8, "filled", "(III)I"⟩
abbrev cX8_mayBe : ByteArray := prog_10_method_24_code
def yX8_mayBe : MethodName := ⟨RX8, "mayBe", "(III)Z"⟩
abbrev cX8_may : ByteArray := prog_10_method_25_code
def yX8_may : MethodName := ⟨RX8, "may", "(III)Z"⟩
abbrev cX8_gone : ByteArray := prog_10_method_26_code
def yX8_gone : MethodName := ⟨RX8, "gone", "()I"⟩
abbrev cX8_told : ByteArray := prog_10_method_27_code
def yX8_told : MethodName := ⟨RX8, "told", "(I)I"⟩
abbrev cX8_jarsOf : ByteArray := prog_10_method_28_code
def yX8_jarsOf : MethodName := ⟨RX8, "jarsOf", "(IZ)I"⟩
abbrev cX8_house : ByteArray := prog_10_method_29_code
def yX8_house : MethodName := ⟨RX8, "house", "(II)I"⟩
abbrev cX8_jar : ByteArray := prog_10_method_30_code
def yX8_jar : MethodName := ⟨RX8, "jar", "(II)I"⟩
abbrev cX8_law : ByteArray := prog_10_method_31_code
def yX8_law : MethodName := ⟨RX8, "law", "(I)I"⟩
abbrev cX8_seals : ByteArray := prog_10_method_32_code
def yX8_seals : MethodName := ⟨RX8, "seals", "(II)I"⟩
abbrev cX8_give : ByteArray := prog_10_method_33_code
def yX8_give : MethodName := ⟨RX8, "give", "(II)I"⟩
abbrev cX8_label : ByteArray := prog_10_method_34_code
def yX8_label : MethodName := ⟨RX8, "label", "(II)I"⟩
abbrev cX8_open : ByteArray := prog_10_method_35_code
def yX8_open : MethodName := ⟨RX8, "open", "(I)I"⟩
abbrev cX8_firstToOpen : ByteArray := prog_10_method_36_code
def yX8_firstToOpen : MethodName := ⟨RX8, "firstToOpen", "(II)I"⟩
abbrev cX8_eat : ByteArray := prog_10_method_37_code
def yX8_eat : MethodName := ⟨RX8, "eat", "(III)I"⟩
abbrev cX8_hunger : ByteArray := prog_10_method_38_code
def yX8_hunger : MethodName := ⟨RX8, "hunger", "(III)V"⟩
abbrev cX8_clearHungers : ByteArray := prog_10_method_39_code
def yX8_clearHungers : MethodName := ⟨RX8, "clearHungers", "()V"⟩
abbrev cX8_pass : ByteArray := prog_10_method_40_code
def yX8_pass : MethodName := ⟨RX8, "pass", "(I)V"⟩
abbrev cX8_allHungers : ByteArray := prog_10_method_41_code
def yX8_allHungers : MethodName := ⟨RX8, "allHungers", "()I"⟩
abbrev cX8_year : ByteArray := prog_10_method_42_code
def yX8_year : MethodName := ⟨RX8, "year", "(I)I"⟩
abbrev cX8_draw : ByteArray := prog_10_method_43_code
def yX8_draw : MethodName := ⟨RX8, "draw", "(I)I"⟩
abbrev cX8_drift : ByteArray := prog_10_method_44_code
def yX8_drift : MethodName := ⟨RX8, "drift", "(I)I"⟩
abbrev cX8_copy : ByteArray := prog_10_method_45_code
def yX8_copy : MethodName := ⟨RX8, "copy", "(II)V"⟩
abbrev cX8_findOwn : ByteArray := prog_10_method_46_code
def yX8_findOwn : MethodName := ⟨RX8, "findOwn", "(I)V"⟩
abbrev cX8_inSet : ByteArray := prog_10_method_47_code
def yX8_inSet : MethodName := ⟨RX8, "inSet", "(II)I"⟩
abbrev cX8_hungerBy : ByteArray := prog_10_method_48_code
def yX8_hungerBy : MethodName := ⟨RX8, "hungerBy", "(III)I"⟩
abbrev cX8_findPlan : ByteArray := prog_10_method_49_code
def yX8_findPlan : MethodName := ⟨RX8, "findPlan", "(II)V"⟩
abbrev cX8_plan : ByteArray := prog_10_method_50_code
def yX8_plan : MethodName := ⟨RX8, "plan", "(III)I"⟩
abbrev cX8_try_ : ByteArray := prog_10_method_51_code
def yX8_try_ : MethodName := ⟨RX8, "try_", "(I)V"⟩
abbrev cX8_sealing : ByteArray := prog_10_method_52_code
def yX8_sealing : MethodName := ⟨RX8, "sealing", "(II)I"⟩
abbrev cX8_changes : ByteArray := prog_10_method_53_code
def yX8_changes : MethodName := ⟨RX8, "changes", "(III)Z"⟩
abbrev cX8_changeFirst : ByteArray := prog_10_method_54_code
def yX8_changeFirst : MethodName := ⟨RX8, "changeFirst", "(I)Z"⟩
abbrev cX8_change : ByteArray := prog_10_method_55_code
def yX8_change : MethodName := ⟨RX8, "change", "(I)I"⟩
abbrev cX8_other : ByteArray := prog_10_method_56_code
def yX8_other : MethodName := ⟨RX8, "other", "(II)I"⟩
abbrev cX8_offBy : ByteArray := prog_10_method_57_code
def yX8_offBy : MethodName := ⟨RX8, "offBy", "(II)I"⟩
abbrev cX8_bequest : ByteArray := prog_10_method_58_code
def yX8_bequest : MethodName := ⟨RX8, "bequest", "(II)I"⟩
abbrev cX8_siegeOf : ByteArray := prog_10_method_59_code
def yX8_siegeOf : MethodName := ⟨RX8, "siegeOf", "(II)I"⟩
abbrev cX8_siege : ByteArray := prog_10_method_60_code
def yX8_siege : MethodName := ⟨RX8, "siege", "(II)I"⟩
abbrev cX8_when : ByteArray := prog_10_method_61_code
def yX8_when : MethodName := ⟨RX8, "when", "(II)I"⟩
abbrev cX8_older : ByteArray := prog_10_method_62_code
def yX8_older : MethodName := ⟨RX8, "older", "(II)I"⟩
abbrev cX8_ones : ByteArray := prog_10_method_63_code
def yX8_ones : MethodName := ⟨RX8, "ones", "(I)I"⟩
abbrev cX8_forged : ByteArray := prog_10_method_64_code
def yX8_forged : MethodName := ⟨RX8, "forged", "()I"⟩
abbrev cX8_write : ByteArray := prog_10_method_65_code
def yX8_write : MethodName := ⟨RX8, "write", "(II)I"⟩
abbrev cX8_tear : ByteArray := prog_10_method_66_code
def yX8_tear : MethodName := ⟨RX8, "tear", "()I"⟩
abbrev cX8_judge : ByteArray := prog_10_method_67_code
def yX8_judge : MethodName := ⟨RX8, "judge", "()I"⟩
abbrev cX8_seed : ByteArray := prog_10_method_68_code
def yX8_seed : MethodName := ⟨RX8, "seed", "(I)I"⟩
abbrev cX8_keep : ByteArray := prog_10_method_69_code
def yX8_keep : MethodName := ⟨RX8, "keep", "(I)I"⟩
abbrev cX8_goBack : ByteArray := prog_10_method_70_code
def yX8_goBack : MethodName := ⟨RX8, "goBack", "(I)I"⟩
def RJ6 : String := "java/lang/Integer"
def TJ6 : u_T := fun k => match k with
  | _ => ("", "", "", false)
def tyJ6 : Nat → FieldType := fun k => match k with
  | _ => .int
abbrev wsJ60 : List Cond := u_ws RJ6 TJ6 0
theorem nmJ6 : ∀ a, a < 0 → ∀ b, b < 0 → a ≠ b → (TJ6 a).2.1 ≠ (TJ6 b).2.1 := by decide +kernel
theorem tyJ6_ok : ∀ k, k < 0 → parseFieldDescriptor (TJ6 k).2.2.1 = some (tyJ6 k) := by decide +kernel
abbrev cJ6_bitCount_0f7a4 : ByteArray := prog_11_method_49_code
def yJ6_bitCount_0f7a4 : MethodName := ⟨RJ6, "bitCount", "(I)I"⟩
def RJ9 : String := "java/lang/Math"
def TJ9 : u_T := fun k => match k with
  | _ => ("", "", "", false)
def tyJ9 : Nat → FieldType := fun k => match k with
  | _ => .int
abbrev wsJ90 : List Cond := u_ws RJ9 TJ9 0
theorem nmJ9 : ∀ a, a < 0 → ∀ b, b < 0 → a ≠ b → (TJ9 a).2.1 ≠ (TJ9 b).2.1 := by decide +kernel
theorem tyJ9_ok : ∀ k, k < 0 → parseFieldDescriptor (TJ9 k).2.2.1 = some (tyJ9 k) := by decide +kernel
abbrev cJ9_max_7cf53 : ByteArray := prog_12_method_65_code
def yJ9_max_7cf53 : MethodName := ⟨RJ9, "max", "(II)I"⟩
abbrev cJ9_min_7cf53 : ByteArray := prog_12_method_69_code
def yJ9_min_7cf53 : MethodName := ⟨RJ9, "min", "(II)I"⟩
def RJ0 : String := "java/lang/String"
def TJ0 : u_T := fun k => match k with
  | _ => ("", "", "", false)
def tyJ0 : Nat → FieldType := fun k => match k with
  | _ => .int
abbrev wsJ00 : List Cond := u_ws RJ0 TJ0 0
theorem nmJ0 : ∀ a, a < 0 → ∀ b, b < 0 → a ≠ b → (TJ0 a).2.1 ≠ (TJ0 b).2.1 := by decide +kernel
theorem tyJ0_ok : ∀ k, k < 0 → parseFieldDescriptor (TJ0 k).2.2.1 = some (tyJ0 k) := by decide +kernel
abbrev cJ0_length_8abf5 : ByteArray := prog_13_method_54_code
def yJ0_length_8abf5 : MethodName := ⟨RJ0, "length", "()I"⟩
abbrev cJ0_charAt_5068e : ByteArray := prog_13_method_56_code
def yJ0_charAt_5068e : MethodName := ⟨RJ0, "charAt", "(I)C"⟩
abbrev cJ0_coder_7d493 : ByteArray := prog_13_method_152_code
def yJ0_coder_7d493 : MethodName := ⟨RJ0, "coder", "()B"⟩
abbrev cJ0_isLatin1_aae02 : ByteArray := prog_13_method_154_code
def yJ0_isLatin1_aae02 : MethodName := ⟨RJ0, "isLatin1", "()Z"⟩
abbrev cJ0_checkIndex_df160 : ByteArray := prog_13_method_155_code
def yJ0_checkIndex_df160 : MethodName := ⟨RJ0, "checkIndex", "(II)V"⟩
def RJ1 : String := "java/lang/StringLatin1"
def TJ1 : u_T := fun k => match k with
  | _ => ("", "", "", false)
def tyJ1 : Nat → FieldType := fun k => match k with
  | _ => .int
abbrev wsJ10 : List Cond := u_ws RJ1 TJ1 0
theorem nmJ1 : ∀ a, a < 0 → ∀ b, b < 0 → a ≠ b → (TJ1 a).2.1 ≠ (TJ1 b).2.1 := by decide +kernel
theorem tyJ1_ok : ∀ k, k < 0 → parseFieldDescriptor (TJ1 k).2.2.1 = some (tyJ1 k) := by decide +kernel
abbrev cJ1_charAt_3b067 : ByteArray := prog_14_method_2_code
def yJ1_charAt_3b067 : MethodName := ⟨RJ1, "charAt", "([BI)C"⟩
def RJ2 : String := "java/lang/StringUTF16"
def TJ2 : u_T := fun k => match k with
  | _ => ("", "", "", false)
def tyJ2 : Nat → FieldType := fun k => match k with
  | _ => .int
abbrev wsJ20 : List Cond := u_ws RJ2 TJ2 0
theorem nmJ2 : ∀ a, a < 0 → ∀ b, b < 0 → a ≠ b → (TJ2 a).2.1 ≠ (TJ2 b).2.1 := by decide +kernel
theorem tyJ2_ok : ∀ k, k < 0 → parseFieldDescriptor (TJ2 k).2.2.1 = some (tyJ2 k) := by decide +kernel
abbrev cJ2_getChar_3b067 : ByteArray := prog_15_method_5_code
def yJ2_getChar_3b067 : MethodName := ⟨RJ2, "getChar", "([BI)C"⟩
abbrev cJ2_length_9d52b : ByteArray := prog_15_method_6_code
def yJ2_length_9d52b : MethodName := ⟨RJ2, "length", "([B)I"⟩
abbrev cJ2_charAt_3b067 : ByteArray := prog_15_method_83_code
def yJ2_charAt_3b067 : MethodName := ⟨RJ2, "charAt", "([BI)C"⟩
abbrev cJ2_checkIndex_2214a : ByteArray := prog_15_method_91_code
def yJ2_checkIndex_2214a : MethodName := ⟨RJ2, "checkIndex", "(I[B)V"⟩
def RJ10 : String := "java/lang/System"
def TJ10 : u_T := fun k => match k with
  | _ => ("", "", "", false)
def tyJ10 : Nat → FieldType := fun k => match k with
  | _ => .int
abbrev wsJ100 : List Cond := u_ws RJ10 TJ10 0
theorem nmJ10 : ∀ a, a < 0 → ∀ b, b < 0 → a ≠ b → (TJ10 a).2.1 ≠ (TJ10 b).2.1 := by decide +kernel
theorem tyJ10_ok : ∀ k, k < 0 → parseFieldDescriptor (TJ10 k).2.2.1 = some (tyJ10 k) := by decide +kernel
def RJ3 : String := "jdk/internal/util/Preconditions"
def TJ3 : u_T := fun k => match k with
  | _ => ("", "", "", false)
def tyJ3 : Nat → FieldType := fun k => match k with
  | _ => .int
abbrev wsJ30 : List Cond := u_ws RJ3 TJ3 0
theorem nmJ3 : ∀ a, a < 0 → ∀ b, b < 0 → a ≠ b → (TJ3 a).2.1 ≠ (TJ3 b).2.1 := by decide +kernel
theorem tyJ3_ok : ∀ k, k < 0 → parseFieldDescriptor (TJ3 k).2.2.1 = some (tyJ3 k) := by decide +kernel
abbrev cJ3_checkIndex_8e157 : ByteArray := prog_17_method_11_code
def yJ3_checkIndex_8e157 : MethodName := ⟨RJ3, "checkIndex", "(IILjava/util/function/BiFunction;)I"⟩
def RL : String := "DatedJarsLaw"
abbrev cL_law : ByteArray := code
def yL_law : MethodName := ⟨RL, "law", "([I)Z"⟩
abbrev vwCl : List vw_C := [(RX0, TX0, 3), (RX1, TX1, 8), (RX2, TX2, 8), (RX3, TX3, 4), (RX4, TX4, 12), (RX5, TX5, 8), (RX6, TX6, 6), (RX7, TX7, 10), (RX8, TX8, 28)]
end
section
/-! ENGINE 1: abstract worlds, the judgement V -/
abbrev NC : Nat := 104
def shp (k : Nat) : Nat × Nat × List (Option Nat) := (bif Nat.ble 52 k then (bif Nat.ble 78 k then (bif Nat.ble 91 k then (bif Nat.ble 98 k then (bif Nat.ble 101 k then (bif Nat.ble 103 k then (bif Nat.ble 104 k then (9, 0, []) else (1, 30, [])) else (bif Nat.ble 102 k then (1, 30, []) else (1, 12, []))) else (bif Nat.ble 99 k then (bif Nat.ble 100 k then (1, 12, []) else (1, 3400, [])) else (1, 8, []))) else (bif Nat.ble 94 k then (bif Nat.ble 96 k then (bif Nat.ble 97 k then (1, 4, []) else (1, 400, [])) else (bif Nat.ble 95 k then (1, 60, []) else (1, 8, []))) else (bif Nat.ble 92 k then (bif Nat.ble 93 k then (1, 8, []) else (1, 16, [])) else (3, 2, [])))) else (bif Nat.ble 84 k then (bif Nat.ble 87 k then (bif Nat.ble 89 k then (bif Nat.ble 90 k then (1, 800, []) else (0, 8, [some 90, some 91, some 92, none, some 93, some 94, some 95, none, none, none, none, some 96, none, none, none, none, none, none, some 97, some 98, none, some 99, some 100, some 101, none, some 102, some 103, none])) else (bif Nat.ble 88 k then (1, 4, []) else (1, 30, []))) else (bif Nat.ble 85 k then (bif Nat.ble 86 k then (1, 30, []) else (0, 0, [none, some 86, some 87])) else (1, 12, []))) else (bif Nat.ble 81 k then (bif Nat.ble 82 k then (bif Nat.ble 83 k then (1, 12, []) else (1, 12, [])) else (0, 3, [none, some 82, some 83, some 84])) else (bif Nat.ble 79 k then (bif Nat.ble 80 k then (1, 4, []) else (1, 8, [])) else (1, 8, []))))) else (bif Nat.ble 65 k then (bif Nat.ble 71 k then (bif Nat.ble 74 k then (bif Nat.ble 76 k then (bif Nat.ble 77 k then (1, 4, []) else (1, 8, [])) else (bif Nat.ble 75 k then (0, 2, [some 76, none, some 77, none, some 78, some 79, some 80, none]) else (1, 12, []))) else (bif Nat.ble 72 k then (bif Nat.ble 73 k then (1, 256, []) else (1, 256, [])) else (1, 256, []))) else (bif Nat.ble 68 k then (bif Nat.ble 69 k then (bif Nat.ble 70 k then (1, 256, []) else (1, 256, [])) else (1, 256, [])) else (bif Nat.ble 66 k then (bif Nat.ble 67 k then (1, 256, []) else (1, 256, [])) else (1, 256, [])))) else (bif Nat.ble 58 k then (bif Nat.ble 61 k then (bif Nat.ble 63 k then (bif Nat.ble 64 k then (1, 256, []) else (1, 256, [])) else (bif Nat.ble 62 k then (1, 256, []) else (1, 256, []))) else (bif Nat.ble 59 k then (bif Nat.ble 60 k then (1, 256, []) else (5, 13, [some 60, some 1])) else (1, 8, []))) else (bif Nat.ble 55 k then (bif Nat.ble 56 k then (bif Nat.ble 57 k then (0, 5, [some 58, none, some 59, some 73, none, none, some 74, none]) else (2, 400, [])) else (0, 6, [some 56, none, none, none, none, none])) else (bif Nat.ble 53 k then (bif Nat.ble 54 k then (3, 2, []) else (1, 24, [])) else (1, 24, [])))))) else (bif Nat.ble 26 k then (bif Nat.ble 39 k then (bif Nat.ble 45 k then (bif Nat.ble 48 k then (bif Nat.ble 50 k then (bif Nat.ble 51 k then (1, 24, []) else (1, 24, [])) else (bif Nat.ble 49 k then (1, 24, []) else (1, 24, []))) else (bif Nat.ble 46 k then (bif Nat.ble 47 k then (0, 1, [none, some 48, some 49, some 50, some 51, some 52, some 53, none]) else (1, 8, [])) else (1, 4, []))) else (bif Nat.ble 42 k then (bif Nat.ble 43 k then (bif Nat.ble 44 k then (1, 4, []) else (1, 4, [])) else (1, 4, [])) else (bif Nat.ble 40 k then (bif Nat.ble 41 k then (0, 4, [none, some 42, some 43, some 44, some 45, none, some 46, none, none, none, none, some 47]) else (1, 24, [])) else (1, 24, [])))) else (bif Nat.ble 32 k then (bif Nat.ble 35 k then (bif Nat.ble 37 k then (bif Nat.ble 38 k then (1, 24, []) else (1, 24, [])) else (bif Nat.ble 36 k then (1, 24, []) else (1, 24, []))) else (bif Nat.ble 33 k then (bif Nat.ble 34 k then (0, 1, [none, some 35, some 36, some 37, some 38, some 39, some 40, none]) else (1, 8, [])) else (1, 4, []))) else (bif Nat.ble 29 k then (bif Nat.ble 30 k then (bif Nat.ble 31 k then (1, 4, []) else (1, 4, [])) else (1, 4, [])) else (bif Nat.ble 27 k then (bif Nat.ble 28 k then (0, 4, [none, some 29, some 30, some 31, some 32, none, some 33, none, none, none, none, some 34]) else (4, 2, [some 28, some 13])) else (1, 24, []))))) else (bif Nat.ble 13 k then (bif Nat.ble 19 k then (bif Nat.ble 22 k then (bif Nat.ble 24 k then (bif Nat.ble 25 k then (1, 24, []) else (1, 24, [])) else (bif Nat.ble 23 k then (1, 24, []) else (1, 24, []))) else (bif Nat.ble 20 k then (bif Nat.ble 21 k then (1, 24, []) else (0, 1, [none, some 21, some 22, some 23, some 24, some 25, some 26, none])) else (1, 8, []))) else (bif Nat.ble 16 k then (bif Nat.ble 17 k then (bif Nat.ble 18 k then (1, 4, []) else (1, 4, [])) else (1, 4, [])) else (bif Nat.ble 14 k then (bif Nat.ble 15 k then (1, 4, []) else (0, 4, [none, some 15, some 16, some 17, some 18, none, some 19, none, none, none, none, some 20])) else (1, 24, [])))) else (bif Nat.ble 6 k then (bif Nat.ble 9 k then (bif Nat.ble 11 k then (bif Nat.ble 12 k then (1, 24, []) else (1, 24, [])) else (bif Nat.ble 10 k then (1, 24, []) else (1, 24, []))) else (bif Nat.ble 7 k then (bif Nat.ble 8 k then (1, 24, []) else (0, 1, [none, some 8, some 9, some 10, some 11, some 12, some 13, none])) else (1, 8, []))) else (bif Nat.ble 3 k then (bif Nat.ble 4 k then (bif Nat.ble 5 k then (1, 4, []) else (1, 4, [])) else (1, 4, [])) else (bif Nat.ble 1 k then (bif Nat.ble 2 k then (1, 4, []) else (0, 4, [none, some 2, some 3, some 4, some 5, none, some 6, none, none, none, none, some 7])) else (0, 7, [some 1, some 14, some 27, some 54, some 55, some 57, some 75, some 81, some 85, some 88])))))))
abbrev Sg : Type := Nat → Nat → Int32
def sgc (σ : Sg) (c : Nat) (f : Nat → Int32) : Sg := fun d => if d = c then f else σ d
def sgu (σ : Sg) (c k : Nat) (v : Int32) : Sg := sgc σ c (upd (σ c) k v)
abbrev Lv : Type := List (Nat × Value)
abbrev MS : Type := MethodName × ByteArray × Nat × Option FieldType × Room
abbrev En : Type := Instr × Nat × Nat × Nat × Nat × Int32 × Int64 × MS
abbrev Cd : Type := List (Nat × List (Nat × En))
def eg_nth {α : Type} : List α → Nat → Option α
  | [], _ => none
  | a :: _, 0 => some a
  | _ :: t, n + 1 => eg_nth t n
theorem eg_nth_eq {α : Type} : ∀ (l : List α) (n : Nat), eg_nth l n = l[n]?
  | [], n => by simp [eg_nth]
  | a :: t, 0 => by simp [eg_nth]
  | a :: t, n + 1 => by simp [eg_nth, eg_nth_eq t n]
def eg_cv (ad : Nat → Nat) : Value → Value
  | .ref k => .ref (ad k)
  | v => v
theorem eg_cv_cat (ad : Nat → Nat) (v : Value) : (eg_cv ad v).category = v.category := by cases v <;> rfl
def eg_sl (ad : Nat → Nat) (f : Nat → Int32) : Nat → List (Option Nat) → List Value
  | _, [] => []
  | i, none :: t => .int (f i) :: eg_sl ad f (i + 1) t
  | i, some r :: t => .ref (ad r) :: eg_sl ad f (i + 1) t
theorem eg_sl_len (ad : Nat → Nat) (f : Nat → Int32) : ∀ (l : List (Option Nat)) (i : Nat), (eg_sl ad f i l).length = l.length
  | [], _ => rfl
  | none :: t, i => by simp [eg_sl, eg_sl_len ad f t (i + 1)]
  | some r :: t, i => by simp [eg_sl, eg_sl_len ad f t (i + 1)]
theorem eg_sl_at (ad : Nat → Nat) (f : Nat → Int32) : ∀ (l : List (Option Nat)) (i k : Nat), (eg_sl ad f i l)[k]? = (l[k]?).map (fun o => match o with | none => .int (f (i + k)) | some r => .ref (ad r))
  | [], i, k => by simp [eg_sl]
  | none :: t, i, 0 => by simp [eg_sl]
  | some r :: t, i, 0 => by simp [eg_sl]
  | none :: t, i, k + 1 => by
    simp only [eg_sl, List.getElem?_cons_succ, eg_sl_at ad f t (i + 1) k]
    congr 1
    funext o
    cases o <;> simp [Nat.add_comm, Nat.add_left_comm]
  | some r :: t, i, k + 1 => by
    simp only [eg_sl, List.getElem?_cons_succ, eg_sl_at ad f t (i + 1) k]
    congr 1
    funext o
    cases o <;> simp [Nat.add_comm, Nat.add_left_comm]
theorem eg_sl_set (ad : Nat → Nat) (f : Nat → Int32) (v : Int32) : ∀ (l : List (Option Nat)) (i k : Nat), l[k]? = some none → (eg_sl ad f i l).set k (.int v) = eg_sl ad (upd f (i + k) v) i l
  | [], i, k, h => by simp at h
  | none :: t, i, 0, h => by
    have e : ∀ (l : List (Option Nat)) (j : Nat), i < j → eg_sl ad f j l = eg_sl ad (upd f i v) j l := by
      intro l
      induction l with
      | nil => intro j _; rfl
      | cons o l ih =>
        intro j hj
        cases o with
        | none => simp only [eg_sl, ih (j + 1) (by omega)]; simp [upd, show ¬ j = i by omega]
        | some r => simp only [eg_sl, ih (j + 1) (by omega)]
    simp only [eg_sl, List.set_cons_zero, Nat.add_zero, e t (i + 1) (by omega)]
    simp [upd]
  | some r :: t, i, 0, h => by simp at h
  | none :: t, i, k + 1, h => by
    simp only [eg_sl, List.set_cons_succ, eg_sl_set ad f v t (i + 1) k (by simpa using h), Nat.add_assoc, Nat.add_comm 1 k]
    simp [upd]
  | some r :: t, i, k + 1, h => by
    simp only [eg_sl, List.set_cons_succ, eg_sl_set ad f v t (i + 1) k (by simpa using h), Nat.add_assoc, Nat.add_comm 1 k]
def eg_rb (sl : List (Option Nat)) : Nat := match sl with
  | some b :: _ => b
  | _ => 0
def eg_rs (sl : List (Option Nat)) : Nat := match sl with
  | _ :: some b :: _ => b
  | _ => 0
def cellE (ad : Nat → Nat) (cy : Nat → ClassId) (σ : Sg) (k : Nat) : va_E :=
  if (shp k).1 = 0 then .inr ((shp k).2.1, eg_sl ad (σ k) 0 (shp k).2.2)
  else if (shp k).1 ≤ 3 then .inl (cy (shp k).1, (shp k).2.1, .inl (σ k))
  else .inl (cy (shp k).1, (shp k).2.1, .inr (.inr (.inr (.inr (fun i => some (ad (eg_rb (shp k).2.2 + eg_rs (shp k).2.2 * i)))))))
def cellsA (ad : Nat → Nat) (cy : Nat → ClassId) (σ : Sg) : va_W := (List.range NC).map fun k => (ad k, cellE ad cy σ k)
theorem cells_at {ad : Nat → Nat} {cy : Nat → ClassId} {σ : Sg} {k : Nat} (h : k < NC) : (cellsA ad cy σ)[k]? = some (ad k, cellE ad cy σ k) := by
  simp [cellsA, h]
theorem cells_inv {ad : Nat → Nat} {cy : Nat → ClassId} {σ : Sg} {k : Nat} {q : Nat × va_E} (h : (cellsA ad cy σ)[k]? = some q) : k < NC ∧ q = (ad k, cellE ad cy σ k) := by
  have hk : k < NC := by
    have := (List.getElem?_eq_some_iff.mp h).1
    simpa [cellsA] using this
  rw [cells_at hk] at h
  exact ⟨hk, (Option.some.inj h).symm⟩
theorem cellE_congr {ad : Nat → Nat} {cy : Nat → ClassId} {σ σ' : Sg} {k : Nat} (h : σ' k = σ k) : cellE ad cy σ' k = cellE ad cy σ k := by
  unfold cellE; rw [h]
theorem cells_set {ad : Nat → Nat} {cy : Nat → ClassId} {σ σ' : Sg} {c : Nat} {e : va_E} (hc : c < NC) (he : e = cellE ad cy σ' c) (h : ∀ d, d ≠ c → σ' d = σ d) : (cellsA ad cy σ).set c (ad c, e) = cellsA ad cy σ' := by
  subst he
  apply List.ext_getElem?
  intro i
  by_cases hi : i = c
  · subst hi
    rw [List.getElem?_set_self (by simpa [cellsA] using hc), cells_at hc]
  · rw [List.getElem?_set_ne (fun q => hi q.symm)]
    by_cases hn : i < NC
    · rw [cells_at hn, cells_at hn, cellE_congr (h i hi)]
    · rw [List.getElem?_eq_none (by simp [cellsA]; omega), List.getElem?_eq_none (by simp [cellsA]; omega)]
def AA (ad : Nat → Nat) : Nat → Prop := fun q => ∃ k, k < NC ∧ q = ad k
def InjA (ad : Nat → Nat) : Prop := ∀ i j, i < NC → j < NC → ad i = ad j → i = j
theorem cells_D {ad : Nat → Nat} (h : InjA ad) (cy : Nat → ClassId) (σ : Sg) : va_D (AA ad) (cellsA ad cy σ) := by
  refine ⟨fun i j p q hi hj e => ?_, fun k q hk => ?_⟩
  · obtain ⟨a, rfl⟩ := cells_inv hi
    obtain ⟨b, rfl⟩ := cells_inv hj
    exact h i j a b e
  · obtain ⟨a, rfl⟩ := cells_inv hk
    exact ⟨k, a, rfl⟩
abbrev tysA (cy : Nat → ClassId) : List (ClassId × FieldType) := [(cy 1, .int), (cy 2, .byte), (cy 3, .boolean), (cy 4, .object "DatedJars$Land"), (cy 5, .array .int)]
/-- the six String constants: their lengths and bytes -/
def eg_len : List Nat := [7, 5, 3, 5, 4, 5]
def eg_byt : List (List Int32) := [[104, 97, 114, 118, 101, 115, 116], [104, 111, 117, 115, 101], [106, 97, 114], [112, 108, 97, 105, 110], [112, 108, 117, 109], [103, 108, 97, 115, 115]]
def eg_idx : List Nat := [48, 58, 63, 110, 112, 114]
def eg_txt : List String := ["harvest", "house", "jar", "plain", "plum", "glass"]
def StrU (ad : Nat → Nat) (U : State) (H : Heap) : Prop := (∃ adV : Nat → Nat, vk_S 6 eg_len eg_byt (fun i => ad (1000 + i)) adV (AA ad) U H) ∧ va_Z "java/lang/String" "COMPACT_STRINGS" "Z" (.int 1) (AA ad) U H ∧ ∀ i : Nat, i < 6 → vk_R "DatedJars$Reader" (eg_idx.getD i 0) (eg_txt.getD i "") (ad (1000 + i)) U
def GdU (D : va_G) (ad : Nat → Nat) (cy : Nat → ClassId) (U : State) : Prop := va_K D vwCl (tysA cy) U ∧ StrU ad U U.heap ∧ InjA ad
def QQ (D : va_G) (ad : Nat → Nat) (cy : Nat → ClassId) (R : Option Value → Sg → Prop) : Array Value → State → Outcome → State → Prop := fun _ st oc t =>
  (∃ (v : Option Value) (σ' : Sg), oc = .returned (v.map (eg_cv ad)) ∧ R v σ' ∧ va_P D vwCl (cellsA ad cy σ') t.heap) ∧ va_F (AA ad) st t
def Gd : List Cond := lw_tbl.filter goodWord
theorem Gd_in {w : Cond} {i : Nat} (h : lw_tbl[i]? = some w) (hg : goodWord w = true) : w ∈ Gd := List.mem_filter.mpr ⟨List.mem_of_getElem? h, hg⟩
theorem Gd_good : GoodIn Gd Gd := fun w h => ⟨h, good_of_word (List.mem_filter.mp h).2⟩
def wsM (ms : MS) : List Cond := Cond.code ms.1 ms.2.1 ms.2.2.1 ms.2.2.2.1 :: Gd
def stB (y : MethodName) : Bool := decide (y.cls = "java/lang/Math") || decide (y.cls = "java/lang/Integer") || (decide (y.cls = "DatedJarsModel") && (decide (y.name = "in") || decide (y.desc = "(Z)I") || decide (y.name = "has") || decide (y.name = "ones")))
/-- what the tables say of a method -/
def OkM (ms : MS) : Prop := Cond.code ms.1 ms.2.1 ms.2.2.1 ms.2.2.2.1 ∈ Gd ∧ Cond.initialized ms.1.cls ∈ Gd ∧ ((stB ms.1 = false → Cond.instanceMethod ms.1 ∈ Gd ∧ Cond.selects ms.1.cls ms.1 ms.1 ∈ Gd) ∧ (stB ms.1 = true → Cond.static ms.1 ∈ Gd)) ∧ plainName ms.1.cls = true ∧ (ms.1.cls ≠ "java/lang/invoke/MethodHandle" ∧ ms.1.cls ≠ "java/lang/invoke/VarHandle") ∧ ms.2.2.2.2.cells = 0 ∧ ms.2.2.2.2.slots = 0
def MetA (ms : MS) (av : List Value) (σ : Sg) (R : Option Value → Sg → Prop) : Prop := OkM ms ∧ ∀ (l : Launch) (D : va_G) (ad : Nat → Nat) (cy : Nat → ClassId),
  Met l ms.1 (wsM ms) ms.2.2.2.2 (va_Pc (av.map (eg_cv ad)) (fun U => GdU D ad cy U ∧ va_P D vwCl (cellsA ad cy σ) U.heap)) (QQ D ad cy R) 0 0 (AA ad)
def Cx (ms : MS) (p : Program) (s : State) (m : MethodId) (args : Array Value) (meth : Method) (c : Code) (D : va_G) (ad : Nat → Nat) (cy : Nat → ClassId) : Prop :=
  p.tables.exec = Jvm.exec ∧ c.code = ms.2.1 ∧ meth.sig.returnType = ms.2.2.2.1 ∧ c.maxLocals = ms.2.2.1 ∧ s.vm.findClass ms.1.cls = some m.cls ∧ (∀ w ∈ Gd, w.before args s = true) ∧ meth.locks = false ∧ va_K D vwCl (tysA cy) s ∧ StrU ad s s.heap ∧ InjA ad
def eg_lc (ad : Nat → Nat) (lv : Lv) : Lv := lv.map fun q => (q.1, eg_cv ad q.2)
/-- from this abstract state the method comes to its end with R -/
def V (ms : MS) (pc : Nat) (lv : Lv) (st : List Value) (σ : Sg) (R : Option Value → Sg → Prop) : Prop :=
  ∀ (p : Program) (l : Launch) (e : Env) (s : State) (m : MethodId) (args : Array Value) (below : List Frame) (meth : Method) (c : Code) (D : va_G) (ad : Nat → Nat) (cy : Nat → ClassId), Cx ms p s m args meth c D ad cy →
  ∀ (H : Heap) (locs : List Loc) (ls : Array Slot), va_P D vwCl (cellsA ad cy σ) H → va_S (AA ad) s.heap H locs → lv_has ls ms.2.2.1 (eg_lc ad lv) →
  W p l e ms.2.2.2.2 s m args below meth c H locs 0 0 (MQ below (QQ D ad cy R) args s 0 0 (AA ad)) (F0 m pc ls (st.map (eg_cv ad)))
/-- locals -/
def lget : Lv → Nat → Option Value
  | [], _ => none
  | (j, v) :: t, i => bif Nat.beq j i then some v else lget t i
def lset : Lv → Nat → Value → Lv
  | [], i, v => [(i, v)]
  | (j, u) :: t, i, v => bif Nat.beq j i then (i, v) :: t.filter (fun q => !(q.1 == i) && !(q.1 + 1 == i && q.2.category == 2)) else bif Nat.beq (j + 1) i && Nat.beq u.category 2 then lset t i v else (j, u) :: lset t i v
def lset2 : Lv → Nat → Value → Lv
  | [], i, v => [(i, v)]
  | (j, u) :: t, i, v => bif Nat.beq j i then (i, v) :: t.filter (fun q => !(q.1 == i) && (!(q.1 == i + 1) && !(q.1 + 1 == i && q.2.category == 2))) else bif Nat.beq j (i + 1) || (Nat.beq (j + 1) i && Nat.beq u.category 2) then lset2 t i v else (j, u) :: lset2 t i v
theorem lget_mem : ∀ {lv : Lv} {i : Nat} {v : Value}, lget lv i = some v → (i, v) ∈ lv
  | [], i, v, h => by simp [lget] at h
  | (j, u) :: t, i, v, h => by
    unfold lget at h
    cases hb : Nat.beq j i with
    | true =>
      rw [hb] at h
      have e : j = i := Nat.eq_of_beq_eq_true hb
      have h2 : u = v := by simpa using h
      subst e; subst h2
      exact List.mem_cons_self
    | false =>
      rw [hb] at h
      exact List.mem_cons_of_mem _ (lget_mem (by simpa using h))
theorem lset_mem : ∀ {lv : Lv} {i : Nat} {v : Value} {q : Nat × Value}, q ∈ lset lv i v → q ∈ (i, v) :: lv.filter (fun q => !(q.1 == i) && !(q.1 + 1 == i && q.2.category == 2))
  | [], i, v, q, h => by simpa [lset] using h
  | (j, u) :: t, i, v, q, h => by
    unfold lset at h
    cases hb : Nat.beq j i with
    | true =>
      rw [hb] at h
      have e : j = i := Nat.eq_of_beq_eq_true hb
      subst e
      simpa using h
    | false =>
      have e : ¬ j = i := Nat.ne_of_beq_eq_false hb
      rw [hb] at h
      cases hc : (Nat.beq (j + 1) i && Nat.beq u.category 2) with
      | true =>
        rw [hc] at h
        have := lset_mem (by simpa using h : q ∈ lset t i v)
        rcases List.mem_cons.mp this with r | r
        · exact List.mem_cons.mpr (Or.inl r)
        · refine List.mem_cons.mpr (Or.inr ?_)
          obtain ⟨r1, r2⟩ := List.mem_filter.mp r
          exact List.mem_filter.mpr ⟨List.mem_cons_of_mem _ r1, r2⟩
      | false =>
        rw [hc] at h
        rcases List.mem_cons.mp (by simpa using h : q ∈ (j, u) :: lset t i v) with r | r
        · subst r
          refine List.mem_cons.mpr (Or.inr (List.mem_filter.mpr ⟨List.mem_cons_self, ?_⟩))
          simp only [Bool.and_eq_false_iff] at hc
          simp only [Bool.and_eq_true, Bool.not_eq_true', beq_eq_false_iff_ne, ne_eq, Bool.and_eq_false_iff]
          refine ⟨e, ?_⟩
          rcases hc with k | k
          · exact Or.inl (Nat.ne_of_beq_eq_false k)
          · exact Or.inr (Nat.ne_of_beq_eq_false k)
        · have := lset_mem r
          rcases List.mem_cons.mp this with r | r
          · exact List.mem_cons.mpr (Or.inl r)
          · refine List.mem_cons.mpr (Or.inr ?_)
            obtain ⟨r1, r2⟩ := List.mem_filter.mp r
            exact List.mem_filter.mpr ⟨List.mem_cons_of_mem _ r1, r2⟩
theorem lset2_mem : ∀ {lv : Lv} {i : Nat} {v : Value} {q : Nat × Value}, q ∈ lset2 lv i v → q ∈ (i, v) :: lv.filter (fun q => !(q.1 == i) && (!(q.1 == i + 1) && !(q.1 + 1 == i && q.2.category == 2)))
  | [], i, v, q, h => by simpa [lset2] using h
  | (j, u) :: t, i, v, q, h => by
    unfold lset2 at h
    cases hb : Nat.beq j i with
    | true =>
      rw [hb] at h
      have e : j = i := Nat.eq_of_beq_eq_true hb
      subst e
      simpa using h
    | false =>
      have e : ¬ j = i := Nat.ne_of_beq_eq_false hb
      rw [hb] at h
      cases hc : (Nat.beq j (i + 1) || (Nat.beq (j + 1) i && Nat.beq u.category 2)) with
      | true =>
        rw [hc] at h
        have := lset2_mem (by simpa using h : q ∈ lset2 t i v)
        rcases List.mem_cons.mp this with r | r
        · exact List.mem_cons.mpr (Or.inl r)
        · refine List.mem_cons.mpr (Or.inr ?_)
          obtain ⟨r1, r2⟩ := List.mem_filter.mp r
          exact List.mem_filter.mpr ⟨List.mem_cons_of_mem _ r1, r2⟩
      | false =>
        rw [hc] at h
        rcases List.mem_cons.mp (by simpa using h : q ∈ (j, u) :: lset2 t i v) with r | r
        · subst r
          refine List.mem_cons.mpr (Or.inr (List.mem_filter.mpr ⟨List.mem_cons_self, ?_⟩))
          simp only [Bool.or_eq_false_iff, Bool.and_eq_false_iff] at hc
          simp only [Bool.and_eq_true, Bool.not_eq_true', beq_eq_false_iff_ne, ne_eq, Bool.and_eq_false_iff]
          refine ⟨e, Nat.ne_of_beq_eq_false hc.1, ?_⟩
          rcases hc.2 with k | k
          · exact Or.inl (Nat.ne_of_beq_eq_false k)
          · exact Or.inr (Nat.ne_of_beq_eq_false k)
        · have := lset2_mem r
          rcases List.mem_cons.mp this with r | r
          · exact List.mem_cons.mpr (Or.inl r)
          · refine List.mem_cons.mpr (Or.inr ?_)
            obtain ⟨r1, r2⟩ := List.mem_filter.mp r
            exact List.mem_filter.mpr ⟨List.mem_cons_of_mem _ r1, r2⟩
theorem lc_filter (ad : Nat → Nat) (lv : Lv) (P : Nat → Nat → Bool) : eg_lc ad (lv.filter fun q => P q.1 q.2.category) = (eg_lc ad lv).filter fun q => P q.1 q.2.category := by
  unfold eg_lc
  rw [List.filter_map]
  congr 1
  apply List.filter_congr
  intro q _
  simp [eg_cv_cat]
theorem lv_has.of {ls : Array Slot} {n : Nat} {l l' : Lv} (h : lv_has ls n l) (hs : ∀ q ∈ l', q ∈ l) : lv_has ls n l' := ⟨h.1, h.2.1, fun q hq => h.2.2 q (hs q hq)⟩
theorem lset_has {ls : Array Slot} {n i : Nat} {lv : Lv} {v : Value} {ad : Nat → Nat} (h : lv_has ls n ((i, eg_cv ad v) :: (eg_lc ad lv).filter (fun q => !(q.1 == i) && !(q.1 + 1 == i && q.2.category == 2)))) : lv_has ls n (eg_lc ad (lset lv i v)) := by
  refine h.of fun q hq => ?_
  obtain ⟨q0, h0, rfl⟩ := List.mem_map.mp hq
  have := lset_mem h0
  rw [← lc_filter ad lv (fun a b => !(a == i) && !(a + 1 == i && b == 2))]
  rcases List.mem_cons.mp this with r | r
  · subst r; exact List.mem_cons_self
  · exact List.mem_cons_of_mem _ (List.mem_map.mpr ⟨q0, r, rfl⟩)
theorem lset2_has {ls : Array Slot} {n i : Nat} {lv : Lv} {v : Value} {ad : Nat → Nat} (h : lv_has ls n ((i, eg_cv ad v) :: (eg_lc ad lv).filter (fun q => !(q.1 == i) && (!(q.1 == i + 1) && !(q.1 + 1 == i && q.2.category == 2))))) : lv_has ls n (eg_lc ad (lset2 lv i v)) := by
  refine h.of fun q hq => ?_
  obtain ⟨q0, h0, rfl⟩ := List.mem_map.mp hq
  have := lset2_mem h0
  rw [← lc_filter ad lv (fun a b => !(a == i) && (!(a == i + 1) && !(a + 1 == i && b == 2)))]
  rcases List.mem_cons.mp this with r | r
  · subst r; exact List.mem_cons_self
  · exact List.mem_cons_of_mem _ (List.mem_map.mpr ⟨q0, r, rfl⟩)
theorem lget_has {ls : Array Slot} {n i : Nat} {lv : Lv} {v : Value} {ad : Nat → Nat} (h : lv_has ls n (eg_lc ad lv)) (hg : lget lv i = some v) : ls[i]? = some (.val (eg_cv ad v)) :=
  h.2.2 (i, eg_cv ad v) (List.mem_map.mpr ⟨(i, v), lget_mem hg, rfl⟩)
end
section
/-! ENGINE 2: the condition of one instruction, and of a stretch -/
def gfV (σ : Sg) (a w y : Nat) : Option Value := bif Nat.ble NC a then none else match shp a with
  | (0, ci, sl) => bif Nat.beq ci w then (match eg_nth sl y with
    | some none => some (.int (σ a y))
    | some (some r) => some (.ref r)
    | none => none) else none
  | _ => none
/-- an int field of a cell -/
def pfB (a w y : Nat) : Bool := bif Nat.ble NC a then false else match shp a with
  | (0, ci, sl) => bif Nat.beq ci w then (match eg_nth sl y with
    | some none => true
    | _ => false) else false
  | _ => false
def aOK (a t : Nat) (i : Int32) : Prop := a < NC ∧ (shp a).1 = t ∧ vp_in i (shp a).2.1
def popA : Nat → List Value → List Value → Option (List Value × List Value)
  | 0, st, acc => some (acc, st)
  | n + 1, v :: st, acc => popA n st (v :: acc)
  | _ + 1, [], _ => none
def stkB : List Value → Nat
  | [] => 0
  | v :: t => v.category + stkB t
def rcvB (b w : Nat) : Bool := bif Nat.beq w 99 then (Nat.ble 1000 b && Nat.ble b 1005) else bif Nat.ble NC b then false else match shp b with
  | (0, ci, _) => Nat.beq ci w
  | _ => false
def vpush (v : Option Value) (r : List Value) : List Value := match v with
  | some u => u :: r
  | none => r
def acOK (a b : Nat) (sp dp n : Int32) : Prop := (a < NC ∧ (shp a).1 = 1) ∧ (b < NC ∧ (shp b).1 = 1) ∧ ¬ sp < 0 ∧ ¬ dp < 0 ∧ ¬ n < 0 ∧ sp.toNatClampNeg + n.toNatClampNeg ≤ (shp a).2.1 ∧ dp.toNatClampNeg + n.toNatClampNeg ≤ (shp b).2.1
def swAll (x : Int32) (pc : Nat) (K : Nat → Prop) : List Int → Int → Prop
  | [], _ => True
  | o :: os, v => (x.toInt = v → K ((pc : Int) + o).toNat) ∧ swAll x pc K os (v + 1)
def lkAll (x : Int32) (pc : Nat) (K : Nat → Prop) (d : Int) : List (Int × Int) → Prop
  | [] => K ((pc : Int) + d).toNat
  | (k, o) :: t => (x.toInt = k → K ((pc : Int) + o).toNat) ∧ (¬ x.toInt = k → lkAll x pc K d t)
def wpI (ins : Instr) (npc x y w : Nat) (z : Int32) (zl : Int64) (cm : MS) (ret : Option FieldType) (pc : Nat) (lv : Lv) (st : List Value) (σ : Sg) (K : Nat → Lv → List Value → Sg → Prop) (R : Option Value → Sg → Prop) : Prop :=
  match ins with
  | .iload_n _ => match lget lv y with | some (.int a) => K npc lv (.int a :: st) σ | _ => False
  | .iload _ => match lget lv y with | some (.int a) => K npc lv (.int a :: st) σ | _ => False
  | .aload_n _ => match lget lv y with | some (.ref a) => K npc lv (.ref a :: st) σ | _ => False
  | .aload _ => match lget lv y with | some (.ref a) => K npc lv (.ref a :: st) σ | _ => False
  | .lload_n _ => match lget lv y with | some (.long a) => K npc lv (.long a :: st) σ | _ => False
  | .lload _ => match lget lv y with | some (.long a) => K npc lv (.long a :: st) σ | _ => False
  | .istore_n _ => match st with | .int a :: r => K npc (lset lv y (.int a)) r σ | _ => False
  | .istore _ => match st with | .int a :: r => K npc (lset lv y (.int a)) r σ | _ => False
  | .astore_n _ => match st with | .ref a :: r => K npc (lset lv y (.ref a)) r σ | _ => False
  | .astore _ => match st with | .ref a :: r => K npc (lset lv y (.ref a)) r σ | _ => False
  | .lstore_n _ => match st with | .long a :: r => K npc (lset2 lv y (.long a)) r σ | _ => False
  | .iinc _ _ => match lget lv y with | some (.int a) => K npc (lset lv y (.int (a + z))) st σ | _ => False
  | .iconst _ => K npc lv (.int z :: st) σ
  | .bipush _ => K npc lv (.int z :: st) σ
  | .sipush _ => K npc lv (.int z :: st) σ
  | .lconst _ => K npc lv (.long zl :: st) σ
  | .ldc _ => bif Nat.beq w 97 then K npc lv (.ref (1000 + y) :: st) σ else K npc lv (.int z :: st) σ
  | .ldc_w _ => K npc lv (.int z :: st) σ
  | .ldc2_w _ => K npc lv (.long zl :: st) σ
  | .iadd => match st with | .int b :: .int a :: r => K npc lv (.int (a + b) :: r) σ | _ => False
  | .isub => match st with | .int b :: .int a :: r => K npc lv (.int (a - b) :: r) σ | _ => False
  | .imul => match st with | .int b :: .int a :: r => K npc lv (.int (a * b) :: r) σ | _ => False
  | .idiv => match st with | .int b :: .int a :: r => ¬ b = 0 ∧ K npc lv (.int (a / b) :: r) σ | _ => False
  | .irem => match st with | .int b :: .int a :: r => ¬ b = 0 ∧ K npc lv (.int (a - a / b * b) :: r) σ | _ => False
  | .ineg => match st with | .int a :: r => K npc lv (.int (-a) :: r) σ | _ => False
  | .iand => match st with | .int b :: .int a :: r => K npc lv (.int (a &&& b) :: r) σ | _ => False
  | .ior => match st with | .int b :: .int a :: r => K npc lv (.int (a ||| b) :: r) σ | _ => False
  | .ixor => match st with | .int b :: .int a :: r => K npc lv (.int (a ^^^ b) :: r) σ | _ => False
  | .ishl => match st with | .int b :: .int a :: r => K npc lv (.int (a <<< (b &&& 31)) :: r) σ | _ => False
  | .ishr => match st with | .int b :: .int a :: r => K npc lv (.int (a >>> (b &&& 31)) :: r) σ | _ => False
  | .iushr => match st with | .int b :: .int a :: r => K npc lv (.int (a.toUInt32 >>> (b.toUInt32 &&& Int32.toUInt32 31)).toInt32 :: r) σ | _ => False
  | .i2l => match st with | .int a :: r => K npc lv (.long a.toInt64 :: r) σ | _ => False
  | .l2i => match st with | .long a :: r => K npc lv (.int a.toInt32 :: r) σ | _ => False
  | .i2b => match st with | .int a :: r => K npc lv (.int a.toInt8.toInt32 :: r) σ | _ => False
  | .ladd => match st with | .long b :: .long a :: r => K npc lv (.long (a + b) :: r) σ | _ => False
  | .lmul => match st with | .long b :: .long a :: r => K npc lv (.long (a * b) :: r) σ | _ => False
  | .land => match st with | .long b :: .long a :: r => K npc lv (.long (a &&& b) :: r) σ | _ => False
  | .lor => match st with | .long b :: .long a :: r => K npc lv (.long (a ||| b) :: r) σ | _ => False
  | .lrem => match st with | .long b :: .long a :: r => ¬ b = 0 ∧ K npc lv (.long (a - a / b * b) :: r) σ | _ => False
  | .lshl => match st with | .int b :: .long a :: r => K npc lv (.long (a <<< (b.toInt64 &&& 63)) :: r) σ | _ => False
  | .lshr => match st with | .int b :: .long a :: r => K npc lv (.long (a >>> (b.toInt64 &&& 63)) :: r) σ | _ => False
  | .lushr => match st with | .int b :: .long a :: r => K npc lv (.long (a.toUInt64 >>> (b.toInt64.toUInt64 &&& Int64.toUInt64 63)).toInt64 :: r) σ | _ => False
  | .lcmp => match st with | .long b :: .long a :: r => K npc lv (.int (lg_cmp a b) :: r) σ | _ => False
  | .dup => match st with | a :: r => bif Nat.beq a.category 1 then K npc lv (a :: a :: r) σ else False | _ => False
  | .pop => match st with | a :: r => bif Nat.beq a.category 1 then K npc lv r σ else False | _ => False
  | .dup2 => match st with | a :: b :: r => bif Nat.beq a.category 1 && Nat.beq b.category 1 then K npc lv (a :: b :: a :: b :: r) σ else False | _ => False
  | .goto _ => K x lv st σ
  | .ifCond .eq _ => match st with | .int a :: r => (a = 0 → K x lv r σ) ∧ (¬ a = 0 → K npc lv r σ) | _ => False
  | .ifCond .ne _ => match st with | .int a :: r => (¬ a = 0 → K x lv r σ) ∧ (a = 0 → K npc lv r σ) | _ => False
  | .ifCond .lt _ => match st with | .int a :: r => (a < 0 → K x lv r σ) ∧ (¬ a < 0 → K npc lv r σ) | _ => False
  | .ifCond .ge _ => match st with | .int a :: r => (0 ≤ a → K x lv r σ) ∧ (¬ 0 ≤ a → K npc lv r σ) | _ => False
  | .ifCond .gt _ => match st with | .int a :: r => (0 < a → K x lv r σ) ∧ (¬ 0 < a → K npc lv r σ) | _ => False
  | .ifCond .le _ => match st with | .int a :: r => (a ≤ 0 → K x lv r σ) ∧ (¬ a ≤ 0 → K npc lv r σ) | _ => False
  | .if_icmp .eq _ => match st with | .int b :: .int a :: r => (a = b → K x lv r σ) ∧ (¬ a = b → K npc lv r σ) | _ => False
  | .if_icmp .ne _ => match st with | .int b :: .int a :: r => (¬ a = b → K x lv r σ) ∧ (a = b → K npc lv r σ) | _ => False
  | .if_icmp .lt _ => match st with | .int b :: .int a :: r => (a < b → K x lv r σ) ∧ (¬ a < b → K npc lv r σ) | _ => False
  | .if_icmp .ge _ => match st with | .int b :: .int a :: r => (b ≤ a → K x lv r σ) ∧ (¬ b ≤ a → K npc lv r σ) | _ => False
  | .if_icmp .gt _ => match st with | .int b :: .int a :: r => (b < a → K x lv r σ) ∧ (¬ b < a → K npc lv r σ) | _ => False
  | .if_icmp .le _ => match st with | .int b :: .int a :: r => (a ≤ b → K x lv r σ) ∧ (¬ a ≤ b → K npc lv r σ) | _ => False
  | .tableswitch d lo hi offs => match st with | .int a :: r => (a.toInt < lo ∨ hi < a.toInt → K ((pc : Int) + d).toNat lv r σ) ∧ swAll a pc (fun t => K t lv r σ) offs.toList lo | _ => False
  | .lookupswitch d ps => match st with | .int a :: r => lkAll a pc (fun t => K t lv r σ) d ps.toList | _ => False
  | .getfield _ => match st with
    | .ref a :: r => match gfV σ a w y with | some v => K npc lv (v :: r) σ | none => False
    | _ => False
  | .putfield _ => match st with
    | .int v :: .ref a :: r => bif pfB a w y then (bif Nat.beq w 6 && Nat.beq y 5 then ((v = 0 ∨ v = 1) ∧ K npc lv r (sgu σ a y v)) else K npc lv r (sgu σ a y v)) else False
    | _ => False
  | .iaload => match st with | .int i :: .ref a :: r => aOK a 1 i ∧ K npc lv (.int (σ a i.toNatClampNeg) :: r) σ | _ => False
  | .iastore => match st with | .int v :: .int i :: .ref a :: r => aOK a 1 i ∧ K npc lv r (sgu σ a i.toNatClampNeg v) | _ => False
  | .baload => match st with | .int i :: .ref a :: r => aOK a (bif Nat.beq (shp a).1 2 then 2 else 3) i ∧ K npc lv (.int (σ a i.toNatClampNeg) :: r) σ | _ => False
  | .bastore => match st with | .int v :: .int i :: .ref a :: r => aOK a (bif Nat.beq (shp a).1 2 then 2 else 3) i ∧ K npc lv r (sgu σ a i.toNatClampNeg (vp_nar (bif Nat.beq (shp a).1 2 then .byte else .boolean) v)) | _ => False
  | .aaload => match st with | .int i :: .ref a :: r => aOK a (bif Nat.beq (shp a).1 4 then 4 else 5) i ∧ K npc lv (.ref (eg_rb (shp a).2.2 + eg_rs (shp a).2.2 * i.toNatClampNeg) :: r) σ | _ => False
  | .arraylength => match st with | .ref a :: r => bif Nat.ble NC a then False else bif Nat.beq (shp a).1 1 then K npc lv (.int (Int32.ofNat (shp a).2.1) :: r) σ else False | _ => False
  | .invokevirtual _ => match popA y st [] with
    | some (.ref b :: as, r) => bif rcvB b w && Nat.ble (stkB r) 8 then MetA cm (.ref b :: as) σ (fun v σ' => K npc lv (vpush v r) σ') else False
    | _ => False
  | .invokestatic _ => bif Nat.beq w 98 then (match st with
      | .int n :: .int dp :: .ref b :: .int sp :: .ref a :: r => bif Nat.ble (stkB r) 8 then acOK a b sp dp n ∧ K npc lv r (sgc σ b (va_cpy (σ a) (σ b) sp.toNatClampNeg dp.toNatClampNeg n.toNatClampNeg)) else False
      | _ => False) else bif Nat.beq w 96 then (match st with
      | .int b :: .int a :: r => bif Nat.ble (stkB r) 8 then K npc lv (.int (if b < a then b else a) :: r) σ else False
      | _ => False) else bif Nat.beq w 95 then (match st with
      | .int b :: .int a :: r => bif Nat.ble (stkB r) 8 then K npc lv (.int (if a < b then b else a) :: r) σ else False
      | _ => False) else (match popA y st [] with
      | some (as, r) => bif Nat.ble (stkB r) 8 then MetA cm as σ (fun v σ' => K npc lv (vpush v r) σ') else False
      | _ => False)
  | .ireturn => match st with
    | [.int a] => match ret with
      | some .int => R (some (.int a)) σ
      | some .boolean => (a = 0 ∨ a = 1) ∧ R (some (.int a)) σ
      | _ => False
    | _ => False
  | .return_ => match st with
    | [] => match ret with
      | none => R none σ
      | _ => False
    | _ => False
  | _ => False
def fnd1 (pc : Nat) : List (Nat × En) → Option En
  | [] => none
  | (k, e) :: t => bif Nat.beq k pc then some e else fnd1 pc t
def fnd2 (pc : Nat) : Cd → Option En
  | [] => none
  | (u, l) :: t => bif Nat.ble pc u then fnd1 pc l else fnd2 pc t
/-- the condition of a stretch from pc to the stops -/
def wpB (ms : MS) (cd : Cd) (stops : List Nat) (R : Option Value → Sg → Prop) : Nat → Nat → Lv → List Value → Sg → Prop
  | 0, _, _, _, _ => False
  | n + 1, pc, lv, st, σ => match fnd2 pc cd with
    | none => False
    | some (ins, npc, x, y, w, z, zl, cm) => wpI ins npc x y w z zl cm ms.2.2.2.1 pc lv st σ (fun pc' lv' st' σ' => bif stops.elem pc' then V ms pc' lv' st' σ' R else wpB ms cd stops R n pc' lv' st' σ') R
end
section
/-! ENGINE 3: soundness -/
def ilen (ins : Instr) (w : Nat) : Nat := match ins with
  | .iload _ => 2 | .aload _ => 2 | .lload _ => 2 | .istore _ => 2 | .astore _ => 2 | .bipush _ => 2 | .ldc _ => 2
  | .sipush _ => 3 | .iinc _ _ => 3 | .ldc_w _ => 3 | .ldc2_w _ => 3 | .goto _ => 3 | .ifCond _ _ => 3 | .if_icmp _ _ => 3 | .getfield _ => 3 | .putfield _ => 3 | .invokevirtual _ => 3 | .invokestatic _ => 3
  | .tableswitch _ _ _ _ => w
  | .lookupswitch _ _ => w
  | _ => 1
def TTx (w : Nat) : u_T := match w with
  | 0 => TX0 | 1 => TX1 | 2 => TX2 | 3 => TX3 | 4 => TX4 | 5 => TX5 | 6 => TX6 | 7 => TX7 | _ => TX8
def TYx (w : Nat) : Nat → FieldType := match w with
  | 0 => tyX0 | 1 => tyX1 | 2 => tyX2 | 3 => tyX3 | 4 => tyX4 | 5 => tyX5 | 6 => tyX6 | 7 => tyX7 | _ => tyX8
def NNx (w : Nat) : Nat := match w with
  | 0 => 3 | 1 => 8 | 2 => 8 | 3 => 4 | 4 => 12 | 5 => 8 | 6 => 6 | 7 => 10 | _ => 28
def RRx (w : Nat) : String := match w with
  | 0 => RX0 | 1 => RX1 | 2 => RX2 | 3 => RX3 | 4 => RX4 | 5 => RX5 | 6 => RX6 | 7 => RX7 | _ => RX8
theorem cl_at {w : Nat} (h : w < 9) : vwCl[w]? = some (RRx w, TTx w, NNx w) := by
  match w, h with
  | 0, _ => rfl | 1, _ => rfl | 2, _ => rfl | 3, _ => rfl | 4, _ => rfl | 5, _ => rfl | 6, _ => rfl | 7, _ => rfl | 8, _ => rfl
theorem ty_at {w : Nat} (h : w < 9) : ∀ k, k < NNx w → parseFieldDescriptor (TTx w k).2.2.1 = some (TYx w k) := by
  match w, h with
  | 0, _ => exact tyX0_ok | 1, _ => exact tyX1_ok | 2, _ => exact tyX2_ok | 3, _ => exact tyX3_ok | 4, _ => exact tyX4_ok | 5, _ => exact tyX5_ok | 6, _ => exact tyX6_ok | 7, _ => exact tyX7_ok | 8, _ => exact tyX8_ok
theorem nm_at {w : Nat} (h : w < 9) : ∀ a, a < NNx w → ∀ b, b < NNx w → a ≠ b → (TTx w a).2.1 ≠ (TTx w b).2.1 := by
  match w, h with
  | 0, _ => exact nmX0 | 1, _ => exact nmX1 | 2, _ => exact nmX2 | 3, _ => exact nmX3 | 4, _ => exact nmX4 | 5, _ => exact nmX5 | 6, _ => exact nmX6 | 7, _ => exact nmX7 | 8, _ => exact nmX8
def roomB (ms cm : MS) : Bool := Nat.ble (cm.2.2.2.2.frames + 1) ms.2.2.2.2.frames && Nat.ble (8 + (cm.2.2.1 + 11) + cm.2.2.2.2.locals) ms.2.2.2.2.locals
def parB (cm : MS) (n : Nat) : Bool := decide ((parseMethodDescriptor cm.1.desc).map (fun d => d.parameters.length) = some n)
def chkX (ms : MS) (ins : Instr) (x y w : Nat) (z : Int32) (zl : Int64) (cm : MS) (pc : Nat) : Bool := match ins with
  | .iload_n k => Nat.beq k.val y
  | .iload k => Nat.beq k y
  | .aload_n k => Nat.beq k.val y
  | .aload k => Nat.beq k y
  | .lload_n k => Nat.beq k.val y
  | .lload k => Nat.beq k y
  | .istore_n k => Nat.beq k.val y && Nat.ble (y + 1) ms.2.2.1
  | .istore k => Nat.beq k y && Nat.ble (y + 1) ms.2.2.1
  | .astore_n k => Nat.beq k.val y && Nat.ble (y + 1) ms.2.2.1
  | .astore k => Nat.beq k y && Nat.ble (y + 1) ms.2.2.1
  | .lstore_n k => Nat.beq k.val y && Nat.ble (y + 2) ms.2.2.1
  | .iinc k n => Nat.beq k y && Nat.ble (y + 1) ms.2.2.1 && decide (Int32.ofInt n = z)
  | .iconst n => decide (Int32.ofInt n = z)
  | .bipush n => decide ((Int8.ofInt n).toInt32 = z)
  | .sipush n => decide ((Int16.ofInt n).toInt32 = z)
  | .lconst n => decide (Int64.ofNat (n : Nat) = zl)
  | .ldc idx => bif Nat.beq w 97 then decide (ms.1.cls = "DatedJars$Reader") && Nat.ble (y + 1) 6 && Nat.beq (eg_idx.getD y 0) idx else decide (lw_tbl[x]? = some (.constant ms.1.cls idx z))
  | .ldc_w idx => decide (lw_tbl[x]? = some (.constant ms.1.cls idx z))
  | .ldc2_w idx => decide (lw_tbl[x]? = some (.constantLong ms.1.cls idx zl))
  | .goto off => decide ((pc : Int) + off = (x : Int))
  | .ifCond _ off => decide ((pc : Int) + off = (x : Int))
  | .if_icmp _ off => decide ((pc : Int) + off = (x : Int))
  | .tableswitch d lo hi offs => decide (0 ≤ (pc : Int) + d) && offs.toList.all (fun o => decide (0 ≤ (pc : Int) + o)) && decide (lo + offs.size = hi + 1)
  | .lookupswitch d ps => decide (0 ≤ (pc : Int) + d) && ps.toList.all (fun o => decide (0 ≤ (pc : Int) + o.2)) && (ps.toList.zip (ps.toList.drop 1)).all (fun (a, next) => a.1 < next.1)
  | .getfield idx => Nat.ble (w + 1) 9 && Nat.ble (y + 1) (NNx w) && decide (lw_tbl[x]? = some (.fieldLink ms.1.cls idx (TTx w y).1 (TTx w y).2.1 (TTx w y).2.2.1))
  | .putfield idx => Nat.ble (w + 1) 9 && Nat.ble (y + 1) (NNx w) && decide (lw_tbl[x]? = some (.fieldLink ms.1.cls idx (TTx w y).1 (TTx w y).2.1 (TTx w y).2.2.1)) && !(TTx w y).2.2.2 && decide (TYx w y = bif Nat.beq w 6 && Nat.beq y 5 then .boolean else .int)
  | .invokevirtual idx => decide (lw_tbl[x]? = some (.methodLink ms.1.cls idx cm.1)) && Nat.ble 1 y && parB cm (y - 1) && roomB ms cm && !stB cm.1 && (bif Nat.beq w 99 then decide (cm.1.cls = "java/lang/String") else Nat.ble (w + 1) 9 && decide (RRx w = cm.1.cls))
  | .invokestatic idx => bif Nat.beq w 98 then decide (lw_tbl[x]? = some (.methodLink ms.1.cls idx arraycopyName)) && Nat.ble 1 ms.2.2.2.2.frames && Nat.ble 26 ms.2.2.2.2.locals else bif Nat.beq w 96 then decide (lw_tbl[x]? = some (.methodLink ms.1.cls idx Lib.Math.min.name)) && Nat.ble 1 ms.2.2.2.2.frames && Nat.ble 21 ms.2.2.2.2.locals else bif Nat.beq w 95 then decide (lw_tbl[x]? = some (.methodLink ms.1.cls idx Lib.Math.max.name)) && Nat.ble 1 ms.2.2.2.2.frames && Nat.ble 21 ms.2.2.2.2.locals else decide (lw_tbl[x]? = some (.methodLink ms.1.cls idx cm.1)) && parB cm y && roomB ms cm && stB cm.1
  | _ => true
def chkE (ms : MS) (pc : Nat) (e : En) : Bool := match e with
  | (ins, npc, x, y, w, z, zl, cm) => decide (decode ms.2.1 pc = .ok (ins, ilen ins w)) && Nat.beq npc (pc + ilen ins w) && chkX ms ins x y w z zl cm pc
def chkC (ms : MS) (cd : Cd) : Bool := cd.all fun q => q.2.all fun r => chkE ms r.1 r.2
theorem fnd1_mem {pc : Nat} : ∀ {l : List (Nat × En)} {e : En}, fnd1 pc l = some e → (pc, e) ∈ l
  | [], e, h => by simp [fnd1] at h
  | (k, u) :: t, e, h => by
    unfold fnd1 at h
    cases hb : Nat.beq k pc with
    | true =>
      rw [hb] at h
      have e1 : k = pc := Nat.eq_of_beq_eq_true hb
      have e2 : u = e := by simpa using h
      subst e1; subst e2
      exact List.mem_cons_self
    | false =>
      rw [hb] at h
      exact List.mem_cons_of_mem _ (fnd1_mem (by simpa using h))
theorem fnd2_chk {ms : MS} {pc : Nat} : ∀ {cd : Cd} {e : En}, chkC ms cd = true → fnd2 pc cd = some e → chkE ms pc e = true
  | [], e, _, h => by simp [fnd2] at h
  | (u, l) :: t, e, hc, h => by
    unfold fnd2 at h
    have hc2 := List.all_eq_true.mp hc
    cases hb : Nat.ble pc u with
    | true =>
      rw [hb] at h
      exact List.all_eq_true.mp (hc2 (u, l) List.mem_cons_self) (pc, e) (fnd1_mem (by simpa using h))
    | false =>
      rw [hb] at h
      exact fnd2_chk (List.all_eq_true.mpr fun q hq => hc2 q (List.mem_cons_of_mem _ hq)) (by simpa using h)
theorem StrU.at {ad : Nat → Nat} {s U : State} {H : Heap} {locs : List Loc} (h : StrU ad s s.heap) (hS : va_S (AA ad) s.heap H locs) (hU : U.heap = H) (hW : s.WarmedH U.vm) : StrU ad U U.heap := by
  obtain ⟨⟨adV, h1⟩, h2, h3⟩ := h
  have hq : ∀ a : Nat, a < s.heap.size → ¬ AA ad a → U.heap[a]? = s.heap[a]? := fun a h4 h5 => by rw [hU]; exact hS.2.1 a h4 h5
  exact ⟨⟨adV, (h1.kept hq).moved hW.alike⟩, (h2.kept hq).moved hW.alike, fun i hi => (h3 i hi).warm hW⟩
theorem eg_blind {D : va_G} {ad : Nat → Nat} {cy : Nat → ClassId} {σ : Sg} {av : List Value} : FrameBlind (va_Pc av (fun U => GdU D ad cy U ∧ va_P D vwCl (cellsA ad cy σ) U.heap)) := by
  intro a U g mk q
  obtain ⟨q0, ⟨qK, ⟨⟨adV, q1⟩, q2, q3⟩, qI⟩, qP⟩ := q
  exact ⟨q0, ⟨va_K.moved (u := U) (U := U.calling g mk a) (Vm.Alike.refl U.vm) qK, ⟨⟨adV, vk_S.moved (u := U) (U := U.calling g mk a) (Vm.Alike.refl U.vm) q1⟩, va_Z.moved (u := U) (U := U.calling g mk a) (Vm.Alike.refl U.vm) q2, fun i hi => vk_R.same (u := U) (U := U.calling g mk a) rfl (q3 i hi)⟩, qI⟩, qP⟩
section EGC
variable {p : Program} {l : Launch} {e : Env} {R : Room} {s : State} {m : MethodId} {args : Array Value} {below : List Frame} {meth : Method} {c : Code} {H : Heap} {locs : List Loc} {Q : State → Prop}
theorem eg_call {pc : Nat} {ls : Array Slot} {rest st0 : List Value} {a : Array Value} {D : va_G} {ad : Nat → Nat} {cy : Nat → ClassId} {R1 : Option Value → Sg → Prop}
    (hr : va_Run p l e R s m args below meth c H locs 0 0 0 0 (F0 m pc ls st0) rest (QQ D ad cy R1 a) (AA ad)) (hS : va_S (AA ad) s.heap H locs)
    (kk : ∀ (v : Option Value) (σ' : Sg) (H1 : Heap) (locs1 : List Loc), R1 v σ' → va_P D vwCl (cellsA ad cy σ') H1 → va_S (AA ad) s.heap H1 locs1 → W p l e R s m args below meth c H1 locs1 0 0 Q (F0 m (pc + 3) ls ((v.map (eg_cv ad)).toList ++ rest))) : W p l e R s m args below meth c H locs 0 0 Q (F0 m pc ls st0) := by
  intro T hT X
  obtain ⟨v, st₀, t, T', L, h0, X', hL, e1, e2, ⟨⟨v1, σ', hv, hp, hb⟩, hz, hk⟩, st⟩ := hr T hT X
  cases hv
  rw [h0] at hz hk
  obtain ⟨t2, a1, b1⟩ := kk v1 σ' T'.heap (locs ++ L) hp (by rw [e1]; exact hb)
    ⟨Nat.le_trans hS.1 (by rw [e1]; exact hz), fun q h1 h2 => by rw [e1, hk q (Nat.lt_of_lt_of_le h1 hS.1) h2]; exact hS.2.1 q h1 h2, fun q hq => by
      rcases List.mem_append.mp hq with h | h
      · exact hS.2.2 q h
      · exact hL q h⟩ T' rfl X'
  exact ⟨t2, st t2 a1, b1⟩
end EGC
theorem lc_args (ad : Nat → Nat) : ∀ (av : List Value) (i : Nat), lv_args i (av.map (eg_cv ad)) = eg_lc ad (lv_args i av)
  | [], _ => rfl
  | v :: t, i => by
    simp only [List.map_cons, lv_args, eg_cv_cat, lc_args ad t, eg_lc]
theorem sl_len (ad : Nat → Nat) : ∀ (av : List Value), (lg_sl (av.map (eg_cv ad))).length = (lg_sl av).length
  | [] => rfl
  | v :: t => by
    have := sl_len ad t
    simp only [lg_sl] at this
    simp only [lg_sl, List.map_cons, List.flatMap_cons, eg_cv_cat, List.length_append, this]
    split <;> rfl
theorem MetA_of {ms : MS} {av : List Value} {σ : Sg} {R : Option Value → Sg → Prop} (hok : OkM ms) (hlen : (lg_sl av).length ≤ ms.2.2.1) (h : V ms 0 (lv_args 0 av) [] σ R) : MetA ms av σ R := by
  refine ⟨hok, fun l D ad cy => ?_⟩
  refine Met.ofW (cc := ms.2.1) (maxL := ms.2.2.1) (ret := ms.2.2.2.1) hok.2.2.2.1 rfl ?_
  intro p e s m args below meth c s₁ B hml hv
  obtain ⟨rfl, hG, hP⟩ := hv
  have hts := atoms_spec (ws := wsM ms) B.pre
  rw [lg_entry_eq]
  have hl := lv_entry (av.map (eg_cv ad)) (n := ms.2.2.1) (by rw [sl_len]; exact hlen)
  rw [lc_args] at hl
  exact h p l e s m _ below meth c D ad cy ⟨B.exec, B.bytes, B.returns, hml, findClass_of_methodNamed B.named, fun w hw => hts w (List.mem_cons_of_mem _ hw), B.notSynchronized, hG.1, hG.2.1, hG.2.2⟩ s.heap [] _ hP va_S.rf hl
theorem MetA.mono {ms : MS} {av : List Value} {σ : Sg} {R R' : Option Value → Sg → Prop} (h : MetA ms av σ R) (hR : ∀ v σ', R v σ' → R' v σ') : MetA ms av σ R' := by
  refine ⟨h.1, fun l D ad cy => ?_⟩
  have hM := h.2 l D ad cy
  intro p e ha hc hk s m args below hf happ hpre hcl
  obtain ⟨k, o, h1, h2, h3, ⟨⟨v, σ', hv, hr, hP⟩, hF⟩, hL⟩ := hM p e ha hc hk s m args below hf happ hpre hcl
  exact ⟨k, o, h1, h2, h3, ⟨⟨v, σ', hv, hR v σ' hr, hP⟩, hF⟩, hL⟩
theorem V.mono {ms : MS} {pc : Nat} {lv : Lv} {st : List Value} {σ : Sg} {R R' : Option Value → Sg → Prop} (h : V ms pc lv st σ R) (hR : ∀ v σ', R v σ' → R' v σ') : V ms pc lv st σ R' := by
  intro p l e s m args below meth c D ad cy C H locs ls hP hS hl T hT X
  obtain ⟨t, h1, o, h2, h3, ⟨⟨v, σ', hv, hr, hP2⟩, hF⟩, hL⟩ := h p l e s m args below meth c D ad cy C H locs ls hP hS hl T hT X
  exact ⟨t, h1, o, h2, h3, ⟨⟨v, σ', hv, hR v σ' hr, hP2⟩, hF⟩, hL⟩
theorem V.sub {ms : MS} {pc : Nat} {lv lv' : Lv} {st : List Value} {σ : Sg} {R : Option Value → Sg → Prop} (hs : ∀ q ∈ lv', q ∈ lv) (h : V ms pc lv' st σ R) : V ms pc lv st σ R := by
  intro p l e s m args below meth c D ad cy C H locs ls hP hS hl
  refine h p l e s m args below meth c D ad cy C H locs ls hP hS (hl.of fun q hq => ?_)
  obtain ⟨q0, h0, rfl⟩ := List.mem_map.mp hq
  exact List.mem_map.mpr ⟨q0, hs q0 h0, rfl⟩
end
section
/-! ENGINE 4: one instruction is sound -/
def KV (ms : MS) (K : Nat → Lv → List Value → Sg → Prop) (R : Option Value → Sg → Prop) : Prop := ∀ (a : Nat) (b : Lv) (c : List Value) (d : Sg), K a b c d → V ms a b c d R
theorem eg_kept {D : va_G} {ad : Nat → Nat} {cy : Nat → ClassId} {σ σ' : Sg} {H1 : Heap} {c : Nat} {e : va_E} (hc : c < NC) (he : e = cellE ad cy σ' c) (h : ∀ d, d ≠ c → σ' d = σ d) (hP : va_P D vwCl ((cellsA ad cy σ).set c (ad c, e)) H1) : va_P D vwCl (cellsA ad cy σ') H1 := by
  rw [cells_set hc he h] at hP; exact hP
theorem sgc_self {σ : Sg} {c : Nat} {f : Nat → Int32} : sgc σ c f c = f := if_pos rfl
theorem sgc_ne {σ : Sg} {c d : Nat} {f : Nat → Int32} (h : d ≠ c) : sgc σ c f d = σ d := if_neg h
theorem cellE_obj {ad : Nat → Nat} {cy : Nat → ClassId} {σ : Sg} {k : Nat} (h : (shp k).1 = 0) : cellE ad cy σ k = .inr ((shp k).2.1, eg_sl ad (σ k) 0 (shp k).2.2) := if_pos h
theorem cellE_arr {ad : Nat → Nat} {cy : Nat → ClassId} {σ : Sg} {k : Nat} (h0 : ¬ (shp k).1 = 0) (h : (shp k).1 ≤ 3) : cellE ad cy σ k = .inl (cy (shp k).1, (shp k).2.1, .inl (σ k)) := by
  unfold cellE; rw [if_neg h0, if_pos h]
theorem cellE_ref {ad : Nat → Nat} {cy : Nat → ClassId} {σ : Sg} {k : Nat} (h0 : ¬ (shp k).1 = 0) (h : ¬ (shp k).1 ≤ 3) : cellE ad cy σ k = .inl (cy (shp k).1, (shp k).2.1, .inr (.inr (.inr (.inr (fun i => some (ad (eg_rb (shp k).2.2 + eg_rs (shp k).2.2 * i))))))) := by
  unfold cellE; rw [if_neg h0, if_neg h]
theorem gfV_spec {σ : Sg} {a w y : Nat} {v : Value} (h : gfV σ a w y = some v) : a < NC ∧ (shp a).1 = 0 ∧ (shp a).2.1 = w ∧ ∀ ad : Nat → Nat, (eg_sl ad (σ a) 0 (shp a).2.2)[y]? = some (eg_cv ad v) := by
  unfold gfV at h
  cases hb : Nat.ble NC a with
  | true => rw [hb] at h; simp at h
  | false =>
    have ha : a < NC := by
      have : ¬ NC ≤ a := fun q => by rw [Nat.ble_eq_true_of_le q] at hb; cases hb
      omega
    rw [hb] at h
    simp only [cond_false] at h
    split at h
    · next ci sl he =>
      cases hw : Nat.beq ci w with
      | false => rw [hw] at h; simp at h
      | true =>
        rw [hw] at h
        simp only [cond_true] at h
        have hw2 : ci = w := Nat.eq_of_beq_eq_true hw
        refine ⟨ha, by rw [he], by rw [he]; exact hw2, fun ad => ?_⟩
        rw [he]
        show (eg_sl ad (σ a) 0 sl)[y]? = _
        rw [eg_sl_at, ← eg_nth_eq]
        cases hn : eg_nth sl y with
        | none => rw [hn] at h; cases h
        | some o =>
          rw [hn] at h
          cases o with
          | none => cases h; simp [eg_cv]
          | some r => cases h; simp [eg_cv]
    · cases h
theorem pfB_spec {a w y : Nat} (h : pfB a w y = true) : a < NC ∧ (shp a).1 = 0 ∧ (shp a).2.1 = w ∧ (shp a).2.2[y]? = some none := by
  unfold pfB at h
  cases hb : Nat.ble NC a with
  | true => rw [hb] at h; simp at h
  | false =>
    have ha : a < NC := by
      have : ¬ NC ≤ a := fun q => by rw [Nat.ble_eq_true_of_le q] at hb; cases hb
      omega
    rw [hb] at h
    simp only [cond_false] at h
    split at h
    · next ci sl he =>
      cases hw : Nat.beq ci w with
      | false => rw [hw] at h; simp at h
      | true =>
        rw [hw] at h
        simp only [cond_true] at h
        have hw2 : ci = w := Nat.eq_of_beq_eq_true hw
        refine ⟨ha, by rw [he], by rw [he]; exact hw2, ?_⟩
        rw [he]
        show sl[y]? = _
        rw [← eg_nth_eq]
        split at h
        · assumption
        · cases h
    · cases h
theorem rcvB_spec {b w : Nat} (hw : Nat.beq w 99 = false) (h : rcvB b w = true) : b < NC ∧ (shp b).1 = 0 ∧ (shp b).2.1 = w := by
  unfold rcvB at h
  rw [hw] at h
  simp only [cond_false] at h
  cases hb : Nat.ble NC b with
  | true => rw [hb] at h; simp at h
  | false =>
    have ha : b < NC := by
      have : ¬ NC ≤ b := fun q => by rw [Nat.ble_eq_true_of_le q] at hb; cases hb
      omega
    rw [hb] at h
    simp only [cond_false] at h
    split at h
    · next ci sl he => exact ⟨ha, by rw [he], by rw [he]; exact Nat.eq_of_beq_eq_true h⟩
    · cases h
theorem popA_spec : ∀ {n : Nat} {st acc as r : List Value}, popA n st acc = some (as, r) → ∃ ps : List Value, ps.length = n ∧ st = ps ++ r ∧ as = ps.reverse ++ acc
  | 0, st, acc, as, r, h => by
    simp only [popA, Option.some.injEq, Prod.mk.injEq] at h
    exact ⟨[], rfl, by simp [h.2], by simp [h.1]⟩
  | n + 1, v :: st, acc, as, r, h => by
    obtain ⟨ps, h1, h2, h3⟩ := popA_spec (by simpa only [popA] using h)
    exact ⟨v :: ps, by simp [h1], by simp [h2], by simp [h3]⟩
  | n + 1, [], acc, as, r, h => by simp [popA] at h
theorem stk_le {r : List Value} (ad : Nat → Nat) (h : Nat.ble (stkB r) 8 = true) : ((r.map (eg_cv ad)).map fun v => v.category).sum ≤ 8 := by
  have h2 : ∀ l : List Value, ((l.map (eg_cv ad)).map fun v => v.category).sum = stkB l := by
    intro l
    induction l with
    | nil => rfl
    | cons v t ih => simp only [List.map_cons, List.sum_cons, ih, stkB, eg_cv_cat]
  rw [h2]
  exact Nat.le_of_ble_eq_true h
theorem vpush_map (ad : Nat → Nat) (v : Option Value) (r : List Value) : (v.map (eg_cv ad)).toList ++ r.map (eg_cv ad) = (vpush v r).map (eg_cv ad) := by
  cases v <;> rfl
theorem cx_w {ms : MS} {p : Program} {s : State} {m : MethodId} {args : Array Value} {meth : Method} {c : Code} {D : va_G} {ad : Nat → Nat} {cy : Nat → ClassId} (C : Cx ms p s m args meth c D ad cy) {w : Cond} {i : Nat} (h : decide (lw_tbl[i]? = some w) = true) (hg : goodWord w = true) : w.before args s = true := C.2.2.2.2.2.1 w (Gd_in (of_decide_eq_true h) hg)

theorem uG_of (ws : List Cond) (ps : List Nat) (hp : ws = ps.filterMap (fun i => lw_tbl[i]?)) (h : ws.all goodWord = true) : ∀ w ∈ ws, w ∈ Gd := by
  intro w hw
  have h1 := List.all_eq_true.mp h w hw
  rw [hp] at hw
  obtain ⟨i, -, hi⟩ := List.mem_filterMap.mp hw
  exact Gd_in hi h1
theorem uGX0 : ∀ w ∈ u_ws RX0 TX0 3, w ∈ Gd := uG_of _ [325, 327, 329] (by decide +kernel) (by decide +kernel)
theorem uGX1 : ∀ w ∈ u_ws RX1 TX1 8, w ∈ Gd := uG_of _ [123, 125, 127, 129, 131, 133, 135, 137] (by decide +kernel) (by decide +kernel)
theorem uGX2 : ∀ w ∈ u_ws RX2 TX2 8, w ∈ Gd := uG_of _ [278, 280, 282, 284, 286, 288, 290, 292] (by decide +kernel) (by decide +kernel)
theorem uGX3 : ∀ w ∈ u_ws RX3 TX3 4, w ∈ Gd := uG_of _ [306, 308, 310, 312] (by decide +kernel) (by decide +kernel)
theorem uGX4 : ∀ w ∈ u_ws RX4 TX4 12, w ∈ Gd := uG_of _ [172, 174, 176, 178, 180, 182, 184, 186, 188, 190, 192, 194] (by decide +kernel) (by decide +kernel)
theorem uGX5 : ∀ w ∈ u_ws RX5 TX5 8, w ∈ Gd := uG_of _ [246, 248, 250, 252, 254, 256, 258, 260] (by decide +kernel) (by decide +kernel)
theorem uGX6 : ∀ w ∈ u_ws RX6 TX6 6, w ∈ Gd := uG_of _ [213, 215, 217, 219, 221, 223] (by decide +kernel) (by decide +kernel)
theorem uGX7 : ∀ w ∈ u_ws RX7 TX7 10, w ∈ Gd := uG_of _ [342, 344, 346, 348, 350, 352, 354, 356, 358, 360] (by decide +kernel) (by decide +kernel)
theorem uGX8 : ∀ w ∈ u_ws RX8 TX8 28, w ∈ Gd := uG_of _ [851, 853, 855, 857, 859, 861, 863, 865, 867, 869, 871, 873, 875, 877, 879, 881, 883, 885, 887, 889, 891, 893, 895, 897, 899, 901, 903, 905] (by decide +kernel) (by decide +kernel)
theorem uG_at {w : Nat} (h : w < 9) : ∀ x ∈ u_ws (RRx w) (TTx w) (NNx w), x ∈ Gd := by
  match w, h with
  | 0, _ => exact uGX0 | 1, _ => exact uGX1 | 2, _ => exact uGX2 | 3, _ => exact uGX3 | 4, _ => exact uGX4 | 5, _ => exact uGX5 | 6, _ => exact uGX6 | 7, _ => exact uGX7 | 8, _ => exact uGX8
theorem lk_nil (d v : Int) : Op.lookupswitch.offset [] d v = d := by first | rfl | simp [Op.lookupswitch.offset]
theorem lk_cons (k o : Int) (t : List (Int × Int)) (d v : Int) : Op.lookupswitch.offset ((k, o) :: t) d v = if k = v then o else Op.lookupswitch.offset t d v := rfl
theorem lkAll_get {x : Int32} {pc : Nat} {K : Nat → Prop} {d : Int} : ∀ {ps : List (Int × Int)}, lkAll x pc K d ps → K ((pc : Int) + Op.lookupswitch.offset ps d x.toInt).toNat
  | [], h => by rw [lk_nil]; exact h
  | (k, o) :: t, h => by
    rw [lk_cons]
    by_cases e : k = x.toInt
    · rw [if_pos e]; exact h.1 e.symm
    · rw [if_neg e]; exact lkAll_get (h.2 (fun q => e q.symm))
theorem lk_nonneg {pc : Nat} {d v : Int} (hd : 0 ≤ (pc : Int) + d) : ∀ {ps : List (Int × Int)}, (∀ o ∈ ps, 0 ≤ (pc : Int) + o.2) → 0 ≤ (pc : Int) + Op.lookupswitch.offset ps d v
  | [], _ => by rw [lk_nil]; exact hd
  | (k, o) :: t, h => by
    rw [lk_cons]
    by_cases e : k = v
    · rw [if_pos e]; exact h (k, o) List.mem_cons_self
    · rw [if_neg e]; exact lk_nonneg hd (fun q hq => h q (List.mem_cons_of_mem _ hq))
theorem swAll_get {x : Int32} {pc : Nat} {K : Nat → Prop} : ∀ {os : List Int} {v : Int} {j : Nat} {o : Int}, swAll x pc K os v → os[j]? = some o → x.toInt = v + j → K ((pc : Int) + o).toNat
  | [], v, j, o, _, hj, _ => by simp at hj
  | a :: t, v, 0, o, h, hj, hx => by
    have e : a = o := by simpa using hj
    subst e
    exact h.1 (by simpa using hx)
  | a :: t, v, j + 1, o, h, hj, hx => swAll_get h.2 (by simpa using hj) (by rw [hx]; push_cast; omega)
theorem eg_nar {v : Int32} (h : v = 0 ∨ v = 1) : narrow .boolean (.int v) = .int v ∧ fits .boolean (.int v) = true := by
  rcases h with rfl | rfl <;> exact ⟨by decide +kernel, by decide +kernel⟩
theorem stB_inst {cm : MS} (h : OkM cm) (hs : (!stB cm.1) = true) : Cond.instanceMethod cm.1 ∈ Gd ∧ Cond.selects cm.1.cls cm.1 cm.1 ∈ Gd := h.2.2.1.1 (by simpa using hs)
theorem eg_cb {R : Room} {s : State} {args : Array Value} {own : String} {index n : Nat} {cm : MS} {ms : MS} (hts : ∀ w ∈ Gd, w.before args s = true) (hok : OkM cm) (hl : (Cond.methodLink own index cm.1).before args s = true) (hpar : parB cm n = true) (hroom : roomB ms cm = true) (hR : R = ms.2.2.2.2) : CallB R s args own index cm.1 cm.2.1 cm.2.2.1 cm.2.2.2.1 (wsM cm) cm.2.2.2.2 0 0 n := by
  subst hR
  simp only [roomB, Bool.and_eq_true] at hroom
  refine callB_of n hts (fun w hw => ?_) rfl hok.2.2.2.2.2.1 hok.2.2.2.2.2.2 (hts _ hok.2.1) hl ⟨hok.2.2.2.2.1.1, hok.2.2.2.2.1.2, of_decide_eq_true hpar⟩ ⟨Nat.le_of_ble_eq_true hroom.1, Nat.le_of_ble_eq_true hroom.2⟩
  rcases List.mem_cons.mp hw with rfl | h
  · exact Gd_good _ hok.1
  · exact Gd_good _ h
theorem maG0 : Cond.initialized "java/lang/Math" ∈ Gd := Gd_in (i := 79) (by decide +kernel) (by decide +kernel)
theorem minG1 : Cond.static Lib.Math.min.name ∈ Gd := Gd_in (i := 570) (by decide +kernel) (by decide +kernel)
theorem minG2 : Cond.code Lib.Math.min.name Lib.Math.min.code 2 (some .int) ∈ Gd := Gd_in (i := 571) (by decide +kernel) (by decide +kernel)
theorem maxG1 : Cond.static Lib.Math.max.name ∈ Gd := Gd_in (i := 639) (by decide +kernel) (by decide +kernel)
theorem maxG2 : Cond.code Lib.Math.max.name Lib.Math.max.code 2 (some .int) ∈ Gd := Gd_in (i := 640) (by decide +kernel) (by decide +kernel)
theorem acG1 : Cond.native arraycopyName ∈ Gd := Gd_in (i := 509) (by decide +kernel) (by decide +kernel)
theorem acG2 : Cond.static arraycopyName ∈ Gd := Gd_in (i := 508) (by decide +kernel) (by decide +kernel)
theorem acG3 : Cond.initialized "java/lang/System" ∈ Gd := Gd_in (i := 78) (by decide +kernel) (by decide +kernel)
set_option maxHeartbeats 4000000 in
theorem wpI_sd {ms : MS} {ins : Instr} {npc x y w : Nat} {z : Int32} {zl : Int64} {cm : MS} {pc : Nat} {lv : Lv} {st : List Value} {σ : Sg} {K : Nat → Lv → List Value → Sg → Prop} {R : Option Value → Sg → Prop} (hch : chkE ms pc (ins, npc, x, y, w, z, zl, cm) = true) (hK : KV ms K R) (h : wpI ins npc x y w z zl cm ms.2.2.2.1 pc lv st σ K R) : V ms pc lv st σ R := by
  intro p l e s m args below meth c D ad cy C H locs ls hP hS hl
  simp only [chkE, Bool.and_eq_true] at hch
  obtain ⟨⟨hd0, hn⟩, hX⟩ := hch
  have hd := of_decide_eq_true hd0
  have hn := Nat.eq_of_beq_eq_true hn
  subst hn
  have hx := C.1
  have hb := C.2.1
  have go : ∀ {a : Nat} {b : Lv} {d : List Value} {σ2 : Sg} {H2 : Heap} {locs2 : List Loc} {ls2 : Array Slot}, K a b d σ2 → va_P D vwCl (cellsA ad cy σ2) H2 → va_S (AA ad) s.heap H2 locs2 → lv_has ls2 ms.2.2.1 (eg_lc ad b) → W p l e ms.2.2.2.2 s m args below meth c H2 locs2 0 0 (MQ below (QQ D ad cy R) args s 0 0 (AA ad)) (F0 m a ls2 (d.map (eg_cv ad))) := fun k a b c9 => hK _ _ _ _ k p l e s m args below meth c D ad cy C _ _ _ a b c9
  cases ins with
  | iload_n k =>
    simp only [wpI] at h
    have hy : (k : Nat) = y := Nat.eq_of_beq_eq_true hX
    split at h
    · next a he => exact lv_iload_n hx hb hd hy (lget_has hl he) (go h hP hS hl)
    · exact h.elim
  | iload k =>
    simp only [wpI] at h
    have hy : k = y := Nat.eq_of_beq_eq_true hX
    split at h
    · next a he => exact lv_iload hx hb hd (by rw [hy]; exact lget_has hl he) (go h hP hS hl)
    · exact h.elim
  | aload_n k =>
    simp only [wpI] at h
    have hy : (k : Nat) = y := Nat.eq_of_beq_eq_true hX
    split at h
    · next a he => exact lv_aload_n hx hb hd hy (lget_has hl he) (go h hP hS hl)
    · exact h.elim
  | aload k =>
    simp only [wpI] at h
    have hy : k = y := Nat.eq_of_beq_eq_true hX
    split at h
    · next a he => exact lv_aload hx hb hd (by rw [hy]; exact lget_has hl he) (go h hP hS hl)
    · exact h.elim
  | lload_n k =>
    simp only [wpI] at h
    have hy : (k : Nat) = y := Nat.eq_of_beq_eq_true hX
    split at h
    · next a he => exact lv_lload_n hx hb hd hy (lget_has hl he) (go h hP hS hl)
    · exact h.elim
  | lload k =>
    simp only [wpI] at h
    have hy : k = y := Nat.eq_of_beq_eq_true hX
    split at h
    · next a he => exact lv_lload hx hb hd (by rw [hy]; exact lget_has hl he) (go h hP hS hl)
    · exact h.elim
  | istore_n k =>
    simp only [wpI] at h
    simp only [chkX, Bool.and_eq_true] at hX
    have hy : (k : Nat) = y := Nat.eq_of_beq_eq_true hX.1
    have hy2 : y + 1 ≤ ms.2.2.1 := Nat.le_of_ble_eq_true hX.2
    split at h
    · exact lv_istore_n hx hb hd hy hl (by omega) rfl (fun ls2 hl2 => go h hP hS (lset_has hl2))
    · exact h.elim
  | istore k =>
    simp only [wpI] at h
    simp only [chkX, Bool.and_eq_true] at hX
    have hy : k = y := Nat.eq_of_beq_eq_true hX.1
    have hy2 : y + 1 ≤ ms.2.2.1 := Nat.le_of_ble_eq_true hX.2
    subst hy
    split at h
    · exact lv_istore hx hb hd hl (by omega) rfl (fun ls2 hl2 => go h hP hS (lset_has hl2))
    · exact h.elim
  | astore_n k =>
    simp only [wpI] at h
    simp only [chkX, Bool.and_eq_true] at hX
    have hy : (k : Nat) = y := Nat.eq_of_beq_eq_true hX.1
    have hy2 : y + 1 ≤ ms.2.2.1 := Nat.le_of_ble_eq_true hX.2
    split at h
    · exact lv_astore_n hx hb hd hy hl (by omega) rfl (fun ls2 hl2 => go h hP hS (lset_has hl2))
    · exact h.elim
  | astore k =>
    simp only [wpI] at h
    simp only [chkX, Bool.and_eq_true] at hX
    have hy : k = y := Nat.eq_of_beq_eq_true hX.1
    have hy2 : y + 1 ≤ ms.2.2.1 := Nat.le_of_ble_eq_true hX.2
    subst hy
    split at h
    · exact lv_astore hx hb hd hl (by omega) rfl (fun ls2 hl2 => go h hP hS (lset_has hl2))
    · exact h.elim
  | lstore_n k =>
    simp only [wpI] at h
    simp only [chkX, Bool.and_eq_true] at hX
    have hy : (k : Nat) = y := Nat.eq_of_beq_eq_true hX.1
    have hy2 : y + 2 ≤ ms.2.2.1 := Nat.le_of_ble_eq_true hX.2
    split at h
    · exact lv_lstore_n hx hb hd hy hl (by omega) rfl (fun ls2 hl2 => go h hP hS (lset2_has hl2))
    · exact h.elim
  | iinc k n =>
    simp only [wpI] at h
    simp only [chkX, Bool.and_eq_true] at hX
    have hy : k = y := Nat.eq_of_beq_eq_true hX.1.1
    have hy2 : y + 1 ≤ ms.2.2.1 := Nat.le_of_ble_eq_true hX.1.2
    have hz := of_decide_eq_true hX.2
    subst hy
    split at h
    · next a he =>
      obtain ⟨j, hj⟩ := List.getElem?_of_mem (show (k, eg_cv ad (.int a)) ∈ eg_lc ad lv from List.mem_map.mpr ⟨(k, .int a), lget_mem he, rfl⟩)
      exact lv_iinc (v := a + z) hx hb hd hl hj (by rw [hz]) (by omega) rfl (fun ls2 hl2 => go h hP hS (lset_has hl2))
    · exact h.elim
  | iconst n => exact lv_iconst hx hb hd (of_decide_eq_true hX) (go h hP hS hl)
  | bipush n => exact lv_bipush hx hb hd (of_decide_eq_true hX) (go h hP hS hl)
  | sipush n => exact lv_sipush hx hb hd (of_decide_eq_true hX) (go h hP hS hl)
  | lconst n => exact lv_lconst hx hb hd (of_decide_eq_true hX) (go h hP hS hl)
  | ldc idx =>
    simp only [wpI] at h
    simp only [chkX] at hX
    cases hw : Nat.beq w 97 with
    | true =>
      rw [hw] at h hX
      simp only [cond_true, Bool.and_eq_true] at h hX
      have hi := Nat.eq_of_beq_eq_true hX.2
      subst hi
      have hr := C.2.2.2.2.2.2.2.2.1.2.2 y (Nat.le_of_ble_eq_true hX.1.2)
      exact va_ldcS hx hb (own := "DatedJars$Reader") (by rw [← of_decide_eq_true hX.1.1]; exact C.2.2.2.2.1) hr hd (go h hP hS hl)
    | false =>
      rw [hw] at h hX
      exact lv_ldc hx hb C.2.2.2.2.1 (cx_w C hX rfl) hd (go h hP hS hl)
  | ldc_w idx => exact lv_ldcw hx hb C.2.2.2.2.1 (cx_w C hX rfl) hd (go h hP hS hl)
  | ldc2_w idx => exact lv_ldc2 hx hb C.2.2.2.2.1 (cx_w C hX rfl) hd (go h hP hS hl)
  | iadd =>
    simp only [wpI] at h
    split at h
    · exact lv_iadd hx hb hd (go h hP hS hl)
    · exact h.elim
  | isub =>
    simp only [wpI] at h
    split at h
    · exact lv_isub hx hb hd (go h hP hS hl)
    · exact h.elim
  | imul =>
    simp only [wpI] at h
    split at h
    · exact lv_imul hx hb hd (go h hP hS hl)
    · exact h.elim
  | iand =>
    simp only [wpI] at h
    split at h
    · exact lv_iand hx hb hd (go h hP hS hl)
    · exact h.elim
  | ior =>
    simp only [wpI] at h
    split at h
    · exact lv_ior hx hb hd (go h hP hS hl)
    · exact h.elim
  | ixor =>
    simp only [wpI] at h
    split at h
    · exact lv_ixor hx hb hd (go h hP hS hl)
    · exact h.elim
  | ishl =>
    simp only [wpI] at h
    split at h
    · exact lv_ishl hx hb hd (go h hP hS hl)
    · exact h.elim
  | ishr =>
    simp only [wpI] at h
    split at h
    · exact lv_ishr hx hb hd (go h hP hS hl)
    · exact h.elim
  | ineg =>
    simp only [wpI] at h
    split at h
    · exact lv_ineg hx hb hd (go h hP hS hl)
    · exact h.elim
  | ladd =>
    simp only [wpI] at h
    split at h
    · exact lv_ladd hx hb hd (go h hP hS hl)
    · exact h.elim
  | lmul =>
    simp only [wpI] at h
    split at h
    · exact lv_lmul hx hb hd (go h hP hS hl)
    · exact h.elim
  | land =>
    simp only [wpI] at h
    split at h
    · exact lv_land hx hb hd (go h hP hS hl)
    · exact h.elim
  | lor =>
    simp only [wpI] at h
    split at h
    · exact lv_lor hx hb hd (go h hP hS hl)
    · exact h.elim
  | lcmp =>
    simp only [wpI] at h
    split at h
    · exact W.lcmp hx hb hd (go h hP hS hl)
    · exact h.elim
  | iushr =>
    simp only [wpI] at h
    split at h
    · exact lv_iushr hx hb hd rfl (go h hP hS hl)
    · exact h.elim
  | i2l =>
    simp only [wpI] at h
    split at h
    · exact lv_i2l hx hb hd rfl (go h hP hS hl)
    · exact h.elim
  | l2i =>
    simp only [wpI] at h
    split at h
    · exact lv_l2i hx hb hd rfl (go h hP hS hl)
    · exact h.elim
  | i2b =>
    simp only [wpI] at h
    split at h
    · exact lv_i2b hx hb hd rfl (go h hP hS hl)
    · exact h.elim
  | lshl =>
    simp only [wpI] at h
    split at h
    · exact lv_lshl hx hb hd rfl (go h hP hS hl)
    · exact h.elim
  | lshr =>
    simp only [wpI] at h
    split at h
    · exact lv_lshr hx hb hd rfl (go h hP hS hl)
    · exact h.elim
  | lushr =>
    simp only [wpI] at h
    split at h
    · exact lv_lushr hx hb hd rfl (go h hP hS hl)
    · exact h.elim
  | idiv =>
    simp only [wpI] at h
    split at h
    · exact lv_idiv hx hb hd h.1 (go h.2 hP hS hl)
    · exact h.elim
  | irem =>
    simp only [wpI] at h
    split at h
    · exact lv_irem hx hb hd h.1 (go h.2 hP hS hl)
    · exact h.elim
  | lrem =>
    simp only [wpI] at h
    split at h
    · exact lv_lrem hx hb hd h.1 (go h.2 hP hS hl)
    · exact h.elim
  | dup =>
    simp only [wpI] at h
    split at h
    · next a r =>
      cases hc : Nat.beq a.category 1 with
      | true =>
        rw [hc] at h
        exact lv_dup hx hb hd (by rw [eg_cv_cat]; exact Nat.eq_of_beq_eq_true hc) (go h hP hS hl)
      | false => rw [hc] at h; exact h.elim
    · exact h.elim
  | pop =>
    simp only [wpI] at h
    split at h
    · next a r =>
      cases hc : Nat.beq a.category 1 with
      | true =>
        rw [hc] at h
        exact lv_pop hx hb hd (by rw [eg_cv_cat]; exact Nat.eq_of_beq_eq_true hc) (go h hP hS hl)
      | false => rw [hc] at h; exact h.elim
    · exact h.elim
  | dup2 =>
    simp only [wpI] at h
    split at h
    · next a b r =>
      cases hc : (Nat.beq a.category 1 && Nat.beq b.category 1) with
      | true =>
        rw [hc] at h
        simp only [Bool.and_eq_true] at hc
        exact lv_dup2_11 hx hb hd (by rw [eg_cv_cat]; exact Nat.eq_of_beq_eq_true hc.1) (by rw [eg_cv_cat]; exact Nat.eq_of_beq_eq_true hc.2) (go h hP hS hl)
      | false => rw [hc] at h; exact h.elim
    · exact h.elim
  | goto off => exact lv_goto hx hb hd (of_decide_eq_true hX) (go h hP hS hl)
  | ifCond cnd off =>
    have ht := of_decide_eq_true hX
    cases cnd <;> simp only [wpI] at h <;> split at h
    · exact lv_if_eq hx hb hd ht (fun q => go (h.1 q) hP hS hl) (fun q => go (h.2 q) hP hS hl)
    · exact h.elim
    · exact lv_if_ne hx hb hd ht (fun q => go (h.1 q) hP hS hl) (fun q => go (h.2 q) hP hS hl)
    · exact h.elim
    · exact lv_if_lt hx hb hd ht (fun q => go (h.1 q) hP hS hl) (fun q => go (h.2 q) hP hS hl)
    · exact h.elim
    · exact lv_if_ge hx hb hd ht (fun q => go (h.1 q) hP hS hl) (fun q => go (h.2 q) hP hS hl)
    · exact h.elim
    · exact lv_if_gt hx hb hd ht (fun q => go (h.1 q) hP hS hl) (fun q => go (h.2 q) hP hS hl)
    · exact h.elim
    · exact lv_if_le hx hb hd ht (fun q => go (h.1 q) hP hS hl) (fun q => go (h.2 q) hP hS hl)
    · exact h.elim
  | if_icmp cnd off =>
    have ht := of_decide_eq_true hX
    cases cnd <;> simp only [wpI] at h <;> split at h
    · exact lv_icmp_eq hx hb hd ht (fun q => go (h.1 q) hP hS hl) (fun q => go (h.2 q) hP hS hl)
    · exact h.elim
    · exact lv_icmp_ne hx hb hd ht (fun q => go (h.1 q) hP hS hl) (fun q => go (h.2 q) hP hS hl)
    · exact h.elim
    · exact lv_icmp_lt hx hb hd ht (fun q => go (h.1 q) hP hS hl) (fun q => go (h.2 q) hP hS hl)
    · exact h.elim
    · exact lv_icmp_ge hx hb hd ht (fun q => go (h.1 q) hP hS hl) (fun q => go (h.2 q) hP hS hl)
    · exact h.elim
    · exact lv_icmp_gt hx hb hd ht (fun q => go (h.1 q) hP hS hl) (fun q => go (h.2 q) hP hS hl)
    · exact h.elim
    · exact lv_icmp_le hx hb hd ht (fun q => go (h.1 q) hP hS hl) (fun q => go (h.2 q) hP hS hl)
    · exact h.elim
  | tableswitch d lo hi offs =>
    simp only [wpI] at h
    simp only [chkX, Bool.and_eq_true, decide_eq_true_eq] at hX
    obtain ⟨⟨hd1, ho1⟩, hsz⟩ := hX
    split at h
    · next a r =>
      by_cases hr : a.toInt < lo ∨ hi < a.toInt
      · exact lv_tableOut hx hb hd hr (Int.toNat_of_nonneg hd1).symm (go (h.1 hr) hP hS hl)
      · have h1 : ¬ a.toInt < lo := fun q => hr (Or.inl q)
        have h2 : ¬ hi < a.toInt := fun q => hr (Or.inr q)
        have hj : (a.toInt - lo).toNat < offs.size := by omega
        have ho : offs[(a.toInt - lo).toNat]? = some offs[(a.toInt - lo).toNat] := Array.getElem?_eq_getElem hj
        have ho2 : offs.toList[(a.toInt - lo).toNat]? = some offs[(a.toInt - lo).toNat] := by rw [Array.getElem?_toList]; exact ho
        have hk := swAll_get h.2 ho2 (by omega)
        have hnn := of_decide_eq_true (List.all_eq_true.mp ho1 _ (List.mem_of_getElem? ho2))
        exact lv_tableIn hx hb hd h1 h2 ho (Int.toNat_of_nonneg hnn).symm (go hk hP hS hl)
    · exact h.elim
  | lookupswitch d ps =>
    simp only [wpI] at h
    simp only [chkX, Bool.and_eq_true, decide_eq_true_eq] at hX
    obtain ⟨⟨hd1, ho1⟩, hsz⟩ := hX
    split at h
    · next a r =>
      have hk := lkAll_get h
      have hnn := lk_nonneg (v := a.toInt) hd1 (ps := ps.toList) (fun o ho => of_decide_eq_true (List.all_eq_true.mp ho1 o ho))
      exact lv_lookup hx hb hd hsz rfl (Int.toNat_of_nonneg hnn).symm (go hk hP hS hl)
    · exact h.elim
  | getfield idx =>
    simp only [wpI] at h
    simp only [chkX, Bool.and_eq_true] at hX
    obtain ⟨⟨hw, hy⟩, hlk⟩ := hX
    have hw : w < 9 := Nat.le_of_ble_eq_true hw
    have hy : y < NNx w := Nat.le_of_ble_eq_true hy
    split at h
    · next a r =>
      split at h
      · next v hv =>
        obtain ⟨ha, h0, h1, h2⟩ := gfV_spec hv
        have he := cells_at (ad := ad) (cy := cy) (σ := σ) ha
        rw [cellE_obj h0, h1] at he
        exact va_get hx hb C.2.2.2.2.2.1 (uG_at hw) C.2.2.2.2.1 C.2.2.2.2.2.2.2.1 hP a he (cl_at hw) y hy (cx_w C hlk rfl) (fun _ q => q) (h2 ad) hd (go h hP hS hl)
      · exact h.elim
    · exact h.elim
  | putfield idx =>
    simp only [wpI] at h
    simp only [chkX, Bool.and_eq_true] at hX
    obtain ⟨⟨⟨⟨hw, hy⟩, hlk⟩, hfin⟩, hty⟩ := hX
    have hw : w < 9 := Nat.le_of_ble_eq_true hw
    have hy : y < NNx w := Nat.le_of_ble_eq_true hy
    have hfin : (TTx w y).2.2.2 = false := by simpa using hfin
    have hty := of_decide_eq_true hty
    split at h
    · next v a r =>
      cases hpf : pfB a w y with
      | false => rw [hpf] at h; exact h.elim
      | true =>
        rw [hpf] at h
        simp only [cond_true] at h
        obtain ⟨ha, h0, h1, h2⟩ := pfB_spec hpf
        have he := cells_at (ad := ad) (cy := cy) (σ := σ) ha
        rw [cellE_obj h0, h1] at he
        have hlen : y < (eg_sl ad (σ a) 0 (shp a).2.2).length := by
          rw [eg_sl_len]; exact (List.getElem?_eq_some_iff.mp h2).1
        have fin : K (pc + 3) lv r (sgu σ a y v) ∧ (narrow (TYx w y) (.int v) = .int v ∧ fits (TYx w y) (.int v) = true) := by
          rw [hty]
          cases hq : (Nat.beq w 6 && Nat.beq y 5) with
          | true => rw [hq] at h; exact ⟨h.2, eg_nar h.1⟩
          | false => rw [hq] at h; exact ⟨h, rfl, rfl⟩
        refine va_put hx hb C.2.2.2.2.2.1 (uG_at hw) (TYx w) (ty_at hw) (nm_at hw) C.2.2.2.2.1 C.2.2.2.2.2.2.2.1 hP (cells_D C.2.2.2.2.2.2.2.2.2 cy σ) hS a he (cl_at hw) y hy (cx_w C hlk rfl) (fun _ q => q) hfin (ty_at hw y hy) fin.2.1 fin.2.2 hlen hd (fun H1 locs1 hP1 hD1 hS1 => ?_)
        refine go fin.1 (eg_kept ha ?_ (fun d hd9 => sgc_ne hd9) hP1) hS1 hl
        rw [cellE_obj h0, h1]
        show Sum.inr (w, (eg_sl ad (σ a) 0 (shp a).2.2).set y (.int v)) = Sum.inr (w, eg_sl ad (sgc σ a (upd (σ a) y v) a) 0 (shp a).2.2)
        rw [sgc_self, eg_sl_set ad (σ a) v _ 0 y h2, Nat.zero_add]
    · exact h.elim
  | iaload =>
    simp only [wpI] at h
    split at h
    · next i a r =>
      obtain ⟨⟨ha, ht, hi⟩, h⟩ := h
      have he := cells_at (ad := ad) (cy := cy) (σ := σ) ha
      rw [cellE_arr (by omega) (by omega), ht] at he
      exact va_iald hx hb C.2.2.2.2.2.2.2.1 hP a 0 he rfl hi hd (go h hP hS hl)
    · exact h.elim
  | iastore =>
    simp only [wpI] at h
    split at h
    · next v i a r =>
      obtain ⟨⟨ha, ht, hi⟩, h⟩ := h
      have he := cells_at (ad := ad) (cy := cy) (σ := σ) ha
      rw [cellE_arr (by omega) (by omega), ht] at he
      refine va_iast hx hb C.2.2.2.2.2.2.2.1 hP (cells_D C.2.2.2.2.2.2.2.2.2 cy σ) hS a 0 he rfl hi hd (fun H1 locs1 hP1 hD1 hS1 => ?_)
      refine go h (eg_kept ha ?_ (fun d hd9 => sgc_ne hd9) hP1) hS1 hl
      rw [cellE_arr (by omega) (by omega), ht]
      show _ = Sum.inl (cy 1, (shp a).2.1, Sum.inl (sgc σ a (upd (σ a) i.toNatClampNeg v) a))
      rw [sgc_self]
    · exact h.elim
  | baload =>
    simp only [wpI] at h
    split at h
    · next i a r =>
      obtain ⟨⟨ha, ht, hi⟩, h⟩ := h
      have he := cells_at (ad := ad) (cy := cy) (σ := σ) ha
      cases hq : Nat.beq (shp a).1 2 with
      | true =>
        rw [hq] at ht
        simp only [cond_true] at ht
        rw [cellE_arr (by omega) (by omega), ht] at he
        exact va_bald hx hb C.2.2.2.2.2.2.2.1 hP a 1 he rfl hi hd (go h hP hS hl)
      | false =>
        rw [hq] at ht
        simp only [cond_false] at ht
        rw [cellE_arr (by omega) (by omega), ht] at he
        exact va_zald hx hb C.2.2.2.2.2.2.2.1 hP a 2 he rfl hi hd (go h hP hS hl)
    · exact h.elim
  | bastore =>
    simp only [wpI] at h
    split at h
    · next v i a r =>
      obtain ⟨⟨ha, ht, hi⟩, h⟩ := h
      have he := cells_at (ad := ad) (cy := cy) (σ := σ) ha
      cases hq : Nat.beq (shp a).1 2 with
      | true =>
        rw [hq] at ht h
        simp only [cond_true] at ht h
        rw [cellE_arr (by omega) (by omega), ht] at he
        refine va_bast hx hb C.2.2.2.2.2.2.2.1 hP (cells_D C.2.2.2.2.2.2.2.2.2 cy σ) hS a 1 he rfl hi hd (fun H1 locs1 hP1 hD1 hS1 => ?_)
        refine go h (eg_kept ha ?_ (fun d hd9 => sgc_ne hd9) hP1) hS1 hl
        rw [cellE_arr (by omega) (by omega), ht]
        show _ = Sum.inl (cy 2, (shp a).2.1, Sum.inl (sgc σ a (upd (σ a) i.toNatClampNeg (vp_nar .byte v)) a))
        rw [sgc_self]
      | false =>
        rw [hq] at ht h
        simp only [cond_false] at ht h
        rw [cellE_arr (by omega) (by omega), ht] at he
        refine va_zast hx hb C.2.2.2.2.2.2.2.1 hP (cells_D C.2.2.2.2.2.2.2.2.2 cy σ) hS a 2 he rfl hi hd (fun H1 locs1 hP1 hD1 hS1 => ?_)
        refine go h (eg_kept ha ?_ (fun d hd9 => sgc_ne hd9) hP1) hS1 hl
        rw [cellE_arr (by omega) (by omega), ht]
        show _ = Sum.inl (cy 3, (shp a).2.1, Sum.inl (sgc σ a (upd (σ a) i.toNatClampNeg (vp_nar .boolean v)) a))
        rw [sgc_self]
    · exact h.elim
  | aaload =>
    simp only [wpI] at h
    split at h
    · next i a r =>
      obtain ⟨⟨ha, ht, hi⟩, h⟩ := h
      have he := cells_at (ad := ad) (cy := cy) (σ := σ) ha
      have hlt : i.toNatClampNeg < (shp a).2.1 := Nat.not_le.mp fun q => hi (Or.inr q)
      cases hq : Nat.beq (shp a).1 4 with
      | true =>
        rw [hq] at ht
        simp only [cond_true] at ht
        rw [cellE_ref (by omega) (by omega), ht] at he
        exact va_aldq (C := "DatedJars$Land") hx hb C.2.2.2.2.2.2.2.1 hP a 3 he rfl hi hd (go h hP hS hl)
      | false =>
        rw [hq] at ht
        simp only [cond_false] at ht
        rw [cellE_ref (by omega) (by omega), ht] at he
        exact W.aald (v := va_rf (some (ad (eg_rb (shp a).2.2 + eg_rs (shp a).2.2 * i.toNatClampNeg)))) (ty := .array .int) hx hb (hP a _ he) ((C.2.2.2.2.2.2.2.1.2 4 _ rfl).1 (shp a).2.1 (fun j => va_rf (some (ad (eg_rb (shp a).2.2 + eg_rs (shp a).2.2 * j))))) rfl (fun q => by cases q) (by show ¬ (i < 0 ∨ (arrV _ _ _).slots.size ≤ _); rw [arrV_size]; exact hi) (by show (arrV _ _ _).slots[_]? = _; rw [arrV_read _ _ hlt]) rfl rfl hd (go h hP hS hl)
    · exact h.elim
  | arraylength =>
    simp only [wpI] at h
    split at h
    · next a r =>
      cases hq : Nat.ble NC a with
      | true => rw [hq] at h; exact h.elim
      | false =>
        have ha : a < NC := Nat.lt_of_not_le (fun q => by rw [Nat.ble_eq_true_of_le q] at hq; cases hq)
        rw [hq] at h
        simp only [cond_false] at h
        cases ht : Nat.beq (shp a).1 1 with
        | false => rw [ht] at h; exact h.elim
        | true =>
          rw [ht] at h
          have ht := Nat.eq_of_beq_eq_true ht
          have he := cells_at (ad := ad) (cy := cy) (σ := σ) ha
          rw [cellE_arr (by omega) (by omega), ht] at he
          exact va_alen hx hb C.2.2.2.2.2.2.2.1 hP a 0 he (ty := .int) rfl rfl hd (go h hP hS hl)
    · exact h.elim
  | invokevirtual idx =>
    simp only [wpI] at h
    simp only [chkX, Bool.and_eq_true] at hX
    obtain ⟨⟨⟨⟨⟨hlk, hy1⟩, hpar⟩, hroom⟩, hst⟩, hcls⟩ := hX
    have hy1 : 1 ≤ y := Nat.le_of_ble_eq_true hy1
    split at h
    · next b as r hpop =>
      cases hc : (rcvB b w && Nat.ble (stkB r) 8) with
      | false => rw [hc] at h; exact h.elim
      | true =>
        rw [hc] at h
        simp only [Bool.and_eq_true] at hc
        simp only [cond_true] at h
        obtain ⟨ps, hp1, hp2, hp3⟩ := popA_spec hpop
        have e0 : ps.reverse = .ref b :: as := by simpa using hp3.symm
        have e1 : ps = as.reverse ++ [.ref b] := by
          rw [← List.reverse_reverse ps, e0]; simp
        have e2 : as.length = y - 1 := by rw [e1] at hp1; simp at hp1; omega
        obtain ⟨hok, hM⟩ := h
        have hin := stB_inst hok hst
        have hrec : ∃ cellB : Cell, H[ad b]? = some cellB ∧ cellB.vm.isStatics = false ∧ s.vm.findClass cm.1.cls = some cellB.cls := by
          cases hw : Nat.beq w 99 with
          | true =>
            rw [hw] at hcls
            have hcls := of_decide_eq_true hcls
            have hrb := hc.1
            unfold rcvB at hrb
            rw [hw] at hrb
            simp only [cond_true, Bool.and_eq_true] at hrb
            have g1 := Nat.le_of_ble_eq_true hrb.1
            have g2 := Nat.le_of_ble_eq_true hrb.2
            obtain ⟨adV, hstr⟩ := C.2.2.2.2.2.2.2.2.1.1
            have := vk_recv (i := b - 1000) hstr (by omega) hS
            rw [hcls]
            have e9 : 1000 + (b - 1000) = b := Nat.add_sub_cancel' g1
            rw [e9] at this
            exact this
          | false =>
            rw [hw] at hcls
            simp only [cond_false, Bool.and_eq_true] at hcls
            obtain ⟨g1, g2, g3⟩ := rcvB_spec hw hc.1
            have he := cells_at (ad := ad) (cy := cy) (σ := σ) g1
            rw [cellE_obj g2, g3] at he
            have := va_recv C.2.2.2.2.2.2.2.1 hP (cl_at (Nat.le_of_ble_eq_true hcls.1)) he
            rw [← of_decide_eq_true hcls.2]
            exact this
        refine eg_call (va_runV (As := as.map (eg_cv ad)) (rest := r.map (eg_cv ad)) (b := ad b) (C := cm.1.cls) (n := y - 1) (nL := ms.2.2.1) (Ts := Gd) (own := ms.1.cls) ⟨hx, hb, C.2.2.2.1, C.2.2.2.2.1, C.2.2.2.2.2.1⟩ (hM l D ad cy) ⟨eg_cb C.2.2.2.2.2.1 hok (cx_w C hlk rfl) hpar hroom rfl, C.2.2.2.2.2.1 _ hin.1, C.2.2.2.2.2.1 _ hin.2⟩ ⟨eg_blind, hrec, fun U hU hW => ⟨rfl, ⟨va_K.moved hW.alike C.2.2.2.2.2.2.2.1, C.2.2.2.2.2.2.2.2.1.at hS hU hW, C.2.2.2.2.2.2.2.2.2⟩, by rw [hU]; exact hP⟩⟩ rfl (by rw [List.length_map]; exact e2) hl.1 (by rw [hp2, e1]; simp [eg_cv]) (lv_room (stk_le ad hc.2)) hd ⟨Nat.zero_le _, Nat.zero_le _⟩) hS (fun v σ' H1 locs1 hR hP1 hS1 => ?_)
        rw [vpush_map]
        exact go hR hP1 hS1 hl
    · exact h.elim
  | invokestatic idx =>
    simp only [wpI] at h
    simp only [chkX] at hX
    cases hw : Nat.beq w 98 with
    | true =>
      rw [hw] at h hX
      simp only [cond_true, Bool.and_eq_true] at h hX
      obtain ⟨⟨hlk, hf1⟩, hl1⟩ := hX
      split at h
      · next n dp b sp a r =>
        cases hc : Nat.ble (stkB r) 8 with
        | false => rw [hc] at h; exact h.elim
        | true =>
          rw [hc] at h
          obtain ⟨⟨⟨ha, hta⟩, ⟨hbb, htb⟩, g1, g2, g3, g4, g5⟩, h⟩ := h
          have he := cells_at (ad := ad) (cy := cy) (σ := σ) ha
          rw [cellE_arr (by omega) (by omega), hta] at he
          have heb := cells_at (ad := ad) (cy := cy) (σ := σ) hbb
          rw [cellE_arr (by omega) (by omega), htb] at heb
          have h8 := stk_le ad hc
          refine va_copyi hx hb (by rw [C.2.2.2.1]; exact hl.1.symm) C.2.2.2.2.1 (cx_w C hlk rfl) (C.2.2.2.2.2.1 _ acG1) (C.2.2.2.2.2.1 _ acG2) (C.2.2.2.2.2.1 _ acG3) C.2.2.2.2.2.2.2.1 hP (cells_D C.2.2.2.2.2.2.2.2.2 cy σ) hS a b 0 0 (ty := .int) he heb rfl rfl rfl g1 g2 g3 g4 g5 (fun _ _ => rfl) (Nat.le_of_ble_eq_true hf1) ?_ hd (fun H1 locs1 hP1 hD1 hS1 => ?_)
          · have h9 := Nat.le_of_ble_eq_true hl1
            have e9 : nativeFrameWords "java/lang/System" "arraycopy" 5 = 7 := by decide +kernel
            omega
          · refine go h (eg_kept hbb ?_ (fun d hd9 => sgc_ne hd9) hP1) hS1 hl
            rw [cellE_arr (by omega) (by omega), htb, sgc_self]
      · exact h.elim
    | false =>
      rw [hw] at h hX
      simp only [cond_false] at h hX
      cases hw96 : Nat.beq w 96 with
      | true =>
        rw [hw96] at h hX
        simp only [cond_true, Bool.and_eq_true] at h hX
        obtain ⟨⟨hlk, hf1⟩, hl1⟩ := hX
        split at h
        · next b a r =>
          cases hc : Nat.ble (stkB r) 8 with
          | false => rw [hc] at h; exact h.elim
          | true =>
            rw [hc] at h
            have h8 := stk_le ad hc
            have h9 := Nat.le_of_ble_eq_true hl1
            exact va_mmin hx hb (by rw [C.2.2.2.1]; exact hl.1.symm) C.2.2.2.2.1 (cx_w C hlk rfl) (C.2.2.2.2.2.1 _ minG1) (C.2.2.2.2.2.1 _ maG0) (C.2.2.2.2.2.1 _ minG2) (Nat.le_of_ble_eq_true hf1) (by omega) (Nat.zero_le _) (Nat.zero_le _) hd (go h hP hS hl)
        · exact h.elim
      | false =>
      rw [hw96] at h hX
      simp only [cond_false] at h hX
      cases hw95 : Nat.beq w 95 with
      | true =>
        rw [hw95] at h hX
        simp only [cond_true, Bool.and_eq_true] at h hX
        obtain ⟨⟨hlk, hf1⟩, hl1⟩ := hX
        split at h
        · next b a r =>
          cases hc : Nat.ble (stkB r) 8 with
          | false => rw [hc] at h; exact h.elim
          | true =>
            rw [hc] at h
            have h8 := stk_le ad hc
            have h9 := Nat.le_of_ble_eq_true hl1
            exact va_mmax hx hb (by rw [C.2.2.2.1]; exact hl.1.symm) C.2.2.2.2.1 (cx_w C hlk rfl) (C.2.2.2.2.2.1 _ maxG1) (C.2.2.2.2.2.1 _ maG0) (C.2.2.2.2.2.1 _ maxG2) (Nat.le_of_ble_eq_true hf1) (by omega) (Nat.zero_le _) (Nat.zero_le _) hd (go h hP hS hl)
        · exact h.elim
      | false =>
      rw [hw95] at h hX
      simp only [cond_false] at h hX
      simp only [Bool.and_eq_true] at hX
      obtain ⟨⟨⟨hlk, hpar⟩, hroom⟩, hst⟩ := hX
      split at h
      · next as r hpop =>
        cases hc : Nat.ble (stkB r) 8 with
        | false => rw [hc] at h; exact h.elim
        | true =>
          rw [hc] at h
          simp only [cond_true] at h
          obtain ⟨ps, hp1, hp2, hp3⟩ := popA_spec hpop
          have e0 : ps.reverse = as := by simpa using hp3.symm
          have e1 : ps = as.reverse := by rw [← e0]; simp
          have e2 : as.length = y := by rw [e1] at hp1; simpa using hp1
          obtain ⟨hok, hM⟩ := h
          refine eg_call (va_runS (As := as.map (eg_cv ad)) (rest := r.map (eg_cv ad)) (n := y) (nL := ms.2.2.1) (Ts := Gd) (own := ms.1.cls) ⟨hx, hb, C.2.2.2.1, C.2.2.2.2.1, C.2.2.2.2.2.1⟩ (hM l D ad cy) ⟨eg_cb C.2.2.2.2.2.1 hok (cx_w C hlk rfl) hpar hroom rfl, C.2.2.2.2.2.1 _ (hok.2.2.1.2 hst)⟩ ⟨eg_blind, fun U hU hW => ⟨rfl, ⟨va_K.moved hW.alike C.2.2.2.2.2.2.2.1, C.2.2.2.2.2.2.2.2.1.at hS hU hW, C.2.2.2.2.2.2.2.2.2⟩, by rw [hU]; exact hP⟩⟩ rfl (by rw [List.length_map]; exact e2) hl.1 (by rw [hp2, e1]; simp) (lv_room (stk_le ad hc)) hd ⟨Nat.zero_le _, Nat.zero_le _⟩) hS (fun v σ' H1 locs1 hR hP1 hS1 => ?_)
          rw [vpush_map]
          exact go hR hP1 hS1 hl
      · exact h.elim
  | ireturn =>
    simp only [wpI] at h
    split at h
    · next a =>
      split at h
      · next hr => exact W.iret (v := a) hx hb (C.2.2.1.trans hr) (fun t ht hW => ⟨⟨some (.int a), σ, rfl, h, by rw [ht]; exact hP⟩, hS.F ht⟩) hS.2.2 hd (hlocks := C.2.2.2.2.2.2.1)
      · next hr => exact W.zret (v := a) (ty := .boolean) hx hb (C.2.2.1.trans hr) (eg_nar h.1).1 (fun t ht hW => ⟨⟨some (.int a), σ, rfl, h.2, by rw [ht]; exact hP⟩, hS.F ht⟩) hS.2.2 hd (hlocks := C.2.2.2.2.2.2.1)
      · exact h.elim
    · exact h.elim
  | return_ =>
    simp only [wpI] at h
    split at h
    · split at h
      · next hr => exact W.vret hx hb (C.2.2.1.trans hr) (fun t ht hW => ⟨⟨none, σ, rfl, h, by rw [ht]; exact hP⟩, hS.F ht⟩) hS.2.2 hd (hlocks := C.2.2.2.2.2.2.1)
      · exact h.elim
    · exact h.elim
  | _ => exact h.elim
theorem wpB_sd {ms : MS} {cd : Cd} {stops : List Nat} {R : Option Value → Sg → Prop} (hc : chkC ms cd = true) : ∀ (n pc : Nat) (lv : Lv) (st : List Value) (σ : Sg), wpB ms cd stops R n pc lv st σ → V ms pc lv st σ R
  | 0, _, _, _, _, h => h.elim
  | n + 1, pc, lv, st, σ, h => by
    unfold wpB at h
    split at h
    · exact h.elim
    · next ins npc x y w z zl cm he =>
      refine wpI_sd (fnd2_chk hc he) (fun a b c d k => ?_) h
      cases hs : stops.elem a with
      | true => rw [hs] at k; exact k
      | false => rw [hs] at k; exact wpB_sd hc n a b c d k
end
